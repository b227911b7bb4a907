/-! plan: what the reference asks of each that is picked. -/
theorem pX_N {sn j : Nat} (hs : sn < 2 ^ 31) (hj : j < 2 ^ 31) : pX (nI sn).toInt64 j = lN (j * sn) := by
  unfold pX
  rw [nI_64 hs, nI_64 hj, lN_mul]
theorem pMv_N {bs : Nat → Bv} {b sn n K : Nat} (hs : sn < 2 ^ 31) (hK : K < 2 ^ 63) (e : bspa bs (bs b) = lN K) : pMv bs b (nI sn).toInt64 n = min n (K / sn) := by
  unfold pMv
  rw [e, nI_64 hs, pk_lT hK, pk_lT (by omega)]
  rfl
/-- up to the most steps all may be drawn -/
theorem pMv_ok {nb b sn n : Nat} {bs : Nat → Bv} {ro : Nat → Rw} {ac : Nat → Wn} (hI : Ic nb bs ro ac) (hb : b < nb) (h0 : 0 < sn) (hs : sn < 2 ^ 31) (hn : n ≤ 12) {j : Nat} (h1 : 1 ≤ j) (hj : j ≤ pMv bs b (nI sn).toInt64 n) : 0 < (pX (nI sn).toInt64 j).toInt ∧ pX (nI sn).toInt64 j ≤ bspa bs (bs b) := by
  obtain ⟨K, hK, e⟩ := hI.bsp hb
  rw [pMv_N hs (by omega) e] at hj
  have h2 : j ≤ K / sn := by omega
  have h3 : j * sn ≤ K := (Nat.le_div_iff_mul_le h0).mp h2
  have h4 : 0 < j * sn := Nat.mul_pos h1 h0
  rw [pX_N hs (by omega), e, pk_lT (by omega), pk_lLE (by omega) (by omega)]
  exact ⟨by omega, h3⟩
def mFa (bs : Nat → Bv) (ps : List (Nat × Int64)) (step : Int64) (n i : Nat) (Q : Mq) : Prop := ∀ s, s < i → Q.1 72 s = nI (pMv bs (pB ps s) step n) ∧ (∀ j, j ≤ n → Q.2 71 (13 * s + j) = pDv bs (pB ps s) step j) ∧ (∀ j off, j ≤ pMv bs (pB ps s) step n → off < 48 → Q.2 70 (48 * (13 * s + j) + off) = pSv bs (pB ps s) step j off)
theorem m_dears {Q : Mq} {nb b i n : Nat} {bs : Nat → Bv} {tc : List Int32} (p1 : Int32) (p2 : Int64) (st : Int32) (hB : mBs Q nb bs) (hT : mTc Q tc) (hN : nb ≤ 1000) (hb : b < nb) (hk : Ikd nb bs) (hi : i < 6) (hn : n ≤ 12) : zev (zwhile (mf_plan_L204 p1 p2 st (nI n) (nI i) (nI b)) (Q, (1 : Int32))) (fun y => (∀ j, 1 ≤ j → j ≤ n → y.1.2 71 (13 * i + j) = pDv bs b st.toInt64 j) ∧ (∀ z, ¬ (13 * i < z ∧ z ≤ 13 * i + n) → y.1.2 71 z = Q.2 71 z) ∧ mTc y.1 (tapp 200 tc ((List.range n).flatMap (fun _ => bdeaT (bs b).1.1))) ∧ qfr Q y.1 [41, 42, 71]) := by
  refine zev_up (τ := Mq × Int32) (fun k (z : Mq × Int32) => ∃ Q1, z = (Q1, nI k) ∧ 1 ≤ k ∧ (∀ j, 1 ≤ j → j < k → Q1.2 71 (13 * i + j) = pDv bs b st.toInt64 j) ∧ (∀ z, ¬ (13 * i < z ∧ z ≤ 13 * i + n) → Q1.2 71 z = Q.2 71 z) ∧ mTc Q1 (tapp 200 tc ((List.range (k - 1)).flatMap (fun _ => bdeaT (bs b).1.1))) ∧ qfr Q Q1 [41, 42, 71]) (n + 1) (i := 1) (by omega) ⟨Q, rfl, by omega, fun j h1 h2 => by omega, fun z _ => rfl, (by
    have e : tapp 200 tc ((List.range (1 - 1)).flatMap (fun _ => bdeaT (bs b).1.1)) = tc := tapp_nil hT.2.1
    rw [e]; exact hT), qfr.rf⟩ ?_ ?_
  · rintro k z hk1 ⟨Q1, rfl, k1, g1, g2, t1, f1⟩
    unfold mf_plan_L204
    dsimp only
    rw [if_neg (nI_nlt (by omega) (by omega)), zev_mbd]
    refine zev_mono (m_dear (hB.fr f1 (by decide)) t1 hN hb hk _) ?_
    rintro ⟨Q2, u⟩ ⟨e2, t2, f2⟩
    dsimp only at e2 t2 f2 ⊢
    simp only [zev_b1, zev_mbd, zev_some, zev_b0, zev_bo, true_and, and_true, nI_x4, nI_x5, nI_x13, nI_x16, nI_x20, nI_x60, nI_x100, nI_x48r, nI_add, nI_1, mev_sj (show 13 * i + k < 2 ^ 31 by omega), mln_2, mln_3, mln_4, mln_5, mln_6, mln_7, mln_8, mln_9, mln_10, mln_11, mln_12, mln_13, mln_15, mln_16, mln_17, mln_24, mln_25, mln_26, mln_27, mln_28, mln_29, mln_30, mln_31, mln_32, mln_34, mln_35, mln_37, mln_42, mln_49, mln_50, mln_51, mln_52, mln_53, mln_54, mln_55, mln_56, mln_57, mln_58, mln_59, mln_61, mln_62, mln_63, mln_65, mln_66, mln_68, mln_70, mln_71, mln_72, mln_73, mln_74, show 13 * i + k < 78 by omega]
    have f3 : qfr Q2 (qj Q2 71 (13 * i + k) u) [71] := qfr.qj (by decide)
    refine ⟨_, rfl, _, rfl, by omega, fun j h1 h2 => ?_, fun z hz => ?_, ?_, (f1.tr0 (f2.mono (by decide))).tr0 (f3.mono (by decide))⟩
    · rw [qj_2]
      by_cases e : j = k
      · rw [if_pos ⟨rfl, by omega⟩, e2, e]
        unfold pDv pX
        rw [if_neg (by omega)]
      · rw [if_neg (by omega), f2.j 71 (by decide)]; exact g1 j h1 (by omega)
    · rw [qj_2, if_neg (by omega), f2.j 71 (by decide)]; exact g2 z hz
    · have et : tapp 200 tc ((List.range (k + 1 - 1)).flatMap (fun _ => bdeaT (bs b).1.1)) = tapp 200 (tapp 200 tc ((List.range (k - 1)).flatMap (fun _ => bdeaT (bs b).1.1))) (bdeaT (bs b).1.1) := by
        rw [tapp_tapp, show k + 1 - 1 = (k - 1) + 1 by omega, List.range_succ, List.flatMap_append]
        simp
      rw [et]
      exact t2.fr f3 (by decide)
  · rintro z ⟨Q1, rfl, k1, g1, g2, t1, f1⟩
    unfold mf_plan_L204
    dsimp only
    rw [if_pos (nI_lt (by omega) (by omega)), zev_some]
    exact ⟨_, rfl, fun j h1 h2 => g1 j h1 (by omega), g2, t1, f1⟩
theorem m_slot {Q : Mq} {nb i j : Nat} {bs : Nat → Bv} {ro : Nat → Rw} {ac : Nat → Wn} {dd : List (Nat × Int64)} (p1 : Int32) (p2 : Int64) (st p6 p8 : Int32) (hB : mBs Q nb bs) (hD : mDr Q dd) (hI : Ic nb bs ro ac) (hd : ∀ q, q ∈ dd → q.1 < nb ∧ ((bs q.1).2.1.2.2.2 ≠ [] → wsum (bs q.1).2.1.2.2.2 ≠ 0)) (hi : i < 6) (hj : j ≤ 12) : zev (mf_plan_J282 Q p1 p2 st p6 (nI i) p8 (nI j)) (fun y => ∃ Q', y = .inl (Q', nI (j + 1)) ∧ (∀ off, off < 48 → Q'.2 70 (48 * (13 * i + j) + off) = tsm 0 (dmix bs [] dd) off) ∧ (∀ z, ¬ (48 * (13 * i + j) ≤ z ∧ z < 48 * (13 * i + j) + 48) → Q'.2 70 z = Q.2 70 z) ∧ qfr Q Q' [63, 64, 65, 66, 70]) := by
  unfold mf_plan_J282
  rw [zev_b1, zev_some]
  have f1 : qfr Q (qi Q 64 0 0) [64] := qfr.qi (by decide)
  have m1 : mMx (qi Q 64 0 0) [] := ⟨rfl, by decide, fun i q hq => by simp at hq⟩
  generalize qi Q 64 0 0 = Q1 at f1 m1 ⊢
  rw [zev_mbd]
  refine zev_mono (m_mixDraws (hB.fr f1 (by decide)) (hD.fr f1 (by decide)) m1 hI.1 (fun q hq => ⟨(hd q hq).1, (hI.i60 q.1 (hd q hq).1).1, (hd q hq).2⟩) (by simp)) ?_
  rintro ⟨Q2, u2⟩ ⟨m2, f2⟩
  dsimp only at m2 f2 ⊢
  have es : (13 * nI i + nI j) * 48 = nI (48 * (13 * i + j)) := by
    rw [nI_x13, nI_add, nI_x48r, Nat.mul_comm]
  rw [es, zev_mbd]
  refine zev_mono (m_sharesOfMix m2 (wcod_dmix bs dd [] (fun q hq => by simp at hq) (fun q hq => (hI.i60 q.1 (hd q hq).1).2)) (by decide) (by rw [mln_70]; omega) (by omega)) ?_
  rintro ⟨Q3, u3⟩ ⟨s1, s2, f3⟩
  dsimp only at s1 s2 f3 ⊢
  rw [zev_some]
  refine ⟨Q3, by rw [nI_1], fun off ho => ?_, fun z hz => ?_, ((f1.mono (by decide)).tr0 (f2.mono (by decide))).tr0 (f3.mono (by decide))⟩
  · rw [s1 _ (by omega) (by omega)]
    exact tsm_sh _ _ _
  · rw [s2 z hz, f2.j 70 (by decide), f1.j 70 (by decide)]
theorem m_slots {Q : Mq} {nb b i n sn m : Nat} {bs : Nat → Bv} {ro : Nat → Rw} {ac : Nat → Wn} {tc : List Int32} (p1 : Int32) (p2 : Int64) (hB : mBs Q nb bs) (hT : mTc Q tc) (hI : Ic nb bs ro ac) (hb : b < nb) (hi : i < 6) (hn : n ≤ 12) (h0 : 0 < sn) (hs : sn < 2 ^ 31) (hm : m = pMv bs b (nI sn).toInt64 n) (h72 : Q.1 72 i = nI m) : zev (zwhile (mf_plan_L246 p1 p2 (nI sn) (nI n) (nI i) (nI b)) (Q, (0 : Int32))) (fun y => (∀ j off, j ≤ m → off < 48 → y.1.2 70 (48 * (13 * i + j) + off) = pSv bs b (nI sn).toInt64 j off) ∧ (∀ z, ¬ (48 * (13 * i) ≤ z ∧ z < 48 * (13 * i + 13)) → y.1.2 70 z = Q.2 70 z) ∧ mTc y.1 tc ∧ qfr Q y.1 [41, 42, 60, 61, 62, 63, 64, 65, 66, 70]) := by
  have hm12 : m ≤ 12 := by rw [hm]; unfold pMv; omega
  refine zev_up (τ := Mq × Int32) (fun k (z : Mq × Int32) => ∃ Q1, z = (Q1, nI k) ∧ (∀ j off, j < k → off < 48 → Q1.2 70 (48 * (13 * i + j) + off) = pSv bs b (nI sn).toInt64 j off) ∧ (∀ z, ¬ (48 * (13 * i) ≤ z ∧ z < 48 * (13 * i + 13)) → Q1.2 70 z = Q.2 70 z) ∧ mTc Q1 tc ∧ qfr Q Q1 [41, 42, 60, 61, 62, 63, 64, 65, 66, 70]) (m + 1) (i := 0) (by omega) ⟨Q, rfl, fun j off h => by omega, fun z _ => rfl, hT, qfr.rf⟩ ?_ ?_
  · rintro k z hk ⟨Q1, rfl, g1, g2, t1, f1⟩
    have c72 : Q1.1 72 i = nI m := by rw [f1.i 72 (by decide)]; exact h72
    have fin : ∀ Q3 dd, qfr Q1 Q3 [41, 42, 60, 61, 62] → mDr Q3 dd → mTc Q3 tc → (∀ q, q ∈ dd → q.1 < nb ∧ ((bs q.1).2.1.2.2.2 ≠ [] → wsum (bs q.1).2.1.2.2.2 ≠ 0)) → (∀ off, off < 48 → tsm 0 (dmix bs [] dd) off = pSv bs b (nI sn).toInt64 k off) → zev (mf_plan_J282 Q3 p1 p2 (nI sn) (nI n) (nI i) (nI b) (nI k)) (fun r => ∃ x', r = .inl x' ∧ ∃ Q1, x' = (Q1, nI (k + 1)) ∧ (∀ j off, j < k + 1 → off < 48 → Q1.2 70 (48 * (13 * i + j) + off) = pSv bs b (nI sn).toInt64 j off) ∧ (∀ z, ¬ (48 * (13 * i) ≤ z ∧ z < 48 * (13 * i + 13)) → Q1.2 70 z = Q.2 70 z) ∧ mTc Q1 tc ∧ qfr Q Q1 [41, 42, 60, 61, 62, 63, 64, 65, 66, 70]) := by
      intro Q3 dd f3 d3 t3 hd hv
      refine zev_mono (m_slot p1 p2 (nI sn) (nI n) (nI b) (hB.fr (f1.tr0 (f3.mono (by decide))) (by decide)) d3 hI hd hi (show k ≤ 12 by omega)) ?_
      rintro r ⟨Q4, rfl, s1, s2, f4⟩
      refine ⟨_, rfl, Q4, rfl, fun j off hj ho => ?_, fun z hz => ?_, t3.fr f4 (by decide), (f1.tr0 (f3.mono (by decide))).tr0 (f4.mono (by decide))⟩
      · by_cases e : j = k
        · rw [e, s1 off ho]; exact hv off ho
        · rw [s2 _ (by omega), f3.j 70 (by decide)]; exact g1 j off (by omega) ho
      · rw [s2 z (by omega), f3.j 70 (by decide)]; exact g2 z hz
    unfold mf_plan_L246
    dsimp only
    simp only [zev_b1, zev_mbd, zev_some, zev_b0, zev_bo, true_and, and_true, mev_ai (show i < 2 ^ 31 by omega), mln_2, mln_3, mln_4, mln_5, mln_6, mln_7, mln_8, mln_9, mln_10, mln_11, mln_12, mln_13, mln_15, mln_16, mln_17, mln_24, mln_25, mln_26, mln_27, mln_28, mln_29, mln_30, mln_31, mln_32, mln_34, mln_35, mln_37, mln_42, mln_49, mln_50, mln_51, mln_52, mln_53, mln_54, mln_55, mln_56, mln_57, mln_58, mln_59, mln_61, mln_62, mln_63, mln_65, mln_66, mln_68, mln_70, mln_71, mln_72, mln_73, mln_74, hi, c72, if_neg (nI_nlt (show k ≤ m by omega) (by omega))]
    have f2 : qfr Q1 (qi Q1 60 0 0) [60] := qfr.qi (by decide)
    have d2 : mDr (qi Q1 60 0 0) [] := ⟨rfl, by decide, fun i q hq => by simp at hq⟩
    generalize qi Q1 60 0 0 = Q2 at f2 d2 ⊢
    have t2 := t1.fr f2 (by decide)
    by_cases e : k = 0
    · subst e
      rw [if_pos (show nI 0 ≤ 0 by decide)]
      exact fin Q2 [] (f2.mono (by decide)) d2 t2 (fun q hq => absurd hq List.not_mem_nil) (fun off ho => by unfold pSv; rw [if_pos rfl]; rfl)
    · rw [if_neg (show ¬ nI k ≤ 0 from nI_ge (b := k) (a := 0) (by omega) (by omega)), zev_mbd]
      obtain ⟨x1, x2⟩ := pMv_ok hI hb h0 hs hn (show 1 ≤ k by omega) (by rw [← hm]; omega)
      obtain ⟨y1, y2, -, -⟩ := D_lst hI hb x1 x2
      obtain ⟨-, dsk⟩ := Dgo.dok hI.wp hI.i60 y1 (Nodup_idx y2)
      have hx0 : ¬ pX (nI sn).toInt64 k ≤ 0 := fun w => by
        have := Int64.le_iff_toInt_le.mp w
        simp at this
        omega
      refine zev_mono (m_drawFrom (hB.fr (f1.tr0 (f2.mono (by decide))) (by decide)) t2 d2 hI.1 hb hI.i60 hI.kd hI.mem (hI.ml b hb).1 (hI.ml b hb).2 (pX (nI sn).toInt64 k) hx0 (by simp) 0 (Or.inr rfl)) ?_
      rintro ⟨Q3, u3⟩ ⟨d3, t3, f3⟩
      dsimp only at d3 t3 f3 ⊢
      rw [if_neg (by decide), tapp_nil hT.2.1] at t3
      rw [List.nil_append] at d3
      exact fin Q3 _ ((f2.mono (by decide)).tr0 f3) d3 t3 (fun q hq => ⟨(y1 q hq).1, (dsk q hq).2.1⟩) (fun off ho => by unfold pSv; rw [if_neg e])
  · rintro z ⟨Q1, rfl, g1, g2, t1, f1⟩
    have c72 : Q1.1 72 i = nI m := by rw [f1.i 72 (by decide)]; exact h72
    unfold mf_plan_L246
    dsimp only
    simp only [zev_b1, zev_mbd, zev_some, zev_b0, zev_bo, true_and, and_true, mev_ai (show i < 2 ^ 31 by omega), mln_2, mln_3, mln_4, mln_5, mln_6, mln_7, mln_8, mln_9, mln_10, mln_11, mln_12, mln_13, mln_15, mln_16, mln_17, mln_24, mln_25, mln_26, mln_27, mln_28, mln_29, mln_30, mln_31, mln_32, mln_34, mln_35, mln_37, mln_42, mln_49, mln_50, mln_51, mln_52, mln_53, mln_54, mln_55, mln_56, mln_57, mln_58, mln_59, mln_61, mln_62, mln_63, mln_65, mln_66, mln_68, mln_70, mln_71, mln_72, mln_73, mln_74, hi, c72, if_pos (nI_lt (show m < m + 1 by omega) (by omega))]
    exact ⟨_, rfl, fun j off hj ho => g1 j off (by omega) ho, g2, t1, f1⟩
theorem m_ask {Q : Mq} {nb b i n sn m : Nat} {bs : Nat → Bv} {ro : Nat → Rw} {ac : Nat → Wn} {tc : List Int32} {ps : List (Nat × Int64)} (p1 : Int32) (p2 : Int64) (hB : mBs Q nb bs) (hT : mTc Q tc) (hI : Ic nb bs ro ac) (hb : b < nb) (hpb : pB ps i = b) (hi : i < 6) (hn : n ≤ 12) (h0 : 0 < sn) (hs : sn < 2 ^ 31) (hm : m = pMv bs b (nI sn).toInt64 n) (hF : mFa bs ps (nI sn).toInt64 n i Q) : zev (mf_plan_J189 Q p1 p2 (nI sn) (nI n) (nI i) (nI b) (nI m) (nI i) 72) (fun y => ∃ Q', y = .inl (Q', nI (i + 1)) ∧ mFa bs ps (nI sn).toInt64 n (i + 1) Q' ∧ mTc Q' (tapp 200 tc ((List.range n).flatMap (fun _ => bdeaT (bs b).1.1))) ∧ qfr Q Q' [41, 42, 60, 61, 62, 63, 64, 65, 66, 70, 71, 72]) := by
  unfold mf_plan_J189
  simp only [zev_b1, zev_mbd, zev_some, zev_b0, zev_bo, true_and, and_true, mev_si (show i < 2 ^ 31 by omega), mln_2, mln_3, mln_4, mln_5, mln_6, mln_7, mln_8, mln_9, mln_10, mln_11, mln_12, mln_13, mln_15, mln_16, mln_17, mln_24, mln_25, mln_26, mln_27, mln_28, mln_29, mln_30, mln_31, mln_32, mln_34, mln_35, mln_37, mln_42, mln_49, mln_50, mln_51, mln_52, mln_53, mln_54, mln_55, mln_56, mln_57, mln_58, mln_59, mln_61, mln_62, mln_63, mln_65, mln_66, mln_68, mln_70, mln_71, mln_72, mln_73, mln_74, hi, nI_x13, mev_sj (show 13 * i < 2 ^ 31 by omega), show 13 * i < 78 by omega]
  have f1 : qfr Q (qj (qi Q 72 i (nI m)) 71 (13 * i) 0) [71, 72] := (qfr.qi (by decide)).tr0 (qfr.qj (by decide))
  have a72 : ∀ s, (qj (qi Q 72 i (nI m)) 71 (13 * i) 0).1 72 s = if s = i then nI m else Q.1 72 s := fun s => by
    rw [qj_1, qi_1]
    by_cases e : s = i
    · rw [if_pos ⟨rfl, e⟩, if_pos e]
    · rw [if_neg (fun w => e w.2), if_neg e]
  have a71 : ∀ z, (qj (qi Q 72 i (nI m)) 71 (13 * i) 0).2 71 z = if z = 13 * i then 0 else Q.2 71 z := fun z => by
    rw [qj_2]
    by_cases e : z = 13 * i
    · rw [if_pos ⟨rfl, e⟩, if_pos e]
    · rw [if_neg (fun w => e w.2), if_neg e]; rfl
  generalize qj (qi Q 72 i (nI m)) 71 (13 * i) 0 = Q1 at f1 a72 a71 ⊢
  refine zev_mono (m_dears p1 p2 (nI sn) (hB.fr f1 (by decide)) (hT.fr f1 (by decide)) hI.1 hb hI.kd hi hn) ?_
  rintro ⟨Q2, u2⟩ ⟨d1, d2, t2, f2⟩
  dsimp only at d1 d2 t2 f2 ⊢
  refine zev_mono (m_slots p1 p2 (hB.fr ((f1.mono (by decide)).tr0 (f2.mono (by decide)) : qfr Q Q2 [41, 42, 71, 72]) (by decide)) t2 hI hb hi hn h0 hs hm (by rw [f2.i 72 (by decide), a72, if_pos rfl])) ?_
  rintro ⟨Q3, u3⟩ ⟨s1, s2, t3, f3⟩
  dsimp only at s1 s2 t3 f3 ⊢
  refine ⟨Q3, by rw [nI_1], fun s hs1 => ?_, t3, ((f1.mono (by decide)).tr0 (f2.mono (by decide))).tr0 (f3.mono (by decide))⟩
  by_cases e : s = i
  · subst e
    rw [hpb]
    refine ⟨by rw [f3.i 72 (by decide), f2.i 72 (by decide), a72, if_pos rfl, hm], fun j hj => ?_, fun j off hj ho => s1 j off (by omega) ho⟩
    rw [f3.j 71 (by decide)]
    by_cases e0 : j = 0
    · subst e0
      rw [d2 _ (by omega), a71, if_pos (by omega)]
      unfold pDv
      rw [if_pos rfl]
    · exact d1 j (by omega) hj
  · obtain ⟨h1, h2, h3⟩ := hF s (by omega)
    refine ⟨by rw [f3.i 72 (by decide), f2.i 72 (by decide), a72, if_neg e]; exact h1, fun j hj => ?_, fun j off hj ho => ?_⟩
    · rw [f3.j 71 (by decide), d2 _ (by omega), a71, if_neg (by omega)]; exact h2 j hj
    · have hj12 : j ≤ 12 := by unfold pMv at hj; omega
      rw [s2 _ (by omega), f2.j 70 (by decide), f1.j 70 (by decide)]; exact h3 j off hj ho
theorem m_asks {Q : Mq} {nb n sn : Nat} {bs : Nat → Bv} {ro : Nat → Rw} {ac : Nat → Wn} {tc : List Int32} {ps : List (Nat × Int64)} (p1 : Int32) (p2 : Int64) (hB : mBs Q nb bs) (hT : mTc Q tc) (hI : Ic nb bs ro ac) (hP : mPk Q ps) (hps : ∀ q, q ∈ ps → q.1 < nb) (h6 : ps.length ≤ 6) (hn : n ≤ 12) (h0 : 0 < sn) (hs : sn < 2 ^ 31) : zev (zwhile (mf_plan_L136 p1 p2 (nI sn) (nI n)) (Q, (0 : Int32))) (fun y => mFa bs ps (nI sn).toInt64 n ps.length y.1 ∧ mTc y.1 (tapp 200 tc (pT bs n ps)) ∧ qfr Q y.1 [41, 42, 60, 61, 62, 63, 64, 65, 66, 70, 71, 72]) := by
  refine zev_up (τ := Mq × Int32) (fun i (z : Mq × Int32) => ∃ Q1, z = (Q1, nI i) ∧ mFa bs ps (nI sn).toInt64 n i Q1 ∧ mTc Q1 (tapp 200 tc (pT bs n (ps.take i))) ∧ qfr Q Q1 [41, 42, 60, 61, 62, 63, 64, 65, 66, 70, 71, 72]) ps.length (i := 0) (Nat.zero_le _) ⟨Q, rfl, fun s h => by omega, (by
    have e : tapp 200 tc (pT bs n (ps.take 0)) = tc := tapp_nil hT.2.1
    rw [e]; exact hT), qfr.rf⟩ ?_ ?_
  · rintro i z hi ⟨Q1, rfl, g1, t1, f1⟩
    obtain ⟨q, hq⟩ := getElem?_lt hi
    have hqn := hps q (List.mem_of_getElem? hq)
    obtain ⟨p1', p2', p3'⟩ := hP.fr f1 (by decide)
    have hpb : pB ps i = q.1 := by unfold pB; rw [hq]; rfl
    obtain ⟨K, hK, eK⟩ := hI.bsp hqn
    unfold mf_plan_L136
    dsimp only
    rw [p1', if_neg (nI_ge hi (show ps.length < 2 ^ 31 by omega))]
    simp only [zev_b1, zev_mbd, zev_some, zev_b0, zev_bo, true_and, and_true, mev_ai (show i < 2 ^ 31 by omega), mln_2, mln_3, mln_4, mln_5, mln_6, mln_7, mln_8, mln_9, mln_10, mln_11, mln_12, mln_13, mln_15, mln_16, mln_17, mln_24, mln_25, mln_26, mln_27, mln_28, mln_29, mln_30, mln_31, mln_32, mln_34, mln_35, mln_37, mln_42, mln_49, mln_50, mln_51, mln_52, mln_53, mln_54, mln_55, mln_56, mln_57, mln_58, mln_59, mln_61, mln_62, mln_63, mln_65, mln_66, mln_68, mln_70, mln_71, mln_72, mln_73, mln_74, show i < 8 by omega, (p3' i q hq).1]
    refine zev_mono (m_spare (hB.fr f1 (by decide)) t1 hI.1 hqn hI.i60 hI.kd hI.mem (hI.ml _ hqn).1 (hI.ml _ hqn).2) ?_
    rintro ⟨Q2, u⟩ ⟨e2, t2, f2⟩
    dsimp only at e2 t2 f2 ⊢
    have ed : u / (nI sn).toInt64 = lN (K / sn) := by rw [e2, eK, nI_64 hs]; exact pk_lDiv (by omega) h0 (by omega)
    have hs0 : (nI sn).toInt64 ≠ 0 := i64_0 (nI_ne0 h0 hs)
    rw [zev_ld, ed]
    refine ⟨hs0, ?_⟩
    have hKd : K / sn ≤ K := Nat.div_le_self _ _
    have g2 : mFa bs ps (nI sn).toInt64 n i Q2 := fun s hs1 => by
      rw [f2.i 72 (by decide), f2.j 71 (by decide), f2.j 70 (by decide)]
      exact g1 s hs1
    have em := pMv_N (n := n) hs (show K < 2 ^ 63 by omega) eK
    have fin : ∀ m, m = pMv bs q.1 (nI sn).toInt64 n → zev (mf_plan_J189 Q2 p1 p2 (nI sn) (nI n) (nI i) (nI q.1) (nI m) (nI i) 72) (fun r => ∃ x', r = .inl x' ∧ ∃ Q1, x' = (Q1, nI (i + 1)) ∧ mFa bs ps (nI sn).toInt64 n (i + 1) Q1 ∧ mTc Q1 (tapp 200 tc (pT bs n (ps.take (i + 1)))) ∧ qfr Q Q1 [41, 42, 60, 61, 62, 63, 64, 65, 66, 70, 71, 72]) := by
      intro m hm
      refine zev_mono (m_ask p1 p2 (hB.fr (f1.tr0 (f2.mono (by decide))) (by decide)) t2 hI hqn hpb (by omega) hn h0 hs hm g2) ?_
      rintro r ⟨Q3, rfl, g3, t3, f3⟩
      refine ⟨_, rfl, Q3, rfl, g3, ?_, (f1.tr0 (f2.mono (by decide))).tr0 f3⟩
      have et : tapp 200 tc (pT bs n (ps.take (i + 1))) = tapp 200 (tapp 200 (tapp 200 tc (pT bs n (ps.take i))) (bspaT bs (bs q.1))) ((List.range n).flatMap (fun _ => bdeaT (bs q.1).1.1)) := by
        rw [take_snoc hq, tapp_tapp, tapp_tapp]
        unfold pT
        rw [List.flatMap_append]
        simp
      rw [et]
      exact t3
    by_cases c : (nI n).toInt64 ≤ lN (K / sn)
    · rw [if_pos c]
      rw [nI_64 (show n < 2 ^ 31 by omega), pk_lLE (by omega) (by omega)] at c
      exact fin n (by rw [em]; omega)
    · rw [if_neg c, lN_i]
      rw [nI_64 (show n < 2 ^ 31 by omega), pk_lLE (by omega) (by omega)] at c
      exact fin (K / sn) (by rw [em]; omega)
  · rintro z ⟨Q1, rfl, g1, t1, f1⟩
    obtain ⟨p1', p2', p3'⟩ := hP.fr f1 (by decide)
    unfold mf_plan_L136
    dsimp only
    rw [p1', if_pos (nI_le (Nat.le_refl ps.length) (show ps.length < 2 ^ 31 by omega)), zev_some]
    rw [List.take_of_length_le (Nat.le_refl _)] at t1
    exact ⟨_, rfl, g1, t1, f1⟩
