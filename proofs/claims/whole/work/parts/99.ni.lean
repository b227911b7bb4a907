/-! The reference: keep, takeBack, takeDraws, become, enter. -/
theorem mRs.cp {Q Q' : Mq} {a b c d e f : Nat} {ro : Nat → Rw} (h : mRs Q a b c ro) (h1 : ∀ r, r < 20 → Q'.1 d r = Q.1 a r ∧ Q'.1 e r = Q.1 b r) (h2 : ∀ r, r < 1200 → Q'.1 f r = Q.1 c r) : mRs Q' d e f ro := by
  intro r hr
  rcases h r hr with ⟨e1, e2, e3⟩ | ⟨k, ps, e1, e2, e3, e4, e5, e6⟩
  · exact Or.inl ⟨e1, by rw [(h1 r hr).1]; exact e2, fun p hp => by rw [h2 _ (by omega)]; exact e3 p hp⟩
  · exact Or.inr ⟨k, ps, e1, by rw [(h1 r hr).1]; exact e2, e3, by rw [(h1 r hr).2]; exact e4, e5, fun p hp => by rw [h2 _ (by omega)]; exact e6 p hp⟩
theorem m_keept {Q : Mq} {n : Nat} (h : Q.1 14 0 = nI n) (hn : n ≤ 4096) : zev (zwhile mf_keep_L264 (Q, 0)) (fun y => (∀ r, r < 5 * n → y.1.2 59 r = Q.2 17 r) ∧ qfr Q y.1 [59]) := by
  refine zev_up (τ := Mq × Int32) (fun i (z : Mq × Int32) => ∃ Q2, z = (Q2, nI i) ∧ (∀ r, r < i → Q2.2 59 r = Q.2 17 r) ∧ qfr Q Q2 [59]) (5 * n) (Nat.zero_le _) ⟨Q, rfl, fun r hr => by omega, qfr.rf⟩ ?_ ?_
  · rintro i z hi ⟨Q2, rfl, a2, f2⟩
    unfold mf_keep_L264
    simp only [f2.i 14 (by decide), h, nI_x4, nI_x5, nI_x13, nI_x16, nI_x20, nI_x60, nI_x100, nI_x48r, nI_add, nI_1, if_neg (nI_ge hi (show 5 * n < 2 ^ 31 by omega)), zev_b1, zev_mbd, zev_some, zev_b0, zev_bo, true_and, and_true, mev_aj (show i < 2 ^ 31 by omega), mev_sj (show i < 2 ^ 31 by omega), mln_2, mln_3, mln_4, mln_5, mln_6, mln_7, mln_8, mln_9, mln_10, mln_11, mln_12, mln_13, mln_15, mln_16, mln_17, mln_24, mln_25, mln_26, mln_27, mln_28, mln_29, mln_30, mln_31, mln_32, mln_34, mln_35, mln_37, mln_42, mln_49, mln_50, mln_51, mln_52, mln_53, mln_54, mln_55, mln_56, mln_57, mln_58, mln_59, mln_61, mln_62, mln_63, mln_65, mln_66, mln_68, mln_70, mln_71, mln_72, mln_73, mln_74, show i < 20480 by omega, f2.j 17 (by decide)]
    refine ⟨_, rfl, _, rfl, fun r hr => ?_, f2.tr0 (qfr.qj (by decide))⟩
    simp only [qj_2, true_and]
    by_cases eq : r = i
    · rw [if_pos eq, eq]
    · rw [if_neg eq]; exact a2 r (by omega)
  · rintro z ⟨Q2, rfl, a2, f2⟩
    unfold mf_keep_L264
    simp only [f2.i 14 (by decide), h, nI_x4, nI_x5, nI_x13, nI_x16, nI_x20, nI_x60, nI_x100, nI_x48r, nI_add, nI_1, if_pos (nI_le (Nat.le_refl (5 * n)) (show 5 * n < 2 ^ 31 by omega)), zev_b1, zev_mbd, zev_some, zev_b0, zev_bo, true_and, and_true]
    exact ⟨_, rfl, a2, f2⟩
def Iml (nb : Nat) (bs : Nat → Bv) : Prop := ∀ b, b < nb → (bms (bs b)).length = (bs b).2.1.2.2.1 ∧ (bs b).2.1.2.2.1 ≤ 4
theorem m_keep {Q : Mq} {nb : Nat} {bs : Nat → Bv} {ro : Nat → Rw} {kc : List Int32} {ac : Nat → Wn} {jl bl : Nat} {mo : Int32} (h : mBs Q nb bs) (hR : mRs Q 11 12 13 ro) (hK : mKn Q kc) (hA : mAk Q kc ac) (hC : mCd kc nb bs ac) (hn : nb ≤ 1000) (h6 : I60 nb bs) (hm : Iml nb bs) (hmo : Q.1 18 0 = mo) (hj : Q.1 19 0 = nI jl) (hl : Q.1 21 0 = nI bl) : zev (mf_keep Q) (fun y => mSn y.1 kc nb bs ro ac mo jl bl ∧ y.1.1 43 0 = 1 ∧ qfr Q y.1 [43, 44, 45, 46, 47, 48, 49, 50, 51, 52, 53, 54, 55, 56, 57, 58, 59]) := by
  have hk4 := kc_len hK.2.1 hK.2.2.1
  unfold mf_keep
  simp only [zev_b1, zev_mbd, zev_some, zev_b0, zev_bo, true_and, and_true, qi_1, show ¬ (1 = 43) by decide, show ¬ (14 = 44) by decide, show ¬ (14 = 43) by decide, show ¬ (18 = 45) by decide, show ¬ (18 = 44) by decide, show ¬ (18 = 43) by decide, show ¬ (19 = 46) by decide, show ¬ (19 = 45) by decide, show ¬ (19 = 44) by decide, show ¬ (19 = 43) by decide, show ¬ (21 = 47) by decide, show ¬ (21 = 46) by decide, show ¬ (21 = 45) by decide, show ¬ (21 = 44) by decide, show ¬ (21 = 43) by decide, false_and, if_false, h.1, hK.1, hmo, hj, hl]
  have f1 : qfr Q (qi (qi (qi (qi (qi (qi Q 43 0 1) 44 0 (nI nb)) 45 0 (nI kc.length)) 46 0 mo) 47 0 (nI jl)) 48 0 (nI bl)) [43, 44, 45, 46, 47, 48] := (((((qfr.qi (by decide)).tr0 (qfr.qi (by decide))).tr0 (qfr.qi (by decide))).tr0 (qfr.qi (by decide))).tr0 (qfr.qi (by decide))).tr0 (qfr.qi (by decide))
  have v1 : (qi (qi (qi (qi (qi (qi Q 43 0 1) 44 0 (nI nb)) 45 0 (nI kc.length)) 46 0 mo) 47 0 (nI jl)) 48 0 (nI bl)).1 43 0 = 1 ∧ (qi (qi (qi (qi (qi (qi Q 43 0 1) 44 0 (nI nb)) 45 0 (nI kc.length)) 46 0 mo) 47 0 (nI jl)) 48 0 (nI bl)).1 44 0 = nI nb ∧ (qi (qi (qi (qi (qi (qi Q 43 0 1) 44 0 (nI nb)) 45 0 (nI kc.length)) 46 0 mo) 47 0 (nI jl)) 48 0 (nI bl)).1 45 0 = nI kc.length ∧ (qi (qi (qi (qi (qi (qi Q 43 0 1) 44 0 (nI nb)) 45 0 (nI kc.length)) 46 0 mo) 47 0 (nI jl)) 48 0 (nI bl)).1 46 0 = mo ∧ (qi (qi (qi (qi (qi (qi Q 43 0 1) 44 0 (nI nb)) 45 0 (nI kc.length)) 46 0 mo) 47 0 (nI jl)) 48 0 (nI bl)).1 47 0 = nI jl ∧ (qi (qi (qi (qi (qi (qi Q 43 0 1) 44 0 (nI nb)) 45 0 (nI kc.length)) 46 0 mo) 47 0 (nI jl)) 48 0 (nI bl)).1 48 0 = nI bl := by
    refine ⟨rfl, rfl, rfl, rfl, rfl, rfl⟩
  generalize qi (qi (qi (qi (qi (qi Q 43 0 1) 44 0 (nI nb)) 45 0 (nI kc.length)) 46 0 mo) 47 0 (nI jl)) 48 0 (nI bl) = Q1 at f1 v1 ⊢
  have h1 := h.fr f1 (by decide)
  refine zev_mono (m_keepb (v := fun b => (bs b).2.1) (ms := fun b => bms (bs b)) h1.1 hn (fun b hb => (h1.2 b hb).2.2) (fun b hb => ⟨(hm b hb).1.symm, (hm b hb).2, (h6 b hb).1⟩)) ?_
  rintro ⟨Q2, u2⟩ ⟨a2, f2⟩
  dsimp only at a2 f2 ⊢
  refine zev_mono m_keepr ?_
  rintro ⟨Q3, u3⟩ ⟨a3, f3⟩
  dsimp only at a3 f3 ⊢
  refine zev_mono m_keepl ?_
  rintro ⟨Q4, u4⟩ ⟨a4, f4⟩
  dsimp only at a4 f4 ⊢
  have k4 : Q4.1 14 0 = nI kc.length := by rw [f4.i 14 (by decide), f3.i 14 (by decide), f2.i 14 (by decide), f1.i 14 (by decide)]; exact hK.1
  refine zev_mono (m_keept k4 hk4) ?_
  rintro ⟨Q5, u5⟩ ⟨a5, f5⟩
  dsimp only at a5 f5 ⊢
  have F25 : qfr Q2 Q5 [56, 57, 58, 59] := (f3.mono (by decide)).tr0 ((f4.mono (by decide)).tr0 (f5.mono (by decide)))
  have F15 : qfr Q1 Q5 [49, 50, 51, 52, 53, 54, 55, 56, 57, 58, 59] := (f2.mono (by decide)).tr0 (F25.mono (by decide))
  refine ⟨⟨?_, ?_, ?_, ?_, fun b hb => (a2 b hb).fr F25 (by decide), hR.cp (fun r hr => ?_) (fun r hr => ?_), kc.length, ?_, Nat.le_refl _, ?_, ?_⟩, ?_, (f1.mono (by decide)).tr0 (F15.mono (by decide))⟩
  · rw [F15.i 44 (by decide)]; exact v1.2.1
  · rw [F15.i 46 (by decide)]; exact v1.2.2.2.1
  · rw [F15.i 47 (by decide)]; exact v1.2.2.2.2.1
  · rw [F15.i 48 (by decide)]; exact v1.2.2.2.2.2
  · rw [f5.i 56 (by decide), f5.i 57 (by decide), f4.i 56 (by decide), f4.i 57 (by decide), (a3 r hr).1, (a3 r hr).2, f2.i 11 (by decide), f2.i 12 (by decide), f1.i 11 (by decide), f1.i 12 (by decide)]; exact ⟨rfl, rfl⟩
  · rw [f5.i 58 (by decide), a4 r hr, f3.i 13 (by decide), f2.i 13 (by decide), f1.i 13 (by decide)]
  · rw [F15.i 45 (by decide)]; exact v1.2.2.1
  · rw [List.take_of_length_le (Nat.le_refl _)]
    intro k p hk i hi
    have hkl := (List.getElem?_eq_some_iff.mp hk).1
    rw [a5 _ (by omega), f4.j 17 (by decide), f3.j 17 (by decide), f2.j 17 (by decide), f1.j 17 (by decide)]
    exact hA.1 k p hk i hi
  · rw [List.take_of_length_le (Nat.le_refl _)]; exact hC
  · rw [F15.i 43 (by decide)]; exact v1.1
theorem m_takeBackt {Q : Mq} {n m : Nat} (h : Q.1 14 0 = nI n) (hm : Q.1 45 0 = nI m) (hn : n ≤ 4096) (hmn : m ≤ n) : zev (zwhile mf_takeBack_L251 (Q, 0)) (fun y => (∀ r, r < 5 * n → y.1.2 17 r = if r < 5 * m then Q.2 59 r else 0) ∧ (∀ r, 5 * n ≤ r → y.1.2 17 r = Q.2 17 r) ∧ qfr Q y.1 [17]) := by
  refine zev_up (τ := Mq × Int32) (fun i (z : Mq × Int32) => ∃ Q2, z = (Q2, nI i) ∧ (∀ r, r < i → Q2.2 17 r = if r < 5 * m then Q.2 59 r else 0) ∧ (∀ r, i ≤ r → Q2.2 17 r = Q.2 17 r) ∧ qfr Q Q2 [17]) (5 * n) (Nat.zero_le _) ⟨Q, rfl, fun r hr => by omega, fun _ _ => rfl, qfr.rf⟩ ?_ ?_
  · rintro i z hi ⟨Q2, rfl, a2, o2, f2⟩
    unfold mf_takeBack_L251 mf_takeBack_J286
    have key : ∀ v, v = (if i < 5 * m then Q.2 59 i else 0) → ∃ x', (Sum.inl (qj Q2 17 i v, nI i + 1) : (Mq × Int32) ⊕ (Mq × Int32)) = .inl x' ∧ ∃ Q2, x' = (Q2, nI (i + 1)) ∧ (∀ r, r < i + 1 → Q2.2 17 r = if r < 5 * m then Q.2 59 r else 0) ∧ (∀ r, i + 1 ≤ r → Q2.2 17 r = Q.2 17 r) ∧ qfr Q Q2 [17] := by
      intro v hv
      refine ⟨_, rfl, _, by rw [← nI_1], fun r hr => ?_, fun r hr => ?_, f2.tr0 (qfr.qj (by decide))⟩
      · simp only [qj_2, true_and]
        by_cases eq : r = i
        · rw [if_pos eq, eq]; exact hv
        · rw [if_neg eq]; exact a2 r (by omega)
      · rw [qj_2, if_neg (by omega)]; exact o2 r (by omega)
    simp only [f2.i 14 (by decide), f2.i 45 (by decide), h, hm, nI_x4, nI_x5, nI_x13, nI_x16, nI_x20, nI_x60, nI_x100, nI_x48r, nI_add, nI_1, if_neg (nI_ge hi (show 5 * n < 2 ^ 31 by omega))]
    by_cases c : i < 5 * m
    · simp only [if_neg (nI_ge c (show 5 * m < 2 ^ 31 by omega)), zev_b1, zev_mbd, zev_some, zev_b0, zev_bo, true_and, and_true, mev_aj (show i < 2 ^ 31 by omega), mev_sj (show i < 2 ^ 31 by omega), mln_2, mln_3, mln_4, mln_5, mln_6, mln_7, mln_8, mln_9, mln_10, mln_11, mln_12, mln_13, mln_15, mln_16, mln_17, mln_24, mln_25, mln_26, mln_27, mln_28, mln_29, mln_30, mln_31, mln_32, mln_34, mln_35, mln_37, mln_42, mln_49, mln_50, mln_51, mln_52, mln_53, mln_54, mln_55, mln_56, mln_57, mln_58, mln_59, mln_61, mln_62, mln_63, mln_65, mln_66, mln_68, mln_70, mln_71, mln_72, mln_73, mln_74, show i < 20480 by omega, f2.j 59 (by decide)]
      have := key (Q.2 59 i) (by rw [if_pos c])
      rw [nI_1] at this
      exact this
    · simp only [if_pos (nI_le (show 5 * m ≤ i by omega) (show i < 2 ^ 31 by omega)), zev_b1, zev_mbd, zev_some, zev_b0, zev_bo, true_and, and_true, mev_sj (show i < 2 ^ 31 by omega), mln_2, mln_3, mln_4, mln_5, mln_6, mln_7, mln_8, mln_9, mln_10, mln_11, mln_12, mln_13, mln_15, mln_16, mln_17, mln_24, mln_25, mln_26, mln_27, mln_28, mln_29, mln_30, mln_31, mln_32, mln_34, mln_35, mln_37, mln_42, mln_49, mln_50, mln_51, mln_52, mln_53, mln_54, mln_55, mln_56, mln_57, mln_58, mln_59, mln_61, mln_62, mln_63, mln_65, mln_66, mln_68, mln_70, mln_71, mln_72, mln_73, mln_74, show i < 20480 by omega]
      have := key 0 (by rw [if_neg c])
      rw [nI_1] at this
      exact this
  · rintro z ⟨Q2, rfl, a2, o2, f2⟩
    unfold mf_takeBack_L251
    simp only [f2.i 14 (by decide), h, nI_x4, nI_x5, nI_x13, nI_x16, nI_x20, nI_x60, nI_x100, nI_x48r, nI_add, nI_1, if_pos (nI_le (Nat.le_refl (5 * n)) (show 5 * n < 2 ^ 31 by omega)), zev_b1, zev_mbd, zev_some, zev_b0, zev_bo, true_and, and_true]
    exact ⟨_, rfl, a2, o2, f2⟩
/-- what is taken back is what was kept -/
theorem m_takeBack {Q : Mq} {nb nb1 : Nat} {bs bs1 : Nat → Bv} {ro : Nat → Rw} {kc : List Int32} {ac ac1 : Nat → Wn} {jl bl jl1 bl1 : Nat} {mo : Int32} (h : mBs Q nb1 bs1) (hK : mKn Q kc) (hA : mAk Q kc ac1) (hS : mSn Q kc nb bs ro ac mo jl bl) (hn : nb ≤ nb1) (hn1 : nb1 ≤ 1000) (hks : ∀ b, b < nb → (bs b).1 = (bs1 b).1) (h6 : I60 nb bs) (hm : Iml nb bs) (hj : Q.1 19 0 = nI jl1) (hl : Q.1 21 0 = nI bl1) (hj1 : jl ≤ jl1) (hl1 : bl ≤ bl1) (hj2 : jl1 ≤ 5000) (hl2 : bl1 ≤ 5000) : zev (mf_takeBack Q) (fun y => mBs y.1 nb bs ∧ mRs y.1 11 12 13 ro ∧ mKn y.1 kc ∧ mAk y.1 kc ac ∧ y.1.1 18 0 = mo ∧ y.1.1 19 0 = nI jl ∧ y.1.1 21 0 = nI bl ∧ qfr Q y.1 [1, 4, 5, 6, 7, 8, 9, 10, 11, 12, 13, 17, 18, 19, 21]) := by
  have hk4 := kc_len hK.2.1 hK.2.2.1
  obtain ⟨s1, s2, s3, s4, s5, s6, n, s7, s8, s9, s10⟩ := hS
  unfold mf_takeBack
  have pd : ∀ (Q' : Mq) (c : Nat) (a b : Nat) (P : Mq → Prop), Q'.1 c 0 = nI b → a ≤ b → b ≤ 5000 → (zev (mo_pd Q' c (nI a)) P ↔ P (qi Q' c 0 (nI a))) := fun Q' c a b P e h1 h2 => by
    refine zev_eq ?_
    unfold mo_pd
    rw [e, nI_clamp (by omega), nI_clamp (by omega), if_pos h1]
  simp only [zev_b1, zev_some, qi_1, show ¬ (46 = 1) by decide, show ¬ (47 = 18) by decide, show ¬ (47 = 1) by decide, false_and, if_false, s1, s2, s3]
  rw [pd _ 19 jl jl1 _ (by simp only [qi_1, show ¬ (19 = 18) by decide, show ¬ (19 = 1) by decide, false_and, if_false]; exact hj) hj1 hj2]
  simp only [qi_1, show ¬ (48 = 19) by decide, show ¬ (48 = 18) by decide, show ¬ (48 = 1) by decide, false_and, if_false, s4]
  rw [pd _ 21 bl bl1 _ (by simp only [qi_1, show ¬ (21 = 19) by decide, show ¬ (21 = 18) by decide, show ¬ (21 = 1) by decide, false_and, if_false]; exact hl) hl1 hl2]
  have f1 : qfr Q (qi (qi (qi (qi Q 1 0 (nI nb)) 18 0 mo) 19 0 (nI jl)) 21 0 (nI bl)) [1, 18, 19, 21] := (((qfr.qi (by decide)).tr0 (qfr.qi (by decide))).tr0 (qfr.qi (by decide))).tr0 (qfr.qi (by decide))
  have v1 : (qi (qi (qi (qi Q 1 0 (nI nb)) 18 0 mo) 19 0 (nI jl)) 21 0 (nI bl)).1 1 0 = nI nb ∧ (qi (qi (qi (qi Q 1 0 (nI nb)) 18 0 mo) 19 0 (nI jl)) 21 0 (nI bl)).1 18 0 = mo ∧ (qi (qi (qi (qi Q 1 0 (nI nb)) 18 0 mo) 19 0 (nI jl)) 21 0 (nI bl)).1 19 0 = nI jl ∧ (qi (qi (qi (qi Q 1 0 (nI nb)) 18 0 mo) 19 0 (nI jl)) 21 0 (nI bl)).1 21 0 = nI bl := ⟨rfl, rfl, rfl, rfl⟩
  generalize qi (qi (qi (qi Q 1 0 (nI nb)) 18 0 mo) 19 0 (nI jl)) 21 0 (nI bl) = Q1 at f1 v1 ⊢
  refine zev_mono (m_takeBackb (v := fun b => (bs b).2.1) (ms := fun b => bms (bs b)) v1.1 (by omega) (fun b hb => (s5 b hb).fr f1 (by decide)) (fun b hb => ⟨(hm b hb).1.symm, (hm b hb).2, (h6 b hb).1⟩)) ?_
  rintro ⟨Q2, u2⟩ ⟨a2, f2⟩
  dsimp only at a2 f2 ⊢
  refine zev_mono m_takeBackr ?_
  rintro ⟨Q3, u3⟩ ⟨a3, f3⟩
  dsimp only at a3 f3 ⊢
  refine zev_mono m_takeBackl ?_
  rintro ⟨Q4, u4⟩ ⟨a4, f4⟩
  dsimp only at a4 f4 ⊢
  have F14 : qfr Q1 Q4 [4, 5, 6, 7, 8, 9, 10, 11, 12, 13] := (f2.mono (by decide)).tr0 ((f3.mono (by decide)).tr0 (f4.mono (by decide)))
  have k4 : Q4.1 14 0 = nI kc.length := by rw [F14.i 14 (by decide), f1.i 14 (by decide)]; exact hK.1
  have n4 : Q4.1 45 0 = nI n := by rw [F14.i 45 (by decide), f1.i 45 (by decide)]; exact s7
  refine zev_mono (m_takeBackt k4 n4 hk4 s8) ?_
  rintro ⟨Q5, u5⟩ ⟨a5, o5, f5⟩
  dsimp only at a5 o5 f5 ⊢
  have F25 : qfr Q2 Q5 [11, 12, 13, 17] := (f3.mono (by decide)).tr0 ((f4.mono (by decide)).tr0 (f5.mono (by decide)))
  have F15 : qfr Q1 Q5 [4, 5, 6, 7, 8, 9, 10, 11, 12, 13, 17] := (F14.mono (by decide)).tr0 (f5.mono (by decide))
  have F05 : qfr Q Q5 [1, 4, 5, 6, 7, 8, 9, 10, 11, 12, 13, 17, 18, 19, 21] := (f1.mono (by decide)).tr0 (F15.mono (by decide))
  refine ⟨⟨by rw [F15.i 1 (by decide)]; exact v1.1, fun b hb => ⟨?_, ?_, (a2 b hb).fr F25 (by decide)⟩⟩, s6.cp (fun r hr => ?_) (fun r hr => ?_), hK.fr F05 (by decide), ⟨fun k p hk i hi => ?_, fun j j1 j2 => ?_⟩, by rw [F15.i 18 (by decide)]; exact v1.2.1, by rw [F15.i 19 (by decide)]; exact v1.2.2.1, by rw [F15.i 21 (by decide)]; exact v1.2.2.2, F05⟩
  · rw [F05.i 2 (by decide), hks b hb]; exact h.kd (by omega)
  · rw [F05.i 3 (by decide), hks b hb]; exact h.sz (by omega)
  · rw [f5.i 11 (by decide), f5.i 12 (by decide), f4.i 11 (by decide), f4.i 12 (by decide), (a3 r hr).1, (a3 r hr).2, f2.i 56 (by decide), f2.i 57 (by decide), f1.i 56 (by decide), f1.i 57 (by decide)]; exact ⟨rfl, rfl⟩
  · rw [f5.i 13 (by decide), a4 r hr, f3.i 58 (by decide), f2.i 58 (by decide), f1.i 58 (by decide)]
  · have hkl := (List.getElem?_eq_some_iff.mp hk).1
    rw [a5 _ (by omega)]
    by_cases c : k < n
    · rw [if_pos (by omega), F14.j 59 (by decide), f1.j 59 (by decide)]
      exact s9 k p (by rw [List.getElem?_take_of_lt c]; exact hk) i hi
    · rw [if_neg (by omega), wlook_abs p (ac i) (fun q hq e => ?_)]
      have hin := s10.1 i hi q hq
      rw [e] at hin
      obtain ⟨k2, hk2⟩ := List.getElem?_of_mem hin
      have hlt := (List.getElem?_eq_some_iff.mp hk2).1
      rw [List.length_take] at hlt
      rw [List.getElem?_take_of_lt (by omega)] at hk2
      have := kc_uniq hK.2.1 hk hk2
      omega
  · rw [o5 j j1, F14.j 17 (by decide), f1.j 17 (by decide)]; exact hA.2 j j1 j2
/-! taking all that is drawn -/
def acd (bs : Nat → Bv) (ac : Nat → Wn) (hw : Option Nat) (ds : List (Nat × Int64)) : Nat → Wn := match hw with | none => ac | some h => aup ac h (dmix bs (ac h) ds)
def Dsk (bs : Nat → Bv) (nb : Nat) (ds : List (Nat × Int64)) : Prop := ∀ q, q ∈ ds → q.1 < nb ∧ ((bs q.1).2.1.2.2.2 ≠ [] → wsum (bs q.1).2.1.2.2.2 ≠ 0) ∧ wsok (bs q.1).2.1.2.2.2 (wshr q.2 (bs q.1).2.1.2.2.2)
theorem dfind_snoc {ds : List (Nat × Int64)} {q : Nat × Int64} {c : Nat} (h : ∀ r, r ∈ ds → r.1 ≠ q.1) : dfind (ds ++ [q]) c = if c = q.1 then some q else dfind ds c := by
  unfold dfind
  rw [List.find?_append]
  by_cases e : c = q.1
  · rw [if_pos e]
    have : ds.find? (fun r => decide (r.1 = c)) = none := by
      rw [List.find?_eq_none]
      intro r hr
      simpa [e] using h r hr
    rw [this]
    simp [List.find?, e]
  · rw [if_neg e]
    have : [q].find? (fun r => decide (r.1 = c)) = none := by
      rw [List.find?_eq_none]
      intro r hr
      rw [List.mem_singleton] at hr
      rw [hr]
      simpa using fun z => e z.symm
    rw [this]
    simp
theorem m_takeDraws {Q : Mq} {nb : Nat} {bs : Nat → Bv} {kc : List Int32} {ac : Nat → Wn} {ds : List (Nat × Int64)} (h : mBs Q nb bs) (hD : mDr Q ds) (hK : mKn Q kc) (hA : mAk Q kc ac) (hC : cdk kc ac) (hn : nb ≤ 1000) (h60 : I60 nb bs) (hds : Dsk bs nb ds) (hdis : ∀ (i j : Nat) (q r : Nat × Int64), ds[i]? = some q → ds[j]? = some r → i ≠ j → q.1 ≠ r.1) (hw : Option Nat) (hh : ∀ i, hw = some i → i < 5 ∧ wris (ac i)) : zev (mf_takeDraws Q (hwI hw)) (fun y => ∃ kc', (∃ t, kc' = kc ++ t) ∧ mBs y.1 nb (scarry bs ds) ∧ mKn y.1 kc' ∧ mAk y.1 kc' (acd bs ac hw ds) ∧ cdk kc' (acd bs ac hw ds) ∧ qfr Q y.1 [8, 9, 10, 14, 15, 16, 17, 63]) := by
  have h32 := hD.2.1
  unfold mf_takeDraws
  rw [zev_b1]
  refine zev_up (τ := Mq × Int32) (fun i (z : Mq × Int32) => ∃ Q2 kc2, z = (Q2, nI i) ∧ (∃ t, kc2 = kc ++ t) ∧ mBs Q2 nb (scarry bs (ds.take i)) ∧ mKn Q2 kc2 ∧ mAk Q2 kc2 (acd bs ac hw (ds.take i)) ∧ cdk kc2 (acd bs ac hw (ds.take i)) ∧ qfr Q Q2 [8, 9, 10, 14, 15, 16, 17, 63]) ds.length (Nat.zero_le _) ?_ ?_ ?_
  · have e0 : acd bs ac hw [] = ac := by
      cases hw with
      | none => rfl
      | some i => exact aup_self ac i
    refine ⟨Q, kc, rfl, ⟨[], by simp⟩, h, hK, ?_, ?_, qfr.rf⟩
    · rw [List.take_zero, e0]; exact hA
    · rw [List.take_zero, e0]; exact hC
  · rintro i z hi ⟨Q2, kc2, rfl, ⟨t2, ek2⟩, b2, k2, a2, c2, f2⟩
    obtain ⟨q, hq⟩ := getElem?_lt hi
    obtain ⟨hq1, hq2, hq3⟩ := hds q (List.mem_of_getElem? hq)
    have d2 := hD.fr f2 (by decide)
    have hne : ∀ r, r ∈ ds.take i → r.1 ≠ q.1 := by
      intro r hr
      obtain ⟨j, hj⟩ := List.getElem?_of_mem hr
      have hjl := (List.getElem?_eq_some_iff.mp hj).1
      rw [List.length_take] at hjl
      rw [List.getElem?_take_of_lt (by omega)] at hj
      exact hdis j i r q hj hq (by omega)
    have hsame : scarry bs (ds.take i) q.1 = bs q.1 := by
      unfold scarry
      cases hf : dfind (ds.take i) q.1 with
      | none => rfl
      | some r => exact absurd (dfind_mem hf).2 (hne r (dfind_mem hf).1)
    have hI60 : I60 nb (scarry bs (ds.take i)) := by
      intro c hc
      unfold scarry
      cases hf : dfind (ds.take i) c with
      | none => exact h60 c hc
      | some r =>
        refine ⟨Nat.le_trans (wles_len _ _) (h60 c hc).1, fun y hy => ?_⟩
        obtain ⟨y', hy', e⟩ := wles_mem _ _ _ hy
        rw [← e]
        exact (h60 c hc).2 y' hy'
    have hr2 : ∀ j, hw = some j → j < 5 ∧ wris (acd bs ac hw (ds.take i) j) := by
      rintro j rfl
      refine ⟨(hh j rfl).1, ?_⟩
      unfold acd; dsimp only; rw [aup_at]
      exact wris_dmix bs _ _ (hh j rfl).2
    unfold mf_takeDraws_L2
    simp only [d2.1, if_neg (nI_ge hi (show ds.length < 2 ^ 31 by omega)), zev_b1, zev_mbd, zev_some, zev_b0, zev_bo, true_and, and_true, mev_ai (show i < 2 ^ 31 by omega), mev_aj (show i < 2 ^ 31 by omega), mln_2, mln_3, mln_4, mln_5, mln_6, mln_7, mln_8, mln_9, mln_10, mln_11, mln_12, mln_13, mln_15, mln_16, mln_17, mln_24, mln_25, mln_26, mln_27, mln_28, mln_29, mln_30, mln_31, mln_32, mln_34, mln_35, mln_37, mln_42, mln_49, mln_50, mln_51, mln_52, mln_53, mln_54, mln_55, mln_56, mln_57, mln_58, mln_59, mln_61, mln_62, mln_63, mln_65, mln_66, mln_68, mln_70, mln_71, mln_72, mln_73, mln_74, show i < 32 by omega, (d2.2.2 i q hq).1, (d2.2.2 i q hq).2]
    refine zev_mono (m_take b2 k2 a2 c2 hn hq1 hI60 (by rw [hsame]; exact hq2) q.2 (by rw [hsame]; exact hq3) hw hr2) ?_
    rintro ⟨Q3, u3⟩ ⟨kc3, ⟨t3, ek3⟩, b3, k3, a3, c3, f3⟩
    dsimp only at b3 k3 a3 c3 f3 ⊢
    rw [hsame] at b3 a3 c3
    have ea : acp (acd bs ac hw (ds.take i)) hw (wgng (bs q.1).2.1.2.2.2 (wshr q.2 (bs q.1).2.1.2.2.2)) = acd bs ac hw (ds.take (i + 1)) := by
      cases hw with
      | none => rfl
      | some j =>
        unfold acp acd
        dsimp only
        rw [aup_aup, aup_at, take_snoc hq, dmix_snoc]
    rw [ea] at a3 c3
    refine ⟨_, rfl, Q3, kc3, by rw [← nI_1], ⟨t2 ++ t3, by rw [ek3, ek2, List.append_assoc]⟩, b3.cong (fun c hc => ?_), k3, a3, c3, f2.tr0 f3⟩
    unfold scarry
    rw [take_snoc hq, dfind_snoc hne]
    by_cases e : c = q.1
    · rw [e, if_pos rfl, bup_self]
      exact ⟨rfl, rfl, rfl⟩
    · rw [if_neg e, bup_ne _ _ e]
      exact ⟨rfl, rfl, rfl⟩
  · rintro z ⟨Q2, kc2, rfl, ek2, b2, k2, a2, c2, f2⟩
    have d2 := hD.fr f2 (by decide)
    unfold mf_takeDraws_L2
    simp only [d2.1, if_pos (nI_le (Nat.le_refl ds.length) (show ds.length < 2 ^ 31 by omega)), zev_b1, zev_mbd, zev_some, zev_b0, zev_bo, true_and, and_true]
    rw [List.take_of_length_le (Nat.le_refl _)] at b2 a2 c2
    exact ⟨_, rfl, kc2, ek2, b2, k2, a2, c2, f2⟩
theorem m_become {Q : Mq} {nb b : Nat} {bs : Nat → Bv} {lm : Wn} (h : mBs Q nb bs) (hM : mMx Q lm) (hn : nb ≤ 1000) (hb : b < nb) (hl : lm.length ≤ 60) (h60 : ∀ c, c < nb → (bs c).2.1.2.2.2.length ≤ 60) : zev (mf_become Q (nI b)) (fun y => mBs y.1 nb (bup bs b (bwin (bs b) lm)) ∧ qfr Q y.1 [8, 9, 10]) := by
  have hb1 : b < 2 ^ 31 := by omega
  have hb2 : b < 1000 := by omega
  unfold mf_become
  simp only [zev_b1, zev_mbd, zev_some, zev_b0, zev_bo, true_and, and_true, mev_si hb1, mln_2, mln_3, mln_4, mln_5, mln_6, mln_7, mln_8, mln_9, mln_10, mln_11, mln_12, mln_13, mln_15, mln_16, mln_17, mln_24, mln_25, mln_26, mln_27, mln_28, mln_29, mln_30, mln_31, mln_32, mln_34, mln_35, mln_37, mln_42, mln_49, mln_50, mln_51, mln_52, mln_53, mln_54, mln_55, mln_56, mln_57, mln_58, mln_59, mln_61, mln_62, mln_63, mln_65, mln_66, mln_68, mln_70, mln_71, mln_72, mln_73, mln_74, hb2, hM.1]
  have f1 : qfr Q (qi Q 8 b (nI lm.length)) [8] := qfr.qi (by decide)
  refine zev_up (τ := Mq × Int32) (fun i (z : Mq × Int32) => ∃ Q2, z = (Q2, nI i) ∧ (∀ j q, j < i → lm[j]? = some q → Q2.1 9 (60 * b + j) = q.1 ∧ Q2.2 10 (60 * b + j) = q.2) ∧ (∀ k, k < 60 * b ∨ 60 * b + 60 ≤ k → Q2.1 9 k = Q.1 9 k ∧ Q2.2 10 k = Q.2 10 k) ∧ qfr (qi Q 8 b (nI lm.length)) Q2 [9, 10]) lm.length (Nat.zero_le _) ⟨_, rfl, fun j q hj => by omega, fun _ _ => ⟨rfl, rfl⟩, qfr.rf⟩ ?_ ?_
  · rintro i z hi ⟨Q2, rfl, a2, o2, f2⟩
    obtain ⟨q, hq⟩ := getElem?_lt hi
    have m2 := (hM.fr f1 (by decide)).fr f2 (by decide)
    unfold mf_become_L12
    simp only [m2.1, if_neg (nI_ge hi (show lm.length < 2 ^ 31 by omega)), zev_b1, zev_mbd, zev_some, zev_b0, zev_bo, true_and, and_true, mev_ai (show i < 2 ^ 31 by omega), mev_aj (show i < 2 ^ 31 by omega), mln_2, mln_3, mln_4, mln_5, mln_6, mln_7, mln_8, mln_9, mln_10, mln_11, mln_12, mln_13, mln_15, mln_16, mln_17, mln_24, mln_25, mln_26, mln_27, mln_28, mln_29, mln_30, mln_31, mln_32, mln_34, mln_35, mln_37, mln_42, mln_49, mln_50, mln_51, mln_52, mln_53, mln_54, mln_55, mln_56, mln_57, mln_58, mln_59, mln_61, mln_62, mln_63, mln_65, mln_66, mln_68, mln_70, mln_71, mln_72, mln_73, mln_74, show i < 1980 by omega, (m2.2.2 i q hq).1, nI_x4, nI_x5, nI_x13, nI_x16, nI_x20, nI_x60, nI_x100, nI_x48r, nI_add, nI_1, mev_si (show 60 * b + i < 2 ^ 31 by omega), mev_sj (show 60 * b + i < 2 ^ 31 by omega), show 60 * b + i < 60000 by omega, qi_2, (m2.2.2 i q hq).2]
    refine ⟨_, rfl, _, rfl, fun j r hj hr => ?_, fun k hk => ?_, (f2.tr0 (qfr.qi (by decide))).tr0 (qfr.qj (by decide))⟩
    · rw [qj_1, qi_1, qj_2, qi_2]
      by_cases e : j = i
      · subst e
        rw [hq] at hr; cases hr
        rw [if_pos ⟨rfl, rfl⟩, if_pos ⟨rfl, rfl⟩]; exact ⟨rfl, rfl⟩
      · rw [if_neg (by omega), if_neg (by omega)]; exact a2 j r (by omega) hr
    · rw [qj_1, qi_1, qj_2, qi_2, if_neg (by omega), if_neg (by omega)]; exact o2 k hk
  · rintro z ⟨Q2, rfl, a2, o2, f2⟩
    have m2 := (hM.fr f1 (by decide)).fr f2 (by decide)
    unfold mf_become_L12
    simp only [m2.1, if_pos (nI_le (Nat.le_refl lm.length) (show lm.length < 2 ^ 31 by omega)), zev_b1, zev_mbd, zev_some, zev_b0, zev_bo, true_and, and_true]
    have F : qfr Q Q2 [8, 9, 10] := (f1.mono (by decide)).tr0 (f2.mono (by decide))
    refine ⟨_, rfl, ⟨by rw [F.i 1 (by decide)]; exact h.1, fun c hc => ?_⟩, F⟩
    obtain ⟨p1, p2, p3, p4, p5, p6, p7, p8⟩ := h.2 c hc
    rw [F.i 2 (by decide), F.i 3 (by decide)]
    unfold mV
    rw [F.i 4 (by decide), F.i 5 (by decide), F.i 6 (by decide), F.i 7 (by decide), f2.i 8 (by decide), qi_1]
    by_cases e : c = b
    · subst e
      rw [bup_self]
      refine ⟨p1, p2, p3, p4, p5, by rw [if_pos ⟨rfl, rfl⟩]; rfl, p7, fun i q hq => a2 i q (List.getElem?_eq_some_iff.mp hq).1 hq⟩
    · rw [bup_ne bs _ e, if_neg (fun z => e z.2)]
      refine ⟨p1, p2, p3, p4, p5, p6, p7, fun i q hq => ?_⟩
      have hil := (List.getElem?_eq_some_iff.mp hq).1
      have hc6 := h60 c hc
      have hx := o2 (60 * c + i) (by omega)
      rw [hx.1, hx.2]
      exact p8 i q hq
theorem m_line {Q : Mq} {f c cap : Nat} {ls : List Ln} (h : mJl Q f c ls) (hl : ls.length < cap) (hcap : cap ≤ 4096) (v1 v2 v3 v4 : Int64) : zev (mo_line Q f c cap v1 v2 v3 v4) (fun y => mJl y.1 f c (ls ++ [(v1, v2, v3, v4)]) ∧ (∀ x, x ≠ c → y.1.1 x = Q.1 x) ∧ (∀ x, x ≠ f → y.1.2 x = Q.2 x)) := by
  unfold mo_line
  have e1 := nI_clamp (show ls.length < 2 ^ 31 by omega)
  rw [h.1, e1, if_pos ⟨nI_pos (by omega), hl⟩, zev_some]
  refine ⟨⟨?_, fun i q hq => ?_⟩, fun x hx => ?_, fun x hx => ?_⟩
  · rw [qi_1, if_pos ⟨rfl, rfl⟩, nI_1, List.length_append]; rfl
  · simp only [qi_2, qj_2, true_and]
    by_cases hi : i < ls.length
    · rw [List.getElem?_append_left hi] at hq
      simp only [show ¬ 4 * i = 4 * ls.length by omega, show ¬ 4 * i = 4 * ls.length + 1 by omega, show ¬ 4 * i = 4 * ls.length + 2 by omega, show ¬ 4 * i = 4 * ls.length + 3 by omega, show ¬ 4 * i + 1 = 4 * ls.length by omega, show ¬ 4 * i + 1 = 4 * ls.length + 1 by omega, show ¬ 4 * i + 1 = 4 * ls.length + 2 by omega, show ¬ 4 * i + 1 = 4 * ls.length + 3 by omega, show ¬ 4 * i + 2 = 4 * ls.length by omega, show ¬ 4 * i + 2 = 4 * ls.length + 1 by omega, show ¬ 4 * i + 2 = 4 * ls.length + 2 by omega, show ¬ 4 * i + 2 = 4 * ls.length + 3 by omega, show ¬ 4 * i + 3 = 4 * ls.length by omega, show ¬ 4 * i + 3 = 4 * ls.length + 1 by omega, show ¬ 4 * i + 3 = 4 * ls.length + 2 by omega, show ¬ 4 * i + 3 = 4 * ls.length + 3 by omega, if_false]
      exact h.2 i q hq
    · rw [List.getElem?_append_right (by omega)] at hq
      have hi2 := (List.getElem?_eq_some_iff.mp hq).1
      simp only [List.length_cons, List.length_nil] at hi2
      obtain rfl : i = ls.length := by omega
      rw [Nat.sub_self] at hq
      cases hq
      simp only [show ¬ 4 * ls.length = 4 * ls.length + 1 by omega, show ¬ 4 * ls.length = 4 * ls.length + 2 by omega, show ¬ 4 * ls.length = 4 * ls.length + 3 by omega, show ¬ 4 * ls.length + 1 = 4 * ls.length + 2 by omega, show ¬ 4 * ls.length + 1 = 4 * ls.length + 3 by omega, show ¬ 4 * ls.length + 2 = 4 * ls.length + 3 by omega, if_false, if_true, and_self]
  · funext j; rw [qi_1, if_neg (fun z => hx z.1)]; rfl
  · funext j; simp only [qi_2, qj_2, hx, false_and, if_false]
theorem m_enter {Q : Mq} {jr : List Ln} (h : mJl Q 20 19 jr) (hl : jr.length < 4096) (a b c : Int32) (d : Int64) : zev (mf_enter Q a b c d) (fun y => mJl y.1 20 19 (jr ++ [(a.toInt64, b.toInt64, c.toInt64, d)]) ∧ qfr Q y.1 [19, 20]) := by
  unfold mf_enter
  refine zev_mono (m_line h hl (Nat.le_refl _) _ _ _ _) ?_
  rintro ⟨Q1, u⟩ ⟨h1, h2, h3⟩
  exact ⟨h1, fun f hf => ⟨h2 f (fun e => hf (by rw [e]; decide)), h3 f (fun e => hf (by rw [e]; decide))⟩⟩
