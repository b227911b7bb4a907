/-! The reference's acts: breathe. -/
def bstp (m : Nat) (s : (Nat → Bv) × Wn × Int64 × List Nat) (b : Nat) : (Nat → Bv) × Wn × Int64 × List Nat := if 0 < brat (s.1 b).1.1 ∧ 0 < wsum (s.1 b).2.1.2.2.2 then (bup s.1 b (bwin (bkeep (s.1 b)) (brkN (brat (s.1 b).1.1) m ((s.1 b).2.1.2.2.2, s.2.1, s.2.2.1)).1), (brkN (brat (s.1 b).1.1) m ((s.1 b).2.1.2.2.2, s.2.1, s.2.2.1)).2.1, (brkN (brat (s.1 b).1.1) m ((s.1 b).2.1.2.2.2, s.2.1, s.2.2.1)).2.2, s.2.2.2 ++ [b]) else s
def bfol (m n : Nat) (bs : Nat → Bv) (a : Wn) : (Nat → Bv) × Wn × Int64 × List Nat := (List.range n).foldl (bstp m) (bs, a, 0, [])
theorem bfol_s (m n : Nat) (bs : Nat → Bv) (a : Wn) : bfol m (n + 1) bs a = bstp m (bfol m n bs a) n := by
  unfold bfol
  rw [range_snoc, List.foldl_append]
  rfl
theorem bfol_p (m : Nat) (bs : Nat → Bv) (a : Wn) : ∀ n, (∀ c, c ∈ (bfol m n bs a).2.2.2 → c < n ∧ kok (bs c) ((bfol m n bs a).1 c)) ∧ (∀ c, c ∉ (bfol m n bs a).2.2.2 → (bfol m n bs a).1 c = bs c) ∧ (∀ c, ((bfol m n bs a).1 c).2.2.2 = (bs c).2.2.2)
  | 0 => ⟨fun c hc => absurd hc List.not_mem_nil, fun _ _ => rfl, fun _ => rfl⟩
  | n + 1 => by
    obtain ⟨h1, h2, h3⟩ := bfol_p m bs a n
    rw [bfol_s]
    generalize bfol m n bs a = s at h1 h2 h3
    unfold bstp
    split
    · have hn : s.1 n = bs n := h2 n (fun hc => by have := (h1 n hc).1; omega)
      refine ⟨fun c hc => ?_, fun c hc => ?_, fun c => ?_⟩
      · dsimp only at hc ⊢
        rcases List.mem_append.mp hc with z | z
        · have := h1 c z
          rw [bup_ne _ _ (show c ≠ n by omega)]
          exact ⟨by omega, this.2⟩
        · rw [List.mem_singleton] at z
          subst z
          rw [bup_self, hn]
          exact ⟨by omega, rfl, rfl, rfl⟩
      · dsimp only at hc ⊢
        have hc1 : c ∉ s.2.2.2 := fun z => hc (List.mem_append_left _ z)
        have hc2 : c ≠ n := fun z => hc (List.mem_append_right _ (List.mem_singleton.mpr z))
        rw [bup_ne _ _ hc2]
        exact h2 c hc1
      · dsimp only
        by_cases e : c = n
        · subst e; rw [bup_self]; exact h3 c
        · rw [bup_ne _ _ e]; exact h3 c
    · exact ⟨fun c hc => ⟨by have := (h1 c hc).1; omega, (h1 c hc).2⟩, h2, h3⟩
theorem m_br51 {Q : Mq} {nb m : Nat} {bs : Nat → Bv} {ro : Nat → Rw} {ac : Nat → Wn} {kc : List Int32} (h : mBs Q nb bs) (hK : mKn Q kc) (hA : mAk Q kc ac) (hC : mCd kc nb bs ac) (hI : Ic nb bs ro ac) (hm : m ≤ 12) : zev (zwhile (mf_breathe_L51 (nI m)) (Q, (0 : Int64), (0 : Int32))) (fun y => ∃ Q2 u kc' G, y = (Q2, (bfol m nb bs (ac 1)).2.2.1, u) ∧ (∃ t, kc' = kc ++ t) ∧ mBs Q2 nb (bfol m nb bs (ac 1)).1 ∧ mKn Q2 kc' ∧ mAk Q2 kc' (aup ac 1 (bfol m nb bs (ac 1)).2.1) ∧ mCd kc' nb (bfol m nb bs (ac 1)).1 (aup ac 1 (bfol m nb bs (ac 1)).2.1) ∧ Ic nb (bfol m nb bs (ac 1)).1 ro (aup ac 1 (bfol m nb bs (ac 1)).2.1) ∧ qfr Q Q2 [8, 9, 10, 14, 15, 16, 17, 63] ∧ (bfol m nb bs (ac 1)).2.2.1 = lN G ∧ G ≤ 12000000000 * nb) := by
  have hN := hI.1
  refine zev_up (τ := Mq × Int64 × Int32) (fun i (z : Mq × Int64 × Int32) => ∃ Q2 kc' G, z = (Q2, (bfol m i bs (ac 1)).2.2.1, nI i) ∧ (∃ t, kc' = kc ++ t) ∧ mBs Q2 nb (bfol m i bs (ac 1)).1 ∧ mKn Q2 kc' ∧ mAk Q2 kc' (aup ac 1 (bfol m i bs (ac 1)).2.1) ∧ mCd kc' nb (bfol m i bs (ac 1)).1 (aup ac 1 (bfol m i bs (ac 1)).2.1) ∧ Ic nb (bfol m i bs (ac 1)).1 ro (aup ac 1 (bfol m i bs (ac 1)).2.1) ∧ qfr Q Q2 [8, 9, 10, 14, 15, 16, 17, 63] ∧ (bfol m i bs (ac 1)).2.2.1 = lN G ∧ G ≤ 12000000000 * i) nb (Nat.zero_le _) ⟨Q, kc, 0, rfl, ⟨[], by simp⟩, h, hK, by show mAk Q kc (aup ac 1 (ac 1)); rw [aup_self]; exact hA, by show mCd kc nb bs (aup ac 1 (ac 1)); rw [aup_self]; exact hC, by show Ic nb bs ro (aup ac 1 (ac 1)); rw [aup_self]; exact hI, qfr.rf, rfl, by omega⟩ ?_ ?_
  · rintro b z hb ⟨Q2, kc', G, rfl, ⟨t, ek⟩, b2, k2, a2, c2, i2, f2, g2, g3⟩
    rw [bfol_s]
    generalize bfol m b bs (ac 1) = s at b2 a2 c2 i2 g2 ⊢
    unfold mf_breathe_L51 mf_breathe_J132
    dsimp only
    rw [b2.1, if_neg (nI_ge hb (by omega))]
    simp only [zev_b1, zev_mbd, zev_some, zev_b0, zev_bo, true_and, and_true, mln_2, mln_3, mln_4, mln_5, mln_6, mln_7, mln_8, mln_9, mln_10, mln_11, mln_12, mln_13, mln_15, mln_16, mln_17, mln_24, mln_25, mln_26, mln_27, mln_28, mln_29, mln_30, mln_31, mln_32, mln_34, mln_35, mln_37, mln_42, mln_49, mln_50, mln_51, mln_52, mln_53, mln_54, mln_55, mln_56, mln_57, mln_58, mln_59, mln_61, mln_62, mln_63, mln_65, mln_66, mln_68, mln_70, mln_71, mln_72, mln_73, mln_74, mev_ai (show b < 2 ^ 31 by omega), show b < 1000 by omega, b2.kd hb]
    by_cases c5 : (s.1 b).1.1 = 5
    · rw [if_pos c5, zev_some]
      have hst : bstp m s b = s := by
        unfold bstp
        rw [if_neg (fun z => by have := z.1; rw [c5] at this; exact absurd this (by decide))]
      rw [hst]
      exact ⟨_, rfl, Q2, kc', G, by rw [nI_1], ⟨t, ek⟩, b2, k2, a2, c2, i2, f2, g2, by omega⟩
    · rw [if_neg c5, zev_b1, g2]
      have eac : aup ac 1 s.2.1 1 = s.2.1 := by unfold aup; rw [if_pos rfl]
      have h77 := m_br77 (G := G) b2 k2 a2 c2 i2 hb c5 hm
      rw [eac] at h77
      refine zev_mono h77 ?_
      rintro y ⟨Q3, u3, kc3, G3, rfl, ⟨t3, ek3⟩, b3, k3, a3, c3, i3, f3, g4, g5⟩
      rw [aup_aup] at a3 c3 i3
      dsimp only
      rw [zev_some]
      unfold bstp
      rw [g2]
      have hsum := i2.sum hb
      have hwp := i2.wp b hb
      obtain ⟨ρ, r1, r2⟩ := brat_N (s.1 b).1.1
      by_cases cc : 0 < brat (s.1 b).1.1 ∧ 0 < wsum (s.1 b).2.1.2.2.2
      · rw [if_pos cc]
        generalize brkN (brat (s.1 b).1.1) m ((s.1 b).2.1.2.2.2, s.2.1, lN G) = z at b3 a3 c3 i3 g4 ⊢
        have ce : ∀ c, c < nb → (bup s.1 b (bwin (bkeep (s.1 b)) z.1) c).1 = (bup s.1 b (bwin (s.1 b) z.1) c).1 ∧ (bup s.1 b (bwin (bkeep (s.1 b)) z.1) c).2.1 = (bup s.1 b (bwin (s.1 b) z.1) c).2.1 ∧ bms (bup s.1 b (bwin (bkeep (s.1 b)) z.1) c) = bms (bup s.1 b (bwin (s.1 b) z.1) c) := fun c _ => by
          unfold bup
          split <;> exact ⟨rfl, rfl, rfl⟩
        refine ⟨_, rfl, Q3, kc3, G3, by rw [nI_1], ⟨t ++ t3, by rw [ek3, ek, List.append_assoc]⟩, b3.cong ce, k3, a3, ⟨c3.1, fun c hc q hq => c3.2 c hc q (by rw [← (ce c hc).2.1]; exact hq)⟩, i3.cong ⟨rfl, ce, fun _ _ => rfl, fun _ _ => rfl⟩, f2.tr0 f3, g4, by omega⟩
      · rw [if_neg cc]
        have hz : wsum (s.1 b).2.1.2.2.2 * brat (s.1 b).1.1 / 10000 = 0 := by
          by_cases e1 : ρ = 0
          · rw [r2, e1, hsum, lN_mul, Nat.mul_zero]; rfl
          · by_cases e2 : nT (s.1 b).2.1.2.2.2 = 0
            · rw [hsum, e2, r2, lN_mul, Nat.zero_mul]; rfl
            · refine absurd ⟨?_, ?_⟩ cc
              · rw [r2, Int64.lt_iff_toInt_lt, pk_lT (by omega)]; show (0 : Int) < _; omega
              · rw [hsum, Int64.lt_iff_toInt_lt, pk_lT (by omega)]; show (0 : Int) < _; omega
        have hfx := brkN_fix (s := ((s.1 b).2.1.2.2.2, s.2.1, lN G)) hz m
        rw [hfx] at b3 a3 c3 i3 g4 ⊢
        dsimp only at b3 a3 c3 i3 g4 ⊢
        rw [bup_same] at b3 c3 i3
        exact ⟨_, rfl, Q3, kc3, G3, by rw [nI_1, g2], ⟨t ++ t3, by rw [ek3, ek, List.append_assoc]⟩, b3, k3, a3, c3, i3, f2.tr0 f3, g2.trans g4, by omega⟩
  · rintro z ⟨Q2, kc', G, rfl, ek, b2, k2, a2, c2, i2, f2, g2, g3⟩
    unfold mf_breathe_L51
    dsimp only
    rw [b2.1, if_pos (nI_le (Nat.le_refl nb) (by omega)), zev_some]
    exact ⟨_, rfl, Q2, _, kc', G, rfl, ek, b2, k2, a2, c2, i2, f2, g2, g3⟩
def bratsT (nb : Nat) (bs : Nat → Bv) : List Int32 := (List.range nb).flatMap (fun b => bratT (bs b).1.1)
theorem m_br27 {Q : Mq} {nb : Nat} {bs : Nat → Bv} {tc : List Int32} (l1 : Int32) (h : mBs Q nb bs) (hT : mTc Q tc) (hn : nb ≤ 1000) (hk : Ikd nb bs) : zev (zwhile (mf_breathe_L27 l1) (Q, (0 : Int32))) (fun y => ∃ Q2 u, y = (Q2, u) ∧ mTc Q2 (tapp 200 tc (bratsT nb bs)) ∧ qfr Q Q2 [41, 42]) := by
  refine zev_up (τ := Mq × Int32) (fun i (z : Mq × Int32) => ∃ Q2, z = (Q2, nI i) ∧ mTc Q2 (tapp 200 tc (bratsT i bs)) ∧ qfr Q Q2 [41, 42]) nb (Nat.zero_le _) ⟨Q, rfl, (by
    have e : tapp 200 tc (bratsT 0 bs) = tc := tapp_nil hT.2.1
    rw [e]; exact hT), qfr.rf⟩ ?_ ?_
  · rintro i z hi ⟨Q2, rfl, t2, f2⟩
    have hB := h.fr f2 (by decide)
    unfold mf_breathe_L27
    dsimp only
    rw [hB.1, if_neg (nI_ge hi (by omega)), zev_mbd]
    refine zev_mono (m_tell hB t2 hn hi hk) ?_
    rintro ⟨Q3, u3⟩ ⟨t3, f3⟩
    dsimp only at t3 f3 ⊢
    rw [zev_some]
    refine ⟨_, rfl, Q3, by rw [nI_1], ?_, f2.tr0 f3⟩
    have e : bratsT (i + 1) bs = bratsT i bs ++ bratT (bs i).1.1 := by
      unfold bratsT; rw [range_snoc, List.flatMap_append]; simp
    rw [e, ← tapp_tapp]
    exact t3
  · rintro z ⟨Q2, rfl, t2, f2⟩
    have hB := h.fr f2 (by decide)
    unfold mf_breathe_L27
    dsimp only
    rw [hB.1, if_pos (nI_le (Nat.le_refl nb) (by omega)), zev_some]
    exact ⟨_, rfl, Q2, _, rfl, t2, f2⟩
