/-! The reference: its small methods, over the value. -/
theorem m_begin {Q : Mq} : mf_begin Q = some (qi (qi (qi Q 38 0 (Q.1 38 0 + 1)) 41 0 0) 39 0 0, ()) := rfl
theorem m_no {Q : Mq} {r : Int32} : mf_no Q r = some (qi Q 39 0 r, (-r).toInt64) := rfl
theorem m_isAmount {Q : Mq} (v : Int64) : mf_isAmount Q v = some (Q, if isml v then 1 else 0) := by
  refine zev_of ?_
  unfold mf_isAmount
  by_cases h1 : v < 1
  · rw [if_pos h1, if_neg (show ¬ isml v from fun q => q.1 h1)]
    simp only [zev_b1, zev_mbd, zev_some, zev_b0, zev_bo, true_and, and_true]
  · by_cases h2 : 1000000000 < v
    · rw [if_neg h1, if_pos h2, if_neg (show ¬ isml v from fun q => q.2 h2)]
      simp only [zev_b1, zev_mbd, zev_some, zev_b0, zev_bo, true_and, and_true]
    · rw [if_neg h1, if_neg h2, if_pos (show isml v from ⟨h1, h2⟩)]
      simp only [zev_b1, zev_mbd, zev_some, zev_b0, zev_bo, true_and, and_true]
theorem m_looked {Q : Mq} {nb : Nat} {bs : Nat → Bv} (h : mBs Q nb bs) (b : Int32) : mf_looked Q b = some (Q, lk nb b) := by
  unfold mf_looked lk
  rw [h.nb]
  by_cases h1 : b < 0
  · rw [if_pos h1, if_pos h1]
  · rw [if_neg h1, if_neg h1]
    by_cases h2 : b < 1000
    · rw [if_pos h2, if_pos h2]
      by_cases h3 : b < nI nb
      · rw [if_neg (Int32.not_le.mpr h3), if_pos h3]
      · rw [if_pos (Int32.not_lt.mp h3), if_neg h3]
    · rw [if_neg h2, if_neg h2]
theorem m_lookedV {Q : Mq} {nb : Nat} {bs : Nat → Bv} (h : mBs Q nb bs) (hn : nb ≤ 1000) (b : Int32) : mf_lookedVessel Q b = some (Q, lkv nb bs b) := by
  refine zev_of ?_
  unfold mf_lookedVessel
  by_cases h0 : lk nb b = 0
  · obtain ⟨n, hlt, rfl⟩ := lk_0 hn h0
    unfold lkv
    rw [if_pos h0, nI_clamp (by omega), if_neg (nI_pos (by omega)), if_pos (show nI n < 1000 from nI_lt (b := 1000) (by omega) (by decide))]
    rw [h.nb, if_pos (nI_lt hlt (by omega))]
    simp only [zev_b1, zev_mbd, zev_some, zev_b0, zev_bo, true_and, and_true, mev_ai (show n < 2 ^ 31 by omega), mln_2, mln_3, mln_4, mln_5, mln_6, mln_7, mln_8, mln_9, mln_10, mln_11, mln_12, mln_13, mln_15, mln_16, mln_17, mln_24, mln_25, mln_26, mln_27, mln_28, mln_29, mln_30, mln_31, mln_32, mln_34, mln_35, mln_37, mln_42, mln_49, mln_50, mln_51, mln_52, mln_53, mln_54, mln_55, mln_56, mln_57, mln_58, mln_59, mln_61, mln_62, mln_63, mln_65, mln_66, mln_68, mln_70, mln_71, mln_72, mln_73, mln_74, show n < 1000 by omega, h.kd hlt]
    by_cases h5 : (bs n).1.1 = 5
    · simp only [if_pos h5, zev_b1, zev_mbd, zev_some, zev_b0, zev_bo, true_and, and_true]
    · simp only [if_neg h5, zev_b1, zev_mbd, zev_some, zev_b0, zev_bo, true_and, and_true]
  · unfold lkv
    rw [if_neg h0]
    unfold lk at h0 ⊢
    rw [h.nb]
    by_cases h1 : b < 0
    · simp only [if_pos h1, zev_b1, zev_mbd, zev_some, zev_b0, zev_bo, true_and, and_true]
    · by_cases h2 : b < 1000
      · by_cases h3 : b < nI nb
        · exact absurd (by rw [if_neg h1, if_pos h2, if_pos h3]) h0
        · simp only [if_neg h1, if_pos h2, if_neg h3, zev_b1, zev_mbd, zev_some, zev_b0, zev_bo, true_and, and_true]
      · simp only [if_neg h1, if_neg h2, zev_b1, zev_mbd, zev_some, zev_b0, zev_bo, true_and, and_true]
theorem m_lookedC {Q : Mq} {nb : Nat} {bs : Nat → Bv} (h : mBs Q nb bs) (hn : nb ≤ 1000) (b : Int32) : mf_lookedCask Q b = some (Q, lkc nb bs b) := by
  refine zev_of ?_
  unfold mf_lookedCask
  by_cases h0 : lk nb b = 0
  · obtain ⟨n, hlt, rfl⟩ := lk_0 hn h0
    unfold lkc
    rw [if_pos h0, nI_clamp (by omega), if_neg (nI_pos (by omega)), if_pos (show nI n < 1000 from nI_lt (b := 1000) (by omega) (by decide))]
    rw [h.nb, if_pos (nI_lt hlt (by omega))]
    simp only [zev_b1, zev_mbd, zev_some, zev_b0, zev_bo, true_and, and_true, mev_ai (show n < 2 ^ 31 by omega), mln_2, mln_3, mln_4, mln_5, mln_6, mln_7, mln_8, mln_9, mln_10, mln_11, mln_12, mln_13, mln_15, mln_16, mln_17, mln_24, mln_25, mln_26, mln_27, mln_28, mln_29, mln_30, mln_31, mln_32, mln_34, mln_35, mln_37, mln_42, mln_49, mln_50, mln_51, mln_52, mln_53, mln_54, mln_55, mln_56, mln_57, mln_58, mln_59, mln_61, mln_62, mln_63, mln_65, mln_66, mln_68, mln_70, mln_71, mln_72, mln_73, mln_74, show n < 1000 by omega, h.kd hlt]
    by_cases h5 : (bs n).1.1 = 5
    · simp only [if_pos h5, zev_b1, zev_mbd, zev_some, zev_b0, zev_bo, true_and, and_true]
    · simp only [if_neg h5, zev_b1, zev_mbd, zev_some, zev_b0, zev_bo, true_and, and_true]
  · unfold lkc
    rw [if_neg h0]
    unfold lk at h0 ⊢
    rw [h.nb]
    by_cases h1 : b < 0
    · simp only [if_pos h1, zev_b1, zev_mbd, zev_some, zev_b0, zev_bo, true_and, and_true]
    · by_cases h2 : b < 1000
      · by_cases h3 : b < nI nb
        · exact absurd (by rw [if_neg h1, if_pos h2, if_pos h3]) h0
        · simp only [if_neg h1, if_pos h2, if_neg h3, zev_b1, zev_mbd, zev_some, zev_b0, zev_bo, true_and, and_true]
      · simp only [if_neg h1, if_neg h2, zev_b1, zev_mbd, zev_some, zev_b0, zev_bo, true_and, and_true]
theorem m_lookedL {Q : Mq} {lb : List Lb} (h : mLs Q lb) (l : Int32) : mf_lookedLabel Q l = some (Q, lkl lb.length l) := by
  unfold mf_lookedLabel lkl
  rw [h.1]
  by_cases h1 : l < 0
  · rw [if_pos h1, if_pos h1]
  · rw [if_neg h1, if_neg h1]
    by_cases h2 : l < 40
    · rw [if_pos h2, if_pos h2]
      by_cases h3 : l < nI lb.length
      · rw [if_neg (Int32.not_le.mpr h3), if_pos h3]
      · rw [if_pos (Int32.not_lt.mp h3), if_neg h3]
    · rw [if_neg h2, if_neg h2]
theorem m_inCask {Q : Mq} {nb b : Nat} {bs : Nat → Bv} (h : mBs Q nb bs) (hn : nb ≤ 1000) (hb : b < nb) : mf_isInCask Q (nI b) = some (Q, if (bs b).2.1.2.1 < 10000 then 0 else 1) := by
  refine zev_of ?_
  unfold mf_isInCask
  simp only [zev_b1, zev_mbd, zev_some, zev_b0, zev_bo, true_and, and_true, mev_ai (show b < 2 ^ 31 by omega), mln_2, mln_3, mln_4, mln_5, mln_6, mln_7, mln_8, mln_9, mln_10, mln_11, mln_12, mln_13, mln_15, mln_16, mln_17, mln_24, mln_25, mln_26, mln_27, mln_28, mln_29, mln_30, mln_31, mln_32, mln_34, mln_35, mln_37, mln_42, mln_49, mln_50, mln_51, mln_52, mln_53, mln_54, mln_55, mln_56, mln_57, mln_58, mln_59, mln_61, mln_62, mln_63, mln_65, mln_66, mln_68, mln_70, mln_71, mln_72, mln_73, mln_74, show b < 1000 by omega, h.pl hb]
  split <;> simp only [zev_b1, zev_mbd, zev_some, zev_b0, zev_bo, true_and, and_true]
theorem m_readPlace {Q : Mq} {ro : Nat → Rw} (h : mRs Q 11 12 13 ro) (r p : Int32) : mf_readPlace Q r p = some (Q, rpl ro r p) := by
  refine zev_of ?_
  unfold mf_readPlace mf_readPlace_J38 rpl
  by_cases h1 : r < 0
  · simp only [if_pos h1, zev_b1, zev_mbd, zev_some, zev_b0, zev_bo, true_and, and_true]
  · by_cases h2 : r < 20
    · obtain ⟨j, hj, rfl⟩ := nI_of h1
      have hj2 : j < 20 := (nI_ltI hj (show 20 < 2 ^ 31 by decide)).mp h2
      rw [if_neg h1, if_pos h2, if_neg h1, if_pos h2, nI_clamp hj]
      rcases h j hj2 with ⟨e1, e2, e3⟩ | ⟨k, ps, e1, e2, e3, e4, e5, e6⟩
      · rw [e1]
        simp only [zev_b1, zev_mbd, zev_some, zev_b0, zev_bo, true_and, and_true, mev_ai hj, mln_2, mln_3, mln_4, mln_5, mln_6, mln_7, mln_8, mln_9, mln_10, mln_11, mln_12, mln_13, mln_15, mln_16, mln_17, mln_24, mln_25, mln_26, mln_27, mln_28, mln_29, mln_30, mln_31, mln_32, mln_34, mln_35, mln_37, mln_42, mln_49, mln_50, mln_51, mln_52, mln_53, mln_54, mln_55, mln_56, mln_57, mln_58, mln_59, mln_61, mln_62, mln_63, mln_65, mln_66, mln_68, mln_70, mln_71, mln_72, mln_73, mln_74, hj2, e2, show ¬ (0 : Int32) ≤ -1 by decide, if_false]
      · rw [e1]
        simp only [zev_b1, zev_mbd, zev_some, zev_b0, zev_bo, true_and, and_true, mev_ai hj, mln_2, mln_3, mln_4, mln_5, mln_6, mln_7, mln_8, mln_9, mln_10, mln_11, mln_12, mln_13, mln_15, mln_16, mln_17, mln_24, mln_25, mln_26, mln_27, mln_28, mln_29, mln_30, mln_31, mln_32, mln_34, mln_35, mln_37, mln_42, mln_49, mln_50, mln_51, mln_52, mln_53, mln_54, mln_55, mln_56, mln_57, mln_58, mln_59, mln_61, mln_62, mln_63, mln_65, mln_66, mln_68, mln_70, mln_71, mln_72, mln_73, mln_74, hj2, e2, if_pos (Int32.not_lt.mp e3.1)]
        by_cases h3 : p < 0
        · simp only [if_pos h3, zev_b1, zev_mbd, zev_some, zev_b0, zev_bo, true_and, and_true]
        · simp only [if_neg h3, zev_b1, zev_mbd, zev_some, zev_b0, zev_bo, true_and, and_true, mev_ai hj, mln_2, mln_3, mln_4, mln_5, mln_6, mln_7, mln_8, mln_9, mln_10, mln_11, mln_12, mln_13, mln_15, mln_16, mln_17, mln_24, mln_25, mln_26, mln_27, mln_28, mln_29, mln_30, mln_31, mln_32, mln_34, mln_35, mln_37, mln_42, mln_49, mln_50, mln_51, mln_52, mln_53, mln_54, mln_55, mln_56, mln_57, mln_58, mln_59, mln_61, mln_62, mln_63, mln_65, mln_66, mln_68, mln_70, mln_71, mln_72, mln_73, mln_74, hj2, e4]
          by_cases h4 : p < nI ps.length
          · simp only [if_pos h4, zev_b1, zev_mbd, zev_some, zev_b0, zev_bo, true_and, and_true]
          · simp only [if_neg h4, zev_b1, zev_mbd, zev_some, zev_b0, zev_bo, true_and, and_true]
    · simp only [if_neg h1, if_neg h2, zev_b1, zev_mbd, zev_some, zev_b0, zev_bo, true_and, and_true]
/-- a body ran -/
theorem m_ran {Q : Mq} {tc : List Int32} (h : mTc Q tc) (v : Int32) : zev (mf_ran Q v) (fun y => mTc y.1 (tapp 200 tc [v]) ∧ qfr Q y.1 [41, 42]) := by
  obtain ⟨h1, h2, h3⟩ := h
  unfold mf_ran
  rw [h1]
  by_cases e : tc.length = 200
  · rw [if_pos (by rw [e]; rfl), zev_some]
    have : tapp 200 tc [v] = tc := by unfold tapp; rw [List.take_append_of_le_length (by omega), List.take_of_length_le (by omega)]
    rw [this]
    exact ⟨⟨h1, h2, h3⟩, qfr.rf⟩
  · rw [if_neg (show ¬ nI tc.length = 200 from fun q => e ((nI_eq (by omega) (show 200 < 2 ^ 31 by decide)).mp q))]
    have : tapp 200 tc [v] = tc ++ [v] := by unfold tapp; rw [List.take_of_length_le (by simp; omega)]
    rw [this]
    simp only [zev_b1, zev_mbd, zev_some, zev_b0, zev_bo, true_and, and_true, mev_si (show tc.length < 2 ^ 31 by omega), mln_2, mln_3, mln_4, mln_5, mln_6, mln_7, mln_8, mln_9, mln_10, mln_11, mln_12, mln_13, mln_15, mln_16, mln_17, mln_24, mln_25, mln_26, mln_27, mln_28, mln_29, mln_30, mln_31, mln_32, mln_34, mln_35, mln_37, mln_42, mln_49, mln_50, mln_51, mln_52, mln_53, mln_54, mln_55, mln_56, mln_57, mln_58, mln_59, mln_61, mln_62, mln_63, mln_65, mln_66, mln_68, mln_70, mln_71, mln_72, mln_73, mln_74, show tc.length < 200 by omega, qi_1, show ¬ (41 = 42) by decide, false_and, if_false, h1]
    refine ⟨⟨?_, by rw [List.length_append]; simp; omega, fun i w hw => ?_⟩, (qfr.qi (by decide)).tr0 (qfr.qi (by decide))⟩
    · rw [qi_1, if_pos ⟨rfl, rfl⟩, List.length_append, nI_1]; rfl
    · rw [qi_1, if_neg (by omega), qi_1]
      by_cases hi : i < tc.length
      · rw [if_neg (by omega)]
        rw [List.getElem?_append_left hi] at hw
        exact h3 i w hw
      · rw [List.getElem?_append_right (by omega)] at hw
        have hi2 := (List.getElem?_eq_some_iff.mp hw).1
        simp only [List.length_cons, List.length_nil] at hi2
        have hie : i - tc.length = 0 := by omega
        rw [hie] at hw
        cases hw
        rw [if_pos ⟨rfl, by omega⟩]
theorem tapp1 {tc a b : List Int32} : tapp 200 (tapp 200 tc a) b = tapp 200 tc (a ++ b) := tapp_tapp
theorem wsum_snoc : ∀ (l : Wn) (q : Int32 × Int64), wsum (l ++ [q]) = wsum l + q.2
  | [], q => by show q.2 + 0 = 0 + q.2; rw [Int64.add_zero, Int64.zero_add]
  | y :: l, q => by rw [List.cons_append, wsum_cons, wsum_cons, wsum_snoc l q, Int64.add_assoc]
theorem m_inVessel {Q : Mq} {nb b : Nat} {bs : Nat → Bv} (h : mBs Q nb bs) (hn : nb ≤ 1000) (hb : b < nb) (h6 : (bs b).2.1.2.2.2.length ≤ 60) : mf_inVessel Q (nI b) = some (Q, wsum (bs b).2.1.2.2.2) := by
  refine zev_of ?_
  unfold mf_inVessel
  rw [zev_b1, nI_x60]
  refine zev_up (τ := Mq × Int64 × Int32) (fun i (z : Mq × Int64 × Int32) => z = (Q, wsum ((bs b).2.1.2.2.2.take i), nI (60 * b + i))) (bs b).2.1.2.2.2.length (Nat.zero_le _) rfl ?_ ?_
  · rintro i z hi rfl
    obtain ⟨q, hq⟩ := getElem?_lt hi
    unfold mf_inVessel_L8
    simp only [zev_b1, zev_mbd, zev_some, zev_b0, zev_bo, true_and, and_true, mev_ai (show b < 2 ^ 31 by omega), mln_2, mln_3, mln_4, mln_5, mln_6, mln_7, mln_8, mln_9, mln_10, mln_11, mln_12, mln_13, mln_15, mln_16, mln_17, mln_24, mln_25, mln_26, mln_27, mln_28, mln_29, mln_30, mln_31, mln_32, mln_34, mln_35, mln_37, mln_42, mln_49, mln_50, mln_51, mln_52, mln_53, mln_54, mln_55, mln_56, mln_57, mln_58, mln_59, mln_61, mln_62, mln_63, mln_65, mln_66, mln_68, mln_70, mln_71, mln_72, mln_73, mln_74, show b < 1000 by omega, h.ln hb, nI_x4, nI_x5, nI_x13, nI_x16, nI_x20, nI_x60, nI_x100, nI_x48r, nI_add, nI_1, if_neg (nI_ge (show 60 * b + i < 60 * b + (bs b).2.1.2.2.2.length by omega) (by omega)), mev_aj (show 60 * b + i < 2 ^ 31 by omega), show 60 * b + i < 60000 by omega, (h.wi hb hq).2]
    exact ⟨_, rfl, by rw [take_snoc hq, wsum_snoc]; rfl⟩
  · rintro z rfl
    unfold mf_inVessel_L8
    simp only [zev_b1, zev_mbd, zev_some, zev_b0, zev_bo, true_and, and_true, mev_ai (show b < 2 ^ 31 by omega), mln_2, mln_3, mln_4, mln_5, mln_6, mln_7, mln_8, mln_9, mln_10, mln_11, mln_12, mln_13, mln_15, mln_16, mln_17, mln_24, mln_25, mln_26, mln_27, mln_28, mln_29, mln_30, mln_31, mln_32, mln_34, mln_35, mln_37, mln_42, mln_49, mln_50, mln_51, mln_52, mln_53, mln_54, mln_55, mln_56, mln_57, mln_58, mln_59, mln_61, mln_62, mln_63, mln_65, mln_66, mln_68, mln_70, mln_71, mln_72, mln_73, mln_74, show b < 1000 by omega, h.ln hb, nI_x4, nI_x5, nI_x13, nI_x16, nI_x20, nI_x60, nI_x100, nI_x48r, nI_add, nI_1, if_pos (nI_le (Nat.le_refl (60 * b + (bs b).2.1.2.2.2.length)) (by omega))]
    exact ⟨_, rfl, by dsimp only; rw [List.take_of_length_le (Nat.le_refl _)]⟩
theorem m_inAll {Q : Mq} {nb b : Nat} {bs : Nat → Bv} (h : mBs Q nb bs) (hn : nb ≤ 1000) (hb : b < nb) (h6 : I60 nb bs) (hI : Imem nb bs) (hl : (bms (bs b)).length = (bs b).2.1.2.2.1) (h4 : (bs b).2.1.2.2.1 ≤ 4) (h5 : (bs b).1.1 = 5 → (bs b).2.1.2.2.2 = []) (h0 : (bs b).1.1 ≠ 5 → bms (bs b) = []) : mf_inAll Q (nI b) = some (Q, bhas bs (bs b)) := by
  refine zev_of ?_
  unfold mf_inAll bhas
  simp only [zev_b1, zev_mbd, zev_some, zev_b0, zev_bo, true_and, and_true, mev_ai (show b < 2 ^ 31 by omega), mln_2, mln_3, mln_4, mln_5, mln_6, mln_7, mln_8, mln_9, mln_10, mln_11, mln_12, mln_13, mln_15, mln_16, mln_17, mln_24, mln_25, mln_26, mln_27, mln_28, mln_29, mln_30, mln_31, mln_32, mln_34, mln_35, mln_37, mln_42, mln_49, mln_50, mln_51, mln_52, mln_53, mln_54, mln_55, mln_56, mln_57, mln_58, mln_59, mln_61, mln_62, mln_63, mln_65, mln_66, mln_68, mln_70, mln_71, mln_72, mln_73, mln_74, show b < 1000 by omega, h.kd hb]
  by_cases e : (bs b).1.1 = 5
  · rw [if_pos e, zev_b1, h5 e]
    refine zev_up (τ := Mq × Int64 × Int32) (fun i (z : Mq × Int64 × Int32) => z = (Q, ((bms (bs b)).take i).foldl (fun a m => a + wsum (bs m).2.1.2.2.2) 0, nI i)) (bs b).2.1.2.2.1 (Nat.zero_le _) rfl ?_ ?_
    · rintro i z hi rfl
      obtain ⟨m, hm⟩ := getElem?_lt (l := bms (bs b)) (i := i) (by omega)
      have hmn := hI b hb m (List.mem_of_getElem? hm)
      unfold mf_inAll_L21
      simp only [zev_b1, zev_mbd, zev_some, zev_b0, zev_bo, true_and, and_true, mev_ai (show b < 2 ^ 31 by omega), mln_2, mln_3, mln_4, mln_5, mln_6, mln_7, mln_8, mln_9, mln_10, mln_11, mln_12, mln_13, mln_15, mln_16, mln_17, mln_24, mln_25, mln_26, mln_27, mln_28, mln_29, mln_30, mln_31, mln_32, mln_34, mln_35, mln_37, mln_42, mln_49, mln_50, mln_51, mln_52, mln_53, mln_54, mln_55, mln_56, mln_57, mln_58, mln_59, mln_61, mln_62, mln_63, mln_65, mln_66, mln_68, mln_70, mln_71, mln_72, mln_73, mln_74, show b < 1000 by omega, h.mc hb, if_neg (nI_ge hi (show (bs b).2.1.2.2.1 < 2 ^ 31 by omega)), nI_x4, nI_x5, nI_x13, nI_x16, nI_x20, nI_x60, nI_x100, nI_x48r, nI_add, nI_1, mev_ai (show 4 * b + i < 2 ^ 31 by omega), show 4 * b + i < 4000 by omega, h.me hb hm, zev_eq (m_inVessel h hn hmn.1 (h6 m hmn.1).1)]
      exact ⟨_, rfl, by rw [take_snoc hm, List.foldl_append]; rfl⟩
    · rintro z rfl
      unfold mf_inAll_L21
      simp only [zev_b1, zev_mbd, zev_some, zev_b0, zev_bo, true_and, and_true, mev_ai (show b < 2 ^ 31 by omega), mln_2, mln_3, mln_4, mln_5, mln_6, mln_7, mln_8, mln_9, mln_10, mln_11, mln_12, mln_13, mln_15, mln_16, mln_17, mln_24, mln_25, mln_26, mln_27, mln_28, mln_29, mln_30, mln_31, mln_32, mln_34, mln_35, mln_37, mln_42, mln_49, mln_50, mln_51, mln_52, mln_53, mln_54, mln_55, mln_56, mln_57, mln_58, mln_59, mln_61, mln_62, mln_63, mln_65, mln_66, mln_68, mln_70, mln_71, mln_72, mln_73, mln_74, show b < 1000 by omega, h.mc hb, if_pos (nI_le (Nat.le_refl (bs b).2.1.2.2.1) (show (bs b).2.1.2.2.1 < 2 ^ 31 by omega))]
      exact ⟨_, rfl, by dsimp only; rw [← hl, List.take_of_length_le (Nat.le_refl _)]; rfl⟩
  · rw [if_neg e, h0 e]
    simp only [zev_b1, zev_mbd, zev_some, zev_b0, zev_bo, true_and, and_true, zev_eq (m_inVessel h hn hb (h6 b hb).1), List.foldl_nil]
/-! MOST -/
theorem zmaxl_al (x : Int64) : (if 0 ≤ x then x else 0) = zmaxl x 0 := by
  unfold zmaxl
  by_cases h : 0 ≤ x
  · rw [if_pos h]
    by_cases h2 : 0 < x
    · rw [if_pos h2]
    · rw [if_neg h2]; exact Int64.le_antisymm (Int64.not_lt.mp h2) h
  · rw [if_neg h, if_neg (fun q => h (Int64.le_of_lt q))]
theorem m_atLeast0 {Q : Mq} (x : Int64) : mf_atLeast0 Q x = some (Q, zmaxl x 0) := by
  rw [← zmaxl_al]
  unfold mf_atLeast0
  split <;> rfl
