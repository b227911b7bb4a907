/-! The reference: keeping, taking back. -/
theorem m_keepe {Q : Mq} {b n : Nat} (h6 : Q.1 6 b = nI n) (hn4 : n ≤ 4) (hb : b < 1000) : zev (zwhile (mf_keep_L93 (nI b)) (Q, 0)) (fun y => (∀ k, k < n → y.1.1 52 (4 * b + k) = Q.1 7 (4 * b + k)) ∧ (∀ j, j < 4 * b ∨ 4 * b + 4 ≤ j → y.1.1 52 j = Q.1 52 j) ∧ qfr Q y.1 [52]) := by
  have hb1 : b < 2 ^ 31 := by omega
  refine zev_up (τ := Mq × Int32) (fun i (z : Mq × Int32) => ∃ Q2, z = (Q2, nI i) ∧ (∀ k, k < i → Q2.1 52 (4 * b + k) = Q.1 7 (4 * b + k)) ∧ (∀ j, j < 4 * b ∨ 4 * b + 4 ≤ j → Q2.1 52 j = Q.1 52 j) ∧ qfr Q Q2 [52]) n (Nat.zero_le _) ⟨Q, rfl, fun k hk => by omega, fun _ _ => rfl, qfr.rf⟩ ?_ ?_
  · rintro i z hi ⟨Q2, rfl, a2, o2, f2⟩
    unfold mf_keep_L93
    simp only [zev_b1, zev_mbd, zev_some, zev_b0, zev_bo, true_and, and_true, mev_ai hb1, mln_2, mln_3, mln_4, mln_5, mln_6, mln_7, mln_8, mln_9, mln_10, mln_11, mln_12, mln_13, mln_15, mln_16, mln_17, mln_24, mln_25, mln_26, mln_27, mln_28, mln_29, mln_30, mln_31, mln_32, mln_34, mln_35, mln_37, mln_42, mln_49, mln_50, mln_51, mln_52, mln_53, mln_54, mln_55, mln_56, mln_57, mln_58, mln_59, mln_61, mln_62, mln_63, mln_65, mln_66, mln_68, mln_70, mln_71, mln_72, mln_73, mln_74, hb, f2.i 6 (by decide), h6, if_neg (nI_ge hi (show n < 2 ^ 31 by omega)), nI_x4, nI_x5, nI_x13, nI_x16, nI_x20, nI_x60, nI_x100, nI_x48r, nI_add, nI_1, mev_ai (show 4 * b + i < 2 ^ 31 by omega), mev_si (show 4 * b + i < 2 ^ 31 by omega), show 4 * b + i < 4000 by omega, f2.i 7 (by decide)]
    refine ⟨_, rfl, _, rfl, fun k hk => ?_, fun j hj => ?_, f2.tr0 (qfr.qi (by decide))⟩
    · rw [qi_1]
      by_cases e : k = i
      · rw [e, if_pos ⟨rfl, rfl⟩]
      · rw [if_neg (by omega)]; exact a2 k (by omega)
    · rw [qi_1, if_neg (by omega)]; exact o2 j hj
  · rintro z ⟨Q2, rfl, a2, o2, f2⟩
    unfold mf_keep_L93
    simp only [zev_b1, zev_mbd, zev_some, zev_b0, zev_bo, true_and, and_true, mev_ai hb1, mln_2, mln_3, mln_4, mln_5, mln_6, mln_7, mln_8, mln_9, mln_10, mln_11, mln_12, mln_13, mln_15, mln_16, mln_17, mln_24, mln_25, mln_26, mln_27, mln_28, mln_29, mln_30, mln_31, mln_32, mln_34, mln_35, mln_37, mln_42, mln_49, mln_50, mln_51, mln_52, mln_53, mln_54, mln_55, mln_56, mln_57, mln_58, mln_59, mln_61, mln_62, mln_63, mln_65, mln_66, mln_68, mln_70, mln_71, mln_72, mln_73, mln_74, hb, f2.i 6 (by decide), h6, if_pos (nI_le (Nat.le_refl n) (show n < 2 ^ 31 by omega))]
    exact ⟨_, rfl, a2, o2, f2⟩
theorem m_keepw {Q : Mq} {b n : Nat} (h8 : Q.1 8 b = nI n) (hn4 : n ≤ 60) (hb : b < 1000) : zev (zwhile (mf_keep_L146 (nI b)) (Q, nI (60 * b))) (fun y => (∀ k, k < n → y.1.1 54 (60 * b + k) = Q.1 9 (60 * b + k) ∧ y.1.2 55 (60 * b + k) = Q.2 10 (60 * b + k)) ∧ (∀ j, j < 60 * b ∨ 60 * b + 60 ≤ j → y.1.1 54 j = Q.1 54 j ∧ y.1.2 55 j = Q.2 55 j) ∧ qfr Q y.1 [54, 55]) := by
  have hb1 : b < 2 ^ 31 := by omega
  refine zev_up (τ := Mq × Int32) (fun i (z : Mq × Int32) => ∃ Q2, z = (Q2, nI (60 * b + i)) ∧ (∀ k, k < i → Q2.1 54 (60 * b + k) = Q.1 9 (60 * b + k) ∧ Q2.2 55 (60 * b + k) = Q.2 10 (60 * b + k)) ∧ (∀ j, j < 60 * b ∨ 60 * b + 60 ≤ j → Q2.1 54 j = Q.1 54 j ∧ Q2.2 55 j = Q.2 55 j) ∧ qfr Q Q2 [54, 55]) n (Nat.zero_le _) ⟨Q, rfl, fun k hk => by omega, fun _ _ => ⟨rfl, rfl⟩, qfr.rf⟩ ?_ ?_
  · rintro i z hi ⟨Q2, rfl, a2, o2, f2⟩
    unfold mf_keep_L146
    simp only [zev_b1, zev_mbd, zev_some, zev_b0, zev_bo, true_and, and_true, mev_ai hb1, mln_2, mln_3, mln_4, mln_5, mln_6, mln_7, mln_8, mln_9, mln_10, mln_11, mln_12, mln_13, mln_15, mln_16, mln_17, mln_24, mln_25, mln_26, mln_27, mln_28, mln_29, mln_30, mln_31, mln_32, mln_34, mln_35, mln_37, mln_42, mln_49, mln_50, mln_51, mln_52, mln_53, mln_54, mln_55, mln_56, mln_57, mln_58, mln_59, mln_61, mln_62, mln_63, mln_65, mln_66, mln_68, mln_70, mln_71, mln_72, mln_73, mln_74, hb, f2.i 8 (by decide), h8, nI_x4, nI_x5, nI_x13, nI_x16, nI_x20, nI_x60, nI_x100, nI_x48r, nI_add, nI_1, if_neg (nI_ge (show 60 * b + i < 60 * b + n by omega) (show 60 * b + n < 2 ^ 31 by omega)), mev_ai (show 60 * b + i < 2 ^ 31 by omega), mev_si (show 60 * b + i < 2 ^ 31 by omega), mev_aj (show 60 * b + i < 2 ^ 31 by omega), mev_sj (show 60 * b + i < 2 ^ 31 by omega), show 60 * b + i < 60000 by omega, f2.i 9 (by decide), qi_2, f2.j 10 (by decide)]
    refine ⟨_, rfl, _, rfl, fun k hk => ?_, fun j hj => ?_, (f2.tr0 (qfr.qi (by decide))).tr0 (qfr.qj (by decide))⟩
    · rw [qj_1, qi_1, qj_2, qi_2]
      by_cases e : k = i
      · rw [e, if_pos ⟨rfl, rfl⟩, if_pos ⟨rfl, rfl⟩]; exact ⟨rfl, rfl⟩
      · rw [if_neg (by omega), if_neg (by omega)]; exact a2 k (by omega)
    · rw [qj_1, qi_1, qj_2, qi_2, if_neg (by omega), if_neg (by omega)]; exact o2 j hj
  · rintro z ⟨Q2, rfl, a2, o2, f2⟩
    unfold mf_keep_L146
    simp only [zev_b1, zev_mbd, zev_some, zev_b0, zev_bo, true_and, and_true, mev_ai hb1, mln_2, mln_3, mln_4, mln_5, mln_6, mln_7, mln_8, mln_9, mln_10, mln_11, mln_12, mln_13, mln_15, mln_16, mln_17, mln_24, mln_25, mln_26, mln_27, mln_28, mln_29, mln_30, mln_31, mln_32, mln_34, mln_35, mln_37, mln_42, mln_49, mln_50, mln_51, mln_52, mln_53, mln_54, mln_55, mln_56, mln_57, mln_58, mln_59, mln_61, mln_62, mln_63, mln_65, mln_66, mln_68, mln_70, mln_71, mln_72, mln_73, mln_74, hb, f2.i 8 (by decide), h8, nI_x4, nI_x5, nI_x13, nI_x16, nI_x20, nI_x60, nI_x100, nI_x48r, nI_add, nI_1, if_pos (nI_le (Nat.le_refl (60 * b + n)) (show 60 * b + n < 2 ^ 31 by omega))]
    exact ⟨_, rfl, a2, o2, f2⟩
theorem m_keepb {Q : Mq} {nb : Nat} {v : Nat → Lv} {ms : Nat → List Nat} (h1 : Q.1 1 0 = nI nb) (hn : nb ≤ 1000) (hv : ∀ b, b < nb → mV Q 4 5 6 7 8 9 10 b (v b) (ms b)) (hm : ∀ b, b < nb → (v b).2.2.1 = (ms b).length ∧ (v b).2.2.1 ≤ 4 ∧ (v b).2.2.2.length ≤ 60) : zev (zwhile mf_keep_L47 (Q, 0)) (fun y => (∀ b, b < nb → mV y.1 49 50 51 52 53 54 55 b (v b) (ms b)) ∧ qfr Q y.1 [49, 50, 51, 52, 53, 54, 55]) := by
  refine zev_up (τ := Mq × Int32) (fun i (z : Mq × Int32) => ∃ Q2, z = (Q2, nI i) ∧ (∀ b, b < i → mV Q2 49 50 51 52 53 54 55 b (v b) (ms b)) ∧ qfr Q Q2 [49, 50, 51, 52, 53, 54, 55]) nb (Nat.zero_le _) ⟨Q, rfl, fun b hb => by omega, qfr.rf⟩ ?_ ?_
  · rintro i z hi ⟨Q2, rfl, a2, f2⟩
    have hi1 : i < 2 ^ 31 := by omega
    have hi2 : i < 1000 := by omega
    obtain ⟨s1, s2, s3, s4, s5, s6⟩ := (hv i hi).fr f2 (by decide)
    obtain ⟨m1, m2, m3⟩ := hm i hi
    unfold mf_keep_L47
    simp only [f2.i 1 (by decide), h1, if_neg (nI_ge hi (show nb < 2 ^ 31 by omega)), zev_b1, zev_mbd, zev_some, zev_b0, zev_bo, true_and, and_true, mev_ai hi1, mev_si hi1, mln_2, mln_3, mln_4, mln_5, mln_6, mln_7, mln_8, mln_9, mln_10, mln_11, mln_12, mln_13, mln_15, mln_16, mln_17, mln_24, mln_25, mln_26, mln_27, mln_28, mln_29, mln_30, mln_31, mln_32, mln_34, mln_35, mln_37, mln_42, mln_49, mln_50, mln_51, mln_52, mln_53, mln_54, mln_55, mln_56, mln_57, mln_58, mln_59, mln_61, mln_62, mln_63, mln_65, mln_66, mln_68, mln_70, mln_71, mln_72, mln_73, mln_74, hi2, s1, qi_1, show ¬ (5 = 49) by decide, show ¬ (6 = 50) by decide, show ¬ (6 = 49) by decide, false_and, if_false, s2, s3]
    have f3 : qfr Q2 (qi (qi (qi Q2 49 i (v i).1) 50 i (v i).2.1) 51 i (nI (v i).2.2.1)) [49, 50, 51, 52, 53, 54, 55] := ((qfr.qi (by decide)).tr0 (qfr.qi (by decide))).tr0 (qfr.qi (by decide))
    have c3 : ∀ j, (qi (qi (qi Q2 49 i (v i).1) 50 i (v i).2.1) 51 i (nI (v i).2.2.1)).1 49 j = if j = i then (v i).1 else Q2.1 49 j := fun j => by simp only [qi_1, show ¬ (49 = 51) by decide, show ¬ (49 = 50) by decide, false_and, if_false, true_and]
    have p3 : ∀ j, (qi (qi (qi Q2 49 i (v i).1) 50 i (v i).2.1) 51 i (nI (v i).2.2.1)).1 50 j = if j = i then (v i).2.1 else Q2.1 50 j := fun j => by simp only [qi_1, show ¬ (50 = 51) by decide, show ¬ (50 = 49) by decide, false_and, if_false, true_and]
    have d3 : ∀ j, (qi (qi (qi Q2 49 i (v i).1) 50 i (v i).2.1) 51 i (nI (v i).2.2.1)).1 51 j = if j = i then nI (v i).2.2.1 else Q2.1 51 j := fun j => by simp only [qi_1, show ¬ (51 = 50) by decide, show ¬ (51 = 49) by decide, false_and, if_false, true_and]
    have g3 : qfr Q2 (qi (qi (qi Q2 49 i (v i).1) 50 i (v i).2.1) 51 i (nI (v i).2.2.1)) [49, 50, 51] := ((qfr.qi (by decide)).tr0 (qfr.qi (by decide))).tr0 (qfr.qi (by decide))
    generalize qi (qi (qi Q2 49 i (v i).1) 50 i (v i).2.1) 51 i (nI (v i).2.2.1) = Q3 at f3 c3 p3 d3 g3 ⊢
    have h6 : Q3.1 6 i = nI (v i).2.2.1 := by first | (rw [d3, if_pos rfl]) | (rw [g3.i 6 (by decide)]; exact s3)
    refine zev_mono (m_keepe h6 m2 hi2) ?_
    rintro ⟨Q4, w4⟩ ⟨a4, o4, f4⟩
    dsimp only at a4 o4 f4 ⊢
    have n4 : Q4.1 8 i = nI (v i).2.2.2.length := by rw [f4.i 8 (by decide), g3.i 8 (by decide)]; exact s4
    simp only [zev_b1, zev_mbd, zev_some, zev_b0, zev_bo, true_and, and_true, mev_ai hi1, mev_si hi1, mln_2, mln_3, mln_4, mln_5, mln_6, mln_7, mln_8, mln_9, mln_10, mln_11, mln_12, mln_13, mln_15, mln_16, mln_17, mln_24, mln_25, mln_26, mln_27, mln_28, mln_29, mln_30, mln_31, mln_32, mln_34, mln_35, mln_37, mln_42, mln_49, mln_50, mln_51, mln_52, mln_53, mln_54, mln_55, mln_56, mln_57, mln_58, mln_59, mln_61, mln_62, mln_63, mln_65, mln_66, mln_68, mln_70, mln_71, mln_72, mln_73, mln_74, hi2, n4, nI_x4, nI_x5, nI_x13, nI_x16, nI_x20, nI_x60, nI_x100, nI_x48r, nI_add, nI_1]
    have f5 : qfr Q4 (qi Q4 53 i (nI (v i).2.2.2.length)) [53] := qfr.qi (by decide)
    have d5 : ∀ j, (qi Q4 53 i (nI (v i).2.2.2.length)).1 53 j = if j = i then nI (v i).2.2.2.length else Q4.1 53 j := fun j => by simp only [qi_1, true_and]
    generalize qi Q4 53 i (nI (v i).2.2.2.length) = Q5 at f5 d5 ⊢
    have h8 : Q5.1 8 i = nI (v i).2.2.2.length := by first | (rw [d5, if_pos rfl]) | (rw [f5.i 8 (by decide)]; exact n4)
    refine zev_mono (m_keepw h8 m3 hi2) ?_
    rintro ⟨Q6, w6⟩ ⟨a6, o6, f6⟩
    dsimp only at a6 o6 f6 ⊢
    refine ⟨_, rfl, Q6, by rw [← nI_1], fun b hb => ?_, (f2.tr0 f3).tr0 ((f4.mono (by decide)).tr0 ((f5.mono (by decide)).tr0 (f6.mono (by decide))))⟩
    have x1 : Q6.1 49 b = if b = i then (v i).1 else Q2.1 49 b := by rw [f6.i 49 (by decide), f5.i 49 (by decide), f4.i 49 (by decide), c3]
    have x2 : Q6.1 50 b = if b = i then (v i).2.1 else Q2.1 50 b := by rw [f6.i 50 (by decide), f5.i 50 (by decide), f4.i 50 (by decide), p3]
    have x3 : Q6.1 51 b = if b = i then nI (v i).2.2.1 else Q2.1 51 b := by rw [f6.i 51 (by decide), f5.i 51 (by decide), f4.i 51 (by decide), d3]
    have x4 : Q6.1 53 b = if b = i then nI (v i).2.2.2.length else Q2.1 53 b := by rw [f6.i 53 (by decide), d5, f4.i 53 (by decide), g3.i 53 (by decide)]
    have x5 : Q6.1 52 = Q4.1 52 := by rw [f6.i 52 (by decide), f5.i 52 (by decide)]
    unfold mV
    rw [x1, x2, x3, x4, x5]
    by_cases e : b = i
    · subst e
      rw [if_pos rfl, if_pos rfl, if_pos rfl, if_pos rfl]
      refine ⟨rfl, rfl, rfl, rfl, fun k m hk => ?_, fun k q hk => ?_⟩
      · have hkl := (List.getElem?_eq_some_iff.mp hk).1
        rw [a4 k (by omega), g3.i 7 (by decide)]
        exact s5 k m hk
      · have hkl := (List.getElem?_eq_some_iff.mp hk).1
        rw [(a6 k hkl).1, (a6 k hkl).2, f5.i 9 (by decide), f5.j 10 (by decide), f4.i 9 (by decide), f4.j 10 (by decide), g3.i 9 (by decide), g3.j 10 (by decide)]
        exact s6 k q hk
    · rw [if_neg e, if_neg e, if_neg e, if_neg e]
      obtain ⟨y1, y2, y3, y4, y5, y6⟩ := a2 b (by omega)
      obtain ⟨n1, n2, n3⟩ := hm b (by omega)
      refine ⟨y1, y2, y3, y4, fun k m hk => ?_, fun k q hk => ?_⟩
      · have hkl := (List.getElem?_eq_some_iff.mp hk).1
        rw [o4 _ (by omega), g3.i 52 (by decide)]
        exact y5 k m hk
      · have hkl := (List.getElem?_eq_some_iff.mp hk).1
        rw [(o6 (60 * b + k) (by omega)).1, (o6 (60 * b + k) (by omega)).2, f5.i 54 (by decide), f5.j 55 (by decide), f4.i 54 (by decide), f4.j 55 (by decide), g3.i 54 (by decide), g3.j 55 (by decide)]
        exact y6 k q hk
  · rintro z ⟨Q2, rfl, a2, f2⟩
    unfold mf_keep_L47
    simp only [f2.i 1 (by decide), h1, if_pos (nI_le (Nat.le_refl nb) (show nb < 2 ^ 31 by omega)), zev_b1, zev_mbd, zev_some, zev_b0, zev_bo, true_and, and_true]
    exact ⟨_, rfl, a2, f2⟩
theorem m_keepr {Q : Mq} : zev (zwhile mf_keep_L199 (Q, 0)) (fun y => (∀ r, r < 20 → y.1.1 56 r = Q.1 11 r ∧ y.1.1 57 r = Q.1 12 r) ∧ qfr Q y.1 [56, 57]) := by
  refine zev_up (τ := Mq × Int32) (fun i (z : Mq × Int32) => ∃ Q2, z = (Q2, nI i) ∧ (∀ r, r < i → Q2.1 56 r = Q.1 11 r ∧ Q2.1 57 r = Q.1 12 r) ∧ qfr Q Q2 [56, 57]) 20 (Nat.zero_le _) ⟨Q, rfl, fun r hr => by omega, qfr.rf⟩ ?_ ?_
  · rintro i z hi ⟨Q2, rfl, a2, f2⟩
    unfold mf_keep_L199
    simp only [if_neg (show ¬ (20 : Int32) ≤ nI i from nI_ge (b := 20) hi (by decide)), zev_b1, zev_mbd, zev_some, zev_b0, zev_bo, true_and, and_true, mev_ai (show i < 2 ^ 31 by omega), mev_si (show i < 2 ^ 31 by omega), mln_2, mln_3, mln_4, mln_5, mln_6, mln_7, mln_8, mln_9, mln_10, mln_11, mln_12, mln_13, mln_15, mln_16, mln_17, mln_24, mln_25, mln_26, mln_27, mln_28, mln_29, mln_30, mln_31, mln_32, mln_34, mln_35, mln_37, mln_42, mln_49, mln_50, mln_51, mln_52, mln_53, mln_54, mln_55, mln_56, mln_57, mln_58, mln_59, mln_61, mln_62, mln_63, mln_65, mln_66, mln_68, mln_70, mln_71, mln_72, mln_73, mln_74, hi, f2.i 11 (by decide), qi_1, show ¬ (12 = 56) by decide, false_and, if_false, f2.i 12 (by decide)]
    refine ⟨_, rfl, _, by rw [← nI_1], fun r hr => ?_, (f2.tr0 (qfr.qi (by decide))).tr0 (qfr.qi (by decide))⟩
    simp only [qi_1, show ¬ (56 = 57) by decide, show ¬ (57 = 56) by decide, false_and, if_false, true_and]
    by_cases eq : r = i
    · rw [if_pos eq, if_pos eq, eq]; exact ⟨rfl, rfl⟩
    · rw [if_neg eq, if_neg eq]; exact a2 r (by omega)
  · rintro z ⟨Q2, rfl, a2, f2⟩
    unfold mf_keep_L199
    simp only [if_pos (show (20 : Int32) ≤ nI 20 from by decide), zev_b1, zev_mbd, zev_some, zev_b0, zev_bo, true_and, and_true]
    exact ⟨_, rfl, a2, f2⟩
theorem m_keepl {Q : Mq} : zev (zwhile mf_keep_L237 (Q, 0)) (fun y => (∀ r, r < 1200 → y.1.1 58 r = Q.1 13 r) ∧ qfr Q y.1 [58]) := by
  refine zev_up (τ := Mq × Int32) (fun i (z : Mq × Int32) => ∃ Q2, z = (Q2, nI i) ∧ (∀ r, r < i → Q2.1 58 r = Q.1 13 r) ∧ qfr Q Q2 [58]) 1200 (Nat.zero_le _) ⟨Q, rfl, fun r hr => by omega, qfr.rf⟩ ?_ ?_
  · rintro i z hi ⟨Q2, rfl, a2, f2⟩
    unfold mf_keep_L237
    simp only [if_neg (show ¬ (1200 : Int32) ≤ nI i from nI_ge (b := 1200) hi (by decide)), zev_b1, zev_mbd, zev_some, zev_b0, zev_bo, true_and, and_true, mev_ai (show i < 2 ^ 31 by omega), mev_si (show i < 2 ^ 31 by omega), mln_2, mln_3, mln_4, mln_5, mln_6, mln_7, mln_8, mln_9, mln_10, mln_11, mln_12, mln_13, mln_15, mln_16, mln_17, mln_24, mln_25, mln_26, mln_27, mln_28, mln_29, mln_30, mln_31, mln_32, mln_34, mln_35, mln_37, mln_42, mln_49, mln_50, mln_51, mln_52, mln_53, mln_54, mln_55, mln_56, mln_57, mln_58, mln_59, mln_61, mln_62, mln_63, mln_65, mln_66, mln_68, mln_70, mln_71, mln_72, mln_73, mln_74, hi, f2.i 13 (by decide)]
    refine ⟨_, rfl, _, by rw [← nI_1], fun r hr => ?_, f2.tr0 (qfr.qi (by decide))⟩
    simp only [qi_1, true_and]
    by_cases eq : r = i
    · rw [if_pos eq, eq]
    · rw [if_neg eq]; exact a2 r (by omega)
  · rintro z ⟨Q2, rfl, a2, f2⟩
    unfold mf_keep_L237
    simp only [if_pos (show (1200 : Int32) ≤ nI 1200 from by decide), zev_b1, zev_mbd, zev_some, zev_b0, zev_bo, true_and, and_true]
    exact ⟨_, rfl, a2, f2⟩

theorem m_takeBacke {Q : Mq} {b n : Nat} (h6 : Q.1 6 b = nI n) (hn4 : n ≤ 4) (hb : b < 1000) : zev (zwhile (mf_takeBack_L80 (nI b)) (Q, 0)) (fun y => (∀ k, k < n → y.1.1 7 (4 * b + k) = Q.1 52 (4 * b + k)) ∧ (∀ j, j < 4 * b ∨ 4 * b + 4 ≤ j → y.1.1 7 j = Q.1 7 j) ∧ qfr Q y.1 [7]) := by
  have hb1 : b < 2 ^ 31 := by omega
  refine zev_up (τ := Mq × Int32) (fun i (z : Mq × Int32) => ∃ Q2, z = (Q2, nI i) ∧ (∀ k, k < i → Q2.1 7 (4 * b + k) = Q.1 52 (4 * b + k)) ∧ (∀ j, j < 4 * b ∨ 4 * b + 4 ≤ j → Q2.1 7 j = Q.1 7 j) ∧ qfr Q Q2 [7]) n (Nat.zero_le _) ⟨Q, rfl, fun k hk => by omega, fun _ _ => rfl, qfr.rf⟩ ?_ ?_
  · rintro i z hi ⟨Q2, rfl, a2, o2, f2⟩
    unfold mf_takeBack_L80
    simp only [zev_b1, zev_mbd, zev_some, zev_b0, zev_bo, true_and, and_true, mev_ai hb1, mln_2, mln_3, mln_4, mln_5, mln_6, mln_7, mln_8, mln_9, mln_10, mln_11, mln_12, mln_13, mln_15, mln_16, mln_17, mln_24, mln_25, mln_26, mln_27, mln_28, mln_29, mln_30, mln_31, mln_32, mln_34, mln_35, mln_37, mln_42, mln_49, mln_50, mln_51, mln_52, mln_53, mln_54, mln_55, mln_56, mln_57, mln_58, mln_59, mln_61, mln_62, mln_63, mln_65, mln_66, mln_68, mln_70, mln_71, mln_72, mln_73, mln_74, hb, f2.i 6 (by decide), h6, if_neg (nI_ge hi (show n < 2 ^ 31 by omega)), nI_x4, nI_x5, nI_x13, nI_x16, nI_x20, nI_x60, nI_x100, nI_x48r, nI_add, nI_1, mev_ai (show 4 * b + i < 2 ^ 31 by omega), mev_si (show 4 * b + i < 2 ^ 31 by omega), show 4 * b + i < 4000 by omega, f2.i 52 (by decide)]
    refine ⟨_, rfl, _, rfl, fun k hk => ?_, fun j hj => ?_, f2.tr0 (qfr.qi (by decide))⟩
    · rw [qi_1]
      by_cases e : k = i
      · rw [e, if_pos ⟨rfl, rfl⟩]
      · rw [if_neg (by omega)]; exact a2 k (by omega)
    · rw [qi_1, if_neg (by omega)]; exact o2 j hj
  · rintro z ⟨Q2, rfl, a2, o2, f2⟩
    unfold mf_takeBack_L80
    simp only [zev_b1, zev_mbd, zev_some, zev_b0, zev_bo, true_and, and_true, mev_ai hb1, mln_2, mln_3, mln_4, mln_5, mln_6, mln_7, mln_8, mln_9, mln_10, mln_11, mln_12, mln_13, mln_15, mln_16, mln_17, mln_24, mln_25, mln_26, mln_27, mln_28, mln_29, mln_30, mln_31, mln_32, mln_34, mln_35, mln_37, mln_42, mln_49, mln_50, mln_51, mln_52, mln_53, mln_54, mln_55, mln_56, mln_57, mln_58, mln_59, mln_61, mln_62, mln_63, mln_65, mln_66, mln_68, mln_70, mln_71, mln_72, mln_73, mln_74, hb, f2.i 6 (by decide), h6, if_pos (nI_le (Nat.le_refl n) (show n < 2 ^ 31 by omega))]
    exact ⟨_, rfl, a2, o2, f2⟩
theorem m_takeBackw {Q : Mq} {b n : Nat} (h8 : Q.1 8 b = nI n) (hn4 : n ≤ 60) (hb : b < 1000) : zev (zwhile (mf_takeBack_L133 (nI b)) (Q, nI (60 * b))) (fun y => (∀ k, k < n → y.1.1 9 (60 * b + k) = Q.1 54 (60 * b + k) ∧ y.1.2 10 (60 * b + k) = Q.2 55 (60 * b + k)) ∧ (∀ j, j < 60 * b ∨ 60 * b + 60 ≤ j → y.1.1 9 j = Q.1 9 j ∧ y.1.2 10 j = Q.2 10 j) ∧ qfr Q y.1 [9, 10]) := by
  have hb1 : b < 2 ^ 31 := by omega
  refine zev_up (τ := Mq × Int32) (fun i (z : Mq × Int32) => ∃ Q2, z = (Q2, nI (60 * b + i)) ∧ (∀ k, k < i → Q2.1 9 (60 * b + k) = Q.1 54 (60 * b + k) ∧ Q2.2 10 (60 * b + k) = Q.2 55 (60 * b + k)) ∧ (∀ j, j < 60 * b ∨ 60 * b + 60 ≤ j → Q2.1 9 j = Q.1 9 j ∧ Q2.2 10 j = Q.2 10 j) ∧ qfr Q Q2 [9, 10]) n (Nat.zero_le _) ⟨Q, rfl, fun k hk => by omega, fun _ _ => ⟨rfl, rfl⟩, qfr.rf⟩ ?_ ?_
  · rintro i z hi ⟨Q2, rfl, a2, o2, f2⟩
    unfold mf_takeBack_L133
    simp only [zev_b1, zev_mbd, zev_some, zev_b0, zev_bo, true_and, and_true, mev_ai hb1, mln_2, mln_3, mln_4, mln_5, mln_6, mln_7, mln_8, mln_9, mln_10, mln_11, mln_12, mln_13, mln_15, mln_16, mln_17, mln_24, mln_25, mln_26, mln_27, mln_28, mln_29, mln_30, mln_31, mln_32, mln_34, mln_35, mln_37, mln_42, mln_49, mln_50, mln_51, mln_52, mln_53, mln_54, mln_55, mln_56, mln_57, mln_58, mln_59, mln_61, mln_62, mln_63, mln_65, mln_66, mln_68, mln_70, mln_71, mln_72, mln_73, mln_74, hb, f2.i 8 (by decide), h8, nI_x4, nI_x5, nI_x13, nI_x16, nI_x20, nI_x60, nI_x100, nI_x48r, nI_add, nI_1, if_neg (nI_ge (show 60 * b + i < 60 * b + n by omega) (show 60 * b + n < 2 ^ 31 by omega)), mev_ai (show 60 * b + i < 2 ^ 31 by omega), mev_si (show 60 * b + i < 2 ^ 31 by omega), mev_aj (show 60 * b + i < 2 ^ 31 by omega), mev_sj (show 60 * b + i < 2 ^ 31 by omega), show 60 * b + i < 60000 by omega, f2.i 54 (by decide), qi_2, f2.j 55 (by decide)]
    refine ⟨_, rfl, _, rfl, fun k hk => ?_, fun j hj => ?_, (f2.tr0 (qfr.qi (by decide))).tr0 (qfr.qj (by decide))⟩
    · rw [qj_1, qi_1, qj_2, qi_2]
      by_cases e : k = i
      · rw [e, if_pos ⟨rfl, rfl⟩, if_pos ⟨rfl, rfl⟩]; exact ⟨rfl, rfl⟩
      · rw [if_neg (by omega), if_neg (by omega)]; exact a2 k (by omega)
    · rw [qj_1, qi_1, qj_2, qi_2, if_neg (by omega), if_neg (by omega)]; exact o2 j hj
  · rintro z ⟨Q2, rfl, a2, o2, f2⟩
    unfold mf_takeBack_L133
    simp only [zev_b1, zev_mbd, zev_some, zev_b0, zev_bo, true_and, and_true, mev_ai hb1, mln_2, mln_3, mln_4, mln_5, mln_6, mln_7, mln_8, mln_9, mln_10, mln_11, mln_12, mln_13, mln_15, mln_16, mln_17, mln_24, mln_25, mln_26, mln_27, mln_28, mln_29, mln_30, mln_31, mln_32, mln_34, mln_35, mln_37, mln_42, mln_49, mln_50, mln_51, mln_52, mln_53, mln_54, mln_55, mln_56, mln_57, mln_58, mln_59, mln_61, mln_62, mln_63, mln_65, mln_66, mln_68, mln_70, mln_71, mln_72, mln_73, mln_74, hb, f2.i 8 (by decide), h8, nI_x4, nI_x5, nI_x13, nI_x16, nI_x20, nI_x60, nI_x100, nI_x48r, nI_add, nI_1, if_pos (nI_le (Nat.le_refl (60 * b + n)) (show 60 * b + n < 2 ^ 31 by omega))]
    exact ⟨_, rfl, a2, o2, f2⟩
theorem m_takeBackb {Q : Mq} {nb : Nat} {v : Nat → Lv} {ms : Nat → List Nat} (h1 : Q.1 1 0 = nI nb) (hn : nb ≤ 1000) (hv : ∀ b, b < nb → mV Q 49 50 51 52 53 54 55 b (v b) (ms b)) (hm : ∀ b, b < nb → (v b).2.2.1 = (ms b).length ∧ (v b).2.2.1 ≤ 4 ∧ (v b).2.2.2.length ≤ 60) : zev (zwhile mf_takeBack_L34 (Q, 0)) (fun y => (∀ b, b < nb → mV y.1 4 5 6 7 8 9 10 b (v b) (ms b)) ∧ qfr Q y.1 [4, 5, 6, 7, 8, 9, 10]) := by
  refine zev_up (τ := Mq × Int32) (fun i (z : Mq × Int32) => ∃ Q2, z = (Q2, nI i) ∧ (∀ b, b < i → mV Q2 4 5 6 7 8 9 10 b (v b) (ms b)) ∧ qfr Q Q2 [4, 5, 6, 7, 8, 9, 10]) nb (Nat.zero_le _) ⟨Q, rfl, fun b hb => by omega, qfr.rf⟩ ?_ ?_
  · rintro i z hi ⟨Q2, rfl, a2, f2⟩
    have hi1 : i < 2 ^ 31 := by omega
    have hi2 : i < 1000 := by omega
    obtain ⟨s1, s2, s3, s4, s5, s6⟩ := (hv i hi).fr f2 (by decide)
    obtain ⟨m1, m2, m3⟩ := hm i hi
    unfold mf_takeBack_L34
    simp only [f2.i 1 (by decide), h1, if_neg (nI_ge hi (show nb < 2 ^ 31 by omega)), zev_b1, zev_mbd, zev_some, zev_b0, zev_bo, true_and, and_true, mev_ai hi1, mev_si hi1, mln_2, mln_3, mln_4, mln_5, mln_6, mln_7, mln_8, mln_9, mln_10, mln_11, mln_12, mln_13, mln_15, mln_16, mln_17, mln_24, mln_25, mln_26, mln_27, mln_28, mln_29, mln_30, mln_31, mln_32, mln_34, mln_35, mln_37, mln_42, mln_49, mln_50, mln_51, mln_52, mln_53, mln_54, mln_55, mln_56, mln_57, mln_58, mln_59, mln_61, mln_62, mln_63, mln_65, mln_66, mln_68, mln_70, mln_71, mln_72, mln_73, mln_74, hi2, s1, qi_1, show ¬ (50 = 4) by decide, show ¬ (51 = 5) by decide, show ¬ (51 = 4) by decide, false_and, if_false, s2, s3]
    have f3 : qfr Q2 (qi (qi (qi Q2 4 i (v i).1) 5 i (v i).2.1) 6 i (nI (v i).2.2.1)) [4, 5, 6, 7, 8, 9, 10] := ((qfr.qi (by decide)).tr0 (qfr.qi (by decide))).tr0 (qfr.qi (by decide))
    have c3 : ∀ j, (qi (qi (qi Q2 4 i (v i).1) 5 i (v i).2.1) 6 i (nI (v i).2.2.1)).1 4 j = if j = i then (v i).1 else Q2.1 4 j := fun j => by simp only [qi_1, show ¬ (4 = 6) by decide, show ¬ (4 = 5) by decide, false_and, if_false, true_and]
    have p3 : ∀ j, (qi (qi (qi Q2 4 i (v i).1) 5 i (v i).2.1) 6 i (nI (v i).2.2.1)).1 5 j = if j = i then (v i).2.1 else Q2.1 5 j := fun j => by simp only [qi_1, show ¬ (5 = 6) by decide, show ¬ (5 = 4) by decide, false_and, if_false, true_and]
    have d3 : ∀ j, (qi (qi (qi Q2 4 i (v i).1) 5 i (v i).2.1) 6 i (nI (v i).2.2.1)).1 6 j = if j = i then nI (v i).2.2.1 else Q2.1 6 j := fun j => by simp only [qi_1, show ¬ (6 = 5) by decide, show ¬ (6 = 4) by decide, false_and, if_false, true_and]
    have g3 : qfr Q2 (qi (qi (qi Q2 4 i (v i).1) 5 i (v i).2.1) 6 i (nI (v i).2.2.1)) [4, 5, 6] := ((qfr.qi (by decide)).tr0 (qfr.qi (by decide))).tr0 (qfr.qi (by decide))
    generalize qi (qi (qi Q2 4 i (v i).1) 5 i (v i).2.1) 6 i (nI (v i).2.2.1) = Q3 at f3 c3 p3 d3 g3 ⊢
    have h6 : Q3.1 6 i = nI (v i).2.2.1 := by first | (rw [d3, if_pos rfl]) | (rw [g3.i 6 (by decide)]; exact s3)
    refine zev_mono (m_takeBacke h6 m2 hi2) ?_
    rintro ⟨Q4, w4⟩ ⟨a4, o4, f4⟩
    dsimp only at a4 o4 f4 ⊢
    have n4 : Q4.1 53 i = nI (v i).2.2.2.length := by rw [f4.i 53 (by decide), g3.i 53 (by decide)]; exact s4
    simp only [zev_b1, zev_mbd, zev_some, zev_b0, zev_bo, true_and, and_true, mev_ai hi1, mev_si hi1, mln_2, mln_3, mln_4, mln_5, mln_6, mln_7, mln_8, mln_9, mln_10, mln_11, mln_12, mln_13, mln_15, mln_16, mln_17, mln_24, mln_25, mln_26, mln_27, mln_28, mln_29, mln_30, mln_31, mln_32, mln_34, mln_35, mln_37, mln_42, mln_49, mln_50, mln_51, mln_52, mln_53, mln_54, mln_55, mln_56, mln_57, mln_58, mln_59, mln_61, mln_62, mln_63, mln_65, mln_66, mln_68, mln_70, mln_71, mln_72, mln_73, mln_74, hi2, n4, nI_x4, nI_x5, nI_x13, nI_x16, nI_x20, nI_x60, nI_x100, nI_x48r, nI_add, nI_1]
    have f5 : qfr Q4 (qi Q4 8 i (nI (v i).2.2.2.length)) [8] := qfr.qi (by decide)
    have d5 : ∀ j, (qi Q4 8 i (nI (v i).2.2.2.length)).1 8 j = if j = i then nI (v i).2.2.2.length else Q4.1 8 j := fun j => by simp only [qi_1, true_and]
    generalize qi Q4 8 i (nI (v i).2.2.2.length) = Q5 at f5 d5 ⊢
    have h8 : Q5.1 8 i = nI (v i).2.2.2.length := by first | (rw [d5, if_pos rfl]) | (rw [f5.i 8 (by decide)]; exact n4)
    refine zev_mono (m_takeBackw h8 m3 hi2) ?_
    rintro ⟨Q6, w6⟩ ⟨a6, o6, f6⟩
    dsimp only at a6 o6 f6 ⊢
    refine ⟨_, rfl, Q6, by rw [← nI_1], fun b hb => ?_, (f2.tr0 f3).tr0 ((f4.mono (by decide)).tr0 ((f5.mono (by decide)).tr0 (f6.mono (by decide))))⟩
    have x1 : Q6.1 4 b = if b = i then (v i).1 else Q2.1 4 b := by rw [f6.i 4 (by decide), f5.i 4 (by decide), f4.i 4 (by decide), c3]
    have x2 : Q6.1 5 b = if b = i then (v i).2.1 else Q2.1 5 b := by rw [f6.i 5 (by decide), f5.i 5 (by decide), f4.i 5 (by decide), p3]
    have x3 : Q6.1 6 b = if b = i then nI (v i).2.2.1 else Q2.1 6 b := by rw [f6.i 6 (by decide), f5.i 6 (by decide), f4.i 6 (by decide), d3]
    have x4 : Q6.1 8 b = if b = i then nI (v i).2.2.2.length else Q2.1 8 b := by rw [f6.i 8 (by decide), d5, f4.i 8 (by decide), g3.i 8 (by decide)]
    have x5 : Q6.1 7 = Q4.1 7 := by rw [f6.i 7 (by decide), f5.i 7 (by decide)]
    unfold mV
    rw [x1, x2, x3, x4, x5]
    by_cases e : b = i
    · subst e
      rw [if_pos rfl, if_pos rfl, if_pos rfl, if_pos rfl]
      refine ⟨rfl, rfl, rfl, rfl, fun k m hk => ?_, fun k q hk => ?_⟩
      · have hkl := (List.getElem?_eq_some_iff.mp hk).1
        rw [a4 k (by omega), g3.i 52 (by decide)]
        exact s5 k m hk
      · have hkl := (List.getElem?_eq_some_iff.mp hk).1
        rw [(a6 k hkl).1, (a6 k hkl).2, f5.i 54 (by decide), f5.j 55 (by decide), f4.i 54 (by decide), f4.j 55 (by decide), g3.i 54 (by decide), g3.j 55 (by decide)]
        exact s6 k q hk
    · rw [if_neg e, if_neg e, if_neg e, if_neg e]
      obtain ⟨y1, y2, y3, y4, y5, y6⟩ := a2 b (by omega)
      obtain ⟨n1, n2, n3⟩ := hm b (by omega)
      refine ⟨y1, y2, y3, y4, fun k m hk => ?_, fun k q hk => ?_⟩
      · have hkl := (List.getElem?_eq_some_iff.mp hk).1
        rw [o4 _ (by omega), g3.i 7 (by decide)]
        exact y5 k m hk
      · have hkl := (List.getElem?_eq_some_iff.mp hk).1
        rw [(o6 (60 * b + k) (by omega)).1, (o6 (60 * b + k) (by omega)).2, f5.i 9 (by decide), f5.j 10 (by decide), f4.i 9 (by decide), f4.j 10 (by decide), g3.i 9 (by decide), g3.j 10 (by decide)]
        exact y6 k q hk
  · rintro z ⟨Q2, rfl, a2, f2⟩
    unfold mf_takeBack_L34
    simp only [f2.i 1 (by decide), h1, if_pos (nI_le (Nat.le_refl nb) (show nb < 2 ^ 31 by omega)), zev_b1, zev_mbd, zev_some, zev_b0, zev_bo, true_and, and_true]
    exact ⟨_, rfl, a2, f2⟩
theorem m_takeBackr {Q : Mq} : zev (zwhile mf_takeBack_L186 (Q, 0)) (fun y => (∀ r, r < 20 → y.1.1 11 r = Q.1 56 r ∧ y.1.1 12 r = Q.1 57 r) ∧ qfr Q y.1 [11, 12]) := by
  refine zev_up (τ := Mq × Int32) (fun i (z : Mq × Int32) => ∃ Q2, z = (Q2, nI i) ∧ (∀ r, r < i → Q2.1 11 r = Q.1 56 r ∧ Q2.1 12 r = Q.1 57 r) ∧ qfr Q Q2 [11, 12]) 20 (Nat.zero_le _) ⟨Q, rfl, fun r hr => by omega, qfr.rf⟩ ?_ ?_
  · rintro i z hi ⟨Q2, rfl, a2, f2⟩
    unfold mf_takeBack_L186
    simp only [if_neg (show ¬ (20 : Int32) ≤ nI i from nI_ge (b := 20) hi (by decide)), zev_b1, zev_mbd, zev_some, zev_b0, zev_bo, true_and, and_true, mev_ai (show i < 2 ^ 31 by omega), mev_si (show i < 2 ^ 31 by omega), mln_2, mln_3, mln_4, mln_5, mln_6, mln_7, mln_8, mln_9, mln_10, mln_11, mln_12, mln_13, mln_15, mln_16, mln_17, mln_24, mln_25, mln_26, mln_27, mln_28, mln_29, mln_30, mln_31, mln_32, mln_34, mln_35, mln_37, mln_42, mln_49, mln_50, mln_51, mln_52, mln_53, mln_54, mln_55, mln_56, mln_57, mln_58, mln_59, mln_61, mln_62, mln_63, mln_65, mln_66, mln_68, mln_70, mln_71, mln_72, mln_73, mln_74, hi, f2.i 56 (by decide), qi_1, show ¬ (57 = 11) by decide, false_and, if_false, f2.i 57 (by decide)]
    refine ⟨_, rfl, _, by rw [← nI_1], fun r hr => ?_, (f2.tr0 (qfr.qi (by decide))).tr0 (qfr.qi (by decide))⟩
    simp only [qi_1, show ¬ (11 = 12) by decide, show ¬ (12 = 11) by decide, false_and, if_false, true_and]
    by_cases eq : r = i
    · rw [if_pos eq, if_pos eq, eq]; exact ⟨rfl, rfl⟩
    · rw [if_neg eq, if_neg eq]; exact a2 r (by omega)
  · rintro z ⟨Q2, rfl, a2, f2⟩
    unfold mf_takeBack_L186
    simp only [if_pos (show (20 : Int32) ≤ nI 20 from by decide), zev_b1, zev_mbd, zev_some, zev_b0, zev_bo, true_and, and_true]
    exact ⟨_, rfl, a2, f2⟩
theorem m_takeBackl {Q : Mq} : zev (zwhile mf_takeBack_L224 (Q, 0)) (fun y => (∀ r, r < 1200 → y.1.1 13 r = Q.1 58 r) ∧ qfr Q y.1 [13]) := by
  refine zev_up (τ := Mq × Int32) (fun i (z : Mq × Int32) => ∃ Q2, z = (Q2, nI i) ∧ (∀ r, r < i → Q2.1 13 r = Q.1 58 r) ∧ qfr Q Q2 [13]) 1200 (Nat.zero_le _) ⟨Q, rfl, fun r hr => by omega, qfr.rf⟩ ?_ ?_
  · rintro i z hi ⟨Q2, rfl, a2, f2⟩
    unfold mf_takeBack_L224
    simp only [if_neg (show ¬ (1200 : Int32) ≤ nI i from nI_ge (b := 1200) hi (by decide)), zev_b1, zev_mbd, zev_some, zev_b0, zev_bo, true_and, and_true, mev_ai (show i < 2 ^ 31 by omega), mev_si (show i < 2 ^ 31 by omega), mln_2, mln_3, mln_4, mln_5, mln_6, mln_7, mln_8, mln_9, mln_10, mln_11, mln_12, mln_13, mln_15, mln_16, mln_17, mln_24, mln_25, mln_26, mln_27, mln_28, mln_29, mln_30, mln_31, mln_32, mln_34, mln_35, mln_37, mln_42, mln_49, mln_50, mln_51, mln_52, mln_53, mln_54, mln_55, mln_56, mln_57, mln_58, mln_59, mln_61, mln_62, mln_63, mln_65, mln_66, mln_68, mln_70, mln_71, mln_72, mln_73, mln_74, hi, f2.i 58 (by decide)]
    refine ⟨_, rfl, _, by rw [← nI_1], fun r hr => ?_, f2.tr0 (qfr.qi (by decide))⟩
    simp only [qi_1, true_and]
    by_cases eq : r = i
    · rw [if_pos eq, eq]
    · rw [if_neg eq]; exact a2 r (by omega)
  · rintro z ⟨Q2, rfl, a2, f2⟩
    unfold mf_takeBack_L224
    simp only [if_pos (show (1200 : Int32) ≤ nI 1200 from by decide), zev_b1, zev_mbd, zev_some, zev_b0, zev_bo, true_and, and_true]
    exact ⟨_, rfl, a2, f2⟩
