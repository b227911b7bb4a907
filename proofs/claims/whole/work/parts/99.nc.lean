/-! The reference: MOST, SPARE, RATE, DEAR. -/
theorem kne_12 : (((1 : Int32) = 2) = False) := by decide
theorem kne_13 : (((1 : Int32) = 3) = False) := by decide
theorem kne_14 : (((1 : Int32) = 4) = False) := by decide
theorem kne_15 : (((1 : Int32) = 5) = False) := by decide
theorem kne_16 : (((1 : Int32) = 6) = False) := by decide
theorem kne_21 : (((2 : Int32) = 1) = False) := by decide
theorem kne_23 : (((2 : Int32) = 3) = False) := by decide
theorem kne_24 : (((2 : Int32) = 4) = False) := by decide
theorem kne_25 : (((2 : Int32) = 5) = False) := by decide
theorem kne_26 : (((2 : Int32) = 6) = False) := by decide
theorem kne_31 : (((3 : Int32) = 1) = False) := by decide
theorem kne_32 : (((3 : Int32) = 2) = False) := by decide
theorem kne_34 : (((3 : Int32) = 4) = False) := by decide
theorem kne_35 : (((3 : Int32) = 5) = False) := by decide
theorem kne_36 : (((3 : Int32) = 6) = False) := by decide
theorem kne_41 : (((4 : Int32) = 1) = False) := by decide
theorem kne_42 : (((4 : Int32) = 2) = False) := by decide
theorem kne_43 : (((4 : Int32) = 3) = False) := by decide
theorem kne_45 : (((4 : Int32) = 5) = False) := by decide
theorem kne_46 : (((4 : Int32) = 6) = False) := by decide
theorem kne_51 : (((5 : Int32) = 1) = False) := by decide
theorem kne_52 : (((5 : Int32) = 2) = False) := by decide
theorem kne_53 : (((5 : Int32) = 3) = False) := by decide
theorem kne_54 : (((5 : Int32) = 4) = False) := by decide
theorem kne_56 : (((5 : Int32) = 6) = False) := by decide
theorem kne_61 : (((6 : Int32) = 1) = False) := by decide
theorem kne_62 : (((6 : Int32) = 2) = False) := by decide
theorem kne_63 : (((6 : Int32) = 3) = False) := by decide
theorem kne_64 : (((6 : Int32) = 4) = False) := by decide
theorem kne_65 : (((6 : Int32) = 5) = False) := by decide
def Ikd (nb : Nat) (bs : Nat → Bv) : Prop := ∀ b, b < nb → (bs b).1.1 = 1 ∨ (bs b).1.1 = 2 ∨ (bs b).1.1 = 3 ∨ (bs b).1.1 = 4 ∨ (bs b).1.1 = 5
theorem m_mostV {Q : Mq} {nb b : Nat} {bs : Nat → Bv} {tc : List Int32} (h : mBs Q nb bs) (hT : mTc Q tc) (hn : nb ≤ 1000) (hb : b < nb) (hk : Ikd nb bs) (h5 : (bs b).1.1 ≠ 5) : zev (mf_mostOfVessel Q (nI b)) (fun y => y.2 = vt (bs b).1 ∧ mTc y.1 (tapp 200 tc (vtT (bs b).1)) ∧ qfr Q y.1 [41, 42]) := by
  have hb1 : b < 2 ^ 31 := by omega
  have hb2 : b < 1000 := by omega
  unfold vt vtT
  rcases hk b hb with e | e | e | e | e
  · simp only [mf_mostOfVessel, mf_mostOfVessel_J20, zev_b1, zev_mbd, zev_some, zev_b0, zev_bo, true_and, and_true, mev_ai hb1, mln_2, mln_3, mln_4, mln_5, mln_6, mln_7, mln_8, mln_9, mln_10, mln_11, mln_12, mln_13, mln_15, mln_16, mln_17, mln_24, mln_25, mln_26, mln_27, mln_28, mln_29, mln_30, mln_31, mln_32, mln_34, mln_35, mln_37, mln_42, mln_49, mln_50, mln_51, mln_52, mln_53, mln_54, mln_55, mln_56, mln_57, mln_58, mln_59, mln_61, mln_62, mln_63, mln_65, mln_66, mln_68, mln_70, mln_71, mln_72, mln_73, mln_74, hb2, h.kd hb, e, eq_self, if_true, if_false, kne_12, kne_13, kne_14, kne_15, kne_16, kne_21, kne_23, kne_24, kne_25, kne_26, kne_31, kne_32, kne_34, kne_35, kne_36, kne_41, kne_42, kne_43, kne_45, kne_46, kne_51, kne_52, kne_53, kne_54, kne_56, kne_61, kne_62, kne_63, kne_64, kne_65]
    refine zev_mono (m_ran hT 1) ?_
    rintro ⟨Q1, u⟩ ⟨t1, f1⟩
    dsimp only at t1 f1 ⊢
    simp only [(h.fr f1 (by decide)).sz hb]
    exact ⟨trivial, t1, f1⟩
  · simp only [mf_mostOfVessel, mf_mostOfVessel_J20, zev_b1, zev_mbd, zev_some, zev_b0, zev_bo, true_and, and_true, mev_ai hb1, mln_2, mln_3, mln_4, mln_5, mln_6, mln_7, mln_8, mln_9, mln_10, mln_11, mln_12, mln_13, mln_15, mln_16, mln_17, mln_24, mln_25, mln_26, mln_27, mln_28, mln_29, mln_30, mln_31, mln_32, mln_34, mln_35, mln_37, mln_42, mln_49, mln_50, mln_51, mln_52, mln_53, mln_54, mln_55, mln_56, mln_57, mln_58, mln_59, mln_61, mln_62, mln_63, mln_65, mln_66, mln_68, mln_70, mln_71, mln_72, mln_73, mln_74, hb2, h.kd hb, e, eq_self, if_true, if_false, kne_12, kne_13, kne_14, kne_15, kne_16, kne_21, kne_23, kne_24, kne_25, kne_26, kne_31, kne_32, kne_34, kne_35, kne_36, kne_41, kne_42, kne_43, kne_45, kne_46, kne_51, kne_52, kne_53, kne_54, kne_56, kne_61, kne_62, kne_63, kne_64, kne_65]
    refine zev_mono (m_ran hT 1) ?_
    rintro ⟨Q1, u⟩ ⟨t1, f1⟩
    dsimp only at t1 f1 ⊢
    simp only [(h.fr f1 (by decide)).sz hb]
    exact ⟨trivial, t1, f1⟩
  · simp only [mf_mostOfVessel, mf_mostOfVessel_J48, zev_b1, zev_mbd, zev_some, zev_b0, zev_bo, true_and, and_true, mev_ai hb1, mln_2, mln_3, mln_4, mln_5, mln_6, mln_7, mln_8, mln_9, mln_10, mln_11, mln_12, mln_13, mln_15, mln_16, mln_17, mln_24, mln_25, mln_26, mln_27, mln_28, mln_29, mln_30, mln_31, mln_32, mln_34, mln_35, mln_37, mln_42, mln_49, mln_50, mln_51, mln_52, mln_53, mln_54, mln_55, mln_56, mln_57, mln_58, mln_59, mln_61, mln_62, mln_63, mln_65, mln_66, mln_68, mln_70, mln_71, mln_72, mln_73, mln_74, hb2, h.kd hb, e, eq_self, if_true, if_false, kne_12, kne_13, kne_14, kne_15, kne_16, kne_21, kne_23, kne_24, kne_25, kne_26, kne_31, kne_32, kne_34, kne_35, kne_36, kne_41, kne_42, kne_43, kne_45, kne_46, kne_51, kne_52, kne_53, kne_54, kne_56, kne_61, kne_62, kne_63, kne_64, kne_65]
    refine zev_mono (m_ran hT 2) ?_
    rintro ⟨Q1, u⟩ ⟨t1, f1⟩
    dsimp only at t1 f1 ⊢
    simp only [(h.fr f1 (by decide)).sz hb, (h.fr f1 (by decide)).kd hb, zev_id50, e, eq_self, if_true, if_false, kne_12, kne_13, kne_14, kne_15, kne_16, kne_21, kne_23, kne_24, kne_25, kne_26, kne_31, kne_32, kne_34, kne_35, kne_36, kne_41, kne_42, kne_43, kne_45, kne_46, kne_51, kne_52, kne_53, kne_54, kne_56, kne_61, kne_62, kne_63, kne_64, kne_65, zev_b1, zev_mbd, zev_some, zev_b0, zev_bo, true_and, and_true, mev_ai hb1, mln_2, mln_3, mln_4, mln_5, mln_6, mln_7, mln_8, mln_9, mln_10, mln_11, mln_12, mln_13, mln_15, mln_16, mln_17, mln_24, mln_25, mln_26, mln_27, mln_28, mln_29, mln_30, mln_31, mln_32, mln_34, mln_35, mln_37, mln_42, mln_49, mln_50, mln_51, mln_52, mln_53, mln_54, mln_55, mln_56, mln_57, mln_58, mln_59, mln_61, mln_62, mln_63, mln_65, mln_66, mln_68, mln_70, mln_71, mln_72, mln_73, mln_74, hb2]
    exact ⟨t1, f1⟩
  · simp only [mf_mostOfVessel, mf_mostOfVessel_J48, zev_b1, zev_mbd, zev_some, zev_b0, zev_bo, true_and, and_true, mev_ai hb1, mln_2, mln_3, mln_4, mln_5, mln_6, mln_7, mln_8, mln_9, mln_10, mln_11, mln_12, mln_13, mln_15, mln_16, mln_17, mln_24, mln_25, mln_26, mln_27, mln_28, mln_29, mln_30, mln_31, mln_32, mln_34, mln_35, mln_37, mln_42, mln_49, mln_50, mln_51, mln_52, mln_53, mln_54, mln_55, mln_56, mln_57, mln_58, mln_59, mln_61, mln_62, mln_63, mln_65, mln_66, mln_68, mln_70, mln_71, mln_72, mln_73, mln_74, hb2, h.kd hb, e, eq_self, if_true, if_false, kne_12, kne_13, kne_14, kne_15, kne_16, kne_21, kne_23, kne_24, kne_25, kne_26, kne_31, kne_32, kne_34, kne_35, kne_36, kne_41, kne_42, kne_43, kne_45, kne_46, kne_51, kne_52, kne_53, kne_54, kne_56, kne_61, kne_62, kne_63, kne_64, kne_65]
    refine zev_mono (m_ran hT 3) ?_
    rintro ⟨Q1, u⟩ ⟨t1, f1⟩
    dsimp only at t1 f1 ⊢
    refine zev_mono (m_ran t1 2) ?_
    rintro ⟨Q2, u⟩ ⟨t2, f2⟩
    dsimp only at t2 f2 ⊢
    rw [tapp1] at t2
    have f := f1.tr0 f2
    simp only [(h.fr f (by decide)).sz hb, (h.fr f (by decide)).kd hb, zev_id50, e, eq_self, if_true, if_false, kne_12, kne_13, kne_14, kne_15, kne_16, kne_21, kne_23, kne_24, kne_25, kne_26, kne_31, kne_32, kne_34, kne_35, kne_36, kne_41, kne_42, kne_43, kne_45, kne_46, kne_51, kne_52, kne_53, kne_54, kne_56, kne_61, kne_62, kne_63, kne_64, kne_65, zev_b1, zev_mbd, zev_some, zev_b0, zev_bo, true_and, and_true, mev_ai hb1, mln_2, mln_3, mln_4, mln_5, mln_6, mln_7, mln_8, mln_9, mln_10, mln_11, mln_12, mln_13, mln_15, mln_16, mln_17, mln_24, mln_25, mln_26, mln_27, mln_28, mln_29, mln_30, mln_31, mln_32, mln_34, mln_35, mln_37, mln_42, mln_49, mln_50, mln_51, mln_52, mln_53, mln_54, mln_55, mln_56, mln_57, mln_58, mln_59, mln_61, mln_62, mln_63, mln_65, mln_66, mln_68, mln_70, mln_71, mln_72, mln_73, mln_74, hb2, zev_eq (m_atLeast0 _)]
    exact ⟨t2, f⟩
  · exact absurd e h5
theorem m_most {Q : Mq} {nb b : Nat} {bs : Nat → Bv} {tc : List Int32} (h : mBs Q nb bs) (hT : mTc Q tc) (hn : nb ≤ 1000) (hb : b < nb) (hk : Ikd nb bs) (hI : Imem nb bs) (hl : (bms (bs b)).length = (bs b).2.1.2.2.1) (h4 : (bs b).2.1.2.2.1 ≤ 4) : zev (mf_most Q (nI b)) (fun y => y.2 = btak bs (bs b) ∧ mTc y.1 (tapp 200 tc (btakT bs (bs b))) ∧ qfr Q y.1 [41, 42]) := by
  have hb1 : b < 2 ^ 31 := by omega
  have hb2 : b < 1000 := by omega
  unfold btak btakT mf_most
  simp only [zev_b1, zev_mbd, zev_some, zev_b0, zev_bo, true_and, and_true, mev_ai hb1, mln_2, mln_3, mln_4, mln_5, mln_6, mln_7, mln_8, mln_9, mln_10, mln_11, mln_12, mln_13, mln_15, mln_16, mln_17, mln_24, mln_25, mln_26, mln_27, mln_28, mln_29, mln_30, mln_31, mln_32, mln_34, mln_35, mln_37, mln_42, mln_49, mln_50, mln_51, mln_52, mln_53, mln_54, mln_55, mln_56, mln_57, mln_58, mln_59, mln_61, mln_62, mln_63, mln_65, mln_66, mln_68, mln_70, mln_71, mln_72, mln_73, mln_74, hb2, h.kd hb]
  by_cases e : (bs b).1.1 = 5
  · rw [if_pos e, if_pos e, if_pos e, zev_mbd]
    refine zev_mono (m_ran hT 4) ?_
    rintro ⟨Q1, u⟩ ⟨t1, f1⟩
    dsimp only at t1 f1 ⊢
    rw [zev_b1]
    refine zev_up (τ := Mq × Int64 × Int32) (fun i (z : Mq × Int64 × Int32) => ∃ Q2, z = (Q2, ((bms (bs b)).take i).foldl (fun a m => a + vt (bs m).1) 0, nI i) ∧ mTc Q2 (tapp 200 tc (4 :: ((bms (bs b)).take i).flatMap (fun m => vtT (bs m).1))) ∧ qfr Q Q2 [41, 42]) (bs b).2.1.2.2.1 (Nat.zero_le _) ⟨Q1, rfl, t1, f1⟩ ?_ ?_
    · rintro i z hi ⟨Q2, rfl, t2, f2⟩
      obtain ⟨m, hm⟩ := getElem?_lt (l := bms (bs b)) (i := i) (by omega)
      have hmn := hI b hb m (List.mem_of_getElem? hm)
      have h2 := h.fr f2 (by decide)
      unfold mf_most_L26
      simp only [zev_b1, zev_mbd, zev_some, zev_b0, zev_bo, true_and, and_true, mev_ai hb1, mln_2, mln_3, mln_4, mln_5, mln_6, mln_7, mln_8, mln_9, mln_10, mln_11, mln_12, mln_13, mln_15, mln_16, mln_17, mln_24, mln_25, mln_26, mln_27, mln_28, mln_29, mln_30, mln_31, mln_32, mln_34, mln_35, mln_37, mln_42, mln_49, mln_50, mln_51, mln_52, mln_53, mln_54, mln_55, mln_56, mln_57, mln_58, mln_59, mln_61, mln_62, mln_63, mln_65, mln_66, mln_68, mln_70, mln_71, mln_72, mln_73, mln_74, hb2, h2.mc hb, if_neg (nI_ge hi (show (bs b).2.1.2.2.1 < 2 ^ 31 by omega)), nI_x4, nI_x5, nI_x13, nI_x16, nI_x20, nI_x60, nI_x100, nI_x48r, nI_add, nI_1, mev_ai (show 4 * b + i < 2 ^ 31 by omega), show 4 * b + i < 4000 by omega, h2.me hb hm]
      refine zev_mono (m_mostV h2 t2 hn hmn.1 hk hmn.2) ?_
      rintro ⟨Q3, v⟩ ⟨e3, t3, f3⟩
      dsimp only at e3 t3 f3 ⊢
      subst e3
      rw [tapp1] at t3
      refine ⟨_, rfl, Q3, ?_, ?_, f2.tr0 f3⟩
      · rw [take_snoc hm, List.foldl_append]; rfl
      · rw [take_snoc hm, List.flatMap_append, ← List.cons_append]
        simpa using t3
    · rintro z ⟨Q2, rfl, t2, f2⟩
      have h2 := h.fr f2 (by decide)
      unfold mf_most_L26
      simp only [zev_b1, zev_mbd, zev_some, zev_b0, zev_bo, true_and, and_true, mev_ai hb1, mln_2, mln_3, mln_4, mln_5, mln_6, mln_7, mln_8, mln_9, mln_10, mln_11, mln_12, mln_13, mln_15, mln_16, mln_17, mln_24, mln_25, mln_26, mln_27, mln_28, mln_29, mln_30, mln_31, mln_32, mln_34, mln_35, mln_37, mln_42, mln_49, mln_50, mln_51, mln_52, mln_53, mln_54, mln_55, mln_56, mln_57, mln_58, mln_59, mln_61, mln_62, mln_63, mln_65, mln_66, mln_68, mln_70, mln_71, mln_72, mln_73, mln_74, hb2, h2.mc hb, if_pos (nI_le (Nat.le_refl (bs b).2.1.2.2.1) (show (bs b).2.1.2.2.1 < 2 ^ 31 by omega))]
      rw [← hl, List.take_of_length_le (Nat.le_refl _)] at t2
      exact ⟨_, rfl, by dsimp only; rw [← hl, List.take_of_length_le (Nat.le_refl _)], t2, f2⟩
  · rw [if_neg e, if_neg e, if_neg e, zev_mbd]
    refine zev_mono (m_mostV h hT hn hb hk e) ?_
    rintro ⟨Q1, v⟩ hh
    simp only [zev_b1, zev_mbd, zev_some, zev_b0, zev_bo, true_and, and_true]
    exact hh
/-! SPARE -/
theorem m_spare67 {Q : Mq} {nb b : Nat} {bs : Nat → Bv} (h : mBs Q nb bs) (hn : nb ≤ 1000) (hb : b < nb) (x : Int64) (hk : (bs b).1.1 = 1 ∨ (bs b).1.1 = 2) : mf_spareOfVessel_J67 Q (nI b) x = some (Q, vs (bs b).1 x) := by
  refine zev_of ?_
  have hb1 : b < 2 ^ 31 := by omega
  have hb2 : b < 1000 := by omega
  unfold vs
  rcases hk with e | e
  · simp only [mf_spareOfVessel_J67, zev_b1, zev_mbd, zev_some, zev_b0, zev_bo, true_and, and_true, mev_ai hb1, mln_2, mln_3, mln_4, mln_5, mln_6, mln_7, mln_8, mln_9, mln_10, mln_11, mln_12, mln_13, mln_15, mln_16, mln_17, mln_24, mln_25, mln_26, mln_27, mln_28, mln_29, mln_30, mln_31, mln_32, mln_34, mln_35, mln_37, mln_42, mln_49, mln_50, mln_51, mln_52, mln_53, mln_54, mln_55, mln_56, mln_57, mln_58, mln_59, mln_61, mln_62, mln_63, mln_65, mln_66, mln_68, mln_70, mln_71, mln_72, mln_73, mln_74, hb2, h.kd hb, h.sz hb, zev_id1k, zev_eq (m_atLeast0 _), e, eq_self, if_true, if_false, kne_12, kne_13, kne_14, kne_15, kne_16, kne_21, kne_23, kne_24, kne_25, kne_26, kne_31, kne_32, kne_34, kne_35, kne_36, kne_41, kne_42, kne_43, kne_45, kne_46, kne_51, kne_52, kne_53, kne_54, kne_56, kne_61, kne_62, kne_63, kne_64, kne_65]
  · simp only [mf_spareOfVessel_J67, zev_b1, zev_mbd, zev_some, zev_b0, zev_bo, true_and, and_true, mev_ai hb1, mln_2, mln_3, mln_4, mln_5, mln_6, mln_7, mln_8, mln_9, mln_10, mln_11, mln_12, mln_13, mln_15, mln_16, mln_17, mln_24, mln_25, mln_26, mln_27, mln_28, mln_29, mln_30, mln_31, mln_32, mln_34, mln_35, mln_37, mln_42, mln_49, mln_50, mln_51, mln_52, mln_53, mln_54, mln_55, mln_56, mln_57, mln_58, mln_59, mln_61, mln_62, mln_63, mln_65, mln_66, mln_68, mln_70, mln_71, mln_72, mln_73, mln_74, hb2, h.kd hb, h.sz hb, zev_id1k, zev_id2k, zev_eq (m_atLeast0 _), e, eq_self, if_true, if_false, kne_12, kne_13, kne_14, kne_15, kne_16, kne_21, kne_23, kne_24, kne_25, kne_26, kne_31, kne_32, kne_34, kne_35, kne_36, kne_41, kne_42, kne_43, kne_45, kne_46, kne_51, kne_52, kne_53, kne_54, kne_56, kne_61, kne_62, kne_63, kne_64, kne_65]
/-- told, or not -/
theorem m_spareV {Q : Mq} {nb b : Nat} {bs : Nat → Bv} {tc : List Int32} (h : mBs Q nb bs) (hT : mTc Q tc) (hn : nb ≤ 1000) (hb : b < nb) (h6 : I60 nb bs) (hk : Ikd nb bs) (h5 : (bs b).1.1 ≠ 5) : zev (mf_spareOfVessel Q (nI b) 1) (fun y => y.2 = vs (bs b).1 (wsum (bs b).2.1.2.2.2) ∧ mTc y.1 (tapp 200 tc (vsT (bs b).1)) ∧ qfr Q y.1 [41, 42]) := by
  have hb1 : b < 2 ^ 31 := by omega
  have hb2 : b < 1000 := by omega
  have i10 : ((1 : Int32) = 0) = False := by decide
  unfold vsT
  rcases hk b hb with e | e | e | e | e
  · simp only [mf_spareOfVessel, mf_spareOfVessel_J58, zev_b1, zev_mbd, zev_some, zev_b0, zev_bo, true_and, and_true, zev_eq (m_inVessel h hn hb (h6 b hb).1), mev_ai hb1, mln_2, mln_3, mln_4, mln_5, mln_6, mln_7, mln_8, mln_9, mln_10, mln_11, mln_12, mln_13, mln_15, mln_16, mln_17, mln_24, mln_25, mln_26, mln_27, mln_28, mln_29, mln_30, mln_31, mln_32, mln_34, mln_35, mln_37, mln_42, mln_49, mln_50, mln_51, mln_52, mln_53, mln_54, mln_55, mln_56, mln_57, mln_58, mln_59, mln_61, mln_62, mln_63, mln_65, mln_66, mln_68, mln_70, mln_71, mln_72, mln_73, mln_74, hb2, h.kd hb, e, eq_self, if_true, if_false, kne_12, kne_13, kne_14, kne_15, kne_16, kne_21, kne_23, kne_24, kne_25, kne_26, kne_31, kne_32, kne_34, kne_35, kne_36, kne_41, kne_42, kne_43, kne_45, kne_46, kne_51, kne_52, kne_53, kne_54, kne_56, kne_61, kne_62, kne_63, kne_64, kne_65, i10]
    refine zev_mono (m_ran hT 5) ?_
    rintro ⟨Q1, u⟩ ⟨t1, f1⟩
    dsimp only at t1 f1 ⊢
    rw [zev_eq (m_spare67 (h.fr f1 (by decide)) hn hb _ (Or.inl e))]
    exact ⟨rfl, t1, f1⟩
  · simp only [mf_spareOfVessel, mf_spareOfVessel_J58, zev_b1, zev_mbd, zev_some, zev_b0, zev_bo, true_and, and_true, zev_eq (m_inVessel h hn hb (h6 b hb).1), mev_ai hb1, mln_2, mln_3, mln_4, mln_5, mln_6, mln_7, mln_8, mln_9, mln_10, mln_11, mln_12, mln_13, mln_15, mln_16, mln_17, mln_24, mln_25, mln_26, mln_27, mln_28, mln_29, mln_30, mln_31, mln_32, mln_34, mln_35, mln_37, mln_42, mln_49, mln_50, mln_51, mln_52, mln_53, mln_54, mln_55, mln_56, mln_57, mln_58, mln_59, mln_61, mln_62, mln_63, mln_65, mln_66, mln_68, mln_70, mln_71, mln_72, mln_73, mln_74, hb2, h.kd hb, e, eq_self, if_true, if_false, kne_12, kne_13, kne_14, kne_15, kne_16, kne_21, kne_23, kne_24, kne_25, kne_26, kne_31, kne_32, kne_34, kne_35, kne_36, kne_41, kne_42, kne_43, kne_45, kne_46, kne_51, kne_52, kne_53, kne_54, kne_56, kne_61, kne_62, kne_63, kne_64, kne_65, i10]
    refine zev_mono (m_ran hT 6) ?_
    rintro ⟨Q1, u⟩ ⟨t1, f1⟩
    dsimp only at t1 f1 ⊢
    refine zev_mono (m_ran t1 5) ?_
    rintro ⟨Q2, u⟩ ⟨t2, f2⟩
    dsimp only at t2 f2 ⊢
    rw [tapp1] at t2
    rw [zev_eq (m_spare67 (h.fr (f1.tr0 f2) (by decide)) hn hb _ (Or.inr e))]
    exact ⟨rfl, t2, f1.tr0 f2⟩
  · simp only [mf_spareOfVessel, mf_spareOfVessel_J26, zev_b1, zev_mbd, zev_some, zev_b0, zev_bo, true_and, and_true, zev_eq (m_inVessel h hn hb (h6 b hb).1), mev_ai hb1, mln_2, mln_3, mln_4, mln_5, mln_6, mln_7, mln_8, mln_9, mln_10, mln_11, mln_12, mln_13, mln_15, mln_16, mln_17, mln_24, mln_25, mln_26, mln_27, mln_28, mln_29, mln_30, mln_31, mln_32, mln_34, mln_35, mln_37, mln_42, mln_49, mln_50, mln_51, mln_52, mln_53, mln_54, mln_55, mln_56, mln_57, mln_58, mln_59, mln_61, mln_62, mln_63, mln_65, mln_66, mln_68, mln_70, mln_71, mln_72, mln_73, mln_74, hb2, h.kd hb, e, eq_self, if_true, if_false, kne_12, kne_13, kne_14, kne_15, kne_16, kne_21, kne_23, kne_24, kne_25, kne_26, kne_31, kne_32, kne_34, kne_35, kne_36, kne_41, kne_42, kne_43, kne_45, kne_46, kne_51, kne_52, kne_53, kne_54, kne_56, kne_61, kne_62, kne_63, kne_64, kne_65, i10]
    refine zev_mono (m_ran hT 7) ?_
    rintro ⟨Q1, u⟩ ⟨t1, f1⟩
    dsimp only at t1 f1 ⊢
    exact ⟨by unfold vs; simp only [e, eq_self, if_true, if_false, kne_12, kne_13, kne_14, kne_15, kne_16, kne_21, kne_23, kne_24, kne_25, kne_26, kne_31, kne_32, kne_34, kne_35, kne_36, kne_41, kne_42, kne_43, kne_45, kne_46, kne_51, kne_52, kne_53, kne_54, kne_56, kne_61, kne_62, kne_63, kne_64, kne_65], t1, f1⟩
  · simp only [mf_spareOfVessel, mf_spareOfVessel_J26, zev_b1, zev_mbd, zev_some, zev_b0, zev_bo, true_and, and_true, zev_eq (m_inVessel h hn hb (h6 b hb).1), mev_ai hb1, mln_2, mln_3, mln_4, mln_5, mln_6, mln_7, mln_8, mln_9, mln_10, mln_11, mln_12, mln_13, mln_15, mln_16, mln_17, mln_24, mln_25, mln_26, mln_27, mln_28, mln_29, mln_30, mln_31, mln_32, mln_34, mln_35, mln_37, mln_42, mln_49, mln_50, mln_51, mln_52, mln_53, mln_54, mln_55, mln_56, mln_57, mln_58, mln_59, mln_61, mln_62, mln_63, mln_65, mln_66, mln_68, mln_70, mln_71, mln_72, mln_73, mln_74, hb2, h.kd hb, e, eq_self, if_true, if_false, kne_12, kne_13, kne_14, kne_15, kne_16, kne_21, kne_23, kne_24, kne_25, kne_26, kne_31, kne_32, kne_34, kne_35, kne_36, kne_41, kne_42, kne_43, kne_45, kne_46, kne_51, kne_52, kne_53, kne_54, kne_56, kne_61, kne_62, kne_63, kne_64, kne_65, i10]
    refine zev_mono (m_ran hT 7) ?_
    rintro ⟨Q1, u⟩ ⟨t1, f1⟩
    dsimp only at t1 f1 ⊢
    exact ⟨by unfold vs; simp only [e, eq_self, if_true, if_false, kne_12, kne_13, kne_14, kne_15, kne_16, kne_21, kne_23, kne_24, kne_25, kne_26, kne_31, kne_32, kne_34, kne_35, kne_36, kne_41, kne_42, kne_43, kne_45, kne_46, kne_51, kne_52, kne_53, kne_54, kne_56, kne_61, kne_62, kne_63, kne_64, kne_65], t1, f1⟩
  · exact absurd e h5
theorem m_spareU {Q : Mq} {nb b : Nat} {bs : Nat → Bv} (h : mBs Q nb bs) (hn : nb ≤ 1000) (hb : b < nb) (h6 : I60 nb bs) (hk : Ikd nb bs) (h5 : (bs b).1.1 ≠ 5) : mf_spareOfVessel Q (nI b) 0 = some (Q, vs (bs b).1 (wsum (bs b).2.1.2.2.2)) := by
  refine zev_of ?_
  have hb1 : b < 2 ^ 31 := by omega
  have hb2 : b < 1000 := by omega
  rcases hk b hb with e | e | e | e | e
  · simp only [mf_spareOfVessel, mf_spareOfVessel_J58, zev_b1, zev_mbd, zev_some, zev_b0, zev_bo, true_and, and_true, zev_eq (m_inVessel h hn hb (h6 b hb).1), mev_ai hb1, mln_2, mln_3, mln_4, mln_5, mln_6, mln_7, mln_8, mln_9, mln_10, mln_11, mln_12, mln_13, mln_15, mln_16, mln_17, mln_24, mln_25, mln_26, mln_27, mln_28, mln_29, mln_30, mln_31, mln_32, mln_34, mln_35, mln_37, mln_42, mln_49, mln_50, mln_51, mln_52, mln_53, mln_54, mln_55, mln_56, mln_57, mln_58, mln_59, mln_61, mln_62, mln_63, mln_65, mln_66, mln_68, mln_70, mln_71, mln_72, mln_73, mln_74, hb2, h.kd hb, e, eq_self, if_true, if_false, kne_12, kne_13, kne_14, kne_15, kne_16, kne_21, kne_23, kne_24, kne_25, kne_26, kne_31, kne_32, kne_34, kne_35, kne_36, kne_41, kne_42, kne_43, kne_45, kne_46, kne_51, kne_52, kne_53, kne_54, kne_56, kne_61, kne_62, kne_63, kne_64, kne_65]
    rw [zev_eq (m_spare67 h hn hb _ (Or.inl e))]
  · simp only [mf_spareOfVessel, mf_spareOfVessel_J58, zev_b1, zev_mbd, zev_some, zev_b0, zev_bo, true_and, and_true, zev_eq (m_inVessel h hn hb (h6 b hb).1), mev_ai hb1, mln_2, mln_3, mln_4, mln_5, mln_6, mln_7, mln_8, mln_9, mln_10, mln_11, mln_12, mln_13, mln_15, mln_16, mln_17, mln_24, mln_25, mln_26, mln_27, mln_28, mln_29, mln_30, mln_31, mln_32, mln_34, mln_35, mln_37, mln_42, mln_49, mln_50, mln_51, mln_52, mln_53, mln_54, mln_55, mln_56, mln_57, mln_58, mln_59, mln_61, mln_62, mln_63, mln_65, mln_66, mln_68, mln_70, mln_71, mln_72, mln_73, mln_74, hb2, h.kd hb, e, eq_self, if_true, if_false, kne_12, kne_13, kne_14, kne_15, kne_16, kne_21, kne_23, kne_24, kne_25, kne_26, kne_31, kne_32, kne_34, kne_35, kne_36, kne_41, kne_42, kne_43, kne_45, kne_46, kne_51, kne_52, kne_53, kne_54, kne_56, kne_61, kne_62, kne_63, kne_64, kne_65]
    rw [zev_eq (m_spare67 h hn hb _ (Or.inr e))]
  · simp only [mf_spareOfVessel, mf_spareOfVessel_J26, zev_b1, zev_mbd, zev_some, zev_b0, zev_bo, true_and, and_true, zev_eq (m_inVessel h hn hb (h6 b hb).1), mev_ai hb1, mln_2, mln_3, mln_4, mln_5, mln_6, mln_7, mln_8, mln_9, mln_10, mln_11, mln_12, mln_13, mln_15, mln_16, mln_17, mln_24, mln_25, mln_26, mln_27, mln_28, mln_29, mln_30, mln_31, mln_32, mln_34, mln_35, mln_37, mln_42, mln_49, mln_50, mln_51, mln_52, mln_53, mln_54, mln_55, mln_56, mln_57, mln_58, mln_59, mln_61, mln_62, mln_63, mln_65, mln_66, mln_68, mln_70, mln_71, mln_72, mln_73, mln_74, hb2, h.kd hb, e, eq_self, if_true, if_false, kne_12, kne_13, kne_14, kne_15, kne_16, kne_21, kne_23, kne_24, kne_25, kne_26, kne_31, kne_32, kne_34, kne_35, kne_36, kne_41, kne_42, kne_43, kne_45, kne_46, kne_51, kne_52, kne_53, kne_54, kne_56, kne_61, kne_62, kne_63, kne_64, kne_65]
    unfold vs; simp only [e, eq_self, if_true, if_false, kne_12, kne_13, kne_14, kne_15, kne_16, kne_21, kne_23, kne_24, kne_25, kne_26, kne_31, kne_32, kne_34, kne_35, kne_36, kne_41, kne_42, kne_43, kne_45, kne_46, kne_51, kne_52, kne_53, kne_54, kne_56, kne_61, kne_62, kne_63, kne_64, kne_65]
  · simp only [mf_spareOfVessel, mf_spareOfVessel_J26, zev_b1, zev_mbd, zev_some, zev_b0, zev_bo, true_and, and_true, zev_eq (m_inVessel h hn hb (h6 b hb).1), mev_ai hb1, mln_2, mln_3, mln_4, mln_5, mln_6, mln_7, mln_8, mln_9, mln_10, mln_11, mln_12, mln_13, mln_15, mln_16, mln_17, mln_24, mln_25, mln_26, mln_27, mln_28, mln_29, mln_30, mln_31, mln_32, mln_34, mln_35, mln_37, mln_42, mln_49, mln_50, mln_51, mln_52, mln_53, mln_54, mln_55, mln_56, mln_57, mln_58, mln_59, mln_61, mln_62, mln_63, mln_65, mln_66, mln_68, mln_70, mln_71, mln_72, mln_73, mln_74, hb2, h.kd hb, e, eq_self, if_true, if_false, kne_12, kne_13, kne_14, kne_15, kne_16, kne_21, kne_23, kne_24, kne_25, kne_26, kne_31, kne_32, kne_34, kne_35, kne_36, kne_41, kne_42, kne_43, kne_45, kne_46, kne_51, kne_52, kne_53, kne_54, kne_56, kne_61, kne_62, kne_63, kne_64, kne_65]
    unfold vs; simp only [e, eq_self, if_true, if_false, kne_12, kne_13, kne_14, kne_15, kne_16, kne_21, kne_23, kne_24, kne_25, kne_26, kne_31, kne_32, kne_34, kne_35, kne_36, kne_41, kne_42, kne_43, kne_45, kne_46, kne_51, kne_52, kne_53, kne_54, kne_56, kne_61, kne_62, kne_63, kne_64, kne_65]
  · exact absurd e h5
theorem m_spare {Q : Mq} {nb b : Nat} {bs : Nat → Bv} {tc : List Int32} (h : mBs Q nb bs) (hT : mTc Q tc) (hn : nb ≤ 1000) (hb : b < nb) (h6 : I60 nb bs) (hk : Ikd nb bs) (hI : Imem nb bs) (hl : (bms (bs b)).length = (bs b).2.1.2.2.1) (h4 : (bs b).2.1.2.2.1 ≤ 4) : zev (mf_spare Q (nI b)) (fun y => y.2 = bspa bs (bs b) ∧ mTc y.1 (tapp 200 tc (bspaT bs (bs b))) ∧ qfr Q y.1 [41, 42]) := by
  have hb1 : b < 2 ^ 31 := by omega
  have hb2 : b < 1000 := by omega
  unfold bspa bspaT mf_spare
  simp only [zev_b1, zev_mbd, zev_some, zev_b0, zev_bo, true_and, and_true, mev_ai hb1, mln_2, mln_3, mln_4, mln_5, mln_6, mln_7, mln_8, mln_9, mln_10, mln_11, mln_12, mln_13, mln_15, mln_16, mln_17, mln_24, mln_25, mln_26, mln_27, mln_28, mln_29, mln_30, mln_31, mln_32, mln_34, mln_35, mln_37, mln_42, mln_49, mln_50, mln_51, mln_52, mln_53, mln_54, mln_55, mln_56, mln_57, mln_58, mln_59, mln_61, mln_62, mln_63, mln_65, mln_66, mln_68, mln_70, mln_71, mln_72, mln_73, mln_74, hb2, h.kd hb]
  by_cases e : (bs b).1.1 = 5
  · rw [if_pos e, if_pos e, if_pos e, zev_mbd]
    refine zev_mono (m_ran hT 8) ?_
    rintro ⟨Q1, u⟩ ⟨t1, f1⟩
    dsimp only at t1 f1 ⊢
    rw [zev_b1]
    refine zev_up (τ := Mq × Int64 × Int32) (fun i (z : Mq × Int64 × Int32) => ∃ Q2, z = (Q2, ((bms (bs b)).take i).foldl (fun a m => a + vs (bs m).1 (wsum (bs m).2.1.2.2.2)) 0, nI i) ∧ mTc Q2 (tapp 200 tc (8 :: ((bms (bs b)).take i).flatMap (fun m => vsT (bs m).1))) ∧ qfr Q Q2 [41, 42]) (bs b).2.1.2.2.1 (Nat.zero_le _) ⟨Q1, rfl, t1, f1⟩ ?_ ?_
    · rintro i z hi ⟨Q2, rfl, t2, f2⟩
      obtain ⟨m, hm⟩ := getElem?_lt (l := bms (bs b)) (i := i) (by omega)
      have hmn := hI b hb m (List.mem_of_getElem? hm)
      have h2 := h.fr f2 (by decide)
      unfold mf_spare_L28
      simp only [zev_b1, zev_mbd, zev_some, zev_b0, zev_bo, true_and, and_true, mev_ai hb1, mln_2, mln_3, mln_4, mln_5, mln_6, mln_7, mln_8, mln_9, mln_10, mln_11, mln_12, mln_13, mln_15, mln_16, mln_17, mln_24, mln_25, mln_26, mln_27, mln_28, mln_29, mln_30, mln_31, mln_32, mln_34, mln_35, mln_37, mln_42, mln_49, mln_50, mln_51, mln_52, mln_53, mln_54, mln_55, mln_56, mln_57, mln_58, mln_59, mln_61, mln_62, mln_63, mln_65, mln_66, mln_68, mln_70, mln_71, mln_72, mln_73, mln_74, hb2, h2.mc hb, if_neg (nI_ge hi (show (bs b).2.1.2.2.1 < 2 ^ 31 by omega)), nI_x4, nI_x5, nI_x13, nI_x16, nI_x20, nI_x60, nI_x100, nI_x48r, nI_add, nI_1, mev_ai (show 4 * b + i < 2 ^ 31 by omega), show 4 * b + i < 4000 by omega, h2.me hb hm]
      refine zev_mono (m_spareV h2 t2 hn hmn.1 h6 hk hmn.2) ?_
      rintro ⟨Q3, v⟩ ⟨e3, t3, f3⟩
      dsimp only at e3 t3 f3 ⊢
      subst e3
      rw [tapp1] at t3
      refine ⟨_, rfl, Q3, ?_, ?_, f2.tr0 f3⟩
      · rw [take_snoc hm, List.foldl_append]; rfl
      · rw [take_snoc hm, List.flatMap_append, ← List.cons_append]
        simpa using t3
    · rintro z ⟨Q2, rfl, t2, f2⟩
      have h2 := h.fr f2 (by decide)
      unfold mf_spare_L28
      simp only [zev_b1, zev_mbd, zev_some, zev_b0, zev_bo, true_and, and_true, mev_ai hb1, mln_2, mln_3, mln_4, mln_5, mln_6, mln_7, mln_8, mln_9, mln_10, mln_11, mln_12, mln_13, mln_15, mln_16, mln_17, mln_24, mln_25, mln_26, mln_27, mln_28, mln_29, mln_30, mln_31, mln_32, mln_34, mln_35, mln_37, mln_42, mln_49, mln_50, mln_51, mln_52, mln_53, mln_54, mln_55, mln_56, mln_57, mln_58, mln_59, mln_61, mln_62, mln_63, mln_65, mln_66, mln_68, mln_70, mln_71, mln_72, mln_73, mln_74, hb2, h2.mc hb, if_pos (nI_le (Nat.le_refl (bs b).2.1.2.2.1) (show (bs b).2.1.2.2.1 < 2 ^ 31 by omega))]
      rw [← hl, List.take_of_length_le (Nat.le_refl _)] at t2
      exact ⟨_, rfl, by dsimp only; rw [← hl, List.take_of_length_le (Nat.le_refl _)], t2, f2⟩
  · rw [if_neg e, if_neg e, if_neg e, zev_mbd]
    refine zev_mono (m_spareV h hT hn hb h6 hk e) ?_
    rintro ⟨Q1, v⟩ hh
    simp only [zev_b1, zev_mbd, zev_some, zev_b0, zev_bo, true_and, and_true]
    exact hh
/-! RATE, DEAR -/
theorem m_rate {Q : Mq} {nb b : Nat} {bs : Nat → Bv} (h : mBs Q nb bs) (hn : nb ≤ 1000) (hb : b < nb) (hk : Ikd nb bs) : mf_rateOf Q (nI b) = some (Q, brat (bs b).1.1) := by
  refine zev_of ?_
  have hb1 : b < 2 ^ 31 := by omega
  have hb2 : b < 1000 := by omega
  unfold brat
  rcases hk b hb with e | e | e | e | e <;> simp only [mf_rateOf, zev_b1, zev_mbd, zev_some, zev_b0, zev_bo, true_and, and_true, mev_ai hb1, mln_2, mln_3, mln_4, mln_5, mln_6, mln_7, mln_8, mln_9, mln_10, mln_11, mln_12, mln_13, mln_15, mln_16, mln_17, mln_24, mln_25, mln_26, mln_27, mln_28, mln_29, mln_30, mln_31, mln_32, mln_34, mln_35, mln_37, mln_42, mln_49, mln_50, mln_51, mln_52, mln_53, mln_54, mln_55, mln_56, mln_57, mln_58, mln_59, mln_61, mln_62, mln_63, mln_65, mln_66, mln_68, mln_70, mln_71, mln_72, mln_73, mln_74, hb2, h.kd hb, e, eq_self, if_true, if_false, kne_12, kne_13, kne_14, kne_15, kne_16, kne_21, kne_23, kne_24, kne_25, kne_26, kne_31, kne_32, kne_34, kne_35, kne_36, kne_41, kne_42, kne_43, kne_45, kne_46, kne_51, kne_52, kne_53, kne_54, kne_56, kne_61, kne_62, kne_63, kne_64, kne_65] <;> rfl
theorem m_tell {Q : Mq} {nb b : Nat} {bs : Nat → Bv} {tc : List Int32} (h : mBs Q nb bs) (hT : mTc Q tc) (hn : nb ≤ 1000) (hb : b < nb) (hk : Ikd nb bs) : zev (mf_tellRate Q (nI b)) (fun y => mTc y.1 (tapp 200 tc (bratT (bs b).1.1)) ∧ qfr Q y.1 [41, 42]) := by
  have hb1 : b < 2 ^ 31 := by omega
  have hb2 : b < 1000 := by omega
  unfold bratT
  rcases hk b hb with e | e | e | e | e
  · simp only [mf_tellRate, zev_b1, zev_mbd, zev_some, zev_b0, zev_bo, true_and, and_true, mev_ai hb1, mln_2, mln_3, mln_4, mln_5, mln_6, mln_7, mln_8, mln_9, mln_10, mln_11, mln_12, mln_13, mln_15, mln_16, mln_17, mln_24, mln_25, mln_26, mln_27, mln_28, mln_29, mln_30, mln_31, mln_32, mln_34, mln_35, mln_37, mln_42, mln_49, mln_50, mln_51, mln_52, mln_53, mln_54, mln_55, mln_56, mln_57, mln_58, mln_59, mln_61, mln_62, mln_63, mln_65, mln_66, mln_68, mln_70, mln_71, mln_72, mln_73, mln_74, hb2, h.kd hb, e, eq_self, if_true, if_false, kne_12, kne_13, kne_14, kne_15, kne_16, kne_21, kne_23, kne_24, kne_25, kne_26, kne_31, kne_32, kne_34, kne_35, kne_36, kne_41, kne_42, kne_43, kne_45, kne_46, kne_51, kne_52, kne_53, kne_54, kne_56, kne_61, kne_62, kne_63, kne_64, kne_65]
    exact zev_mono (m_ran hT 10) (fun y hh => hh)
  · simp only [mf_tellRate, zev_b1, zev_mbd, zev_some, zev_b0, zev_bo, true_and, and_true, mev_ai hb1, mln_2, mln_3, mln_4, mln_5, mln_6, mln_7, mln_8, mln_9, mln_10, mln_11, mln_12, mln_13, mln_15, mln_16, mln_17, mln_24, mln_25, mln_26, mln_27, mln_28, mln_29, mln_30, mln_31, mln_32, mln_34, mln_35, mln_37, mln_42, mln_49, mln_50, mln_51, mln_52, mln_53, mln_54, mln_55, mln_56, mln_57, mln_58, mln_59, mln_61, mln_62, mln_63, mln_65, mln_66, mln_68, mln_70, mln_71, mln_72, mln_73, mln_74, hb2, h.kd hb, e, eq_self, if_true, if_false, kne_12, kne_13, kne_14, kne_15, kne_16, kne_21, kne_23, kne_24, kne_25, kne_26, kne_31, kne_32, kne_34, kne_35, kne_36, kne_41, kne_42, kne_43, kne_45, kne_46, kne_51, kne_52, kne_53, kne_54, kne_56, kne_61, kne_62, kne_63, kne_64, kne_65]
    refine zev_mono (m_ran hT 11) ?_
    rintro ⟨Q1, u⟩ ⟨t1, f1⟩
    dsimp only at t1 f1 ⊢
    refine zev_mono (m_ran t1 10) ?_
    rintro ⟨Q2, u⟩ ⟨t2, f2⟩
    rw [tapp1] at t2
    exact ⟨t2, f1.tr0 f2⟩
  · simp only [mf_tellRate, zev_b1, zev_mbd, zev_some, zev_b0, zev_bo, true_and, and_true, mev_ai hb1, mln_2, mln_3, mln_4, mln_5, mln_6, mln_7, mln_8, mln_9, mln_10, mln_11, mln_12, mln_13, mln_15, mln_16, mln_17, mln_24, mln_25, mln_26, mln_27, mln_28, mln_29, mln_30, mln_31, mln_32, mln_34, mln_35, mln_37, mln_42, mln_49, mln_50, mln_51, mln_52, mln_53, mln_54, mln_55, mln_56, mln_57, mln_58, mln_59, mln_61, mln_62, mln_63, mln_65, mln_66, mln_68, mln_70, mln_71, mln_72, mln_73, mln_74, hb2, h.kd hb, e, eq_self, if_true, if_false, kne_12, kne_13, kne_14, kne_15, kne_16, kne_21, kne_23, kne_24, kne_25, kne_26, kne_31, kne_32, kne_34, kne_35, kne_36, kne_41, kne_42, kne_43, kne_45, kne_46, kne_51, kne_52, kne_53, kne_54, kne_56, kne_61, kne_62, kne_63, kne_64, kne_65]
    exact zev_mono (m_ran hT 9) (fun y hh => hh)
  · simp only [mf_tellRate, zev_b1, zev_mbd, zev_some, zev_b0, zev_bo, true_and, and_true, mev_ai hb1, mln_2, mln_3, mln_4, mln_5, mln_6, mln_7, mln_8, mln_9, mln_10, mln_11, mln_12, mln_13, mln_15, mln_16, mln_17, mln_24, mln_25, mln_26, mln_27, mln_28, mln_29, mln_30, mln_31, mln_32, mln_34, mln_35, mln_37, mln_42, mln_49, mln_50, mln_51, mln_52, mln_53, mln_54, mln_55, mln_56, mln_57, mln_58, mln_59, mln_61, mln_62, mln_63, mln_65, mln_66, mln_68, mln_70, mln_71, mln_72, mln_73, mln_74, hb2, h.kd hb, e, eq_self, if_true, if_false, kne_12, kne_13, kne_14, kne_15, kne_16, kne_21, kne_23, kne_24, kne_25, kne_26, kne_31, kne_32, kne_34, kne_35, kne_36, kne_41, kne_42, kne_43, kne_45, kne_46, kne_51, kne_52, kne_53, kne_54, kne_56, kne_61, kne_62, kne_63, kne_64, kne_65]
    exact zev_mono (m_ran hT 12) (fun y hh => hh)
  · simp only [mf_tellRate, zev_b1, zev_mbd, zev_some, zev_b0, zev_bo, true_and, and_true, mev_ai hb1, mln_2, mln_3, mln_4, mln_5, mln_6, mln_7, mln_8, mln_9, mln_10, mln_11, mln_12, mln_13, mln_15, mln_16, mln_17, mln_24, mln_25, mln_26, mln_27, mln_28, mln_29, mln_30, mln_31, mln_32, mln_34, mln_35, mln_37, mln_42, mln_49, mln_50, mln_51, mln_52, mln_53, mln_54, mln_55, mln_56, mln_57, mln_58, mln_59, mln_61, mln_62, mln_63, mln_65, mln_66, mln_68, mln_70, mln_71, mln_72, mln_73, mln_74, hb2, h.kd hb, e, eq_self, if_true, if_false, kne_12, kne_13, kne_14, kne_15, kne_16, kne_21, kne_23, kne_24, kne_25, kne_26, kne_31, kne_32, kne_34, kne_35, kne_36, kne_41, kne_42, kne_43, kne_45, kne_46, kne_51, kne_52, kne_53, kne_54, kne_56, kne_61, kne_62, kne_63, kne_64, kne_65]
    exact zev_mono (m_ran hT 9) (fun y hh => hh)
theorem m_dear {Q : Mq} {nb b : Nat} {bs : Nat → Bv} {tc : List Int32} (h : mBs Q nb bs) (hT : mTc Q tc) (hn : nb ≤ 1000) (hb : b < nb) (hk : Ikd nb bs) (x : Int64) : zev (mf_dear Q (nI b) x) (fun y => y.2 = bdea (bs b).1.1 (bs b).2.1.1 x ∧ mTc y.1 (tapp 200 tc (bdeaT (bs b).1.1)) ∧ qfr Q y.1 [41, 42]) := by
  have hb1 : b < 2 ^ 31 := by omega
  have hb2 : b < 1000 := by omega
  unfold bdea bdeaT
  rcases hk b hb with e | e | e | e | e <;>
  · simp only [mf_dear, mf_dear_J44, zev_b1, zev_mbd, zev_some, zev_b0, zev_bo, true_and, and_true, mev_ai hb1, mln_2, mln_3, mln_4, mln_5, mln_6, mln_7, mln_8, mln_9, mln_10, mln_11, mln_12, mln_13, mln_15, mln_16, mln_17, mln_24, mln_25, mln_26, mln_27, mln_28, mln_29, mln_30, mln_31, mln_32, mln_34, mln_35, mln_37, mln_42, mln_49, mln_50, mln_51, mln_52, mln_53, mln_54, mln_55, mln_56, mln_57, mln_58, mln_59, mln_61, mln_62, mln_63, mln_65, mln_66, mln_68, mln_70, mln_71, mln_72, mln_73, mln_74, hb2, h.kd hb, h.ct hb, e, eq_self, if_true, if_false, kne_12, kne_13, kne_14, kne_15, kne_16, kne_21, kne_23, kne_24, kne_25, kne_26, kne_31, kne_32, kne_34, kne_35, kne_36, kne_41, kne_42, kne_43, kne_45, kne_46, kne_51, kne_52, kne_53, kne_54, kne_56, kne_61, kne_62, kne_63, kne_64, kne_65]
    refine zev_mono (m_ran hT _) ?_
    rintro ⟨Q1, u⟩ ⟨t1, f1⟩
    dsimp only at t1 f1 ⊢
    simp only [(h.fr f1 (by decide)).kd hb, e, eq_self, if_true, if_false, kne_12, kne_13, kne_14, kne_15, kne_16, kne_21, kne_23, kne_24, kne_25, kne_26, kne_31, kne_32, kne_34, kne_35, kne_36, kne_41, kne_42, kne_43, kne_45, kne_46, kne_51, kne_52, kne_53, kne_54, kne_56, kne_61, kne_62, kne_63, kne_64, kne_65, zev_b1, zev_mbd, zev_some, zev_b0, zev_bo, true_and, and_true, mev_ai hb1, mln_2, mln_3, mln_4, mln_5, mln_6, mln_7, mln_8, mln_9, mln_10, mln_11, mln_12, mln_13, mln_15, mln_16, mln_17, mln_24, mln_25, mln_26, mln_27, mln_28, mln_29, mln_30, mln_31, mln_32, mln_34, mln_35, mln_37, mln_42, mln_49, mln_50, mln_51, mln_52, mln_53, mln_54, mln_55, mln_56, mln_57, mln_58, mln_59, mln_61, mln_62, mln_63, mln_65, mln_66, mln_68, mln_70, mln_71, mln_72, mln_73, mln_74, hb2, zev_ld10]
    exact ⟨t1, f1⟩
