/-! The question strays, in the reference. -/
theorem sSt_iff {pl : Int32} {S T : Prop} {c a : Int32} (h : sSt pl S c a) (e : S ↔ T) : sSt pl T c a := by
  rcases h with ⟨s1, s2⟩ | ⟨s1, s2⟩
  · exact Or.inl ⟨fun z => s1 (e.mpr z), s2⟩
  · exact Or.inr ⟨e.mp s1, s2⟩
theorem m_st84 {Q : Mq} {nb b cc : Nat} {bs : Nat → Bv} {ro : Nat → Rw} {ac : Nat → Wn} {c a : Int32} (l1 : Int32) (h : mBs Q nb bs) (hI : Ic nb bs ro ac) (hb : b < nb) (hcc : cc < nb) (hs : sSt (bs b).2.1.2.1 (sRow1 ro b 1200 ∨ sCsk bs b cc) c a) : zev (zwhile (mf_strays_L84 l1 (nI b) (nI cc)) (Q, c, a, 0)) (fun y => ∃ c a u, y = (Q, c, a, u) ∧ sSt (bs b).2.1.2.1 (sRow1 ro b 1200 ∨ sCsk bs b (cc + 1)) c a) := by
  have hN := hI.1
  obtain ⟨hml, hm4⟩ := hI.ml cc hcc
  have hnd := (hI.2.1 cc hcc).2.2.2.2.2.2.1
  refine zev_up (τ := Mq × Int32 × Int32 × Int32) (fun i (z : Mq × Int32 × Int32 × Int32) => ∃ c a, z = (Q, c, a, nI i) ∧ sSt (bs b).2.1.2.1 ((sRow1 ro b 1200 ∨ sCsk bs b cc) ∨ b ∈ (bms (bs cc)).take i) c a) (bms (bs cc)).length (Nat.zero_le _) ⟨c, a, rfl, sSt_iff hs ⟨Or.inl, fun z => z.resolve_right (by simp)⟩⟩ ?_ ?_
  · rintro i z hi ⟨c, a, rfl, hs⟩
    obtain ⟨m, hm⟩ := getElem?_lt hi
    have hmm := hI.mem cc hcc m (List.mem_of_getElem? hm)
    unfold mf_strays_L84 mf_strays_J126
    simp only [zev_b1, zev_mbd, zev_some, zev_b0, zev_bo, true_and, and_true, mev_ai (show cc < 2 ^ 31 by omega), mln_2, mln_3, mln_4, mln_5, mln_6, mln_7, mln_8, mln_9, mln_10, mln_11, mln_12, mln_13, mln_15, mln_16, mln_17, mln_24, mln_25, mln_26, mln_27, mln_28, mln_29, mln_30, mln_31, mln_32, mln_34, mln_35, mln_37, mln_42, mln_49, mln_50, mln_51, mln_52, mln_53, mln_54, mln_55, mln_56, mln_57, mln_58, mln_59, mln_61, mln_62, mln_63, mln_65, mln_66, mln_68, mln_70, mln_71, mln_72, mln_73, mln_74, show cc < 1000 by omega, h.mc hcc, ← hml, if_neg (nI_ge hi (by omega)), nI_x4, nI_x5, nI_x13, nI_x16, nI_x20, nI_x60, nI_x100, nI_x48r, nI_add, nI_1, mev_ai (show 4 * cc + i < 2 ^ 31 by omega), show 4 * cc + i < 4000 by omega, h.me hcc hm]
    rw [take_snoc hm]
    by_cases e : nI m = nI b
    · have emb : m = b := by
        have e3 := congrArg Int32.toNatClampNeg e
        rw [nI_clamp (by omega), nI_clamp (by omega)] at e3
        exact e3
      subst emb
      have hpl := hI.plcm hcc (List.mem_of_getElem? hm)
      rw [if_pos rfl, zev_some]
      refine ⟨_, rfl, _, _, rfl, ?_⟩
      rcases hs with ⟨s1, s2, s3⟩ | ⟨s1, s2, s3⟩
      · refine Or.inr ⟨Or.inr (List.mem_append_right _ (List.mem_singleton.mpr rfl)), by rw [s2]; decide, ?_⟩
        rw [hpl]
        exact c10000 (by omega)
      · exfalso
        rcases s1 with (⟨j, hj, ej⟩ | ⟨c', hc', mc'⟩) | s1
        · have := rcl_pl hI hb hj ej
          rw [hpl] at this
          have e3 := congrArg Int32.toNatClampNeg this
          rw [nI_clamp (by omega), nI_clamp (by omega)] at e3
          omega
        · have := hI.plcm (show c' < nb by omega) mc'
          rw [hpl] at this
          have e3 := congrArg Int32.toNatClampNeg this
          rw [nI_clamp (by omega), nI_clamp (by omega)] at e3
          omega
        · obtain ⟨j, hj⟩ := List.mem_iff_getElem?.mp s1
          have hjl := (List.getElem?_eq_some_iff.mp hj).1
          rw [List.length_take] at hjl
          rw [List.getElem?_take_of_lt (by omega)] at hj
          have := (List.getElem?_inj (List.getElem?_eq_some_iff.mp hj).1 hnd).mp (hj.trans hm.symm)
          omega
    · rw [if_neg e, zev_some]
      refine ⟨_, rfl, c, a, rfl, sSt_iff hs ⟨fun z => z.imp id (List.mem_append_left _), fun z => ?_⟩⟩
      rcases z with z | z
      · exact Or.inl z
      · rcases List.mem_append.mp z with z | z
        · exact Or.inr z
        · exact absurd (by rw [List.mem_singleton.mp z]) e
  · rintro z ⟨c, a, rfl, hs⟩
    unfold mf_strays_L84
    simp only [zev_b1, zev_mbd, zev_some, zev_b0, zev_bo, true_and, and_true, mev_ai (show cc < 2 ^ 31 by omega), mln_2, mln_3, mln_4, mln_5, mln_6, mln_7, mln_8, mln_9, mln_10, mln_11, mln_12, mln_13, mln_15, mln_16, mln_17, mln_24, mln_25, mln_26, mln_27, mln_28, mln_29, mln_30, mln_31, mln_32, mln_34, mln_35, mln_37, mln_42, mln_49, mln_50, mln_51, mln_52, mln_53, mln_54, mln_55, mln_56, mln_57, mln_58, mln_59, mln_61, mln_62, mln_63, mln_65, mln_66, mln_68, mln_70, mln_71, mln_72, mln_73, mln_74, show cc < 1000 by omega, h.mc hcc, ← hml, if_pos (nI_le (Nat.le_refl (bms (bs cc)).length) (by omega))]
    rw [List.take_of_length_le (Nat.le_refl _)] at hs
    refine ⟨_, rfl, c, a, _, rfl, sSt_iff hs ⟨fun z => ?_, fun z => ?_⟩⟩
    · rcases z with (z | ⟨c', z1, z2⟩) | z
      · exact Or.inl z
      · exact Or.inr ⟨c', by omega, z2⟩
      · exact Or.inr ⟨cc, by omega, z⟩
    · rcases z with z | ⟨c', z1, z2⟩
      · exact Or.inl (Or.inl z)
      · by_cases e : c' = cc
        · rw [e] at z2; exact Or.inr z2
        · exact Or.inl (Or.inr ⟨c', by omega, z2⟩)
theorem m_st72 {Q : Mq} {nb b : Nat} {bs : Nat → Bv} {ro : Nat → Rw} {ac : Nat → Wn} {c a : Int32} (l1 : Int32) (h : mBs Q nb bs) (hI : Ic nb bs ro ac) (hb : b < nb) (hs : sSt (bs b).2.1.2.1 (sRow1 ro b 1200) c a) : zev (zwhile (mf_strays_L72 l1 (nI b)) (Q, c, a, 0)) (fun y => ∃ c a u, y = (Q, c, a, u) ∧ sSt (bs b).2.1.2.1 (sRow1 ro b 1200 ∨ sCsk bs b nb) c a) := by
  have hN := hI.1
  refine zev_up (τ := Mq × Int32 × Int32 × Int32) (fun i (z : Mq × Int32 × Int32 × Int32) => ∃ c a, z = (Q, c, a, nI i) ∧ sSt (bs b).2.1.2.1 (sRow1 ro b 1200 ∨ sCsk bs b i) c a) nb (Nat.zero_le _) ⟨c, a, rfl, sSt_iff hs ⟨Or.inl, fun z => z.resolve_right (fun ⟨c', h1, _⟩ => by omega)⟩⟩ ?_ ?_
  · rintro i z hi ⟨c, a, rfl, hs⟩
    unfold mf_strays_L72
    dsimp only
    rw [h.1, if_neg (nI_ge hi (by omega)), zev_b1]
    refine zev_mono (m_st84 l1 h hI hb hi hs) ?_
    rintro y ⟨c, a, u, rfl, hs⟩
    dsimp only
    rw [zev_some]
    exact ⟨_, rfl, c, a, by rw [nI_1], hs⟩
  · rintro z ⟨c, a, rfl, hs⟩
    unfold mf_strays_L72
    dsimp only
    rw [h.1, if_pos (nI_le (Nat.le_refl nb) (by omega)), zev_some]
    exact ⟨_, rfl, c, a, _, rfl, hs⟩
/-- no barrel sees it where it says it is -/
def sStr (nb : Nat) (bs : Nat → Bv) (ro : Nat → Rw) (b : Nat) : Prop := (bs b).2.1.2.1 ≠ 0 ∧ ¬ (sRow1 ro b 1200 ∨ sCsk bs b nb)
noncomputable def cstrB (nb : Nat) (bs : Nat → Bv) (ro : Nat → Rw) (b : Nat) : Bool := @decide (sStr nb bs ro b) (Classical.propDecidable _)
noncomputable def cstr (nb : Nat) (bs : Nat → Bv) (ro : Nat → Rw) : Int32 := nI ((List.range nb).countP (cstrB nb bs ro))
theorem cstrB_t {nb b : Nat} {bs : Nat → Bv} {ro : Nat → Rw} (h : sStr nb bs ro b) : cstrB nb bs ro b = true := by unfold cstrB; exact @decide_eq_true _ (Classical.propDecidable _) h
theorem cstrB_f {nb b : Nat} {bs : Nat → Bv} {ro : Nat → Rw} (h : ¬ sStr nb bs ro b) : cstrB nb bs ro b = false := by unfold cstrB; exact @decide_eq_false _ (Classical.propDecidable _) h
theorem m_strays {Q : Mq} {nb : Nat} {bs : Nat → Bv} {ro : Nat → Rw} {ac : Nat → Wn} (h : mBs Q nb bs) (hR : mRs Q 11 12 13 ro) (hI : Ic nb bs ro ac) : mf_strays Q = some (Q, cstr nb bs ro) := by
  have hN := hI.1
  refine zev_of ?_
  unfold mf_strays cstr
  rw [zev_b1]
  refine zev_up (τ := Mq × Int32 × Int32) (fun i (z : Mq × Int32 × Int32) => z = (Q, nI ((List.range i).countP (cstrB nb bs ro)), nI i)) nb (Nat.zero_le _) rfl ?_ ?_
  · rintro b z hb rfl
    rw [range_snoc, List.countP_append]
    generalize (List.range b).countP (cstrB nb bs ro) = n0
    unfold mf_strays_L4 mf_strays_J154 mf_strays_J157
    dsimp only
    rw [h.1, if_neg (nI_ge hb (by omega)), zev_b1]
    refine zev_mono (m_st20 _ hR hI hb) ?_
    rintro y ⟨c, a, u, rfl, hs⟩
    dsimp only
    rw [zev_b1]
    refine zev_mono (m_st72 _ h hI hb hs) ?_
    rintro y ⟨c, a, u, rfl, hs⟩
    dsimp only
    have hc : ¬ (1 : Int32) < c := by rcases hs with ⟨-, e, -⟩ | ⟨-, e, -⟩ <;> rw [e] <;> decide
    rw [if_neg hc]
    simp only [zev_b1, zev_mbd, zev_some, zev_b0, zev_bo, true_and, and_true, mln_2, mln_3, mln_4, mln_5, mln_6, mln_7, mln_8, mln_9, mln_10, mln_11, mln_12, mln_13, mln_15, mln_16, mln_17, mln_24, mln_25, mln_26, mln_27, mln_28, mln_29, mln_30, mln_31, mln_32, mln_34, mln_35, mln_37, mln_42, mln_49, mln_50, mln_51, mln_52, mln_53, mln_54, mln_55, mln_56, mln_57, mln_58, mln_59, mln_61, mln_62, mln_63, mln_65, mln_66, mln_68, mln_70, mln_71, mln_72, mln_73, mln_74, mev_ai (show b < 2 ^ 31 by omega), show b < 1000 by omega, h.pl hb]
    by_cases e : a = (bs b).2.1.2.1
    · have hn : ¬ sStr nb bs ro b := fun z => by
        rcases hs with ⟨s1, s2, s3⟩ | ⟨s1, s2, s3⟩
        · exact z.1 (by rw [← e]; exact s3)
        · exact z.2 s1
      rw [if_pos e, zev_some]
      refine ⟨_, rfl, ?_⟩
      simp [cstrB_f hn, nI_1]
    · have hn : sStr nb bs ro b := by
        rcases hs with ⟨s1, s2, s3⟩ | ⟨s1, s2, s3⟩
        · exact ⟨fun z => e (by rw [s3, z]), s1⟩
        · exact absurd s3 e
      rw [if_neg e, zev_some]
      refine ⟨_, rfl, ?_⟩
      simp [cstrB_t hn, nI_1]
  · rintro z rfl
    unfold mf_strays_L4
    dsimp only
    rw [h.1, if_pos (nI_le (Nat.le_refl nb) (by omega)), zev_some]
    refine ⟨_, rfl, ?_⟩
    dsimp only
    rw [zev_some]
