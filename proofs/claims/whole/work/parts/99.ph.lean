/-! The question strays, in the reference. -/
def rcl (ro : Nat → Rw) (j : Nat) : Int32 := match ro (j / 60) with | none => -1 | some q => (q.2[j % 60]?).getD (-1)
def sSt (pl : Int32) (seen : Prop) (c a : Int32) : Prop := (¬ seen ∧ c = 0 ∧ a = 0) ∨ (seen ∧ c = 1 ∧ a = pl)
def sRow1 (ro : Nat → Rw) (b n : Nat) : Prop := ∃ i, i < n ∧ rcl ro i = nI b
def sCsk (bs : Nat → Bv) (b n : Nat) : Prop := ∃ c, c < n ∧ b ∈ bms (bs c)
theorem rcl_m {Q : Mq} {ro : Nat → Rw} (h : mRs Q 11 12 13 ro) {j : Nat} (hj : j < 1200) : Q.1 13 j = rcl ro j := by
  have e : 60 * (j / 60) + j % 60 = j := Nat.div_add_mod j 60
  have h1 : j / 60 < 20 := by omega
  have h2 : j % 60 < 60 := Nat.mod_lt _ (by decide)
  unfold rcl
  rcases h (j / 60) h1 with ⟨e1, e2, e3⟩ | ⟨k, ps, e1, e2, e3, e4, e5, e6⟩
  · rw [e1]
    have := e3 (j % 60) h2
    rw [e] at this
    exact this
  · rw [e1]
    have := e6 (j % 60) h2
    rw [e] at this
    exact this
theorem rcl_pl {nb b j : Nat} {bs : Nat → Bv} {ro : Nat → Rw} {ac : Nat → Wn} (h : Ic nb bs ro ac) (hb : b < nb) (hj : j < 1200) (e : rcl ro j = nI b) : (bs b).2.1.2.1 = nI (1 + 100 * (j / 60) + j % 60) := by
  have hN := h.1
  unfold rcl at e
  cases hr : ro (j / 60) with
  | none => rw [hr] at e; exact absurd e.symm (nIne (by omega))
  | some q =>
    obtain ⟨k, ps⟩ := q
    rw [hr] at e
    dsimp only at e
    cases hp : ps[j % 60]? with
    | none => rw [hp] at e; exact absurd e.symm (nIne (by omega))
    | some v =>
      rw [hp] at e
      obtain ⟨-, z | ⟨b', b1, b2, b3⟩⟩ := h.2.2.1 (j / 60) k ps (by omega) hr (j % 60) v hp
      · have : v = nI b := e
        rw [z] at this
        exact absurd this.symm (nIne (by omega))
      · have e2 : nI b' = nI b := b2.symm.trans e
        have e3 := congrArg Int32.toNatClampNeg e2
        rw [nI_clamp (by omega), nI_clamp (by omega)] at e3
        rw [← e3]; exact b3
theorem m_st20 {Q : Mq} {nb b : Nat} {bs : Nat → Bv} {ro : Nat → Rw} {ac : Nat → Wn} (l1 : Int32) (hR : mRs Q 11 12 13 ro) (hI : Ic nb bs ro ac) (hb : b < nb) : zev (zwhile (mf_strays_L20 l1 (nI b)) (Q, 0, 0, 0)) (fun y => ∃ c a u, y = (Q, c, a, u) ∧ sSt (bs b).2.1.2.1 (sRow1 ro b 1200) c a) := by
  have hN := hI.1
  refine zev_up (τ := Mq × Int32 × Int32 × Int32) (fun i (z : Mq × Int32 × Int32 × Int32) => ∃ c a, z = (Q, c, a, nI i) ∧ sSt (bs b).2.1.2.1 (sRow1 ro b i) c a) 1200 (Nat.zero_le _) ⟨0, 0, rfl, Or.inl ⟨fun ⟨i, hi, _⟩ => by omega, rfl, rfl⟩⟩ ?_ ?_
  · rintro j z hj ⟨c, a, rfl, hs⟩
    have e1 : nI j / 60 = nI (j / 60) := pk_div (d := 60) (by omega) (by decide) (by decide)
    have e2 : nI j - nI (j / 60) * 60 = nI (j % 60) := by rw [← e1]; exact pk_rem (d := 60) (by omega) (by decide) (by decide)
    have i60 : ∀ {x : Int32} {P : Int32 → Prop}, zev (zo_id x 60) P ↔ P (x / 60) := zev_id.trans (and_iff_right (by decide))
    have m60 : ∀ {x : Int32} {P : Int32 → Prop}, zev (zo_im x 60) P ↔ P (x - x / 60 * 60) := zev_im.trans (and_iff_right (by decide))
    unfold mf_strays_L20 mf_strays_J63
    dsimp only
    rw [if_neg (show ¬ (1200 : Int32) ≤ nI j from nI_ge (b := 1200) hj (by decide))]
    simp only [zev_b1, zev_mbd, zev_some, zev_b0, zev_bo, true_and, and_true, mln_2, mln_3, mln_4, mln_5, mln_6, mln_7, mln_8, mln_9, mln_10, mln_11, mln_12, mln_13, mln_15, mln_16, mln_17, mln_24, mln_25, mln_26, mln_27, mln_28, mln_29, mln_30, mln_31, mln_32, mln_34, mln_35, mln_37, mln_42, mln_49, mln_50, mln_51, mln_52, mln_53, mln_54, mln_55, mln_56, mln_57, mln_58, mln_59, mln_61, mln_62, mln_63, mln_65, mln_66, mln_68, mln_70, mln_71, mln_72, mln_73, mln_74, mev_ai (show j < 2 ^ 31 by omega), hj, rcl_m hR hj]
    by_cases e : rcl ro j = nI b
    · have hp := rcl_pl hI hb hj e
      rw [if_pos e]
      simp only [zev_b1, zev_mbd, zev_some, zev_b0, zev_bo, true_and, and_true, i60, m60, e1, e2]
      refine ⟨_, rfl, _, _, by rw [nI_1], ?_⟩
      rcases hs with ⟨s1, s2, s3⟩ | ⟨⟨i, hi, ei⟩, s2, s3⟩
      · refine Or.inr ⟨⟨j, by omega, e⟩, by rw [s2]; decide, ?_⟩
        rw [hp]
        have x1 : (1 : Int32) = nI 1 := rfl
        rw [nI_x100, x1, nI_add, nI_add]
      · have hp2 := rcl_pl hI hb (show i < 1200 by omega) ei
        rw [hp] at hp2
        have e3 := congrArg Int32.toNatClampNeg hp2
        rw [nI_clamp (by omega), nI_clamp (by omega)] at e3
        omega
    · rw [if_neg e, zev_some]
      refine ⟨_, rfl, c, a, by rw [nI_1], ?_⟩
      have hiff : sRow1 ro b (j + 1) ↔ sRow1 ro b j := ⟨fun ⟨i, hi, ei⟩ => by
        by_cases eij : i = j
        · rw [eij] at ei; exact absurd ei e
        · exact ⟨i, by omega, ei⟩, fun ⟨i, hi, ei⟩ => ⟨i, by omega, ei⟩⟩
      rcases hs with ⟨s1, s2⟩ | ⟨s1, s2⟩
      · exact Or.inl ⟨fun z => s1 (hiff.mp z), s2⟩
      · exact Or.inr ⟨hiff.mpr s1, s2⟩
  · rintro z ⟨c, a, rfl, hs⟩
    unfold mf_strays_L20
    dsimp only
    rw [if_pos (show (1200 : Int32) ≤ nI 1200 from nI_le (a := 1200) (Nat.le_refl _) (by decide)), zev_some]
    exact ⟨_, rfl, c, a, _, rfl, hs⟩
