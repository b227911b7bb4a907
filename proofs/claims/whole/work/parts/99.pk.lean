/-! The question strays, in the class: the rows. -/
def Zst (M : Zm) (A : Nat → Nat) (nb : Nat) (bs : Nat → Bv) (P : Nat → Prop) : Prop := ∃ s, zSg M A nb s ∧ ∀ b, b < nb → sSt (bs b).2.1.2.1 (P b) (s b).1 (s b).2
theorem Zst.iff {M : Zm} {A : Nat → Nat} {nb : Nat} {bs : Nat → Bv} {P P' : Nat → Prop} (h : Zst M A nb bs P) (e : ∀ b, b < nb → (P b ↔ P' b)) : Zst M A nb bs P' := by
  obtain ⟨s, h1, h2⟩ := h
  exact ⟨s, h1, fun b hb => sSt_iff (h2 b hb) (e b hb)⟩
theorem zCe_see1 {M : Zm} {g : Zg} {A AL : Nat → Nat} {x : Nat} {adr : Nat → Nat} {ga nb : Nat} {bs : Nat → Bv} {ro : Nat → Rw} {lb : List Lb} {ps : List (Nat × Int64)} {ac : Nat → Wn} {jr bo : List Ln} {mo : Int32} {gi : Int64} {tr tp wy wh : Int32} {tc : List Int32} {st : List Int64} {ds : List (Nat × Int64)} {dw : Wn} {bf : Nat → Int32} {ba : Wn} {bc : List Nat} {b k : Nat} {P : Nat → Prop} (h : zCe M g A AL x adr ga nb bs ro lb ps ac jr bo mo gi tr tp wy wh tc st ds dw bf ba bc) (hs : Zst M A nb bs P) (hbn : b < nb) (hP : ¬ P b) {p : Int32} (hp : p = (bs b).2.1.2.1) (hb : zBu M g k) : zev (zf_X0_seeAt M (some (A b)) p) (fun y => zCe y.1 g A AL x adr ga nb bs ro lb ps ac jr bo mo gi tr tp wy wh tc st ds dw bf ba bc ∧ Zst y.1 A nb bs (fun c => P c ∨ c = b) ∧ zFo M g y.1 g (fun z => z = 100 + 3 * b) ∧ zBu y.1 g k) := by
  obtain ⟨s, s1, s2⟩ := hs
  refine zev_mono (zCe_seeAt h s1 hbn p hb) ?_
  rintro ⟨M1, u⟩ ⟨h1, g1, f1, b1⟩
  refine ⟨h1, ⟨_, g1, fun c hc => ?_⟩, f1, b1⟩
  dsimp only
  by_cases e : c = b
  · subst e
    rw [if_pos rfl]
    rcases s2 c hc with ⟨t1, t2, t3⟩ | ⟨t1, -, -⟩
    · exact Or.inr ⟨Or.inr rfl, by dsimp only; rw [t2]; decide, hp⟩
    · exact absurd t1 hP
  · rw [if_neg e]
    exact sSt_iff (s2 c hc) ⟨Or.inl, fun z => z.resolve_right e⟩
theorem rcl_at (ro : Nat → Rw) {r p : Nat} (hp : p < 60) : rcl ro (60 * r + p) = match ro r with | none => -1 | some q => (q.2[p]?).getD (-1) := by
  unfold rcl
  rw [show (60 * r + p) / 60 = r by omega, show (60 * r + p) % 60 = p by omega]
  cases ro r <;> rfl
theorem zCe_seeRow {M : Zm} {g : Zg} {A AL : Nat → Nat} {x : Nat} {adr : Nat → Nat} {ga nb : Nat} {bs : Nat → Bv} {ro : Nat → Rw} {lb : List Lb} {ps : List (Nat × Int64)} {ac : Nat → Wn} {jr bo : List Ln} {mo : Int32} {gi : Int64} {tr tp wy wh : Int32} {tc : List Int32} {st : List Int64} {ds : List (Nat × Int64)} {dw : Wn} {bf : Nat → Int32} {ba : Wn} {bc : List Nat} {r k : Nat} (h : zCe M g A AL x adr ga nb bs ro lb ps ac jr bo mo gi tr tp wy wh tc st ds dw bf ba bc) (hI : Ic nb bs ro ac) (hs : Zst M A nb bs (fun b => sRow1 ro b (60 * r))) (hr : r < 20) (hb : zBu M g k) : zev (zf_X11_seeRow M (some x) (nI r)) (fun y => zCe y.1 g A AL x adr ga nb bs ro lb ps ac jr bo mo gi tr tp wy wh tc st ds dw bf ba bc ∧ Zst y.1 A nb bs (fun b => sRow1 ro b (60 * (r + 1))) ∧ zFo M g y.1 g Tc ∧ zBu y.1 g k) := by
  have hN := h.N
  have r31 : r < 2 ^ 31 := by omega
  obtain ⟨q1, q2, q3, q4⟩ := h.rs
  rcases q4 r hr with ⟨e1, e2⟩ | ⟨w, kd, ps', e1, e2, e3, e4⟩
  · simp only [zf_X11_seeRow, zev_b1, zev_bd, zev_some, zev_gi, zev_gj, zev_gr, zev_pi, zev_pz, zev_pj, zev_pr, zev_rc, zev_cc, zev_b0, zev_bo, true_and, and_true, h.O, h.r (show 1 < 14 by decide), zev_ar2 r31, q1, q2, hr, e2, if_true]
    refine ⟨h, hs.iff (fun b hbn => ⟨fun ⟨i, hi, ei⟩ => ⟨i, by omega, ei⟩, fun ⟨i, hi, ei⟩ => ?_⟩), zFo.rf, hb⟩
    by_cases hlt : i < 60 * r
    · exact ⟨i, hlt, ei⟩
    · have e5 := rcl_at ro (r := r) (p := i - 60 * r) (by omega)
      rw [show 60 * r + (i - 60 * r) = i by omega, e1] at e5
      rw [ei] at e5
      exact absurd e5 (nIne (by omega))
  · obtain ⟨z1, z2, z3, z4, pa, y1, y2, y3, y4, y5⟩ := e3
    simp only [zf_X11_seeRow, zev_b1, zev_bd, zev_some, zev_gi, zev_gj, zev_gr, zev_pi, zev_pz, zev_pj, zev_pr, zev_rc, zev_cc, zev_b0, zev_bo, true_and, and_true, h.O, h.r (show 1 < 14 by decide), zev_ar2 r31, q1, q2, hr, e2, if_neg (show ¬ (some w : Option Nat) = none by simp), z1, y1]
    refine zev_up (τ := Zm × Int32) (fun p (z : Zm × Int32) => ∃ M2, z = (M2, nI p) ∧ zCe M2 g A AL x adr ga nb bs ro lb ps ac jr bo mo gi tr tp wy wh tc st ds dw bf ba bc ∧ Zst M2 A nb bs (fun b => sRow1 ro b (60 * r + p)) ∧ zFo M g M2 g Tc ∧ zFo M g M2 g (fun z => 100 ≤ z) ∧ zBu M2 g k) ps'.length (Nat.zero_le _) ⟨M, rfl, h, hs, zFo.rf, zFo.rf, hb⟩ ?_ ?_
    · rintro p z hp ⟨M2, rfl, h2, s2, f2, f2', b2⟩
      have e := f2'.at y2.1 y4 (show ¬ 100 ≤ 80 + r by omega)
      have O2 := f2'.O y2
      have L2 := (f2'.A (show zA M pa 14 ps'.length from ⟨y2, y3⟩)).2
      have c1 : ¬ nI ps'.length ≤ nI p := nI_ge hp (by omega)
      obtain ⟨v, hv⟩ := getElem?_lt hp
      have hvi : zm_i M2 pa p = v := by rw [e.1]; exact y5 p v hv
      have hrc : rcl ro (60 * r + p) = v := by rw [rcl_at ro (by omega), e1]; dsimp only; rw [hv]; rfl
      have hst : ∀ b, b < nb → (sRow1 ro b (60 * r + (p + 1)) ↔ (sRow1 ro b (60 * r + p) ∨ v = nI b)) := fun b hbn => ⟨fun ⟨i, hi, ei⟩ => by
        by_cases e9 : i = 60 * r + p
        · rw [e9, hrc] at ei; exact Or.inr ei
        · exact Or.inl ⟨i, by omega, ei⟩, fun z => by
        rcases z with ⟨i, hi, ei⟩ | z
        · exact ⟨i, by omega, ei⟩
        · exact ⟨60 * r + p, by omega, hrc.trans z⟩⟩
      simp only [zf_X11_seeRow_L22, zf_X11_seeRow_J52, zev_b1, zev_bd, zev_some, zev_gi, zev_gj, zev_gr, zev_pi, zev_pz, zev_pj, zev_pr, zev_rc, zev_cc, zev_b0, zev_bo, true_and, and_true, zev_al2 O2 (by decide) (by decide), L2, if_neg c1, zev_ai2 (show p < 2 ^ 31 by omega), O2, hp, hvi, h2.O, zev_eq (zCe_find h2 v)]
      obtain ⟨-, hz | ⟨b', b1, hz, b3⟩⟩ := hI.2.2.1 r kd ps' hr e1 p v hv
      · have hf : fnd nb v = none := by rw [hz]; unfold fnd; rw [if_pos (by decide)]
        simp only [hf, Option.map_none, if_true, zev_b1, zev_bd, zev_some, zev_gi, zev_gj, zev_gr, zev_pi, zev_pz, zev_pj, zev_pr, zev_rc, zev_cc, zev_b0, zev_bo, true_and, and_true]
        refine ⟨_, rfl, M2, by rw [nI_1], h2, s2.iff (fun b hbn => ?_), f2, f2', b2⟩
        rw [hst b hbn, hz]
        exact ⟨Or.inl, fun z => z.resolve_right (fun w => nIne (by omega) w.symm)⟩
      · have hf : fnd nb v = some b' := by rw [hz]; unfold fnd; rw [if_neg (nI_pos (by omega)), if_pos (nI_lt b1 (by omega)), nI_clamp (by omega)]
        simp only [hf, Option.map_some, if_neg (show ¬ (some (A b') : Option Nat) = none by simp), zev_b1, zev_bd, zev_some, zev_gi, zev_gj, zev_gr, zev_pi, zev_pz, zev_pj, zev_pr, zev_rc, zev_cc, zev_b0, zev_bo, true_and, and_true, zf_X11_placeCode, (h2.bs b1).O]
        have hnot : ¬ sRow1 ro b' (60 * r + p) := fun ⟨i, hi, ei⟩ => by
          have h7 := rcl_pl hI b1 (show i < 1200 by omega) ei
          rw [b3] at h7
          have e3 := congrArg Int32.toNatClampNeg h7
          rw [nI_clamp (by omega), nI_clamp (by omega)] at e3
          omega
        refine zev_mono (zCe_see1 h2 s2 b1 hnot (by
          rw [b3]
          have x1 : (1 : Int32) = nI 1 := rfl
          simp only [nI_x100, x1, nI_add]) b2) ?_
        rintro ⟨M3, u3⟩ ⟨h3, s3, f3, b4⟩
        dsimp only at h3 s3 f3 b4 ⊢
        refine ⟨_, rfl, M3, by rw [nI_1], h3, s3.iff (fun b hbn => ?_), f2.tr (f3.mono (fun z q => show z ≠ 1 ∧ z ≠ 28 ∧ z ≠ 29 by first | omega | (dsimp only at q; omega))), f2'.tr (f3.mono (fun z q => by omega)), b4⟩
        rw [hst b hbn, hz]
        exact ⟨fun z => z.imp id (fun w => by rw [w]), fun z => z.imp id (fun w => by
          have e3 := congrArg Int32.toNatClampNeg w
          rw [nI_clamp (by omega), nI_clamp (by omega)] at e3
          exact e3.symm)⟩
    · rintro z ⟨M2, rfl, h2, s2, f2, f2', b2⟩
      have O2 := f2'.O y2
      have L2 := (f2'.A (show zA M pa 14 ps'.length from ⟨y2, y3⟩)).2
      have c1 : nI ps'.length ≤ nI ps'.length := nI_le (Nat.le_refl _) (by omega)
      simp only [zf_X11_seeRow_L22, zev_b1, zev_bd, zev_some, zev_gi, zev_gj, zev_gr, zev_pi, zev_pz, zev_pj, zev_pr, zev_rc, zev_cc, zev_b0, zev_bo, true_and, and_true, zev_al2 O2 (by decide) (by decide), L2, if_pos c1]
      refine ⟨_, rfl, h2, s2.iff (fun b hbn => ⟨fun ⟨i, hi, ei⟩ => ⟨i, by omega, ei⟩, fun ⟨i, hi, ei⟩ => ?_⟩), f2, b2⟩
      by_cases hlt : i < 60 * r + ps'.length
      · exact ⟨i, hlt, ei⟩
      · have e5 := rcl_at ro (r := r) (p := i - 60 * r) (by omega)
        rw [show 60 * r + (i - 60 * r) = i by omega, e1] at e5
        dsimp only at e5
        rw [List.getElem?_eq_none (by omega), ei] at e5
        exact absurd e5 (nIne (by omega))
