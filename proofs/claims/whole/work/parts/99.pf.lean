/-! The question odd. -/
def oacc (ac : Nat → Wn) (n : Nat) : Wn := (List.range n).foldl (fun a j => wsbt a (ac (j + 1))) (ac 0)
def owin (bs : Nat → Bv) (w : Wn) (n : Nat) : Wn := (List.range n).foldl (fun a b => wsbt a (bs b).2.1.2.2.2) w
def codd (nb : Nat) (bs : Nat → Bv) (ac : Nat → Wn) : Int32 := nI ((owin bs (oacc ac 4) nb).countP (fun q => decide (q.2 ≠ 0)))
theorem oacc_s (ac : Nat → Wn) (n : Nat) : oacc ac (n + 1) = wsbt (oacc ac n) (ac (n + 1)) := by unfold oacc; rw [range_snoc, List.foldl_append]; rfl
theorem owin_s (bs : Nat → Bv) (w : Wn) (n : Nat) : owin bs w (n + 1) = wsbt (owin bs w n) (bs n).2.1.2.2.2 := by unfold owin; rw [range_snoc, List.foldl_append]; rfl
theorem oacc_cod {ac : Nat → Wn} (h : ∀ i, i < 5 → wcod (ac i)) : ∀ n, n < 5 → wcod (oacc ac n)
  | 0, _ => h 0 (by decide)
  | n + 1, hn => by rw [oacc_s]; exact wcod_wsbt _ _ (oacc_cod h n (by omega)) (h (n + 1) hn)
theorem owin_cod {nb : Nat} {bs : Nat → Bv} {w : Wn} (hw : wcod w) (h : ∀ b, b < nb → wcod (bs b).2.1.2.2.2) : ∀ n, n ≤ nb → wcod (owin bs w n)
  | 0, _ => hw
  | n + 1, hn => by rw [owin_s]; exact wcod_wsbt _ _ (owin_cod hw h n (by omega)) (h n (by omega))
theorem zCe_bsub {M : Zm} {g : Zg} {A AL : Nat → Nat} {x : Nat} {adr : Nat → Nat} {ga nb : Nat} {bs : Nat → Bv} {ro : Nat → Rw} {lb : List Lb} {ps : List (Nat × Int64)} {ac : Nat → Wn} {jr bo : List Ln} {mo : Int32} {gi : Int64} {tr tp wy wh : Int32} {tc : List Int32} {st : List Int64} {ds : List (Nat × Int64)} {dw : Wn} {bf : Nat → Int32} {ba : Wn} {bc : List Nat} {o2 v k : Nat} {l m : Wn} (h : zCe M g A AL x adr ga nb bs ro lb ps ac jr bo mo gi tr tp wy wh tc st ds dw bf ba bc) (hl : zWo M g 25 (adr 7) l) (hv : zWo M g o2 v m) (ho : o2 ≠ 25) (hcl : wcod l) (hcm : wcod m) (hb : zBu M g k) : zev (zf_X10_subtract M (some (adr 7)) (some v)) (fun y => ∃ g', zCe y.1 g' A AL x adr ga nb bs ro lb ps ac jr bo mo gi tr tp wy wh tc st ds dw bf ba bc ∧ zWo y.1 g' 25 (adr 7) (wsbt l m) ∧ zFo M g y.1 g' Tc ∧ zBu y.1 g' k) := by
  refine zev_mono (zWo_subtract hl hv (fun e => ho e.symm) (by decide) rfl hcl hcm hb) ?_
  rintro ⟨M2, u0⟩ hh
  dsimp only at hh ⊢
  obtain ⟨g', W2, f, b2⟩ := hh
  obtain ⟨cN, cO, cB, cBs, cRw, cLl, cLs, cPk, cJu, cPp, cAc, cBl, cJr, cBo, cDr, cBe, cT1, cT2⟩ := h
  exact ⟨g', ⟨cN, cO.fr f (by first | omega | (dsimp only; omega)), cB.fr f (by first | omega | (dsimp only; omega)), cBs.fr f (fun b hb => ⟨(by first | omega | (dsimp only; omega)), (by first | omega | (dsimp only; omega)), (by first | omega | (dsimp only; omega))⟩), cRw.fr f (by first | omega | (dsimp only; omega)) (fun r hr => (by first | omega | (dsimp only; omega))), cLl.fr f (by first | omega | (dsimp only; omega)), cLs.fr f (fun i hi => (by first | omega | (dsimp only; omega))), cPk.fr f (by first | omega | (dsimp only; omega)), cJu.fr f (by first | omega | (dsimp only; omega)), cPp.fr f (by first | omega | (dsimp only; omega)) (by first | omega | (dsimp only; omega)), cAc.fr f (by first | omega | (dsimp only; omega)) (fun h hh => (by first | omega | (dsimp only; omega))), ⟨_, W2⟩, cJr.fr f (by first | omega | (dsimp only; omega)), cBo.fr f (by first | omega | (dsimp only; omega)), cDr.fr f (by first | omega | (dsimp only; omega)) (by first | omega | (dsimp only; omega)), cBe.fr f (by first | omega | (dsimp only; omega)) (by first | omega | (dsimp only; omega)) (by first | omega | (dsimp only; omega)), cT1.fr f (by first | omega | (dsimp only; omega)), cT2.fr f (by first | omega | (dsimp only; omega))⟩, W2, f.mono (fun z q => show z ≠ 1 ∧ z ≠ 28 ∧ z ≠ 29 by first | omega | (dsimp only at q; omega)), b2⟩
theorem Q_odd {M : Zm} {g : Zg} {A AL : Nat → Nat} {x : Nat} {adr : Nat → Nat} {ga nb : Nat} {bs : Nat → Bv} {ro : Nat → Rw} {lb : List Lb} {ps : List (Nat × Int64)} {ac : Nat → Wn} {jr bo : List Ln} {mo : Int32} {gi : Int64} {tr tp wy wh : Int32} {tc : List Int32} {st : List Int64} {ds : List (Nat × Int64)} {dw : Wn} {bf : Nat → Int32} {ba : Wn} {bc : List Nat} {k : Nat} (h : zCe M g A AL x adr ga nb bs ro lb ps ac jr bo mo gi tr tp wy wh tc st ds dw bf ba bc) (h6 : I60 nb bs) (hca : ∀ i, i < 5 → wcod (ac i)) (hb : zBu M g k) : zev (zf_X11_odd M (some x)) (fun y => ∃ g', zCe y.1 g' A AL x adr ga nb bs ro lb ps ac jr bo mo gi tr tp wy wh tc st ds dw bf ba bc ∧ y.2 = codd nb bs ac ∧ zFo M g y.1 g' Tc ∧ zBu y.1 g' k) := by
  have hN := h.N
  obtain ⟨l0, L0⟩ : zBl M g (adr 7) := by obtain ⟨cN, cO, cB, cBs, cRw, cLl, cLs, cPk, cJu, cPp, cAc, cBl, cJr, cBo, cDr, cBe, cT1, cT2⟩ := h; exact cBl
  obtain ⟨a1, a2, a3, a4⟩ := h.ac
  obtain ⟨w0, w01, w02⟩ := a4 0 (by decide)
  have har : zo_ar M 18 (some (adr 6)) (0 : Int32) = some (some w0) := by
    refine zev_of ?_
    show zev (zo_ar M 18 (some (adr 6)) (nI 0)) _
    rw [zev_ar2 (by decide)]
    exact ⟨⟨a1, by rw [a2]; decide⟩, w01⟩
  simp only [zf_X11_odd, zev_b1, zev_bd, zev_some, zev_gi, zev_gj, zev_gr, zev_pi, zev_pz, zev_pj, zev_pr, zev_rc, zev_cc, zev_b0, zev_bo, true_and, and_true, h.O, h.r (show 7 < 14 by decide), h.r (show 6 < 14 by decide), zev_eq har, L0.O]
  refine zev_mono (zWo_copy L0 w02 (by decide) (by decide) w02.cap hb) ?_
  rintro ⟨M1, u1⟩ hh
  dsimp only at hh ⊢
  obtain ⟨g1, L1, f1, b1⟩ := hh
  have h1 : zCe M1 g1 A AL x adr ga nb bs ro lb ps ac jr bo mo gi tr tp wy wh tc st ds dw bf ba bc := by
    obtain ⟨cN, cO, cB, cBs, cRw, cLl, cLs, cPk, cJu, cPp, cAc, cBl, cJr, cBo, cDr, cBe, cT1, cT2⟩ := h
    exact ⟨cN, cO.fr f1 (by first | omega | (dsimp only; omega)), cB.fr f1 (by first | omega | (dsimp only; omega)), cBs.fr f1 (fun b hb => ⟨(by first | omega | (dsimp only; omega)), (by first | omega | (dsimp only; omega)), (by first | omega | (dsimp only; omega))⟩), cRw.fr f1 (by first | omega | (dsimp only; omega)) (fun r hr => (by first | omega | (dsimp only; omega))), cLl.fr f1 (by first | omega | (dsimp only; omega)), cLs.fr f1 (fun i hi => (by first | omega | (dsimp only; omega))), cPk.fr f1 (by first | omega | (dsimp only; omega)), cJu.fr f1 (by first | omega | (dsimp only; omega)), cPp.fr f1 (by first | omega | (dsimp only; omega)) (by first | omega | (dsimp only; omega)), cAc.fr f1 (by first | omega | (dsimp only; omega)) (fun h hh => (by first | omega | (dsimp only; omega))), ⟨_, L1⟩, cJr.fr f1 (by first | omega | (dsimp only; omega)), cBo.fr f1 (by first | omega | (dsimp only; omega)), cDr.fr f1 (by first | omega | (dsimp only; omega)) (by first | omega | (dsimp only; omega)), cBe.fr f1 (by first | omega | (dsimp only; omega)) (by first | omega | (dsimp only; omega)) (by first | omega | (dsimp only; omega)), cT1.fr f1 (by first | omega | (dsimp only; omega)), cT2.fr f1 (by first | omega | (dsimp only; omega))⟩
  have f1' : zFo M g M1 g1 Tc := f1.mono (fun z q => show z ≠ 1 ∧ z ≠ 28 ∧ z ≠ 29 by first | omega | (dsimp only at q; omega))
  refine zev_up (τ := Zm × Int32) (fun i (z : Zm × Int32) => ∃ n M2 g2, i = n + 1 ∧ z = (M2, nI i) ∧ zCe M2 g2 A AL x adr ga nb bs ro lb ps ac jr bo mo gi tr tp wy wh tc st ds dw bf ba bc ∧ zWo M2 g2 25 (adr 7) (oacc ac n) ∧ zFo M g M2 g2 Tc ∧ zBu M2 g2 k) 5 (i := 1) (by decide) ⟨0, M1, g1, rfl, rfl, h1, L1, f1', b1⟩ ?_ ?_
  · rintro i z hi ⟨n, M2, g2, rfl, rfl, h2, L2, f2, b2⟩
    obtain ⟨a1, a2, a3, a4⟩ := h2.ac
    obtain ⟨w, w1, w2⟩ := a4 (n + 1) (by omega)
    have c1 : ¬ (5 : Int32) ≤ nI (n + 1) := nI_ge (b := 5) hi (by decide)
    simp only [zf_X11_odd_L15, if_neg c1, zev_b1, zev_bd, zev_some, zev_gi, zev_gj, zev_gr, zev_pi, zev_pz, zev_pj, zev_pr, zev_rc, zev_cc, zev_b0, zev_bo, true_and, and_true, h2.O, h2.r (show 7 < 14 by decide), h2.r (show 6 < 14 by decide), zev_ar2 (show n + 1 < 2 ^ 31 by omega), a1, a2, show n + 1 < 5 by omega, w1, L2.O]
    refine zev_mono (zCe_bsub h2 L2 w2 (by omega) (oacc_cod hca n (by omega)) (hca (n + 1) (by omega)) b2) ?_
    rintro ⟨M3, u3⟩ hh
    dsimp only at hh ⊢
    obtain ⟨g3, h3, L3, f3, b3⟩ := hh
    exact ⟨_, rfl, n + 1, M3, g3, rfl, by rw [nI_1], h3, by rw [oacc_s]; exact L3, f2.tr f3, b3⟩
  · rintro z ⟨n, M2, g2, hn, rfl, h2, L2, f2, b2⟩
    have hn4 : n = 4 := by omega
    subst hn4
    have c1 : (5 : Int32) ≤ nI 5 := by decide
    simp only [zf_X11_odd_L15, if_pos c1, zev_b1, zev_bd, zev_some, zev_gi, zev_gj, zev_gr, zev_pi, zev_pz, zev_pj, zev_pr, zev_rc, zev_cc, zev_b0, zev_bo, true_and, and_true]
    refine ⟨_, rfl, ?_⟩
    dsimp only
    refine zev_up (τ := Zm × Int32) (fun i (z : Zm × Int32) => ∃ M3 g3, z = (M3, nI i) ∧ zCe M3 g3 A AL x adr ga nb bs ro lb ps ac jr bo mo gi tr tp wy wh tc st ds dw bf ba bc ∧ zWo M3 g3 25 (adr 7) (owin bs (oacc ac 4) i) ∧ zFo M g M3 g3 Tc ∧ zBu M3 g3 k) nb (Nat.zero_le _) ⟨M2, g2, rfl, h2, L2, f2, b2⟩ ?_ ?_
    · rintro i z hi ⟨M3, g3, rfl, h3, L3, f3, b3⟩
      have c2 : ¬ nI nb ≤ nI i := nI_ge hi (by omega)
      obtain ⟨wa, v1, v2⟩ := (h3.bs hi).wn
      simp only [zf_X11_odd_L41, zev_b1, zev_bd, zev_some, zev_gi, zev_gj, zev_gr, zev_pi, zev_pz, zev_pj, zev_pr, zev_rc, zev_cc, zev_b0, zev_bo, true_and, and_true, h3.O, h3.r (show 0 < 14 by decide), h3.r (show 7 < 14 by decide), h3.bl.O, zev_eq (zCe_size h3), if_neg c2, zev_eq (zCe_get h3 hi), (h3.bs hi).O, v1, L3.O]
      refine zev_mono (zCe_bsub h3 L3 v2 (by omega) (owin_cod (nb := nb) (oacc_cod hca 4 (by decide)) (fun b hb => (h6 b hb).2) i (by omega)) (h6 i hi).2 b3) ?_
      rintro ⟨M4, u4⟩ hh
      dsimp only at hh ⊢
      obtain ⟨g4, h4, L4, f4, b4⟩ := hh
      exact ⟨_, rfl, M4, g4, by rw [nI_1], h4, by rw [owin_s]; exact L4, f3.tr f4, b4⟩
    · rintro z ⟨M3, g3, rfl, h3, L3, f3, b3⟩
      have c2 : nI nb ≤ nI nb := nI_le (Nat.le_refl _) (by omega)
      simp only [zf_X11_odd_L41, zev_b1, zev_bd, zev_some, zev_gi, zev_gj, zev_gr, zev_pi, zev_pz, zev_pj, zev_pr, zev_rc, zev_cc, zev_b0, zev_bo, true_and, and_true, h3.O, h3.r (show 0 < 14 by decide), h3.bl.O, zev_eq (zCe_size h3), if_pos c2]
      refine ⟨_, rfl, ?_⟩
      dsimp only
      simp only [zev_b1, zev_bd, zev_some, zev_gi, zev_gj, zev_gr, zev_pi, zev_pz, zev_pj, zev_pr, zev_rc, zev_cc, zev_b0, zev_bo, true_and, and_true, h3.O, h3.r (show 7 < 14 by decide), L3.O, zev_eq (zWo_uneven L3)]
      exact ⟨g3, h3, rfl, f3, b3⟩
