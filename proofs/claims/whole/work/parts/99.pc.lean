/-! Acts of the class: label, barrel. -/
theorem zRs.al {M : Zm} {g : Zg} {a : Nat} {AL AL' : Nat → Nat} {ro : Nat → Rw} (h : zRs M g a AL ro) (e : ∀ r, r < 20 → AL' (1000 + r) = AL (1000 + r)) : zRs M g a AL' ro := by
  obtain ⟨h1, h2, h3, h4⟩ := h
  refine ⟨h1, h2, h3, fun r hr => ?_⟩
  rcases h4 r hr with z | ⟨w, k, ps, z1, z2, z3, z4⟩
  · exact Or.inl z
  · exact Or.inr ⟨w, k, ps, z1, z2, z3, by rw [e r hr]; exact z4⟩
theorem range_up (A : Nat → Nat) (n v : Nat) : (List.range (n + 1)).map (fun i => if i = n then v else A i) = (List.range n).map A ++ [v] := by
  rw [range_snoc, List.map_append]
  congr 1
  · refine List.map_congr_left (fun i hi => ?_)
    have := List.mem_range.mp hi
    rw [if_neg (by omega)]
  · simp
set_option maxHeartbeats 1000000 in
theorem C_label {M : Zm} {g : Zg} {A AL : Nat → Nat} {x : Nat} {adr : Nat → Nat} {ga nb : Nat} {bs : Nat → Bv} {ro : Nat → Rw} {lb : List Lb} {ps : List (Nat × Int64)} {ac : Nat → Wn} {jr bo : List Ln} {mo : Int32} {gi : Int64} {tr tp wy wh : Int32} {tc : List Int32} {st : List Int64} {ds : List (Nat × Int64)} {dw : Wn} {bf : Nat → Int32} {ba : Wn} {bc : List Nat} {k : Nat} (h : zCe M g A AL x adr ga nb bs ro lb ps ac jr bo mo gi tr tp wy wh tc st ds dw bf ba bc) (hb : zBu M g (k + 600)) : zev (zf_X11_makeLabel M (some x)) (fun y => ∃ g' A' AL', zCs y.1 g' A' AL' x adr ga (sLabel (nb, bs, ro, lb, ps, ac, jr, bo, mo, gi, tr, tp, wy, wh, tc, st, ds, dw, bf, ba, bc)).2 ∧ y.2 = (sLabel (nb, bs, ro, lb, ps, ac, jr, bo, mo, gi, tr, tp, wy, wh, tc, st, ds, dw, bf, ba, bc)).1 ∧ zFo M g y.1 g' Tc ∧ zBu y.1 g' k) := by
  unfold sLabel
  dsimp only
  have h40 := h.ls.1
  have hs := zAl_size h.ll
  rw [range_len] at hs
  simp only [zf_X11_makeLabel, zev_b1, zev_bd, zev_some, zev_gi, zev_gj, zev_gr, zev_pi, zev_pz, zev_pj, zev_pr, zev_rc, zev_cc, zev_b0, zev_bo, true_and, and_true, h.O, h.r (show 2 < 14 by decide), h.ll.O, zev_eq hs]
  by_cases c : lb.length < 40
  · rw [if_pos c, if_pos (show nI lb.length < 40 from nI_lt (b := 40) c (by decide))]
    simp only [zev_b1, zev_bd, zev_some, zev_gi, zev_gj, zev_gr, zev_pi, zev_pz, zev_pj, zev_pr, zev_rc, zev_cc, zev_b0, zev_bo, true_and, and_true, h.O, h.r (show 2 < 14 by decide)]
    have b1 := hb.1
    have b2 := hb.2
    have nok : ¬ zm_ok M (zm_b M + zm_c M) := fun q => by have := q.2; omega
    refine zev_nob (k := 4) (n := 8) (by omega) (by omega) (fun M2 f2 A2 c2 s2 z2 => ?_)
    have fo2 : zFo M g M2 (zgw g (40 + lb.length) (zm_b M + zm_c M)) (fun z => z = 40 + lb.length) := zgw_fo (f2.mono (fun _ _ q => q.elim)) nok
    have bu2 : zBu M2 (zgw g (40 + lb.length) (zm_b M + zm_c M)) (k + 110) := zBu.gw (ds := 8) (dc := 1) (hb.mono (show k + 110 + 8 + 1 ≤ k + 600 by omega)) s2 c2
    have eO : zO M2 (zm_b M + zm_c M) 4 := A2.1
    have enx : zm_nx M = some (zm_b M + zm_c M) := rfl
    have eg2 : (zgw g (40 + lb.length) (zm_b M + zm_c M)).1 (zm_b M + zm_c M) = 40 + lb.length := zgw_1
    simp only [enx, zev_b1, zev_bd, zev_some, zev_gi, zev_gj, zev_gr, zev_pi, zev_pz, zev_pj, zev_pr, zev_rc, zev_cc, zev_b0, zev_bo, true_and, and_true, eO]
    generalize zgw g (40 + lb.length) (zm_b M + zm_c M) = g2 at fo2 bu2 eg2 ⊢
    generalize zm_b M + zm_c M = nw at eO eg2 ⊢
    refine zev_mono (zLb_init (k := k) eO eg2 bu2) ?_
    rintro ⟨M3, u3⟩ hh
    dsimp only at hh ⊢
    obtain ⟨g3, L3, f3, b3⟩ := hh
    have f03 := fo2.tr f3
    have ll3 := h.ll.fr f03 (show ¬ 4 = 40 + lb.length by omega)
    simp only [ll3.O, zev_b1, zev_bd, zev_some, zev_gi, zev_gj, zev_gr, zev_pi, zev_pz, zev_pj, zev_pr, zev_rc, zev_cc, zev_b0, zev_bo, true_and, and_true]
    refine zev_mono (zAl_add ll3 (by rw [range_len]; omega) (by decide) (by decide) ⟨L3.1.1, Or.inr L3.1.2⟩ b3) ?_
    rintro ⟨M4, v4⟩ hh
    dsimp only at hh ⊢
    obtain ⟨g4, L4, f4, b4⟩ := hh
    have F : zFo M g M4 g4 (fun z => z = 40 + lb.length ∨ z = 4) := f03.tr3 f4 (fun z q => Or.inl q) (fun z q => Or.inr q)
    refine ⟨g4, A, fun i => if i = lb.length then nw else AL i, ?_, F.mono (fun z q => show z ≠ 1 ∧ z ≠ 28 ∧ z ≠ 29 by first | omega | (dsimp only at q; omega)), b4⟩
    obtain ⟨cN, cO, cB, cBs, cRw, cLl, cLs, cPk, cJu, cPp, cAc, cBl, cJr, cBo, cDr, cBe, cT1, cT2⟩ := h
    refine ⟨cN, cO.fr F (by first | omega | (dsimp only; omega)), cB.fr F (by first | omega | (dsimp only; omega)), cBs.fr F (fun b hb => ⟨(by first | omega | (dsimp only; omega)), (by first | omega | (dsimp only; omega)), (by first | omega | (dsimp only; omega))⟩), zRs.al (cRw.fr F (by omega) (fun r hr => (by omega))) (fun r hr => by rw [if_neg (by omega)]), (by rw [List.length_append]; show zAl M4 g4 4 (adr 2) ((List.range (lb.length + 1)).map _); rw [range_up]; exact L4), ⟨by rw [List.length_append]; simp; omega, fun i q hq => ?_⟩, cPk.fr F (by first | omega | (dsimp only; omega)), cJu.fr F (by first | omega | (dsimp only; omega)), cPp.fr F (by first | omega | (dsimp only; omega)) (by first | omega | (dsimp only; omega)), cAc.fr F (by first | omega | (dsimp only; omega)) (fun h hh => (by first | omega | (dsimp only; omega))), cBl.fr F (by first | omega | (dsimp only; omega)), cJr.fr F (by first | omega | (dsimp only; omega)), cBo.fr F (by first | omega | (dsimp only; omega)), cDr.fr F (by first | omega | (dsimp only; omega)) (by first | omega | (dsimp only; omega)), cBe.fr F (by first | omega | (dsimp only; omega)) (by first | omega | (dsimp only; omega)) (by first | omega | (dsimp only; omega)), cT1.fr F (by first | omega | (dsimp only; omega)), cT2.fr F (by first | omega | (dsimp only; omega))⟩
    dsimp only
    by_cases hi : i < lb.length
    · rw [List.getElem?_append_left hi] at hq
      rw [if_neg (by omega)]
      exact (cLs.2 i q hq).fr F (by omega)
    · rw [List.getElem?_append_right (by omega)] at hq
      have hi2 := (List.getElem?_eq_some_iff.mp hq).1
      simp only [List.length_cons, List.length_nil] at hi2
      have hie : i = lb.length := by omega
      subst hie
      rw [Nat.sub_self] at hq
      cases hq
      rw [if_pos rfl]
      exact L3.fr f4 (by omega)
  · rw [if_neg c, if_neg (show ¬ nI lb.length < 40 from nI_nlt (b := 40) (by omega) (by omega)), zev_some]
    exact ⟨g, A, AL, h, rfl, zFo.rf, hb.mono (by omega)⟩
