/-! Acts of the class: barrel. -/
theorem zBa.al {M : Zm} {g : Zg} {A A' : Nat → Nat} {b : Nat} {x : Bv} (h : zBa M g A b x) (e1 : A' b = A b) (e2 : A' (1000 + b) = A (1000 + b)) (e3 : ∀ m, m ∈ x.2.2.2 → A' m = A m) : zBa M g A' b x := by
  unfold zBa
  rw [e1, e2]
  obtain ⟨h1, h2, h3, h4, h5, h6, h7, h8, h9, h10, h11, wa, ma, ka, r0, r1, r2, r3, r4, r5, r6, r7, r8, r9, r10, r11, r12⟩ := h
  exact ⟨h1, h2, h3, h4, h5, h6, h7, h8, h9, h10, h11, wa, ma, ka, r0, r1, r2, r3, r4, r5, r6, r7, r8, r9, r10, r11, fun i m hm => by rw [e3 m (List.mem_of_getElem? hm)]; exact r12 i m hm⟩
theorem zPk.al {M : Zm} {g : Zg} {A A' : Nat → Nat} {p : Nat} {ps : List (Nat × Int64)} (h : zPk M g A p ps) (e : ∀ q, q ∈ ps → A' q.1 = A q.1) : zPk M g A' p ps := by
  obtain ⟨h1, h2, h3, h4, ba, aa, r1, r2, r3, r4, r5, r6, r7, r8, r9⟩ := h
  exact ⟨h1, h2, h3, h4, ba, aa, r1, r2, r3, r4, r5, r6, r7, r8, fun i q hq => by rw [e q (List.mem_of_getElem? hq)]; exact r9 i q hq⟩
theorem zDr.al {M : Zm} {g : Zg} {A A' : Nat → Nat} {d ga : Nat} {ds : List (Nat × Int64)} {dw : Wn} (h : zDr M g A d ga ds dw) (e : ∀ n, A' (n + 2000) = A n) : zDr M g A' d ga (ds.map (fun q => (q.1 + 2000, q.2))) dw := by
  obtain ⟨h1, h2, h3, h4, h5, h6, h7, h8, va, aa, w, r1, r2, r3, r4, r5, r6, r7, r8, r9, r10, r11, r12⟩ := h
  refine ⟨h1, h2, by rw [List.length_map]; exact h3, by rw [List.length_map]; exact h4, h5, h6, h7, h8, va, aa, w, r1, r2, r3, r4, r5, r6, r7, r8, r9, r10, r11, fun i q hq => ?_⟩
  rw [List.getElem?_map] at hq
  cases hd : ds[i]? with
  | none => rw [hd] at hq; cases hq
  | some p =>
    rw [hd] at hq
    cases hq
    dsimp only
    rw [e]
    exact r12 i p hd
theorem nq1 (k : Nat) : k + 560 + 14 + 1 ≤ k + 600 := by omega
theorem nq2 (n : Nat) : 2000 ≤ n + 2000 := Nat.le_add_left _ _
theorem nq3 {n nb : Nat} (h : nb < 1000) : ¬ n + 2000 = nb := by omega
theorem nq4 {n nb : Nat} (h : nb < 1000) : ¬ n + 2000 = 1000 + nb := by omega
theorem nq5 (n : Nat) : n + 2000 - 2000 = n := by omega
set_option maxRecDepth 10000 in
set_option maxHeartbeats 1000000 in
theorem C_barrel41 {M : Zm} {g : Zg} {A AL : Nat → Nat} {x : Nat} {adr : Nat → Nat} {ga nb : Nat} {bs : Nat → Bv} {ro : Nat → Rw} {lb : List Lb} {ps : List (Nat × Int64)} {ac : Nat → Wn} {jr bo : List Ln} {mo : Int32} {gi : Int64} {tr tp wy wh : Int32} {tc : List Int32} {st : List Int64} {ds : List (Nat × Int64)} {dw : Wn} {bf : Nat → Int32} {ba : Wn} {bc : List Nat} {k : Nat} (h : zCe M g A AL x adr ga nb bs ro lb ps ac jr bo mo gi tr tp wy wh tc st ds dw bf ba bc) (hR : Ira nb bs) (hps : ∀ q, q ∈ ps → q.1 < nb) (kd sz ct : Int32) (hb : zBu M g (k + 600)) : zev (zf_X11_makeBarrel_J41 M (some x) kd sz ct) (fun y => ∃ g' A' AL', zCs y.1 g' A' AL' x adr ga (if nb < 1000 then ((nI nb).toInt64, (nb + 1, bup bs nb (bnew kd (if kd = 5 then 0 else sz) ct), ro, lb, ps, ac, jr, bo, mo, gi, tr, tp, wy, wh, tc, st, ds.map (fun q => (q.1 + 2000, q.2)), dw, bfB bf nb mo jr.length bo.length, ba, [])) else (-12, (nb, bs, ro, lb, ps, ac, jr, bo, mo, gi, tr, tp, wy, wh, tc, st, ds, dw, bf, ba, bc))).2 ∧ y.2 = (if nb < 1000 then ((nI nb).toInt64, (nb + 1, bup bs nb (bnew kd (if kd = 5 then 0 else sz) ct), ro, lb, ps, ac, jr, bo, mo, gi, tr, tp, wy, wh, tc, st, ds.map (fun q => (q.1 + 2000, q.2)), dw, bfB bf nb mo jr.length bo.length, ba, [])) else (-12, (nb, bs, ro, lb, ps, ac, jr, bo, mo, gi, tr, tp, wy, wh, tc, st, ds, dw, bf, ba, bc))).1 ∧ zFo M g y.1 g' Tc ∧ zBu y.1 g' k) := by
  have hN := h.N
  simp only [zf_X11_makeBarrel_J41, zev_b1, zev_bd, zev_some, zev_gi, zev_gj, zev_gr, zev_pi, zev_pz, zev_pj, zev_pr, zev_rc, zev_cc, zev_b0, zev_bo, true_and, and_true, h.O, h.r (show 0 < 14 by decide), h.bl.O, zev_eq (zCe_size h)]
  by_cases c : nb < 1000
  · rw [if_pos c, if_pos (show nI nb < 1000 from nI_lt (b := 1000) c (by decide))]
    simp only [zev_b1, zev_bd, zev_some, zev_gi, zev_gj, zev_gr, zev_pi, zev_pz, zev_pj, zev_pr, zev_rc, zev_cc, zev_b0, zev_bo, true_and, and_true, h.O]
    refine zev_mono (zCe_remember h hb) ?_
    rintro ⟨M1, u1⟩ hh
    dsimp only at hh ⊢
    obtain ⟨h1, f1, b1⟩ := hh
    simp only [zev_b1, zev_bd, zev_some, zev_gi, zev_gj, zev_gr, zev_pi, zev_pz, zev_pj, zev_pr, zev_rc, zev_cc, zev_b0, zev_bo, true_and, and_true, h1.O, h1.r (show 0 < 14 by decide)]
    have bb1 := b1.1
    have bb2 := b1.2
    have nok : ¬ zm_ok M1 (zm_b M1 + zm_c M1) := fun q => by have := q.2; omega
    refine zev_nob (k := 1) (n := 14) (by omega) (by omega) (fun M2 f2 A2 c2 s2 z2 => ?_)
    have fo2 : zFo M1 g M2 (zgw g (100 + 3 * nb) (zm_b M1 + zm_c M1)) (fun z => z = 100 + 3 * nb ∨ z = 101 + 3 * nb ∨ z = 102 + 3 * nb) := zgw_fo (f2.mono (fun _ _ q => q.elim)) nok
    have bu2 : zBu M2 (zgw g (100 + 3 * nb) (zm_b M1 + zm_c M1)) (k + 560) := zBu.gw (ds := 14) (dc := 1) (b1.mono (nq1 k)) s2 c2
    have eO : zO M2 (zm_b M1 + zm_c M1) 1 := A2.1
    have enx : zm_nx M1 = some (zm_b M1 + zm_c M1) := rfl
    have eg2 : (zgw g (100 + 3 * nb) (zm_b M1 + zm_c M1)).1 (zm_b M1 + zm_c M1) = 100 + 3 * nb := zgw_1
    have hif : (if kd = 5 then zf_X11_makeBarrel_J87 M2 ct (nI nb) 0 kd (nI nb) (zm_nx M1) (zm_nx M1) (some (adr 0)) else zf_X11_makeBarrel_J87 M2 ct (nI nb) sz kd (nI nb) (zm_nx M1) (zm_nx M1) (some (adr 0))) = zf_X11_makeBarrel_J87 M2 ct (nI nb) (if kd = 5 then 0 else sz) kd (nI nb) (zm_nx M1) (zm_nx M1) (some (adr 0)) := by split <;> rfl
    rw [hif]
    generalize (if kd = 5 then (0 : Int32) else sz) = sz'
    simp only [zf_X11_makeBarrel_J87, enx, zev_b1, zev_bd, zev_some, zev_gi, zev_gj, zev_gr, zev_pi, zev_pz, zev_pj, zev_pr, zev_rc, zev_cc, zev_b0, zev_bo, true_and, and_true, eO]
    generalize zgw g (100 + 3 * nb) (zm_b M1 + zm_c M1) = g2 at fo2 bu2 eg2 ⊢
    generalize zm_b M1 + zm_c M1 = nw at eO eg2 ⊢
    refine zev_mono (zBa_init (k := k) kd sz' ct eO eg2 c bu2) ?_
    rintro ⟨M3, u3⟩ hh
    dsimp only at hh ⊢
    obtain ⟨g3, w, B3, f3, b3⟩ := hh
    have f13 := fo2.tr f3
    have bl3 := h1.bl.fr f13 (show ¬ (3 = 100 + 3 * nb ∨ 3 = 101 + 3 * nb ∨ 3 = 102 + 3 * nb) by omega)
    have B3' := B3 (fun i => if i = nb then nw else if i = 1000 + nb then w else if 2000 ≤ i then A (i - 2000) else A i) (by simp) (by simp)
    have hOb : zO M3 nw 1 := by
      have := B3'.O
      simpa using this
    simp only [bl3.O, zev_b1, zev_bd, zev_some, zev_gi, zev_gj, zev_gr, zev_pi, zev_pz, zev_pj, zev_pr, zev_rc, zev_cc, zev_b0, zev_bo, true_and, and_true]
    refine zev_mono (zAl_add bl3 (by rw [range_len]; omega) (by decide) (by decide) ⟨hOb.1, Or.inl hOb.2⟩ b3) ?_
    rintro ⟨M4, v4⟩ hh
    dsimp only at hh ⊢
    obtain ⟨g4, L4, f4, b4⟩ := hh
    have F : zFo M1 g M4 g4 (fun z => z = 3 ∨ z = 100 + 3 * nb ∨ z = 101 + 3 * nb ∨ z = 102 + 3 * nb) := f13.tr3 f4 (fun z q => Or.inr q) (fun z q => Or.inl q)
    have eA : ∀ i, i < nb → (fun i => if i = nb then nw else if i = 1000 + nb then w else if 2000 ≤ i then A (i - 2000) else A i) i = A i := fun i hi => by
      dsimp only
      rw [if_neg (by omega), if_neg (by omega), if_neg (by omega)]
    have eW : ∀ i, i < nb → (fun i => if i = nb then nw else if i = 1000 + nb then w else if 2000 ≤ i then A (i - 2000) else A i) (1000 + i) = A (1000 + i) := fun i hi => by
      dsimp only
      rw [if_neg (by omega), if_neg (by omega), if_neg (by omega)]
    have eD : ∀ n, (fun i => if i = nb then nw else if i = 1000 + nb then w else if 2000 ≤ i then A (i - 2000) else A i) (n + 2000) = A n := fun n => by
      dsimp only
      rw [if_neg (nq3 c), if_neg (nq4 c), if_pos (nq2 n), nq5 n]
    have eR : (List.range (nb + 1)).map (fun i => if i = nb then nw else if i = 1000 + nb then w else if 2000 ≤ i then A (i - 2000) else A i) = (List.range nb).map A ++ [nw] := by
      rw [range_snoc, List.map_append]
      congr 1
      · exact List.map_congr_left (fun i hi => eA i (List.mem_range.mp hi))
      · simp
    generalize (fun i => if i = nb then nw else if i = 1000 + nb then w else if 2000 ≤ i then A (i - 2000) else A i) = A' at B3' eA eW eD eR
    refine ⟨g4, A', AL, ?_, f1.tr (F.mono (fun z q => show z ≠ 1 ∧ z ≠ 28 ∧ z ≠ 29 by first | omega | (dsimp only at q; omega))), b4⟩
    obtain ⟨cN, cO, cB, cBs, cRw, cLl, cLs, cPk, cJu, cPp, cAc, cBl, cJr, cBo, cDr, cBe, cT1, cT2⟩ := h1
    refine ⟨c, cO.fr F (by first | omega | (dsimp only; omega)), (by rw [eR]; exact L4), ?_, cRw.fr F (by first | omega | (dsimp only; omega)) (fun r hr => (by first | omega | (dsimp only; omega))), cLl.fr F (by first | omega | (dsimp only; omega)), cLs.fr F (fun i hi => (by first | omega | (dsimp only; omega))), zPk.al (cPk.fr F (by first | omega | (dsimp only; omega))) (fun q hq => eA q.1 (hps q hq)), cJu.fr F (by first | omega | (dsimp only; omega)), cPp.fr F (by first | omega | (dsimp only; omega)) (by first | omega | (dsimp only; omega)), cAc.fr F (by first | omega | (dsimp only; omega)) (fun h hh => (by first | omega | (dsimp only; omega))), cBl.fr F (by first | omega | (dsimp only; omega)), cJr.fr F (by first | omega | (dsimp only; omega)), cBo.fr F (by first | omega | (dsimp only; omega)), zDr.al (cDr.fr F (by first | omega | (dsimp only; omega)) (by first | omega | (dsimp only; omega))) eD, (by have := cBe.fr F (by first | omega | (dsimp only; omega)) (by first | omega | (dsimp only; omega)) (by first | omega | (dsimp only; omega)); exact this), cT1.fr F (by first | omega | (dsimp only; omega)), cT2.fr F (by first | omega | (dsimp only; omega))⟩
    intro b hbb
    by_cases e : b = nb
    · subst e
      rw [bup_self]
      exact B3'.fr f4 (by omega) (by omega) (by omega)
    · rw [bup_ne _ _ e]
      have hb2 : b < nb := by omega
      exact zBa.al ((cBs b hb2).fr F (by omega) (by omega) (by omega)) (eA b hb2) (eW b hb2) (fun m hm => eA m (hR b hb2 m hm))
  · rw [if_neg c, if_neg (show ¬ nI nb < 1000 from nI_nlt (b := 1000) (by omega) (by omega)), zev_some]
    exact ⟨g, A, AL, h, rfl, zFo.rf, hb.mono (by omega)⟩
