/-! Acts: row. -/
theorem fuN_ne {f : Nat → Nat} {i v j : Nat} (h : j ≠ i) : fuN f i v j = f j := by unfold fuN; rw [if_neg h]
theorem fuN_self {f : Nat → Nat} {i v : Nat} : fuN f i v i = v := by unfold fuN; rw [if_pos rfl]
theorem map_fuN {f : Nat → Nat} {n i v : Nat} (h : n ≤ i) : (List.range n).map (fuN f i v) = (List.range n).map f := by
  apply List.map_congr_left
  intro j hj
  have := List.mem_range.mp hj
  exact fuN_ne (by omega)
theorem zBu.gw {M M' : Zm} {g : Zg} {o c k ds dc : Nat} (h : zBu M g (k + ds + dc)) (hs : zm_s M' = zm_s M + ds) (hc : zm_c M' = zm_c M + dc) : zBu M' (zgw g o c) k := by
  have h1 := h.1
  have h2 := h.2
  exact ⟨by show zm_s M' + 4 * zcd g.2 3100 + k ≤ 7302250; omega, by show zm_c M' + zcd g.2 3100 + k ≤ 600000; omega⟩
def sRow (r kd n : Int32) (c : Cs) : Int64 × Cs := match c with
  | (nb, bs, ro, lb, ps, ac, jr, bo, mo, gi, tr, tp, wy, wh, tc, st, ds, dw, bf, ba, bc) => if kd < 0 then (-1, (nb, bs, ro, lb, ps, ac, jr, bo, mo, gi, tr, tp, wy, wh, tc, st, ds, dw, bf, ba, bc)) else if 6 < kd then (-1, (nb, bs, ro, lb, ps, ac, jr, bo, mo, gi, tr, tp, wy, wh, tc, st, ds, dw, bf, ba, bc)) else if n ≤ 60 then (if r < 0 then (-3, (nb, bs, ro, lb, ps, ac, jr, bo, mo, gi, tr, tp, wy, wh, tc, st, ds, dw, bf, ba, bc)) else if r < 20 then (if (ro r.toNatClampNeg).isSome then (-8, (nb, bs, ro, lb, ps, ac, jr, bo, mo, gi, tr, tp, wy, wh, tc, st, ds, dw, bf, ba, bc)) else if 0 ≤ n then (n.toInt64, (nb, bs, rup ro r.toNatClampNeg (some (kd, List.replicate n.toNatClampNeg (-1))), lb, ps, ac, jr, bo, mo, gi, tr, tp, wy, wh, tc, st, ds, dw, fu (fu (fu (bfB bf nb mo jr.length bo.length) 5 r) 6 (-1)) 7 (-1), ba, [])) else (-7, (nb, bs, ro, lb, ps, ac, jr, bo, mo, gi, tr, tp, wy, wh, tc, st, ds, dw, bf, ba, bc))) else (-3, (nb, bs, ro, lb, ps, ac, jr, bo, mo, gi, tr, tp, wy, wh, tc, st, ds, dw, bf, ba, bc))) else (-1, (nb, bs, ro, lb, ps, ac, jr, bo, mo, gi, tr, tp, wy, wh, tc, st, ds, dw, bf, ba, bc))
theorem C_row {M : Zm} {g : Zg} {A AL : Nat → Nat} {x : Nat} {adr : Nat → Nat} {ga nb : Nat} {bs : Nat → Bv} {ro : Nat → Rw} {lb : List Lb} {ps : List (Nat × Int64)} {ac : Nat → Wn} {jr bo : List Ln} {mo : Int32} {gi : Int64} {tr tp wy wh : Int32} {tc : List Int32} {st : List Int64} {ds : List (Nat × Int64)} {dw : Wn} {bf : Nat → Int32} {ba : Wn} {bc : List Nat} {k : Nat} (h : zCe M g A AL x adr ga nb bs ro lb ps ac jr bo mo gi tr tp wy wh tc st ds dw bf ba bc) (r kd n : Int32) (hb : zBu M g (k + 600)) : zev (zf_X11_buildRow M (some x) r kd n) (fun y => ∃ g' A' AL', zCs y.1 g' A' AL' x adr ga (sRow r kd n (nb, bs, ro, lb, ps, ac, jr, bo, mo, gi, tr, tp, wy, wh, tc, st, ds, dw, bf, ba, bc)).2 ∧ y.2 = (sRow r kd n (nb, bs, ro, lb, ps, ac, jr, bo, mo, gi, tr, tp, wy, wh, tc, st, ds, dw, bf, ba, bc)).1 ∧ zFo M g y.1 g' Tc ∧ zBu y.1 g' k) := by
  unfold sRow
  dsimp only
  have hb0 : zBu M g k := hb.mono (by omega)
  simp only [zf_X11_buildRow, zf_X11_buildRow_J16, zf_X11_buildRow_J30]
  by_cases h1 : kd < 0
  · simp only [if_pos h1, zev_b1, zev_bd, zev_some, zev_gi, zev_gj, zev_gr, zev_pi, zev_pz, zev_pj, zev_pr, zev_rc, zev_cc, zev_b0, zev_bo, true_and, and_true]
    exact ⟨g, A, AL, h, zFo.rf, hb0⟩
  by_cases h2 : 6 < kd
  · simp only [if_neg h1, if_pos h2, zev_b1, zev_bd, zev_some, zev_gi, zev_gj, zev_gr, zev_pi, zev_pz, zev_pj, zev_pr, zev_rc, zev_cc, zev_b0, zev_bo, true_and, and_true]
    exact ⟨g, A, AL, h, zFo.rf, hb0⟩
  by_cases h3 : n ≤ 60
  · by_cases h4 : r < 0
    · simp only [if_neg h1, if_neg h2, if_pos h3, if_pos h4, zev_b1, zev_bd, zev_some, zev_gi, zev_gj, zev_gr, zev_pi, zev_pz, zev_pj, zev_pr, zev_rc, zev_cc, zev_b0, zev_bo, true_and, and_true]
      exact ⟨g, A, AL, h, zFo.rf, hb0⟩
    by_cases h5 : r < 20
    · obtain ⟨i, hi31, rfl⟩ := nI_of h4
      have hi : i < 20 := (nI_ltI hi31 (show 20 < 2 ^ 31 by decide)).mp h5
      obtain ⟨q1, q2, q3, q4⟩ := h.rs
      simp only [if_neg h1, if_neg h2, if_pos h3, if_neg h4, if_pos h5, nI_clamp hi31, zev_b1, zev_bd, zev_some, zev_gi, zev_gj, zev_gr, zev_pi, zev_pz, zev_pj, zev_pr, zev_rc, zev_cc, zev_b0, zev_bo, true_and, and_true, h.O, h.r (show 1 < 14 by decide), zev_ar2 hi31, q1, q2, hi]
      rcases q4 i hi with ⟨e1, e2⟩ | ⟨w, k', ps', e1, e2, e3, e4⟩
      · simp only [e1, e2, Option.isSome_none, Bool.false_eq_true, if_false, if_true]
        by_cases h6 : 0 ≤ n
        · obtain ⟨m, hm31, rfl⟩ := nI_of (x := n) (fun e => absurd h6 (Int32.not_le.mpr e))
          have hm : m ≤ 60 := (nI_leI hm31 (show 60 < 2 ^ 31 by decide)).mp h3
          simp only [if_pos h6, nI_clamp hm31, zev_b1, zev_bd, zev_some, zev_gi, zev_gj, zev_gr, zev_pi, zev_pz, zev_pj, zev_pr, zev_rc, zev_cc, zev_b0, zev_bo, true_and, and_true, h.O]
          refine zev_mono (zCe_remember h hb) ?_
          rintro ⟨M1, u0⟩ hh
          dsimp only at hh ⊢
          obtain ⟨h7, f7, b7⟩ := hh
          simp only [h7.O, h7.r (show 11 < 14 by decide), zev_b1, zev_bd, zev_some, zev_gi, zev_gj, zev_gr, zev_pi, zev_pz, zev_pj, zev_pr, zev_rc, zev_cc, zev_b0, zev_bo, true_and, and_true, h7.be.1]
          refine zev_mono (zCe_keepr h7 (nI i) b7) ?_
          rintro ⟨M3, u1⟩ hh
          dsimp only at hh ⊢
          obtain ⟨h8, f8, b8⟩ := hh
          have b81 := b8.1
          have b82 := b8.2
          have nok : ¬ zm_ok M3 (zm_b M3 + zm_c M3) := fun q => by have := q.2; omega
          simp only [h8.O, h8.r (show 1 < 14 by decide), zev_b1, zev_bd, zev_some, zev_gi, zev_gj, zev_gr, zev_pi, zev_pz, zev_pj, zev_pr, zev_rc, zev_cc, zev_b0, zev_bo, true_and, and_true, zm_nx]
          refine zev_nob (k := 8) (n := 2) (by omega) (by omega) (fun M4 f4 A4 c4 s4 z4 => ?_)
          have fo4 : zFo M3 g M4 (zgw g (80 + i) (zm_b M3 + zm_c M3)) (fun z => z = 80 + i) := zgw_fo (f4.mono (fun _ _ q => q.elim)) nok
          have b4 : zBu M4 (zgw g (80 + i) (zm_b M3 + zm_c M3)) (k + 60) := zBu.gw (ds := 2) (dc := 1) (b8.mono (by omega)) s4 c4
          refine ⟨A4.1, zev_mono (zRo_init (r := i) kd A4.1 zgw_1 hm b4) ?_⟩
          rintro ⟨M5, u2⟩ hh
          dsimp only at hh ⊢
          obtain ⟨g5, R5, f5, b5⟩ := hh
          have f35 := fo4.tr f5
          obtain ⟨t1, t2, t3, -⟩ := h8.rs
          have a5 := f35.O t1
          have l5 := (f35.A (show zA M3 (adr 1) 17 20 from ⟨t1, t2⟩)).2
          have o5 := f35.own t1.1 t3
          refine (zev_sr (v := some (zm_b M3 + zm_c M3)) (ck := 8) hi31 (fun z hz => by cases hz; exact ⟨R5.1.1, Or.inl ⟨by decide, R5.1.2⟩⟩)).mpr ⟨⟨a5, by omega⟩, ?_⟩
          have f6 : zFo M5 g5 (zm_pr M5 (adr 1) i (some (zm_b M3 + zm_c M3))) g5 (fun z => z = 8) := zFo.pr o5
          have r6 : ∀ j, zm_r (zm_pr M5 (adr 1) i (some (zm_b M3 + zm_c M3))) (adr 1) j = if j = i then some (zm_b M3 + zm_c M3) else zm_r M5 (adr 1) j := fun j => by
            rw [ypr_r]
            by_cases e : j = i
            · rw [if_pos ⟨rfl, e⟩, if_pos e]
            · rw [if_neg (fun q => e q.2), if_neg e]
          have b6 : zBu (zm_pr M5 (adr 1) i (some (zm_b M3 + zm_c M3))) g5 k := b5.same rfl rfl
          generalize zm_pr M5 (adr 1) i (some (zm_b M3 + zm_c M3)) = M6 at f6 r6 b6 ⊢
          have f : zFo M3 g M6 g5 (fun z => z = 80 + i ∨ z = 8) := f35.tr3 f6 (fun z q => Or.inl q) (fun z q => Or.inr q)
          have e35 := f35.at t1.1 t3 (by omega)
          refine ⟨g5, A, fuN AL (1000 + i) (zm_b M3 + zm_c M3), ?_, (f7.tr f8).tr (f.mono (fun z q => show z ≠ 1 ∧ z ≠ 28 ∧ z ≠ 29 by first | omega | (dsimp only at q; omega))), b6⟩
          obtain ⟨cN, cO, cB, cBs, cRw, cLl, cLs, cPk, cJu, cPp, cAc, cBl, cJr, cBo, cDr, cBe, cT1, cT2⟩ := h8
          have hl40 := cLs.1
          refine ⟨cN, cO.fr f (by first | omega | (dsimp only; omega)), cB.fr f (by first | omega | (dsimp only; omega)), cBs.fr f (fun b hb => ⟨(by first | omega | (dsimp only; omega)), (by first | omega | (dsimp only; omega)), (by first | omega | (dsimp only; omega))⟩), ⟨f.O cRw.1, (f.A (show zA M3 (adr 1) 17 20 from ⟨cRw.1, cRw.2.1⟩)).2, f.own cRw.1.1 cRw.2.2.1, fun j hj => ?_⟩, (by rw [map_fuN (by omega)]; exact cLl.fr f (by first | omega | (dsimp only; omega))), ⟨cLs.1, fun j q hq => ?_⟩, cPk.fr f (by first | omega | (dsimp only; omega)), cJu.fr f (by first | omega | (dsimp only; omega)), cPp.fr f (by first | omega | (dsimp only; omega)) (by first | omega | (dsimp only; omega)), cAc.fr f (by first | omega | (dsimp only; omega)) (fun h hh => (by first | omega | (dsimp only; omega))), cBl.fr f (by first | omega | (dsimp only; omega)), cJr.fr f (by first | omega | (dsimp only; omega)), cBo.fr f (by first | omega | (dsimp only; omega)), cDr.fr f (by first | omega | (dsimp only; omega)) (by first | omega | (dsimp only; omega)), cBe.fr f (by first | omega | (dsimp only; omega)) (by first | omega | (dsimp only; omega)) (by first | omega | (dsimp only; omega)), cT1.fr f (by first | omega | (dsimp only; omega)), cT2.fr f (by first | omega | (dsimp only; omega))⟩
          · unfold rup
            rw [r6]
            by_cases e : j = i
            · subst e
              rw [if_pos rfl, if_pos rfl, fuN_self]
              exact Or.inr ⟨_, _, _, rfl, rfl, R5.fr f6 (by omega), rfl⟩
            · rw [if_neg e, if_neg e, e35.2.2, fuN_ne (show 1000 + j ≠ 1000 + i by omega)]
              rcases cRw.2.2.2 j hj with q | ⟨w', k', pl', q1, q2, q3, q4⟩
              · exact Or.inl q
              · exact Or.inr ⟨w', k', pl', q1, q2, q3.fr f (by omega), q4⟩
          · have hj := (List.getElem?_eq_some_iff.mp hq).1
            rw [fuN_ne (show j ≠ 1000 + i by omega)]
            exact (cLs.2 j q hq).fr f (by omega)
        · simp only [if_neg h6, zev_b1, zev_bd, zev_some, zev_gi, zev_gj, zev_gr, zev_pi, zev_pz, zev_pj, zev_pr, zev_rc, zev_cc, zev_b0, zev_bo, true_and, and_true]
          exact ⟨g, A, AL, h, zFo.rf, hb0⟩
      · simp only [e1, e2, reduceCtorEq, Option.isSome_some, if_false, if_true, zev_b1, zev_bd, zev_some, zev_gi, zev_gj, zev_gr, zev_pi, zev_pz, zev_pj, zev_pr, zev_rc, zev_cc, zev_b0, zev_bo, true_and, and_true]
        exact ⟨g, A, AL, h, zFo.rf, hb0⟩
    · simp only [if_neg h1, if_neg h2, if_pos h3, if_neg h4, if_neg h5, zev_b1, zev_bd, zev_some, zev_gi, zev_gj, zev_gr, zev_pi, zev_pz, zev_pj, zev_pr, zev_rc, zev_cc, zev_b0, zev_bo, true_and, and_true]
      exact ⟨g, A, AL, h, zFo.rf, hb0⟩
  · simp only [if_neg h1, if_neg h2, if_neg h3, zev_b1, zev_bd, zev_some, zev_gi, zev_gj, zev_gr, zev_pi, zev_pz, zev_pj, zev_pr, zev_rc, zev_cc, zev_b0, zev_bo, true_and, and_true]
    exact ⟨g, A, AL, h, zFo.rf, hb0⟩
