/-! plan of the class, whole. -/
theorem z_steps {M : Zm} (ml : Int64) (step : Int32) : zf_X11_checkSteps M ml step = some (M, cst ml step) := by
  refine zev_of ?_
  unfold zf_X11_checkSteps zf_X11_checkSteps_J39 cst
  rw [zev_bd]
  rcases z_ml (M := M) ml with ⟨c1, e⟩ | ⟨c1, e⟩
  · rw [zev_eq e]
    dsimp only
    rw [if_neg z10, if_pos c1]
    by_cases c2 : 0 ≤ step
    · rw [if_pos c2, if_pos c2]
      by_cases c3 : step = 0
      · rw [if_pos c3, if_pos c3, zev_some]
      · have hs0 := i64_0 c3
        rw [if_neg c3, if_neg c3, zev_b1, zev_lm, and_iff_right hs0]
        by_cases c4 : ml - ml / step.toInt64 * step.toInt64 = 0
        · rw [if_pos c4, if_pos c4, zev_b1, zev_ld, and_iff_right hs0]
          by_cases c5 : ml / step.toInt64 ≤ 12
          · rw [if_pos c5, if_pos c5, zev_some]
          · rw [if_neg c5, if_neg c5, zev_some]
        · rw [if_neg c4, if_neg c4, zev_some]
    · rw [if_neg c2, if_neg c2, zev_some]
  · rw [zev_eq e]
    dsimp only
    rw [if_pos rfl, if_neg c1, zev_some]
def cpp (bs : Nat → Bv) (ps : List (Nat × Int64)) : Int32 := if nI ps.length = 0 then 10 else if nI ps.length ≤ 6 then (if pcsk bs ps = 0 then 0 else 9) else 12
theorem zCe_cpp {M : Zm} {g : Zg} {A AL : Nat → Nat} {x : Nat} {adr : Nat → Nat} {ga nb : Nat} {bs : Nat → Bv} {ro : Nat → Rw} {lb : List Lb} {ps : List (Nat × Int64)} {ac : Nat → Wn} {jr bo : List Ln} {mo : Int32} {gi : Int64} {tr tp wy wh : Int32} {tc : List Int32} {st : List Int64} {ds : List (Nat × Int64)} {dw : Wn} {bf : Nat → Int32} {ba : Wn} {bc : List Nat} (h : zCe M g A AL x adr ga nb bs ro lb ps ac jr bo mo gi tr tp wy wh tc st ds dw bf ba bc) (hps : ∀ q, q ∈ ps → q.1 < nb) : zf_X11_checkPicksForPlan M (some x) = some (M, cpp bs ps) := by
  refine zev_of ?_
  unfold cpp
  simp only [zf_X11_checkPicksForPlan, zev_b1, zev_bd, zev_some, zev_gi, zev_gj, zev_gr, zev_pi, zev_pz, zev_pj, zev_pr, zev_rc, zev_cc, zev_b0, zev_bo, true_and, and_true, h.O, h.r (show 3 < 14 by decide), h.pk.O, h.pk.cnt]
  by_cases c1 : nI ps.length = 0
  · rw [if_pos c1, if_pos c1, zev_some]
  · rw [if_neg c1, if_neg c1]
    simp only [zev_b1, zev_bd, zev_some, zev_gi, zev_gj, zev_gr, zev_pi, zev_pz, zev_pj, zev_pr, zev_rc, zev_cc, zev_b0, zev_bo, true_and, and_true, h.O, h.r (show 3 < 14 by decide), h.pk.O, h.pk.cnt]
    by_cases c2 : nI ps.length ≤ 6
    · rw [if_pos c2, if_pos c2]
      simp only [zev_b1, zev_bd, zev_some, zev_gi, zev_gj, zev_gr, zev_pi, zev_pz, zev_pj, zev_pr, zev_rc, zev_cc, zev_b0, zev_bo, true_and, and_true, h.O, h.r (show 3 < 14 by decide), h.pk.O, zev_eq (zPk_cask (bs := bs) h.pk (fun q hq => h.bs (hps q hq)))]
      by_cases c3 : pcsk bs ps = 0
      · rw [if_pos c3, if_pos c3, zev_some]
      · rw [if_neg c3, if_neg c3, zev_some]
    · rw [if_neg c2, if_neg c2, zev_some]
theorem pset_cong {f f' : Nat → Nat} {cnt : Nat} {stp : Int64} (h : ∀ i, i < cnt → f i = f' i) : pset f cnt stp = pset f' cnt stp := by
  unfold pset
  refine List.map_congr_left (fun i hi => ?_)
  rw [h i (List.mem_range.mp hi)]
theorem C_planOk {M : Zm} {g : Zg} {A AL : Nat → Nat} {x : Nat} {adr : Nat → Nat} {ga nb : Nat} {bs : Nat → Bv} {ro : Nat → Rw} {lb : List Lb} {ps : List (Nat × Int64)} {ac : Nat → Wn} {jr bo : List Ln} {mo : Int32} {gi : Int64} {tr tp wy wh : Int32} {tc : List Int32} {st : List Int64} {ds : List (Nat × Int64)} {dw : Wn} {bf : Nat → Int32} {ba : Wn} {bc : List Nat} {k i : Nat} {q : Lb} {ml : Int64} {step : Int32} (h : zCe M g A AL x adr ga nb bs ro lb ps ac jr bo mo gi tr tp wy wh tc st ds dw bf ba bc) (hIc : Ic nb bs ro ac) (hps : ∀ q, q ∈ ps → q.1 < nb) (hc : cst ml step = 0) (hq : lb[i]? = some q) (hl6 : ps.length ≤ 6) (hb : zBu M g k) : zev (zf_X11_planBlend_J27 M (some x) (nI i) ml step 0) (fun y => ∃ g' A' AL', zCs y.1 g' A' AL' x adr ga (sPlanOk (nI i) ml step (nb, bs, ro, lb, ps, ac, jr, bo, mo, gi, tr, tp, wy, wh, tc, st, ds, dw, bf, ba, bc)).2 ∧ y.2 = (sPlanOk (nI i) ml step (nb, bs, ro, lb, ps, ac, jr, bo, mo, gi, tr, tp, wy, wh, tc, st, ds, dw, bf, ba, bc)).1 ∧ zFo M g y.1 g' Tc ∧ zBu y.1 g' k) := by
  obtain ⟨sn, mn, h0, hs, rfl, es, em, b1, b2, hmul, hn12, hn1, ed, e32, -, -, -, hs0, -, -⟩ := cst_0 hc
  have hl40 := h.ls.1
  have hi := (List.getElem?_eq_some_iff.mp hq).1
  have L := h.ls.2 i q hq
  have hget : zf_Jx4a65c_get_915e3 M (some (adr 2)) (nI i) = some (M, some (AL i)) := zAl_get h.ll (range_at hi)
  have hpp : zPp M g (adr 5) st := by obtain ⟨cN, cO, cB, cBs, cRw, cLl, cLs, cPk, cJu, cPp, cAc, cBl, cJr, cBo, cDr, cBe, cT1, cT2⟩ := h; exact cPp
  obtain ⟨ta, D, Mo, Tr, Be, wt, cnt, lst, S, C, c2, tot, P, T, z1, z2⟩ := hpp
  unfold sPlanOk
  dsimp only
  rw [nI_clamp (show i < 2 ^ 31 by omega), hq, Option.getD_some]
  unfold zf_X11_planBlend_J27
  rw [if_pos rfl, zev_b1, zev_ld, and_iff_right hs0, e32]
  generalize nst ml (nI sn) = n at hmul hn12 hn1 ed e32 ⊢
  simp only [zev_b1, zev_bd, zev_some, zev_gi, zev_gj, zev_gr, zev_pi, zev_pz, zev_pj, zev_pr, zev_rc, zev_cc, zev_b0, zev_bo, true_and, and_true, h.O, h.r (show 2 < 14 by decide), h.r (show 3 < 14 by decide), h.r (show 5 < 14 by decide), h.ll.O, zev_eq hget, L.1, h.pk.O, h.pk.cnt, P.O]
  refine zev_mono (zPl_begin P T (AL i) hl6 ml hb) ?_
  rintro ⟨M1, u1⟩ hh
  dsimp only at hh ⊢
  obtain ⟨P1, T1, f1, b3⟩ := hh
  have p1 : zPa M1 g (adr 5) (AL i) D (fun _ => 0) ps.length st S ml := ⟨ta, Tr, Be, lst, C, P1, T1, z1, z2⟩
  have h1 : zCe M1 g A AL x adr ga nb bs ro lb ps ac jr bo mo gi tr tp wy wh tc st ds dw bf ba bc := by
    obtain ⟨cN, cO, cB, cBs, cRw, cLl, cLs, cPk, cJu, cPp, cAc, cBl, cJr, cBo, cDr, cBe, cT1, cT2⟩ := h
    exact ⟨cN, cO.fr f1 (by first | omega | (dsimp only; omega)), cB.fr f1 (by first | omega | (dsimp only; omega)), cBs.fr f1 (fun b hb => ⟨(by first | omega | (dsimp only; omega)), (by first | omega | (dsimp only; omega)), (by first | omega | (dsimp only; omega))⟩), cRw.fr f1 (by first | omega | (dsimp only; omega)) (fun r hr => (by first | omega | (dsimp only; omega))), cLl.fr f1 (by first | omega | (dsimp only; omega)), cLs.fr f1 (fun i hi => (by first | omega | (dsimp only; omega))), cPk.fr f1 (by first | omega | (dsimp only; omega)), cJu.fr f1 (by first | omega | (dsimp only; omega)), p1.pp, cAc.fr f1 (by first | omega | (dsimp only; omega)) (fun h hh => (by first | omega | (dsimp only; omega))), cBl.fr f1 (by first | omega | (dsimp only; omega)), cJr.fr f1 (by first | omega | (dsimp only; omega)), cBo.fr f1 (by first | omega | (dsimp only; omega)), cDr.fr f1 (by first | omega | (dsimp only; omega)) (by first | omega | (dsimp only; omega)), cBe.fr f1 (by first | omega | (dsimp only; omega)) (by first | omega | (dsimp only; omega)) (by first | omega | (dsimp only; omega)), cT1.fr f1 (by first | omega | (dsimp only; omega)), cT2.fr f1 (by first | omega | (dsimp only; omega))⟩
  refine zev_mono (C_asks h1 p1 hIc hps hl6 hn12 h0 hs b3) ?_
  rintro ⟨M2, u2⟩ hh
  dsimp only at hh ⊢
  obtain ⟨g2, D2, Mo2, S2, h2, p2, F2, f2, b4⟩ := hh
  simp only [zev_b1, zev_bd, zev_some, zev_gi, zev_gj, zev_gr, zev_pi, zev_pz, zev_pj, zev_pr, zev_rc, zev_cc, zev_b0, zev_bo, true_and, and_true, h2.O, h2.r (show 5 < 14 by decide), p2.O]
  refine zev_mono (zPa_find p2 (h2.ls.2 i q hq) (by omega) F2 hn12 b4) ?_
  rintro ⟨M3, v⟩ hh
  dsimp only at hh ⊢
  obtain ⟨e3, ⟨ta3, Tr3, Be3, lst3, C3, P3, T3, z3, z4, hBe⟩, f3, b5⟩ := hh
  subst e3
  generalize pR bs ps q.1 ml (nI sn).toInt64 n = R at hBe ⊢
  have p3 : zPa M3 g2 (adr 5) (AL i) D2 Mo2 ps.length st S2 ml := ⟨ta3, Tr3, Be3, lst3, C3, P3, T3, z3, z4⟩
  have h3 : zCe M3 g2 A AL x adr ga nb bs ro lb ps ac jr bo mo gi tr tp wy wh (tapp 200 tc (pT bs n ps)) st ((pW bs (nI sn).toInt64 n (ds, dw) ps).1) ((pW bs (nI sn).toInt64 n (ds, dw) ps).2) bf ba bc := by
    obtain ⟨cN, cO, cB, cBs, cRw, cLl, cLs, cPk, cJu, cPp, cAc, cBl, cJr, cBo, cDr, cBe, cT1, cT2⟩ := h2
    exact ⟨cN, cO.fr f3 (by first | omega | (dsimp only; omega)), cB.fr f3 (by first | omega | (dsimp only; omega)), cBs.fr f3 (fun b hb => ⟨(by first | omega | (dsimp only; omega)), (by first | omega | (dsimp only; omega)), (by first | omega | (dsimp only; omega))⟩), cRw.fr f3 (by first | omega | (dsimp only; omega)) (fun r hr => (by first | omega | (dsimp only; omega))), cLl.fr f3 (by first | omega | (dsimp only; omega)), cLs.fr f3 (fun i hi => (by first | omega | (dsimp only; omega))), cPk.fr f3 (by first | omega | (dsimp only; omega)), cJu.fr f3 (by first | omega | (dsimp only; omega)), p3.pp, cAc.fr f3 (by first | omega | (dsimp only; omega)) (fun h hh => (by first | omega | (dsimp only; omega))), cBl.fr f3 (by first | omega | (dsimp only; omega)), cJr.fr f3 (by first | omega | (dsimp only; omega)), cBo.fr f3 (by first | omega | (dsimp only; omega)), cDr.fr f3 (by first | omega | (dsimp only; omega)) (by first | omega | (dsimp only; omega)), cBe.fr f3 (by first | omega | (dsimp only; omega)) (by first | omega | (dsimp only; omega)) (by first | omega | (dsimp only; omega)), cT1.fr f3 (by first | omega | (dsimp only; omega)), cT2.fr f3 (by first | omega | (dsimp only; omega))⟩
  have fA : zFo M g M3 g2 Tc := ((f1.mono (fun z q => show z ≠ 1 ∧ z ≠ 28 ∧ z ≠ 29 by first | omega | (dsimp only at q; omega))).tr f2).tr (f3.mono (fun z q => show z ≠ 1 ∧ z ≠ 28 ∧ z ≠ 29 by first | omega | (dsimp only at q; omega)))
  by_cases c10 : 0 ≤ R.1
  · have hne : R.1 ≠ -1 := fun w => by rw [w] at c10; exact absurd c10 (by decide)
    rw [if_pos c10]
    simp only [if_pos c10, zev_b1, zev_bd, zev_some, zev_gi, zev_gj, zev_gr, zev_pi, zev_pz, zev_pj, zev_pr, zev_rc, zev_cc, zev_b0, zev_bo, true_and, and_true, h3.O, h3.r (show 5 < 14 by decide), P3.O]
    refine zev_mono (zPl_settle P3 (nI sn).toInt64 b5) ?_
    rintro ⟨M4, u4⟩ hh
    dsimp only at hh ⊢
    obtain ⟨P4, f4, b6⟩ := hh
    rw [pset_cong (hBe hne)] at P4
    refine ⟨g2, A, AL, ?_, fA.tr (f4.mono (fun z q => show z ≠ 1 ∧ z ≠ 28 ∧ z ≠ 29 by first | omega | (dsimp only at q; omega))), b6⟩
    have T4 := T3.fr f4 (by decide)
    obtain ⟨cN, cO, cB, cBs, cRw, cLl, cLs, cPk, cJu, cPp, cAc, cBl, cJr, cBo, cDr, cBe, cT1, cT2⟩ := h3
    exact ⟨cN, cO.fr f4 (by first | omega | (dsimp only; omega)), cB.fr f4 (by first | omega | (dsimp only; omega)), cBs.fr f4 (fun b hb => ⟨(by first | omega | (dsimp only; omega)), (by first | omega | (dsimp only; omega)), (by first | omega | (dsimp only; omega))⟩), cRw.fr f4 (by first | omega | (dsimp only; omega)) (fun r hr => (by first | omega | (dsimp only; omega))), cLl.fr f4 (by first | omega | (dsimp only; omega)), cLs.fr f4 (fun i hi => (by first | omega | (dsimp only; omega))), cPk.fr f4 (by first | omega | (dsimp only; omega)), cJu.fr f4 (by first | omega | (dsimp only; omega)), ⟨ta3, _, _, _, _, _, _, _, _, _, _, _, P4, T4, z3, z4⟩, cAc.fr f4 (by first | omega | (dsimp only; omega)) (fun h hh => (by first | omega | (dsimp only; omega))), cBl.fr f4 (by first | omega | (dsimp only; omega)), cJr.fr f4 (by first | omega | (dsimp only; omega)), cBo.fr f4 (by first | omega | (dsimp only; omega)), cDr.fr f4 (by first | omega | (dsimp only; omega)) (by first | omega | (dsimp only; omega)), cBe.fr f4 (by first | omega | (dsimp only; omega)) (by first | omega | (dsimp only; omega)) (by first | omega | (dsimp only; omega)), cT1.fr f4 (by first | omega | (dsimp only; omega)), cT2.fr f4 (by first | omega | (dsimp only; omega))⟩
  · rw [if_neg c10]
    simp only [if_neg c10, zev_b1, zev_bd, zev_some, zev_gi, zev_gj, zev_gr, zev_pi, zev_pz, zev_pj, zev_pr, zev_rc, zev_cc, zev_b0, zev_bo, true_and, and_true]
    exact ⟨g2, A, AL, h3, fA, b5⟩
theorem C_plan {M : Zm} {g : Zg} {A AL : Nat → Nat} {x : Nat} {adr : Nat → Nat} {ga nb : Nat} {bs : Nat → Bv} {ro : Nat → Rw} {lb : List Lb} {ps : List (Nat × Int64)} {ac : Nat → Wn} {jr bo : List Ln} {mo : Int32} {gi : Int64} {tr tp wy wh : Int32} {tc : List Int32} {st : List Int64} {ds : List (Nat × Int64)} {dw : Wn} {bf : Nat → Int32} {ba : Wn} {bc : List Nat} {k : Nat} (h : zCe M g A AL x adr ga nb bs ro lb ps ac jr bo mo gi tr tp wy wh tc st ds dw bf ba bc) (hIc : Ic nb bs ro ac) (hps : ∀ q, q ∈ ps → q.1 < nb) (l : Int32) (ml : Int64) (step : Int32) (hb : zBu M g k) : zev (zf_X11_planBlend M (some x) l ml step) (fun y => ∃ g' A' AL', zCs y.1 g' A' AL' x adr ga (sPlan l ml step (nb, bs, ro, lb, ps, ac, jr, bo, mo, gi, tr, tp, wy, wh, tc, st, ds, dw, bf, ba, bc)).2 ∧ y.2 = (sPlan l ml step (nb, bs, ro, lb, ps, ac, jr, bo, mo, gi, tr, tp, wy, wh, tc, st, ds, dw, bf, ba, bc)).1 ∧ zFo M g y.1 g' Tc ∧ zBu y.1 g' k) := by
  have hl8 : ps.length ≤ 8 := h.pk.2.2.2.1
  have no : ∀ v : Int32, v ≠ 0 → zev (zf_X11_planBlend_J27 M (some x) l ml step v) (fun y => ∃ g' A' AL', zCs y.1 g' A' AL' x adr ga (nb, bs, ro, lb, ps, ac, jr, bo, mo, gi, tr, tp, wy, wh, tc, st, ds, dw, bf, ba, bc) ∧ y.2 = (-v).toInt64 ∧ zFo M g y.1 g' Tc ∧ zBu y.1 g' k) := by
    intro v hv
    unfold zf_X11_planBlend_J27
    rw [if_neg hv, zev_some]
    exact ⟨g, A, AL, h, rfl, zFo.rf, hb⟩
  unfold sPlan
  dsimp only
  simp only [zf_X11_planBlend, zev_b1, zev_bd, zev_some, zev_gi, zev_gj, zev_gr, zev_pi, zev_pz, zev_pj, zev_pr, zev_rc, zev_cc, zev_b0, zev_bo, true_and, and_true, zev_eq (z_steps ml step), h.O, zev_eq (zCe_lkl h l), zev_eq (z_first (M := M) _ _)]
  by_cases h2 : fst0 (cst ml step) (lkl lb.length l) = 0
  · obtain ⟨e1, e2⟩ := fst0_0 h2
    obtain ⟨i, hi, rfl⟩ := lkl_0 h.ls.1 e2
    obtain ⟨q, hq⟩ := getElem?_lt hi
    rw [if_pos h2, if_pos h2]
    simp only [zev_b1, zev_bd, zev_some, zev_gi, zev_gj, zev_gr, zev_pi, zev_pz, zev_pj, zev_pr, zev_rc, zev_cc, zev_b0, zev_bo, true_and, and_true, h.O, zev_eq (zCe_cpp h hps)]
    unfold cpp
    by_cases c1 : nI ps.length = 0
    · rw [if_pos c1, if_pos c1]
      exact no 10 (by decide)
    · rw [if_neg c1, if_neg c1]
      by_cases c2 : nI ps.length ≤ 6
      · rw [if_pos c2, if_pos c2]
        by_cases c3 : pcsk bs ps = 0
        · rw [if_pos c3, if_pos c3]
          exact C_planOk h hIc hps e1 hq ((nI_leI (a := ps.length) (b := 6) (by omega) (by decide)).mp c2) hb
        · rw [if_neg c3, if_neg c3]
          exact no 9 (by decide)
      · rw [if_neg c2, if_neg c2]
        exact no 12 (by decide)
  · rw [if_neg h2, if_neg h2]
    exact no _ h2
theorem X_plan {M : Zm} {g : Zg} {A AL : Nat → Nat} {x : Nat} {adr : Nat → Nat} {ga k t : Nat} {c : Cs} (h : zCs M g A AL x adr ga c) (hJ : Jc t c) (hb : zBu M g (k + 600)) (l : Int32) (ml : Int64) (step : Int32) : zev (zf_X11_plan M (some x) l ml step) (fun y => ∃ g' A' AL', zCs y.1 g' A' AL' x adr ga (sAct (sPlan l ml step) c).2 ∧ y.2 = (sAct (sPlan l ml step) c).1 ∧ zFo M g y.1 g' Tc ∧ zBu y.1 g' k) := by
  obtain ⟨nb, bs, ro, lb, ps, ac, jr, bo, mo, gi, tr, tp, wy, wh, tc, st, ds, dw, bf, ba, bc⟩ := c
  obtain ⟨jI, jR, jP, jJ, jB, jG, jF, jU⟩ := hJ
  refine C_act (fun M1 => zf_X11_planBlend M1 (some x) l ml step) (sPlan l ml step) h hb k (fun M1 h1 b1 => ?_)
  simp only [zCs, sOpen] at h1
  exact C_plan h1 jI (fun q hq => (jP.1 q hq).1) l ml step (b1.mono (Nat.le_add_right _ _))
