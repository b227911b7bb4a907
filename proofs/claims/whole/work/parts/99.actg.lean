/-! Acts: fill; what is drawn off. -/
theorem zCe_wadd {M : Zm} {g : Zg} {A AL : Nat → Nat} {x : Nat} {adr : Nat → Nat} {ga nb : Nat} {bs : Nat → Bv} {ro : Nat → Rw} {lb : List Lb} {ps : List (Nat × Int64)} {ac : Nat → Wn} {jr bo : List Ln} {mo : Int32} {gi : Int64} {tr tp wy wh : Int32} {tc : List Int32} {st : List Int64} {ds : List (Nat × Int64)} {dw : Wn} {bf : Nat → Int32} {ba : Wn} {bc : List Nat} {n k : Nat} (h : zCe M g A AL x adr ga nb bs ro lb ps ac jr bo mo gi tr tp wy wh tc st ds dw bf ba bc) (hn : n < nb) (p : Int32) (v : Int64) (hl : (bs n).2.1.2.2.2.length < 64 ∨ ∃ q ∈ (bs n).2.1.2.2.2, q.1 = p) (hb : zBu M g k) : zev (zf_X10_add M (some (A (1000 + n))) p v) (fun y => ∃ g', zCe y.1 g' A AL x adr ga nb (bup bs n (bwin (bs n) (wadd p v (bs n).2.1.2.2.2))) ro lb ps ac jr bo mo gi tr tp wy wh tc st ds dw bf ba bc ∧ zFo M g y.1 g' Tc ∧ zBu y.1 g' k) := by
  have hN := h.N
  obtain ⟨w1, w2⟩ := (h.bs hn).wa
  refine zev_mono (zWo_add w2 p v (by omega) ⟨4, by decide, zcm_w n⟩ (by rw [zcm_w]; exact hl) hb) ?_
  rintro ⟨M2, u0⟩ hh
  dsimp only at hh ⊢
  obtain ⟨g', W2, f, b2⟩ := hh
  have x2 := (h.bs hn).putw w1 f (fun (q : 100 + 3 * n = 101 + 3 * n) => by omega) (fun (q : 102 + 3 * n = 101 + 3 * n) => by omega) W2
  obtain ⟨cN, cO, cB, cBs, cRw, cLl, cLs, cPk, cJu, cPp, cAc, cBl, cJr, cBo, cDr, cBe, cT1, cT2⟩ := h
  exact ⟨g', ⟨cN, cO.fr f (by first | omega | (dsimp only; omega)), cB.fr f (by first | omega | (dsimp only; omega)), cBs.up f x2 (fun c hc hcb => ⟨(by first | omega | (dsimp only; omega)), (by first | omega | (dsimp only; omega)), (by first | omega | (dsimp only; omega))⟩), cRw.fr f (by first | omega | (dsimp only; omega)) (fun r hr => (by first | omega | (dsimp only; omega))), cLl.fr f (by first | omega | (dsimp only; omega)), cLs.fr f (fun i hi => (by first | omega | (dsimp only; omega))), cPk.fr f (by first | omega | (dsimp only; omega)), cJu.fr f (by first | omega | (dsimp only; omega)), cPp.fr f (by first | omega | (dsimp only; omega)) (by first | omega | (dsimp only; omega)), cAc.fr f (by first | omega | (dsimp only; omega)) (fun h hh => (by first | omega | (dsimp only; omega))), cBl.fr f (by first | omega | (dsimp only; omega)), cJr.fr f (by first | omega | (dsimp only; omega)), cBo.fr f (by first | omega | (dsimp only; omega)), cDr.fr f (by first | omega | (dsimp only; omega)) (by first | omega | (dsimp only; omega)), cBe.fr f (by first | omega | (dsimp only; omega)) (by first | omega | (dsimp only; omega)) (by first | omega | (dsimp only; omega)), cT1.fr f (by first | omega | (dsimp only; omega)), cT2.fr f (by first | omega | (dsimp only; omega))⟩, f.mono (fun z q => show z ≠ 1 ∧ z ≠ 28 ∧ z ≠ 29 by first | omega | (dsimp only at q; omega)), b2⟩
theorem zCe_aadd {M : Zm} {g : Zg} {A AL : Nat → Nat} {x : Nat} {adr : Nat → Nat} {ga nb : Nat} {bs : Nat → Bv} {ro : Nat → Rw} {lb : List Lb} {ps : List (Nat × Int64)} {ac : Nat → Wn} {jr bo : List Ln} {mo : Int32} {gi : Int64} {tr tp wy wh : Int32} {tc : List Int32} {st : List Int64} {ds : List (Nat × Int64)} {dw : Wn} {bf : Nat → Int32} {ba : Wn} {bc : List Nat} {hw w k : Nat} (h : zCe M g A AL x adr ga nb bs ro lb ps ac jr bo mo gi tr tp wy wh tc st ds dw bf ba bc) (hh5 : hw < 5) (hw1 : zm_r M (adr 6) hw = some w) (p : Int32) (v : Int64) (hca : wcod (ac hw)) (hp : 0 ≤ p.toInt ∧ p.toInt < 4096) (hb : zBu M g k) : zev (zf_X10_add M (some w) p v) (fun y => ∃ g', zCe y.1 g' A AL x adr ga nb bs ro lb ps (aup ac hw (wadd p v (ac hw))) jr bo mo gi tr tp wy wh tc st ds dw bf ba bc ∧ zFo M g y.1 g' Tc ∧ zBu y.1 g' k) := by
  obtain ⟨a1, a2, a3, a4⟩ := h.ac
  obtain ⟨w', w1, w2⟩ := a4 hw hh5
  rw [hw1] at w1
  cases w1
  have hz : zcm (20 + hw) = 4096 := by unfold zcm; rw [if_neg (by omega), if_pos (by omega)]
  refine zev_mono (zWo_add w2 p v (by omega) ⟨10, by decide, by rw [hz]⟩ (by rw [hz]; exact wroom p _ w2.ris hca hp) hb) ?_
  rintro ⟨M2, u0⟩ hh
  dsimp only at hh ⊢
  obtain ⟨g', W2, f, b2⟩ := hh
  have e6 := f.at a1.1 a3 (by omega)
  obtain ⟨cN, cO, cB, cBs, cRw, cLl, cLs, cPk, cJu, cPp, cAc, cBl, cJr, cBo, cDr, cBe, cT1, cT2⟩ := h
  refine ⟨g', ⟨cN, cO.fr f (by first | omega | (dsimp only; omega)), cB.fr f (by first | omega | (dsimp only; omega)), cBs.fr f (fun b hb => ⟨(by first | omega | (dsimp only; omega)), (by first | omega | (dsimp only; omega)), (by first | omega | (dsimp only; omega))⟩), cRw.fr f (by first | omega | (dsimp only; omega)) (fun r hr => (by first | omega | (dsimp only; omega))), cLl.fr f (by first | omega | (dsimp only; omega)), cLs.fr f (fun i hi => (by first | omega | (dsimp only; omega))), cPk.fr f (by first | omega | (dsimp only; omega)), cJu.fr f (by first | omega | (dsimp only; omega)), cPp.fr f (by first | omega | (dsimp only; omega)) (by first | omega | (dsimp only; omega)), ⟨f.O a1, (f.A (show zA M (adr 6) 18 5 from ⟨a1, a2⟩)).2, f.own a1.1 a3, fun i hi => ?_⟩, cBl.fr f (by first | omega | (dsimp only; omega)), cJr.fr f (by first | omega | (dsimp only; omega)), cBo.fr f (by first | omega | (dsimp only; omega)), cDr.fr f (by first | omega | (dsimp only; omega)) (by first | omega | (dsimp only; omega)), cBe.fr f (by first | omega | (dsimp only; omega)) (by first | omega | (dsimp only; omega)) (by first | omega | (dsimp only; omega)), cT1.fr f (by first | omega | (dsimp only; omega)), cT2.fr f (by first | omega | (dsimp only; omega))⟩, f.mono (fun z q => show z ≠ 1 ∧ z ≠ 28 ∧ z ≠ 29 by first | omega | (dsimp only at q; omega)), b2⟩
  unfold aup
  by_cases e : i = hw
  · subst e
    rw [if_pos rfl]
    exact ⟨w, by rw [e6.2.2]; exact hw1, W2⟩
  · rw [if_neg e]
    obtain ⟨w', v1, v2⟩ := a4 i hi
    exact ⟨w', by rw [e6.2.2]; exact v1, v2.fr f (by omega)⟩
def sFillOk (b p : Int32) (v : Int64) (c : Cs) : Int64 × Cs := match c with
  | (nb, bs, ro, lb, ps, ac, jr, bo, mo, gi, tr, tp, wy, wh, tc, st, ds, dw, bf, ba, bc) => (wsum (wadd p v (bs b.toNatClampNeg).2.1.2.2.2), (nb, bup bs b.toNatClampNeg (bwin (bkeep (bs b.toNatClampNeg)) (wadd p v (bs b.toNatClampNeg).2.1.2.2.2)), ro, lb, ps, aup ac 0 (wadd p v (ac 0)), jr ++ [(1, -1, b.toInt64, v)], bo, mo, gi, tr, tp, wy, wh, tc, st, ds, dw, fu (bfB bf nb mo jr.length bo.length) 8 0, ac 0, [b.toNatClampNeg]))
theorem C_fillOk {M : Zm} {g : Zg} {A AL : Nat → Nat} {x : Nat} {adr : Nat → Nat} {ga nb : Nat} {bs : Nat → Bv} {ro : Nat → Rw} {lb : List Lb} {ps : List (Nat × Int64)} {ac : Nat → Wn} {jr bo : List Ln} {mo : Int32} {gi : Int64} {tr tp wy wh : Int32} {tc : List Int32} {st : List Int64} {ds : List (Nat × Int64)} {dw : Wn} {bf : Nat → Int32} {ba : Wn} {bc : List Nat} {n k : Nat} (h : zCe M g A AL x adr ga nb bs ro lb ps ac jr bo mo gi tr tp wy wh tc st ds dw bf ba bc) (hn : n < nb) (p : Int32) (v : Int64) (hl : (bs n).2.1.2.2.2.length < 64 ∨ ∃ q ∈ (bs n).2.1.2.2.2, q.1 = p) (hca : wcod (ac 0)) (hp : 0 ≤ p.toInt ∧ p.toInt < 4096) (hj : jr.length < 4096) (hb : zBu M g k) : zev (zf_X11_fillVessel_J108 M (some x) (nI n) p v (some (A n)) (some (A (1000 + n)))) (fun y => ∃ g' A' AL', zCs y.1 g' A' AL' x adr ga (sFillOk (nI n) p v (nb, bs, ro, lb, ps, ac, jr, bo, mo, gi, tr, tp, wy, wh, tc, st, ds, dw, bf, ba, bc)).2 ∧ y.2 = (sFillOk (nI n) p v (nb, bs, ro, lb, ps, ac, jr, bo, mo, gi, tr, tp, wy, wh, tc, st, ds, dw, bf, ba, bc)).1 ∧ zFo M g y.1 g' Tc ∧ zBu y.1 g' k) := by
  have hN := h.N
  unfold sFillOk
  dsimp only
  simp only [zf_X11_fillVessel_J108, zev_b1, zev_bd, zev_some, zev_gi, zev_gj, zev_gr, zev_pi, zev_pz, zev_pj, zev_pr, zev_rc, zev_cc, zev_b0, zev_bo, true_and, and_true, h.O, nI_clamp (show n < 2 ^ 31 by omega)]
  refine zev_mono (zCe_remember h hb) ?_
  rintro ⟨M1, u0⟩ hh
  dsimp only at hh ⊢
  obtain ⟨h1, f1, b1⟩ := hh
  simp only [h1.O, h1.r (show 11 < 14 by decide), zev_b1, zev_bd, zev_some, zev_gi, zev_gj, zev_gr, zev_pi, zev_pz, zev_pj, zev_pr, zev_rc, zev_cc, zev_b0, zev_bo, true_and, and_true, h1.be.1]
  refine zev_mono (zCe_keepb h1 hn (by simp) b1) ?_
  rintro ⟨M2, u1⟩ hh
  dsimp only at hh ⊢
  obtain ⟨g2, h2, f2, b2⟩ := hh
  obtain ⟨w, w1, w2, hk⟩ := zCe_keepa h2 (hw := 0) (by decide) 0 b2
  obtain ⟨a1, a2, a3, -⟩ := h2.ac
  simp only [h2.O, h2.r (show 11 < 14 by decide), h2.r (show 6 < 14 by decide), zev_b1, zev_bd, zev_some, zev_gi, zev_gj, zev_gr, zev_pi, zev_pz, zev_pj, zev_pr, zev_rc, zev_cc, zev_b0, zev_bo, true_and, and_true, h2.be.1]
  refine (zev_ar2 (i := 0) (by decide)).mpr ⟨⟨a1, by omega⟩, ?_⟩
  rw [w1]
  refine zev_mono hk ?_
  rintro ⟨M3, u2⟩ hh
  dsimp only at hh ⊢
  obtain ⟨g3, h3, f3, b3⟩ := hh
  have x3 := h3.bs hn
  rw [bup_self] at x3
  have hl3 : (bup bs n (bkeep (bs n)) n).2.1.2.2.2.length < 64 ∨ ∃ q ∈ (bup bs n (bkeep (bs n)) n).2.1.2.2.2, q.1 = p := by rw [bup_self]; exact hl
  refine ⟨x3.wa.2.O, zev_mono (zCe_wadd h3 hn p v hl3 b3) ?_⟩
  rintro ⟨M4, u3⟩ hh
  dsimp only at hh ⊢
  obtain ⟨g4, h4, f4, b4⟩ := hh
  rw [bup_self, bup_bup] at h4
  obtain ⟨c1, c2, c3, c4⟩ := h4.ac
  obtain ⟨w', v1, v2⟩ := c4 0 (by decide)
  simp only [h4.O, h4.r (show 6 < 14 by decide), zev_b1, zev_bd, zev_some, zev_gi, zev_gj, zev_gr, zev_pi, zev_pz, zev_pj, zev_pr, zev_rc, zev_cc, zev_b0, zev_bo, true_and, and_true]
  refine (zev_ar2 (i := 0) (by decide)).mpr ⟨⟨c1, by omega⟩, ?_⟩
  rw [v1]
  refine zev_rc.mpr ⟨v2.O, zev_mono (zCe_aadd h4 (hw := 0) (by decide) v1 p v hca hp b4) ?_⟩
  rintro ⟨M5, u4⟩ hh
  dsimp only at hh ⊢
  obtain ⟨g5, h5, f5, b5⟩ := hh
  simp only [h5.O, h5.r (show 8 < 14 by decide), zev_b1, zev_bd, zev_some, zev_gi, zev_gj, zev_gr, zev_pi, zev_pz, zev_pj, zev_pr, zev_rc, zev_cc, zev_b0, zev_bo, true_and, and_true, h5.jr.O]
  refine zev_mono (zCe_jadd h5 1 (-1) (nI n).toInt64 v hj b5) ?_
  rintro ⟨M6, u5⟩ hh
  dsimp only at hh ⊢
  obtain ⟨g6, h6, f6, b6⟩ := hh
  have x6 := h6.bs hn
  rw [bup_self] at x6
  have wt := x6.wa.2.tot
  refine ⟨x6.wa.2.O, ?_⟩
  rw [wt]
  exact ⟨g6, A, AL, h6, rfl, ((((f1.tr f2).tr f3).tr f4).tr f5).tr f6, b6⟩
def sFill (b p : Int32) (v : Int64) (c : Cs) : Int64 × Cs := match c with
  | (nb, bs, ro, lb, ps, ac, jr, bo, mo, gi, tr, tp, wy, wh, tc, st, ds, dw, bf, ba, bc) => if p < 0 then (-1, (nb, bs, ro, lb, ps, ac, jr, bo, mo, gi, tr, tp, wy, wh, tc, st, ds, dw, bf, ba, bc)) else if 4095 < p then (-1, (nb, bs, ro, lb, ps, ac, jr, bo, mo, gi, tr, tp, wy, wh, tc, st, ds, dw, bf, ba, bc)) else if isml v then (if lkf nb bs b = 0 then (if wsum (bs b.toNatClampNeg).2.1.2.2.2 + v ≤ btak bs (bs b.toNatClampNeg) then (if nI (bs b.toNatClampNeg).2.1.2.2.2.length < 60 then sFillOk b p v (nb, bs, ro, lb, ps, ac, jr, bo, mo, gi, tr, tp, wy, wh, tapp 200 tc (btakT bs (bs b.toNatClampNeg)), st, ds, dw, bf, ba, bc) else if wlook p (bs b.toNatClampNeg).2.1.2.2.2 = 0 then (-12, (nb, bs, ro, lb, ps, ac, jr, bo, mo, gi, tr, tp, wy, wh, tapp 200 tc (btakT bs (bs b.toNatClampNeg)), st, ds, dw, bf, ba, bc)) else sFillOk b p v (nb, bs, ro, lb, ps, ac, jr, bo, mo, gi, tr, tp, wy, wh, tapp 200 tc (btakT bs (bs b.toNatClampNeg)), st, ds, dw, bf, ba, bc)) else (-11, (nb, bs, ro, lb, ps, ac, jr, bo, mo, gi, tr, tp, wy, wh, tapp 200 tc (btakT bs (bs b.toNatClampNeg)), st, ds, dw, bf, ba, bc))) else ((-(lkf nb bs b)).toInt64, (nb, bs, ro, lb, ps, ac, jr, bo, mo, gi, tr, tp, wy, wh, tc, st, ds, dw, bf, ba, bc))) else (-1, (nb, bs, ro, lb, ps, ac, jr, bo, mo, gi, tr, tp, wy, wh, tc, st, ds, dw, bf, ba, bc))
theorem wlook_mem (p : Int32) : ∀ (l : Wn), wlook p l ≠ 0 → ∃ q ∈ l, q.1 = p
  | [], h => absurd rfl h
  | q :: r, h => by
    unfold wlook at h
    by_cases e : q.1 = p
    · exact ⟨q, List.mem_cons_self, e⟩
    · rw [if_neg e] at h
      obtain ⟨q', h1, h2⟩ := wlook_mem p r h
      exact ⟨q', List.mem_cons_of_mem _ h1, h2⟩
theorem C_fill {M : Zm} {g : Zg} {A AL : Nat → Nat} {x : Nat} {adr : Nat → Nat} {ga nb : Nat} {bs : Nat → Bv} {ro : Nat → Rw} {lb : List Lb} {ps : List (Nat × Int64)} {ac : Nat → Wn} {jr bo : List Ln} {mo : Int32} {gi : Int64} {tr tp wy wh : Int32} {tc : List Int32} {st : List Int64} {ds : List (Nat × Int64)} {dw : Wn} {bf : Nat → Int32} {ba : Wn} {bc : List Nat} {k : Nat} (h : zCe M g A AL x adr ga nb bs ro lb ps ac jr bo mo gi tr tp wy wh tc st ds dw bf ba bc) (hI : Imem nb bs) (h6 : I60 nb bs) (hca : wcod (ac 0)) (hj : jr.length < 4096) (b p : Int32) (v : Int64) (hb : zBu M g k) : zev (zf_X11_fillVessel M (some x) b p v) (fun y => ∃ g' A' AL', zCs y.1 g' A' AL' x adr ga (sFill b p v (nb, bs, ro, lb, ps, ac, jr, bo, mo, gi, tr, tp, wy, wh, tc, st, ds, dw, bf, ba, bc)).2 ∧ y.2 = (sFill b p v (nb, bs, ro, lb, ps, ac, jr, bo, mo, gi, tr, tp, wy, wh, tc, st, ds, dw, bf, ba, bc)).1 ∧ zFo M g y.1 g' Tc ∧ zBu y.1 g' k) := by
  unfold sFill
  dsimp only
  have hN := h.N
  simp only [zf_X11_fillVessel, zf_X11_fillVessel_J18]
  by_cases h1 : p < 0
  · simp only [if_pos h1, zev_b1, zev_bd, zev_some, zev_gi, zev_gj, zev_gr, zev_pi, zev_pz, zev_pj, zev_pr, zev_rc, zev_cc, zev_b0, zev_bo, true_and, and_true]
    exact ⟨g, A, AL, h, zFo.rf, hb⟩
  by_cases h2 : 4095 < p
  · simp only [if_neg h1, if_pos h2, zev_b1, zev_bd, zev_some, zev_gi, zev_gj, zev_gr, zev_pi, zev_pz, zev_pj, zev_pr, zev_rc, zev_cc, zev_b0, zev_bo, true_and, and_true]
    exact ⟨g, A, AL, h, zFo.rf, hb⟩
  have hp : 0 ≤ p.toInt ∧ p.toInt < 4096 := by
    obtain ⟨j, hj, rfl⟩ := nI_rng (n := 4095) (by decide) h1 h2
    rw [nI_toInt (by omega)]
    omega
  simp only [if_neg h1, if_neg h2, zev_b1, zev_bd, zev_some, zev_gi, zev_gj, zev_gr, zev_pi, zev_pz, zev_pj, zev_pr, zev_rc, zev_cc, zev_b0, zev_bo, true_and, and_true]
  rcases z_ml (M := M) v with ⟨c1, e⟩ | ⟨c1, e⟩
  · simp only [zev_eq e, if_pos c1, if_neg z10, zev_b1, zev_bd, zev_some, zev_gi, zev_gj, zev_gr, zev_pi, zev_pz, zev_pj, zev_pr, zev_rc, zev_cc, zev_b0, zev_bo, true_and, and_true, h.O, zev_eq (zCe_lkf h b)]
    by_cases h3 : lkf nb bs b = 0
    · obtain ⟨n, hn, rfl, kn, pn⟩ := lkf_0 h.N h3
      obtain ⟨w1, w2⟩ := (h.bs hn).wa
      simp only [if_pos h3, nI_clamp (show n < 2 ^ 31 by omega), zev_b1, zev_bd, zev_some, zev_gi, zev_gj, zev_gr, zev_pi, zev_pz, zev_pj, zev_pr, zev_rc, zev_cc, zev_b0, zev_bo, true_and, and_true, h.O, h.r (show 0 < 14 by decide), h.bl.O, zev_eq (zCe_get h hn), (h.bs hn).O, w1, w2.O, w2.tot, h.r (show 12 < 14 by decide)]
      refine zev_mono (zCe_takes h hI hn hb) ?_
      rintro ⟨M1, v1⟩ hh
      dsimp only at hh ⊢
      obtain ⟨e1, h4, f4, b4⟩ := hh
      subst e1
      obtain ⟨y1, y2⟩ := (h4.bs hn).wa
      by_cases h5 : wsum (bs n).2.1.2.2.2 + v ≤ btak bs (bs n)
      · simp only [if_pos h5, zev_b1, zev_bd, zev_some, zev_gi, zev_gj, zev_gr, zev_pi, zev_pz, zev_pj, zev_pr, zev_rc, zev_cc, zev_b0, zev_bo, true_and, and_true, y2.O, y2.cnt]
        by_cases h7 : nI (bs n).2.1.2.2.2.length < 60
        · simp only [if_pos h7]
          refine zev_mono (C_fillOk h4 hn p v (Or.inl (by have := (h6 n hn).1; omega)) hca hp hj b4) ?_
          rintro y ⟨g', A', AL', q1, q2, q3, q4⟩
          exact ⟨g', A', AL', q1, q2, f4.tr q3, q4⟩
        · simp only [if_neg h7, zev_b1, zev_bd, zev_some, zev_gi, zev_gj, zev_gr, zev_pi, zev_pz, zev_pj, zev_pr, zev_rc, zev_cc, zev_b0, zev_bo, true_and, and_true, y2.O, zev_eq (zWo_amountOf y2 p)]
          by_cases h8 : wlook p (bs n).2.1.2.2.2 = 0
          · simp only [if_pos h8, zev_b1, zev_bd, zev_some, zev_gi, zev_gj, zev_gr, zev_pi, zev_pz, zev_pj, zev_pr, zev_rc, zev_cc, zev_b0, zev_bo, true_and, and_true]
            exact ⟨g, A, AL, h4, f4, b4⟩
          · simp only [if_neg h8]
            refine zev_mono (C_fillOk h4 hn p v (Or.inr (wlook_mem p _ h8)) hca hp hj b4) ?_
            rintro y ⟨g', A', AL', q1, q2, q3, q4⟩
            exact ⟨g', A', AL', q1, q2, f4.tr q3, q4⟩
      · simp only [if_neg h5, zev_b1, zev_bd, zev_some, zev_gi, zev_gj, zev_gr, zev_pi, zev_pz, zev_pj, zev_pr, zev_rc, zev_cc, zev_b0, zev_bo, true_and, and_true]
        exact ⟨g, A, AL, h4, f4, b4⟩
    · simp only [if_neg h3, zev_b1, zev_bd, zev_some, zev_gi, zev_gj, zev_gr, zev_pi, zev_pz, zev_pj, zev_pr, zev_rc, zev_cc, zev_b0, zev_bo, true_and, and_true]
      exact ⟨g, A, AL, h, zFo.rf, hb⟩
  · simp only [zev_eq e, if_neg c1, if_true, zev_b1, zev_bd, zev_some, zev_gi, zev_gj, zev_gr, zev_pi, zev_pz, zev_pj, zev_pr, zev_rc, zev_cc, zev_b0, zev_bo, true_and, and_true]
    exact ⟨g, A, AL, h, zFo.rf, hb⟩
/-- drawn off onto an account -/
def sOff (n : Nat) (v : Int64) (hw : Nat) (c : Cs) : Cs := match c with
  | (nb, bs, ro, lb, ps, ac, jr, bo, mo, gi, tr, tp, wy, wh, tc, st, ds, dw, bf, ba, bc) => (nb, scarry bs (dlst bs n v), ro, lb, ps, aup ac hw (dmix bs (ac hw) (dlst bs n v)), jr, bo, mo, gi, tr, tp, wy, wh, tapp 200 tc (dlstT bs n v), st, dlst bs n v, dmix bs [] (dlst bs n v), fu (bfB bf nb mo jr.length bo.length) 8 (nI hw), ac hw, (dlst bs n v).map (fun q => q.1))
theorem dlst_len (bs : Nat → Bv) (n : Nat) (v : Int64) (h : (bms (bs n)).length ≤ 4) : (dlst bs n v).length ≤ 4 := by
  unfold dlst
  by_cases e : (bs n).1.1 = 5
  · rw [if_pos e]
    have := dstep_len bs (bms (bs n)) (v, [], [])
    simp only [List.length_nil] at this
    omega
  · rw [if_neg e]
    split <;> simp
theorem C_off {M : Zm} {g : Zg} {A AL : Nat → Nat} {x : Nat} {adr : Nat → Nat} {ga nb : Nat} {bs : Nat → Bv} {ro : Nat → Rw} {lb : List Lb} {ps : List (Nat × Int64)} {ac : Nat → Wn} {jr bo : List Ln} {mo : Int32} {gi : Int64} {tr tp wy wh : Int32} {tc : List Int32} {st : List Int64} {ds : List (Nat × Int64)} {dw : Wn} {bf : Nat → Int32} {ba : Wn} {bc : List Nat} {n hw k : Nat} {how : Int32} (h : zCe M g A AL x adr ga nb bs ro lb ps ac jr bo mo gi tr tp wy wh tc st ds dw bf ba bc) (hI : Imem nb bs) (h6 : I60 nb bs) (hn : n < nb) (v : Int64) (hh : how = nI hw) (hh5 : hw < 5) (hD : Dok bs nb (dlst bs n v)) (hca : wcod (ac hw)) (hb : zBu M g k) : zev (zf_X11_drawOff M (some x) (some (A n)) v how) (fun y => ∃ g', zCs y.1 g' A AL x adr ga (sOff n v hw (nb, bs, ro, lb, ps, ac, jr, bo, mo, gi, tr, tp, wy, wh, tc, st, ds, dw, bf, ba, bc)) ∧ zFo M g y.1 g' Tc ∧ zBu y.1 g' k) := by
  subst hh
  unfold sOff
  dsimp only
  have hml := (h.bs hn).me
  obtain ⟨ma, -, -, -, p4, p5, -⟩ := hml
  have hdl := dlst_len bs n v (by omega)
  simp only [zf_X11_drawOff, zev_b1, zev_bd, zev_some, zev_gi, zev_gj, zev_gr, zev_pi, zev_pz, zev_pj, zev_pr, zev_rc, zev_cc, zev_b0, zev_bo, true_and, and_true, h.O, h.r (show 10 < 14 by decide), h.dr.1]
  refine zev_mono (zCe_dclear h hb) ?_
  rintro ⟨M1, u0⟩ hh
  dsimp only at hh ⊢
  obtain ⟨h1, f1, b1⟩ := hh
  simp only [h1.O, h1.r (show 10 < 14 by decide), h1.r (show 12 < 14 by decide), zev_b1, zev_bd, zev_some, zev_gi, zev_gj, zev_gr, zev_pi, zev_pz, zev_pj, zev_pr, zev_rc, zev_cc, zev_b0, zev_bo, true_and, and_true, h1.dr.1]
  refine zev_mono (zCe_dfrom h1 hI h6 hn v (by decide) (fun q hq => by cases hq) b1) ?_
  rintro ⟨M2, u1⟩ hh
  dsimp only at hh ⊢
  obtain ⟨g2, h2, f2, b2⟩ := hh
  rw [List.nil_append] at h2
  refine ⟨h2.O, zev_mono (zCe_remember h2 b2) ?_⟩
  rintro ⟨M3, u2⟩ hh
  dsimp only at hh ⊢
  obtain ⟨h3, f3, b3⟩ := hh
  obtain ⟨w, w1, w2, hk⟩ := zCe_keepa h3 hh5 (nI hw) b3
  obtain ⟨a1, a2, a3, -⟩ := h3.ac
  simp only [h3.O, h3.r (show 11 < 14 by decide), h3.r (show 6 < 14 by decide), zev_b1, zev_bd, zev_some, zev_gi, zev_gj, zev_gr, zev_pi, zev_pz, zev_pj, zev_pr, zev_rc, zev_cc, zev_b0, zev_bo, true_and, and_true, h3.be.1, zev_ar2 (show hw < 2 ^ 31 by omega), a1, a2, hh5, w1]
  refine zev_mono hk ?_
  rintro ⟨M4, u3⟩ hh
  dsimp only at hh ⊢
  obtain ⟨g4, h4, f4, b4⟩ := hh
  obtain ⟨c1, c2, c3, c4⟩ := h4.ac
  obtain ⟨w', v1, v2⟩ := c4 hw hh5
  simp only [h4.O, h4.r (show 11 < 14 by decide), h4.r (show 10 < 14 by decide), h4.r (show 6 < 14 by decide), zev_b1, zev_bd, zev_some, zev_gi, zev_gj, zev_gr, zev_pi, zev_pz, zev_pj, zev_pr, zev_rc, zev_cc, zev_b0, zev_bo, true_and, and_true, h4.dr.1, zev_ar2 (show hw < 2 ^ 31 by omega), c1, c2, hh5, v1]
  refine zev_mono (zCe_carryA h4 hh5 v1 hD hca (fun q hq => (h6 q.1 (hD.1 q hq).1).2) (by simp; omega) b4) ?_
  rintro ⟨M5, u4⟩ hh
  dsimp only at hh ⊢
  obtain ⟨g5, h5, f5, b5⟩ := hh
  rw [List.nil_append] at h5
  exact ⟨g5, h5, (((f1.tr f2).tr f3).tr f4).tr f5, b5⟩
