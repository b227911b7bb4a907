/-! Acts: join, leave, lay, lift. -/
def rup (ro : Nat → Rw) (r : Nat) (v : Rw) : Nat → Rw := fun i => if i = r then v else ro i
theorem zCe.rset {M : Zm} {g : Zg} {A AL : Nat → Nat} {x : Nat} {adr : Nat → Nat} {ga nb : Nat} {bs : Nat → Bv} {ro : Nat → Rw} {lb : List Lb} {ps : List (Nat × Int64)} {ac : Nat → Wn} {jr bo : List Ln} {mo : Int32} {gi : Int64} {tr tp wy wh : Int32} {tc : List Int32} {st : List Int64} {ds : List (Nat × Int64)} {dw : Wn} {bf : Nat → Int32} {ba : Wn} {bc : List Nat} {M' : Zm} {r w : Nat} {kd : Int32} {pl : List Int32} (h : zCe M g A AL x adr ga nb bs ro lb ps ac jr bo mo gi tr tp wy wh tc st ds dw bf ba bc) (hw : zm_r M (adr 1) r = some w) (f : zFo M g M' g (fun z => z = 80 + r)) (hr : zRo M' g r w kd pl) (hwl : w = AL (1000 + r)) (hr20 : r < 20) : zCe M' g A AL x adr ga nb bs (rup ro r (some (kd, pl))) lb ps ac jr bo mo gi tr tp wy wh tc st ds dw bf ba bc := by
  obtain ⟨cN, cO, cB, cBs, cRw, cLl, cLs, cPk, cJu, cPp, cAc, cBl, cJr, cBo, cDr, cBe, cT1, cT2⟩ := h
  have e := f.at cRw.1.1 cRw.2.2.1 (by omega)
  refine ⟨cN, cO.fr f (by first | omega | (dsimp only; omega)), cB.fr f (by first | omega | (dsimp only; omega)), cBs.fr f (fun b hb => ⟨(by first | omega | (dsimp only; omega)), (by first | omega | (dsimp only; omega)), (by first | omega | (dsimp only; omega))⟩), ⟨f.O cRw.1, (f.A (show zA M (adr 1) 17 20 from ⟨cRw.1, cRw.2.1⟩)).2, f.own cRw.1.1 cRw.2.2.1, fun i hi => ?_⟩, cLl.fr f (by first | omega | (dsimp only; omega)), cLs.fr f (fun i hi => (by first | omega | (dsimp only; omega))), cPk.fr f (by first | omega | (dsimp only; omega)), cJu.fr f (by first | omega | (dsimp only; omega)), cPp.fr f (by first | omega | (dsimp only; omega)) (by first | omega | (dsimp only; omega)), cAc.fr f (by first | omega | (dsimp only; omega)) (fun h hh => (by first | omega | (dsimp only; omega))), cBl.fr f (by first | omega | (dsimp only; omega)), cJr.fr f (by first | omega | (dsimp only; omega)), cBo.fr f (by first | omega | (dsimp only; omega)), cDr.fr f (by first | omega | (dsimp only; omega)) (by first | omega | (dsimp only; omega)), cBe.fr f (by first | omega | (dsimp only; omega)) (by first | omega | (dsimp only; omega)) (by first | omega | (dsimp only; omega)), cT1.fr f (by first | omega | (dsimp only; omega)), cT2.fr f (by first | omega | (dsimp only; omega))⟩
  unfold rup
  rw [e.2.2]
  by_cases e1 : i = r
  · subst e1
    rw [if_pos rfl]
    exact Or.inr ⟨w, kd, pl, rfl, hw, hr, hwl⟩
  · rw [if_neg e1]
    rcases cRw.2.2.2 i hi with q | ⟨w', k', pl', q1, q2, q3, q4⟩
    · exact Or.inl q
    · exact Or.inr ⟨w', k', pl', q1, q2, q3.fr f (by omega), q4⟩
theorem zCe.bset {M : Zm} {g : Zg} {A AL : Nat → Nat} {x : Nat} {adr : Nat → Nat} {ga nb : Nat} {bs : Nat → Bv} {ro : Nat → Rw} {lb : List Lb} {ps : List (Nat × Int64)} {ac : Nat → Wn} {jr bo : List Ln} {mo : Int32} {gi : Int64} {tr tp wy wh : Int32} {tc : List Int32} {st : List Int64} {ds : List (Nat × Int64)} {dw : Wn} {bf : Nat → Int32} {ba : Wn} {bc : List Nat} {M' : Zm} {g' : Zg} {b : Nat} {v : Bv} (h : zCe M g A AL x adr ga nb bs ro lb ps ac jr bo mo gi tr tp wy wh tc st ds dw bf ba bc) (f : zFo M g M' g' (fun z => z = 100 + 3 * b)) (hv : zBa M' g' A b v) : zCe M' g' A AL x adr ga nb (bup bs b v) ro lb ps ac jr bo mo gi tr tp wy wh tc st ds dw bf ba bc := by
  obtain ⟨cN, cO, cB, cBs, cRw, cLl, cLs, cPk, cJu, cPp, cAc, cBl, cJr, cBo, cDr, cBe, cT1, cT2⟩ := h
  exact ⟨cN, cO.fr f (by first | omega | (dsimp only; omega)), cB.fr f (by first | omega | (dsimp only; omega)), cBs.up f hv (fun c hc hcb => ⟨(by first | omega | (dsimp only; omega)), (by first | omega | (dsimp only; omega)), (by first | omega | (dsimp only; omega))⟩), cRw.fr f (by first | omega | (dsimp only; omega)) (fun r hr => (by first | omega | (dsimp only; omega))), cLl.fr f (by first | omega | (dsimp only; omega)), cLs.fr f (fun i hi => (by first | omega | (dsimp only; omega))), cPk.fr f (by first | omega | (dsimp only; omega)), cJu.fr f (by first | omega | (dsimp only; omega)), cPp.fr f (by first | omega | (dsimp only; omega)) (by first | omega | (dsimp only; omega)), cAc.fr f (by first | omega | (dsimp only; omega)) (fun h hh => (by first | omega | (dsimp only; omega))), cBl.fr f (by first | omega | (dsimp only; omega)), cJr.fr f (by first | omega | (dsimp only; omega)), cBo.fr f (by first | omega | (dsimp only; omega)), cDr.fr f (by first | omega | (dsimp only; omega)) (by first | omega | (dsimp only; omega)), cBe.fr f (by first | omega | (dsimp only; omega)) (by first | omega | (dsimp only; omega)) (by first | omega | (dsimp only; omega)), cT1.fr f (by first | omega | (dsimp only; omega)), cT2.fr f (by first | omega | (dsimp only; omega))⟩
theorem bup_bup (bs : Nat → Bv) (b : Nat) (v w : Bv) : bup (bup bs b v) b w = bup bs b w := by
  funext c
  unfold bup
  split <;> rfl
theorem bup_comm (bs : Nat → Bv) {b c : Nat} (v w : Bv) (h : b ≠ c) : bup (bup bs b v) c w = bup (bup bs c w) b v := by
  funext d
  unfold bup
  by_cases e : d = c
  · subst e
    rw [if_pos rfl, if_neg (fun e => h e.symm), if_pos rfl]
  · rw [if_neg e, if_neg e]
def fst0 (a b : Int32) : Int32 := if a = 0 then b else a
theorem z_first {M : Zm} (a b : Int32) : zf_X11_firstOf M a b = some (M, fst0 a b) := by
  unfold zf_X11_firstOf fst0
  split <;> rfl
theorem fst0_0 {a b : Int32} (h : fst0 a b = 0) : a = 0 ∧ b = 0 := by
  unfold fst0 at h
  by_cases e : a = 0
  · rw [if_pos e] at h; exact ⟨e, h⟩
  · rw [if_neg e] at h; exact absurd h e
def sJoin (c0 b : Int32) (c : Cs) : Int64 × Cs := match c with
  | (nb, bs, ro, lb, ps, ac, jr, bo, mo, gi, tr, tp, wy, wh, tc, st, ds, dw, bf, ba, bc) => if fst0 (lkc nb bs c0) (lkv nb bs b) = 0 then (if (bs b.toNatClampNeg).2.1.2.1 = 0 then (if nI (bs c0.toNatClampNeg).2.1.2.2.1 < 4 then ((nI ((bs c0.toNatClampNeg).2.1.2.2.1 + 1)).toInt64, (nb, bup (bup bs c0.toNatClampNeg (bjoin (bkeep (bs c0.toNatClampNeg)) b.toNatClampNeg)) b.toNatClampNeg (bplc (bkeep (bs b.toNatClampNeg)) (10000 + c0)), ro, lb, ps, ac, jr, bo, mo, gi, tr, tp, wy, wh, tc, st, ds, dw, bfB bf nb mo jr.length bo.length, ba, [c0.toNatClampNeg, b.toNatClampNeg])) else (-12, (nb, bs, ro, lb, ps, ac, jr, bo, mo, gi, tr, tp, wy, wh, tc, st, ds, dw, bf, ba, bc))) else (-9, (nb, bs, ro, lb, ps, ac, jr, bo, mo, gi, tr, tp, wy, wh, tc, st, ds, dw, bf, ba, bc))) else ((-(fst0 (lkc nb bs c0) (lkv nb bs b))).toInt64, (nb, bs, ro, lb, ps, ac, jr, bo, mo, gi, tr, tp, wy, wh, tc, st, ds, dw, bf, ba, bc))
theorem C_join {M : Zm} {g : Zg} {A AL : Nat → Nat} {x : Nat} {adr : Nat → Nat} {ga nb : Nat} {bs : Nat → Bv} {ro : Nat → Rw} {lb : List Lb} {ps : List (Nat × Int64)} {ac : Nat → Wn} {jr bo : List Ln} {mo : Int32} {gi : Int64} {tr tp wy wh : Int32} {tc : List Int32} {st : List Int64} {ds : List (Nat × Int64)} {dw : Wn} {bf : Nat → Int32} {ba : Wn} {bc : List Nat} {k : Nat} (h : zCe M g A AL x adr ga nb bs ro lb ps ac jr bo mo gi tr tp wy wh tc st ds dw bf ba bc) (c0 b : Int32) (hb : zBu M g k) : zev (zf_X11_joinCask M (some x) c0 b) (fun y => ∃ g' A' AL', zCs y.1 g' A' AL' x adr ga (sJoin c0 b (nb, bs, ro, lb, ps, ac, jr, bo, mo, gi, tr, tp, wy, wh, tc, st, ds, dw, bf, ba, bc)).2 ∧ y.2 = (sJoin c0 b (nb, bs, ro, lb, ps, ac, jr, bo, mo, gi, tr, tp, wy, wh, tc, st, ds, dw, bf, ba, bc)).1 ∧ zFo M g y.1 g' Tc ∧ zBu y.1 g' k) := by
  unfold sJoin
  dsimp only
  simp only [zf_X11_joinCask, zev_b1, zev_bd, zev_some, zev_gi, zev_gj, zev_gr, zev_pi, zev_pz, zev_pj, zev_pr, zev_rc, zev_cc, zev_b0, zev_bo, true_and, and_true, h.O, zev_eq (zCe_lkc h c0), zev_eq (zCe_lkv h b), zev_eq (z_first (M := M) _ _)]
  by_cases h1 : fst0 (lkc nb bs c0) (lkv nb bs b) = 0
  · obtain ⟨e1, e2⟩ := fst0_0 h1
    obtain ⟨n, hn, rfl, kn⟩ := lkc_0 h.N e1
    obtain ⟨m, hm, rfl, km⟩ := lkv_0 h.N e2
    have hN := h.N
    have hnm : n ≠ m := fun e => km (e ▸ kn)
    simp only [if_pos h1, nI_clamp (show n < 2 ^ 31 by omega), nI_clamp (show m < 2 ^ 31 by omega), zev_b1, zev_bd, zev_some, zev_gi, zev_gj, zev_gr, zev_pi, zev_pz, zev_pj, zev_pr, zev_rc, zev_cc, zev_b0, zev_bo, true_and, and_true, h.O, h.r (show 0 < 14 by decide), h.bl.O, zev_eq (zCe_get h hn), zev_eq (zCe_get h hm), (h.bs hn).O, (h.bs hm).O, zev_eq (zBa_onFloor (h.bs hm))]
    by_cases h2 : (bs m).2.1.2.1 = 0
    · simp only [if_pos h2, if_neg z10, zev_b1, zev_bd, zev_some, zev_gi, zev_gj, zev_gr, zev_pi, zev_pz, zev_pj, zev_pr, zev_rc, zev_cc, zev_b0, zev_bo, true_and, and_true, (h.bs hn).O, (h.bs hn).mc]
      have hml := (h.bs hn).mle
      by_cases h3 : nI (bs n).2.1.2.2.1 < 4
      · have h34 : (bs n).2.1.2.2.1 < 4 := (nI_ltI (by omega) (show 4 < 2 ^ 31 by decide)).mp h3
        simp only [if_pos h3, zev_b1, zev_bd, zev_some, zev_gi, zev_gj, zev_gr, zev_pi, zev_pz, zev_pj, zev_pr, zev_rc, zev_cc, zev_b0, zev_bo, true_and, and_true, h.O]
        refine zev_mono (zCe_remember h hb) ?_
        rintro ⟨M1, u0⟩ hh
        dsimp only at hh ⊢
        obtain ⟨h4, f4, b4⟩ := hh
        simp only [h4.O, h4.r (show 11 < 14 by decide), zev_b1, zev_bd, zev_some, zev_gi, zev_gj, zev_gr, zev_pi, zev_pz, zev_pj, zev_pr, zev_rc, zev_cc, zev_b0, zev_bo, true_and, and_true, h4.be.1]
        refine zev_mono (zCe_keepb h4 hn (by decide) b4) ?_
        rintro ⟨M2, u1⟩ hh
        dsimp only at hh ⊢
        obtain ⟨g5, h5, f5, b5⟩ := hh
        simp only [h5.O, h5.r (show 11 < 14 by decide), zev_b1, zev_bd, zev_some, zev_gi, zev_gj, zev_gr, zev_pi, zev_pz, zev_pj, zev_pr, zev_rc, zev_cc, zev_b0, zev_bo, true_and, and_true, h5.be.1]
        refine zev_mono (zCe_keepb h5 hm (by simp) b5) ?_
        rintro ⟨M3, u2⟩ hh
        dsimp only at hh ⊢
        obtain ⟨g6, h6, f6, b6⟩ := hh
        have xn := h6.bs hn
        have xm := h6.bs hm
        rw [bup_ne _ _ hnm, bup_self] at xn
        rw [bup_self, bup_ne bs _ (fun e => hnm e.symm)] at xm
        refine ⟨xn.O, zev_mono (zBa_takeIn xn xm hnm h34 (Nat.le_succ _) b6) ?_⟩
        rintro ⟨M4, u3⟩ hh
        dsimp only at hh ⊢
        obtain ⟨yn, ym, f7, b7⟩ := hh
        have emc : zm_i M4 (A n) 7 = nI ((bs n).2.1.2.2.1 + 1) := yn.mc
        refine ⟨yn.O, ?_⟩
        rw [emc]
        refine ⟨g6, A, AL, ?_, rfl, ((f4.tr f5).tr f6).tr (f7.mono (fun z q => show z ≠ 1 ∧ z ≠ 28 ∧ z ≠ 29 by first | omega | (dsimp only at q; omega))), b7⟩
        obtain ⟨cN, cO, cB, cBs, cRw, cLl, cLs, cPk, cJu, cPp, cAc, cBl, cJr, cBo, cDr, cBe, cT1, cT2⟩ := h6
        refine ⟨cN, cO.fr f7 (by first | omega | (dsimp only; omega)), cB.fr f7 (by first | omega | (dsimp only; omega)), ?_, cRw.fr f7 (by first | omega | (dsimp only; omega)) (fun r hr => (by first | omega | (dsimp only; omega))), cLl.fr f7 (by first | omega | (dsimp only; omega)), cLs.fr f7 (fun i hi => (by first | omega | (dsimp only; omega))), cPk.fr f7 (by first | omega | (dsimp only; omega)), cJu.fr f7 (by first | omega | (dsimp only; omega)), cPp.fr f7 (by first | omega | (dsimp only; omega)) (by first | omega | (dsimp only; omega)), cAc.fr f7 (by first | omega | (dsimp only; omega)) (fun h hh => (by first | omega | (dsimp only; omega))), cBl.fr f7 (by first | omega | (dsimp only; omega)), cJr.fr f7 (by first | omega | (dsimp only; omega)), cBo.fr f7 (by first | omega | (dsimp only; omega)), cDr.fr f7 (by first | omega | (dsimp only; omega)) (by first | omega | (dsimp only; omega)), cBe.fr f7 (by first | omega | (dsimp only; omega)) (by first | omega | (dsimp only; omega)) (by first | omega | (dsimp only; omega)), cT1.fr f7 (by first | omega | (dsimp only; omega)), cT2.fr f7 (by first | omega | (dsimp only; omega))⟩
        intro d hd
        by_cases d1 : d = m
        · rw [d1, bup_self]; exact ym
        · rw [bup_ne _ _ d1]
          by_cases d2 : d = n
          · rw [d2, bup_self]; exact yn
          · rw [bup_ne _ _ d2]
            have q := cBs d hd
            rw [bup_ne _ _ d1, bup_ne _ _ d2] at q
            exact q.fr f7 (by omega) (by omega) (by omega)
      · simp only [if_neg h3, zev_b1, zev_bd, zev_some, zev_gi, zev_gj, zev_gr, zev_pi, zev_pz, zev_pj, zev_pr, zev_rc, zev_cc, zev_b0, zev_bo, true_and, and_true]
        exact ⟨g, A, AL, h, zFo.rf, hb⟩
    · simp only [if_neg h2, if_true, zev_b1, zev_bd, zev_some, zev_gi, zev_gj, zev_gr, zev_pi, zev_pz, zev_pj, zev_pr, zev_rc, zev_cc, zev_b0, zev_bo, true_and, and_true]
      exact ⟨g, A, AL, h, zFo.rf, hb⟩
  · simp only [if_neg h1, zev_b1, zev_bd, zev_some, zev_gi, zev_gj, zev_gr, zev_pi, zev_pz, zev_pj, zev_pr, zev_rc, zev_cc, zev_b0, zev_bo, true_and, and_true]
    exact ⟨g, A, AL, h, zFo.rf, hb⟩
def blast (x : Bv) : Nat := ((bms x)[x.2.1.2.2.1 - 1]?).getD 0
def sLeave (c0 : Int32) (c : Cs) : Int64 × Cs := match c with
  | (nb, bs, ro, lb, ps, ac, jr, bo, mo, gi, tr, tp, wy, wh, tc, st, ds, dw, bf, ba, bc) => if lkc nb bs c0 = 0 then (if nI (bs c0.toNatClampNeg).2.1.2.2.1 = 0 then (-3, (nb, bs, ro, lb, ps, ac, jr, bo, mo, gi, tr, tp, wy, wh, tc, st, ds, dw, bf, ba, bc)) else ((nI (blast (bs c0.toNatClampNeg))).toInt64, (nb, bup (bup bs c0.toNatClampNeg (bmcn (bkeep (bs c0.toNatClampNeg)) ((bs c0.toNatClampNeg).2.1.2.2.1 - 1))) (blast (bs c0.toNatClampNeg)) (bplc (bkeep (bs (blast (bs c0.toNatClampNeg)))) 0), ro, lb, ps, ac, jr, bo, mo, gi, tr, tp, wy, wh, tc, st, ds, dw, bfB bf nb mo jr.length bo.length, ba, [c0.toNatClampNeg, blast (bs c0.toNatClampNeg)]))) else ((-(lkc nb bs c0)).toInt64, (nb, bs, ro, lb, ps, ac, jr, bo, mo, gi, tr, tp, wy, wh, tc, st, ds, dw, bf, ba, bc))
theorem C_leave {M : Zm} {g : Zg} {A AL : Nat → Nat} {x : Nat} {adr : Nat → Nat} {ga nb : Nat} {bs : Nat → Bv} {ro : Nat → Rw} {lb : List Lb} {ps : List (Nat × Int64)} {ac : Nat → Wn} {jr bo : List Ln} {mo : Int32} {gi : Int64} {tr tp wy wh : Int32} {tc : List Int32} {st : List Int64} {ds : List (Nat × Int64)} {dw : Wn} {bf : Nat → Int32} {ba : Wn} {bc : List Nat} {k : Nat} (h : zCe M g A AL x adr ga nb bs ro lb ps ac jr bo mo gi tr tp wy wh tc st ds dw bf ba bc) (hI : Imem nb bs) (c0 : Int32) (hb : zBu M g k) : zev (zf_X11_leaveCask M (some x) c0) (fun y => ∃ g' A' AL', zCs y.1 g' A' AL' x adr ga (sLeave c0 (nb, bs, ro, lb, ps, ac, jr, bo, mo, gi, tr, tp, wy, wh, tc, st, ds, dw, bf, ba, bc)).2 ∧ y.2 = (sLeave c0 (nb, bs, ro, lb, ps, ac, jr, bo, mo, gi, tr, tp, wy, wh, tc, st, ds, dw, bf, ba, bc)).1 ∧ zFo M g y.1 g' Tc ∧ zBu y.1 g' k) := by
  unfold sLeave
  dsimp only
  simp only [zf_X11_leaveCask, zev_b1, zev_bd, zev_some, zev_gi, zev_gj, zev_gr, zev_pi, zev_pz, zev_pj, zev_pr, zev_rc, zev_cc, zev_b0, zev_bo, true_and, and_true, h.O, zev_eq (zCe_lkc h c0)]
  by_cases h1 : lkc nb bs c0 = 0
  · obtain ⟨n, hn, rfl, kn⟩ := lkc_0 h.N h1
    have hN := h.N
    have hml := (h.bs hn).mle
    simp only [if_pos h1, nI_clamp (show n < 2 ^ 31 by omega), zev_b1, zev_bd, zev_some, zev_gi, zev_gj, zev_gr, zev_pi, zev_pz, zev_pj, zev_pr, zev_rc, zev_cc, zev_b0, zev_bo, true_and, and_true, h.O, h.r (show 0 < 14 by decide), h.bl.O, zev_eq (zCe_get h hn), (h.bs hn).O, (h.bs hn).mc]
    by_cases h2 : nI (bs n).2.1.2.2.1 = 0
    · simp only [if_pos h2, zev_b1, zev_bd, zev_some, zev_gi, zev_gj, zev_gr, zev_pi, zev_pz, zev_pj, zev_pr, zev_rc, zev_cc, zev_b0, zev_bo, true_and, and_true]
      exact ⟨g, A, AL, h, zFo.rf, hb⟩
    · have hpos : 0 < (bs n).2.1.2.2.1 := Nat.pos_of_ne_zero (fun e => h2 (by rw [e]; rfl))
      obtain ⟨ma, p1, p2, p3, p4, p5, p6⟩ := (h.bs hn).me
      obtain ⟨m, hm2⟩ := getElem?_lt (show (bs n).2.1.2.2.1 - 1 < (bms (bs n)).length by omega)
      have em : blast (bs n) = m := by unfold blast; rw [hm2]; rfl
      have hmm := hI n hn m (List.mem_of_getElem? hm2)
      have hnm : n ≠ m := fun e => hmm.2 (e ▸ kn)
      have es : nI (bs n).2.1.2.2.1 - 1 = nI ((bs n).2.1.2.2.1 - 1) := pk_sub (b := 1) (by omega)
      simp only [if_neg h2, em, zev_b1, zev_bd, zev_some, zev_gi, zev_gj, zev_gr, zev_pi, zev_pz, zev_pj, zev_pr, zev_rc, zev_cc, zev_b0, zev_bo, true_and, and_true, (h.bs hn).O, (h.bs hn).mc, p1, es, zev_ar2 (show (bs n).2.1.2.2.1 - 1 < 2 ^ 31 by omega), p2, p3, show (bs n).2.1.2.2.1 - 1 < 4 by omega, p6 _ m hm2, h.O]
      refine zev_mono (zCe_remember h hb) ?_
      rintro ⟨M1, u0⟩ hh
      dsimp only at hh ⊢
      obtain ⟨h4, f4, b4⟩ := hh
      simp only [h4.O, h4.r (show 11 < 14 by decide), zev_b1, zev_bd, zev_some, zev_gi, zev_gj, zev_gr, zev_pi, zev_pz, zev_pj, zev_pr, zev_rc, zev_cc, zev_b0, zev_bo, true_and, and_true, h4.be.1]
      refine zev_mono (zCe_keepb h4 hn (by decide) b4) ?_
      rintro ⟨M2, u1⟩ hh
      dsimp only at hh ⊢
      obtain ⟨g5, h5, f5, b5⟩ := hh
      simp only [h5.O, h5.r (show 11 < 14 by decide), zev_b1, zev_bd, zev_some, zev_gi, zev_gj, zev_gr, zev_pi, zev_pz, zev_pj, zev_pr, zev_rc, zev_cc, zev_b0, zev_bo, true_and, and_true, h5.be.1]
      refine zev_mono (zCe_keepb h5 hmm.1 (by simp) b5) ?_
      rintro ⟨M3, u2⟩ hh
      dsimp only at hh ⊢
      obtain ⟨g6, h6, f6, b6⟩ := hh
      have xn := h6.bs hn
      have xm := h6.bs hmm.1
      rw [bup_ne _ _ hnm, bup_self] at xn
      rw [bup_self, bup_ne bs _ (fun e => hnm e.symm)] at xm
      have emc : zm_i M3 (A n) 7 = nI (bs n).2.1.2.2.1 := xn.mc
      have f7 : zFo M3 g6 (zm_pi M3 (A n) 7 (nI ((bs n).2.1.2.2.1 - 1))) g6 (fun z => z = 100 + 3 * n) := zFo.pi xn.2.1
      have yn := xn.count (m := (bs n).2.1.2.2.1 - 1) (Nat.le_trans (Nat.sub_le _ _) xn.mle.1)
      have h7 := h6.bset f7 yn
      have b7 : zBu (zm_pi M3 (A n) 7 (nI ((bs n).2.1.2.2.1 - 1))) g6 k := b6.same rfl rfl
      simp only [xn.O, emc, es, zev_b1, zev_bd, zev_some, zev_gi, zev_gj, zev_gr, zev_pi, zev_pz, zev_pj, zev_pr, zev_rc, zev_cc, zev_b0, zev_bo, true_and, and_true]
      generalize zm_pi M3 (A n) 7 (nI ((bs n).2.1.2.2.1 - 1)) = M4 at f7 yn h7 b7 ⊢
      have xm7 := h7.bs hmm.1
      rw [bup_ne _ _ (fun e => hnm e.symm), bup_self, bup_ne bs _ (fun e => hnm e.symm)] at xm7
      have f8 : zFo M4 g6 (zm_pi M4 (A m) 4 0) g6 (fun z => z = 100 + 3 * m) := zFo.pi xm7.2.1
      have ym := xm7.place (c := 0) xm7.mle.1
      have h8 := h7.bset f8 ym
      have b8 : zBu (zm_pi M4 (A m) 4 0) g6 k := b7.same rfl rfl
      generalize zm_pi M4 (A m) 4 0 = M5 at f8 ym h8 b8 ⊢
      refine ⟨xm7.O, ym.O, ?_⟩
      rw [ym.nr]
      refine ⟨g6, A, AL, ?_, rfl, ((((f4.tr f5).tr f6).tr (f7.mono (fun z q => show z ≠ 1 ∧ z ≠ 28 ∧ z ≠ 29 by first | omega | (dsimp only at q; omega)))).tr (f8.mono (fun z q => show z ≠ 1 ∧ z ≠ 28 ∧ z ≠ 29 by first | omega | (dsimp only at q; omega)))), b8⟩
      have eb : bup (bup bs n (bmcn (bkeep (bs n)) ((bs n).2.1.2.2.1 - 1))) m (bplc (bkeep (bs m)) 0) = bup (bup (bup (bup bs n (bkeep (bs n))) m (bkeep (bup bs n (bkeep (bs n)) m))) n (bmcn (bkeep (bs n)) ((bs n).2.1.2.2.1 - 1))) m (bplc (bkeep (bs m)) 0) := by
        funext d
        unfold bup
        by_cases d1 : d = m
        · simp only [if_pos d1]
        · simp only [if_neg d1]
          by_cases d2 : d = n
          · simp only [if_pos d2]
          · simp only [if_neg d2]
      show zCe M5 g6 A AL x adr ga nb (bup (bup bs n (bmcn (bkeep (bs n)) ((bs n).2.1.2.2.1 - 1))) m (bplc (bkeep (bs m)) 0)) ro lb ps ac jr bo mo gi tr tp wy wh tc st ds dw (bfB bf nb mo jr.length bo.length) ba ([n, m])
      rw [eb]
      exact h8
  · simp only [if_neg h1, zev_b1, zev_bd, zev_some, zev_gi, zev_gj, zev_gr, zev_pi, zev_pz, zev_pj, zev_pr, zev_rc, zev_cc, zev_b0, zev_bo, true_and, and_true]
    exact ⟨g, A, AL, h, zFo.rf, hb⟩
