/-! Acts: drain, wash, bottle. -/
def sJ (q : Ln) (c : Cs) : Cs := match c with
  | (nb, bs, ro, lb, ps, ac, jr, bo, mo, gi, tr, tp, wy, wh, tc, st, ds, dw, bf, ba, bc) => (nb, bs, ro, lb, ps, ac, jr ++ [q], bo, mo, gi, tr, tp, wy, wh, tc, st, ds, dw, bf, ba, bc)
def cW (n : Nat) (c : Cs) : Wn := (c.2.1 n).2.1.2.2.2
def sDrain (b : Int32) (v : Int64) (how : Int32) (c : Cs) : Int64 × Cs := match c with
  | (nb, bs, ro, lb, ps, ac, jr, bo, mo, gi, tr, tp, wy, wh, tc, st, ds, dw, bf, ba, bc) => if how < 1 then (-1, (nb, bs, ro, lb, ps, ac, jr, bo, mo, gi, tr, tp, wy, wh, tc, st, ds, dw, bf, ba, bc)) else if 2 < how then (-1, (nb, bs, ro, lb, ps, ac, jr, bo, mo, gi, tr, tp, wy, wh, tc, st, ds, dw, bf, ba, bc)) else if isml v then (if lkf nb bs b = 0 then (if wsum (bs b.toNatClampNeg).2.1.2.2.2 = 0 then (-2, (nb, bs, ro, lb, ps, ac, jr, bo, mo, gi, tr, tp, wy, wh, tc, st, ds, dw, bf, ba, bc)) else if v ≤ wsum (bs b.toNatClampNeg).2.1.2.2.2 then (if how = 1 then (wsum (cW b.toNatClampNeg (sOff b.toNatClampNeg v 2 (nb, bs, ro, lb, ps, ac, jr, bo, mo, gi, tr, tp, wy, wh, tc, st, ds, dw, bf, ba, bc))), sJ (7, b.toInt64, -1, v) (sOff b.toNatClampNeg v 2 (nb, bs, ro, lb, ps, ac, jr, bo, mo, gi, tr, tp, wy, wh, tc, st, ds, dw, bf, ba, bc))) else (wsum (cW b.toNatClampNeg (sOff b.toNatClampNeg v 3 (nb, bs, ro, lb, ps, ac, jr, bo, mo, gi, tr, tp, wy, wh, tc, st, ds, dw, bf, ba, bc))), sJ (8, b.toInt64, -1, v) (sOff b.toNatClampNeg v 3 (nb, bs, ro, lb, ps, ac, jr, bo, mo, gi, tr, tp, wy, wh, tc, st, ds, dw, bf, ba, bc)))) else (-10, (nb, bs, ro, lb, ps, ac, jr, bo, mo, gi, tr, tp, wy, wh, tc, st, ds, dw, bf, ba, bc))) else ((-(lkf nb bs b)).toInt64, (nb, bs, ro, lb, ps, ac, jr, bo, mo, gi, tr, tp, wy, wh, tc, st, ds, dw, bf, ba, bc))) else (-1, (nb, bs, ro, lb, ps, ac, jr, bo, mo, gi, tr, tp, wy, wh, tc, st, ds, dw, bf, ba, bc))
theorem C_drain {M : Zm} {g : Zg} {A AL : Nat → Nat} {x : Nat} {adr : Nat → Nat} {ga nb : Nat} {bs : Nat → Bv} {ro : Nat → Rw} {lb : List Lb} {ps : List (Nat × Int64)} {ac : Nat → Wn} {jr bo : List Ln} {mo : Int32} {gi : Int64} {tr tp wy wh : Int32} {tc : List Int32} {st : List Int64} {ds : List (Nat × Int64)} {dw : Wn} {bf : Nat → Int32} {ba : Wn} {bc : List Nat} {k : Nat} (h : zCe M g A AL x adr ga nb bs ro lb ps ac jr bo mo gi tr tp wy wh tc st ds dw bf ba bc) (hI : Imem nb bs) (h6 : I60 nb bs) (hca : ∀ i, i < 5 → wcod (ac i)) (hj : jr.length < 4096) (b : Int32) (v : Int64) (how : Int32) (hD : ∀ n, n < nb → (bs n).1.1 ≠ 5 → isml v → v ≤ wsum (bs n).2.1.2.2.2 → Dok bs nb (dlst bs n v)) (hb : zBu M g k) : zev (zf_X11_drainVessel M (some x) b v how) (fun y => ∃ g' A' AL', zCs y.1 g' A' AL' x adr ga (sDrain b v how (nb, bs, ro, lb, ps, ac, jr, bo, mo, gi, tr, tp, wy, wh, tc, st, ds, dw, bf, ba, bc)).2 ∧ y.2 = (sDrain b v how (nb, bs, ro, lb, ps, ac, jr, bo, mo, gi, tr, tp, wy, wh, tc, st, ds, dw, bf, ba, bc)).1 ∧ zFo M g y.1 g' Tc ∧ zBu y.1 g' k) := by
  unfold sDrain
  dsimp only
  have hN := h.N
  simp only [zf_X11_drainVessel, zf_X11_drainVessel_J19]
  by_cases h1 : how < 1
  · simp only [if_pos h1, zev_b1, zev_bd, zev_some, zev_gi, zev_gj, zev_gr, zev_pi, zev_pz, zev_pj, zev_pr, zev_rc, zev_cc, zev_b0, zev_bo, true_and, and_true]
    exact ⟨g, A, AL, h, zFo.rf, hb⟩
  by_cases h2 : 2 < how
  · simp only [if_neg h1, if_pos h2, zev_b1, zev_bd, zev_some, zev_gi, zev_gj, zev_gr, zev_pi, zev_pz, zev_pj, zev_pr, zev_rc, zev_cc, zev_b0, zev_bo, true_and, and_true]
    exact ⟨g, A, AL, h, zFo.rf, hb⟩
  simp only [if_neg h1, if_neg h2, zev_b1, zev_bd, zev_some, zev_gi, zev_gj, zev_gr, zev_pi, zev_pz, zev_pj, zev_pr, zev_rc, zev_cc, zev_b0, zev_bo, true_and, and_true]
  rcases z_ml (M := M) v with ⟨c1, e⟩ | ⟨c1, e⟩
  · simp only [zev_eq e, if_pos c1, if_neg z10, zev_b1, zev_bd, zev_some, zev_gi, zev_gj, zev_gr, zev_pi, zev_pz, zev_pj, zev_pr, zev_rc, zev_cc, zev_b0, zev_bo, true_and, and_true, h.O, zev_eq (zCe_lkf h b)]
    by_cases h3 : lkf nb bs b = 0
    · obtain ⟨n, hn, rfl, kn, pn⟩ := lkf_0 h.N h3
      obtain ⟨w1, w2⟩ := (h.bs hn).wa
      simp only [if_pos h3, nI_clamp (show n < 2 ^ 31 by omega), zev_b1, zev_bd, zev_some, zev_gi, zev_gj, zev_gr, zev_pi, zev_pz, zev_pj, zev_pr, zev_rc, zev_cc, zev_b0, zev_bo, true_and, and_true, h.O, h.r (show 0 < 14 by decide), h.bl.O, zev_eq (zCe_get h hn), (h.bs hn).O, w1, w2.O, w2.tot]
      by_cases h4 : wsum (bs n).2.1.2.2.2 = 0
      · simp only [if_pos h4, zev_b1, zev_bd, zev_some, zev_gi, zev_gj, zev_gr, zev_pi, zev_pz, zev_pj, zev_pr, zev_rc, zev_cc, zev_b0, zev_bo, true_and, and_true]
        exact ⟨g, A, AL, h, zFo.rf, hb⟩
      by_cases h5 : v ≤ wsum (bs n).2.1.2.2.2
      · have key : ∀ (hw : Nat) (hi : Int32) (cd : Int64), hi = nI hw → hw < 5 → (if how = 1 then (7 : Int64) else 8) = cd → zev (zf_X11_drainVessel_J102 M (some x) (nI n) v how (some (A n)) hi v (some (A n)) (some x)) (fun y => ∃ g' A' AL', zCs y.1 g' A' AL' x adr ga (sJ (cd, (nI n).toInt64, -1, v) (sOff n v hw (nb, bs, ro, lb, ps, ac, jr, bo, mo, gi, tr, tp, wy, wh, tc, st, ds, dw, bf, ba, bc))) ∧ y.2 = wsum (cW n (sOff n v hw (nb, bs, ro, lb, ps, ac, jr, bo, mo, gi, tr, tp, wy, wh, tc, st, ds, dw, bf, ba, bc))) ∧ zFo M g y.1 g' Tc ∧ zBu y.1 g' k) := by
          intro hw hi cd ehi hw5 ecd
          have j124 : ∀ M1 (g1 : Zg), zCs M1 g1 A AL x adr ga (sOff n v hw (nb, bs, ro, lb, ps, ac, jr, bo, mo, gi, tr, tp, wy, wh, tc, st, ds, dw, bf, ba, bc)) → zFo M g M1 g1 Tc → zBu M1 g1 k → zev (zf_X11_drainVessel_J124 M1 (nI n) v (some (A n)) cd (some (adr 8))) (fun y => ∃ g' A' AL', zCs y.1 g' A' AL' x adr ga (sJ (cd, (nI n).toInt64, -1, v) (sOff n v hw (nb, bs, ro, lb, ps, ac, jr, bo, mo, gi, tr, tp, wy, wh, tc, st, ds, dw, bf, ba, bc))) ∧ y.2 = wsum (cW n (sOff n v hw (nb, bs, ro, lb, ps, ac, jr, bo, mo, gi, tr, tp, wy, wh, tc, st, ds, dw, bf, ba, bc))) ∧ zFo M g y.1 g' Tc ∧ zBu y.1 g' k) := by
            intro M1 g1 h6' f6 b6
            simp only [zCs, sOff] at h6'
            simp only [zf_X11_drainVessel_J124, zev_b1, zev_bd, zev_some, zev_gi, zev_gj, zev_gr, zev_pi, zev_pz, zev_pj, zev_pr, zev_rc, zev_cc, zev_b0, zev_bo, true_and, and_true, h6'.jr.O]
            refine zev_mono (zCe_jadd h6' cd (nI n).toInt64 (-1) v hj b6) ?_
            rintro ⟨M2, u1⟩ hh
            dsimp only at hh ⊢
            obtain ⟨g2, h7, f7, b7⟩ := hh
            obtain ⟨y1, y2⟩ := (h7.bs hn).wa
            simp only [(h7.bs hn).O, y1, zev_b1, zev_bd, zev_some, zev_gi, zev_gj, zev_gr, zev_pi, zev_pz, zev_pj, zev_pr, zev_rc, zev_cc, zev_b0, zev_bo, true_and, and_true, y2.O, y2.tot]
            exact ⟨g2, A, AL, h7, rfl, f6.tr f7, b7⟩
          simp only [zf_X11_drainVessel_J102, zev_b1, zev_bd, zev_some, zev_gi, zev_gj, zev_gr, zev_pi, zev_pz, zev_pj, zev_pr, zev_rc, zev_cc, zev_b0, zev_bo, true_and, and_true, h.O]
          refine zev_mono (C_off h hI h6 hn v ehi hw5 (hD n hn kn c1 h5) (hca hw hw5) hb) ?_
          rintro ⟨M1, u0⟩ hh
          dsimp only at hh ⊢
          obtain ⟨g1, h6', f6, b6⟩ := hh
          have h6c := h6'
          simp only [zCs, sOff] at h6c
          simp only [h6c.O, h6c.r (show 8 < 14 by decide), zev_b1, zev_bd, zev_some, zev_gi, zev_gj, zev_gr, zev_pi, zev_pz, zev_pj, zev_pr, zev_rc, zev_cc, zev_b0, zev_bo, true_and, and_true]
          by_cases e1 : how = 1
          · rw [if_pos e1] at ecd ⊢
            rw [ecd]
            exact j124 M1 g1 h6' f6 b6
          · rw [if_neg e1] at ecd ⊢
            rw [ecd]
            exact j124 M1 g1 h6' f6 b6
        simp only [if_neg h4, if_pos h5, zev_b1, zev_bd, zev_some, zev_gi, zev_gj, zev_gr, zev_pi, zev_pz, zev_pj, zev_pr, zev_rc, zev_cc, zev_b0, zev_bo, true_and, and_true, (h.bs hn).O, w1, w2.O, w2.tot]
        by_cases e1 : how = 1
        · simp only [if_pos e1]
          exact key 2 2 7 rfl (by decide) (by rw [if_pos e1])
        · simp only [if_neg e1]
          exact key 3 3 8 rfl (by decide) (by rw [if_neg e1])
      · simp only [if_neg h4, if_neg h5, zev_b1, zev_bd, zev_some, zev_gi, zev_gj, zev_gr, zev_pi, zev_pz, zev_pj, zev_pr, zev_rc, zev_cc, zev_b0, zev_bo, true_and, and_true, (h.bs hn).O, w1, w2.O, w2.tot]
        exact ⟨g, A, AL, h, zFo.rf, hb⟩
    · simp only [if_neg h3, zev_b1, zev_bd, zev_some, zev_gi, zev_gj, zev_gr, zev_pi, zev_pz, zev_pj, zev_pr, zev_rc, zev_cc, zev_b0, zev_bo, true_and, and_true]
      exact ⟨g, A, AL, h, zFo.rf, hb⟩
  · simp only [zev_eq e, if_neg c1, if_true, zev_b1, zev_bd, zev_some, zev_gi, zev_gj, zev_gr, zev_pi, zev_pz, zev_pj, zev_pr, zev_rc, zev_cc, zev_b0, zev_bo, true_and, and_true]
    exact ⟨g, A, AL, h, zFo.rf, hb⟩
def sWash (b : Int32) (c : Cs) : Int64 × Cs := match c with
  | (nb, bs, ro, lb, ps, ac, jr, bo, mo, gi, tr, tp, wy, wh, tc, st, ds, dw, bf, ba, bc) => if lkf nb bs b = 0 then (wsum (bs b.toNatClampNeg).2.1.2.2.2, sJ (9, b.toInt64, -1, wsum (bs b.toNatClampNeg).2.1.2.2.2) (sOff b.toNatClampNeg (wsum (bs b.toNatClampNeg).2.1.2.2.2) 3 (nb, bs, ro, lb, ps, ac, jr, bo, mo, gi, tr, tp, wy, wh, tc, st, ds, dw, bf, ba, bc))) else ((-(lkf nb bs b)).toInt64, (nb, bs, ro, lb, ps, ac, jr, bo, mo, gi, tr, tp, wy, wh, tc, st, ds, dw, bf, ba, bc))
theorem C_wash {M : Zm} {g : Zg} {A AL : Nat → Nat} {x : Nat} {adr : Nat → Nat} {ga nb : Nat} {bs : Nat → Bv} {ro : Nat → Rw} {lb : List Lb} {ps : List (Nat × Int64)} {ac : Nat → Wn} {jr bo : List Ln} {mo : Int32} {gi : Int64} {tr tp wy wh : Int32} {tc : List Int32} {st : List Int64} {ds : List (Nat × Int64)} {dw : Wn} {bf : Nat → Int32} {ba : Wn} {bc : List Nat} {k : Nat} (h : zCe M g A AL x adr ga nb bs ro lb ps ac jr bo mo gi tr tp wy wh tc st ds dw bf ba bc) (hI : Imem nb bs) (h6 : I60 nb bs) (hca : ∀ i, i < 5 → wcod (ac i)) (hj : jr.length < 4096) (b : Int32) (hD : ∀ n, n < nb → (bs n).1.1 ≠ 5 → Dok bs nb (dlst bs n (wsum (bs n).2.1.2.2.2))) (hb : zBu M g k) : zev (zf_X11_washVessel M (some x) b) (fun y => ∃ g' A' AL', zCs y.1 g' A' AL' x adr ga (sWash b (nb, bs, ro, lb, ps, ac, jr, bo, mo, gi, tr, tp, wy, wh, tc, st, ds, dw, bf, ba, bc)).2 ∧ y.2 = (sWash b (nb, bs, ro, lb, ps, ac, jr, bo, mo, gi, tr, tp, wy, wh, tc, st, ds, dw, bf, ba, bc)).1 ∧ zFo M g y.1 g' Tc ∧ zBu y.1 g' k) := by
  unfold sWash
  dsimp only
  have hN := h.N
  simp only [zf_X11_washVessel, zev_b1, zev_bd, zev_some, zev_gi, zev_gj, zev_gr, zev_pi, zev_pz, zev_pj, zev_pr, zev_rc, zev_cc, zev_b0, zev_bo, true_and, and_true, h.O, zev_eq (zCe_lkf h b)]
  by_cases h3 : lkf nb bs b = 0
  · obtain ⟨n, hn, rfl, kn, pn⟩ := lkf_0 h.N h3
    obtain ⟨w1, w2⟩ := (h.bs hn).wa
    simp only [if_pos h3, nI_clamp (show n < 2 ^ 31 by omega), zev_b1, zev_bd, zev_some, zev_gi, zev_gj, zev_gr, zev_pi, zev_pz, zev_pj, zev_pr, zev_rc, zev_cc, zev_b0, zev_bo, true_and, and_true, h.O, h.r (show 0 < 14 by decide), h.bl.O, zev_eq (zCe_get h hn), (h.bs hn).O, w1, w2.O, w2.tot]
    refine zev_mono (C_off (hw := 3) h hI h6 hn _ rfl (by decide) (hD n hn kn) (hca 3 (by decide)) hb) ?_
    rintro ⟨M1, u0⟩ hh
    dsimp only at hh ⊢
    obtain ⟨g1, h6', f6, b6⟩ := hh
    simp only [zCs, sOff] at h6'
    simp only [h6'.O, h6'.r (show 8 < 14 by decide), zev_b1, zev_bd, zev_some, zev_gi, zev_gj, zev_gr, zev_pi, zev_pz, zev_pj, zev_pr, zev_rc, zev_cc, zev_b0, zev_bo, true_and, and_true, h6'.jr.O]
    refine zev_mono (zCe_jadd h6' 9 (nI n).toInt64 (-1) _ hj b6) ?_
    rintro ⟨M2, u1⟩ hh
    dsimp only at hh ⊢
    obtain ⟨g2, h7, f7, b7⟩ := hh
    exact ⟨g2, A, AL, h7, f6.tr f7, b7⟩
  · simp only [if_neg h3, zev_b1, zev_bd, zev_some, zev_gi, zev_gj, zev_gr, zev_pi, zev_pz, zev_pj, zev_pr, zev_rc, zev_cc, zev_b0, zev_bo, true_and, and_true]
    exact ⟨g, A, AL, h, zFo.rf, hb⟩
theorem i64_0 {n : Int32} (h : n ≠ 0) : n.toInt64 ≠ 0 := fun e => h (Int32.toInt_inj.mp (by rw [← Int32.toInt_toInt64, e]; rfl))
/-- a bottling is written down -/
def sBot (b n : Int32) (each : Int64) (c : Cs) : Cs := match c with
  | (nb, bs, ro, lb, ps, ac, jr, bo, mo, gi, tr, tp, wy, wh, tc, st, ds, dw, bf, ba, bc) => (nb, bs, ro, lb, ps, ac, jr ++ [(6, b.toInt64, -1, each * n.toInt64)], bo ++ [(gi + 1, b.toInt64, n.toInt64, each)], mo, gi + 1, tr, tp, wy, wh, tc, st, ds, dw, bf, ba, bc)
def sBottle (b n : Int32) (all : Int64) (c : Cs) : Int64 × Cs := match c with
  | (nb, bs, ro, lb, ps, ac, jr, bo, mo, gi, tr, tp, wy, wh, tc, st, ds, dw, bf, ba, bc) => if n < 0 then (-1, (nb, bs, ro, lb, ps, ac, jr, bo, mo, gi, tr, tp, wy, wh, tc, st, ds, dw, bf, ba, bc)) else if 1000000 < n then (-1, (nb, bs, ro, lb, ps, ac, jr, bo, mo, gi, tr, tp, wy, wh, tc, st, ds, dw, bf, ba, bc)) else if isml all then (if lk nb b = 0 then (if (bs b.toNatClampNeg).2.1.2.1 < 10000 then (if all ≤ bspa bs (bs b.toNatClampNeg) then (if n = 0 then (-5, (nb, bs, ro, lb, ps, ac, jr, bo, mo, gi, tr, tp, wy, wh, tapp 200 tc (bspaT bs (bs b.toNatClampNeg)), st, ds, dw, bf, ba, bc)) else if all / n.toInt64 = 0 then (-10, (nb, bs, ro, lb, ps, ac, jr, bo, mo, gi, tr, tp, wy, wh, tapp 200 tc (bspaT bs (bs b.toNatClampNeg)), st, ds, dw, bf, ba, bc)) else (gi + 1, sBot b n (all / n.toInt64) (sOff b.toNatClampNeg (all / n.toInt64 * n.toInt64) 4 (nb, bs, ro, lb, ps, ac, jr, bo, mo, gi, tr, tp, wy, wh, tapp 200 tc (bspaT bs (bs b.toNatClampNeg)), st, ds, dw, bf, ba, bc)))) else (-10, (nb, bs, ro, lb, ps, ac, jr, bo, mo, gi, tr, tp, wy, wh, tapp 200 tc (bspaT bs (bs b.toNatClampNeg)), st, ds, dw, bf, ba, bc))) else (-9, (nb, bs, ro, lb, ps, ac, jr, bo, mo, gi, tr, tp, wy, wh, tc, st, ds, dw, bf, ba, bc))) else ((-(lk nb b)).toInt64, (nb, bs, ro, lb, ps, ac, jr, bo, mo, gi, tr, tp, wy, wh, tc, st, ds, dw, bf, ba, bc))) else (-1, (nb, bs, ro, lb, ps, ac, jr, bo, mo, gi, tr, tp, wy, wh, tc, st, ds, dw, bf, ba, bc))
theorem zCe_gi {M : Zm} {g : Zg} {A AL : Nat → Nat} {x : Nat} {adr : Nat → Nat} {ga nb : Nat} {bs : Nat → Bv} {ro : Nat → Rw} {lb : List Lb} {ps : List (Nat × Int64)} {ac : Nat → Wn} {jr bo : List Ln} {mo : Int32} {gi : Int64} {tr tp wy wh : Int32} {tc : List Int32} {st : List Int64} {ds : List (Nat × Int64)} {dw : Wn} {bf : Nat → Int32} {ba : Wn} {bc : List Nat} (h : zCe M g A AL x adr ga nb bs ro lb ps ac jr bo mo gi tr tp wy wh tc st ds dw bf ba bc) (v : Int64) : zCe (zm_pj M x 15 v) g A AL x adr ga nb bs ro lb ps ac jr bo mo v tr tp wy wh tc st ds dw bf ba bc ∧ zFo M g (zm_pj M x 15 v) g (fun z => z = 2) := by
  obtain ⟨cN, cO, cB, cBs, cRw, cLl, cLs, cPk, cJu, cPp, cAc, cBl, cJr, cBo, cDr, cBe, cT1, cT2⟩ := h
  obtain ⟨h1, h2, h3, h4, h5, h6, h7, h8, h9⟩ := cO
  have f : zFo M g (zm_pj M x 15 v) g (fun z => z = 2) := zFo.pj h2
  have O1 : zCo (zm_pj M x 15 v) g x adr mo v tr tp wy wh := ⟨h1, h2, h3, h4, by rw [ypj_j, if_pos ⟨rfl, rfl⟩], h6, h7, h8, h9⟩
  exact ⟨⟨cN, O1, cB.fr f (by first | omega | (dsimp only; omega)), cBs.fr f (fun b hb => ⟨(by first | omega | (dsimp only; omega)), (by first | omega | (dsimp only; omega)), (by first | omega | (dsimp only; omega))⟩), cRw.fr f (by first | omega | (dsimp only; omega)) (fun r hr => (by first | omega | (dsimp only; omega))), cLl.fr f (by first | omega | (dsimp only; omega)), cLs.fr f (fun i hi => (by first | omega | (dsimp only; omega))), cPk.fr f (by first | omega | (dsimp only; omega)), cJu.fr f (by first | omega | (dsimp only; omega)), cPp.fr f (by first | omega | (dsimp only; omega)) (by first | omega | (dsimp only; omega)), cAc.fr f (by first | omega | (dsimp only; omega)) (fun h hh => (by first | omega | (dsimp only; omega))), cBl.fr f (by first | omega | (dsimp only; omega)), cJr.fr f (by first | omega | (dsimp only; omega)), cBo.fr f (by first | omega | (dsimp only; omega)), cDr.fr f (by first | omega | (dsimp only; omega)) (by first | omega | (dsimp only; omega)), cBe.fr f (by first | omega | (dsimp only; omega)) (by first | omega | (dsimp only; omega)) (by first | omega | (dsimp only; omega)), cT1.fr f (by first | omega | (dsimp only; omega)), cT2.fr f (by first | omega | (dsimp only; omega))⟩, f⟩
theorem C_bottle {M : Zm} {g : Zg} {A AL : Nat → Nat} {x : Nat} {adr : Nat → Nat} {ga nb : Nat} {bs : Nat → Bv} {ro : Nat → Rw} {lb : List Lb} {ps : List (Nat × Int64)} {ac : Nat → Wn} {jr bo : List Ln} {mo : Int32} {gi : Int64} {tr tp wy wh : Int32} {tc : List Int32} {st : List Int64} {ds : List (Nat × Int64)} {dw : Wn} {bf : Nat → Int32} {ba : Wn} {bc : List Nat} {k : Nat} (h : zCe M g A AL x adr ga nb bs ro lb ps ac jr bo mo gi tr tp wy wh tc st ds dw bf ba bc) (hI : Imem nb bs) (h6 : I60 nb bs) (hca : ∀ i, i < 5 → wcod (ac i)) (hj : jr.length < 4096) (hbo : bo.length < 1024) (b n0 : Int32) (all : Int64) (hD : ∀ n, n < nb → isml all → all ≤ bspa bs (bs n) → ¬ n0 < 0 → n0 ≠ 0 → ¬ 1000000 < n0 → all / n0.toInt64 ≠ 0 → Dok bs nb (dlst bs n (all / n0.toInt64 * n0.toInt64))) (hb : zBu M g k) : zev (zf_X11_fillBottles M (some x) b n0 all) (fun y => ∃ g' A' AL', zCs y.1 g' A' AL' x adr ga (sBottle b n0 all (nb, bs, ro, lb, ps, ac, jr, bo, mo, gi, tr, tp, wy, wh, tc, st, ds, dw, bf, ba, bc)).2 ∧ y.2 = (sBottle b n0 all (nb, bs, ro, lb, ps, ac, jr, bo, mo, gi, tr, tp, wy, wh, tc, st, ds, dw, bf, ba, bc)).1 ∧ zFo M g y.1 g' Tc ∧ zBu y.1 g' k) := by
  unfold sBottle
  dsimp only
  have hN := h.N
  simp only [zf_X11_fillBottles, zf_X11_fillBottles_J18]
  by_cases h1 : n0 < 0
  · simp only [if_pos h1, zev_b1, zev_bd, zev_some, zev_gi, zev_gj, zev_gr, zev_pi, zev_pz, zev_pj, zev_pr, zev_rc, zev_cc, zev_b0, zev_bo, true_and, and_true]
    exact ⟨g, A, AL, h, zFo.rf, hb⟩
  by_cases h2 : 1000000 < n0
  · simp only [if_neg h1, if_pos h2, zev_b1, zev_bd, zev_some, zev_gi, zev_gj, zev_gr, zev_pi, zev_pz, zev_pj, zev_pr, zev_rc, zev_cc, zev_b0, zev_bo, true_and, and_true]
    exact ⟨g, A, AL, h, zFo.rf, hb⟩
  simp only [if_neg h1, if_neg h2, zev_b1, zev_bd, zev_some, zev_gi, zev_gj, zev_gr, zev_pi, zev_pz, zev_pj, zev_pr, zev_rc, zev_cc, zev_b0, zev_bo, true_and, and_true]
  rcases z_ml (M := M) all with ⟨c1, e⟩ | ⟨c1, e⟩
  · simp only [zev_eq e, if_pos c1, if_neg z10, zev_b1, zev_bd, zev_some, zev_gi, zev_gj, zev_gr, zev_pi, zev_pz, zev_pj, zev_pr, zev_rc, zev_cc, zev_b0, zev_bo, true_and, and_true, h.O, zev_eq (zCe_lk h b)]
    by_cases h3 : lk nb b = 0
    · obtain ⟨n, hn, rfl⟩ := lk_0 h.N h3
      simp only [if_pos h3, nI_clamp (show n < 2 ^ 31 by omega), zev_b1, zev_bd, zev_some, zev_gi, zev_gj, zev_gr, zev_pi, zev_pz, zev_pj, zev_pr, zev_rc, zev_cc, zev_b0, zev_bo, true_and, and_true, h.O, h.r (show 0 < 14 by decide), h.bl.O, zev_eq (zCe_get h hn), (h.bs hn).O, zev_eq (zBa_inCask (h.bs hn))]
      by_cases h4 : (bs n).2.1.2.1 < 10000
      · simp only [if_pos h4, if_true, zev_b1, zev_bd, zev_some, zev_gi, zev_gj, zev_gr, zev_pi, zev_pz, zev_pj, zev_pr, zev_rc, zev_cc, zev_b0, zev_bo, true_and, and_true, h.O, h.r (show 12 < 14 by decide), (h.bs hn).O]
        refine zev_mono (zCe_spares h hI hn hb) ?_
        rintro ⟨M1, v1⟩ hh
        dsimp only at hh ⊢
        obtain ⟨e1, h5, f5, b5⟩ := hh
        subst e1
        by_cases h7 : all ≤ bspa bs (bs n)
        · by_cases h8 : n0 = 0
          · simp only [if_pos h7, if_pos h8, zev_b1, zev_bd, zev_some, zev_gi, zev_gj, zev_gr, zev_pi, zev_pz, zev_pj, zev_pr, zev_rc, zev_cc, zev_b0, zev_bo, true_and, and_true]
            exact ⟨g, A, AL, h5, f5, b5⟩
          · simp only [if_pos h7, if_neg h8, zev_b1, zev_ld, ne_eq, i64_0 h8, not_false_eq_true, true_and]
            by_cases h9 : all / n0.toInt64 = 0
            · simp only [if_pos h9, zev_b1, zev_bd, zev_some, zev_gi, zev_gj, zev_gr, zev_pi, zev_pz, zev_pj, zev_pr, zev_rc, zev_cc, zev_b0, zev_bo, true_and, and_true]
              exact ⟨g, A, AL, h5, f5, b5⟩
            · simp only [if_neg h9, zev_b1, zev_bd, zev_some, zev_gi, zev_gj, zev_gr, zev_pi, zev_pz, zev_pj, zev_pr, zev_rc, zev_cc, zev_b0, zev_bo, true_and, and_true, h5.O]
              refine zev_mono (C_off (hw := 4) h5 hI h6 hn _ rfl (by decide) (hD n hn c1 h7 h1 h8 h2 h9) (hca 4 (by decide)) b5) ?_
              rintro ⟨M2, u0⟩ hh
              dsimp only at hh ⊢
              obtain ⟨g2, h10, f10, b10⟩ := hh
              simp only [zCs, sOff] at h10
              have e5 := h10.co.2.2.2.2.1
              obtain ⟨h11, f11⟩ := zCe_gi h10 (gi + 1)
              have b11 : zBu (zm_pj M2 x 15 (gi + 1)) g2 k := b10.same rfl rfl
              simp only [h10.O, e5, zev_b1, zev_bd, zev_some, zev_gi, zev_gj, zev_gr, zev_pi, zev_pz, zev_pj, zev_pr, zev_rc, zev_cc, zev_b0, zev_bo, true_and, and_true]
              generalize zm_pj M2 x 15 (gi + 1) = M3 at h11 f11 b11 ⊢
              have e6 := h11.co.2.2.2.2.1
              simp only [h11.O, h11.r (show 9 < 14 by decide), e6, zev_b1, zev_bd, zev_some, zev_gi, zev_gj, zev_gr, zev_pi, zev_pz, zev_pj, zev_pr, zev_rc, zev_cc, zev_b0, zev_bo, true_and, and_true, h11.bo.O]
              refine zev_mono (zCe_badd h11 _ _ _ _ hbo b11) ?_
              rintro ⟨M4, u1⟩ hh
              dsimp only at hh ⊢
              obtain ⟨g4, h12, f12, b12⟩ := hh
              simp only [h12.O, h12.r (show 8 < 14 by decide), zev_b1, zev_bd, zev_some, zev_gi, zev_gj, zev_gr, zev_pi, zev_pz, zev_pj, zev_pr, zev_rc, zev_cc, zev_b0, zev_bo, true_and, and_true, h12.jr.O]
              refine zev_mono (zCe_jadd h12 _ _ _ _ hj b12) ?_
              rintro ⟨M5, u2⟩ hh
              dsimp only at hh ⊢
              obtain ⟨g5, h13, f13, b13⟩ := hh
              have e7 := h13.co.2.2.2.2.1
              refine ⟨h13.O, g5, A, AL, h13, e7, (((f5.tr f10).tr (f11.mono (fun z q => show z ≠ 1 ∧ z ≠ 28 ∧ z ≠ 29 by first | omega | (dsimp only at q; omega)))).tr f12).tr f13, b13⟩
        · simp only [if_neg h7, zev_b1, zev_bd, zev_some, zev_gi, zev_gj, zev_gr, zev_pi, zev_pz, zev_pj, zev_pr, zev_rc, zev_cc, zev_b0, zev_bo, true_and, and_true]
          exact ⟨g, A, AL, h5, f5, b5⟩
      · simp only [if_neg h4, if_neg z10, zev_b1, zev_bd, zev_some, zev_gi, zev_gj, zev_gr, zev_pi, zev_pz, zev_pj, zev_pr, zev_rc, zev_cc, zev_b0, zev_bo, true_and, and_true]
        exact ⟨g, A, AL, h, zFo.rf, hb⟩
    · simp only [if_neg h3, zev_b1, zev_bd, zev_some, zev_gi, zev_gj, zev_gr, zev_pi, zev_pz, zev_pj, zev_pr, zev_rc, zev_cc, zev_b0, zev_bo, true_and, and_true]
      exact ⟨g, A, AL, h, zFo.rf, hb⟩
  · simp only [zev_eq e, if_neg c1, if_true, zev_b1, zev_bd, zev_some, zev_gi, zev_gj, zev_gr, zev_pi, zev_pz, zev_pj, zev_pr, zev_rc, zev_cc, zev_b0, zev_bo, true_and, and_true]
    exact ⟨g, A, AL, h, zFo.rf, hb⟩
