/-! Acts: undo. -/
def sres (bs : Nat → Bv) (bc : List Nat) : Nat → Bv := fun c => if c ∈ bc then brest (bs c) else bs c
def sresR (ro : Nat → Rw) (bf : Nat → Int32) : Nat → Rw := if bf 5 = -1 then ro else if bf 6 = -1 then rup ro (bf 5).toNatClampNeg none else rput ro (bf 5) (bf 6) (bf 7)
def sresA (ac : Nat → Wn) (bf : Nat → Int32) (ba : Wn) : Nat → Wn := if bf 8 = -1 then ac else aup ac (bf 8).toNatClampNeg ba
def sUndo (c : Cs) : Int64 × Cs := match c with
  | (nb, bs, ro, lb, ps, ac, jr, bo, mo, gi, tr, tp, wy, wh, tc, st, ds, dw, bf, ba, bc) => if bf 0 = 0 then (-14, (nb, bs, ro, lb, ps, ac, jr, bo, mo, gi, tr, tp, wy, wh, tc, st, ds, dw, bf, ba, bc)) else (1, ((bf 1).toNatClampNeg, sres bs bc, sresR ro bf, lb, [], sresA ac bf ba, jr.take (bf 3).toNatClampNeg, bo.take (bf 4).toNatClampNeg, bf 2, gi, tr, tp, wy, wh, tc, st, ds, dw, fu bf 0 0, ba, bc))
/-- what a snapshot says is so -/
def Uok (nb : Nat) (ro : Nat → Rw) (bf : Nat → Int32) (bc : List Nat) : Prop := (∃ n, n ≤ nb ∧ bf 1 = nI n) ∧ (∃ j, j < 2 ^ 31 ∧ bf 3 = nI j) ∧ (∃ j, j < 2 ^ 31 ∧ bf 4 = nI j) ∧ (bf 5 = -1 ∨ ∃ r, r < 20 ∧ bf 5 = nI r ∧ (bf 6 = -1 ∨ ∃ p kd pl, ro r = some (kd, pl) ∧ p < pl.length ∧ bf 6 = nI p)) ∧ (bf 8 = -1 ∨ ∃ h, h < 5 ∧ bf 8 = nI h) ∧ (∀ c, c ∈ bc → c < nb)
theorem nI_m1lt {n : Nat} (h : n < 2 ^ 31) : nI n + (-1) < nI n := by
  cases n with
  | zero => decide
  | succ n =>
    rw [pk_m1]
    exact nI_lt (by omega) h
theorem nIne {r : Nat} (h : r < 2 ^ 31) : ¬ nI r = -1 := fun e => nI_pos h (by rw [e]; decide)
theorem zCe_cutB {M : Zm} {g : Zg} {A AL : Nat → Nat} {x : Nat} {adr : Nat → Nat} {ga nb : Nat} {bs : Nat → Bv} {ro : Nat → Rw} {lb : List Lb} {ps : List (Nat × Int64)} {ac : Nat → Wn} {jr bo : List Ln} {mo : Int32} {gi : Int64} {tr tp wy wh : Int32} {tc : List Int32} {st : List Int64} {ds : List (Nat × Int64)} {dw : Wn} {bf : Nat → Int32} {ba : Wn} {bc : List Nat} {n0 k : Nat} (h : zCe M g A AL x adr ga nb bs ro lb ps ac jr bo mo gi tr tp wy wh tc st ds dw bf ba bc) (h1 : bf 1 = nI n0) (hn : n0 ≤ nb) (hb : zBu M g k) : zev (zwhile (zf_X11_takeBack_L39 (some x)) (M, nI nb + (-1))) (fun y => zCe y.1 g A AL x adr ga n0 bs ro lb ps ac jr bo mo gi tr tp wy wh tc st ds dw bf ba bc ∧ zFo M g y.1 g Tc ∧ zBu y.1 g k) := by
  have hN := h.N
  refine zev_lp (τ := Zm × Int32) (fun c (z : Zm × Int32) => ∃ M1 n, z = (M1, nI n + (-1)) ∧ n0 ≤ n ∧ n ≤ nb ∧ c = n - n0 ∧ zCe M1 g A AL x adr ga n bs ro lb ps ac jr bo mo gi tr tp wy wh tc st ds dw bf ba bc ∧ zFo M g M1 g Tc ∧ zBu M1 g k) (n := nb - n0) ⟨M, nb, rfl, hn, Nat.le_refl _, rfl, h, zFo.rf, hb⟩ ?_
  rintro c z ⟨M1, n, rfl, hn0, hnb, rfl, h2, f2, b2⟩
  have e1 : zm_i M1 (adr 11) 1 = nI n0 := (h2.be.2.2.1 1 (by decide)).trans h1
  by_cases e : n = n0
  · subst e
    have c1 : nI n + (-1) < nI n := nI_m1lt (by omega)
    simp only [zf_X11_takeBack_L39, zev_b1, zev_bd, zev_some, zev_gi, zev_gj, zev_gr, zev_pi, zev_pz, zev_pj, zev_pr, zev_rc, zev_cc, zev_b0, zev_bo, true_and, and_true, h2.O, h2.r (show 11 < 14 by decide), h2.be.1, e1, if_pos c1]
    exact Or.inr ⟨_, rfl, h2, f2, b2⟩
  · obtain ⟨m, rfl⟩ : ∃ m, n = m + 1 := ⟨n - 1, by omega⟩
    have c1 : ¬ nI (m + 1) + (-1) < nI n0 := by rw [pk_m1]; exact nI_nlt (by omega) (by omega)
    simp only [zf_X11_takeBack_L39, zev_b1, zev_bd, zev_some, zev_gi, zev_gj, zev_gr, zev_pi, zev_pz, zev_pj, zev_pr, zev_rc, zev_cc, zev_b0, zev_bo, true_and, and_true, h2.O, h2.r (show 11 < 14 by decide), h2.r (show 0 < 14 by decide), h2.be.1, e1, if_neg c1, h2.bl.O]
    have hbl := h2.bl
    rw [range_snoc, List.map_append] at hbl
    have hrm := zAl_remove (m := A m) hbl b2
    rw [range_len] at hrm
    rw [pk_m1]
    refine zev_mono hrm ?_
    rintro ⟨M2, u0⟩ hh
    dsimp only at hh ⊢
    obtain ⟨a3, f3, b3⟩ := hh
    refine Or.inl ⟨_, m - n0, rfl, ⟨M2, m, rfl, by omega, by omega, rfl, ?_, f2.tr (f3.mono (fun z q => show z ≠ 1 ∧ z ≠ 28 ∧ z ≠ 29 by first | omega | (dsimp only at q; omega))), b3⟩, by omega⟩
    obtain ⟨cN, cO, cB, cBs, cRw, cLl, cLs, cPk, cJu, cPp, cAc, cBl, cJr, cBo, cDr, cBe, cT1, cT2⟩ := h2
    exact ⟨(by omega), cO.fr f3 (by first | omega | (dsimp only; omega)), a3, fun b hb => (cBs b (by omega)).fr f3 (by first | omega | (dsimp only; omega)) (by first | omega | (dsimp only; omega)) (by first | omega | (dsimp only; omega)), cRw.fr f3 (by first | omega | (dsimp only; omega)) (fun r hr => (by first | omega | (dsimp only; omega))), cLl.fr f3 (by first | omega | (dsimp only; omega)), cLs.fr f3 (fun i hi => (by first | omega | (dsimp only; omega))), cPk.fr f3 (by first | omega | (dsimp only; omega)), cJu.fr f3 (by first | omega | (dsimp only; omega)), cPp.fr f3 (by first | omega | (dsimp only; omega)) (by first | omega | (dsimp only; omega)), cAc.fr f3 (by first | omega | (dsimp only; omega)) (fun h hh => (by first | omega | (dsimp only; omega))), cBl.fr f3 (by first | omega | (dsimp only; omega)), cJr.fr f3 (by first | omega | (dsimp only; omega)), cBo.fr f3 (by first | omega | (dsimp only; omega)), cDr.fr f3 (by first | omega | (dsimp only; omega)) (by first | omega | (dsimp only; omega)), cBe.fr f3 (by first | omega | (dsimp only; omega)) (by first | omega | (dsimp only; omega)) (by first | omega | (dsimp only; omega)), cT1.fr f3 (by first | omega | (dsimp only; omega)), cT2.fr f3 (by first | omega | (dsimp only; omega))⟩
theorem zCe_place {M : Zm} {g : Zg} {A AL : Nat → Nat} {x : Nat} {adr : Nat → Nat} {ga nb : Nat} {bs : Nat → Bv} {ro : Nat → Rw} {lb : List Lb} {ps : List (Nat × Int64)} {ac : Nat → Wn} {jr bo : List Ln} {mo : Int32} {gi : Int64} {tr tp wy wh : Int32} {tc : List Int32} {st : List Int64} {ds : List (Nat × Int64)} {dw : Wn} {bf : Nat → Int32} {ba : Wn} {bc : List Nat} {k : Nat} (h : zCe M g A AL x adr ga nb bs ro lb ps ac jr bo mo gi tr tp wy wh tc st ds dw bf ba bc) (hU : bf 5 = -1 ∨ ∃ r, r < 20 ∧ bf 5 = nI r ∧ (bf 6 = -1 ∨ ∃ p kd pl, ro r = some (kd, pl) ∧ p < pl.length ∧ bf 6 = nI p)) (hb : zBu M g k) : zev (zf_X11_restorePlace M (some x) (bf 5) (bf 6)) (fun y => zCe y.1 g A AL x adr ga nb bs (sresR ro bf) lb ps ac jr bo mo gi tr tp wy wh tc st ds dw bf ba bc ∧ zFo M g y.1 g Tc ∧ zBu y.1 g k) := by
  unfold sresR zf_X11_restorePlace
  by_cases h1 : bf 5 = -1
  · simp only [if_pos h1, zev_some]
    exact ⟨h, zFo.rf, hb⟩
  · obtain ⟨r, hr, e5, hp⟩ := hU.resolve_left h1
    obtain ⟨q1, q2, q3, q4⟩ := h.rs
    simp only [if_neg h1]
    by_cases h2 : bf 6 = -1
    · simp only [if_pos h2, zev_b1, zev_bd, zev_some, zev_gi, zev_gj, zev_gr, zev_pi, zev_pz, zev_pj, zev_pr, zev_rc, zev_cc, zev_b0, zev_bo, true_and, and_true, h.O, h.r (show 1 < 14 by decide), e5, nI_clamp (show r < 2 ^ 31 by omega)]
      refine (zev_sr (v := none) (ck := 8) (show r < 2 ^ 31 by omega) (fun z hz => by cases hz)).mpr ⟨⟨q1, by omega⟩, ?_⟩
      have f : zFo M g (zm_pr M (adr 1) r none) g (fun z => z = 8) := zFo.pr q3
      have r6 : ∀ j, zm_r (zm_pr M (adr 1) r none) (adr 1) j = if j = r then none else zm_r M (adr 1) j := fun j => by
        rw [ypr_r]
        by_cases e : j = r
        · rw [if_pos ⟨rfl, e⟩, if_pos e]
        · rw [if_neg (fun q => e q.2), if_neg e]
      have b6 : zBu (zm_pr M (adr 1) r none) g k := hb.same rfl rfl
      generalize zm_pr M (adr 1) r none = M6 at f r6 b6 ⊢
      refine ⟨?_, f.mono (fun z q => show z ≠ 1 ∧ z ≠ 28 ∧ z ≠ 29 by first | omega | (dsimp only at q; omega)), b6⟩
      obtain ⟨cN, cO, cB, cBs, cRw, cLl, cLs, cPk, cJu, cPp, cAc, cBl, cJr, cBo, cDr, cBe, cT1, cT2⟩ := h
      refine ⟨cN, cO.fr f (by first | omega | (dsimp only; omega)), cB.fr f (by first | omega | (dsimp only; omega)), cBs.fr f (fun b hb => ⟨(by first | omega | (dsimp only; omega)), (by first | omega | (dsimp only; omega)), (by first | omega | (dsimp only; omega))⟩), ⟨f.O q1, (f.A (show zA M (adr 1) 17 20 from ⟨q1, q2⟩)).2, f.own q1.1 q3, fun j hj => ?_⟩, cLl.fr f (by first | omega | (dsimp only; omega)), cLs.fr f (fun i hi => (by first | omega | (dsimp only; omega))), cPk.fr f (by first | omega | (dsimp only; omega)), cJu.fr f (by first | omega | (dsimp only; omega)), cPp.fr f (by first | omega | (dsimp only; omega)) (by first | omega | (dsimp only; omega)), cAc.fr f (by first | omega | (dsimp only; omega)) (fun h hh => (by first | omega | (dsimp only; omega))), cBl.fr f (by first | omega | (dsimp only; omega)), cJr.fr f (by first | omega | (dsimp only; omega)), cBo.fr f (by first | omega | (dsimp only; omega)), cDr.fr f (by first | omega | (dsimp only; omega)) (by first | omega | (dsimp only; omega)), cBe.fr f (by first | omega | (dsimp only; omega)) (by first | omega | (dsimp only; omega)) (by first | omega | (dsimp only; omega)), cT1.fr f (by first | omega | (dsimp only; omega)), cT2.fr f (by first | omega | (dsimp only; omega))⟩
      unfold rup
      rw [r6]
      by_cases e : j = r
      · rw [if_pos e, if_pos e]; exact Or.inl ⟨rfl, rfl⟩
      · rw [if_neg e, if_neg e]
        rcases q4 j hj with q | ⟨w', k', pl', s1, s2, s3, s4⟩
        · exact Or.inl q
        · exact Or.inr ⟨w', k', pl', s1, s2, s3.fr f (by omega), s4⟩
    · obtain ⟨p, kd, pl, hro, hpl, e6⟩ := hp.resolve_left h2
      obtain ⟨w1, w2, w3, w4⟩ := h.row hr hro
      have hl60 := zRo_len w2
      obtain ⟨pb, y1, y2, y3, y4, y5, y6⟩ := zRo_put w2 (bf 7) hpl hb
      have h9 := h.rset w1 y5 y4 rfl hr
      have e7 : zm_i M (adr 11) 7 = bf 7 := h.be.2.2.1 7 (by decide)
      have ep : rput ro (nI r) (nI p) (bf 7) = rup ro r (some (kd, pl.set p (bf 7))) := by unfold rput; rw [nI_clamp (show r < 2 ^ 31 by omega), hro]; dsimp only; rw [nI_clamp (show p < 2 ^ 31 by omega)]
      simp only [if_neg h2]
      simp only [e5, e6, ep, zev_b1, zev_bd, zev_some, zev_gi, zev_gj, zev_gr, zev_pi, zev_pz, zev_pj, zev_pr, zev_rc, zev_cc, zev_b0, zev_bo, true_and, and_true, h.O, h.r (show 1 < 14 by decide), h.r (show 11 < 14 by decide), zev_ar2 (show r < 2 ^ 31 by omega), w3, w4, hr, w1, reduceCtorEq, if_false, w2.1, y1, h.be.1, e7, zev_si2 (show p < 2 ^ 31 by omega), y2, y3, hpl]
      exact ⟨h9, y5.mono (fun z q => show z ≠ 1 ∧ z ≠ 28 ∧ z ≠ 29 by first | omega | (dsimp only at q; omega)), y6⟩
theorem zCe_mo {M : Zm} {g : Zg} {A AL : Nat → Nat} {x : Nat} {adr : Nat → Nat} {ga nb : Nat} {bs : Nat → Bv} {ro : Nat → Rw} {lb : List Lb} {ps : List (Nat × Int64)} {ac : Nat → Wn} {jr bo : List Ln} {mo : Int32} {gi : Int64} {tr tp wy wh : Int32} {tc : List Int32} {st : List Int64} {ds : List (Nat × Int64)} {dw : Wn} {bf : Nat → Int32} {ba : Wn} {bc : List Nat} (h : zCe M g A AL x adr ga nb bs ro lb ps ac jr bo mo gi tr tp wy wh tc st ds dw bf ba bc) (v : Int32) : zCe (zm_pi M x 14 v) g A AL x adr ga nb bs ro lb ps ac jr bo v gi tr tp wy wh tc st ds dw bf ba bc ∧ zFo M g (zm_pi M x 14 v) g (fun z => z = 2) := by
  obtain ⟨cN, cO, cB, cBs, cRw, cLl, cLs, cPk, cJu, cPp, cAc, cBl, cJr, cBo, cDr, cBe, cT1, cT2⟩ := h
  obtain ⟨h1, h2, h3, h4, h5, h6, h7, h8, h9⟩ := cO
  have f : zFo M g (zm_pi M x 14 v) g (fun z => z = 2) := zFo.pi h2
  have O1 : zCo (zm_pi M x 14 v) g x adr v gi tr tp wy wh := by
    refine ⟨h1, h2, h3, ?_, h5, ?_, ?_, ?_, ?_⟩
    · rw [ypi_i, if_pos ⟨rfl, rfl⟩]
    · rw [ypi_i, if_neg (by omega)]; exact h6
    · rw [ypi_i, if_neg (by omega)]; exact h7
    · rw [ypi_i, if_neg (by omega)]; exact h8
    · rw [ypi_i, if_neg (by omega)]; exact h9
  exact ⟨⟨cN, O1, cB.fr f (by first | omega | (dsimp only; omega)), cBs.fr f (fun b hb => ⟨(by first | omega | (dsimp only; omega)), (by first | omega | (dsimp only; omega)), (by first | omega | (dsimp only; omega))⟩), cRw.fr f (by first | omega | (dsimp only; omega)) (fun r hr => (by first | omega | (dsimp only; omega))), cLl.fr f (by first | omega | (dsimp only; omega)), cLs.fr f (fun i hi => (by first | omega | (dsimp only; omega))), cPk.fr f (by first | omega | (dsimp only; omega)), cJu.fr f (by first | omega | (dsimp only; omega)), cPp.fr f (by first | omega | (dsimp only; omega)) (by first | omega | (dsimp only; omega)), cAc.fr f (by first | omega | (dsimp only; omega)) (fun h hh => (by first | omega | (dsimp only; omega))), cBl.fr f (by first | omega | (dsimp only; omega)), cJr.fr f (by first | omega | (dsimp only; omega)), cBo.fr f (by first | omega | (dsimp only; omega)), cDr.fr f (by first | omega | (dsimp only; omega)) (by first | omega | (dsimp only; omega)), cBe.fr f (by first | omega | (dsimp only; omega)) (by first | omega | (dsimp only; omega)) (by first | omega | (dsimp only; omega)), cT1.fr f (by first | omega | (dsimp only; omega)), cT2.fr f (by first | omega | (dsimp only; omega))⟩, f⟩
theorem C_back116 {M : Zm} {g : Zg} {A AL : Nat → Nat} {x : Nat} {adr : Nat → Nat} {ga nb : Nat} {bs : Nat → Bv} {ro : Nat → Rw} {lb : List Lb} {ps : List (Nat × Int64)} {ac : Nat → Wn} {jr bo : List Ln} {mo : Int32} {gi : Int64} {tr tp wy wh : Int32} {tc : List Int32} {st : List Int64} {ds : List (Nat × Int64)} {dw : Wn} {bf : Nat → Int32} {ba : Wn} {bc : List Nat} {j0 j1 k : Nat} (h : zCe M g A AL x adr ga nb bs ro lb ps ac jr bo mo gi tr tp wy wh tc st ds dw bf ba bc) (e3 : bf 3 = nI j0) (e4 : bf 4 = nI j1) (hj0 : j0 < 2 ^ 31) (hj1 : j1 < 2 ^ 31) (hb : zBu M g k) : zev (zf_X11_takeBack_J116 M (some x)) (fun y => zCe y.1 g A AL x adr ga nb bs ro lb [] ac (jr.take j0) (bo.take j1) (bf 2) gi tr tp wy wh tc st ds dw bf ba bc ∧ y.2 = 1 ∧ zFo M g y.1 g Tc ∧ zBu y.1 g k) := by
  have e2 : zm_i M (adr 11) 2 = bf 2 := h.be.2.2.1 2 (by decide)
  obtain ⟨h1, f1⟩ := zCe_mo h (bf 2)
  have b1 : zBu (zm_pi M x 14 (bf 2)) g k := hb.same rfl rfl
  simp only [zf_X11_takeBack_J116, zev_b1, zev_bd, zev_some, zev_gi, zev_gj, zev_gr, zev_pi, zev_pz, zev_pj, zev_pr, zev_rc, zev_cc, zev_b0, zev_bo, true_and, and_true, h.O, h.r (show 11 < 14 by decide), h.be.1, e2]
  generalize zm_pi M x 14 (bf 2) = M1 at h1 f1 b1 ⊢
  have g3 : zm_i M1 (adr 11) 3 = nI j0 := (h1.be.2.2.1 3 (by decide)).trans e3
  simp only [h1.O, h1.r (show 8 < 14 by decide), h1.r (show 11 < 14 by decide), zev_b1, zev_bd, zev_some, zev_gi, zev_gj, zev_gr, zev_pi, zev_pz, zev_pj, zev_pr, zev_rc, zev_cc, zev_b0, zev_bo, true_and, and_true, h1.be.1, g3, h1.jr.O]
  refine zev_mono (zLi_cut h1.jr hj0 b1) ?_
  rintro ⟨M2, u0⟩ hh
  dsimp only at hh ⊢
  obtain ⟨J2, f2, b2⟩ := hh
  have h2 : zCe M2 g A AL x adr ga nb bs ro lb ps ac (jr.take j0) bo (bf 2) gi tr tp wy wh tc st ds dw bf ba bc := by
    obtain ⟨cN, cO, cB, cBs, cRw, cLl, cLs, cPk, cJu, cPp, cAc, cBl, cJr, cBo, cDr, cBe, cT1, cT2⟩ := h1
    exact ⟨cN, cO.fr f2 (by first | omega | (dsimp only; omega)), cB.fr f2 (by first | omega | (dsimp only; omega)), cBs.fr f2 (fun b hb => ⟨(by first | omega | (dsimp only; omega)), (by first | omega | (dsimp only; omega)), (by first | omega | (dsimp only; omega))⟩), cRw.fr f2 (by first | omega | (dsimp only; omega)) (fun r hr => (by first | omega | (dsimp only; omega))), cLl.fr f2 (by first | omega | (dsimp only; omega)), cLs.fr f2 (fun i hi => (by first | omega | (dsimp only; omega))), cPk.fr f2 (by first | omega | (dsimp only; omega)), cJu.fr f2 (by first | omega | (dsimp only; omega)), cPp.fr f2 (by first | omega | (dsimp only; omega)) (by first | omega | (dsimp only; omega)), cAc.fr f2 (by first | omega | (dsimp only; omega)) (fun h hh => (by first | omega | (dsimp only; omega))), cBl.fr f2 (by first | omega | (dsimp only; omega)), J2, cBo.fr f2 (by first | omega | (dsimp only; omega)), cDr.fr f2 (by first | omega | (dsimp only; omega)) (by first | omega | (dsimp only; omega)), cBe.fr f2 (by first | omega | (dsimp only; omega)) (by first | omega | (dsimp only; omega)) (by first | omega | (dsimp only; omega)), cT1.fr f2 (by first | omega | (dsimp only; omega)), cT2.fr f2 (by first | omega | (dsimp only; omega))⟩
  have g4 : zm_i M2 (adr 11) 4 = nI j1 := (h2.be.2.2.1 4 (by decide)).trans e4
  simp only [h2.O, h2.r (show 9 < 14 by decide), h2.r (show 11 < 14 by decide), zev_b1, zev_bd, zev_some, zev_gi, zev_gj, zev_gr, zev_pi, zev_pz, zev_pj, zev_pr, zev_rc, zev_cc, zev_b0, zev_bo, true_and, and_true, h2.be.1, g4, h2.bo.O]
  refine zev_mono (zLi_cut h2.bo hj1 b2) ?_
  rintro ⟨M3, u1⟩ hh
  dsimp only at hh ⊢
  obtain ⟨J3, f3, b3⟩ := hh
  have h3 : zCe M3 g A AL x adr ga nb bs ro lb ps ac (jr.take j0) (bo.take j1) (bf 2) gi tr tp wy wh tc st ds dw bf ba bc := by
    obtain ⟨cN, cO, cB, cBs, cRw, cLl, cLs, cPk, cJu, cPp, cAc, cBl, cJr, cBo, cDr, cBe, cT1, cT2⟩ := h2
    exact ⟨cN, cO.fr f3 (by first | omega | (dsimp only; omega)), cB.fr f3 (by first | omega | (dsimp only; omega)), cBs.fr f3 (fun b hb => ⟨(by first | omega | (dsimp only; omega)), (by first | omega | (dsimp only; omega)), (by first | omega | (dsimp only; omega))⟩), cRw.fr f3 (by first | omega | (dsimp only; omega)) (fun r hr => (by first | omega | (dsimp only; omega))), cLl.fr f3 (by first | omega | (dsimp only; omega)), cLs.fr f3 (fun i hi => (by first | omega | (dsimp only; omega))), cPk.fr f3 (by first | omega | (dsimp only; omega)), cJu.fr f3 (by first | omega | (dsimp only; omega)), cPp.fr f3 (by first | omega | (dsimp only; omega)) (by first | omega | (dsimp only; omega)), cAc.fr f3 (by first | omega | (dsimp only; omega)) (fun h hh => (by first | omega | (dsimp only; omega))), cBl.fr f3 (by first | omega | (dsimp only; omega)), cJr.fr f3 (by first | omega | (dsimp only; omega)), J3, cDr.fr f3 (by first | omega | (dsimp only; omega)) (by first | omega | (dsimp only; omega)), cBe.fr f3 (by first | omega | (dsimp only; omega)) (by first | omega | (dsimp only; omega)) (by first | omega | (dsimp only; omega)), cT1.fr f3 (by first | omega | (dsimp only; omega)), cT2.fr f3 (by first | omega | (dsimp only; omega))⟩
  simp only [h3.O, h3.r (show 3 < 14 by decide), zev_b1, zev_bd, zev_some, zev_gi, zev_gj, zev_gr, zev_pi, zev_pz, zev_pj, zev_pr, zev_rc, zev_cc, zev_b0, zev_bo, true_and, and_true, h3.pk.O]
  refine zev_mono (zCe_pclear h3 b3) ?_
  rintro ⟨M4, u2⟩ hh
  dsimp only at hh ⊢
  obtain ⟨h4, f4, b4⟩ := hh
  exact ⟨h4, (((f1.mono (fun z q => show z ≠ 1 ∧ z ≠ 28 ∧ z ≠ 29 by first | omega | (dsimp only at q; omega))).tr (f2.mono (fun z q => show z ≠ 1 ∧ z ≠ 28 ∧ z ≠ 29 by first | omega | (dsimp only at q; omega)))).tr (f3.mono (fun z q => show z ≠ 1 ∧ z ≠ 28 ∧ z ≠ 29 by first | omega | (dsimp only at q; omega)))).tr f4, b4⟩
theorem C_undo {M : Zm} {g : Zg} {A AL : Nat → Nat} {x : Nat} {adr : Nat → Nat} {ga nb : Nat} {bs : Nat → Bv} {ro : Nat → Rw} {lb : List Lb} {ps : List (Nat × Int64)} {ac : Nat → Wn} {jr bo : List Ln} {mo : Int32} {gi : Int64} {tr tp wy wh : Int32} {tc : List Int32} {st : List Int64} {ds : List (Nat × Int64)} {dw : Wn} {bf : Nat → Int32} {ba : Wn} {bc : List Nat} {k : Nat} (h : zCe M g A AL x adr ga nb bs ro lb ps ac jr bo mo gi tr tp wy wh tc st ds dw bf ba bc) (hU : bf 0 ≠ 0 → Uok nb ro bf bc) (hb : zBu M g k) : zev (zf_X11_takeBack M (some x)) (fun y => ∃ g' A' AL', zCs y.1 g' A' AL' x adr ga (sUndo (nb, bs, ro, lb, ps, ac, jr, bo, mo, gi, tr, tp, wy, wh, tc, st, ds, dw, bf, ba, bc)).2 ∧ y.2 = (sUndo (nb, bs, ro, lb, ps, ac, jr, bo, mo, gi, tr, tp, wy, wh, tc, st, ds, dw, bf, ba, bc)).1 ∧ zFo M g y.1 g' Tc ∧ zBu y.1 g' k) := by
  unfold sUndo
  dsimp only
  have hN := h.N
  have e0 : zm_i M (adr 11) 0 = bf 0 := h.be.2.2.1 0 (by decide)
  simp only [zf_X11_takeBack, zev_b1, zev_bd, zev_some, zev_gi, zev_gj, zev_gr, zev_pi, zev_pz, zev_pj, zev_pr, zev_rc, zev_cc, zev_b0, zev_bo, true_and, and_true, h.O, h.r (show 11 < 14 by decide), h.be.1, e0]
  by_cases h0 : bf 0 = 0
  · simp only [if_pos h0, zev_b1, zev_bd, zev_some, zev_gi, zev_gj, zev_gr, zev_pi, zev_pz, zev_pj, zev_pr, zev_rc, zev_cc, zev_b0, zev_bo, true_and, and_true]
    exact ⟨g, A, AL, h, zFo.rf, hb⟩
  · obtain ⟨⟨n0, hn0, e1⟩, ⟨j0, hj0, e3⟩, ⟨j1, hj1, e4⟩, hp, ha, hch⟩ := hU h0
    have f1 : zFo M g (zm_pi M (adr 11) 0 0) g (fun z => z = 11) := zFo.pi h.be.2.1
    have h1 : zCe (zm_pi M (adr 11) 0 0) g A AL x adr ga nb bs ro lb ps ac jr bo mo gi tr tp wy wh tc st ds dw (fu bf 0 0) ba bc := by
      have hbe := h.be
      obtain ⟨s1, s2, s3, wa, ca, r1, r2, r3, r4⟩ := hbe
      have E1 : zBe (zm_pi M (adr 11) 0 0) g A (adr 11) (fu bf 0 0) ba bc := ⟨s1, s2, fun i hi => by simp only [ypi_i, true_and, fu, s3 i hi], wa, ca, r1, r2, r3.fr f1 (by decide), r4.fr f1 (by decide)⟩
      obtain ⟨cN, cO, cB, cBs, cRw, cLl, cLs, cPk, cJu, cPp, cAc, cBl, cJr, cBo, cDr, cBe, cT1, cT2⟩ := h
      exact ⟨cN, cO.fr f1 (by first | omega | (dsimp only; omega)), cB.fr f1 (by first | omega | (dsimp only; omega)), cBs.fr f1 (fun b hb => ⟨(by first | omega | (dsimp only; omega)), (by first | omega | (dsimp only; omega)), (by first | omega | (dsimp only; omega))⟩), cRw.fr f1 (by first | omega | (dsimp only; omega)) (fun r hr => (by first | omega | (dsimp only; omega))), cLl.fr f1 (by first | omega | (dsimp only; omega)), cLs.fr f1 (fun i hi => (by first | omega | (dsimp only; omega))), cPk.fr f1 (by first | omega | (dsimp only; omega)), cJu.fr f1 (by first | omega | (dsimp only; omega)), cPp.fr f1 (by first | omega | (dsimp only; omega)) (by first | omega | (dsimp only; omega)), cAc.fr f1 (by first | omega | (dsimp only; omega)) (fun h hh => (by first | omega | (dsimp only; omega))), cBl.fr f1 (by first | omega | (dsimp only; omega)), cJr.fr f1 (by first | omega | (dsimp only; omega)), cBo.fr f1 (by first | omega | (dsimp only; omega)), cDr.fr f1 (by first | omega | (dsimp only; omega)) (by first | omega | (dsimp only; omega)), E1, cT1.fr f1 (by first | omega | (dsimp only; omega)), cT2.fr f1 (by first | omega | (dsimp only; omega))⟩
    have b1 : zBu (zm_pi M (adr 11) 0 0) g k := hb.same rfl rfl
    simp only [if_neg h0, zev_b1, zev_bd, zev_some, zev_gi, zev_gj, zev_gr, zev_pi, zev_pz, zev_pj, zev_pr, zev_rc, zev_cc, zev_b0, zev_bo, true_and, and_true, h.O, h.r (show 11 < 14 by decide), h.be.1]
    refine ⟨Or.inl trivial, ?_⟩
    generalize zm_pi M (adr 11) 0 0 = M1 at f1 h1 b1 ⊢
    simp only [h1.O, h1.r (show 11 < 14 by decide), zev_b1, zev_bd, zev_some, zev_gi, zev_gj, zev_gr, zev_pi, zev_pz, zev_pj, zev_pr, zev_rc, zev_cc, zev_b0, zev_bo, true_and, and_true, h1.be.1]
    refine zev_mono (zBe_restore h1.be (fun c hc => h1.bs hc) hch h.N b1) ?_
    rintro ⟨M2, u0⟩ hh
    dsimp only at hh ⊢
    obtain ⟨g2, E2, B2, f2, b2⟩ := hh
    have h2 : zCe M2 g2 A AL x adr ga nb (sres bs bc) ro lb ps ac jr bo mo gi tr tp wy wh tc st ds dw (fu bf 0 0) ba bc := by
      obtain ⟨cN, cO, cB, cBs, cRw, cLl, cLs, cPk, cJu, cPp, cAc, cBl, cJr, cBo, cDr, cBe, cT1, cT2⟩ := h1
      exact ⟨cN, cO.fr f2 (by first | omega | (dsimp only; omega)), cB.fr f2 (by first | omega | (dsimp only; omega)), B2, cRw.fr f2 (by first | omega | (dsimp only; omega)) (fun r hr => (by first | omega | (dsimp only; omega))), cLl.fr f2 (by first | omega | (dsimp only; omega)), cLs.fr f2 (fun i hi => (by first | omega | (dsimp only; omega))), cPk.fr f2 (by first | omega | (dsimp only; omega)), cJu.fr f2 (by first | omega | (dsimp only; omega)), cPp.fr f2 (by first | omega | (dsimp only; omega)) (by first | omega | (dsimp only; omega)), cAc.fr f2 (by first | omega | (dsimp only; omega)) (fun h hh => (by first | omega | (dsimp only; omega))), cBl.fr f2 (by first | omega | (dsimp only; omega)), cJr.fr f2 (by first | omega | (dsimp only; omega)), cBo.fr f2 (by first | omega | (dsimp only; omega)), cDr.fr f2 (by first | omega | (dsimp only; omega)) (by first | omega | (dsimp only; omega)), E2, cT1.fr f2 (by first | omega | (dsimp only; omega)), cT2.fr f2 (by first | omega | (dsimp only; omega))⟩
    have es : nI nb - 1 = nI nb + (-1) := by rw [Int32.sub_eq_add_neg]
    simp only [h2.O, h2.r (show 0 < 14 by decide), zev_b1, zev_bd, zev_some, zev_gi, zev_gj, zev_gr, zev_pi, zev_pz, zev_pj, zev_pr, zev_rc, zev_cc, zev_b0, zev_bo, true_and, and_true, h2.bl.O, zev_eq (zCe_size h2), es]
    refine zev_mono (zCe_cutB (n0 := n0) h2 e1 hn0 b2) ?_
    rintro ⟨M3, i3⟩ hh
    dsimp only at hh ⊢
    obtain ⟨h3, f3, b3⟩ := hh
    have e5 : zm_i M3 (adr 11) 5 = bf 5 := h3.be.2.2.1 5 (by decide)
    have e6 : zm_i M3 (adr 11) 6 = bf 6 := h3.be.2.2.1 6 (by decide)
    simp only [h3.O, h3.r (show 11 < 14 by decide), zev_b1, zev_bd, zev_some, zev_gi, zev_gj, zev_gr, zev_pi, zev_pz, zev_pj, zev_pr, zev_rc, zev_cc, zev_b0, zev_bo, true_and, and_true, h3.be.1, e5, e6]
    refine zev_mono (zCe_place (bf := fu bf 0 0) h3 hp b3) ?_
    rintro ⟨M4, u1⟩ hh
    dsimp only at hh ⊢
    obtain ⟨h4, f4, b4⟩ := hh
    have e8 : zm_i M4 (adr 11) 8 = bf 8 := h4.be.2.2.1 8 (by decide)
    have er : sresR ro (fu bf 0 0) = sresR ro bf := rfl
    rw [er] at h4
    have en : (bf 1).toNatClampNeg = n0 := by rw [e1, nI_clamp (by omega)]
    have ej0 : (bf 3).toNatClampNeg = j0 := by rw [e3, nI_clamp hj0]
    have ej1 : (bf 4).toNatClampNeg = j1 := by rw [e4, nI_clamp hj1]
    have fA : zFo M g M4 g2 Tc := (((f1.mono (fun z q => show z ≠ 1 ∧ z ≠ 28 ∧ z ≠ 29 by first | omega | (dsimp only at q; omega))).tr (f2.mono (fun z q => show z ≠ 1 ∧ z ≠ 28 ∧ z ≠ 29 by first | omega | (dsimp only at q; omega)))).tr f3).tr f4
    simp only [h4.O, h4.r (show 11 < 14 by decide), zev_b1, zev_bd, zev_some, zev_gi, zev_gj, zev_gr, zev_pi, zev_pz, zev_pj, zev_pr, zev_rc, zev_cc, zev_b0, zev_bo, true_and, and_true, h4.be.1, e8, en, ej0, ej1]
    unfold sresA
    by_cases h8 : bf 8 = -1
    · simp only [if_pos h8]
      refine zev_mono (C_back116 h4 e3 e4 hj0 hj1 b4) ?_
      rintro ⟨M5, v5⟩ hh
      dsimp only at hh ⊢
      obtain ⟨h5, e9, f5, b5⟩ := hh
      exact ⟨g2, A, AL, h5, e9, fA.tr f5, b5⟩
    · obtain ⟨hw, hw5, ew⟩ := ha.resolve_left h8
      obtain ⟨a1, a2, a3, a4⟩ := h4.ac
      obtain ⟨w, w1, w2⟩ := a4 hw hw5
      obtain ⟨s1, s2, s3, wa, ca, r1, r2, r3, r4⟩ := h4.be
      simp only [if_neg h8]
      simp only [ew, nI_clamp (show hw < 2 ^ 31 by omega), zev_b1, zev_bd, zev_some, zev_gi, zev_gj, zev_gr, zev_pi, zev_pz, zev_pj, zev_pr, zev_rc, zev_cc, zev_b0, zev_bo, true_and, and_true, h4.O, h4.r (show 11 < 14 by decide), h4.r (show 6 < 14 by decide), s1, e8, zev_ar2 (show hw < 2 ^ 31 by omega), a1, a2, hw5, w1, r1, w2.O]
      have hz : zcm (20 + hw) = 4096 := by unfold zcm; rw [if_neg (by omega), if_pos (by omega)]
      have hcap : g2.2 27 ≤ zcm (20 + hw) := by rw [hz]; exact r3.cap
      refine zev_mono (zWo_copy w2 r3 (by omega) (by omega) hcap b4) ?_
      rintro ⟨M5, u2⟩ hh
      dsimp only at hh ⊢
      obtain ⟨g5, W5, f5, b5⟩ := hh
      have h5 : zCe M5 g5 A AL x adr ga n0 (sres bs bc) (sresR ro bf) lb ps (aup ac hw ba) jr bo mo gi tr tp wy wh tc st ds dw (fu bf 0 0) ba bc := by
        have e6 := f5.at a1.1 a3 (by omega)
        obtain ⟨cN, cO, cB, cBs, cRw, cLl, cLs, cPk, cJu, cPp, cAc, cBl, cJr, cBo, cDr, cBe, cT1, cT2⟩ := h4
        refine ⟨cN, cO.fr f5 (by first | omega | (dsimp only; omega)), cB.fr f5 (by first | omega | (dsimp only; omega)), cBs.fr f5 (fun b hb => ⟨(by first | omega | (dsimp only; omega)), (by first | omega | (dsimp only; omega)), (by first | omega | (dsimp only; omega))⟩), cRw.fr f5 (by first | omega | (dsimp only; omega)) (fun r hr => (by first | omega | (dsimp only; omega))), cLl.fr f5 (by first | omega | (dsimp only; omega)), cLs.fr f5 (fun i hi => (by first | omega | (dsimp only; omega))), cPk.fr f5 (by first | omega | (dsimp only; omega)), cJu.fr f5 (by first | omega | (dsimp only; omega)), cPp.fr f5 (by first | omega | (dsimp only; omega)) (by first | omega | (dsimp only; omega)), ⟨f5.O a1, (f5.A (show zA M4 (adr 6) 18 5 from ⟨a1, a2⟩)).2, f5.own a1.1 a3, fun i hi => ?_⟩, cBl.fr f5 (by first | omega | (dsimp only; omega)), cJr.fr f5 (by first | omega | (dsimp only; omega)), cBo.fr f5 (by first | omega | (dsimp only; omega)), cDr.fr f5 (by first | omega | (dsimp only; omega)) (by first | omega | (dsimp only; omega)), cBe.fr f5 (by first | omega | (dsimp only; omega)) (by first | omega | (dsimp only; omega)) (by first | omega | (dsimp only; omega)), cT1.fr f5 (by first | omega | (dsimp only; omega)), cT2.fr f5 (by first | omega | (dsimp only; omega))⟩
        unfold aup
        by_cases e : i = hw
        · subst e
          rw [if_pos rfl]
          exact ⟨w, by rw [e6.2.2]; exact w1, W5⟩
        · rw [if_neg e]
          obtain ⟨w', v1, v2⟩ := a4 i hi
          exact ⟨w', by rw [e6.2.2]; exact v1, v2.fr f5 (by omega)⟩
      refine zev_mono (C_back116 h5 e3 e4 hj0 hj1 b5) ?_
      rintro ⟨M6, v6⟩ hh
      dsimp only at hh ⊢
      obtain ⟨h7, e9, f7, b7⟩ := hh
      exact ⟨g5, A, AL, h7, e9, (fA.tr (f5.mono (fun z q => show z ≠ 1 ∧ z ≠ 28 ∧ z ≠ 29 by first | omega | (dsimp only at q; omega)))).tr f7, b7⟩
