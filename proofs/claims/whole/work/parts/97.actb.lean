/-! Acts: pick, forget, rule, join, leave, lay, lift. -/
def sPick (b : Int32) (v : Int64) (c : Cs) : Int64 × Cs := match c with
  | (nb, bs, ro, lb, ps, ac, jr, bo, mo, gi, tr, tp, wy, wh, tc, st, ds, dw, bf, ba, bc) => if isml v then (if lk nb b = 0 then (if phas b ps = 0 then (if nI ps.length < 8 then ((nI (ps.length + 1)).toInt64, (nb, bs, ro, lb, ps ++ [(b.toNatClampNeg, v)], ac, jr, bo, mo, gi, tr, tp, wy, wh, tc, st, ds, dw, bf, ba, bc)) else (-12, (nb, bs, ro, lb, ps, ac, jr, bo, mo, gi, tr, tp, wy, wh, tc, st, ds, dw, bf, ba, bc))) else (-13, (nb, bs, ro, lb, ps, ac, jr, bo, mo, gi, tr, tp, wy, wh, tc, st, ds, dw, bf, ba, bc))) else ((-(lk nb b)).toInt64, (nb, bs, ro, lb, ps, ac, jr, bo, mo, gi, tr, tp, wy, wh, tc, st, ds, dw, bf, ba, bc))) else (-1, (nb, bs, ro, lb, ps, ac, jr, bo, mo, gi, tr, tp, wy, wh, tc, st, ds, dw, bf, ba, bc))
theorem C_pick {M : Zm} {g : Zg} {A AL : Nat → Nat} {x : Nat} {adr : Nat → Nat} {ga nb : Nat} {bs : Nat → Bv} {ro : Nat → Rw} {lb : List Lb} {ps : List (Nat × Int64)} {ac : Nat → Wn} {jr bo : List Ln} {mo : Int32} {gi : Int64} {tr tp wy wh : Int32} {tc : List Int32} {st : List Int64} {ds : List (Nat × Int64)} {dw : Wn} {bf : Nat → Int32} {ba : Wn} {bc : List Nat} {k : Nat} (h : zCe M g A AL x adr ga nb bs ro lb ps ac jr bo mo gi tr tp wy wh tc st ds dw bf ba bc) (hps : ∀ q, q ∈ ps → q.1 < nb) (b : Int32) (v : Int64) (hb : zBu M g k) : zev (zf_X11_pickBarrel M (some x) b v) (fun y => ∃ g' A' AL', zCs y.1 g' A' AL' x adr ga (sPick b v (nb, bs, ro, lb, ps, ac, jr, bo, mo, gi, tr, tp, wy, wh, tc, st, ds, dw, bf, ba, bc)).2 ∧ y.2 = (sPick b v (nb, bs, ro, lb, ps, ac, jr, bo, mo, gi, tr, tp, wy, wh, tc, st, ds, dw, bf, ba, bc)).1 ∧ zFo M g y.1 g' Tc ∧ zBu y.1 g' k) := by
  unfold sPick
  dsimp only
  simp only [zf_X11_pickBarrel, zev_b1, zev_bd, zev_some, zev_gi, zev_gj, zev_gr, zev_pi, zev_pz, zev_pj, zev_pr, zev_rc, zev_cc, zev_b0, zev_bo, true_and, and_true]
  rcases z_ml (M := M) v with ⟨c1, e⟩ | ⟨c1, e⟩
  · simp only [zev_eq e, if_pos c1, if_neg z10, zev_b1, zev_bd, zev_some, zev_gi, zev_gj, zev_gr, zev_pi, zev_pz, zev_pj, zev_pr, zev_rc, zev_cc, zev_b0, zev_bo, true_and, and_true, h.O, zev_eq (zCe_lk h b)]
    by_cases h1 : lk nb b = 0
    · simp only [if_pos h1, zev_b1, zev_bd, zev_some, zev_gi, zev_gj, zev_gr, zev_pi, zev_pz, zev_pj, zev_pr, zev_rc, zev_cc, zev_b0, zev_bo, true_and, and_true, h.O, h.r (show 3 < 14 by decide), h.pk.O, zev_eq (zPk_has (bs := bs) h.pk (fun q hq => h.bs (hps q hq)) b)]
      by_cases h2 : phas b ps = 0
      · simp only [if_pos h2, zev_b1, zev_bd, zev_some, zev_gi, zev_gj, zev_gr, zev_pi, zev_pz, zev_pj, zev_pr, zev_rc, zev_cc, zev_b0, zev_bo, true_and, and_true, h.O, h.r (show 3 < 14 by decide), h.pk.O, h.pk.cnt]
        by_cases h3 : nI ps.length < 8
        · obtain ⟨n, hn, rfl⟩ := lk_0 h.N h1
          have hN := h.N
          have hl : ps.length ≤ 8 := h.pk.2.2.2.1
          have hl8 : ps.length < 8 := (nI_ltI (by omega) (show 8 < 2 ^ 31 by decide)).mp h3
          simp only [if_pos h3, nI_clamp (show n < 2 ^ 31 by omega), zev_b1, zev_bd, zev_some, zev_gi, zev_gj, zev_gr, zev_pi, zev_pz, zev_pj, zev_pr, zev_rc, zev_cc, zev_b0, zev_bo, true_and, and_true, h.O, h.r (show 3 < 14 by decide), h.r (show 0 < 14 by decide), h.bl.O, zev_eq (zCe_get h hn), (h.bs hn).O, h.pk.O]
          refine zev_mono (zCe_padd h hn v hl8 hb) ?_
          rintro ⟨M1, u0⟩ hh
          dsimp only at hh ⊢
          obtain ⟨h2, f2, b2⟩ := hh
          simp only [h2.O, h2.r (show 3 < 14 by decide), zev_b1, zev_bd, zev_some, zev_gi, zev_gj, zev_gr, zev_pi, zev_pz, zev_pj, zev_pr, zev_rc, zev_cc, zev_b0, zev_bo, true_and, and_true, h2.pk.O, h2.pk.cnt, List.length_append, List.length_singleton]
          exact ⟨g, A, AL, h2, f2, b2⟩
        · simp only [if_neg h3, zev_b1, zev_bd, zev_some, zev_gi, zev_gj, zev_gr, zev_pi, zev_pz, zev_pj, zev_pr, zev_rc, zev_cc, zev_b0, zev_bo, true_and, and_true]
          exact ⟨g, A, AL, h, zFo.rf, hb⟩
      · simp only [if_neg h2, zev_b1, zev_bd, zev_some, zev_gi, zev_gj, zev_gr, zev_pi, zev_pz, zev_pj, zev_pr, zev_rc, zev_cc, zev_b0, zev_bo, true_and, and_true]
        exact ⟨g, A, AL, h, zFo.rf, hb⟩
    · simp only [if_neg h1, zev_b1, zev_bd, zev_some, zev_gi, zev_gj, zev_gr, zev_pi, zev_pz, zev_pj, zev_pr, zev_rc, zev_cc, zev_b0, zev_bo, true_and, and_true]
      exact ⟨g, A, AL, h, zFo.rf, hb⟩
  · simp only [zev_eq e, if_neg c1, if_true, zev_b1, zev_bd, zev_some, zev_gi, zev_gj, zev_gr, zev_pi, zev_pz, zev_pj, zev_pr, zev_rc, zev_cc, zev_b0, zev_bo, true_and, and_true]
    exact ⟨g, A, AL, h, zFo.rf, hb⟩
/-! the cellar with another label; with another row; with other barrels -/
theorem zCe.lset {M : Zm} {g : Zg} {A AL : Nat → Nat} {x : Nat} {adr : Nat → Nat} {ga nb : Nat} {bs : Nat → Bv} {ro : Nat → Rw} {lb : List Lb} {ps : List (Nat × Int64)} {ac : Nat → Wn} {jr bo : List Ln} {mo : Int32} {gi : Int64} {tr tp wy wh : Int32} {tc : List Int32} {st : List Int64} {ds : List (Nat × Int64)} {dw : Wn} {bf : Nat → Int32} {ba : Wn} {bc : List Nat} {M' : Zm} {i : Nat} {q : Lb} (h : zCe M g A AL x adr ga nb bs ro lb ps ac jr bo mo gi tr tp wy wh tc st ds dw bf ba bc) (hi : i < lb.length) (f : zFo M g M' g (fun z => z = 40 + i)) (hq : zLb M' g (40 + i) (AL i) q.1 q.2) : zCe M' g A AL x adr ga nb bs ro (lb.set i q) ps ac jr bo mo gi tr tp wy wh tc st ds dw bf ba bc := by
  have hl := h.ls.1
  obtain ⟨cN, cO, cB, cBs, cRw, cLl, cLs, cPk, cJu, cPp, cAc, cBl, cJr, cBo, cDr, cBe, cT1, cT2⟩ := h
  refine ⟨cN, cO.fr f (by first | omega | (dsimp only; omega)), cB.fr f (by first | omega | (dsimp only; omega)), cBs.fr f (fun b hb => ⟨(by first | omega | (dsimp only; omega)), (by first | omega | (dsimp only; omega)), (by first | omega | (dsimp only; omega))⟩), cRw.fr f (by first | omega | (dsimp only; omega)) (fun r hr => (by first | omega | (dsimp only; omega))), (by rw [List.length_set]; exact cLl.fr f (by first | omega | (dsimp only; omega))), ⟨by rw [List.length_set]; exact cLs.1, fun j p hj => ?_⟩, cPk.fr f (by first | omega | (dsimp only; omega)), cJu.fr f (by first | omega | (dsimp only; omega)), cPp.fr f (by first | omega | (dsimp only; omega)) (by first | omega | (dsimp only; omega)), cAc.fr f (by first | omega | (dsimp only; omega)) (fun h hh => (by first | omega | (dsimp only; omega))), cBl.fr f (by first | omega | (dsimp only; omega)), cJr.fr f (by first | omega | (dsimp only; omega)), cBo.fr f (by first | omega | (dsimp only; omega)), cDr.fr f (by first | omega | (dsimp only; omega)) (by first | omega | (dsimp only; omega)), cBe.fr f (by first | omega | (dsimp only; omega)) (by first | omega | (dsimp only; omega)) (by first | omega | (dsimp only; omega)), cT1.fr f (by first | omega | (dsimp only; omega)), cT2.fr f (by first | omega | (dsimp only; omega))⟩
  rw [List.getElem?_set] at hj
  by_cases e : i = j
  · subst e
    rw [if_pos rfl, if_pos hi] at hj
    cases hj
    exact hq
  · rw [if_neg e] at hj
    exact (cLs.2 j p hj).fr f (by omega)
def runi (rs : List (List Lf)) : List (List Lf) := rs.take (rs.length - 2) ++ [(rs.drop (rs.length - 2)).flatten]
theorem runi_split (rs : List (List Lf)) (h : 2 ≤ rs.length) : ∃ pre a b, rs = pre ++ [a, b] ∧ runi rs = pre ++ [a ++ b] := by
  have e : rs.take (rs.length - 2) ++ rs.drop (rs.length - 2) = rs := List.take_append_drop _ _
  have hl : (rs.drop (rs.length - 2)).length = 2 := by rw [List.length_drop]; omega
  unfold runi
  generalize rs.drop (rs.length - 2) = d at e hl ⊢
  match d, hl with
  | [a, b], _ => exact ⟨_, a, b, e.symm, by simp⟩
def sRule32 (l op dim value h : Int32) (c : Cs) : Int64 × Cs := match c with
  | (nb, bs, ro, lb, ps, ac, jr, bo, mo, gi, tr, tp, wy, wh, tc, st, ds, dw, bf, ba, bc) => if lkl lb.length l = 0 then (if nI ((lb[l.toNatClampNeg]?).getD ([], 0)).2 < 20 then (if op = 6 then (if 2 ≤ nI ((lb[l.toNatClampNeg]?).getD ([], 0)).1.length then ((nI (runi ((lb[l.toNatClampNeg]?).getD ([], 0)).1).length).toInt64, (nb, bs, ro, lb.set l.toNatClampNeg (runi ((lb[l.toNatClampNeg]?).getD ([], 0)).1, ((lb[l.toNatClampNeg]?).getD ([], 0)).2 + 1), ps, ac, jr, bo, mo, gi, tr, tp, wy, wh, tc, st, ds, dw, bf, ba, bc)) else (-10, (nb, bs, ro, lb, ps, ac, jr, bo, mo, gi, tr, tp, wy, wh, tc, st, ds, dw, bf, ba, bc))) else ((nI (((lb[l.toNatClampNeg]?).getD ([], 0)).1.length + 1)).toInt64, (nb, bs, ro, lb.set l.toNatClampNeg (((lb[l.toNatClampNeg]?).getD ([], 0)).1 ++ [[(op.toNatClampNeg, dim.toNatClampNeg, value.toNatClampNeg, h.toNatClampNeg)]], ((lb[l.toNatClampNeg]?).getD ([], 0)).2 + 1), ps, ac, jr, bo, mo, gi, tr, tp, wy, wh, tc, st, ds, dw, bf, ba, bc))) else (-12, (nb, bs, ro, lb, ps, ac, jr, bo, mo, gi, tr, tp, wy, wh, tc, st, ds, dw, bf, ba, bc))) else ((-(lkl lb.length l)).toInt64, (nb, bs, ro, lb, ps, ac, jr, bo, mo, gi, tr, tp, wy, wh, tc, st, ds, dw, bf, ba, bc))
abbrev isrule (d v h : Int32) : Prop := ¬ d < 1 ∧ ¬ 3 < d ∧ ¬ v < 0 ∧ ¬ 15 < v ∧ ¬ h < 0 ∧ ¬ 100 < h
theorem z_rule {M : Zm} (d v h : Int32) : (isrule d v h ∧ zf_X11_isRuleOver M d v h = some (M, 1)) ∨ (¬ isrule d v h ∧ zf_X11_isRuleOver M d v h = some (M, 0)) := by
  unfold zf_X11_isRuleOver
  by_cases h1 : d < 1
  · rw [if_pos h1]; exact Or.inr ⟨fun q => q.1 h1, rfl⟩
  rw [if_neg h1]
  by_cases h2 : 3 < d
  · rw [if_pos h2]; exact Or.inr ⟨fun q => q.2.1 h2, rfl⟩
  rw [if_neg h2]
  by_cases h3 : v < 0
  · rw [if_pos h3]; exact Or.inr ⟨fun q => q.2.2.1 h3, rfl⟩
  rw [if_neg h3]
  by_cases h4 : 15 < v
  · rw [if_pos h4]; exact Or.inr ⟨fun q => q.2.2.2.1 h4, rfl⟩
  rw [if_neg h4]
  by_cases h5 : h < 0
  · rw [if_pos h5]; exact Or.inr ⟨fun q => q.2.2.2.2.1 h5, rfl⟩
  rw [if_neg h5]
  by_cases h6 : 100 < h
  · rw [if_pos h6]; exact Or.inr ⟨fun q => q.2.2.2.2.2 h6, rfl⟩
  rw [if_neg h6]
  exact Or.inl ⟨⟨h1, h2, h3, h4, h5, h6⟩, rfl⟩
def sRule (l op dim value h : Int32) (c : Cs) : Int64 × Cs := if op < 1 then (-1, c) else if 6 < op then (-1, c) else if op = 6 then sRule32 l op dim value h c else if isrule dim value h then sRule32 l op dim value h c else (-1, c)
theorem nI_rng {x : Int32} {n : Nat} (hn : n < 2 ^ 31) (h0 : ¬ x < 0) (h1 : ¬ nI n < x) : ∃ j, j ≤ n ∧ x = nI j := by
  obtain ⟨j, hj, rfl⟩ := nI_of h0
  refine ⟨j, ?_, rfl⟩
  apply Nat.le_of_not_lt
  intro hlt
  exact h1 (nI_lt hlt hj)
theorem C_rule32 {M : Zm} {g : Zg} {A AL : Nat → Nat} {x : Nat} {adr : Nat → Nat} {ga nb : Nat} {bs : Nat → Bv} {ro : Nat → Rw} {lb : List Lb} {ps : List (Nat × Int64)} {ac : Nat → Wn} {jr bo : List Ln} {mo : Int32} {gi : Int64} {tr tp wy wh : Int32} {tc : List Int32} {st : List Int64} {ds : List (Nat × Int64)} {dw : Wn} {bf : Nat → Int32} {ba : Wn} {bc : List Nat} {k : Nat} (h : zCe M g A AL x adr ga nb bs ro lb ps ac jr bo mo gi tr tp wy wh tc st ds dw bf ba bc) (l op dim value hd : Int32) (hop : op = 6 ∨ (¬ op < 1 ∧ ¬ 6 < op ∧ op ≠ 6 ∧ isrule dim value hd)) (hb : zBu M g k) : zev (zf_X11_makeRule_J32 M (some x) l op dim value hd) (fun y => ∃ g' A' AL', zCs y.1 g' A' AL' x adr ga (sRule32 l op dim value hd (nb, bs, ro, lb, ps, ac, jr, bo, mo, gi, tr, tp, wy, wh, tc, st, ds, dw, bf, ba, bc)).2 ∧ y.2 = (sRule32 l op dim value hd (nb, bs, ro, lb, ps, ac, jr, bo, mo, gi, tr, tp, wy, wh, tc, st, ds, dw, bf, ba, bc)).1 ∧ zFo M g y.1 g' Tc ∧ zBu y.1 g' k) := by
  unfold sRule32
  dsimp only
  simp only [zf_X11_makeRule_J32, zev_b1, zev_bd, zev_some, zev_gi, zev_gj, zev_gr, zev_pi, zev_pz, zev_pj, zev_pr, zev_rc, zev_cc, zev_b0, zev_bo, true_and, and_true, h.O, zev_eq (zCe_lkl h l)]
  by_cases h1 : lkl lb.length l = 0
  · obtain ⟨i, hi, rfl⟩ := lkl_0 h.ls.1 h1
    have hl40 := h.ls.1
    obtain ⟨q, hq⟩ := getElem?_lt hi
    have L := h.ls.2 i q hq
    have hget : zf_Jx4a65c_get_915e3 M (some (adr 2)) (nI i) = some (M, some (AL i)) := zAl_get h.ll (range_at hi)
    have hmade : zm_i M (AL i) 7 = nI q.2 := L.2.2.2.2.1
    have hcount : zm_i M (AL i) 6 = nI q.1.length := L.2.2.2.1
    have m20 : q.2 ≤ 20 := L.2.2.2.2.2.2.2.1
    have hfl : q.1.flatten.length ≤ q.2 := L.2.2.2.2.2.1
    have hrl : q.1.length ≤ q.1.flatten.length := L.2.2.2.2.2.2.1
    simp only [if_pos h1, nI_clamp (show i < 2 ^ 31 by omega), hq, Option.getD_some, zev_b1, zev_bd, zev_some, zev_gi, zev_gj, zev_gr, zev_pi, zev_pz, zev_pj, zev_pr, zev_rc, zev_cc, zev_b0, zev_bo, true_and, and_true, h.O, h.r (show 2 < 14 by decide), h.ll.O, zev_eq hget, L.1, hmade]
    by_cases h2 : nI q.2 < 20
    · have hm : q.2 < 20 := (nI_ltI (by omega) (show 20 < 2 ^ 31 by decide)).mp h2
      by_cases h6 : op = 6
      · simp only [if_pos h2, if_pos h6, zev_b1, zev_bd, zev_some, zev_gi, zev_gj, zev_gr, zev_pi, zev_pz, zev_pj, zev_pr, zev_rc, zev_cc, zev_b0, zev_bo, true_and, and_true, L.1, hcount]
        by_cases h3 : 2 ≤ nI q.1.length
        · have hc2 : 2 ≤ q.1.length := (nI_leI (show 2 < 2 ^ 31 by decide) (by omega)).mp h3
          obtain ⟨pre, a, b, e1, e2⟩ := runi_split q.1 hc2
          simp only [if_pos h3, zev_b1, zev_bd, zev_some, zev_gi, zev_gj, zev_gr, zev_pi, zev_pz, zev_pj, zev_pr, zev_rc, zev_cc, zev_b0, zev_bo, true_and, and_true, L.1]
          have L' := L
          rw [e1] at L'
          refine zev_mono (zLb_unite L' hm hb) ?_
          rintro ⟨M1, u0⟩ hh
          dsimp only at hh ⊢
          obtain ⟨L2, f2, b2⟩ := hh
          rw [← e2] at L2
          have hc3 : zm_i M1 (AL i) 6 = nI (runi q.1).length := L2.2.2.2.1
          have h3 := h.lset (q := (runi q.1, q.2 + 1)) hi f2 L2
          refine ⟨L2.1, ?_⟩
          rw [hc3]
          exact ⟨g, A, AL, h3, rfl, f2.mono (fun z q => show z ≠ 1 ∧ z ≠ 28 ∧ z ≠ 29 by first | omega | (dsimp only at q; omega)), b2⟩
        · simp only [if_neg h3, zev_b1, zev_bd, zev_some, zev_gi, zev_gj, zev_gr, zev_pi, zev_pz, zev_pj, zev_pr, zev_rc, zev_cc, zev_b0, zev_bo, true_and, and_true]
          exact ⟨g, A, AL, h, zFo.rf, hb⟩
      · simp only [if_pos h2, if_neg h6, zev_b1, zev_bd, zev_some, zev_gi, zev_gj, zev_gr, zev_pi, zev_pz, zev_pj, zev_pr, zev_rc, zev_cc, zev_b0, zev_bo, true_and, and_true, L.1]
        obtain ⟨o1, o2, o3, o4⟩ := hop.resolve_left h6
        obtain ⟨j1, k1, rfl⟩ := nI_rng (n := 6) (by decide) (fun e => o1 (Int32.lt_trans e (by decide))) o2
        obtain ⟨j2, k2, rfl⟩ := nI_rng (n := 3) (by decide) (fun e => o4.1 (Int32.lt_trans e (by decide))) o4.2.1
        obtain ⟨j3, k3, rfl⟩ := nI_rng (n := 15) (by decide) o4.2.2.1 o4.2.2.2.1
        obtain ⟨j4, k4, rfl⟩ := nI_rng (n := 100) (by decide) o4.2.2.2.2.1 o4.2.2.2.2.2
        have g1 : 1 ≤ j1 := Nat.le_of_not_lt (fun e => o1 (nI_lt (b := 1) e (by decide)))
        have g2 : 1 ≤ j2 := Nat.le_of_not_lt (fun e => o4.1 (nI_lt (b := 1) e (by decide)))
        have g6 : j1 ≠ 6 := fun e => o3 (by rw [e]; rfl)
        have hok : lfok (j1, j2, j3, j4) := ⟨⟨g1, by dsimp only; omega⟩, ⟨g2, k2⟩, k3, k4⟩
        rw [nI_clamp (show j1 < 2 ^ 31 by omega), nI_clamp (show j2 < 2 ^ 31 by omega), nI_clamp (show j3 < 2 ^ 31 by omega), nI_clamp (show j4 < 2 ^ 31 by omega)]
        refine zev_mono (zLb_add L (j1, j2, j3, j4) hok hm hb) ?_
        rintro ⟨M1, u0⟩ hh
        dsimp only at hh ⊢
        obtain ⟨L2, f2, b2⟩ := hh
        have hc3 : zm_i M1 (AL i) 6 = nI (q.1.length + 1) := by
          have := L2.2.2.2.1
          rw [List.length_append, List.length_singleton] at this
          exact this
        have h3 := h.lset (q := (q.1 ++ [[(j1, j2, j3, j4)]], q.2 + 1)) hi f2 L2
        refine ⟨L2.1, ?_⟩
        rw [hc3]
        exact ⟨g, A, AL, h3, rfl, f2.mono (fun z q => show z ≠ 1 ∧ z ≠ 28 ∧ z ≠ 29 by first | omega | (dsimp only at q; omega)), b2⟩
    · simp only [if_neg h2, zev_b1, zev_bd, zev_some, zev_gi, zev_gj, zev_gr, zev_pi, zev_pz, zev_pj, zev_pr, zev_rc, zev_cc, zev_b0, zev_bo, true_and, and_true]
      exact ⟨g, A, AL, h, zFo.rf, hb⟩
  · simp only [if_neg h1, zev_b1, zev_bd, zev_some, zev_gi, zev_gj, zev_gr, zev_pi, zev_pz, zev_pj, zev_pr, zev_rc, zev_cc, zev_b0, zev_bo, true_and, and_true]
    exact ⟨g, A, AL, h, zFo.rf, hb⟩
theorem C_rule {M : Zm} {g : Zg} {A AL : Nat → Nat} {x : Nat} {adr : Nat → Nat} {ga nb : Nat} {bs : Nat → Bv} {ro : Nat → Rw} {lb : List Lb} {ps : List (Nat × Int64)} {ac : Nat → Wn} {jr bo : List Ln} {mo : Int32} {gi : Int64} {tr tp wy wh : Int32} {tc : List Int32} {st : List Int64} {ds : List (Nat × Int64)} {dw : Wn} {bf : Nat → Int32} {ba : Wn} {bc : List Nat} {k : Nat} (h : zCe M g A AL x adr ga nb bs ro lb ps ac jr bo mo gi tr tp wy wh tc st ds dw bf ba bc) (l op dim value hd : Int32) (hb : zBu M g k) : zev (zf_X11_makeRule M (some x) l op dim value hd) (fun y => ∃ g' A' AL', zCs y.1 g' A' AL' x adr ga (sRule l op dim value hd (nb, bs, ro, lb, ps, ac, jr, bo, mo, gi, tr, tp, wy, wh, tc, st, ds, dw, bf, ba, bc)).2 ∧ y.2 = (sRule l op dim value hd (nb, bs, ro, lb, ps, ac, jr, bo, mo, gi, tr, tp, wy, wh, tc, st, ds, dw, bf, ba, bc)).1 ∧ zFo M g y.1 g' Tc ∧ zBu y.1 g' k) := by
  unfold sRule
  simp only [zf_X11_makeRule, zf_X11_makeRule_J28]
  by_cases h1 : op < 1
  · simp only [if_pos h1, zev_b1, zev_bd, zev_some, zev_gi, zev_gj, zev_gr, zev_pi, zev_pz, zev_pj, zev_pr, zev_rc, zev_cc, zev_b0, zev_bo, true_and, and_true]
    exact ⟨g, A, AL, h, zFo.rf, hb⟩
  · by_cases h2 : 6 < op
    · simp only [if_neg h1, if_pos h2, zev_b1, zev_bd, zev_some, zev_gi, zev_gj, zev_gr, zev_pi, zev_pz, zev_pj, zev_pr, zev_rc, zev_cc, zev_b0, zev_bo, true_and, and_true]
      exact ⟨g, A, AL, h, zFo.rf, hb⟩
    · by_cases h3 : op = 6
      · simp only [if_neg h1, if_neg h2, if_pos h3]
        exact C_rule32 h l op dim value hd (Or.inl h3) hb
      · simp only [if_neg h1, if_neg h2, if_neg h3, zev_b1, zev_bd, zev_some, zev_gi, zev_gj, zev_gr, zev_pi, zev_pz, zev_pj, zev_pr, zev_rc, zev_cc, zev_b0, zev_bo, true_and, and_true]
        rcases z_rule (M := M) dim value hd with ⟨c1, e⟩ | ⟨c1, e⟩
        · simp only [zev_eq e, if_pos c1, if_neg z10]
          exact C_rule32 h l op dim value hd (Or.inr ⟨h1, h2, h3, c1⟩) hb
        · simp only [zev_eq e, if_neg c1, if_true, zev_b1, zev_bd, zev_some, zev_gi, zev_gj, zev_gr, zev_pi, zev_pz, zev_pj, zev_pr, zev_rc, zev_cc, zev_b0, zev_bo, true_and, and_true]
          exact ⟨g, A, AL, h, zFo.rf, hb⟩
