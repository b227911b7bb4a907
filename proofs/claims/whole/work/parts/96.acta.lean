/-! Acts: the frame; worth, pick, forget, rule. -/
abbrev Cs : Type := Nat × (Nat → Bv) × (Nat → Rw) × List Lb × List (Nat × Int64) × (Nat → Wn) × List Ln × List Ln × Int32 × Int64 × Int32 × Int32 × Int32 × Int32 × List Int32 × List Int64 × List (Nat × Int64) × Wn × (Nat → Int32) × Wn × List Nat
def zCs (M : Zm) (g : Zg) (A AL : Nat → Nat) (x : Nat) (adr : Nat → Nat) (ga : Nat) (c : Cs) : Prop := match c with
  | (nb, bs, ro, lb, ps, ac, jr, bo, mo, gi, tr, tp, wy, wh, tc, st, ds, dw, bf, ba, bc) => zCe M g A AL x adr ga nb bs ro lb ps ac jr bo mo gi tr tp wy wh tc st ds dw bf ba bc
def sOpen (c : Cs) : Cs := match c with
  | (nb, bs, ro, lb, ps, ac, jr, bo, mo, gi, tr, tp, wy, wh, tc, st, ds, dw, bf, ba, bc) => (nb, bs, ro, lb, ps, ac, jr, bo, mo, gi, tr + 1, 1, wy, wh, [], st, ds, dw, bf, ba, bc)
def sClose (a : Int64) (c : Cs) : Cs := match c with
  | (nb, bs, ro, lb, ps, ac, jr, bo, mo, gi, tr, tp, wy, wh, tc, st, ds, dw, bf, ba, bc) => (nb, bs, ro, lb, ps, ac, jr, bo, mo, gi, tr, 0, cwy a, wh, tc, st, ds, dw, bf, ba, bc)
def sAct (f : Cs → Int64 × Cs) (c : Cs) : Int64 × Cs := ((f (sOpen c)).1, sClose (f (sOpen c)).1 (f (sOpen c)).2)
theorem zCs_O {M : Zm} {g : Zg} {A AL : Nat → Nat} {x : Nat} {adr : Nat → Nat} {ga : Nat} {c : Cs} (h : zCs M g A AL x adr ga c) : zO M x 12 := by
  obtain ⟨nb, bs, ro, lb, ps, ac, jr, bo, mo, gi, tr, tp, wy, wh, tc, st, ds, dw, bf, ba, bc⟩ := c
  exact zCe.O h
theorem C_open {M : Zm} {g : Zg} {A AL : Nat → Nat} {x : Nat} {adr : Nat → Nat} {ga k : Nat} {c : Cs} (h : zCs M g A AL x adr ga c) (hb : zBu M g k) : zev (zf_X11_openTap M (some x)) (fun y => zCs y.1 g A AL x adr ga (sOpen c) ∧ zFo M g y.1 g Tc ∧ zBu y.1 g k) := by
  obtain ⟨nb, bs, ro, lb, ps, ac, jr, bo, mo, gi, tr, tp, wy, wh, tc, st, ds, dw, bf, ba, bc⟩ := c
  exact zCe_open h hb
theorem C_close {M : Zm} {g : Zg} {A AL : Nat → Nat} {x : Nat} {adr : Nat → Nat} {ga k : Nat} {c : Cs} (h : zCs M g A AL x adr ga c) (a : Int64) (hb : zBu M g k) : zev (zf_X11_closeTap M (some x) a) (fun y => y.2 = a ∧ zCs y.1 g A AL x adr ga (sClose a c) ∧ zFo M g y.1 g Tc ∧ zBu y.1 g k) := by
  obtain ⟨nb, bs, ro, lb, ps, ac, jr, bo, mo, gi, tr, tp, wy, wh, tc, st, ds, dw, bf, ba, bc⟩ := c
  exact zCe_close h a hb
/-- an act is its inside between the tap's opening and its closing -/
theorem C_act {M : Zm} {g : Zg} {A AL : Nat → Nat} {x : Nat} {adr : Nat → Nat} {ga k : Nat} {c : Cs} (F : Zm → Option (Zm × Int64)) (f : Cs → Int64 × Cs) (h : zCs M g A AL x adr ga c) (hb : zBu M g k) (k' : Nat) (hF : ∀ M1, zCs M1 g A AL x adr ga (sOpen c) → zBu M1 g k → zev (F M1) (fun y => ∃ g' A' AL', zCs y.1 g' A' AL' x adr ga (f (sOpen c)).2 ∧ y.2 = (f (sOpen c)).1 ∧ zFo M1 g y.1 g' Tc ∧ zBu y.1 g' k')) : zev (zb1 (zo_rc M (some x) 12) (fun _ => zbd (zf_X11_openTap M (some x)) (fun M1 _ => zb1 (zo_rc M1 (some x) 12) (fun _ => zbd (F M1) (fun M2 v2 => zb1 (zo_rc M2 (some x) 12) (fun _ => zbd (zf_X11_closeTap M2 (some x) v2) (fun M3 v3 => some (M3, v3)))))))) (fun y => ∃ g' A' AL', zCs y.1 g' A' AL' x adr ga (sAct f c).2 ∧ y.2 = (sAct f c).1 ∧ zFo M g y.1 g' Tc ∧ zBu y.1 g' k') := by
  simp only [zev_b1, zev_bd, zev_some, zev_gi, zev_gj, zev_gr, zev_pi, zev_pz, zev_pj, zev_pr, zev_rc, zev_cc, zev_b0, zev_bo, true_and, and_true, zCs_O h]
  refine zev_mono (C_open h hb) ?_
  rintro ⟨M1, u0⟩ hh
  dsimp only at hh ⊢
  obtain ⟨h1, f1, b1⟩ := hh
  refine ⟨zCs_O h1, zev_mono (hF M1 h1 b1) ?_⟩
  rintro ⟨M2, v⟩ hh
  dsimp only at hh ⊢
  obtain ⟨g2, A2, AL2, h2, e, f2, b2⟩ := hh
  subst e
  refine ⟨zCs_O h2, zev_mono (C_close h2 _ b2) ?_⟩
  rintro ⟨M3, v⟩ hh
  dsimp only at hh ⊢
  obtain ⟨e, h3, f3, b3⟩ := hh
  exact ⟨g2, A2, AL2, h3, e, (f1.tr f2).tr f3, b3⟩
theorem z_isMl {M : Zm} (v : Int64) : zf_X11_isMl M v = some (M, if v < 1 then 0 else if 1000000000 < v then 0 else 1) := by
  refine zev_of ?_
  unfold zf_X11_isMl
  repeat' split
  all_goals simp only [zev_b1, zev_bd, zev_some, zev_gi, zev_gj, zev_gr, zev_pi, zev_pz, zev_pj, zev_pr, zev_rc, zev_cc, zev_b0, zev_bo, true_and, and_true]
theorem z_isCents {M : Zm} (v : Int32) : zf_X11_isCents M v = some (M, if v < 0 then 0 else if 1000000 < v then 0 else 1) := by
  refine zev_of ?_
  unfold zf_X11_isCents
  repeat' split
  all_goals simp only [zev_b1, zev_bd, zev_some, zev_gi, zev_gj, zev_gr, zev_pi, zev_pz, zev_pj, zev_pr, zev_rc, zev_cc, zev_b0, zev_bo, true_and, and_true]
abbrev isml (v : Int64) : Prop := ¬ v < 1 ∧ ¬ 1000000000 < v
abbrev iscents (v : Int32) : Prop := ¬ v < 0 ∧ ¬ 1000000 < v
theorem z_ml {M : Zm} (v : Int64) : (isml v ∧ zf_X11_isMl M v = some (M, 1)) ∨ (¬ isml v ∧ zf_X11_isMl M v = some (M, 0)) := by
  rw [z_isMl]
  unfold isml
  by_cases h1 : v < 1
  · rw [if_pos h1]; exact Or.inr ⟨fun q => q.1 h1, rfl⟩
  · rw [if_neg h1]
    by_cases h2 : 1000000000 < v
    · rw [if_pos h2]; exact Or.inr ⟨fun q => q.2 h2, rfl⟩
    · rw [if_neg h2]; exact Or.inl ⟨⟨h1, h2⟩, rfl⟩
theorem z_cents {M : Zm} (v : Int32) : (iscents v ∧ zf_X11_isCents M v = some (M, 1)) ∨ (¬ iscents v ∧ zf_X11_isCents M v = some (M, 0)) := by
  rw [z_isCents]
  unfold iscents
  by_cases h1 : v < 0
  · rw [if_pos h1]; exact Or.inr ⟨fun q => q.1 h1, rfl⟩
  · rw [if_neg h1]
    by_cases h2 : 1000000 < v
    · rw [if_pos h2]; exact Or.inr ⟨fun q => q.2 h2, rfl⟩
    · rw [if_neg h2]; exact Or.inl ⟨⟨h1, h2⟩, rfl⟩
theorem z10 : ¬ (1 : Int32) = 0 := by decide
/-! worth -/
def sWorth (b ct : Int32) (c : Cs) : Int64 × Cs := match c with
  | (nb, bs, ro, lb, ps, ac, jr, bo, mo, gi, tr, tp, wy, wh, tc, st, ds, dw, bf, ba, bc) => if iscents ct then (if lk nb b = 0 then ((bs b.toNatClampNeg).2.1.1.toInt64, (nb, bup bs b.toNatClampNeg (bcts (bkeep (bs b.toNatClampNeg)) ct), ro, lb, ps, ac, jr, bo, mo, gi, tr, tp, wy, wh, tc, st, ds, dw, bfB bf nb mo jr.length bo.length, ba, [b.toNatClampNeg])) else ((-(lk nb b)).toInt64, (nb, bs, ro, lb, ps, ac, jr, bo, mo, gi, tr, tp, wy, wh, tc, st, ds, dw, bf, ba, bc))) else (-1, (nb, bs, ro, lb, ps, ac, jr, bo, mo, gi, tr, tp, wy, wh, tc, st, ds, dw, bf, ba, bc))
theorem C_worth {M : Zm} {g : Zg} {A AL : Nat → Nat} {x : Nat} {adr : Nat → Nat} {ga nb : Nat} {bs : Nat → Bv} {ro : Nat → Rw} {lb : List Lb} {ps : List (Nat × Int64)} {ac : Nat → Wn} {jr bo : List Ln} {mo : Int32} {gi : Int64} {tr tp wy wh : Int32} {tc : List Int32} {st : List Int64} {ds : List (Nat × Int64)} {dw : Wn} {bf : Nat → Int32} {ba : Wn} {bc : List Nat} {k : Nat} (h : zCe M g A AL x adr ga nb bs ro lb ps ac jr bo mo gi tr tp wy wh tc st ds dw bf ba bc) (b ct : Int32) (hb : zBu M g k) : zev (zf_X11_tellCents M (some x) b ct) (fun y => ∃ g' A' AL', zCs y.1 g' A' AL' x adr ga (sWorth b ct (nb, bs, ro, lb, ps, ac, jr, bo, mo, gi, tr, tp, wy, wh, tc, st, ds, dw, bf, ba, bc)).2 ∧ y.2 = (sWorth b ct (nb, bs, ro, lb, ps, ac, jr, bo, mo, gi, tr, tp, wy, wh, tc, st, ds, dw, bf, ba, bc)).1 ∧ zFo M g y.1 g' Tc ∧ zBu y.1 g' k) := by
  unfold sWorth
  dsimp only
  simp only [zf_X11_tellCents, zev_b1, zev_bd, zev_some, zev_gi, zev_gj, zev_gr, zev_pi, zev_pz, zev_pj, zev_pr, zev_rc, zev_cc, zev_b0, zev_bo, true_and, and_true]
  rcases z_cents (M := M) ct with ⟨c1, e⟩ | ⟨c1, e⟩
  · simp only [zev_eq e, if_pos c1, if_neg z10, zev_b1, zev_bd, zev_some, zev_gi, zev_gj, zev_gr, zev_pi, zev_pz, zev_pj, zev_pr, zev_rc, zev_cc, zev_b0, zev_bo, true_and, and_true, h.O, zev_eq (zCe_lk h b)]
    by_cases h1 : lk nb b = 0
    · obtain ⟨n, hn, rfl⟩ := lk_0 h.N h1
      have hN := h.N
      simp only [if_pos h1, nI_clamp (show n < 2 ^ 31 by omega), zev_b1, zev_bd, zev_some, zev_gi, zev_gj, zev_gr, zev_pi, zev_pz, zev_pj, zev_pr, zev_rc, zev_cc, zev_b0, zev_bo, true_and, and_true, h.O, h.r (show 0 < 14 by decide), h.bl.O, zev_eq (zCe_get h hn), (h.bs hn).O, (h.bs hn).ct]
      refine zev_mono (zCe_remember h hb) ?_
      rintro ⟨M1, u0⟩ hh
      dsimp only at hh ⊢
      obtain ⟨h2, f2, b2⟩ := hh
      simp only [h2.O, h2.r (show 11 < 14 by decide), zev_b1, zev_bd, zev_some, zev_gi, zev_gj, zev_gr, zev_pi, zev_pz, zev_pj, zev_pr, zev_rc, zev_cc, zev_b0, zev_bo, true_and, and_true, h2.be.1]
      refine zev_mono (zCe_keepb h2 hn (by decide) b2) ?_
      rintro ⟨M2, u1⟩ hh
      dsimp only at hh ⊢
      obtain ⟨g3, h3, f3, b3⟩ := hh
      have x3 := h3.bs hn
      rw [bup_self] at x3
      have f4 : zFo M2 g3 (zm_pi M2 (A n) 3 ct) g3 (fun z => z = 100 + 3 * n) := zFo.pi x3.2.1
      have x4 := x3.cents (c := ct) x3.mle.1
      refine ⟨x3.O, g3, A, AL, ?_, (f2.tr f3).tr (f4.mono (fun z q => show z ≠ 1 ∧ z ≠ 28 ∧ z ≠ 29 by first | omega | (dsimp only at q; omega))), b3.same rfl rfl⟩
      generalize zm_pi M2 (A n) 3 ct = M4 at f4 x4 ⊢
      obtain ⟨cN, cO, cB, cBs, cRw, cLl, cLs, cPk, cJu, cPp, cAc, cBl, cJr, cBo, cDr, cBe, cT1, cT2⟩ := h3
      have eb : bup bs n (bcts (bkeep (bs n)) ct) = bup (bup bs n (bkeep (bs n))) n (bcts (bkeep (bs n)) ct) := by
        funext c
        unfold bup
        split <;> rfl
      rw [eb]
      exact ⟨cN, cO.fr f4 (by first | omega | (dsimp only; omega)), cB.fr f4 (by first | omega | (dsimp only; omega)), cBs.up f4 x4 (fun c hc hcb => ⟨(by first | omega | (dsimp only; omega)), (by first | omega | (dsimp only; omega)), (by first | omega | (dsimp only; omega))⟩), cRw.fr f4 (by first | omega | (dsimp only; omega)) (fun r hr => (by first | omega | (dsimp only; omega))), cLl.fr f4 (by first | omega | (dsimp only; omega)), cLs.fr f4 (fun i hi => (by first | omega | (dsimp only; omega))), cPk.fr f4 (by first | omega | (dsimp only; omega)), cJu.fr f4 (by first | omega | (dsimp only; omega)), cPp.fr f4 (by first | omega | (dsimp only; omega)) (by first | omega | (dsimp only; omega)), cAc.fr f4 (by first | omega | (dsimp only; omega)) (fun h hh => (by first | omega | (dsimp only; omega))), cBl.fr f4 (by first | omega | (dsimp only; omega)), cJr.fr f4 (by first | omega | (dsimp only; omega)), cBo.fr f4 (by first | omega | (dsimp only; omega)), cDr.fr f4 (by first | omega | (dsimp only; omega)) (by first | omega | (dsimp only; omega)), cBe.fr f4 (by first | omega | (dsimp only; omega)) (by first | omega | (dsimp only; omega)) (by first | omega | (dsimp only; omega)), cT1.fr f4 (by first | omega | (dsimp only; omega)), cT2.fr f4 (by first | omega | (dsimp only; omega))⟩
    · simp only [if_neg h1, zev_b1, zev_bd, zev_some, zev_gi, zev_gj, zev_gr, zev_pi, zev_pz, zev_pj, zev_pr, zev_rc, zev_cc, zev_b0, zev_bo, true_and, and_true]
      exact ⟨g, A, AL, h, zFo.rf, hb⟩
  · simp only [zev_eq e, if_neg c1, if_true, zev_b1, zev_bd, zev_some, zev_gi, zev_gj, zev_gr, zev_pi, zev_pz, zev_pj, zev_pr, zev_rc, zev_cc, zev_b0, zev_bo, true_and, and_true]
    exact ⟨g, A, AL, h, zFo.rf, hb⟩
