/-! The class's acts, whole: the rest. -/
theorem X_worth {M : Zm} {g : Zg} {A AL : Nat → Nat} {x : Nat} {adr : Nat → Nat} {ga k t : Nat} {c : Cs} (h : zCs M g A AL x adr ga c) (hJ : Jc t c) (ht : t < 512) (hb : zBu M g (k + 600)) (b ct : Int32) : zev (zf_X11_worth M (some x) b ct) (fun y => ∃ g' A' AL', zCs y.1 g' A' AL' x adr ga (sAct (sWorth b ct) c).2 ∧ y.2 = (sAct (sWorth b ct) c).1 ∧ zFo M g y.1 g' Tc ∧ zBu y.1 g' k) := by
  obtain ⟨nb, bs, ro, lb, ps, ac, jr, bo, mo, gi, tr, tp, wy, wh, tc, st, ds, dw, bf, ba, bc⟩ := c
  obtain ⟨jI, jR, jP, jJ, jB, jG, jF, jU⟩ := hJ
  refine C_act (fun M1 => zf_X11_tellCents M1 (some x) b ct) (sWorth b ct) h hb k (fun M1 h1 b1 => ?_)
  simp only [zCs, sOpen] at h1
  exact C_worth h1 b ct (b1.mono (Nat.le_add_right _ _))
theorem X_pick {M : Zm} {g : Zg} {A AL : Nat → Nat} {x : Nat} {adr : Nat → Nat} {ga k t : Nat} {c : Cs} (h : zCs M g A AL x adr ga c) (hJ : Jc t c) (ht : t < 512) (hb : zBu M g (k + 600)) (b : Int32) (v : Int64) : zev (zf_X11_pick M (some x) b v) (fun y => ∃ g' A' AL', zCs y.1 g' A' AL' x adr ga (sAct (sPick b v) c).2 ∧ y.2 = (sAct (sPick b v) c).1 ∧ zFo M g y.1 g' Tc ∧ zBu y.1 g' k) := by
  obtain ⟨nb, bs, ro, lb, ps, ac, jr, bo, mo, gi, tr, tp, wy, wh, tc, st, ds, dw, bf, ba, bc⟩ := c
  obtain ⟨jI, jR, jP, jJ, jB, jG, jF, jU⟩ := hJ
  refine C_act (fun M1 => zf_X11_pickBarrel M1 (some x) b v) (sPick b v) h hb k (fun M1 h1 b1 => ?_)
  simp only [zCs, sOpen] at h1
  exact C_pick h1 (fun q hq => (jP.1 q hq).1) b v (b1.mono (Nat.le_add_right _ _))
theorem X_rule {M : Zm} {g : Zg} {A AL : Nat → Nat} {x : Nat} {adr : Nat → Nat} {ga k t : Nat} {c : Cs} (h : zCs M g A AL x adr ga c) (hJ : Jc t c) (ht : t < 512) (hb : zBu M g (k + 600)) (l op d v hd : Int32) : zev (zf_X11_rule M (some x) l op d v hd) (fun y => ∃ g' A' AL', zCs y.1 g' A' AL' x adr ga (sAct (sRule l op d v hd) c).2 ∧ y.2 = (sAct (sRule l op d v hd) c).1 ∧ zFo M g y.1 g' Tc ∧ zBu y.1 g' k) := by
  obtain ⟨nb, bs, ro, lb, ps, ac, jr, bo, mo, gi, tr, tp, wy, wh, tc, st, ds, dw, bf, ba, bc⟩ := c
  obtain ⟨jI, jR, jP, jJ, jB, jG, jF, jU⟩ := hJ
  refine C_act (fun M1 => zf_X11_makeRule M1 (some x) l op d v hd) (sRule l op d v hd) h hb k (fun M1 h1 b1 => ?_)
  simp only [zCs, sOpen] at h1
  exact C_rule h1 l op d v hd (b1.mono (Nat.le_add_right _ _))
theorem X_join {M : Zm} {g : Zg} {A AL : Nat → Nat} {x : Nat} {adr : Nat → Nat} {ga k t : Nat} {c : Cs} (h : zCs M g A AL x adr ga c) (hJ : Jc t c) (ht : t < 512) (hb : zBu M g (k + 600)) (c0 b : Int32) : zev (zf_X11_join M (some x) c0 b) (fun y => ∃ g' A' AL', zCs y.1 g' A' AL' x adr ga (sAct (sJoin c0 b) c).2 ∧ y.2 = (sAct (sJoin c0 b) c).1 ∧ zFo M g y.1 g' Tc ∧ zBu y.1 g' k) := by
  obtain ⟨nb, bs, ro, lb, ps, ac, jr, bo, mo, gi, tr, tp, wy, wh, tc, st, ds, dw, bf, ba, bc⟩ := c
  obtain ⟨jI, jR, jP, jJ, jB, jG, jF, jU⟩ := hJ
  refine C_act (fun M1 => zf_X11_joinCask M1 (some x) c0 b) (sJoin c0 b) h hb k (fun M1 h1 b1 => ?_)
  simp only [zCs, sOpen] at h1
  exact C_join h1 c0 b (b1.mono (Nat.le_add_right _ _))
theorem X_leave {M : Zm} {g : Zg} {A AL : Nat → Nat} {x : Nat} {adr : Nat → Nat} {ga k t : Nat} {c : Cs} (h : zCs M g A AL x adr ga c) (hJ : Jc t c) (ht : t < 512) (hb : zBu M g (k + 600)) (c0 : Int32) : zev (zf_X11_leave M (some x) c0) (fun y => ∃ g' A' AL', zCs y.1 g' A' AL' x adr ga (sAct (sLeave c0) c).2 ∧ y.2 = (sAct (sLeave c0) c).1 ∧ zFo M g y.1 g' Tc ∧ zBu y.1 g' k) := by
  obtain ⟨nb, bs, ro, lb, ps, ac, jr, bo, mo, gi, tr, tp, wy, wh, tc, st, ds, dw, bf, ba, bc⟩ := c
  obtain ⟨jI, jR, jP, jJ, jB, jG, jF, jU⟩ := hJ
  refine C_act (fun M1 => zf_X11_leaveCask M1 (some x) c0) (sLeave c0) h hb k (fun M1 h1 b1 => ?_)
  simp only [zCs, sOpen] at h1
  exact C_leave h1 jI.mem c0 (b1.mono (Nat.le_add_right _ _))
theorem X_lay {M : Zm} {g : Zg} {A AL : Nat → Nat} {x : Nat} {adr : Nat → Nat} {ga k t : Nat} {c : Cs} (h : zCs M g A AL x adr ga c) (hJ : Jc t c) (ht : t < 512) (hb : zBu M g (k + 600)) (b r p : Int32) : zev (zf_X11_lay M (some x) b r p) (fun y => ∃ g' A' AL', zCs y.1 g' A' AL' x adr ga (sAct (sLay b r p) c).2 ∧ y.2 = (sAct (sLay b r p) c).1 ∧ zFo M g y.1 g' Tc ∧ zBu y.1 g' k) := by
  obtain ⟨nb, bs, ro, lb, ps, ac, jr, bo, mo, gi, tr, tp, wy, wh, tc, st, ds, dw, bf, ba, bc⟩ := c
  obtain ⟨jI, jR, jP, jJ, jB, jG, jF, jU⟩ := hJ
  refine C_act (fun M1 => zf_X11_layBarrel M1 (some x) b r p) (sLay b r p) h hb k (fun M1 h1 b1 => ?_)
  simp only [zCs, sOpen] at h1
  exact C_lay h1 b r p (b1.mono (Nat.le_add_right _ _))
theorem X_lift {M : Zm} {g : Zg} {A AL : Nat → Nat} {x : Nat} {adr : Nat → Nat} {ga k t : Nat} {c : Cs} (h : zCs M g A AL x adr ga c) (hJ : Jc t c) (ht : t < 512) (hb : zBu M g (k + 600)) (r p : Int32) : zev (zf_X11_lift M (some x) r p) (fun y => ∃ g' A' AL', zCs y.1 g' A' AL' x adr ga (sAct (sLift r p) c).2 ∧ y.2 = (sAct (sLift r p) c).1 ∧ zFo M g y.1 g' Tc ∧ zBu y.1 g' k) := by
  obtain ⟨nb, bs, ro, lb, ps, ac, jr, bo, mo, gi, tr, tp, wy, wh, tc, st, ds, dw, bf, ba, bc⟩ := c
  obtain ⟨jI, jR, jP, jJ, jB, jG, jF, jU⟩ := hJ
  refine C_act (fun M1 => zf_X11_liftBarrel M1 (some x) r p) (sLift r p) h hb k (fun M1 h1 b1 => ?_)
  simp only [zCs, sOpen] at h1
  exact C_lift h1 r p (b1.mono (Nat.le_add_right _ _))
theorem X_row {M : Zm} {g : Zg} {A AL : Nat → Nat} {x : Nat} {adr : Nat → Nat} {ga k t : Nat} {c : Cs} (h : zCs M g A AL x adr ga c) (hJ : Jc t c) (ht : t < 512) (hb : zBu M g (k + 600)) (r kd n : Int32) : zev (zf_X11_row M (some x) r kd n) (fun y => ∃ g' A' AL', zCs y.1 g' A' AL' x adr ga (sAct (sRow r kd n) c).2 ∧ y.2 = (sAct (sRow r kd n) c).1 ∧ zFo M g y.1 g' Tc ∧ zBu y.1 g' k) := by
  obtain ⟨nb, bs, ro, lb, ps, ac, jr, bo, mo, gi, tr, tp, wy, wh, tc, st, ds, dw, bf, ba, bc⟩ := c
  obtain ⟨jI, jR, jP, jJ, jB, jG, jF, jU⟩ := hJ
  refine C_act (fun M1 => zf_X11_buildRow M1 (some x) r kd n) (sRow r kd n) h hb k (fun M1 h1 b1 => ?_)
  simp only [zCs, sOpen] at h1
  exact C_row h1 r kd n b1
theorem X_fill {M : Zm} {g : Zg} {A AL : Nat → Nat} {x : Nat} {adr : Nat → Nat} {ga k t : Nat} {c : Cs} (h : zCs M g A AL x adr ga c) (hJ : Jc t c) (ht : t < 512) (hb : zBu M g (k + 600)) (b p : Int32) (v : Int64) : zev (zf_X11_fill M (some x) b p v) (fun y => ∃ g' A' AL', zCs y.1 g' A' AL' x adr ga (sAct (sFill b p v) c).2 ∧ y.2 = (sAct (sFill b p v) c).1 ∧ zFo M g y.1 g' Tc ∧ zBu y.1 g' k) := by
  obtain ⟨nb, bs, ro, lb, ps, ac, jr, bo, mo, gi, tr, tp, wy, wh, tc, st, ds, dw, bf, ba, bc⟩ := c
  obtain ⟨jI, jR, jP, jJ, jB, jG, jF, jU⟩ := hJ
  refine C_act (fun M1 => zf_X11_fillVessel M1 (some x) b p v) (sFill b p v) h hb k (fun M1 h1 b1 => ?_)
  simp only [zCs, sOpen] at h1
  exact C_fill h1 jI.mem jI.i60 (G_ca jI 0 (by decide)) (by omega) b p v (b1.mono (Nat.le_add_right _ _))
theorem X_drain {M : Zm} {g : Zg} {A AL : Nat → Nat} {x : Nat} {adr : Nat → Nat} {ga k t : Nat} {c : Cs} (h : zCs M g A AL x adr ga c) (hJ : Jc t c) (ht : t < 512) (hb : zBu M g (k + 600)) (b : Int32) (v : Int64) (how : Int32) : zev (zf_X11_drain M (some x) b v how) (fun y => ∃ g' A' AL', zCs y.1 g' A' AL' x adr ga (sAct (sDrain b v how) c).2 ∧ y.2 = (sAct (sDrain b v how) c).1 ∧ zFo M g y.1 g' Tc ∧ zBu y.1 g' k) := by
  obtain ⟨nb, bs, ro, lb, ps, ac, jr, bo, mo, gi, tr, tp, wy, wh, tc, st, ds, dw, bf, ba, bc⟩ := c
  obtain ⟨jI, jR, jP, jJ, jB, jG, jF, jU⟩ := hJ
  refine C_act (fun M1 => zf_X11_drainVessel M1 (some x) b v how) (sDrain b v how) h hb k (fun M1 h1 b1 => ?_)
  simp only [zCs, sOpen] at h1
  exact C_drain h1 jI.mem jI.i60 (G_ca jI) (by omega) b v how (fun n hn h5 hv1 hv2 => G_dokV jI hn h5 (by have := isml_i hv1; omega) (by rw [jI.sum hn, i64_le, pk_lT (by have := (jI.wp n hn).2; omega)] at hv2; exact hv2)) (b1.mono (Nat.le_add_right _ _))
theorem X_undo {M : Zm} {g : Zg} {A AL : Nat → Nat} {x : Nat} {adr : Nat → Nat} {ga k t : Nat} {c : Cs} (h : zCs M g A AL x adr ga c) (hJ : Jc t c) (ht : t < 512) (hb : zBu M g (k + 600))  : zev (zf_X11_undo M (some x)) (fun y => ∃ g' A' AL', zCs y.1 g' A' AL' x adr ga (sAct sUndo c).2 ∧ y.2 = (sAct sUndo c).1 ∧ zFo M g y.1 g' Tc ∧ zBu y.1 g' k) := by
  obtain ⟨nb, bs, ro, lb, ps, ac, jr, bo, mo, gi, tr, tp, wy, wh, tc, st, ds, dw, bf, ba, bc⟩ := c
  obtain ⟨jI, jR, jP, jJ, jB, jG, jF, jU⟩ := hJ
  refine C_act (fun M1 => zf_X11_takeBack M1 (some x)) sUndo h hb k (fun M1 h1 b1 => ?_)
  simp only [zCs, sOpen] at h1
  exact C_undo h1 (fun z => (jU z).1) (b1.mono (Nat.le_add_right _ _))
