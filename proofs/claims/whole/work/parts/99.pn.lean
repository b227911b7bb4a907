/-! The class's acts, whole: from what always holds. -/
theorem X_rack {M : Zm} {g : Zg} {A AL : Nat → Nat} {x : Nat} {adr : Nat → Nat} {ga k t : Nat} {c : Cs} (h : zCs M g A AL x adr ga c) (hJ : Jc t c) (ht : t < 512) (hb : zBu M g (k + 600)) (a b : Int32) (v : Int64) : zev (zf_X11_rack M (some x) a b v) (fun y => ∃ g' A' AL', zCs y.1 g' A' AL' x adr ga (sAct (sRack a b v) c).2 ∧ y.2 = (sAct (sRack a b v) c).1 ∧ zFo M g y.1 g' Tc ∧ zBu y.1 g' k) := by
  obtain ⟨nb, bs, ro, lb, ps, ac, jr, bo, mo, gi, tr, tp, wy, wh, tc, st, ds, dw, bf, ba, bc⟩ := c
  obtain ⟨jI, jR, jP, jJ, jB, jG, jF, jU⟩ := hJ
  refine C_act (fun M1 => zf_X11_rackWine M1 (some x) a b v) (sRack a b v) h hb k (fun M1 h1 b1 => ?_)
  simp only [zCs, sOpen] at h1
  exact C_rack h1 jI.mem jI.i60 (by omega) a b v (fun n m hn hm hc h5 hv1 hv2 => G_pok jI hn hm hc (by have := isml_i hv1; omega) hv2) (b1.mono (Nat.le_add_right _ _))
theorem X_label {M : Zm} {g : Zg} {A AL : Nat → Nat} {x : Nat} {adr : Nat → Nat} {ga k : Nat} {c : Cs} (h : zCs M g A AL x adr ga c) (hb : zBu M g (k + 600)) : zev (zf_X11_label M (some x)) (fun y => ∃ g' A' AL', zCs y.1 g' A' AL' x adr ga (sAct sLabel c).2 ∧ y.2 = (sAct sLabel c).1 ∧ zFo M g y.1 g' Tc ∧ zBu y.1 g' k) := by
  obtain ⟨nb, bs, ro, lb, ps, ac, jr, bo, mo, gi, tr, tp, wy, wh, tc, st, ds, dw, bf, ba, bc⟩ := c
  refine C_act (fun M1 => zf_X11_makeLabel M1 (some x)) sLabel h hb k (fun M1 h1 b1 => ?_)
  simp only [zCs, sOpen] at h1
  exact C_label h1 b1
theorem X_barrel {M : Zm} {g : Zg} {A AL : Nat → Nat} {x : Nat} {adr : Nat → Nat} {ga k t : Nat} {c : Cs} (h : zCs M g A AL x adr ga c) (hJ : Jc t c) (hb : zBu M g (k + 600)) (kd sz ct : Int32) : zev (zf_X11_barrel M (some x) kd sz ct) (fun y => ∃ g' A' AL', zCs y.1 g' A' AL' x adr ga (sAct (sBarrel kd sz ct) c).2 ∧ y.2 = (sAct (sBarrel kd sz ct) c).1 ∧ zFo M g y.1 g' Tc ∧ zBu y.1 g' k) := by
  obtain ⟨nb, bs, ro, lb, ps, ac, jr, bo, mo, gi, tr, tp, wy, wh, tc, st, ds, dw, bf, ba, bc⟩ := c
  obtain ⟨jI, jR, jP, jJ, jB, jG, jF, jU⟩ := hJ
  refine C_act (fun M1 => zf_X11_makeBarrel M1 (some x) kd sz ct) (sBarrel kd sz ct) h hb k (fun M1 h1 b1 => ?_)
  simp only [zCs, sOpen] at h1
  exact C_barrel h1 jR (fun q hq => (jP.1 q hq).1) kd sz ct b1
theorem X_breathe {M : Zm} {g : Zg} {A AL : Nat → Nat} {x : Nat} {adr : Nat → Nat} {ga k t : Nat} {c : Cs} (h : zCs M g A AL x adr ga c) (hJ : Jc t c) (ht : t < 512) (hb : zBu M g (k + 600)) (m : Int32) : zev (zf_X11_breathe M (some x) m) (fun y => ∃ g' A' AL', zCs y.1 g' A' AL' x adr ga (sAct (sBreathe m) c).2 ∧ y.2 = (sAct (sBreathe m) c).1 ∧ zFo M g y.1 g' Tc ∧ zBu y.1 g' k) := by
  obtain ⟨nb, bs, ro, lb, ps, ac, jr, bo, mo, gi, tr, tp, wy, wh, tc, st, ds, dw, bf, ba, bc⟩ := c
  obtain ⟨jI, jR, jP, jJ, jB, jG, jF, jU⟩ := hJ
  refine C_act (fun M1 => zf_X11_letMonthsGoBy M1 (some x) m) (sBreathe m) h hb k (fun M1 h1 b1 => ?_)
  simp only [zCs, sOpen] at h1
  exact C_breathe h1 (fun b hb => G_wok jI hb) (G_ca jI 1 (by decide)) (by omega) m (b1.mono (Nat.le_add_right _ _))
theorem X_blend {M : Zm} {g : Zg} {A AL : Nat → Nat} {x : Nat} {adr : Nat → Nat} {ga k t : Nat} {c : Cs} (h : zCs M g A AL x adr ga c) (hJ : Jc t c) (ht : t < 512) (hb : zBu M g (k + 600)) (b : Int32) : zev (zf_X11_blend M (some x) b) (fun y => ∃ g' A' AL', zCs y.1 g' A' AL' x adr ga (sAct (sBlend b) c).2 ∧ y.2 = (sAct (sBlend b) c).1 ∧ zFo M g y.1 g' Tc ∧ zBu y.1 g' k) := by
  obtain ⟨nb, bs, ro, lb, ps, ac, jr, bo, mo, gi, tr, tp, wy, wh, tc, st, ds, dw, bf, ba, bc⟩ := c
  obtain ⟨jI, jR, jP, jJ, jB, jG, jF, jU⟩ := hJ
  refine C_act (fun M1 => zf_X11_blendInto M1 (some x) b) (sBlend b) h hb k (fun M1 h1 b1 => ?_)
  simp only [zCs, sOpen] at h1
  exact C_blend h1 jI.mem jI.i60 (fun q hq => (jP.1 q hq).1) (by omega) b (fun m hm h5 c6 c7 c8 c9 => G_bok jI jP hm c6 c7 c8 c9) (b1.mono (Nat.le_add_right _ _))
theorem X_judge {M : Zm} {g : Zg} {A AL : Nat → Nat} {x : Nat} {adr : Nat → Nat} {ga k t : Nat} {c : Cs} (h : zCs M g A AL x adr ga c) (hJ : Jc t c) (hb : zBu M g (k + 600)) (b l : Int32) : zev (zf_X11_judge M (some x) b l) (fun y => ∃ g' A' AL', zCs y.1 g' A' AL' x adr ga (sAct (sJudge b l) c).2 ∧ y.2 = (sAct (sJudge b l) c).1 ∧ zFo M g y.1 g' Tc ∧ zBu y.1 g' k) := by
  obtain ⟨nb, bs, ro, lb, ps, ac, jr, bo, mo, gi, tr, tp, wy, wh, tc, st, ds, dw, bf, ba, bc⟩ := c
  obtain ⟨jI, jR, jP, jJ, jB, jG, jF, jU⟩ := hJ
  refine C_act (fun M1 => zf_X11_judgeBarrel M1 (some x) b l) (sJudge b l) h hb k (fun M1 h1 b1 => ?_)
  simp only [zCs, sOpen] at h1
  exact C_judge h1 jI.mem jI.i60 b l (b1.mono (Nat.le_add_right _ _))
