/-! The class's acts, whole: wash, topUp. -/
theorem X_wash {M : Zm} {g : Zg} {A AL : Nat → Nat} {x : Nat} {adr : Nat → Nat} {ga k t : Nat} {c : Cs} (h : zCs M g A AL x adr ga c) (hJ : Jc t c) (ht : t < 512) (hb : zBu M g (k + 600)) (b : Int32) : zev (zf_X11_wash M (some x) b) (fun y => ∃ g' A' AL', zCs y.1 g' A' AL' x adr ga (sAct (sWash b) c).2 ∧ y.2 = (sAct (sWash b) c).1 ∧ zFo M g y.1 g' Tc ∧ zBu y.1 g' k) := by
  obtain ⟨nb, bs, ro, lb, ps, ac, jr, bo, mo, gi, tr, tp, wy, wh, tc, st, ds, dw, bf, ba, bc⟩ := c
  obtain ⟨jI, jR, jP, jJ, jB, jG, jF, jU⟩ := hJ
  refine C_act (fun M1 => zf_X11_washVessel M1 (some x) b) (sWash b) h hb k (fun M1 h1 b1 => ?_)
  simp only [zCs, sOpen] at h1
  refine C_wash h1 jI.mem jI.i60 (G_ca jI) (by omega) b (fun n hn h5 => ?_) (b1.mono (Nat.le_add_right _ _))
  have hw := jI.wp n hn
  have e : (wsum (bs n).2.1.2.2.2).toInt = (nT (bs n).2.1.2.2.2 : Int) := by rw [jI.sum hn, pk_lT (by omega)]
  by_cases z : nT (bs n).2.1.2.2.2 = 0
  · have e0 : dlst bs n (wsum (bs n).2.1.2.2.2) = [] := by
      unfold dlst
      rw [if_neg h5, if_pos (le0_toInt.mpr (by omega))]
    rw [e0]
    exact ⟨fun q hq => absurd hq List.not_mem_nil, fun i j q r hi => by simp at hi⟩
  · exact G_dokV jI hn h5 (by omega) (by omega)
theorem X_top {M : Zm} {g : Zg} {A AL : Nat → Nat} {x : Nat} {adr : Nat → Nat} {ga k t : Nat} {c : Cs} (h : zCs M g A AL x adr ga c) (hJ : Jc t c) (ht : t < 512) (hb : zBu M g (k + 600)) (b a : Int32) : zev (zf_X11_topUp M (some x) b a) (fun y => ∃ g' A' AL', zCs y.1 g' A' AL' x adr ga (sAct (sTop b a) c).2 ∧ y.2 = (sAct (sTop b a) c).1 ∧ zFo M g y.1 g' Tc ∧ zBu y.1 g' k) := by
  obtain ⟨nb, bs, ro, lb, ps, ac, jr, bo, mo, gi, tr, tp, wy, wh, tc, st, ds, dw, bf, ba, bc⟩ := c
  obtain ⟨jI, jR, jP, jJ, jB, jG, jF, jU⟩ := hJ
  refine C_act (fun M1 => zf_X11_topUpVessel M1 (some x) b a) (sTop b a) h hb k (fun M1 h1 b1 => ?_)
  simp only [zCs, sOpen] at h1
  refine C_top h1 jI.mem jI.i60 (by omega) b a (fun n m hn hm hc h5 hv1 hv2 => ?_) (b1.mono (Nat.le_add_right _ _))
  obtain ⟨mx, mx1, mx2, mx3, mx4⟩ := vt_i jI hm h5
  obtain ⟨sp, sp1, sp2⟩ := jI.bsp hn
  have hsub : btak bs (bs m) - wsum (bs m).2.1.2.2.2 = lN (mx - nT (bs m).2.1.2.2.2) := by
    rw [mx2]
    conv => lhs; rw [jI.sum hm]
    rw [lN_sub mx4]
  rw [hsub, Int64.lt_iff_toInt_lt, pk_lT (by omega)] at hv1
  have e0 : (0 : Int64).toInt = 0 := rfl
  have hsp : sp ≠ 0 := fun e => hv2 (by rw [sp2, e]; rfl)
  rw [hsub, sp2, zminl_N (by omega) (by omega)]
  refine G_pok jI hn hm hc (by rw [pk_lT (by omega)]; omega) ?_
  rw [sp2]
  exact (pk_lLE (by omega) (by omega)).mpr (by omega)
