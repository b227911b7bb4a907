/-! Each call, on both sides. -/
theorem S_row {m x ga t : Nat} {ad adr : Nat → Nat} {M : Zm} (ht : t < 512) (h : Gl m ad x adr ga t M) (a0 : Int32) (a1 : Int32) (a2 : Int32) : zev (zf_X11_row M (some x) a0 a1 a2) (fun y1 => zO y1.1 m 13 ∧ zev (zf_X12_row y1.1 (some m) a0 a1 a2) (fun y2 => y1.2 = y2.2 ∧ Gl m ad x adr ga (t + 1) y2.1)) :=
  G_act (fun M => zf_X11_row M (some x) a0 a1 a2) (fun M => zf_X12_row M (some m) a0 a1 a2) (fun Q => mf_row Q a0 a1 a2) (sRow a0 a1 a2) ht (fun g A AL c k h1 hJ hb => by exact X_row h1 hJ ht hb a0 a1 a2) (fun M0 g0 k M Q hr => ms_row hr a0 a1 a2) (fun c Q kc hJ hR => N_row hJ (by omega) hR a0 a1 a2) h
theorem S_barrel {m x ga t : Nat} {ad adr : Nat → Nat} {M : Zm} (ht : t < 512) (h : Gl m ad x adr ga t M) (a0 : Int32) (a1 : Int32) (a2 : Int32) : zev (zf_X11_barrel M (some x) a0 a1 a2) (fun y1 => zO y1.1 m 13 ∧ zev (zf_X12_barrel y1.1 (some m) a0 a1 a2) (fun y2 => y1.2 = y2.2 ∧ Gl m ad x adr ga (t + 1) y2.1)) :=
  G_act (fun M => zf_X11_barrel M (some x) a0 a1 a2) (fun M => zf_X12_barrel M (some m) a0 a1 a2) (fun Q => mf_barrel Q a0 a1 a2) (sBarrel a0 a1 a2) ht (fun g A AL c k h1 hJ hb => by exact X_barrel h1 hJ hb a0 a1 a2) (fun M0 g0 k M Q hr => ms_barrel hr a0 a1 a2) (fun c Q kc hJ hR => N_barrel hJ (by omega) hR a0 a1 a2) h
theorem S_join {m x ga t : Nat} {ad adr : Nat → Nat} {M : Zm} (ht : t < 512) (h : Gl m ad x adr ga t M) (a0 : Int32) (a1 : Int32) : zev (zf_X11_join M (some x) a0 a1) (fun y1 => zO y1.1 m 13 ∧ zev (zf_X12_join y1.1 (some m) a0 a1) (fun y2 => y1.2 = y2.2 ∧ Gl m ad x adr ga (t + 1) y2.1)) :=
  G_act (fun M => zf_X11_join M (some x) a0 a1) (fun M => zf_X12_join M (some m) a0 a1) (fun Q => mf_join Q a0 a1) (sJoin a0 a1) ht (fun g A AL c k h1 hJ hb => by exact X_join h1 hJ ht hb a0 a1) (fun M0 g0 k M Q hr => ms_join hr a0 a1) (fun c Q kc hJ hR => N_join hJ (by omega) hR a0 a1) h
theorem S_leave {m x ga t : Nat} {ad adr : Nat → Nat} {M : Zm} (ht : t < 512) (h : Gl m ad x adr ga t M) (a0 : Int32) : zev (zf_X11_leave M (some x) a0) (fun y1 => zO y1.1 m 13 ∧ zev (zf_X12_leave y1.1 (some m) a0) (fun y2 => y1.2 = y2.2 ∧ Gl m ad x adr ga (t + 1) y2.1)) :=
  G_act (fun M => zf_X11_leave M (some x) a0) (fun M => zf_X12_leave M (some m) a0) (fun Q => mf_leave Q a0) (sLeave a0) ht (fun g A AL c k h1 hJ hb => by exact X_leave h1 hJ ht hb a0) (fun M0 g0 k M Q hr => ms_leave hr a0) (fun c Q kc hJ hR => N_leave hJ (by omega) hR a0) h
theorem S_lay {m x ga t : Nat} {ad adr : Nat → Nat} {M : Zm} (ht : t < 512) (h : Gl m ad x adr ga t M) (a0 : Int32) (a1 : Int32) (a2 : Int32) : zev (zf_X11_lay M (some x) a0 a1 a2) (fun y1 => zO y1.1 m 13 ∧ zev (zf_X12_lay y1.1 (some m) a0 a1 a2) (fun y2 => y1.2 = y2.2 ∧ Gl m ad x adr ga (t + 1) y2.1)) :=
  G_act (fun M => zf_X11_lay M (some x) a0 a1 a2) (fun M => zf_X12_lay M (some m) a0 a1 a2) (fun Q => mf_lay Q a0 a1 a2) (sLay a0 a1 a2) ht (fun g A AL c k h1 hJ hb => by exact X_lay h1 hJ ht hb a0 a1 a2) (fun M0 g0 k M Q hr => ms_lay hr a0 a1 a2) (fun c Q kc hJ hR => N_lay hJ (by omega) hR a0 a1 a2) h
theorem S_lift {m x ga t : Nat} {ad adr : Nat → Nat} {M : Zm} (ht : t < 512) (h : Gl m ad x adr ga t M) (a0 : Int32) (a1 : Int32) : zev (zf_X11_lift M (some x) a0 a1) (fun y1 => zO y1.1 m 13 ∧ zev (zf_X12_lift y1.1 (some m) a0 a1) (fun y2 => y1.2 = y2.2 ∧ Gl m ad x adr ga (t + 1) y2.1)) :=
  G_act (fun M => zf_X11_lift M (some x) a0 a1) (fun M => zf_X12_lift M (some m) a0 a1) (fun Q => mf_lift Q a0 a1) (sLift a0 a1) ht (fun g A AL c k h1 hJ hb => by exact X_lift h1 hJ ht hb a0 a1) (fun M0 g0 k M Q hr => ms_lift hr a0 a1) (fun c Q kc hJ hR => N_lift hJ (by omega) hR a0 a1) h
theorem S_worth {m x ga t : Nat} {ad adr : Nat → Nat} {M : Zm} (ht : t < 512) (h : Gl m ad x adr ga t M) (a0 : Int32) (a1 : Int32) : zev (zf_X11_worth M (some x) a0 a1) (fun y1 => zO y1.1 m 13 ∧ zev (zf_X12_worth y1.1 (some m) a0 a1) (fun y2 => y1.2 = y2.2 ∧ Gl m ad x adr ga (t + 1) y2.1)) :=
  G_act (fun M => zf_X11_worth M (some x) a0 a1) (fun M => zf_X12_worth M (some m) a0 a1) (fun Q => mf_worth Q a0 a1) (sWorth a0 a1) ht (fun g A AL c k h1 hJ hb => by exact X_worth h1 hJ ht hb a0 a1) (fun M0 g0 k M Q hr => ms_worth hr a0 a1) (fun c Q kc hJ hR => N_worth hJ (by omega) hR a0 a1) h
theorem S_fill {m x ga t : Nat} {ad adr : Nat → Nat} {M : Zm} (ht : t < 512) (h : Gl m ad x adr ga t M) (a0 : Int32) (a1 : Int32) (a2 : Int64) : zev (zf_X11_fill M (some x) a0 a1 a2) (fun y1 => zO y1.1 m 13 ∧ zev (zf_X12_fill y1.1 (some m) a0 a1 a2) (fun y2 => y1.2 = y2.2 ∧ Gl m ad x adr ga (t + 1) y2.1)) :=
  G_act (fun M => zf_X11_fill M (some x) a0 a1 a2) (fun M => zf_X12_fill M (some m) a0 a1 a2) (fun Q => mf_fill Q a0 a1 a2) (sFill a0 a1 a2) ht (fun g A AL c k h1 hJ hb => by exact X_fill h1 hJ ht hb a0 a1 a2) (fun M0 g0 k M Q hr => ms_fill hr a0 a1 a2) (fun c Q kc hJ hR => N_fill hJ ht hR a0 a1 a2) h
theorem S_rack {m x ga t : Nat} {ad adr : Nat → Nat} {M : Zm} (ht : t < 512) (h : Gl m ad x adr ga t M) (a0 : Int32) (a1 : Int32) (a2 : Int64) : zev (zf_X11_rack M (some x) a0 a1 a2) (fun y1 => zO y1.1 m 13 ∧ zev (zf_X12_rack y1.1 (some m) a0 a1 a2) (fun y2 => y1.2 = y2.2 ∧ Gl m ad x adr ga (t + 1) y2.1)) :=
  G_act (fun M => zf_X11_rack M (some x) a0 a1 a2) (fun M => zf_X12_rack M (some m) a0 a1 a2) (fun Q => mf_rack Q a0 a1 a2) (sRack a0 a1 a2) ht (fun g A AL c k h1 hJ hb => by exact X_rack h1 hJ ht hb a0 a1 a2) (fun M0 g0 k M Q hr => ms_rack hr a0 a1 a2) (fun c Q kc hJ hR => N_rack hJ ht hR a0 a1 a2) h
theorem S_topUp {m x ga t : Nat} {ad adr : Nat → Nat} {M : Zm} (ht : t < 512) (h : Gl m ad x adr ga t M) (a0 : Int32) (a1 : Int32) : zev (zf_X11_topUp M (some x) a0 a1) (fun y1 => zO y1.1 m 13 ∧ zev (zf_X12_topUp y1.1 (some m) a0 a1) (fun y2 => y1.2 = y2.2 ∧ Gl m ad x adr ga (t + 1) y2.1)) :=
  G_act (fun M => zf_X11_topUp M (some x) a0 a1) (fun M => zf_X12_topUp M (some m) a0 a1) (fun Q => mf_topUp Q a0 a1) (sTop a0 a1) ht (fun g A AL c k h1 hJ hb => by exact X_top h1 hJ ht hb a0 a1) (fun M0 g0 k M Q hr => ms_topUp hr a0 a1) (fun c Q kc hJ hR => N_top hJ ht hR a0 a1) h
theorem S_pick {m x ga t : Nat} {ad adr : Nat → Nat} {M : Zm} (ht : t < 512) (h : Gl m ad x adr ga t M) (a0 : Int32) (a1 : Int64) : zev (zf_X11_pick M (some x) a0 a1) (fun y1 => zO y1.1 m 13 ∧ zev (zf_X12_pick y1.1 (some m) a0 a1) (fun y2 => y1.2 = y2.2 ∧ Gl m ad x adr ga (t + 1) y2.1)) :=
  G_act (fun M => zf_X11_pick M (some x) a0 a1) (fun M => zf_X12_pick M (some m) a0 a1) (fun Q => mf_pick Q a0 a1) (sPick a0 a1) ht (fun g A AL c k h1 hJ hb => by exact X_pick h1 hJ ht hb a0 a1) (fun M0 g0 k M Q hr => ms_pick hr a0 a1) (fun c Q kc hJ hR => N_pick hJ hR a0 a1) h
theorem S_forget {m x ga t : Nat} {ad adr : Nat → Nat} {M : Zm} (ht : t < 512) (h : Gl m ad x adr ga t M)  : zev (zf_X11_forget M (some x)) (fun y1 => zO y1.1 m 13 ∧ zev (zf_X12_forget y1.1 (some m)) (fun y2 => y1.2 = y2.2 ∧ Gl m ad x adr ga (t + 1) y2.1)) :=
  G_act (fun M => zf_X11_forget M (some x)) (fun M => zf_X12_forget M (some m)) (fun Q => mf_forget Q) sForget ht (fun g A AL c k h1 hJ hb => by obtain ⟨nb, bs, ro, lb, ps, ac, jr, bo, mo, gi, tr, tp, wy, wh, tc, st, ds, dw, bf, ba, bc⟩ := c; obtain ⟨jI, jR, jP, jJ, jB, jG, jF, jU⟩ := hJ; exact C_forget h1 (hb.mono (Nat.le_add_right _ _))) (fun M0 g0 k M Q hr => ms_forget hr) (fun c Q kc hJ hR => N_forget hJ hR) h
theorem S_blend {m x ga t : Nat} {ad adr : Nat → Nat} {M : Zm} (ht : t < 512) (h : Gl m ad x adr ga t M) (a0 : Int32) : zev (zf_X11_blend M (some x) a0) (fun y1 => zO y1.1 m 13 ∧ zev (zf_X12_blend y1.1 (some m) a0) (fun y2 => y1.2 = y2.2 ∧ Gl m ad x adr ga (t + 1) y2.1)) :=
  G_act (fun M => zf_X11_blend M (some x) a0) (fun M => zf_X12_blend M (some m) a0) (fun Q => mf_blend Q a0) (sBlend a0) ht (fun g A AL c k h1 hJ hb => by exact X_blend h1 hJ ht hb a0) (fun M0 g0 k M Q hr => ms_blend hr a0) (fun c Q kc hJ hR => N_blend hJ ht hR a0) h
theorem S_breathe {m x ga t : Nat} {ad adr : Nat → Nat} {M : Zm} (ht : t < 512) (h : Gl m ad x adr ga t M) (a0 : Int32) : zev (zf_X11_breathe M (some x) a0) (fun y1 => zO y1.1 m 13 ∧ zev (zf_X12_breathe y1.1 (some m) a0) (fun y2 => y1.2 = y2.2 ∧ Gl m ad x adr ga (t + 1) y2.1)) :=
  G_act (fun M => zf_X11_breathe M (some x) a0) (fun M => zf_X12_breathe M (some m) a0) (fun Q => mf_breathe Q a0) (sBreathe a0) ht (fun g A AL c k h1 hJ hb => by exact X_breathe h1 hJ ht hb a0) (fun M0 g0 k M Q hr => ms_breathe hr a0) (fun c Q kc hJ hR => N_breathe hJ ht hR a0) h
theorem S_bottle {m x ga t : Nat} {ad adr : Nat → Nat} {M : Zm} (ht : t < 512) (h : Gl m ad x adr ga t M) (a0 : Int32) (a1 : Int32) (a2 : Int64) : zev (zf_X11_bottle M (some x) a0 a1 a2) (fun y1 => zO y1.1 m 13 ∧ zev (zf_X12_bottle y1.1 (some m) a0 a1 a2) (fun y2 => y1.2 = y2.2 ∧ Gl m ad x adr ga (t + 1) y2.1)) :=
  G_act (fun M => zf_X11_bottle M (some x) a0 a1 a2) (fun M => zf_X12_bottle M (some m) a0 a1 a2) (fun Q => mf_bottle Q a0 a1 a2) (sBottle a0 a1 a2) ht (fun g A AL c k h1 hJ hb => by exact X_bottle h1 hJ ht hb a0 a1 a2) (fun M0 g0 k M Q hr => ms_bottle hr a0 a1 a2) (fun c Q kc hJ hR => N_bottle hJ ht hR a0 a1 a2) h
theorem S_drain {m x ga t : Nat} {ad adr : Nat → Nat} {M : Zm} (ht : t < 512) (h : Gl m ad x adr ga t M) (a0 : Int32) (a1 : Int64) (a2 : Int32) : zev (zf_X11_drain M (some x) a0 a1 a2) (fun y1 => zO y1.1 m 13 ∧ zev (zf_X12_drain y1.1 (some m) a0 a1 a2) (fun y2 => y1.2 = y2.2 ∧ Gl m ad x adr ga (t + 1) y2.1)) :=
  G_act (fun M => zf_X11_drain M (some x) a0 a1 a2) (fun M => zf_X12_drain M (some m) a0 a1 a2) (fun Q => mf_drain Q a0 a1 a2) (sDrain a0 a1 a2) ht (fun g A AL c k h1 hJ hb => by exact X_drain h1 hJ ht hb a0 a1 a2) (fun M0 g0 k M Q hr => ms_drain hr a0 a1 a2) (fun c Q kc hJ hR => N_drain hJ ht hR a0 a1 a2) h
theorem S_wash {m x ga t : Nat} {ad adr : Nat → Nat} {M : Zm} (ht : t < 512) (h : Gl m ad x adr ga t M) (a0 : Int32) : zev (zf_X11_wash M (some x) a0) (fun y1 => zO y1.1 m 13 ∧ zev (zf_X12_wash y1.1 (some m) a0) (fun y2 => y1.2 = y2.2 ∧ Gl m ad x adr ga (t + 1) y2.1)) :=
  G_act (fun M => zf_X11_wash M (some x) a0) (fun M => zf_X12_wash M (some m) a0) (fun Q => mf_wash Q a0) (sWash a0) ht (fun g A AL c k h1 hJ hb => by exact X_wash h1 hJ ht hb a0) (fun M0 g0 k M Q hr => ms_wash hr a0) (fun c Q kc hJ hR => N_wash hJ ht hR a0) h
theorem S_partAt {m x ga t : Nat} {ad adr : Nat → Nat} {M : Zm} (ht : t < 512) (h : Gl m ad x adr ga t M) (a0 : Int32) (a1 : Int32) : zev (zf_X11_partAt M (some x) a0 a1) (fun y1 => zO y1.1 m 13 ∧ zev (zf_X12_partAt y1.1 (some m) a0 a1) (fun y2 => y1.2 = y2.2 ∧ Gl m ad x adr ga (t + 1) y2.1)) :=
  G_act (fun M => zf_X11_partAt M (some x) a0 a1) (fun M => zf_X12_partAt M (some m) a0 a1) (fun Q => mf_partAt Q a0 a1) (sPartAt a0 a1) ht (fun g A AL c k h1 hJ hb => by obtain ⟨nb, bs, ro, lb, ps, ac, jr, bo, mo, gi, tr, tp, wy, wh, tc, st, ds, dw, bf, ba, bc⟩ := c; obtain ⟨jI, jR, jP, jJ, jB, jG, jF, jU⟩ := hJ; exact C_partAt h1 a0 a1 (hb.mono (Nat.le_add_right _ _))) (fun M0 g0 k M Q hr => ms_partAt hr a0 a1) (fun c Q kc hJ hR => N_partAt hJ hR a0 a1) h
theorem S_amountAt {m x ga t : Nat} {ad adr : Nat → Nat} {M : Zm} (ht : t < 512) (h : Gl m ad x adr ga t M) (a0 : Int32) (a1 : Int32) : zev (zf_X11_amountAt M (some x) a0 a1) (fun y1 => zO y1.1 m 13 ∧ zev (zf_X12_amountAt y1.1 (some m) a0 a1) (fun y2 => y1.2 = y2.2 ∧ Gl m ad x adr ga (t + 1) y2.1)) :=
  G_act (fun M => zf_X11_amountAt M (some x) a0 a1) (fun M => zf_X12_amountAt M (some m) a0 a1) (fun Q => mf_amountAt Q a0 a1) (sAmountAt a0 a1) ht (fun g A AL c k h1 hJ hb => by obtain ⟨nb, bs, ro, lb, ps, ac, jr, bo, mo, gi, tr, tp, wy, wh, tc, st, ds, dw, bf, ba, bc⟩ := c; obtain ⟨jI, jR, jP, jJ, jB, jG, jF, jU⟩ := hJ; exact C_amountAt h1 a0 a1 (hb.mono (Nat.le_add_right _ _))) (fun M0 g0 k M Q hr => ms_amountAt hr a0 a1) (fun c Q kc hJ hR => N_amountAt hJ hR a0 a1) h
theorem S_room {m x ga t : Nat} {ad adr : Nat → Nat} {M : Zm} (ht : t < 512) (h : Gl m ad x adr ga t M) (a0 : Int32) : zev (zf_X11_room M (some x) a0) (fun y1 => zO y1.1 m 13 ∧ zev (zf_X12_room y1.1 (some m) a0) (fun y2 => y1.2 = y2.2 ∧ Gl m ad x adr ga (t + 1) y2.1)) :=
  G_act (fun M => zf_X11_room M (some x) a0) (fun M => zf_X12_room M (some m) a0) (fun Q => mf_room Q a0) (sRoom a0) ht (fun g A AL c k h1 hJ hb => by obtain ⟨nb, bs, ro, lb, ps, ac, jr, bo, mo, gi, tr, tp, wy, wh, tc, st, ds, dw, bf, ba, bc⟩ := c; obtain ⟨jI, jR, jP, jJ, jB, jG, jF, jU⟩ := hJ; exact C_room h1 jI.mem a0 (hb.mono (Nat.le_add_right _ _))) (fun M0 g0 k M Q hr => ms_room hr a0) (fun c Q kc hJ hR => N_room hJ hR a0) h
theorem S_label {m x ga t : Nat} {ad adr : Nat → Nat} {M : Zm} (ht : t < 512) (h : Gl m ad x adr ga t M)  : zev (zf_X11_label M (some x)) (fun y1 => zO y1.1 m 13 ∧ zev (zf_X12_label y1.1 (some m)) (fun y2 => y1.2 = y2.2 ∧ Gl m ad x adr ga (t + 1) y2.1)) :=
  G_act (fun M => zf_X11_label M (some x)) (fun M => zf_X12_label M (some m)) (fun Q => mf_label Q) sLabel ht (fun g A AL c k h1 hJ hb => by exact X_label h1 hb) (fun M0 g0 k M Q hr => ms_label hr) (fun c Q kc hJ hR => N_label hJ hR) h
theorem S_rule {m x ga t : Nat} {ad adr : Nat → Nat} {M : Zm} (ht : t < 512) (h : Gl m ad x adr ga t M) (a0 : Int32) (a1 : Int32) (a2 : Int32) (a3 : Int32) (a4 : Int32) : zev (zf_X11_rule M (some x) a0 a1 a2 a3 a4) (fun y1 => zO y1.1 m 13 ∧ zev (zf_X12_rule y1.1 (some m) a0 a1 a2 a3 a4) (fun y2 => y1.2 = y2.2 ∧ Gl m ad x adr ga (t + 1) y2.1)) :=
  G_act (fun M => zf_X11_rule M (some x) a0 a1 a2 a3 a4) (fun M => zf_X12_rule M (some m) a0 a1 a2 a3 a4) (fun Q => mf_rule Q a0 a1 a2 a3 a4) (sRule a0 a1 a2 a3 a4) ht (fun g A AL c k h1 hJ hb => by exact X_rule h1 hJ ht hb a0 a1 a2 a3 a4) (fun M0 g0 k M Q hr => ms_rule hr a0 a1 a2 a3 a4) (fun c Q kc hJ hR => N_rule hJ hR a0 a1 a2 a3 a4) h
theorem S_judge {m x ga t : Nat} {ad adr : Nat → Nat} {M : Zm} (ht : t < 512) (h : Gl m ad x adr ga t M) (a0 : Int32) (a1 : Int32) : zev (zf_X11_judge M (some x) a0 a1) (fun y1 => zO y1.1 m 13 ∧ zev (zf_X12_judge y1.1 (some m) a0 a1) (fun y2 => y1.2 = y2.2 ∧ Gl m ad x adr ga (t + 1) y2.1)) :=
  G_act (fun M => zf_X11_judge M (some x) a0 a1) (fun M => zf_X12_judge M (some m) a0 a1) (fun Q => mf_judge Q a0 a1) (sJudge a0 a1) ht (fun g A AL c k h1 hJ hb => by exact X_judge h1 hJ hb a0 a1) (fun M0 g0 k M Q hr => ms_judge hr a0 a1) (fun c Q kc hJ hR => N_judge hJ hR a0 a1) h
theorem S_plan {m x ga t : Nat} {ad adr : Nat → Nat} {M : Zm} (ht : t < 512) (h : Gl m ad x adr ga t M) (a0 : Int32) (a1 : Int64) (a2 : Int32) : zev (zf_X11_plan M (some x) a0 a1 a2) (fun y1 => zO y1.1 m 13 ∧ zev (zf_X12_plan y1.1 (some m) a0 a1 a2) (fun y2 => y1.2 = y2.2 ∧ Gl m ad x adr ga (t + 1) y2.1)) :=
  G_act (fun M => zf_X11_plan M (some x) a0 a1 a2) (fun M => zf_X12_plan M (some m) a0 a1 a2) (fun Q => mf_plan Q a0 a1 a2) (sPlan a0 a1 a2) ht (fun g A AL c k h1 hJ hb => by exact X_plan h1 hJ hb a0 a1 a2) (fun M0 g0 k M Q hr => ms_plan hr a0 a1 a2) (fun c Q kc hJ hR => N_plan hJ hR a0 a1 a2) h
theorem S_undo {m x ga t : Nat} {ad adr : Nat → Nat} {M : Zm} (ht : t < 512) (h : Gl m ad x adr ga t M)  : zev (zf_X11_undo M (some x)) (fun y1 => zO y1.1 m 13 ∧ zev (zf_X12_undo y1.1 (some m)) (fun y2 => y1.2 = y2.2 ∧ Gl m ad x adr ga (t + 1) y2.1)) :=
  G_act (fun M => zf_X11_undo M (some x)) (fun M => zf_X12_undo M (some m)) (fun Q => mf_undo Q) sUndo ht (fun g A AL c k h1 hJ hb => by exact X_undo h1 hJ ht hb) (fun M0 g0 k M Q hr => ms_undo hr) (fun c Q kc hJ hR => N_undo hJ ht hR) h
noncomputable def V_kindOf (a0 : Int32) (c : Cs) : Int32 := match c with
  | (nb, bs, ro, lb, ps, ac, jr, bo, mo, gi, tr, tp, wy, wh, tc, st, ds, dw, bf, ba, bc) => (match fnd nb a0 with | none => 0 | some n => (bs n).1.1)
theorem S_kindOf {m x ga t : Nat} {ad adr : Nat → Nat} {M : Zm} (ht : t < 512) (h : Gl m ad x adr ga t M) (a0 : Int32) : zev (zf_X11_kindOf M (some x) a0) (fun y1 => zO y1.1 m 13 ∧ zev (zf_X12_kindOf y1.1 (some m) a0) (fun y2 => y1.2 = y2.2 ∧ Gl m ad x adr ga (t + 1) y2.1)) := by
  refine G_q (fun M => zf_X11_kindOf M (some x) a0) (fun M => zf_X12_kindOf M (some m) a0) (fun Q => mf_kindOf Q a0) (V_kindOf a0) ht (fun g A AL c h1 hJ hp => ?_) (fun M0 g0 k M Q hr => ms_kindOf hr a0) (fun c Q kc hJ hR hw => ?_) h
  · obtain ⟨nb, bs, ro, lb, ps, ac, jr, bo, mo, gi, tr, tp, wy, wh, tc, st, ds, dw, bf, ba, bc⟩ := c
    obtain ⟨jI, jR, jP, jJ, jB, jG, jF, jU⟩ := hJ
    exact Q_kindOf h1 a0
  · obtain ⟨nb, bs, ro, lb, ps, ac, jr, bo, mo, gi, tr, tp, wy, wh, tc, st, ds, dw, bf, ba, bc⟩ := c
    obtain ⟨jI, jR, jP, jJ, jB, jG, jF, jU⟩ := hJ
    obtain ⟨rB, rR, rK, rA, rC, rJ, rO, rG, rM, rL, rP, rN, rT, rW, rX, rF, rS⟩ := hR
    exact m_kindOf rB jI.1 a0
noncomputable def V_where (a0 : Int32) (c : Cs) : Int32 := match c with
  | (nb, bs, ro, lb, ps, ac, jr, bo, mo, gi, tr, tp, wy, wh, tc, st, ds, dw, bf, ba, bc) => (match fnd nb a0 with | none => -1 | some n => (bs n).2.1.2.1)
theorem S_where {m x ga t : Nat} {ad adr : Nat → Nat} {M : Zm} (ht : t < 512) (h : Gl m ad x adr ga t M) (a0 : Int32) : zev (zf_X11_where M (some x) a0) (fun y1 => zO y1.1 m 13 ∧ zev (zf_X12_where y1.1 (some m) a0) (fun y2 => y1.2 = y2.2 ∧ Gl m ad x adr ga (t + 1) y2.1)) := by
  refine G_q (fun M => zf_X11_where M (some x) a0) (fun M => zf_X12_where M (some m) a0) (fun Q => mf_where Q a0) (V_where a0) ht (fun g A AL c h1 hJ hp => ?_) (fun M0 g0 k M Q hr => ms_where hr a0) (fun c Q kc hJ hR hw => ?_) h
  · obtain ⟨nb, bs, ro, lb, ps, ac, jr, bo, mo, gi, tr, tp, wy, wh, tc, st, ds, dw, bf, ba, bc⟩ := c
    obtain ⟨jI, jR, jP, jJ, jB, jG, jF, jU⟩ := hJ
    exact Q_where h1 a0
  · obtain ⟨nb, bs, ro, lb, ps, ac, jr, bo, mo, gi, tr, tp, wy, wh, tc, st, ds, dw, bf, ba, bc⟩ := c
    obtain ⟨jI, jR, jP, jJ, jB, jG, jF, jU⟩ := hJ
    obtain ⟨rB, rR, rK, rA, rC, rJ, rO, rG, rM, rL, rP, rN, rT, rW, rX, rF, rS⟩ := hR
    exact m_where rB jI.1 a0
noncomputable def V_at (a0 : Int32) (a1 : Int32) (c : Cs) : Int32 := match c with
  | (nb, bs, ro, lb, ps, ac, jr, bo, mo, gi, tr, tp, wy, wh, tc, st, ds, dw, bf, ba, bc) => if rpl ro a0 a1 = 0 then rcell ro a0 a1 else -1
theorem S_at {m x ga t : Nat} {ad adr : Nat → Nat} {M : Zm} (ht : t < 512) (h : Gl m ad x adr ga t M) (a0 : Int32) (a1 : Int32) : zev (zf_X11_at M (some x) a0 a1) (fun y1 => zO y1.1 m 13 ∧ zev (zf_X12_at y1.1 (some m) a0 a1) (fun y2 => y1.2 = y2.2 ∧ Gl m ad x adr ga (t + 1) y2.1)) := by
  refine G_q (fun M => zf_X11_at M (some x) a0 a1) (fun M => zf_X12_at M (some m) a0 a1) (fun Q => mf_at Q a0 a1) (V_at a0 a1) ht (fun g A AL c h1 hJ hp => ?_) (fun M0 g0 k M Q hr => ms_at hr a0 a1) (fun c Q kc hJ hR hw => ?_) h
  · obtain ⟨nb, bs, ro, lb, ps, ac, jr, bo, mo, gi, tr, tp, wy, wh, tc, st, ds, dw, bf, ba, bc⟩ := c
    obtain ⟨jI, jR, jP, jJ, jB, jG, jF, jU⟩ := hJ
    exact Q_at h1 a0 a1
  · obtain ⟨nb, bs, ro, lb, ps, ac, jr, bo, mo, gi, tr, tp, wy, wh, tc, st, ds, dw, bf, ba, bc⟩ := c
    obtain ⟨jI, jR, jP, jJ, jB, jG, jF, jU⟩ := hJ
    obtain ⟨rB, rR, rK, rA, rC, rJ, rO, rG, rM, rL, rP, rN, rT, rW, rX, rF, rS⟩ := hR
    exact m_at rR a0 a1
noncomputable def V_amount (a0 : Int32) (c : Cs) : Int64 := match c with
  | (nb, bs, ro, lb, ps, ac, jr, bo, mo, gi, tr, tp, wy, wh, tc, st, ds, dw, bf, ba, bc) => (match fnd nb a0 with | none => 0 | some n => bhas bs (bs n))
theorem S_amount {m x ga t : Nat} {ad adr : Nat → Nat} {M : Zm} (ht : t < 512) (h : Gl m ad x adr ga t M) (a0 : Int32) : zev (zf_X11_amount M (some x) a0) (fun y1 => zO y1.1 m 13 ∧ zev (zf_X12_amount y1.1 (some m) a0) (fun y2 => y1.2 = y2.2 ∧ Gl m ad x adr ga (t + 1) y2.1)) := by
  refine G_q (fun M => zf_X11_amount M (some x) a0) (fun M => zf_X12_amount M (some m) a0) (fun Q => mf_amount Q a0) (V_amount a0) ht (fun g A AL c h1 hJ hp => ?_) (fun M0 g0 k M Q hr => ms_amount hr a0) (fun c Q kc hJ hR hw => ?_) h
  · obtain ⟨nb, bs, ro, lb, ps, ac, jr, bo, mo, gi, tr, tp, wy, wh, tc, st, ds, dw, bf, ba, bc⟩ := c
    obtain ⟨jI, jR, jP, jJ, jB, jG, jF, jU⟩ := hJ
    exact Q_amount h1 jI.mem a0
  · obtain ⟨nb, bs, ro, lb, ps, ac, jr, bo, mo, gi, tr, tp, wy, wh, tc, st, ds, dw, bf, ba, bc⟩ := c
    obtain ⟨jI, jR, jP, jJ, jB, jG, jF, jU⟩ := hJ
    obtain ⟨rB, rR, rK, rA, rC, rJ, rO, rG, rM, rL, rP, rN, rT, rW, rX, rF, rS⟩ := hR
    exact m_amount rB jI a0
noncomputable def V_part (a0 : Int32) (a1 : Int32) (c : Cs) : Int64 := match c with
  | (nb, bs, ro, lb, ps, ac, jr, bo, mo, gi, tr, tp, wy, wh, tc, st, ds, dw, bf, ba, bc) => (match fnd nb a0 with | none => 0 | some n => bof bs (bs n) a1)
theorem S_part {m x ga t : Nat} {ad adr : Nat → Nat} {M : Zm} (ht : t < 512) (h : Gl m ad x adr ga t M) (a0 : Int32) (a1 : Int32) : zev (zf_X11_part M (some x) a0 a1) (fun y1 => zO y1.1 m 13 ∧ zev (zf_X12_part y1.1 (some m) a0 a1) (fun y2 => y1.2 = y2.2 ∧ Gl m ad x adr ga (t + 1) y2.1)) := by
  refine G_q (fun M => zf_X11_part M (some x) a0 a1) (fun M => zf_X12_part M (some m) a0 a1) (fun Q => mf_part Q a0 a1) (V_part a0 a1) ht (fun g A AL c h1 hJ hp => ?_) (fun M0 g0 k M Q hr => ms_part hr a0 a1) (fun c Q kc hJ hR hw => ?_) h
  · obtain ⟨nb, bs, ro, lb, ps, ac, jr, bo, mo, gi, tr, tp, wy, wh, tc, st, ds, dw, bf, ba, bc⟩ := c
    obtain ⟨jI, jR, jP, jJ, jB, jG, jF, jU⟩ := hJ
    exact Q_part h1 jI.mem a0 a1
  · obtain ⟨nb, bs, ro, lb, ps, ac, jr, bo, mo, gi, tr, tp, wy, wh, tc, st, ds, dw, bf, ba, bc⟩ := c
    obtain ⟨jI, jR, jP, jJ, jB, jG, jF, jU⟩ := hJ
    obtain ⟨rB, rR, rK, rA, rC, rJ, rO, rG, rM, rL, rP, rN, rT, rW, rX, rF, rS⟩ := hR
    exact m_part rB jI a0 a1
noncomputable def V_parts (a0 : Int32) (c : Cs) : Int32 := match c with
  | (nb, bs, ro, lb, ps, ac, jr, bo, mo, gi, tr, tp, wy, wh, tc, st, ds, dw, bf, ba, bc) => (match fnd nb a0 with | none => 0 | some n => bcin (bs n))
theorem S_parts {m x ga t : Nat} {ad adr : Nat → Nat} {M : Zm} (ht : t < 512) (h : Gl m ad x adr ga t M) (a0 : Int32) : zev (zf_X11_parts M (some x) a0) (fun y1 => zO y1.1 m 13 ∧ zev (zf_X12_parts y1.1 (some m) a0) (fun y2 => y1.2 = y2.2 ∧ Gl m ad x adr ga (t + 1) y2.1)) := by
  refine G_q (fun M => zf_X11_parts M (some x) a0) (fun M => zf_X12_parts M (some m) a0) (fun Q => mf_parts Q a0) (V_parts a0) ht (fun g A AL c h1 hJ hp => ?_) (fun M0 g0 k M Q hr => ms_parts hr a0) (fun c Q kc hJ hR hw => ?_) h
  · obtain ⟨nb, bs, ro, lb, ps, ac, jr, bo, mo, gi, tr, tp, wy, wh, tc, st, ds, dw, bf, ba, bc⟩ := c
    obtain ⟨jI, jR, jP, jJ, jB, jG, jF, jU⟩ := hJ
    exact Q_parts h1 a0
  · obtain ⟨nb, bs, ro, lb, ps, ac, jr, bo, mo, gi, tr, tp, wy, wh, tc, st, ds, dw, bf, ba, bc⟩ := c
    obtain ⟨jI, jR, jP, jJ, jB, jG, jF, jU⟩ := hJ
    obtain ⟨rB, rR, rK, rA, rC, rJ, rO, rG, rM, rL, rP, rN, rT, rW, rX, rF, rS⟩ := hR
    exact m_parts rB jI.1 a0
noncomputable def V_account (a0 : Int32) (a1 : Int32) (c : Cs) : Int64 := match c with
  | (nb, bs, ro, lb, ps, ac, jr, bo, mo, gi, tr, tp, wy, wh, tc, st, ds, dw, bf, ba, bc) => if a1 < 0 then 0 else if a1 < 5 then wlook a0 (ac a1.toNatClampNeg) else 0
theorem S_account {m x ga t : Nat} {ad adr : Nat → Nat} {M : Zm} (ht : t < 512) (h : Gl m ad x adr ga t M) (a0 : Int32) (a1 : Int32) : zev (zf_X11_account M (some x) a0 a1) (fun y1 => zO y1.1 m 13 ∧ zev (zf_X12_account_ y1.1 (some m) a0 a1) (fun y2 => y1.2 = y2.2 ∧ Gl m ad x adr ga (t + 1) y2.1)) := by
  refine G_q (fun M => zf_X11_account M (some x) a0 a1) (fun M => zf_X12_account_ M (some m) a0 a1) (fun Q => mf_account_ Q a0 a1) (V_account a0 a1) ht (fun g A AL c h1 hJ hp => ?_) (fun M0 g0 k M Q hr => ms_account_ hr a0 a1) (fun c Q kc hJ hR hw => ?_) h
  · obtain ⟨nb, bs, ro, lb, ps, ac, jr, bo, mo, gi, tr, tp, wy, wh, tc, st, ds, dw, bf, ba, bc⟩ := c
    obtain ⟨jI, jR, jP, jJ, jB, jG, jF, jU⟩ := hJ
    exact Q_account h1 a0 a1
  · obtain ⟨nb, bs, ro, lb, ps, ac, jr, bo, mo, gi, tr, tp, wy, wh, tc, st, ds, dw, bf, ba, bc⟩ := c
    obtain ⟨jI, jR, jP, jJ, jB, jG, jF, jU⟩ := hJ
    obtain ⟨rB, rR, rK, rA, rC, rJ, rO, rG, rM, rL, rP, rN, rT, rW, rX, rF, rS⟩ := hR
    exact m_account_ rK rA rC jI.2.2.2 a0 a1
noncomputable def V_month  (c : Cs) : Int32 := match c with
  | (nb, bs, ro, lb, ps, ac, jr, bo, mo, gi, tr, tp, wy, wh, tc, st, ds, dw, bf, ba, bc) => mo
theorem S_month {m x ga t : Nat} {ad adr : Nat → Nat} {M : Zm} (ht : t < 512) (h : Gl m ad x adr ga t M)  : zev (zf_X11_month M (some x)) (fun y1 => zO y1.1 m 13 ∧ zev (zf_X12_month y1.1 (some m)) (fun y2 => y1.2 = y2.2 ∧ Gl m ad x adr ga (t + 1) y2.1)) := by
  refine G_q (fun M => zf_X11_month M (some x)) (fun M => zf_X12_month M (some m)) (fun Q => mf_month Q) (V_month) ht (fun g A AL c h1 hJ hp => ?_) (fun M0 g0 k M Q hr => ms_month hr) (fun c Q kc hJ hR hw => ?_) h
  · obtain ⟨nb, bs, ro, lb, ps, ac, jr, bo, mo, gi, tr, tp, wy, wh, tc, st, ds, dw, bf, ba, bc⟩ := c
    obtain ⟨jI, jR, jP, jJ, jB, jG, jF, jU⟩ := hJ
    exact Q_month h1
  · obtain ⟨nb, bs, ro, lb, ps, ac, jr, bo, mo, gi, tr, tp, wy, wh, tc, st, ds, dw, bf, ba, bc⟩ := c
    obtain ⟨jI, jR, jP, jJ, jB, jG, jF, jU⟩ := hJ
    obtain ⟨rB, rR, rK, rA, rC, rJ, rO, rG, rM, rL, rP, rN, rT, rW, rX, rF, rS⟩ := hR
    show some (Q, Q.1 18 0) = _
    rw [rM]
    rfl
noncomputable def V_bottlings  (c : Cs) : Int32 := match c with
  | (nb, bs, ro, lb, ps, ac, jr, bo, mo, gi, tr, tp, wy, wh, tc, st, ds, dw, bf, ba, bc) => nI bo.length
theorem S_bottlings {m x ga t : Nat} {ad adr : Nat → Nat} {M : Zm} (ht : t < 512) (h : Gl m ad x adr ga t M)  : zev (zf_X11_bottlings M (some x)) (fun y1 => zO y1.1 m 13 ∧ zev (zf_X12_bottlings y1.1 (some m)) (fun y2 => y1.2 = y2.2 ∧ Gl m ad x adr ga (t + 1) y2.1)) := by
  refine G_q (fun M => zf_X11_bottlings M (some x)) (fun M => zf_X12_bottlings M (some m)) (fun Q => mf_bottlings Q) (V_bottlings) ht (fun g A AL c h1 hJ hp => ?_) (fun M0 g0 k M Q hr => ms_bottlings hr) (fun c Q kc hJ hR hw => ?_) h
  · obtain ⟨nb, bs, ro, lb, ps, ac, jr, bo, mo, gi, tr, tp, wy, wh, tc, st, ds, dw, bf, ba, bc⟩ := c
    obtain ⟨jI, jR, jP, jJ, jB, jG, jF, jU⟩ := hJ
    exact Q_bottlings h1
  · obtain ⟨nb, bs, ro, lb, ps, ac, jr, bo, mo, gi, tr, tp, wy, wh, tc, st, ds, dw, bf, ba, bc⟩ := c
    obtain ⟨jI, jR, jP, jJ, jB, jG, jF, jU⟩ := hJ
    obtain ⟨rB, rR, rK, rA, rC, rJ, rO, rG, rM, rL, rP, rN, rT, rW, rX, rF, rS⟩ := hR
    show some (Q, Q.1 21 0) = _
    rw [rO.1]
    rfl
noncomputable def V_bottling (a0 : Int32) (a1 : Int32) (c : Cs) : Int64 := match c with
  | (nb, bs, ro, lb, ps, ac, jr, bo, mo, gi, tr, tp, wy, wh, tc, st, ds, dw, bf, ba, bc) => lrd a0 a1 bo
theorem S_bottling {m x ga t : Nat} {ad adr : Nat → Nat} {M : Zm} (ht : t < 512) (h : Gl m ad x adr ga t M) (a0 : Int32) (a1 : Int32) : zev (zf_X11_bottling M (some x) a0 a1) (fun y1 => zO y1.1 m 13 ∧ zev (zf_X12_bottling y1.1 (some m) a0 a1) (fun y2 => y1.2 = y2.2 ∧ Gl m ad x adr ga (t + 1) y2.1)) := by
  refine G_q (fun M => zf_X11_bottling M (some x) a0 a1) (fun M => zf_X12_bottling M (some m) a0 a1) (fun Q => mf_bottling Q a0 a1) (V_bottling a0 a1) ht (fun g A AL c h1 hJ hp => ?_) (fun M0 g0 k M Q hr => ms_bottling hr a0 a1) (fun c Q kc hJ hR hw => ?_) h
  · obtain ⟨nb, bs, ro, lb, ps, ac, jr, bo, mo, gi, tr, tp, wy, wh, tc, st, ds, dw, bf, ba, bc⟩ := c
    obtain ⟨jI, jR, jP, jJ, jB, jG, jF, jU⟩ := hJ
    exact Q_bottling h1 a0 a1
  · obtain ⟨nb, bs, ro, lb, ps, ac, jr, bo, mo, gi, tr, tp, wy, wh, tc, st, ds, dw, bf, ba, bc⟩ := c
    obtain ⟨jI, jR, jP, jJ, jB, jG, jF, jU⟩ := hJ
    obtain ⟨rB, rR, rK, rA, rC, rJ, rO, rG, rM, rL, rP, rN, rT, rW, rX, rF, rS⟩ := hR
    exact m_bottling rO (by omega) a0 a1
noncomputable def V_entries  (c : Cs) : Int32 := match c with
  | (nb, bs, ro, lb, ps, ac, jr, bo, mo, gi, tr, tp, wy, wh, tc, st, ds, dw, bf, ba, bc) => nI jr.length
theorem S_entries {m x ga t : Nat} {ad adr : Nat → Nat} {M : Zm} (ht : t < 512) (h : Gl m ad x adr ga t M)  : zev (zf_X11_entries M (some x)) (fun y1 => zO y1.1 m 13 ∧ zev (zf_X12_entries y1.1 (some m)) (fun y2 => y1.2 = y2.2 ∧ Gl m ad x adr ga (t + 1) y2.1)) := by
  refine G_q (fun M => zf_X11_entries M (some x)) (fun M => zf_X12_entries M (some m)) (fun Q => mf_entries Q) (V_entries) ht (fun g A AL c h1 hJ hp => ?_) (fun M0 g0 k M Q hr => ms_entries hr) (fun c Q kc hJ hR hw => ?_) h
  · obtain ⟨nb, bs, ro, lb, ps, ac, jr, bo, mo, gi, tr, tp, wy, wh, tc, st, ds, dw, bf, ba, bc⟩ := c
    obtain ⟨jI, jR, jP, jJ, jB, jG, jF, jU⟩ := hJ
    exact Q_entries h1
  · obtain ⟨nb, bs, ro, lb, ps, ac, jr, bo, mo, gi, tr, tp, wy, wh, tc, st, ds, dw, bf, ba, bc⟩ := c
    obtain ⟨jI, jR, jP, jJ, jB, jG, jF, jU⟩ := hJ
    obtain ⟨rB, rR, rK, rA, rC, rJ, rO, rG, rM, rL, rP, rN, rT, rW, rX, rF, rS⟩ := hR
    show some (Q, Q.1 19 0) = _
    rw [rJ.1]
    rfl
noncomputable def V_entry (a0 : Int32) (a1 : Int32) (c : Cs) : Int64 := match c with
  | (nb, bs, ro, lb, ps, ac, jr, bo, mo, gi, tr, tp, wy, wh, tc, st, ds, dw, bf, ba, bc) => lrd a0 a1 jr
theorem S_entry {m x ga t : Nat} {ad adr : Nat → Nat} {M : Zm} (ht : t < 512) (h : Gl m ad x adr ga t M) (a0 : Int32) (a1 : Int32) : zev (zf_X11_entry M (some x) a0 a1) (fun y1 => zO y1.1 m 13 ∧ zev (zf_X12_entry y1.1 (some m) a0 a1) (fun y2 => y1.2 = y2.2 ∧ Gl m ad x adr ga (t + 1) y2.1)) := by
  refine G_q (fun M => zf_X11_entry M (some x) a0 a1) (fun M => zf_X12_entry M (some m) a0 a1) (fun Q => mf_entry Q a0 a1) (V_entry a0 a1) ht (fun g A AL c h1 hJ hp => ?_) (fun M0 g0 k M Q hr => ms_entry hr a0 a1) (fun c Q kc hJ hR hw => ?_) h
  · obtain ⟨nb, bs, ro, lb, ps, ac, jr, bo, mo, gi, tr, tp, wy, wh, tc, st, ds, dw, bf, ba, bc⟩ := c
    obtain ⟨jI, jR, jP, jJ, jB, jG, jF, jU⟩ := hJ
    exact Q_entry h1 a0 a1
  · obtain ⟨nb, bs, ro, lb, ps, ac, jr, bo, mo, gi, tr, tp, wy, wh, tc, st, ds, dw, bf, ba, bc⟩ := c
    obtain ⟨jI, jR, jP, jJ, jB, jG, jF, jU⟩ := hJ
    obtain ⟨rB, rR, rK, rA, rC, rJ, rO, rG, rM, rL, rP, rN, rT, rW, rX, rF, rS⟩ := hR
    exact m_entry rJ (by omega) a0 a1
noncomputable def V_tries  (c : Cs) : Int32 := match c with
  | (nb, bs, ro, lb, ps, ac, jr, bo, mo, gi, tr, tp, wy, wh, tc, st, ds, dw, bf, ba, bc) => tr
theorem S_tries {m x ga t : Nat} {ad adr : Nat → Nat} {M : Zm} (ht : t < 512) (h : Gl m ad x adr ga t M)  : zev (zf_X11_tries M (some x)) (fun y1 => zO y1.1 m 13 ∧ zev (zf_X12_tries y1.1 (some m)) (fun y2 => y1.2 = y2.2 ∧ Gl m ad x adr ga (t + 1) y2.1)) := by
  refine G_q (fun M => zf_X11_tries M (some x)) (fun M => zf_X12_tries M (some m)) (fun Q => mf_tries Q) (V_tries) ht (fun g A AL c h1 hJ hp => ?_) (fun M0 g0 k M Q hr => ms_tries hr) (fun c Q kc hJ hR hw => ?_) h
  · obtain ⟨nb, bs, ro, lb, ps, ac, jr, bo, mo, gi, tr, tp, wy, wh, tc, st, ds, dw, bf, ba, bc⟩ := c
    obtain ⟨jI, jR, jP, jJ, jB, jG, jF, jU⟩ := hJ
    exact Q_tries h1
  · obtain ⟨nb, bs, ro, lb, ps, ac, jr, bo, mo, gi, tr, tp, wy, wh, tc, st, ds, dw, bf, ba, bc⟩ := c
    obtain ⟨jI, jR, jP, jJ, jB, jG, jF, jU⟩ := hJ
    obtain ⟨rB, rR, rK, rA, rC, rJ, rO, rG, rM, rL, rP, rN, rT, rW, rX, rF, rS⟩ := hR
    show some (Q, Q.1 38 0) = _
    rw [rT]
    rfl
noncomputable def V_closed  (c : Cs) : Int32 := match c with
  | (nb, bs, ro, lb, ps, ac, jr, bo, mo, gi, tr, tp, wy, wh, tc, st, ds, dw, bf, ba, bc) => 1
theorem S_closed {m x ga t : Nat} {ad adr : Nat → Nat} {M : Zm} (ht : t < 512) (h : Gl m ad x adr ga t M)  : zev (zf_X11_closed M (some x)) (fun y1 => zO y1.1 m 13 ∧ zev (zf_X12_closed y1.1 (some m)) (fun y2 => y1.2 = y2.2 ∧ Gl m ad x adr ga (t + 1) y2.1)) := by
  refine G_q (fun M => zf_X11_closed M (some x)) (fun M => zf_X12_closed M (some m)) (fun Q => mf_closed Q) (V_closed) ht (fun g A AL c h1 hJ hp => ?_) (fun M0 g0 k M Q hr => ms_closed hr) (fun c Q kc hJ hR hw => ?_) h
  · obtain ⟨nb, bs, ro, lb, ps, ac, jr, bo, mo, gi, tr, tp, wy, wh, tc, st, ds, dw, bf, ba, bc⟩ := c
    obtain ⟨jI, jR, jP, jJ, jB, jG, jF, jU⟩ := hJ
    exact Q_closed h1 hp
  · obtain ⟨nb, bs, ro, lb, ps, ac, jr, bo, mo, gi, tr, tp, wy, wh, tc, st, ds, dw, bf, ba, bc⟩ := c
    obtain ⟨jI, jR, jP, jJ, jB, jG, jF, jU⟩ := hJ
    obtain ⟨rB, rR, rK, rA, rC, rJ, rO, rG, rM, rL, rP, rN, rT, rW, rX, rF, rS⟩ := hR
    rfl
noncomputable def V_why  (c : Cs) : Int32 := match c with
  | (nb, bs, ro, lb, ps, ac, jr, bo, mo, gi, tr, tp, wy, wh, tc, st, ds, dw, bf, ba, bc) => wy
theorem S_why {m x ga t : Nat} {ad adr : Nat → Nat} {M : Zm} (ht : t < 512) (h : Gl m ad x adr ga t M)  : zev (zf_X11_why M (some x)) (fun y1 => zO y1.1 m 13 ∧ zev (zf_X12_why y1.1 (some m)) (fun y2 => y1.2 = y2.2 ∧ Gl m ad x adr ga (t + 1) y2.1)) := by
  refine G_q (fun M => zf_X11_why M (some x)) (fun M => zf_X12_why M (some m)) (fun Q => mf_why Q) (V_why) ht (fun g A AL c h1 hJ hp => ?_) (fun M0 g0 k M Q hr => ms_why hr) (fun c Q kc hJ hR hw => ?_) h
  · obtain ⟨nb, bs, ro, lb, ps, ac, jr, bo, mo, gi, tr, tp, wy, wh, tc, st, ds, dw, bf, ba, bc⟩ := c
    obtain ⟨jI, jR, jP, jJ, jB, jG, jF, jU⟩ := hJ
    exact Q_why h1
  · obtain ⟨nb, bs, ro, lb, ps, ac, jr, bo, mo, gi, tr, tp, wy, wh, tc, st, ds, dw, bf, ba, bc⟩ := c
    obtain ⟨jI, jR, jP, jJ, jB, jG, jF, jU⟩ := hJ
    obtain ⟨rB, rR, rK, rA, rC, rJ, rO, rG, rM, rL, rP, rN, rT, rW, rX, rF, rS⟩ := hR
    show some (Q, Q.1 39 0) = _
    rw [hw]
    rfl
noncomputable def V_which  (c : Cs) : Int32 := match c with
  | (nb, bs, ro, lb, ps, ac, jr, bo, mo, gi, tr, tp, wy, wh, tc, st, ds, dw, bf, ba, bc) => wh
theorem S_which {m x ga t : Nat} {ad adr : Nat → Nat} {M : Zm} (ht : t < 512) (h : Gl m ad x adr ga t M)  : zev (zf_X11_which M (some x)) (fun y1 => zO y1.1 m 13 ∧ zev (zf_X12_which y1.1 (some m)) (fun y2 => y1.2 = y2.2 ∧ Gl m ad x adr ga (t + 1) y2.1)) := by
  refine G_q (fun M => zf_X11_which M (some x)) (fun M => zf_X12_which M (some m)) (fun Q => mf_which Q) (V_which) ht (fun g A AL c h1 hJ hp => ?_) (fun M0 g0 k M Q hr => ms_which hr) (fun c Q kc hJ hR hw => ?_) h
  · obtain ⟨nb, bs, ro, lb, ps, ac, jr, bo, mo, gi, tr, tp, wy, wh, tc, st, ds, dw, bf, ba, bc⟩ := c
    obtain ⟨jI, jR, jP, jJ, jB, jG, jF, jU⟩ := hJ
    exact Q_which h1
  · obtain ⟨nb, bs, ro, lb, ps, ac, jr, bo, mo, gi, tr, tp, wy, wh, tc, st, ds, dw, bf, ba, bc⟩ := c
    obtain ⟨jI, jR, jP, jJ, jB, jG, jF, jU⟩ := hJ
    obtain ⟨rB, rR, rK, rA, rC, rJ, rO, rG, rM, rL, rP, rN, rT, rW, rX, rF, rS⟩ := hR
    show some (Q, Q.1 40 0) = _
    rw [rW]
    rfl
noncomputable def V_trace (a0 : Int32) (c : Cs) : Int32 := match c with
  | (nb, bs, ro, lb, ps, ac, jr, bo, mo, gi, tr, tp, wy, wh, tc, st, ds, dw, bf, ba, bc) => trd a0 tc
theorem S_trace {m x ga t : Nat} {ad adr : Nat → Nat} {M : Zm} (ht : t < 512) (h : Gl m ad x adr ga t M) (a0 : Int32) : zev (zf_X11_trace M (some x) a0) (fun y1 => zO y1.1 m 13 ∧ zev (zf_X12_trace y1.1 (some m) a0) (fun y2 => y1.2 = y2.2 ∧ Gl m ad x adr ga (t + 1) y2.1)) := by
  refine G_q (fun M => zf_X11_trace M (some x) a0) (fun M => zf_X12_trace M (some m) a0) (fun Q => mf_trace Q a0) (V_trace a0) ht (fun g A AL c h1 hJ hp => ?_) (fun M0 g0 k M Q hr => ms_trace hr a0) (fun c Q kc hJ hR hw => ?_) h
  · obtain ⟨nb, bs, ro, lb, ps, ac, jr, bo, mo, gi, tr, tp, wy, wh, tc, st, ds, dw, bf, ba, bc⟩ := c
    obtain ⟨jI, jR, jP, jJ, jB, jG, jF, jU⟩ := hJ
    exact Q_trace h1 a0
  · obtain ⟨nb, bs, ro, lb, ps, ac, jr, bo, mo, gi, tr, tp, wy, wh, tc, st, ds, dw, bf, ba, bc⟩ := c
    obtain ⟨jI, jR, jP, jJ, jB, jG, jF, jU⟩ := hJ
    obtain ⟨rB, rR, rK, rA, rC, rJ, rO, rG, rM, rL, rP, rN, rT, rW, rX, rF, rS⟩ := hR
    exact m_trace rX a0
noncomputable def V_picked  (c : Cs) : Int32 := match c with
  | (nb, bs, ro, lb, ps, ac, jr, bo, mo, gi, tr, tp, wy, wh, tc, st, ds, dw, bf, ba, bc) => nI ps.length
theorem S_picked {m x ga t : Nat} {ad adr : Nat → Nat} {M : Zm} (ht : t < 512) (h : Gl m ad x adr ga t M)  : zev (zf_X11_picked M (some x)) (fun y1 => zO y1.1 m 13 ∧ zev (zf_X12_picked y1.1 (some m)) (fun y2 => y1.2 = y2.2 ∧ Gl m ad x adr ga (t + 1) y2.1)) := by
  refine G_q (fun M => zf_X11_picked M (some x)) (fun M => zf_X12_picked M (some m)) (fun Q => mf_picked Q) (V_picked) ht (fun g A AL c h1 hJ hp => ?_) (fun M0 g0 k M Q hr => ms_picked hr) (fun c Q kc hJ hR hw => ?_) h
  · obtain ⟨nb, bs, ro, lb, ps, ac, jr, bo, mo, gi, tr, tp, wy, wh, tc, st, ds, dw, bf, ba, bc⟩ := c
    obtain ⟨jI, jR, jP, jJ, jB, jG, jF, jU⟩ := hJ
    exact Q_picked h1
  · obtain ⟨nb, bs, ro, lb, ps, ac, jr, bo, mo, gi, tr, tp, wy, wh, tc, st, ds, dw, bf, ba, bc⟩ := c
    obtain ⟨jI, jR, jP, jJ, jB, jG, jF, jU⟩ := hJ
    obtain ⟨rB, rR, rK, rA, rC, rJ, rO, rG, rM, rL, rP, rN, rT, rW, rX, rF, rS⟩ := hR
    show some (Q, Q.1 33 0) = _
    rw [rP.1]
    rfl
noncomputable def V_planned (a0 : Int32) (c : Cs) : Int64 := match c with
  | (nb, bs, ro, lb, ps, ac, jr, bo, mo, gi, tr, tp, wy, wh, tc, st, ds, dw, bf, ba, bc) => prd a0 st
theorem S_planned {m x ga t : Nat} {ad adr : Nat → Nat} {M : Zm} (ht : t < 512) (h : Gl m ad x adr ga t M) (a0 : Int32) : zev (zf_X11_planned M (some x) a0) (fun y1 => zO y1.1 m 13 ∧ zev (zf_X12_planned y1.1 (some m) a0) (fun y2 => y1.2 = y2.2 ∧ Gl m ad x adr ga (t + 1) y2.1)) := by
  refine G_q (fun M => zf_X11_planned M (some x) a0) (fun M => zf_X12_planned M (some m) a0) (fun Q => mf_planned Q a0) (V_planned a0) ht (fun g A AL c h1 hJ hp => ?_) (fun M0 g0 k M Q hr => ms_planned hr a0) (fun c Q kc hJ hR hw => ?_) h
  · obtain ⟨nb, bs, ro, lb, ps, ac, jr, bo, mo, gi, tr, tp, wy, wh, tc, st, ds, dw, bf, ba, bc⟩ := c
    obtain ⟨jI, jR, jP, jJ, jB, jG, jF, jU⟩ := hJ
    exact Q_planned h1 a0
  · obtain ⟨nb, bs, ro, lb, ps, ac, jr, bo, mo, gi, tr, tp, wy, wh, tc, st, ds, dw, bf, ba, bc⟩ := c
    obtain ⟨jI, jR, jP, jJ, jB, jG, jF, jU⟩ := hJ
    obtain ⟨rB, rR, rK, rA, rC, rJ, rO, rG, rM, rL, rP, rN, rT, rW, rX, rF, rS⟩ := hR
    exact m_planned rN a0
noncomputable def V_digest  (c : Cs) : Int64 := match c with
  | (nb, bs, ro, lb, ps, ac, jr, bo, mo, gi, tr, tp, wy, wh, tc, st, ds, dw, bf, ba, bc) => cdig nb bs mo jr.length
theorem S_digest {m x ga t : Nat} {ad adr : Nat → Nat} {M : Zm} (ht : t < 512) (h : Gl m ad x adr ga t M)  : zev (zf_X11_digest M (some x)) (fun y1 => zO y1.1 m 13 ∧ zev (zf_X12_digest y1.1 (some m)) (fun y2 => y1.2 = y2.2 ∧ Gl m ad x adr ga (t + 1) y2.1)) := by
  refine G_q (fun M => zf_X11_digest M (some x)) (fun M => zf_X12_digest M (some m)) (fun Q => mf_digest Q) (V_digest) ht (fun g A AL c h1 hJ hp => ?_) (fun M0 g0 k M Q hr => ms_digest hr) (fun c Q kc hJ hR hw => ?_) h
  · obtain ⟨nb, bs, ro, lb, ps, ac, jr, bo, mo, gi, tr, tp, wy, wh, tc, st, ds, dw, bf, ba, bc⟩ := c
    obtain ⟨jI, jR, jP, jJ, jB, jG, jF, jU⟩ := hJ
    exact Q_digest h1 jI.mem
  · obtain ⟨nb, bs, ro, lb, ps, ac, jr, bo, mo, gi, tr, tp, wy, wh, tc, st, ds, dw, bf, ba, bc⟩ := c
    obtain ⟨jI, jR, jP, jJ, jB, jG, jF, jU⟩ := hJ
    obtain ⟨rB, rR, rK, rA, rC, rJ, rO, rG, rM, rL, rP, rN, rT, rW, rX, rF, rS⟩ := hR
    exact m_digest rB jI rM rJ
noncomputable def V_odd  (c : Cs) : Int32 := match c with
  | (nb, bs, ro, lb, ps, ac, jr, bo, mo, gi, tr, tp, wy, wh, tc, st, ds, dw, bf, ba, bc) => codd nb bs ac
theorem S_odd {m x ga t : Nat} {ad adr : Nat → Nat} {M : Zm} (ht : t < 512) (h : Gl m ad x adr ga t M)  : zev (zf_X11_odd M (some x)) (fun y1 => zO y1.1 m 13 ∧ zev (zf_X12_odd y1.1 (some m)) (fun y2 => y1.2 = y2.2 ∧ Gl m ad x adr ga (t + 1) y2.1)) := by
  refine G_ask (fun M => zf_X11_odd M (some x)) (fun M => zf_X12_odd M (some m)) (fun Q => mf_odd Q) (V_odd) ht (fun g A AL c k h1 hJ hp hb => ?_) (fun M0 g0 k M Q hr => ms_odd hr) (fun c Q kc hJ hR hw => ?_) h
  · obtain ⟨nb, bs, ro, lb, ps, ac, jr, bo, mo, gi, tr, tp, wy, wh, tc, st, ds, dw, bf, ba, bc⟩ := c
    obtain ⟨jI, jR, jP, jJ, jB, jG, jF, jU⟩ := hJ
    exact Q_odd h1 jI.i60 (fun i hi => (jI.2.2.2 i hi).2) hb
  · obtain ⟨nb, bs, ro, lb, ps, ac, jr, bo, mo, gi, tr, tp, wy, wh, tc, st, ds, dw, bf, ba, bc⟩ := c
    obtain ⟨jI, jR, jP, jJ, jB, jG, jF, jU⟩ := hJ
    obtain ⟨rB, rR, rK, rA, rC, rJ, rO, rG, rM, rL, rP, rN, rT, rW, rX, rF, rS⟩ := hR
    exact m_odd rB rK rA rC jI
noncomputable def V_strays  (c : Cs) : Int32 := match c with
  | (nb, bs, ro, lb, ps, ac, jr, bo, mo, gi, tr, tp, wy, wh, tc, st, ds, dw, bf, ba, bc) => cstr nb bs ro
theorem S_strays {m x ga t : Nat} {ad adr : Nat → Nat} {M : Zm} (ht : t < 512) (h : Gl m ad x adr ga t M)  : zev (zf_X11_strays M (some x)) (fun y1 => zO y1.1 m 13 ∧ zev (zf_X12_strays y1.1 (some m)) (fun y2 => y1.2 = y2.2 ∧ Gl m ad x adr ga (t + 1) y2.1)) := by
  refine G_ask (fun M => zf_X11_strays M (some x)) (fun M => zf_X12_strays M (some m)) (fun Q => mf_strays Q) (V_strays) ht (fun g A AL c k h1 hJ hp hb => ?_) (fun M0 g0 k M Q hr => ms_strays hr) (fun c Q kc hJ hR hw => ?_) h
  · obtain ⟨nb, bs, ro, lb, ps, ac, jr, bo, mo, gi, tr, tp, wy, wh, tc, st, ds, dw, bf, ba, bc⟩ := c
    obtain ⟨jI, jR, jP, jJ, jB, jG, jF, jU⟩ := hJ
    refine zev_mono (Q_strays h1 jI hb) ?_
    rintro ⟨M1, v⟩ ⟨q1, q2, q3, q4⟩
    exact ⟨g, q1, q2, q3, q4⟩
  · obtain ⟨nb, bs, ro, lb, ps, ac, jr, bo, mo, gi, tr, tp, wy, wh, tc, st, ds, dw, bf, ba, bc⟩ := c
    obtain ⟨jI, jR, jP, jJ, jB, jG, jF, jU⟩ := hJ
    obtain ⟨rB, rR, rK, rA, rC, rJ, rO, rG, rM, rL, rP, rN, rT, rW, rX, rF, rS⟩ := hR
    exact m_strays rB rR jI
