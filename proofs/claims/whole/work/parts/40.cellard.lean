/-! What the bytecode does, as functions of the memory, and the walks (written by wip/gen.py). -/
-- BlendCellar.fillVessel(IIJ)J
def zC_X11_fillVessel : Zc := (cX11_fillVessel, 8, RX11, 8, 178, false)
theorem zcl_X11_fillVessel {C : Zc} (h1 : zC_X11_fillVessel.2.2.2.1 + 1 ≤ C.2.2.2.1) (h2 : 8 + (zC_X11_fillVessel.2.1 + 11) + zC_X11_fillVessel.2.2.2.2.1 ≤ C.2.2.2.2.1) : zCl C yX11_fillVessel zC_X11_fillVessel (some .long) 3 := ⟨zw_771, zw_101, ⟨by decide, by decide⟩, by decide +kernel, h1, h2⟩
noncomputable def zf_X11_fillVessel_J18 (M : Zm)  : Option (Zm × Int64) :=
  some (M, (-1 : Int64))
noncomputable def zf_X11_fillVessel_J108 (M : Zm) (l0 : Option Nat) (l1 : Int32) (l2 : Int32) (l3 : Int64) (l6 : Option Nat) (l7 : Option Nat) : Option (Zm × Int64) :=
  zb1 (zo_rc M l0 12) (fun _ => zbd (zf_X11_remember M l0) (fun M19 _ =>
  zb1 (zo_gr M19 l0 12 11) (fun v20 =>
  zb1 (zo_rc M19 v20 2) (fun _ => zbd (zf_X1_keepBarrel M19 v20 l6) (fun M21 _ =>
  zb1 (zo_gr M21 l0 12 11) (fun v22 =>
  zb1 (zo_gr M21 l0 12 6) (fun v23 =>
  zb1 (zo_ar M21 18 v23 (0 : Int32)) (fun v24 =>
  zb1 (zo_rc M21 v22 2) (fun _ => zbd (zf_X1_keepAccount M21 v22 (0 : Int32) v24) (fun M25 _ =>
  zb1 (zo_rc M25 l7 11) (fun _ => zbd (zf_X10_add M25 l7 l2 l3) (fun M26 _ =>
  zb1 (zo_gr M26 l0 12 6) (fun v27 =>
  zb1 (zo_ar M26 18 v27 (0 : Int32)) (fun v28 =>
  zb1 (zo_rc M26 v28 11) (fun _ => zbd (zf_X10_add M26 v28 l2 l3) (fun M29 _ =>
  zb1 (zo_gr M29 l0 12 8) (fun v30 =>
  zb1 (zo_rc M29 v30 5) (fun _ => zbd (zf_X4_add M29 v30 (1 : Int64) (-1 : Int64) (l1.toInt64) l3) (fun M32 _ =>
  zb1 (zo_gj M32 l7 11 3) (fun v33 =>
  some (M32, v33)))))))))))))))))))))
noncomputable def zf_X11_fillVessel (M : Zm) (l0 : Option Nat) (l1 : Int32) (l2 : Int32) (l3 : Int64) : Option (Zm × Int64) :=
  (if l2 < 0 then
  zf_X11_fillVessel_J18 M
  else
  (if (4095 : Int32) < l2 then
  zf_X11_fillVessel_J18 M
  else
  zbd (zf_X11_isMl M l3) (fun M5 v5 =>
  (if v5 = 0 then
  zf_X11_fillVessel_J18 M5
  else
  zb1 (zo_rc M5 l0 12) (fun _ => zbd (zf_X11_lookUpFreeVessel M5 l0 l1) (fun M7 v7 =>
  (if v7 = 0 then
  zb1 (zo_gr M7 l0 12 0) (fun v9 =>
  zb1 (zo_rc M7 v9 0) (fun _ => zbd (zf_Jx4a65c_get_915e3 M7 v9 l1) (fun M10 v10 =>
  zb1 (zo_cc M10 v10 1) (fun _ =>
  zb1 (zo_gr M10 v10 1 5) (fun v12 =>
  zb1 (zo_gj M10 v12 11 3) (fun v13 =>
  zb1 (zo_gr M10 l0 12 12) (fun v14 =>
  zb1 (zo_rc M10 v10 1) (fun _ => zbd (zf_X0_takesInAll M10 v10 v14) (fun M15 v15 =>
  (if (v13 + l3) ≤ v15 then
  zb1 (zo_gi M15 v12 11 2) (fun v17 =>
  (if v17 < (60 : Int32) then
  zf_X11_fillVessel_J108 M15 l0 l1 l2 l3 v10 v12
  else
  zb1 (zo_rc M15 v12 11) (fun _ => zbd (zf_X10_amountOf M15 v12 l2) (fun M35 v35 =>
  (if v35 = (0 : Int64) then
  some (M35, (-12 : Int64))
  else
  zf_X11_fillVessel_J108 M35 l0 l1 l2 l3 v10 v12)))))
  else
  some (M15, (-11 : Int64))))))))))))
  else
  some (M7, (((-v7)).toInt64)))))))))
set_option maxRecDepth 100000 in
theorem zt_X11_fillVessel_J18 {X : Zx} {M : Zm}  {z : Zm × Int64} (h : zf_X11_fillVessel_J18 M  = some z) (hR : zRj X zC_X11_fillVessel z.1 z.2) : zV X zC_X11_fillVessel M 18 [] [] := by
  unfold zf_X11_fillVessel_J18 at h
  refine zV_ldc2 (by decide +kernel) zw_465 ?_
  exact zend_j h hR (by decide +kernel)
set_option maxRecDepth 100000 in
theorem zt_X11_fillVessel_J108 {X : Zx} {M : Zm} {l0 : Option Nat} {l1 : Int32} {l2 : Int32} {l3 : Int64} {l6 : Option Nat} {l7 : Option Nat} {z : Zm × Int64} (h : zf_X11_fillVessel_J108 M l0 l1 l2 l3 l6 l7 = some z) (hR : zRj X zC_X11_fillVessel z.1 z.2) : zV X zC_X11_fillVessel M 108 [(0, .inr (.inr l0)), (1, .inl l1), (2, .inl l2), (3, .inr (.inl l3)), (6, .inr (.inr l6)), (7, .inr (.inr l7))] [] := by
  unfold zf_X11_fillVessel_J108 at h
  refine zV_b (pc' := 109) (lv' := [(0, .inr (.inr l0)), (1, .inl l1), (2, .inl l2), (3, .inr (.inl l3)), (6, .inr (.inr l6)), (7, .inr (.inr l7))]) (st' := [.inr (.inr l0)]) [(.aload_n 0, 1)] (by decide +kernel) rfl ?_
  refine zV_cvv (As := []) (st := []) (c := 12) (by decide +kernel) (zcl_X11_remember (by decide) (by decide)) ⟨zw_469, zw_471, zw_2⟩ ⟨⟨_, _, rfl⟩, by decide⟩ rfl rfl (Nat.le_of_ble_eq_true rfl) h (fun _ _ e => zc_X11_remember e) (fun M19 _ _ h => ?_)
  refine zV_b (pc' := 113) (lv' := [(0, .inr (.inr l0)), (1, .inl l1), (2, .inl l2), (3, .inr (.inl l3)), (6, .inr (.inr l6)), (7, .inr (.inr l7))]) (st' := [.inr (.inr l0)]) [(.aload_n 0, 1)] (by decide +kernel) rfl ?_
  refine zV_gr (by decide +kernel) zfl_RX11_79 (by decide) rfl h (fun v20 _ h => ?_)
  refine zV_b (pc' := 118) (lv' := [(0, .inr (.inr l0)), (1, .inl l1), (2, .inl l2), (3, .inr (.inl l3)), (6, .inr (.inr l6)), (7, .inr (.inr l7))]) (st' := [.inr (.inr l6), .inr (.inr v20)]) [(.aload 6, 2)] (by decide +kernel) rfl ?_
  refine zV_cvv (As := [.inr (.inr l6)]) (st := []) (c := 2) (by decide +kernel) (zcl_X1_keepBarrel (by decide) (by decide)) ⟨zw_696, zw_697, zw_698⟩ ⟨⟨_, _, rfl⟩, by decide⟩ rfl rfl (Nat.le_of_ble_eq_true rfl) h (fun _ _ e => zc_X1_keepBarrel e) (fun M21 _ _ h => ?_)
  refine zV_b (pc' := 122) (lv' := [(0, .inr (.inr l0)), (1, .inl l1), (2, .inl l2), (3, .inr (.inl l3)), (6, .inr (.inr l6)), (7, .inr (.inr l7))]) (st' := [.inr (.inr l0)]) [(.aload_n 0, 1)] (by decide +kernel) rfl ?_
  refine zV_gr (by decide +kernel) zfl_RX11_79 (by decide) rfl h (fun v22 _ h => ?_)
  refine zV_b (pc' := 127) (lv' := [(0, .inr (.inr l0)), (1, .inl l1), (2, .inl l2), (3, .inr (.inl l3)), (6, .inr (.inr l6)), (7, .inr (.inr l7))]) (st' := [.inr (.inr l0), .inl (0 : Int32), .inr (.inr v22)]) [(.iconst 0, 1), (.aload_n 0, 1)] (by decide +kernel) rfl ?_
  refine zV_gr (by decide +kernel) zfl_RX11_50 (by decide) rfl h (fun v23 _ h => ?_)
  refine zV_b (pc' := 131) (lv' := [(0, .inr (.inr l0)), (1, .inl l1), (2, .inl l2), (3, .inr (.inl l3)), (6, .inr (.inr l6)), (7, .inr (.inr l7))]) (st' := [.inl (0 : Int32), .inr (.inr v23), .inl (0 : Int32), .inr (.inr v22)]) [(.iconst 0, 1)] (by decide +kernel) rfl ?_
  refine zV_ar (by decide +kernel) (by decide) (by decide) h (fun v24 _ h => ?_)
  refine zV_cvv (As := [.inl (0 : Int32), .inr (.inr v24)]) (st := []) (c := 2) (by decide +kernel) (zcl_X1_keepAccount (by decide) (by decide)) ⟨zw_817, zw_818, zw_819⟩ ⟨⟨_, _, rfl⟩, by decide⟩ rfl rfl (Nat.le_of_ble_eq_true rfl) h (fun _ _ e => zc_X1_keepAccount e) (fun M25 _ _ h => ?_)
  refine zV_b (pc' := 139) (lv' := [(0, .inr (.inr l0)), (1, .inl l1), (2, .inl l2), (3, .inr (.inl l3)), (6, .inr (.inr l6)), (7, .inr (.inr l7))]) (st' := [.inr (.inl l3), .inl l2, .inr (.inr l7)]) [(.aload 7, 2), (.iload_n 2, 1), (.lload_n 3, 1)] (by decide +kernel) rfl ?_
  refine zV_cvv (As := [.inl l2, .inr (.inl l3)]) (st := []) (c := 11) (by decide +kernel) (zcl_X10_add (by decide) (by decide)) ⟨zw_822, zw_823, zw_824⟩ ⟨⟨_, _, rfl⟩, by decide⟩ rfl rfl (Nat.le_of_ble_eq_true rfl) h (fun _ _ e => zc_X10_add e) (fun M26 _ _ h => ?_)
  refine zV_b (pc' := 143) (lv' := [(0, .inr (.inr l0)), (1, .inl l1), (2, .inl l2), (3, .inr (.inl l3)), (6, .inr (.inr l6)), (7, .inr (.inr l7))]) (st' := [.inr (.inr l0)]) [(.aload_n 0, 1)] (by decide +kernel) rfl ?_
  refine zV_gr (by decide +kernel) zfl_RX11_50 (by decide) rfl h (fun v27 _ h => ?_)
  refine zV_b (pc' := 147) (lv' := [(0, .inr (.inr l0)), (1, .inl l1), (2, .inl l2), (3, .inr (.inl l3)), (6, .inr (.inr l6)), (7, .inr (.inr l7))]) (st' := [.inl (0 : Int32), .inr (.inr v27)]) [(.iconst 0, 1)] (by decide +kernel) rfl ?_
  refine zV_ar (by decide +kernel) (by decide) (by decide) h (fun v28 _ h => ?_)
  refine zV_b (pc' := 150) (lv' := [(0, .inr (.inr l0)), (1, .inl l1), (2, .inl l2), (3, .inr (.inl l3)), (6, .inr (.inr l6)), (7, .inr (.inr l7))]) (st' := [.inr (.inl l3), .inl l2, .inr (.inr v28)]) [(.iload_n 2, 1), (.lload_n 3, 1)] (by decide +kernel) rfl ?_
  refine zV_cvv (As := [.inl l2, .inr (.inl l3)]) (st := []) (c := 11) (by decide +kernel) (zcl_X10_add (by decide) (by decide)) ⟨zw_822, zw_823, zw_824⟩ ⟨⟨_, _, rfl⟩, by decide⟩ rfl rfl (Nat.le_of_ble_eq_true rfl) h (fun _ _ e => zc_X10_add e) (fun M29 _ _ h => ?_)
  refine zV_b (pc' := 154) (lv' := [(0, .inr (.inr l0)), (1, .inl l1), (2, .inl l2), (3, .inr (.inl l3)), (6, .inr (.inr l6)), (7, .inr (.inr l7))]) (st' := [.inr (.inr l0)]) [(.aload_n 0, 1)] (by decide +kernel) rfl ?_
  refine zV_gr (by decide +kernel) zfl_RX11_62 (by decide) rfl h (fun v30 _ h => ?_)
  refine zV_b (pc' := 158) (lv' := [(0, .inr (.inr l0)), (1, .inl l1), (2, .inl l2), (3, .inr (.inl l3)), (6, .inr (.inr l6)), (7, .inr (.inr l7))]) (st' := [.inr (.inl (1 : Int64)), .inr (.inr v30)]) [(.lconst 1, 1)] (by decide +kernel) rfl ?_
  refine zV_ldc2 (by decide +kernel) zw_465 ?_
  refine zV_b (pc' := 164) (lv' := [(0, .inr (.inr l0)), (1, .inl l1), (2, .inl l2), (3, .inr (.inl l3)), (6, .inr (.inr l6)), (7, .inr (.inr l7))]) (st' := [.inr (.inl l3), .inr (.inl (l1.toInt64)), .inr (.inl (-1 : Int64)), .inr (.inl (1 : Int64)), .inr (.inr v30)]) [(.iload_n 1, 1), (.i2l, 1), (.lload_n 3, 1)] (by decide +kernel) rfl ?_
  refine zV_cvv (As := [.inr (.inl (1 : Int64)), .inr (.inl (-1 : Int64)), .inr (.inl (l1.toInt64)), .inr (.inl l3)]) (st := []) (c := 5) (by decide +kernel) (zcl_X4_add (by decide) (by decide)) ⟨zw_844, zw_845, zw_846⟩ ⟨⟨_, _, rfl⟩, by decide⟩ rfl rfl (Nat.le_of_ble_eq_true rfl) h (fun _ _ e => zc_X4_add e) (fun M32 _ _ h => ?_)
  refine zV_b (pc' := 169) (lv' := [(0, .inr (.inr l0)), (1, .inl l1), (2, .inl l2), (3, .inr (.inl l3)), (6, .inr (.inr l6)), (7, .inr (.inr l7))]) (st' := [.inr (.inr l7)]) [(.aload 7, 2)] (by decide +kernel) rfl ?_
  refine zV_gj (by decide +kernel) zfl_RX11_271 (by decide) rfl h (fun v33 _ h => ?_)
  exact zend_j h hR (by decide +kernel)
set_option maxRecDepth 100000 in
theorem zt_X11_fillVessel {X : Zx} {M : Zm} {l0 : Option Nat} {l1 : Int32} {l2 : Int32} {l3 : Int64} {z : Zm × Int64} (h : zf_X11_fillVessel M l0 l1 l2 l3 = some z) (hR : zRj X zC_X11_fillVessel z.1 z.2) : zV X zC_X11_fillVessel M 0 [(0, .inr (.inr l0)), (1, .inl l1), (2, .inl l2), (3, .inr (.inl l3))] [] := by
  unfold zf_X11_fillVessel at h
  refine zV_b (pc' := 1) (lv' := [(0, .inr (.inr l0)), (1, .inl l1), (2, .inl l2), (3, .inr (.inl l3))]) (st' := [.inl l2]) [(.iload_n 2, 1)] (by decide +kernel) rfl ?_
  refine zV_if_lt (off := 17) (tgt := 18) (by decide +kernel) (by decide) h (fun c1 h => ?_) (fun c1 h => ?_)
  · exact zV_lv (lv' := []) [] rfl (zt_X11_fillVessel_J18 h hR)
  · refine zV_b (pc' := 8) (lv' := [(0, .inr (.inr l0)), (1, .inl l1), (2, .inl l2), (3, .inr (.inl l3))]) (st' := [.inl (4095 : Int32), .inl l2]) [(.iload_n 2, 1), (.sipush 4095, 3)] (by decide +kernel) rfl ?_
    refine zV_icmp_gt (off := 10) (tgt := 18) (by decide +kernel) (by decide) h (fun c4 h => ?_) (fun c4 h => ?_)
    · exact zV_lv (lv' := []) [] rfl (zt_X11_fillVessel_J18 h hR)
    · refine zV_b (pc' := 12) (lv' := [(0, .inr (.inr l0)), (1, .inl l1), (2, .inl l2), (3, .inr (.inl l3))]) (st' := [.inr (.inl l3)]) [(.lload_n 3, 1)] (by decide +kernel) rfl ?_
      refine zV_csi (As := [.inr (.inl l3)]) (st := []) (by decide +kernel) (zcl_X11_isMl (by decide) (by decide)) ⟨zw_772, zw_773⟩ rfl rfl (Nat.le_of_ble_eq_true rfl) h (fun _ _ e => zc_X11_isMl e) (fun M5 v5 _ h => ?_)
      refine zV_if_ne (off := 7) (tgt := 22) (by decide +kernel) (by decide) h (fun c6 h => ?_) (fun c6 h => ?_)
      · exact zV_lv (lv' := []) [] rfl (zt_X11_fillVessel_J18 h hR)
      · refine zV_b (pc' := 24) (lv' := [(0, .inr (.inr l0)), (1, .inl l1), (2, .inl l2), (3, .inr (.inl l3))]) (st' := [.inl l1, .inr (.inr l0)]) [(.aload_n 0, 1), (.iload_n 1, 1)] (by decide +kernel) rfl ?_
        refine zV_cvi (As := [.inl l1]) (st := []) (c := 12) (by decide +kernel) (zcl_X11_lookUpFreeVessel (by decide) (by decide)) ⟨zw_776, zw_778, zw_19⟩ ⟨⟨_, _, rfl⟩, by decide⟩ rfl rfl (Nat.le_of_ble_eq_true rfl) h (fun _ _ e => zc_X11_lookUpFreeVessel e) (fun M7 v7 _ h => ?_)
        refine zV_b (pc' := 31) (lv' := [(5, .inl v7), (0, .inr (.inr l0)), (1, .inl l1), (2, .inl l2), (3, .inr (.inl l3))]) (st' := [.inl v7]) [(.istore 5, 2), (.iload 5, 2)] (by decide +kernel) rfl ?_
        refine zV_if_eq (off := 8) (tgt := 39) (by decide +kernel) (by decide) h (fun c8 h => ?_) (fun c8 h => ?_)
        · refine zV_b (pc' := 40) (lv' := [(5, .inl v7), (0, .inr (.inr l0)), (1, .inl l1), (2, .inl l2), (3, .inr (.inl l3))]) (st' := [.inr (.inr l0)]) [(.aload_n 0, 1)] (by decide +kernel) rfl ?_
          refine zV_gr (by decide +kernel) zfl_RX11_12 (by decide) rfl h (fun v9 _ h => ?_)
          refine zV_b (pc' := 44) (lv' := [(5, .inl v7), (0, .inr (.inr l0)), (1, .inl l1), (2, .inl l2), (3, .inr (.inl l3))]) (st' := [.inl l1, .inr (.inr v9)]) [(.iload_n 1, 1)] (by decide +kernel) rfl ?_
          refine zV_cvr (As := [.inl l1]) (st := []) (c := 0) (by decide +kernel) (zcl_Jx4a65c_get_915e3 (by decide) (by decide)) ⟨zw_670, zw_671, zw_672⟩ ⟨⟨_, _, rfl⟩, by decide⟩ rfl rfl (Nat.le_of_ble_eq_true rfl) h (fun _ _ e => zc_Jx4a65c_get_915e3 e) (fun M10 v10 _ h => ?_)
          refine zV_cc (by decide +kernel) zck_RX11_156 h (fun _ _ h => ?_)
          refine zV_b (pc' := 54) (lv' := [(6, .inr (.inr v10)), (5, .inl v7), (0, .inr (.inr l0)), (1, .inl l1), (2, .inl l2), (3, .inr (.inl l3))]) (st' := [.inr (.inr v10)]) [(.astore 6, 2), (.aload 6, 2)] (by decide +kernel) rfl ?_
          refine zV_gr (by decide +kernel) zfl_RX11_268 (by decide) rfl h (fun v12 _ h => ?_)
          refine zV_b (pc' := 61) (lv' := [(7, .inr (.inr v12)), (6, .inr (.inr v10)), (5, .inl v7), (0, .inr (.inr l0)), (1, .inl l1), (2, .inl l2), (3, .inr (.inl l3))]) (st' := [.inr (.inr v12)]) [(.astore 7, 2), (.aload 7, 2)] (by decide +kernel) rfl ?_
          refine zV_gj (by decide +kernel) zfl_RX11_271 (by decide) rfl h (fun v13 _ h => ?_)
          refine zV_b (pc' := 69) (lv' := [(7, .inr (.inr v12)), (6, .inr (.inr v10)), (5, .inl v7), (0, .inr (.inr l0)), (1, .inl l1), (2, .inl l2), (3, .inr (.inl l3))]) (st' := [.inr (.inr l0), .inr (.inr v10), .inr (.inl (v13 + l3))]) [(.lload_n 3, 1), (.ladd, 1), (.aload 6, 2), (.aload_n 0, 1)] (by decide +kernel) rfl ?_
          refine zV_gr (by decide +kernel) zfl_RX11_86 (by decide) rfl h (fun v14 _ h => ?_)
          refine zV_cvj (As := [.inr (.inr v14)]) (st := [.inr (.inl (v13 + l3))]) (c := 1) (by decide +kernel) (zcl_X0_takesInAll (by decide) (by decide)) ⟨zw_784, zw_785, zw_786⟩ ⟨⟨_, _, rfl⟩, by decide⟩ rfl rfl (Nat.le_of_ble_eq_true rfl) h (fun _ _ e => zc_X0_takesInAll e) (fun M15 v15 _ h => ?_)
          refine zV_lcmp_le (off := 7) (tgt := 83) (by decide +kernel) (by decide +kernel) (by decide) h (fun c16 h => ?_) (fun c16 h => ?_)
          · refine zV_b (pc' := 85) (lv' := [(7, .inr (.inr v12)), (6, .inr (.inr v10)), (5, .inl v7), (0, .inr (.inr l0)), (1, .inl l1), (2, .inl l2), (3, .inr (.inl l3))]) (st' := [.inr (.inr v12)]) [(.aload 7, 2)] (by decide +kernel) rfl ?_
            refine zV_gi (by decide +kernel) zfl_RX11_280 (by decide) rfl (Or.inl rfl) h (fun v17 _ h => ?_)
            refine zV_b (pc' := 90) (lv' := [(7, .inr (.inr v12)), (6, .inr (.inr v10)), (5, .inl v7), (0, .inr (.inr l0)), (1, .inl l1), (2, .inl l2), (3, .inr (.inl l3))]) (st' := [.inl (60 : Int32), .inl v17]) [(.bipush 60, 2)] (by decide +kernel) rfl ?_
            refine zV_icmp_lt (off := 18) (tgt := 108) (by decide +kernel) (by decide) h (fun c18 h => ?_) (fun c18 h => ?_)
            · exact zV_lv (lv' := [(0, .inr (.inr l0)), (1, .inl l1), (2, .inl l2), (3, .inr (.inl l3)), (6, .inr (.inr v10)), (7, .inr (.inr v12))]) [3, 4, 5, 6, 1, 0] rfl (zt_X11_fillVessel_J108 h hR)
            · refine zV_b (pc' := 96) (lv' := [(7, .inr (.inr v12)), (6, .inr (.inr v10)), (5, .inl v7), (0, .inr (.inr l0)), (1, .inl l1), (2, .inl l2), (3, .inr (.inl l3))]) (st' := [.inl l2, .inr (.inr v12)]) [(.aload 7, 2), (.iload_n 2, 1)] (by decide +kernel) rfl ?_
              refine zV_cvj (As := [.inl l2]) (st := []) (c := 11) (by decide +kernel) (zcl_X10_amountOf (by decide) (by decide)) ⟨zw_805, zw_806, zw_807⟩ ⟨⟨_, _, rfl⟩, by decide⟩ rfl rfl (Nat.le_of_ble_eq_true rfl) h (fun _ _ e => zc_X10_amountOf e) (fun M35 v35 _ h => ?_)
              refine zV_b (pc' := 100) (lv' := [(7, .inr (.inr v12)), (6, .inr (.inr v10)), (5, .inl v7), (0, .inr (.inr l0)), (1, .inl l1), (2, .inl l2), (3, .inr (.inl l3))]) (st' := [.inr (.inl (0 : Int64)), .inr (.inl v35)]) [(.lconst 0, 1)] (by decide +kernel) rfl ?_
              refine zV_lcmp_ne (off := 7) (tgt := 108) (by decide +kernel) (by decide +kernel) (by decide) h (fun c36 h => ?_) (fun c36 h => ?_)
              · refine zV_ldc2 (by decide +kernel) zw_527 ?_
                exact zend_j h hR (by decide +kernel)
              · exact zV_lv (lv' := [(0, .inr (.inr l0)), (1, .inl l1), (2, .inl l2), (3, .inr (.inl l3)), (6, .inr (.inr v10)), (7, .inr (.inr v12))]) [3, 4, 5, 6, 1, 0] rfl (zt_X11_fillVessel_J108 h hR)
          · refine zV_ldc2 (by decide +kernel) zw_804 ?_
            exact zend_j h hR (by decide +kernel)
        · refine zV_b (pc' := 38) (lv' := [(5, .inl v7), (0, .inr (.inr l0)), (1, .inl l1), (2, .inl l2), (3, .inr (.inl l3))]) (st' := [.inr (.inl (((-v7)).toInt64))]) [(.iload 5, 2), (.ineg, 1), (.i2l, 1)] (by decide +kernel) rfl ?_
          exact zend_j h hR (by decide +kernel)
theorem zc_X11_fillVessel {M M' : Zm} {l0 : Option Nat} {l1 : Int32} {l2 : Int32} {l3 : Int64} {x : Int64} (h : zf_X11_fillVessel M l0 l1 l2 l3 = some (M', x)) (l : Launch) (D : va_G) (cy : Nat → ClassId) : zMet l yX11_fillVessel zC_X11_fillVessel (some .long) D cy [.inr (.inr l0), .inl l1, .inl l2, .inr (.inl l3)] M M' (some (.inr (.inl x))) :=
  zM_j (by decide) rfl (fun h => by cases h) (Nat.le_of_ble_eq_true rfl) (fun X hR => zt_X11_fillVessel h hR)
-- BlendCellar.fill(IIJ)J
def zC_X11_fill : Zc := (cX11_fill, 5, RX11, 9, 205, false)
theorem zcl_X11_fill {C : Zc} (h1 : zC_X11_fill.2.2.2.1 + 1 ≤ C.2.2.2.1) (h2 : 8 + (zC_X11_fill.2.1 + 11) + zC_X11_fill.2.2.2.2.1 ≤ C.2.2.2.2.1) : zCl C yX11_fill zC_X11_fill (some .long) 3 := ⟨zw_767, zw_101, ⟨by decide, by decide⟩, by decide +kernel, h1, h2⟩
noncomputable def zf_X11_fill (M : Zm) (l0 : Option Nat) (l1 : Int32) (l2 : Int32) (l3 : Int64) : Option (Zm × Int64) :=
  zb1 (zo_rc M l0 12) (fun _ => zbd (zf_X11_openTap M l0) (fun M1 _ =>
  zb1 (zo_rc M1 l0 12) (fun _ => zbd (zf_X11_fillVessel M1 l0 l1 l2 l3) (fun M2 v2 =>
  zb1 (zo_rc M2 l0 12) (fun _ => zbd (zf_X11_closeTap M2 l0 v2) (fun M3 v3 =>
  some (M3, v3)))))))
set_option maxRecDepth 100000 in
theorem zt_X11_fill {X : Zx} {M : Zm} {l0 : Option Nat} {l1 : Int32} {l2 : Int32} {l3 : Int64} {z : Zm × Int64} (h : zf_X11_fill M l0 l1 l2 l3 = some z) (hR : zRj X zC_X11_fill z.1 z.2) : zV X zC_X11_fill M 0 [(0, .inr (.inr l0)), (1, .inl l1), (2, .inl l2), (3, .inr (.inl l3))] [] := by
  unfold zf_X11_fill at h
  refine zV_b (pc' := 1) (lv' := [(0, .inr (.inr l0)), (1, .inl l1), (2, .inl l2), (3, .inr (.inl l3))]) (st' := [.inr (.inr l0)]) [(.aload_n 0, 1)] (by decide +kernel) rfl ?_
  refine zV_cvv (As := []) (st := []) (c := 12) (by decide +kernel) (zcl_X11_openTap (by decide) (by decide)) ⟨zw_453, zw_455, zw_0⟩ ⟨⟨_, _, rfl⟩, by decide⟩ rfl rfl (Nat.le_of_ble_eq_true rfl) h (fun _ _ e => zc_X11_openTap e) (fun M1 _ _ h => ?_)
  refine zV_b (pc' := 9) (lv' := [(0, .inr (.inr l0)), (1, .inl l1), (2, .inl l2), (3, .inr (.inl l3))]) (st' := [.inr (.inl l3), .inl l2, .inl l1, .inr (.inr l0), .inr (.inr l0)]) [(.aload_n 0, 1), (.aload_n 0, 1), (.iload_n 1, 1), (.iload_n 2, 1), (.lload_n 3, 1)] (by decide +kernel) rfl ?_
  refine zV_cvj (As := [.inl l1, .inl l2, .inr (.inl l3)]) (st := [.inr (.inr l0)]) (c := 12) (by decide +kernel) (zcl_X11_fillVessel (by decide) (by decide)) ⟨zw_768, zw_770, zw_18⟩ ⟨⟨_, _, rfl⟩, by decide⟩ rfl rfl (Nat.le_of_ble_eq_true rfl) h (fun _ _ e => zc_X11_fillVessel e) (fun M2 v2 _ h => ?_)
  refine zV_cvj (As := [.inr (.inl v2)]) (st := []) (c := 12) (by decide +kernel) (zcl_X11_closeTap (by decide) (by decide)) ⟨zw_510, zw_512, zw_3⟩ ⟨⟨_, _, rfl⟩, by decide⟩ rfl rfl (Nat.le_of_ble_eq_true rfl) h (fun _ _ e => zc_X11_closeTap e) (fun M3 v3 _ h => ?_)
  exact zend_j h hR (by decide +kernel)
theorem zc_X11_fill {M M' : Zm} {l0 : Option Nat} {l1 : Int32} {l2 : Int32} {l3 : Int64} {x : Int64} (h : zf_X11_fill M l0 l1 l2 l3 = some (M', x)) (l : Launch) (D : va_G) (cy : Nat → ClassId) : zMet l yX11_fill zC_X11_fill (some .long) D cy [.inr (.inr l0), .inl l1, .inl l2, .inr (.inl l3)] M M' (some (.inr (.inl x))) :=
  zM_j (by decide) rfl (fun h => by cases h) (Nat.le_of_ble_eq_true rfl) (fun X hR => zt_X11_fill h hR)
-- BlendCellar.firstOf(II)I
def zC_X11_firstOf : Zc := (cX11_firstOf, 2, RX11, 0, 0, false)
theorem zcl_X11_firstOf {C : Zc} (h1 : zC_X11_firstOf.2.2.2.1 + 1 ≤ C.2.2.2.1) (h2 : 8 + (zC_X11_firstOf.2.1 + 11) + zC_X11_firstOf.2.2.2.2.1 ≤ C.2.2.2.2.1) : zCl C yX11_firstOf zC_X11_firstOf (some .int) 2 := ⟨zw_690, zw_101, ⟨by decide, by decide⟩, by decide +kernel, h1, h2⟩
noncomputable def zf_X11_firstOf (M : Zm) (l0 : Int32) (l1 : Int32) : Option (Zm × Int32) :=
  (if l0 = 0 then
  some (M, l1)
  else
  some (M, l0))
set_option maxRecDepth 100000 in
theorem zt_X11_firstOf {X : Zx} {M : Zm} {l0 : Int32} {l1 : Int32} {z : Zm × Int32} (h : zf_X11_firstOf M l0 l1 = some z) (hR : zRi X zC_X11_firstOf z.1 z.2) : zV X zC_X11_firstOf M 0 [(0, .inl l0), (1, .inl l1)] [] := by
  unfold zf_X11_firstOf at h
  refine zV_b (pc' := 1) (lv' := [(0, .inl l0), (1, .inl l1)]) (st' := [.inl l0]) [(.iload_n 0, 1)] (by decide +kernel) rfl ?_
  refine zV_if_eq (off := 7) (tgt := 8) (by decide +kernel) (by decide) h (fun c1 h => ?_) (fun c1 h => ?_)
  · refine zV_b (pc' := 9) (lv' := [(0, .inl l0), (1, .inl l1)]) (st' := [.inl l1]) [(.iload_n 1, 1)] (by decide +kernel) rfl ?_
    exact zend_i h hR (by decide +kernel)
  · refine zV_b (pc' := 5) (lv' := [(0, .inl l0), (1, .inl l1)]) (st' := [.inl l0]) [(.iload_n 0, 1)] (by decide +kernel) rfl ?_
    refine zV_goto (off := 4) (tgt := 9) (by decide +kernel) (by decide) ?_
    exact zend_i h hR (by decide +kernel)
theorem zc_X11_firstOf {M M' : Zm} {l0 : Int32} {l1 : Int32} {x : Int32} (h : zf_X11_firstOf M l0 l1 = some (M', x)) (l : Launch) (D : va_G) (cy : Nat → ClassId) : zMet l yX11_firstOf zC_X11_firstOf (some .int) D cy [.inl l0, .inl l1] M M' (some (.inl x)) :=
  zM_i (by decide) rfl (fun h => by cases h) (Nat.le_of_ble_eq_true rfl) (fun X hR => zt_X11_firstOf h hR)
-- BlendCellar.forget()J
def zC_X11_forget : Zc := (cX11_forget, 2, RX11, 2, 40, false)
theorem zcl_X11_forget {C : Zc} (h1 : zC_X11_forget.2.2.2.1 + 1 ≤ C.2.2.2.1) (h2 : 8 + (zC_X11_forget.2.1 + 11) + zC_X11_forget.2.2.2.2.1 ≤ C.2.2.2.2.1) : zCl C yX11_forget zC_X11_forget (some .long) 0 := ⟨zw_959, zw_101, ⟨by decide, by decide⟩, by decide +kernel, h1, h2⟩
noncomputable def zf_X11_forget (M : Zm) (l0 : Option Nat) : Option (Zm × Int64) :=
  zb1 (zo_rc M l0 12) (fun _ => zbd (zf_X11_openTap M l0) (fun M1 _ =>
  zb1 (zo_gr M1 l0 12 3) (fun v2 =>
  zb1 (zo_gi M1 v2 6 2) (fun v3 =>
  zb1 (zo_gr M1 l0 12 3) (fun v4 =>
  zb1 (zo_rc M1 v4 6) (fun _ => zbd (zf_X5_clear M1 v4) (fun M5 _ =>
  zb1 (zo_rc M5 l0 12) (fun _ => zbd (zf_X11_closeTap M5 l0 (v3.toInt64)) (fun M6 v6 =>
  some (M6, v6))))))))))
set_option maxRecDepth 100000 in
theorem zt_X11_forget {X : Zx} {M : Zm} {l0 : Option Nat} {z : Zm × Int64} (h : zf_X11_forget M l0 = some z) (hR : zRj X zC_X11_forget z.1 z.2) : zV X zC_X11_forget M 0 [(0, .inr (.inr l0))] [] := by
  unfold zf_X11_forget at h
  refine zV_b (pc' := 1) (lv' := [(0, .inr (.inr l0))]) (st' := [.inr (.inr l0)]) [(.aload_n 0, 1)] (by decide +kernel) rfl ?_
  refine zV_cvv (As := []) (st := []) (c := 12) (by decide +kernel) (zcl_X11_openTap (by decide) (by decide)) ⟨zw_453, zw_455, zw_0⟩ ⟨⟨_, _, rfl⟩, by decide⟩ rfl rfl (Nat.le_of_ble_eq_true rfl) h (fun _ _ e => zc_X11_openTap e) (fun M1 _ _ h => ?_)
  refine zV_b (pc' := 5) (lv' := [(0, .inr (.inr l0))]) (st' := [.inr (.inr l0)]) [(.aload_n 0, 1)] (by decide +kernel) rfl ?_
  refine zV_gr (by decide +kernel) zfl_RX11_28 (by decide) rfl h (fun v2 _ h => ?_)
  refine zV_gi (by decide +kernel) zfl_RX11_343 (by decide) rfl (Or.inl rfl) h (fun v3 _ h => ?_)
  refine zV_b (pc' := 13) (lv' := [(1, .inl v3), (0, .inr (.inr l0))]) (st' := [.inr (.inr l0)]) [(.istore_n 1, 1), (.aload_n 0, 1)] (by decide +kernel) rfl ?_
  refine zV_gr (by decide +kernel) zfl_RX11_28 (by decide) rfl h (fun v4 _ h => ?_)
  refine zV_cvv (As := []) (st := []) (c := 6) (by decide +kernel) (zcl_X5_clear (by decide) (by decide)) ⟨zw_960, zw_961, zw_962⟩ ⟨⟨_, _, rfl⟩, by decide⟩ rfl rfl (Nat.le_of_ble_eq_true rfl) h (fun _ _ e => zc_X5_clear e) (fun M5 _ _ h => ?_)
  refine zV_b (pc' := 22) (lv' := [(1, .inl v3), (0, .inr (.inr l0))]) (st' := [.inr (.inl (v3.toInt64)), .inr (.inr l0)]) [(.aload_n 0, 1), (.iload_n 1, 1), (.i2l, 1)] (by decide +kernel) rfl ?_
  refine zV_cvj (As := [.inr (.inl (v3.toInt64))]) (st := []) (c := 12) (by decide +kernel) (zcl_X11_closeTap (by decide) (by decide)) ⟨zw_510, zw_512, zw_3⟩ ⟨⟨_, _, rfl⟩, by decide⟩ rfl rfl (Nat.le_of_ble_eq_true rfl) h (fun _ _ e => zc_X11_closeTap e) (fun M6 v6 _ h => ?_)
  exact zend_j h hR (by decide +kernel)
theorem zc_X11_forget {M M' : Zm} {l0 : Option Nat} {x : Int64} (h : zf_X11_forget M l0 = some (M', x)) (l : Launch) (D : va_G) (cy : Nat → ClassId) : zMet l yX11_forget zC_X11_forget (some .long) D cy [.inr (.inr l0)] M M' (some (.inr (.inl x))) :=
  zM_j (by decide) rfl (fun h => by cases h) (Nat.le_of_ble_eq_true rfl) (fun X hR => zt_X11_forget h hR)
-- BlendCellar.isRuleOver(III)Z
def zC_X11_isRuleOver : Zc := (cX11_isRuleOver, 3, RX11, 0, 0, false)
theorem zcl_X11_isRuleOver {C : Zc} (h1 : zC_X11_isRuleOver.2.2.2.1 + 1 ≤ C.2.2.2.1) (h2 : 8 + (zC_X11_isRuleOver.2.1 + 11) + zC_X11_isRuleOver.2.2.2.2.1 ≤ C.2.2.2.2.1) : zCl C yX11_isRuleOver zC_X11_isRuleOver (some .boolean) 3 := ⟨zw_1123, zw_101, ⟨by decide, by decide⟩, by decide +kernel, h1, h2⟩
noncomputable def zf_X11_isRuleOver (M : Zm) (l0 : Int32) (l1 : Int32) (l2 : Int32) : Option (Zm × Int32) :=
  (if l0 < (1 : Int32) then
  zb1 (zo_b (0 : Int32)) (fun w => some (M, w))
  else
  (if (3 : Int32) < l0 then
  zb1 (zo_b (0 : Int32)) (fun w => some (M, w))
  else
  (if l1 < 0 then
  zb1 (zo_b (0 : Int32)) (fun w => some (M, w))
  else
  (if (15 : Int32) < l1 then
  zb1 (zo_b (0 : Int32)) (fun w => some (M, w))
  else
  (if l2 < 0 then
  zb1 (zo_b (0 : Int32)) (fun w => some (M, w))
  else
  (if (100 : Int32) < l2 then
  zb1 (zo_b (0 : Int32)) (fun w => some (M, w))
  else
  zb1 (zo_b (1 : Int32)) (fun w => some (M, w))))))))
set_option maxRecDepth 100000 in
theorem zt_X11_isRuleOver {X : Zx} {M : Zm} {l0 : Int32} {l1 : Int32} {l2 : Int32} {z : Zm × Int32} (h : zf_X11_isRuleOver M l0 l1 l2 = some z) (hR : zRz X zC_X11_isRuleOver z.1 z.2) : zV X zC_X11_isRuleOver M 0 [(0, .inl l0), (1, .inl l1), (2, .inl l2)] [] := by
  unfold zf_X11_isRuleOver at h
  refine zV_b (pc' := 2) (lv' := [(0, .inl l0), (1, .inl l1), (2, .inl l2)]) (st' := [.inl (1 : Int32), .inl l0]) [(.iload_n 0, 1), (.iconst 1, 1)] (by decide +kernel) rfl ?_
  refine zV_icmp_lt (off := 32) (tgt := 34) (by decide +kernel) (by decide) h (fun c1 h => ?_) (fun c1 h => ?_)
  · refine zV_b (pc' := 35) (lv' := [(0, .inl l0), (1, .inl l1), (2, .inl l2)]) (st' := [.inl (0 : Int32)]) [(.iconst 0, 1)] (by decide +kernel) rfl ?_
    exact zend_z h hR (by decide +kernel)
  · refine zV_b (pc' := 7) (lv' := [(0, .inl l0), (1, .inl l1), (2, .inl l2)]) (st' := [.inl (3 : Int32), .inl l0]) [(.iload_n 0, 1), (.iconst 3, 1)] (by decide +kernel) rfl ?_
    refine zV_icmp_gt (off := 27) (tgt := 34) (by decide +kernel) (by decide) h (fun c3 h => ?_) (fun c3 h => ?_)
    · refine zV_b (pc' := 35) (lv' := [(0, .inl l0), (1, .inl l1), (2, .inl l2)]) (st' := [.inl (0 : Int32)]) [(.iconst 0, 1)] (by decide +kernel) rfl ?_
      exact zend_z h hR (by decide +kernel)
    · refine zV_b (pc' := 11) (lv' := [(0, .inl l0), (1, .inl l1), (2, .inl l2)]) (st' := [.inl l1]) [(.iload_n 1, 1)] (by decide +kernel) rfl ?_
      refine zV_if_lt (off := 23) (tgt := 34) (by decide +kernel) (by decide) h (fun c5 h => ?_) (fun c5 h => ?_)
      · refine zV_b (pc' := 35) (lv' := [(0, .inl l0), (1, .inl l1), (2, .inl l2)]) (st' := [.inl (0 : Int32)]) [(.iconst 0, 1)] (by decide +kernel) rfl ?_
        exact zend_z h hR (by decide +kernel)
      · refine zV_b (pc' := 17) (lv' := [(0, .inl l0), (1, .inl l1), (2, .inl l2)]) (st' := [.inl (15 : Int32), .inl l1]) [(.iload_n 1, 1), (.bipush 15, 2)] (by decide +kernel) rfl ?_
        refine zV_icmp_gt (off := 17) (tgt := 34) (by decide +kernel) (by decide) h (fun c7 h => ?_) (fun c7 h => ?_)
        · refine zV_b (pc' := 35) (lv' := [(0, .inl l0), (1, .inl l1), (2, .inl l2)]) (st' := [.inl (0 : Int32)]) [(.iconst 0, 1)] (by decide +kernel) rfl ?_
          exact zend_z h hR (by decide +kernel)
        · refine zV_b (pc' := 21) (lv' := [(0, .inl l0), (1, .inl l1), (2, .inl l2)]) (st' := [.inl l2]) [(.iload_n 2, 1)] (by decide +kernel) rfl ?_
          refine zV_if_lt (off := 13) (tgt := 34) (by decide +kernel) (by decide) h (fun c9 h => ?_) (fun c9 h => ?_)
          · refine zV_b (pc' := 35) (lv' := [(0, .inl l0), (1, .inl l1), (2, .inl l2)]) (st' := [.inl (0 : Int32)]) [(.iconst 0, 1)] (by decide +kernel) rfl ?_
            exact zend_z h hR (by decide +kernel)
          · refine zV_b (pc' := 27) (lv' := [(0, .inl l0), (1, .inl l1), (2, .inl l2)]) (st' := [.inl (100 : Int32), .inl l2]) [(.iload_n 2, 1), (.bipush 100, 2)] (by decide +kernel) rfl ?_
            refine zV_icmp_gt (off := 7) (tgt := 34) (by decide +kernel) (by decide) h (fun c11 h => ?_) (fun c11 h => ?_)
            · refine zV_b (pc' := 35) (lv' := [(0, .inl l0), (1, .inl l1), (2, .inl l2)]) (st' := [.inl (0 : Int32)]) [(.iconst 0, 1)] (by decide +kernel) rfl ?_
              exact zend_z h hR (by decide +kernel)
            · refine zV_b (pc' := 31) (lv' := [(0, .inl l0), (1, .inl l1), (2, .inl l2)]) (st' := [.inl (1 : Int32)]) [(.iconst 1, 1)] (by decide +kernel) rfl ?_
              refine zV_goto (off := 4) (tgt := 35) (by decide +kernel) (by decide) ?_
              exact zend_z h hR (by decide +kernel)
theorem zc_X11_isRuleOver {M M' : Zm} {l0 : Int32} {l1 : Int32} {l2 : Int32} {x : Int32} (h : zf_X11_isRuleOver M l0 l1 l2 = some (M', x)) (l : Launch) (D : va_G) (cy : Nat → ClassId) : zMet l yX11_isRuleOver zC_X11_isRuleOver (some .boolean) D cy [.inl l0, .inl l1, .inl l2] M M' (some (.inl x)) :=
  zM_b (by decide) rfl (fun h => by cases h) (Nat.le_of_ble_eq_true rfl) (fun X hR => zt_X11_isRuleOver h hR)
-- BlendCellar.lookUpCask(I)I
def zC_X11_lookUpCask : Zc := (cX11_lookUpCask, 3, RX11, 3, 64, false)
theorem zcl_X11_lookUpCask {C : Zc} (h1 : zC_X11_lookUpCask.2.2.2.1 + 1 ≤ C.2.2.2.1) (h2 : 8 + (zC_X11_lookUpCask.2.1 + 11) + zC_X11_lookUpCask.2.2.2.2.1 ≤ C.2.2.2.2.1) : zCl C yX11_lookUpCask zC_X11_lookUpCask (some .int) 1 := ⟨zw_665, zw_101, ⟨by decide, by decide⟩, by decide +kernel, h1, h2⟩
noncomputable def zf_X11_lookUpCask (M : Zm) (l0 : Option Nat) (l1 : Int32) : Option (Zm × Int32) :=
  zb1 (zo_rc M l0 12) (fun _ => zbd (zf_X11_lookUp M l0 l1) (fun M1 v1 =>
  (if v1 = 0 then
  zb1 (zo_gr M1 l0 12 0) (fun v3 =>
  zb1 (zo_rc M1 v3 0) (fun _ => zbd (zf_Jx4a65c_get_915e3 M1 v3 l1) (fun M4 v4 =>
  zb1 (zo_cc M4 v4 1) (fun _ =>
  zb1 (zo_gi M4 v4 1 1) (fun v6 =>
  (if v6 = (5 : Int32) then
  some (M4, v1)
  else
  some (M4, (4 : Int32))))))))
  else
  some (M1, v1))))
set_option maxRecDepth 100000 in
theorem zt_X11_lookUpCask {X : Zx} {M : Zm} {l0 : Option Nat} {l1 : Int32} {z : Zm × Int32} (h : zf_X11_lookUpCask M l0 l1 = some z) (hR : zRi X zC_X11_lookUpCask z.1 z.2) : zV X zC_X11_lookUpCask M 0 [(0, .inr (.inr l0)), (1, .inl l1)] [] := by
  unfold zf_X11_lookUpCask at h
  refine zV_b (pc' := 2) (lv' := [(0, .inr (.inr l0)), (1, .inl l1)]) (st' := [.inl l1, .inr (.inr l0)]) [(.aload_n 0, 1), (.iload_n 1, 1)] (by decide +kernel) rfl ?_
  refine zV_cvi (As := [.inl l1]) (st := []) (c := 12) (by decide +kernel) (zcl_X11_lookUp (by decide) (by decide)) ⟨zw_666, zw_668, zw_10⟩ ⟨⟨_, _, rfl⟩, by decide⟩ rfl rfl (Nat.le_of_ble_eq_true rfl) h (fun _ _ e => zc_X11_lookUp e) (fun M1 v1 _ h => ?_)
  refine zV_b (pc' := 7) (lv' := [(2, .inl v1), (0, .inr (.inr l0)), (1, .inl l1)]) (st' := [.inl v1]) [(.istore_n 2, 1), (.iload_n 2, 1)] (by decide +kernel) rfl ?_
  refine zV_if_ne (off := 25) (tgt := 32) (by decide +kernel) (by decide) h (fun c2 h => ?_) (fun c2 h => ?_)
  · refine zV_b (pc' := 11) (lv' := [(2, .inl v1), (0, .inr (.inr l0)), (1, .inl l1)]) (st' := [.inr (.inr l0)]) [(.aload_n 0, 1)] (by decide +kernel) rfl ?_
    refine zV_gr (by decide +kernel) zfl_RX11_12 (by decide) rfl h (fun v3 _ h => ?_)
    refine zV_b (pc' := 15) (lv' := [(2, .inl v1), (0, .inr (.inr l0)), (1, .inl l1)]) (st' := [.inl l1, .inr (.inr v3)]) [(.iload_n 1, 1)] (by decide +kernel) rfl ?_
    refine zV_cvr (As := [.inl l1]) (st := []) (c := 0) (by decide +kernel) (zcl_Jx4a65c_get_915e3 (by decide) (by decide)) ⟨zw_670, zw_671, zw_672⟩ ⟨⟨_, _, rfl⟩, by decide⟩ rfl rfl (Nat.le_of_ble_eq_true rfl) h (fun _ _ e => zc_Jx4a65c_get_915e3 e) (fun M4 v4 _ h => ?_)
    refine zV_cc (by decide +kernel) zck_RX11_156 h (fun _ _ h => ?_)
    refine zV_gi (by decide +kernel) zfl_RX11_227 (by decide) rfl (Or.inl rfl) h (fun v6 _ h => ?_)
    refine zV_b (pc' := 25) (lv' := [(2, .inl v1), (0, .inr (.inr l0)), (1, .inl l1)]) (st' := [.inl (5 : Int32), .inl v6]) [(.iconst 5, 1)] (by decide +kernel) rfl ?_
    refine zV_icmp_eq (off := 7) (tgt := 32) (by decide +kernel) (by decide) h (fun c7 h => ?_) (fun c7 h => ?_)
    · refine zV_b (pc' := 33) (lv' := [(2, .inl v1), (0, .inr (.inr l0)), (1, .inl l1)]) (st' := [.inl v1]) [(.iload_n 2, 1)] (by decide +kernel) rfl ?_
      exact zend_i h hR (by decide +kernel)
    · refine zV_b (pc' := 29) (lv' := [(2, .inl v1), (0, .inr (.inr l0)), (1, .inl l1)]) (st' := [.inl (4 : Int32)]) [(.iconst 4, 1)] (by decide +kernel) rfl ?_
      refine zV_goto (off := 4) (tgt := 33) (by decide +kernel) (by decide) ?_
      exact zend_i h hR (by decide +kernel)
  · refine zV_b (pc' := 33) (lv' := [(2, .inl v1), (0, .inr (.inr l0)), (1, .inl l1)]) (st' := [.inl v1]) [(.iload_n 2, 1)] (by decide +kernel) rfl ?_
    exact zend_i h hR (by decide +kernel)
theorem zc_X11_lookUpCask {M M' : Zm} {l0 : Option Nat} {l1 : Int32} {x : Int32} (h : zf_X11_lookUpCask M l0 l1 = some (M', x)) (l : Launch) (D : va_G) (cy : Nat → ClassId) : zMet l yX11_lookUpCask zC_X11_lookUpCask (some .int) D cy [.inr (.inr l0), .inl l1] M M' (some (.inl x)) :=
  zM_i (by decide) rfl (fun h => by cases h) (Nat.le_of_ble_eq_true rfl) (fun X hR => zt_X11_lookUpCask h hR)
-- BlendCellar.joinCask(II)J
def zC_X11_joinCask : Zc := (cX11_joinCask, 6, RX11, 8, 178, false)
theorem zcl_X11_joinCask {C : Zc} (h1 : zC_X11_joinCask.2.2.2.1 + 1 ≤ C.2.2.2.1) (h2 : 8 + (zC_X11_joinCask.2.1 + 11) + zC_X11_joinCask.2.2.2.2.1 ≤ C.2.2.2.2.1) : zCl C yX11_joinCask zC_X11_joinCask (some .long) 2 := ⟨zw_661, zw_101, ⟨by decide, by decide⟩, by decide +kernel, h1, h2⟩
noncomputable def zf_X11_joinCask (M : Zm) (l0 : Option Nat) (l1 : Int32) (l2 : Int32) : Option (Zm × Int64) :=
  zb1 (zo_rc M l0 12) (fun _ => zbd (zf_X11_lookUpCask M l0 l1) (fun M1 v1 =>
  zb1 (zo_rc M1 l0 12) (fun _ => zbd (zf_X11_lookUpVessel M1 l0 l2) (fun M2 v2 =>
  zbd (zf_X11_firstOf M2 v1 v2) (fun M3 v3 =>
  (if v3 = 0 then
  zb1 (zo_gr M3 l0 12 0) (fun v5 =>
  zb1 (zo_rc M3 v5 0) (fun _ => zbd (zf_Jx4a65c_get_915e3 M3 v5 l1) (fun M6 v6 =>
  zb1 (zo_cc M6 v6 1) (fun _ =>
  zb1 (zo_gr M6 l0 12 0) (fun v8 =>
  zb1 (zo_rc M6 v8 0) (fun _ => zbd (zf_Jx4a65c_get_915e3 M6 v8 l2) (fun M9 v9 =>
  zb1 (zo_cc M9 v9 1) (fun _ =>
  zb1 (zo_rc M9 v9 1) (fun _ => zbd (zf_X0_onFloor M9 v9) (fun M11 v11 =>
  (if v11 = 0 then
  some (M11, (-9 : Int64))
  else
  zb1 (zo_gi M11 v6 1 7) (fun v15 =>
  (if v15 < (4 : Int32) then
  zb1 (zo_rc M11 l0 12) (fun _ => zbd (zf_X11_remember M11 l0) (fun M17 _ =>
  zb1 (zo_gr M17 l0 12 11) (fun v18 =>
  zb1 (zo_rc M17 v18 2) (fun _ => zbd (zf_X1_keepBarrel M17 v18 v6) (fun M19 _ =>
  zb1 (zo_gr M19 l0 12 11) (fun v20 =>
  zb1 (zo_rc M19 v20 2) (fun _ => zbd (zf_X1_keepBarrel M19 v20 v9) (fun M21 _ =>
  zb1 (zo_rc M21 v6 1) (fun _ => zbd (zf_X0_takeIn M21 v6 v9) (fun M22 _ =>
  zb1 (zo_gi M22 v6 1 7) (fun v23 =>
  some (M22, (v23.toInt64)))))))))))))
  else
  some (M11, (-12 : Int64)))))))))))))))
  else
  some (M3, (((-v3)).toInt64))))))))
set_option maxRecDepth 100000 in
theorem zt_X11_joinCask {X : Zx} {M : Zm} {l0 : Option Nat} {l1 : Int32} {l2 : Int32} {z : Zm × Int64} (h : zf_X11_joinCask M l0 l1 l2 = some z) (hR : zRj X zC_X11_joinCask z.1 z.2) : zV X zC_X11_joinCask M 0 [(0, .inr (.inr l0)), (1, .inl l1), (2, .inl l2)] [] := by
  unfold zf_X11_joinCask at h
  refine zV_b (pc' := 2) (lv' := [(0, .inr (.inr l0)), (1, .inl l1), (2, .inl l2)]) (st' := [.inl l1, .inr (.inr l0)]) [(.aload_n 0, 1), (.iload_n 1, 1)] (by decide +kernel) rfl ?_
  refine zV_cvi (As := [.inl l1]) (st := []) (c := 12) (by decide +kernel) (zcl_X11_lookUpCask (by decide) (by decide)) ⟨zw_662, zw_664, zw_9⟩ ⟨⟨_, _, rfl⟩, by decide⟩ rfl rfl (Nat.le_of_ble_eq_true rfl) h (fun _ _ e => zc_X11_lookUpCask e) (fun M1 v1 _ h => ?_)
  refine zV_b (pc' := 7) (lv' := [(0, .inr (.inr l0)), (1, .inl l1), (2, .inl l2)]) (st' := [.inl l2, .inr (.inr l0), .inl v1]) [(.aload_n 0, 1), (.iload_n 2, 1)] (by decide +kernel) rfl ?_
  refine zV_cvi (As := [.inl l2]) (st := [.inl v1]) (c := 12) (by decide +kernel) (zcl_X11_lookUpVessel (by decide) (by decide)) ⟨zw_684, zw_686, zw_11⟩ ⟨⟨_, _, rfl⟩, by decide⟩ rfl rfl (Nat.le_of_ble_eq_true rfl) h (fun _ _ e => zc_X11_lookUpVessel e) (fun M2 v2 _ h => ?_)
  refine zV_csi (As := [.inl v1, .inl v2]) (st := []) (by decide +kernel) (zcl_X11_firstOf (by decide) (by decide)) ⟨zw_688, zw_689⟩ rfl rfl (Nat.le_of_ble_eq_true rfl) h (fun _ _ e => zc_X11_firstOf e) (fun M3 v3 _ h => ?_)
  refine zV_b (pc' := 15) (lv' := [(3, .inl v3), (0, .inr (.inr l0)), (1, .inl l1), (2, .inl l2)]) (st' := [.inl v3]) [(.istore_n 3, 1), (.iload_n 3, 1)] (by decide +kernel) rfl ?_
  refine zV_if_eq (off := 7) (tgt := 22) (by decide +kernel) (by decide) h (fun c4 h => ?_) (fun c4 h => ?_)
  · refine zV_b (pc' := 23) (lv' := [(3, .inl v3), (0, .inr (.inr l0)), (1, .inl l1), (2, .inl l2)]) (st' := [.inr (.inr l0)]) [(.aload_n 0, 1)] (by decide +kernel) rfl ?_
    refine zV_gr (by decide +kernel) zfl_RX11_12 (by decide) rfl h (fun v5 _ h => ?_)
    refine zV_b (pc' := 27) (lv' := [(3, .inl v3), (0, .inr (.inr l0)), (1, .inl l1), (2, .inl l2)]) (st' := [.inl l1, .inr (.inr v5)]) [(.iload_n 1, 1)] (by decide +kernel) rfl ?_
    refine zV_cvr (As := [.inl l1]) (st := []) (c := 0) (by decide +kernel) (zcl_Jx4a65c_get_915e3 (by decide) (by decide)) ⟨zw_670, zw_671, zw_672⟩ ⟨⟨_, _, rfl⟩, by decide⟩ rfl rfl (Nat.le_of_ble_eq_true rfl) h (fun _ _ e => zc_Jx4a65c_get_915e3 e) (fun M6 v6 _ h => ?_)
    refine zV_cc (by decide +kernel) zck_RX11_156 h (fun _ _ h => ?_)
    refine zV_b (pc' := 36) (lv' := [(4, .inr (.inr v6)), (3, .inl v3), (0, .inr (.inr l0)), (1, .inl l1), (2, .inl l2)]) (st' := [.inr (.inr l0)]) [(.astore 4, 2), (.aload_n 0, 1)] (by decide +kernel) rfl ?_
    refine zV_gr (by decide +kernel) zfl_RX11_12 (by decide) rfl h (fun v8 _ h => ?_)
    refine zV_b (pc' := 40) (lv' := [(4, .inr (.inr v6)), (3, .inl v3), (0, .inr (.inr l0)), (1, .inl l1), (2, .inl l2)]) (st' := [.inl l2, .inr (.inr v8)]) [(.iload_n 2, 1)] (by decide +kernel) rfl ?_
    refine zV_cvr (As := [.inl l2]) (st := []) (c := 0) (by decide +kernel) (zcl_Jx4a65c_get_915e3 (by decide) (by decide)) ⟨zw_670, zw_671, zw_672⟩ ⟨⟨_, _, rfl⟩, by decide⟩ rfl rfl (Nat.le_of_ble_eq_true rfl) h (fun _ _ e => zc_Jx4a65c_get_915e3 e) (fun M9 v9 _ h => ?_)
    refine zV_cc (by decide +kernel) zck_RX11_156 h (fun _ _ h => ?_)
    refine zV_b (pc' := 50) (lv' := [(5, .inr (.inr v9)), (4, .inr (.inr v6)), (3, .inl v3), (0, .inr (.inr l0)), (1, .inl l1), (2, .inl l2)]) (st' := [.inr (.inr v9)]) [(.astore 5, 2), (.aload 5, 2)] (by decide +kernel) rfl ?_
    refine zV_cvi (As := []) (st := []) (c := 1) (by decide +kernel) (zcl_X0_onFloor (by decide) (by decide)) ⟨zw_691, zw_692, zw_693⟩ ⟨⟨_, _, rfl⟩, by decide⟩ rfl rfl (Nat.le_of_ble_eq_true rfl) h (fun _ _ e => zc_X0_onFloor e) (fun M11 v11 _ h => ?_)
    refine zV_if_ne (off := 7) (tgt := 60) (by decide +kernel) (by decide) h (fun c12 h => ?_) (fun c12 h => ?_)
    · refine zV_ldc2 (by decide +kernel) zw_695 ?_
      exact zend_j h hR (by decide +kernel)
    · refine zV_b (pc' := 62) (lv' := [(5, .inr (.inr v9)), (4, .inr (.inr v6)), (3, .inl v3), (0, .inr (.inr l0)), (1, .inl l1), (2, .inl l2)]) (st' := [.inr (.inr v6)]) [(.aload 4, 2)] (by decide +kernel) rfl ?_
      refine zV_gi (by decide +kernel) zfl_RX11_190 (by decide) rfl (Or.inl rfl) h (fun v15 _ h => ?_)
      refine zV_b (pc' := 66) (lv' := [(5, .inr (.inr v9)), (4, .inr (.inr v6)), (3, .inl v3), (0, .inr (.inr l0)), (1, .inl l1), (2, .inl l2)]) (st' := [.inl (4 : Int32), .inl v15]) [(.iconst 4, 1)] (by decide +kernel) rfl ?_
      refine zV_icmp_lt (off := 7) (tgt := 73) (by decide +kernel) (by decide) h (fun c16 h => ?_) (fun c16 h => ?_)
      · refine zV_b (pc' := 74) (lv' := [(5, .inr (.inr v9)), (4, .inr (.inr v6)), (3, .inl v3), (0, .inr (.inr l0)), (1, .inl l1), (2, .inl l2)]) (st' := [.inr (.inr l0)]) [(.aload_n 0, 1)] (by decide +kernel) rfl ?_
        refine zV_cvv (As := []) (st := []) (c := 12) (by decide +kernel) (zcl_X11_remember (by decide) (by decide)) ⟨zw_469, zw_471, zw_2⟩ ⟨⟨_, _, rfl⟩, by decide⟩ rfl rfl (Nat.le_of_ble_eq_true rfl) h (fun _ _ e => zc_X11_remember e) (fun M17 _ _ h => ?_)
        refine zV_b (pc' := 78) (lv' := [(5, .inr (.inr v9)), (4, .inr (.inr v6)), (3, .inl v3), (0, .inr (.inr l0)), (1, .inl l1), (2, .inl l2)]) (st' := [.inr (.inr l0)]) [(.aload_n 0, 1)] (by decide +kernel) rfl ?_
        refine zV_gr (by decide +kernel) zfl_RX11_79 (by decide) rfl h (fun v18 _ h => ?_)
        refine zV_b (pc' := 83) (lv' := [(5, .inr (.inr v9)), (4, .inr (.inr v6)), (3, .inl v3), (0, .inr (.inr l0)), (1, .inl l1), (2, .inl l2)]) (st' := [.inr (.inr v6), .inr (.inr v18)]) [(.aload 4, 2)] (by decide +kernel) rfl ?_
        refine zV_cvv (As := [.inr (.inr v6)]) (st := []) (c := 2) (by decide +kernel) (zcl_X1_keepBarrel (by decide) (by decide)) ⟨zw_696, zw_697, zw_698⟩ ⟨⟨_, _, rfl⟩, by decide⟩ rfl rfl (Nat.le_of_ble_eq_true rfl) h (fun _ _ e => zc_X1_keepBarrel e) (fun M19 _ _ h => ?_)
        refine zV_b (pc' := 87) (lv' := [(5, .inr (.inr v9)), (4, .inr (.inr v6)), (3, .inl v3), (0, .inr (.inr l0)), (1, .inl l1), (2, .inl l2)]) (st' := [.inr (.inr l0)]) [(.aload_n 0, 1)] (by decide +kernel) rfl ?_
        refine zV_gr (by decide +kernel) zfl_RX11_79 (by decide) rfl h (fun v20 _ h => ?_)
        refine zV_b (pc' := 92) (lv' := [(5, .inr (.inr v9)), (4, .inr (.inr v6)), (3, .inl v3), (0, .inr (.inr l0)), (1, .inl l1), (2, .inl l2)]) (st' := [.inr (.inr v9), .inr (.inr v20)]) [(.aload 5, 2)] (by decide +kernel) rfl ?_
        refine zV_cvv (As := [.inr (.inr v9)]) (st := []) (c := 2) (by decide +kernel) (zcl_X1_keepBarrel (by decide) (by decide)) ⟨zw_696, zw_697, zw_698⟩ ⟨⟨_, _, rfl⟩, by decide⟩ rfl rfl (Nat.le_of_ble_eq_true rfl) h (fun _ _ e => zc_X1_keepBarrel e) (fun M21 _ _ h => ?_)
        refine zV_b (pc' := 99) (lv' := [(5, .inr (.inr v9)), (4, .inr (.inr v6)), (3, .inl v3), (0, .inr (.inr l0)), (1, .inl l1), (2, .inl l2)]) (st' := [.inr (.inr v9), .inr (.inr v6)]) [(.aload 4, 2), (.aload 5, 2)] (by decide +kernel) rfl ?_
        refine zV_cvv (As := [.inr (.inr v9)]) (st := []) (c := 1) (by decide +kernel) (zcl_X0_takeIn (by decide) (by decide)) ⟨zw_710, zw_711, zw_712⟩ ⟨⟨_, _, rfl⟩, by decide⟩ rfl rfl (Nat.le_of_ble_eq_true rfl) h (fun _ _ e => zc_X0_takeIn e) (fun M22 _ _ h => ?_)
        refine zV_b (pc' := 104) (lv' := [(5, .inr (.inr v9)), (4, .inr (.inr v6)), (3, .inl v3), (0, .inr (.inr l0)), (1, .inl l1), (2, .inl l2)]) (st' := [.inr (.inr v6)]) [(.aload 4, 2)] (by decide +kernel) rfl ?_
        refine zV_gi (by decide +kernel) zfl_RX11_190 (by decide) rfl (Or.inl rfl) h (fun v23 _ h => ?_)
        refine zV_b (pc' := 108) (lv' := [(5, .inr (.inr v9)), (4, .inr (.inr v6)), (3, .inl v3), (0, .inr (.inr l0)), (1, .inl l1), (2, .inl l2)]) (st' := [.inr (.inl (v23.toInt64))]) [(.i2l, 1)] (by decide +kernel) rfl ?_
        exact zend_j h hR (by decide +kernel)
      · refine zV_ldc2 (by decide +kernel) zw_527 ?_
        exact zend_j h hR (by decide +kernel)
  · refine zV_b (pc' := 21) (lv' := [(3, .inl v3), (0, .inr (.inr l0)), (1, .inl l1), (2, .inl l2)]) (st' := [.inr (.inl (((-v3)).toInt64))]) [(.iload_n 3, 1), (.ineg, 1), (.i2l, 1)] (by decide +kernel) rfl ?_
    exact zend_j h hR (by decide +kernel)
theorem zc_X11_joinCask {M M' : Zm} {l0 : Option Nat} {l1 : Int32} {l2 : Int32} {x : Int64} (h : zf_X11_joinCask M l0 l1 l2 = some (M', x)) (l : Launch) (D : va_G) (cy : Nat → ClassId) : zMet l yX11_joinCask zC_X11_joinCask (some .long) D cy [.inr (.inr l0), .inl l1, .inl l2] M M' (some (.inr (.inl x))) :=
  zM_j (by decide) rfl (fun h => by cases h) (Nat.le_of_ble_eq_true rfl) (fun X hR => zt_X11_joinCask h hR)
-- BlendCellar.join(II)J
def zC_X11_join : Zc := (cX11_join, 3, RX11, 9, 203, false)
theorem zcl_X11_join {C : Zc} (h1 : zC_X11_join.2.2.2.1 + 1 ≤ C.2.2.2.1) (h2 : 8 + (zC_X11_join.2.1 + 11) + zC_X11_join.2.2.2.2.1 ≤ C.2.2.2.2.1) : zCl C yX11_join zC_X11_join (some .long) 2 := ⟨zw_657, zw_101, ⟨by decide, by decide⟩, by decide +kernel, h1, h2⟩
noncomputable def zf_X11_join (M : Zm) (l0 : Option Nat) (l1 : Int32) (l2 : Int32) : Option (Zm × Int64) :=
  zb1 (zo_rc M l0 12) (fun _ => zbd (zf_X11_openTap M l0) (fun M1 _ =>
  zb1 (zo_rc M1 l0 12) (fun _ => zbd (zf_X11_joinCask M1 l0 l1 l2) (fun M2 v2 =>
  zb1 (zo_rc M2 l0 12) (fun _ => zbd (zf_X11_closeTap M2 l0 v2) (fun M3 v3 =>
  some (M3, v3)))))))
set_option maxRecDepth 100000 in
theorem zt_X11_join {X : Zx} {M : Zm} {l0 : Option Nat} {l1 : Int32} {l2 : Int32} {z : Zm × Int64} (h : zf_X11_join M l0 l1 l2 = some z) (hR : zRj X zC_X11_join z.1 z.2) : zV X zC_X11_join M 0 [(0, .inr (.inr l0)), (1, .inl l1), (2, .inl l2)] [] := by
  unfold zf_X11_join at h
  refine zV_b (pc' := 1) (lv' := [(0, .inr (.inr l0)), (1, .inl l1), (2, .inl l2)]) (st' := [.inr (.inr l0)]) [(.aload_n 0, 1)] (by decide +kernel) rfl ?_
  refine zV_cvv (As := []) (st := []) (c := 12) (by decide +kernel) (zcl_X11_openTap (by decide) (by decide)) ⟨zw_453, zw_455, zw_0⟩ ⟨⟨_, _, rfl⟩, by decide⟩ rfl rfl (Nat.le_of_ble_eq_true rfl) h (fun _ _ e => zc_X11_openTap e) (fun M1 _ _ h => ?_)
  refine zV_b (pc' := 8) (lv' := [(0, .inr (.inr l0)), (1, .inl l1), (2, .inl l2)]) (st' := [.inl l2, .inl l1, .inr (.inr l0), .inr (.inr l0)]) [(.aload_n 0, 1), (.aload_n 0, 1), (.iload_n 1, 1), (.iload_n 2, 1)] (by decide +kernel) rfl ?_
  refine zV_cvj (As := [.inl l1, .inl l2]) (st := [.inr (.inr l0)]) (c := 12) (by decide +kernel) (zcl_X11_joinCask (by decide) (by decide)) ⟨zw_658, zw_660, zw_8⟩ ⟨⟨_, _, rfl⟩, by decide⟩ rfl rfl (Nat.le_of_ble_eq_true rfl) h (fun _ _ e => zc_X11_joinCask e) (fun M2 v2 _ h => ?_)
  refine zV_cvj (As := [.inr (.inl v2)]) (st := []) (c := 12) (by decide +kernel) (zcl_X11_closeTap (by decide) (by decide)) ⟨zw_510, zw_512, zw_3⟩ ⟨⟨_, _, rfl⟩, by decide⟩ rfl rfl (Nat.le_of_ble_eq_true rfl) h (fun _ _ e => zc_X11_closeTap e) (fun M3 v3 _ h => ?_)
  exact zend_j h hR (by decide +kernel)
theorem zc_X11_join {M M' : Zm} {l0 : Option Nat} {l1 : Int32} {l2 : Int32} {x : Int64} (h : zf_X11_join M l0 l1 l2 = some (M', x)) (l : Launch) (D : va_G) (cy : Nat → ClassId) : zMet l yX11_join zC_X11_join (some .long) D cy [.inr (.inr l0), .inl l1, .inl l2] M M' (some (.inr (.inl x))) :=
  zM_j (by decide) rfl (fun h => by cases h) (Nat.le_of_ble_eq_true rfl) (fun X hR => zt_X11_join h hR)
-- BlendCellar.lookUpLabel(I)I
def zC_X11_lookUpLabel : Zc := (cX11_lookUpLabel, 2, RX11, 1, 20, false)
theorem zcl_X11_lookUpLabel {C : Zc} (h1 : zC_X11_lookUpLabel.2.2.2.1 + 1 ≤ C.2.2.2.1) (h2 : 8 + (zC_X11_lookUpLabel.2.1 + 11) + zC_X11_lookUpLabel.2.2.2.2.1 ≤ C.2.2.2.2.1) : zCl C yX11_lookUpLabel zC_X11_lookUpLabel (some .int) 1 := ⟨zw_1127, zw_101, ⟨by decide, by decide⟩, by decide +kernel, h1, h2⟩
noncomputable def zf_X11_lookUpLabel (M : Zm) (l0 : Option Nat) (l1 : Int32) : Option (Zm × Int32) :=
  (if l1 < 0 then
  some (M, (3 : Int32))
  else
  (if l1 < (40 : Int32) then
  zb1 (zo_gr M l0 12 2) (fun v4 =>
  zb1 (zo_rc M v4 0) (fun _ => zbd (zf_Jx4a65c_size_8abf5 M v4) (fun M5 v5 =>
  (if l1 < v5 then
  some (M5, (0 : Int32))
  else
  some (M5, (2 : Int32))))))
  else
  some (M, (3 : Int32))))
set_option maxRecDepth 100000 in
theorem zt_X11_lookUpLabel {X : Zx} {M : Zm} {l0 : Option Nat} {l1 : Int32} {z : Zm × Int32} (h : zf_X11_lookUpLabel M l0 l1 = some z) (hR : zRi X zC_X11_lookUpLabel z.1 z.2) : zV X zC_X11_lookUpLabel M 0 [(0, .inr (.inr l0)), (1, .inl l1)] [] := by
  unfold zf_X11_lookUpLabel at h
  refine zV_b (pc' := 1) (lv' := [(0, .inr (.inr l0)), (1, .inl l1)]) (st' := [.inl l1]) [(.iload_n 1, 1)] (by decide +kernel) rfl ?_
  refine zV_if_lt (off := 9) (tgt := 10) (by decide +kernel) (by decide) h (fun c1 h => ?_) (fun c1 h => ?_)
  · refine zV_b (pc' := 11) (lv' := [(0, .inr (.inr l0)), (1, .inl l1)]) (st' := [.inl (3 : Int32)]) [(.iconst 3, 1)] (by decide +kernel) rfl ?_
    exact zend_i h hR (by decide +kernel)
  · refine zV_b (pc' := 7) (lv' := [(0, .inr (.inr l0)), (1, .inl l1)]) (st' := [.inl (40 : Int32), .inl l1]) [(.iload_n 1, 1), (.bipush 40, 2)] (by decide +kernel) rfl ?_
    refine zV_icmp_lt (off := 5) (tgt := 12) (by decide +kernel) (by decide) h (fun c3 h => ?_) (fun c3 h => ?_)
    · refine zV_b (pc' := 14) (lv' := [(0, .inr (.inr l0)), (1, .inl l1)]) (st' := [.inr (.inr l0), .inl l1]) [(.iload_n 1, 1), (.aload_n 0, 1)] (by decide +kernel) rfl ?_
      refine zV_gr (by decide +kernel) zfl_RX11_22 (by decide) rfl h (fun v4 _ h => ?_)
      refine zV_cvi (As := []) (st := [.inl l1]) (c := 0) (by decide +kernel) (zcl_Jx4a65c_size_8abf5 (by decide) (by decide)) ⟨zw_473, zw_474, zw_475⟩ ⟨⟨_, _, rfl⟩, by decide⟩ rfl rfl (Nat.le_of_ble_eq_true rfl) h (fun _ _ e => zc_Jx4a65c_size_8abf5 e) (fun M5 v5 _ h => ?_)
      refine zV_icmp_lt (off := 7) (tgt := 27) (by decide +kernel) (by decide) h (fun c6 h => ?_) (fun c6 h => ?_)
      · refine zV_b (pc' := 28) (lv' := [(0, .inr (.inr l0)), (1, .inl l1)]) (st' := [.inl (0 : Int32)]) [(.iconst 0, 1)] (by decide +kernel) rfl ?_
        exact zend_i h hR (by decide +kernel)
      · refine zV_b (pc' := 24) (lv' := [(0, .inr (.inr l0)), (1, .inl l1)]) (st' := [.inl (2 : Int32)]) [(.iconst 2, 1)] (by decide +kernel) rfl ?_
        refine zV_goto (off := 4) (tgt := 28) (by decide +kernel) (by decide) ?_
        exact zend_i h hR (by decide +kernel)
    · refine zV_b (pc' := 11) (lv' := [(0, .inr (.inr l0)), (1, .inl l1)]) (st' := [.inl (3 : Int32)]) [(.iconst 3, 1)] (by decide +kernel) rfl ?_
      exact zend_i h hR (by decide +kernel)
theorem zc_X11_lookUpLabel {M M' : Zm} {l0 : Option Nat} {l1 : Int32} {x : Int32} (h : zf_X11_lookUpLabel M l0 l1 = some (M', x)) (l : Launch) (D : va_G) (cy : Nat → ClassId) : zMet l yX11_lookUpLabel zC_X11_lookUpLabel (some .int) D cy [.inr (.inr l0), .inl l1] M M' (some (.inl x)) :=
  zM_i (by decide) rfl (fun h => by cases h) (Nat.le_of_ble_eq_true rfl) (fun X hR => zt_X11_lookUpLabel h hR)
-- BlendCellar.judgeBarrel(II)J
def zC_X11_judgeBarrel : Zc := (cX11_judgeBarrel, 5, RX11, 4, 99, false)
theorem zcl_X11_judgeBarrel {C : Zc} (h1 : zC_X11_judgeBarrel.2.2.2.1 + 1 ≤ C.2.2.2.1) (h2 : 8 + (zC_X11_judgeBarrel.2.1 + 11) + zC_X11_judgeBarrel.2.2.2.2.1 ≤ C.2.2.2.2.1) : zCl C yX11_judgeBarrel zC_X11_judgeBarrel (some .long) 2 := ⟨zw_1143, zw_101, ⟨by decide, by decide⟩, by decide +kernel, h1, h2⟩
noncomputable def zf_X11_judgeBarrel (M : Zm) (l0 : Option Nat) (l1 : Int32) (l2 : Int32) : Option (Zm × Int64) :=
  zb1 (zo_pi M l0 12 19 (-1 : Int32)) (fun M1 =>
  zb1 (zo_rc M1 l0 12) (fun _ => zbd (zf_X11_lookUp M1 l0 l1) (fun M2 v2 =>
  zb1 (zo_rc M2 l0 12) (fun _ => zbd (zf_X11_lookUpLabel M2 l0 l2) (fun M3 v3 =>
  zbd (zf_X11_firstOf M3 v2 v3) (fun M4 v4 =>
  (if v4 = 0 then
  zb1 (zo_gr M4 l0 12 2) (fun v6 =>
  zb1 (zo_rc M4 v6 0) (fun _ => zbd (zf_Jx4a65c_get_915e3 M4 v6 l2) (fun M7 v7 =>
  zb1 (zo_cc M7 v7 4) (fun _ =>
  zb1 (zo_gr M7 l0 12 4) (fun v9 =>
  zb1 (zo_gr M7 l0 12 0) (fun v10 =>
  zb1 (zo_rc M7 v10 0) (fun _ => zbd (zf_Jx4a65c_get_915e3 M7 v10 l1) (fun M11 v11 =>
  zb1 (zo_cc M11 v11 1) (fun _ =>
  zb1 (zo_rc M11 v9 9) (fun _ => zbd (zf_X8_countAlone M11 v9 v11) (fun M13 _ =>
  zb1 (zo_gr M13 l0 12 4) (fun v14 =>
  zb1 (zo_rc M13 v7 4) (fun _ => zbd (zf_X3_firstBroken M13 v7 v14) (fun M15 v15 =>
  zb1 (zo_pi M15 l0 12 19 v15) (fun M16 =>
  zb1 (zo_gi M16 l0 12 19) (fun v17 =>
  (if v17 = (-1 : Int32) then
  some (M16, (1 : Int64))
  else
  zb1 (zo_gi M16 l0 12 19) (fun v20 =>
  zb1 (zo_gr M16 l0 12 4) (fun v21 =>
  zb1 (zo_rc M16 v7 4) (fun _ => zbd (zf_X3_answerOf M16 v7 v20 v21) (fun M22 v22 =>
  (if v22 = (-1 : Int32) then
  some (M22, (-5 : Int64))
  else
  some (M22, (0 : Int64))))))))))))))))))))))))
  else
  some (M4, (((-v4)).toInt64)))))))))
set_option maxRecDepth 100000 in
theorem zt_X11_judgeBarrel {X : Zx} {M : Zm} {l0 : Option Nat} {l1 : Int32} {l2 : Int32} {z : Zm × Int64} (h : zf_X11_judgeBarrel M l0 l1 l2 = some z) (hR : zRj X zC_X11_judgeBarrel z.1 z.2) : zV X zC_X11_judgeBarrel M 0 [(0, .inr (.inr l0)), (1, .inl l1), (2, .inl l2)] [] := by
  unfold zf_X11_judgeBarrel at h
  refine zV_b (pc' := 2) (lv' := [(0, .inr (.inr l0)), (1, .inl l1), (2, .inl l2)]) (st' := [.inl (-1 : Int32), .inr (.inr l0)]) [(.aload_n 0, 1), (.iconst (-1), 1)] (by decide +kernel) rfl ?_
  refine zV_pi (by decide +kernel) zfp_RX11_111 (by decide) rfl h (fun M1 _ h => ?_)
  refine zV_b (pc' := 7) (lv' := [(0, .inr (.inr l0)), (1, .inl l1), (2, .inl l2)]) (st' := [.inl l1, .inr (.inr l0)]) [(.aload_n 0, 1), (.iload_n 1, 1)] (by decide +kernel) rfl ?_
  refine zV_cvi (As := [.inl l1]) (st := []) (c := 12) (by decide +kernel) (zcl_X11_lookUp (by decide) (by decide)) ⟨zw_666, zw_668, zw_10⟩ ⟨⟨_, _, rfl⟩, by decide⟩ rfl rfl (Nat.le_of_ble_eq_true rfl) h (fun _ _ e => zc_X11_lookUp e) (fun M2 v2 _ h => ?_)
  refine zV_b (pc' := 12) (lv' := [(0, .inr (.inr l0)), (1, .inl l1), (2, .inl l2)]) (st' := [.inl l2, .inr (.inr l0), .inl v2]) [(.aload_n 0, 1), (.iload_n 2, 1)] (by decide +kernel) rfl ?_
  refine zV_cvi (As := [.inl l2]) (st := [.inl v2]) (c := 12) (by decide +kernel) (zcl_X11_lookUpLabel (by decide) (by decide)) ⟨zw_1124, zw_1126, zw_47⟩ ⟨⟨_, _, rfl⟩, by decide⟩ rfl rfl (Nat.le_of_ble_eq_true rfl) h (fun _ _ e => zc_X11_lookUpLabel e) (fun M3 v3 _ h => ?_)
  refine zV_csi (As := [.inl v2, .inl v3]) (st := []) (by decide +kernel) (zcl_X11_firstOf (by decide) (by decide)) ⟨zw_688, zw_689⟩ rfl rfl (Nat.le_of_ble_eq_true rfl) h (fun _ _ e => zc_X11_firstOf e) (fun M4 v4 _ h => ?_)
  refine zV_b (pc' := 20) (lv' := [(3, .inl v4), (0, .inr (.inr l0)), (1, .inl l1), (2, .inl l2)]) (st' := [.inl v4]) [(.istore_n 3, 1), (.iload_n 3, 1)] (by decide +kernel) rfl ?_
  refine zV_if_eq (off := 7) (tgt := 27) (by decide +kernel) (by decide) h (fun c5 h => ?_) (fun c5 h => ?_)
  · refine zV_b (pc' := 28) (lv' := [(3, .inl v4), (0, .inr (.inr l0)), (1, .inl l1), (2, .inl l2)]) (st' := [.inr (.inr l0)]) [(.aload_n 0, 1)] (by decide +kernel) rfl ?_
    refine zV_gr (by decide +kernel) zfl_RX11_22 (by decide) rfl h (fun v6 _ h => ?_)
    refine zV_b (pc' := 32) (lv' := [(3, .inl v4), (0, .inr (.inr l0)), (1, .inl l1), (2, .inl l2)]) (st' := [.inl l2, .inr (.inr v6)]) [(.iload_n 2, 1)] (by decide +kernel) rfl ?_
    refine zV_cvr (As := [.inl l2]) (st := []) (c := 0) (by decide +kernel) (zcl_Jx4a65c_get_915e3 (by decide) (by decide)) ⟨zw_670, zw_671, zw_672⟩ ⟨⟨_, _, rfl⟩, by decide⟩ rfl rfl (Nat.le_of_ble_eq_true rfl) h (fun _ _ e => zc_Jx4a65c_get_915e3 e) (fun M7 v7 _ h => ?_)
    refine zV_cc (by decide +kernel) zck_RX11_435 h (fun _ _ h => ?_)
    refine zV_b (pc' := 41) (lv' := [(4, .inr (.inr v7)), (3, .inl v4), (0, .inr (.inr l0)), (1, .inl l1), (2, .inl l2)]) (st' := [.inr (.inr l0)]) [(.astore 4, 2), (.aload_n 0, 1)] (by decide +kernel) rfl ?_
    refine zV_gr (by decide +kernel) zfl_RX11_37 (by decide) rfl h (fun v9 _ h => ?_)
    refine zV_b (pc' := 45) (lv' := [(4, .inr (.inr v7)), (3, .inl v4), (0, .inr (.inr l0)), (1, .inl l1), (2, .inl l2)]) (st' := [.inr (.inr l0), .inr (.inr v9)]) [(.aload_n 0, 1)] (by decide +kernel) rfl ?_
    refine zV_gr (by decide +kernel) zfl_RX11_12 (by decide) rfl h (fun v10 _ h => ?_)
    refine zV_b (pc' := 49) (lv' := [(4, .inr (.inr v7)), (3, .inl v4), (0, .inr (.inr l0)), (1, .inl l1), (2, .inl l2)]) (st' := [.inl l1, .inr (.inr v10), .inr (.inr v9)]) [(.iload_n 1, 1)] (by decide +kernel) rfl ?_
    refine zV_cvr (As := [.inl l1]) (st := [.inr (.inr v9)]) (c := 0) (by decide +kernel) (zcl_Jx4a65c_get_915e3 (by decide) (by decide)) ⟨zw_670, zw_671, zw_672⟩ ⟨⟨_, _, rfl⟩, by decide⟩ rfl rfl (Nat.le_of_ble_eq_true rfl) h (fun _ _ e => zc_Jx4a65c_get_915e3 e) (fun M11 v11 _ h => ?_)
    refine zV_cc (by decide +kernel) zck_RX11_156 h (fun _ _ h => ?_)
    refine zV_cvv (As := [.inr (.inr v11)]) (st := []) (c := 9) (by decide +kernel) (zcl_X8_countAlone (by decide) (by decide)) ⟨zw_1144, zw_1145, zw_1146⟩ ⟨⟨_, _, rfl⟩, by decide⟩ rfl rfl (Nat.le_of_ble_eq_true rfl) h (fun _ _ e => zc_X8_countAlone e) (fun M13 _ _ h => ?_)
    refine zV_b (pc' := 62) (lv' := [(4, .inr (.inr v7)), (3, .inl v4), (0, .inr (.inr l0)), (1, .inl l1), (2, .inl l2)]) (st' := [.inr (.inr l0), .inr (.inr v7), .inr (.inr l0)]) [(.aload_n 0, 1), (.aload 4, 2), (.aload_n 0, 1)] (by decide +kernel) rfl ?_
    refine zV_gr (by decide +kernel) zfl_RX11_37 (by decide) rfl h (fun v14 _ h => ?_)
    refine zV_cvi (As := [.inr (.inr v14)]) (st := [.inr (.inr l0)]) (c := 4) (by decide +kernel) (zcl_X3_firstBroken (by decide) (by decide)) ⟨zw_1166, zw_1167, zw_1168⟩ ⟨⟨_, _, rfl⟩, by decide⟩ rfl rfl (Nat.le_of_ble_eq_true rfl) h (fun _ _ e => zc_X3_firstBroken e) (fun M15 v15 _ h => ?_)
    refine zV_pi (by decide +kernel) zfp_RX11_111 (by decide) rfl h (fun M16 _ h => ?_)
    refine zV_b (pc' := 72) (lv' := [(4, .inr (.inr v7)), (3, .inl v4), (0, .inr (.inr l0)), (1, .inl l1), (2, .inl l2)]) (st' := [.inr (.inr l0)]) [(.aload_n 0, 1)] (by decide +kernel) rfl ?_
    refine zV_gi (by decide +kernel) zfl_RX11_111 (by decide) rfl (Or.inl rfl) h (fun v17 _ h => ?_)
    refine zV_b (pc' := 76) (lv' := [(4, .inr (.inr v7)), (3, .inl v4), (0, .inr (.inr l0)), (1, .inl l1), (2, .inl l2)]) (st' := [.inl (-1 : Int32), .inl v17]) [(.iconst (-1), 1)] (by decide +kernel) rfl ?_
    refine zV_icmp_ne (off := 5) (tgt := 81) (by decide +kernel) (by decide) h (fun c18 h => ?_) (fun c18 h => ?_)
    · refine zV_b (pc' := 80) (lv' := [(4, .inr (.inr v7)), (3, .inl v4), (0, .inr (.inr l0)), (1, .inl l1), (2, .inl l2)]) (st' := [.inr (.inl (1 : Int64))]) [(.lconst 1, 1)] (by decide +kernel) rfl ?_
      exact zend_j h hR (by decide +kernel)
    · refine zV_b (pc' := 84) (lv' := [(4, .inr (.inr v7)), (3, .inl v4), (0, .inr (.inr l0)), (1, .inl l1), (2, .inl l2)]) (st' := [.inr (.inr l0), .inr (.inr v7)]) [(.aload 4, 2), (.aload_n 0, 1)] (by decide +kernel) rfl ?_
      refine zV_gi (by decide +kernel) zfl_RX11_111 (by decide) rfl (Or.inl rfl) h (fun v20 _ h => ?_)
      refine zV_b (pc' := 88) (lv' := [(4, .inr (.inr v7)), (3, .inl v4), (0, .inr (.inr l0)), (1, .inl l1), (2, .inl l2)]) (st' := [.inr (.inr l0), .inl v20, .inr (.inr v7)]) [(.aload_n 0, 1)] (by decide +kernel) rfl ?_
      refine zV_gr (by decide +kernel) zfl_RX11_37 (by decide) rfl h (fun v21 _ h => ?_)
      refine zV_cvi (As := [.inl v20, .inr (.inr v21)]) (st := []) (c := 4) (by decide +kernel) (zcl_X3_answerOf (by decide) (by decide)) ⟨zw_1186, zw_1171, zw_1172⟩ ⟨⟨_, _, rfl⟩, by decide⟩ rfl rfl (Nat.le_of_ble_eq_true rfl) h (fun _ _ e => zc_X3_answerOf e) (fun M22 v22 _ h => ?_)
      refine zV_b (pc' := 95) (lv' := [(4, .inr (.inr v7)), (3, .inl v4), (0, .inr (.inr l0)), (1, .inl l1), (2, .inl l2)]) (st' := [.inl (-1 : Int32), .inl v22]) [(.iconst (-1), 1)] (by decide +kernel) rfl ?_
      refine zV_icmp_ne (off := 9) (tgt := 104) (by decide +kernel) (by decide) h (fun c23 h => ?_) (fun c23 h => ?_)
      · refine zV_ldc2 (by decide +kernel) zw_1023 ?_
        refine zV_goto (off := 4) (tgt := 105) (by decide +kernel) (by decide) ?_
        exact zend_j h hR (by decide +kernel)
      · refine zV_b (pc' := 105) (lv' := [(4, .inr (.inr v7)), (3, .inl v4), (0, .inr (.inr l0)), (1, .inl l1), (2, .inl l2)]) (st' := [.inr (.inl (0 : Int64))]) [(.lconst 0, 1)] (by decide +kernel) rfl ?_
        exact zend_j h hR (by decide +kernel)
  · refine zV_b (pc' := 26) (lv' := [(3, .inl v4), (0, .inr (.inr l0)), (1, .inl l1), (2, .inl l2)]) (st' := [.inr (.inl (((-v4)).toInt64))]) [(.iload_n 3, 1), (.ineg, 1), (.i2l, 1)] (by decide +kernel) rfl ?_
    exact zend_j h hR (by decide +kernel)
theorem zc_X11_judgeBarrel {M M' : Zm} {l0 : Option Nat} {l1 : Int32} {l2 : Int32} {x : Int64} (h : zf_X11_judgeBarrel M l0 l1 l2 = some (M', x)) (l : Launch) (D : va_G) (cy : Nat → ClassId) : zMet l yX11_judgeBarrel zC_X11_judgeBarrel (some .long) D cy [.inr (.inr l0), .inl l1, .inl l2] M M' (some (.inr (.inl x))) :=
  zM_j (by decide) rfl (fun h => by cases h) (Nat.le_of_ble_eq_true rfl) (fun X hR => zt_X11_judgeBarrel h hR)
-- BlendCellar.judge(II)J
def zC_X11_judge : Zc := (cX11_judge, 3, RX11, 5, 123, false)
theorem zcl_X11_judge {C : Zc} (h1 : zC_X11_judge.2.2.2.1 + 1 ≤ C.2.2.2.1) (h2 : 8 + (zC_X11_judge.2.1 + 11) + zC_X11_judge.2.2.2.2.1 ≤ C.2.2.2.2.1) : zCl C yX11_judge zC_X11_judge (some .long) 2 := ⟨zw_1139, zw_101, ⟨by decide, by decide⟩, by decide +kernel, h1, h2⟩
noncomputable def zf_X11_judge (M : Zm) (l0 : Option Nat) (l1 : Int32) (l2 : Int32) : Option (Zm × Int64) :=
  zb1 (zo_rc M l0 12) (fun _ => zbd (zf_X11_openTap M l0) (fun M1 _ =>
  zb1 (zo_rc M1 l0 12) (fun _ => zbd (zf_X11_judgeBarrel M1 l0 l1 l2) (fun M2 v2 =>
  zb1 (zo_rc M2 l0 12) (fun _ => zbd (zf_X11_closeTap M2 l0 v2) (fun M3 v3 =>
  some (M3, v3)))))))
set_option maxRecDepth 100000 in
theorem zt_X11_judge {X : Zx} {M : Zm} {l0 : Option Nat} {l1 : Int32} {l2 : Int32} {z : Zm × Int64} (h : zf_X11_judge M l0 l1 l2 = some z) (hR : zRj X zC_X11_judge z.1 z.2) : zV X zC_X11_judge M 0 [(0, .inr (.inr l0)), (1, .inl l1), (2, .inl l2)] [] := by
  unfold zf_X11_judge at h
  refine zV_b (pc' := 1) (lv' := [(0, .inr (.inr l0)), (1, .inl l1), (2, .inl l2)]) (st' := [.inr (.inr l0)]) [(.aload_n 0, 1)] (by decide +kernel) rfl ?_
  refine zV_cvv (As := []) (st := []) (c := 12) (by decide +kernel) (zcl_X11_openTap (by decide) (by decide)) ⟨zw_453, zw_455, zw_0⟩ ⟨⟨_, _, rfl⟩, by decide⟩ rfl rfl (Nat.le_of_ble_eq_true rfl) h (fun _ _ e => zc_X11_openTap e) (fun M1 _ _ h => ?_)
  refine zV_b (pc' := 8) (lv' := [(0, .inr (.inr l0)), (1, .inl l1), (2, .inl l2)]) (st' := [.inl l2, .inl l1, .inr (.inr l0), .inr (.inr l0)]) [(.aload_n 0, 1), (.aload_n 0, 1), (.iload_n 1, 1), (.iload_n 2, 1)] (by decide +kernel) rfl ?_
  refine zV_cvj (As := [.inl l1, .inl l2]) (st := [.inr (.inr l0)]) (c := 12) (by decide +kernel) (zcl_X11_judgeBarrel (by decide) (by decide)) ⟨zw_1140, zw_1142, zw_48⟩ ⟨⟨_, _, rfl⟩, by decide⟩ rfl rfl (Nat.le_of_ble_eq_true rfl) h (fun _ _ e => zc_X11_judgeBarrel e) (fun M2 v2 _ h => ?_)
  refine zV_cvj (As := [.inr (.inl v2)]) (st := []) (c := 12) (by decide +kernel) (zcl_X11_closeTap (by decide) (by decide)) ⟨zw_510, zw_512, zw_3⟩ ⟨⟨_, _, rfl⟩, by decide⟩ rfl rfl (Nat.le_of_ble_eq_true rfl) h (fun _ _ e => zc_X11_closeTap e) (fun M3 v3 _ h => ?_)
  exact zend_j h hR (by decide +kernel)
theorem zc_X11_judge {M M' : Zm} {l0 : Option Nat} {l1 : Int32} {l2 : Int32} {x : Int64} (h : zf_X11_judge M l0 l1 l2 = some (M', x)) (l : Launch) (D : va_G) (cy : Nat → ClassId) : zMet l yX11_judge zC_X11_judge (some .long) D cy [.inr (.inr l0), .inl l1, .inl l2] M M' (some (.inr (.inl x))) :=
  zM_j (by decide) rfl (fun h => by cases h) (Nat.le_of_ble_eq_true rfl) (fun X hR => zt_X11_judge h hR)
-- BlendCellar.kindOf(I)I
def zC_X11_kindOf : Zc := (cX11_kindOf, 3, RX11, 4, 85, false)
theorem zcl_X11_kindOf {C : Zc} (h1 : zC_X11_kindOf.2.2.2.1 + 1 ≤ C.2.2.2.1) (h2 : 8 + (zC_X11_kindOf.2.1 + 11) + zC_X11_kindOf.2.2.2.2.1 ≤ C.2.2.2.2.1) : zCl C yX11_kindOf zC_X11_kindOf (some .int) 1 := ⟨zw_1289, zw_101, ⟨by decide, by decide⟩, by decide +kernel, h1, h2⟩
noncomputable def zf_X11_kindOf (M : Zm) (l0 : Option Nat) (l1 : Int32) : Option (Zm × Int32) :=
  zb1 (zo_rc M l0 12) (fun _ => zbd (zf_X11_find M l0 l1) (fun M1 v1 =>
  (if v1 = none then
  some (M1, (0 : Int32))
  else
  zb1 (zo_gi M1 v1 1 1) (fun v5 =>
  some (M1, v5)))))
set_option maxRecDepth 100000 in
theorem zt_X11_kindOf {X : Zx} {M : Zm} {l0 : Option Nat} {l1 : Int32} {z : Zm × Int32} (h : zf_X11_kindOf M l0 l1 = some z) (hR : zRi X zC_X11_kindOf z.1 z.2) : zV X zC_X11_kindOf M 0 [(0, .inr (.inr l0)), (1, .inl l1)] [] := by
  unfold zf_X11_kindOf at h
  refine zV_b (pc' := 2) (lv' := [(0, .inr (.inr l0)), (1, .inl l1)]) (st' := [.inl l1, .inr (.inr l0)]) [(.aload_n 0, 1), (.iload_n 1, 1)] (by decide +kernel) rfl ?_
  refine zV_cvr (As := [.inl l1]) (st := []) (c := 12) (by decide +kernel) (zcl_X11_find (by decide) (by decide)) ⟨zw_751, zw_753, zw_16⟩ ⟨⟨_, _, rfl⟩, by decide⟩ rfl rfl (Nat.le_of_ble_eq_true rfl) h (fun _ _ e => zc_X11_find e) (fun M1 v1 _ h => ?_)
  refine zV_b (pc' := 7) (lv' := [(2, .inr (.inr v1)), (0, .inr (.inr l0)), (1, .inl l1)]) (st' := [.inr (.inr v1)]) [(.astore_n 2, 1), (.aload_n 2, 1)] (by decide +kernel) rfl ?_
  refine zV_ifnonnull (off := 7) (tgt := 14) (by decide +kernel) (by decide) h (fun c2 h => ?_) (fun c2 h => ?_)
  · refine zV_b (pc' := 11) (lv' := [(2, .inr (.inr v1)), (0, .inr (.inr l0)), (1, .inl l1)]) (st' := [.inl (0 : Int32)]) [(.iconst 0, 1)] (by decide +kernel) rfl ?_
    refine zV_goto (off := 7) (tgt := 18) (by decide +kernel) (by decide) ?_
    exact zend_i h hR (by decide +kernel)
  · refine zV_b (pc' := 15) (lv' := [(2, .inr (.inr v1)), (0, .inr (.inr l0)), (1, .inl l1)]) (st' := [.inr (.inr v1)]) [(.aload_n 2, 1)] (by decide +kernel) rfl ?_
    refine zV_gi (by decide +kernel) zfl_RX11_227 (by decide) rfl (Or.inl rfl) h (fun v5 _ h => ?_)
    exact zend_i h hR (by decide +kernel)
theorem zc_X11_kindOf {M M' : Zm} {l0 : Option Nat} {l1 : Int32} {x : Int32} (h : zf_X11_kindOf M l0 l1 = some (M', x)) (l : Launch) (D : va_G) (cy : Nat → ClassId) : zMet l yX11_kindOf zC_X11_kindOf (some .int) D cy [.inr (.inr l0), .inl l1] M M' (some (.inl x)) :=
  zM_i (by decide) rfl (fun h => by cases h) (Nat.le_of_ble_eq_true rfl) (fun X hR => zt_X11_kindOf h hR)
-- BlendCellar.makeLabel()J
def zC_X11_makeLabel : Zc := (cX11_makeLabel, 2, RX11, 7, 157, false)
theorem zcl_X11_makeLabel {C : Zc} (h1 : zC_X11_makeLabel.2.2.2.1 + 1 ≤ C.2.2.2.1) (h2 : 8 + (zC_X11_makeLabel.2.1 + 11) + zC_X11_makeLabel.2.2.2.2.1 ≤ C.2.2.2.2.1) : zCl C yX11_makeLabel zC_X11_makeLabel (some .long) 0 := ⟨zw_1079, zw_101, ⟨by decide, by decide⟩, by decide +kernel, h1, h2⟩
noncomputable def zf_X11_makeLabel (M : Zm) (l0 : Option Nat) : Option (Zm × Int64) :=
  zb1 (zo_gr M l0 12 2) (fun v1 =>
  zb1 (zo_rc M v1 0) (fun _ => zbd (zf_Jx4a65c_size_8abf5 M v1) (fun M2 v2 =>
  (if v2 < (40 : Int32) then
  zb1 (zo_gr M2 l0 12 2) (fun v4 =>
  zb1 (zo_n M2 4 8) (fun M5 =>
  zb1 (zo_rc M5 (zm_nx M2) 4) (fun _ => zbd (zf_X3_init M5 (zm_nx M2)) (fun M6 _ =>
  zb1 (zo_rc M6 v4 0) (fun _ => zbd (zf_Jx4a65c_add_9ea2d M6 v4 (zm_nx M2)) (fun M7 v7 =>
  some (M7, (v2.toInt64))))))))
  else
  some (M2, (-12 : Int64))))))
set_option maxRecDepth 100000 in
theorem zt_X11_makeLabel {X : Zx} {M : Zm} {l0 : Option Nat} {z : Zm × Int64} (h : zf_X11_makeLabel M l0 = some z) (hR : zRj X zC_X11_makeLabel z.1 z.2) : zV X zC_X11_makeLabel M 0 [(0, .inr (.inr l0))] [] := by
  unfold zf_X11_makeLabel at h
  refine zV_b (pc' := 1) (lv' := [(0, .inr (.inr l0))]) (st' := [.inr (.inr l0)]) [(.aload_n 0, 1)] (by decide +kernel) rfl ?_
  refine zV_gr (by decide +kernel) zfl_RX11_22 (by decide) rfl h (fun v1 _ h => ?_)
  refine zV_cvi (As := []) (st := []) (c := 0) (by decide +kernel) (zcl_Jx4a65c_size_8abf5 (by decide) (by decide)) ⟨zw_473, zw_474, zw_475⟩ ⟨⟨_, _, rfl⟩, by decide⟩ rfl rfl (Nat.le_of_ble_eq_true rfl) h (fun _ _ e => zc_Jx4a65c_size_8abf5 e) (fun M2 v2 _ h => ?_)
  refine zV_b (pc' := 11) (lv' := [(1, .inl v2), (0, .inr (.inr l0))]) (st' := [.inl (40 : Int32), .inl v2]) [(.istore_n 1, 1), (.iload_n 1, 1), (.bipush 40, 2)] (by decide +kernel) rfl ?_
  refine zV_icmp_lt (off := 7) (tgt := 18) (by decide +kernel) (by decide) h (fun c3 h => ?_) (fun c3 h => ?_)
  · refine zV_b (pc' := 19) (lv' := [(1, .inl v2), (0, .inr (.inr l0))]) (st' := [.inr (.inr l0)]) [(.aload_n 0, 1)] (by decide +kernel) rfl ?_
    refine zV_gr (by decide +kernel) zfl_RX11_22 (by decide) rfl h (fun v4 _ h => ?_)
    refine zV_n (by decide +kernel) znw_RX11_435 h (fun M5 _ h => ?_)
    refine zV_b (pc' := 26) (lv' := [(1, .inl v2), (0, .inr (.inr l0))]) (st' := [.inr (.inr (zm_nx M2)), .inr (.inr (zm_nx M2)), .inr (.inr v4)]) [(.dup, 1)] (by decide +kernel) rfl ?_
    refine zV_cin (As := []) (st := [.inr (.inr (zm_nx M2)), .inr (.inr v4)]) (c := 4) (by decide +kernel) (zcl_X3_init (by decide) (by decide)) ⟨⟨_, zw_1082⟩, rfl, zw_1083⟩ rfl rfl (Nat.le_of_ble_eq_true rfl) h (fun _ _ e => zc_X3_init e) (fun M6 _ _ h => ?_)
    refine zV_cvi (As := [.inr (.inr (zm_nx M2))]) (st := []) (c := 0) (by decide +kernel) (zcl_Jx4a65c_add_9ea2d (by decide) (by decide)) ⟨zw_595, zw_596, zw_597⟩ ⟨⟨_, _, rfl⟩, by decide⟩ rfl rfl (Nat.le_of_ble_eq_true rfl) h (fun _ _ e => zc_Jx4a65c_add_9ea2d e) (fun M7 v7 _ h => ?_)
    refine zV_b (pc' := 35) (lv' := [(1, .inl v2), (0, .inr (.inr l0))]) (st' := [.inr (.inl (v2.toInt64))]) [(.pop, 1), (.iload_n 1, 1), (.i2l, 1)] (by decide +kernel) rfl ?_
    exact zend_j h hR (by decide +kernel)
  · refine zV_ldc2 (by decide +kernel) zw_527 ?_
    exact zend_j h hR (by decide +kernel)
theorem zc_X11_makeLabel {M M' : Zm} {l0 : Option Nat} {x : Int64} (h : zf_X11_makeLabel M l0 = some (M', x)) (l : Launch) (D : va_G) (cy : Nat → ClassId) : zMet l yX11_makeLabel zC_X11_makeLabel (some .long) D cy [.inr (.inr l0)] M M' (some (.inr (.inl x))) :=
  zM_j (by decide) rfl (fun h => by cases h) (Nat.le_of_ble_eq_true rfl) (fun X hR => zt_X11_makeLabel h hR)
-- BlendCellar.label()J
def zC_X11_label : Zc := (cX11_label, 1, RX11, 8, 178, false)
theorem zcl_X11_label {C : Zc} (h1 : zC_X11_label.2.2.2.1 + 1 ≤ C.2.2.2.1) (h2 : 8 + (zC_X11_label.2.1 + 11) + zC_X11_label.2.2.2.2.1 ≤ C.2.2.2.2.1) : zCl C yX11_label zC_X11_label (some .long) 0 := ⟨zw_1075, zw_101, ⟨by decide, by decide⟩, by decide +kernel, h1, h2⟩
noncomputable def zf_X11_label (M : Zm) (l0 : Option Nat) : Option (Zm × Int64) :=
  zb1 (zo_rc M l0 12) (fun _ => zbd (zf_X11_openTap M l0) (fun M1 _ =>
  zb1 (zo_rc M1 l0 12) (fun _ => zbd (zf_X11_makeLabel M1 l0) (fun M2 v2 =>
  zb1 (zo_rc M2 l0 12) (fun _ => zbd (zf_X11_closeTap M2 l0 v2) (fun M3 v3 =>
  some (M3, v3)))))))
set_option maxRecDepth 100000 in
theorem zt_X11_label {X : Zx} {M : Zm} {l0 : Option Nat} {z : Zm × Int64} (h : zf_X11_label M l0 = some z) (hR : zRj X zC_X11_label z.1 z.2) : zV X zC_X11_label M 0 [(0, .inr (.inr l0))] [] := by
  unfold zf_X11_label at h
  refine zV_b (pc' := 1) (lv' := [(0, .inr (.inr l0))]) (st' := [.inr (.inr l0)]) [(.aload_n 0, 1)] (by decide +kernel) rfl ?_
  refine zV_cvv (As := []) (st := []) (c := 12) (by decide +kernel) (zcl_X11_openTap (by decide) (by decide)) ⟨zw_453, zw_455, zw_0⟩ ⟨⟨_, _, rfl⟩, by decide⟩ rfl rfl (Nat.le_of_ble_eq_true rfl) h (fun _ _ e => zc_X11_openTap e) (fun M1 _ _ h => ?_)
  refine zV_b (pc' := 6) (lv' := [(0, .inr (.inr l0))]) (st' := [.inr (.inr l0), .inr (.inr l0)]) [(.aload_n 0, 1), (.aload_n 0, 1)] (by decide +kernel) rfl ?_
  refine zV_cvj (As := []) (st := [.inr (.inr l0)]) (c := 12) (by decide +kernel) (zcl_X11_makeLabel (by decide) (by decide)) ⟨zw_1076, zw_1078, zw_45⟩ ⟨⟨_, _, rfl⟩, by decide⟩ rfl rfl (Nat.le_of_ble_eq_true rfl) h (fun _ _ e => zc_X11_makeLabel e) (fun M2 v2 _ h => ?_)
  refine zV_cvj (As := [.inr (.inl v2)]) (st := []) (c := 12) (by decide +kernel) (zcl_X11_closeTap (by decide) (by decide)) ⟨zw_510, zw_512, zw_3⟩ ⟨⟨_, _, rfl⟩, by decide⟩ rfl rfl (Nat.le_of_ble_eq_true rfl) h (fun _ _ e => zc_X11_closeTap e) (fun M3 v3 _ h => ?_)
  exact zend_j h hR (by decide +kernel)
theorem zc_X11_label {M M' : Zm} {l0 : Option Nat} {x : Int64} (h : zf_X11_label M l0 = some (M', x)) (l : Launch) (D : va_G) (cy : Nat → ClassId) : zMet l yX11_label zC_X11_label (some .long) D cy [.inr (.inr l0)] M M' (some (.inr (.inl x))) :=
  zM_j (by decide) rfl (fun h => by cases h) (Nat.le_of_ble_eq_true rfl) (fun X hR => zt_X11_label h hR)
-- BlendCellar.placeCode(II)I
def zC_X11_placeCode : Zc := (cX11_placeCode, 2, RX11, 0, 0, false)
theorem zcl_X11_placeCode {C : Zc} (h1 : zC_X11_placeCode.2.2.2.1 + 1 ≤ C.2.2.2.1) (h2 : 8 + (zC_X11_placeCode.2.1 + 11) + zC_X11_placeCode.2.2.2.2.1 ≤ C.2.2.2.2.1) : zCl C yX11_placeCode zC_X11_placeCode (some .int) 2 := ⟨zw_742, zw_101, ⟨by decide, by decide⟩, by decide +kernel, h1, h2⟩
noncomputable def zf_X11_placeCode (M : Zm) (l0 : Int32) (l1 : Int32) : Option (Zm × Int32) :=
  some (M, (((1 : Int32) + ((100 : Int32) * l0)) + l1))
set_option maxRecDepth 100000 in
theorem zt_X11_placeCode {X : Zx} {M : Zm} {l0 : Int32} {l1 : Int32} {z : Zm × Int32} (h : zf_X11_placeCode M l0 l1 = some z) (hR : zRi X zC_X11_placeCode z.1 z.2) : zV X zC_X11_placeCode M 0 [(0, .inl l0), (1, .inl l1)] [] := by
  unfold zf_X11_placeCode at h
  refine zV_b (pc' := 8) (lv' := [(0, .inl l0), (1, .inl l1)]) (st' := [.inl (((1 : Int32) + ((100 : Int32) * l0)) + l1)]) [(.iconst 1, 1), (.bipush 100, 2), (.iload_n 0, 1), (.imul, 1), (.iadd, 1), (.iload_n 1, 1), (.iadd, 1)] (by decide +kernel) rfl ?_
  exact zend_i h hR (by decide +kernel)
theorem zc_X11_placeCode {M M' : Zm} {l0 : Int32} {l1 : Int32} {x : Int32} (h : zf_X11_placeCode M l0 l1 = some (M', x)) (l : Launch) (D : va_G) (cy : Nat → ClassId) : zMet l yX11_placeCode zC_X11_placeCode (some .int) D cy [.inl l0, .inl l1] M M' (some (.inl x)) :=
  zM_i (by decide) rfl (fun h => by cases h) (Nat.le_of_ble_eq_true rfl) (fun X hR => zt_X11_placeCode h hR)
-- BlendCellar.layBarrel(III)J
def zC_X11_layBarrel : Zc := (cX11_layBarrel, 7, RX11, 8, 178, false)
theorem zcl_X11_layBarrel {C : Zc} (h1 : zC_X11_layBarrel.2.2.2.1 + 1 ≤ C.2.2.2.1) (h2 : 8 + (zC_X11_layBarrel.2.1 + 11) + zC_X11_layBarrel.2.2.2.2.1 ≤ C.2.2.2.2.1) : zCl C yX11_layBarrel zC_X11_layBarrel (some .long) 3 := ⟨zw_729, zw_101, ⟨by decide, by decide⟩, by decide +kernel, h1, h2⟩
noncomputable def zf_X11_layBarrel (M : Zm) (l0 : Option Nat) (l1 : Int32) (l2 : Int32) (l3 : Int32) : Option (Zm × Int64) :=
  zb1 (zo_rc M l0 12) (fun _ => zbd (zf_X11_lookUp M l0 l1) (fun M1 v1 =>
  (if v1 = 0 then
  zb1 (zo_gr M1 l0 12 0) (fun v3 =>
  zb1 (zo_rc M1 v3 0) (fun _ => zbd (zf_Jx4a65c_get_915e3 M1 v3 l1) (fun M4 v4 =>
  zb1 (zo_cc M4 v4 1) (fun _ =>
  zb1 (zo_rc M4 v4 1) (fun _ => zbd (zf_X0_onFloor M4 v4) (fun M6 v6 =>
  (if v6 = 0 then
  some (M6, (-9 : Int64))
  else
  zb1 (zo_rc M6 l0 12) (fun _ => zbd (zf_X11_readPlace M6 l0 l2 l3) (fun M10 v10 =>
  (if v10 = 0 then
  zb1 (zo_gr M10 l0 12 1) (fun v12 =>
  zb1 (zo_ar M10 17 v12 l2) (fun v13 =>
  zb1 (zo_gr M10 v13 8 1) (fun v14 =>
  zb1 (zo_ai M10 v14 l3) (fun v15 =>
  (if v15 = (-1 : Int32) then
  zb1 (zo_gi M10 v4 1 1) (fun v17 =>
  zb1 (zo_rc M10 v13 8) (fun _ => zbd (zf_X7_takes M10 v13 v17) (fun M18 v18 =>
  (if v18 = 0 then
  some (M18, (-4 : Int64))
  else
  zb1 (zo_rc M18 l0 12) (fun _ => zbd (zf_X11_remember M18 l0) (fun M22 _ =>
  zb1 (zo_gr M22 l0 12 11) (fun v23 =>
  zb1 (zo_rc M22 v23 2) (fun _ => zbd (zf_X1_keepBarrel M22 v23 v4) (fun M24 _ =>
  zb1 (zo_gr M24 l0 12 11) (fun v25 =>
  zb1 (zo_rc M24 v25 2) (fun _ => zbd (zf_X1_keepPlace M24 v25 l2 l3 (-1 : Int32)) (fun M26 _ =>
  zb1 (zo_gr M26 v13 8 1) (fun v27 =>
  zb1 (zo_si M26 v27 l3 l1) (fun M28 =>
  zbd (zf_X11_placeCode M28 l2 l3) (fun M29 v29 =>
  zb1 (zo_pi M29 v4 1 4 v29) (fun M30 =>
  some (M30, (l1.toInt64))))))))))))))))))
  else
  some (M10, (-8 : Int64)))))))
  else
  some (M10, (((-v10)).toInt64))))))))))))
  else
  some (M1, (((-v1)).toInt64)))))
set_option maxRecDepth 100000 in
theorem zt_X11_layBarrel {X : Zx} {M : Zm} {l0 : Option Nat} {l1 : Int32} {l2 : Int32} {l3 : Int32} {z : Zm × Int64} (h : zf_X11_layBarrel M l0 l1 l2 l3 = some z) (hR : zRj X zC_X11_layBarrel z.1 z.2) : zV X zC_X11_layBarrel M 0 [(0, .inr (.inr l0)), (1, .inl l1), (2, .inl l2), (3, .inl l3)] [] := by
  unfold zf_X11_layBarrel at h
  refine zV_b (pc' := 2) (lv' := [(0, .inr (.inr l0)), (1, .inl l1), (2, .inl l2), (3, .inl l3)]) (st' := [.inl l1, .inr (.inr l0)]) [(.aload_n 0, 1), (.iload_n 1, 1)] (by decide +kernel) rfl ?_
  refine zV_cvi (As := [.inl l1]) (st := []) (c := 12) (by decide +kernel) (zcl_X11_lookUp (by decide) (by decide)) ⟨zw_666, zw_668, zw_10⟩ ⟨⟨_, _, rfl⟩, by decide⟩ rfl rfl (Nat.le_of_ble_eq_true rfl) h (fun _ _ e => zc_X11_lookUp e) (fun M1 v1 _ h => ?_)
  refine zV_b (pc' := 9) (lv' := [(4, .inl v1), (0, .inr (.inr l0)), (1, .inl l1), (2, .inl l2), (3, .inl l3)]) (st' := [.inl v1]) [(.istore 4, 2), (.iload 4, 2)] (by decide +kernel) rfl ?_
  refine zV_if_eq (off := 8) (tgt := 17) (by decide +kernel) (by decide) h (fun c2 h => ?_) (fun c2 h => ?_)
  · refine zV_b (pc' := 18) (lv' := [(4, .inl v1), (0, .inr (.inr l0)), (1, .inl l1), (2, .inl l2), (3, .inl l3)]) (st' := [.inr (.inr l0)]) [(.aload_n 0, 1)] (by decide +kernel) rfl ?_
    refine zV_gr (by decide +kernel) zfl_RX11_12 (by decide) rfl h (fun v3 _ h => ?_)
    refine zV_b (pc' := 22) (lv' := [(4, .inl v1), (0, .inr (.inr l0)), (1, .inl l1), (2, .inl l2), (3, .inl l3)]) (st' := [.inl l1, .inr (.inr v3)]) [(.iload_n 1, 1)] (by decide +kernel) rfl ?_
    refine zV_cvr (As := [.inl l1]) (st := []) (c := 0) (by decide +kernel) (zcl_Jx4a65c_get_915e3 (by decide) (by decide)) ⟨zw_670, zw_671, zw_672⟩ ⟨⟨_, _, rfl⟩, by decide⟩ rfl rfl (Nat.le_of_ble_eq_true rfl) h (fun _ _ e => zc_Jx4a65c_get_915e3 e) (fun M4 v4 _ h => ?_)
    refine zV_cc (by decide +kernel) zck_RX11_156 h (fun _ _ h => ?_)
    refine zV_b (pc' := 32) (lv' := [(5, .inr (.inr v4)), (4, .inl v1), (0, .inr (.inr l0)), (1, .inl l1), (2, .inl l2), (3, .inl l3)]) (st' := [.inr (.inr v4)]) [(.astore 5, 2), (.aload 5, 2)] (by decide +kernel) rfl ?_
    refine zV_cvi (As := []) (st := []) (c := 1) (by decide +kernel) (zcl_X0_onFloor (by decide) (by decide)) ⟨zw_691, zw_692, zw_693⟩ ⟨⟨_, _, rfl⟩, by decide⟩ rfl rfl (Nat.le_of_ble_eq_true rfl) h (fun _ _ e => zc_X0_onFloor e) (fun M6 v6 _ h => ?_)
    refine zV_if_ne (off := 7) (tgt := 42) (by decide +kernel) (by decide) h (fun c7 h => ?_) (fun c7 h => ?_)
    · refine zV_ldc2 (by decide +kernel) zw_695 ?_
      exact zend_j h hR (by decide +kernel)
    · refine zV_b (pc' := 45) (lv' := [(5, .inr (.inr v4)), (4, .inl v1), (0, .inr (.inr l0)), (1, .inl l1), (2, .inl l2), (3, .inl l3)]) (st' := [.inl l3, .inl l2, .inr (.inr l0)]) [(.aload_n 0, 1), (.iload_n 2, 1), (.iload_n 3, 1)] (by decide +kernel) rfl ?_
      refine zV_cvi (As := [.inl l2, .inl l3]) (st := []) (c := 12) (by decide +kernel) (zcl_X11_readPlace (by decide) (by decide)) ⟨zw_730, zw_732, zw_14⟩ ⟨⟨_, _, rfl⟩, by decide⟩ rfl rfl (Nat.le_of_ble_eq_true rfl) h (fun _ _ e => zc_X11_readPlace e) (fun M10 v10 _ h => ?_)
      refine zV_b (pc' := 52) (lv' := [(4, .inl v10), (5, .inr (.inr v4)), (0, .inr (.inr l0)), (1, .inl l1), (2, .inl l2), (3, .inl l3)]) (st' := [.inl v10]) [(.istore 4, 2), (.iload 4, 2)] (by decide +kernel) rfl ?_
      refine zV_if_eq (off := 8) (tgt := 60) (by decide +kernel) (by decide) h (fun c11 h => ?_) (fun c11 h => ?_)
      · refine zV_b (pc' := 61) (lv' := [(4, .inl v10), (5, .inr (.inr v4)), (0, .inr (.inr l0)), (1, .inl l1), (2, .inl l2), (3, .inl l3)]) (st' := [.inr (.inr l0)]) [(.aload_n 0, 1)] (by decide +kernel) rfl ?_
        refine zV_gr (by decide +kernel) zfl_RX11_18 (by decide) rfl h (fun v12 _ h => ?_)
        refine zV_b (pc' := 65) (lv' := [(4, .inl v10), (5, .inr (.inr v4)), (0, .inr (.inr l0)), (1, .inl l1), (2, .inl l2), (3, .inl l3)]) (st' := [.inl l2, .inr (.inr v12)]) [(.iload_n 2, 1)] (by decide +kernel) rfl ?_
        refine zV_ar (by decide +kernel) (by decide) (by decide) h (fun v13 _ h => ?_)
        refine zV_b (pc' := 70) (lv' := [(6, .inr (.inr v13)), (4, .inl v10), (5, .inr (.inr v4)), (0, .inr (.inr l0)), (1, .inl l1), (2, .inl l2), (3, .inl l3)]) (st' := [.inr (.inr v13)]) [(.astore 6, 2), (.aload 6, 2)] (by decide +kernel) rfl ?_
        refine zV_gr (by decide +kernel) zfl_RX11_223 (by decide) rfl h (fun v14 _ h => ?_)
        refine zV_b (pc' := 74) (lv' := [(6, .inr (.inr v13)), (4, .inl v10), (5, .inr (.inr v4)), (0, .inr (.inr l0)), (1, .inl l1), (2, .inl l2), (3, .inl l3)]) (st' := [.inl l3, .inr (.inr v14)]) [(.iload_n 3, 1)] (by decide +kernel) rfl ?_
        refine zV_ai (by decide +kernel) h (fun v15 _ h => ?_)
        refine zV_b (pc' := 76) (lv' := [(6, .inr (.inr v13)), (4, .inl v10), (5, .inr (.inr v4)), (0, .inr (.inr l0)), (1, .inl l1), (2, .inl l2), (3, .inl l3)]) (st' := [.inl (-1 : Int32), .inl v15]) [(.iconst (-1), 1)] (by decide +kernel) rfl ?_
        refine zV_icmp_eq (off := 7) (tgt := 83) (by decide +kernel) (by decide) h (fun c16 h => ?_) (fun c16 h => ?_)
        · refine zV_b (pc' := 87) (lv' := [(6, .inr (.inr v13)), (4, .inl v10), (5, .inr (.inr v4)), (0, .inr (.inr l0)), (1, .inl l1), (2, .inl l2), (3, .inl l3)]) (st' := [.inr (.inr v4), .inr (.inr v13)]) [(.aload 6, 2), (.aload 5, 2)] (by decide +kernel) rfl ?_
          refine zV_gi (by decide +kernel) zfl_RX11_227 (by decide) rfl (Or.inl rfl) h (fun v17 _ h => ?_)
          refine zV_cvi (As := [.inl v17]) (st := []) (c := 8) (by decide +kernel) (zcl_X7_takes (by decide) (by decide)) ⟨zw_734, zw_735, zw_736⟩ ⟨⟨_, _, rfl⟩, by decide⟩ rfl rfl (Nat.le_of_ble_eq_true rfl) h (fun _ _ e => zc_X7_takes e) (fun M18 v18 _ h => ?_)
          refine zV_if_ne (off := 7) (tgt := 100) (by decide +kernel) (by decide) h (fun c19 h => ?_) (fun c19 h => ?_)
          · refine zV_ldc2 (by decide +kernel) zw_738 ?_
            exact zend_j h hR (by decide +kernel)
          · refine zV_b (pc' := 101) (lv' := [(6, .inr (.inr v13)), (4, .inl v10), (5, .inr (.inr v4)), (0, .inr (.inr l0)), (1, .inl l1), (2, .inl l2), (3, .inl l3)]) (st' := [.inr (.inr l0)]) [(.aload_n 0, 1)] (by decide +kernel) rfl ?_
            refine zV_cvv (As := []) (st := []) (c := 12) (by decide +kernel) (zcl_X11_remember (by decide) (by decide)) ⟨zw_469, zw_471, zw_2⟩ ⟨⟨_, _, rfl⟩, by decide⟩ rfl rfl (Nat.le_of_ble_eq_true rfl) h (fun _ _ e => zc_X11_remember e) (fun M22 _ _ h => ?_)
            refine zV_b (pc' := 105) (lv' := [(6, .inr (.inr v13)), (4, .inl v10), (5, .inr (.inr v4)), (0, .inr (.inr l0)), (1, .inl l1), (2, .inl l2), (3, .inl l3)]) (st' := [.inr (.inr l0)]) [(.aload_n 0, 1)] (by decide +kernel) rfl ?_
            refine zV_gr (by decide +kernel) zfl_RX11_79 (by decide) rfl h (fun v23 _ h => ?_)
            refine zV_b (pc' := 110) (lv' := [(6, .inr (.inr v13)), (4, .inl v10), (5, .inr (.inr v4)), (0, .inr (.inr l0)), (1, .inl l1), (2, .inl l2), (3, .inl l3)]) (st' := [.inr (.inr v4), .inr (.inr v23)]) [(.aload 5, 2)] (by decide +kernel) rfl ?_
            refine zV_cvv (As := [.inr (.inr v4)]) (st := []) (c := 2) (by decide +kernel) (zcl_X1_keepBarrel (by decide) (by decide)) ⟨zw_696, zw_697, zw_698⟩ ⟨⟨_, _, rfl⟩, by decide⟩ rfl rfl (Nat.le_of_ble_eq_true rfl) h (fun _ _ e => zc_X1_keepBarrel e) (fun M24 _ _ h => ?_)
            refine zV_b (pc' := 114) (lv' := [(6, .inr (.inr v13)), (4, .inl v10), (5, .inr (.inr v4)), (0, .inr (.inr l0)), (1, .inl l1), (2, .inl l2), (3, .inl l3)]) (st' := [.inr (.inr l0)]) [(.aload_n 0, 1)] (by decide +kernel) rfl ?_
            refine zV_gr (by decide +kernel) zfl_RX11_79 (by decide) rfl h (fun v25 _ h => ?_)
            refine zV_b (pc' := 120) (lv' := [(6, .inr (.inr v13)), (4, .inl v10), (5, .inr (.inr v4)), (0, .inr (.inr l0)), (1, .inl l1), (2, .inl l2), (3, .inl l3)]) (st' := [.inl (-1 : Int32), .inl l3, .inl l2, .inr (.inr v25)]) [(.iload_n 2, 1), (.iload_n 3, 1), (.iconst (-1), 1)] (by decide +kernel) rfl ?_
            refine zV_cvv (As := [.inl l2, .inl l3, .inl (-1 : Int32)]) (st := []) (c := 2) (by decide +kernel) (zcl_X1_keepPlace (by decide) (by decide)) ⟨zw_739, zw_490, zw_491⟩ ⟨⟨_, _, rfl⟩, by decide⟩ rfl rfl (Nat.le_of_ble_eq_true rfl) h (fun _ _ e => zc_X1_keepPlace e) (fun M26 _ _ h => ?_)
            refine zV_b (pc' := 125) (lv' := [(6, .inr (.inr v13)), (4, .inl v10), (5, .inr (.inr v4)), (0, .inr (.inr l0)), (1, .inl l1), (2, .inl l2), (3, .inl l3)]) (st' := [.inr (.inr v13)]) [(.aload 6, 2)] (by decide +kernel) rfl ?_
            refine zV_gr (by decide +kernel) zfl_RX11_223 (by decide) rfl h (fun v27 _ h => ?_)
            refine zV_b (pc' := 130) (lv' := [(6, .inr (.inr v13)), (4, .inl v10), (5, .inr (.inr v4)), (0, .inr (.inr l0)), (1, .inl l1), (2, .inl l2), (3, .inl l3)]) (st' := [.inl l1, .inl l3, .inr (.inr v27)]) [(.iload_n 3, 1), (.iload_n 1, 1)] (by decide +kernel) rfl ?_
            refine zV_si (by decide +kernel) h (fun M28 _ h => ?_)
            refine zV_b (pc' := 135) (lv' := [(6, .inr (.inr v13)), (4, .inl v10), (5, .inr (.inr v4)), (0, .inr (.inr l0)), (1, .inl l1), (2, .inl l2), (3, .inl l3)]) (st' := [.inl l3, .inl l2, .inr (.inr v4)]) [(.aload 5, 2), (.iload_n 2, 1), (.iload_n 3, 1)] (by decide +kernel) rfl ?_
            refine zV_csi (As := [.inl l2, .inl l3]) (st := [.inr (.inr v4)]) (by decide +kernel) (zcl_X11_placeCode (by decide) (by decide)) ⟨zw_740, zw_741⟩ rfl rfl (Nat.le_of_ble_eq_true rfl) h (fun _ _ e => zc_X11_placeCode e) (fun M29 v29 _ h => ?_)
            refine zV_pi (by decide +kernel) zfp_RX11_208 (by decide) rfl h (fun M30 _ h => ?_)
            refine zV_b (pc' := 143) (lv' := [(6, .inr (.inr v13)), (4, .inl v10), (5, .inr (.inr v4)), (0, .inr (.inr l0)), (1, .inl l1), (2, .inl l2), (3, .inl l3)]) (st' := [.inr (.inl (l1.toInt64))]) [(.iload_n 1, 1), (.i2l, 1)] (by decide +kernel) rfl ?_
            exact zend_j h hR (by decide +kernel)
        · refine zV_ldc2 (by decide +kernel) zw_467 ?_
          exact zend_j h hR (by decide +kernel)
      · refine zV_b (pc' := 59) (lv' := [(4, .inl v10), (5, .inr (.inr v4)), (0, .inr (.inr l0)), (1, .inl l1), (2, .inl l2), (3, .inl l3)]) (st' := [.inr (.inl (((-v10)).toInt64))]) [(.iload 4, 2), (.ineg, 1), (.i2l, 1)] (by decide +kernel) rfl ?_
        exact zend_j h hR (by decide +kernel)
  · refine zV_b (pc' := 16) (lv' := [(4, .inl v1), (0, .inr (.inr l0)), (1, .inl l1), (2, .inl l2), (3, .inl l3)]) (st' := [.inr (.inl (((-v1)).toInt64))]) [(.iload 4, 2), (.ineg, 1), (.i2l, 1)] (by decide +kernel) rfl ?_
    exact zend_j h hR (by decide +kernel)
theorem zc_X11_layBarrel {M M' : Zm} {l0 : Option Nat} {l1 : Int32} {l2 : Int32} {l3 : Int32} {x : Int64} (h : zf_X11_layBarrel M l0 l1 l2 l3 = some (M', x)) (l : Launch) (D : va_G) (cy : Nat → ClassId) : zMet l yX11_layBarrel zC_X11_layBarrel (some .long) D cy [.inr (.inr l0), .inl l1, .inl l2, .inl l3] M M' (some (.inr (.inl x))) :=
  zM_j (by decide) rfl (fun h => by cases h) (Nat.le_of_ble_eq_true rfl) (fun X hR => zt_X11_layBarrel h hR)
-- BlendCellar.lay(III)J
def zC_X11_lay : Zc := (cX11_lay, 4, RX11, 9, 204, false)
theorem zcl_X11_lay {C : Zc} (h1 : zC_X11_lay.2.2.2.1 + 1 ≤ C.2.2.2.1) (h2 : 8 + (zC_X11_lay.2.1 + 11) + zC_X11_lay.2.2.2.2.1 ≤ C.2.2.2.2.1) : zCl C yX11_lay zC_X11_lay (some .long) 3 := ⟨zw_725, zw_101, ⟨by decide, by decide⟩, by decide +kernel, h1, h2⟩
noncomputable def zf_X11_lay (M : Zm) (l0 : Option Nat) (l1 : Int32) (l2 : Int32) (l3 : Int32) : Option (Zm × Int64) :=
  zb1 (zo_rc M l0 12) (fun _ => zbd (zf_X11_openTap M l0) (fun M1 _ =>
  zb1 (zo_rc M1 l0 12) (fun _ => zbd (zf_X11_layBarrel M1 l0 l1 l2 l3) (fun M2 v2 =>
  zb1 (zo_rc M2 l0 12) (fun _ => zbd (zf_X11_closeTap M2 l0 v2) (fun M3 v3 =>
  some (M3, v3)))))))
set_option maxRecDepth 100000 in
theorem zt_X11_lay {X : Zx} {M : Zm} {l0 : Option Nat} {l1 : Int32} {l2 : Int32} {l3 : Int32} {z : Zm × Int64} (h : zf_X11_lay M l0 l1 l2 l3 = some z) (hR : zRj X zC_X11_lay z.1 z.2) : zV X zC_X11_lay M 0 [(0, .inr (.inr l0)), (1, .inl l1), (2, .inl l2), (3, .inl l3)] [] := by
  unfold zf_X11_lay at h
  refine zV_b (pc' := 1) (lv' := [(0, .inr (.inr l0)), (1, .inl l1), (2, .inl l2), (3, .inl l3)]) (st' := [.inr (.inr l0)]) [(.aload_n 0, 1)] (by decide +kernel) rfl ?_
  refine zV_cvv (As := []) (st := []) (c := 12) (by decide +kernel) (zcl_X11_openTap (by decide) (by decide)) ⟨zw_453, zw_455, zw_0⟩ ⟨⟨_, _, rfl⟩, by decide⟩ rfl rfl (Nat.le_of_ble_eq_true rfl) h (fun _ _ e => zc_X11_openTap e) (fun M1 _ _ h => ?_)
  refine zV_b (pc' := 9) (lv' := [(0, .inr (.inr l0)), (1, .inl l1), (2, .inl l2), (3, .inl l3)]) (st' := [.inl l3, .inl l2, .inl l1, .inr (.inr l0), .inr (.inr l0)]) [(.aload_n 0, 1), (.aload_n 0, 1), (.iload_n 1, 1), (.iload_n 2, 1), (.iload_n 3, 1)] (by decide +kernel) rfl ?_
  refine zV_cvj (As := [.inl l1, .inl l2, .inl l3]) (st := [.inr (.inr l0)]) (c := 12) (by decide +kernel) (zcl_X11_layBarrel (by decide) (by decide)) ⟨zw_726, zw_728, zw_13⟩ ⟨⟨_, _, rfl⟩, by decide⟩ rfl rfl (Nat.le_of_ble_eq_true rfl) h (fun _ _ e => zc_X11_layBarrel e) (fun M2 v2 _ h => ?_)
  refine zV_cvj (As := [.inr (.inl v2)]) (st := []) (c := 12) (by decide +kernel) (zcl_X11_closeTap (by decide) (by decide)) ⟨zw_510, zw_512, zw_3⟩ ⟨⟨_, _, rfl⟩, by decide⟩ rfl rfl (Nat.le_of_ble_eq_true rfl) h (fun _ _ e => zc_X11_closeTap e) (fun M3 v3 _ h => ?_)
  exact zend_j h hR (by decide +kernel)
theorem zc_X11_lay {M M' : Zm} {l0 : Option Nat} {l1 : Int32} {l2 : Int32} {l3 : Int32} {x : Int64} (h : zf_X11_lay M l0 l1 l2 l3 = some (M', x)) (l : Launch) (D : va_G) (cy : Nat → ClassId) : zMet l yX11_lay zC_X11_lay (some .long) D cy [.inr (.inr l0), .inl l1, .inl l2, .inl l3] M M' (some (.inr (.inl x))) :=
  zM_j (by decide) rfl (fun h => by cases h) (Nat.le_of_ble_eq_true rfl) (fun X hR => zt_X11_lay h hR)
