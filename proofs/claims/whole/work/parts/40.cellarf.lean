/-! What the bytecode does, as functions of the memory, and the walks (written by wip/gen.py). -/
-- BlendCellar.rackWine(IIJ)J
def zC_X11_rackWine : Zc := (cX11_rackWine, 8, RX11, 10, 222, false)
theorem zcl_X11_rackWine {C : Zc} (h1 : zC_X11_rackWine.2.2.2.1 + 1 ≤ C.2.2.2.1) (h2 : 8 + (zC_X11_rackWine.2.1 + 11) + zC_X11_rackWine.2.2.2.2.1 ≤ C.2.2.2.2.1) : zCl C yX11_rackWine zC_X11_rackWine (some .long) 3 := ⟨zw_856, zw_101, ⟨by decide, by decide⟩, by decide +kernel, h1, h2⟩
noncomputable def zf_X11_rackWine_J39 (M : Zm) (l0 : Option Nat) (l1 : Int32) (l2 : Int32) (l3 : Int64) (l5 : Int32) : Option (Zm × Int64) :=
  (if l5 = 0 then
  zb1 (zo_gr M l0 12 0) (fun v11 =>
  zb1 (zo_rc M v11 0) (fun _ => zbd (zf_Jx4a65c_get_915e3 M v11 l1) (fun M12 v12 =>
  zb1 (zo_cc M12 v12 1) (fun _ =>
  zb1 (zo_gr M12 l0 12 0) (fun v14 =>
  zb1 (zo_rc M12 v14 0) (fun _ => zbd (zf_Jx4a65c_get_915e3 M12 v14 l2) (fun M15 v15 =>
  zb1 (zo_cc M15 v15 1) (fun _ =>
  zb1 (zo_gr M15 l0 12 12) (fun v17 =>
  zb1 (zo_rc M15 v12 1) (fun _ => zbd (zf_X0_maySpare M15 v12 v17) (fun M18 v18 =>
  (if l3 ≤ v18 then
  zb1 (zo_gr M18 v15 1 5) (fun v20 =>
  zb1 (zo_gj M18 v20 11 3) (fun v21 =>
  zb1 (zo_gr M18 l0 12 12) (fun v22 =>
  zb1 (zo_rc M18 v15 1) (fun _ => zbd (zf_X0_takesInAll M18 v15 v22) (fun M23 v23 =>
  (if (v21 + l3) ≤ v23 then
  zb1 (zo_gr M23 l0 12 10) (fun v25 =>
  zb1 (zo_rc M23 v25 3) (fun _ => zbd (zf_X2_clear M23 v25) (fun M26 _ =>
  zb1 (zo_gr M26 l0 12 10) (fun v27 =>
  zb1 (zo_gr M26 l0 12 12) (fun v28 =>
  zb1 (zo_rc M26 v27 3) (fun _ => zbd (zf_X2_drawFrom M26 v27 v12 l3 v28) (fun M29 _ =>
  zb1 (zo_rc M29 l0 12) (fun _ => zbd (zf_X11_hasTooManyPartsFor M29 l0 v15) (fun M30 v30 =>
  (if v30 = 0 then
  zb1 (zo_rc M30 l0 12) (fun _ => zbd (zf_X11_remember M30 l0) (fun M32 _ =>
  zb1 (zo_rc M32 l0 12) (fun _ => zbd (zf_X11_pourInto M32 l0 v15) (fun M33 _ =>
  zb1 (zo_gr M33 l0 12 8) (fun v34 =>
  zb1 (zo_rc M33 v34 5) (fun _ => zbd (zf_X4_add M33 v34 (2 : Int64) (l1.toInt64) (l2.toInt64) l3) (fun M36 _ =>
  zb1 (zo_gr M36 v15 1 5) (fun v37 =>
  zb1 (zo_gj M36 v37 11 3) (fun v38 =>
  some (M36, v38))))))))))
  else
  some (M30, (-12 : Int64))))))))))))
  else
  some (M23, (-11 : Int64))))))))
  else
  some (M18, (-10 : Int64))))))))))))))
  else
  some (M, (((-l5)).toInt64)))
noncomputable def zf_X11_rackWine (M : Zm) (l0 : Option Nat) (l1 : Int32) (l2 : Int32) (l3 : Int64) : Option (Zm × Int64) :=
  zbd (zf_X11_isMl M l3) (fun M1 v1 =>
  (if v1 = 0 then
  some (M1, (-1 : Int64))
  else
  zb1 (zo_rc M1 l0 12) (fun _ => zbd (zf_X11_lookUp M1 l0 l1) (fun M5 v5 =>
  zb1 (zo_rc M5 l0 12) (fun _ => zbd (zf_X11_lookUpVessel M5 l0 l2) (fun M6 v6 =>
  zbd (zf_X11_firstOf M6 v5 v6) (fun M7 v7 =>
  (if v7 = 0 then
  zb1 (zo_rc M7 l0 12) (fun _ => zbd (zf_X11_checkPair M7 l0 l1 l2) (fun M9 v9 =>
  zf_X11_rackWine_J39 M9 l0 l1 l2 l3 v9))
  else
  zf_X11_rackWine_J39 M7 l0 l1 l2 l3 v7))))))))
set_option maxRecDepth 100000 in
theorem zt_X11_rackWine_J39 {X : Zx} {M : Zm} {l0 : Option Nat} {l1 : Int32} {l2 : Int32} {l3 : Int64} {l5 : Int32} {z : Zm × Int64} (h : zf_X11_rackWine_J39 M l0 l1 l2 l3 l5 = some z) (hR : zRj X zC_X11_rackWine z.1 z.2) : zV X zC_X11_rackWine M 39 [(0, .inr (.inr l0)), (1, .inl l1), (2, .inl l2), (3, .inr (.inl l3)), (5, .inl l5)] [] := by
  unfold zf_X11_rackWine_J39 at h
  refine zV_b (pc' := 41) (lv' := [(0, .inr (.inr l0)), (1, .inl l1), (2, .inl l2), (3, .inr (.inl l3)), (5, .inl l5)]) (st' := [.inl l5]) [(.iload 5, 2)] (by decide +kernel) rfl ?_
  refine zV_if_eq (off := 8) (tgt := 49) (by decide +kernel) (by decide) h (fun c10 h => ?_) (fun c10 h => ?_)
  · refine zV_b (pc' := 50) (lv' := [(0, .inr (.inr l0)), (1, .inl l1), (2, .inl l2), (3, .inr (.inl l3)), (5, .inl l5)]) (st' := [.inr (.inr l0)]) [(.aload_n 0, 1)] (by decide +kernel) rfl ?_
    refine zV_gr (by decide +kernel) zfl_RX11_12 (by decide) rfl h (fun v11 _ h => ?_)
    refine zV_b (pc' := 54) (lv' := [(0, .inr (.inr l0)), (1, .inl l1), (2, .inl l2), (3, .inr (.inl l3)), (5, .inl l5)]) (st' := [.inl l1, .inr (.inr v11)]) [(.iload_n 1, 1)] (by decide +kernel) rfl ?_
    refine zV_cvr (As := [.inl l1]) (st := []) (c := 0) (by decide +kernel) (zcl_Jx4a65c_get_915e3 (by decide) (by decide)) ⟨zw_670, zw_671, zw_672⟩ ⟨⟨_, _, rfl⟩, by decide⟩ rfl rfl (Nat.le_of_ble_eq_true rfl) h (fun _ _ e => zc_Jx4a65c_get_915e3 e) (fun M12 v12 _ h => ?_)
    refine zV_cc (by decide +kernel) zck_RX11_156 h (fun _ _ h => ?_)
    refine zV_b (pc' := 63) (lv' := [(6, .inr (.inr v12)), (0, .inr (.inr l0)), (1, .inl l1), (2, .inl l2), (3, .inr (.inl l3)), (5, .inl l5)]) (st' := [.inr (.inr l0)]) [(.astore 6, 2), (.aload_n 0, 1)] (by decide +kernel) rfl ?_
    refine zV_gr (by decide +kernel) zfl_RX11_12 (by decide) rfl h (fun v14 _ h => ?_)
    refine zV_b (pc' := 67) (lv' := [(6, .inr (.inr v12)), (0, .inr (.inr l0)), (1, .inl l1), (2, .inl l2), (3, .inr (.inl l3)), (5, .inl l5)]) (st' := [.inl l2, .inr (.inr v14)]) [(.iload_n 2, 1)] (by decide +kernel) rfl ?_
    refine zV_cvr (As := [.inl l2]) (st := []) (c := 0) (by decide +kernel) (zcl_Jx4a65c_get_915e3 (by decide) (by decide)) ⟨zw_670, zw_671, zw_672⟩ ⟨⟨_, _, rfl⟩, by decide⟩ rfl rfl (Nat.le_of_ble_eq_true rfl) h (fun _ _ e => zc_Jx4a65c_get_915e3 e) (fun M15 v15 _ h => ?_)
    refine zV_cc (by decide +kernel) zck_RX11_156 h (fun _ _ h => ?_)
    refine zV_b (pc' := 79) (lv' := [(7, .inr (.inr v15)), (6, .inr (.inr v12)), (0, .inr (.inr l0)), (1, .inl l1), (2, .inl l2), (3, .inr (.inl l3)), (5, .inl l5)]) (st' := [.inr (.inr l0), .inr (.inr v12), .inr (.inl l3)]) [(.astore 7, 2), (.lload_n 3, 1), (.aload 6, 2), (.aload_n 0, 1)] (by decide +kernel) rfl ?_
    refine zV_gr (by decide +kernel) zfl_RX11_86 (by decide) rfl h (fun v17 _ h => ?_)
    refine zV_cvj (As := [.inr (.inr v17)]) (st := [.inr (.inl l3)]) (c := 1) (by decide +kernel) (zcl_X0_maySpare (by decide) (by decide)) ⟨zw_861, zw_862, zw_863⟩ ⟨⟨_, _, rfl⟩, by decide⟩ rfl rfl (Nat.le_of_ble_eq_true rfl) h (fun _ _ e => zc_X0_maySpare e) (fun M18 v18 _ h => ?_)
    refine zV_lcmp_le (off := 7) (tgt := 93) (by decide +kernel) (by decide +kernel) (by decide) h (fun c19 h => ?_) (fun c19 h => ?_)
    · refine zV_b (pc' := 95) (lv' := [(7, .inr (.inr v15)), (6, .inr (.inr v12)), (0, .inr (.inr l0)), (1, .inl l1), (2, .inl l2), (3, .inr (.inl l3)), (5, .inl l5)]) (st' := [.inr (.inr v15)]) [(.aload 7, 2)] (by decide +kernel) rfl ?_
      refine zV_gr (by decide +kernel) zfl_RX11_268 (by decide) rfl h (fun v20 _ h => ?_)
      refine zV_gj (by decide +kernel) zfl_RX11_271 (by decide) rfl h (fun v21 _ h => ?_)
      refine zV_b (pc' := 106) (lv' := [(7, .inr (.inr v15)), (6, .inr (.inr v12)), (0, .inr (.inr l0)), (1, .inl l1), (2, .inl l2), (3, .inr (.inl l3)), (5, .inl l5)]) (st' := [.inr (.inr l0), .inr (.inr v15), .inr (.inl (v21 + l3))]) [(.lload_n 3, 1), (.ladd, 1), (.aload 7, 2), (.aload_n 0, 1)] (by decide +kernel) rfl ?_
      refine zV_gr (by decide +kernel) zfl_RX11_86 (by decide) rfl h (fun v22 _ h => ?_)
      refine zV_cvj (As := [.inr (.inr v22)]) (st := [.inr (.inl (v21 + l3))]) (c := 1) (by decide +kernel) (zcl_X0_takesInAll (by decide) (by decide)) ⟨zw_784, zw_785, zw_786⟩ ⟨⟨_, _, rfl⟩, by decide⟩ rfl rfl (Nat.le_of_ble_eq_true rfl) h (fun _ _ e => zc_X0_takesInAll e) (fun M23 v23 _ h => ?_)
      refine zV_lcmp_le (off := 7) (tgt := 120) (by decide +kernel) (by decide +kernel) (by decide) h (fun c24 h => ?_) (fun c24 h => ?_)
      · refine zV_b (pc' := 121) (lv' := [(7, .inr (.inr v15)), (6, .inr (.inr v12)), (0, .inr (.inr l0)), (1, .inl l1), (2, .inl l2), (3, .inr (.inl l3)), (5, .inl l5)]) (st' := [.inr (.inr l0)]) [(.aload_n 0, 1)] (by decide +kernel) rfl ?_
        refine zV_gr (by decide +kernel) zfl_RX11_72 (by decide) rfl h (fun v25 _ h => ?_)
        refine zV_cvv (As := []) (st := []) (c := 3) (by decide +kernel) (zcl_X2_clear (by decide) (by decide)) ⟨zw_874, zw_875, zw_876⟩ ⟨⟨_, _, rfl⟩, by decide⟩ rfl rfl (Nat.le_of_ble_eq_true rfl) h (fun _ _ e => zc_X2_clear e) (fun M26 _ _ h => ?_)
        refine zV_b (pc' := 128) (lv' := [(7, .inr (.inr v15)), (6, .inr (.inr v12)), (0, .inr (.inr l0)), (1, .inl l1), (2, .inl l2), (3, .inr (.inl l3)), (5, .inl l5)]) (st' := [.inr (.inr l0)]) [(.aload_n 0, 1)] (by decide +kernel) rfl ?_
        refine zV_gr (by decide +kernel) zfl_RX11_72 (by decide) rfl h (fun v27 _ h => ?_)
        refine zV_b (pc' := 135) (lv' := [(7, .inr (.inr v15)), (6, .inr (.inr v12)), (0, .inr (.inr l0)), (1, .inl l1), (2, .inl l2), (3, .inr (.inl l3)), (5, .inl l5)]) (st' := [.inr (.inr l0), .inr (.inl l3), .inr (.inr v12), .inr (.inr v27)]) [(.aload 6, 2), (.lload_n 3, 1), (.aload_n 0, 1)] (by decide +kernel) rfl ?_
        refine zV_gr (by decide +kernel) zfl_RX11_86 (by decide) rfl h (fun v28 _ h => ?_)
        refine zV_cvv (As := [.inr (.inr v12), .inr (.inl l3), .inr (.inr v28)]) (st := []) (c := 3) (by decide +kernel) (zcl_X2_drawFrom (by decide) (by decide)) ⟨zw_882, zw_883, zw_884⟩ ⟨⟨_, _, rfl⟩, by decide⟩ rfl rfl (Nat.le_of_ble_eq_true rfl) h (fun _ _ e => zc_X2_drawFrom e) (fun M29 _ _ h => ?_)
        refine zV_b (pc' := 144) (lv' := [(7, .inr (.inr v15)), (6, .inr (.inr v12)), (0, .inr (.inr l0)), (1, .inl l1), (2, .inl l2), (3, .inr (.inl l3)), (5, .inl l5)]) (st' := [.inr (.inr v15), .inr (.inr l0)]) [(.aload_n 0, 1), (.aload 7, 2)] (by decide +kernel) rfl ?_
        refine zV_cvi (As := [.inr (.inr v15)]) (st := []) (c := 12) (by decide +kernel) (zcl_X11_hasTooManyPartsFor (by decide) (by decide)) ⟨zw_903, zw_905, zw_31⟩ ⟨⟨_, _, rfl⟩, by decide⟩ rfl rfl (Nat.le_of_ble_eq_true rfl) h (fun _ _ e => zc_X11_hasTooManyPartsFor e) (fun M30 v30 _ h => ?_)
        refine zV_if_eq (off := 7) (tgt := 154) (by decide +kernel) (by decide) h (fun c31 h => ?_) (fun c31 h => ?_)
        · refine zV_b (pc' := 155) (lv' := [(7, .inr (.inr v15)), (6, .inr (.inr v12)), (0, .inr (.inr l0)), (1, .inl l1), (2, .inl l2), (3, .inr (.inl l3)), (5, .inl l5)]) (st' := [.inr (.inr l0)]) [(.aload_n 0, 1)] (by decide +kernel) rfl ?_
          refine zV_cvv (As := []) (st := []) (c := 12) (by decide +kernel) (zcl_X11_remember (by decide) (by decide)) ⟨zw_469, zw_471, zw_2⟩ ⟨⟨_, _, rfl⟩, by decide⟩ rfl rfl (Nat.le_of_ble_eq_true rfl) h (fun _ _ e => zc_X11_remember e) (fun M32 _ _ h => ?_)
          refine zV_b (pc' := 161) (lv' := [(7, .inr (.inr v15)), (6, .inr (.inr v12)), (0, .inr (.inr l0)), (1, .inl l1), (2, .inl l2), (3, .inr (.inl l3)), (5, .inl l5)]) (st' := [.inr (.inr v15), .inr (.inr l0)]) [(.aload_n 0, 1), (.aload 7, 2)] (by decide +kernel) rfl ?_
          refine zV_cvv (As := [.inr (.inr v15)]) (st := []) (c := 12) (by decide +kernel) (zcl_X11_pourInto (by decide) (by decide)) ⟨zw_911, zw_913, zw_32⟩ ⟨⟨_, _, rfl⟩, by decide⟩ rfl rfl (Nat.le_of_ble_eq_true rfl) h (fun _ _ e => zc_X11_pourInto e) (fun M33 _ _ h => ?_)
          refine zV_b (pc' := 165) (lv' := [(7, .inr (.inr v15)), (6, .inr (.inr v12)), (0, .inr (.inr l0)), (1, .inl l1), (2, .inl l2), (3, .inr (.inl l3)), (5, .inl l5)]) (st' := [.inr (.inr l0)]) [(.aload_n 0, 1)] (by decide +kernel) rfl ?_
          refine zV_gr (by decide +kernel) zfl_RX11_62 (by decide) rfl h (fun v34 _ h => ?_)
          refine zV_ldc2 (by decide +kernel) zw_928 ?_
          refine zV_b (pc' := 176) (lv' := [(7, .inr (.inr v15)), (6, .inr (.inr v12)), (0, .inr (.inr l0)), (1, .inl l1), (2, .inl l2), (3, .inr (.inl l3)), (5, .inl l5)]) (st' := [.inr (.inl l3), .inr (.inl (l2.toInt64)), .inr (.inl (l1.toInt64)), .inr (.inl (2 : Int64)), .inr (.inr v34)]) [(.iload_n 1, 1), (.i2l, 1), (.iload_n 2, 1), (.i2l, 1), (.lload_n 3, 1)] (by decide +kernel) rfl ?_
          refine zV_cvv (As := [.inr (.inl (2 : Int64)), .inr (.inl (l1.toInt64)), .inr (.inl (l2.toInt64)), .inr (.inl l3)]) (st := []) (c := 5) (by decide +kernel) (zcl_X4_add (by decide) (by decide)) ⟨zw_844, zw_845, zw_846⟩ ⟨⟨_, _, rfl⟩, by decide⟩ rfl rfl (Nat.le_of_ble_eq_true rfl) h (fun _ _ e => zc_X4_add e) (fun M36 _ _ h => ?_)
          refine zV_b (pc' := 181) (lv' := [(7, .inr (.inr v15)), (6, .inr (.inr v12)), (0, .inr (.inr l0)), (1, .inl l1), (2, .inl l2), (3, .inr (.inl l3)), (5, .inl l5)]) (st' := [.inr (.inr v15)]) [(.aload 7, 2)] (by decide +kernel) rfl ?_
          refine zV_gr (by decide +kernel) zfl_RX11_268 (by decide) rfl h (fun v37 _ h => ?_)
          refine zV_gj (by decide +kernel) zfl_RX11_271 (by decide) rfl h (fun v38 _ h => ?_)
          exact zend_j h hR (by decide +kernel)
        · refine zV_ldc2 (by decide +kernel) zw_527 ?_
          exact zend_j h hR (by decide +kernel)
      · refine zV_ldc2 (by decide +kernel) zw_804 ?_
        exact zend_j h hR (by decide +kernel)
    · refine zV_ldc2 (by decide +kernel) zw_873 ?_
      exact zend_j h hR (by decide +kernel)
  · refine zV_b (pc' := 48) (lv' := [(0, .inr (.inr l0)), (1, .inl l1), (2, .inl l2), (3, .inr (.inl l3)), (5, .inl l5)]) (st' := [.inr (.inl (((-l5)).toInt64))]) [(.iload 5, 2), (.ineg, 1), (.i2l, 1)] (by decide +kernel) rfl ?_
    exact zend_j h hR (by decide +kernel)
set_option maxRecDepth 100000 in
theorem zt_X11_rackWine {X : Zx} {M : Zm} {l0 : Option Nat} {l1 : Int32} {l2 : Int32} {l3 : Int64} {z : Zm × Int64} (h : zf_X11_rackWine M l0 l1 l2 l3 = some z) (hR : zRj X zC_X11_rackWine z.1 z.2) : zV X zC_X11_rackWine M 0 [(0, .inr (.inr l0)), (1, .inl l1), (2, .inl l2), (3, .inr (.inl l3))] [] := by
  unfold zf_X11_rackWine at h
  refine zV_b (pc' := 1) (lv' := [(0, .inr (.inr l0)), (1, .inl l1), (2, .inl l2), (3, .inr (.inl l3))]) (st' := [.inr (.inl l3)]) [(.lload_n 3, 1)] (by decide +kernel) rfl ?_
  refine zV_csi (As := [.inr (.inl l3)]) (st := []) (by decide +kernel) (zcl_X11_isMl (by decide) (by decide)) ⟨zw_772, zw_773⟩ rfl rfl (Nat.le_of_ble_eq_true rfl) h (fun _ _ e => zc_X11_isMl e) (fun M1 v1 _ h => ?_)
  refine zV_if_ne (off := 7) (tgt := 11) (by decide +kernel) (by decide) h (fun c2 h => ?_) (fun c2 h => ?_)
  · refine zV_ldc2 (by decide +kernel) zw_465 ?_
    exact zend_j h hR (by decide +kernel)
  · refine zV_b (pc' := 13) (lv' := [(0, .inr (.inr l0)), (1, .inl l1), (2, .inl l2), (3, .inr (.inl l3))]) (st' := [.inl l1, .inr (.inr l0)]) [(.aload_n 0, 1), (.iload_n 1, 1)] (by decide +kernel) rfl ?_
    refine zV_cvi (As := [.inl l1]) (st := []) (c := 12) (by decide +kernel) (zcl_X11_lookUp (by decide) (by decide)) ⟨zw_666, zw_668, zw_10⟩ ⟨⟨_, _, rfl⟩, by decide⟩ rfl rfl (Nat.le_of_ble_eq_true rfl) h (fun _ _ e => zc_X11_lookUp e) (fun M5 v5 _ h => ?_)
    refine zV_b (pc' := 18) (lv' := [(0, .inr (.inr l0)), (1, .inl l1), (2, .inl l2), (3, .inr (.inl l3))]) (st' := [.inl l2, .inr (.inr l0), .inl v5]) [(.aload_n 0, 1), (.iload_n 2, 1)] (by decide +kernel) rfl ?_
    refine zV_cvi (As := [.inl l2]) (st := [.inl v5]) (c := 12) (by decide +kernel) (zcl_X11_lookUpVessel (by decide) (by decide)) ⟨zw_684, zw_686, zw_11⟩ ⟨⟨_, _, rfl⟩, by decide⟩ rfl rfl (Nat.le_of_ble_eq_true rfl) h (fun _ _ e => zc_X11_lookUpVessel e) (fun M6 v6 _ h => ?_)
    refine zV_csi (As := [.inl v5, .inl v6]) (st := []) (by decide +kernel) (zcl_X11_firstOf (by decide) (by decide)) ⟨zw_688, zw_689⟩ rfl rfl (Nat.le_of_ble_eq_true rfl) h (fun _ _ e => zc_X11_firstOf e) (fun M7 v7 _ h => ?_)
    refine zV_b (pc' := 28) (lv' := [(5, .inl v7), (0, .inr (.inr l0)), (1, .inl l1), (2, .inl l2), (3, .inr (.inl l3))]) (st' := [.inl v7]) [(.istore 5, 2), (.iload 5, 2)] (by decide +kernel) rfl ?_
    refine zV_if_ne (off := 11) (tgt := 39) (by decide +kernel) (by decide) h (fun c8 h => ?_) (fun c8 h => ?_)
    · refine zV_b (pc' := 34) (lv' := [(5, .inl v7), (0, .inr (.inr l0)), (1, .inl l1), (2, .inl l2), (3, .inr (.inl l3))]) (st' := [.inl l2, .inl l1, .inr (.inr l0)]) [(.aload_n 0, 1), (.iload_n 1, 1), (.iload_n 2, 1)] (by decide +kernel) rfl ?_
      refine zV_cvi (As := [.inl l1, .inl l2]) (st := []) (c := 12) (by decide +kernel) (zcl_X11_checkPair (by decide) (by decide)) ⟨zw_857, zw_859, zw_25⟩ ⟨⟨_, _, rfl⟩, by decide⟩ rfl rfl (Nat.le_of_ble_eq_true rfl) h (fun _ _ e => zc_X11_checkPair e) (fun M9 v9 _ h => ?_)
      refine zV_b (pc' := 39) (lv' := [(5, .inl v9), (0, .inr (.inr l0)), (1, .inl l1), (2, .inl l2), (3, .inr (.inl l3))]) (st' := []) [(.istore 5, 2)] (by decide +kernel) rfl ?_
      exact zV_lv (lv' := [(0, .inr (.inr l0)), (1, .inl l1), (2, .inl l2), (3, .inr (.inl l3)), (5, .inl v9)]) [1, 2, 3, 4, 0] rfl (zt_X11_rackWine_J39 h hR)
    · exact zV_lv (lv' := [(0, .inr (.inr l0)), (1, .inl l1), (2, .inl l2), (3, .inr (.inl l3)), (5, .inl v7)]) [1, 2, 3, 4, 0] rfl (zt_X11_rackWine_J39 h hR)
theorem zc_X11_rackWine {M M' : Zm} {l0 : Option Nat} {l1 : Int32} {l2 : Int32} {l3 : Int64} {x : Int64} (h : zf_X11_rackWine M l0 l1 l2 l3 = some (M', x)) (l : Launch) (D : va_G) (cy : Nat → ClassId) : zMet l yX11_rackWine zC_X11_rackWine (some .long) D cy [.inr (.inr l0), .inl l1, .inl l2, .inr (.inl l3)] M M' (some (.inr (.inl x))) :=
  zM_j (by decide) rfl (fun h => by cases h) (Nat.le_of_ble_eq_true rfl) (fun X hR => zt_X11_rackWine h hR)
-- BlendCellar.rack(IIJ)J
def zC_X11_rack : Zc := (cX11_rack, 5, RX11, 11, 249, false)
theorem zcl_X11_rack {C : Zc} (h1 : zC_X11_rack.2.2.2.1 + 1 ≤ C.2.2.2.1) (h2 : 8 + (zC_X11_rack.2.1 + 11) + zC_X11_rack.2.2.2.2.1 ≤ C.2.2.2.2.1) : zCl C yX11_rack zC_X11_rack (some .long) 3 := ⟨zw_852, zw_101, ⟨by decide, by decide⟩, by decide +kernel, h1, h2⟩
noncomputable def zf_X11_rack (M : Zm) (l0 : Option Nat) (l1 : Int32) (l2 : Int32) (l3 : Int64) : Option (Zm × Int64) :=
  zb1 (zo_rc M l0 12) (fun _ => zbd (zf_X11_openTap M l0) (fun M1 _ =>
  zb1 (zo_rc M1 l0 12) (fun _ => zbd (zf_X11_rackWine M1 l0 l1 l2 l3) (fun M2 v2 =>
  zb1 (zo_rc M2 l0 12) (fun _ => zbd (zf_X11_closeTap M2 l0 v2) (fun M3 v3 =>
  some (M3, v3)))))))
set_option maxRecDepth 100000 in
theorem zt_X11_rack {X : Zx} {M : Zm} {l0 : Option Nat} {l1 : Int32} {l2 : Int32} {l3 : Int64} {z : Zm × Int64} (h : zf_X11_rack M l0 l1 l2 l3 = some z) (hR : zRj X zC_X11_rack z.1 z.2) : zV X zC_X11_rack M 0 [(0, .inr (.inr l0)), (1, .inl l1), (2, .inl l2), (3, .inr (.inl l3))] [] := by
  unfold zf_X11_rack at h
  refine zV_b (pc' := 1) (lv' := [(0, .inr (.inr l0)), (1, .inl l1), (2, .inl l2), (3, .inr (.inl l3))]) (st' := [.inr (.inr l0)]) [(.aload_n 0, 1)] (by decide +kernel) rfl ?_
  refine zV_cvv (As := []) (st := []) (c := 12) (by decide +kernel) (zcl_X11_openTap (by decide) (by decide)) ⟨zw_453, zw_455, zw_0⟩ ⟨⟨_, _, rfl⟩, by decide⟩ rfl rfl (Nat.le_of_ble_eq_true rfl) h (fun _ _ e => zc_X11_openTap e) (fun M1 _ _ h => ?_)
  refine zV_b (pc' := 9) (lv' := [(0, .inr (.inr l0)), (1, .inl l1), (2, .inl l2), (3, .inr (.inl l3))]) (st' := [.inr (.inl l3), .inl l2, .inl l1, .inr (.inr l0), .inr (.inr l0)]) [(.aload_n 0, 1), (.aload_n 0, 1), (.iload_n 1, 1), (.iload_n 2, 1), (.lload_n 3, 1)] (by decide +kernel) rfl ?_
  refine zV_cvj (As := [.inl l1, .inl l2, .inr (.inl l3)]) (st := [.inr (.inr l0)]) (c := 12) (by decide +kernel) (zcl_X11_rackWine (by decide) (by decide)) ⟨zw_853, zw_855, zw_24⟩ ⟨⟨_, _, rfl⟩, by decide⟩ rfl rfl (Nat.le_of_ble_eq_true rfl) h (fun _ _ e => zc_X11_rackWine e) (fun M2 v2 _ h => ?_)
  refine zV_cvj (As := [.inr (.inl v2)]) (st := []) (c := 12) (by decide +kernel) (zcl_X11_closeTap (by decide) (by decide)) ⟨zw_510, zw_512, zw_3⟩ ⟨⟨_, _, rfl⟩, by decide⟩ rfl rfl (Nat.le_of_ble_eq_true rfl) h (fun _ _ e => zc_X11_closeTap e) (fun M3 v3 _ h => ?_)
  exact zend_j h hR (by decide +kernel)
theorem zc_X11_rack {M M' : Zm} {l0 : Option Nat} {l1 : Int32} {l2 : Int32} {l3 : Int64} {x : Int64} (h : zf_X11_rack M l0 l1 l2 l3 = some (M', x)) (l : Launch) (D : va_G) (cy : Nat → ClassId) : zMet l yX11_rack zC_X11_rack (some .long) D cy [.inr (.inr l0), .inl l1, .inl l2, .inr (.inl l3)] M M' (some (.inr (.inl x))) :=
  zM_j (by decide) rfl (fun h => by cases h) (Nat.le_of_ble_eq_true rfl) (fun X hR => zt_X11_rack h hR)
-- BlendCellar.restorePlace(II)V
def zC_X11_restorePlace : Zc := (cX11_restorePlace, 3, RX11, 0, 0, false)
theorem zcl_X11_restorePlace {C : Zc} (h1 : zC_X11_restorePlace.2.2.2.1 + 1 ≤ C.2.2.2.1) (h2 : 8 + (zC_X11_restorePlace.2.1 + 11) + zC_X11_restorePlace.2.2.2.2.1 ≤ C.2.2.2.2.1) : zCl C yX11_restorePlace zC_X11_restorePlace none 2 := ⟨zw_1279, zw_101, ⟨by decide, by decide⟩, by decide +kernel, h1, h2⟩
noncomputable def zf_X11_restorePlace (M : Zm) (l0 : Option Nat) (l1 : Int32) (l2 : Int32) : Option (Zm × Unit) :=
  (if l1 = (-1 : Int32) then
  some (M, ())
  else
  (if l2 = (-1 : Int32) then
  zb1 (zo_gr M l0 12 1) (fun v4 =>
  zb1 (zo_sr M 17 8 v4 l1 none) (fun M5 =>
  some (M5, ())))
  else
  zb1 (zo_gr M l0 12 1) (fun v8 =>
  zb1 (zo_ar M 17 v8 l1) (fun v9 =>
  (if v9 = none then
  some (M, ())
  else
  zb1 (zo_gr M l0 12 1) (fun v12 =>
  zb1 (zo_ar M 17 v12 l1) (fun v13 =>
  zb1 (zo_gr M v13 8 1) (fun v14 =>
  zb1 (zo_gr M l0 12 11) (fun v15 =>
  zb1 (zo_gi M v15 2 7) (fun v16 =>
  zb1 (zo_si M v14 l2 v16) (fun M17 =>
  some (M17, ()))))))))))))
set_option maxRecDepth 100000 in
theorem zt_X11_restorePlace {X : Zx} {M : Zm} {l0 : Option Nat} {l1 : Int32} {l2 : Int32} {z : Zm × Unit} (h : zf_X11_restorePlace M l0 l1 l2 = some z) (hR : zRv X zC_X11_restorePlace z.1) : zV X zC_X11_restorePlace M 0 [(0, .inr (.inr l0)), (1, .inl l1), (2, .inl l2)] [] := by
  unfold zf_X11_restorePlace at h
  refine zV_b (pc' := 2) (lv' := [(0, .inr (.inr l0)), (1, .inl l1), (2, .inl l2)]) (st' := [.inl (-1 : Int32), .inl l1]) [(.iload_n 1, 1), (.iconst (-1), 1)] (by decide +kernel) rfl ?_
  refine zV_icmp_ne (off := 4) (tgt := 6) (by decide +kernel) (by decide) h (fun c1 h => ?_) (fun c1 h => ?_)
  · exact zend_v h hR (by decide +kernel)
  · refine zV_b (pc' := 8) (lv' := [(0, .inr (.inr l0)), (1, .inl l1), (2, .inl l2)]) (st' := [.inl (-1 : Int32), .inl l2]) [(.iload_n 2, 1), (.iconst (-1), 1)] (by decide +kernel) rfl ?_
    refine zV_icmp_ne (off := 13) (tgt := 21) (by decide +kernel) (by decide) h (fun c3 h => ?_) (fun c3 h => ?_)
    · refine zV_b (pc' := 12) (lv' := [(0, .inr (.inr l0)), (1, .inl l1), (2, .inl l2)]) (st' := [.inr (.inr l0)]) [(.aload_n 0, 1)] (by decide +kernel) rfl ?_
      refine zV_gr (by decide +kernel) zfl_RX11_18 (by decide) rfl h (fun v4 _ h => ?_)
      refine zV_b (pc' := 17) (lv' := [(0, .inr (.inr l0)), (1, .inl l1), (2, .inl l2)]) (st' := [.inr (.inr none), .inl l1, .inr (.inr v4)]) [(.iload_n 1, 1), (.aconst_null, 1)] (by decide +kernel) rfl ?_
      refine zV_sr (by decide +kernel) (by decide) (by decide) (Or.inr ⟨_, _, rfl, by decide⟩) h (fun M5 _ h => ?_)
      refine zV_goto (off := 30) (tgt := 48) (by decide +kernel) (by decide) ?_
      exact zend_v h hR (by decide +kernel)
    · refine zV_b (pc' := 22) (lv' := [(0, .inr (.inr l0)), (1, .inl l1), (2, .inl l2)]) (st' := [.inr (.inr l0)]) [(.aload_n 0, 1)] (by decide +kernel) rfl ?_
      refine zV_gr (by decide +kernel) zfl_RX11_18 (by decide) rfl h (fun v8 _ h => ?_)
      refine zV_b (pc' := 26) (lv' := [(0, .inr (.inr l0)), (1, .inl l1), (2, .inl l2)]) (st' := [.inl l1, .inr (.inr v8)]) [(.iload_n 1, 1)] (by decide +kernel) rfl ?_
      refine zV_ar (by decide +kernel) (by decide) (by decide) h (fun v9 _ h => ?_)
      refine zV_ifnull (off := 21) (tgt := 48) (by decide +kernel) (by decide) h (fun c10 h => ?_) (fun c10 h => ?_)
      · exact zend_v h hR (by decide +kernel)
      · refine zV_b (pc' := 31) (lv' := [(0, .inr (.inr l0)), (1, .inl l1), (2, .inl l2)]) (st' := [.inr (.inr l0)]) [(.aload_n 0, 1)] (by decide +kernel) rfl ?_
        refine zV_gr (by decide +kernel) zfl_RX11_18 (by decide) rfl h (fun v12 _ h => ?_)
        refine zV_b (pc' := 35) (lv' := [(0, .inr (.inr l0)), (1, .inl l1), (2, .inl l2)]) (st' := [.inl l1, .inr (.inr v12)]) [(.iload_n 1, 1)] (by decide +kernel) rfl ?_
        refine zV_ar (by decide +kernel) (by decide) (by decide) h (fun v13 _ h => ?_)
        refine zV_gr (by decide +kernel) zfl_RX11_223 (by decide) rfl h (fun v14 _ h => ?_)
        refine zV_b (pc' := 41) (lv' := [(0, .inr (.inr l0)), (1, .inl l1), (2, .inl l2)]) (st' := [.inr (.inr l0), .inl l2, .inr (.inr v14)]) [(.iload_n 2, 1), (.aload_n 0, 1)] (by decide +kernel) rfl ?_
        refine zV_gr (by decide +kernel) zfl_RX11_79 (by decide) rfl h (fun v15 _ h => ?_)
        refine zV_gi (by decide +kernel) zfl_RX11_561 (by decide) rfl (Or.inl rfl) h (fun v16 _ h => ?_)
        refine zV_si (by decide +kernel) h (fun M17 _ h => ?_)
        exact zend_v h hR (by decide +kernel)
theorem zc_X11_restorePlace {M M' : Zm} {l0 : Option Nat} {l1 : Int32} {l2 : Int32} {x : Unit} (h : zf_X11_restorePlace M l0 l1 l2 = some (M', x)) (l : Launch) (D : va_G) (cy : Nat → ClassId) : zMet l yX11_restorePlace zC_X11_restorePlace none D cy [.inr (.inr l0), .inl l1, .inl l2] M M' none :=
  zM_v (by decide) rfl (fun h => by cases h) (Nat.le_of_ble_eq_true rfl) (fun X hR => zt_X11_restorePlace h hR)
-- BlendCellar.roomOf(LBlendCellar$Barrel;)J
def zC_X11_roomOf : Zc := (cX11_roomOf, 2, RX11, 4, 87, false)
theorem zcl_X11_roomOf {C : Zc} (h1 : zC_X11_roomOf.2.2.2.1 + 1 ≤ C.2.2.2.1) (h2 : 8 + (zC_X11_roomOf.2.1 + 11) + zC_X11_roomOf.2.2.2.2.1 ≤ C.2.2.2.2.1) : zCl C yX11_roomOf zC_X11_roomOf (some .long) 1 := ⟨zw_1067, zw_101, ⟨by decide, by decide⟩, by decide +kernel, h1, h2⟩
noncomputable def zf_X11_roomOf (M : Zm) (l0 : Option Nat) (l1 : Option Nat) : Option (Zm × Int64) :=
  zb1 (zo_gr M l0 12 12) (fun v1 =>
  zb1 (zo_rc M l1 1) (fun _ => zbd (zf_X0_takesInAll M l1 v1) (fun M2 v2 =>
  zb1 (zo_rc M2 l1 1) (fun _ => zbd (zf_X0_has M2 l1) (fun M3 v3 =>
  some (M3, (v2 - v3)))))))
set_option maxRecDepth 100000 in
theorem zt_X11_roomOf {X : Zx} {M : Zm} {l0 : Option Nat} {l1 : Option Nat} {z : Zm × Int64} (h : zf_X11_roomOf M l0 l1 = some z) (hR : zRj X zC_X11_roomOf z.1 z.2) : zV X zC_X11_roomOf M 0 [(0, .inr (.inr l0)), (1, .inr (.inr l1))] [] := by
  unfold zf_X11_roomOf at h
  refine zV_b (pc' := 2) (lv' := [(0, .inr (.inr l0)), (1, .inr (.inr l1))]) (st' := [.inr (.inr l0), .inr (.inr l1)]) [(.aload_n 1, 1), (.aload_n 0, 1)] (by decide +kernel) rfl ?_
  refine zV_gr (by decide +kernel) zfl_RX11_86 (by decide) rfl h (fun v1 _ h => ?_)
  refine zV_cvj (As := [.inr (.inr v1)]) (st := []) (c := 1) (by decide +kernel) (zcl_X0_takesInAll (by decide) (by decide)) ⟨zw_784, zw_785, zw_786⟩ ⟨⟨_, _, rfl⟩, by decide⟩ rfl rfl (Nat.le_of_ble_eq_true rfl) h (fun _ _ e => zc_X0_takesInAll e) (fun M2 v2 _ h => ?_)
  refine zV_b (pc' := 9) (lv' := [(0, .inr (.inr l0)), (1, .inr (.inr l1))]) (st' := [.inr (.inr l1), .inr (.inl v2)]) [(.aload_n 1, 1)] (by decide +kernel) rfl ?_
  refine zV_cvj (As := []) (st := [.inr (.inl v2)]) (c := 1) (by decide +kernel) (zcl_X0_has (by decide) (by decide)) ⟨zw_1068, zw_1069, zw_1070⟩ ⟨⟨_, _, rfl⟩, by decide⟩ rfl rfl (Nat.le_of_ble_eq_true rfl) h (fun _ _ e => zc_X0_has e) (fun M3 v3 _ h => ?_)
  refine zV_b (pc' := 13) (lv' := [(0, .inr (.inr l0)), (1, .inr (.inr l1))]) (st' := [.inr (.inl (v2 - v3))]) [(.lsub, 1)] (by decide +kernel) rfl ?_
  exact zend_j h hR (by decide +kernel)
theorem zc_X11_roomOf {M M' : Zm} {l0 : Option Nat} {l1 : Option Nat} {x : Int64} (h : zf_X11_roomOf M l0 l1 = some (M', x)) (l : Launch) (D : va_G) (cy : Nat → ClassId) : zMet l yX11_roomOf zC_X11_roomOf (some .long) D cy [.inr (.inr l0), .inr (.inr l1)] M M' (some (.inr (.inl x))) :=
  zM_j (by decide) rfl (fun h => by cases h) (Nat.le_of_ble_eq_true rfl) (fun X hR => zt_X11_roomOf h hR)
-- BlendCellar.room(I)J
def zC_X11_room : Zc := (cX11_room, 3, RX11, 5, 108, false)
theorem zcl_X11_room {C : Zc} (h1 : zC_X11_room.2.2.2.1 + 1 ≤ C.2.2.2.1) (h2 : 8 + (zC_X11_room.2.1 + 11) + zC_X11_room.2.2.2.2.1 ≤ C.2.2.2.2.1) : zCl C yX11_room zC_X11_room (some .long) 1 := ⟨zw_1063, zw_101, ⟨by decide, by decide⟩, by decide +kernel, h1, h2⟩
noncomputable def zf_X11_room_J36 (M : Zm) (s0 : Int64) (s1 : Option Nat) : Option (Zm × Int64) :=
  zb1 (zo_rc M s1 12) (fun _ => zbd (zf_X11_closeTap M s1 s0) (fun M8 v8 =>
  some (M8, v8)))
noncomputable def zf_X11_room (M : Zm) (l0 : Option Nat) (l1 : Int32) : Option (Zm × Int64) :=
  zb1 (zo_rc M l0 12) (fun _ => zbd (zf_X11_openTap M l0) (fun M1 _ =>
  zb1 (zo_rc M1 l0 12) (fun _ => zbd (zf_X11_lookUp M1 l0 l1) (fun M2 v2 =>
  (if v2 = 0 then
  zb1 (zo_gr M2 l0 12 0) (fun v4 =>
  zb1 (zo_rc M2 v4 0) (fun _ => zbd (zf_Jx4a65c_get_915e3 M2 v4 l1) (fun M5 v5 =>
  zb1 (zo_cc M5 v5 1) (fun _ =>
  zb1 (zo_rc M5 l0 12) (fun _ => zbd (zf_X11_roomOf M5 l0 v5) (fun M7 v7 =>
  zf_X11_room_J36 M7 v7 l0))))))
  else
  zf_X11_room_J36 M2 (((-v2)).toInt64) l0)))))
set_option maxRecDepth 100000 in
theorem zt_X11_room_J36 {X : Zx} {M : Zm} {s0 : Int64} {s1 : Option Nat} {z : Zm × Int64} (h : zf_X11_room_J36 M s0 s1 = some z) (hR : zRj X zC_X11_room z.1 z.2) : zV X zC_X11_room M 36 [] [.inr (.inl s0), .inr (.inr s1)] := by
  unfold zf_X11_room_J36 at h
  refine zV_cvj (As := [.inr (.inl s0)]) (st := []) (c := 12) (by decide +kernel) (zcl_X11_closeTap (by decide) (by decide)) ⟨zw_510, zw_512, zw_3⟩ ⟨⟨_, _, rfl⟩, by decide⟩ rfl rfl (Nat.le_of_ble_eq_true rfl) h (fun _ _ e => zc_X11_closeTap e) (fun M8 v8 _ h => ?_)
  exact zend_j h hR (by decide +kernel)
set_option maxRecDepth 100000 in
theorem zt_X11_room {X : Zx} {M : Zm} {l0 : Option Nat} {l1 : Int32} {z : Zm × Int64} (h : zf_X11_room M l0 l1 = some z) (hR : zRj X zC_X11_room z.1 z.2) : zV X zC_X11_room M 0 [(0, .inr (.inr l0)), (1, .inl l1)] [] := by
  unfold zf_X11_room at h
  refine zV_b (pc' := 1) (lv' := [(0, .inr (.inr l0)), (1, .inl l1)]) (st' := [.inr (.inr l0)]) [(.aload_n 0, 1)] (by decide +kernel) rfl ?_
  refine zV_cvv (As := []) (st := []) (c := 12) (by decide +kernel) (zcl_X11_openTap (by decide) (by decide)) ⟨zw_453, zw_455, zw_0⟩ ⟨⟨_, _, rfl⟩, by decide⟩ rfl rfl (Nat.le_of_ble_eq_true rfl) h (fun _ _ e => zc_X11_openTap e) (fun M1 _ _ h => ?_)
  refine zV_b (pc' := 6) (lv' := [(0, .inr (.inr l0)), (1, .inl l1)]) (st' := [.inl l1, .inr (.inr l0)]) [(.aload_n 0, 1), (.iload_n 1, 1)] (by decide +kernel) rfl ?_
  refine zV_cvi (As := [.inl l1]) (st := []) (c := 12) (by decide +kernel) (zcl_X11_lookUp (by decide) (by decide)) ⟨zw_666, zw_668, zw_10⟩ ⟨⟨_, _, rfl⟩, by decide⟩ rfl rfl (Nat.le_of_ble_eq_true rfl) h (fun _ _ e => zc_X11_lookUp e) (fun M2 v2 _ h => ?_)
  refine zV_b (pc' := 12) (lv' := [(2, .inl v2), (0, .inr (.inr l0)), (1, .inl l1)]) (st' := [.inl v2, .inr (.inr l0)]) [(.istore_n 2, 1), (.aload_n 0, 1), (.iload_n 2, 1)] (by decide +kernel) rfl ?_
  refine zV_if_eq (off := 9) (tgt := 21) (by decide +kernel) (by decide) h (fun c3 h => ?_) (fun c3 h => ?_)
  · refine zV_b (pc' := 23) (lv' := [(2, .inl v2), (0, .inr (.inr l0)), (1, .inl l1)]) (st' := [.inr (.inr l0), .inr (.inr l0), .inr (.inr l0)]) [(.aload_n 0, 1), (.aload_n 0, 1)] (by decide +kernel) rfl ?_
    refine zV_gr (by decide +kernel) zfl_RX11_12 (by decide) rfl h (fun v4 _ h => ?_)
    refine zV_b (pc' := 27) (lv' := [(2, .inl v2), (0, .inr (.inr l0)), (1, .inl l1)]) (st' := [.inl l1, .inr (.inr v4), .inr (.inr l0), .inr (.inr l0)]) [(.iload_n 1, 1)] (by decide +kernel) rfl ?_
    refine zV_cvr (As := [.inl l1]) (st := [.inr (.inr l0), .inr (.inr l0)]) (c := 0) (by decide +kernel) (zcl_Jx4a65c_get_915e3 (by decide) (by decide)) ⟨zw_670, zw_671, zw_672⟩ ⟨⟨_, _, rfl⟩, by decide⟩ rfl rfl (Nat.le_of_ble_eq_true rfl) h (fun _ _ e => zc_Jx4a65c_get_915e3 e) (fun M5 v5 _ h => ?_)
    refine zV_cc (by decide +kernel) zck_RX11_156 h (fun _ _ h => ?_)
    refine zV_cvj (As := [.inr (.inr v5)]) (st := [.inr (.inr l0)]) (c := 12) (by decide +kernel) (zcl_X11_roomOf (by decide) (by decide)) ⟨zw_1064, zw_1066, zw_44⟩ ⟨⟨_, _, rfl⟩, by decide⟩ rfl rfl (Nat.le_of_ble_eq_true rfl) h (fun _ _ e => zc_X11_roomOf e) (fun M7 v7 _ h => ?_)
    exact zV_lv (lv' := []) [] rfl (zt_X11_room_J36 h hR)
  · refine zV_b (pc' := 18) (lv' := [(2, .inl v2), (0, .inr (.inr l0)), (1, .inl l1)]) (st' := [.inr (.inl (((-v2)).toInt64)), .inr (.inr l0)]) [(.iload_n 2, 1), (.ineg, 1), (.i2l, 1)] (by decide +kernel) rfl ?_
    refine zV_goto (off := 18) (tgt := 36) (by decide +kernel) (by decide) ?_
    exact zV_lv (lv' := []) [] rfl (zt_X11_room_J36 h hR)
theorem zc_X11_room {M M' : Zm} {l0 : Option Nat} {l1 : Int32} {x : Int64} (h : zf_X11_room M l0 l1 = some (M', x)) (l : Launch) (D : va_G) (cy : Nat → ClassId) : zMet l yX11_room zC_X11_room (some .long) D cy [.inr (.inr l0), .inl l1] M M' (some (.inr (.inl x))) :=
  zM_j (by decide) rfl (fun h => by cases h) (Nat.le_of_ble_eq_true rfl) (fun X hR => zt_X11_room h hR)
-- BlendCellar.row(III)J
def zC_X11_row : Zc := (cX11_row, 4, RX11, 4, 90, false)
theorem zcl_X11_row {C : Zc} (h1 : zC_X11_row.2.2.2.1 + 1 ≤ C.2.2.2.1) (h2 : 8 + (zC_X11_row.2.1 + 11) + zC_X11_row.2.2.2.2.1 ≤ C.2.2.2.2.1) : zCl C yX11_row zC_X11_row (some .long) 3 := ⟨zw_452, zw_101, ⟨by decide, by decide⟩, by decide +kernel, h1, h2⟩
noncomputable def zf_X11_row (M : Zm) (l0 : Option Nat) (l1 : Int32) (l2 : Int32) (l3 : Int32) : Option (Zm × Int64) :=
  zb1 (zo_rc M l0 12) (fun _ => zbd (zf_X11_openTap M l0) (fun M1 _ =>
  zb1 (zo_rc M1 l0 12) (fun _ => zbd (zf_X11_buildRow M1 l0 l1 l2 l3) (fun M2 v2 =>
  zb1 (zo_rc M2 l0 12) (fun _ => zbd (zf_X11_closeTap M2 l0 v2) (fun M3 v3 =>
  some (M3, v3)))))))
set_option maxRecDepth 100000 in
theorem zt_X11_row {X : Zx} {M : Zm} {l0 : Option Nat} {l1 : Int32} {l2 : Int32} {l3 : Int32} {z : Zm × Int64} (h : zf_X11_row M l0 l1 l2 l3 = some z) (hR : zRj X zC_X11_row z.1 z.2) : zV X zC_X11_row M 0 [(0, .inr (.inr l0)), (1, .inl l1), (2, .inl l2), (3, .inl l3)] [] := by
  unfold zf_X11_row at h
  refine zV_b (pc' := 1) (lv' := [(0, .inr (.inr l0)), (1, .inl l1), (2, .inl l2), (3, .inl l3)]) (st' := [.inr (.inr l0)]) [(.aload_n 0, 1)] (by decide +kernel) rfl ?_
  refine zV_cvv (As := []) (st := []) (c := 12) (by decide +kernel) (zcl_X11_openTap (by decide) (by decide)) ⟨zw_453, zw_455, zw_0⟩ ⟨⟨_, _, rfl⟩, by decide⟩ rfl rfl (Nat.le_of_ble_eq_true rfl) h (fun _ _ e => zc_X11_openTap e) (fun M1 _ _ h => ?_)
  refine zV_b (pc' := 9) (lv' := [(0, .inr (.inr l0)), (1, .inl l1), (2, .inl l2), (3, .inl l3)]) (st' := [.inl l3, .inl l2, .inl l1, .inr (.inr l0), .inr (.inr l0)]) [(.aload_n 0, 1), (.aload_n 0, 1), (.iload_n 1, 1), (.iload_n 2, 1), (.iload_n 3, 1)] (by decide +kernel) rfl ?_
  refine zV_cvj (As := [.inl l1, .inl l2, .inl l3]) (st := [.inr (.inr l0)]) (c := 12) (by decide +kernel) (zcl_X11_buildRow (by decide) (by decide)) ⟨zw_461, zw_463, zw_1⟩ ⟨⟨_, _, rfl⟩, by decide⟩ rfl rfl (Nat.le_of_ble_eq_true rfl) h (fun _ _ e => zc_X11_buildRow e) (fun M2 v2 _ h => ?_)
  refine zV_cvj (As := [.inr (.inl v2)]) (st := []) (c := 12) (by decide +kernel) (zcl_X11_closeTap (by decide) (by decide)) ⟨zw_510, zw_512, zw_3⟩ ⟨⟨_, _, rfl⟩, by decide⟩ rfl rfl (Nat.le_of_ble_eq_true rfl) h (fun _ _ e => zc_X11_closeTap e) (fun M3 v3 _ h => ?_)
  exact zend_j h hR (by decide +kernel)
theorem zc_X11_row {M M' : Zm} {l0 : Option Nat} {l1 : Int32} {l2 : Int32} {l3 : Int32} {x : Int64} (h : zf_X11_row M l0 l1 l2 l3 = some (M', x)) (l : Launch) (D : va_G) (cy : Nat → ClassId) : zMet l yX11_row zC_X11_row (some .long) D cy [.inr (.inr l0), .inl l1, .inl l2, .inl l3] M M' (some (.inr (.inl x))) :=
  zM_j (by decide) rfl (fun h => by cases h) (Nat.le_of_ble_eq_true rfl) (fun X hR => zt_X11_row h hR)
-- BlendCellar.rule(IIIII)J
def zC_X11_rule : Zc := (cX11_rule, 6, RX11, 4, 91, false)
theorem zcl_X11_rule {C : Zc} (h1 : zC_X11_rule.2.2.2.1 + 1 ≤ C.2.2.2.1) (h2 : 8 + (zC_X11_rule.2.1 + 11) + zC_X11_rule.2.2.2.2.1 ≤ C.2.2.2.2.1) : zCl C yX11_rule zC_X11_rule (some .long) 5 := ⟨zw_1116, zw_101, ⟨by decide, by decide⟩, by decide +kernel, h1, h2⟩
noncomputable def zf_X11_rule (M : Zm) (l0 : Option Nat) (l1 : Int32) (l2 : Int32) (l3 : Int32) (l4 : Int32) (l5 : Int32) : Option (Zm × Int64) :=
  zb1 (zo_rc M l0 12) (fun _ => zbd (zf_X11_openTap M l0) (fun M1 _ =>
  zb1 (zo_rc M1 l0 12) (fun _ => zbd (zf_X11_makeRule M1 l0 l1 l2 l3 l4 l5) (fun M2 v2 =>
  zb1 (zo_rc M2 l0 12) (fun _ => zbd (zf_X11_closeTap M2 l0 v2) (fun M3 v3 =>
  some (M3, v3)))))))
set_option maxRecDepth 100000 in
theorem zt_X11_rule {X : Zx} {M : Zm} {l0 : Option Nat} {l1 : Int32} {l2 : Int32} {l3 : Int32} {l4 : Int32} {l5 : Int32} {z : Zm × Int64} (h : zf_X11_rule M l0 l1 l2 l3 l4 l5 = some z) (hR : zRj X zC_X11_rule z.1 z.2) : zV X zC_X11_rule M 0 [(0, .inr (.inr l0)), (1, .inl l1), (2, .inl l2), (3, .inl l3), (4, .inl l4), (5, .inl l5)] [] := by
  unfold zf_X11_rule at h
  refine zV_b (pc' := 1) (lv' := [(0, .inr (.inr l0)), (1, .inl l1), (2, .inl l2), (3, .inl l3), (4, .inl l4), (5, .inl l5)]) (st' := [.inr (.inr l0)]) [(.aload_n 0, 1)] (by decide +kernel) rfl ?_
  refine zV_cvv (As := []) (st := []) (c := 12) (by decide +kernel) (zcl_X11_openTap (by decide) (by decide)) ⟨zw_453, zw_455, zw_0⟩ ⟨⟨_, _, rfl⟩, by decide⟩ rfl rfl (Nat.le_of_ble_eq_true rfl) h (fun _ _ e => zc_X11_openTap e) (fun M1 _ _ h => ?_)
  refine zV_b (pc' := 13) (lv' := [(0, .inr (.inr l0)), (1, .inl l1), (2, .inl l2), (3, .inl l3), (4, .inl l4), (5, .inl l5)]) (st' := [.inl l5, .inl l4, .inl l3, .inl l2, .inl l1, .inr (.inr l0), .inr (.inr l0)]) [(.aload_n 0, 1), (.aload_n 0, 1), (.iload_n 1, 1), (.iload_n 2, 1), (.iload_n 3, 1), (.iload 4, 2), (.iload 5, 2)] (by decide +kernel) rfl ?_
  refine zV_cvj (As := [.inl l1, .inl l2, .inl l3, .inl l4, .inl l5]) (st := [.inr (.inr l0)]) (c := 12) (by decide +kernel) (zcl_X11_makeRule (by decide) (by decide)) ⟨zw_1117, zw_1119, zw_46⟩ ⟨⟨_, _, rfl⟩, by decide⟩ rfl rfl (Nat.le_of_ble_eq_true rfl) h (fun _ _ e => zc_X11_makeRule e) (fun M2 v2 _ h => ?_)
  refine zV_cvj (As := [.inr (.inl v2)]) (st := []) (c := 12) (by decide +kernel) (zcl_X11_closeTap (by decide) (by decide)) ⟨zw_510, zw_512, zw_3⟩ ⟨⟨_, _, rfl⟩, by decide⟩ rfl rfl (Nat.le_of_ble_eq_true rfl) h (fun _ _ e => zc_X11_closeTap e) (fun M3 v3 _ h => ?_)
  exact zend_j h hR (by decide +kernel)
theorem zc_X11_rule {M M' : Zm} {l0 : Option Nat} {l1 : Int32} {l2 : Int32} {l3 : Int32} {l4 : Int32} {l5 : Int32} {x : Int64} (h : zf_X11_rule M l0 l1 l2 l3 l4 l5 = some (M', x)) (l : Launch) (D : va_G) (cy : Nat → ClassId) : zMet l yX11_rule zC_X11_rule (some .long) D cy [.inr (.inr l0), .inl l1, .inl l2, .inl l3, .inl l4, .inl l5] M M' (some (.inr (.inl x))) :=
  zM_j (by decide) rfl (fun h => by cases h) (Nat.le_of_ble_eq_true rfl) (fun X hR => zt_X11_rule h hR)
-- BlendCellar.seeRow(I)V
def zC_X11_seeRow : Zc := (cX11_seeRow, 5, RX11, 4, 85, false)
theorem zcl_X11_seeRow {C : Zc} (h1 : zC_X11_seeRow.2.2.2.1 + 1 ≤ C.2.2.2.1) (h2 : 8 + (zC_X11_seeRow.2.1 + 11) + zC_X11_seeRow.2.2.2.2.1 ≤ C.2.2.2.2.1) : zCl C yX11_seeRow zC_X11_seeRow none 1 := ⟨zw_1347, zw_101, ⟨by decide, by decide⟩, by decide +kernel, h1, h2⟩
noncomputable def zf_X11_seeRow_J52 (M : Zm) (p0 : Option Nat) (p1 : Int32) (p2 : Option Nat) (l3 : Int32) : Option ((Zm × Int32) ⊕ (Zm × Int32)) :=
  some (.inl (M, (l3 + 1)))
noncomputable def zf_X11_seeRow_L22 (p0 : Option Nat) (p1 : Int32) (p2 : Option Nat) (x : Zm × Int32) : Option ((Zm × Int32) ⊕ (Zm × Int32)) := match x with
  | (M, l3) =>
  zb1 (zo_al M p2) (fun v8 =>
  (if v8 ≤ l3 then
  some (.inr (M, l3))
  else
  zb1 (zo_ai M p2 l3) (fun v10 =>
  zb1 (zo_rc M p0 12) (fun _ => zbd (zf_X11_find M p0 v10) (fun M11 v11 =>
  (if v11 = none then
  zf_X11_seeRow_J52 M11 p0 p1 p2 l3
  else
  zbd (zf_X11_placeCode M11 p1 l3) (fun M14 v14 =>
  zb1 (zo_rc M14 v11 1) (fun _ => zbd (zf_X0_seeAt M14 v11 v14) (fun M15 _ =>
  zf_X11_seeRow_J52 M15 p0 p1 p2 l3)))))))))
def zP_X11_seeRow_L22 (X : Zx) (p0 : Option Nat) (p1 : Int32) (p2 : Option Nat) (x : Zm × Int32) : Prop := match x with
  | (M, l3) => zV X zC_X11_seeRow M 22 [(0, .inr (.inr p0)), (1, .inl p1), (2, .inr (.inr p2)), (3, .inl l3)] []
def zK_X11_seeRow_L22 (X : Zx) (p0 : Option Nat) (p1 : Int32) (p2 : Option Nat) (y : Zm × Int32) : Prop := match y with
  | (M, l3) => zV X zC_X11_seeRow M 58 [] []
noncomputable def zf_X11_seeRow (M : Zm) (l0 : Option Nat) (l1 : Int32) : Option (Zm × Unit) :=
  zb1 (zo_gr M l0 12 1) (fun v1 =>
  zb1 (zo_ar M 17 v1 l1) (fun v2 =>
  (if v2 = none then
  some (M, ())
  else
  zb1 (zo_gr M l0 12 1) (fun v5 =>
  zb1 (zo_ar M 17 v5 l1) (fun v6 =>
  zb1 (zo_gr M v6 8 1) (fun v7 =>
  zb1 (zwhile (zf_X11_seeRow_L22 l0 l1 v7) (M, (0 : Int32))) (fun y16 => match y16 with
  | (M22_16, l3_16) =>
  some (M22_16, ()))))))))
set_option maxRecDepth 100000 in
theorem zt_X11_seeRow_J52 {X : Zx} {M : Zm} {p0 : Option Nat} {p1 : Int32} {p2 : Option Nat} {l3 : Int32} {z : (Zm × Int32) ⊕ (Zm × Int32)} (h : zf_X11_seeRow_J52 M p0 p1 p2 l3 = some z) (k1 : ∀ x' : Zm × Int32, z = .inl x' → zP_X11_seeRow_L22 X p0 p1 p2 x') (k2 : ∀ y : Zm × Int32, z = .inr y → zK_X11_seeRow_L22 X p0 p1 p2 y) : zV X zC_X11_seeRow M 52 [(0, .inr (.inr p0)), (1, .inl p1), (2, .inr (.inr p2)), (3, .inl l3)] [] := by
  unfold zf_X11_seeRow_J52 at h
  refine zV_b (pc' := 55) (lv' := [(3, .inl (l3 + 1)), (0, .inr (.inr p0)), (1, .inl p1), (2, .inr (.inr p2))]) (st' := []) [(.iinc 3 1, 3)] (by decide +kernel) rfl ?_
  refine zV_goto (off := (-33)) (tgt := 22) (by decide +kernel) (by decide) ?_
  exact zV_lv (lv' := [(0, .inr (.inr p0)), (1, .inl p1), (2, .inr (.inr p2)), (3, .inl (l3 + 1))]) [1, 2, 3, 0] rfl (k1 _ (Option.some.inj h).symm)
set_option maxRecDepth 100000 in
theorem zt_X11_seeRow_L22 {X : Zx} {p0 : Option Nat} {p1 : Int32} {p2 : Option Nat} {x : Zm × Int32} {y : Zm × Int32} (h : zwhile (zf_X11_seeRow_L22 p0 p1 p2) x = some y) (hy : zK_X11_seeRow_L22 X p0 p1 p2 y) : zP_X11_seeRow_L22 X p0 p1 p2 x := by
  refine zwhile_ind (P := zP_X11_seeRow_L22 X p0 p1 p2) (K := zK_X11_seeRow_L22 X p0 p1 p2) ?_ h hy
  intro x z hf k1 k2
  obtain ⟨M, l3⟩ := x
  have h : zf_X11_seeRow_L22 p0 p1 p2 (M, l3) = some z := hf
  unfold zf_X11_seeRow_L22 at h
  show zV X zC_X11_seeRow M 22 [(0, .inr (.inr p0)), (1, .inl p1), (2, .inr (.inr p2)), (3, .inl l3)] []
  refine zV_b (pc' := 24) (lv' := [(0, .inr (.inr p0)), (1, .inl p1), (2, .inr (.inr p2)), (3, .inl l3)]) (st' := [.inr (.inr p2), .inl l3]) [(.iload_n 3, 1), (.aload_n 2, 1)] (by decide +kernel) rfl ?_
  refine zV_al (by decide +kernel) h (fun v8 _ h => ?_)
  refine zV_icmp_ge (off := 33) (tgt := 58) (by decide +kernel) (by decide) h (fun c9 h => ?_) (fun c9 h => ?_)
  · exact zV_lv (lv' := []) [] rfl (k2 _ (Option.some.inj h).symm)
  · refine zV_b (pc' := 31) (lv' := [(0, .inr (.inr p0)), (1, .inl p1), (2, .inr (.inr p2)), (3, .inl l3)]) (st' := [.inl l3, .inr (.inr p2), .inr (.inr p0)]) [(.aload_n 0, 1), (.aload_n 2, 1), (.iload_n 3, 1)] (by decide +kernel) rfl ?_
    refine zV_ai (by decide +kernel) h (fun v10 _ h => ?_)
    refine zV_cvr (As := [.inl v10]) (st := []) (c := 12) (by decide +kernel) (zcl_X11_find (by decide) (by decide)) ⟨zw_751, zw_753, zw_16⟩ ⟨⟨_, _, rfl⟩, by decide⟩ rfl rfl (Nat.le_of_ble_eq_true rfl) h (fun _ _ e => zc_X11_find e) (fun M11 v11 _ h => ?_)
    refine zV_b (pc' := 39) (lv' := [(4, .inr (.inr v11)), (0, .inr (.inr p0)), (1, .inl p1), (2, .inr (.inr p2)), (3, .inl l3)]) (st' := [.inr (.inr v11)]) [(.astore 4, 2), (.aload 4, 2)] (by decide +kernel) rfl ?_
    refine zV_ifnull (off := 13) (tgt := 52) (by decide +kernel) (by decide) h (fun c12 h => ?_) (fun c12 h => ?_)
    · exact zV_lv (lv' := [(0, .inr (.inr p0)), (1, .inl p1), (2, .inr (.inr p2)), (3, .inl l3)]) [1, 2, 3, 4] rfl (zt_X11_seeRow_J52 h k1 k2)
    · refine zV_b (pc' := 46) (lv' := [(4, .inr (.inr v11)), (0, .inr (.inr p0)), (1, .inl p1), (2, .inr (.inr p2)), (3, .inl l3)]) (st' := [.inl l3, .inl p1, .inr (.inr v11)]) [(.aload 4, 2), (.iload_n 1, 1), (.iload_n 3, 1)] (by decide +kernel) rfl ?_
      refine zV_csi (As := [.inl p1, .inl l3]) (st := [.inr (.inr v11)]) (by decide +kernel) (zcl_X11_placeCode (by decide) (by decide)) ⟨zw_740, zw_741⟩ rfl rfl (Nat.le_of_ble_eq_true rfl) h (fun _ _ e => zc_X11_placeCode e) (fun M14 v14 _ h => ?_)
      refine zV_cvv (As := [.inl v14]) (st := []) (c := 1) (by decide +kernel) (zcl_X0_seeAt (by decide) (by decide)) ⟨zw_1348, zw_1349, zw_1350⟩ ⟨⟨_, _, rfl⟩, by decide⟩ rfl rfl (Nat.le_of_ble_eq_true rfl) h (fun _ _ e => zc_X0_seeAt e) (fun M15 _ _ h => ?_)
      exact zV_lv (lv' := [(0, .inr (.inr p0)), (1, .inl p1), (2, .inr (.inr p2)), (3, .inl l3)]) [1, 2, 3, 4] rfl (zt_X11_seeRow_J52 h k1 k2)
set_option maxRecDepth 100000 in
theorem zt_X11_seeRow {X : Zx} {M : Zm} {l0 : Option Nat} {l1 : Int32} {z : Zm × Unit} (h : zf_X11_seeRow M l0 l1 = some z) (hR : zRv X zC_X11_seeRow z.1) : zV X zC_X11_seeRow M 0 [(0, .inr (.inr l0)), (1, .inl l1)] [] := by
  unfold zf_X11_seeRow at h
  refine zV_b (pc' := 1) (lv' := [(0, .inr (.inr l0)), (1, .inl l1)]) (st' := [.inr (.inr l0)]) [(.aload_n 0, 1)] (by decide +kernel) rfl ?_
  refine zV_gr (by decide +kernel) zfl_RX11_18 (by decide) rfl h (fun v1 _ h => ?_)
  refine zV_b (pc' := 5) (lv' := [(0, .inr (.inr l0)), (1, .inl l1)]) (st' := [.inl l1, .inr (.inr v1)]) [(.iload_n 1, 1)] (by decide +kernel) rfl ?_
  refine zV_ar (by decide +kernel) (by decide) (by decide) h (fun v2 _ h => ?_)
  refine zV_ifnonnull (off := 4) (tgt := 10) (by decide +kernel) (by decide) h (fun c3 h => ?_) (fun c3 h => ?_)
  · exact zend_v h hR (by decide +kernel)
  · refine zV_b (pc' := 11) (lv' := [(0, .inr (.inr l0)), (1, .inl l1)]) (st' := [.inr (.inr l0)]) [(.aload_n 0, 1)] (by decide +kernel) rfl ?_
    refine zV_gr (by decide +kernel) zfl_RX11_18 (by decide) rfl h (fun v5 _ h => ?_)
    refine zV_b (pc' := 15) (lv' := [(0, .inr (.inr l0)), (1, .inl l1)]) (st' := [.inl l1, .inr (.inr v5)]) [(.iload_n 1, 1)] (by decide +kernel) rfl ?_
    refine zV_ar (by decide +kernel) (by decide) (by decide) h (fun v6 _ h => ?_)
    refine zV_gr (by decide +kernel) zfl_RX11_223 (by decide) rfl h (fun v7 _ h => ?_)
    refine zV_b (pc' := 22) (lv' := [(3, .inl (0 : Int32)), (2, .inr (.inr v7)), (0, .inr (.inr l0)), (1, .inl l1)]) (st' := []) [(.astore_n 2, 1), (.iconst 0, 1), (.istore_n 3, 1)] (by decide +kernel) rfl ?_
    obtain ⟨y16, e16, h⟩ := zb1_inv h
    refine zV_lv (lv' := [(0, .inr (.inr l0)), (1, .inl l1), (2, .inr (.inr v7)), (3, .inl (0 : Int32))]) [2, 3, 1, 0] rfl (zt_X11_seeRow_L22 e16 ?_)
    obtain ⟨M22_16, l3_16⟩ := y16
    show zV X zC_X11_seeRow M22_16 58 [] []
    exact zend_v h hR (by decide +kernel)
theorem zc_X11_seeRow {M M' : Zm} {l0 : Option Nat} {l1 : Int32} {x : Unit} (h : zf_X11_seeRow M l0 l1 = some (M', x)) (l : Launch) (D : va_G) (cy : Nat → ClassId) : zMet l yX11_seeRow zC_X11_seeRow none D cy [.inr (.inr l0), .inl l1] M M' none :=
  zM_v (by decide) rfl (fun h => by cases h) (Nat.le_of_ble_eq_true rfl) (fun X hR => zt_X11_seeRow h hR)
-- BlendCellar.strays()I
def zC_X11_strays : Zc := (cX11_strays, 3, RX11, 5, 109, false)
theorem zcl_X11_strays {C : Zc} (h1 : zC_X11_strays.2.2.2.1 + 1 ≤ C.2.2.2.1) (h2 : 8 + (zC_X11_strays.2.1 + 11) + zC_X11_strays.2.2.2.2.1 ≤ C.2.2.2.2.1) : zCl C yX11_strays zC_X11_strays (some .int) 0 := ⟨zw_1339, zw_101, ⟨by decide, by decide⟩, by decide +kernel, h1, h2⟩
noncomputable def zf_X11_strays_L2 (p0 : Option Nat) (x : Zm × Int32) : Option ((Zm × Int32) ⊕ (Zm × Int32)) := match x with
  | (M, l1) =>
  zb1 (zo_gr M p0 12 0) (fun v1 =>
  zb1 (zo_rc M v1 0) (fun _ => zbd (zf_Jx4a65c_size_8abf5 M v1) (fun M2 v2 =>
  (if v2 ≤ l1 then
  some (.inr (M2, l1))
  else
  zb1 (zo_gr M2 p0 12 0) (fun v4 =>
  zb1 (zo_rc M2 v4 0) (fun _ => zbd (zf_Jx4a65c_get_915e3 M2 v4 l1) (fun M5 v5 =>
  zb1 (zo_cc M5 v5 1) (fun _ =>
  zb1 (zo_rc M5 v5 1) (fun _ => zbd (zf_X0_loseSight M5 v5) (fun M7 _ =>
  some (.inl (M7, (l1 + 1)))))))))))))
def zP_X11_strays_L2 (X : Zx) (p0 : Option Nat) (x : Zm × Int32) : Prop := match x with
  | (M, l1) => zV X zC_X11_strays M 2 [(0, .inr (.inr p0)), (1, .inl l1)] []
def zK_X11_strays_L2 (X : Zx) (p0 : Option Nat) (y : Zm × Int32) : Prop := match y with
  | (M, l1) => zV X zC_X11_strays M 33 [(0, .inr (.inr p0))] []
noncomputable def zf_X11_strays_L35 (p0 : Option Nat) (x : Zm × Int32) : Option ((Zm × Int32) ⊕ (Zm × Int32)) := match x with
  | (M, l1) =>
  (if (20 : Int32) ≤ l1 then
  some (.inr (M, l1))
  else
  zb1 (zo_rc M p0 12) (fun _ => zbd (zf_X11_seeRow M p0 l1) (fun M11 _ =>
  some (.inl (M11, (l1 + 1))))))
def zP_X11_strays_L35 (X : Zx) (p0 : Option Nat) (x : Zm × Int32) : Prop := match x with
  | (M, l1) => zV X zC_X11_strays M 35 [(0, .inr (.inr p0)), (1, .inl l1)] []
def zK_X11_strays_L35 (X : Zx) (p0 : Option Nat) (y : Zm × Int32) : Prop := match y with
  | (M, l1) => zV X zC_X11_strays M 52 [(0, .inr (.inr p0))] []
noncomputable def zf_X11_strays_L54 (p0 : Option Nat) (x : Zm × Int32) : Option ((Zm × Int32) ⊕ (Zm × Int32)) := match x with
  | (M, l1) =>
  zb1 (zo_gr M p0 12 0) (fun v14 =>
  zb1 (zo_rc M v14 0) (fun _ => zbd (zf_Jx4a65c_size_8abf5 M v14) (fun M15 v15 =>
  (if v15 ≤ l1 then
  some (.inr (M15, l1))
  else
  zb1 (zo_gr M15 p0 12 0) (fun v17 =>
  zb1 (zo_rc M15 v17 0) (fun _ => zbd (zf_Jx4a65c_get_915e3 M15 v17 l1) (fun M18 v18 =>
  zb1 (zo_cc M18 v18 1) (fun _ =>
  zb1 (zo_rc M18 v18 1) (fun _ => zbd (zf_X0_seeMembers M18 v18) (fun M20 _ =>
  some (.inl (M20, (l1 + 1)))))))))))))
def zP_X11_strays_L54 (X : Zx) (p0 : Option Nat) (x : Zm × Int32) : Prop := match x with
  | (M, l1) => zV X zC_X11_strays M 54 [(0, .inr (.inr p0)), (1, .inl l1)] []
def zK_X11_strays_L54 (X : Zx) (p0 : Option Nat) (y : Zm × Int32) : Prop := match y with
  | (M, l1) => zV X zC_X11_strays M 85 [(0, .inr (.inr p0))] []
noncomputable def zf_X11_strays_J120 (M : Zm) (p0 : Option Nat) (l1 : Int32) (l2 : Int32) : Option ((Zm × Int32 × Int32) ⊕ (Zm × Int32 × Int32)) :=
  some (.inl (M, l1, (l2 + 1)))
noncomputable def zf_X11_strays_L89 (p0 : Option Nat) (x : Zm × Int32 × Int32) : Option ((Zm × Int32 × Int32) ⊕ (Zm × Int32 × Int32)) := match x with
  | (M, l1, l2) =>
  zb1 (zo_gr M p0 12 0) (fun v23 =>
  zb1 (zo_rc M v23 0) (fun _ => zbd (zf_Jx4a65c_size_8abf5 M v23) (fun M24 v24 =>
  (if v24 ≤ l2 then
  some (.inr (M24, l1, l2))
  else
  zb1 (zo_gr M24 p0 12 0) (fun v26 =>
  zb1 (zo_rc M24 v26 0) (fun _ => zbd (zf_Jx4a65c_get_915e3 M24 v26 l2) (fun M27 v27 =>
  zb1 (zo_cc M27 v27 1) (fun _ =>
  zb1 (zo_rc M27 v27 1) (fun _ => zbd (zf_X0_isStray M27 v27) (fun M29 v29 =>
  (if v29 = 0 then
  zf_X11_strays_J120 M29 p0 l1 l2
  else
  zf_X11_strays_J120 M29 p0 (l1 + 1) l2)))))))))))
def zP_X11_strays_L89 (X : Zx) (p0 : Option Nat) (x : Zm × Int32 × Int32) : Prop := match x with
  | (M, l1, l2) => zV X zC_X11_strays M 89 [(0, .inr (.inr p0)), (1, .inl l1), (2, .inl l2)] []
def zK_X11_strays_L89 (X : Zx) (p0 : Option Nat) (y : Zm × Int32 × Int32) : Prop := match y with
  | (M, l1, l2) => zV X zC_X11_strays M 126 [(1, .inl l1)] []
noncomputable def zf_X11_strays (M : Zm) (l0 : Option Nat) : Option (Zm × Int32) :=
  zb1 (zwhile (zf_X11_strays_L2 l0) (M, (0 : Int32))) (fun y9 => match y9 with
  | (M2_9, l1_9) =>
  zb1 (zwhile (zf_X11_strays_L35 l0) (M2_9, (0 : Int32))) (fun y13 => match y13 with
  | (M35_13, l1_13) =>
  zb1 (zwhile (zf_X11_strays_L54 l0) (M35_13, (0 : Int32))) (fun y22 => match y22 with
  | (M54_22, l1_22) =>
  zb1 (zwhile (zf_X11_strays_L89 l0) (M54_22, (0 : Int32), (0 : Int32))) (fun y32 => match y32 with
  | (M89_32, l1_32, l2_32) =>
  some (M89_32, l1_32)))))
set_option maxRecDepth 100000 in
theorem zt_X11_strays_L2 {X : Zx} {p0 : Option Nat} {x : Zm × Int32} {y : Zm × Int32} (h : zwhile (zf_X11_strays_L2 p0) x = some y) (hy : zK_X11_strays_L2 X p0 y) : zP_X11_strays_L2 X p0 x := by
  refine zwhile_ind (P := zP_X11_strays_L2 X p0) (K := zK_X11_strays_L2 X p0) ?_ h hy
  intro x z hf k1 k2
  obtain ⟨M, l1⟩ := x
  have h : zf_X11_strays_L2 p0 (M, l1) = some z := hf
  unfold zf_X11_strays_L2 at h
  show zV X zC_X11_strays M 2 [(0, .inr (.inr p0)), (1, .inl l1)] []
  refine zV_b (pc' := 4) (lv' := [(0, .inr (.inr p0)), (1, .inl l1)]) (st' := [.inr (.inr p0), .inl l1]) [(.iload_n 1, 1), (.aload_n 0, 1)] (by decide +kernel) rfl ?_
  refine zV_gr (by decide +kernel) zfl_RX11_12 (by decide) rfl h (fun v1 _ h => ?_)
  refine zV_cvi (As := []) (st := [.inl l1]) (c := 0) (by decide +kernel) (zcl_Jx4a65c_size_8abf5 (by decide) (by decide)) ⟨zw_473, zw_474, zw_475⟩ ⟨⟨_, _, rfl⟩, by decide⟩ rfl rfl (Nat.le_of_ble_eq_true rfl) h (fun _ _ e => zc_Jx4a65c_size_8abf5 e) (fun M2 v2 _ h => ?_)
  refine zV_icmp_ge (off := 23) (tgt := 33) (by decide +kernel) (by decide) h (fun c3 h => ?_) (fun c3 h => ?_)
  · exact zV_lv (lv' := [(0, .inr (.inr p0))]) [0] rfl (k2 _ (Option.some.inj h).symm)
  · refine zV_b (pc' := 14) (lv' := [(0, .inr (.inr p0)), (1, .inl l1)]) (st' := [.inr (.inr p0)]) [(.aload_n 0, 1)] (by decide +kernel) rfl ?_
    refine zV_gr (by decide +kernel) zfl_RX11_12 (by decide) rfl h (fun v4 _ h => ?_)
    refine zV_b (pc' := 18) (lv' := [(0, .inr (.inr p0)), (1, .inl l1)]) (st' := [.inl l1, .inr (.inr v4)]) [(.iload_n 1, 1)] (by decide +kernel) rfl ?_
    refine zV_cvr (As := [.inl l1]) (st := []) (c := 0) (by decide +kernel) (zcl_Jx4a65c_get_915e3 (by decide) (by decide)) ⟨zw_670, zw_671, zw_672⟩ ⟨⟨_, _, rfl⟩, by decide⟩ rfl rfl (Nat.le_of_ble_eq_true rfl) h (fun _ _ e => zc_Jx4a65c_get_915e3 e) (fun M5 v5 _ h => ?_)
    refine zV_cc (by decide +kernel) zck_RX11_156 h (fun _ _ h => ?_)
    refine zV_cvv (As := []) (st := []) (c := 1) (by decide +kernel) (zcl_X0_loseSight (by decide) (by decide)) ⟨zw_1340, zw_1341, zw_1342⟩ ⟨⟨_, _, rfl⟩, by decide⟩ rfl rfl (Nat.le_of_ble_eq_true rfl) h (fun _ _ e => zc_X0_loseSight e) (fun M7 _ _ h => ?_)
    refine zV_b (pc' := 30) (lv' := [(1, .inl (l1 + 1)), (0, .inr (.inr p0))]) (st' := []) [(.iinc 1 1, 3)] (by decide +kernel) rfl ?_
    refine zV_goto (off := (-28)) (tgt := 2) (by decide +kernel) (by decide) ?_
    exact zV_lv (lv' := [(0, .inr (.inr p0)), (1, .inl (l1 + 1))]) [1, 0] rfl (k1 _ (Option.some.inj h).symm)
set_option maxRecDepth 100000 in
theorem zt_X11_strays_L35 {X : Zx} {p0 : Option Nat} {x : Zm × Int32} {y : Zm × Int32} (h : zwhile (zf_X11_strays_L35 p0) x = some y) (hy : zK_X11_strays_L35 X p0 y) : zP_X11_strays_L35 X p0 x := by
  refine zwhile_ind (P := zP_X11_strays_L35 X p0) (K := zK_X11_strays_L35 X p0) ?_ h hy
  intro x z hf k1 k2
  obtain ⟨M, l1⟩ := x
  have h : zf_X11_strays_L35 p0 (M, l1) = some z := hf
  unfold zf_X11_strays_L35 at h
  show zV X zC_X11_strays M 35 [(0, .inr (.inr p0)), (1, .inl l1)] []
  refine zV_b (pc' := 38) (lv' := [(0, .inr (.inr p0)), (1, .inl l1)]) (st' := [.inl (20 : Int32), .inl l1]) [(.iload_n 1, 1), (.bipush 20, 2)] (by decide +kernel) rfl ?_
  refine zV_icmp_ge (off := 14) (tgt := 52) (by decide +kernel) (by decide) h (fun c10 h => ?_) (fun c10 h => ?_)
  · exact zV_lv (lv' := [(0, .inr (.inr p0))]) [0] rfl (k2 _ (Option.some.inj h).symm)
  · refine zV_b (pc' := 43) (lv' := [(0, .inr (.inr p0)), (1, .inl l1)]) (st' := [.inl l1, .inr (.inr p0)]) [(.aload_n 0, 1), (.iload_n 1, 1)] (by decide +kernel) rfl ?_
    refine zV_cvv (As := [.inl l1]) (st := []) (c := 12) (by decide +kernel) (zcl_X11_seeRow (by decide) (by decide)) ⟨zw_1344, zw_1346, zw_57⟩ ⟨⟨_, _, rfl⟩, by decide⟩ rfl rfl (Nat.le_of_ble_eq_true rfl) h (fun _ _ e => zc_X11_seeRow e) (fun M11 _ _ h => ?_)
    refine zV_b (pc' := 49) (lv' := [(1, .inl (l1 + 1)), (0, .inr (.inr p0))]) (st' := []) [(.iinc 1 1, 3)] (by decide +kernel) rfl ?_
    refine zV_goto (off := (-14)) (tgt := 35) (by decide +kernel) (by decide) ?_
    exact zV_lv (lv' := [(0, .inr (.inr p0)), (1, .inl (l1 + 1))]) [1, 0] rfl (k1 _ (Option.some.inj h).symm)
set_option maxRecDepth 100000 in
theorem zt_X11_strays_L54 {X : Zx} {p0 : Option Nat} {x : Zm × Int32} {y : Zm × Int32} (h : zwhile (zf_X11_strays_L54 p0) x = some y) (hy : zK_X11_strays_L54 X p0 y) : zP_X11_strays_L54 X p0 x := by
  refine zwhile_ind (P := zP_X11_strays_L54 X p0) (K := zK_X11_strays_L54 X p0) ?_ h hy
  intro x z hf k1 k2
  obtain ⟨M, l1⟩ := x
  have h : zf_X11_strays_L54 p0 (M, l1) = some z := hf
  unfold zf_X11_strays_L54 at h
  show zV X zC_X11_strays M 54 [(0, .inr (.inr p0)), (1, .inl l1)] []
  refine zV_b (pc' := 56) (lv' := [(0, .inr (.inr p0)), (1, .inl l1)]) (st' := [.inr (.inr p0), .inl l1]) [(.iload_n 1, 1), (.aload_n 0, 1)] (by decide +kernel) rfl ?_
  refine zV_gr (by decide +kernel) zfl_RX11_12 (by decide) rfl h (fun v14 _ h => ?_)
  refine zV_cvi (As := []) (st := [.inl l1]) (c := 0) (by decide +kernel) (zcl_Jx4a65c_size_8abf5 (by decide) (by decide)) ⟨zw_473, zw_474, zw_475⟩ ⟨⟨_, _, rfl⟩, by decide⟩ rfl rfl (Nat.le_of_ble_eq_true rfl) h (fun _ _ e => zc_Jx4a65c_size_8abf5 e) (fun M15 v15 _ h => ?_)
  refine zV_icmp_ge (off := 23) (tgt := 85) (by decide +kernel) (by decide) h (fun c16 h => ?_) (fun c16 h => ?_)
  · exact zV_lv (lv' := [(0, .inr (.inr p0))]) [0] rfl (k2 _ (Option.some.inj h).symm)
  · refine zV_b (pc' := 66) (lv' := [(0, .inr (.inr p0)), (1, .inl l1)]) (st' := [.inr (.inr p0)]) [(.aload_n 0, 1)] (by decide +kernel) rfl ?_
    refine zV_gr (by decide +kernel) zfl_RX11_12 (by decide) rfl h (fun v17 _ h => ?_)
    refine zV_b (pc' := 70) (lv' := [(0, .inr (.inr p0)), (1, .inl l1)]) (st' := [.inl l1, .inr (.inr v17)]) [(.iload_n 1, 1)] (by decide +kernel) rfl ?_
    refine zV_cvr (As := [.inl l1]) (st := []) (c := 0) (by decide +kernel) (zcl_Jx4a65c_get_915e3 (by decide) (by decide)) ⟨zw_670, zw_671, zw_672⟩ ⟨⟨_, _, rfl⟩, by decide⟩ rfl rfl (Nat.le_of_ble_eq_true rfl) h (fun _ _ e => zc_Jx4a65c_get_915e3 e) (fun M18 v18 _ h => ?_)
    refine zV_cc (by decide +kernel) zck_RX11_156 h (fun _ _ h => ?_)
    refine zV_cvv (As := []) (st := []) (c := 1) (by decide +kernel) (zcl_X0_seeMembers (by decide) (by decide)) ⟨zw_1352, zw_1353, zw_1354⟩ ⟨⟨_, _, rfl⟩, by decide⟩ rfl rfl (Nat.le_of_ble_eq_true rfl) h (fun _ _ e => zc_X0_seeMembers e) (fun M20 _ _ h => ?_)
    refine zV_b (pc' := 82) (lv' := [(1, .inl (l1 + 1)), (0, .inr (.inr p0))]) (st' := []) [(.iinc 1 1, 3)] (by decide +kernel) rfl ?_
    refine zV_goto (off := (-28)) (tgt := 54) (by decide +kernel) (by decide) ?_
    exact zV_lv (lv' := [(0, .inr (.inr p0)), (1, .inl (l1 + 1))]) [1, 0] rfl (k1 _ (Option.some.inj h).symm)
set_option maxRecDepth 100000 in
theorem zt_X11_strays_J120 {X : Zx} {M : Zm} {p0 : Option Nat} {l1 : Int32} {l2 : Int32} {z : (Zm × Int32 × Int32) ⊕ (Zm × Int32 × Int32)} (h : zf_X11_strays_J120 M p0 l1 l2 = some z) (k1 : ∀ x' : Zm × Int32 × Int32, z = .inl x' → zP_X11_strays_L89 X p0 x') (k2 : ∀ y : Zm × Int32 × Int32, z = .inr y → zK_X11_strays_L89 X p0 y) : zV X zC_X11_strays M 120 [(0, .inr (.inr p0)), (1, .inl l1), (2, .inl l2)] [] := by
  unfold zf_X11_strays_J120 at h
  refine zV_b (pc' := 123) (lv' := [(2, .inl (l2 + 1)), (0, .inr (.inr p0)), (1, .inl l1)]) (st' := []) [(.iinc 2 1, 3)] (by decide +kernel) rfl ?_
  refine zV_goto (off := (-34)) (tgt := 89) (by decide +kernel) (by decide) ?_
  exact zV_lv (lv' := [(0, .inr (.inr p0)), (1, .inl l1), (2, .inl (l2 + 1))]) [1, 2, 0] rfl (k1 _ (Option.some.inj h).symm)
set_option maxRecDepth 100000 in
theorem zt_X11_strays_L89 {X : Zx} {p0 : Option Nat} {x : Zm × Int32 × Int32} {y : Zm × Int32 × Int32} (h : zwhile (zf_X11_strays_L89 p0) x = some y) (hy : zK_X11_strays_L89 X p0 y) : zP_X11_strays_L89 X p0 x := by
  refine zwhile_ind (P := zP_X11_strays_L89 X p0) (K := zK_X11_strays_L89 X p0) ?_ h hy
  intro x z hf k1 k2
  obtain ⟨M, l1, l2⟩ := x
  have h : zf_X11_strays_L89 p0 (M, l1, l2) = some z := hf
  unfold zf_X11_strays_L89 at h
  show zV X zC_X11_strays M 89 [(0, .inr (.inr p0)), (1, .inl l1), (2, .inl l2)] []
  refine zV_b (pc' := 91) (lv' := [(0, .inr (.inr p0)), (1, .inl l1), (2, .inl l2)]) (st' := [.inr (.inr p0), .inl l2]) [(.iload_n 2, 1), (.aload_n 0, 1)] (by decide +kernel) rfl ?_
  refine zV_gr (by decide +kernel) zfl_RX11_12 (by decide) rfl h (fun v23 _ h => ?_)
  refine zV_cvi (As := []) (st := [.inl l2]) (c := 0) (by decide +kernel) (zcl_Jx4a65c_size_8abf5 (by decide) (by decide)) ⟨zw_473, zw_474, zw_475⟩ ⟨⟨_, _, rfl⟩, by decide⟩ rfl rfl (Nat.le_of_ble_eq_true rfl) h (fun _ _ e => zc_Jx4a65c_size_8abf5 e) (fun M24 v24 _ h => ?_)
  refine zV_icmp_ge (off := 29) (tgt := 126) (by decide +kernel) (by decide) h (fun c25 h => ?_) (fun c25 h => ?_)
  · exact zV_lv (lv' := [(1, .inl l1)]) [1] rfl (k2 _ (Option.some.inj h).symm)
  · refine zV_b (pc' := 101) (lv' := [(0, .inr (.inr p0)), (1, .inl l1), (2, .inl l2)]) (st' := [.inr (.inr p0)]) [(.aload_n 0, 1)] (by decide +kernel) rfl ?_
    refine zV_gr (by decide +kernel) zfl_RX11_12 (by decide) rfl h (fun v26 _ h => ?_)
    refine zV_b (pc' := 105) (lv' := [(0, .inr (.inr p0)), (1, .inl l1), (2, .inl l2)]) (st' := [.inl l2, .inr (.inr v26)]) [(.iload_n 2, 1)] (by decide +kernel) rfl ?_
    refine zV_cvr (As := [.inl l2]) (st := []) (c := 0) (by decide +kernel) (zcl_Jx4a65c_get_915e3 (by decide) (by decide)) ⟨zw_670, zw_671, zw_672⟩ ⟨⟨_, _, rfl⟩, by decide⟩ rfl rfl (Nat.le_of_ble_eq_true rfl) h (fun _ _ e => zc_Jx4a65c_get_915e3 e) (fun M27 v27 _ h => ?_)
    refine zV_cc (by decide +kernel) zck_RX11_156 h (fun _ _ h => ?_)
    refine zV_cvi (As := []) (st := []) (c := 1) (by decide +kernel) (zcl_X0_isStray (by decide) (by decide)) ⟨zw_1357, zw_1358, zw_1359⟩ ⟨⟨_, _, rfl⟩, by decide⟩ rfl rfl (Nat.le_of_ble_eq_true rfl) h (fun _ _ e => zc_X0_isStray e) (fun M29 v29 _ h => ?_)
    refine zV_if_eq (off := 6) (tgt := 120) (by decide +kernel) (by decide) h (fun c30 h => ?_) (fun c30 h => ?_)
    · exact zV_lv (lv' := [(0, .inr (.inr p0)), (1, .inl l1), (2, .inl l2)]) [0, 1, 2] rfl (zt_X11_strays_J120 h k1 k2)
    · refine zV_b (pc' := 120) (lv' := [(1, .inl (l1 + 1)), (0, .inr (.inr p0)), (2, .inl l2)]) (st' := []) [(.iinc 1 1, 3)] (by decide +kernel) rfl ?_
      exact zV_lv (lv' := [(0, .inr (.inr p0)), (1, .inl (l1 + 1)), (2, .inl l2)]) [1, 0, 2] rfl (zt_X11_strays_J120 h k1 k2)
set_option maxRecDepth 100000 in
theorem zt_X11_strays {X : Zx} {M : Zm} {l0 : Option Nat} {z : Zm × Int32} (h : zf_X11_strays M l0 = some z) (hR : zRi X zC_X11_strays z.1 z.2) : zV X zC_X11_strays M 0 [(0, .inr (.inr l0))] [] := by
  unfold zf_X11_strays at h
  refine zV_b (pc' := 2) (lv' := [(1, .inl (0 : Int32)), (0, .inr (.inr l0))]) (st' := []) [(.iconst 0, 1), (.istore_n 1, 1)] (by decide +kernel) rfl ?_
  obtain ⟨y9, e9, h⟩ := zb1_inv h
  refine zV_lv (lv' := [(0, .inr (.inr l0)), (1, .inl (0 : Int32))]) [1, 0] rfl (zt_X11_strays_L2 e9 ?_)
  obtain ⟨M2_9, l1_9⟩ := y9
  show zV X zC_X11_strays M2_9 33 [(0, .inr (.inr l0))] []
  refine zV_b (pc' := 35) (lv' := [(1, .inl (0 : Int32)), (0, .inr (.inr l0))]) (st' := []) [(.iconst 0, 1), (.istore_n 1, 1)] (by decide +kernel) rfl ?_
  obtain ⟨y13, e13, h⟩ := zb1_inv h
  refine zV_lv (lv' := [(0, .inr (.inr l0)), (1, .inl (0 : Int32))]) [1, 0] rfl (zt_X11_strays_L35 e13 ?_)
  obtain ⟨M35_13, l1_13⟩ := y13
  show zV X zC_X11_strays M35_13 52 [(0, .inr (.inr l0))] []
  refine zV_b (pc' := 54) (lv' := [(1, .inl (0 : Int32)), (0, .inr (.inr l0))]) (st' := []) [(.iconst 0, 1), (.istore_n 1, 1)] (by decide +kernel) rfl ?_
  obtain ⟨y22, e22, h⟩ := zb1_inv h
  refine zV_lv (lv' := [(0, .inr (.inr l0)), (1, .inl (0 : Int32))]) [1, 0] rfl (zt_X11_strays_L54 e22 ?_)
  obtain ⟨M54_22, l1_22⟩ := y22
  show zV X zC_X11_strays M54_22 85 [(0, .inr (.inr l0))] []
  refine zV_b (pc' := 89) (lv' := [(2, .inl (0 : Int32)), (1, .inl (0 : Int32)), (0, .inr (.inr l0))]) (st' := []) [(.iconst 0, 1), (.istore_n 1, 1), (.iconst 0, 1), (.istore_n 2, 1)] (by decide +kernel) rfl ?_
  obtain ⟨y32, e32, h⟩ := zb1_inv h
  refine zV_lv (lv' := [(0, .inr (.inr l0)), (1, .inl (0 : Int32)), (2, .inl (0 : Int32))]) [2, 1, 0] rfl (zt_X11_strays_L89 e32 ?_)
  obtain ⟨M89_32, l1_32, l2_32⟩ := y32
  show zV X zC_X11_strays M89_32 126 [(1, .inl l1_32)] []
  refine zV_b (pc' := 127) (lv' := [(1, .inl l1_32)]) (st' := [.inl l1_32]) [(.iload_n 1, 1)] (by decide +kernel) rfl ?_
  exact zend_i h hR (by decide +kernel)
theorem zc_X11_strays {M M' : Zm} {l0 : Option Nat} {x : Int32} (h : zf_X11_strays M l0 = some (M', x)) (l : Launch) (D : va_G) (cy : Nat → ClassId) : zMet l yX11_strays zC_X11_strays (some .int) D cy [.inr (.inr l0)] M M' (some (.inl x)) :=
  zM_i (by decide) rfl (fun h => by cases h) (Nat.le_of_ble_eq_true rfl) (fun X hR => zt_X11_strays h hR)
-- BlendCellar.takeBack()J
def zC_X11_takeBack : Zc := (cX11_takeBack, 2, RX11, 4, 88, false)
theorem zcl_X11_takeBack {C : Zc} (h1 : zC_X11_takeBack.2.2.2.1 + 1 ≤ C.2.2.2.1) (h2 : 8 + (zC_X11_takeBack.2.1 + 11) + zC_X11_takeBack.2.2.2.2.1 ≤ C.2.2.2.2.1) : zCl C yX11_takeBack zC_X11_takeBack (some .long) 0 := ⟨zw_1255, zw_101, ⟨by decide, by decide⟩, by decide +kernel, h1, h2⟩
noncomputable def zf_X11_takeBack_L39 (p0 : Option Nat) (x : Zm × Int32) : Option ((Zm × Int32) ⊕ (Zm × Int32)) := match x with
  | (M, l1) =>
  zb1 (zo_gr M p0 12 11) (fun v12 =>
  zb1 (zo_gi M v12 2 1) (fun v13 =>
  (if l1 < v13 then
  some (.inr (M, l1))
  else
  zb1 (zo_gr M p0 12 0) (fun v15 =>
  zb1 (zo_rc M v15 0) (fun _ => zbd (zf_Jx4a65c_remove_915e3 M v15 l1) (fun M16 v16 =>
  some (.inl (M16, (l1 + (-1))))))))))
def zP_X11_takeBack_L39 (X : Zx) (p0 : Option Nat) (x : Zm × Int32) : Prop := match x with
  | (M, l1) => zV X zC_X11_takeBack M 39 [(0, .inr (.inr p0)), (1, .inl l1)] []
def zK_X11_takeBack_L39 (X : Zx) (p0 : Option Nat) (y : Zm × Int32) : Prop := match y with
  | (M, l1) => zV X zC_X11_takeBack M 65 [(0, .inr (.inr p0))] []
noncomputable def zf_X11_takeBack_J116 (M : Zm) (l0 : Option Nat) : Option (Zm × Int64) :=
  zb1 (zo_gr M l0 12 11) (fun v27 =>
  zb1 (zo_gi M v27 2 2) (fun v28 =>
  zb1 (zo_pi M l0 12 14 v28) (fun M29 =>
  zb1 (zo_gr M29 l0 12 8) (fun v30 =>
  zb1 (zo_gr M29 l0 12 11) (fun v31 =>
  zb1 (zo_gi M29 v31 2 3) (fun v32 =>
  zb1 (zo_rc M29 v30 5) (fun _ => zbd (zf_X4_cutTo M29 v30 v32) (fun M33 _ =>
  zb1 (zo_gr M33 l0 12 9) (fun v34 =>
  zb1 (zo_gr M33 l0 12 11) (fun v35 =>
  zb1 (zo_gi M33 v35 2 4) (fun v36 =>
  zb1 (zo_rc M33 v34 5) (fun _ => zbd (zf_X4_cutTo M33 v34 v36) (fun M37 _ =>
  zb1 (zo_gr M37 l0 12 3) (fun v38 =>
  zb1 (zo_rc M37 v38 6) (fun _ => zbd (zf_X5_clear M37 v38) (fun M39 _ =>
  some (M39, (1 : Int64))))))))))))))))))
noncomputable def zf_X11_takeBack (M : Zm) (l0 : Option Nat) : Option (Zm × Int64) :=
  zb1 (zo_gr M l0 12 11) (fun v1 =>
  zb1 (zo_gi M v1 2 0) (fun v2 =>
  (if v2 = 0 then
  some (M, (-14 : Int64))
  else
  zb1 (zo_gr M l0 12 11) (fun v6 =>
  zb1 (zo_pz M v6 2 0 (0 : Int32)) (fun M7 =>
  zb1 (zo_gr M7 l0 12 11) (fun v8 =>
  zb1 (zo_rc M7 v8 2) (fun _ => zbd (zf_X1_restoreBarrels M7 v8) (fun M9 _ =>
  zb1 (zo_gr M9 l0 12 0) (fun v10 =>
  zb1 (zo_rc M9 v10 0) (fun _ => zbd (zf_Jx4a65c_size_8abf5 M9 v10) (fun M11 v11 =>
  zb1 (zwhile (zf_X11_takeBack_L39 l0) (M11, (v11 - (1 : Int32)))) (fun y18 => match y18 with
  | (M39_18, l1_18) =>
  zb1 (zo_gr M39_18 l0 12 11) (fun v19 =>
  zb1 (zo_gi M39_18 v19 2 5) (fun v20 =>
  zb1 (zo_gr M39_18 l0 12 11) (fun v21 =>
  zb1 (zo_gi M39_18 v21 2 6) (fun v22 =>
  zb1 (zo_rc M39_18 l0 12) (fun _ => zbd (zf_X11_restorePlace M39_18 l0 v20 v22) (fun M23 _ =>
  zb1 (zo_gr M23 l0 12 11) (fun v24 =>
  zb1 (zo_gi M23 v24 2 8) (fun v25 =>
  (if v25 = (-1 : Int32) then
  zf_X11_takeBack_J116 M23 l0
  else
  zb1 (zo_gr M23 l0 12 6) (fun v41 =>
  zb1 (zo_gr M23 l0 12 11) (fun v42 =>
  zb1 (zo_gi M23 v42 2 8) (fun v43 =>
  zb1 (zo_ar M23 18 v41 v43) (fun v44 =>
  zb1 (zo_gr M23 l0 12 11) (fun v45 =>
  zb1 (zo_gr M23 v45 2 9) (fun v46 =>
  zb1 (zo_rc M23 v44 11) (fun _ => zbd (zf_X10_copyFrom M23 v44 v46) (fun M47 _ =>
  zf_X11_takeBack_J116 M47 l0)))))))))))))))))))))))))))))
set_option maxRecDepth 100000 in
theorem zt_X11_takeBack_L39 {X : Zx} {p0 : Option Nat} {x : Zm × Int32} {y : Zm × Int32} (h : zwhile (zf_X11_takeBack_L39 p0) x = some y) (hy : zK_X11_takeBack_L39 X p0 y) : zP_X11_takeBack_L39 X p0 x := by
  refine zwhile_ind (P := zP_X11_takeBack_L39 X p0) (K := zK_X11_takeBack_L39 X p0) ?_ h hy
  intro x z hf k1 k2
  obtain ⟨M, l1⟩ := x
  have h : zf_X11_takeBack_L39 p0 (M, l1) = some z := hf
  unfold zf_X11_takeBack_L39 at h
  show zV X zC_X11_takeBack M 39 [(0, .inr (.inr p0)), (1, .inl l1)] []
  refine zV_b (pc' := 41) (lv' := [(0, .inr (.inr p0)), (1, .inl l1)]) (st' := [.inr (.inr p0), .inl l1]) [(.iload_n 1, 1), (.aload_n 0, 1)] (by decide +kernel) rfl ?_
  refine zV_gr (by decide +kernel) zfl_RX11_79 (by decide) rfl h (fun v12 _ h => ?_)
  refine zV_gi (by decide +kernel) zfl_RX11_528 (by decide) rfl (Or.inl rfl) h (fun v13 _ h => ?_)
  refine zV_icmp_lt (off := 18) (tgt := 65) (by decide +kernel) (by decide) h (fun c14 h => ?_) (fun c14 h => ?_)
  · exact zV_lv (lv' := [(0, .inr (.inr p0))]) [0] rfl (k2 _ (Option.some.inj h).symm)
  · refine zV_b (pc' := 51) (lv' := [(0, .inr (.inr p0)), (1, .inl l1)]) (st' := [.inr (.inr p0)]) [(.aload_n 0, 1)] (by decide +kernel) rfl ?_
    refine zV_gr (by decide +kernel) zfl_RX11_12 (by decide) rfl h (fun v15 _ h => ?_)
    refine zV_b (pc' := 55) (lv' := [(0, .inr (.inr p0)), (1, .inl l1)]) (st' := [.inl l1, .inr (.inr v15)]) [(.iload_n 1, 1)] (by decide +kernel) rfl ?_
    refine zV_cvr (As := [.inl l1]) (st := []) (c := 0) (by decide +kernel) (zcl_Jx4a65c_remove_915e3 (by decide) (by decide)) ⟨zw_1267, zw_1268, zw_1269⟩ ⟨⟨_, _, rfl⟩, by decide⟩ rfl rfl (Nat.le_of_ble_eq_true rfl) h (fun _ _ e => zc_Jx4a65c_remove_915e3 e) (fun M16 v16 _ h => ?_)
    refine zV_b (pc' := 62) (lv' := [(1, .inl (l1 + (-1))), (0, .inr (.inr p0))]) (st' := []) [(.pop, 1), (.iinc 1 (-1), 3)] (by decide +kernel) rfl ?_
    refine zV_goto (off := (-23)) (tgt := 39) (by decide +kernel) (by decide) ?_
    exact zV_lv (lv' := [(0, .inr (.inr p0)), (1, .inl (l1 + (-1)))]) [1, 0] rfl (k1 _ (Option.some.inj h).symm)
set_option maxRecDepth 100000 in
theorem zt_X11_takeBack_J116 {X : Zx} {M : Zm} {l0 : Option Nat} {z : Zm × Int64} (h : zf_X11_takeBack_J116 M l0 = some z) (hR : zRj X zC_X11_takeBack z.1 z.2) : zV X zC_X11_takeBack M 116 [(0, .inr (.inr l0))] [] := by
  unfold zf_X11_takeBack_J116 at h
  refine zV_b (pc' := 118) (lv' := [(0, .inr (.inr l0))]) (st' := [.inr (.inr l0), .inr (.inr l0)]) [(.aload_n 0, 1), (.aload_n 0, 1)] (by decide +kernel) rfl ?_
  refine zV_gr (by decide +kernel) zfl_RX11_79 (by decide) rfl h (fun v27 _ h => ?_)
  refine zV_gi (by decide +kernel) zfl_RX11_551 (by decide) rfl (Or.inl rfl) h (fun v28 _ h => ?_)
  refine zV_pi (by decide +kernel) zfp_RX11_93 (by decide) rfl h (fun M29 _ h => ?_)
  refine zV_b (pc' := 128) (lv' := [(0, .inr (.inr l0))]) (st' := [.inr (.inr l0)]) [(.aload_n 0, 1)] (by decide +kernel) rfl ?_
  refine zV_gr (by decide +kernel) zfl_RX11_62 (by decide) rfl h (fun v30 _ h => ?_)
  refine zV_b (pc' := 132) (lv' := [(0, .inr (.inr l0))]) (st' := [.inr (.inr l0), .inr (.inr v30)]) [(.aload_n 0, 1)] (by decide +kernel) rfl ?_
  refine zV_gr (by decide +kernel) zfl_RX11_79 (by decide) rfl h (fun v31 _ h => ?_)
  refine zV_gi (by decide +kernel) zfl_RX11_552 (by decide) rfl (Or.inl rfl) h (fun v32 _ h => ?_)
  refine zV_cvv (As := [.inl v32]) (st := []) (c := 5) (by decide +kernel) (zcl_X4_cutTo (by decide) (by decide)) ⟨zw_1281, zw_1282, zw_1283⟩ ⟨⟨_, _, rfl⟩, by decide⟩ rfl rfl (Nat.le_of_ble_eq_true rfl) h (fun _ _ e => zc_X4_cutTo e) (fun M33 _ _ h => ?_)
  refine zV_b (pc' := 142) (lv' := [(0, .inr (.inr l0))]) (st' := [.inr (.inr l0)]) [(.aload_n 0, 1)] (by decide +kernel) rfl ?_
  refine zV_gr (by decide +kernel) zfl_RX11_66 (by decide) rfl h (fun v34 _ h => ?_)
  refine zV_b (pc' := 146) (lv' := [(0, .inr (.inr l0))]) (st' := [.inr (.inr l0), .inr (.inr v34)]) [(.aload_n 0, 1)] (by decide +kernel) rfl ?_
  refine zV_gr (by decide +kernel) zfl_RX11_79 (by decide) rfl h (fun v35 _ h => ?_)
  refine zV_gi (by decide +kernel) zfl_RX11_558 (by decide) rfl (Or.inl rfl) h (fun v36 _ h => ?_)
  refine zV_cvv (As := [.inl v36]) (st := []) (c := 5) (by decide +kernel) (zcl_X4_cutTo (by decide) (by decide)) ⟨zw_1281, zw_1282, zw_1283⟩ ⟨⟨_, _, rfl⟩, by decide⟩ rfl rfl (Nat.le_of_ble_eq_true rfl) h (fun _ _ e => zc_X4_cutTo e) (fun M37 _ _ h => ?_)
  refine zV_b (pc' := 156) (lv' := [(0, .inr (.inr l0))]) (st' := [.inr (.inr l0)]) [(.aload_n 0, 1)] (by decide +kernel) rfl ?_
  refine zV_gr (by decide +kernel) zfl_RX11_28 (by decide) rfl h (fun v38 _ h => ?_)
  refine zV_cvv (As := []) (st := []) (c := 6) (by decide +kernel) (zcl_X5_clear (by decide) (by decide)) ⟨zw_960, zw_961, zw_962⟩ ⟨⟨_, _, rfl⟩, by decide⟩ rfl rfl (Nat.le_of_ble_eq_true rfl) h (fun _ _ e => zc_X5_clear e) (fun M39 _ _ h => ?_)
  refine zV_b (pc' := 163) (lv' := [(0, .inr (.inr l0))]) (st' := [.inr (.inl (1 : Int64))]) [(.lconst 1, 1)] (by decide +kernel) rfl ?_
  exact zend_j h hR (by decide +kernel)
set_option maxRecDepth 100000 in
theorem zt_X11_takeBack {X : Zx} {M : Zm} {l0 : Option Nat} {z : Zm × Int64} (h : zf_X11_takeBack M l0 = some z) (hR : zRj X zC_X11_takeBack z.1 z.2) : zV X zC_X11_takeBack M 0 [(0, .inr (.inr l0))] [] := by
  unfold zf_X11_takeBack at h
  refine zV_b (pc' := 1) (lv' := [(0, .inr (.inr l0))]) (st' := [.inr (.inr l0)]) [(.aload_n 0, 1)] (by decide +kernel) rfl ?_
  refine zV_gr (by decide +kernel) zfl_RX11_79 (by decide) rfl h (fun v1 _ h => ?_)
  refine zV_gi (by decide +kernel) zfl_RX11_522 (by decide) rfl (Or.inr rfl) h (fun v2 _ h => ?_)
  refine zV_if_ne (off := 7) (tgt := 14) (by decide +kernel) (by decide) h (fun c3 h => ?_) (fun c3 h => ?_)
  · refine zV_ldc2 (by decide +kernel) zw_1243 ?_
    exact zend_j h hR (by decide +kernel)
  · refine zV_b (pc' := 15) (lv' := [(0, .inr (.inr l0))]) (st' := [.inr (.inr l0)]) [(.aload_n 0, 1)] (by decide +kernel) rfl ?_
    refine zV_gr (by decide +kernel) zfl_RX11_79 (by decide) rfl h (fun v6 _ h => ?_)
    refine zV_b (pc' := 19) (lv' := [(0, .inr (.inr l0))]) (st' := [.inl (0 : Int32), .inr (.inr v6)]) [(.iconst 0, 1)] (by decide +kernel) rfl ?_
    refine zV_pz (by decide +kernel) zfp_RX11_522 (by decide) rfl h (fun M7 _ h => ?_)
    refine zV_b (pc' := 23) (lv' := [(0, .inr (.inr l0))]) (st' := [.inr (.inr l0)]) [(.aload_n 0, 1)] (by decide +kernel) rfl ?_
    refine zV_gr (by decide +kernel) zfl_RX11_79 (by decide) rfl h (fun v8 _ h => ?_)
    refine zV_cvv (As := []) (st := []) (c := 2) (by decide +kernel) (zcl_X1_restoreBarrels (by decide) (by decide)) ⟨zw_1256, zw_1257, zw_1258⟩ ⟨⟨_, _, rfl⟩, by decide⟩ rfl rfl (Nat.le_of_ble_eq_true rfl) h (fun _ _ e => zc_X1_restoreBarrels e) (fun M9 _ _ h => ?_)
    refine zV_b (pc' := 30) (lv' := [(0, .inr (.inr l0))]) (st' := [.inr (.inr l0)]) [(.aload_n 0, 1)] (by decide +kernel) rfl ?_
    refine zV_gr (by decide +kernel) zfl_RX11_12 (by decide) rfl h (fun v10 _ h => ?_)
    refine zV_cvi (As := []) (st := []) (c := 0) (by decide +kernel) (zcl_Jx4a65c_size_8abf5 (by decide) (by decide)) ⟨zw_473, zw_474, zw_475⟩ ⟨⟨_, _, rfl⟩, by decide⟩ rfl rfl (Nat.le_of_ble_eq_true rfl) h (fun _ _ e => zc_Jx4a65c_size_8abf5 e) (fun M11 v11 _ h => ?_)
    refine zV_b (pc' := 39) (lv' := [(1, .inl (v11 - (1 : Int32))), (0, .inr (.inr l0))]) (st' := []) [(.iconst 1, 1), (.isub, 1), (.istore_n 1, 1)] (by decide +kernel) rfl ?_
    obtain ⟨y18, e18, h⟩ := zb1_inv h
    refine zV_lv (lv' := [(0, .inr (.inr l0)), (1, .inl (v11 - (1 : Int32)))]) [1, 0] rfl (zt_X11_takeBack_L39 e18 ?_)
    obtain ⟨M39_18, l1_18⟩ := y18
    show zV X zC_X11_takeBack M39_18 65 [(0, .inr (.inr l0))] []
    refine zV_b (pc' := 67) (lv' := [(0, .inr (.inr l0))]) (st' := [.inr (.inr l0), .inr (.inr l0)]) [(.aload_n 0, 1), (.aload_n 0, 1)] (by decide +kernel) rfl ?_
    refine zV_gr (by decide +kernel) zfl_RX11_79 (by decide) rfl h (fun v19 _ h => ?_)
    refine zV_gi (by decide +kernel) zfl_RX11_534 (by decide) rfl (Or.inl rfl) h (fun v20 _ h => ?_)
    refine zV_b (pc' := 74) (lv' := [(0, .inr (.inr l0))]) (st' := [.inr (.inr l0), .inl v20, .inr (.inr l0)]) [(.aload_n 0, 1)] (by decide +kernel) rfl ?_
    refine zV_gr (by decide +kernel) zfl_RX11_79 (by decide) rfl h (fun v21 _ h => ?_)
    refine zV_gi (by decide +kernel) zfl_RX11_537 (by decide) rfl (Or.inl rfl) h (fun v22 _ h => ?_)
    refine zV_cvv (As := [.inl v20, .inl v22]) (st := []) (c := 12) (by decide +kernel) (zcl_X11_restorePlace (by decide) (by decide)) ⟨zw_1276, zw_1278, zw_56⟩ ⟨⟨_, _, rfl⟩, by decide⟩ rfl rfl (Nat.le_of_ble_eq_true rfl) h (fun _ _ e => zc_X11_restorePlace e) (fun M23 _ _ h => ?_)
    refine zV_b (pc' := 84) (lv' := [(0, .inr (.inr l0))]) (st' := [.inr (.inr l0)]) [(.aload_n 0, 1)] (by decide +kernel) rfl ?_
    refine zV_gr (by decide +kernel) zfl_RX11_79 (by decide) rfl h (fun v24 _ h => ?_)
    refine zV_gi (by decide +kernel) zfl_RX11_541 (by decide) rfl (Or.inl rfl) h (fun v25 _ h => ?_)
    refine zV_b (pc' := 91) (lv' := [(0, .inr (.inr l0))]) (st' := [.inl (-1 : Int32), .inl v25]) [(.iconst (-1), 1)] (by decide +kernel) rfl ?_
    refine zV_icmp_eq (off := 25) (tgt := 116) (by decide +kernel) (by decide) h (fun c26 h => ?_) (fun c26 h => ?_)
    · exact zV_lv (lv' := [(0, .inr (.inr l0))]) [0] rfl (zt_X11_takeBack_J116 h hR)
    · refine zV_b (pc' := 95) (lv' := [(0, .inr (.inr l0))]) (st' := [.inr (.inr l0)]) [(.aload_n 0, 1)] (by decide +kernel) rfl ?_
      refine zV_gr (by decide +kernel) zfl_RX11_50 (by decide) rfl h (fun v41 _ h => ?_)
      refine zV_b (pc' := 99) (lv' := [(0, .inr (.inr l0))]) (st' := [.inr (.inr l0), .inr (.inr v41)]) [(.aload_n 0, 1)] (by decide +kernel) rfl ?_
      refine zV_gr (by decide +kernel) zfl_RX11_79 (by decide) rfl h (fun v42 _ h => ?_)
      refine zV_gi (by decide +kernel) zfl_RX11_541 (by decide) rfl (Or.inl rfl) h (fun v43 _ h => ?_)
      refine zV_ar (by decide +kernel) (by decide) (by decide) h (fun v44 _ h => ?_)
      refine zV_b (pc' := 107) (lv' := [(0, .inr (.inr l0))]) (st' := [.inr (.inr l0), .inr (.inr v44)]) [(.aload_n 0, 1)] (by decide +kernel) rfl ?_
      refine zV_gr (by decide +kernel) zfl_RX11_79 (by decide) rfl h (fun v45 _ h => ?_)
      refine zV_gr (by decide +kernel) zfl_RX11_544 (by decide) rfl h (fun v46 _ h => ?_)
      refine zV_cvv (As := [.inr (.inr v46)]) (st := []) (c := 11) (by decide +kernel) (zcl_X10_copyFrom (by decide) (by decide)) ⟨zw_1280, zw_705, zw_706⟩ ⟨⟨_, _, rfl⟩, by decide⟩ rfl rfl (Nat.le_of_ble_eq_true rfl) h (fun _ _ e => zc_X10_copyFrom e) (fun M47 _ _ h => ?_)
      exact zV_lv (lv' := [(0, .inr (.inr l0))]) [0] rfl (zt_X11_takeBack_J116 h hR)
theorem zc_X11_takeBack {M M' : Zm} {l0 : Option Nat} {x : Int64} (h : zf_X11_takeBack M l0 = some (M', x)) (l : Launch) (D : va_G) (cy : Nat → ClassId) : zMet l yX11_takeBack zC_X11_takeBack (some .long) D cy [.inr (.inr l0)] M M' (some (.inr (.inl x))) :=
  zM_j (by decide) rfl (fun h => by cases h) (Nat.le_of_ble_eq_true rfl) (fun X hR => zt_X11_takeBack h hR)
-- BlendCellar.tellCents(II)J
def zC_X11_tellCents : Zc := (cX11_tellCents, 6, RX11, 8, 178, false)
theorem zcl_X11_tellCents {C : Zc} (h1 : zC_X11_tellCents.2.2.2.1 + 1 ≤ C.2.2.2.1) (h2 : 8 + (zC_X11_tellCents.2.1 + 11) + zC_X11_tellCents.2.2.2.2.1 ≤ C.2.2.2.2.1) : zCl C yX11_tellCents zC_X11_tellCents (some .long) 2 := ⟨zw_763, zw_101, ⟨by decide, by decide⟩, by decide +kernel, h1, h2⟩
noncomputable def zf_X11_tellCents (M : Zm) (l0 : Option Nat) (l1 : Int32) (l2 : Int32) : Option (Zm × Int64) :=
  zbd (zf_X11_isCents M l2) (fun M1 v1 =>
  (if v1 = 0 then
  some (M1, (-1 : Int64))
  else
  zb1 (zo_rc M1 l0 12) (fun _ => zbd (zf_X11_lookUp M1 l0 l1) (fun M5 v5 =>
  (if v5 = 0 then
  zb1 (zo_gr M5 l0 12 0) (fun v7 =>
  zb1 (zo_rc M5 v7 0) (fun _ => zbd (zf_Jx4a65c_get_915e3 M5 v7 l1) (fun M8 v8 =>
  zb1 (zo_cc M8 v8 1) (fun _ =>
  zb1 (zo_gi M8 v8 1 3) (fun v10 =>
  zb1 (zo_rc M8 l0 12) (fun _ => zbd (zf_X11_remember M8 l0) (fun M11 _ =>
  zb1 (zo_gr M11 l0 12 11) (fun v12 =>
  zb1 (zo_rc M11 v12 2) (fun _ => zbd (zf_X1_keepBarrel M11 v12 v8) (fun M13 _ =>
  zb1 (zo_pi M13 v8 1 3 l2) (fun M14 =>
  some (M14, (v10.toInt64)))))))))))))
  else
  some (M5, (((-v5)).toInt64)))))))
set_option maxRecDepth 100000 in
theorem zt_X11_tellCents {X : Zx} {M : Zm} {l0 : Option Nat} {l1 : Int32} {l2 : Int32} {z : Zm × Int64} (h : zf_X11_tellCents M l0 l1 l2 = some z) (hR : zRj X zC_X11_tellCents z.1 z.2) : zV X zC_X11_tellCents M 0 [(0, .inr (.inr l0)), (1, .inl l1), (2, .inl l2)] [] := by
  unfold zf_X11_tellCents at h
  refine zV_b (pc' := 1) (lv' := [(0, .inr (.inr l0)), (1, .inl l1), (2, .inl l2)]) (st' := [.inl l2]) [(.iload_n 2, 1)] (by decide +kernel) rfl ?_
  refine zV_csi (As := [.inl l2]) (st := []) (by decide +kernel) (zcl_X11_isCents (by decide) (by decide)) ⟨zw_522, zw_523⟩ rfl rfl (Nat.le_of_ble_eq_true rfl) h (fun _ _ e => zc_X11_isCents e) (fun M1 v1 _ h => ?_)
  refine zV_if_ne (off := 7) (tgt := 11) (by decide +kernel) (by decide) h (fun c2 h => ?_) (fun c2 h => ?_)
  · refine zV_ldc2 (by decide +kernel) zw_465 ?_
    exact zend_j h hR (by decide +kernel)
  · refine zV_b (pc' := 13) (lv' := [(0, .inr (.inr l0)), (1, .inl l1), (2, .inl l2)]) (st' := [.inl l1, .inr (.inr l0)]) [(.aload_n 0, 1), (.iload_n 1, 1)] (by decide +kernel) rfl ?_
    refine zV_cvi (As := [.inl l1]) (st := []) (c := 12) (by decide +kernel) (zcl_X11_lookUp (by decide) (by decide)) ⟨zw_666, zw_668, zw_10⟩ ⟨⟨_, _, rfl⟩, by decide⟩ rfl rfl (Nat.le_of_ble_eq_true rfl) h (fun _ _ e => zc_X11_lookUp e) (fun M5 v5 _ h => ?_)
    refine zV_b (pc' := 18) (lv' := [(3, .inl v5), (0, .inr (.inr l0)), (1, .inl l1), (2, .inl l2)]) (st' := [.inl v5]) [(.istore_n 3, 1), (.iload_n 3, 1)] (by decide +kernel) rfl ?_
    refine zV_if_eq (off := 7) (tgt := 25) (by decide +kernel) (by decide) h (fun c6 h => ?_) (fun c6 h => ?_)
    · refine zV_b (pc' := 26) (lv' := [(3, .inl v5), (0, .inr (.inr l0)), (1, .inl l1), (2, .inl l2)]) (st' := [.inr (.inr l0)]) [(.aload_n 0, 1)] (by decide +kernel) rfl ?_
      refine zV_gr (by decide +kernel) zfl_RX11_12 (by decide) rfl h (fun v7 _ h => ?_)
      refine zV_b (pc' := 30) (lv' := [(3, .inl v5), (0, .inr (.inr l0)), (1, .inl l1), (2, .inl l2)]) (st' := [.inl l1, .inr (.inr v7)]) [(.iload_n 1, 1)] (by decide +kernel) rfl ?_
      refine zV_cvr (As := [.inl l1]) (st := []) (c := 0) (by decide +kernel) (zcl_Jx4a65c_get_915e3 (by decide) (by decide)) ⟨zw_670, zw_671, zw_672⟩ ⟨⟨_, _, rfl⟩, by decide⟩ rfl rfl (Nat.le_of_ble_eq_true rfl) h (fun _ _ e => zc_Jx4a65c_get_915e3 e) (fun M8 v8 _ h => ?_)
      refine zV_cc (by decide +kernel) zck_RX11_156 h (fun _ _ h => ?_)
      refine zV_b (pc' := 40) (lv' := [(4, .inr (.inr v8)), (3, .inl v5), (0, .inr (.inr l0)), (1, .inl l1), (2, .inl l2)]) (st' := [.inr (.inr v8)]) [(.astore 4, 2), (.aload 4, 2)] (by decide +kernel) rfl ?_
      refine zV_gi (by decide +kernel) zfl_RX11_254 (by decide) rfl (Or.inl rfl) h (fun v10 _ h => ?_)
      refine zV_b (pc' := 46) (lv' := [(5, .inl v10), (4, .inr (.inr v8)), (3, .inl v5), (0, .inr (.inr l0)), (1, .inl l1), (2, .inl l2)]) (st' := [.inr (.inr l0)]) [(.istore 5, 2), (.aload_n 0, 1)] (by decide +kernel) rfl ?_
      refine zV_cvv (As := []) (st := []) (c := 12) (by decide +kernel) (zcl_X11_remember (by decide) (by decide)) ⟨zw_469, zw_471, zw_2⟩ ⟨⟨_, _, rfl⟩, by decide⟩ rfl rfl (Nat.le_of_ble_eq_true rfl) h (fun _ _ e => zc_X11_remember e) (fun M11 _ _ h => ?_)
      refine zV_b (pc' := 50) (lv' := [(5, .inl v10), (4, .inr (.inr v8)), (3, .inl v5), (0, .inr (.inr l0)), (1, .inl l1), (2, .inl l2)]) (st' := [.inr (.inr l0)]) [(.aload_n 0, 1)] (by decide +kernel) rfl ?_
      refine zV_gr (by decide +kernel) zfl_RX11_79 (by decide) rfl h (fun v12 _ h => ?_)
      refine zV_b (pc' := 55) (lv' := [(5, .inl v10), (4, .inr (.inr v8)), (3, .inl v5), (0, .inr (.inr l0)), (1, .inl l1), (2, .inl l2)]) (st' := [.inr (.inr v8), .inr (.inr v12)]) [(.aload 4, 2)] (by decide +kernel) rfl ?_
      refine zV_cvv (As := [.inr (.inr v8)]) (st := []) (c := 2) (by decide +kernel) (zcl_X1_keepBarrel (by decide) (by decide)) ⟨zw_696, zw_697, zw_698⟩ ⟨⟨_, _, rfl⟩, by decide⟩ rfl rfl (Nat.le_of_ble_eq_true rfl) h (fun _ _ e => zc_X1_keepBarrel e) (fun M13 _ _ h => ?_)
      refine zV_b (pc' := 61) (lv' := [(5, .inl v10), (4, .inr (.inr v8)), (3, .inl v5), (0, .inr (.inr l0)), (1, .inl l1), (2, .inl l2)]) (st' := [.inl l2, .inr (.inr v8)]) [(.aload 4, 2), (.iload_n 2, 1)] (by decide +kernel) rfl ?_
      refine zV_pi (by decide +kernel) zfp_RX11_254 (by decide) rfl h (fun M14 _ h => ?_)
      refine zV_b (pc' := 67) (lv' := [(5, .inl v10), (4, .inr (.inr v8)), (3, .inl v5), (0, .inr (.inr l0)), (1, .inl l1), (2, .inl l2)]) (st' := [.inr (.inl (v10.toInt64))]) [(.iload 5, 2), (.i2l, 1)] (by decide +kernel) rfl ?_
      exact zend_j h hR (by decide +kernel)
    · refine zV_b (pc' := 24) (lv' := [(3, .inl v5), (0, .inr (.inr l0)), (1, .inl l1), (2, .inl l2)]) (st' := [.inr (.inl (((-v5)).toInt64))]) [(.iload_n 3, 1), (.ineg, 1), (.i2l, 1)] (by decide +kernel) rfl ?_
      exact zend_j h hR (by decide +kernel)
theorem zc_X11_tellCents {M M' : Zm} {l0 : Option Nat} {l1 : Int32} {l2 : Int32} {x : Int64} (h : zf_X11_tellCents M l0 l1 l2 = some (M', x)) (l : Launch) (D : va_G) (cy : Nat → ClassId) : zMet l yX11_tellCents zC_X11_tellCents (some .long) D cy [.inr (.inr l0), .inl l1, .inl l2] M M' (some (.inr (.inl x))) :=
  zM_j (by decide) rfl (fun h => by cases h) (Nat.le_of_ble_eq_true rfl) (fun X hR => zt_X11_tellCents h hR)
