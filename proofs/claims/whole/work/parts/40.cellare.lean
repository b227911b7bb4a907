/-! What the bytecode does, as functions of the memory, and the walks (written by wip/gen.py). -/
-- BlendCellar.leaveCask(I)J
def zC_X11_leaveCask : Zc := (cX11_leaveCask, 5, RX11, 8, 178, false)
theorem zcl_X11_leaveCask {C : Zc} (h1 : zC_X11_leaveCask.2.2.2.1 + 1 ≤ C.2.2.2.1) (h2 : 8 + (zC_X11_leaveCask.2.1 + 11) + zC_X11_leaveCask.2.2.2.2.1 ≤ C.2.2.2.2.1) : zCl C yX11_leaveCask zC_X11_leaveCask (some .long) 1 := ⟨zw_721, zw_101, ⟨by decide, by decide⟩, by decide +kernel, h1, h2⟩
noncomputable def zf_X11_leaveCask (M : Zm) (l0 : Option Nat) (l1 : Int32) : Option (Zm × Int64) :=
  zb1 (zo_rc M l0 12) (fun _ => zbd (zf_X11_lookUpCask M l0 l1) (fun M1 v1 =>
  (if v1 = 0 then
  zb1 (zo_gr M1 l0 12 0) (fun v3 =>
  zb1 (zo_rc M1 v3 0) (fun _ => zbd (zf_Jx4a65c_get_915e3 M1 v3 l1) (fun M4 v4 =>
  zb1 (zo_cc M4 v4 1) (fun _ =>
  zb1 (zo_gi M4 v4 1 7) (fun v6 =>
  (if v6 = 0 then
  some (M4, (-3 : Int64))
  else
  zb1 (zo_gr M4 v4 1 6) (fun v10 =>
  zb1 (zo_gi M4 v4 1 7) (fun v11 =>
  zb1 (zo_ar M4 16 v10 (v11 - (1 : Int32))) (fun v12 =>
  zb1 (zo_rc M4 l0 12) (fun _ => zbd (zf_X11_remember M4 l0) (fun M13 _ =>
  zb1 (zo_gr M13 l0 12 11) (fun v14 =>
  zb1 (zo_rc M13 v14 2) (fun _ => zbd (zf_X1_keepBarrel M13 v14 v4) (fun M15 _ =>
  zb1 (zo_gr M15 l0 12 11) (fun v16 =>
  zb1 (zo_rc M15 v16 2) (fun _ => zbd (zf_X1_keepBarrel M15 v16 v12) (fun M17 _ =>
  zb1 (zo_gi M17 v4 1 7) (fun v18 =>
  zb1 (zo_pi M17 v4 1 7 (v18 - (1 : Int32))) (fun M19 =>
  zb1 (zo_pi M19 v12 1 4 (0 : Int32)) (fun M20 =>
  zb1 (zo_gi M20 v12 1 0) (fun v21 =>
  some (M20, (v21.toInt64)))))))))))))))))))))))
  else
  some (M1, (((-v1)).toInt64)))))
set_option maxRecDepth 100000 in
theorem zt_X11_leaveCask {X : Zx} {M : Zm} {l0 : Option Nat} {l1 : Int32} {z : Zm × Int64} (h : zf_X11_leaveCask M l0 l1 = some z) (hR : zRj X zC_X11_leaveCask z.1 z.2) : zV X zC_X11_leaveCask M 0 [(0, .inr (.inr l0)), (1, .inl l1)] [] := by
  unfold zf_X11_leaveCask at h
  refine zV_b (pc' := 2) (lv' := [(0, .inr (.inr l0)), (1, .inl l1)]) (st' := [.inl l1, .inr (.inr l0)]) [(.aload_n 0, 1), (.iload_n 1, 1)] (by decide +kernel) rfl ?_
  refine zV_cvi (As := [.inl l1]) (st := []) (c := 12) (by decide +kernel) (zcl_X11_lookUpCask (by decide) (by decide)) ⟨zw_662, zw_664, zw_9⟩ ⟨⟨_, _, rfl⟩, by decide⟩ rfl rfl (Nat.le_of_ble_eq_true rfl) h (fun _ _ e => zc_X11_lookUpCask e) (fun M1 v1 _ h => ?_)
  refine zV_b (pc' := 7) (lv' := [(2, .inl v1), (0, .inr (.inr l0)), (1, .inl l1)]) (st' := [.inl v1]) [(.istore_n 2, 1), (.iload_n 2, 1)] (by decide +kernel) rfl ?_
  refine zV_if_eq (off := 7) (tgt := 14) (by decide +kernel) (by decide) h (fun c2 h => ?_) (fun c2 h => ?_)
  · refine zV_b (pc' := 15) (lv' := [(2, .inl v1), (0, .inr (.inr l0)), (1, .inl l1)]) (st' := [.inr (.inr l0)]) [(.aload_n 0, 1)] (by decide +kernel) rfl ?_
    refine zV_gr (by decide +kernel) zfl_RX11_12 (by decide) rfl h (fun v3 _ h => ?_)
    refine zV_b (pc' := 19) (lv' := [(2, .inl v1), (0, .inr (.inr l0)), (1, .inl l1)]) (st' := [.inl l1, .inr (.inr v3)]) [(.iload_n 1, 1)] (by decide +kernel) rfl ?_
    refine zV_cvr (As := [.inl l1]) (st := []) (c := 0) (by decide +kernel) (zcl_Jx4a65c_get_915e3 (by decide) (by decide)) ⟨zw_670, zw_671, zw_672⟩ ⟨⟨_, _, rfl⟩, by decide⟩ rfl rfl (Nat.le_of_ble_eq_true rfl) h (fun _ _ e => zc_Jx4a65c_get_915e3 e) (fun M4 v4 _ h => ?_)
    refine zV_cc (by decide +kernel) zck_RX11_156 h (fun _ _ h => ?_)
    refine zV_b (pc' := 27) (lv' := [(3, .inr (.inr v4)), (2, .inl v1), (0, .inr (.inr l0)), (1, .inl l1)]) (st' := [.inr (.inr v4)]) [(.astore_n 3, 1), (.aload_n 3, 1)] (by decide +kernel) rfl ?_
    refine zV_gi (by decide +kernel) zfl_RX11_190 (by decide) rfl (Or.inl rfl) h (fun v6 _ h => ?_)
    refine zV_if_ne (off := 7) (tgt := 37) (by decide +kernel) (by decide) h (fun c7 h => ?_) (fun c7 h => ?_)
    · refine zV_ldc2 (by decide +kernel) zw_466 ?_
      exact zend_j h hR (by decide +kernel)
    · refine zV_b (pc' := 38) (lv' := [(3, .inr (.inr v4)), (2, .inl v1), (0, .inr (.inr l0)), (1, .inl l1)]) (st' := [.inr (.inr v4)]) [(.aload_n 3, 1)] (by decide +kernel) rfl ?_
      refine zV_gr (by decide +kernel) zfl_RX11_204 (by decide) rfl h (fun v10 _ h => ?_)
      refine zV_b (pc' := 42) (lv' := [(3, .inr (.inr v4)), (2, .inl v1), (0, .inr (.inr l0)), (1, .inl l1)]) (st' := [.inr (.inr v4), .inr (.inr v10)]) [(.aload_n 3, 1)] (by decide +kernel) rfl ?_
      refine zV_gi (by decide +kernel) zfl_RX11_190 (by decide) rfl (Or.inl rfl) h (fun v11 _ h => ?_)
      refine zV_b (pc' := 47) (lv' := [(3, .inr (.inr v4)), (2, .inl v1), (0, .inr (.inr l0)), (1, .inl l1)]) (st' := [.inl (v11 - (1 : Int32)), .inr (.inr v10)]) [(.iconst 1, 1), (.isub, 1)] (by decide +kernel) rfl ?_
      refine zV_ar (by decide +kernel) (by decide) (by decide) h (fun v12 _ h => ?_)
      refine zV_b (pc' := 51) (lv' := [(4, .inr (.inr v12)), (3, .inr (.inr v4)), (2, .inl v1), (0, .inr (.inr l0)), (1, .inl l1)]) (st' := [.inr (.inr l0)]) [(.astore 4, 2), (.aload_n 0, 1)] (by decide +kernel) rfl ?_
      refine zV_cvv (As := []) (st := []) (c := 12) (by decide +kernel) (zcl_X11_remember (by decide) (by decide)) ⟨zw_469, zw_471, zw_2⟩ ⟨⟨_, _, rfl⟩, by decide⟩ rfl rfl (Nat.le_of_ble_eq_true rfl) h (fun _ _ e => zc_X11_remember e) (fun M13 _ _ h => ?_)
      refine zV_b (pc' := 55) (lv' := [(4, .inr (.inr v12)), (3, .inr (.inr v4)), (2, .inl v1), (0, .inr (.inr l0)), (1, .inl l1)]) (st' := [.inr (.inr l0)]) [(.aload_n 0, 1)] (by decide +kernel) rfl ?_
      refine zV_gr (by decide +kernel) zfl_RX11_79 (by decide) rfl h (fun v14 _ h => ?_)
      refine zV_b (pc' := 59) (lv' := [(4, .inr (.inr v12)), (3, .inr (.inr v4)), (2, .inl v1), (0, .inr (.inr l0)), (1, .inl l1)]) (st' := [.inr (.inr v4), .inr (.inr v14)]) [(.aload_n 3, 1)] (by decide +kernel) rfl ?_
      refine zV_cvv (As := [.inr (.inr v4)]) (st := []) (c := 2) (by decide +kernel) (zcl_X1_keepBarrel (by decide) (by decide)) ⟨zw_696, zw_697, zw_698⟩ ⟨⟨_, _, rfl⟩, by decide⟩ rfl rfl (Nat.le_of_ble_eq_true rfl) h (fun _ _ e => zc_X1_keepBarrel e) (fun M15 _ _ h => ?_)
      refine zV_b (pc' := 63) (lv' := [(4, .inr (.inr v12)), (3, .inr (.inr v4)), (2, .inl v1), (0, .inr (.inr l0)), (1, .inl l1)]) (st' := [.inr (.inr l0)]) [(.aload_n 0, 1)] (by decide +kernel) rfl ?_
      refine zV_gr (by decide +kernel) zfl_RX11_79 (by decide) rfl h (fun v16 _ h => ?_)
      refine zV_b (pc' := 68) (lv' := [(4, .inr (.inr v12)), (3, .inr (.inr v4)), (2, .inl v1), (0, .inr (.inr l0)), (1, .inl l1)]) (st' := [.inr (.inr v12), .inr (.inr v16)]) [(.aload 4, 2)] (by decide +kernel) rfl ?_
      refine zV_cvv (As := [.inr (.inr v12)]) (st := []) (c := 2) (by decide +kernel) (zcl_X1_keepBarrel (by decide) (by decide)) ⟨zw_696, zw_697, zw_698⟩ ⟨⟨_, _, rfl⟩, by decide⟩ rfl rfl (Nat.le_of_ble_eq_true rfl) h (fun _ _ e => zc_X1_keepBarrel e) (fun M17 _ _ h => ?_)
      refine zV_b (pc' := 73) (lv' := [(4, .inr (.inr v12)), (3, .inr (.inr v4)), (2, .inl v1), (0, .inr (.inr l0)), (1, .inl l1)]) (st' := [.inr (.inr v4), .inr (.inr v4)]) [(.aload_n 3, 1), (.dup, 1)] (by decide +kernel) rfl ?_
      refine zV_gi (by decide +kernel) zfl_RX11_190 (by decide) rfl (Or.inl rfl) h (fun v18 _ h => ?_)
      refine zV_b (pc' := 78) (lv' := [(4, .inr (.inr v12)), (3, .inr (.inr v4)), (2, .inl v1), (0, .inr (.inr l0)), (1, .inl l1)]) (st' := [.inl (v18 - (1 : Int32)), .inr (.inr v4)]) [(.iconst 1, 1), (.isub, 1)] (by decide +kernel) rfl ?_
      refine zV_pi (by decide +kernel) zfp_RX11_190 (by decide) rfl h (fun M19 _ h => ?_)
      refine zV_b (pc' := 84) (lv' := [(4, .inr (.inr v12)), (3, .inr (.inr v4)), (2, .inl v1), (0, .inr (.inr l0)), (1, .inl l1)]) (st' := [.inl (0 : Int32), .inr (.inr v12)]) [(.aload 4, 2), (.iconst 0, 1)] (by decide +kernel) rfl ?_
      refine zV_pi (by decide +kernel) zfp_RX11_208 (by decide) rfl h (fun M20 _ h => ?_)
      refine zV_b (pc' := 89) (lv' := [(4, .inr (.inr v12)), (3, .inr (.inr v4)), (2, .inl v1), (0, .inr (.inr l0)), (1, .inl l1)]) (st' := [.inr (.inr v12)]) [(.aload 4, 2)] (by decide +kernel) rfl ?_
      refine zV_gi (by decide +kernel) zfl_RX11_211 (by decide) rfl (Or.inl rfl) h (fun v21 _ h => ?_)
      refine zV_b (pc' := 93) (lv' := [(4, .inr (.inr v12)), (3, .inr (.inr v4)), (2, .inl v1), (0, .inr (.inr l0)), (1, .inl l1)]) (st' := [.inr (.inl (v21.toInt64))]) [(.i2l, 1)] (by decide +kernel) rfl ?_
      exact zend_j h hR (by decide +kernel)
  · refine zV_b (pc' := 13) (lv' := [(2, .inl v1), (0, .inr (.inr l0)), (1, .inl l1)]) (st' := [.inr (.inl (((-v1)).toInt64))]) [(.iload_n 2, 1), (.ineg, 1), (.i2l, 1)] (by decide +kernel) rfl ?_
    exact zend_j h hR (by decide +kernel)
theorem zc_X11_leaveCask {M M' : Zm} {l0 : Option Nat} {l1 : Int32} {x : Int64} (h : zf_X11_leaveCask M l0 l1 = some (M', x)) (l : Launch) (D : va_G) (cy : Nat → ClassId) : zMet l yX11_leaveCask zC_X11_leaveCask (some .long) D cy [.inr (.inr l0), .inl l1] M M' (some (.inr (.inl x))) :=
  zM_j (by decide) rfl (fun h => by cases h) (Nat.le_of_ble_eq_true rfl) (fun X hR => zt_X11_leaveCask h hR)
-- BlendCellar.leave(I)J
def zC_X11_leave : Zc := (cX11_leave, 2, RX11, 9, 202, false)
theorem zcl_X11_leave {C : Zc} (h1 : zC_X11_leave.2.2.2.1 + 1 ≤ C.2.2.2.1) (h2 : 8 + (zC_X11_leave.2.1 + 11) + zC_X11_leave.2.2.2.2.1 ≤ C.2.2.2.2.1) : zCl C yX11_leave zC_X11_leave (some .long) 1 := ⟨zw_717, zw_101, ⟨by decide, by decide⟩, by decide +kernel, h1, h2⟩
noncomputable def zf_X11_leave (M : Zm) (l0 : Option Nat) (l1 : Int32) : Option (Zm × Int64) :=
  zb1 (zo_rc M l0 12) (fun _ => zbd (zf_X11_openTap M l0) (fun M1 _ =>
  zb1 (zo_rc M1 l0 12) (fun _ => zbd (zf_X11_leaveCask M1 l0 l1) (fun M2 v2 =>
  zb1 (zo_rc M2 l0 12) (fun _ => zbd (zf_X11_closeTap M2 l0 v2) (fun M3 v3 =>
  some (M3, v3)))))))
set_option maxRecDepth 100000 in
theorem zt_X11_leave {X : Zx} {M : Zm} {l0 : Option Nat} {l1 : Int32} {z : Zm × Int64} (h : zf_X11_leave M l0 l1 = some z) (hR : zRj X zC_X11_leave z.1 z.2) : zV X zC_X11_leave M 0 [(0, .inr (.inr l0)), (1, .inl l1)] [] := by
  unfold zf_X11_leave at h
  refine zV_b (pc' := 1) (lv' := [(0, .inr (.inr l0)), (1, .inl l1)]) (st' := [.inr (.inr l0)]) [(.aload_n 0, 1)] (by decide +kernel) rfl ?_
  refine zV_cvv (As := []) (st := []) (c := 12) (by decide +kernel) (zcl_X11_openTap (by decide) (by decide)) ⟨zw_453, zw_455, zw_0⟩ ⟨⟨_, _, rfl⟩, by decide⟩ rfl rfl (Nat.le_of_ble_eq_true rfl) h (fun _ _ e => zc_X11_openTap e) (fun M1 _ _ h => ?_)
  refine zV_b (pc' := 7) (lv' := [(0, .inr (.inr l0)), (1, .inl l1)]) (st' := [.inl l1, .inr (.inr l0), .inr (.inr l0)]) [(.aload_n 0, 1), (.aload_n 0, 1), (.iload_n 1, 1)] (by decide +kernel) rfl ?_
  refine zV_cvj (As := [.inl l1]) (st := [.inr (.inr l0)]) (c := 12) (by decide +kernel) (zcl_X11_leaveCask (by decide) (by decide)) ⟨zw_718, zw_720, zw_12⟩ ⟨⟨_, _, rfl⟩, by decide⟩ rfl rfl (Nat.le_of_ble_eq_true rfl) h (fun _ _ e => zc_X11_leaveCask e) (fun M2 v2 _ h => ?_)
  refine zV_cvj (As := [.inr (.inl v2)]) (st := []) (c := 12) (by decide +kernel) (zcl_X11_closeTap (by decide) (by decide)) ⟨zw_510, zw_512, zw_3⟩ ⟨⟨_, _, rfl⟩, by decide⟩ rfl rfl (Nat.le_of_ble_eq_true rfl) h (fun _ _ e => zc_X11_closeTap e) (fun M3 v3 _ h => ?_)
  exact zend_j h hR (by decide +kernel)
theorem zc_X11_leave {M M' : Zm} {l0 : Option Nat} {l1 : Int32} {x : Int64} (h : zf_X11_leave M l0 l1 = some (M', x)) (l : Launch) (D : va_G) (cy : Nat → ClassId) : zMet l yX11_leave zC_X11_leave (some .long) D cy [.inr (.inr l0), .inl l1] M M' (some (.inr (.inl x))) :=
  zM_j (by decide) rfl (fun h => by cases h) (Nat.le_of_ble_eq_true rfl) (fun X hR => zt_X11_leave h hR)
-- BlendCellar.liftBarrel(II)J
def zC_X11_liftBarrel : Zc := (cX11_liftBarrel, 6, RX11, 8, 178, false)
theorem zcl_X11_liftBarrel {C : Zc} (h1 : zC_X11_liftBarrel.2.2.2.1 + 1 ≤ C.2.2.2.1) (h2 : 8 + (zC_X11_liftBarrel.2.1 + 11) + zC_X11_liftBarrel.2.2.2.2.1 ≤ C.2.2.2.2.1) : zCl C yX11_liftBarrel zC_X11_liftBarrel (some .long) 2 := ⟨zw_750, zw_101, ⟨by decide, by decide⟩, by decide +kernel, h1, h2⟩
noncomputable def zf_X11_liftBarrel (M : Zm) (l0 : Option Nat) (l1 : Int32) (l2 : Int32) : Option (Zm × Int64) :=
  zb1 (zo_rc M l0 12) (fun _ => zbd (zf_X11_readPlace M l0 l1 l2) (fun M1 v1 =>
  (if v1 = 0 then
  zb1 (zo_gr M1 l0 12 1) (fun v3 =>
  zb1 (zo_ar M1 17 v3 l1) (fun v4 =>
  zb1 (zo_gr M1 v4 8 1) (fun v5 =>
  zb1 (zo_ai M1 v5 l2) (fun v6 =>
  zb1 (zo_rc M1 l0 12) (fun _ => zbd (zf_X11_find M1 l0 v6) (fun M7 v7 =>
  (if v7 = none then
  some (M7, (-2 : Int64))
  else
  zb1 (zo_rc M7 l0 12) (fun _ => zbd (zf_X11_remember M7 l0) (fun M11 _ =>
  zb1 (zo_gr M11 l0 12 11) (fun v12 =>
  zb1 (zo_rc M11 v12 2) (fun _ => zbd (zf_X1_keepBarrel M11 v12 v7) (fun M13 _ =>
  zb1 (zo_gr M13 l0 12 11) (fun v14 =>
  zb1 (zo_rc M13 v14 2) (fun _ => zbd (zf_X1_keepPlace M13 v14 l1 l2 v6) (fun M15 _ =>
  zb1 (zo_gr M15 l0 12 1) (fun v16 =>
  zb1 (zo_ar M15 17 v16 l1) (fun v17 =>
  zb1 (zo_gr M15 v17 8 1) (fun v18 =>
  zb1 (zo_si M15 v18 l2 (-1 : Int32)) (fun M19 =>
  zb1 (zo_pi M19 v7 1 4 (0 : Int32)) (fun M20 =>
  some (M20, (v6.toInt64))))))))))))))))))))))
  else
  some (M1, (((-v1)).toInt64)))))
set_option maxRecDepth 100000 in
theorem zt_X11_liftBarrel {X : Zx} {M : Zm} {l0 : Option Nat} {l1 : Int32} {l2 : Int32} {z : Zm × Int64} (h : zf_X11_liftBarrel M l0 l1 l2 = some z) (hR : zRj X zC_X11_liftBarrel z.1 z.2) : zV X zC_X11_liftBarrel M 0 [(0, .inr (.inr l0)), (1, .inl l1), (2, .inl l2)] [] := by
  unfold zf_X11_liftBarrel at h
  refine zV_b (pc' := 3) (lv' := [(0, .inr (.inr l0)), (1, .inl l1), (2, .inl l2)]) (st' := [.inl l2, .inl l1, .inr (.inr l0)]) [(.aload_n 0, 1), (.iload_n 1, 1), (.iload_n 2, 1)] (by decide +kernel) rfl ?_
  refine zV_cvi (As := [.inl l1, .inl l2]) (st := []) (c := 12) (by decide +kernel) (zcl_X11_readPlace (by decide) (by decide)) ⟨zw_730, zw_732, zw_14⟩ ⟨⟨_, _, rfl⟩, by decide⟩ rfl rfl (Nat.le_of_ble_eq_true rfl) h (fun _ _ e => zc_X11_readPlace e) (fun M1 v1 _ h => ?_)
  refine zV_b (pc' := 8) (lv' := [(3, .inl v1), (0, .inr (.inr l0)), (1, .inl l1), (2, .inl l2)]) (st' := [.inl v1]) [(.istore_n 3, 1), (.iload_n 3, 1)] (by decide +kernel) rfl ?_
  refine zV_if_eq (off := 7) (tgt := 15) (by decide +kernel) (by decide) h (fun c2 h => ?_) (fun c2 h => ?_)
  · refine zV_b (pc' := 16) (lv' := [(3, .inl v1), (0, .inr (.inr l0)), (1, .inl l1), (2, .inl l2)]) (st' := [.inr (.inr l0)]) [(.aload_n 0, 1)] (by decide +kernel) rfl ?_
    refine zV_gr (by decide +kernel) zfl_RX11_18 (by decide) rfl h (fun v3 _ h => ?_)
    refine zV_b (pc' := 20) (lv' := [(3, .inl v1), (0, .inr (.inr l0)), (1, .inl l1), (2, .inl l2)]) (st' := [.inl l1, .inr (.inr v3)]) [(.iload_n 1, 1)] (by decide +kernel) rfl ?_
    refine zV_ar (by decide +kernel) (by decide) (by decide) h (fun v4 _ h => ?_)
    refine zV_gr (by decide +kernel) zfl_RX11_223 (by decide) rfl h (fun v5 _ h => ?_)
    refine zV_b (pc' := 25) (lv' := [(3, .inl v1), (0, .inr (.inr l0)), (1, .inl l1), (2, .inl l2)]) (st' := [.inl l2, .inr (.inr v5)]) [(.iload_n 2, 1)] (by decide +kernel) rfl ?_
    refine zV_ai (by decide +kernel) h (fun v6 _ h => ?_)
    refine zV_b (pc' := 31) (lv' := [(4, .inl v6), (3, .inl v1), (0, .inr (.inr l0)), (1, .inl l1), (2, .inl l2)]) (st' := [.inl v6, .inr (.inr l0)]) [(.istore 4, 2), (.aload_n 0, 1), (.iload 4, 2)] (by decide +kernel) rfl ?_
    refine zV_cvr (As := [.inl v6]) (st := []) (c := 12) (by decide +kernel) (zcl_X11_find (by decide) (by decide)) ⟨zw_751, zw_753, zw_16⟩ ⟨⟨_, _, rfl⟩, by decide⟩ rfl rfl (Nat.le_of_ble_eq_true rfl) h (fun _ _ e => zc_X11_find e) (fun M7 v7 _ h => ?_)
    refine zV_b (pc' := 38) (lv' := [(5, .inr (.inr v7)), (4, .inl v6), (3, .inl v1), (0, .inr (.inr l0)), (1, .inl l1), (2, .inl l2)]) (st' := [.inr (.inr v7)]) [(.astore 5, 2), (.aload 5, 2)] (by decide +kernel) rfl ?_
    refine zV_ifnonnull (off := 7) (tgt := 45) (by decide +kernel) (by decide) h (fun c8 h => ?_) (fun c8 h => ?_)
    · refine zV_ldc2 (by decide +kernel) zw_755 ?_
      exact zend_j h hR (by decide +kernel)
    · refine zV_b (pc' := 46) (lv' := [(5, .inr (.inr v7)), (4, .inl v6), (3, .inl v1), (0, .inr (.inr l0)), (1, .inl l1), (2, .inl l2)]) (st' := [.inr (.inr l0)]) [(.aload_n 0, 1)] (by decide +kernel) rfl ?_
      refine zV_cvv (As := []) (st := []) (c := 12) (by decide +kernel) (zcl_X11_remember (by decide) (by decide)) ⟨zw_469, zw_471, zw_2⟩ ⟨⟨_, _, rfl⟩, by decide⟩ rfl rfl (Nat.le_of_ble_eq_true rfl) h (fun _ _ e => zc_X11_remember e) (fun M11 _ _ h => ?_)
      refine zV_b (pc' := 50) (lv' := [(5, .inr (.inr v7)), (4, .inl v6), (3, .inl v1), (0, .inr (.inr l0)), (1, .inl l1), (2, .inl l2)]) (st' := [.inr (.inr l0)]) [(.aload_n 0, 1)] (by decide +kernel) rfl ?_
      refine zV_gr (by decide +kernel) zfl_RX11_79 (by decide) rfl h (fun v12 _ h => ?_)
      refine zV_b (pc' := 55) (lv' := [(5, .inr (.inr v7)), (4, .inl v6), (3, .inl v1), (0, .inr (.inr l0)), (1, .inl l1), (2, .inl l2)]) (st' := [.inr (.inr v7), .inr (.inr v12)]) [(.aload 5, 2)] (by decide +kernel) rfl ?_
      refine zV_cvv (As := [.inr (.inr v7)]) (st := []) (c := 2) (by decide +kernel) (zcl_X1_keepBarrel (by decide) (by decide)) ⟨zw_696, zw_697, zw_698⟩ ⟨⟨_, _, rfl⟩, by decide⟩ rfl rfl (Nat.le_of_ble_eq_true rfl) h (fun _ _ e => zc_X1_keepBarrel e) (fun M13 _ _ h => ?_)
      refine zV_b (pc' := 59) (lv' := [(5, .inr (.inr v7)), (4, .inl v6), (3, .inl v1), (0, .inr (.inr l0)), (1, .inl l1), (2, .inl l2)]) (st' := [.inr (.inr l0)]) [(.aload_n 0, 1)] (by decide +kernel) rfl ?_
      refine zV_gr (by decide +kernel) zfl_RX11_79 (by decide) rfl h (fun v14 _ h => ?_)
      refine zV_b (pc' := 66) (lv' := [(5, .inr (.inr v7)), (4, .inl v6), (3, .inl v1), (0, .inr (.inr l0)), (1, .inl l1), (2, .inl l2)]) (st' := [.inl v6, .inl l2, .inl l1, .inr (.inr v14)]) [(.iload_n 1, 1), (.iload_n 2, 1), (.iload 4, 2)] (by decide +kernel) rfl ?_
      refine zV_cvv (As := [.inl l1, .inl l2, .inl v6]) (st := []) (c := 2) (by decide +kernel) (zcl_X1_keepPlace (by decide) (by decide)) ⟨zw_739, zw_490, zw_491⟩ ⟨⟨_, _, rfl⟩, by decide⟩ rfl rfl (Nat.le_of_ble_eq_true rfl) h (fun _ _ e => zc_X1_keepPlace e) (fun M15 _ _ h => ?_)
      refine zV_b (pc' := 70) (lv' := [(5, .inr (.inr v7)), (4, .inl v6), (3, .inl v1), (0, .inr (.inr l0)), (1, .inl l1), (2, .inl l2)]) (st' := [.inr (.inr l0)]) [(.aload_n 0, 1)] (by decide +kernel) rfl ?_
      refine zV_gr (by decide +kernel) zfl_RX11_18 (by decide) rfl h (fun v16 _ h => ?_)
      refine zV_b (pc' := 74) (lv' := [(5, .inr (.inr v7)), (4, .inl v6), (3, .inl v1), (0, .inr (.inr l0)), (1, .inl l1), (2, .inl l2)]) (st' := [.inl l1, .inr (.inr v16)]) [(.iload_n 1, 1)] (by decide +kernel) rfl ?_
      refine zV_ar (by decide +kernel) (by decide) (by decide) h (fun v17 _ h => ?_)
      refine zV_gr (by decide +kernel) zfl_RX11_223 (by decide) rfl h (fun v18 _ h => ?_)
      refine zV_b (pc' := 80) (lv' := [(5, .inr (.inr v7)), (4, .inl v6), (3, .inl v1), (0, .inr (.inr l0)), (1, .inl l1), (2, .inl l2)]) (st' := [.inl (-1 : Int32), .inl l2, .inr (.inr v18)]) [(.iload_n 2, 1), (.iconst (-1), 1)] (by decide +kernel) rfl ?_
      refine zV_si (by decide +kernel) h (fun M19 _ h => ?_)
      refine zV_b (pc' := 84) (lv' := [(5, .inr (.inr v7)), (4, .inl v6), (3, .inl v1), (0, .inr (.inr l0)), (1, .inl l1), (2, .inl l2)]) (st' := [.inl (0 : Int32), .inr (.inr v7)]) [(.aload 5, 2), (.iconst 0, 1)] (by decide +kernel) rfl ?_
      refine zV_pi (by decide +kernel) zfp_RX11_208 (by decide) rfl h (fun M20 _ h => ?_)
      refine zV_b (pc' := 90) (lv' := [(5, .inr (.inr v7)), (4, .inl v6), (3, .inl v1), (0, .inr (.inr l0)), (1, .inl l1), (2, .inl l2)]) (st' := [.inr (.inl (v6.toInt64))]) [(.iload 4, 2), (.i2l, 1)] (by decide +kernel) rfl ?_
      exact zend_j h hR (by decide +kernel)
  · refine zV_b (pc' := 14) (lv' := [(3, .inl v1), (0, .inr (.inr l0)), (1, .inl l1), (2, .inl l2)]) (st' := [.inr (.inl (((-v1)).toInt64))]) [(.iload_n 3, 1), (.ineg, 1), (.i2l, 1)] (by decide +kernel) rfl ?_
    exact zend_j h hR (by decide +kernel)
theorem zc_X11_liftBarrel {M M' : Zm} {l0 : Option Nat} {l1 : Int32} {l2 : Int32} {x : Int64} (h : zf_X11_liftBarrel M l0 l1 l2 = some (M', x)) (l : Launch) (D : va_G) (cy : Nat → ClassId) : zMet l yX11_liftBarrel zC_X11_liftBarrel (some .long) D cy [.inr (.inr l0), .inl l1, .inl l2] M M' (some (.inr (.inl x))) :=
  zM_j (by decide) rfl (fun h => by cases h) (Nat.le_of_ble_eq_true rfl) (fun X hR => zt_X11_liftBarrel h hR)
-- BlendCellar.lift(II)J
def zC_X11_lift : Zc := (cX11_lift, 3, RX11, 9, 203, false)
theorem zcl_X11_lift {C : Zc} (h1 : zC_X11_lift.2.2.2.1 + 1 ≤ C.2.2.2.1) (h2 : 8 + (zC_X11_lift.2.1 + 11) + zC_X11_lift.2.2.2.2.1 ≤ C.2.2.2.2.1) : zCl C yX11_lift zC_X11_lift (some .long) 2 := ⟨zw_746, zw_101, ⟨by decide, by decide⟩, by decide +kernel, h1, h2⟩
noncomputable def zf_X11_lift (M : Zm) (l0 : Option Nat) (l1 : Int32) (l2 : Int32) : Option (Zm × Int64) :=
  zb1 (zo_rc M l0 12) (fun _ => zbd (zf_X11_openTap M l0) (fun M1 _ =>
  zb1 (zo_rc M1 l0 12) (fun _ => zbd (zf_X11_liftBarrel M1 l0 l1 l2) (fun M2 v2 =>
  zb1 (zo_rc M2 l0 12) (fun _ => zbd (zf_X11_closeTap M2 l0 v2) (fun M3 v3 =>
  some (M3, v3)))))))
set_option maxRecDepth 100000 in
theorem zt_X11_lift {X : Zx} {M : Zm} {l0 : Option Nat} {l1 : Int32} {l2 : Int32} {z : Zm × Int64} (h : zf_X11_lift M l0 l1 l2 = some z) (hR : zRj X zC_X11_lift z.1 z.2) : zV X zC_X11_lift M 0 [(0, .inr (.inr l0)), (1, .inl l1), (2, .inl l2)] [] := by
  unfold zf_X11_lift at h
  refine zV_b (pc' := 1) (lv' := [(0, .inr (.inr l0)), (1, .inl l1), (2, .inl l2)]) (st' := [.inr (.inr l0)]) [(.aload_n 0, 1)] (by decide +kernel) rfl ?_
  refine zV_cvv (As := []) (st := []) (c := 12) (by decide +kernel) (zcl_X11_openTap (by decide) (by decide)) ⟨zw_453, zw_455, zw_0⟩ ⟨⟨_, _, rfl⟩, by decide⟩ rfl rfl (Nat.le_of_ble_eq_true rfl) h (fun _ _ e => zc_X11_openTap e) (fun M1 _ _ h => ?_)
  refine zV_b (pc' := 8) (lv' := [(0, .inr (.inr l0)), (1, .inl l1), (2, .inl l2)]) (st' := [.inl l2, .inl l1, .inr (.inr l0), .inr (.inr l0)]) [(.aload_n 0, 1), (.aload_n 0, 1), (.iload_n 1, 1), (.iload_n 2, 1)] (by decide +kernel) rfl ?_
  refine zV_cvj (As := [.inl l1, .inl l2]) (st := [.inr (.inr l0)]) (c := 12) (by decide +kernel) (zcl_X11_liftBarrel (by decide) (by decide)) ⟨zw_747, zw_749, zw_15⟩ ⟨⟨_, _, rfl⟩, by decide⟩ rfl rfl (Nat.le_of_ble_eq_true rfl) h (fun _ _ e => zc_X11_liftBarrel e) (fun M2 v2 _ h => ?_)
  refine zV_cvj (As := [.inr (.inl v2)]) (st := []) (c := 12) (by decide +kernel) (zcl_X11_closeTap (by decide) (by decide)) ⟨zw_510, zw_512, zw_3⟩ ⟨⟨_, _, rfl⟩, by decide⟩ rfl rfl (Nat.le_of_ble_eq_true rfl) h (fun _ _ e => zc_X11_closeTap e) (fun M3 v3 _ h => ?_)
  exact zend_j h hR (by decide +kernel)
theorem zc_X11_lift {M M' : Zm} {l0 : Option Nat} {l1 : Int32} {l2 : Int32} {x : Int64} (h : zf_X11_lift M l0 l1 l2 = some (M', x)) (l : Launch) (D : va_G) (cy : Nat → ClassId) : zMet l yX11_lift zC_X11_lift (some .long) D cy [.inr (.inr l0), .inl l1, .inl l2] M M' (some (.inr (.inl x))) :=
  zM_j (by decide) rfl (fun h => by cases h) (Nat.le_of_ble_eq_true rfl) (fun X hR => zt_X11_lift h hR)
-- BlendCellar.makeRule(IIIII)J
def zC_X11_makeRule : Zc := (cX11_makeRule, 8, RX11, 3, 64, false)
theorem zcl_X11_makeRule {C : Zc} (h1 : zC_X11_makeRule.2.2.2.1 + 1 ≤ C.2.2.2.1) (h2 : 8 + (zC_X11_makeRule.2.1 + 11) + zC_X11_makeRule.2.2.2.2.1 ≤ C.2.2.2.2.1) : zCl C yX11_makeRule zC_X11_makeRule (some .long) 5 := ⟨zw_1120, zw_101, ⟨by decide, by decide⟩, by decide +kernel, h1, h2⟩
noncomputable def zf_X11_makeRule_J28 (M : Zm)  : Option (Zm × Int64) :=
  some (M, (-1 : Int64))
noncomputable def zf_X11_makeRule_J32 (M : Zm) (l0 : Option Nat) (l1 : Int32) (l2 : Int32) (l3 : Int32) (l4 : Int32) (l5 : Int32) : Option (Zm × Int64) :=
  zb1 (zo_rc M l0 12) (fun _ => zbd (zf_X11_lookUpLabel M l0 l1) (fun M6 v6 =>
  (if v6 = 0 then
  zb1 (zo_gr M6 l0 12 2) (fun v8 =>
  zb1 (zo_rc M6 v8 0) (fun _ => zbd (zf_Jx4a65c_get_915e3 M6 v8 l1) (fun M9 v9 =>
  zb1 (zo_cc M9 v9 4) (fun _ =>
  zb1 (zo_gi M9 v9 4 7) (fun v11 =>
  (if v11 < (20 : Int32) then
  (if l2 = (6 : Int32) then
  zb1 (zo_gi M9 v9 4 6) (fun v14 =>
  (if (2 : Int32) ≤ v14 then
  zb1 (zo_rc M9 v9 4) (fun _ => zbd (zf_X3_uniteLastTwo M9 v9) (fun M16 _ =>
  zb1 (zo_gi M16 v9 4 6) (fun v17 =>
  some (M16, (v17.toInt64)))))
  else
  some (M9, (-10 : Int64))))
  else
  zb1 (zo_rc M9 v9 4) (fun _ => zbd (zf_X3_addRule M9 v9 l2 l3 l4 l5) (fun M21 _ =>
  zb1 (zo_gi M21 v9 4 6) (fun v22 =>
  some (M21, (v22.toInt64))))))
  else
  some (M9, (-12 : Int64))))))))
  else
  some (M6, (((-v6)).toInt64)))))
noncomputable def zf_X11_makeRule (M : Zm) (l0 : Option Nat) (l1 : Int32) (l2 : Int32) (l3 : Int32) (l4 : Int32) (l5 : Int32) : Option (Zm × Int64) :=
  (if l2 < (1 : Int32) then
  zf_X11_makeRule_J28 M
  else
  (if (6 : Int32) < l2 then
  zf_X11_makeRule_J28 M
  else
  (if l2 = (6 : Int32) then
  zf_X11_makeRule_J32 M l0 l1 l2 l3 l4 l5
  else
  zbd (zf_X11_isRuleOver M l3 l4 l5) (fun M27 v27 =>
  (if v27 = 0 then
  zf_X11_makeRule_J28 M27
  else
  zf_X11_makeRule_J32 M27 l0 l1 l2 l3 l4 l5)))))
set_option maxRecDepth 100000 in
theorem zt_X11_makeRule_J28 {X : Zx} {M : Zm}  {z : Zm × Int64} (h : zf_X11_makeRule_J28 M  = some z) (hR : zRj X zC_X11_makeRule z.1 z.2) : zV X zC_X11_makeRule M 28 [] [] := by
  unfold zf_X11_makeRule_J28 at h
  refine zV_ldc2 (by decide +kernel) zw_465 ?_
  exact zend_j h hR (by decide +kernel)
set_option maxRecDepth 100000 in
theorem zt_X11_makeRule_J32 {X : Zx} {M : Zm} {l0 : Option Nat} {l1 : Int32} {l2 : Int32} {l3 : Int32} {l4 : Int32} {l5 : Int32} {z : Zm × Int64} (h : zf_X11_makeRule_J32 M l0 l1 l2 l3 l4 l5 = some z) (hR : zRj X zC_X11_makeRule z.1 z.2) : zV X zC_X11_makeRule M 32 [(0, .inr (.inr l0)), (1, .inl l1), (2, .inl l2), (3, .inl l3), (4, .inl l4), (5, .inl l5)] [] := by
  unfold zf_X11_makeRule_J32 at h
  refine zV_b (pc' := 34) (lv' := [(0, .inr (.inr l0)), (1, .inl l1), (2, .inl l2), (3, .inl l3), (4, .inl l4), (5, .inl l5)]) (st' := [.inl l1, .inr (.inr l0)]) [(.aload_n 0, 1), (.iload_n 1, 1)] (by decide +kernel) rfl ?_
  refine zV_cvi (As := [.inl l1]) (st := []) (c := 12) (by decide +kernel) (zcl_X11_lookUpLabel (by decide) (by decide)) ⟨zw_1124, zw_1126, zw_47⟩ ⟨⟨_, _, rfl⟩, by decide⟩ rfl rfl (Nat.le_of_ble_eq_true rfl) h (fun _ _ e => zc_X11_lookUpLabel e) (fun M6 v6 _ h => ?_)
  refine zV_b (pc' := 41) (lv' := [(6, .inl v6), (0, .inr (.inr l0)), (1, .inl l1), (2, .inl l2), (3, .inl l3), (4, .inl l4), (5, .inl l5)]) (st' := [.inl v6]) [(.istore 6, 2), (.iload 6, 2)] (by decide +kernel) rfl ?_
  refine zV_if_eq (off := 8) (tgt := 49) (by decide +kernel) (by decide) h (fun c7 h => ?_) (fun c7 h => ?_)
  · refine zV_b (pc' := 50) (lv' := [(6, .inl v6), (0, .inr (.inr l0)), (1, .inl l1), (2, .inl l2), (3, .inl l3), (4, .inl l4), (5, .inl l5)]) (st' := [.inr (.inr l0)]) [(.aload_n 0, 1)] (by decide +kernel) rfl ?_
    refine zV_gr (by decide +kernel) zfl_RX11_22 (by decide) rfl h (fun v8 _ h => ?_)
    refine zV_b (pc' := 54) (lv' := [(6, .inl v6), (0, .inr (.inr l0)), (1, .inl l1), (2, .inl l2), (3, .inl l3), (4, .inl l4), (5, .inl l5)]) (st' := [.inl l1, .inr (.inr v8)]) [(.iload_n 1, 1)] (by decide +kernel) rfl ?_
    refine zV_cvr (As := [.inl l1]) (st := []) (c := 0) (by decide +kernel) (zcl_Jx4a65c_get_915e3 (by decide) (by decide)) ⟨zw_670, zw_671, zw_672⟩ ⟨⟨_, _, rfl⟩, by decide⟩ rfl rfl (Nat.le_of_ble_eq_true rfl) h (fun _ _ e => zc_Jx4a65c_get_915e3 e) (fun M9 v9 _ h => ?_)
    refine zV_cc (by decide +kernel) zck_RX11_435 h (fun _ _ h => ?_)
    refine zV_b (pc' := 64) (lv' := [(7, .inr (.inr v9)), (6, .inl v6), (0, .inr (.inr l0)), (1, .inl l1), (2, .inl l2), (3, .inl l3), (4, .inl l4), (5, .inl l5)]) (st' := [.inr (.inr v9)]) [(.astore 7, 2), (.aload 7, 2)] (by decide +kernel) rfl ?_
    refine zV_gi (by decide +kernel) zfl_RX11_449 (by decide) rfl (Or.inl rfl) h (fun v11 _ h => ?_)
    refine zV_b (pc' := 69) (lv' := [(7, .inr (.inr v9)), (6, .inl v6), (0, .inr (.inr l0)), (1, .inl l1), (2, .inl l2), (3, .inl l3), (4, .inl l4), (5, .inl l5)]) (st' := [.inl (20 : Int32), .inl v11]) [(.bipush 20, 2)] (by decide +kernel) rfl ?_
    refine zV_icmp_lt (off := 7) (tgt := 76) (by decide +kernel) (by decide) h (fun c12 h => ?_) (fun c12 h => ?_)
    · refine zV_b (pc' := 79) (lv' := [(7, .inr (.inr v9)), (6, .inl v6), (0, .inr (.inr l0)), (1, .inl l1), (2, .inl l2), (3, .inl l3), (4, .inl l4), (5, .inl l5)]) (st' := [.inl (6 : Int32), .inl l2]) [(.iload_n 2, 1), (.bipush 6, 2)] (by decide +kernel) rfl ?_
      refine zV_icmp_eq (off := 21) (tgt := 100) (by decide +kernel) (by decide) h (fun c13 h => ?_) (fun c13 h => ?_)
      · refine zV_b (pc' := 102) (lv' := [(7, .inr (.inr v9)), (6, .inl v6), (0, .inr (.inr l0)), (1, .inl l1), (2, .inl l2), (3, .inl l3), (4, .inl l4), (5, .inl l5)]) (st' := [.inr (.inr v9)]) [(.aload 7, 2)] (by decide +kernel) rfl ?_
        refine zV_gi (by decide +kernel) zfl_RX11_455 (by decide) rfl (Or.inl rfl) h (fun v14 _ h => ?_)
        refine zV_b (pc' := 106) (lv' := [(7, .inr (.inr v9)), (6, .inl v6), (0, .inr (.inr l0)), (1, .inl l1), (2, .inl l2), (3, .inl l3), (4, .inl l4), (5, .inl l5)]) (st' := [.inl (2 : Int32), .inl v14]) [(.iconst 2, 1)] (by decide +kernel) rfl ?_
        refine zV_icmp_ge (off := 7) (tgt := 113) (by decide +kernel) (by decide) h (fun c15 h => ?_) (fun c15 h => ?_)
        · refine zV_b (pc' := 115) (lv' := [(7, .inr (.inr v9)), (6, .inl v6), (0, .inr (.inr l0)), (1, .inl l1), (2, .inl l2), (3, .inl l3), (4, .inl l4), (5, .inl l5)]) (st' := [.inr (.inr v9)]) [(.aload 7, 2)] (by decide +kernel) rfl ?_
          refine zV_cvv (As := []) (st := []) (c := 4) (by decide +kernel) (zcl_X3_uniteLastTwo (by decide) (by decide)) ⟨zw_1132, zw_1133, zw_1134⟩ ⟨⟨_, _, rfl⟩, by decide⟩ rfl rfl (Nat.le_of_ble_eq_true rfl) h (fun _ _ e => zc_X3_uniteLastTwo e) (fun M16 _ _ h => ?_)
          refine zV_b (pc' := 120) (lv' := [(7, .inr (.inr v9)), (6, .inl v6), (0, .inr (.inr l0)), (1, .inl l1), (2, .inl l2), (3, .inl l3), (4, .inl l4), (5, .inl l5)]) (st' := [.inr (.inr v9)]) [(.aload 7, 2)] (by decide +kernel) rfl ?_
          refine zV_gi (by decide +kernel) zfl_RX11_455 (by decide) rfl (Or.inl rfl) h (fun v17 _ h => ?_)
          refine zV_b (pc' := 124) (lv' := [(7, .inr (.inr v9)), (6, .inl v6), (0, .inr (.inr l0)), (1, .inl l1), (2, .inl l2), (3, .inl l3), (4, .inl l4), (5, .inl l5)]) (st' := [.inr (.inl (v17.toInt64))]) [(.i2l, 1)] (by decide +kernel) rfl ?_
          exact zend_j h hR (by decide +kernel)
        · refine zV_ldc2 (by decide +kernel) zw_873 ?_
          exact zend_j h hR (by decide +kernel)
      · refine zV_b (pc' := 90) (lv' := [(7, .inr (.inr v9)), (6, .inl v6), (0, .inr (.inr l0)), (1, .inl l1), (2, .inl l2), (3, .inl l3), (4, .inl l4), (5, .inl l5)]) (st' := [.inl l5, .inl l4, .inl l3, .inl l2, .inr (.inr v9)]) [(.aload 7, 2), (.iload_n 2, 1), (.iload_n 3, 1), (.iload 4, 2), (.iload 5, 2)] (by decide +kernel) rfl ?_
        refine zV_cvv (As := [.inl l2, .inl l3, .inl l4, .inl l5]) (st := []) (c := 4) (by decide +kernel) (zcl_X3_addRule (by decide) (by decide)) ⟨zw_1128, zw_1129, zw_1130⟩ ⟨⟨_, _, rfl⟩, by decide⟩ rfl rfl (Nat.le_of_ble_eq_true rfl) h (fun _ _ e => zc_X3_addRule e) (fun M21 _ _ h => ?_)
        refine zV_b (pc' := 95) (lv' := [(7, .inr (.inr v9)), (6, .inl v6), (0, .inr (.inr l0)), (1, .inl l1), (2, .inl l2), (3, .inl l3), (4, .inl l4), (5, .inl l5)]) (st' := [.inr (.inr v9)]) [(.aload 7, 2)] (by decide +kernel) rfl ?_
        refine zV_gi (by decide +kernel) zfl_RX11_455 (by decide) rfl (Or.inl rfl) h (fun v22 _ h => ?_)
        refine zV_b (pc' := 99) (lv' := [(7, .inr (.inr v9)), (6, .inl v6), (0, .inr (.inr l0)), (1, .inl l1), (2, .inl l2), (3, .inl l3), (4, .inl l4), (5, .inl l5)]) (st' := [.inr (.inl (v22.toInt64))]) [(.i2l, 1)] (by decide +kernel) rfl ?_
        exact zend_j h hR (by decide +kernel)
    · refine zV_ldc2 (by decide +kernel) zw_527 ?_
      exact zend_j h hR (by decide +kernel)
  · refine zV_b (pc' := 48) (lv' := [(6, .inl v6), (0, .inr (.inr l0)), (1, .inl l1), (2, .inl l2), (3, .inl l3), (4, .inl l4), (5, .inl l5)]) (st' := [.inr (.inl (((-v6)).toInt64))]) [(.iload 6, 2), (.ineg, 1), (.i2l, 1)] (by decide +kernel) rfl ?_
    exact zend_j h hR (by decide +kernel)
set_option maxRecDepth 100000 in
theorem zt_X11_makeRule {X : Zx} {M : Zm} {l0 : Option Nat} {l1 : Int32} {l2 : Int32} {l3 : Int32} {l4 : Int32} {l5 : Int32} {z : Zm × Int64} (h : zf_X11_makeRule M l0 l1 l2 l3 l4 l5 = some z) (hR : zRj X zC_X11_makeRule z.1 z.2) : zV X zC_X11_makeRule M 0 [(0, .inr (.inr l0)), (1, .inl l1), (2, .inl l2), (3, .inl l3), (4, .inl l4), (5, .inl l5)] [] := by
  unfold zf_X11_makeRule at h
  refine zV_b (pc' := 2) (lv' := [(0, .inr (.inr l0)), (1, .inl l1), (2, .inl l2), (3, .inl l3), (4, .inl l4), (5, .inl l5)]) (st' := [.inl (1 : Int32), .inl l2]) [(.iload_n 2, 1), (.iconst 1, 1)] (by decide +kernel) rfl ?_
  refine zV_icmp_lt (off := 26) (tgt := 28) (by decide +kernel) (by decide) h (fun c1 h => ?_) (fun c1 h => ?_)
  · exact zV_lv (lv' := []) [] rfl (zt_X11_makeRule_J28 h hR)
  · refine zV_b (pc' := 8) (lv' := [(0, .inr (.inr l0)), (1, .inl l1), (2, .inl l2), (3, .inl l3), (4, .inl l4), (5, .inl l5)]) (st' := [.inl (6 : Int32), .inl l2]) [(.iload_n 2, 1), (.bipush 6, 2)] (by decide +kernel) rfl ?_
    refine zV_icmp_gt (off := 20) (tgt := 28) (by decide +kernel) (by decide) h (fun c4 h => ?_) (fun c4 h => ?_)
    · exact zV_lv (lv' := []) [] rfl (zt_X11_makeRule_J28 h hR)
    · refine zV_b (pc' := 14) (lv' := [(0, .inr (.inr l0)), (1, .inl l1), (2, .inl l2), (3, .inl l3), (4, .inl l4), (5, .inl l5)]) (st' := [.inl (6 : Int32), .inl l2]) [(.iload_n 2, 1), (.bipush 6, 2)] (by decide +kernel) rfl ?_
      refine zV_icmp_eq (off := 18) (tgt := 32) (by decide +kernel) (by decide) h (fun c5 h => ?_) (fun c5 h => ?_)
      · exact zV_lv (lv' := [(0, .inr (.inr l0)), (1, .inl l1), (2, .inl l2), (3, .inl l3), (4, .inl l4), (5, .inl l5)]) [0, 1, 2, 3, 4, 5] rfl (zt_X11_makeRule_J32 h hR)
      · refine zV_b (pc' := 22) (lv' := [(0, .inr (.inr l0)), (1, .inl l1), (2, .inl l2), (3, .inl l3), (4, .inl l4), (5, .inl l5)]) (st' := [.inl l5, .inl l4, .inl l3]) [(.iload_n 3, 1), (.iload 4, 2), (.iload 5, 2)] (by decide +kernel) rfl ?_
        refine zV_csi (As := [.inl l3, .inl l4, .inl l5]) (st := []) (by decide +kernel) (zcl_X11_isRuleOver (by decide) (by decide)) ⟨zw_1121, zw_1122⟩ rfl rfl (Nat.le_of_ble_eq_true rfl) h (fun _ _ e => zc_X11_isRuleOver e) (fun M27 v27 _ h => ?_)
        refine zV_if_ne (off := 7) (tgt := 32) (by decide +kernel) (by decide) h (fun c28 h => ?_) (fun c28 h => ?_)
        · exact zV_lv (lv' := []) [] rfl (zt_X11_makeRule_J28 h hR)
        · exact zV_lv (lv' := [(0, .inr (.inr l0)), (1, .inl l1), (2, .inl l2), (3, .inl l3), (4, .inl l4), (5, .inl l5)]) [0, 1, 2, 3, 4, 5] rfl (zt_X11_makeRule_J32 h hR)
theorem zc_X11_makeRule {M M' : Zm} {l0 : Option Nat} {l1 : Int32} {l2 : Int32} {l3 : Int32} {l4 : Int32} {l5 : Int32} {x : Int64} (h : zf_X11_makeRule M l0 l1 l2 l3 l4 l5 = some (M', x)) (l : Launch) (D : va_G) (cy : Nat → ClassId) : zMet l yX11_makeRule zC_X11_makeRule (some .long) D cy [.inr (.inr l0), .inl l1, .inl l2, .inl l3, .inl l4, .inl l5] M M' (some (.inr (.inl x))) :=
  zM_j (by decide) rfl (fun h => by cases h) (Nat.le_of_ble_eq_true rfl) (fun X hR => zt_X11_makeRule h hR)
-- BlendCellar.month()I
def zC_X11_month : Zc := (cX11_month, 1, RX11, 0, 0, false)
theorem zcl_X11_month {C : Zc} (h1 : zC_X11_month.2.2.2.1 + 1 ≤ C.2.2.2.1) (h2 : 8 + (zC_X11_month.2.1 + 11) + zC_X11_month.2.2.2.2.1 ≤ C.2.2.2.2.1) : zCl C yX11_month zC_X11_month (some .int) 0 := ⟨zw_1364, zw_101, ⟨by decide, by decide⟩, by decide +kernel, h1, h2⟩
noncomputable def zf_X11_month (M : Zm) (l0 : Option Nat) : Option (Zm × Int32) :=
  zb1 (zo_gi M l0 12 14) (fun v1 =>
  some (M, v1))
set_option maxRecDepth 100000 in
theorem zt_X11_month {X : Zx} {M : Zm} {l0 : Option Nat} {z : Zm × Int32} (h : zf_X11_month M l0 = some z) (hR : zRi X zC_X11_month z.1 z.2) : zV X zC_X11_month M 0 [(0, .inr (.inr l0))] [] := by
  unfold zf_X11_month at h
  refine zV_b (pc' := 1) (lv' := [(0, .inr (.inr l0))]) (st' := [.inr (.inr l0)]) [(.aload_n 0, 1)] (by decide +kernel) rfl ?_
  refine zV_gi (by decide +kernel) zfl_RX11_93 (by decide) rfl (Or.inl rfl) h (fun v1 _ h => ?_)
  exact zend_i h hR (by decide +kernel)
theorem zc_X11_month {M M' : Zm} {l0 : Option Nat} {x : Int32} (h : zf_X11_month M l0 = some (M', x)) (l : Launch) (D : va_G) (cy : Nat → ClassId) : zMet l yX11_month zC_X11_month (some .int) D cy [.inr (.inr l0)] M M' (some (.inl x)) :=
  zM_i (by decide) rfl (fun h => by cases h) (Nat.le_of_ble_eq_true rfl) (fun X hR => zt_X11_month h hR)
-- BlendCellar.odd()I
def zC_X11_odd : Zc := (cX11_odd, 2, RX11, 4, 94, false)
theorem zcl_X11_odd {C : Zc} (h1 : zC_X11_odd.2.2.2.1 + 1 ≤ C.2.2.2.1) (h2 : 8 + (zC_X11_odd.2.1 + 11) + zC_X11_odd.2.2.2.2.1 ≤ C.2.2.2.2.1) : zCl C yX11_odd zC_X11_odd (some .int) 0 := ⟨zw_1326, zw_101, ⟨by decide, by decide⟩, by decide +kernel, h1, h2⟩
noncomputable def zf_X11_odd_L15 (p0 : Option Nat) (x : Zm × Int32) : Option ((Zm × Int32) ⊕ (Zm × Int32)) := match x with
  | (M, l1) =>
  (if (5 : Int32) ≤ l1 then
  some (.inr (M, l1))
  else
  zb1 (zo_gr M p0 12 7) (fun v6 =>
  zb1 (zo_gr M p0 12 6) (fun v7 =>
  zb1 (zo_ar M 18 v7 l1) (fun v8 =>
  zb1 (zo_rc M v6 11) (fun _ => zbd (zf_X10_subtract M v6 v8) (fun M9 _ =>
  some (.inl (M9, (l1 + 1)))))))))
def zP_X11_odd_L15 (X : Zx) (p0 : Option Nat) (x : Zm × Int32) : Prop := match x with
  | (M, l1) => zV X zC_X11_odd M 15 [(0, .inr (.inr p0)), (1, .inl l1)] []
def zK_X11_odd_L15 (X : Zx) (p0 : Option Nat) (y : Zm × Int32) : Prop := match y with
  | (M, l1) => zV X zC_X11_odd M 39 [(0, .inr (.inr p0))] []
noncomputable def zf_X11_odd_L41 (p0 : Option Nat) (x : Zm × Int32) : Option ((Zm × Int32) ⊕ (Zm × Int32)) := match x with
  | (M, l1) =>
  zb1 (zo_gr M p0 12 0) (fun v12 =>
  zb1 (zo_rc M v12 0) (fun _ => zbd (zf_Jx4a65c_size_8abf5 M v12) (fun M13 v13 =>
  (if v13 ≤ l1 then
  some (.inr (M13, l1))
  else
  zb1 (zo_gr M13 p0 12 7) (fun v15 =>
  zb1 (zo_gr M13 p0 12 0) (fun v16 =>
  zb1 (zo_rc M13 v16 0) (fun _ => zbd (zf_Jx4a65c_get_915e3 M13 v16 l1) (fun M17 v17 =>
  zb1 (zo_cc M17 v17 1) (fun _ =>
  zb1 (zo_gr M17 v17 1 5) (fun v19 =>
  zb1 (zo_rc M17 v15 11) (fun _ => zbd (zf_X10_subtract M17 v15 v19) (fun M20 _ =>
  some (.inl (M20, (l1 + 1)))))))))))))))
def zP_X11_odd_L41 (X : Zx) (p0 : Option Nat) (x : Zm × Int32) : Prop := match x with
  | (M, l1) => zV X zC_X11_odd M 41 [(0, .inr (.inr p0)), (1, .inl l1)] []
def zK_X11_odd_L41 (X : Zx) (p0 : Option Nat) (y : Zm × Int32) : Prop := match y with
  | (M, l1) => zV X zC_X11_odd M 79 [(0, .inr (.inr p0))] []
noncomputable def zf_X11_odd (M : Zm) (l0 : Option Nat) : Option (Zm × Int32) :=
  zb1 (zo_gr M l0 12 7) (fun v1 =>
  zb1 (zo_gr M l0 12 6) (fun v2 =>
  zb1 (zo_ar M 18 v2 (0 : Int32)) (fun v3 =>
  zb1 (zo_rc M v1 11) (fun _ => zbd (zf_X10_copyFrom M v1 v3) (fun M4 _ =>
  zb1 (zwhile (zf_X11_odd_L15 l0) (M4, (1 : Int32))) (fun y11 => match y11 with
  | (M15_11, l1_11) =>
  zb1 (zwhile (zf_X11_odd_L41 l0) (M15_11, (0 : Int32))) (fun y22 => match y22 with
  | (M41_22, l1_22) =>
  zb1 (zo_gr M41_22 l0 12 7) (fun v23 =>
  zb1 (zo_rc M41_22 v23 11) (fun _ => zbd (zf_X10_countUneven M41_22 v23) (fun M24 v24 =>
  some (M24, v24)))))))))))
set_option maxRecDepth 100000 in
theorem zt_X11_odd_L15 {X : Zx} {p0 : Option Nat} {x : Zm × Int32} {y : Zm × Int32} (h : zwhile (zf_X11_odd_L15 p0) x = some y) (hy : zK_X11_odd_L15 X p0 y) : zP_X11_odd_L15 X p0 x := by
  refine zwhile_ind (P := zP_X11_odd_L15 X p0) (K := zK_X11_odd_L15 X p0) ?_ h hy
  intro x z hf k1 k2
  obtain ⟨M, l1⟩ := x
  have h : zf_X11_odd_L15 p0 (M, l1) = some z := hf
  unfold zf_X11_odd_L15 at h
  show zV X zC_X11_odd M 15 [(0, .inr (.inr p0)), (1, .inl l1)] []
  refine zV_b (pc' := 17) (lv' := [(0, .inr (.inr p0)), (1, .inl l1)]) (st' := [.inl (5 : Int32), .inl l1]) [(.iload_n 1, 1), (.iconst 5, 1)] (by decide +kernel) rfl ?_
  refine zV_icmp_ge (off := 22) (tgt := 39) (by decide +kernel) (by decide) h (fun c5 h => ?_) (fun c5 h => ?_)
  · exact zV_lv (lv' := [(0, .inr (.inr p0))]) [0] rfl (k2 _ (Option.some.inj h).symm)
  · refine zV_b (pc' := 21) (lv' := [(0, .inr (.inr p0)), (1, .inl l1)]) (st' := [.inr (.inr p0)]) [(.aload_n 0, 1)] (by decide +kernel) rfl ?_
    refine zV_gr (by decide +kernel) zfl_RX11_55 (by decide) rfl h (fun v6 _ h => ?_)
    refine zV_b (pc' := 25) (lv' := [(0, .inr (.inr p0)), (1, .inl l1)]) (st' := [.inr (.inr p0), .inr (.inr v6)]) [(.aload_n 0, 1)] (by decide +kernel) rfl ?_
    refine zV_gr (by decide +kernel) zfl_RX11_50 (by decide) rfl h (fun v7 _ h => ?_)
    refine zV_b (pc' := 29) (lv' := [(0, .inr (.inr p0)), (1, .inl l1)]) (st' := [.inl l1, .inr (.inr v7), .inr (.inr v6)]) [(.iload_n 1, 1)] (by decide +kernel) rfl ?_
    refine zV_ar (by decide +kernel) (by decide) (by decide) h (fun v8 _ h => ?_)
    refine zV_cvv (As := [.inr (.inr v8)]) (st := []) (c := 11) (by decide +kernel) (zcl_X10_subtract (by decide) (by decide)) ⟨zw_1327, zw_1328, zw_1329⟩ ⟨⟨_, _, rfl⟩, by decide⟩ rfl rfl (Nat.le_of_ble_eq_true rfl) h (fun _ _ e => zc_X10_subtract e) (fun M9 _ _ h => ?_)
    refine zV_b (pc' := 36) (lv' := [(1, .inl (l1 + 1)), (0, .inr (.inr p0))]) (st' := []) [(.iinc 1 1, 3)] (by decide +kernel) rfl ?_
    refine zV_goto (off := (-21)) (tgt := 15) (by decide +kernel) (by decide) ?_
    exact zV_lv (lv' := [(0, .inr (.inr p0)), (1, .inl (l1 + 1))]) [1, 0] rfl (k1 _ (Option.some.inj h).symm)
set_option maxRecDepth 100000 in
theorem zt_X11_odd_L41 {X : Zx} {p0 : Option Nat} {x : Zm × Int32} {y : Zm × Int32} (h : zwhile (zf_X11_odd_L41 p0) x = some y) (hy : zK_X11_odd_L41 X p0 y) : zP_X11_odd_L41 X p0 x := by
  refine zwhile_ind (P := zP_X11_odd_L41 X p0) (K := zK_X11_odd_L41 X p0) ?_ h hy
  intro x z hf k1 k2
  obtain ⟨M, l1⟩ := x
  have h : zf_X11_odd_L41 p0 (M, l1) = some z := hf
  unfold zf_X11_odd_L41 at h
  show zV X zC_X11_odd M 41 [(0, .inr (.inr p0)), (1, .inl l1)] []
  refine zV_b (pc' := 43) (lv' := [(0, .inr (.inr p0)), (1, .inl l1)]) (st' := [.inr (.inr p0), .inl l1]) [(.iload_n 1, 1), (.aload_n 0, 1)] (by decide +kernel) rfl ?_
  refine zV_gr (by decide +kernel) zfl_RX11_12 (by decide) rfl h (fun v12 _ h => ?_)
  refine zV_cvi (As := []) (st := [.inl l1]) (c := 0) (by decide +kernel) (zcl_Jx4a65c_size_8abf5 (by decide) (by decide)) ⟨zw_473, zw_474, zw_475⟩ ⟨⟨_, _, rfl⟩, by decide⟩ rfl rfl (Nat.le_of_ble_eq_true rfl) h (fun _ _ e => zc_Jx4a65c_size_8abf5 e) (fun M13 v13 _ h => ?_)
  refine zV_icmp_ge (off := 30) (tgt := 79) (by decide +kernel) (by decide) h (fun c14 h => ?_) (fun c14 h => ?_)
  · exact zV_lv (lv' := [(0, .inr (.inr p0))]) [0] rfl (k2 _ (Option.some.inj h).symm)
  · refine zV_b (pc' := 53) (lv' := [(0, .inr (.inr p0)), (1, .inl l1)]) (st' := [.inr (.inr p0)]) [(.aload_n 0, 1)] (by decide +kernel) rfl ?_
    refine zV_gr (by decide +kernel) zfl_RX11_55 (by decide) rfl h (fun v15 _ h => ?_)
    refine zV_b (pc' := 57) (lv' := [(0, .inr (.inr p0)), (1, .inl l1)]) (st' := [.inr (.inr p0), .inr (.inr v15)]) [(.aload_n 0, 1)] (by decide +kernel) rfl ?_
    refine zV_gr (by decide +kernel) zfl_RX11_12 (by decide) rfl h (fun v16 _ h => ?_)
    refine zV_b (pc' := 61) (lv' := [(0, .inr (.inr p0)), (1, .inl l1)]) (st' := [.inl l1, .inr (.inr v16), .inr (.inr v15)]) [(.iload_n 1, 1)] (by decide +kernel) rfl ?_
    refine zV_cvr (As := [.inl l1]) (st := [.inr (.inr v15)]) (c := 0) (by decide +kernel) (zcl_Jx4a65c_get_915e3 (by decide) (by decide)) ⟨zw_670, zw_671, zw_672⟩ ⟨⟨_, _, rfl⟩, by decide⟩ rfl rfl (Nat.le_of_ble_eq_true rfl) h (fun _ _ e => zc_Jx4a65c_get_915e3 e) (fun M17 v17 _ h => ?_)
    refine zV_cc (by decide +kernel) zck_RX11_156 h (fun _ _ h => ?_)
    refine zV_gr (by decide +kernel) zfl_RX11_268 (by decide) rfl h (fun v19 _ h => ?_)
    refine zV_cvv (As := [.inr (.inr v19)]) (st := []) (c := 11) (by decide +kernel) (zcl_X10_subtract (by decide) (by decide)) ⟨zw_1327, zw_1328, zw_1329⟩ ⟨⟨_, _, rfl⟩, by decide⟩ rfl rfl (Nat.le_of_ble_eq_true rfl) h (fun _ _ e => zc_X10_subtract e) (fun M20 _ _ h => ?_)
    refine zV_b (pc' := 76) (lv' := [(1, .inl (l1 + 1)), (0, .inr (.inr p0))]) (st' := []) [(.iinc 1 1, 3)] (by decide +kernel) rfl ?_
    refine zV_goto (off := (-35)) (tgt := 41) (by decide +kernel) (by decide) ?_
    exact zV_lv (lv' := [(0, .inr (.inr p0)), (1, .inl (l1 + 1))]) [1, 0] rfl (k1 _ (Option.some.inj h).symm)
set_option maxRecDepth 100000 in
theorem zt_X11_odd {X : Zx} {M : Zm} {l0 : Option Nat} {z : Zm × Int32} (h : zf_X11_odd M l0 = some z) (hR : zRi X zC_X11_odd z.1 z.2) : zV X zC_X11_odd M 0 [(0, .inr (.inr l0))] [] := by
  unfold zf_X11_odd at h
  refine zV_b (pc' := 1) (lv' := [(0, .inr (.inr l0))]) (st' := [.inr (.inr l0)]) [(.aload_n 0, 1)] (by decide +kernel) rfl ?_
  refine zV_gr (by decide +kernel) zfl_RX11_55 (by decide) rfl h (fun v1 _ h => ?_)
  refine zV_b (pc' := 5) (lv' := [(0, .inr (.inr l0))]) (st' := [.inr (.inr l0), .inr (.inr v1)]) [(.aload_n 0, 1)] (by decide +kernel) rfl ?_
  refine zV_gr (by decide +kernel) zfl_RX11_50 (by decide) rfl h (fun v2 _ h => ?_)
  refine zV_b (pc' := 9) (lv' := [(0, .inr (.inr l0))]) (st' := [.inl (0 : Int32), .inr (.inr v2), .inr (.inr v1)]) [(.iconst 0, 1)] (by decide +kernel) rfl ?_
  refine zV_ar (by decide +kernel) (by decide) (by decide) h (fun v3 _ h => ?_)
  refine zV_cvv (As := [.inr (.inr v3)]) (st := []) (c := 11) (by decide +kernel) (zcl_X10_copyFrom (by decide) (by decide)) ⟨zw_1280, zw_705, zw_706⟩ ⟨⟨_, _, rfl⟩, by decide⟩ rfl rfl (Nat.le_of_ble_eq_true rfl) h (fun _ _ e => zc_X10_copyFrom e) (fun M4 _ _ h => ?_)
  refine zV_b (pc' := 15) (lv' := [(1, .inl (1 : Int32)), (0, .inr (.inr l0))]) (st' := []) [(.iconst 1, 1), (.istore_n 1, 1)] (by decide +kernel) rfl ?_
  obtain ⟨y11, e11, h⟩ := zb1_inv h
  refine zV_lv (lv' := [(0, .inr (.inr l0)), (1, .inl (1 : Int32))]) [1, 0] rfl (zt_X11_odd_L15 e11 ?_)
  obtain ⟨M15_11, l1_11⟩ := y11
  show zV X zC_X11_odd M15_11 39 [(0, .inr (.inr l0))] []
  refine zV_b (pc' := 41) (lv' := [(1, .inl (0 : Int32)), (0, .inr (.inr l0))]) (st' := []) [(.iconst 0, 1), (.istore_n 1, 1)] (by decide +kernel) rfl ?_
  obtain ⟨y22, e22, h⟩ := zb1_inv h
  refine zV_lv (lv' := [(0, .inr (.inr l0)), (1, .inl (0 : Int32))]) [1, 0] rfl (zt_X11_odd_L41 e22 ?_)
  obtain ⟨M41_22, l1_22⟩ := y22
  show zV X zC_X11_odd M41_22 79 [(0, .inr (.inr l0))] []
  refine zV_b (pc' := 80) (lv' := [(0, .inr (.inr l0))]) (st' := [.inr (.inr l0)]) [(.aload_n 0, 1)] (by decide +kernel) rfl ?_
  refine zV_gr (by decide +kernel) zfl_RX11_55 (by decide) rfl h (fun v23 _ h => ?_)
  refine zV_cvi (As := []) (st := []) (c := 11) (by decide +kernel) (zcl_X10_countUneven (by decide) (by decide)) ⟨zw_1332, zw_1333, zw_1334⟩ ⟨⟨_, _, rfl⟩, by decide⟩ rfl rfl (Nat.le_of_ble_eq_true rfl) h (fun _ _ e => zc_X10_countUneven e) (fun M24 v24 _ h => ?_)
  exact zend_i h hR (by decide +kernel)
theorem zc_X11_odd {M M' : Zm} {l0 : Option Nat} {x : Int32} (h : zf_X11_odd M l0 = some (M', x)) (l : Launch) (D : va_G) (cy : Nat → ClassId) : zMet l yX11_odd zC_X11_odd (some .int) D cy [.inr (.inr l0)] M M' (some (.inl x)) :=
  zM_i (by decide) rfl (fun h => by cases h) (Nat.le_of_ble_eq_true rfl) (fun X hR => zt_X11_odd h hR)
-- BlendCellar.part(II)J
def zC_X11_part : Zc := (cX11_part, 4, RX11, 4, 85, false)
theorem zcl_X11_part {C : Zc} (h1 : zC_X11_part.2.2.2.1 + 1 ≤ C.2.2.2.1) (h2 : 8 + (zC_X11_part.2.1 + 11) + zC_X11_part.2.2.2.2.1 ≤ C.2.2.2.2.1) : zCl C yX11_part zC_X11_part (some .long) 2 := ⟨zw_1305, zw_101, ⟨by decide, by decide⟩, by decide +kernel, h1, h2⟩
noncomputable def zf_X11_part (M : Zm) (l0 : Option Nat) (l1 : Int32) (l2 : Int32) : Option (Zm × Int64) :=
  zb1 (zo_rc M l0 12) (fun _ => zbd (zf_X11_find M l0 l1) (fun M1 v1 =>
  (if v1 = none then
  some (M1, (0 : Int64))
  else
  zb1 (zo_rc M1 v1 1) (fun _ => zbd (zf_X0_hasOf M1 v1 l2) (fun M5 v5 =>
  some (M5, v5))))))
set_option maxRecDepth 100000 in
theorem zt_X11_part {X : Zx} {M : Zm} {l0 : Option Nat} {l1 : Int32} {l2 : Int32} {z : Zm × Int64} (h : zf_X11_part M l0 l1 l2 = some z) (hR : zRj X zC_X11_part z.1 z.2) : zV X zC_X11_part M 0 [(0, .inr (.inr l0)), (1, .inl l1), (2, .inl l2)] [] := by
  unfold zf_X11_part at h
  refine zV_b (pc' := 2) (lv' := [(0, .inr (.inr l0)), (1, .inl l1), (2, .inl l2)]) (st' := [.inl l1, .inr (.inr l0)]) [(.aload_n 0, 1), (.iload_n 1, 1)] (by decide +kernel) rfl ?_
  refine zV_cvr (As := [.inl l1]) (st := []) (c := 12) (by decide +kernel) (zcl_X11_find (by decide) (by decide)) ⟨zw_751, zw_753, zw_16⟩ ⟨⟨_, _, rfl⟩, by decide⟩ rfl rfl (Nat.le_of_ble_eq_true rfl) h (fun _ _ e => zc_X11_find e) (fun M1 v1 _ h => ?_)
  refine zV_b (pc' := 7) (lv' := [(3, .inr (.inr v1)), (0, .inr (.inr l0)), (1, .inl l1), (2, .inl l2)]) (st' := [.inr (.inr v1)]) [(.astore_n 3, 1), (.aload_n 3, 1)] (by decide +kernel) rfl ?_
  refine zV_ifnonnull (off := 7) (tgt := 14) (by decide +kernel) (by decide) h (fun c2 h => ?_) (fun c2 h => ?_)
  · refine zV_b (pc' := 11) (lv' := [(3, .inr (.inr v1)), (0, .inr (.inr l0)), (1, .inl l1), (2, .inl l2)]) (st' := [.inr (.inl (0 : Int64))]) [(.lconst 0, 1)] (by decide +kernel) rfl ?_
    refine zV_goto (off := 8) (tgt := 19) (by decide +kernel) (by decide) ?_
    exact zend_j h hR (by decide +kernel)
  · refine zV_b (pc' := 16) (lv' := [(3, .inr (.inr v1)), (0, .inr (.inr l0)), (1, .inl l1), (2, .inl l2)]) (st' := [.inl l2, .inr (.inr v1)]) [(.aload_n 3, 1), (.iload_n 2, 1)] (by decide +kernel) rfl ?_
    refine zV_cvj (As := [.inl l2]) (st := []) (c := 1) (by decide +kernel) (zcl_X0_hasOf (by decide) (by decide)) ⟨zw_1306, zw_1307, zw_1308⟩ ⟨⟨_, _, rfl⟩, by decide⟩ rfl rfl (Nat.le_of_ble_eq_true rfl) h (fun _ _ e => zc_X0_hasOf e) (fun M5 v5 _ h => ?_)
    exact zend_j h hR (by decide +kernel)
theorem zc_X11_part {M M' : Zm} {l0 : Option Nat} {l1 : Int32} {l2 : Int32} {x : Int64} (h : zf_X11_part M l0 l1 l2 = some (M', x)) (l : Launch) (D : va_G) (cy : Nat → ClassId) : zMet l yX11_part zC_X11_part (some .long) D cy [.inr (.inr l0), .inl l1, .inl l2] M M' (some (.inr (.inl x))) :=
  zM_j (by decide) rfl (fun h => by cases h) (Nat.le_of_ble_eq_true rfl) (fun X hR => zt_X11_part h hR)
-- BlendCellar.partAt(II)J
def zC_X11_partAt : Zc := (cX11_partAt, 4, RX11, 5, 110, false)
theorem zcl_X11_partAt {C : Zc} (h1 : zC_X11_partAt.2.2.2.1 + 1 ≤ C.2.2.2.1) (h2 : 8 + (zC_X11_partAt.2.1 + 11) + zC_X11_partAt.2.2.2.2.1 ≤ C.2.2.2.2.1) : zCl C yX11_partAt zC_X11_partAt (some .long) 2 := ⟨zw_1051, zw_101, ⟨by decide, by decide⟩, by decide +kernel, h1, h2⟩
noncomputable def zf_X11_partAt_J42 (M : Zm) (s0 : Int64) (s1 : Option Nat) : Option (Zm × Int64) :=
  zb1 (zo_rc M s1 12) (fun _ => zbd (zf_X11_closeTap M s1 s0) (fun M10 v10 =>
  some (M10, v10)))
noncomputable def zf_X11_partAt (M : Zm) (l0 : Option Nat) (l1 : Int32) (l2 : Int32) : Option (Zm × Int64) :=
  zb1 (zo_rc M l0 12) (fun _ => zbd (zf_X11_openTap M l0) (fun M1 _ =>
  zb1 (zo_rc M1 l0 12) (fun _ => zbd (zf_X11_lookUpPart M1 l0 l1 l2) (fun M2 v2 =>
  (if v2 = 0 then
  zb1 (zo_gr M2 l0 12 0) (fun v4 =>
  zb1 (zo_rc M2 v4 0) (fun _ => zbd (zf_Jx4a65c_get_915e3 M2 v4 l1) (fun M5 v5 =>
  zb1 (zo_cc M5 v5 1) (fun _ =>
  zb1 (zo_gr M5 v5 1 5) (fun v7 =>
  zb1 (zo_gr M5 v7 11 0) (fun v8 =>
  zb1 (zo_ai M5 v8 l2) (fun v9 =>
  zf_X11_partAt_J42 M5 (v9.toInt64) l0)))))))
  else
  zf_X11_partAt_J42 M2 (((-v2)).toInt64) l0)))))
set_option maxRecDepth 100000 in
theorem zt_X11_partAt_J42 {X : Zx} {M : Zm} {s0 : Int64} {s1 : Option Nat} {z : Zm × Int64} (h : zf_X11_partAt_J42 M s0 s1 = some z) (hR : zRj X zC_X11_partAt z.1 z.2) : zV X zC_X11_partAt M 42 [] [.inr (.inl s0), .inr (.inr s1)] := by
  unfold zf_X11_partAt_J42 at h
  refine zV_cvj (As := [.inr (.inl s0)]) (st := []) (c := 12) (by decide +kernel) (zcl_X11_closeTap (by decide) (by decide)) ⟨zw_510, zw_512, zw_3⟩ ⟨⟨_, _, rfl⟩, by decide⟩ rfl rfl (Nat.le_of_ble_eq_true rfl) h (fun _ _ e => zc_X11_closeTap e) (fun M10 v10 _ h => ?_)
  exact zend_j h hR (by decide +kernel)
set_option maxRecDepth 100000 in
theorem zt_X11_partAt {X : Zx} {M : Zm} {l0 : Option Nat} {l1 : Int32} {l2 : Int32} {z : Zm × Int64} (h : zf_X11_partAt M l0 l1 l2 = some z) (hR : zRj X zC_X11_partAt z.1 z.2) : zV X zC_X11_partAt M 0 [(0, .inr (.inr l0)), (1, .inl l1), (2, .inl l2)] [] := by
  unfold zf_X11_partAt at h
  refine zV_b (pc' := 1) (lv' := [(0, .inr (.inr l0)), (1, .inl l1), (2, .inl l2)]) (st' := [.inr (.inr l0)]) [(.aload_n 0, 1)] (by decide +kernel) rfl ?_
  refine zV_cvv (As := []) (st := []) (c := 12) (by decide +kernel) (zcl_X11_openTap (by decide) (by decide)) ⟨zw_453, zw_455, zw_0⟩ ⟨⟨_, _, rfl⟩, by decide⟩ rfl rfl (Nat.le_of_ble_eq_true rfl) h (fun _ _ e => zc_X11_openTap e) (fun M1 _ _ h => ?_)
  refine zV_b (pc' := 7) (lv' := [(0, .inr (.inr l0)), (1, .inl l1), (2, .inl l2)]) (st' := [.inl l2, .inl l1, .inr (.inr l0)]) [(.aload_n 0, 1), (.iload_n 1, 1), (.iload_n 2, 1)] (by decide +kernel) rfl ?_
  refine zV_cvi (As := [.inl l1, .inl l2]) (st := []) (c := 12) (by decide +kernel) (zcl_X11_lookUpPart (by decide) (by decide)) ⟨zw_1052, zw_1054, zw_43⟩ ⟨⟨_, _, rfl⟩, by decide⟩ rfl rfl (Nat.le_of_ble_eq_true rfl) h (fun _ _ e => zc_X11_lookUpPart e) (fun M2 v2 _ h => ?_)
  refine zV_b (pc' := 13) (lv' := [(3, .inl v2), (0, .inr (.inr l0)), (1, .inl l1), (2, .inl l2)]) (st' := [.inl v2, .inr (.inr l0)]) [(.istore_n 3, 1), (.aload_n 0, 1), (.iload_n 3, 1)] (by decide +kernel) rfl ?_
  refine zV_if_eq (off := 9) (tgt := 22) (by decide +kernel) (by decide) h (fun c3 h => ?_) (fun c3 h => ?_)
  · refine zV_b (pc' := 23) (lv' := [(3, .inl v2), (0, .inr (.inr l0)), (1, .inl l1), (2, .inl l2)]) (st' := [.inr (.inr l0), .inr (.inr l0)]) [(.aload_n 0, 1)] (by decide +kernel) rfl ?_
    refine zV_gr (by decide +kernel) zfl_RX11_12 (by decide) rfl h (fun v4 _ h => ?_)
    refine zV_b (pc' := 27) (lv' := [(3, .inl v2), (0, .inr (.inr l0)), (1, .inl l1), (2, .inl l2)]) (st' := [.inl l1, .inr (.inr v4), .inr (.inr l0)]) [(.iload_n 1, 1)] (by decide +kernel) rfl ?_
    refine zV_cvr (As := [.inl l1]) (st := [.inr (.inr l0)]) (c := 0) (by decide +kernel) (zcl_Jx4a65c_get_915e3 (by decide) (by decide)) ⟨zw_670, zw_671, zw_672⟩ ⟨⟨_, _, rfl⟩, by decide⟩ rfl rfl (Nat.le_of_ble_eq_true rfl) h (fun _ _ e => zc_Jx4a65c_get_915e3 e) (fun M5 v5 _ h => ?_)
    refine zV_cc (by decide +kernel) zck_RX11_156 h (fun _ _ h => ?_)
    refine zV_gr (by decide +kernel) zfl_RX11_268 (by decide) rfl h (fun v7 _ h => ?_)
    refine zV_gr (by decide +kernel) zfl_RX11_422 (by decide) rfl h (fun v8 _ h => ?_)
    refine zV_b (pc' := 40) (lv' := [(3, .inl v2), (0, .inr (.inr l0)), (1, .inl l1), (2, .inl l2)]) (st' := [.inl l2, .inr (.inr v8), .inr (.inr l0)]) [(.iload_n 2, 1)] (by decide +kernel) rfl ?_
    refine zV_ai (by decide +kernel) h (fun v9 _ h => ?_)
    refine zV_b (pc' := 42) (lv' := [(3, .inl v2), (0, .inr (.inr l0)), (1, .inl l1), (2, .inl l2)]) (st' := [.inr (.inl (v9.toInt64)), .inr (.inr l0)]) [(.i2l, 1)] (by decide +kernel) rfl ?_
    exact zV_lv (lv' := []) [] rfl (zt_X11_partAt_J42 h hR)
  · refine zV_b (pc' := 19) (lv' := [(3, .inl v2), (0, .inr (.inr l0)), (1, .inl l1), (2, .inl l2)]) (st' := [.inr (.inl (((-v2)).toInt64)), .inr (.inr l0)]) [(.iload_n 3, 1), (.ineg, 1), (.i2l, 1)] (by decide +kernel) rfl ?_
    refine zV_goto (off := 23) (tgt := 42) (by decide +kernel) (by decide) ?_
    exact zV_lv (lv' := []) [] rfl (zt_X11_partAt_J42 h hR)
theorem zc_X11_partAt {M M' : Zm} {l0 : Option Nat} {l1 : Int32} {l2 : Int32} {x : Int64} (h : zf_X11_partAt M l0 l1 l2 = some (M', x)) (l : Launch) (D : va_G) (cy : Nat → ClassId) : zMet l yX11_partAt zC_X11_partAt (some .long) D cy [.inr (.inr l0), .inl l1, .inl l2] M M' (some (.inr (.inl x))) :=
  zM_j (by decide) rfl (fun h => by cases h) (Nat.le_of_ble_eq_true rfl) (fun X hR => zt_X11_partAt h hR)
-- BlendCellar.parts(I)I
def zC_X11_parts : Zc := (cX11_parts, 3, RX11, 4, 85, false)
theorem zcl_X11_parts {C : Zc} (h1 : zC_X11_parts.2.2.2.1 + 1 ≤ C.2.2.2.1) (h2 : 8 + (zC_X11_parts.2.1 + 11) + zC_X11_parts.2.2.2.2.1 ≤ C.2.2.2.2.1) : zCl C yX11_parts zC_X11_parts (some .int) 1 := ⟨zw_1314, zw_101, ⟨by decide, by decide⟩, by decide +kernel, h1, h2⟩
noncomputable def zf_X11_parts (M : Zm) (l0 : Option Nat) (l1 : Int32) : Option (Zm × Int32) :=
  zb1 (zo_rc M l0 12) (fun _ => zbd (zf_X11_find M l0 l1) (fun M1 v1 =>
  (if v1 = none then
  some (M1, (0 : Int32))
  else
  zb1 (zo_rc M1 v1 1) (fun _ => zbd (zf_X0_countInside M1 v1) (fun M5 v5 =>
  some (M5, v5))))))
set_option maxRecDepth 100000 in
theorem zt_X11_parts {X : Zx} {M : Zm} {l0 : Option Nat} {l1 : Int32} {z : Zm × Int32} (h : zf_X11_parts M l0 l1 = some z) (hR : zRi X zC_X11_parts z.1 z.2) : zV X zC_X11_parts M 0 [(0, .inr (.inr l0)), (1, .inl l1)] [] := by
  unfold zf_X11_parts at h
  refine zV_b (pc' := 2) (lv' := [(0, .inr (.inr l0)), (1, .inl l1)]) (st' := [.inl l1, .inr (.inr l0)]) [(.aload_n 0, 1), (.iload_n 1, 1)] (by decide +kernel) rfl ?_
  refine zV_cvr (As := [.inl l1]) (st := []) (c := 12) (by decide +kernel) (zcl_X11_find (by decide) (by decide)) ⟨zw_751, zw_753, zw_16⟩ ⟨⟨_, _, rfl⟩, by decide⟩ rfl rfl (Nat.le_of_ble_eq_true rfl) h (fun _ _ e => zc_X11_find e) (fun M1 v1 _ h => ?_)
  refine zV_b (pc' := 7) (lv' := [(2, .inr (.inr v1)), (0, .inr (.inr l0)), (1, .inl l1)]) (st' := [.inr (.inr v1)]) [(.astore_n 2, 1), (.aload_n 2, 1)] (by decide +kernel) rfl ?_
  refine zV_ifnonnull (off := 7) (tgt := 14) (by decide +kernel) (by decide) h (fun c2 h => ?_) (fun c2 h => ?_)
  · refine zV_b (pc' := 11) (lv' := [(2, .inr (.inr v1)), (0, .inr (.inr l0)), (1, .inl l1)]) (st' := [.inl (0 : Int32)]) [(.iconst 0, 1)] (by decide +kernel) rfl ?_
    refine zV_goto (off := 7) (tgt := 18) (by decide +kernel) (by decide) ?_
    exact zend_i h hR (by decide +kernel)
  · refine zV_b (pc' := 15) (lv' := [(2, .inr (.inr v1)), (0, .inr (.inr l0)), (1, .inl l1)]) (st' := [.inr (.inr v1)]) [(.aload_n 2, 1)] (by decide +kernel) rfl ?_
    refine zV_cvi (As := []) (st := []) (c := 1) (by decide +kernel) (zcl_X0_countInside (by decide) (by decide)) ⟨zw_1315, zw_1316, zw_1317⟩ ⟨⟨_, _, rfl⟩, by decide⟩ rfl rfl (Nat.le_of_ble_eq_true rfl) h (fun _ _ e => zc_X0_countInside e) (fun M5 v5 _ h => ?_)
    exact zend_i h hR (by decide +kernel)
theorem zc_X11_parts {M M' : Zm} {l0 : Option Nat} {l1 : Int32} {x : Int32} (h : zf_X11_parts M l0 l1 = some (M', x)) (l : Launch) (D : va_G) (cy : Nat → ClassId) : zMet l yX11_parts zC_X11_parts (some .int) D cy [.inr (.inr l0), .inl l1] M M' (some (.inl x)) :=
  zM_i (by decide) rfl (fun h => by cases h) (Nat.le_of_ble_eq_true rfl) (fun X hR => zt_X11_parts h hR)
-- BlendCellar.pickBarrel(IJ)J
def zC_X11_pickBarrel : Zc := (cX11_pickBarrel, 5, RX11, 3, 64, false)
theorem zcl_X11_pickBarrel {C : Zc} (h1 : zC_X11_pickBarrel.2.2.2.1 + 1 ≤ C.2.2.2.1) (h2 : 8 + (zC_X11_pickBarrel.2.1 + 11) + zC_X11_pickBarrel.2.2.2.2.1 ≤ C.2.2.2.2.1) : zCl C yX11_pickBarrel zC_X11_pickBarrel (some .long) 2 := ⟨zw_946, zw_101, ⟨by decide, by decide⟩, by decide +kernel, h1, h2⟩
noncomputable def zf_X11_pickBarrel (M : Zm) (l0 : Option Nat) (l1 : Int32) (l2 : Int64) : Option (Zm × Int64) :=
  zbd (zf_X11_isMl M l2) (fun M1 v1 =>
  (if v1 = 0 then
  some (M1, (-1 : Int64))
  else
  zb1 (zo_rc M1 l0 12) (fun _ => zbd (zf_X11_lookUp M1 l0 l1) (fun M5 v5 =>
  (if v5 = 0 then
  zb1 (zo_gr M5 l0 12 3) (fun v7 =>
  zb1 (zo_rc M5 v7 6) (fun _ => zbd (zf_X5_has M5 v7 l1) (fun M8 v8 =>
  (if v8 = 0 then
  zb1 (zo_gr M8 l0 12 3) (fun v10 =>
  zb1 (zo_gi M8 v10 6 2) (fun v11 =>
  (if v11 < (8 : Int32) then
  zb1 (zo_gr M8 l0 12 3) (fun v13 =>
  zb1 (zo_gr M8 l0 12 0) (fun v14 =>
  zb1 (zo_rc M8 v14 0) (fun _ => zbd (zf_Jx4a65c_get_915e3 M8 v14 l1) (fun M15 v15 =>
  zb1 (zo_cc M15 v15 1) (fun _ =>
  zb1 (zo_rc M15 v13 6) (fun _ => zbd (zf_X5_add M15 v13 v15 l2) (fun M17 _ =>
  zb1 (zo_gr M17 l0 12 3) (fun v18 =>
  zb1 (zo_gi M17 v18 6 2) (fun v19 =>
  some (M17, (v19.toInt64)))))))))))
  else
  some (M8, (-12 : Int64)))))
  else
  some (M8, (-13 : Int64))))))
  else
  some (M5, (((-v5)).toInt64)))))))
set_option maxRecDepth 100000 in
theorem zt_X11_pickBarrel {X : Zx} {M : Zm} {l0 : Option Nat} {l1 : Int32} {l2 : Int64} {z : Zm × Int64} (h : zf_X11_pickBarrel M l0 l1 l2 = some z) (hR : zRj X zC_X11_pickBarrel z.1 z.2) : zV X zC_X11_pickBarrel M 0 [(0, .inr (.inr l0)), (1, .inl l1), (2, .inr (.inl l2))] [] := by
  unfold zf_X11_pickBarrel at h
  refine zV_b (pc' := 1) (lv' := [(0, .inr (.inr l0)), (1, .inl l1), (2, .inr (.inl l2))]) (st' := [.inr (.inl l2)]) [(.lload_n 2, 1)] (by decide +kernel) rfl ?_
  refine zV_csi (As := [.inr (.inl l2)]) (st := []) (by decide +kernel) (zcl_X11_isMl (by decide) (by decide)) ⟨zw_772, zw_773⟩ rfl rfl (Nat.le_of_ble_eq_true rfl) h (fun _ _ e => zc_X11_isMl e) (fun M1 v1 _ h => ?_)
  refine zV_if_ne (off := 7) (tgt := 11) (by decide +kernel) (by decide) h (fun c2 h => ?_) (fun c2 h => ?_)
  · refine zV_ldc2 (by decide +kernel) zw_465 ?_
    exact zend_j h hR (by decide +kernel)
  · refine zV_b (pc' := 13) (lv' := [(0, .inr (.inr l0)), (1, .inl l1), (2, .inr (.inl l2))]) (st' := [.inl l1, .inr (.inr l0)]) [(.aload_n 0, 1), (.iload_n 1, 1)] (by decide +kernel) rfl ?_
    refine zV_cvi (As := [.inl l1]) (st := []) (c := 12) (by decide +kernel) (zcl_X11_lookUp (by decide) (by decide)) ⟨zw_666, zw_668, zw_10⟩ ⟨⟨_, _, rfl⟩, by decide⟩ rfl rfl (Nat.le_of_ble_eq_true rfl) h (fun _ _ e => zc_X11_lookUp e) (fun M5 v5 _ h => ?_)
    refine zV_b (pc' := 20) (lv' := [(4, .inl v5), (0, .inr (.inr l0)), (1, .inl l1), (2, .inr (.inl l2))]) (st' := [.inl v5]) [(.istore 4, 2), (.iload 4, 2)] (by decide +kernel) rfl ?_
    refine zV_if_eq (off := 8) (tgt := 28) (by decide +kernel) (by decide) h (fun c6 h => ?_) (fun c6 h => ?_)
    · refine zV_b (pc' := 29) (lv' := [(4, .inl v5), (0, .inr (.inr l0)), (1, .inl l1), (2, .inr (.inl l2))]) (st' := [.inr (.inr l0)]) [(.aload_n 0, 1)] (by decide +kernel) rfl ?_
      refine zV_gr (by decide +kernel) zfl_RX11_28 (by decide) rfl h (fun v7 _ h => ?_)
      refine zV_b (pc' := 33) (lv' := [(4, .inl v5), (0, .inr (.inr l0)), (1, .inl l1), (2, .inr (.inl l2))]) (st' := [.inl l1, .inr (.inr v7)]) [(.iload_n 1, 1)] (by decide +kernel) rfl ?_
      refine zV_cvi (As := [.inl l1]) (st := []) (c := 6) (by decide +kernel) (zcl_X5_has (by decide) (by decide)) ⟨zw_947, zw_948, zw_949⟩ ⟨⟨_, _, rfl⟩, by decide⟩ rfl rfl (Nat.le_of_ble_eq_true rfl) h (fun _ _ e => zc_X5_has e) (fun M8 v8 _ h => ?_)
      refine zV_if_eq (off := 7) (tgt := 43) (by decide +kernel) (by decide) h (fun c9 h => ?_) (fun c9 h => ?_)
      · refine zV_b (pc' := 44) (lv' := [(4, .inl v5), (0, .inr (.inr l0)), (1, .inl l1), (2, .inr (.inl l2))]) (st' := [.inr (.inr l0)]) [(.aload_n 0, 1)] (by decide +kernel) rfl ?_
        refine zV_gr (by decide +kernel) zfl_RX11_28 (by decide) rfl h (fun v10 _ h => ?_)
        refine zV_gi (by decide +kernel) zfl_RX11_343 (by decide) rfl (Or.inl rfl) h (fun v11 _ h => ?_)
        refine zV_b (pc' := 52) (lv' := [(4, .inl v5), (0, .inr (.inr l0)), (1, .inl l1), (2, .inr (.inl l2))]) (st' := [.inl (8 : Int32), .inl v11]) [(.bipush 8, 2)] (by decide +kernel) rfl ?_
        refine zV_icmp_lt (off := 7) (tgt := 59) (by decide +kernel) (by decide) h (fun c12 h => ?_) (fun c12 h => ?_)
        · refine zV_b (pc' := 60) (lv' := [(4, .inl v5), (0, .inr (.inr l0)), (1, .inl l1), (2, .inr (.inl l2))]) (st' := [.inr (.inr l0)]) [(.aload_n 0, 1)] (by decide +kernel) rfl ?_
          refine zV_gr (by decide +kernel) zfl_RX11_28 (by decide) rfl h (fun v13 _ h => ?_)
          refine zV_b (pc' := 64) (lv' := [(4, .inl v5), (0, .inr (.inr l0)), (1, .inl l1), (2, .inr (.inl l2))]) (st' := [.inr (.inr l0), .inr (.inr v13)]) [(.aload_n 0, 1)] (by decide +kernel) rfl ?_
          refine zV_gr (by decide +kernel) zfl_RX11_12 (by decide) rfl h (fun v14 _ h => ?_)
          refine zV_b (pc' := 68) (lv' := [(4, .inl v5), (0, .inr (.inr l0)), (1, .inl l1), (2, .inr (.inl l2))]) (st' := [.inl l1, .inr (.inr v14), .inr (.inr v13)]) [(.iload_n 1, 1)] (by decide +kernel) rfl ?_
          refine zV_cvr (As := [.inl l1]) (st := [.inr (.inr v13)]) (c := 0) (by decide +kernel) (zcl_Jx4a65c_get_915e3 (by decide) (by decide)) ⟨zw_670, zw_671, zw_672⟩ ⟨⟨_, _, rfl⟩, by decide⟩ rfl rfl (Nat.le_of_ble_eq_true rfl) h (fun _ _ e => zc_Jx4a65c_get_915e3 e) (fun M15 v15 _ h => ?_)
          refine zV_cc (by decide +kernel) zck_RX11_156 h (fun _ _ h => ?_)
          refine zV_b (pc' := 75) (lv' := [(4, .inl v5), (0, .inr (.inr l0)), (1, .inl l1), (2, .inr (.inl l2))]) (st' := [.inr (.inl l2), .inr (.inr v15), .inr (.inr v13)]) [(.lload_n 2, 1)] (by decide +kernel) rfl ?_
          refine zV_cvv (As := [.inr (.inr v15), .inr (.inl l2)]) (st := []) (c := 6) (by decide +kernel) (zcl_X5_add (by decide) (by decide)) ⟨zw_952, zw_953, zw_954⟩ ⟨⟨_, _, rfl⟩, by decide⟩ rfl rfl (Nat.le_of_ble_eq_true rfl) h (fun _ _ e => zc_X5_add e) (fun M17 _ _ h => ?_)
          refine zV_b (pc' := 79) (lv' := [(4, .inl v5), (0, .inr (.inr l0)), (1, .inl l1), (2, .inr (.inl l2))]) (st' := [.inr (.inr l0)]) [(.aload_n 0, 1)] (by decide +kernel) rfl ?_
          refine zV_gr (by decide +kernel) zfl_RX11_28 (by decide) rfl h (fun v18 _ h => ?_)
          refine zV_gi (by decide +kernel) zfl_RX11_343 (by decide) rfl (Or.inl rfl) h (fun v19 _ h => ?_)
          refine zV_b (pc' := 86) (lv' := [(4, .inl v5), (0, .inr (.inr l0)), (1, .inl l1), (2, .inr (.inl l2))]) (st' := [.inr (.inl (v19.toInt64))]) [(.i2l, 1)] (by decide +kernel) rfl ?_
          exact zend_j h hR (by decide +kernel)
        · refine zV_ldc2 (by decide +kernel) zw_527 ?_
          exact zend_j h hR (by decide +kernel)
      · refine zV_ldc2 (by decide +kernel) zw_951 ?_
        exact zend_j h hR (by decide +kernel)
    · refine zV_b (pc' := 27) (lv' := [(4, .inl v5), (0, .inr (.inr l0)), (1, .inl l1), (2, .inr (.inl l2))]) (st' := [.inr (.inl (((-v5)).toInt64))]) [(.iload 4, 2), (.ineg, 1), (.i2l, 1)] (by decide +kernel) rfl ?_
      exact zend_j h hR (by decide +kernel)
theorem zc_X11_pickBarrel {M M' : Zm} {l0 : Option Nat} {l1 : Int32} {l2 : Int64} {x : Int64} (h : zf_X11_pickBarrel M l0 l1 l2 = some (M', x)) (l : Launch) (D : va_G) (cy : Nat → ClassId) : zMet l yX11_pickBarrel zC_X11_pickBarrel (some .long) D cy [.inr (.inr l0), .inl l1, .inr (.inl l2)] M M' (some (.inr (.inl x))) :=
  zM_j (by decide) rfl (fun h => by cases h) (Nat.le_of_ble_eq_true rfl) (fun X hR => zt_X11_pickBarrel h hR)
-- BlendCellar.pick(IJ)J
def zC_X11_pick : Zc := (cX11_pick, 4, RX11, 4, 88, false)
theorem zcl_X11_pick {C : Zc} (h1 : zC_X11_pick.2.2.2.1 + 1 ≤ C.2.2.2.1) (h2 : 8 + (zC_X11_pick.2.1 + 11) + zC_X11_pick.2.2.2.2.1 ≤ C.2.2.2.2.1) : zCl C yX11_pick zC_X11_pick (some .long) 2 := ⟨zw_942, zw_101, ⟨by decide, by decide⟩, by decide +kernel, h1, h2⟩
noncomputable def zf_X11_pick (M : Zm) (l0 : Option Nat) (l1 : Int32) (l2 : Int64) : Option (Zm × Int64) :=
  zb1 (zo_rc M l0 12) (fun _ => zbd (zf_X11_openTap M l0) (fun M1 _ =>
  zb1 (zo_rc M1 l0 12) (fun _ => zbd (zf_X11_pickBarrel M1 l0 l1 l2) (fun M2 v2 =>
  zb1 (zo_rc M2 l0 12) (fun _ => zbd (zf_X11_closeTap M2 l0 v2) (fun M3 v3 =>
  some (M3, v3)))))))
set_option maxRecDepth 100000 in
theorem zt_X11_pick {X : Zx} {M : Zm} {l0 : Option Nat} {l1 : Int32} {l2 : Int64} {z : Zm × Int64} (h : zf_X11_pick M l0 l1 l2 = some z) (hR : zRj X zC_X11_pick z.1 z.2) : zV X zC_X11_pick M 0 [(0, .inr (.inr l0)), (1, .inl l1), (2, .inr (.inl l2))] [] := by
  unfold zf_X11_pick at h
  refine zV_b (pc' := 1) (lv' := [(0, .inr (.inr l0)), (1, .inl l1), (2, .inr (.inl l2))]) (st' := [.inr (.inr l0)]) [(.aload_n 0, 1)] (by decide +kernel) rfl ?_
  refine zV_cvv (As := []) (st := []) (c := 12) (by decide +kernel) (zcl_X11_openTap (by decide) (by decide)) ⟨zw_453, zw_455, zw_0⟩ ⟨⟨_, _, rfl⟩, by decide⟩ rfl rfl (Nat.le_of_ble_eq_true rfl) h (fun _ _ e => zc_X11_openTap e) (fun M1 _ _ h => ?_)
  refine zV_b (pc' := 8) (lv' := [(0, .inr (.inr l0)), (1, .inl l1), (2, .inr (.inl l2))]) (st' := [.inr (.inl l2), .inl l1, .inr (.inr l0), .inr (.inr l0)]) [(.aload_n 0, 1), (.aload_n 0, 1), (.iload_n 1, 1), (.lload_n 2, 1)] (by decide +kernel) rfl ?_
  refine zV_cvj (As := [.inl l1, .inr (.inl l2)]) (st := [.inr (.inr l0)]) (c := 12) (by decide +kernel) (zcl_X11_pickBarrel (by decide) (by decide)) ⟨zw_943, zw_945, zw_34⟩ ⟨⟨_, _, rfl⟩, by decide⟩ rfl rfl (Nat.le_of_ble_eq_true rfl) h (fun _ _ e => zc_X11_pickBarrel e) (fun M2 v2 _ h => ?_)
  refine zV_cvj (As := [.inr (.inl v2)]) (st := []) (c := 12) (by decide +kernel) (zcl_X11_closeTap (by decide) (by decide)) ⟨zw_510, zw_512, zw_3⟩ ⟨⟨_, _, rfl⟩, by decide⟩ rfl rfl (Nat.le_of_ble_eq_true rfl) h (fun _ _ e => zc_X11_closeTap e) (fun M3 v3 _ h => ?_)
  exact zend_j h hR (by decide +kernel)
theorem zc_X11_pick {M M' : Zm} {l0 : Option Nat} {l1 : Int32} {l2 : Int64} {x : Int64} (h : zf_X11_pick M l0 l1 l2 = some (M', x)) (l : Launch) (D : va_G) (cy : Nat → ClassId) : zMet l yX11_pick zC_X11_pick (some .long) D cy [.inr (.inr l0), .inl l1, .inr (.inl l2)] M M' (some (.inr (.inl x))) :=
  zM_j (by decide) rfl (fun h => by cases h) (Nat.le_of_ble_eq_true rfl) (fun X hR => zt_X11_pick h hR)
-- BlendCellar.picked()I
def zC_X11_picked : Zc := (cX11_picked, 1, RX11, 0, 0, false)
theorem zcl_X11_picked {C : Zc} (h1 : zC_X11_picked.2.2.2.1 + 1 ≤ C.2.2.2.1) (h2 : 8 + (zC_X11_picked.2.1 + 11) + zC_X11_picked.2.2.2.2.1 ≤ C.2.2.2.2.1) : zCl C yX11_picked zC_X11_picked (some .int) 0 := ⟨zw_1413, zw_101, ⟨by decide, by decide⟩, by decide +kernel, h1, h2⟩
noncomputable def zf_X11_picked (M : Zm) (l0 : Option Nat) : Option (Zm × Int32) :=
  zb1 (zo_gr M l0 12 3) (fun v1 =>
  zb1 (zo_gi M v1 6 2) (fun v2 =>
  some (M, v2)))
set_option maxRecDepth 100000 in
theorem zt_X11_picked {X : Zx} {M : Zm} {l0 : Option Nat} {z : Zm × Int32} (h : zf_X11_picked M l0 = some z) (hR : zRi X zC_X11_picked z.1 z.2) : zV X zC_X11_picked M 0 [(0, .inr (.inr l0))] [] := by
  unfold zf_X11_picked at h
  refine zV_b (pc' := 1) (lv' := [(0, .inr (.inr l0))]) (st' := [.inr (.inr l0)]) [(.aload_n 0, 1)] (by decide +kernel) rfl ?_
  refine zV_gr (by decide +kernel) zfl_RX11_28 (by decide) rfl h (fun v1 _ h => ?_)
  refine zV_gi (by decide +kernel) zfl_RX11_343 (by decide) rfl (Or.inl rfl) h (fun v2 _ h => ?_)
  exact zend_i h hR (by decide +kernel)
theorem zc_X11_picked {M M' : Zm} {l0 : Option Nat} {x : Int32} (h : zf_X11_picked M l0 = some (M', x)) (l : Launch) (D : va_G) (cy : Nat → ClassId) : zMet l yX11_picked zC_X11_picked (some .int) D cy [.inr (.inr l0)] M M' (some (.inl x)) :=
  zM_i (by decide) rfl (fun h => by cases h) (Nat.le_of_ble_eq_true rfl) (fun X hR => zt_X11_picked h hR)
-- BlendCellar.planBlend(IJI)J
def zC_X11_planBlend : Zc := (cX11_planBlend, 9, RX11, 38, 1011, false)
theorem zcl_X11_planBlend {C : Zc} (h1 : zC_X11_planBlend.2.2.2.1 + 1 ≤ C.2.2.2.1) (h2 : 8 + (zC_X11_planBlend.2.1 + 11) + zC_X11_planBlend.2.2.2.2.1 ≤ C.2.2.2.2.1) : zCl C yX11_planBlend zC_X11_planBlend (some .long) 3 := ⟨zw_1194, zw_101, ⟨by decide, by decide⟩, by decide +kernel, h1, h2⟩
noncomputable def zf_X11_planBlend_L74 (p0 : Option Nat) (p4 : Int32) (p6 : Int32) (x : Zm × Int32) : Option ((Zm × Int32) ⊕ (Zm × Int32)) := match x with
  | (M, l7) =>
  zb1 (zo_gr M p0 12 3) (fun v15 =>
  zb1 (zo_gi M v15 6 2) (fun v16 =>
  (if v16 ≤ l7 then
  some (.inr (M, l7))
  else
  zb1 (zo_rc M p0 12) (fun _ => zbd (zf_X11_askForPlan M p0 l7 (p4.toInt64) p6) (fun M18 _ =>
  some (.inl (M18, (l7 + 1))))))))
def zP_X11_planBlend_L74 (X : Zx) (p0 : Option Nat) (p4 : Int32) (p6 : Int32) (x : Zm × Int32) : Prop := match x with
  | (M, l7) => zV X zC_X11_planBlend M 74 [(0, .inr (.inr p0)), (4, .inl p4), (6, .inl p6), (7, .inl l7)] []
def zK_X11_planBlend_L74 (X : Zx) (p0 : Option Nat) (p4 : Int32) (p6 : Int32) (y : Zm × Int32) : Prop := match y with
  | (M, l7) => zV X zC_X11_planBlend M 103 [(0, .inr (.inr p0)), (4, .inl p4), (6, .inl p6)] []
noncomputable def zf_X11_planBlend_J27 (M : Zm) (l0 : Option Nat) (l1 : Int32) (l2 : Int64) (l4 : Int32) (l5 : Int32) : Option (Zm × Int64) :=
  (if l5 = 0 then
  zb1 (zo_ld l2 (l4.toInt64)) (fun v7 =>
  zb1 (zo_gr M l0 12 5) (fun v8 =>
  zb1 (zo_gr M l0 12 2) (fun v9 =>
  zb1 (zo_rc M v9 0) (fun _ => zbd (zf_Jx4a65c_get_915e3 M v9 l1) (fun M10 v10 =>
  zb1 (zo_cc M10 v10 4) (fun _ =>
  zb1 (zo_gr M10 l0 12 3) (fun v12 =>
  zb1 (zo_gi M10 v12 6 2) (fun v13 =>
  zb1 (zo_rc M10 v8 7) (fun _ => zbd (zf_X6_begin M10 v8 v10 v13 l2) (fun M14 _ =>
  zb1 (zwhile (zf_X11_planBlend_L74 l0 l4 (v7.toInt32)) (M14, (0 : Int32))) (fun y20 => match y20 with
  | (M74_20, l7_20) =>
  zb1 (zo_gr M74_20 l0 12 5) (fun v21 =>
  zb1 (zo_rc M74_20 v21 7) (fun _ => zbd (zf_X6_search M74_20 v21 (v7.toInt32)) (fun M22 v22 =>
  (if (0 : Int64) ≤ v22 then
  zb1 (zo_gr M22 l0 12 5) (fun v24 =>
  zb1 (zo_rc M22 v24 7) (fun _ => zbd (zf_X6_settle M22 v24 (l4.toInt64)) (fun M25 _ =>
  some (M25, v22))))
  else
  some (M22, (-14 : Int64)))))))))))))))))
  else
  some (M, (((-l5)).toInt64)))
noncomputable def zf_X11_planBlend (M : Zm) (l0 : Option Nat) (l1 : Int32) (l2 : Int64) (l4 : Int32) : Option (Zm × Int64) :=
  zbd (zf_X11_checkSteps M l2 l4) (fun M1 v1 =>
  zb1 (zo_rc M1 l0 12) (fun _ => zbd (zf_X11_lookUpLabel M1 l0 l1) (fun M2 v2 =>
  zbd (zf_X11_firstOf M2 v1 v2) (fun M3 v3 =>
  (if v3 = 0 then
  zb1 (zo_rc M3 l0 12) (fun _ => zbd (zf_X11_checkPicksForPlan M3 l0) (fun M5 v5 =>
  zf_X11_planBlend_J27 M5 l0 l1 l2 l4 v5))
  else
  zf_X11_planBlend_J27 M3 l0 l1 l2 l4 v3)))))
set_option maxRecDepth 100000 in
theorem zt_X11_planBlend_L74 {X : Zx} {p0 : Option Nat} {p4 : Int32} {p6 : Int32} {x : Zm × Int32} {y : Zm × Int32} (h : zwhile (zf_X11_planBlend_L74 p0 p4 p6) x = some y) (hy : zK_X11_planBlend_L74 X p0 p4 p6 y) : zP_X11_planBlend_L74 X p0 p4 p6 x := by
  refine zwhile_ind (P := zP_X11_planBlend_L74 X p0 p4 p6) (K := zK_X11_planBlend_L74 X p0 p4 p6) ?_ h hy
  intro x z hf k1 k2
  obtain ⟨M, l7⟩ := x
  have h : zf_X11_planBlend_L74 p0 p4 p6 (M, l7) = some z := hf
  unfold zf_X11_planBlend_L74 at h
  show zV X zC_X11_planBlend M 74 [(0, .inr (.inr p0)), (4, .inl p4), (6, .inl p6), (7, .inl l7)] []
  refine zV_b (pc' := 77) (lv' := [(0, .inr (.inr p0)), (4, .inl p4), (6, .inl p6), (7, .inl l7)]) (st' := [.inr (.inr p0), .inl l7]) [(.iload 7, 2), (.aload_n 0, 1)] (by decide +kernel) rfl ?_
  refine zV_gr (by decide +kernel) zfl_RX11_28 (by decide) rfl h (fun v15 _ h => ?_)
  refine zV_gi (by decide +kernel) zfl_RX11_343 (by decide) rfl (Or.inl rfl) h (fun v16 _ h => ?_)
  refine zV_icmp_ge (off := 20) (tgt := 103) (by decide +kernel) (by decide) h (fun c17 h => ?_) (fun c17 h => ?_)
  · exact zV_lv (lv' := [(0, .inr (.inr p0)), (4, .inl p4), (6, .inl p6)]) [0, 1, 2] rfl (k2 _ (Option.some.inj h).symm)
  · refine zV_b (pc' := 94) (lv' := [(0, .inr (.inr p0)), (4, .inl p4), (6, .inl p6), (7, .inl l7)]) (st' := [.inl p6, .inr (.inl (p4.toInt64)), .inl l7, .inr (.inr p0)]) [(.aload_n 0, 1), (.iload 7, 2), (.iload 4, 2), (.i2l, 1), (.iload 6, 2)] (by decide +kernel) rfl ?_
    refine zV_cvv (As := [.inl l7, .inr (.inl (p4.toInt64)), .inl p6]) (st := []) (c := 12) (by decide +kernel) (zcl_X11_askForPlan (by decide) (by decide)) ⟨zw_1210, zw_1212, zw_52⟩ ⟨⟨_, _, rfl⟩, by decide⟩ rfl rfl (Nat.le_of_ble_eq_true rfl) h (fun _ _ e => zc_X11_askForPlan e) (fun M18 _ _ h => ?_)
    refine zV_b (pc' := 100) (lv' := [(7, .inl (l7 + 1)), (0, .inr (.inr p0)), (4, .inl p4), (6, .inl p6)]) (st' := []) [(.iinc 7 1, 3)] (by decide +kernel) rfl ?_
    refine zV_goto (off := (-26)) (tgt := 74) (by decide +kernel) (by decide) ?_
    exact zV_lv (lv' := [(0, .inr (.inr p0)), (4, .inl p4), (6, .inl p6), (7, .inl (l7 + 1))]) [1, 2, 3, 0] rfl (k1 _ (Option.some.inj h).symm)
set_option maxRecDepth 100000 in
theorem zt_X11_planBlend_J27 {X : Zx} {M : Zm} {l0 : Option Nat} {l1 : Int32} {l2 : Int64} {l4 : Int32} {l5 : Int32} {z : Zm × Int64} (h : zf_X11_planBlend_J27 M l0 l1 l2 l4 l5 = some z) (hR : zRj X zC_X11_planBlend z.1 z.2) : zV X zC_X11_planBlend M 27 [(0, .inr (.inr l0)), (1, .inl l1), (2, .inr (.inl l2)), (4, .inl l4), (5, .inl l5)] [] := by
  unfold zf_X11_planBlend_J27 at h
  refine zV_b (pc' := 29) (lv' := [(0, .inr (.inr l0)), (1, .inl l1), (2, .inr (.inl l2)), (4, .inl l4), (5, .inl l5)]) (st' := [.inl l5]) [(.iload 5, 2)] (by decide +kernel) rfl ?_
  refine zV_if_eq (off := 8) (tgt := 37) (by decide +kernel) (by decide) h (fun c6 h => ?_) (fun c6 h => ?_)
  · refine zV_b (pc' := 41) (lv' := [(0, .inr (.inr l0)), (1, .inl l1), (2, .inr (.inl l2)), (4, .inl l4), (5, .inl l5)]) (st' := [.inr (.inl (l4.toInt64)), .inr (.inl l2)]) [(.lload_n 2, 1), (.iload 4, 2), (.i2l, 1)] (by decide +kernel) rfl ?_
    refine zV_ld (by decide +kernel) h (fun v7 _ h => ?_)
    refine zV_b (pc' := 46) (lv' := [(6, .inl (v7.toInt32)), (0, .inr (.inr l0)), (1, .inl l1), (2, .inr (.inl l2)), (4, .inl l4), (5, .inl l5)]) (st' := [.inr (.inr l0)]) [(.l2i, 1), (.istore 6, 2), (.aload_n 0, 1)] (by decide +kernel) rfl ?_
    refine zV_gr (by decide +kernel) zfl_RX11_44 (by decide) rfl h (fun v8 _ h => ?_)
    refine zV_b (pc' := 50) (lv' := [(6, .inl (v7.toInt32)), (0, .inr (.inr l0)), (1, .inl l1), (2, .inr (.inl l2)), (4, .inl l4), (5, .inl l5)]) (st' := [.inr (.inr l0), .inr (.inr v8)]) [(.aload_n 0, 1)] (by decide +kernel) rfl ?_
    refine zV_gr (by decide +kernel) zfl_RX11_22 (by decide) rfl h (fun v9 _ h => ?_)
    refine zV_b (pc' := 54) (lv' := [(6, .inl (v7.toInt32)), (0, .inr (.inr l0)), (1, .inl l1), (2, .inr (.inl l2)), (4, .inl l4), (5, .inl l5)]) (st' := [.inl l1, .inr (.inr v9), .inr (.inr v8)]) [(.iload_n 1, 1)] (by decide +kernel) rfl ?_
    refine zV_cvr (As := [.inl l1]) (st := [.inr (.inr v8)]) (c := 0) (by decide +kernel) (zcl_Jx4a65c_get_915e3 (by decide) (by decide)) ⟨zw_670, zw_671, zw_672⟩ ⟨⟨_, _, rfl⟩, by decide⟩ rfl rfl (Nat.le_of_ble_eq_true rfl) h (fun _ _ e => zc_Jx4a65c_get_915e3 e) (fun M10 v10 _ h => ?_)
    refine zV_cc (by decide +kernel) zck_RX11_435 h (fun _ _ h => ?_)
    refine zV_b (pc' := 61) (lv' := [(6, .inl (v7.toInt32)), (0, .inr (.inr l0)), (1, .inl l1), (2, .inr (.inl l2)), (4, .inl l4), (5, .inl l5)]) (st' := [.inr (.inr l0), .inr (.inr v10), .inr (.inr v8)]) [(.aload_n 0, 1)] (by decide +kernel) rfl ?_
    refine zV_gr (by decide +kernel) zfl_RX11_28 (by decide) rfl h (fun v12 _ h => ?_)
    refine zV_gi (by decide +kernel) zfl_RX11_343 (by decide) rfl (Or.inl rfl) h (fun v13 _ h => ?_)
    refine zV_b (pc' := 68) (lv' := [(6, .inl (v7.toInt32)), (0, .inr (.inr l0)), (1, .inl l1), (2, .inr (.inl l2)), (4, .inl l4), (5, .inl l5)]) (st' := [.inr (.inl l2), .inl v13, .inr (.inr v10), .inr (.inr v8)]) [(.lload_n 2, 1)] (by decide +kernel) rfl ?_
    refine zV_cvv (As := [.inr (.inr v10), .inl v13, .inr (.inl l2)]) (st := []) (c := 7) (by decide +kernel) (zcl_X6_begin (by decide) (by decide)) ⟨zw_1203, zw_1204, zw_1205⟩ ⟨⟨_, _, rfl⟩, by decide⟩ rfl rfl (Nat.le_of_ble_eq_true rfl) h (fun _ _ e => zc_X6_begin e) (fun M14 _ _ h => ?_)
    refine zV_b (pc' := 74) (lv' := [(7, .inl (0 : Int32)), (6, .inl (v7.toInt32)), (0, .inr (.inr l0)), (1, .inl l1), (2, .inr (.inl l2)), (4, .inl l4), (5, .inl l5)]) (st' := []) [(.iconst 0, 1), (.istore 7, 2)] (by decide +kernel) rfl ?_
    obtain ⟨y20, e20, h⟩ := zb1_inv h
    refine zV_lv (lv' := [(0, .inr (.inr l0)), (4, .inl l4), (6, .inl (v7.toInt32)), (7, .inl (0 : Int32))]) [2, 5, 1, 0] rfl (zt_X11_planBlend_L74 e20 ?_)
    obtain ⟨M74_20, l7_20⟩ := y20
    show zV X zC_X11_planBlend M74_20 103 [(0, .inr (.inr l0)), (4, .inl l4), (6, .inl (v7.toInt32))] []
    refine zV_b (pc' := 104) (lv' := [(0, .inr (.inr l0)), (4, .inl l4), (6, .inl (v7.toInt32))]) (st' := [.inr (.inr l0)]) [(.aload_n 0, 1)] (by decide +kernel) rfl ?_
    refine zV_gr (by decide +kernel) zfl_RX11_44 (by decide) rfl h (fun v21 _ h => ?_)
    refine zV_b (pc' := 109) (lv' := [(0, .inr (.inr l0)), (4, .inl l4), (6, .inl (v7.toInt32))]) (st' := [.inl (v7.toInt32), .inr (.inr v21)]) [(.iload 6, 2)] (by decide +kernel) rfl ?_
    refine zV_cvj (As := [.inl (v7.toInt32)]) (st := []) (c := 7) (by decide +kernel) (zcl_X6_search (by decide) (by decide)) ⟨zw_1232, zw_1233, zw_1234⟩ ⟨⟨_, _, rfl⟩, by decide⟩ rfl rfl (Nat.le_of_ble_eq_true rfl) h (fun _ _ e => zc_X6_search e) (fun M22 v22 _ h => ?_)
    refine zV_b (pc' := 117) (lv' := [(7, .inr (.inl v22)), (0, .inr (.inr l0)), (4, .inl l4), (6, .inl (v7.toInt32))]) (st' := [.inr (.inl (0 : Int64)), .inr (.inl v22)]) [(.lstore 7, 2), (.lload 7, 2), (.lconst 0, 1)] (by decide +kernel) rfl ?_
    refine zV_lcmp_ge (off := 7) (tgt := 125) (by decide +kernel) (by decide +kernel) (by decide) h (fun c23 h => ?_) (fun c23 h => ?_)
    · refine zV_b (pc' := 126) (lv' := [(7, .inr (.inl v22)), (0, .inr (.inr l0)), (4, .inl l4), (6, .inl (v7.toInt32))]) (st' := [.inr (.inr l0)]) [(.aload_n 0, 1)] (by decide +kernel) rfl ?_
      refine zV_gr (by decide +kernel) zfl_RX11_44 (by decide) rfl h (fun v24 _ h => ?_)
      refine zV_b (pc' := 132) (lv' := [(7, .inr (.inl v22)), (0, .inr (.inr l0)), (4, .inl l4), (6, .inl (v7.toInt32))]) (st' := [.inr (.inl (l4.toInt64)), .inr (.inr v24)]) [(.iload 4, 2), (.i2l, 1)] (by decide +kernel) rfl ?_
      refine zV_cvv (As := [.inr (.inl (l4.toInt64))]) (st := []) (c := 7) (by decide +kernel) (zcl_X6_settle (by decide) (by decide)) ⟨zw_1244, zw_1245, zw_1246⟩ ⟨⟨_, _, rfl⟩, by decide⟩ rfl rfl (Nat.le_of_ble_eq_true rfl) h (fun _ _ e => zc_X6_settle e) (fun M25 _ _ h => ?_)
      refine zV_b (pc' := 137) (lv' := [(7, .inr (.inl v22)), (0, .inr (.inr l0)), (4, .inl l4), (6, .inl (v7.toInt32))]) (st' := [.inr (.inl v22)]) [(.lload 7, 2)] (by decide +kernel) rfl ?_
      exact zend_j h hR (by decide +kernel)
    · refine zV_ldc2 (by decide +kernel) zw_1243 ?_
      exact zend_j h hR (by decide +kernel)
  · refine zV_b (pc' := 36) (lv' := [(0, .inr (.inr l0)), (1, .inl l1), (2, .inr (.inl l2)), (4, .inl l4), (5, .inl l5)]) (st' := [.inr (.inl (((-l5)).toInt64))]) [(.iload 5, 2), (.ineg, 1), (.i2l, 1)] (by decide +kernel) rfl ?_
    exact zend_j h hR (by decide +kernel)
set_option maxRecDepth 100000 in
theorem zt_X11_planBlend {X : Zx} {M : Zm} {l0 : Option Nat} {l1 : Int32} {l2 : Int64} {l4 : Int32} {z : Zm × Int64} (h : zf_X11_planBlend M l0 l1 l2 l4 = some z) (hR : zRj X zC_X11_planBlend z.1 z.2) : zV X zC_X11_planBlend M 0 [(0, .inr (.inr l0)), (1, .inl l1), (2, .inr (.inl l2)), (4, .inl l4)] [] := by
  unfold zf_X11_planBlend at h
  refine zV_b (pc' := 3) (lv' := [(0, .inr (.inr l0)), (1, .inl l1), (2, .inr (.inl l2)), (4, .inl l4)]) (st' := [.inl l4, .inr (.inl l2)]) [(.lload_n 2, 1), (.iload 4, 2)] (by decide +kernel) rfl ?_
  refine zV_csi (As := [.inr (.inl l2), .inl l4]) (st := []) (by decide +kernel) (zcl_X11_checkSteps (by decide) (by decide)) ⟨zw_1195, zw_1196⟩ rfl rfl (Nat.le_of_ble_eq_true rfl) h (fun _ _ e => zc_X11_checkSteps e) (fun M1 v1 _ h => ?_)
  refine zV_b (pc' := 8) (lv' := [(0, .inr (.inr l0)), (1, .inl l1), (2, .inr (.inl l2)), (4, .inl l4)]) (st' := [.inl l1, .inr (.inr l0), .inl v1]) [(.aload_n 0, 1), (.iload_n 1, 1)] (by decide +kernel) rfl ?_
  refine zV_cvi (As := [.inl l1]) (st := [.inl v1]) (c := 12) (by decide +kernel) (zcl_X11_lookUpLabel (by decide) (by decide)) ⟨zw_1124, zw_1126, zw_47⟩ ⟨⟨_, _, rfl⟩, by decide⟩ rfl rfl (Nat.le_of_ble_eq_true rfl) h (fun _ _ e => zc_X11_lookUpLabel e) (fun M2 v2 _ h => ?_)
  refine zV_csi (As := [.inl v1, .inl v2]) (st := []) (by decide +kernel) (zcl_X11_firstOf (by decide) (by decide)) ⟨zw_688, zw_689⟩ rfl rfl (Nat.le_of_ble_eq_true rfl) h (fun _ _ e => zc_X11_firstOf e) (fun M3 v3 _ h => ?_)
  refine zV_b (pc' := 18) (lv' := [(5, .inl v3), (0, .inr (.inr l0)), (1, .inl l1), (2, .inr (.inl l2)), (4, .inl l4)]) (st' := [.inl v3]) [(.istore 5, 2), (.iload 5, 2)] (by decide +kernel) rfl ?_
  refine zV_if_ne (off := 9) (tgt := 27) (by decide +kernel) (by decide) h (fun c4 h => ?_) (fun c4 h => ?_)
  · refine zV_b (pc' := 22) (lv' := [(5, .inl v3), (0, .inr (.inr l0)), (1, .inl l1), (2, .inr (.inl l2)), (4, .inl l4)]) (st' := [.inr (.inr l0)]) [(.aload_n 0, 1)] (by decide +kernel) rfl ?_
    refine zV_cvi (As := []) (st := []) (c := 12) (by decide +kernel) (zcl_X11_checkPicksForPlan (by decide) (by decide)) ⟨zw_1199, zw_1201, zw_51⟩ ⟨⟨_, _, rfl⟩, by decide⟩ rfl rfl (Nat.le_of_ble_eq_true rfl) h (fun _ _ e => zc_X11_checkPicksForPlan e) (fun M5 v5 _ h => ?_)
    refine zV_b (pc' := 27) (lv' := [(5, .inl v5), (0, .inr (.inr l0)), (1, .inl l1), (2, .inr (.inl l2)), (4, .inl l4)]) (st' := []) [(.istore 5, 2)] (by decide +kernel) rfl ?_
    exact zV_lv (lv' := [(0, .inr (.inr l0)), (1, .inl l1), (2, .inr (.inl l2)), (4, .inl l4), (5, .inl v5)]) [1, 2, 3, 4, 0] rfl (zt_X11_planBlend_J27 h hR)
  · exact zV_lv (lv' := [(0, .inr (.inr l0)), (1, .inl l1), (2, .inr (.inl l2)), (4, .inl l4), (5, .inl v3)]) [1, 2, 3, 4, 0] rfl (zt_X11_planBlend_J27 h hR)
theorem zc_X11_planBlend {M M' : Zm} {l0 : Option Nat} {l1 : Int32} {l2 : Int64} {l4 : Int32} {x : Int64} (h : zf_X11_planBlend M l0 l1 l2 l4 = some (M', x)) (l : Launch) (D : va_G) (cy : Nat → ClassId) : zMet l yX11_planBlend zC_X11_planBlend (some .long) D cy [.inr (.inr l0), .inl l1, .inr (.inl l2), .inl l4] M M' (some (.inr (.inl x))) :=
  zM_j (by decide) rfl (fun h => by cases h) (Nat.le_of_ble_eq_true rfl) (fun X hR => zt_X11_planBlend h hR)
-- BlendCellar.plan(IJI)J
def zC_X11_plan : Zc := (cX11_plan, 5, RX11, 39, 1039, false)
theorem zcl_X11_plan {C : Zc} (h1 : zC_X11_plan.2.2.2.1 + 1 ≤ C.2.2.2.1) (h2 : 8 + (zC_X11_plan.2.1 + 11) + zC_X11_plan.2.2.2.2.1 ≤ C.2.2.2.2.1) : zCl C yX11_plan zC_X11_plan (some .long) 3 := ⟨zw_1190, zw_101, ⟨by decide, by decide⟩, by decide +kernel, h1, h2⟩
noncomputable def zf_X11_plan (M : Zm) (l0 : Option Nat) (l1 : Int32) (l2 : Int64) (l4 : Int32) : Option (Zm × Int64) :=
  zb1 (zo_rc M l0 12) (fun _ => zbd (zf_X11_openTap M l0) (fun M1 _ =>
  zb1 (zo_rc M1 l0 12) (fun _ => zbd (zf_X11_planBlend M1 l0 l1 l2 l4) (fun M2 v2 =>
  zb1 (zo_rc M2 l0 12) (fun _ => zbd (zf_X11_closeTap M2 l0 v2) (fun M3 v3 =>
  some (M3, v3)))))))
set_option maxRecDepth 100000 in
theorem zt_X11_plan {X : Zx} {M : Zm} {l0 : Option Nat} {l1 : Int32} {l2 : Int64} {l4 : Int32} {z : Zm × Int64} (h : zf_X11_plan M l0 l1 l2 l4 = some z) (hR : zRj X zC_X11_plan z.1 z.2) : zV X zC_X11_plan M 0 [(0, .inr (.inr l0)), (1, .inl l1), (2, .inr (.inl l2)), (4, .inl l4)] [] := by
  unfold zf_X11_plan at h
  refine zV_b (pc' := 1) (lv' := [(0, .inr (.inr l0)), (1, .inl l1), (2, .inr (.inl l2)), (4, .inl l4)]) (st' := [.inr (.inr l0)]) [(.aload_n 0, 1)] (by decide +kernel) rfl ?_
  refine zV_cvv (As := []) (st := []) (c := 12) (by decide +kernel) (zcl_X11_openTap (by decide) (by decide)) ⟨zw_453, zw_455, zw_0⟩ ⟨⟨_, _, rfl⟩, by decide⟩ rfl rfl (Nat.le_of_ble_eq_true rfl) h (fun _ _ e => zc_X11_openTap e) (fun M1 _ _ h => ?_)
  refine zV_b (pc' := 10) (lv' := [(0, .inr (.inr l0)), (1, .inl l1), (2, .inr (.inl l2)), (4, .inl l4)]) (st' := [.inl l4, .inr (.inl l2), .inl l1, .inr (.inr l0), .inr (.inr l0)]) [(.aload_n 0, 1), (.aload_n 0, 1), (.iload_n 1, 1), (.lload_n 2, 1), (.iload 4, 2)] (by decide +kernel) rfl ?_
  refine zV_cvj (As := [.inl l1, .inr (.inl l2), .inl l4]) (st := [.inr (.inr l0)]) (c := 12) (by decide +kernel) (zcl_X11_planBlend (by decide) (by decide)) ⟨zw_1191, zw_1193, zw_50⟩ ⟨⟨_, _, rfl⟩, by decide⟩ rfl rfl (Nat.le_of_ble_eq_true rfl) h (fun _ _ e => zc_X11_planBlend e) (fun M2 v2 _ h => ?_)
  refine zV_cvj (As := [.inr (.inl v2)]) (st := []) (c := 12) (by decide +kernel) (zcl_X11_closeTap (by decide) (by decide)) ⟨zw_510, zw_512, zw_3⟩ ⟨⟨_, _, rfl⟩, by decide⟩ rfl rfl (Nat.le_of_ble_eq_true rfl) h (fun _ _ e => zc_X11_closeTap e) (fun M3 v3 _ h => ?_)
  exact zend_j h hR (by decide +kernel)
theorem zc_X11_plan {M M' : Zm} {l0 : Option Nat} {l1 : Int32} {l2 : Int64} {l4 : Int32} {x : Int64} (h : zf_X11_plan M l0 l1 l2 l4 = some (M', x)) (l : Launch) (D : va_G) (cy : Nat → ClassId) : zMet l yX11_plan zC_X11_plan (some .long) D cy [.inr (.inr l0), .inl l1, .inr (.inl l2), .inl l4] M M' (some (.inr (.inl x))) :=
  zM_j (by decide) rfl (fun h => by cases h) (Nat.le_of_ble_eq_true rfl) (fun X hR => zt_X11_plan h hR)
-- BlendCellar.planned(I)J
def zC_X11_planned : Zc := (cX11_planned, 2, RX11, 1, 21, false)
theorem zcl_X11_planned {C : Zc} (h1 : zC_X11_planned.2.2.2.1 + 1 ≤ C.2.2.2.1) (h2 : 8 + (zC_X11_planned.2.1 + 11) + zC_X11_planned.2.2.2.2.1 ≤ C.2.2.2.2.1) : zCl C yX11_planned zC_X11_planned (some .long) 1 := ⟨zw_1417, zw_101, ⟨by decide, by decide⟩, by decide +kernel, h1, h2⟩
noncomputable def zf_X11_planned (M : Zm) (l0 : Option Nat) (l1 : Int32) : Option (Zm × Int64) :=
  zb1 (zo_gr M l0 12 5) (fun v1 =>
  zb1 (zo_rc M v1 7) (fun _ => zbd (zf_X6_readSettled M v1 l1) (fun M2 v2 =>
  some (M2, v2))))
set_option maxRecDepth 100000 in
theorem zt_X11_planned {X : Zx} {M : Zm} {l0 : Option Nat} {l1 : Int32} {z : Zm × Int64} (h : zf_X11_planned M l0 l1 = some z) (hR : zRj X zC_X11_planned z.1 z.2) : zV X zC_X11_planned M 0 [(0, .inr (.inr l0)), (1, .inl l1)] [] := by
  unfold zf_X11_planned at h
  refine zV_b (pc' := 1) (lv' := [(0, .inr (.inr l0)), (1, .inl l1)]) (st' := [.inr (.inr l0)]) [(.aload_n 0, 1)] (by decide +kernel) rfl ?_
  refine zV_gr (by decide +kernel) zfl_RX11_44 (by decide) rfl h (fun v1 _ h => ?_)
  refine zV_b (pc' := 5) (lv' := [(0, .inr (.inr l0)), (1, .inl l1)]) (st' := [.inl l1, .inr (.inr v1)]) [(.iload_n 1, 1)] (by decide +kernel) rfl ?_
  refine zV_cvj (As := [.inl l1]) (st := []) (c := 7) (by decide +kernel) (zcl_X6_readSettled (by decide) (by decide)) ⟨zw_1418, zw_1419, zw_1420⟩ ⟨⟨_, _, rfl⟩, by decide⟩ rfl rfl (Nat.le_of_ble_eq_true rfl) h (fun _ _ e => zc_X6_readSettled e) (fun M2 v2 _ h => ?_)
  exact zend_j h hR (by decide +kernel)
theorem zc_X11_planned {M M' : Zm} {l0 : Option Nat} {l1 : Int32} {x : Int64} (h : zf_X11_planned M l0 l1 = some (M', x)) (l : Launch) (D : va_G) (cy : Nat → ClassId) : zMet l yX11_planned zC_X11_planned (some .long) D cy [.inr (.inr l0), .inl l1] M M' (some (.inr (.inl x))) :=
  zM_j (by decide) rfl (fun h => by cases h) (Nat.le_of_ble_eq_true rfl) (fun X hR => zt_X11_planned h hR)
