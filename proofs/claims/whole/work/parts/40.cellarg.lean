/-! What the bytecode does, as functions of the memory, and the walks (written by wip/gen.py). -/
-- BlendCellar.topUpVessel(II)J
def zC_X11_topUpVessel : Zc := (cX11_topUpVessel, 12, RX11, 10, 222, false)
theorem zcl_X11_topUpVessel {C : Zc} (h1 : zC_X11_topUpVessel.2.2.2.1 + 1 ≤ C.2.2.2.1) (h2 : 8 + (zC_X11_topUpVessel.2.1 + 11) + zC_X11_topUpVessel.2.2.2.2.1 ≤ C.2.2.2.2.1) : zCl C yX11_topUpVessel zC_X11_topUpVessel (some .long) 2 := ⟨zw_936, zw_101, ⟨by decide, by decide⟩, by decide +kernel, h1, h2⟩
noncomputable def zf_X11_topUpVessel_J25 (M : Zm) (l0 : Option Nat) (l1 : Int32) (l2 : Int32) (l3 : Int32) : Option (Zm × Int64) :=
  (if l3 = 0 then
  zb1 (zo_gr M l0 12 0) (fun v7 =>
  zb1 (zo_rc M v7 0) (fun _ => zbd (zf_Jx4a65c_get_915e3 M v7 l1) (fun M8 v8 =>
  zb1 (zo_cc M8 v8 1) (fun _ =>
  zb1 (zo_gr M8 l0 12 0) (fun v10 =>
  zb1 (zo_rc M8 v10 0) (fun _ => zbd (zf_Jx4a65c_get_915e3 M8 v10 l2) (fun M11 v11 =>
  zb1 (zo_cc M11 v11 1) (fun _ =>
  zb1 (zo_gr M11 l0 12 12) (fun v13 =>
  zb1 (zo_rc M11 v8 1) (fun _ => zbd (zf_X0_takesInAll M11 v8 v13) (fun M14 v14 =>
  zb1 (zo_gr M14 v8 1 5) (fun v15 =>
  zb1 (zo_gj M14 v15 11 3) (fun v16 =>
  zb1 (zo_gr M14 l0 12 12) (fun v17 =>
  zb1 (zo_rc M14 v11 1) (fun _ => zbd (zf_X0_maySpare M14 v11 v17) (fun M18 v18 =>
  (if (0 : Int64) < (v14 - v16) then
  (if v18 = (0 : Int64) then
  some (M18, (-10 : Int64))
  else
  zb1 (zo_gr M18 l0 12 10) (fun v24 =>
  zb1 (zo_rc M18 v24 3) (fun _ => zbd (zf_X2_clear M18 v24) (fun M25 _ =>
  zb1 (zo_gr M25 l0 12 10) (fun v26 =>
  zb1 (zo_gr M25 l0 12 12) (fun v27 =>
  zb1 (zo_rc M25 v26 3) (fun _ => zbd (zf_X2_drawFrom M25 v26 v11 (zminl (v14 - v16) v18) v27) (fun M28 _ =>
  zb1 (zo_rc M28 l0 12) (fun _ => zbd (zf_X11_hasTooManyPartsFor M28 l0 v8) (fun M29 v29 =>
  (if v29 = 0 then
  zb1 (zo_rc M29 l0 12) (fun _ => zbd (zf_X11_remember M29 l0) (fun M31 _ =>
  zb1 (zo_rc M31 l0 12) (fun _ => zbd (zf_X11_pourInto M31 l0 v8) (fun M32 _ =>
  zb1 (zo_gr M32 l0 12 8) (fun v33 =>
  zb1 (zo_rc M32 v33 5) (fun _ => zbd (zf_X4_add M32 v33 (3 : Int64) (l2.toInt64) (l1.toInt64) (zminl (v14 - v16) v18)) (fun M35 _ =>
  some (M35, (zminl (v14 - v16) v18)))))))))
  else
  some (M29, (-12 : Int64)))))))))))))
  else
  some (M18, (-11 : Int64)))))))))))))))))))
  else
  some (M, (((-l3)).toInt64)))
noncomputable def zf_X11_topUpVessel (M : Zm) (l0 : Option Nat) (l1 : Int32) (l2 : Int32) : Option (Zm × Int64) :=
  zb1 (zo_rc M l0 12) (fun _ => zbd (zf_X11_lookUpVessel M l0 l1) (fun M1 v1 =>
  zb1 (zo_rc M1 l0 12) (fun _ => zbd (zf_X11_lookUp M1 l0 l2) (fun M2 v2 =>
  zbd (zf_X11_firstOf M2 v1 v2) (fun M3 v3 =>
  (if v3 = 0 then
  zb1 (zo_rc M3 l0 12) (fun _ => zbd (zf_X11_checkPair M3 l0 l2 l1) (fun M5 v5 =>
  zf_X11_topUpVessel_J25 M5 l0 l1 l2 v5))
  else
  zf_X11_topUpVessel_J25 M3 l0 l1 l2 v3))))))
set_option maxRecDepth 100000 in
theorem zt_X11_topUpVessel_J25 {X : Zx} {M : Zm} {l0 : Option Nat} {l1 : Int32} {l2 : Int32} {l3 : Int32} {z : Zm × Int64} (h : zf_X11_topUpVessel_J25 M l0 l1 l2 l3 = some z) (hR : zRj X zC_X11_topUpVessel z.1 z.2) : zV X zC_X11_topUpVessel M 25 [(0, .inr (.inr l0)), (1, .inl l1), (2, .inl l2), (3, .inl l3)] [] := by
  unfold zf_X11_topUpVessel_J25 at h
  refine zV_b (pc' := 26) (lv' := [(0, .inr (.inr l0)), (1, .inl l1), (2, .inl l2), (3, .inl l3)]) (st' := [.inl l3]) [(.iload_n 3, 1)] (by decide +kernel) rfl ?_
  refine zV_if_eq (off := 7) (tgt := 33) (by decide +kernel) (by decide) h (fun c6 h => ?_) (fun c6 h => ?_)
  · refine zV_b (pc' := 34) (lv' := [(0, .inr (.inr l0)), (1, .inl l1), (2, .inl l2), (3, .inl l3)]) (st' := [.inr (.inr l0)]) [(.aload_n 0, 1)] (by decide +kernel) rfl ?_
    refine zV_gr (by decide +kernel) zfl_RX11_12 (by decide) rfl h (fun v7 _ h => ?_)
    refine zV_b (pc' := 38) (lv' := [(0, .inr (.inr l0)), (1, .inl l1), (2, .inl l2), (3, .inl l3)]) (st' := [.inl l1, .inr (.inr v7)]) [(.iload_n 1, 1)] (by decide +kernel) rfl ?_
    refine zV_cvr (As := [.inl l1]) (st := []) (c := 0) (by decide +kernel) (zcl_Jx4a65c_get_915e3 (by decide) (by decide)) ⟨zw_670, zw_671, zw_672⟩ ⟨⟨_, _, rfl⟩, by decide⟩ rfl rfl (Nat.le_of_ble_eq_true rfl) h (fun _ _ e => zc_Jx4a65c_get_915e3 e) (fun M8 v8 _ h => ?_)
    refine zV_cc (by decide +kernel) zck_RX11_156 h (fun _ _ h => ?_)
    refine zV_b (pc' := 47) (lv' := [(4, .inr (.inr v8)), (0, .inr (.inr l0)), (1, .inl l1), (2, .inl l2), (3, .inl l3)]) (st' := [.inr (.inr l0)]) [(.astore 4, 2), (.aload_n 0, 1)] (by decide +kernel) rfl ?_
    refine zV_gr (by decide +kernel) zfl_RX11_12 (by decide) rfl h (fun v10 _ h => ?_)
    refine zV_b (pc' := 51) (lv' := [(4, .inr (.inr v8)), (0, .inr (.inr l0)), (1, .inl l1), (2, .inl l2), (3, .inl l3)]) (st' := [.inl l2, .inr (.inr v10)]) [(.iload_n 2, 1)] (by decide +kernel) rfl ?_
    refine zV_cvr (As := [.inl l2]) (st := []) (c := 0) (by decide +kernel) (zcl_Jx4a65c_get_915e3 (by decide) (by decide)) ⟨zw_670, zw_671, zw_672⟩ ⟨⟨_, _, rfl⟩, by decide⟩ rfl rfl (Nat.le_of_ble_eq_true rfl) h (fun _ _ e => zc_Jx4a65c_get_915e3 e) (fun M11 v11 _ h => ?_)
    refine zV_cc (by decide +kernel) zck_RX11_156 h (fun _ _ h => ?_)
    refine zV_b (pc' := 62) (lv' := [(5, .inr (.inr v11)), (4, .inr (.inr v8)), (0, .inr (.inr l0)), (1, .inl l1), (2, .inl l2), (3, .inl l3)]) (st' := [.inr (.inr l0), .inr (.inr v8)]) [(.astore 5, 2), (.aload 4, 2), (.aload_n 0, 1)] (by decide +kernel) rfl ?_
    refine zV_gr (by decide +kernel) zfl_RX11_86 (by decide) rfl h (fun v13 _ h => ?_)
    refine zV_cvj (As := [.inr (.inr v13)]) (st := []) (c := 1) (by decide +kernel) (zcl_X0_takesInAll (by decide) (by decide)) ⟨zw_784, zw_785, zw_786⟩ ⟨⟨_, _, rfl⟩, by decide⟩ rfl rfl (Nat.le_of_ble_eq_true rfl) h (fun _ _ e => zc_X0_takesInAll e) (fun M14 v14 _ h => ?_)
    refine zV_b (pc' := 70) (lv' := [(5, .inr (.inr v11)), (4, .inr (.inr v8)), (0, .inr (.inr l0)), (1, .inl l1), (2, .inl l2), (3, .inl l3)]) (st' := [.inr (.inr v8), .inr (.inl v14)]) [(.aload 4, 2)] (by decide +kernel) rfl ?_
    refine zV_gr (by decide +kernel) zfl_RX11_268 (by decide) rfl h (fun v15 _ h => ?_)
    refine zV_gj (by decide +kernel) zfl_RX11_271 (by decide) rfl h (fun v16 _ h => ?_)
    refine zV_b (pc' := 82) (lv' := [(6, .inr (.inl (v14 - v16))), (5, .inr (.inr v11)), (4, .inr (.inr v8)), (0, .inr (.inr l0)), (1, .inl l1), (2, .inl l2), (3, .inl l3)]) (st' := [.inr (.inr l0), .inr (.inr v11)]) [(.lsub, 1), (.lstore 6, 2), (.aload 5, 2), (.aload_n 0, 1)] (by decide +kernel) rfl ?_
    refine zV_gr (by decide +kernel) zfl_RX11_86 (by decide) rfl h (fun v17 _ h => ?_)
    refine zV_cvj (As := [.inr (.inr v17)]) (st := []) (c := 1) (by decide +kernel) (zcl_X0_maySpare (by decide) (by decide)) ⟨zw_861, zw_862, zw_863⟩ ⟨⟨_, _, rfl⟩, by decide⟩ rfl rfl (Nat.le_of_ble_eq_true rfl) h (fun _ _ e => zc_X0_maySpare e) (fun M18 v18 _ h => ?_)
    refine zV_b (pc' := 93) (lv' := [(8, .inr (.inl v18)), (6, .inr (.inl (v14 - v16))), (5, .inr (.inr v11)), (4, .inr (.inr v8)), (0, .inr (.inr l0)), (1, .inl l1), (2, .inl l2), (3, .inl l3)]) (st' := [.inr (.inl (0 : Int64)), .inr (.inl (v14 - v16))]) [(.lstore 8, 2), (.lload 6, 2), (.lconst 0, 1)] (by decide +kernel) rfl ?_
    refine zV_lcmp_gt (off := 7) (tgt := 101) (by decide +kernel) (by decide +kernel) (by decide) h (fun c19 h => ?_) (fun c19 h => ?_)
    · refine zV_b (pc' := 104) (lv' := [(8, .inr (.inl v18)), (6, .inr (.inl (v14 - v16))), (5, .inr (.inr v11)), (4, .inr (.inr v8)), (0, .inr (.inr l0)), (1, .inl l1), (2, .inl l2), (3, .inl l3)]) (st' := [.inr (.inl (0 : Int64)), .inr (.inl v18)]) [(.lload 8, 2), (.lconst 0, 1)] (by decide +kernel) rfl ?_
      refine zV_lcmp_ne (off := 7) (tgt := 112) (by decide +kernel) (by decide +kernel) (by decide) h (fun c20 h => ?_) (fun c20 h => ?_)
      · refine zV_ldc2 (by decide +kernel) zw_873 ?_
        exact zend_j h hR (by decide +kernel)
      · refine zV_b (pc' := 116) (lv' := [(8, .inr (.inl v18)), (6, .inr (.inl (v14 - v16))), (5, .inr (.inr v11)), (4, .inr (.inr v8)), (0, .inr (.inr l0)), (1, .inl l1), (2, .inl l2), (3, .inl l3)]) (st' := [.inr (.inl v18), .inr (.inl (v14 - v16))]) [(.lload 6, 2), (.lload 8, 2)] (by decide +kernel) rfl ?_
        refine zV_minl (st := []) (by decide +kernel) zw_937 (by decide) (Nat.le_of_ble_eq_true rfl) ?_
        refine zV_b (pc' := 122) (lv' := [(10, .inr (.inl (zminl (v14 - v16) v18))), (8, .inr (.inl v18)), (6, .inr (.inl (v14 - v16))), (5, .inr (.inr v11)), (4, .inr (.inr v8)), (0, .inr (.inr l0)), (1, .inl l1), (2, .inl l2), (3, .inl l3)]) (st' := [.inr (.inr l0)]) [(.lstore 10, 2), (.aload_n 0, 1)] (by decide +kernel) rfl ?_
        refine zV_gr (by decide +kernel) zfl_RX11_72 (by decide) rfl h (fun v24 _ h => ?_)
        refine zV_cvv (As := []) (st := []) (c := 3) (by decide +kernel) (zcl_X2_clear (by decide) (by decide)) ⟨zw_874, zw_875, zw_876⟩ ⟨⟨_, _, rfl⟩, by decide⟩ rfl rfl (Nat.le_of_ble_eq_true rfl) h (fun _ _ e => zc_X2_clear e) (fun M25 _ _ h => ?_)
        refine zV_b (pc' := 129) (lv' := [(10, .inr (.inl (zminl (v14 - v16) v18))), (8, .inr (.inl v18)), (6, .inr (.inl (v14 - v16))), (5, .inr (.inr v11)), (4, .inr (.inr v8)), (0, .inr (.inr l0)), (1, .inl l1), (2, .inl l2), (3, .inl l3)]) (st' := [.inr (.inr l0)]) [(.aload_n 0, 1)] (by decide +kernel) rfl ?_
        refine zV_gr (by decide +kernel) zfl_RX11_72 (by decide) rfl h (fun v26 _ h => ?_)
        refine zV_b (pc' := 137) (lv' := [(10, .inr (.inl (zminl (v14 - v16) v18))), (8, .inr (.inl v18)), (6, .inr (.inl (v14 - v16))), (5, .inr (.inr v11)), (4, .inr (.inr v8)), (0, .inr (.inr l0)), (1, .inl l1), (2, .inl l2), (3, .inl l3)]) (st' := [.inr (.inr l0), .inr (.inl (zminl (v14 - v16) v18)), .inr (.inr v11), .inr (.inr v26)]) [(.aload 5, 2), (.lload 10, 2), (.aload_n 0, 1)] (by decide +kernel) rfl ?_
        refine zV_gr (by decide +kernel) zfl_RX11_86 (by decide) rfl h (fun v27 _ h => ?_)
        refine zV_cvv (As := [.inr (.inr v11), .inr (.inl (zminl (v14 - v16) v18)), .inr (.inr v27)]) (st := []) (c := 3) (by decide +kernel) (zcl_X2_drawFrom (by decide) (by decide)) ⟨zw_882, zw_883, zw_884⟩ ⟨⟨_, _, rfl⟩, by decide⟩ rfl rfl (Nat.le_of_ble_eq_true rfl) h (fun _ _ e => zc_X2_drawFrom e) (fun M28 _ _ h => ?_)
        refine zV_b (pc' := 146) (lv' := [(10, .inr (.inl (zminl (v14 - v16) v18))), (8, .inr (.inl v18)), (6, .inr (.inl (v14 - v16))), (5, .inr (.inr v11)), (4, .inr (.inr v8)), (0, .inr (.inr l0)), (1, .inl l1), (2, .inl l2), (3, .inl l3)]) (st' := [.inr (.inr v8), .inr (.inr l0)]) [(.aload_n 0, 1), (.aload 4, 2)] (by decide +kernel) rfl ?_
        refine zV_cvi (As := [.inr (.inr v8)]) (st := []) (c := 12) (by decide +kernel) (zcl_X11_hasTooManyPartsFor (by decide) (by decide)) ⟨zw_903, zw_905, zw_31⟩ ⟨⟨_, _, rfl⟩, by decide⟩ rfl rfl (Nat.le_of_ble_eq_true rfl) h (fun _ _ e => zc_X11_hasTooManyPartsFor e) (fun M29 v29 _ h => ?_)
        refine zV_if_eq (off := 7) (tgt := 156) (by decide +kernel) (by decide) h (fun c30 h => ?_) (fun c30 h => ?_)
        · refine zV_b (pc' := 157) (lv' := [(10, .inr (.inl (zminl (v14 - v16) v18))), (8, .inr (.inl v18)), (6, .inr (.inl (v14 - v16))), (5, .inr (.inr v11)), (4, .inr (.inr v8)), (0, .inr (.inr l0)), (1, .inl l1), (2, .inl l2), (3, .inl l3)]) (st' := [.inr (.inr l0)]) [(.aload_n 0, 1)] (by decide +kernel) rfl ?_
          refine zV_cvv (As := []) (st := []) (c := 12) (by decide +kernel) (zcl_X11_remember (by decide) (by decide)) ⟨zw_469, zw_471, zw_2⟩ ⟨⟨_, _, rfl⟩, by decide⟩ rfl rfl (Nat.le_of_ble_eq_true rfl) h (fun _ _ e => zc_X11_remember e) (fun M31 _ _ h => ?_)
          refine zV_b (pc' := 163) (lv' := [(10, .inr (.inl (zminl (v14 - v16) v18))), (8, .inr (.inl v18)), (6, .inr (.inl (v14 - v16))), (5, .inr (.inr v11)), (4, .inr (.inr v8)), (0, .inr (.inr l0)), (1, .inl l1), (2, .inl l2), (3, .inl l3)]) (st' := [.inr (.inr v8), .inr (.inr l0)]) [(.aload_n 0, 1), (.aload 4, 2)] (by decide +kernel) rfl ?_
          refine zV_cvv (As := [.inr (.inr v8)]) (st := []) (c := 12) (by decide +kernel) (zcl_X11_pourInto (by decide) (by decide)) ⟨zw_911, zw_913, zw_32⟩ ⟨⟨_, _, rfl⟩, by decide⟩ rfl rfl (Nat.le_of_ble_eq_true rfl) h (fun _ _ e => zc_X11_pourInto e) (fun M32 _ _ h => ?_)
          refine zV_b (pc' := 167) (lv' := [(10, .inr (.inl (zminl (v14 - v16) v18))), (8, .inr (.inl v18)), (6, .inr (.inl (v14 - v16))), (5, .inr (.inr v11)), (4, .inr (.inr v8)), (0, .inr (.inr l0)), (1, .inl l1), (2, .inl l2), (3, .inl l3)]) (st' := [.inr (.inr l0)]) [(.aload_n 0, 1)] (by decide +kernel) rfl ?_
          refine zV_gr (by decide +kernel) zfl_RX11_62 (by decide) rfl h (fun v33 _ h => ?_)
          refine zV_ldc2 (by decide +kernel) zw_938 ?_
          refine zV_b (pc' := 179) (lv' := [(10, .inr (.inl (zminl (v14 - v16) v18))), (8, .inr (.inl v18)), (6, .inr (.inl (v14 - v16))), (5, .inr (.inr v11)), (4, .inr (.inr v8)), (0, .inr (.inr l0)), (1, .inl l1), (2, .inl l2), (3, .inl l3)]) (st' := [.inr (.inl (zminl (v14 - v16) v18)), .inr (.inl (l1.toInt64)), .inr (.inl (l2.toInt64)), .inr (.inl (3 : Int64)), .inr (.inr v33)]) [(.iload_n 2, 1), (.i2l, 1), (.iload_n 1, 1), (.i2l, 1), (.lload 10, 2)] (by decide +kernel) rfl ?_
          refine zV_cvv (As := [.inr (.inl (3 : Int64)), .inr (.inl (l2.toInt64)), .inr (.inl (l1.toInt64)), .inr (.inl (zminl (v14 - v16) v18))]) (st := []) (c := 5) (by decide +kernel) (zcl_X4_add (by decide) (by decide)) ⟨zw_844, zw_845, zw_846⟩ ⟨⟨_, _, rfl⟩, by decide⟩ rfl rfl (Nat.le_of_ble_eq_true rfl) h (fun _ _ e => zc_X4_add e) (fun M35 _ _ h => ?_)
          refine zV_b (pc' := 184) (lv' := [(10, .inr (.inl (zminl (v14 - v16) v18))), (8, .inr (.inl v18)), (6, .inr (.inl (v14 - v16))), (5, .inr (.inr v11)), (4, .inr (.inr v8)), (0, .inr (.inr l0)), (1, .inl l1), (2, .inl l2), (3, .inl l3)]) (st' := [.inr (.inl (zminl (v14 - v16) v18))]) [(.lload 10, 2)] (by decide +kernel) rfl ?_
          exact zend_j h hR (by decide +kernel)
        · refine zV_ldc2 (by decide +kernel) zw_527 ?_
          exact zend_j h hR (by decide +kernel)
    · refine zV_ldc2 (by decide +kernel) zw_804 ?_
      exact zend_j h hR (by decide +kernel)
  · refine zV_b (pc' := 32) (lv' := [(0, .inr (.inr l0)), (1, .inl l1), (2, .inl l2), (3, .inl l3)]) (st' := [.inr (.inl (((-l3)).toInt64))]) [(.iload_n 3, 1), (.ineg, 1), (.i2l, 1)] (by decide +kernel) rfl ?_
    exact zend_j h hR (by decide +kernel)
set_option maxRecDepth 100000 in
theorem zt_X11_topUpVessel {X : Zx} {M : Zm} {l0 : Option Nat} {l1 : Int32} {l2 : Int32} {z : Zm × Int64} (h : zf_X11_topUpVessel M l0 l1 l2 = some z) (hR : zRj X zC_X11_topUpVessel z.1 z.2) : zV X zC_X11_topUpVessel M 0 [(0, .inr (.inr l0)), (1, .inl l1), (2, .inl l2)] [] := by
  unfold zf_X11_topUpVessel at h
  refine zV_b (pc' := 2) (lv' := [(0, .inr (.inr l0)), (1, .inl l1), (2, .inl l2)]) (st' := [.inl l1, .inr (.inr l0)]) [(.aload_n 0, 1), (.iload_n 1, 1)] (by decide +kernel) rfl ?_
  refine zV_cvi (As := [.inl l1]) (st := []) (c := 12) (by decide +kernel) (zcl_X11_lookUpVessel (by decide) (by decide)) ⟨zw_684, zw_686, zw_11⟩ ⟨⟨_, _, rfl⟩, by decide⟩ rfl rfl (Nat.le_of_ble_eq_true rfl) h (fun _ _ e => zc_X11_lookUpVessel e) (fun M1 v1 _ h => ?_)
  refine zV_b (pc' := 7) (lv' := [(0, .inr (.inr l0)), (1, .inl l1), (2, .inl l2)]) (st' := [.inl l2, .inr (.inr l0), .inl v1]) [(.aload_n 0, 1), (.iload_n 2, 1)] (by decide +kernel) rfl ?_
  refine zV_cvi (As := [.inl l2]) (st := [.inl v1]) (c := 12) (by decide +kernel) (zcl_X11_lookUp (by decide) (by decide)) ⟨zw_666, zw_668, zw_10⟩ ⟨⟨_, _, rfl⟩, by decide⟩ rfl rfl (Nat.le_of_ble_eq_true rfl) h (fun _ _ e => zc_X11_lookUp e) (fun M2 v2 _ h => ?_)
  refine zV_csi (As := [.inl v1, .inl v2]) (st := []) (by decide +kernel) (zcl_X11_firstOf (by decide) (by decide)) ⟨zw_688, zw_689⟩ rfl rfl (Nat.le_of_ble_eq_true rfl) h (fun _ _ e => zc_X11_firstOf e) (fun M3 v3 _ h => ?_)
  refine zV_b (pc' := 15) (lv' := [(3, .inl v3), (0, .inr (.inr l0)), (1, .inl l1), (2, .inl l2)]) (st' := [.inl v3]) [(.istore_n 3, 1), (.iload_n 3, 1)] (by decide +kernel) rfl ?_
  refine zV_if_ne (off := 10) (tgt := 25) (by decide +kernel) (by decide) h (fun c4 h => ?_) (fun c4 h => ?_)
  · refine zV_b (pc' := 21) (lv' := [(3, .inl v3), (0, .inr (.inr l0)), (1, .inl l1), (2, .inl l2)]) (st' := [.inl l1, .inl l2, .inr (.inr l0)]) [(.aload_n 0, 1), (.iload_n 2, 1), (.iload_n 1, 1)] (by decide +kernel) rfl ?_
    refine zV_cvi (As := [.inl l2, .inl l1]) (st := []) (c := 12) (by decide +kernel) (zcl_X11_checkPair (by decide) (by decide)) ⟨zw_857, zw_859, zw_25⟩ ⟨⟨_, _, rfl⟩, by decide⟩ rfl rfl (Nat.le_of_ble_eq_true rfl) h (fun _ _ e => zc_X11_checkPair e) (fun M5 v5 _ h => ?_)
    refine zV_b (pc' := 25) (lv' := [(3, .inl v5), (0, .inr (.inr l0)), (1, .inl l1), (2, .inl l2)]) (st' := []) [(.istore_n 3, 1)] (by decide +kernel) rfl ?_
    exact zV_lv (lv' := [(0, .inr (.inr l0)), (1, .inl l1), (2, .inl l2), (3, .inl v5)]) [1, 2, 3, 0] rfl (zt_X11_topUpVessel_J25 h hR)
  · exact zV_lv (lv' := [(0, .inr (.inr l0)), (1, .inl l1), (2, .inl l2), (3, .inl v3)]) [1, 2, 3, 0] rfl (zt_X11_topUpVessel_J25 h hR)
theorem zc_X11_topUpVessel {M M' : Zm} {l0 : Option Nat} {l1 : Int32} {l2 : Int32} {x : Int64} (h : zf_X11_topUpVessel M l0 l1 l2 = some (M', x)) (l : Launch) (D : va_G) (cy : Nat → ClassId) : zMet l yX11_topUpVessel zC_X11_topUpVessel (some .long) D cy [.inr (.inr l0), .inl l1, .inl l2] M M' (some (.inr (.inl x))) :=
  zM_j (by decide) rfl (fun h => by cases h) (Nat.le_of_ble_eq_true rfl) (fun X hR => zt_X11_topUpVessel h hR)
-- BlendCellar.topUp(II)J
def zC_X11_topUp : Zc := (cX11_topUp, 3, RX11, 11, 253, false)
theorem zcl_X11_topUp {C : Zc} (h1 : zC_X11_topUp.2.2.2.1 + 1 ≤ C.2.2.2.1) (h2 : 8 + (zC_X11_topUp.2.1 + 11) + zC_X11_topUp.2.2.2.2.1 ≤ C.2.2.2.2.1) : zCl C yX11_topUp zC_X11_topUp (some .long) 2 := ⟨zw_932, zw_101, ⟨by decide, by decide⟩, by decide +kernel, h1, h2⟩
noncomputable def zf_X11_topUp (M : Zm) (l0 : Option Nat) (l1 : Int32) (l2 : Int32) : Option (Zm × Int64) :=
  zb1 (zo_rc M l0 12) (fun _ => zbd (zf_X11_openTap M l0) (fun M1 _ =>
  zb1 (zo_rc M1 l0 12) (fun _ => zbd (zf_X11_topUpVessel M1 l0 l1 l2) (fun M2 v2 =>
  zb1 (zo_rc M2 l0 12) (fun _ => zbd (zf_X11_closeTap M2 l0 v2) (fun M3 v3 =>
  some (M3, v3)))))))
set_option maxRecDepth 100000 in
theorem zt_X11_topUp {X : Zx} {M : Zm} {l0 : Option Nat} {l1 : Int32} {l2 : Int32} {z : Zm × Int64} (h : zf_X11_topUp M l0 l1 l2 = some z) (hR : zRj X zC_X11_topUp z.1 z.2) : zV X zC_X11_topUp M 0 [(0, .inr (.inr l0)), (1, .inl l1), (2, .inl l2)] [] := by
  unfold zf_X11_topUp at h
  refine zV_b (pc' := 1) (lv' := [(0, .inr (.inr l0)), (1, .inl l1), (2, .inl l2)]) (st' := [.inr (.inr l0)]) [(.aload_n 0, 1)] (by decide +kernel) rfl ?_
  refine zV_cvv (As := []) (st := []) (c := 12) (by decide +kernel) (zcl_X11_openTap (by decide) (by decide)) ⟨zw_453, zw_455, zw_0⟩ ⟨⟨_, _, rfl⟩, by decide⟩ rfl rfl (Nat.le_of_ble_eq_true rfl) h (fun _ _ e => zc_X11_openTap e) (fun M1 _ _ h => ?_)
  refine zV_b (pc' := 8) (lv' := [(0, .inr (.inr l0)), (1, .inl l1), (2, .inl l2)]) (st' := [.inl l2, .inl l1, .inr (.inr l0), .inr (.inr l0)]) [(.aload_n 0, 1), (.aload_n 0, 1), (.iload_n 1, 1), (.iload_n 2, 1)] (by decide +kernel) rfl ?_
  refine zV_cvj (As := [.inl l1, .inl l2]) (st := [.inr (.inr l0)]) (c := 12) (by decide +kernel) (zcl_X11_topUpVessel (by decide) (by decide)) ⟨zw_933, zw_935, zw_33⟩ ⟨⟨_, _, rfl⟩, by decide⟩ rfl rfl (Nat.le_of_ble_eq_true rfl) h (fun _ _ e => zc_X11_topUpVessel e) (fun M2 v2 _ h => ?_)
  refine zV_cvj (As := [.inr (.inl v2)]) (st := []) (c := 12) (by decide +kernel) (zcl_X11_closeTap (by decide) (by decide)) ⟨zw_510, zw_512, zw_3⟩ ⟨⟨_, _, rfl⟩, by decide⟩ rfl rfl (Nat.le_of_ble_eq_true rfl) h (fun _ _ e => zc_X11_closeTap e) (fun M3 v3 _ h => ?_)
  exact zend_j h hR (by decide +kernel)
theorem zc_X11_topUp {M M' : Zm} {l0 : Option Nat} {l1 : Int32} {l2 : Int32} {x : Int64} (h : zf_X11_topUp M l0 l1 l2 = some (M', x)) (l : Launch) (D : va_G) (cy : Nat → ClassId) : zMet l yX11_topUp zC_X11_topUp (some .long) D cy [.inr (.inr l0), .inl l1, .inl l2] M M' (some (.inr (.inl x))) :=
  zM_j (by decide) rfl (fun h => by cases h) (Nat.le_of_ble_eq_true rfl) (fun X hR => zt_X11_topUp h hR)
-- BlendCellar.trace(I)I
def zC_X11_trace : Zc := (cX11_trace, 2, RX11, 1, 21, false)
theorem zcl_X11_trace {C : Zc} (h1 : zC_X11_trace.2.2.2.1 + 1 ≤ C.2.2.2.1) (h2 : 8 + (zC_X11_trace.2.1 + 11) + zC_X11_trace.2.2.2.2.1 ≤ C.2.2.2.2.1) : zCl C yX11_trace zC_X11_trace (some .int) 1 := ⟨zw_1405, zw_101, ⟨by decide, by decide⟩, by decide +kernel, h1, h2⟩
noncomputable def zf_X11_trace (M : Zm) (l0 : Option Nat) (l1 : Int32) : Option (Zm × Int32) :=
  zb1 (zo_gr M l0 12 12) (fun v1 =>
  zb1 (zo_rc M v1 10) (fun _ => zbd (zf_X9_read M v1 l1) (fun M2 v2 =>
  some (M2, v2))))
set_option maxRecDepth 100000 in
theorem zt_X11_trace {X : Zx} {M : Zm} {l0 : Option Nat} {l1 : Int32} {z : Zm × Int32} (h : zf_X11_trace M l0 l1 = some z) (hR : zRi X zC_X11_trace z.1 z.2) : zV X zC_X11_trace M 0 [(0, .inr (.inr l0)), (1, .inl l1)] [] := by
  unfold zf_X11_trace at h
  refine zV_b (pc' := 1) (lv' := [(0, .inr (.inr l0)), (1, .inl l1)]) (st' := [.inr (.inr l0)]) [(.aload_n 0, 1)] (by decide +kernel) rfl ?_
  refine zV_gr (by decide +kernel) zfl_RX11_86 (by decide) rfl h (fun v1 _ h => ?_)
  refine zV_b (pc' := 5) (lv' := [(0, .inr (.inr l0)), (1, .inl l1)]) (st' := [.inl l1, .inr (.inr v1)]) [(.iload_n 1, 1)] (by decide +kernel) rfl ?_
  refine zV_cvi (As := [.inl l1]) (st := []) (c := 10) (by decide +kernel) (zcl_X9_read (by decide) (by decide)) ⟨zw_1406, zw_1407, zw_1408⟩ ⟨⟨_, _, rfl⟩, by decide⟩ rfl rfl (Nat.le_of_ble_eq_true rfl) h (fun _ _ e => zc_X9_read e) (fun M2 v2 _ h => ?_)
  exact zend_i h hR (by decide +kernel)
theorem zc_X11_trace {M M' : Zm} {l0 : Option Nat} {l1 : Int32} {x : Int32} (h : zf_X11_trace M l0 l1 = some (M', x)) (l : Launch) (D : va_G) (cy : Nat → ClassId) : zMet l yX11_trace zC_X11_trace (some .int) D cy [.inr (.inr l0), .inl l1] M M' (some (.inl x)) :=
  zM_i (by decide) rfl (fun h => by cases h) (Nat.le_of_ble_eq_true rfl) (fun X hR => zt_X11_trace h hR)
-- BlendCellar.tries()I
def zC_X11_tries : Zc := (cX11_tries, 1, RX11, 0, 0, false)
theorem zcl_X11_tries {C : Zc} (h1 : zC_X11_tries.2.2.2.1 + 1 ≤ C.2.2.2.1) (h2 : 8 + (zC_X11_tries.2.1 + 11) + zC_X11_tries.2.2.2.2.1 ≤ C.2.2.2.2.1) : zCl C yX11_tries zC_X11_tries (some .int) 0 := ⟨zw_1389, zw_101, ⟨by decide, by decide⟩, by decide +kernel, h1, h2⟩
noncomputable def zf_X11_tries (M : Zm) (l0 : Option Nat) : Option (Zm × Int32) :=
  zb1 (zo_gi M l0 12 16) (fun v1 =>
  some (M, v1))
set_option maxRecDepth 100000 in
theorem zt_X11_tries {X : Zx} {M : Zm} {l0 : Option Nat} {z : Zm × Int32} (h : zf_X11_tries M l0 = some z) (hR : zRi X zC_X11_tries z.1 z.2) : zV X zC_X11_tries M 0 [(0, .inr (.inr l0))] [] := by
  unfold zf_X11_tries at h
  refine zV_b (pc' := 1) (lv' := [(0, .inr (.inr l0))]) (st' := [.inr (.inr l0)]) [(.aload_n 0, 1)] (by decide +kernel) rfl ?_
  refine zV_gi (by decide +kernel) zfl_RX11_101 (by decide) rfl (Or.inl rfl) h (fun v1 _ h => ?_)
  exact zend_i h hR (by decide +kernel)
theorem zc_X11_tries {M M' : Zm} {l0 : Option Nat} {x : Int32} (h : zf_X11_tries M l0 = some (M', x)) (l : Launch) (D : va_G) (cy : Nat → ClassId) : zMet l yX11_tries zC_X11_tries (some .int) D cy [.inr (.inr l0)] M M' (some (.inl x)) :=
  zM_i (by decide) rfl (fun h => by cases h) (Nat.le_of_ble_eq_true rfl) (fun X hR => zt_X11_tries h hR)
-- BlendCellar.undo()J
def zC_X11_undo : Zc := (cX11_undo, 1, RX11, 5, 109, false)
theorem zcl_X11_undo {C : Zc} (h1 : zC_X11_undo.2.2.2.1 + 1 ≤ C.2.2.2.1) (h2 : 8 + (zC_X11_undo.2.1 + 11) + zC_X11_undo.2.2.2.2.1 ≤ C.2.2.2.2.1) : zCl C yX11_undo zC_X11_undo (some .long) 0 := ⟨zw_1251, zw_101, ⟨by decide, by decide⟩, by decide +kernel, h1, h2⟩
noncomputable def zf_X11_undo (M : Zm) (l0 : Option Nat) : Option (Zm × Int64) :=
  zb1 (zo_rc M l0 12) (fun _ => zbd (zf_X11_openTap M l0) (fun M1 _ =>
  zb1 (zo_rc M1 l0 12) (fun _ => zbd (zf_X11_takeBack M1 l0) (fun M2 v2 =>
  zb1 (zo_rc M2 l0 12) (fun _ => zbd (zf_X11_closeTap M2 l0 v2) (fun M3 v3 =>
  some (M3, v3)))))))
set_option maxRecDepth 100000 in
theorem zt_X11_undo {X : Zx} {M : Zm} {l0 : Option Nat} {z : Zm × Int64} (h : zf_X11_undo M l0 = some z) (hR : zRj X zC_X11_undo z.1 z.2) : zV X zC_X11_undo M 0 [(0, .inr (.inr l0))] [] := by
  unfold zf_X11_undo at h
  refine zV_b (pc' := 1) (lv' := [(0, .inr (.inr l0))]) (st' := [.inr (.inr l0)]) [(.aload_n 0, 1)] (by decide +kernel) rfl ?_
  refine zV_cvv (As := []) (st := []) (c := 12) (by decide +kernel) (zcl_X11_openTap (by decide) (by decide)) ⟨zw_453, zw_455, zw_0⟩ ⟨⟨_, _, rfl⟩, by decide⟩ rfl rfl (Nat.le_of_ble_eq_true rfl) h (fun _ _ e => zc_X11_openTap e) (fun M1 _ _ h => ?_)
  refine zV_b (pc' := 6) (lv' := [(0, .inr (.inr l0))]) (st' := [.inr (.inr l0), .inr (.inr l0)]) [(.aload_n 0, 1), (.aload_n 0, 1)] (by decide +kernel) rfl ?_
  refine zV_cvj (As := []) (st := [.inr (.inr l0)]) (c := 12) (by decide +kernel) (zcl_X11_takeBack (by decide) (by decide)) ⟨zw_1252, zw_1254, zw_54⟩ ⟨⟨_, _, rfl⟩, by decide⟩ rfl rfl (Nat.le_of_ble_eq_true rfl) h (fun _ _ e => zc_X11_takeBack e) (fun M2 v2 _ h => ?_)
  refine zV_cvj (As := [.inr (.inl v2)]) (st := []) (c := 12) (by decide +kernel) (zcl_X11_closeTap (by decide) (by decide)) ⟨zw_510, zw_512, zw_3⟩ ⟨⟨_, _, rfl⟩, by decide⟩ rfl rfl (Nat.le_of_ble_eq_true rfl) h (fun _ _ e => zc_X11_closeTap e) (fun M3 v3 _ h => ?_)
  exact zend_j h hR (by decide +kernel)
theorem zc_X11_undo {M M' : Zm} {l0 : Option Nat} {x : Int64} (h : zf_X11_undo M l0 = some (M', x)) (l : Launch) (D : va_G) (cy : Nat → ClassId) : zMet l yX11_undo zC_X11_undo (some .long) D cy [.inr (.inr l0)] M M' (some (.inr (.inl x))) :=
  zM_j (by decide) rfl (fun h => by cases h) (Nat.le_of_ble_eq_true rfl) (fun X hR => zt_X11_undo h hR)
-- BlendCellar.washVessel(I)J
def zC_X11_washVessel : Zc := (cX11_washVessel, 6, RX11, 10, 225, false)
theorem zcl_X11_washVessel {C : Zc} (h1 : zC_X11_washVessel.2.2.2.1 + 1 ≤ C.2.2.2.1) (h2 : 8 + (zC_X11_washVessel.2.1 + 11) + zC_X11_washVessel.2.2.2.2.1 ≤ C.2.2.2.2.1) : zCl C yX11_washVessel zC_X11_washVessel (some .long) 1 := ⟨zw_1046, zw_101, ⟨by decide, by decide⟩, by decide +kernel, h1, h2⟩
noncomputable def zf_X11_washVessel (M : Zm) (l0 : Option Nat) (l1 : Int32) : Option (Zm × Int64) :=
  zb1 (zo_rc M l0 12) (fun _ => zbd (zf_X11_lookUpFreeVessel M l0 l1) (fun M1 v1 =>
  (if v1 = 0 then
  zb1 (zo_gr M1 l0 12 0) (fun v3 =>
  zb1 (zo_rc M1 v3 0) (fun _ => zbd (zf_Jx4a65c_get_915e3 M1 v3 l1) (fun M4 v4 =>
  zb1 (zo_cc M4 v4 1) (fun _ =>
  zb1 (zo_gr M4 v4 1 5) (fun v6 =>
  zb1 (zo_gj M4 v6 11 3) (fun v7 =>
  zb1 (zo_rc M4 l0 12) (fun _ => zbd (zf_X11_drawOff M4 l0 v4 v7 (3 : Int32)) (fun M8 _ =>
  zb1 (zo_gr M8 l0 12 8) (fun v9 =>
  zb1 (zo_rc M8 v9 5) (fun _ => zbd (zf_X4_add M8 v9 (9 : Int64) (l1.toInt64) (-1 : Int64) v7) (fun M12 _ =>
  some (M12, v7))))))))))))
  else
  some (M1, (((-v1)).toInt64)))))
set_option maxRecDepth 100000 in
theorem zt_X11_washVessel {X : Zx} {M : Zm} {l0 : Option Nat} {l1 : Int32} {z : Zm × Int64} (h : zf_X11_washVessel M l0 l1 = some z) (hR : zRj X zC_X11_washVessel z.1 z.2) : zV X zC_X11_washVessel M 0 [(0, .inr (.inr l0)), (1, .inl l1)] [] := by
  unfold zf_X11_washVessel at h
  refine zV_b (pc' := 2) (lv' := [(0, .inr (.inr l0)), (1, .inl l1)]) (st' := [.inl l1, .inr (.inr l0)]) [(.aload_n 0, 1), (.iload_n 1, 1)] (by decide +kernel) rfl ?_
  refine zV_cvi (As := [.inl l1]) (st := []) (c := 12) (by decide +kernel) (zcl_X11_lookUpFreeVessel (by decide) (by decide)) ⟨zw_776, zw_778, zw_19⟩ ⟨⟨_, _, rfl⟩, by decide⟩ rfl rfl (Nat.le_of_ble_eq_true rfl) h (fun _ _ e => zc_X11_lookUpFreeVessel e) (fun M1 v1 _ h => ?_)
  refine zV_b (pc' := 7) (lv' := [(2, .inl v1), (0, .inr (.inr l0)), (1, .inl l1)]) (st' := [.inl v1]) [(.istore_n 2, 1), (.iload_n 2, 1)] (by decide +kernel) rfl ?_
  refine zV_if_eq (off := 7) (tgt := 14) (by decide +kernel) (by decide) h (fun c2 h => ?_) (fun c2 h => ?_)
  · refine zV_b (pc' := 15) (lv' := [(2, .inl v1), (0, .inr (.inr l0)), (1, .inl l1)]) (st' := [.inr (.inr l0)]) [(.aload_n 0, 1)] (by decide +kernel) rfl ?_
    refine zV_gr (by decide +kernel) zfl_RX11_12 (by decide) rfl h (fun v3 _ h => ?_)
    refine zV_b (pc' := 19) (lv' := [(2, .inl v1), (0, .inr (.inr l0)), (1, .inl l1)]) (st' := [.inl l1, .inr (.inr v3)]) [(.iload_n 1, 1)] (by decide +kernel) rfl ?_
    refine zV_cvr (As := [.inl l1]) (st := []) (c := 0) (by decide +kernel) (zcl_Jx4a65c_get_915e3 (by decide) (by decide)) ⟨zw_670, zw_671, zw_672⟩ ⟨⟨_, _, rfl⟩, by decide⟩ rfl rfl (Nat.le_of_ble_eq_true rfl) h (fun _ _ e => zc_Jx4a65c_get_915e3 e) (fun M4 v4 _ h => ?_)
    refine zV_cc (by decide +kernel) zck_RX11_156 h (fun _ _ h => ?_)
    refine zV_b (pc' := 27) (lv' := [(3, .inr (.inr v4)), (2, .inl v1), (0, .inr (.inr l0)), (1, .inl l1)]) (st' := [.inr (.inr v4)]) [(.astore_n 3, 1), (.aload_n 3, 1)] (by decide +kernel) rfl ?_
    refine zV_gr (by decide +kernel) zfl_RX11_268 (by decide) rfl h (fun v6 _ h => ?_)
    refine zV_gj (by decide +kernel) zfl_RX11_271 (by decide) rfl h (fun v7 _ h => ?_)
    refine zV_b (pc' := 40) (lv' := [(4, .inr (.inl v7)), (3, .inr (.inr v4)), (2, .inl v1), (0, .inr (.inr l0)), (1, .inl l1)]) (st' := [.inl (3 : Int32), .inr (.inl v7), .inr (.inr v4), .inr (.inr l0)]) [(.lstore 4, 2), (.aload_n 0, 1), (.aload_n 3, 1), (.lload 4, 2), (.iconst 3, 1)] (by decide +kernel) rfl ?_
    refine zV_cvv (As := [.inr (.inr v4), .inr (.inl v7), .inl (3 : Int32)]) (st := []) (c := 12) (by decide +kernel) (zcl_X11_drawOff (by decide) (by decide)) ⟨zw_1024, zw_1026, zw_40⟩ ⟨⟨_, _, rfl⟩, by decide⟩ rfl rfl (Nat.le_of_ble_eq_true rfl) h (fun _ _ e => zc_X11_drawOff e) (fun M8 _ _ h => ?_)
    refine zV_b (pc' := 44) (lv' := [(4, .inr (.inl v7)), (3, .inr (.inr v4)), (2, .inl v1), (0, .inr (.inr l0)), (1, .inl l1)]) (st' := [.inr (.inr l0)]) [(.aload_n 0, 1)] (by decide +kernel) rfl ?_
    refine zV_gr (by decide +kernel) zfl_RX11_62 (by decide) rfl h (fun v9 _ h => ?_)
    refine zV_ldc2 (by decide +kernel) zw_1047 ?_
    refine zV_b (pc' := 52) (lv' := [(4, .inr (.inl v7)), (3, .inr (.inr v4)), (2, .inl v1), (0, .inr (.inr l0)), (1, .inl l1)]) (st' := [.inr (.inl (l1.toInt64)), .inr (.inl (9 : Int64)), .inr (.inr v9)]) [(.iload_n 1, 1), (.i2l, 1)] (by decide +kernel) rfl ?_
    refine zV_ldc2 (by decide +kernel) zw_465 ?_
    refine zV_b (pc' := 57) (lv' := [(4, .inr (.inl v7)), (3, .inr (.inr v4)), (2, .inl v1), (0, .inr (.inr l0)), (1, .inl l1)]) (st' := [.inr (.inl v7), .inr (.inl (-1 : Int64)), .inr (.inl (l1.toInt64)), .inr (.inl (9 : Int64)), .inr (.inr v9)]) [(.lload 4, 2)] (by decide +kernel) rfl ?_
    refine zV_cvv (As := [.inr (.inl (9 : Int64)), .inr (.inl (l1.toInt64)), .inr (.inl (-1 : Int64)), .inr (.inl v7)]) (st := []) (c := 5) (by decide +kernel) (zcl_X4_add (by decide) (by decide)) ⟨zw_844, zw_845, zw_846⟩ ⟨⟨_, _, rfl⟩, by decide⟩ rfl rfl (Nat.le_of_ble_eq_true rfl) h (fun _ _ e => zc_X4_add e) (fun M12 _ _ h => ?_)
    refine zV_b (pc' := 62) (lv' := [(4, .inr (.inl v7)), (3, .inr (.inr v4)), (2, .inl v1), (0, .inr (.inr l0)), (1, .inl l1)]) (st' := [.inr (.inl v7)]) [(.lload 4, 2)] (by decide +kernel) rfl ?_
    exact zend_j h hR (by decide +kernel)
  · refine zV_b (pc' := 13) (lv' := [(2, .inl v1), (0, .inr (.inr l0)), (1, .inl l1)]) (st' := [.inr (.inl (((-v1)).toInt64))]) [(.iload_n 2, 1), (.ineg, 1), (.i2l, 1)] (by decide +kernel) rfl ?_
    exact zend_j h hR (by decide +kernel)
theorem zc_X11_washVessel {M M' : Zm} {l0 : Option Nat} {l1 : Int32} {x : Int64} (h : zf_X11_washVessel M l0 l1 = some (M', x)) (l : Launch) (D : va_G) (cy : Nat → ClassId) : zMet l yX11_washVessel zC_X11_washVessel (some .long) D cy [.inr (.inr l0), .inl l1] M M' (some (.inr (.inl x))) :=
  zM_j (by decide) rfl (fun h => by cases h) (Nat.le_of_ble_eq_true rfl) (fun X hR => zt_X11_washVessel h hR)
-- BlendCellar.wash(I)J
def zC_X11_wash : Zc := (cX11_wash, 2, RX11, 11, 250, false)
theorem zcl_X11_wash {C : Zc} (h1 : zC_X11_wash.2.2.2.1 + 1 ≤ C.2.2.2.1) (h2 : 8 + (zC_X11_wash.2.1 + 11) + zC_X11_wash.2.2.2.2.1 ≤ C.2.2.2.2.1) : zCl C yX11_wash zC_X11_wash (some .long) 1 := ⟨zw_1042, zw_101, ⟨by decide, by decide⟩, by decide +kernel, h1, h2⟩
noncomputable def zf_X11_wash (M : Zm) (l0 : Option Nat) (l1 : Int32) : Option (Zm × Int64) :=
  zb1 (zo_rc M l0 12) (fun _ => zbd (zf_X11_openTap M l0) (fun M1 _ =>
  zb1 (zo_rc M1 l0 12) (fun _ => zbd (zf_X11_washVessel M1 l0 l1) (fun M2 v2 =>
  zb1 (zo_rc M2 l0 12) (fun _ => zbd (zf_X11_closeTap M2 l0 v2) (fun M3 v3 =>
  some (M3, v3)))))))
set_option maxRecDepth 100000 in
theorem zt_X11_wash {X : Zx} {M : Zm} {l0 : Option Nat} {l1 : Int32} {z : Zm × Int64} (h : zf_X11_wash M l0 l1 = some z) (hR : zRj X zC_X11_wash z.1 z.2) : zV X zC_X11_wash M 0 [(0, .inr (.inr l0)), (1, .inl l1)] [] := by
  unfold zf_X11_wash at h
  refine zV_b (pc' := 1) (lv' := [(0, .inr (.inr l0)), (1, .inl l1)]) (st' := [.inr (.inr l0)]) [(.aload_n 0, 1)] (by decide +kernel) rfl ?_
  refine zV_cvv (As := []) (st := []) (c := 12) (by decide +kernel) (zcl_X11_openTap (by decide) (by decide)) ⟨zw_453, zw_455, zw_0⟩ ⟨⟨_, _, rfl⟩, by decide⟩ rfl rfl (Nat.le_of_ble_eq_true rfl) h (fun _ _ e => zc_X11_openTap e) (fun M1 _ _ h => ?_)
  refine zV_b (pc' := 7) (lv' := [(0, .inr (.inr l0)), (1, .inl l1)]) (st' := [.inl l1, .inr (.inr l0), .inr (.inr l0)]) [(.aload_n 0, 1), (.aload_n 0, 1), (.iload_n 1, 1)] (by decide +kernel) rfl ?_
  refine zV_cvj (As := [.inl l1]) (st := [.inr (.inr l0)]) (c := 12) (by decide +kernel) (zcl_X11_washVessel (by decide) (by decide)) ⟨zw_1043, zw_1045, zw_42⟩ ⟨⟨_, _, rfl⟩, by decide⟩ rfl rfl (Nat.le_of_ble_eq_true rfl) h (fun _ _ e => zc_X11_washVessel e) (fun M2 v2 _ h => ?_)
  refine zV_cvj (As := [.inr (.inl v2)]) (st := []) (c := 12) (by decide +kernel) (zcl_X11_closeTap (by decide) (by decide)) ⟨zw_510, zw_512, zw_3⟩ ⟨⟨_, _, rfl⟩, by decide⟩ rfl rfl (Nat.le_of_ble_eq_true rfl) h (fun _ _ e => zc_X11_closeTap e) (fun M3 v3 _ h => ?_)
  exact zend_j h hR (by decide +kernel)
theorem zc_X11_wash {M M' : Zm} {l0 : Option Nat} {l1 : Int32} {x : Int64} (h : zf_X11_wash M l0 l1 = some (M', x)) (l : Launch) (D : va_G) (cy : Nat → ClassId) : zMet l yX11_wash zC_X11_wash (some .long) D cy [.inr (.inr l0), .inl l1] M M' (some (.inr (.inl x))) :=
  zM_j (by decide) rfl (fun h => by cases h) (Nat.le_of_ble_eq_true rfl) (fun X hR => zt_X11_wash h hR)
-- BlendCellar.where(I)I
def zC_X11_where : Zc := (cX11_where, 3, RX11, 4, 85, false)
theorem zcl_X11_where {C : Zc} (h1 : zC_X11_where.2.2.2.1 + 1 ≤ C.2.2.2.1) (h2 : 8 + (zC_X11_where.2.1 + 11) + zC_X11_where.2.2.2.2.1 ≤ C.2.2.2.2.1) : zCl C yX11_where zC_X11_where (some .int) 1 := ⟨zw_1293, zw_101, ⟨by decide, by decide⟩, by decide +kernel, h1, h2⟩
noncomputable def zf_X11_where (M : Zm) (l0 : Option Nat) (l1 : Int32) : Option (Zm × Int32) :=
  zb1 (zo_rc M l0 12) (fun _ => zbd (zf_X11_find M l0 l1) (fun M1 v1 =>
  (if v1 = none then
  some (M1, (-1 : Int32))
  else
  zb1 (zo_gi M1 v1 1 4) (fun v5 =>
  some (M1, v5)))))
set_option maxRecDepth 100000 in
theorem zt_X11_where {X : Zx} {M : Zm} {l0 : Option Nat} {l1 : Int32} {z : Zm × Int32} (h : zf_X11_where M l0 l1 = some z) (hR : zRi X zC_X11_where z.1 z.2) : zV X zC_X11_where M 0 [(0, .inr (.inr l0)), (1, .inl l1)] [] := by
  unfold zf_X11_where at h
  refine zV_b (pc' := 2) (lv' := [(0, .inr (.inr l0)), (1, .inl l1)]) (st' := [.inl l1, .inr (.inr l0)]) [(.aload_n 0, 1), (.iload_n 1, 1)] (by decide +kernel) rfl ?_
  refine zV_cvr (As := [.inl l1]) (st := []) (c := 12) (by decide +kernel) (zcl_X11_find (by decide) (by decide)) ⟨zw_751, zw_753, zw_16⟩ ⟨⟨_, _, rfl⟩, by decide⟩ rfl rfl (Nat.le_of_ble_eq_true rfl) h (fun _ _ e => zc_X11_find e) (fun M1 v1 _ h => ?_)
  refine zV_b (pc' := 7) (lv' := [(2, .inr (.inr v1)), (0, .inr (.inr l0)), (1, .inl l1)]) (st' := [.inr (.inr v1)]) [(.astore_n 2, 1), (.aload_n 2, 1)] (by decide +kernel) rfl ?_
  refine zV_ifnonnull (off := 7) (tgt := 14) (by decide +kernel) (by decide) h (fun c2 h => ?_) (fun c2 h => ?_)
  · refine zV_b (pc' := 11) (lv' := [(2, .inr (.inr v1)), (0, .inr (.inr l0)), (1, .inl l1)]) (st' := [.inl (-1 : Int32)]) [(.iconst (-1), 1)] (by decide +kernel) rfl ?_
    refine zV_goto (off := 7) (tgt := 18) (by decide +kernel) (by decide) ?_
    exact zend_i h hR (by decide +kernel)
  · refine zV_b (pc' := 15) (lv' := [(2, .inr (.inr v1)), (0, .inr (.inr l0)), (1, .inl l1)]) (st' := [.inr (.inr v1)]) [(.aload_n 2, 1)] (by decide +kernel) rfl ?_
    refine zV_gi (by decide +kernel) zfl_RX11_208 (by decide) rfl (Or.inl rfl) h (fun v5 _ h => ?_)
    exact zend_i h hR (by decide +kernel)
theorem zc_X11_where {M M' : Zm} {l0 : Option Nat} {l1 : Int32} {x : Int32} (h : zf_X11_where M l0 l1 = some (M', x)) (l : Launch) (D : va_G) (cy : Nat → ClassId) : zMet l yX11_where zC_X11_where (some .int) D cy [.inr (.inr l0), .inl l1] M M' (some (.inl x)) :=
  zM_i (by decide) rfl (fun h => by cases h) (Nat.le_of_ble_eq_true rfl) (fun X hR => zt_X11_where h hR)
-- BlendCellar.which()I
def zC_X11_which : Zc := (cX11_which, 1, RX11, 0, 0, false)
theorem zcl_X11_which {C : Zc} (h1 : zC_X11_which.2.2.2.1 + 1 ≤ C.2.2.2.1) (h2 : 8 + (zC_X11_which.2.1 + 11) + zC_X11_which.2.2.2.2.1 ≤ C.2.2.2.2.1) : zCl C yX11_which zC_X11_which (some .int) 0 := ⟨zw_1401, zw_101, ⟨by decide, by decide⟩, by decide +kernel, h1, h2⟩
noncomputable def zf_X11_which (M : Zm) (l0 : Option Nat) : Option (Zm × Int32) :=
  zb1 (zo_gi M l0 12 19) (fun v1 =>
  some (M, v1))
set_option maxRecDepth 100000 in
theorem zt_X11_which {X : Zx} {M : Zm} {l0 : Option Nat} {z : Zm × Int32} (h : zf_X11_which M l0 = some z) (hR : zRi X zC_X11_which z.1 z.2) : zV X zC_X11_which M 0 [(0, .inr (.inr l0))] [] := by
  unfold zf_X11_which at h
  refine zV_b (pc' := 1) (lv' := [(0, .inr (.inr l0))]) (st' := [.inr (.inr l0)]) [(.aload_n 0, 1)] (by decide +kernel) rfl ?_
  refine zV_gi (by decide +kernel) zfl_RX11_111 (by decide) rfl (Or.inl rfl) h (fun v1 _ h => ?_)
  exact zend_i h hR (by decide +kernel)
theorem zc_X11_which {M M' : Zm} {l0 : Option Nat} {x : Int32} (h : zf_X11_which M l0 = some (M', x)) (l : Launch) (D : va_G) (cy : Nat → ClassId) : zMet l yX11_which zC_X11_which (some .int) D cy [.inr (.inr l0)] M M' (some (.inl x)) :=
  zM_i (by decide) rfl (fun h => by cases h) (Nat.le_of_ble_eq_true rfl) (fun X hR => zt_X11_which h hR)
-- BlendCellar.why()I
def zC_X11_why : Zc := (cX11_why, 1, RX11, 0, 0, false)
theorem zcl_X11_why {C : Zc} (h1 : zC_X11_why.2.2.2.1 + 1 ≤ C.2.2.2.1) (h2 : 8 + (zC_X11_why.2.1 + 11) + zC_X11_why.2.2.2.2.1 ≤ C.2.2.2.2.1) : zCl C yX11_why zC_X11_why (some .int) 0 := ⟨zw_1397, zw_101, ⟨by decide, by decide⟩, by decide +kernel, h1, h2⟩
noncomputable def zf_X11_why (M : Zm) (l0 : Option Nat) : Option (Zm × Int32) :=
  zb1 (zo_gi M l0 12 18) (fun v1 =>
  some (M, v1))
set_option maxRecDepth 100000 in
theorem zt_X11_why {X : Zx} {M : Zm} {l0 : Option Nat} {z : Zm × Int32} (h : zf_X11_why M l0 = some z) (hR : zRi X zC_X11_why z.1 z.2) : zV X zC_X11_why M 0 [(0, .inr (.inr l0))] [] := by
  unfold zf_X11_why at h
  refine zV_b (pc' := 1) (lv' := [(0, .inr (.inr l0))]) (st' := [.inr (.inr l0)]) [(.aload_n 0, 1)] (by decide +kernel) rfl ?_
  refine zV_gi (by decide +kernel) zfl_RX11_108 (by decide) rfl (Or.inl rfl) h (fun v1 _ h => ?_)
  exact zend_i h hR (by decide +kernel)
theorem zc_X11_why {M M' : Zm} {l0 : Option Nat} {x : Int32} (h : zf_X11_why M l0 = some (M', x)) (l : Launch) (D : va_G) (cy : Nat → ClassId) : zMet l yX11_why zC_X11_why (some .int) D cy [.inr (.inr l0)] M M' (some (.inl x)) :=
  zM_i (by decide) rfl (fun h => by cases h) (Nat.le_of_ble_eq_true rfl) (fun X hR => zt_X11_why h hR)
-- BlendCellar.worth(II)J
def zC_X11_worth : Zc := (cX11_worth, 3, RX11, 9, 203, false)
theorem zcl_X11_worth {C : Zc} (h1 : zC_X11_worth.2.2.2.1 + 1 ≤ C.2.2.2.1) (h2 : 8 + (zC_X11_worth.2.1 + 11) + zC_X11_worth.2.2.2.2.1 ≤ C.2.2.2.2.1) : zCl C yX11_worth zC_X11_worth (some .long) 2 := ⟨zw_759, zw_101, ⟨by decide, by decide⟩, by decide +kernel, h1, h2⟩
noncomputable def zf_X11_worth (M : Zm) (l0 : Option Nat) (l1 : Int32) (l2 : Int32) : Option (Zm × Int64) :=
  zb1 (zo_rc M l0 12) (fun _ => zbd (zf_X11_openTap M l0) (fun M1 _ =>
  zb1 (zo_rc M1 l0 12) (fun _ => zbd (zf_X11_tellCents M1 l0 l1 l2) (fun M2 v2 =>
  zb1 (zo_rc M2 l0 12) (fun _ => zbd (zf_X11_closeTap M2 l0 v2) (fun M3 v3 =>
  some (M3, v3)))))))
set_option maxRecDepth 100000 in
theorem zt_X11_worth {X : Zx} {M : Zm} {l0 : Option Nat} {l1 : Int32} {l2 : Int32} {z : Zm × Int64} (h : zf_X11_worth M l0 l1 l2 = some z) (hR : zRj X zC_X11_worth z.1 z.2) : zV X zC_X11_worth M 0 [(0, .inr (.inr l0)), (1, .inl l1), (2, .inl l2)] [] := by
  unfold zf_X11_worth at h
  refine zV_b (pc' := 1) (lv' := [(0, .inr (.inr l0)), (1, .inl l1), (2, .inl l2)]) (st' := [.inr (.inr l0)]) [(.aload_n 0, 1)] (by decide +kernel) rfl ?_
  refine zV_cvv (As := []) (st := []) (c := 12) (by decide +kernel) (zcl_X11_openTap (by decide) (by decide)) ⟨zw_453, zw_455, zw_0⟩ ⟨⟨_, _, rfl⟩, by decide⟩ rfl rfl (Nat.le_of_ble_eq_true rfl) h (fun _ _ e => zc_X11_openTap e) (fun M1 _ _ h => ?_)
  refine zV_b (pc' := 8) (lv' := [(0, .inr (.inr l0)), (1, .inl l1), (2, .inl l2)]) (st' := [.inl l2, .inl l1, .inr (.inr l0), .inr (.inr l0)]) [(.aload_n 0, 1), (.aload_n 0, 1), (.iload_n 1, 1), (.iload_n 2, 1)] (by decide +kernel) rfl ?_
  refine zV_cvj (As := [.inl l1, .inl l2]) (st := [.inr (.inr l0)]) (c := 12) (by decide +kernel) (zcl_X11_tellCents (by decide) (by decide)) ⟨zw_760, zw_762, zw_17⟩ ⟨⟨_, _, rfl⟩, by decide⟩ rfl rfl (Nat.le_of_ble_eq_true rfl) h (fun _ _ e => zc_X11_tellCents e) (fun M2 v2 _ h => ?_)
  refine zV_cvj (As := [.inr (.inl v2)]) (st := []) (c := 12) (by decide +kernel) (zcl_X11_closeTap (by decide) (by decide)) ⟨zw_510, zw_512, zw_3⟩ ⟨⟨_, _, rfl⟩, by decide⟩ rfl rfl (Nat.le_of_ble_eq_true rfl) h (fun _ _ e => zc_X11_closeTap e) (fun M3 v3 _ h => ?_)
  exact zend_j h hR (by decide +kernel)
theorem zc_X11_worth {M M' : Zm} {l0 : Option Nat} {l1 : Int32} {l2 : Int32} {x : Int64} (h : zf_X11_worth M l0 l1 l2 = some (M', x)) (l : Launch) (D : va_G) (cy : Nat → ClassId) : zMet l yX11_worth zC_X11_worth (some .long) D cy [.inr (.inr l0), .inl l1, .inl l2] M M' (some (.inr (.inl x))) :=
  zM_j (by decide) rfl (fun h => by cases h) (Nat.le_of_ble_eq_true rfl) (fun X hR => zt_X11_worth h hR)
