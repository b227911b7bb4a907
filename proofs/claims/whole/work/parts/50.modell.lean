/-! What the bytecode does, as functions of the memory, and the walks (written by wip/gen.py). -/
-- BlendCellarModel.topUp(II)J
def zC_X12_topUp : Zc := (cX12_topUp, 10, RX12, 4, 103, false)
theorem zcl_X12_topUp {C : Zc} (h1 : zC_X12_topUp.2.2.2.1 + 1 ≤ C.2.2.2.1) (h2 : 8 + (zC_X12_topUp.2.1 + 11) + zC_X12_topUp.2.2.2.2.1 ≤ C.2.2.2.2.1) : zCl C yX12_topUp zC_X12_topUp (some .long) 2 := ⟨zw_1822, zw_114, ⟨by decide, by decide⟩, by decide +kernel, h1, h2⟩
noncomputable def zf_X12_topUp_J128 (M : Zm) (l0 : Option Nat) (l1 : Int32) (l2 : Int32) (s0 : Int64) : Option (Zm × Int64) :=
  zb1 (zo_pi M l0 13 60 (0 : Int32)) (fun M21 =>
  zb1 (zo_rc M21 l0 13) (fun _ => zbd (zf_X12_drawFrom M21 l0 l2 s0 (1 : Int32)) (fun M22 _ =>
  zb1 (zo_rc M22 l0 13) (fun _ => zbd (zf_X12_mixInto M22 l0 l1) (fun M23 v23 =>
  (if v23 = 0 then
  zb1 (zo_rc M23 l0 13) (fun _ => zbd (zf_X12_no M23 l0 (12 : Int32)) (fun M25 v25 =>
  some (M25, v25)))
  else
  zb1 (zo_rc M23 l0 13) (fun _ => zbd (zf_X12_keep M23 l0) (fun M27 _ =>
  zb1 (zo_rc M27 l0 13) (fun _ => zbd (zf_X12_takeDraws M27 l0 (-1 : Int32)) (fun M28 _ =>
  zb1 (zo_rc M28 l0 13) (fun _ => zbd (zf_X12_become M28 l0 l1) (fun M29 _ =>
  zb1 (zo_rc M29 l0 13) (fun _ => zbd (zf_X12_enter M29 l0 (3 : Int32) l2 l1 s0) (fun M30 _ =>
  some (M30, s0)))))))))))))))
noncomputable def zf_X12_topUp_J58 (M : Zm) (l0 : Option Nat) : Option (Zm × Int64) :=
  zb1 (zo_rc M l0 13) (fun _ => zbd (zf_X12_no M l0 (9 : Int32)) (fun M35 v35 =>
  some (M35, v35)))
noncomputable def zf_X12_topUp_J20 (M : Zm) (l0 : Option Nat) (l1 : Int32) (l2 : Int32) (l3 : Int32) : Option (Zm × Int64) :=
  (if l3 ≤ 0 then
  (if l2 = l1 then
  zb1 (zo_rc M l0 13) (fun _ => zbd (zf_X12_no M l0 (13 : Int32)) (fun M7 v7 =>
  some (M7, v7)))
  else
  zb1 (zo_rc M l0 13) (fun _ => zbd (zf_X12_isInCask M l0 l2) (fun M9 v9 =>
  (if v9 = 0 then
  zb1 (zo_rc M9 l0 13) (fun _ => zbd (zf_X12_isInCask M9 l0 l1) (fun M11 v11 =>
  (if v11 = 0 then
  zb1 (zo_rc M11 l0 13) (fun _ => zbd (zf_X12_most M11 l0 l1) (fun M13 v13 =>
  zb1 (zo_rc M13 l0 13) (fun _ => zbd (zf_X12_inVessel M13 l0 l1) (fun M14 v14 =>
  zb1 (zo_rc M14 l0 13) (fun _ => zbd (zf_X12_spare M14 l0 l2) (fun M15 v15 =>
  (if (0 : Int64) < (v13 - v14) then
  (if v15 = (0 : Int64) then
  zb1 (zo_rc M15 l0 13) (fun _ => zbd (zf_X12_no M15 l0 (10 : Int32)) (fun M18 v18 =>
  some (M18, v18)))
  else
  (if (v13 - v14) ≤ v15 then
  zf_X12_topUp_J128 M15 l0 l1 l2 (v13 - v14)
  else
  zf_X12_topUp_J128 M15 l0 l1 l2 v15))
  else
  zb1 (zo_rc M15 l0 13) (fun _ => zbd (zf_X12_no M15 l0 (11 : Int32)) (fun M33 v33 =>
  some (M33, v33))))))))))
  else
  zf_X12_topUp_J58 M11 l0)))
  else
  zf_X12_topUp_J58 M9 l0))))
  else
  zb1 (zo_rc M l0 13) (fun _ => zbd (zf_X12_no M l0 l3) (fun M37 v37 =>
  some (M37, v37))))
noncomputable def zf_X12_topUp (M : Zm) (l0 : Option Nat) (l1 : Int32) (l2 : Int32) : Option (Zm × Int64) :=
  zb1 (zo_rc M l0 13) (fun _ => zbd (zf_X12_begin M l0) (fun M1 _ =>
  zb1 (zo_rc M1 l0 13) (fun _ => zbd (zf_X12_lookedVessel M1 l0 l1) (fun M2 v2 =>
  (if v2 = 0 then
  zb1 (zo_rc M2 l0 13) (fun _ => zbd (zf_X12_looked M2 l0 l2) (fun M4 v4 =>
  zf_X12_topUp_J20 M4 l0 l1 l2 v4))
  else
  zf_X12_topUp_J20 M2 l0 l1 l2 v2)))))
set_option maxRecDepth 100000 in
theorem zt_X12_topUp_J128 {X : Zx} {M : Zm} {l0 : Option Nat} {l1 : Int32} {l2 : Int32} {s0 : Int64} {z : Zm × Int64} (h : zf_X12_topUp_J128 M l0 l1 l2 s0 = some z) (hR : zRj X zC_X12_topUp z.1 z.2) : zV X zC_X12_topUp M 128 [(0, .inr (.inr l0)), (1, .inl l1), (2, .inl l2)] [.inr (.inl s0)] := by
  unfold zf_X12_topUp_J128 at h
  refine zV_b (pc' := 132) (lv' := [(8, .inr (.inl s0)), (0, .inr (.inr l0)), (1, .inl l1), (2, .inl l2)]) (st' := [.inl (0 : Int32), .inr (.inr l0)]) [(.lstore 8, 2), (.aload_n 0, 1), (.iconst 0, 1)] (by decide +kernel) rfl ?_
  refine zV_pi (by decide +kernel) zfp_RX12_247 (by decide) rfl h (fun M21 _ h => ?_)
  refine zV_b (pc' := 140) (lv' := [(8, .inr (.inl s0)), (0, .inr (.inr l0)), (1, .inl l1), (2, .inl l2)]) (st' := [.inl (1 : Int32), .inr (.inl s0), .inl l2, .inr (.inr l0)]) [(.aload_n 0, 1), (.iload_n 2, 1), (.lload 8, 2), (.iconst 1, 1)] (by decide +kernel) rfl ?_
  refine zV_cvv (As := [.inl l2, .inr (.inl s0), .inl (1 : Int32)]) (st := []) (c := 13) (by decide +kernel) (zcl_X12_drawFrom (by decide) (by decide)) ⟨zw_1803, zw_1805, zw_80⟩ ⟨⟨_, _, rfl⟩, by decide⟩ rfl rfl (Nat.le_of_ble_eq_true rfl) h (fun _ _ e => zc_X12_drawFrom e) (fun M22 _ _ h => ?_)
  refine zV_b (pc' := 145) (lv' := [(8, .inr (.inl s0)), (0, .inr (.inr l0)), (1, .inl l1), (2, .inl l2)]) (st' := [.inl l1, .inr (.inr l0)]) [(.aload_n 0, 1), (.iload_n 1, 1)] (by decide +kernel) rfl ?_
  refine zV_cvi (As := [.inl l1]) (st := []) (c := 13) (by decide +kernel) (zcl_X12_mixInto (by decide) (by decide)) ⟨zw_1763, zw_1765, zw_71⟩ ⟨⟨_, _, rfl⟩, by decide⟩ rfl rfl (Nat.le_of_ble_eq_true rfl) h (fun _ _ e => zc_X12_mixInto e) (fun M23 v23 _ h => ?_)
  refine zV_if_ne (off := 10) (tgt := 158) (by decide +kernel) (by decide) h (fun c24 h => ?_) (fun c24 h => ?_)
  · refine zV_b (pc' := 154) (lv' := [(8, .inr (.inl s0)), (0, .inr (.inr l0)), (1, .inl l1), (2, .inl l2)]) (st' := [.inl (12 : Int32), .inr (.inr l0)]) [(.aload_n 0, 1), (.bipush 12, 2)] (by decide +kernel) rfl ?_
    refine zV_cvj (As := [.inl (12 : Int32)]) (st := []) (c := 13) (by decide +kernel) (zcl_X12_no (by decide) (by decide)) ⟨zw_1677, zw_1679, zw_59⟩ ⟨⟨_, _, rfl⟩, by decide⟩ rfl rfl (Nat.le_of_ble_eq_true rfl) h (fun _ _ e => zc_X12_no e) (fun M25 v25 _ h => ?_)
    exact zend_j h hR (by decide +kernel)
  · refine zV_b (pc' := 159) (lv' := [(8, .inr (.inl s0)), (0, .inr (.inr l0)), (1, .inl l1), (2, .inl l2)]) (st' := [.inr (.inr l0)]) [(.aload_n 0, 1)] (by decide +kernel) rfl ?_
    refine zV_cvv (As := []) (st := []) (c := 13) (by decide +kernel) (zcl_X12_keep (by decide) (by decide)) ⟨zw_1681, zw_1683, zw_60⟩ ⟨⟨_, _, rfl⟩, by decide⟩ rfl rfl (Nat.le_of_ble_eq_true rfl) h (fun _ _ e => zc_X12_keep e) (fun M27 _ _ h => ?_)
    refine zV_b (pc' := 164) (lv' := [(8, .inr (.inl s0)), (0, .inr (.inr l0)), (1, .inl l1), (2, .inl l2)]) (st' := [.inl (-1 : Int32), .inr (.inr l0)]) [(.aload_n 0, 1), (.iconst (-1), 1)] (by decide +kernel) rfl ?_
    refine zV_cvv (As := [.inl (-1 : Int32)]) (st := []) (c := 13) (by decide +kernel) (zcl_X12_takeDraws (by decide) (by decide)) ⟨zw_1811, zw_1813, zw_82⟩ ⟨⟨_, _, rfl⟩, by decide⟩ rfl rfl (Nat.le_of_ble_eq_true rfl) h (fun _ _ e => zc_X12_takeDraws e) (fun M28 _ _ h => ?_)
    refine zV_b (pc' := 169) (lv' := [(8, .inr (.inl s0)), (0, .inr (.inr l0)), (1, .inl l1), (2, .inl l2)]) (st' := [.inl l1, .inr (.inr l0)]) [(.aload_n 0, 1), (.iload_n 1, 1)] (by decide +kernel) rfl ?_
    refine zV_cvv (As := [.inl l1]) (st := []) (c := 13) (by decide +kernel) (zcl_X12_become (by decide) (by decide)) ⟨zw_1779, zw_1781, zw_75⟩ ⟨⟨_, _, rfl⟩, by decide⟩ rfl rfl (Nat.le_of_ble_eq_true rfl) h (fun _ _ e => zc_X12_become e) (fun M29 _ _ h => ?_)
    refine zV_b (pc' := 178) (lv' := [(8, .inr (.inl s0)), (0, .inr (.inr l0)), (1, .inl l1), (2, .inl l2)]) (st' := [.inr (.inl s0), .inl l1, .inl l2, .inl (3 : Int32), .inr (.inr l0)]) [(.aload_n 0, 1), (.iconst 3, 1), (.iload_n 2, 1), (.iload_n 1, 1), (.lload 8, 2)] (by decide +kernel) rfl ?_
    refine zV_cvv (As := [.inl (3 : Int32), .inl l2, .inl l1, .inr (.inl s0)]) (st := []) (c := 13) (by decide +kernel) (zcl_X12_enter (by decide) (by decide)) ⟨zw_1787, zw_1789, zw_77⟩ ⟨⟨_, _, rfl⟩, by decide⟩ rfl rfl (Nat.le_of_ble_eq_true rfl) h (fun _ _ e => zc_X12_enter e) (fun M30 _ _ h => ?_)
    refine zV_b (pc' := 183) (lv' := [(8, .inr (.inl s0)), (0, .inr (.inr l0)), (1, .inl l1), (2, .inl l2)]) (st' := [.inr (.inl s0)]) [(.lload 8, 2)] (by decide +kernel) rfl ?_
    exact zend_j h hR (by decide +kernel)
set_option maxRecDepth 100000 in
theorem zt_X12_topUp_J58 {X : Zx} {M : Zm} {l0 : Option Nat} {z : Zm × Int64} (h : zf_X12_topUp_J58 M l0 = some z) (hR : zRj X zC_X12_topUp z.1 z.2) : zV X zC_X12_topUp M 58 [(0, .inr (.inr l0))] [] := by
  unfold zf_X12_topUp_J58 at h
  refine zV_b (pc' := 61) (lv' := [(0, .inr (.inr l0))]) (st' := [.inl (9 : Int32), .inr (.inr l0)]) [(.aload_n 0, 1), (.bipush 9, 2)] (by decide +kernel) rfl ?_
  refine zV_cvj (As := [.inl (9 : Int32)]) (st := []) (c := 13) (by decide +kernel) (zcl_X12_no (by decide) (by decide)) ⟨zw_1677, zw_1679, zw_59⟩ ⟨⟨_, _, rfl⟩, by decide⟩ rfl rfl (Nat.le_of_ble_eq_true rfl) h (fun _ _ e => zc_X12_no e) (fun M35 v35 _ h => ?_)
  exact zend_j h hR (by decide +kernel)
set_option maxRecDepth 100000 in
theorem zt_X12_topUp_J20 {X : Zx} {M : Zm} {l0 : Option Nat} {l1 : Int32} {l2 : Int32} {l3 : Int32} {z : Zm × Int64} (h : zf_X12_topUp_J20 M l0 l1 l2 l3 = some z) (hR : zRj X zC_X12_topUp z.1 z.2) : zV X zC_X12_topUp M 20 [(0, .inr (.inr l0)), (1, .inl l1), (2, .inl l2), (3, .inl l3)] [] := by
  unfold zf_X12_topUp_J20 at h
  refine zV_b (pc' := 21) (lv' := [(0, .inr (.inr l0)), (1, .inl l1), (2, .inl l2), (3, .inl l3)]) (st' := [.inl l3]) [(.iload_n 3, 1)] (by decide +kernel) rfl ?_
  refine zV_if_le (off := 9) (tgt := 30) (by decide +kernel) (by decide) h (fun c5 h => ?_) (fun c5 h => ?_)
  · refine zV_b (pc' := 32) (lv' := [(0, .inr (.inr l0)), (1, .inl l1), (2, .inl l2), (3, .inl l3)]) (st' := [.inl l1, .inl l2]) [(.iload_n 2, 1), (.iload_n 1, 1)] (by decide +kernel) rfl ?_
    refine zV_icmp_ne (off := 10) (tgt := 42) (by decide +kernel) (by decide) h (fun c6 h => ?_) (fun c6 h => ?_)
    · refine zV_b (pc' := 38) (lv' := [(0, .inr (.inr l0)), (1, .inl l1), (2, .inl l2), (3, .inl l3)]) (st' := [.inl (13 : Int32), .inr (.inr l0)]) [(.aload_n 0, 1), (.bipush 13, 2)] (by decide +kernel) rfl ?_
      refine zV_cvj (As := [.inl (13 : Int32)]) (st := []) (c := 13) (by decide +kernel) (zcl_X12_no (by decide) (by decide)) ⟨zw_1677, zw_1679, zw_59⟩ ⟨⟨_, _, rfl⟩, by decide⟩ rfl rfl (Nat.le_of_ble_eq_true rfl) h (fun _ _ e => zc_X12_no e) (fun M7 v7 _ h => ?_)
      exact zend_j h hR (by decide +kernel)
    · refine zV_b (pc' := 44) (lv' := [(0, .inr (.inr l0)), (1, .inl l1), (2, .inl l2), (3, .inl l3)]) (st' := [.inl l2, .inr (.inr l0)]) [(.aload_n 0, 1), (.iload_n 2, 1)] (by decide +kernel) rfl ?_
      refine zV_cvi (As := [.inl l2]) (st := []) (c := 13) (by decide +kernel) (zcl_X12_isInCask (by decide) (by decide)) ⟨zw_1739, zw_1741, zw_66⟩ ⟨⟨_, _, rfl⟩, by decide⟩ rfl rfl (Nat.le_of_ble_eq_true rfl) h (fun _ _ e => zc_X12_isInCask e) (fun M9 v9 _ h => ?_)
      refine zV_if_ne (off := 11) (tgt := 58) (by decide +kernel) (by decide) h (fun c10 h => ?_) (fun c10 h => ?_)
      · refine zV_b (pc' := 52) (lv' := [(0, .inr (.inr l0)), (1, .inl l1), (2, .inl l2), (3, .inl l3)]) (st' := [.inl l1, .inr (.inr l0)]) [(.aload_n 0, 1), (.iload_n 1, 1)] (by decide +kernel) rfl ?_
        refine zV_cvi (As := [.inl l1]) (st := []) (c := 13) (by decide +kernel) (zcl_X12_isInCask (by decide) (by decide)) ⟨zw_1739, zw_1741, zw_66⟩ ⟨⟨_, _, rfl⟩, by decide⟩ rfl rfl (Nat.le_of_ble_eq_true rfl) h (fun _ _ e => zc_X12_isInCask e) (fun M11 v11 _ h => ?_)
        refine zV_if_eq (off := 10) (tgt := 65) (by decide +kernel) (by decide) h (fun c12 h => ?_) (fun c12 h => ?_)
        · refine zV_b (pc' := 67) (lv' := [(0, .inr (.inr l0)), (1, .inl l1), (2, .inl l2), (3, .inl l3)]) (st' := [.inl l1, .inr (.inr l0)]) [(.aload_n 0, 1), (.iload_n 1, 1)] (by decide +kernel) rfl ?_
          refine zV_cvj (As := [.inl l1]) (st := []) (c := 13) (by decide +kernel) (zcl_X12_most (by decide) (by decide)) ⟨zw_1743, zw_1745, zw_67⟩ ⟨⟨_, _, rfl⟩, by decide⟩ rfl rfl (Nat.le_of_ble_eq_true rfl) h (fun _ _ e => zc_X12_most e) (fun M13 v13 _ h => ?_)
          refine zV_b (pc' := 72) (lv' := [(0, .inr (.inr l0)), (1, .inl l1), (2, .inl l2), (3, .inl l3)]) (st' := [.inl l1, .inr (.inr l0), .inr (.inl v13)]) [(.aload_n 0, 1), (.iload_n 1, 1)] (by decide +kernel) rfl ?_
          refine zV_cvj (As := [.inl l1]) (st := [.inr (.inl v13)]) (c := 13) (by decide +kernel) (zcl_X12_inVessel (by decide) (by decide)) ⟨zw_1759, zw_1761, zw_70⟩ ⟨⟨_, _, rfl⟩, by decide⟩ rfl rfl (Nat.le_of_ble_eq_true rfl) h (fun _ _ e => zc_X12_inVessel e) (fun M14 v14 _ h => ?_)
          refine zV_b (pc' := 80) (lv' := [(4, .inr (.inl (v13 - v14))), (0, .inr (.inr l0)), (1, .inl l1), (2, .inl l2), (3, .inl l3)]) (st' := [.inl l2, .inr (.inr l0)]) [(.lsub, 1), (.lstore 4, 2), (.aload_n 0, 1), (.iload_n 2, 1)] (by decide +kernel) rfl ?_
          refine zV_cvj (As := [.inl l2]) (st := []) (c := 13) (by decide +kernel) (zcl_X12_spare (by decide) (by decide)) ⟨zw_1795, zw_1797, zw_78⟩ ⟨⟨_, _, rfl⟩, by decide⟩ rfl rfl (Nat.le_of_ble_eq_true rfl) h (fun _ _ e => zc_X12_spare e) (fun M15 v15 _ h => ?_)
          refine zV_b (pc' := 88) (lv' := [(6, .inr (.inl v15)), (4, .inr (.inl (v13 - v14))), (0, .inr (.inr l0)), (1, .inl l1), (2, .inl l2), (3, .inl l3)]) (st' := [.inr (.inl (0 : Int64)), .inr (.inl (v13 - v14))]) [(.lstore 6, 2), (.lload 4, 2), (.lconst 0, 1)] (by decide +kernel) rfl ?_
          refine zV_lcmp_gt (off := 10) (tgt := 99) (by decide +kernel) (by decide +kernel) (by decide) h (fun c16 h => ?_) (fun c16 h => ?_)
          · refine zV_b (pc' := 102) (lv' := [(6, .inr (.inl v15)), (4, .inr (.inl (v13 - v14))), (0, .inr (.inr l0)), (1, .inl l1), (2, .inl l2), (3, .inl l3)]) (st' := [.inr (.inl (0 : Int64)), .inr (.inl v15)]) [(.lload 6, 2), (.lconst 0, 1)] (by decide +kernel) rfl ?_
            refine zV_lcmp_ne (off := 10) (tgt := 113) (by decide +kernel) (by decide +kernel) (by decide) h (fun c17 h => ?_) (fun c17 h => ?_)
            · refine zV_b (pc' := 109) (lv' := [(6, .inr (.inl v15)), (4, .inr (.inl (v13 - v14))), (0, .inr (.inr l0)), (1, .inl l1), (2, .inl l2), (3, .inl l3)]) (st' := [.inl (10 : Int32), .inr (.inr l0)]) [(.aload_n 0, 1), (.bipush 10, 2)] (by decide +kernel) rfl ?_
              refine zV_cvj (As := [.inl (10 : Int32)]) (st := []) (c := 13) (by decide +kernel) (zcl_X12_no (by decide) (by decide)) ⟨zw_1677, zw_1679, zw_59⟩ ⟨⟨_, _, rfl⟩, by decide⟩ rfl rfl (Nat.le_of_ble_eq_true rfl) h (fun _ _ e => zc_X12_no e) (fun M18 v18 _ h => ?_)
              exact zend_j h hR (by decide +kernel)
            · refine zV_b (pc' := 117) (lv' := [(6, .inr (.inl v15)), (4, .inr (.inl (v13 - v14))), (0, .inr (.inr l0)), (1, .inl l1), (2, .inl l2), (3, .inl l3)]) (st' := [.inr (.inl (v13 - v14)), .inr (.inl v15)]) [(.lload 6, 2), (.lload 4, 2)] (by decide +kernel) rfl ?_
              refine zV_lcmp_ge (off := 8) (tgt := 126) (by decide +kernel) (by decide +kernel) (by decide) h (fun c20 h => ?_) (fun c20 h => ?_)
              · refine zV_b (pc' := 128) (lv' := [(6, .inr (.inl v15)), (4, .inr (.inl (v13 - v14))), (0, .inr (.inr l0)), (1, .inl l1), (2, .inl l2), (3, .inl l3)]) (st' := [.inr (.inl (v13 - v14))]) [(.lload 4, 2)] (by decide +kernel) rfl ?_
                exact zV_lv (lv' := [(0, .inr (.inr l0)), (1, .inl l1), (2, .inl l2)]) [2, 3, 4] rfl (zt_X12_topUp_J128 h hR)
              · refine zV_b (pc' := 123) (lv' := [(6, .inr (.inl v15)), (4, .inr (.inl (v13 - v14))), (0, .inr (.inr l0)), (1, .inl l1), (2, .inl l2), (3, .inl l3)]) (st' := [.inr (.inl v15)]) [(.lload 6, 2)] (by decide +kernel) rfl ?_
                refine zV_goto (off := 5) (tgt := 128) (by decide +kernel) (by decide) ?_
                exact zV_lv (lv' := [(0, .inr (.inr l0)), (1, .inl l1), (2, .inl l2)]) [2, 3, 4] rfl (zt_X12_topUp_J128 h hR)
          · refine zV_b (pc' := 95) (lv' := [(6, .inr (.inl v15)), (4, .inr (.inl (v13 - v14))), (0, .inr (.inr l0)), (1, .inl l1), (2, .inl l2), (3, .inl l3)]) (st' := [.inl (11 : Int32), .inr (.inr l0)]) [(.aload_n 0, 1), (.bipush 11, 2)] (by decide +kernel) rfl ?_
            refine zV_cvj (As := [.inl (11 : Int32)]) (st := []) (c := 13) (by decide +kernel) (zcl_X12_no (by decide) (by decide)) ⟨zw_1677, zw_1679, zw_59⟩ ⟨⟨_, _, rfl⟩, by decide⟩ rfl rfl (Nat.le_of_ble_eq_true rfl) h (fun _ _ e => zc_X12_no e) (fun M33 v33 _ h => ?_)
            exact zend_j h hR (by decide +kernel)
        · exact zV_lv (lv' := [(0, .inr (.inr l0))]) [0] rfl (zt_X12_topUp_J58 h hR)
      · exact zV_lv (lv' := [(0, .inr (.inr l0))]) [0] rfl (zt_X12_topUp_J58 h hR)
  · refine zV_b (pc' := 26) (lv' := [(0, .inr (.inr l0)), (1, .inl l1), (2, .inl l2), (3, .inl l3)]) (st' := [.inl l3, .inr (.inr l0)]) [(.aload_n 0, 1), (.iload_n 3, 1)] (by decide +kernel) rfl ?_
    refine zV_cvj (As := [.inl l3]) (st := []) (c := 13) (by decide +kernel) (zcl_X12_no (by decide) (by decide)) ⟨zw_1677, zw_1679, zw_59⟩ ⟨⟨_, _, rfl⟩, by decide⟩ rfl rfl (Nat.le_of_ble_eq_true rfl) h (fun _ _ e => zc_X12_no e) (fun M37 v37 _ h => ?_)
    exact zend_j h hR (by decide +kernel)
set_option maxRecDepth 100000 in
theorem zt_X12_topUp {X : Zx} {M : Zm} {l0 : Option Nat} {l1 : Int32} {l2 : Int32} {z : Zm × Int64} (h : zf_X12_topUp M l0 l1 l2 = some z) (hR : zRj X zC_X12_topUp z.1 z.2) : zV X zC_X12_topUp M 0 [(0, .inr (.inr l0)), (1, .inl l1), (2, .inl l2)] [] := by
  unfold zf_X12_topUp at h
  refine zV_b (pc' := 1) (lv' := [(0, .inr (.inr l0)), (1, .inl l1), (2, .inl l2)]) (st' := [.inr (.inr l0)]) [(.aload_n 0, 1)] (by decide +kernel) rfl ?_
  refine zV_cvv (As := []) (st := []) (c := 13) (by decide +kernel) (zcl_X12_begin (by decide) (by decide)) ⟨zw_1673, zw_1675, zw_58⟩ ⟨⟨_, _, rfl⟩, by decide⟩ rfl rfl (Nat.le_of_ble_eq_true rfl) h (fun _ _ e => zc_X12_begin e) (fun M1 _ _ h => ?_)
  refine zV_b (pc' := 6) (lv' := [(0, .inr (.inr l0)), (1, .inl l1), (2, .inl l2)]) (st' := [.inl l1, .inr (.inr l0)]) [(.aload_n 0, 1), (.iload_n 1, 1)] (by decide +kernel) rfl ?_
  refine zV_cvi (As := [.inl l1]) (st := []) (c := 13) (by decide +kernel) (zcl_X12_lookedVessel (by decide) (by decide)) ⟨zw_1699, zw_1701, zw_62⟩ ⟨⟨_, _, rfl⟩, by decide⟩ rfl rfl (Nat.le_of_ble_eq_true rfl) h (fun _ _ e => zc_X12_lookedVessel e) (fun M2 v2 _ h => ?_)
  refine zV_b (pc' := 11) (lv' := [(3, .inl v2), (0, .inr (.inr l0)), (1, .inl l1), (2, .inl l2)]) (st' := [.inl v2]) [(.istore_n 3, 1), (.iload_n 3, 1)] (by decide +kernel) rfl ?_
  refine zV_if_ne (off := 9) (tgt := 20) (by decide +kernel) (by decide) h (fun c3 h => ?_) (fun c3 h => ?_)
  · refine zV_b (pc' := 16) (lv' := [(3, .inl v2), (0, .inr (.inr l0)), (1, .inl l1), (2, .inl l2)]) (st' := [.inl l2, .inr (.inr l0)]) [(.aload_n 0, 1), (.iload_n 2, 1)] (by decide +kernel) rfl ?_
    refine zV_cvi (As := [.inl l2]) (st := []) (c := 13) (by decide +kernel) (zcl_X12_looked (by decide) (by decide)) ⟨zw_1711, zw_1713, zw_63⟩ ⟨⟨_, _, rfl⟩, by decide⟩ rfl rfl (Nat.le_of_ble_eq_true rfl) h (fun _ _ e => zc_X12_looked e) (fun M4 v4 _ h => ?_)
    refine zV_b (pc' := 20) (lv' := [(3, .inl v4), (0, .inr (.inr l0)), (1, .inl l1), (2, .inl l2)]) (st' := []) [(.istore_n 3, 1)] (by decide +kernel) rfl ?_
    exact zV_lv (lv' := [(0, .inr (.inr l0)), (1, .inl l1), (2, .inl l2), (3, .inl v4)]) [1, 2, 3, 0] rfl (zt_X12_topUp_J20 h hR)
  · exact zV_lv (lv' := [(0, .inr (.inr l0)), (1, .inl l1), (2, .inl l2), (3, .inl v2)]) [1, 2, 3, 0] rfl (zt_X12_topUp_J20 h hR)
theorem zc_X12_topUp {M M' : Zm} {l0 : Option Nat} {l1 : Int32} {l2 : Int32} {x : Int64} (h : zf_X12_topUp M l0 l1 l2 = some (M', x)) (l : Launch) (D : va_G) (cy : Nat → ClassId) : zMet l yX12_topUp zC_X12_topUp (some .long) D cy [.inr (.inr l0), .inl l1, .inl l2] M M' (some (.inr (.inl x))) :=
  zM_j (by decide) rfl (fun h => by cases h) (Nat.le_of_ble_eq_true rfl) (fun X hR => zt_X12_topUp h hR)
-- BlendCellarModel.trace(I)I
def zC_X12_trace : Zc := (cX12_trace, 2, RX12, 0, 0, false)
theorem zcl_X12_trace {C : Zc} (h1 : zC_X12_trace.2.2.2.1 + 1 ≤ C.2.2.2.1) (h2 : 8 + (zC_X12_trace.2.1 + 11) + zC_X12_trace.2.2.2.2.1 ≤ C.2.2.2.2.1) : zCl C yX12_trace zC_X12_trace (some .int) 1 := ⟨zw_2029, zw_114, ⟨by decide, by decide⟩, by decide +kernel, h1, h2⟩
noncomputable def zf_X12_trace_J12 (M : Zm)  : Option (Zm × Int32) :=
  some (M, (0 : Int32))
noncomputable def zf_X12_trace (M : Zm) (l0 : Option Nat) (l1 : Int32) : Option (Zm × Int32) :=
  (if l1 < 0 then
  zf_X12_trace_J12 M
  else
  zb1 (zo_gi M l0 13 41) (fun v4 =>
  (if l1 < v4 then
  zb1 (zo_gr M l0 13 42) (fun v6 =>
  zb1 (zo_ai M v6 l1) (fun v7 =>
  some (M, v7)))
  else
  zf_X12_trace_J12 M)))
set_option maxRecDepth 100000 in
theorem zt_X12_trace_J12 {X : Zx} {M : Zm}  {z : Zm × Int32} (h : zf_X12_trace_J12 M  = some z) (hR : zRi X zC_X12_trace z.1 z.2) : zV X zC_X12_trace M 12 [] [] := by
  unfold zf_X12_trace_J12 at h
  refine zV_b (pc' := 13) (lv' := []) (st' := [.inl (0 : Int32)]) [(.iconst 0, 1)] (by decide +kernel) rfl ?_
  refine zV_goto (off := 9) (tgt := 22) (by decide +kernel) (by decide) ?_
  exact zend_i h hR (by decide +kernel)
set_option maxRecDepth 100000 in
theorem zt_X12_trace {X : Zx} {M : Zm} {l0 : Option Nat} {l1 : Int32} {z : Zm × Int32} (h : zf_X12_trace M l0 l1 = some z) (hR : zRi X zC_X12_trace z.1 z.2) : zV X zC_X12_trace M 0 [(0, .inr (.inr l0)), (1, .inl l1)] [] := by
  unfold zf_X12_trace at h
  refine zV_b (pc' := 1) (lv' := [(0, .inr (.inr l0)), (1, .inl l1)]) (st' := [.inl l1]) [(.iload_n 1, 1)] (by decide +kernel) rfl ?_
  refine zV_if_lt (off := 11) (tgt := 12) (by decide +kernel) (by decide) h (fun c1 h => ?_) (fun c1 h => ?_)
  · exact zV_lv (lv' := []) [] rfl (zt_X12_trace_J12 h hR)
  · refine zV_b (pc' := 6) (lv' := [(0, .inr (.inr l0)), (1, .inl l1)]) (st' := [.inr (.inr l0), .inl l1]) [(.iload_n 1, 1), (.aload_n 0, 1)] (by decide +kernel) rfl ?_
    refine zV_gi (by decide +kernel) zfl_RX12_175 (by decide) rfl (Or.inl rfl) h (fun v4 _ h => ?_)
    refine zV_icmp_lt (off := 7) (tgt := 16) (by decide +kernel) (by decide) h (fun c5 h => ?_) (fun c5 h => ?_)
    · refine zV_b (pc' := 17) (lv' := [(0, .inr (.inr l0)), (1, .inl l1)]) (st' := [.inr (.inr l0)]) [(.aload_n 0, 1)] (by decide +kernel) rfl ?_
      refine zV_gr (by decide +kernel) zfl_RX12_103 (by decide) rfl h (fun v6 _ h => ?_)
      refine zV_b (pc' := 21) (lv' := [(0, .inr (.inr l0)), (1, .inl l1)]) (st' := [.inl l1, .inr (.inr v6)]) [(.iload_n 1, 1)] (by decide +kernel) rfl ?_
      refine zV_ai (by decide +kernel) h (fun v7 _ h => ?_)
      exact zend_i h hR (by decide +kernel)
    · exact zV_lv (lv' := []) [] rfl (zt_X12_trace_J12 h hR)
theorem zc_X12_trace {M M' : Zm} {l0 : Option Nat} {l1 : Int32} {x : Int32} (h : zf_X12_trace M l0 l1 = some (M', x)) (l : Launch) (D : va_G) (cy : Nat → ClassId) : zMet l yX12_trace zC_X12_trace (some .int) D cy [.inr (.inr l0), .inl l1] M M' (some (.inl x)) :=
  zM_i (by decide) rfl (fun h => by cases h) (Nat.le_of_ble_eq_true rfl) (fun X hR => zt_X12_trace h hR)
-- BlendCellarModel.tries()I
def zC_X12_tries : Zc := (cX12_tries, 1, RX12, 0, 0, false)
theorem zcl_X12_tries {C : Zc} (h1 : zC_X12_tries.2.2.2.1 + 1 ≤ C.2.2.2.1) (h2 : 8 + (zC_X12_tries.2.1 + 11) + zC_X12_tries.2.2.2.2.1 ≤ C.2.2.2.2.1) : zCl C yX12_tries zC_X12_tries (some .int) 0 := ⟨zw_2013, zw_114, ⟨by decide, by decide⟩, by decide +kernel, h1, h2⟩
noncomputable def zf_X12_tries (M : Zm) (l0 : Option Nat) : Option (Zm × Int32) :=
  zb1 (zo_gi M l0 13 38) (fun v1 =>
  some (M, v1))
set_option maxRecDepth 100000 in
theorem zt_X12_tries {X : Zx} {M : Zm} {l0 : Option Nat} {z : Zm × Int32} (h : zf_X12_tries M l0 = some z) (hR : zRi X zC_X12_tries z.1 z.2) : zV X zC_X12_tries M 0 [(0, .inr (.inr l0))] [] := by
  unfold zf_X12_tries at h
  refine zV_b (pc' := 1) (lv' := [(0, .inr (.inr l0))]) (st' := [.inr (.inr l0)]) [(.aload_n 0, 1)] (by decide +kernel) rfl ?_
  refine zV_gi (by decide +kernel) zfl_RX12_172 (by decide) rfl (Or.inl rfl) h (fun v1 _ h => ?_)
  exact zend_i h hR (by decide +kernel)
theorem zc_X12_tries {M M' : Zm} {l0 : Option Nat} {x : Int32} (h : zf_X12_tries M l0 = some (M', x)) (l : Launch) (D : va_G) (cy : Nat → ClassId) : zMet l yX12_tries zC_X12_tries (some .int) D cy [.inr (.inr l0)] M M' (some (.inl x)) :=
  zM_i (by decide) rfl (fun h => by cases h) (Nat.le_of_ble_eq_true rfl) (fun X hR => zt_X12_tries h hR)
-- BlendCellarModel.undo()J
def zC_X12_undo : Zc := (cX12_undo, 1, RX12, 1, 22, false)
theorem zcl_X12_undo {C : Zc} (h1 : zC_X12_undo.2.2.2.1 + 1 ≤ C.2.2.2.1) (h2 : 8 + (zC_X12_undo.2.1 + 11) + zC_X12_undo.2.2.2.2.1 ≤ C.2.2.2.2.1) : zCl C yX12_undo zC_X12_undo (some .long) 0 := ⟨zw_1941, zw_114, ⟨by decide, by decide⟩, by decide +kernel, h1, h2⟩
noncomputable def zf_X12_undo (M : Zm) (l0 : Option Nat) : Option (Zm × Int64) :=
  zb1 (zo_rc M l0 13) (fun _ => zbd (zf_X12_begin M l0) (fun M1 _ =>
  zb1 (zo_gi M1 l0 13 43) (fun v2 =>
  (if v2 = 0 then
  zb1 (zo_rc M1 l0 13) (fun _ => zbd (zf_X12_no M1 l0 (14 : Int32)) (fun M4 v4 =>
  some (M4, v4)))
  else
  zb1 (zo_pz M1 l0 13 43 (0 : Int32)) (fun M6 =>
  zb1 (zo_rc M6 l0 13) (fun _ => zbd (zf_X12_takeBack M6 l0) (fun M7 _ =>
  zb1 (zo_pi M7 l0 13 33 (0 : Int32)) (fun M8 =>
  some (M8, (1 : Int64))))))))))
set_option maxRecDepth 100000 in
theorem zt_X12_undo {X : Zx} {M : Zm} {l0 : Option Nat} {z : Zm × Int64} (h : zf_X12_undo M l0 = some z) (hR : zRj X zC_X12_undo z.1 z.2) : zV X zC_X12_undo M 0 [(0, .inr (.inr l0))] [] := by
  unfold zf_X12_undo at h
  refine zV_b (pc' := 1) (lv' := [(0, .inr (.inr l0))]) (st' := [.inr (.inr l0)]) [(.aload_n 0, 1)] (by decide +kernel) rfl ?_
  refine zV_cvv (As := []) (st := []) (c := 13) (by decide +kernel) (zcl_X12_begin (by decide) (by decide)) ⟨zw_1673, zw_1675, zw_58⟩ ⟨⟨_, _, rfl⟩, by decide⟩ rfl rfl (Nat.le_of_ble_eq_true rfl) h (fun _ _ e => zc_X12_begin e) (fun M1 _ _ h => ?_)
  refine zV_b (pc' := 5) (lv' := [(0, .inr (.inr l0))]) (st' := [.inr (.inr l0)]) [(.aload_n 0, 1)] (by decide +kernel) rfl ?_
  refine zV_gi (by decide +kernel) zfl_RX12_192 (by decide) rfl (Or.inr rfl) h (fun v2 _ h => ?_)
  refine zV_if_ne (off := 10) (tgt := 18) (by decide +kernel) (by decide) h (fun c3 h => ?_) (fun c3 h => ?_)
  · refine zV_b (pc' := 14) (lv' := [(0, .inr (.inr l0))]) (st' := [.inl (14 : Int32), .inr (.inr l0)]) [(.aload_n 0, 1), (.bipush 14, 2)] (by decide +kernel) rfl ?_
    refine zV_cvj (As := [.inl (14 : Int32)]) (st := []) (c := 13) (by decide +kernel) (zcl_X12_no (by decide) (by decide)) ⟨zw_1677, zw_1679, zw_59⟩ ⟨⟨_, _, rfl⟩, by decide⟩ rfl rfl (Nat.le_of_ble_eq_true rfl) h (fun _ _ e => zc_X12_no e) (fun M4 v4 _ h => ?_)
    exact zend_j h hR (by decide +kernel)
  · refine zV_b (pc' := 20) (lv' := [(0, .inr (.inr l0))]) (st' := [.inl (0 : Int32), .inr (.inr l0)]) [(.aload_n 0, 1), (.iconst 0, 1)] (by decide +kernel) rfl ?_
    refine zV_pz (by decide +kernel) zfp_RX12_192 (by decide) rfl h (fun M6 _ h => ?_)
    refine zV_b (pc' := 24) (lv' := [(0, .inr (.inr l0))]) (st' := [.inr (.inr l0)]) [(.aload_n 0, 1)] (by decide +kernel) rfl ?_
    refine zV_cvv (As := []) (st := []) (c := 13) (by decide +kernel) (zcl_X12_takeBack (by decide) (by decide)) ⟨zw_1942, zw_1944, zw_97⟩ ⟨⟨_, _, rfl⟩, by decide⟩ rfl rfl (Nat.le_of_ble_eq_true rfl) h (fun _ _ e => zc_X12_takeBack e) (fun M7 _ _ h => ?_)
    refine zV_b (pc' := 29) (lv' := [(0, .inr (.inr l0))]) (st' := [.inl (0 : Int32), .inr (.inr l0)]) [(.aload_n 0, 1), (.iconst 0, 1)] (by decide +kernel) rfl ?_
    refine zV_pi (by decide +kernel) zfp_RX12_334 (by decide) rfl h (fun M8 _ h => ?_)
    refine zV_b (pc' := 33) (lv' := [(0, .inr (.inr l0))]) (st' := [.inr (.inl (1 : Int64))]) [(.lconst 1, 1)] (by decide +kernel) rfl ?_
    exact zend_j h hR (by decide +kernel)
theorem zc_X12_undo {M M' : Zm} {l0 : Option Nat} {x : Int64} (h : zf_X12_undo M l0 = some (M', x)) (l : Launch) (D : va_G) (cy : Nat → ClassId) : zMet l yX12_undo zC_X12_undo (some .long) D cy [.inr (.inr l0)] M M' (some (.inr (.inl x))) :=
  zM_j (by decide) rfl (fun h => by cases h) (Nat.le_of_ble_eq_true rfl) (fun X hR => zt_X12_undo h hR)
-- BlendCellarModel.wash(I)J
def zC_X12_wash : Zc := (cX12_wash, 5, RX12, 3, 81, false)
theorem zcl_X12_wash {C : Zc} (h1 : zC_X12_wash.2.2.2.1 + 1 ≤ C.2.2.2.1) (h2 : 8 + (zC_X12_wash.2.1 + 11) + zC_X12_wash.2.2.2.2.1 ≤ C.2.2.2.2.1) : zCl C yX12_wash zC_X12_wash (some .long) 1 := ⟨zw_1869, zw_114, ⟨by decide, by decide⟩, by decide +kernel, h1, h2⟩
noncomputable def zf_X12_wash_J58 (M : Zm) (l0 : Option Nat) (l1 : Int32) (l3 : Int64) : Option (Zm × Int64) :=
  zb1 (zo_rc M l0 13) (fun _ => zbd (zf_X12_enter M l0 (9 : Int32) l1 (-1 : Int32) l3) (fun M9 _ =>
  some (M9, l3)))
noncomputable def zf_X12_wash (M : Zm) (l0 : Option Nat) (l1 : Int32) : Option (Zm × Int64) :=
  zb1 (zo_rc M l0 13) (fun _ => zbd (zf_X12_begin M l0) (fun M1 _ =>
  zb1 (zo_rc M1 l0 13) (fun _ => zbd (zf_X12_lookedVessel M1 l0 l1) (fun M2 v2 =>
  (if v2 ≤ 0 then
  zb1 (zo_rc M2 l0 13) (fun _ => zbd (zf_X12_isInCask M2 l0 l1) (fun M4 v4 =>
  (if v4 = 0 then
  zb1 (zo_rc M4 l0 13) (fun _ => zbd (zf_X12_keep M4 l0) (fun M6 _ =>
  zb1 (zo_rc M6 l0 13) (fun _ => zbd (zf_X12_inVessel M6 l0 l1) (fun M7 v7 =>
  (if v7 ≤ (0 : Int64) then
  zf_X12_wash_J58 M7 l0 l1 v7
  else
  zb1 (zo_rc M7 l0 13) (fun _ => zbd (zf_X12_take M7 l0 l1 v7 (3 : Int32)) (fun M11 _ =>
  zf_X12_wash_J58 M11 l0 l1 v7)))))))
  else
  zb1 (zo_rc M4 l0 13) (fun _ => zbd (zf_X12_no M4 l0 (9 : Int32)) (fun M12 v12 =>
  some (M12, v12))))))
  else
  zb1 (zo_rc M2 l0 13) (fun _ => zbd (zf_X12_no M2 l0 v2) (fun M14 v14 =>
  some (M14, v14))))))))
set_option maxRecDepth 100000 in
theorem zt_X12_wash_J58 {X : Zx} {M : Zm} {l0 : Option Nat} {l1 : Int32} {l3 : Int64} {z : Zm × Int64} (h : zf_X12_wash_J58 M l0 l1 l3 = some z) (hR : zRj X zC_X12_wash z.1 z.2) : zV X zC_X12_wash M 58 [(0, .inr (.inr l0)), (1, .inl l1), (3, .inr (.inl l3))] [] := by
  unfold zf_X12_wash_J58 at h
  refine zV_b (pc' := 64) (lv' := [(0, .inr (.inr l0)), (1, .inl l1), (3, .inr (.inl l3))]) (st' := [.inr (.inl l3), .inl (-1 : Int32), .inl l1, .inl (9 : Int32), .inr (.inr l0)]) [(.aload_n 0, 1), (.bipush 9, 2), (.iload_n 1, 1), (.iconst (-1), 1), (.lload_n 3, 1)] (by decide +kernel) rfl ?_
  refine zV_cvv (As := [.inl (9 : Int32), .inl l1, .inl (-1 : Int32), .inr (.inl l3)]) (st := []) (c := 13) (by decide +kernel) (zcl_X12_enter (by decide) (by decide)) ⟨zw_1787, zw_1789, zw_77⟩ ⟨⟨_, _, rfl⟩, by decide⟩ rfl rfl (Nat.le_of_ble_eq_true rfl) h (fun _ _ e => zc_X12_enter e) (fun M9 _ _ h => ?_)
  refine zV_b (pc' := 68) (lv' := [(0, .inr (.inr l0)), (1, .inl l1), (3, .inr (.inl l3))]) (st' := [.inr (.inl l3)]) [(.lload_n 3, 1)] (by decide +kernel) rfl ?_
  exact zend_j h hR (by decide +kernel)
set_option maxRecDepth 100000 in
theorem zt_X12_wash {X : Zx} {M : Zm} {l0 : Option Nat} {l1 : Int32} {z : Zm × Int64} (h : zf_X12_wash M l0 l1 = some z) (hR : zRj X zC_X12_wash z.1 z.2) : zV X zC_X12_wash M 0 [(0, .inr (.inr l0)), (1, .inl l1)] [] := by
  unfold zf_X12_wash at h
  refine zV_b (pc' := 1) (lv' := [(0, .inr (.inr l0)), (1, .inl l1)]) (st' := [.inr (.inr l0)]) [(.aload_n 0, 1)] (by decide +kernel) rfl ?_
  refine zV_cvv (As := []) (st := []) (c := 13) (by decide +kernel) (zcl_X12_begin (by decide) (by decide)) ⟨zw_1673, zw_1675, zw_58⟩ ⟨⟨_, _, rfl⟩, by decide⟩ rfl rfl (Nat.le_of_ble_eq_true rfl) h (fun _ _ e => zc_X12_begin e) (fun M1 _ _ h => ?_)
  refine zV_b (pc' := 6) (lv' := [(0, .inr (.inr l0)), (1, .inl l1)]) (st' := [.inl l1, .inr (.inr l0)]) [(.aload_n 0, 1), (.iload_n 1, 1)] (by decide +kernel) rfl ?_
  refine zV_cvi (As := [.inl l1]) (st := []) (c := 13) (by decide +kernel) (zcl_X12_lookedVessel (by decide) (by decide)) ⟨zw_1699, zw_1701, zw_62⟩ ⟨⟨_, _, rfl⟩, by decide⟩ rfl rfl (Nat.le_of_ble_eq_true rfl) h (fun _ _ e => zc_X12_lookedVessel e) (fun M2 v2 _ h => ?_)
  refine zV_b (pc' := 11) (lv' := [(2, .inl v2), (0, .inr (.inr l0)), (1, .inl l1)]) (st' := [.inl v2]) [(.istore_n 2, 1), (.iload_n 2, 1)] (by decide +kernel) rfl ?_
  refine zV_if_le (off := 9) (tgt := 20) (by decide +kernel) (by decide) h (fun c3 h => ?_) (fun c3 h => ?_)
  · refine zV_b (pc' := 22) (lv' := [(2, .inl v2), (0, .inr (.inr l0)), (1, .inl l1)]) (st' := [.inl l1, .inr (.inr l0)]) [(.aload_n 0, 1), (.iload_n 1, 1)] (by decide +kernel) rfl ?_
    refine zV_cvi (As := [.inl l1]) (st := []) (c := 13) (by decide +kernel) (zcl_X12_isInCask (by decide) (by decide)) ⟨zw_1739, zw_1741, zw_66⟩ ⟨⟨_, _, rfl⟩, by decide⟩ rfl rfl (Nat.le_of_ble_eq_true rfl) h (fun _ _ e => zc_X12_isInCask e) (fun M4 v4 _ h => ?_)
    refine zV_if_eq (off := 10) (tgt := 35) (by decide +kernel) (by decide) h (fun c5 h => ?_) (fun c5 h => ?_)
    · refine zV_b (pc' := 36) (lv' := [(2, .inl v2), (0, .inr (.inr l0)), (1, .inl l1)]) (st' := [.inr (.inr l0)]) [(.aload_n 0, 1)] (by decide +kernel) rfl ?_
      refine zV_cvv (As := []) (st := []) (c := 13) (by decide +kernel) (zcl_X12_keep (by decide) (by decide)) ⟨zw_1681, zw_1683, zw_60⟩ ⟨⟨_, _, rfl⟩, by decide⟩ rfl rfl (Nat.le_of_ble_eq_true rfl) h (fun _ _ e => zc_X12_keep e) (fun M6 _ _ h => ?_)
      refine zV_b (pc' := 41) (lv' := [(2, .inl v2), (0, .inr (.inr l0)), (1, .inl l1)]) (st' := [.inl l1, .inr (.inr l0)]) [(.aload_n 0, 1), (.iload_n 1, 1)] (by decide +kernel) rfl ?_
      refine zV_cvj (As := [.inl l1]) (st := []) (c := 13) (by decide +kernel) (zcl_X12_inVessel (by decide) (by decide)) ⟨zw_1759, zw_1761, zw_70⟩ ⟨⟨_, _, rfl⟩, by decide⟩ rfl rfl (Nat.le_of_ble_eq_true rfl) h (fun _ _ e => zc_X12_inVessel e) (fun M7 v7 _ h => ?_)
      refine zV_b (pc' := 47) (lv' := [(3, .inr (.inl v7)), (2, .inl v2), (0, .inr (.inr l0)), (1, .inl l1)]) (st' := [.inr (.inl (0 : Int64)), .inr (.inl v7)]) [(.lstore_n 3, 1), (.lload_n 3, 1), (.lconst 0, 1)] (by decide +kernel) rfl ?_
      refine zV_lcmp_le (off := 10) (tgt := 58) (by decide +kernel) (by decide +kernel) (by decide) h (fun c8 h => ?_) (fun c8 h => ?_)
      · exact zV_lv (lv' := [(0, .inr (.inr l0)), (1, .inl l1), (3, .inr (.inl v7))]) [2, 3, 0] rfl (zt_X12_wash_J58 h hR)
      · refine zV_b (pc' := 55) (lv' := [(3, .inr (.inl v7)), (2, .inl v2), (0, .inr (.inr l0)), (1, .inl l1)]) (st' := [.inl (3 : Int32), .inr (.inl v7), .inl l1, .inr (.inr l0)]) [(.aload_n 0, 1), (.iload_n 1, 1), (.lload_n 3, 1), (.iconst 3, 1)] (by decide +kernel) rfl ?_
        refine zV_cvv (As := [.inl l1, .inr (.inl v7), .inl (3 : Int32)]) (st := []) (c := 13) (by decide +kernel) (zcl_X12_take (by decide) (by decide)) ⟨zw_1815, zw_1817, zw_83⟩ ⟨⟨_, _, rfl⟩, by decide⟩ rfl rfl (Nat.le_of_ble_eq_true rfl) h (fun _ _ e => zc_X12_take e) (fun M11 _ _ h => ?_)
        exact zV_lv (lv' := [(0, .inr (.inr l0)), (1, .inl l1), (3, .inr (.inl v7))]) [2, 3, 0] rfl (zt_X12_wash_J58 h hR)
    · refine zV_b (pc' := 31) (lv' := [(2, .inl v2), (0, .inr (.inr l0)), (1, .inl l1)]) (st' := [.inl (9 : Int32), .inr (.inr l0)]) [(.aload_n 0, 1), (.bipush 9, 2)] (by decide +kernel) rfl ?_
      refine zV_cvj (As := [.inl (9 : Int32)]) (st := []) (c := 13) (by decide +kernel) (zcl_X12_no (by decide) (by decide)) ⟨zw_1677, zw_1679, zw_59⟩ ⟨⟨_, _, rfl⟩, by decide⟩ rfl rfl (Nat.le_of_ble_eq_true rfl) h (fun _ _ e => zc_X12_no e) (fun M12 v12 _ h => ?_)
      exact zend_j h hR (by decide +kernel)
  · refine zV_b (pc' := 16) (lv' := [(2, .inl v2), (0, .inr (.inr l0)), (1, .inl l1)]) (st' := [.inl v2, .inr (.inr l0)]) [(.aload_n 0, 1), (.iload_n 2, 1)] (by decide +kernel) rfl ?_
    refine zV_cvj (As := [.inl v2]) (st := []) (c := 13) (by decide +kernel) (zcl_X12_no (by decide) (by decide)) ⟨zw_1677, zw_1679, zw_59⟩ ⟨⟨_, _, rfl⟩, by decide⟩ rfl rfl (Nat.le_of_ble_eq_true rfl) h (fun _ _ e => zc_X12_no e) (fun M14 v14 _ h => ?_)
    exact zend_j h hR (by decide +kernel)
theorem zc_X12_wash {M M' : Zm} {l0 : Option Nat} {l1 : Int32} {x : Int64} (h : zf_X12_wash M l0 l1 = some (M', x)) (l : Launch) (D : va_G) (cy : Nat → ClassId) : zMet l yX12_wash zC_X12_wash (some .long) D cy [.inr (.inr l0), .inl l1] M M' (some (.inr (.inl x))) :=
  zM_j (by decide) rfl (fun h => by cases h) (Nat.le_of_ble_eq_true rfl) (fun X hR => zt_X12_wash h hR)
-- BlendCellarModel.where(I)I
def zC_X12_where : Zc := (cX12_where, 2, RX12, 1, 21, false)
theorem zcl_X12_where {C : Zc} (h1 : zC_X12_where.2.2.2.1 + 1 ≤ C.2.2.2.1) (h2 : 8 + (zC_X12_where.2.1 + 11) + zC_X12_where.2.2.2.2.1 ≤ C.2.2.2.2.1) : zCl C yX12_where zC_X12_where (some .int) 1 := ⟨zw_1957, zw_114, ⟨by decide, by decide⟩, by decide +kernel, h1, h2⟩
noncomputable def zf_X12_where (M : Zm) (l0 : Option Nat) (l1 : Int32) : Option (Zm × Int32) :=
  zb1 (zo_rc M l0 13) (fun _ => zbd (zf_X12_isBarrel M l0 l1) (fun M1 v1 =>
  (if v1 = 0 then
  some (M1, (-1 : Int32))
  else
  zb1 (zo_gr M1 l0 13 5) (fun v4 =>
  zb1 (zo_ai M1 v4 l1) (fun v5 =>
  some (M1, v5))))))
set_option maxRecDepth 100000 in
theorem zt_X12_where {X : Zx} {M : Zm} {l0 : Option Nat} {l1 : Int32} {z : Zm × Int32} (h : zf_X12_where M l0 l1 = some z) (hR : zRi X zC_X12_where z.1 z.2) : zV X zC_X12_where M 0 [(0, .inr (.inr l0)), (1, .inl l1)] [] := by
  unfold zf_X12_where at h
  refine zV_b (pc' := 2) (lv' := [(0, .inr (.inr l0)), (1, .inl l1)]) (st' := [.inl l1, .inr (.inr l0)]) [(.aload_n 0, 1), (.iload_n 1, 1)] (by decide +kernel) rfl ?_
  refine zV_cvi (As := [.inl l1]) (st := []) (c := 13) (by decide +kernel) (zcl_X12_isBarrel (by decide) (by decide)) ⟨zw_1950, zw_1952, zw_98⟩ ⟨⟨_, _, rfl⟩, by decide⟩ rfl rfl (Nat.le_of_ble_eq_true rfl) h (fun _ _ e => zc_X12_isBarrel e) (fun M1 v1 _ h => ?_)
  refine zV_if_eq (off := 12) (tgt := 17) (by decide +kernel) (by decide) h (fun c2 h => ?_) (fun c2 h => ?_)
  · refine zV_b (pc' := 18) (lv' := [(0, .inr (.inr l0)), (1, .inl l1)]) (st' := [.inl (-1 : Int32)]) [(.iconst (-1), 1)] (by decide +kernel) rfl ?_
    exact zend_i h hR (by decide +kernel)
  · refine zV_b (pc' := 9) (lv' := [(0, .inr (.inr l0)), (1, .inl l1)]) (st' := [.inr (.inr l0)]) [(.aload_n 0, 1)] (by decide +kernel) rfl ?_
    refine zV_gr (by decide +kernel) zfl_RX12_19 (by decide) rfl h (fun v4 _ h => ?_)
    refine zV_b (pc' := 13) (lv' := [(0, .inr (.inr l0)), (1, .inl l1)]) (st' := [.inl l1, .inr (.inr v4)]) [(.iload_n 1, 1)] (by decide +kernel) rfl ?_
    refine zV_ai (by decide +kernel) h (fun v5 _ h => ?_)
    refine zV_goto (off := 4) (tgt := 18) (by decide +kernel) (by decide) ?_
    exact zend_i h hR (by decide +kernel)
theorem zc_X12_where {M M' : Zm} {l0 : Option Nat} {l1 : Int32} {x : Int32} (h : zf_X12_where M l0 l1 = some (M', x)) (l : Launch) (D : va_G) (cy : Nat → ClassId) : zMet l yX12_where zC_X12_where (some .int) D cy [.inr (.inr l0), .inl l1] M M' (some (.inl x)) :=
  zM_i (by decide) rfl (fun h => by cases h) (Nat.le_of_ble_eq_true rfl) (fun X hR => zt_X12_where h hR)
-- BlendCellarModel.which()I
def zC_X12_which : Zc := (cX12_which, 1, RX12, 0, 0, false)
theorem zcl_X12_which {C : Zc} (h1 : zC_X12_which.2.2.2.1 + 1 ≤ C.2.2.2.1) (h2 : 8 + (zC_X12_which.2.1 + 11) + zC_X12_which.2.2.2.2.1 ≤ C.2.2.2.2.1) : zCl C yX12_which zC_X12_which (some .int) 0 := ⟨zw_2025, zw_114, ⟨by decide, by decide⟩, by decide +kernel, h1, h2⟩
noncomputable def zf_X12_which (M : Zm) (l0 : Option Nat) : Option (Zm × Int32) :=
  zb1 (zo_gi M l0 13 40) (fun v1 =>
  some (M, v1))
set_option maxRecDepth 100000 in
theorem zt_X12_which {X : Zx} {M : Zm} {l0 : Option Nat} {z : Zm × Int32} (h : zf_X12_which M l0 = some z) (hR : zRi X zC_X12_which z.1 z.2) : zV X zC_X12_which M 0 [(0, .inr (.inr l0))] [] := by
  unfold zf_X12_which at h
  refine zV_b (pc' := 1) (lv' := [(0, .inr (.inr l0))]) (st' := [.inr (.inr l0)]) [(.aload_n 0, 1)] (by decide +kernel) rfl ?_
  refine zV_gi (by decide +kernel) zfl_RX12_99 (by decide) rfl (Or.inl rfl) h (fun v1 _ h => ?_)
  exact zend_i h hR (by decide +kernel)
theorem zc_X12_which {M M' : Zm} {l0 : Option Nat} {x : Int32} (h : zf_X12_which M l0 = some (M', x)) (l : Launch) (D : va_G) (cy : Nat → ClassId) : zMet l yX12_which zC_X12_which (some .int) D cy [.inr (.inr l0)] M M' (some (.inl x)) :=
  zM_i (by decide) rfl (fun h => by cases h) (Nat.le_of_ble_eq_true rfl) (fun X hR => zt_X12_which h hR)
-- BlendCellarModel.why()I
def zC_X12_why : Zc := (cX12_why, 1, RX12, 0, 0, false)
theorem zcl_X12_why {C : Zc} (h1 : zC_X12_why.2.2.2.1 + 1 ≤ C.2.2.2.1) (h2 : 8 + (zC_X12_why.2.1 + 11) + zC_X12_why.2.2.2.2.1 ≤ C.2.2.2.2.1) : zCl C yX12_why zC_X12_why (some .int) 0 := ⟨zw_2021, zw_114, ⟨by decide, by decide⟩, by decide +kernel, h1, h2⟩
noncomputable def zf_X12_why (M : Zm) (l0 : Option Nat) : Option (Zm × Int32) :=
  zb1 (zo_gi M l0 13 39) (fun v1 =>
  some (M, v1))
set_option maxRecDepth 100000 in
theorem zt_X12_why {X : Zx} {M : Zm} {l0 : Option Nat} {z : Zm × Int32} (h : zf_X12_why M l0 = some z) (hR : zRi X zC_X12_why z.1 z.2) : zV X zC_X12_why M 0 [(0, .inr (.inr l0))] [] := by
  unfold zf_X12_why at h
  refine zV_b (pc' := 1) (lv' := [(0, .inr (.inr l0))]) (st' := [.inr (.inr l0)]) [(.aload_n 0, 1)] (by decide +kernel) rfl ?_
  refine zV_gi (by decide +kernel) zfl_RX12_178 (by decide) rfl (Or.inl rfl) h (fun v1 _ h => ?_)
  exact zend_i h hR (by decide +kernel)
theorem zc_X12_why {M M' : Zm} {l0 : Option Nat} {x : Int32} (h : zf_X12_why M l0 = some (M', x)) (l : Launch) (D : va_G) (cy : Nat → ClassId) : zMet l yX12_why zC_X12_why (some .int) D cy [.inr (.inr l0)] M M' (some (.inl x)) :=
  zM_i (by decide) rfl (fun h => by cases h) (Nat.le_of_ble_eq_true rfl) (fun X hR => zt_X12_why h hR)
-- BlendCellarModel.worth(II)J
def zC_X12_worth : Zc := (cX12_worth, 5, RX12, 1, 22, false)
theorem zcl_X12_worth {C : Zc} (h1 : zC_X12_worth.2.2.2.1 + 1 ≤ C.2.2.2.1) (h2 : 8 + (zC_X12_worth.2.1 + 11) + zC_X12_worth.2.2.2.2.1 ≤ C.2.2.2.2.1) : zCl C yX12_worth zC_X12_worth (some .long) 2 := ⟨zw_1729, zw_114, ⟨by decide, by decide⟩, by decide +kernel, h1, h2⟩
noncomputable def zf_X12_worth_J15 (M : Zm) (l0 : Option Nat) : Option (Zm × Int64) :=
  zb1 (zo_rc M l0 13) (fun _ => zbd (zf_X12_no M l0 (1 : Int32)) (fun M3 v3 =>
  some (M3, v3)))
noncomputable def zf_X12_worth (M : Zm) (l0 : Option Nat) (l1 : Int32) (l2 : Int32) : Option (Zm × Int64) :=
  zb1 (zo_rc M l0 13) (fun _ => zbd (zf_X12_begin M l0) (fun M1 _ =>
  (if l2 < 0 then
  zf_X12_worth_J15 M1 l0
  else
  (if l2 ≤ (1000000 : Int32) then
  zb1 (zo_rc M1 l0 13) (fun _ => zbd (zf_X12_looked M1 l0 l1) (fun M7 v7 =>
  (if v7 ≤ 0 then
  zb1 (zo_rc M7 l0 13) (fun _ => zbd (zf_X12_keep M7 l0) (fun M9 _ =>
  zb1 (zo_gr M9 l0 13 4) (fun v10 =>
  zb1 (zo_ai M9 v10 l1) (fun v11 =>
  zb1 (zo_gr M9 l0 13 4) (fun v12 =>
  zb1 (zo_si M9 v12 l1 l2) (fun M13 =>
  some (M13, (v11.toInt64))))))))
  else
  zb1 (zo_rc M7 l0 13) (fun _ => zbd (zf_X12_no M7 l0 v7) (fun M15 v15 =>
  some (M15, v15))))))
  else
  zf_X12_worth_J15 M1 l0))))
set_option maxRecDepth 100000 in
theorem zt_X12_worth_J15 {X : Zx} {M : Zm} {l0 : Option Nat} {z : Zm × Int64} (h : zf_X12_worth_J15 M l0 = some z) (hR : zRj X zC_X12_worth z.1 z.2) : zV X zC_X12_worth M 15 [(0, .inr (.inr l0))] [] := by
  unfold zf_X12_worth_J15 at h
  refine zV_b (pc' := 17) (lv' := [(0, .inr (.inr l0))]) (st' := [.inl (1 : Int32), .inr (.inr l0)]) [(.aload_n 0, 1), (.iconst 1, 1)] (by decide +kernel) rfl ?_
  refine zV_cvj (As := [.inl (1 : Int32)]) (st := []) (c := 13) (by decide +kernel) (zcl_X12_no (by decide) (by decide)) ⟨zw_1677, zw_1679, zw_59⟩ ⟨⟨_, _, rfl⟩, by decide⟩ rfl rfl (Nat.le_of_ble_eq_true rfl) h (fun _ _ e => zc_X12_no e) (fun M3 v3 _ h => ?_)
  exact zend_j h hR (by decide +kernel)
set_option maxRecDepth 100000 in
theorem zt_X12_worth {X : Zx} {M : Zm} {l0 : Option Nat} {l1 : Int32} {l2 : Int32} {z : Zm × Int64} (h : zf_X12_worth M l0 l1 l2 = some z) (hR : zRj X zC_X12_worth z.1 z.2) : zV X zC_X12_worth M 0 [(0, .inr (.inr l0)), (1, .inl l1), (2, .inl l2)] [] := by
  unfold zf_X12_worth at h
  refine zV_b (pc' := 1) (lv' := [(0, .inr (.inr l0)), (1, .inl l1), (2, .inl l2)]) (st' := [.inr (.inr l0)]) [(.aload_n 0, 1)] (by decide +kernel) rfl ?_
  refine zV_cvv (As := []) (st := []) (c := 13) (by decide +kernel) (zcl_X12_begin (by decide) (by decide)) ⟨zw_1673, zw_1675, zw_58⟩ ⟨⟨_, _, rfl⟩, by decide⟩ rfl rfl (Nat.le_of_ble_eq_true rfl) h (fun _ _ e => zc_X12_begin e) (fun M1 _ _ h => ?_)
  refine zV_b (pc' := 5) (lv' := [(0, .inr (.inr l0)), (1, .inl l1), (2, .inl l2)]) (st' := [.inl l2]) [(.iload_n 2, 1)] (by decide +kernel) rfl ?_
  refine zV_if_lt (off := 10) (tgt := 15) (by decide +kernel) (by decide) h (fun c2 h => ?_) (fun c2 h => ?_)
  · exact zV_lv (lv' := [(0, .inr (.inr l0))]) [0] rfl (zt_X12_worth_J15 h hR)
  · refine zV_b (pc' := 9) (lv' := [(0, .inr (.inr l0)), (1, .inl l1), (2, .inl l2)]) (st' := [.inl l2]) [(.iload_n 2, 1)] (by decide +kernel) rfl ?_
    refine zV_ldcw (by decide +kernel) zw_1690 ?_
    refine zV_icmp_le (off := 9) (tgt := 21) (by decide +kernel) (by decide) h (fun c6 h => ?_) (fun c6 h => ?_)
    · refine zV_b (pc' := 23) (lv' := [(0, .inr (.inr l0)), (1, .inl l1), (2, .inl l2)]) (st' := [.inl l1, .inr (.inr l0)]) [(.aload_n 0, 1), (.iload_n 1, 1)] (by decide +kernel) rfl ?_
      refine zV_cvi (As := [.inl l1]) (st := []) (c := 13) (by decide +kernel) (zcl_X12_looked (by decide) (by decide)) ⟨zw_1711, zw_1713, zw_63⟩ ⟨⟨_, _, rfl⟩, by decide⟩ rfl rfl (Nat.le_of_ble_eq_true rfl) h (fun _ _ e => zc_X12_looked e) (fun M7 v7 _ h => ?_)
      refine zV_b (pc' := 28) (lv' := [(3, .inl v7), (0, .inr (.inr l0)), (1, .inl l1), (2, .inl l2)]) (st' := [.inl v7]) [(.istore_n 3, 1), (.iload_n 3, 1)] (by decide +kernel) rfl ?_
      refine zV_if_le (off := 9) (tgt := 37) (by decide +kernel) (by decide) h (fun c8 h => ?_) (fun c8 h => ?_)
      · refine zV_b (pc' := 38) (lv' := [(3, .inl v7), (0, .inr (.inr l0)), (1, .inl l1), (2, .inl l2)]) (st' := [.inr (.inr l0)]) [(.aload_n 0, 1)] (by decide +kernel) rfl ?_
        refine zV_cvv (As := []) (st := []) (c := 13) (by decide +kernel) (zcl_X12_keep (by decide) (by decide)) ⟨zw_1681, zw_1683, zw_60⟩ ⟨⟨_, _, rfl⟩, by decide⟩ rfl rfl (Nat.le_of_ble_eq_true rfl) h (fun _ _ e => zc_X12_keep e) (fun M9 _ _ h => ?_)
        refine zV_b (pc' := 42) (lv' := [(3, .inl v7), (0, .inr (.inr l0)), (1, .inl l1), (2, .inl l2)]) (st' := [.inr (.inr l0)]) [(.aload_n 0, 1)] (by decide +kernel) rfl ?_
        refine zV_gr (by decide +kernel) zfl_RX12_16 (by decide) rfl h (fun v10 _ h => ?_)
        refine zV_b (pc' := 46) (lv' := [(3, .inl v7), (0, .inr (.inr l0)), (1, .inl l1), (2, .inl l2)]) (st' := [.inl l1, .inr (.inr v10)]) [(.iload_n 1, 1)] (by decide +kernel) rfl ?_
        refine zV_ai (by decide +kernel) h (fun v11 _ h => ?_)
        refine zV_b (pc' := 50) (lv' := [(4, .inl v11), (3, .inl v7), (0, .inr (.inr l0)), (1, .inl l1), (2, .inl l2)]) (st' := [.inr (.inr l0)]) [(.istore 4, 2), (.aload_n 0, 1)] (by decide +kernel) rfl ?_
        refine zV_gr (by decide +kernel) zfl_RX12_16 (by decide) rfl h (fun v12 _ h => ?_)
        refine zV_b (pc' := 55) (lv' := [(4, .inl v11), (3, .inl v7), (0, .inr (.inr l0)), (1, .inl l1), (2, .inl l2)]) (st' := [.inl l2, .inl l1, .inr (.inr v12)]) [(.iload_n 1, 1), (.iload_n 2, 1)] (by decide +kernel) rfl ?_
        refine zV_si (by decide +kernel) h (fun M13 _ h => ?_)
        refine zV_b (pc' := 59) (lv' := [(4, .inl v11), (3, .inl v7), (0, .inr (.inr l0)), (1, .inl l1), (2, .inl l2)]) (st' := [.inr (.inl (v11.toInt64))]) [(.iload 4, 2), (.i2l, 1)] (by decide +kernel) rfl ?_
        exact zend_j h hR (by decide +kernel)
      · refine zV_b (pc' := 33) (lv' := [(3, .inl v7), (0, .inr (.inr l0)), (1, .inl l1), (2, .inl l2)]) (st' := [.inl v7, .inr (.inr l0)]) [(.aload_n 0, 1), (.iload_n 3, 1)] (by decide +kernel) rfl ?_
        refine zV_cvj (As := [.inl v7]) (st := []) (c := 13) (by decide +kernel) (zcl_X12_no (by decide) (by decide)) ⟨zw_1677, zw_1679, zw_59⟩ ⟨⟨_, _, rfl⟩, by decide⟩ rfl rfl (Nat.le_of_ble_eq_true rfl) h (fun _ _ e => zc_X12_no e) (fun M15 v15 _ h => ?_)
        exact zend_j h hR (by decide +kernel)
    · exact zV_lv (lv' := [(0, .inr (.inr l0))]) [0] rfl (zt_X12_worth_J15 h hR)
theorem zc_X12_worth {M M' : Zm} {l0 : Option Nat} {l1 : Int32} {l2 : Int32} {x : Int64} (h : zf_X12_worth M l0 l1 l2 = some (M', x)) (l : Launch) (D : va_G) (cy : Nat → ClassId) : zMet l yX12_worth zC_X12_worth (some .long) D cy [.inr (.inr l0), .inl l1, .inl l2] M M' (some (.inr (.inl x))) :=
  zM_j (by decide) rfl (fun h => by cases h) (Nat.le_of_ble_eq_true rfl) (fun X hR => zt_X12_worth h hR)
