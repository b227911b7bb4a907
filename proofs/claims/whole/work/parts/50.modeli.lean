/-! What the bytecode does, as functions of the memory, and the walks (written by wip/gen.py). -/
-- BlendCellarModel.partAt(II)J
def zC_X12_partAt : Zc := (cX12_partAt, 4, RX12, 2, 44, false)
theorem zcl_X12_partAt {C : Zc} (h1 : zC_X12_partAt.2.2.2.1 + 1 ≤ C.2.2.2.1) (h2 : 8 + (zC_X12_partAt.2.1 + 11) + zC_X12_partAt.2.2.2.2.1 ≤ C.2.2.2.2.1) : zCl C yX12_partAt zC_X12_partAt (some .long) 2 := ⟨zw_1873, zw_114, ⟨by decide, by decide⟩, by decide +kernel, h1, h2⟩
noncomputable def zf_X12_partAt (M : Zm) (l0 : Option Nat) (l1 : Int32) (l2 : Int32) : Option (Zm × Int64) :=
  zb1 (zo_rc M l0 13) (fun _ => zbd (zf_X12_begin M l0) (fun M1 _ =>
  zb1 (zo_rc M1 l0 13) (fun _ => zbd (zf_X12_lookedPart M1 l0 l1 l2) (fun M2 v2 =>
  (if v2 ≤ 0 then
  zb1 (zo_gr M2 l0 13 9) (fun v4 =>
  zb1 (zo_ai M2 v4 (((60 : Int32) * l1) + l2)) (fun v5 =>
  some (M2, (v5.toInt64))))
  else
  zb1 (zo_rc M2 l0 13) (fun _ => zbd (zf_X12_no M2 l0 v2) (fun M7 v7 =>
  some (M7, v7))))))))
set_option maxRecDepth 100000 in
theorem zt_X12_partAt {X : Zx} {M : Zm} {l0 : Option Nat} {l1 : Int32} {l2 : Int32} {z : Zm × Int64} (h : zf_X12_partAt M l0 l1 l2 = some z) (hR : zRj X zC_X12_partAt z.1 z.2) : zV X zC_X12_partAt M 0 [(0, .inr (.inr l0)), (1, .inl l1), (2, .inl l2)] [] := by
  unfold zf_X12_partAt at h
  refine zV_b (pc' := 1) (lv' := [(0, .inr (.inr l0)), (1, .inl l1), (2, .inl l2)]) (st' := [.inr (.inr l0)]) [(.aload_n 0, 1)] (by decide +kernel) rfl ?_
  refine zV_cvv (As := []) (st := []) (c := 13) (by decide +kernel) (zcl_X12_begin (by decide) (by decide)) ⟨zw_1673, zw_1675, zw_58⟩ ⟨⟨_, _, rfl⟩, by decide⟩ rfl rfl (Nat.le_of_ble_eq_true rfl) h (fun _ _ e => zc_X12_begin e) (fun M1 _ _ h => ?_)
  refine zV_b (pc' := 7) (lv' := [(0, .inr (.inr l0)), (1, .inl l1), (2, .inl l2)]) (st' := [.inl l2, .inl l1, .inr (.inr l0)]) [(.aload_n 0, 1), (.iload_n 1, 1), (.iload_n 2, 1)] (by decide +kernel) rfl ?_
  refine zV_cvi (As := [.inl l1, .inl l2]) (st := []) (c := 13) (by decide +kernel) (zcl_X12_lookedPart (by decide) (by decide)) ⟨zw_1874, zw_1876, zw_88⟩ ⟨⟨_, _, rfl⟩, by decide⟩ rfl rfl (Nat.le_of_ble_eq_true rfl) h (fun _ _ e => zc_X12_lookedPart e) (fun M2 v2 _ h => ?_)
  refine zV_b (pc' := 12) (lv' := [(3, .inl v2), (0, .inr (.inr l0)), (1, .inl l1), (2, .inl l2)]) (st' := [.inl v2]) [(.istore_n 3, 1), (.iload_n 3, 1)] (by decide +kernel) rfl ?_
  refine zV_if_le (off := 11) (tgt := 23) (by decide +kernel) (by decide) h (fun c3 h => ?_) (fun c3 h => ?_)
  · refine zV_b (pc' := 24) (lv' := [(3, .inl v2), (0, .inr (.inr l0)), (1, .inl l1), (2, .inl l2)]) (st' := [.inr (.inr l0)]) [(.aload_n 0, 1)] (by decide +kernel) rfl ?_
    refine zV_gr (by decide +kernel) zfl_RX12_32 (by decide) rfl h (fun v4 _ h => ?_)
    refine zV_b (pc' := 33) (lv' := [(3, .inl v2), (0, .inr (.inr l0)), (1, .inl l1), (2, .inl l2)]) (st' := [.inl (((60 : Int32) * l1) + l2), .inr (.inr v4)]) [(.bipush 60, 2), (.iload_n 1, 1), (.imul, 1), (.iload_n 2, 1), (.iadd, 1)] (by decide +kernel) rfl ?_
    refine zV_ai (by decide +kernel) h (fun v5 _ h => ?_)
    refine zV_b (pc' := 35) (lv' := [(3, .inl v2), (0, .inr (.inr l0)), (1, .inl l1), (2, .inl l2)]) (st' := [.inr (.inl (v5.toInt64))]) [(.i2l, 1)] (by decide +kernel) rfl ?_
    exact zend_j h hR (by decide +kernel)
  · refine zV_b (pc' := 17) (lv' := [(3, .inl v2), (0, .inr (.inr l0)), (1, .inl l1), (2, .inl l2)]) (st' := [.inl v2, .inr (.inr l0)]) [(.aload_n 0, 1), (.iload_n 3, 1)] (by decide +kernel) rfl ?_
    refine zV_cvj (As := [.inl v2]) (st := []) (c := 13) (by decide +kernel) (zcl_X12_no (by decide) (by decide)) ⟨zw_1677, zw_1679, zw_59⟩ ⟨⟨_, _, rfl⟩, by decide⟩ rfl rfl (Nat.le_of_ble_eq_true rfl) h (fun _ _ e => zc_X12_no e) (fun M7 v7 _ h => ?_)
    refine zV_goto (off := 15) (tgt := 35) (by decide +kernel) (by decide) ?_
    exact zend_j h hR (by decide +kernel)
theorem zc_X12_partAt {M M' : Zm} {l0 : Option Nat} {l1 : Int32} {l2 : Int32} {x : Int64} (h : zf_X12_partAt M l0 l1 l2 = some (M', x)) (l : Launch) (D : va_G) (cy : Nat → ClassId) : zMet l yX12_partAt zC_X12_partAt (some .long) D cy [.inr (.inr l0), .inl l1, .inl l2] M M' (some (.inr (.inl x))) :=
  zM_j (by decide) rfl (fun h => by cases h) (Nat.le_of_ble_eq_true rfl) (fun X hR => zt_X12_partAt h hR)
-- BlendCellarModel.pick(IJ)J
def zC_X12_pick : Zc := (cX12_pick, 5, RX12, 1, 23, false)
theorem zcl_X12_pick {C : Zc} (h1 : zC_X12_pick.2.2.2.1 + 1 ≤ C.2.2.2.1) (h2 : 8 + (zC_X12_pick.2.1 + 11) + zC_X12_pick.2.2.2.2.1 ≤ C.2.2.2.2.1) : zCl C yX12_pick zC_X12_pick (some .long) 2 := ⟨zw_1826, zw_114, ⟨by decide, by decide⟩, by decide +kernel, h1, h2⟩
noncomputable def zf_X12_pick (M : Zm) (l0 : Option Nat) (l1 : Int32) (l2 : Int64) : Option (Zm × Int64) :=
  zb1 (zo_rc M l0 13) (fun _ => zbd (zf_X12_begin M l0) (fun M1 _ =>
  zb1 (zo_rc M1 l0 13) (fun _ => zbd (zf_X12_isAmount M1 l0 l2) (fun M2 v2 =>
  (if v2 = 0 then
  zb1 (zo_rc M2 l0 13) (fun _ => zbd (zf_X12_no M2 l0 (1 : Int32)) (fun M4 v4 =>
  some (M4, v4)))
  else
  zb1 (zo_rc M2 l0 13) (fun _ => zbd (zf_X12_looked M2 l0 l1) (fun M6 v6 =>
  (if v6 ≤ 0 then
  zb1 (zo_rc M6 l0 13) (fun _ => zbd (zf_X12_isPicked M6 l0 l1) (fun M8 v8 =>
  (if v8 = 0 then
  zb1 (zo_gi M8 l0 13 33) (fun v10 =>
  (if v10 = (8 : Int32) then
  zb1 (zo_rc M8 l0 13) (fun _ => zbd (zf_X12_no M8 l0 (12 : Int32)) (fun M12 v12 =>
  some (M12, v12)))
  else
  zb1 (zo_gr M8 l0 13 34) (fun v14 =>
  zb1 (zo_gi M8 l0 13 33) (fun v15 =>
  zb1 (zo_si M8 v14 v15 l1) (fun M16 =>
  zb1 (zo_gr M16 l0 13 35) (fun v17 =>
  zb1 (zo_gi M16 l0 13 33) (fun v18 =>
  zb1 (zo_sj M16 v17 v18 l2) (fun M19 =>
  zb1 (zo_gi M19 l0 13 33) (fun v20 =>
  zb1 (zo_pi M19 l0 13 33 (v20 + (1 : Int32))) (fun M21 =>
  zb1 (zo_gi M21 l0 13 33) (fun v22 =>
  some (M21, (v22.toInt64)))))))))))))
  else
  zb1 (zo_rc M8 l0 13) (fun _ => zbd (zf_X12_no M8 l0 (13 : Int32)) (fun M24 v24 =>
  some (M24, v24))))))
  else
  zb1 (zo_rc M6 l0 13) (fun _ => zbd (zf_X12_no M6 l0 v6) (fun M26 v26 =>
  some (M26, v26)))))))))))
set_option maxRecDepth 100000 in
theorem zt_X12_pick {X : Zx} {M : Zm} {l0 : Option Nat} {l1 : Int32} {l2 : Int64} {z : Zm × Int64} (h : zf_X12_pick M l0 l1 l2 = some z) (hR : zRj X zC_X12_pick z.1 z.2) : zV X zC_X12_pick M 0 [(0, .inr (.inr l0)), (1, .inl l1), (2, .inr (.inl l2))] [] := by
  unfold zf_X12_pick at h
  refine zV_b (pc' := 1) (lv' := [(0, .inr (.inr l0)), (1, .inl l1), (2, .inr (.inl l2))]) (st' := [.inr (.inr l0)]) [(.aload_n 0, 1)] (by decide +kernel) rfl ?_
  refine zV_cvv (As := []) (st := []) (c := 13) (by decide +kernel) (zcl_X12_begin (by decide) (by decide)) ⟨zw_1673, zw_1675, zw_58⟩ ⟨⟨_, _, rfl⟩, by decide⟩ rfl rfl (Nat.le_of_ble_eq_true rfl) h (fun _ _ e => zc_X12_begin e) (fun M1 _ _ h => ?_)
  refine zV_b (pc' := 6) (lv' := [(0, .inr (.inr l0)), (1, .inl l1), (2, .inr (.inl l2))]) (st' := [.inr (.inl l2), .inr (.inr l0)]) [(.aload_n 0, 1), (.lload_n 2, 1)] (by decide +kernel) rfl ?_
  refine zV_cvi (As := [.inr (.inl l2)]) (st := []) (c := 13) (by decide +kernel) (zcl_X12_isAmount (by decide) (by decide)) ⟨zw_1734, zw_1736, zw_65⟩ ⟨⟨_, _, rfl⟩, by decide⟩ rfl rfl (Nat.le_of_ble_eq_true rfl) h (fun _ _ e => zc_X12_isAmount e) (fun M2 v2 _ h => ?_)
  refine zV_if_ne (off := 9) (tgt := 18) (by decide +kernel) (by decide) h (fun c3 h => ?_) (fun c3 h => ?_)
  · refine zV_b (pc' := 14) (lv' := [(0, .inr (.inr l0)), (1, .inl l1), (2, .inr (.inl l2))]) (st' := [.inl (1 : Int32), .inr (.inr l0)]) [(.aload_n 0, 1), (.iconst 1, 1)] (by decide +kernel) rfl ?_
    refine zV_cvj (As := [.inl (1 : Int32)]) (st := []) (c := 13) (by decide +kernel) (zcl_X12_no (by decide) (by decide)) ⟨zw_1677, zw_1679, zw_59⟩ ⟨⟨_, _, rfl⟩, by decide⟩ rfl rfl (Nat.le_of_ble_eq_true rfl) h (fun _ _ e => zc_X12_no e) (fun M4 v4 _ h => ?_)
    exact zend_j h hR (by decide +kernel)
  · refine zV_b (pc' := 20) (lv' := [(0, .inr (.inr l0)), (1, .inl l1), (2, .inr (.inl l2))]) (st' := [.inl l1, .inr (.inr l0)]) [(.aload_n 0, 1), (.iload_n 1, 1)] (by decide +kernel) rfl ?_
    refine zV_cvi (As := [.inl l1]) (st := []) (c := 13) (by decide +kernel) (zcl_X12_looked (by decide) (by decide)) ⟨zw_1711, zw_1713, zw_63⟩ ⟨⟨_, _, rfl⟩, by decide⟩ rfl rfl (Nat.le_of_ble_eq_true rfl) h (fun _ _ e => zc_X12_looked e) (fun M6 v6 _ h => ?_)
    refine zV_b (pc' := 27) (lv' := [(4, .inl v6), (0, .inr (.inr l0)), (1, .inl l1), (2, .inr (.inl l2))]) (st' := [.inl v6]) [(.istore 4, 2), (.iload 4, 2)] (by decide +kernel) rfl ?_
    refine zV_if_le (off := 10) (tgt := 37) (by decide +kernel) (by decide) h (fun c7 h => ?_) (fun c7 h => ?_)
    · refine zV_b (pc' := 39) (lv' := [(4, .inl v6), (0, .inr (.inr l0)), (1, .inl l1), (2, .inr (.inl l2))]) (st' := [.inl l1, .inr (.inr l0)]) [(.aload_n 0, 1), (.iload_n 1, 1)] (by decide +kernel) rfl ?_
      refine zV_cvi (As := [.inl l1]) (st := []) (c := 13) (by decide +kernel) (zcl_X12_isPicked (by decide) (by decide)) ⟨zw_1827, zw_1829, zw_84⟩ ⟨⟨_, _, rfl⟩, by decide⟩ rfl rfl (Nat.le_of_ble_eq_true rfl) h (fun _ _ e => zc_X12_isPicked e) (fun M8 v8 _ h => ?_)
      refine zV_if_eq (off := 10) (tgt := 52) (by decide +kernel) (by decide) h (fun c9 h => ?_) (fun c9 h => ?_)
      · refine zV_b (pc' := 53) (lv' := [(4, .inl v6), (0, .inr (.inr l0)), (1, .inl l1), (2, .inr (.inl l2))]) (st' := [.inr (.inr l0)]) [(.aload_n 0, 1)] (by decide +kernel) rfl ?_
        refine zV_gi (by decide +kernel) zfl_RX12_334 (by decide) rfl (Or.inl rfl) h (fun v10 _ h => ?_)
        refine zV_b (pc' := 58) (lv' := [(4, .inl v6), (0, .inr (.inr l0)), (1, .inl l1), (2, .inr (.inl l2))]) (st' := [.inl (8 : Int32), .inl v10]) [(.bipush 8, 2)] (by decide +kernel) rfl ?_
        refine zV_icmp_ne (off := 10) (tgt := 68) (by decide +kernel) (by decide) h (fun c11 h => ?_) (fun c11 h => ?_)
        · refine zV_b (pc' := 64) (lv' := [(4, .inl v6), (0, .inr (.inr l0)), (1, .inl l1), (2, .inr (.inl l2))]) (st' := [.inl (12 : Int32), .inr (.inr l0)]) [(.aload_n 0, 1), (.bipush 12, 2)] (by decide +kernel) rfl ?_
          refine zV_cvj (As := [.inl (12 : Int32)]) (st := []) (c := 13) (by decide +kernel) (zcl_X12_no (by decide) (by decide)) ⟨zw_1677, zw_1679, zw_59⟩ ⟨⟨_, _, rfl⟩, by decide⟩ rfl rfl (Nat.le_of_ble_eq_true rfl) h (fun _ _ e => zc_X12_no e) (fun M12 v12 _ h => ?_)
          exact zend_j h hR (by decide +kernel)
        · refine zV_b (pc' := 69) (lv' := [(4, .inl v6), (0, .inr (.inr l0)), (1, .inl l1), (2, .inr (.inl l2))]) (st' := [.inr (.inr l0)]) [(.aload_n 0, 1)] (by decide +kernel) rfl ?_
          refine zV_gr (by decide +kernel) zfl_RX12_90 (by decide) rfl h (fun v14 _ h => ?_)
          refine zV_b (pc' := 73) (lv' := [(4, .inl v6), (0, .inr (.inr l0)), (1, .inl l1), (2, .inr (.inl l2))]) (st' := [.inr (.inr l0), .inr (.inr v14)]) [(.aload_n 0, 1)] (by decide +kernel) rfl ?_
          refine zV_gi (by decide +kernel) zfl_RX12_334 (by decide) rfl (Or.inl rfl) h (fun v15 _ h => ?_)
          refine zV_b (pc' := 77) (lv' := [(4, .inl v6), (0, .inr (.inr l0)), (1, .inl l1), (2, .inr (.inl l2))]) (st' := [.inl l1, .inl v15, .inr (.inr v14)]) [(.iload_n 1, 1)] (by decide +kernel) rfl ?_
          refine zV_si (by decide +kernel) h (fun M16 _ h => ?_)
          refine zV_b (pc' := 79) (lv' := [(4, .inl v6), (0, .inr (.inr l0)), (1, .inl l1), (2, .inr (.inl l2))]) (st' := [.inr (.inr l0)]) [(.aload_n 0, 1)] (by decide +kernel) rfl ?_
          refine zV_gr (by decide +kernel) zfl_RX12_93 (by decide) rfl h (fun v17 _ h => ?_)
          refine zV_b (pc' := 83) (lv' := [(4, .inl v6), (0, .inr (.inr l0)), (1, .inl l1), (2, .inr (.inl l2))]) (st' := [.inr (.inr l0), .inr (.inr v17)]) [(.aload_n 0, 1)] (by decide +kernel) rfl ?_
          refine zV_gi (by decide +kernel) zfl_RX12_334 (by decide) rfl (Or.inl rfl) h (fun v18 _ h => ?_)
          refine zV_b (pc' := 87) (lv' := [(4, .inl v6), (0, .inr (.inr l0)), (1, .inl l1), (2, .inr (.inl l2))]) (st' := [.inr (.inl l2), .inl v18, .inr (.inr v17)]) [(.lload_n 2, 1)] (by decide +kernel) rfl ?_
          refine zV_sj (by decide +kernel) h (fun M19 _ h => ?_)
          refine zV_b (pc' := 90) (lv' := [(4, .inl v6), (0, .inr (.inr l0)), (1, .inl l1), (2, .inr (.inl l2))]) (st' := [.inr (.inr l0), .inr (.inr l0)]) [(.aload_n 0, 1), (.dup, 1)] (by decide +kernel) rfl ?_
          refine zV_gi (by decide +kernel) zfl_RX12_334 (by decide) rfl (Or.inl rfl) h (fun v20 _ h => ?_)
          refine zV_b (pc' := 95) (lv' := [(4, .inl v6), (0, .inr (.inr l0)), (1, .inl l1), (2, .inr (.inl l2))]) (st' := [.inl (v20 + (1 : Int32)), .inr (.inr l0)]) [(.iconst 1, 1), (.iadd, 1)] (by decide +kernel) rfl ?_
          refine zV_pi (by decide +kernel) zfp_RX12_334 (by decide) rfl h (fun M21 _ h => ?_)
          refine zV_b (pc' := 99) (lv' := [(4, .inl v6), (0, .inr (.inr l0)), (1, .inl l1), (2, .inr (.inl l2))]) (st' := [.inr (.inr l0)]) [(.aload_n 0, 1)] (by decide +kernel) rfl ?_
          refine zV_gi (by decide +kernel) zfl_RX12_334 (by decide) rfl (Or.inl rfl) h (fun v22 _ h => ?_)
          refine zV_b (pc' := 103) (lv' := [(4, .inl v6), (0, .inr (.inr l0)), (1, .inl l1), (2, .inr (.inl l2))]) (st' := [.inr (.inl (v22.toInt64))]) [(.i2l, 1)] (by decide +kernel) rfl ?_
          exact zend_j h hR (by decide +kernel)
      · refine zV_b (pc' := 48) (lv' := [(4, .inl v6), (0, .inr (.inr l0)), (1, .inl l1), (2, .inr (.inl l2))]) (st' := [.inl (13 : Int32), .inr (.inr l0)]) [(.aload_n 0, 1), (.bipush 13, 2)] (by decide +kernel) rfl ?_
        refine zV_cvj (As := [.inl (13 : Int32)]) (st := []) (c := 13) (by decide +kernel) (zcl_X12_no (by decide) (by decide)) ⟨zw_1677, zw_1679, zw_59⟩ ⟨⟨_, _, rfl⟩, by decide⟩ rfl rfl (Nat.le_of_ble_eq_true rfl) h (fun _ _ e => zc_X12_no e) (fun M24 v24 _ h => ?_)
        exact zend_j h hR (by decide +kernel)
    · refine zV_b (pc' := 33) (lv' := [(4, .inl v6), (0, .inr (.inr l0)), (1, .inl l1), (2, .inr (.inl l2))]) (st' := [.inl v6, .inr (.inr l0)]) [(.aload_n 0, 1), (.iload 4, 2)] (by decide +kernel) rfl ?_
      refine zV_cvj (As := [.inl v6]) (st := []) (c := 13) (by decide +kernel) (zcl_X12_no (by decide) (by decide)) ⟨zw_1677, zw_1679, zw_59⟩ ⟨⟨_, _, rfl⟩, by decide⟩ rfl rfl (Nat.le_of_ble_eq_true rfl) h (fun _ _ e => zc_X12_no e) (fun M26 v26 _ h => ?_)
      exact zend_j h hR (by decide +kernel)
theorem zc_X12_pick {M M' : Zm} {l0 : Option Nat} {l1 : Int32} {l2 : Int64} {x : Int64} (h : zf_X12_pick M l0 l1 l2 = some (M', x)) (l : Launch) (D : va_G) (cy : Nat → ClassId) : zMet l yX12_pick zC_X12_pick (some .long) D cy [.inr (.inr l0), .inl l1, .inr (.inl l2)] M M' (some (.inr (.inl x))) :=
  zM_j (by decide) rfl (fun h => by cases h) (Nat.le_of_ble_eq_true rfl) (fun X hR => zt_X12_pick h hR)
-- BlendCellarModel.picked()I
def zC_X12_picked : Zc := (cX12_picked, 1, RX12, 0, 0, false)
theorem zcl_X12_picked {C : Zc} (h1 : zC_X12_picked.2.2.2.1 + 1 ≤ C.2.2.2.1) (h2 : 8 + (zC_X12_picked.2.1 + 11) + zC_X12_picked.2.2.2.2.1 ≤ C.2.2.2.2.1) : zCl C yX12_picked zC_X12_picked (some .int) 0 := ⟨zw_2033, zw_114, ⟨by decide, by decide⟩, by decide +kernel, h1, h2⟩
noncomputable def zf_X12_picked (M : Zm) (l0 : Option Nat) : Option (Zm × Int32) :=
  zb1 (zo_gi M l0 13 33) (fun v1 =>
  some (M, v1))
set_option maxRecDepth 100000 in
theorem zt_X12_picked {X : Zx} {M : Zm} {l0 : Option Nat} {z : Zm × Int32} (h : zf_X12_picked M l0 = some z) (hR : zRi X zC_X12_picked z.1 z.2) : zV X zC_X12_picked M 0 [(0, .inr (.inr l0))] [] := by
  unfold zf_X12_picked at h
  refine zV_b (pc' := 1) (lv' := [(0, .inr (.inr l0))]) (st' := [.inr (.inr l0)]) [(.aload_n 0, 1)] (by decide +kernel) rfl ?_
  refine zV_gi (by decide +kernel) zfl_RX12_334 (by decide) rfl (Or.inl rfl) h (fun v1 _ h => ?_)
  exact zend_i h hR (by decide +kernel)
theorem zc_X12_picked {M M' : Zm} {l0 : Option Nat} {x : Int32} (h : zf_X12_picked M l0 = some (M', x)) (l : Launch) (D : va_G) (cy : Nat → ClassId) : zMet l yX12_picked zC_X12_picked (some .int) D cy [.inr (.inr l0)] M M' (some (.inl x)) :=
  zM_i (by decide) rfl (fun h => by cases h) (Nat.le_of_ble_eq_true rfl) (fun X hR => zt_X12_picked h hR)
-- BlendCellarModel.search(IIIJ)V
def zC_X12_search (d : Nat) : Zc := (cX12_search, 10, RX12, 34 + d, 815 + d * 29, false)
theorem zcl_X12_search {d : Nat} {C : Zc} (h1 : (zC_X12_search d).2.2.2.1 + 1 ≤ C.2.2.2.1) (h2 : 8 + ((zC_X12_search d).2.1 + 11) + (zC_X12_search d).2.2.2.2.1 ≤ C.2.2.2.2.1) : zCl C yX12_search (zC_X12_search d) none 4 := ⟨zw_1937, zw_114, ⟨by decide, by decide⟩, by decide +kernel, h1, h2⟩
noncomputable def zf_X12_search_L85 (rec : Zm → Option Nat → Int32 → Int32 → Int32 → Int64 → Option (Zm × Unit)) (p0 : Option Nat) (p1 : Int32) (p6 : Int64) (p8 : Int32) (x : Zm × Int32) : Option ((Zm × Int32) ⊕ (Zm × Int32)) := match x with
  | (M, l9) =>
  zb1 (zo_gi M p0 13 33) (fun v15 =>
  (if v15 ≤ l9 then
  some (.inr (M, l9))
  else
  zb1 (zo_gr M p0 13 68) (fun v17 =>
  zb1 (zo_gr M p0 13 68) (fun v18 =>
  zb1 (zo_aj M v18 p8) (fun v19 =>
  zb1 (zo_gr M p0 13 70) (fun v20 =>
  zb1 (zo_gr M p0 13 73) (fun v21 =>
  zb1 (zo_ai M v21 l9) (fun v22 =>
  zb1 (zo_aj M v20 (((((13 : Int32) * l9) + v22) * (48 : Int32)) + p8)) (fun v23 =>
  zb1 (zo_sj M v17 p8 (v19 + v23)) (fun M24 =>
  some (.inl (M24, (l9 + 1)))))))))))))
def zP_X12_search_L85 (d : Nat) (X : Zx) (p0 : Option Nat) (p1 : Int32) (p6 : Int64) (p8 : Int32) (x : Zm × Int32) : Prop := match x with
  | (M, l9) => zV X (zC_X12_search (d + 1)) M 85 [(0, .inr (.inr p0)), (1, .inl p1), (6, .inr (.inl p6)), (8, .inl p8), (9, .inl l9)] []
def zK_X12_search_L85 (d : Nat) (X : Zx) (p0 : Option Nat) (p1 : Int32) (p6 : Int64) (p8 : Int32) (y : Zm × Int32) : Prop := match y with
  | (M, l9) => zV X (zC_X12_search (d + 1)) M 139 [(0, .inr (.inr p0)), (1, .inl p1), (6, .inr (.inl p6)), (8, .inl p8)] []
noncomputable def zf_X12_search_L67 (rec : Zm → Option Nat → Int32 → Int32 → Int32 → Int64 → Option (Zm × Unit)) (p0 : Option Nat) (p1 : Int32) (p6 : Int64) (x : Zm × Int32) : Option ((Zm × Int32) ⊕ (Zm × Int32)) := match x with
  | (M, l8) =>
  (if (48 : Int32) ≤ l8 then
  some (.inr (M, l8))
  else
  zb1 (zo_gr M p0 13 68) (fun v13 =>
  zb1 (zo_sj M v13 l8 (0 : Int64)) (fun M14 =>
  zb1 (zwhile (zf_X12_search_L85 rec p0 p1 p6 l8) (M14, (0 : Int32))) (fun y26 => match y26 with
  | (M85_26, l9_26) =>
  some (.inl (M85_26, (l8 + 1)))))))
def zP_X12_search_L67 (d : Nat) (X : Zx) (p0 : Option Nat) (p1 : Int32) (p6 : Int64) (x : Zm × Int32) : Prop := match x with
  | (M, l8) => zV X (zC_X12_search (d + 1)) M 67 [(0, .inr (.inr p0)), (1, .inl p1), (6, .inr (.inl p6)), (8, .inl l8)] []
def zK_X12_search_L67 (d : Nat) (X : Zx) (p0 : Option Nat) (p1 : Int32) (p6 : Int64) (y : Zm × Int32) : Prop := match y with
  | (M, l8) => zV X (zC_X12_search (d + 1)) M 145 [(0, .inr (.inr p0)), (1, .inl p1), (6, .inr (.inl p6))] []
noncomputable def zf_X12_search_L164 (rec : Zm → Option Nat → Int32 → Int32 → Int32 → Int64 → Option (Zm × Unit)) (p0 : Option Nat) (x : Zm × Int32) : Option ((Zm × Int32) ⊕ (Zm × Int32)) := match x with
  | (M, l8) =>
  zb1 (zo_gi M p0 13 33) (fun v32 =>
  (if v32 ≤ l8 then
  some (.inr (M, l8))
  else
  zb1 (zo_gr M p0 13 74) (fun v34 =>
  zb1 (zo_gr M p0 13 73) (fun v35 =>
  zb1 (zo_ai M v35 l8) (fun v36 =>
  zb1 (zo_si M v34 l8 v36) (fun M37 =>
  some (.inl (M37, (l8 + 1)))))))))
def zP_X12_search_L164 (d : Nat) (X : Zx) (p0 : Option Nat) (x : Zm × Int32) : Prop := match x with
  | (M, l8) => zV X (zC_X12_search (d + 1)) M 164 [(0, .inr (.inr p0)), (8, .inl l8)] []
def zK_X12_search_L164 (d : Nat) (X : Zx) (p0 : Option Nat) (y : Zm × Int32) : Prop := match y with
  | (M, l8) => zV X (zC_X12_search (d + 1)) M 193 [] []
noncomputable def zf_X12_search_J64 (rec : Zm → Option Nat → Int32 → Int32 → Int32 → Int64 → Option (Zm × Unit)) (M : Zm) (l0 : Option Nat) (l1 : Int32) (l6 : Int64) : Option (Zm × Unit) :=
  zb1 (zwhile (zf_X12_search_L67 rec l0 l1 l6) (M, (0 : Int32))) (fun y28 => match y28 with
  | (M67_28, l8_28) =>
  zb1 (zo_rc M67_28 l0 13) (fun _ => zbd (zf_X12_holdsAll M67_28 l0 l1) (fun M29 v29 =>
  (if v29 = (1 : Int32) then
  zb1 (zo_pj M29 l0 13 75 l6) (fun M31 =>
  zb1 (zwhile (zf_X12_search_L164 rec l0) (M31, (0 : Int32))) (fun y39 => match y39 with
  | (M164_39, l8_39) =>
  some (M164_39, ())))
  else
  some (M29, ())))))
noncomputable def zf_X12_search_L197 (rec : Zm → Option Nat → Int32 → Int32 → Int32 → Int64 → Option (Zm × Unit)) (p0 : Option Nat) (p1 : Int32) (p2 : Int32) (p3 : Int32) (p4 : Int64) (x : Zm × Int32) : Option ((Zm × Int32) ⊕ (Zm × Int32)) := match x with
  | (M, l6) =>
  (if p3 < l6 then
  some (.inr (M, l6))
  else
  zb1 (zo_gr M p0 13 72) (fun v47 =>
  zb1 (zo_ai M v47 p2) (fun v48 =>
  (if v48 < l6 then
  some (.inr (M, l6))
  else
  zb1 (zo_gr M p0 13 73) (fun v50 =>
  zb1 (zo_si M v50 p2 l6) (fun M51 =>
  zb1 (zo_gr M51 p0 13 71) (fun v52 =>
  zb1 (zo_aj M51 v52 (((13 : Int32) * p2) + l6)) (fun v53 =>
  zb1 (zo_rc M51 p0 13) (fun _ => zbd (rec M51 p0 p1 (p2 + (1 : Int32)) (p3 - l6) (p4 + v53)) (fun M54 _ =>
  some (.inl (M54, (l6 + 1)))))))))))))
def zP_X12_search_L197 (d : Nat) (X : Zx) (p0 : Option Nat) (p1 : Int32) (p2 : Int32) (p3 : Int32) (p4 : Int64) (x : Zm × Int32) : Prop := match x with
  | (M, l6) => zV X (zC_X12_search (d + 1)) M 197 [(0, .inr (.inr p0)), (1, .inl p1), (2, .inl p2), (3, .inl p3), (4, .inr (.inl p4)), (6, .inl l6)] []
def zK_X12_search_L197 (d : Nat) (X : Zx) (p0 : Option Nat) (p1 : Int32) (p2 : Int32) (p3 : Int32) (p4 : Int64) (y : Zm × Int32) : Prop := match y with
  | (M, l6) => zV X (zC_X12_search (d + 1)) M 255 [] []
noncomputable def zf_X12_searchbody (rec : Zm → Option Nat → Int32 → Int32 → Int32 → Int64 → Option (Zm × Unit)) (M : Zm) (l0 : Option Nat) (l1 : Int32) (l2 : Int32) (l3 : Int32) (l4 : Int64) : Option (Zm × Unit) :=
  zb1 (zo_gi M l0 13 33) (fun v1 =>
  (if l2 = (v1 - (1 : Int32)) then
  zb1 (zo_gr M l0 13 72) (fun v3 =>
  zb1 (zo_ai M v3 l2) (fun v4 =>
  (if l3 ≤ v4 then
  zb1 (zo_gr M l0 13 73) (fun v6 =>
  zb1 (zo_si M v6 l2 l3) (fun M7 =>
  zb1 (zo_gr M7 l0 13 71) (fun v8 =>
  zb1 (zo_aj M7 v8 (((13 : Int32) * l2) + l3)) (fun v9 =>
  zb1 (zo_gj M7 l0 13 75) (fun v10 =>
  (if v10 < (0 : Int64) then
  zf_X12_search_J64 rec M7 l0 l1 (l4 + v9)
  else
  zb1 (zo_gj M7 l0 13 75) (fun v42 =>
  (if (l4 + v9) < v42 then
  zf_X12_search_J64 rec M7 l0 l1 (l4 + v9)
  else
  some (M7, ())))))))))
  else
  some (M, ()))))
  else
  zb1 (zwhile (zf_X12_search_L197 rec l0 l1 l2 l3 l4) (M, (0 : Int32))) (fun y56 => match y56 with
  | (M197_56, l6_56) =>
  some (M197_56, ()))))
set_option maxRecDepth 100000 in
theorem zt_X12_search_L85 {X : Zx} {d : Nat} {rec : Zm → Option Nat → Int32 → Int32 → Int32 → Int64 → Option (Zm × Unit)} (hrec : ∀ {M M' : Zm} {l0 : Option Nat} {l1 : Int32} {l2 : Int32} {l3 : Int32} {l4 : Int64} {x : Unit}, rec M l0 l1 l2 l3 l4 = some (M', x) → ∀ (l : Launch) (D : va_G) (cy : Nat → ClassId), zMet l yX12_search (zC_X12_search d) none D cy [.inr (.inr l0), .inl l1, .inl l2, .inl l3, .inr (.inl l4)] M M' none) {p0 : Option Nat} {p1 : Int32} {p6 : Int64} {p8 : Int32} {x : Zm × Int32} {y : Zm × Int32} (h : zwhile (zf_X12_search_L85 rec p0 p1 p6 p8) x = some y) (hy : zK_X12_search_L85 d X p0 p1 p6 p8 y) : zP_X12_search_L85 d X p0 p1 p6 p8 x := by
  refine zwhile_ind (P := zP_X12_search_L85 d X p0 p1 p6 p8) (K := zK_X12_search_L85 d X p0 p1 p6 p8) ?_ h hy
  intro x z hf k1 k2
  obtain ⟨M, l9⟩ := x
  have h : zf_X12_search_L85 rec p0 p1 p6 p8 (M, l9) = some z := hf
  unfold zf_X12_search_L85 at h
  show zV X (zC_X12_search (d + 1)) M 85 [(0, .inr (.inr p0)), (1, .inl p1), (6, .inr (.inl p6)), (8, .inl p8), (9, .inl l9)] []
  refine zV_b (pc' := 88) (lv' := [(0, .inr (.inr p0)), (1, .inl p1), (6, .inr (.inl p6)), (8, .inl p8), (9, .inl l9)]) (st' := [.inr (.inr p0), .inl l9]) [(.iload 9, 2), (.aload_n 0, 1)] (show zdec cX12_search [(.iload 9, 2), (.aload_n 0, 1)] 85 = true by decide +kernel) rfl ?_
  refine zV_gi (show decode cX12_search 88 = .ok (.getfield 334, 3) by decide +kernel) zfl_RX12_334 (by decide) rfl (Or.inl rfl) h (fun v15 _ h => ?_)
  refine zV_icmp_ge (off := 48) (tgt := 139) (show decode cX12_search 91 = .ok (.if_icmp .ge 48, 3) by decide +kernel) (by decide) h (fun c16 h => ?_) (fun c16 h => ?_)
  · exact zV_lv (lv' := [(0, .inr (.inr p0)), (1, .inl p1), (6, .inr (.inl p6)), (8, .inl p8)]) [0, 1, 2, 3] rfl (k2 _ (Option.some.inj h).symm)
  · refine zV_b (pc' := 95) (lv' := [(0, .inr (.inr p0)), (1, .inl p1), (6, .inr (.inl p6)), (8, .inl p8), (9, .inl l9)]) (st' := [.inr (.inr p0)]) [(.aload_n 0, 1)] (show zdec cX12_search [(.aload_n 0, 1)] 94 = true by decide +kernel) rfl ?_
    refine zV_gr (show decode cX12_search 95 = .ok (.getfield 154, 3) by decide +kernel) zfl_RX12_154 (by decide) rfl h (fun v17 _ h => ?_)
    refine zV_b (pc' := 101) (lv' := [(0, .inr (.inr p0)), (1, .inl p1), (6, .inr (.inl p6)), (8, .inl p8), (9, .inl l9)]) (st' := [.inr (.inr p0), .inl p8, .inr (.inr v17)]) [(.iload 8, 2), (.aload_n 0, 1)] (show zdec cX12_search [(.iload 8, 2), (.aload_n 0, 1)] 98 = true by decide +kernel) rfl ?_
    refine zV_gr (show decode cX12_search 101 = .ok (.getfield 154, 3) by decide +kernel) zfl_RX12_154 (by decide) rfl h (fun v18 _ h => ?_)
    refine zV_b (pc' := 106) (lv' := [(0, .inr (.inr p0)), (1, .inl p1), (6, .inr (.inl p6)), (8, .inl p8), (9, .inl l9)]) (st' := [.inl p8, .inr (.inr v18), .inl p8, .inr (.inr v17)]) [(.iload 8, 2)] (show zdec cX12_search [(.iload 8, 2)] 104 = true by decide +kernel) rfl ?_
    refine zV_aj (show decode cX12_search 106 = .ok (.laload, 1) by decide +kernel) h (fun v19 _ h => ?_)
    refine zV_b (pc' := 108) (lv' := [(0, .inr (.inr p0)), (1, .inl p1), (6, .inr (.inl p6)), (8, .inl p8), (9, .inl l9)]) (st' := [.inr (.inr p0), .inr (.inl v19), .inl p8, .inr (.inr v17)]) [(.aload_n 0, 1)] (show zdec cX12_search [(.aload_n 0, 1)] 107 = true by decide +kernel) rfl ?_
    refine zV_gr (show decode cX12_search 108 = .ok (.getfield 157, 3) by decide +kernel) zfl_RX12_157 (by decide) rfl h (fun v20 _ h => ?_)
    refine zV_b (pc' := 117) (lv' := [(0, .inr (.inr p0)), (1, .inl p1), (6, .inr (.inl p6)), (8, .inl p8), (9, .inl l9)]) (st' := [.inr (.inr p0), .inl ((13 : Int32) * l9), .inr (.inr v20), .inr (.inl v19), .inl p8, .inr (.inr v17)]) [(.bipush 13, 2), (.iload 9, 2), (.imul, 1), (.aload_n 0, 1)] (show zdec cX12_search [(.bipush 13, 2), (.iload 9, 2), (.imul, 1), (.aload_n 0, 1)] 111 = true by decide +kernel) rfl ?_
    refine zV_gr (show decode cX12_search 117 = .ok (.getfield 166, 3) by decide +kernel) zfl_RX12_166 (by decide) rfl h (fun v21 _ h => ?_)
    refine zV_b (pc' := 122) (lv' := [(0, .inr (.inr p0)), (1, .inl p1), (6, .inr (.inl p6)), (8, .inl p8), (9, .inl l9)]) (st' := [.inl l9, .inr (.inr v21), .inl ((13 : Int32) * l9), .inr (.inr v20), .inr (.inl v19), .inl p8, .inr (.inr v17)]) [(.iload 9, 2)] (show zdec cX12_search [(.iload 9, 2)] 120 = true by decide +kernel) rfl ?_
    refine zV_ai (show decode cX12_search 122 = .ok (.iaload, 1) by decide +kernel) h (fun v22 _ h => ?_)
    refine zV_b (pc' := 130) (lv' := [(0, .inr (.inr p0)), (1, .inl p1), (6, .inr (.inl p6)), (8, .inl p8), (9, .inl l9)]) (st' := [.inl (((((13 : Int32) * l9) + v22) * (48 : Int32)) + p8), .inr (.inr v20), .inr (.inl v19), .inl p8, .inr (.inr v17)]) [(.iadd, 1), (.bipush 48, 2), (.imul, 1), (.iload 8, 2), (.iadd, 1)] (show zdec cX12_search [(.iadd, 1), (.bipush 48, 2), (.imul, 1), (.iload 8, 2), (.iadd, 1)] 123 = true by decide +kernel) rfl ?_
    refine zV_aj (show decode cX12_search 130 = .ok (.laload, 1) by decide +kernel) h (fun v23 _ h => ?_)
    refine zV_b (pc' := 132) (lv' := [(0, .inr (.inr p0)), (1, .inl p1), (6, .inr (.inl p6)), (8, .inl p8), (9, .inl l9)]) (st' := [.inr (.inl (v19 + v23)), .inl p8, .inr (.inr v17)]) [(.ladd, 1)] (show zdec cX12_search [(.ladd, 1)] 131 = true by decide +kernel) rfl ?_
    refine zV_sj (show decode cX12_search 132 = .ok (.lastore, 1) by decide +kernel) h (fun M24 _ h => ?_)
    refine zV_b (pc' := 136) (lv' := [(9, .inl (l9 + 1)), (0, .inr (.inr p0)), (1, .inl p1), (6, .inr (.inl p6)), (8, .inl p8)]) (st' := []) [(.iinc 9 1, 3)] (show zdec cX12_search [(.iinc 9 1, 3)] 133 = true by decide +kernel) rfl ?_
    refine zV_goto (off := (-51)) (tgt := 85) (show decode cX12_search 136 = .ok (.goto (-51), 3) by decide +kernel) (by decide) ?_
    exact zV_lv (lv' := [(0, .inr (.inr p0)), (1, .inl p1), (6, .inr (.inl p6)), (8, .inl p8), (9, .inl (l9 + 1))]) [1, 2, 3, 4, 0] rfl (k1 _ (Option.some.inj h).symm)
set_option maxRecDepth 100000 in
theorem zt_X12_search_L67 {X : Zx} {d : Nat} {rec : Zm → Option Nat → Int32 → Int32 → Int32 → Int64 → Option (Zm × Unit)} (hrec : ∀ {M M' : Zm} {l0 : Option Nat} {l1 : Int32} {l2 : Int32} {l3 : Int32} {l4 : Int64} {x : Unit}, rec M l0 l1 l2 l3 l4 = some (M', x) → ∀ (l : Launch) (D : va_G) (cy : Nat → ClassId), zMet l yX12_search (zC_X12_search d) none D cy [.inr (.inr l0), .inl l1, .inl l2, .inl l3, .inr (.inl l4)] M M' none) {p0 : Option Nat} {p1 : Int32} {p6 : Int64} {x : Zm × Int32} {y : Zm × Int32} (h : zwhile (zf_X12_search_L67 rec p0 p1 p6) x = some y) (hy : zK_X12_search_L67 d X p0 p1 p6 y) : zP_X12_search_L67 d X p0 p1 p6 x := by
  refine zwhile_ind (P := zP_X12_search_L67 d X p0 p1 p6) (K := zK_X12_search_L67 d X p0 p1 p6) ?_ h hy
  intro x z hf k1 k2
  obtain ⟨M, l8⟩ := x
  have h : zf_X12_search_L67 rec p0 p1 p6 (M, l8) = some z := hf
  unfold zf_X12_search_L67 at h
  show zV X (zC_X12_search (d + 1)) M 67 [(0, .inr (.inr p0)), (1, .inl p1), (6, .inr (.inl p6)), (8, .inl l8)] []
  refine zV_b (pc' := 71) (lv' := [(0, .inr (.inr p0)), (1, .inl p1), (6, .inr (.inl p6)), (8, .inl l8)]) (st' := [.inl (48 : Int32), .inl l8]) [(.iload 8, 2), (.bipush 48, 2)] (show zdec cX12_search [(.iload 8, 2), (.bipush 48, 2)] 67 = true by decide +kernel) rfl ?_
  refine zV_icmp_ge (off := 74) (tgt := 145) (show decode cX12_search 71 = .ok (.if_icmp .ge 74, 3) by decide +kernel) (by decide) h (fun c12 h => ?_) (fun c12 h => ?_)
  · exact zV_lv (lv' := [(0, .inr (.inr p0)), (1, .inl p1), (6, .inr (.inl p6))]) [0, 1, 2] rfl (k2 _ (Option.some.inj h).symm)
  · refine zV_b (pc' := 75) (lv' := [(0, .inr (.inr p0)), (1, .inl p1), (6, .inr (.inl p6)), (8, .inl l8)]) (st' := [.inr (.inr p0)]) [(.aload_n 0, 1)] (show zdec cX12_search [(.aload_n 0, 1)] 74 = true by decide +kernel) rfl ?_
    refine zV_gr (show decode cX12_search 75 = .ok (.getfield 154, 3) by decide +kernel) zfl_RX12_154 (by decide) rfl h (fun v13 _ h => ?_)
    refine zV_b (pc' := 81) (lv' := [(0, .inr (.inr p0)), (1, .inl p1), (6, .inr (.inl p6)), (8, .inl l8)]) (st' := [.inr (.inl (0 : Int64)), .inl l8, .inr (.inr v13)]) [(.iload 8, 2), (.lconst 0, 1)] (show zdec cX12_search [(.iload 8, 2), (.lconst 0, 1)] 78 = true by decide +kernel) rfl ?_
    refine zV_sj (show decode cX12_search 81 = .ok (.lastore, 1) by decide +kernel) h (fun M14 _ h => ?_)
    refine zV_b (pc' := 85) (lv' := [(9, .inl (0 : Int32)), (0, .inr (.inr p0)), (1, .inl p1), (6, .inr (.inl p6)), (8, .inl l8)]) (st' := []) [(.iconst 0, 1), (.istore 9, 2)] (show zdec cX12_search [(.iconst 0, 1), (.istore 9, 2)] 82 = true by decide +kernel) rfl ?_
    obtain ⟨y26, e26, h⟩ := zb1_inv h
    refine zV_lv (lv' := [(0, .inr (.inr p0)), (1, .inl p1), (6, .inr (.inl p6)), (8, .inl l8), (9, .inl (0 : Int32))]) [1, 2, 3, 4, 0] rfl (zt_X12_search_L85 hrec e26 ?_)
    obtain ⟨M85_26, l9_26⟩ := y26
    show zV X (zC_X12_search (d + 1)) M85_26 139 [(0, .inr (.inr p0)), (1, .inl p1), (6, .inr (.inl p6)), (8, .inl l8)] []
    refine zV_b (pc' := 142) (lv' := [(8, .inl (l8 + 1)), (0, .inr (.inr p0)), (1, .inl p1), (6, .inr (.inl p6))]) (st' := []) [(.iinc 8 1, 3)] (show zdec cX12_search [(.iinc 8 1, 3)] 139 = true by decide +kernel) rfl ?_
    refine zV_goto (off := (-75)) (tgt := 67) (show decode cX12_search 142 = .ok (.goto (-75), 3) by decide +kernel) (by decide) ?_
    exact zV_lv (lv' := [(0, .inr (.inr p0)), (1, .inl p1), (6, .inr (.inl p6)), (8, .inl (l8 + 1))]) [1, 2, 3, 0] rfl (k1 _ (Option.some.inj h).symm)
set_option maxRecDepth 100000 in
theorem zt_X12_search_L164 {X : Zx} {d : Nat} {rec : Zm → Option Nat → Int32 → Int32 → Int32 → Int64 → Option (Zm × Unit)} (hrec : ∀ {M M' : Zm} {l0 : Option Nat} {l1 : Int32} {l2 : Int32} {l3 : Int32} {l4 : Int64} {x : Unit}, rec M l0 l1 l2 l3 l4 = some (M', x) → ∀ (l : Launch) (D : va_G) (cy : Nat → ClassId), zMet l yX12_search (zC_X12_search d) none D cy [.inr (.inr l0), .inl l1, .inl l2, .inl l3, .inr (.inl l4)] M M' none) {p0 : Option Nat} {x : Zm × Int32} {y : Zm × Int32} (h : zwhile (zf_X12_search_L164 rec p0) x = some y) (hy : zK_X12_search_L164 d X p0 y) : zP_X12_search_L164 d X p0 x := by
  refine zwhile_ind (P := zP_X12_search_L164 d X p0) (K := zK_X12_search_L164 d X p0) ?_ h hy
  intro x z hf k1 k2
  obtain ⟨M, l8⟩ := x
  have h : zf_X12_search_L164 rec p0 (M, l8) = some z := hf
  unfold zf_X12_search_L164 at h
  show zV X (zC_X12_search (d + 1)) M 164 [(0, .inr (.inr p0)), (8, .inl l8)] []
  refine zV_b (pc' := 167) (lv' := [(0, .inr (.inr p0)), (8, .inl l8)]) (st' := [.inr (.inr p0), .inl l8]) [(.iload 8, 2), (.aload_n 0, 1)] (show zdec cX12_search [(.iload 8, 2), (.aload_n 0, 1)] 164 = true by decide +kernel) rfl ?_
  refine zV_gi (show decode cX12_search 167 = .ok (.getfield 334, 3) by decide +kernel) zfl_RX12_334 (by decide) rfl (Or.inl rfl) h (fun v32 _ h => ?_)
  refine zV_icmp_ge (off := 23) (tgt := 193) (show decode cX12_search 170 = .ok (.if_icmp .ge 23, 3) by decide +kernel) (by decide) h (fun c33 h => ?_) (fun c33 h => ?_)
  · exact zV_lv (lv' := []) [] rfl (k2 _ (Option.some.inj h).symm)
  · refine zV_b (pc' := 174) (lv' := [(0, .inr (.inr p0)), (8, .inl l8)]) (st' := [.inr (.inr p0)]) [(.aload_n 0, 1)] (show zdec cX12_search [(.aload_n 0, 1)] 173 = true by decide +kernel) rfl ?_
    refine zV_gr (show decode cX12_search 174 = .ok (.getfield 169, 3) by decide +kernel) zfl_RX12_169 (by decide) rfl h (fun v34 _ h => ?_)
    refine zV_b (pc' := 180) (lv' := [(0, .inr (.inr p0)), (8, .inl l8)]) (st' := [.inr (.inr p0), .inl l8, .inr (.inr v34)]) [(.iload 8, 2), (.aload_n 0, 1)] (show zdec cX12_search [(.iload 8, 2), (.aload_n 0, 1)] 177 = true by decide +kernel) rfl ?_
    refine zV_gr (show decode cX12_search 180 = .ok (.getfield 166, 3) by decide +kernel) zfl_RX12_166 (by decide) rfl h (fun v35 _ h => ?_)
    refine zV_b (pc' := 185) (lv' := [(0, .inr (.inr p0)), (8, .inl l8)]) (st' := [.inl l8, .inr (.inr v35), .inl l8, .inr (.inr v34)]) [(.iload 8, 2)] (show zdec cX12_search [(.iload 8, 2)] 183 = true by decide +kernel) rfl ?_
    refine zV_ai (show decode cX12_search 185 = .ok (.iaload, 1) by decide +kernel) h (fun v36 _ h => ?_)
    refine zV_si (show decode cX12_search 186 = .ok (.iastore, 1) by decide +kernel) h (fun M37 _ h => ?_)
    refine zV_b (pc' := 190) (lv' := [(8, .inl (l8 + 1)), (0, .inr (.inr p0))]) (st' := []) [(.iinc 8 1, 3)] (show zdec cX12_search [(.iinc 8 1, 3)] 187 = true by decide +kernel) rfl ?_
    refine zV_goto (off := (-26)) (tgt := 164) (show decode cX12_search 190 = .ok (.goto (-26), 3) by decide +kernel) (by decide) ?_
    exact zV_lv (lv' := [(0, .inr (.inr p0)), (8, .inl (l8 + 1))]) [1, 0] rfl (k1 _ (Option.some.inj h).symm)
set_option maxRecDepth 100000 in
theorem zt_X12_search_J64 {X : Zx} {d : Nat} {rec : Zm → Option Nat → Int32 → Int32 → Int32 → Int64 → Option (Zm × Unit)} (hrec : ∀ {M M' : Zm} {l0 : Option Nat} {l1 : Int32} {l2 : Int32} {l3 : Int32} {l4 : Int64} {x : Unit}, rec M l0 l1 l2 l3 l4 = some (M', x) → ∀ (l : Launch) (D : va_G) (cy : Nat → ClassId), zMet l yX12_search (zC_X12_search d) none D cy [.inr (.inr l0), .inl l1, .inl l2, .inl l3, .inr (.inl l4)] M M' none) {M : Zm} {l0 : Option Nat} {l1 : Int32} {l6 : Int64} {z : Zm × Unit} (h : zf_X12_search_J64 rec M l0 l1 l6 = some z) (hR : zRv X (zC_X12_search (d + 1)) z.1) : zV X (zC_X12_search (d + 1)) M 64 [(0, .inr (.inr l0)), (1, .inl l1), (6, .inr (.inl l6))] [] := by
  unfold zf_X12_search_J64 at h
  refine zV_b (pc' := 67) (lv' := [(8, .inl (0 : Int32)), (0, .inr (.inr l0)), (1, .inl l1), (6, .inr (.inl l6))]) (st' := []) [(.iconst 0, 1), (.istore 8, 2)] (show zdec cX12_search [(.iconst 0, 1), (.istore 8, 2)] 64 = true by decide +kernel) rfl ?_
  obtain ⟨y28, e28, h⟩ := zb1_inv h
  refine zV_lv (lv' := [(0, .inr (.inr l0)), (1, .inl l1), (6, .inr (.inl l6)), (8, .inl (0 : Int32))]) [1, 2, 3, 0] rfl (zt_X12_search_L67 hrec e28 ?_)
  obtain ⟨M67_28, l8_28⟩ := y28
  show zV X (zC_X12_search (d + 1)) M67_28 145 [(0, .inr (.inr l0)), (1, .inl l1), (6, .inr (.inl l6))] []
  refine zV_b (pc' := 147) (lv' := [(0, .inr (.inr l0)), (1, .inl l1), (6, .inr (.inl l6))]) (st' := [.inl l1, .inr (.inr l0)]) [(.aload_n 0, 1), (.iload_n 1, 1)] (show zdec cX12_search [(.aload_n 0, 1), (.iload_n 1, 1)] 145 = true by decide +kernel) rfl ?_
  refine zV_cvi (As := [.inl l1]) (st := []) (c := 13) (show decode cX12_search 147 = .ok (.invokevirtual 383, 3) by decide +kernel) (zcl_X12_holdsAll (by simp only [zC_X12_search, zC_X12_holdsAll]; omega) (by simp only [zC_X12_search, zC_X12_holdsAll]; omega)) ⟨zw_1914, zw_1916, zw_93⟩ ⟨⟨_, _, rfl⟩, by decide⟩ rfl rfl (Nat.le_of_ble_eq_true rfl) h (fun _ _ e => zc_X12_holdsAll e) (fun M29 v29 _ h => ?_)
  refine zV_b (pc' := 151) (lv' := [(0, .inr (.inr l0)), (1, .inl l1), (6, .inr (.inl l6))]) (st' := [.inl (1 : Int32), .inl v29]) [(.iconst 1, 1)] (show zdec cX12_search [(.iconst 1, 1)] 150 = true by decide +kernel) rfl ?_
  refine zV_icmp_eq (off := 4) (tgt := 155) (show decode cX12_search 151 = .ok (.if_icmp .eq 4, 3) by decide +kernel) (by decide) h (fun c30 h => ?_) (fun c30 h => ?_)
  · refine zV_b (pc' := 158) (lv' := [(0, .inr (.inr l0)), (1, .inl l1), (6, .inr (.inl l6))]) (st' := [.inr (.inl l6), .inr (.inr l0)]) [(.aload_n 0, 1), (.lload 6, 2)] (show zdec cX12_search [(.aload_n 0, 1), (.lload 6, 2)] 155 = true by decide +kernel) rfl ?_
    refine zV_pj (show decode cX12_search 158 = .ok (.putfield 386, 3) by decide +kernel) zfp_RX12_386 (by decide) rfl h (fun M31 _ h => ?_)
    refine zV_b (pc' := 164) (lv' := [(8, .inl (0 : Int32)), (0, .inr (.inr l0)), (1, .inl l1), (6, .inr (.inl l6))]) (st' := []) [(.iconst 0, 1), (.istore 8, 2)] (show zdec cX12_search [(.iconst 0, 1), (.istore 8, 2)] 161 = true by decide +kernel) rfl ?_
    obtain ⟨y39, e39, h⟩ := zb1_inv h
    refine zV_lv (lv' := [(0, .inr (.inr l0)), (8, .inl (0 : Int32))]) [1, 0] rfl (zt_X12_search_L164 hrec e39 ?_)
    obtain ⟨M164_39, l8_39⟩ := y39
    show zV X (zC_X12_search (d + 1)) M164_39 193 [] []
    exact zend_v h hR (show decode cX12_search 193 = .ok (.return_, 1) by decide +kernel)
  · exact zend_v h hR (show decode cX12_search 154 = .ok (.return_, 1) by decide +kernel)
set_option maxRecDepth 100000 in
theorem zt_X12_search_L197 {X : Zx} {d : Nat} {rec : Zm → Option Nat → Int32 → Int32 → Int32 → Int64 → Option (Zm × Unit)} (hrec : ∀ {M M' : Zm} {l0 : Option Nat} {l1 : Int32} {l2 : Int32} {l3 : Int32} {l4 : Int64} {x : Unit}, rec M l0 l1 l2 l3 l4 = some (M', x) → ∀ (l : Launch) (D : va_G) (cy : Nat → ClassId), zMet l yX12_search (zC_X12_search d) none D cy [.inr (.inr l0), .inl l1, .inl l2, .inl l3, .inr (.inl l4)] M M' none) {p0 : Option Nat} {p1 : Int32} {p2 : Int32} {p3 : Int32} {p4 : Int64} {x : Zm × Int32} {y : Zm × Int32} (h : zwhile (zf_X12_search_L197 rec p0 p1 p2 p3 p4) x = some y) (hy : zK_X12_search_L197 d X p0 p1 p2 p3 p4 y) : zP_X12_search_L197 d X p0 p1 p2 p3 p4 x := by
  refine zwhile_ind (P := zP_X12_search_L197 d X p0 p1 p2 p3 p4) (K := zK_X12_search_L197 d X p0 p1 p2 p3 p4) ?_ h hy
  intro x z hf k1 k2
  obtain ⟨M, l6⟩ := x
  have h : zf_X12_search_L197 rec p0 p1 p2 p3 p4 (M, l6) = some z := hf
  unfold zf_X12_search_L197 at h
  show zV X (zC_X12_search (d + 1)) M 197 [(0, .inr (.inr p0)), (1, .inl p1), (2, .inl p2), (3, .inl p3), (4, .inr (.inl p4)), (6, .inl l6)] []
  refine zV_b (pc' := 200) (lv' := [(0, .inr (.inr p0)), (1, .inl p1), (2, .inl p2), (3, .inl p3), (4, .inr (.inl p4)), (6, .inl l6)]) (st' := [.inl p3, .inl l6]) [(.iload 6, 2), (.iload_n 3, 1)] (show zdec cX12_search [(.iload 6, 2), (.iload_n 3, 1)] 197 = true by decide +kernel) rfl ?_
  refine zV_icmp_gt (off := 55) (tgt := 255) (show decode cX12_search 200 = .ok (.if_icmp .gt 55, 3) by decide +kernel) (by decide) h (fun c46 h => ?_) (fun c46 h => ?_)
  · exact zV_lv (lv' := []) [] rfl (k2 _ (Option.some.inj h).symm)
  · refine zV_b (pc' := 206) (lv' := [(0, .inr (.inr p0)), (1, .inl p1), (2, .inl p2), (3, .inl p3), (4, .inr (.inl p4)), (6, .inl l6)]) (st' := [.inr (.inr p0), .inl l6]) [(.iload 6, 2), (.aload_n 0, 1)] (show zdec cX12_search [(.iload 6, 2), (.aload_n 0, 1)] 203 = true by decide +kernel) rfl ?_
    refine zV_gr (show decode cX12_search 206 = .ok (.getfield 163, 3) by decide +kernel) zfl_RX12_163 (by decide) rfl h (fun v47 _ h => ?_)
    refine zV_b (pc' := 210) (lv' := [(0, .inr (.inr p0)), (1, .inl p1), (2, .inl p2), (3, .inl p3), (4, .inr (.inl p4)), (6, .inl l6)]) (st' := [.inl p2, .inr (.inr v47), .inl l6]) [(.iload_n 2, 1)] (show zdec cX12_search [(.iload_n 2, 1)] 209 = true by decide +kernel) rfl ?_
    refine zV_ai (show decode cX12_search 210 = .ok (.iaload, 1) by decide +kernel) h (fun v48 _ h => ?_)
    refine zV_icmp_gt (off := 44) (tgt := 255) (show decode cX12_search 211 = .ok (.if_icmp .gt 44, 3) by decide +kernel) (by decide) h (fun c49 h => ?_) (fun c49 h => ?_)
    · exact zV_lv (lv' := []) [] rfl (k2 _ (Option.some.inj h).symm)
    · refine zV_b (pc' := 215) (lv' := [(0, .inr (.inr p0)), (1, .inl p1), (2, .inl p2), (3, .inl p3), (4, .inr (.inl p4)), (6, .inl l6)]) (st' := [.inr (.inr p0)]) [(.aload_n 0, 1)] (show zdec cX12_search [(.aload_n 0, 1)] 214 = true by decide +kernel) rfl ?_
      refine zV_gr (show decode cX12_search 215 = .ok (.getfield 166, 3) by decide +kernel) zfl_RX12_166 (by decide) rfl h (fun v50 _ h => ?_)
      refine zV_b (pc' := 221) (lv' := [(0, .inr (.inr p0)), (1, .inl p1), (2, .inl p2), (3, .inl p3), (4, .inr (.inl p4)), (6, .inl l6)]) (st' := [.inl l6, .inl p2, .inr (.inr v50)]) [(.iload_n 2, 1), (.iload 6, 2)] (show zdec cX12_search [(.iload_n 2, 1), (.iload 6, 2)] 218 = true by decide +kernel) rfl ?_
      refine zV_si (show decode cX12_search 221 = .ok (.iastore, 1) by decide +kernel) h (fun M51 _ h => ?_)
      refine zV_b (pc' := 234) (lv' := [(0, .inr (.inr p0)), (1, .inl p1), (2, .inl p2), (3, .inl p3), (4, .inr (.inl p4)), (6, .inl l6)]) (st' := [.inr (.inr p0), .inr (.inl p4), .inl (p3 - l6), .inl (p2 + (1 : Int32)), .inl p1, .inr (.inr p0)]) [(.aload_n 0, 1), (.iload_n 1, 1), (.iload_n 2, 1), (.iconst 1, 1), (.iadd, 1), (.iload_n 3, 1), (.iload 6, 2), (.isub, 1), (.lload 4, 2), (.aload_n 0, 1)] (show zdec cX12_search [(.aload_n 0, 1), (.iload_n 1, 1), (.iload_n 2, 1), (.iconst 1, 1), (.iadd, 1), (.iload_n 3, 1), (.iload 6, 2), (.isub, 1), (.lload 4, 2), (.aload_n 0, 1)] 222 = true by decide +kernel) rfl ?_
      refine zV_gr (show decode cX12_search 234 = .ok (.getfield 160, 3) by decide +kernel) zfl_RX12_160 (by decide) rfl h (fun v52 _ h => ?_)
      refine zV_b (pc' := 244) (lv' := [(0, .inr (.inr p0)), (1, .inl p1), (2, .inl p2), (3, .inl p3), (4, .inr (.inl p4)), (6, .inl l6)]) (st' := [.inl (((13 : Int32) * p2) + l6), .inr (.inr v52), .inr (.inl p4), .inl (p3 - l6), .inl (p2 + (1 : Int32)), .inl p1, .inr (.inr p0)]) [(.bipush 13, 2), (.iload_n 2, 1), (.imul, 1), (.iload 6, 2), (.iadd, 1)] (show zdec cX12_search [(.bipush 13, 2), (.iload_n 2, 1), (.imul, 1), (.iload 6, 2), (.iadd, 1)] 237 = true by decide +kernel) rfl ?_
      refine zV_aj (show decode cX12_search 244 = .ok (.laload, 1) by decide +kernel) h (fun v53 _ h => ?_)
      refine zV_b (pc' := 246) (lv' := [(0, .inr (.inr p0)), (1, .inl p1), (2, .inl p2), (3, .inl p3), (4, .inr (.inl p4)), (6, .inl l6)]) (st' := [.inr (.inl (p4 + v53)), .inl (p3 - l6), .inl (p2 + (1 : Int32)), .inl p1, .inr (.inr p0)]) [(.ladd, 1)] (show zdec cX12_search [(.ladd, 1)] 245 = true by decide +kernel) rfl ?_
      refine zV_cvv (As := [.inl p1, .inl (p2 + (1 : Int32)), .inl (p3 - l6), .inr (.inl (p4 + v53))]) (st := []) (c := 13) (show decode cX12_search 246 = .ok (.invokevirtual 389, 3) by decide +kernel) (zcl_X12_search (by simp only [zC_X12_search]; omega) (by simp only [zC_X12_search]; omega)) ⟨zw_1934, zw_1936, zw_96⟩ ⟨⟨_, _, rfl⟩, by decide⟩ rfl rfl (Nat.le_of_ble_eq_true rfl) h (fun _ _ e => hrec e) (fun M54 _ _ h => ?_)
      refine zV_b (pc' := 252) (lv' := [(6, .inl (l6 + 1)), (0, .inr (.inr p0)), (1, .inl p1), (2, .inl p2), (3, .inl p3), (4, .inr (.inl p4))]) (st' := []) [(.iinc 6 1, 3)] (show zdec cX12_search [(.iinc 6 1, 3)] 249 = true by decide +kernel) rfl ?_
      refine zV_goto (off := (-55)) (tgt := 197) (show decode cX12_search 252 = .ok (.goto (-55), 3) by decide +kernel) (by decide) ?_
      exact zV_lv (lv' := [(0, .inr (.inr p0)), (1, .inl p1), (2, .inl p2), (3, .inl p3), (4, .inr (.inl p4)), (6, .inl (l6 + 1))]) [1, 2, 3, 4, 5, 0] rfl (k1 _ (Option.some.inj h).symm)
set_option maxRecDepth 100000 in
theorem zt_X12_search {X : Zx} {d : Nat} {rec : Zm → Option Nat → Int32 → Int32 → Int32 → Int64 → Option (Zm × Unit)} (hrec : ∀ {M M' : Zm} {l0 : Option Nat} {l1 : Int32} {l2 : Int32} {l3 : Int32} {l4 : Int64} {x : Unit}, rec M l0 l1 l2 l3 l4 = some (M', x) → ∀ (l : Launch) (D : va_G) (cy : Nat → ClassId), zMet l yX12_search (zC_X12_search d) none D cy [.inr (.inr l0), .inl l1, .inl l2, .inl l3, .inr (.inl l4)] M M' none) {M : Zm} {l0 : Option Nat} {l1 : Int32} {l2 : Int32} {l3 : Int32} {l4 : Int64} {z : Zm × Unit} (h : zf_X12_searchbody rec M l0 l1 l2 l3 l4 = some z) (hR : zRv X (zC_X12_search (d + 1)) z.1) : zV X (zC_X12_search (d + 1)) M 0 [(0, .inr (.inr l0)), (1, .inl l1), (2, .inl l2), (3, .inl l3), (4, .inr (.inl l4))] [] := by
  unfold zf_X12_searchbody at h
  refine zV_b (pc' := 2) (lv' := [(0, .inr (.inr l0)), (1, .inl l1), (2, .inl l2), (3, .inl l3), (4, .inr (.inl l4))]) (st' := [.inr (.inr l0), .inl l2]) [(.iload_n 2, 1), (.aload_n 0, 1)] (show zdec cX12_search [(.iload_n 2, 1), (.aload_n 0, 1)] 0 = true by decide +kernel) rfl ?_
  refine zV_gi (show decode cX12_search 2 = .ok (.getfield 334, 3) by decide +kernel) zfl_RX12_334 (by decide) rfl (Or.inl rfl) h (fun v1 _ h => ?_)
  refine zV_b (pc' := 7) (lv' := [(0, .inr (.inr l0)), (1, .inl l1), (2, .inl l2), (3, .inl l3), (4, .inr (.inl l4))]) (st' := [.inl (v1 - (1 : Int32)), .inl l2]) [(.iconst 1, 1), (.isub, 1)] (show zdec cX12_search [(.iconst 1, 1), (.isub, 1)] 5 = true by decide +kernel) rfl ?_
  refine zV_icmp_ne (off := 187) (tgt := 194) (show decode cX12_search 7 = .ok (.if_icmp .ne 187, 3) by decide +kernel) (by decide) h (fun c2 h => ?_) (fun c2 h => ?_)
  · refine zV_b (pc' := 12) (lv' := [(0, .inr (.inr l0)), (1, .inl l1), (2, .inl l2), (3, .inl l3), (4, .inr (.inl l4))]) (st' := [.inr (.inr l0), .inl l3]) [(.iload_n 3, 1), (.aload_n 0, 1)] (show zdec cX12_search [(.iload_n 3, 1), (.aload_n 0, 1)] 10 = true by decide +kernel) rfl ?_
    refine zV_gr (show decode cX12_search 12 = .ok (.getfield 163, 3) by decide +kernel) zfl_RX12_163 (by decide) rfl h (fun v3 _ h => ?_)
    refine zV_b (pc' := 16) (lv' := [(0, .inr (.inr l0)), (1, .inl l1), (2, .inl l2), (3, .inl l3), (4, .inr (.inl l4))]) (st' := [.inl l2, .inr (.inr v3), .inl l3]) [(.iload_n 2, 1)] (show zdec cX12_search [(.iload_n 2, 1)] 15 = true by decide +kernel) rfl ?_
    refine zV_ai (show decode cX12_search 16 = .ok (.iaload, 1) by decide +kernel) h (fun v4 _ h => ?_)
    refine zV_icmp_le (off := 4) (tgt := 21) (show decode cX12_search 17 = .ok (.if_icmp .le 4, 3) by decide +kernel) (by decide) h (fun c5 h => ?_) (fun c5 h => ?_)
    · refine zV_b (pc' := 22) (lv' := [(0, .inr (.inr l0)), (1, .inl l1), (2, .inl l2), (3, .inl l3), (4, .inr (.inl l4))]) (st' := [.inr (.inr l0)]) [(.aload_n 0, 1)] (show zdec cX12_search [(.aload_n 0, 1)] 21 = true by decide +kernel) rfl ?_
      refine zV_gr (show decode cX12_search 22 = .ok (.getfield 166, 3) by decide +kernel) zfl_RX12_166 (by decide) rfl h (fun v6 _ h => ?_)
      refine zV_b (pc' := 27) (lv' := [(0, .inr (.inr l0)), (1, .inl l1), (2, .inl l2), (3, .inl l3), (4, .inr (.inl l4))]) (st' := [.inl l3, .inl l2, .inr (.inr v6)]) [(.iload_n 2, 1), (.iload_n 3, 1)] (show zdec cX12_search [(.iload_n 2, 1), (.iload_n 3, 1)] 25 = true by decide +kernel) rfl ?_
      refine zV_si (show decode cX12_search 27 = .ok (.iastore, 1) by decide +kernel) h (fun M7 _ h => ?_)
      refine zV_b (pc' := 31) (lv' := [(0, .inr (.inr l0)), (1, .inl l1), (2, .inl l2), (3, .inl l3), (4, .inr (.inl l4))]) (st' := [.inr (.inr l0), .inr (.inl l4)]) [(.lload 4, 2), (.aload_n 0, 1)] (show zdec cX12_search [(.lload 4, 2), (.aload_n 0, 1)] 28 = true by decide +kernel) rfl ?_
      refine zV_gr (show decode cX12_search 31 = .ok (.getfield 160, 3) by decide +kernel) zfl_RX12_160 (by decide) rfl h (fun v8 _ h => ?_)
      refine zV_b (pc' := 40) (lv' := [(0, .inr (.inr l0)), (1, .inl l1), (2, .inl l2), (3, .inl l3), (4, .inr (.inl l4))]) (st' := [.inl (((13 : Int32) * l2) + l3), .inr (.inr v8), .inr (.inl l4)]) [(.bipush 13, 2), (.iload_n 2, 1), (.imul, 1), (.iload_n 3, 1), (.iadd, 1)] (show zdec cX12_search [(.bipush 13, 2), (.iload_n 2, 1), (.imul, 1), (.iload_n 3, 1), (.iadd, 1)] 34 = true by decide +kernel) rfl ?_
      refine zV_aj (show decode cX12_search 40 = .ok (.laload, 1) by decide +kernel) h (fun v9 _ h => ?_)
      refine zV_b (pc' := 45) (lv' := [(6, .inr (.inl (l4 + v9))), (0, .inr (.inr l0)), (1, .inl l1), (2, .inl l2), (3, .inl l3), (4, .inr (.inl l4))]) (st' := [.inr (.inr l0)]) [(.ladd, 1), (.lstore 6, 2), (.aload_n 0, 1)] (show zdec cX12_search [(.ladd, 1), (.lstore 6, 2), (.aload_n 0, 1)] 41 = true by decide +kernel) rfl ?_
      refine zV_gj (show decode cX12_search 45 = .ok (.getfield 386, 3) by decide +kernel) zfl_RX12_386 (by decide) rfl h (fun v10 _ h => ?_)
      refine zV_b (pc' := 49) (lv' := [(6, .inr (.inl (l4 + v9))), (0, .inr (.inr l0)), (1, .inl l1), (2, .inl l2), (3, .inl l3), (4, .inr (.inl l4))]) (st' := [.inr (.inl (0 : Int64)), .inr (.inl v10)]) [(.lconst 0, 1)] (show zdec cX12_search [(.lconst 0, 1)] 48 = true by decide +kernel) rfl ?_
      refine zV_lcmp_lt (off := 14) (tgt := 64) (show decode cX12_search 49 = .ok (.lcmp, 1) by decide +kernel) (show decode cX12_search 50 = .ok (.ifCond .lt 14, 3) by decide +kernel) (by decide) h (fun c11 h => ?_) (fun c11 h => ?_)
      · exact zV_lv (lv' := [(0, .inr (.inr l0)), (1, .inl l1), (6, .inr (.inl (l4 + v9)))]) [1, 2, 0] rfl (zt_X12_search_J64 hrec h hR)
      · refine zV_b (pc' := 56) (lv' := [(6, .inr (.inl (l4 + v9))), (0, .inr (.inr l0)), (1, .inl l1), (2, .inl l2), (3, .inl l3), (4, .inr (.inl l4))]) (st' := [.inr (.inr l0), .inr (.inl (l4 + v9))]) [(.lload 6, 2), (.aload_n 0, 1)] (show zdec cX12_search [(.lload 6, 2), (.aload_n 0, 1)] 53 = true by decide +kernel) rfl ?_
        refine zV_gj (show decode cX12_search 56 = .ok (.getfield 386, 3) by decide +kernel) zfl_RX12_386 (by decide) rfl h (fun v42 _ h => ?_)
        refine zV_lcmp_lt (off := 4) (tgt := 64) (show decode cX12_search 59 = .ok (.lcmp, 1) by decide +kernel) (show decode cX12_search 60 = .ok (.ifCond .lt 4, 3) by decide +kernel) (by decide) h (fun c43 h => ?_) (fun c43 h => ?_)
        · exact zV_lv (lv' := [(0, .inr (.inr l0)), (1, .inl l1), (6, .inr (.inl (l4 + v9)))]) [1, 2, 0] rfl (zt_X12_search_J64 hrec h hR)
        · exact zend_v h hR (show decode cX12_search 63 = .ok (.return_, 1) by decide +kernel)
    · exact zend_v h hR (show decode cX12_search 20 = .ok (.return_, 1) by decide +kernel)
  · refine zV_b (pc' := 197) (lv' := [(6, .inl (0 : Int32)), (0, .inr (.inr l0)), (1, .inl l1), (2, .inl l2), (3, .inl l3), (4, .inr (.inl l4))]) (st' := []) [(.iconst 0, 1), (.istore 6, 2)] (show zdec cX12_search [(.iconst 0, 1), (.istore 6, 2)] 194 = true by decide +kernel) rfl ?_
    obtain ⟨y56, e56, h⟩ := zb1_inv h
    refine zV_lv (lv' := [(0, .inr (.inr l0)), (1, .inl l1), (2, .inl l2), (3, .inl l3), (4, .inr (.inl l4)), (6, .inl (0 : Int32))]) [1, 2, 3, 4, 5, 0] rfl (zt_X12_search_L197 hrec e56 ?_)
    obtain ⟨M197_56, l6_56⟩ := y56
    show zV X (zC_X12_search (d + 1)) M197_56 255 [] []
    exact zend_v h hR (show decode cX12_search 255 = .ok (.return_, 1) by decide +kernel)
noncomputable def zf_X12_search : Nat → Zm → Option Nat → Int32 → Int32 → Int32 → Int64 → Option (Zm × Unit)
  | 0 => fun _ _ _ _ _ _ => none
  | d + 1 => zf_X12_searchbody (zf_X12_search d)
theorem zc_X12_search : ∀ {d : Nat} {M M' : Zm} {l0 : Option Nat} {l1 : Int32} {l2 : Int32} {l3 : Int32} {l4 : Int64} {x : Unit}, zf_X12_search d M l0 l1 l2 l3 l4 = some (M', x) → ∀ (l : Launch) (D : va_G) (cy : Nat → ClassId), zMet l yX12_search (zC_X12_search d) none D cy [.inr (.inr l0), .inl l1, .inl l2, .inl l3, .inr (.inl l4)] M M' none := by
  intro d
  induction d with
  | zero => intro M M' l0 l1 l2 l3 l4 x h; cases h
  | succ d ih =>
    intro M M' l0 l1 l2 l3 l4 x h l D cy
    exact zM_v (by decide) rfl (fun h => by cases h) (Nat.le_of_ble_eq_true rfl) (fun X hR => zt_X12_search (fun {_ _} {_} {_} {_} {_} {_} {_} e => ih e) h hR)
