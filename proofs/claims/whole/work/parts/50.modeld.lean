/-! What the bytecode does, as functions of the memory, and the walks (written by wip/gen.py). -/
-- BlendCellarModel.mixInto(I)Z
def zC_X12_mixInto : Zc := (cX12_mixInto, 3, RX12, 3, 75, false)
theorem zcl_X12_mixInto {C : Zc} (h1 : zC_X12_mixInto.2.2.2.1 + 1 ≤ C.2.2.2.1) (h2 : 8 + (zC_X12_mixInto.2.1 + 11) + zC_X12_mixInto.2.2.2.2.1 ≤ C.2.2.2.2.1) : zCl C yX12_mixInto zC_X12_mixInto (some .boolean) 1 := ⟨zw_1766, zw_114, ⟨by decide, by decide⟩, by decide +kernel, h1, h2⟩
noncomputable def zf_X12_mixInto_L7 (p0 : Option Nat) (p1 : Int32) (x : Zm × Int32) : Option ((Zm × Int32) ⊕ (Zm × Int32)) := match x with
  | (M, l2) =>
  zb1 (zo_gr M p0 13 8) (fun v2 =>
  zb1 (zo_ai M v2 p1) (fun v3 =>
  (if v3 ≤ l2 then
  some (.inr (M, l2))
  else
  zb1 (zo_gr M p0 13 9) (fun v5 =>
  zb1 (zo_ai M v5 (((60 : Int32) * p1) + l2)) (fun v6 =>
  zb1 (zo_gr M p0 13 10) (fun v7 =>
  zb1 (zo_aj M v7 (((60 : Int32) * p1) + l2)) (fun v8 =>
  zb1 (zo_rc M p0 13) (fun _ => zbd (zf_X12_mix M p0 v6 v8) (fun M9 _ =>
  some (.inl (M9, (l2 + 1))))))))))))
def zP_X12_mixInto_L7 (X : Zx) (p0 : Option Nat) (p1 : Int32) (x : Zm × Int32) : Prop := match x with
  | (M, l2) => zV X zC_X12_mixInto M 7 [(0, .inr (.inr p0)), (1, .inl p1), (2, .inl l2)] []
def zK_X12_mixInto_L7 (X : Zx) (p0 : Option Nat) (p1 : Int32) (y : Zm × Int32) : Prop := match y with
  | (M, l2) => zV X zC_X12_mixInto M 49 [(0, .inr (.inr p0))] []
noncomputable def zf_X12_mixInto (M : Zm) (l0 : Option Nat) (l1 : Int32) : Option (Zm × Int32) :=
  zb1 (zo_pi M l0 13 64 (0 : Int32)) (fun M1 =>
  zb1 (zwhile (zf_X12_mixInto_L7 l0 l1) (M1, (0 : Int32))) (fun y11 => match y11 with
  | (M7_11, l2_11) =>
  zb1 (zo_rc M7_11 l0 13) (fun _ => zbd (zf_X12_mixDraws M7_11 l0) (fun M12 _ =>
  zb1 (zo_gi M12 l0 13 64) (fun v13 =>
  (if (60 : Int32) < v13 then
  zb1 (zo_b (0 : Int32)) (fun w => some (M12, w))
  else
  zb1 (zo_b (1 : Int32)) (fun w => some (M12, w))))))))
set_option maxRecDepth 100000 in
theorem zt_X12_mixInto_L7 {X : Zx} {p0 : Option Nat} {p1 : Int32} {x : Zm × Int32} {y : Zm × Int32} (h : zwhile (zf_X12_mixInto_L7 p0 p1) x = some y) (hy : zK_X12_mixInto_L7 X p0 p1 y) : zP_X12_mixInto_L7 X p0 p1 x := by
  refine zwhile_ind (P := zP_X12_mixInto_L7 X p0 p1) (K := zK_X12_mixInto_L7 X p0 p1) ?_ h hy
  intro x z hf k1 k2
  obtain ⟨M, l2⟩ := x
  have h : zf_X12_mixInto_L7 p0 p1 (M, l2) = some z := hf
  unfold zf_X12_mixInto_L7 at h
  show zV X zC_X12_mixInto M 7 [(0, .inr (.inr p0)), (1, .inl p1), (2, .inl l2)] []
  refine zV_b (pc' := 9) (lv' := [(0, .inr (.inr p0)), (1, .inl p1), (2, .inl l2)]) (st' := [.inr (.inr p0), .inl l2]) [(.iload_n 2, 1), (.aload_n 0, 1)] (by decide +kernel) rfl ?_
  refine zV_gr (by decide +kernel) zfl_RX12_28 (by decide) rfl h (fun v2 _ h => ?_)
  refine zV_b (pc' := 13) (lv' := [(0, .inr (.inr p0)), (1, .inl p1), (2, .inl l2)]) (st' := [.inl p1, .inr (.inr v2), .inl l2]) [(.iload_n 1, 1)] (by decide +kernel) rfl ?_
  refine zV_ai (by decide +kernel) h (fun v3 _ h => ?_)
  refine zV_icmp_ge (off := 35) (tgt := 49) (by decide +kernel) (by decide) h (fun c4 h => ?_) (fun c4 h => ?_)
  · exact zV_lv (lv' := [(0, .inr (.inr p0))]) [0] rfl (k2 _ (Option.some.inj h).symm)
  · refine zV_b (pc' := 19) (lv' := [(0, .inr (.inr p0)), (1, .inl p1), (2, .inl l2)]) (st' := [.inr (.inr p0), .inr (.inr p0)]) [(.aload_n 0, 1), (.aload_n 0, 1)] (by decide +kernel) rfl ?_
    refine zV_gr (by decide +kernel) zfl_RX12_32 (by decide) rfl h (fun v5 _ h => ?_)
    refine zV_b (pc' := 28) (lv' := [(0, .inr (.inr p0)), (1, .inl p1), (2, .inl l2)]) (st' := [.inl (((60 : Int32) * p1) + l2), .inr (.inr v5), .inr (.inr p0)]) [(.bipush 60, 2), (.iload_n 1, 1), (.imul, 1), (.iload_n 2, 1), (.iadd, 1)] (by decide +kernel) rfl ?_
    refine zV_ai (by decide +kernel) h (fun v6 _ h => ?_)
    refine zV_b (pc' := 30) (lv' := [(0, .inr (.inr p0)), (1, .inl p1), (2, .inl l2)]) (st' := [.inr (.inr p0), .inl v6, .inr (.inr p0)]) [(.aload_n 0, 1)] (by decide +kernel) rfl ?_
    refine zV_gr (by decide +kernel) zfl_RX12_35 (by decide) rfl h (fun v7 _ h => ?_)
    refine zV_b (pc' := 39) (lv' := [(0, .inr (.inr p0)), (1, .inl p1), (2, .inl l2)]) (st' := [.inl (((60 : Int32) * p1) + l2), .inr (.inr v7), .inl v6, .inr (.inr p0)]) [(.bipush 60, 2), (.iload_n 1, 1), (.imul, 1), (.iload_n 2, 1), (.iadd, 1)] (by decide +kernel) rfl ?_
    refine zV_aj (by decide +kernel) h (fun v8 _ h => ?_)
    refine zV_cvv (As := [.inl v6, .inr (.inl v8)]) (st := []) (c := 13) (by decide +kernel) (zcl_X12_mix (by decide) (by decide)) ⟨zw_1767, zw_1769, zw_72⟩ ⟨⟨_, _, rfl⟩, by decide⟩ rfl rfl (Nat.le_of_ble_eq_true rfl) h (fun _ _ e => zc_X12_mix e) (fun M9 _ _ h => ?_)
    refine zV_b (pc' := 46) (lv' := [(2, .inl (l2 + 1)), (0, .inr (.inr p0)), (1, .inl p1)]) (st' := []) [(.iinc 2 1, 3)] (by decide +kernel) rfl ?_
    refine zV_goto (off := (-39)) (tgt := 7) (by decide +kernel) (by decide) ?_
    exact zV_lv (lv' := [(0, .inr (.inr p0)), (1, .inl p1), (2, .inl (l2 + 1))]) [1, 2, 0] rfl (k1 _ (Option.some.inj h).symm)
set_option maxRecDepth 100000 in
theorem zt_X12_mixInto {X : Zx} {M : Zm} {l0 : Option Nat} {l1 : Int32} {z : Zm × Int32} (h : zf_X12_mixInto M l0 l1 = some z) (hR : zRz X zC_X12_mixInto z.1 z.2) : zV X zC_X12_mixInto M 0 [(0, .inr (.inr l0)), (1, .inl l1)] [] := by
  unfold zf_X12_mixInto at h
  refine zV_b (pc' := 2) (lv' := [(0, .inr (.inr l0)), (1, .inl l1)]) (st' := [.inl (0 : Int32), .inr (.inr l0)]) [(.aload_n 0, 1), (.iconst 0, 1)] (by decide +kernel) rfl ?_
  refine zV_pi (by decide +kernel) zfp_RX12_254 (by decide) rfl h (fun M1 _ h => ?_)
  refine zV_b (pc' := 7) (lv' := [(2, .inl (0 : Int32)), (0, .inr (.inr l0)), (1, .inl l1)]) (st' := []) [(.iconst 0, 1), (.istore_n 2, 1)] (by decide +kernel) rfl ?_
  obtain ⟨y11, e11, h⟩ := zb1_inv h
  refine zV_lv (lv' := [(0, .inr (.inr l0)), (1, .inl l1), (2, .inl (0 : Int32))]) [1, 2, 0] rfl (zt_X12_mixInto_L7 e11 ?_)
  obtain ⟨M7_11, l2_11⟩ := y11
  show zV X zC_X12_mixInto M7_11 49 [(0, .inr (.inr l0))] []
  refine zV_b (pc' := 50) (lv' := [(0, .inr (.inr l0))]) (st' := [.inr (.inr l0)]) [(.aload_n 0, 1)] (by decide +kernel) rfl ?_
  refine zV_cvv (As := []) (st := []) (c := 13) (by decide +kernel) (zcl_X12_mixDraws (by decide) (by decide)) ⟨zw_1771, zw_1773, zw_73⟩ ⟨⟨_, _, rfl⟩, by decide⟩ rfl rfl (Nat.le_of_ble_eq_true rfl) h (fun _ _ e => zc_X12_mixDraws e) (fun M12 _ _ h => ?_)
  refine zV_b (pc' := 54) (lv' := [(0, .inr (.inr l0))]) (st' := [.inr (.inr l0)]) [(.aload_n 0, 1)] (by decide +kernel) rfl ?_
  refine zV_gi (by decide +kernel) zfl_RX12_254 (by decide) rfl (Or.inl rfl) h (fun v13 _ h => ?_)
  refine zV_b (pc' := 59) (lv' := [(0, .inr (.inr l0))]) (st' := [.inl (60 : Int32), .inl v13]) [(.bipush 60, 2)] (by decide +kernel) rfl ?_
  refine zV_icmp_gt (off := 7) (tgt := 66) (by decide +kernel) (by decide) h (fun c14 h => ?_) (fun c14 h => ?_)
  · refine zV_b (pc' := 67) (lv' := [(0, .inr (.inr l0))]) (st' := [.inl (0 : Int32)]) [(.iconst 0, 1)] (by decide +kernel) rfl ?_
    exact zend_z h hR (by decide +kernel)
  · refine zV_b (pc' := 63) (lv' := [(0, .inr (.inr l0))]) (st' := [.inl (1 : Int32)]) [(.iconst 1, 1)] (by decide +kernel) rfl ?_
    refine zV_goto (off := 4) (tgt := 67) (by decide +kernel) (by decide) ?_
    exact zend_z h hR (by decide +kernel)
theorem zc_X12_mixInto {M M' : Zm} {l0 : Option Nat} {l1 : Int32} {x : Int32} (h : zf_X12_mixInto M l0 l1 = some (M', x)) (l : Launch) (D : va_G) (cy : Nat → ClassId) : zMet l yX12_mixInto zC_X12_mixInto (some .boolean) D cy [.inr (.inr l0), .inl l1] M M' (some (.inl x)) :=
  zM_b (by decide) rfl (fun h => by cases h) (Nat.le_of_ble_eq_true rfl) (fun X hR => zt_X12_mixInto h hR)
-- BlendCellarModel.mostOfVessel(I)J
def zC_X12_mostOfVessel : Zc := (cX12_mostOfVessel, 4, RX12, 1, 21, false)
theorem zcl_X12_mostOfVessel {C : Zc} (h1 : zC_X12_mostOfVessel.2.2.2.1 + 1 ≤ C.2.2.2.1) (h2 : 8 + (zC_X12_mostOfVessel.2.1 + 11) + zC_X12_mostOfVessel.2.2.2.2.1 ≤ C.2.2.2.2.1) : zCl C yX12_mostOfVessel zC_X12_mostOfVessel (some .long) 1 := ⟨zw_1750, zw_114, ⟨by decide, by decide⟩, by decide +kernel, h1, h2⟩
noncomputable def zf_X12_mostOfVessel_J20 (M : Zm) (l0 : Option Nat) (l1 : Int32) : Option (Zm × Int64) :=
  zb1 (zo_rc M l0 13) (fun _ => zbd (zf_X12_ran M l0 (1 : Int32)) (fun M4 _ =>
  zb1 (zo_gr M4 l0 13 3) (fun v5 =>
  zb1 (zo_ai M4 v5 l1) (fun v6 =>
  some (M4, (v6.toInt64))))))
noncomputable def zf_X12_mostOfVessel_J48 (M : Zm) (l0 : Option Nat) (l1 : Int32) : Option (Zm × Int64) :=
  zb1 (zo_rc M l0 13) (fun _ => zbd (zf_X12_ran M l0 (2 : Int32)) (fun M15 _ =>
  zb1 (zo_gr M15 l0 13 3) (fun v16 =>
  zb1 (zo_ai M15 v16 l1) (fun v17 =>
  zb1 (zo_gr M15 l0 13 3) (fun v18 =>
  zb1 (zo_ai M15 v18 l1) (fun v19 =>
  zb1 (zo_id v19 (50 : Int32)) (fun v20 =>
  zb1 (zo_gr M15 l0 13 2) (fun v21 =>
  zb1 (zo_ai M15 v21 l1) (fun v22 =>
  (if v22 = (4 : Int32) then
  zbd (zf_X12_atLeast0 M15 ((((v17 - v20)).toInt64) - (10 : Int64))) (fun M25 v25 =>
  some (M25, v25))
  else
  some (M15, (((v17 - v20)).toInt64))))))))))))
noncomputable def zf_X12_mostOfVessel (M : Zm) (l0 : Option Nat) (l1 : Int32) : Option (Zm × Int64) :=
  zb1 (zo_gr M l0 13 2) (fun v1 =>
  zb1 (zo_ai M v1 l1) (fun v2 =>
  (if v2 = (1 : Int32) then
  zf_X12_mostOfVessel_J20 M l0 l1
  else
  zb1 (zo_gr M l0 13 2) (fun v8 =>
  zb1 (zo_ai M v8 l1) (fun v9 =>
  (if v9 = (2 : Int32) then
  zf_X12_mostOfVessel_J20 M l0 l1
  else
  zb1 (zo_gr M l0 13 2) (fun v11 =>
  zb1 (zo_ai M v11 l1) (fun v12 =>
  (if v12 = (4 : Int32) then
  zb1 (zo_rc M l0 13) (fun _ => zbd (zf_X12_ran M l0 (3 : Int32)) (fun M14 _ =>
  zf_X12_mostOfVessel_J48 M14 l0 l1))
  else
  zf_X12_mostOfVessel_J48 M l0 l1)))))))))
set_option maxRecDepth 100000 in
theorem zt_X12_mostOfVessel_J20 {X : Zx} {M : Zm} {l0 : Option Nat} {l1 : Int32} {z : Zm × Int64} (h : zf_X12_mostOfVessel_J20 M l0 l1 = some z) (hR : zRj X zC_X12_mostOfVessel z.1 z.2) : zV X zC_X12_mostOfVessel M 20 [(0, .inr (.inr l0)), (1, .inl l1)] [] := by
  unfold zf_X12_mostOfVessel_J20 at h
  refine zV_b (pc' := 22) (lv' := [(0, .inr (.inr l0)), (1, .inl l1)]) (st' := [.inl (1 : Int32), .inr (.inr l0)]) [(.aload_n 0, 1), (.iconst 1, 1)] (by decide +kernel) rfl ?_
  refine zV_cvv (As := [.inl (1 : Int32)]) (st := []) (c := 13) (by decide +kernel) (zcl_X12_ran (by decide) (by decide)) ⟨zw_1751, zw_1753, zw_69⟩ ⟨⟨_, _, rfl⟩, by decide⟩ rfl rfl (Nat.le_of_ble_eq_true rfl) h (fun _ _ e => zc_X12_ran e) (fun M4 _ _ h => ?_)
  refine zV_b (pc' := 26) (lv' := [(0, .inr (.inr l0)), (1, .inl l1)]) (st' := [.inr (.inr l0)]) [(.aload_n 0, 1)] (by decide +kernel) rfl ?_
  refine zV_gr (by decide +kernel) zfl_RX12_13 (by decide) rfl h (fun v5 _ h => ?_)
  refine zV_b (pc' := 30) (lv' := [(0, .inr (.inr l0)), (1, .inl l1)]) (st' := [.inl l1, .inr (.inr v5)]) [(.iload_n 1, 1)] (by decide +kernel) rfl ?_
  refine zV_ai (by decide +kernel) h (fun v6 _ h => ?_)
  refine zV_b (pc' := 32) (lv' := [(0, .inr (.inr l0)), (1, .inl l1)]) (st' := [.inr (.inl (v6.toInt64))]) [(.i2l, 1)] (by decide +kernel) rfl ?_
  exact zend_j h hR (by decide +kernel)
set_option maxRecDepth 100000 in
theorem zt_X12_mostOfVessel_J48 {X : Zx} {M : Zm} {l0 : Option Nat} {l1 : Int32} {z : Zm × Int64} (h : zf_X12_mostOfVessel_J48 M l0 l1 = some z) (hR : zRj X zC_X12_mostOfVessel z.1 z.2) : zV X zC_X12_mostOfVessel M 48 [(0, .inr (.inr l0)), (1, .inl l1)] [] := by
  unfold zf_X12_mostOfVessel_J48 at h
  refine zV_b (pc' := 50) (lv' := [(0, .inr (.inr l0)), (1, .inl l1)]) (st' := [.inl (2 : Int32), .inr (.inr l0)]) [(.aload_n 0, 1), (.iconst 2, 1)] (by decide +kernel) rfl ?_
  refine zV_cvv (As := [.inl (2 : Int32)]) (st := []) (c := 13) (by decide +kernel) (zcl_X12_ran (by decide) (by decide)) ⟨zw_1751, zw_1753, zw_69⟩ ⟨⟨_, _, rfl⟩, by decide⟩ rfl rfl (Nat.le_of_ble_eq_true rfl) h (fun _ _ e => zc_X12_ran e) (fun M15 _ _ h => ?_)
  refine zV_b (pc' := 54) (lv' := [(0, .inr (.inr l0)), (1, .inl l1)]) (st' := [.inr (.inr l0)]) [(.aload_n 0, 1)] (by decide +kernel) rfl ?_
  refine zV_gr (by decide +kernel) zfl_RX12_13 (by decide) rfl h (fun v16 _ h => ?_)
  refine zV_b (pc' := 58) (lv' := [(0, .inr (.inr l0)), (1, .inl l1)]) (st' := [.inl l1, .inr (.inr v16)]) [(.iload_n 1, 1)] (by decide +kernel) rfl ?_
  refine zV_ai (by decide +kernel) h (fun v17 _ h => ?_)
  refine zV_b (pc' := 60) (lv' := [(0, .inr (.inr l0)), (1, .inl l1)]) (st' := [.inr (.inr l0), .inl v17]) [(.aload_n 0, 1)] (by decide +kernel) rfl ?_
  refine zV_gr (by decide +kernel) zfl_RX12_13 (by decide) rfl h (fun v18 _ h => ?_)
  refine zV_b (pc' := 64) (lv' := [(0, .inr (.inr l0)), (1, .inl l1)]) (st' := [.inl l1, .inr (.inr v18), .inl v17]) [(.iload_n 1, 1)] (by decide +kernel) rfl ?_
  refine zV_ai (by decide +kernel) h (fun v19 _ h => ?_)
  refine zV_b (pc' := 67) (lv' := [(0, .inr (.inr l0)), (1, .inl l1)]) (st' := [.inl (50 : Int32), .inl v19, .inl v17]) [(.bipush 50, 2)] (by decide +kernel) rfl ?_
  refine zV_id (by decide +kernel) h (fun v20 _ h => ?_)
  refine zV_b (pc' := 72) (lv' := [(2, .inr (.inl (((v17 - v20)).toInt64))), (0, .inr (.inr l0)), (1, .inl l1)]) (st' := [.inr (.inr l0)]) [(.isub, 1), (.i2l, 1), (.lstore_n 2, 1), (.aload_n 0, 1)] (by decide +kernel) rfl ?_
  refine zV_gr (by decide +kernel) zfl_RX12_9 (by decide) rfl h (fun v21 _ h => ?_)
  refine zV_b (pc' := 76) (lv' := [(2, .inr (.inl (((v17 - v20)).toInt64))), (0, .inr (.inr l0)), (1, .inl l1)]) (st' := [.inl l1, .inr (.inr v21)]) [(.iload_n 1, 1)] (by decide +kernel) rfl ?_
  refine zV_ai (by decide +kernel) h (fun v22 _ h => ?_)
  refine zV_b (pc' := 78) (lv' := [(2, .inr (.inl (((v17 - v20)).toInt64))), (0, .inr (.inr l0)), (1, .inl l1)]) (st' := [.inl (4 : Int32), .inl v22]) [(.iconst 4, 1)] (by decide +kernel) rfl ?_
  refine zV_icmp_ne (off := 14) (tgt := 92) (by decide +kernel) (by decide) h (fun c23 h => ?_) (fun c23 h => ?_)
  · refine zV_b (pc' := 82) (lv' := [(2, .inr (.inl (((v17 - v20)).toInt64))), (0, .inr (.inr l0)), (1, .inl l1)]) (st' := [.inr (.inl (((v17 - v20)).toInt64))]) [(.lload_n 2, 1)] (by decide +kernel) rfl ?_
    refine zV_ldc2 (by decide +kernel) zw_1755 ?_
    refine zV_b (pc' := 86) (lv' := [(2, .inr (.inl (((v17 - v20)).toInt64))), (0, .inr (.inr l0)), (1, .inl l1)]) (st' := [.inr (.inl ((((v17 - v20)).toInt64) - (10 : Int64)))]) [(.lsub, 1)] (by decide +kernel) rfl ?_
    refine zV_csj (As := [.inr (.inl ((((v17 - v20)).toInt64) - (10 : Int64)))]) (st := []) (by decide +kernel) (zcl_X12_atLeast0 (by decide) (by decide)) ⟨zw_1756, zw_1757⟩ rfl rfl (Nat.le_of_ble_eq_true rfl) h (fun _ _ e => zc_X12_atLeast0 e) (fun M25 v25 _ h => ?_)
    refine zV_goto (off := 4) (tgt := 93) (by decide +kernel) (by decide) ?_
    exact zend_j h hR (by decide +kernel)
  · refine zV_b (pc' := 93) (lv' := [(2, .inr (.inl (((v17 - v20)).toInt64))), (0, .inr (.inr l0)), (1, .inl l1)]) (st' := [.inr (.inl (((v17 - v20)).toInt64))]) [(.lload_n 2, 1)] (by decide +kernel) rfl ?_
    exact zend_j h hR (by decide +kernel)
set_option maxRecDepth 100000 in
theorem zt_X12_mostOfVessel {X : Zx} {M : Zm} {l0 : Option Nat} {l1 : Int32} {z : Zm × Int64} (h : zf_X12_mostOfVessel M l0 l1 = some z) (hR : zRj X zC_X12_mostOfVessel z.1 z.2) : zV X zC_X12_mostOfVessel M 0 [(0, .inr (.inr l0)), (1, .inl l1)] [] := by
  unfold zf_X12_mostOfVessel at h
  refine zV_b (pc' := 1) (lv' := [(0, .inr (.inr l0)), (1, .inl l1)]) (st' := [.inr (.inr l0)]) [(.aload_n 0, 1)] (by decide +kernel) rfl ?_
  refine zV_gr (by decide +kernel) zfl_RX12_9 (by decide) rfl h (fun v1 _ h => ?_)
  refine zV_b (pc' := 5) (lv' := [(0, .inr (.inr l0)), (1, .inl l1)]) (st' := [.inl l1, .inr (.inr v1)]) [(.iload_n 1, 1)] (by decide +kernel) rfl ?_
  refine zV_ai (by decide +kernel) h (fun v2 _ h => ?_)
  refine zV_b (pc' := 7) (lv' := [(0, .inr (.inr l0)), (1, .inl l1)]) (st' := [.inl (1 : Int32), .inl v2]) [(.iconst 1, 1)] (by decide +kernel) rfl ?_
  refine zV_icmp_eq (off := 13) (tgt := 20) (by decide +kernel) (by decide) h (fun c3 h => ?_) (fun c3 h => ?_)
  · exact zV_lv (lv' := [(0, .inr (.inr l0)), (1, .inl l1)]) [0, 1] rfl (zt_X12_mostOfVessel_J20 h hR)
  · refine zV_b (pc' := 11) (lv' := [(0, .inr (.inr l0)), (1, .inl l1)]) (st' := [.inr (.inr l0)]) [(.aload_n 0, 1)] (by decide +kernel) rfl ?_
    refine zV_gr (by decide +kernel) zfl_RX12_9 (by decide) rfl h (fun v8 _ h => ?_)
    refine zV_b (pc' := 15) (lv' := [(0, .inr (.inr l0)), (1, .inl l1)]) (st' := [.inl l1, .inr (.inr v8)]) [(.iload_n 1, 1)] (by decide +kernel) rfl ?_
    refine zV_ai (by decide +kernel) h (fun v9 _ h => ?_)
    refine zV_b (pc' := 17) (lv' := [(0, .inr (.inr l0)), (1, .inl l1)]) (st' := [.inl (2 : Int32), .inl v9]) [(.iconst 2, 1)] (by decide +kernel) rfl ?_
    refine zV_icmp_ne (off := 16) (tgt := 33) (by decide +kernel) (by decide) h (fun c10 h => ?_) (fun c10 h => ?_)
    · exact zV_lv (lv' := [(0, .inr (.inr l0)), (1, .inl l1)]) [0, 1] rfl (zt_X12_mostOfVessel_J20 h hR)
    · refine zV_b (pc' := 34) (lv' := [(0, .inr (.inr l0)), (1, .inl l1)]) (st' := [.inr (.inr l0)]) [(.aload_n 0, 1)] (by decide +kernel) rfl ?_
      refine zV_gr (by decide +kernel) zfl_RX12_9 (by decide) rfl h (fun v11 _ h => ?_)
      refine zV_b (pc' := 38) (lv' := [(0, .inr (.inr l0)), (1, .inl l1)]) (st' := [.inl l1, .inr (.inr v11)]) [(.iload_n 1, 1)] (by decide +kernel) rfl ?_
      refine zV_ai (by decide +kernel) h (fun v12 _ h => ?_)
      refine zV_b (pc' := 40) (lv' := [(0, .inr (.inr l0)), (1, .inl l1)]) (st' := [.inl (4 : Int32), .inl v12]) [(.iconst 4, 1)] (by decide +kernel) rfl ?_
      refine zV_icmp_ne (off := 8) (tgt := 48) (by decide +kernel) (by decide) h (fun c13 h => ?_) (fun c13 h => ?_)
      · refine zV_b (pc' := 45) (lv' := [(0, .inr (.inr l0)), (1, .inl l1)]) (st' := [.inl (3 : Int32), .inr (.inr l0)]) [(.aload_n 0, 1), (.iconst 3, 1)] (by decide +kernel) rfl ?_
        refine zV_cvv (As := [.inl (3 : Int32)]) (st := []) (c := 13) (by decide +kernel) (zcl_X12_ran (by decide) (by decide)) ⟨zw_1751, zw_1753, zw_69⟩ ⟨⟨_, _, rfl⟩, by decide⟩ rfl rfl (Nat.le_of_ble_eq_true rfl) h (fun _ _ e => zc_X12_ran e) (fun M14 _ _ h => ?_)
        exact zV_lv (lv' := [(0, .inr (.inr l0)), (1, .inl l1)]) [0, 1] rfl (zt_X12_mostOfVessel_J48 h hR)
      · exact zV_lv (lv' := [(0, .inr (.inr l0)), (1, .inl l1)]) [0, 1] rfl (zt_X12_mostOfVessel_J48 h hR)
theorem zc_X12_mostOfVessel {M M' : Zm} {l0 : Option Nat} {l1 : Int32} {x : Int64} (h : zf_X12_mostOfVessel M l0 l1 = some (M', x)) (l : Launch) (D : va_G) (cy : Nat → ClassId) : zMet l yX12_mostOfVessel zC_X12_mostOfVessel (some .long) D cy [.inr (.inr l0), .inl l1] M M' (some (.inr (.inl x))) :=
  zM_j (by decide) rfl (fun h => by cases h) (Nat.le_of_ble_eq_true rfl) (fun X hR => zt_X12_mostOfVessel h hR)
-- BlendCellarModel.most(I)J
def zC_X12_most : Zc := (cX12_most, 5, RX12, 2, 44, false)
theorem zcl_X12_most {C : Zc} (h1 : zC_X12_most.2.2.2.1 + 1 ≤ C.2.2.2.1) (h2 : 8 + (zC_X12_most.2.1 + 11) + zC_X12_most.2.2.2.2.1 ≤ C.2.2.2.2.1) : zCl C yX12_most zC_X12_most (some .long) 1 := ⟨zw_1746, zw_114, ⟨by decide, by decide⟩, by decide +kernel, h1, h2⟩
noncomputable def zf_X12_most_L26 (p0 : Option Nat) (p1 : Int32) (x : Zm × Int64 × Int32) : Option ((Zm × Int64 × Int32) ⊕ (Zm × Int64 × Int32)) := match x with
  | (M, l2, l4) =>
  zb1 (zo_gr M p0 13 6) (fun v5 =>
  zb1 (zo_ai M v5 p1) (fun v6 =>
  (if v6 ≤ l4 then
  some (.inr (M, l2, l4))
  else
  zb1 (zo_gr M p0 13 7) (fun v8 =>
  zb1 (zo_ai M v8 (((4 : Int32) * p1) + l4)) (fun v9 =>
  zb1 (zo_rc M p0 13) (fun _ => zbd (zf_X12_mostOfVessel M p0 v9) (fun M10 v10 =>
  some (.inl (M10, (l2 + v10), (l4 + 1))))))))))
def zP_X12_most_L26 (X : Zx) (p0 : Option Nat) (p1 : Int32) (x : Zm × Int64 × Int32) : Prop := match x with
  | (M, l2, l4) => zV X zC_X12_most M 26 [(0, .inr (.inr p0)), (1, .inl p1), (2, .inr (.inl l2)), (4, .inl l4)] []
def zK_X12_most_L26 (X : Zx) (p0 : Option Nat) (p1 : Int32) (y : Zm × Int64 × Int32) : Prop := match y with
  | (M, l2, l4) => zV X zC_X12_most M 61 [(2, .inr (.inl l2))] []
noncomputable def zf_X12_most (M : Zm) (l0 : Option Nat) (l1 : Int32) : Option (Zm × Int64) :=
  zb1 (zo_gr M l0 13 2) (fun v1 =>
  zb1 (zo_ai M v1 l1) (fun v2 =>
  (if v2 = (5 : Int32) then
  zb1 (zo_rc M l0 13) (fun _ => zbd (zf_X12_ran M l0 (4 : Int32)) (fun M4 _ =>
  zb1 (zwhile (zf_X12_most_L26 l0 l1) (M4, (0 : Int64), (0 : Int32))) (fun y12 => match y12 with
  | (M26_12, l2_12, l4_12) =>
  some (M26_12, l2_12))))
  else
  zb1 (zo_rc M l0 13) (fun _ => zbd (zf_X12_mostOfVessel M l0 l1) (fun M14 v14 =>
  some (M14, v14))))))
set_option maxRecDepth 100000 in
theorem zt_X12_most_L26 {X : Zx} {p0 : Option Nat} {p1 : Int32} {x : Zm × Int64 × Int32} {y : Zm × Int64 × Int32} (h : zwhile (zf_X12_most_L26 p0 p1) x = some y) (hy : zK_X12_most_L26 X p0 p1 y) : zP_X12_most_L26 X p0 p1 x := by
  refine zwhile_ind (P := zP_X12_most_L26 X p0 p1) (K := zK_X12_most_L26 X p0 p1) ?_ h hy
  intro x z hf k1 k2
  obtain ⟨M, l2, l4⟩ := x
  have h : zf_X12_most_L26 p0 p1 (M, l2, l4) = some z := hf
  unfold zf_X12_most_L26 at h
  show zV X zC_X12_most M 26 [(0, .inr (.inr p0)), (1, .inl p1), (2, .inr (.inl l2)), (4, .inl l4)] []
  refine zV_b (pc' := 29) (lv' := [(0, .inr (.inr p0)), (1, .inl p1), (2, .inr (.inl l2)), (4, .inl l4)]) (st' := [.inr (.inr p0), .inl l4]) [(.iload 4, 2), (.aload_n 0, 1)] (by decide +kernel) rfl ?_
  refine zV_gr (by decide +kernel) zfl_RX12_22 (by decide) rfl h (fun v5 _ h => ?_)
  refine zV_b (pc' := 33) (lv' := [(0, .inr (.inr p0)), (1, .inl p1), (2, .inr (.inl l2)), (4, .inl l4)]) (st' := [.inl p1, .inr (.inr v5), .inl l4]) [(.iload_n 1, 1)] (by decide +kernel) rfl ?_
  refine zV_ai (by decide +kernel) h (fun v6 _ h => ?_)
  refine zV_icmp_ge (off := 27) (tgt := 61) (by decide +kernel) (by decide) h (fun c7 h => ?_) (fun c7 h => ?_)
  · exact zV_lv (lv' := [(2, .inr (.inl l2))]) [2] rfl (k2 _ (Option.some.inj h).symm)
  · refine zV_b (pc' := 40) (lv' := [(0, .inr (.inr p0)), (1, .inl p1), (2, .inr (.inl l2)), (4, .inl l4)]) (st' := [.inr (.inr p0), .inr (.inr p0), .inr (.inl l2)]) [(.lload_n 2, 1), (.aload_n 0, 1), (.aload_n 0, 1)] (by decide +kernel) rfl ?_
    refine zV_gr (by decide +kernel) zfl_RX12_25 (by decide) rfl h (fun v8 _ h => ?_)
    refine zV_b (pc' := 49) (lv' := [(0, .inr (.inr p0)), (1, .inl p1), (2, .inr (.inl l2)), (4, .inl l4)]) (st' := [.inl (((4 : Int32) * p1) + l4), .inr (.inr v8), .inr (.inr p0), .inr (.inl l2)]) [(.iconst 4, 1), (.iload_n 1, 1), (.imul, 1), (.iload 4, 2), (.iadd, 1)] (by decide +kernel) rfl ?_
    refine zV_ai (by decide +kernel) h (fun v9 _ h => ?_)
    refine zV_cvj (As := [.inl v9]) (st := [.inr (.inl l2)]) (c := 13) (by decide +kernel) (zcl_X12_mostOfVessel (by decide) (by decide)) ⟨zw_1747, zw_1749, zw_68⟩ ⟨⟨_, _, rfl⟩, by decide⟩ rfl rfl (Nat.le_of_ble_eq_true rfl) h (fun _ _ e => zc_X12_mostOfVessel e) (fun M10 v10 _ h => ?_)
    refine zV_b (pc' := 58) (lv' := [(4, .inl (l4 + 1)), (2, .inr (.inl (l2 + v10))), (0, .inr (.inr p0)), (1, .inl p1)]) (st' := []) [(.ladd, 1), (.lstore_n 2, 1), (.iinc 4 1, 3)] (by decide +kernel) rfl ?_
    refine zV_goto (off := (-32)) (tgt := 26) (by decide +kernel) (by decide) ?_
    exact zV_lv (lv' := [(0, .inr (.inr p0)), (1, .inl p1), (2, .inr (.inl (l2 + v10))), (4, .inl (l4 + 1))]) [2, 3, 1, 0] rfl (k1 _ (Option.some.inj h).symm)
set_option maxRecDepth 100000 in
theorem zt_X12_most {X : Zx} {M : Zm} {l0 : Option Nat} {l1 : Int32} {z : Zm × Int64} (h : zf_X12_most M l0 l1 = some z) (hR : zRj X zC_X12_most z.1 z.2) : zV X zC_X12_most M 0 [(0, .inr (.inr l0)), (1, .inl l1)] [] := by
  unfold zf_X12_most at h
  refine zV_b (pc' := 1) (lv' := [(0, .inr (.inr l0)), (1, .inl l1)]) (st' := [.inr (.inr l0)]) [(.aload_n 0, 1)] (by decide +kernel) rfl ?_
  refine zV_gr (by decide +kernel) zfl_RX12_9 (by decide) rfl h (fun v1 _ h => ?_)
  refine zV_b (pc' := 5) (lv' := [(0, .inr (.inr l0)), (1, .inl l1)]) (st' := [.inl l1, .inr (.inr v1)]) [(.iload_n 1, 1)] (by decide +kernel) rfl ?_
  refine zV_ai (by decide +kernel) h (fun v2 _ h => ?_)
  refine zV_b (pc' := 7) (lv' := [(0, .inr (.inr l0)), (1, .inl l1)]) (st' := [.inl (5 : Int32), .inl v2]) [(.iconst 5, 1)] (by decide +kernel) rfl ?_
  refine zV_icmp_eq (off := 9) (tgt := 16) (by decide +kernel) (by decide) h (fun c3 h => ?_) (fun c3 h => ?_)
  · refine zV_b (pc' := 18) (lv' := [(0, .inr (.inr l0)), (1, .inl l1)]) (st' := [.inl (4 : Int32), .inr (.inr l0)]) [(.aload_n 0, 1), (.iconst 4, 1)] (by decide +kernel) rfl ?_
    refine zV_cvv (As := [.inl (4 : Int32)]) (st := []) (c := 13) (by decide +kernel) (zcl_X12_ran (by decide) (by decide)) ⟨zw_1751, zw_1753, zw_69⟩ ⟨⟨_, _, rfl⟩, by decide⟩ rfl rfl (Nat.le_of_ble_eq_true rfl) h (fun _ _ e => zc_X12_ran e) (fun M4 _ _ h => ?_)
    refine zV_b (pc' := 26) (lv' := [(4, .inl (0 : Int32)), (2, .inr (.inl (0 : Int64))), (0, .inr (.inr l0)), (1, .inl l1)]) (st' := []) [(.lconst 0, 1), (.lstore_n 2, 1), (.iconst 0, 1), (.istore 4, 2)] (by decide +kernel) rfl ?_
    obtain ⟨y12, e12, h⟩ := zb1_inv h
    refine zV_lv (lv' := [(0, .inr (.inr l0)), (1, .inl l1), (2, .inr (.inl (0 : Int64))), (4, .inl (0 : Int32))]) [2, 3, 1, 0] rfl (zt_X12_most_L26 e12 ?_)
    obtain ⟨M26_12, l2_12, l4_12⟩ := y12
    show zV X zC_X12_most M26_12 61 [(2, .inr (.inl l2_12))] []
    refine zV_b (pc' := 62) (lv' := [(2, .inr (.inl l2_12))]) (st' := [.inr (.inl l2_12)]) [(.lload_n 2, 1)] (by decide +kernel) rfl ?_
    exact zend_j h hR (by decide +kernel)
  · refine zV_b (pc' := 12) (lv' := [(0, .inr (.inr l0)), (1, .inl l1)]) (st' := [.inl l1, .inr (.inr l0)]) [(.aload_n 0, 1), (.iload_n 1, 1)] (by decide +kernel) rfl ?_
    refine zV_cvj (As := [.inl l1]) (st := []) (c := 13) (by decide +kernel) (zcl_X12_mostOfVessel (by decide) (by decide)) ⟨zw_1747, zw_1749, zw_68⟩ ⟨⟨_, _, rfl⟩, by decide⟩ rfl rfl (Nat.le_of_ble_eq_true rfl) h (fun _ _ e => zc_X12_mostOfVessel e) (fun M14 v14 _ h => ?_)
    exact zend_j h hR (by decide +kernel)
theorem zc_X12_most {M M' : Zm} {l0 : Option Nat} {l1 : Int32} {x : Int64} (h : zf_X12_most M l0 l1 = some (M', x)) (l : Launch) (D : va_G) (cy : Nat → ClassId) : zMet l yX12_most zC_X12_most (some .long) D cy [.inr (.inr l0), .inl l1] M M' (some (.inr (.inl x))) :=
  zM_j (by decide) rfl (fun h => by cases h) (Nat.le_of_ble_eq_true rfl) (fun X hR => zt_X12_most h hR)
-- BlendCellarModel.spare(I)J
def zC_X12_spare : Zc := (cX12_spare, 5, RX12, 2, 50, false)
theorem zcl_X12_spare {C : Zc} (h1 : zC_X12_spare.2.2.2.1 + 1 ≤ C.2.2.2.1) (h2 : 8 + (zC_X12_spare.2.1 + 11) + zC_X12_spare.2.2.2.2.1 ≤ C.2.2.2.2.1) : zCl C yX12_spare zC_X12_spare (some .long) 1 := ⟨zw_1798, zw_114, ⟨by decide, by decide⟩, by decide +kernel, h1, h2⟩
noncomputable def zf_X12_spare_L28 (p0 : Option Nat) (p1 : Int32) (x : Zm × Int64 × Int32) : Option ((Zm × Int64 × Int32) ⊕ (Zm × Int64 × Int32)) := match x with
  | (M, l2, l4) =>
  zb1 (zo_gr M p0 13 6) (fun v5 =>
  zb1 (zo_ai M v5 p1) (fun v6 =>
  (if v6 ≤ l4 then
  some (.inr (M, l2, l4))
  else
  zb1 (zo_gr M p0 13 7) (fun v8 =>
  zb1 (zo_ai M v8 (((4 : Int32) * p1) + l4)) (fun v9 =>
  zb1 (zo_rc M p0 13) (fun _ => zbd (zf_X12_spareOfVessel M p0 v9 (1 : Int32)) (fun M10 v10 =>
  some (.inl (M10, (l2 + v10), (l4 + 1))))))))))
def zP_X12_spare_L28 (X : Zx) (p0 : Option Nat) (p1 : Int32) (x : Zm × Int64 × Int32) : Prop := match x with
  | (M, l2, l4) => zV X zC_X12_spare M 28 [(0, .inr (.inr p0)), (1, .inl p1), (2, .inr (.inl l2)), (4, .inl l4)] []
def zK_X12_spare_L28 (X : Zx) (p0 : Option Nat) (p1 : Int32) (y : Zm × Int64 × Int32) : Prop := match y with
  | (M, l2, l4) => zV X zC_X12_spare M 64 [(2, .inr (.inl l2))] []
noncomputable def zf_X12_spare (M : Zm) (l0 : Option Nat) (l1 : Int32) : Option (Zm × Int64) :=
  zb1 (zo_gr M l0 13 2) (fun v1 =>
  zb1 (zo_ai M v1 l1) (fun v2 =>
  (if v2 = (5 : Int32) then
  zb1 (zo_rc M l0 13) (fun _ => zbd (zf_X12_ran M l0 (8 : Int32)) (fun M4 _ =>
  zb1 (zwhile (zf_X12_spare_L28 l0 l1) (M4, (0 : Int64), (0 : Int32))) (fun y12 => match y12 with
  | (M28_12, l2_12, l4_12) =>
  some (M28_12, l2_12))))
  else
  zb1 (zo_rc M l0 13) (fun _ => zbd (zf_X12_spareOfVessel M l0 l1 (1 : Int32)) (fun M14 v14 =>
  some (M14, v14))))))
set_option maxRecDepth 100000 in
theorem zt_X12_spare_L28 {X : Zx} {p0 : Option Nat} {p1 : Int32} {x : Zm × Int64 × Int32} {y : Zm × Int64 × Int32} (h : zwhile (zf_X12_spare_L28 p0 p1) x = some y) (hy : zK_X12_spare_L28 X p0 p1 y) : zP_X12_spare_L28 X p0 p1 x := by
  refine zwhile_ind (P := zP_X12_spare_L28 X p0 p1) (K := zK_X12_spare_L28 X p0 p1) ?_ h hy
  intro x z hf k1 k2
  obtain ⟨M, l2, l4⟩ := x
  have h : zf_X12_spare_L28 p0 p1 (M, l2, l4) = some z := hf
  unfold zf_X12_spare_L28 at h
  show zV X zC_X12_spare M 28 [(0, .inr (.inr p0)), (1, .inl p1), (2, .inr (.inl l2)), (4, .inl l4)] []
  refine zV_b (pc' := 31) (lv' := [(0, .inr (.inr p0)), (1, .inl p1), (2, .inr (.inl l2)), (4, .inl l4)]) (st' := [.inr (.inr p0), .inl l4]) [(.iload 4, 2), (.aload_n 0, 1)] (by decide +kernel) rfl ?_
  refine zV_gr (by decide +kernel) zfl_RX12_22 (by decide) rfl h (fun v5 _ h => ?_)
  refine zV_b (pc' := 35) (lv' := [(0, .inr (.inr p0)), (1, .inl p1), (2, .inr (.inl l2)), (4, .inl l4)]) (st' := [.inl p1, .inr (.inr v5), .inl l4]) [(.iload_n 1, 1)] (by decide +kernel) rfl ?_
  refine zV_ai (by decide +kernel) h (fun v6 _ h => ?_)
  refine zV_icmp_ge (off := 28) (tgt := 64) (by decide +kernel) (by decide) h (fun c7 h => ?_) (fun c7 h => ?_)
  · exact zV_lv (lv' := [(2, .inr (.inl l2))]) [2] rfl (k2 _ (Option.some.inj h).symm)
  · refine zV_b (pc' := 42) (lv' := [(0, .inr (.inr p0)), (1, .inl p1), (2, .inr (.inl l2)), (4, .inl l4)]) (st' := [.inr (.inr p0), .inr (.inr p0), .inr (.inl l2)]) [(.lload_n 2, 1), (.aload_n 0, 1), (.aload_n 0, 1)] (by decide +kernel) rfl ?_
    refine zV_gr (by decide +kernel) zfl_RX12_25 (by decide) rfl h (fun v8 _ h => ?_)
    refine zV_b (pc' := 51) (lv' := [(0, .inr (.inr p0)), (1, .inl p1), (2, .inr (.inl l2)), (4, .inl l4)]) (st' := [.inl (((4 : Int32) * p1) + l4), .inr (.inr v8), .inr (.inr p0), .inr (.inl l2)]) [(.iconst 4, 1), (.iload_n 1, 1), (.imul, 1), (.iload 4, 2), (.iadd, 1)] (by decide +kernel) rfl ?_
    refine zV_ai (by decide +kernel) h (fun v9 _ h => ?_)
    refine zV_b (pc' := 53) (lv' := [(0, .inr (.inr p0)), (1, .inl p1), (2, .inr (.inl l2)), (4, .inl l4)]) (st' := [.inl (1 : Int32), .inl v9, .inr (.inr p0), .inr (.inl l2)]) [(.iconst 1, 1)] (by decide +kernel) rfl ?_
    refine zV_cvj (As := [.inl v9, .inl (1 : Int32)]) (st := [.inr (.inl l2)]) (c := 13) (by decide +kernel) (zcl_X12_spareOfVessel (by decide) (by decide)) ⟨zw_1799, zw_1801, zw_79⟩ ⟨⟨_, _, rfl⟩, by decide⟩ rfl rfl (Nat.le_of_ble_eq_true rfl) h (fun _ _ e => zc_X12_spareOfVessel e) (fun M10 v10 _ h => ?_)
    refine zV_b (pc' := 61) (lv' := [(4, .inl (l4 + 1)), (2, .inr (.inl (l2 + v10))), (0, .inr (.inr p0)), (1, .inl p1)]) (st' := []) [(.ladd, 1), (.lstore_n 2, 1), (.iinc 4 1, 3)] (by decide +kernel) rfl ?_
    refine zV_goto (off := (-33)) (tgt := 28) (by decide +kernel) (by decide) ?_
    exact zV_lv (lv' := [(0, .inr (.inr p0)), (1, .inl p1), (2, .inr (.inl (l2 + v10))), (4, .inl (l4 + 1))]) [2, 3, 1, 0] rfl (k1 _ (Option.some.inj h).symm)
set_option maxRecDepth 100000 in
theorem zt_X12_spare {X : Zx} {M : Zm} {l0 : Option Nat} {l1 : Int32} {z : Zm × Int64} (h : zf_X12_spare M l0 l1 = some z) (hR : zRj X zC_X12_spare z.1 z.2) : zV X zC_X12_spare M 0 [(0, .inr (.inr l0)), (1, .inl l1)] [] := by
  unfold zf_X12_spare at h
  refine zV_b (pc' := 1) (lv' := [(0, .inr (.inr l0)), (1, .inl l1)]) (st' := [.inr (.inr l0)]) [(.aload_n 0, 1)] (by decide +kernel) rfl ?_
  refine zV_gr (by decide +kernel) zfl_RX12_9 (by decide) rfl h (fun v1 _ h => ?_)
  refine zV_b (pc' := 5) (lv' := [(0, .inr (.inr l0)), (1, .inl l1)]) (st' := [.inl l1, .inr (.inr v1)]) [(.iload_n 1, 1)] (by decide +kernel) rfl ?_
  refine zV_ai (by decide +kernel) h (fun v2 _ h => ?_)
  refine zV_b (pc' := 7) (lv' := [(0, .inr (.inr l0)), (1, .inl l1)]) (st' := [.inl (5 : Int32), .inl v2]) [(.iconst 5, 1)] (by decide +kernel) rfl ?_
  refine zV_icmp_eq (off := 10) (tgt := 17) (by decide +kernel) (by decide) h (fun c3 h => ?_) (fun c3 h => ?_)
  · refine zV_b (pc' := 20) (lv' := [(0, .inr (.inr l0)), (1, .inl l1)]) (st' := [.inl (8 : Int32), .inr (.inr l0)]) [(.aload_n 0, 1), (.bipush 8, 2)] (by decide +kernel) rfl ?_
    refine zV_cvv (As := [.inl (8 : Int32)]) (st := []) (c := 13) (by decide +kernel) (zcl_X12_ran (by decide) (by decide)) ⟨zw_1751, zw_1753, zw_69⟩ ⟨⟨_, _, rfl⟩, by decide⟩ rfl rfl (Nat.le_of_ble_eq_true rfl) h (fun _ _ e => zc_X12_ran e) (fun M4 _ _ h => ?_)
    refine zV_b (pc' := 28) (lv' := [(4, .inl (0 : Int32)), (2, .inr (.inl (0 : Int64))), (0, .inr (.inr l0)), (1, .inl l1)]) (st' := []) [(.lconst 0, 1), (.lstore_n 2, 1), (.iconst 0, 1), (.istore 4, 2)] (by decide +kernel) rfl ?_
    obtain ⟨y12, e12, h⟩ := zb1_inv h
    refine zV_lv (lv' := [(0, .inr (.inr l0)), (1, .inl l1), (2, .inr (.inl (0 : Int64))), (4, .inl (0 : Int32))]) [2, 3, 1, 0] rfl (zt_X12_spare_L28 e12 ?_)
    obtain ⟨M28_12, l2_12, l4_12⟩ := y12
    show zV X zC_X12_spare M28_12 64 [(2, .inr (.inl l2_12))] []
    refine zV_b (pc' := 65) (lv' := [(2, .inr (.inl l2_12))]) (st' := [.inr (.inl l2_12)]) [(.lload_n 2, 1)] (by decide +kernel) rfl ?_
    exact zend_j h hR (by decide +kernel)
  · refine zV_b (pc' := 13) (lv' := [(0, .inr (.inr l0)), (1, .inl l1)]) (st' := [.inl (1 : Int32), .inl l1, .inr (.inr l0)]) [(.aload_n 0, 1), (.iload_n 1, 1), (.iconst 1, 1)] (by decide +kernel) rfl ?_
    refine zV_cvj (As := [.inl l1, .inl (1 : Int32)]) (st := []) (c := 13) (by decide +kernel) (zcl_X12_spareOfVessel (by decide) (by decide)) ⟨zw_1799, zw_1801, zw_79⟩ ⟨⟨_, _, rfl⟩, by decide⟩ rfl rfl (Nat.le_of_ble_eq_true rfl) h (fun _ _ e => zc_X12_spareOfVessel e) (fun M14 v14 _ h => ?_)
    exact zend_j h hR (by decide +kernel)
theorem zc_X12_spare {M M' : Zm} {l0 : Option Nat} {l1 : Int32} {x : Int64} (h : zf_X12_spare M l0 l1 = some (M', x)) (l : Launch) (D : va_G) (cy : Nat → ClassId) : zMet l yX12_spare zC_X12_spare (some .long) D cy [.inr (.inr l0), .inl l1] M M' (some (.inr (.inl x))) :=
  zM_j (by decide) rfl (fun h => by cases h) (Nat.le_of_ble_eq_true rfl) (fun X hR => zt_X12_spare h hR)
-- BlendCellarModel.take(IJI)V
def zC_X12_take : Zc := (cX12_take, 10, RX12, 2, 52, false)
theorem zcl_X12_take {C : Zc} (h1 : zC_X12_take.2.2.2.1 + 1 ≤ C.2.2.2.1) (h2 : 8 + (zC_X12_take.2.1 + 11) + zC_X12_take.2.2.2.2.1 ≤ C.2.2.2.2.1) : zCl C yX12_take zC_X12_take none 3 := ⟨zw_1818, zw_114, ⟨by decide, by decide⟩, by decide +kernel, h1, h2⟩
noncomputable def zf_X12_take_J121 (M : Zm) (p0 : Option Nat) (p1 : Int32) (p4 : Int32) (l5 : Int32) (p6 : Int32) (l7 : Int32) : Option ((Zm × Int32 × Int32) ⊕ (Zm × Int32 × Int32)) :=
  some (.inl (M, l5, (l7 + 1)))
noncomputable def zf_X12_take_J70 (M : Zm) (p0 : Option Nat) (p1 : Int32) (p4 : Int32) (l5 : Int32) (p6 : Int32) (l7 : Int32) (l8 : Int32) (l9 : Int32) : Option ((Zm × Int32 × Int32) ⊕ (Zm × Int32 × Int32)) :=
  zb1 (zo_gr M p0 13 9) (fun v6 =>
  zb1 (zo_gr M p0 13 9) (fun v7 =>
  zb1 (zo_ai M v7 l8) (fun v8 =>
  zb1 (zo_si M v6 l9 v8) (fun M9 =>
  zb1 (zo_gr M9 p0 13 10) (fun v10 =>
  zb1 (zo_gr M9 p0 13 10) (fun v11 =>
  zb1 (zo_aj M9 v11 l8) (fun v12 =>
  zb1 (zo_gr M9 p0 13 63) (fun v13 =>
  zb1 (zo_aj M9 v13 l7) (fun v14 =>
  zb1 (zo_sj M9 v10 l9 (v12 - v14)) (fun M15 =>
  zb1 (zo_gr M15 p0 13 10) (fun v16 =>
  zb1 (zo_aj M15 v16 l9) (fun v17 =>
  (if v17 ≤ (0 : Int64) then
  zf_X12_take_J121 M15 p0 p1 p4 l5 p6 l7
  else
  zf_X12_take_J121 M15 p0 p1 p4 (l5 + 1) p6 l7)))))))))))))
noncomputable def zf_X12_take_L20 (p0 : Option Nat) (p1 : Int32) (p4 : Int32) (p6 : Int32) (x : Zm × Int32 × Int32) : Option ((Zm × Int32 × Int32) ⊕ (Zm × Int32 × Int32)) := match x with
  | (M, l5, l7) =>
  (if p6 ≤ l7 then
  some (.inr (M, l5, l7))
  else
  (if p4 < 0 then
  zf_X12_take_J70 M p0 p1 p4 l5 p6 l7 (((60 : Int32) * p1) + l7) (((60 : Int32) * p1) + l5)
  else
  zb1 (zo_gr M p0 13 9) (fun v20 =>
  zb1 (zo_ai M v20 (((60 : Int32) * p1) + l7)) (fun v21 =>
  zb1 (zo_gr M p0 13 63) (fun v22 =>
  zb1 (zo_aj M v22 l7) (fun v23 =>
  zb1 (zo_rc M p0 13) (fun _ => zbd (zf_X12_account M p0 v21 p4 v23) (fun M24 _ =>
  zf_X12_take_J70 M24 p0 p1 p4 l5 p6 l7 (((60 : Int32) * p1) + l7) (((60 : Int32) * p1) + l5)))))))))
def zP_X12_take_L20 (X : Zx) (p0 : Option Nat) (p1 : Int32) (p4 : Int32) (p6 : Int32) (x : Zm × Int32 × Int32) : Prop := match x with
  | (M, l5, l7) => zV X zC_X12_take M 20 [(0, .inr (.inr p0)), (1, .inl p1), (4, .inl p4), (5, .inl l5), (6, .inl p6), (7, .inl l7)] []
def zK_X12_take_L20 (X : Zx) (p0 : Option Nat) (p1 : Int32) (p4 : Int32) (p6 : Int32) (y : Zm × Int32 × Int32) : Prop := match y with
  | (M, l5, l7) => zV X zC_X12_take M 127 [(0, .inr (.inr p0)), (1, .inl p1), (5, .inl l5)] []
noncomputable def zf_X12_take (M : Zm) (l0 : Option Nat) (l1 : Int32) (l2 : Int64) (l4 : Int32) : Option (Zm × Unit) :=
  zb1 (zo_rc M l0 13) (fun _ => zbd (zf_X12_shares M l0 l1 l2) (fun M1 _ =>
  zb1 (zo_gr M1 l0 13 8) (fun v2 =>
  zb1 (zo_ai M1 v2 l1) (fun v3 =>
  zb1 (zwhile (zf_X12_take_L20 l0 l1 l4 v3) (M1, (0 : Int32), (0 : Int32))) (fun y25 => match y25 with
  | (M20_25, l5_25, l7_25) =>
  zb1 (zo_gr M20_25 l0 13 8) (fun v26 =>
  zb1 (zo_si M20_25 v26 l1 l5_25) (fun M27 =>
  some (M27, ()))))))))
set_option maxRecDepth 100000 in
theorem zt_X12_take_J121 {X : Zx} {M : Zm} {p0 : Option Nat} {p1 : Int32} {p4 : Int32} {l5 : Int32} {p6 : Int32} {l7 : Int32} {z : (Zm × Int32 × Int32) ⊕ (Zm × Int32 × Int32)} (h : zf_X12_take_J121 M p0 p1 p4 l5 p6 l7 = some z) (k1 : ∀ x' : Zm × Int32 × Int32, z = .inl x' → zP_X12_take_L20 X p0 p1 p4 p6 x') (k2 : ∀ y : Zm × Int32 × Int32, z = .inr y → zK_X12_take_L20 X p0 p1 p4 p6 y) : zV X zC_X12_take M 121 [(0, .inr (.inr p0)), (1, .inl p1), (4, .inl p4), (5, .inl l5), (6, .inl p6), (7, .inl l7)] [] := by
  unfold zf_X12_take_J121 at h
  refine zV_b (pc' := 124) (lv' := [(7, .inl (l7 + 1)), (0, .inr (.inr p0)), (1, .inl p1), (4, .inl p4), (5, .inl l5), (6, .inl p6)]) (st' := []) [(.iinc 7 1, 3)] (by decide +kernel) rfl ?_
  refine zV_goto (off := (-104)) (tgt := 20) (by decide +kernel) (by decide) ?_
  exact zV_lv (lv' := [(0, .inr (.inr p0)), (1, .inl p1), (4, .inl p4), (5, .inl l5), (6, .inl p6), (7, .inl (l7 + 1))]) [1, 2, 3, 4, 5, 0] rfl (k1 _ (Option.some.inj h).symm)
set_option maxRecDepth 100000 in
theorem zt_X12_take_J70 {X : Zx} {M : Zm} {p0 : Option Nat} {p1 : Int32} {p4 : Int32} {l5 : Int32} {p6 : Int32} {l7 : Int32} {l8 : Int32} {l9 : Int32} {z : (Zm × Int32 × Int32) ⊕ (Zm × Int32 × Int32)} (h : zf_X12_take_J70 M p0 p1 p4 l5 p6 l7 l8 l9 = some z) (k1 : ∀ x' : Zm × Int32 × Int32, z = .inl x' → zP_X12_take_L20 X p0 p1 p4 p6 x') (k2 : ∀ y : Zm × Int32 × Int32, z = .inr y → zK_X12_take_L20 X p0 p1 p4 p6 y) : zV X zC_X12_take M 70 [(0, .inr (.inr p0)), (1, .inl p1), (4, .inl p4), (5, .inl l5), (6, .inl p6), (7, .inl l7), (8, .inl l8), (9, .inl l9)] [] := by
  unfold zf_X12_take_J70 at h
  refine zV_b (pc' := 71) (lv' := [(0, .inr (.inr p0)), (1, .inl p1), (4, .inl p4), (5, .inl l5), (6, .inl p6), (7, .inl l7), (8, .inl l8), (9, .inl l9)]) (st' := [.inr (.inr p0)]) [(.aload_n 0, 1)] (by decide +kernel) rfl ?_
  refine zV_gr (by decide +kernel) zfl_RX12_32 (by decide) rfl h (fun v6 _ h => ?_)
  refine zV_b (pc' := 77) (lv' := [(0, .inr (.inr p0)), (1, .inl p1), (4, .inl p4), (5, .inl l5), (6, .inl p6), (7, .inl l7), (8, .inl l8), (9, .inl l9)]) (st' := [.inr (.inr p0), .inl l9, .inr (.inr v6)]) [(.iload 9, 2), (.aload_n 0, 1)] (by decide +kernel) rfl ?_
  refine zV_gr (by decide +kernel) zfl_RX12_32 (by decide) rfl h (fun v7 _ h => ?_)
  refine zV_b (pc' := 82) (lv' := [(0, .inr (.inr p0)), (1, .inl p1), (4, .inl p4), (5, .inl l5), (6, .inl p6), (7, .inl l7), (8, .inl l8), (9, .inl l9)]) (st' := [.inl l8, .inr (.inr v7), .inl l9, .inr (.inr v6)]) [(.iload 8, 2)] (by decide +kernel) rfl ?_
  refine zV_ai (by decide +kernel) h (fun v8 _ h => ?_)
  refine zV_si (by decide +kernel) h (fun M9 _ h => ?_)
  refine zV_b (pc' := 85) (lv' := [(0, .inr (.inr p0)), (1, .inl p1), (4, .inl p4), (5, .inl l5), (6, .inl p6), (7, .inl l7), (8, .inl l8), (9, .inl l9)]) (st' := [.inr (.inr p0)]) [(.aload_n 0, 1)] (by decide +kernel) rfl ?_
  refine zV_gr (by decide +kernel) zfl_RX12_35 (by decide) rfl h (fun v10 _ h => ?_)
  refine zV_b (pc' := 91) (lv' := [(0, .inr (.inr p0)), (1, .inl p1), (4, .inl p4), (5, .inl l5), (6, .inl p6), (7, .inl l7), (8, .inl l8), (9, .inl l9)]) (st' := [.inr (.inr p0), .inl l9, .inr (.inr v10)]) [(.iload 9, 2), (.aload_n 0, 1)] (by decide +kernel) rfl ?_
  refine zV_gr (by decide +kernel) zfl_RX12_35 (by decide) rfl h (fun v11 _ h => ?_)
  refine zV_b (pc' := 96) (lv' := [(0, .inr (.inr p0)), (1, .inl p1), (4, .inl p4), (5, .inl l5), (6, .inl p6), (7, .inl l7), (8, .inl l8), (9, .inl l9)]) (st' := [.inl l8, .inr (.inr v11), .inl l9, .inr (.inr v10)]) [(.iload 8, 2)] (by decide +kernel) rfl ?_
  refine zV_aj (by decide +kernel) h (fun v12 _ h => ?_)
  refine zV_b (pc' := 98) (lv' := [(0, .inr (.inr p0)), (1, .inl p1), (4, .inl p4), (5, .inl l5), (6, .inl p6), (7, .inl l7), (8, .inl l8), (9, .inl l9)]) (st' := [.inr (.inr p0), .inr (.inl v12), .inl l9, .inr (.inr v10)]) [(.aload_n 0, 1)] (by decide +kernel) rfl ?_
  refine zV_gr (by decide +kernel) zfl_RX12_145 (by decide) rfl h (fun v13 _ h => ?_)
  refine zV_b (pc' := 103) (lv' := [(0, .inr (.inr p0)), (1, .inl p1), (4, .inl p4), (5, .inl l5), (6, .inl p6), (7, .inl l7), (8, .inl l8), (9, .inl l9)]) (st' := [.inl l7, .inr (.inr v13), .inr (.inl v12), .inl l9, .inr (.inr v10)]) [(.iload 7, 2)] (by decide +kernel) rfl ?_
  refine zV_aj (by decide +kernel) h (fun v14 _ h => ?_)
  refine zV_b (pc' := 105) (lv' := [(0, .inr (.inr p0)), (1, .inl p1), (4, .inl p4), (5, .inl l5), (6, .inl p6), (7, .inl l7), (8, .inl l8), (9, .inl l9)]) (st' := [.inr (.inl (v12 - v14)), .inl l9, .inr (.inr v10)]) [(.lsub, 1)] (by decide +kernel) rfl ?_
  refine zV_sj (by decide +kernel) h (fun M15 _ h => ?_)
  refine zV_b (pc' := 107) (lv' := [(0, .inr (.inr p0)), (1, .inl p1), (4, .inl p4), (5, .inl l5), (6, .inl p6), (7, .inl l7), (8, .inl l8), (9, .inl l9)]) (st' := [.inr (.inr p0)]) [(.aload_n 0, 1)] (by decide +kernel) rfl ?_
  refine zV_gr (by decide +kernel) zfl_RX12_35 (by decide) rfl h (fun v16 _ h => ?_)
  refine zV_b (pc' := 112) (lv' := [(0, .inr (.inr p0)), (1, .inl p1), (4, .inl p4), (5, .inl l5), (6, .inl p6), (7, .inl l7), (8, .inl l8), (9, .inl l9)]) (st' := [.inl l9, .inr (.inr v16)]) [(.iload 9, 2)] (by decide +kernel) rfl ?_
  refine zV_aj (by decide +kernel) h (fun v17 _ h => ?_)
  refine zV_b (pc' := 114) (lv' := [(0, .inr (.inr p0)), (1, .inl p1), (4, .inl p4), (5, .inl l5), (6, .inl p6), (7, .inl l7), (8, .inl l8), (9, .inl l9)]) (st' := [.inr (.inl (0 : Int64)), .inr (.inl v17)]) [(.lconst 0, 1)] (by decide +kernel) rfl ?_
  refine zV_lcmp_le (off := 6) (tgt := 121) (by decide +kernel) (by decide +kernel) (by decide) h (fun c18 h => ?_) (fun c18 h => ?_)
  · exact zV_lv (lv' := [(0, .inr (.inr p0)), (1, .inl p1), (4, .inl p4), (5, .inl l5), (6, .inl p6), (7, .inl l7)]) [0, 1, 2, 3, 4, 5] rfl (zt_X12_take_J121 h k1 k2)
  · refine zV_b (pc' := 121) (lv' := [(5, .inl (l5 + 1)), (0, .inr (.inr p0)), (1, .inl p1), (4, .inl p4), (6, .inl p6), (7, .inl l7), (8, .inl l8), (9, .inl l9)]) (st' := []) [(.iinc 5 1, 3)] (by decide +kernel) rfl ?_
    exact zV_lv (lv' := [(0, .inr (.inr p0)), (1, .inl p1), (4, .inl p4), (5, .inl (l5 + 1)), (6, .inl p6), (7, .inl l7)]) [1, 2, 3, 0, 4, 5] rfl (zt_X12_take_J121 h k1 k2)
set_option maxRecDepth 100000 in
theorem zt_X12_take_L20 {X : Zx} {p0 : Option Nat} {p1 : Int32} {p4 : Int32} {p6 : Int32} {x : Zm × Int32 × Int32} {y : Zm × Int32 × Int32} (h : zwhile (zf_X12_take_L20 p0 p1 p4 p6) x = some y) (hy : zK_X12_take_L20 X p0 p1 p4 p6 y) : zP_X12_take_L20 X p0 p1 p4 p6 x := by
  refine zwhile_ind (P := zP_X12_take_L20 X p0 p1 p4 p6) (K := zK_X12_take_L20 X p0 p1 p4 p6) ?_ h hy
  intro x z hf k1 k2
  obtain ⟨M, l5, l7⟩ := x
  have h : zf_X12_take_L20 p0 p1 p4 p6 (M, l5, l7) = some z := hf
  unfold zf_X12_take_L20 at h
  show zV X zC_X12_take M 20 [(0, .inr (.inr p0)), (1, .inl p1), (4, .inl p4), (5, .inl l5), (6, .inl p6), (7, .inl l7)] []
  refine zV_b (pc' := 24) (lv' := [(0, .inr (.inr p0)), (1, .inl p1), (4, .inl p4), (5, .inl l5), (6, .inl p6), (7, .inl l7)]) (st' := [.inl p6, .inl l7]) [(.iload 7, 2), (.iload 6, 2)] (by decide +kernel) rfl ?_
  refine zV_icmp_ge (off := 103) (tgt := 127) (by decide +kernel) (by decide) h (fun c4 h => ?_) (fun c4 h => ?_)
  · exact zV_lv (lv' := [(0, .inr (.inr p0)), (1, .inl p1), (5, .inl l5)]) [0, 1, 3] rfl (k2 _ (Option.some.inj h).symm)
  · refine zV_b (pc' := 47) (lv' := [(9, .inl (((60 : Int32) * p1) + l5)), (8, .inl (((60 : Int32) * p1) + l7)), (0, .inr (.inr p0)), (1, .inl p1), (4, .inl p4), (5, .inl l5), (6, .inl p6), (7, .inl l7)]) (st' := [.inl p4]) [(.bipush 60, 2), (.iload_n 1, 1), (.imul, 1), (.iload 7, 2), (.iadd, 1), (.istore 8, 2), (.bipush 60, 2), (.iload_n 1, 1), (.imul, 1), (.iload 5, 2), (.iadd, 1), (.istore 9, 2), (.iload 4, 2)] (by decide +kernel) rfl ?_
    refine zV_if_lt (off := 23) (tgt := 70) (by decide +kernel) (by decide) h (fun c5 h => ?_) (fun c5 h => ?_)
    · exact zV_lv (lv' := [(0, .inr (.inr p0)), (1, .inl p1), (4, .inl p4), (5, .inl l5), (6, .inl p6), (7, .inl l7), (8, .inl (((60 : Int32) * p1) + l7)), (9, .inl (((60 : Int32) * p1) + l5))]) [2, 3, 4, 5, 6, 7, 1, 0] rfl (zt_X12_take_J70 h k1 k2)
    · refine zV_b (pc' := 52) (lv' := [(9, .inl (((60 : Int32) * p1) + l5)), (8, .inl (((60 : Int32) * p1) + l7)), (0, .inr (.inr p0)), (1, .inl p1), (4, .inl p4), (5, .inl l5), (6, .inl p6), (7, .inl l7)]) (st' := [.inr (.inr p0), .inr (.inr p0)]) [(.aload_n 0, 1), (.aload_n 0, 1)] (by decide +kernel) rfl ?_
      refine zV_gr (by decide +kernel) zfl_RX12_32 (by decide) rfl h (fun v20 _ h => ?_)
      refine zV_b (pc' := 57) (lv' := [(9, .inl (((60 : Int32) * p1) + l5)), (8, .inl (((60 : Int32) * p1) + l7)), (0, .inr (.inr p0)), (1, .inl p1), (4, .inl p4), (5, .inl l5), (6, .inl p6), (7, .inl l7)]) (st' := [.inl (((60 : Int32) * p1) + l7), .inr (.inr v20), .inr (.inr p0)]) [(.iload 8, 2)] (by decide +kernel) rfl ?_
      refine zV_ai (by decide +kernel) h (fun v21 _ h => ?_)
      refine zV_b (pc' := 61) (lv' := [(9, .inl (((60 : Int32) * p1) + l5)), (8, .inl (((60 : Int32) * p1) + l7)), (0, .inr (.inr p0)), (1, .inl p1), (4, .inl p4), (5, .inl l5), (6, .inl p6), (7, .inl l7)]) (st' := [.inr (.inr p0), .inl p4, .inl v21, .inr (.inr p0)]) [(.iload 4, 2), (.aload_n 0, 1)] (by decide +kernel) rfl ?_
      refine zV_gr (by decide +kernel) zfl_RX12_145 (by decide) rfl h (fun v22 _ h => ?_)
      refine zV_b (pc' := 66) (lv' := [(9, .inl (((60 : Int32) * p1) + l5)), (8, .inl (((60 : Int32) * p1) + l7)), (0, .inr (.inr p0)), (1, .inl p1), (4, .inl p4), (5, .inl l5), (6, .inl p6), (7, .inl l7)]) (st' := [.inl l7, .inr (.inr v22), .inl p4, .inl v21, .inr (.inr p0)]) [(.iload 7, 2)] (by decide +kernel) rfl ?_
      refine zV_aj (by decide +kernel) h (fun v23 _ h => ?_)
      refine zV_cvv (As := [.inl v21, .inl p4, .inr (.inl v23)]) (st := []) (c := 13) (by decide +kernel) (zcl_X12_account (by decide) (by decide)) ⟨zw_1783, zw_1785, zw_76⟩ ⟨⟨_, _, rfl⟩, by decide⟩ rfl rfl (Nat.le_of_ble_eq_true rfl) h (fun _ _ e => zc_X12_account e) (fun M24 _ _ h => ?_)
      exact zV_lv (lv' := [(0, .inr (.inr p0)), (1, .inl p1), (4, .inl p4), (5, .inl l5), (6, .inl p6), (7, .inl l7), (8, .inl (((60 : Int32) * p1) + l7)), (9, .inl (((60 : Int32) * p1) + l5))]) [2, 3, 4, 5, 6, 7, 1, 0] rfl (zt_X12_take_J70 h k1 k2)
set_option maxRecDepth 100000 in
theorem zt_X12_take {X : Zx} {M : Zm} {l0 : Option Nat} {l1 : Int32} {l2 : Int64} {l4 : Int32} {z : Zm × Unit} (h : zf_X12_take M l0 l1 l2 l4 = some z) (hR : zRv X zC_X12_take z.1) : zV X zC_X12_take M 0 [(0, .inr (.inr l0)), (1, .inl l1), (2, .inr (.inl l2)), (4, .inl l4)] [] := by
  unfold zf_X12_take at h
  refine zV_b (pc' := 3) (lv' := [(0, .inr (.inr l0)), (1, .inl l1), (2, .inr (.inl l2)), (4, .inl l4)]) (st' := [.inr (.inl l2), .inl l1, .inr (.inr l0)]) [(.aload_n 0, 1), (.iload_n 1, 1), (.lload_n 2, 1)] (by decide +kernel) rfl ?_
  refine zV_cvv (As := [.inl l1, .inr (.inl l2)]) (st := []) (c := 13) (by decide +kernel) (zcl_X12_shares (by decide) (by decide)) ⟨zw_1775, zw_1777, zw_74⟩ ⟨⟨_, _, rfl⟩, by decide⟩ rfl rfl (Nat.le_of_ble_eq_true rfl) h (fun _ _ e => zc_X12_shares e) (fun M1 _ _ h => ?_)
  refine zV_b (pc' := 10) (lv' := [(5, .inl (0 : Int32)), (0, .inr (.inr l0)), (1, .inl l1), (2, .inr (.inl l2)), (4, .inl l4)]) (st' := [.inr (.inr l0)]) [(.iconst 0, 1), (.istore 5, 2), (.aload_n 0, 1)] (by decide +kernel) rfl ?_
  refine zV_gr (by decide +kernel) zfl_RX12_28 (by decide) rfl h (fun v2 _ h => ?_)
  refine zV_b (pc' := 14) (lv' := [(5, .inl (0 : Int32)), (0, .inr (.inr l0)), (1, .inl l1), (2, .inr (.inl l2)), (4, .inl l4)]) (st' := [.inl l1, .inr (.inr v2)]) [(.iload_n 1, 1)] (by decide +kernel) rfl ?_
  refine zV_ai (by decide +kernel) h (fun v3 _ h => ?_)
  refine zV_b (pc' := 20) (lv' := [(7, .inl (0 : Int32)), (6, .inl v3), (5, .inl (0 : Int32)), (0, .inr (.inr l0)), (1, .inl l1), (2, .inr (.inl l2)), (4, .inl l4)]) (st' := []) [(.istore 6, 2), (.iconst 0, 1), (.istore 7, 2)] (by decide +kernel) rfl ?_
  obtain ⟨y25, e25, h⟩ := zb1_inv h
  refine zV_lv (lv' := [(0, .inr (.inr l0)), (1, .inl l1), (4, .inl l4), (5, .inl (0 : Int32)), (6, .inl v3), (7, .inl (0 : Int32))]) [3, 4, 6, 2, 1, 0] rfl (zt_X12_take_L20 e25 ?_)
  obtain ⟨M20_25, l5_25, l7_25⟩ := y25
  show zV X zC_X12_take M20_25 127 [(0, .inr (.inr l0)), (1, .inl l1), (5, .inl l5_25)] []
  refine zV_b (pc' := 128) (lv' := [(0, .inr (.inr l0)), (1, .inl l1), (5, .inl l5_25)]) (st' := [.inr (.inr l0)]) [(.aload_n 0, 1)] (by decide +kernel) rfl ?_
  refine zV_gr (by decide +kernel) zfl_RX12_28 (by decide) rfl h (fun v26 _ h => ?_)
  refine zV_b (pc' := 134) (lv' := [(0, .inr (.inr l0)), (1, .inl l1), (5, .inl l5_25)]) (st' := [.inl l5_25, .inl l1, .inr (.inr v26)]) [(.iload_n 1, 1), (.iload 5, 2)] (by decide +kernel) rfl ?_
  refine zV_si (by decide +kernel) h (fun M27 _ h => ?_)
  exact zend_v h hR (by decide +kernel)
theorem zc_X12_take {M M' : Zm} {l0 : Option Nat} {l1 : Int32} {l2 : Int64} {l4 : Int32} {x : Unit} (h : zf_X12_take M l0 l1 l2 l4 = some (M', x)) (l : Launch) (D : va_G) (cy : Nat → ClassId) : zMet l yX12_take zC_X12_take none D cy [.inr (.inr l0), .inl l1, .inr (.inl l2), .inl l4] M M' none :=
  zM_v (by decide) rfl (fun h => by cases h) (Nat.le_of_ble_eq_true rfl) (fun X hR => zt_X12_take h hR)
-- BlendCellarModel.takeDraws(I)V
def zC_X12_takeDraws : Zc := (cX12_takeDraws, 3, RX12, 3, 81, false)
theorem zcl_X12_takeDraws {C : Zc} (h1 : zC_X12_takeDraws.2.2.2.1 + 1 ≤ C.2.2.2.1) (h2 : 8 + (zC_X12_takeDraws.2.1 + 11) + zC_X12_takeDraws.2.2.2.2.1 ≤ C.2.2.2.2.1) : zCl C yX12_takeDraws zC_X12_takeDraws none 1 := ⟨zw_1814, zw_114, ⟨by decide, by decide⟩, by decide +kernel, h1, h2⟩
noncomputable def zf_X12_takeDraws_L2 (p0 : Option Nat) (p1 : Int32) (x : Zm × Int32) : Option ((Zm × Int32) ⊕ (Zm × Int32)) := match x with
  | (M, l2) =>
  zb1 (zo_gi M p0 13 60) (fun v1 =>
  (if v1 ≤ l2 then
  some (.inr (M, l2))
  else
  zb1 (zo_gr M p0 13 61) (fun v3 =>
  zb1 (zo_ai M v3 l2) (fun v4 =>
  zb1 (zo_gr M p0 13 62) (fun v5 =>
  zb1 (zo_aj M v5 l2) (fun v6 =>
  zb1 (zo_rc M p0 13) (fun _ => zbd (zf_X12_take M p0 v4 v6 p1) (fun M7 _ =>
  some (.inl (M7, (l2 + 1)))))))))))
def zP_X12_takeDraws_L2 (X : Zx) (p0 : Option Nat) (p1 : Int32) (x : Zm × Int32) : Prop := match x with
  | (M, l2) => zV X zC_X12_takeDraws M 2 [(0, .inr (.inr p0)), (1, .inl p1), (2, .inl l2)] []
def zK_X12_takeDraws_L2 (X : Zx) (p0 : Option Nat) (p1 : Int32) (y : Zm × Int32) : Prop := match y with
  | (M, l2) => zV X zC_X12_takeDraws M 33 [] []
noncomputable def zf_X12_takeDraws (M : Zm) (l0 : Option Nat) (l1 : Int32) : Option (Zm × Unit) :=
  zb1 (zwhile (zf_X12_takeDraws_L2 l0 l1) (M, (0 : Int32))) (fun y9 => match y9 with
  | (M2_9, l2_9) =>
  some (M2_9, ()))
set_option maxRecDepth 100000 in
theorem zt_X12_takeDraws_L2 {X : Zx} {p0 : Option Nat} {p1 : Int32} {x : Zm × Int32} {y : Zm × Int32} (h : zwhile (zf_X12_takeDraws_L2 p0 p1) x = some y) (hy : zK_X12_takeDraws_L2 X p0 p1 y) : zP_X12_takeDraws_L2 X p0 p1 x := by
  refine zwhile_ind (P := zP_X12_takeDraws_L2 X p0 p1) (K := zK_X12_takeDraws_L2 X p0 p1) ?_ h hy
  intro x z hf k1 k2
  obtain ⟨M, l2⟩ := x
  have h : zf_X12_takeDraws_L2 p0 p1 (M, l2) = some z := hf
  unfold zf_X12_takeDraws_L2 at h
  show zV X zC_X12_takeDraws M 2 [(0, .inr (.inr p0)), (1, .inl p1), (2, .inl l2)] []
  refine zV_b (pc' := 4) (lv' := [(0, .inr (.inr p0)), (1, .inl p1), (2, .inl l2)]) (st' := [.inr (.inr p0), .inl l2]) [(.iload_n 2, 1), (.aload_n 0, 1)] (by decide +kernel) rfl ?_
  refine zV_gi (by decide +kernel) zfl_RX12_247 (by decide) rfl (Or.inl rfl) h (fun v1 _ h => ?_)
  refine zV_icmp_ge (off := 26) (tgt := 33) (by decide +kernel) (by decide) h (fun c2 h => ?_) (fun c2 h => ?_)
  · exact zV_lv (lv' := []) [] rfl (k2 _ (Option.some.inj h).symm)
  · refine zV_b (pc' := 12) (lv' := [(0, .inr (.inr p0)), (1, .inl p1), (2, .inl l2)]) (st' := [.inr (.inr p0), .inr (.inr p0)]) [(.aload_n 0, 1), (.aload_n 0, 1)] (by decide +kernel) rfl ?_
    refine zV_gr (by decide +kernel) zfl_RX12_139 (by decide) rfl h (fun v3 _ h => ?_)
    refine zV_b (pc' := 16) (lv' := [(0, .inr (.inr p0)), (1, .inl p1), (2, .inl l2)]) (st' := [.inl l2, .inr (.inr v3), .inr (.inr p0)]) [(.iload_n 2, 1)] (by decide +kernel) rfl ?_
    refine zV_ai (by decide +kernel) h (fun v4 _ h => ?_)
    refine zV_b (pc' := 18) (lv' := [(0, .inr (.inr p0)), (1, .inl p1), (2, .inl l2)]) (st' := [.inr (.inr p0), .inl v4, .inr (.inr p0)]) [(.aload_n 0, 1)] (by decide +kernel) rfl ?_
    refine zV_gr (by decide +kernel) zfl_RX12_142 (by decide) rfl h (fun v5 _ h => ?_)
    refine zV_b (pc' := 22) (lv' := [(0, .inr (.inr p0)), (1, .inl p1), (2, .inl l2)]) (st' := [.inl l2, .inr (.inr v5), .inl v4, .inr (.inr p0)]) [(.iload_n 2, 1)] (by decide +kernel) rfl ?_
    refine zV_aj (by decide +kernel) h (fun v6 _ h => ?_)
    refine zV_b (pc' := 24) (lv' := [(0, .inr (.inr p0)), (1, .inl p1), (2, .inl l2)]) (st' := [.inl p1, .inr (.inl v6), .inl v4, .inr (.inr p0)]) [(.iload_n 1, 1)] (by decide +kernel) rfl ?_
    refine zV_cvv (As := [.inl v4, .inr (.inl v6), .inl p1]) (st := []) (c := 13) (by decide +kernel) (zcl_X12_take (by decide) (by decide)) ⟨zw_1815, zw_1817, zw_83⟩ ⟨⟨_, _, rfl⟩, by decide⟩ rfl rfl (Nat.le_of_ble_eq_true rfl) h (fun _ _ e => zc_X12_take e) (fun M7 _ _ h => ?_)
    refine zV_b (pc' := 30) (lv' := [(2, .inl (l2 + 1)), (0, .inr (.inr p0)), (1, .inl p1)]) (st' := []) [(.iinc 2 1, 3)] (by decide +kernel) rfl ?_
    refine zV_goto (off := (-28)) (tgt := 2) (by decide +kernel) (by decide) ?_
    exact zV_lv (lv' := [(0, .inr (.inr p0)), (1, .inl p1), (2, .inl (l2 + 1))]) [1, 2, 0] rfl (k1 _ (Option.some.inj h).symm)
set_option maxRecDepth 100000 in
theorem zt_X12_takeDraws {X : Zx} {M : Zm} {l0 : Option Nat} {l1 : Int32} {z : Zm × Unit} (h : zf_X12_takeDraws M l0 l1 = some z) (hR : zRv X zC_X12_takeDraws z.1) : zV X zC_X12_takeDraws M 0 [(0, .inr (.inr l0)), (1, .inl l1)] [] := by
  unfold zf_X12_takeDraws at h
  refine zV_b (pc' := 2) (lv' := [(2, .inl (0 : Int32)), (0, .inr (.inr l0)), (1, .inl l1)]) (st' := []) [(.iconst 0, 1), (.istore_n 2, 1)] (by decide +kernel) rfl ?_
  obtain ⟨y9, e9, h⟩ := zb1_inv h
  refine zV_lv (lv' := [(0, .inr (.inr l0)), (1, .inl l1), (2, .inl (0 : Int32))]) [1, 2, 0] rfl (zt_X12_takeDraws_L2 e9 ?_)
  obtain ⟨M2_9, l2_9⟩ := y9
  show zV X zC_X12_takeDraws M2_9 33 [] []
  exact zend_v h hR (by decide +kernel)
theorem zc_X12_takeDraws {M M' : Zm} {l0 : Option Nat} {l1 : Int32} {x : Unit} (h : zf_X12_takeDraws M l0 l1 = some (M', x)) (l : Launch) (D : va_G) (cy : Nat → ClassId) : zMet l yX12_takeDraws zC_X12_takeDraws none D cy [.inr (.inr l0), .inl l1] M M' none :=
  zM_v (by decide) rfl (fun h => by cases h) (Nat.le_of_ble_eq_true rfl) (fun X hR => zt_X12_takeDraws h hR)
-- BlendCellarModel.blend(I)J
def zC_X12_blend : Zc := (cX12_blend, 8, RX12, 4, 103, false)
theorem zcl_X12_blend {C : Zc} (h1 : zC_X12_blend.2.2.2.1 + 1 ≤ C.2.2.2.1) (h2 : 8 + (zC_X12_blend.2.1 + 11) + zC_X12_blend.2.2.2.2.1 ≤ C.2.2.2.2.1) : zCl C yX12_blend zC_X12_blend (some .long) 1 := ⟨zw_1838, zw_114, ⟨by decide, by decide⟩, by decide +kernel, h1, h2⟩
noncomputable def zf_X12_blend_L76 (p0 : Option Nat) (p1 : Int32) (x : Zm × Int64 × Int32) : Option ((Zm × Int64 × Int32) ⊕ ((Zm × Int64 × Int32) ⊕ (Zm × Int64))) := match x with
  | (M, l3, l5) =>
  zb1 (zo_gi M p0 13 33) (fun v14 =>
  (if v14 ≤ l5 then
  some (.inr (.inl (M, l3, l5)))
  else
  zb1 (zo_gr M p0 13 34) (fun v16 =>
  zb1 (zo_ai M v16 l5) (fun v17 =>
  zb1 (zo_rc M p0 13) (fun _ => zbd (zf_X12_spare M p0 v17) (fun M18 v18 =>
  zb1 (zo_gr M18 p0 13 35) (fun v19 =>
  zb1 (zo_aj M18 v19 l5) (fun v20 =>
  (if v20 ≤ v18 then
  zb1 (zo_gr M18 p0 13 35) (fun v22 =>
  zb1 (zo_aj M18 v22 l5) (fun v23 =>
  some (.inl (M18, (l3 + v23), (l5 + 1)))))
  else
  zb1 (zo_rc M18 p0 13) (fun _ => zbd (zf_X12_no M18 p0 (10 : Int32)) (fun M25 v25 =>
  some (.inr (.inr (M25, v25))))))))))))))
def zP_X12_blend_L76 (X : Zx) (p0 : Option Nat) (p1 : Int32) (x : Zm × Int64 × Int32) : Prop := match x with
  | (M, l3, l5) => zV X zC_X12_blend M 76 [(0, .inr (.inr p0)), (1, .inl p1), (3, .inr (.inl l3)), (5, .inl l5)] []
def zK_X12_blend_L76 (X : Zx) (p0 : Option Nat) (p1 : Int32) (y : (Zm × Int64 × Int32) ⊕ (Zm × Int64)) : Prop := match y with
  | .inl (M, l3, l5) => zV X zC_X12_blend M 134 [(0, .inr (.inr p0)), (1, .inl p1), (3, .inr (.inl l3))] []
  | .inr (M, x) => zRj X zC_X12_blend M x
noncomputable def zf_X12_blend_L169 (p0 : Option Nat) (p1 : Int32) (p3 : Int64) (x : Zm × Int32) : Option ((Zm × Int32) ⊕ (Zm × Int32)) := match x with
  | (M, l7) =>
  zb1 (zo_gi M p0 13 33) (fun v32 =>
  (if v32 ≤ l7 then
  some (.inr (M, l7))
  else
  zb1 (zo_gr M p0 13 34) (fun v34 =>
  zb1 (zo_ai M v34 l7) (fun v35 =>
  zb1 (zo_gr M p0 13 35) (fun v36 =>
  zb1 (zo_aj M v36 l7) (fun v37 =>
  zb1 (zo_rc M p0 13) (fun _ => zbd (zf_X12_drawFrom M p0 v35 v37 (1 : Int32)) (fun M38 _ =>
  some (.inl (M38, (l7 + 1)))))))))))
def zP_X12_blend_L169 (X : Zx) (p0 : Option Nat) (p1 : Int32) (p3 : Int64) (x : Zm × Int32) : Prop := match x with
  | (M, l7) => zV X zC_X12_blend M 169 [(0, .inr (.inr p0)), (1, .inl p1), (3, .inr (.inl p3)), (7, .inl l7)] []
def zK_X12_blend_L169 (X : Zx) (p0 : Option Nat) (p1 : Int32) (p3 : Int64) (y : Zm × Int32) : Prop := match y with
  | (M, l7) => zV X zC_X12_blend M 203 [(0, .inr (.inr p0)), (1, .inl p1), (3, .inr (.inl p3))] []
noncomputable def zf_X12_blend_L235 (p0 : Option Nat) (p1 : Int32) (p3 : Int64) (x : Zm × Int32) : Option ((Zm × Int32) ⊕ (Zm × Int32)) := match x with
  | (M, l7) =>
  zb1 (zo_gi M p0 13 33) (fun v48 =>
  (if v48 ≤ l7 then
  some (.inr (M, l7))
  else
  zb1 (zo_gr M p0 13 34) (fun v50 =>
  zb1 (zo_ai M v50 l7) (fun v51 =>
  zb1 (zo_gr M p0 13 35) (fun v52 =>
  zb1 (zo_aj M v52 l7) (fun v53 =>
  zb1 (zo_rc M p0 13) (fun _ => zbd (zf_X12_enter M p0 (4 : Int32) v51 p1 v53) (fun M54 _ =>
  some (.inl (M54, (l7 + 1)))))))))))
def zP_X12_blend_L235 (X : Zx) (p0 : Option Nat) (p1 : Int32) (p3 : Int64) (x : Zm × Int32) : Prop := match x with
  | (M, l7) => zV X zC_X12_blend M 235 [(0, .inr (.inr p0)), (1, .inl p1), (3, .inr (.inl p3)), (7, .inl l7)] []
def zK_X12_blend_L235 (X : Zx) (p0 : Option Nat) (p1 : Int32) (p3 : Int64) (y : Zm × Int32) : Prop := match y with
  | (M, l7) => zV X zC_X12_blend M 270 [(0, .inr (.inr p0)), (3, .inr (.inl p3))] []
noncomputable def zf_X12_blend_J64 (M : Zm) (l0 : Option Nat) : Option (Zm × Int64) :=
  zb1 (zo_rc M l0 13) (fun _ => zbd (zf_X12_no M l0 (9 : Int32)) (fun M61 v61 =>
  some (M61, v61)))
noncomputable def zf_X12_blend (M : Zm) (l0 : Option Nat) (l1 : Int32) : Option (Zm × Int64) :=
  zb1 (zo_rc M l0 13) (fun _ => zbd (zf_X12_begin M l0) (fun M1 _ =>
  zb1 (zo_gi M1 l0 13 33) (fun v2 =>
  (if v2 = 0 then
  zb1 (zo_rc M1 l0 13) (fun _ => zbd (zf_X12_no M1 l0 (10 : Int32)) (fun M4 v4 =>
  some (M4, v4)))
  else
  zb1 (zo_rc M1 l0 13) (fun _ => zbd (zf_X12_lookedVessel M1 l0 l1) (fun M6 v6 =>
  (if v6 ≤ 0 then
  zb1 (zo_rc M6 l0 13) (fun _ => zbd (zf_X12_isPicked M6 l0 l1) (fun M8 v8 =>
  (if v8 = 0 then
  zb1 (zo_rc M8 l0 13) (fun _ => zbd (zf_X12_isInCask M8 l0 l1) (fun M10 v10 =>
  (if v10 = 0 then
  zb1 (zo_rc M10 l0 13) (fun _ => zbd (zf_X12_isOneInCask M10 l0) (fun M12 v12 =>
  (if v12 = 0 then
  zb1 (zwhile (zf_X12_blend_L76 l0 l1) (M12, (0 : Int64), (0 : Int32))) (fun y27 => match y27 with
  | .inl (M76_27, l3_27, l5_27) =>
  zb1 (zo_rc M76_27 l0 13) (fun _ => zbd (zf_X12_most M76_27 l0 l1) (fun M28 v28 =>
  zb1 (zo_rc M28 l0 13) (fun _ => zbd (zf_X12_inVessel M28 l0 l1) (fun M29 v29 =>
  (if (v29 + l3_27) ≤ v28 then
  zb1 (zo_pi M29 l0 13 60 (0 : Int32)) (fun M31 =>
  zb1 (zwhile (zf_X12_blend_L169 l0 l1 l3_27) (M31, (0 : Int32))) (fun y40 => match y40 with
  | (M169_40, l7_40) =>
  zb1 (zo_rc M169_40 l0 13) (fun _ => zbd (zf_X12_mixInto M169_40 l0 l1) (fun M41 v41 =>
  (if v41 = 0 then
  zb1 (zo_rc M41 l0 13) (fun _ => zbd (zf_X12_no M41 l0 (12 : Int32)) (fun M43 v43 =>
  some (M43, v43)))
  else
  zb1 (zo_rc M41 l0 13) (fun _ => zbd (zf_X12_keep M41 l0) (fun M45 _ =>
  zb1 (zo_rc M45 l0 13) (fun _ => zbd (zf_X12_takeDraws M45 l0 (-1 : Int32)) (fun M46 _ =>
  zb1 (zo_rc M46 l0 13) (fun _ => zbd (zf_X12_become M46 l0 l1) (fun M47 _ =>
  zb1 (zwhile (zf_X12_blend_L235 l0 l1 l3_27) (M47, (0 : Int32))) (fun y56 => match y56 with
  | (M235_56, l7_56) =>
  zb1 (zo_pi M235_56 l0 13 33 (0 : Int32)) (fun M57 =>
  some (M57, l3_27))))))))))))))
  else
  zb1 (zo_rc M29 l0 13) (fun _ => zbd (zf_X12_no M29 l0 (11 : Int32)) (fun M59 v59 =>
  some (M59, v59))))))))
  | .inr q => some q)
  else
  zf_X12_blend_J64 M12 l0)))
  else
  zf_X12_blend_J64 M10 l0)))
  else
  zb1 (zo_rc M8 l0 13) (fun _ => zbd (zf_X12_no M8 l0 (13 : Int32)) (fun M63 v63 =>
  some (M63, v63))))))
  else
  zb1 (zo_rc M6 l0 13) (fun _ => zbd (zf_X12_no M6 l0 v6) (fun M65 v65 =>
  some (M65, v65))))))))))
set_option maxRecDepth 100000 in
theorem zt_X12_blend_L76 {X : Zx} {p0 : Option Nat} {p1 : Int32} {x : Zm × Int64 × Int32} {y : (Zm × Int64 × Int32) ⊕ (Zm × Int64)} (h : zwhile (zf_X12_blend_L76 p0 p1) x = some y) (hy : zK_X12_blend_L76 X p0 p1 y) : zP_X12_blend_L76 X p0 p1 x := by
  refine zwhile_ind (P := zP_X12_blend_L76 X p0 p1) (K := zK_X12_blend_L76 X p0 p1) ?_ h hy
  intro x z hf k1 k2
  obtain ⟨M, l3, l5⟩ := x
  have h : zf_X12_blend_L76 p0 p1 (M, l3, l5) = some z := hf
  unfold zf_X12_blend_L76 at h
  show zV X zC_X12_blend M 76 [(0, .inr (.inr p0)), (1, .inl p1), (3, .inr (.inl l3)), (5, .inl l5)] []
  refine zV_b (pc' := 79) (lv' := [(0, .inr (.inr p0)), (1, .inl p1), (3, .inr (.inl l3)), (5, .inl l5)]) (st' := [.inr (.inr p0), .inl l5]) [(.iload 5, 2), (.aload_n 0, 1)] (by decide +kernel) rfl ?_
  refine zV_gi (by decide +kernel) zfl_RX12_334 (by decide) rfl (Or.inl rfl) h (fun v14 _ h => ?_)
  refine zV_icmp_ge (off := 52) (tgt := 134) (by decide +kernel) (by decide) h (fun c15 h => ?_) (fun c15 h => ?_)
  · exact zV_lv (lv' := [(0, .inr (.inr p0)), (1, .inl p1), (3, .inr (.inl l3))]) [0, 1, 2] rfl (k2 _ (Option.some.inj h).symm)
  · refine zV_b (pc' := 87) (lv' := [(0, .inr (.inr p0)), (1, .inl p1), (3, .inr (.inl l3)), (5, .inl l5)]) (st' := [.inr (.inr p0), .inr (.inr p0)]) [(.aload_n 0, 1), (.aload_n 0, 1)] (by decide +kernel) rfl ?_
    refine zV_gr (by decide +kernel) zfl_RX12_90 (by decide) rfl h (fun v16 _ h => ?_)
    refine zV_b (pc' := 92) (lv' := [(0, .inr (.inr p0)), (1, .inl p1), (3, .inr (.inl l3)), (5, .inl l5)]) (st' := [.inl l5, .inr (.inr v16), .inr (.inr p0)]) [(.iload 5, 2)] (by decide +kernel) rfl ?_
    refine zV_ai (by decide +kernel) h (fun v17 _ h => ?_)
    refine zV_cvj (As := [.inl v17]) (st := []) (c := 13) (by decide +kernel) (zcl_X12_spare (by decide) (by decide)) ⟨zw_1795, zw_1797, zw_78⟩ ⟨⟨_, _, rfl⟩, by decide⟩ rfl rfl (Nat.le_of_ble_eq_true rfl) h (fun _ _ e => zc_X12_spare e) (fun M18 v18 _ h => ?_)
    refine zV_b (pc' := 99) (lv' := [(6, .inr (.inl v18)), (0, .inr (.inr p0)), (1, .inl p1), (3, .inr (.inl l3)), (5, .inl l5)]) (st' := [.inr (.inr p0)]) [(.lstore 6, 2), (.aload_n 0, 1)] (by decide +kernel) rfl ?_
    refine zV_gr (by decide +kernel) zfl_RX12_93 (by decide) rfl h (fun v19 _ h => ?_)
    refine zV_b (pc' := 104) (lv' := [(6, .inr (.inl v18)), (0, .inr (.inr p0)), (1, .inl p1), (3, .inr (.inl l3)), (5, .inl l5)]) (st' := [.inl l5, .inr (.inr v19)]) [(.iload 5, 2)] (by decide +kernel) rfl ?_
    refine zV_aj (by decide +kernel) h (fun v20 _ h => ?_)
    refine zV_b (pc' := 107) (lv' := [(6, .inr (.inl v18)), (0, .inr (.inr p0)), (1, .inl p1), (3, .inr (.inl l3)), (5, .inl l5)]) (st' := [.inr (.inl v18), .inr (.inl v20)]) [(.lload 6, 2)] (by decide +kernel) rfl ?_
    refine zV_lcmp_le (off := 10) (tgt := 118) (by decide +kernel) (by decide +kernel) (by decide) h (fun c21 h => ?_) (fun c21 h => ?_)
    · refine zV_b (pc' := 120) (lv' := [(6, .inr (.inl v18)), (0, .inr (.inr p0)), (1, .inl p1), (3, .inr (.inl l3)), (5, .inl l5)]) (st' := [.inr (.inr p0), .inr (.inl l3)]) [(.lload_n 3, 1), (.aload_n 0, 1)] (by decide +kernel) rfl ?_
      refine zV_gr (by decide +kernel) zfl_RX12_93 (by decide) rfl h (fun v22 _ h => ?_)
      refine zV_b (pc' := 125) (lv' := [(6, .inr (.inl v18)), (0, .inr (.inr p0)), (1, .inl p1), (3, .inr (.inl l3)), (5, .inl l5)]) (st' := [.inl l5, .inr (.inr v22), .inr (.inl l3)]) [(.iload 5, 2)] (by decide +kernel) rfl ?_
      refine zV_aj (by decide +kernel) h (fun v23 _ h => ?_)
      refine zV_b (pc' := 131) (lv' := [(5, .inl (l5 + 1)), (3, .inr (.inl (l3 + v23))), (6, .inr (.inl v18)), (0, .inr (.inr p0)), (1, .inl p1)]) (st' := []) [(.ladd, 1), (.lstore_n 3, 1), (.iinc 5 1, 3)] (by decide +kernel) rfl ?_
      refine zV_goto (off := (-55)) (tgt := 76) (by decide +kernel) (by decide) ?_
      exact zV_lv (lv' := [(0, .inr (.inr p0)), (1, .inl p1), (3, .inr (.inl (l3 + v23))), (5, .inl (l5 + 1))]) [3, 4, 1, 0] rfl (k1 _ (Option.some.inj h).symm)
    · refine zV_b (pc' := 114) (lv' := [(6, .inr (.inl v18)), (0, .inr (.inr p0)), (1, .inl p1), (3, .inr (.inl l3)), (5, .inl l5)]) (st' := [.inl (10 : Int32), .inr (.inr p0)]) [(.aload_n 0, 1), (.bipush 10, 2)] (by decide +kernel) rfl ?_
      refine zV_cvj (As := [.inl (10 : Int32)]) (st := []) (c := 13) (by decide +kernel) (zcl_X12_no (by decide) (by decide)) ⟨zw_1677, zw_1679, zw_59⟩ ⟨⟨_, _, rfl⟩, by decide⟩ rfl rfl (Nat.le_of_ble_eq_true rfl) h (fun _ _ e => zc_X12_no e) (fun M25 v25 _ h => ?_)
      have hq : zRj X zC_X12_blend M25 v25 := k2 _ (Option.some.inj h).symm
      exact hq _ _ (by decide +kernel)
set_option maxRecDepth 100000 in
theorem zt_X12_blend_L169 {X : Zx} {p0 : Option Nat} {p1 : Int32} {p3 : Int64} {x : Zm × Int32} {y : Zm × Int32} (h : zwhile (zf_X12_blend_L169 p0 p1 p3) x = some y) (hy : zK_X12_blend_L169 X p0 p1 p3 y) : zP_X12_blend_L169 X p0 p1 p3 x := by
  refine zwhile_ind (P := zP_X12_blend_L169 X p0 p1 p3) (K := zK_X12_blend_L169 X p0 p1 p3) ?_ h hy
  intro x z hf k1 k2
  obtain ⟨M, l7⟩ := x
  have h : zf_X12_blend_L169 p0 p1 p3 (M, l7) = some z := hf
  unfold zf_X12_blend_L169 at h
  show zV X zC_X12_blend M 169 [(0, .inr (.inr p0)), (1, .inl p1), (3, .inr (.inl p3)), (7, .inl l7)] []
  refine zV_b (pc' := 172) (lv' := [(0, .inr (.inr p0)), (1, .inl p1), (3, .inr (.inl p3)), (7, .inl l7)]) (st' := [.inr (.inr p0), .inl l7]) [(.iload 7, 2), (.aload_n 0, 1)] (by decide +kernel) rfl ?_
  refine zV_gi (by decide +kernel) zfl_RX12_334 (by decide) rfl (Or.inl rfl) h (fun v32 _ h => ?_)
  refine zV_icmp_ge (off := 28) (tgt := 203) (by decide +kernel) (by decide) h (fun c33 h => ?_) (fun c33 h => ?_)
  · exact zV_lv (lv' := [(0, .inr (.inr p0)), (1, .inl p1), (3, .inr (.inl p3))]) [0, 1, 2] rfl (k2 _ (Option.some.inj h).symm)
  · refine zV_b (pc' := 180) (lv' := [(0, .inr (.inr p0)), (1, .inl p1), (3, .inr (.inl p3)), (7, .inl l7)]) (st' := [.inr (.inr p0), .inr (.inr p0)]) [(.aload_n 0, 1), (.aload_n 0, 1)] (by decide +kernel) rfl ?_
    refine zV_gr (by decide +kernel) zfl_RX12_90 (by decide) rfl h (fun v34 _ h => ?_)
    refine zV_b (pc' := 185) (lv' := [(0, .inr (.inr p0)), (1, .inl p1), (3, .inr (.inl p3)), (7, .inl l7)]) (st' := [.inl l7, .inr (.inr v34), .inr (.inr p0)]) [(.iload 7, 2)] (by decide +kernel) rfl ?_
    refine zV_ai (by decide +kernel) h (fun v35 _ h => ?_)
    refine zV_b (pc' := 187) (lv' := [(0, .inr (.inr p0)), (1, .inl p1), (3, .inr (.inl p3)), (7, .inl l7)]) (st' := [.inr (.inr p0), .inl v35, .inr (.inr p0)]) [(.aload_n 0, 1)] (by decide +kernel) rfl ?_
    refine zV_gr (by decide +kernel) zfl_RX12_93 (by decide) rfl h (fun v36 _ h => ?_)
    refine zV_b (pc' := 192) (lv' := [(0, .inr (.inr p0)), (1, .inl p1), (3, .inr (.inl p3)), (7, .inl l7)]) (st' := [.inl l7, .inr (.inr v36), .inl v35, .inr (.inr p0)]) [(.iload 7, 2)] (by decide +kernel) rfl ?_
    refine zV_aj (by decide +kernel) h (fun v37 _ h => ?_)
    refine zV_b (pc' := 194) (lv' := [(0, .inr (.inr p0)), (1, .inl p1), (3, .inr (.inl p3)), (7, .inl l7)]) (st' := [.inl (1 : Int32), .inr (.inl v37), .inl v35, .inr (.inr p0)]) [(.iconst 1, 1)] (by decide +kernel) rfl ?_
    refine zV_cvv (As := [.inl v35, .inr (.inl v37), .inl (1 : Int32)]) (st := []) (c := 13) (by decide +kernel) (zcl_X12_drawFrom (by decide) (by decide)) ⟨zw_1803, zw_1805, zw_80⟩ ⟨⟨_, _, rfl⟩, by decide⟩ rfl rfl (Nat.le_of_ble_eq_true rfl) h (fun _ _ e => zc_X12_drawFrom e) (fun M38 _ _ h => ?_)
    refine zV_b (pc' := 200) (lv' := [(7, .inl (l7 + 1)), (0, .inr (.inr p0)), (1, .inl p1), (3, .inr (.inl p3))]) (st' := []) [(.iinc 7 1, 3)] (by decide +kernel) rfl ?_
    refine zV_goto (off := (-31)) (tgt := 169) (by decide +kernel) (by decide) ?_
    exact zV_lv (lv' := [(0, .inr (.inr p0)), (1, .inl p1), (3, .inr (.inl p3)), (7, .inl (l7 + 1))]) [1, 2, 3, 0] rfl (k1 _ (Option.some.inj h).symm)
set_option maxRecDepth 100000 in
theorem zt_X12_blend_L235 {X : Zx} {p0 : Option Nat} {p1 : Int32} {p3 : Int64} {x : Zm × Int32} {y : Zm × Int32} (h : zwhile (zf_X12_blend_L235 p0 p1 p3) x = some y) (hy : zK_X12_blend_L235 X p0 p1 p3 y) : zP_X12_blend_L235 X p0 p1 p3 x := by
  refine zwhile_ind (P := zP_X12_blend_L235 X p0 p1 p3) (K := zK_X12_blend_L235 X p0 p1 p3) ?_ h hy
  intro x z hf k1 k2
  obtain ⟨M, l7⟩ := x
  have h : zf_X12_blend_L235 p0 p1 p3 (M, l7) = some z := hf
  unfold zf_X12_blend_L235 at h
  show zV X zC_X12_blend M 235 [(0, .inr (.inr p0)), (1, .inl p1), (3, .inr (.inl p3)), (7, .inl l7)] []
  refine zV_b (pc' := 238) (lv' := [(0, .inr (.inr p0)), (1, .inl p1), (3, .inr (.inl p3)), (7, .inl l7)]) (st' := [.inr (.inr p0), .inl l7]) [(.iload 7, 2), (.aload_n 0, 1)] (by decide +kernel) rfl ?_
  refine zV_gi (by decide +kernel) zfl_RX12_334 (by decide) rfl (Or.inl rfl) h (fun v48 _ h => ?_)
  refine zV_icmp_ge (off := 29) (tgt := 270) (by decide +kernel) (by decide) h (fun c49 h => ?_) (fun c49 h => ?_)
  · exact zV_lv (lv' := [(0, .inr (.inr p0)), (3, .inr (.inl p3))]) [0, 2] rfl (k2 _ (Option.some.inj h).symm)
  · refine zV_b (pc' := 247) (lv' := [(0, .inr (.inr p0)), (1, .inl p1), (3, .inr (.inl p3)), (7, .inl l7)]) (st' := [.inr (.inr p0), .inl (4 : Int32), .inr (.inr p0)]) [(.aload_n 0, 1), (.iconst 4, 1), (.aload_n 0, 1)] (by decide +kernel) rfl ?_
    refine zV_gr (by decide +kernel) zfl_RX12_90 (by decide) rfl h (fun v50 _ h => ?_)
    refine zV_b (pc' := 252) (lv' := [(0, .inr (.inr p0)), (1, .inl p1), (3, .inr (.inl p3)), (7, .inl l7)]) (st' := [.inl l7, .inr (.inr v50), .inl (4 : Int32), .inr (.inr p0)]) [(.iload 7, 2)] (by decide +kernel) rfl ?_
    refine zV_ai (by decide +kernel) h (fun v51 _ h => ?_)
    refine zV_b (pc' := 255) (lv' := [(0, .inr (.inr p0)), (1, .inl p1), (3, .inr (.inl p3)), (7, .inl l7)]) (st' := [.inr (.inr p0), .inl p1, .inl v51, .inl (4 : Int32), .inr (.inr p0)]) [(.iload_n 1, 1), (.aload_n 0, 1)] (by decide +kernel) rfl ?_
    refine zV_gr (by decide +kernel) zfl_RX12_93 (by decide) rfl h (fun v52 _ h => ?_)
    refine zV_b (pc' := 260) (lv' := [(0, .inr (.inr p0)), (1, .inl p1), (3, .inr (.inl p3)), (7, .inl l7)]) (st' := [.inl l7, .inr (.inr v52), .inl p1, .inl v51, .inl (4 : Int32), .inr (.inr p0)]) [(.iload 7, 2)] (by decide +kernel) rfl ?_
    refine zV_aj (by decide +kernel) h (fun v53 _ h => ?_)
    refine zV_cvv (As := [.inl (4 : Int32), .inl v51, .inl p1, .inr (.inl v53)]) (st := []) (c := 13) (by decide +kernel) (zcl_X12_enter (by decide) (by decide)) ⟨zw_1787, zw_1789, zw_77⟩ ⟨⟨_, _, rfl⟩, by decide⟩ rfl rfl (Nat.le_of_ble_eq_true rfl) h (fun _ _ e => zc_X12_enter e) (fun M54 _ _ h => ?_)
    refine zV_b (pc' := 267) (lv' := [(7, .inl (l7 + 1)), (0, .inr (.inr p0)), (1, .inl p1), (3, .inr (.inl p3))]) (st' := []) [(.iinc 7 1, 3)] (by decide +kernel) rfl ?_
    refine zV_goto (off := (-32)) (tgt := 235) (by decide +kernel) (by decide) ?_
    exact zV_lv (lv' := [(0, .inr (.inr p0)), (1, .inl p1), (3, .inr (.inl p3)), (7, .inl (l7 + 1))]) [1, 2, 3, 0] rfl (k1 _ (Option.some.inj h).symm)
set_option maxRecDepth 100000 in
theorem zt_X12_blend_J64 {X : Zx} {M : Zm} {l0 : Option Nat} {z : Zm × Int64} (h : zf_X12_blend_J64 M l0 = some z) (hR : zRj X zC_X12_blend z.1 z.2) : zV X zC_X12_blend M 64 [(0, .inr (.inr l0))] [] := by
  unfold zf_X12_blend_J64 at h
  refine zV_b (pc' := 67) (lv' := [(0, .inr (.inr l0))]) (st' := [.inl (9 : Int32), .inr (.inr l0)]) [(.aload_n 0, 1), (.bipush 9, 2)] (by decide +kernel) rfl ?_
  refine zV_cvj (As := [.inl (9 : Int32)]) (st := []) (c := 13) (by decide +kernel) (zcl_X12_no (by decide) (by decide)) ⟨zw_1677, zw_1679, zw_59⟩ ⟨⟨_, _, rfl⟩, by decide⟩ rfl rfl (Nat.le_of_ble_eq_true rfl) h (fun _ _ e => zc_X12_no e) (fun M61 v61 _ h => ?_)
  exact zend_j h hR (by decide +kernel)
set_option maxRecDepth 100000 in
theorem zt_X12_blend {X : Zx} {M : Zm} {l0 : Option Nat} {l1 : Int32} {z : Zm × Int64} (h : zf_X12_blend M l0 l1 = some z) (hR : zRj X zC_X12_blend z.1 z.2) : zV X zC_X12_blend M 0 [(0, .inr (.inr l0)), (1, .inl l1)] [] := by
  unfold zf_X12_blend at h
  refine zV_b (pc' := 1) (lv' := [(0, .inr (.inr l0)), (1, .inl l1)]) (st' := [.inr (.inr l0)]) [(.aload_n 0, 1)] (by decide +kernel) rfl ?_
  refine zV_cvv (As := []) (st := []) (c := 13) (by decide +kernel) (zcl_X12_begin (by decide) (by decide)) ⟨zw_1673, zw_1675, zw_58⟩ ⟨⟨_, _, rfl⟩, by decide⟩ rfl rfl (Nat.le_of_ble_eq_true rfl) h (fun _ _ e => zc_X12_begin e) (fun M1 _ _ h => ?_)
  refine zV_b (pc' := 5) (lv' := [(0, .inr (.inr l0)), (1, .inl l1)]) (st' := [.inr (.inr l0)]) [(.aload_n 0, 1)] (by decide +kernel) rfl ?_
  refine zV_gi (by decide +kernel) zfl_RX12_334 (by decide) rfl (Or.inl rfl) h (fun v2 _ h => ?_)
  refine zV_if_ne (off := 10) (tgt := 18) (by decide +kernel) (by decide) h (fun c3 h => ?_) (fun c3 h => ?_)
  · refine zV_b (pc' := 14) (lv' := [(0, .inr (.inr l0)), (1, .inl l1)]) (st' := [.inl (10 : Int32), .inr (.inr l0)]) [(.aload_n 0, 1), (.bipush 10, 2)] (by decide +kernel) rfl ?_
    refine zV_cvj (As := [.inl (10 : Int32)]) (st := []) (c := 13) (by decide +kernel) (zcl_X12_no (by decide) (by decide)) ⟨zw_1677, zw_1679, zw_59⟩ ⟨⟨_, _, rfl⟩, by decide⟩ rfl rfl (Nat.le_of_ble_eq_true rfl) h (fun _ _ e => zc_X12_no e) (fun M4 v4 _ h => ?_)
    exact zend_j h hR (by decide +kernel)
  · refine zV_b (pc' := 20) (lv' := [(0, .inr (.inr l0)), (1, .inl l1)]) (st' := [.inl l1, .inr (.inr l0)]) [(.aload_n 0, 1), (.iload_n 1, 1)] (by decide +kernel) rfl ?_
    refine zV_cvi (As := [.inl l1]) (st := []) (c := 13) (by decide +kernel) (zcl_X12_lookedVessel (by decide) (by decide)) ⟨zw_1699, zw_1701, zw_62⟩ ⟨⟨_, _, rfl⟩, by decide⟩ rfl rfl (Nat.le_of_ble_eq_true rfl) h (fun _ _ e => zc_X12_lookedVessel e) (fun M6 v6 _ h => ?_)
    refine zV_b (pc' := 25) (lv' := [(2, .inl v6), (0, .inr (.inr l0)), (1, .inl l1)]) (st' := [.inl v6]) [(.istore_n 2, 1), (.iload_n 2, 1)] (by decide +kernel) rfl ?_
    refine zV_if_le (off := 9) (tgt := 34) (by decide +kernel) (by decide) h (fun c7 h => ?_) (fun c7 h => ?_)
    · refine zV_b (pc' := 36) (lv' := [(2, .inl v6), (0, .inr (.inr l0)), (1, .inl l1)]) (st' := [.inl l1, .inr (.inr l0)]) [(.aload_n 0, 1), (.iload_n 1, 1)] (by decide +kernel) rfl ?_
      refine zV_cvi (As := [.inl l1]) (st := []) (c := 13) (by decide +kernel) (zcl_X12_isPicked (by decide) (by decide)) ⟨zw_1827, zw_1829, zw_84⟩ ⟨⟨_, _, rfl⟩, by decide⟩ rfl rfl (Nat.le_of_ble_eq_true rfl) h (fun _ _ e => zc_X12_isPicked e) (fun M8 v8 _ h => ?_)
      refine zV_if_eq (off := 10) (tgt := 49) (by decide +kernel) (by decide) h (fun c9 h => ?_) (fun c9 h => ?_)
      · refine zV_b (pc' := 51) (lv' := [(2, .inl v6), (0, .inr (.inr l0)), (1, .inl l1)]) (st' := [.inl l1, .inr (.inr l0)]) [(.aload_n 0, 1), (.iload_n 1, 1)] (by decide +kernel) rfl ?_
        refine zV_cvi (As := [.inl l1]) (st := []) (c := 13) (by decide +kernel) (zcl_X12_isInCask (by decide) (by decide)) ⟨zw_1739, zw_1741, zw_66⟩ ⟨⟨_, _, rfl⟩, by decide⟩ rfl rfl (Nat.le_of_ble_eq_true rfl) h (fun _ _ e => zc_X12_isInCask e) (fun M10 v10 _ h => ?_)
        refine zV_if_ne (off := 10) (tgt := 64) (by decide +kernel) (by decide) h (fun c11 h => ?_) (fun c11 h => ?_)
        · refine zV_b (pc' := 58) (lv' := [(2, .inl v6), (0, .inr (.inr l0)), (1, .inl l1)]) (st' := [.inr (.inr l0)]) [(.aload_n 0, 1)] (by decide +kernel) rfl ?_
          refine zV_cvi (As := []) (st := []) (c := 13) (by decide +kernel) (zcl_X12_isOneInCask (by decide) (by decide)) ⟨zw_1839, zw_1841, zw_85⟩ ⟨⟨_, _, rfl⟩, by decide⟩ rfl rfl (Nat.le_of_ble_eq_true rfl) h (fun _ _ e => zc_X12_isOneInCask e) (fun M12 v12 _ h => ?_)
          refine zV_if_eq (off := 10) (tgt := 71) (by decide +kernel) (by decide) h (fun c13 h => ?_) (fun c13 h => ?_)
          · refine zV_b (pc' := 76) (lv' := [(5, .inl (0 : Int32)), (3, .inr (.inl (0 : Int64))), (2, .inl v6), (0, .inr (.inr l0)), (1, .inl l1)]) (st' := []) [(.lconst 0, 1), (.lstore_n 3, 1), (.iconst 0, 1), (.istore 5, 2)] (by decide +kernel) rfl ?_
            obtain ⟨y27, e27, h⟩ := zb1_inv h
            refine zV_lv (lv' := [(0, .inr (.inr l0)), (1, .inl l1), (3, .inr (.inl (0 : Int64))), (5, .inl (0 : Int32))]) [3, 4, 1, 0] rfl (zt_X12_blend_L76 e27 ?_)
            rcases y27 with ⟨M76_27, l3_27, l5_27⟩ | ⟨Mq, xq⟩
            · show zV X zC_X12_blend M76_27 134 [(0, .inr (.inr l0)), (1, .inl l1), (3, .inr (.inl l3_27))] []
              refine zV_b (pc' := 136) (lv' := [(0, .inr (.inr l0)), (1, .inl l1), (3, .inr (.inl l3_27))]) (st' := [.inl l1, .inr (.inr l0)]) [(.aload_n 0, 1), (.iload_n 1, 1)] (by decide +kernel) rfl ?_
              refine zV_cvj (As := [.inl l1]) (st := []) (c := 13) (by decide +kernel) (zcl_X12_most (by decide) (by decide)) ⟨zw_1743, zw_1745, zw_67⟩ ⟨⟨_, _, rfl⟩, by decide⟩ rfl rfl (Nat.le_of_ble_eq_true rfl) h (fun _ _ e => zc_X12_most e) (fun M28 v28 _ h => ?_)
              refine zV_b (pc' := 143) (lv' := [(5, .inr (.inl v28)), (0, .inr (.inr l0)), (1, .inl l1), (3, .inr (.inl l3_27))]) (st' := [.inl l1, .inr (.inr l0)]) [(.lstore 5, 2), (.aload_n 0, 1), (.iload_n 1, 1)] (by decide +kernel) rfl ?_
              refine zV_cvj (As := [.inl l1]) (st := []) (c := 13) (by decide +kernel) (zcl_X12_inVessel (by decide) (by decide)) ⟨zw_1759, zw_1761, zw_70⟩ ⟨⟨_, _, rfl⟩, by decide⟩ rfl rfl (Nat.le_of_ble_eq_true rfl) h (fun _ _ e => zc_X12_inVessel e) (fun M29 v29 _ h => ?_)
              refine zV_b (pc' := 150) (lv' := [(5, .inr (.inl v28)), (0, .inr (.inr l0)), (1, .inl l1), (3, .inr (.inl l3_27))]) (st' := [.inr (.inl v28), .inr (.inl (v29 + l3_27))]) [(.lload_n 3, 1), (.ladd, 1), (.lload 5, 2)] (by decide +kernel) rfl ?_
              refine zV_lcmp_le (off := 10) (tgt := 161) (by decide +kernel) (by decide +kernel) (by decide) h (fun c30 h => ?_) (fun c30 h => ?_)
              · refine zV_b (pc' := 163) (lv' := [(5, .inr (.inl v28)), (0, .inr (.inr l0)), (1, .inl l1), (3, .inr (.inl l3_27))]) (st' := [.inl (0 : Int32), .inr (.inr l0)]) [(.aload_n 0, 1), (.iconst 0, 1)] (by decide +kernel) rfl ?_
                refine zV_pi (by decide +kernel) zfp_RX12_247 (by decide) rfl h (fun M31 _ h => ?_)
                refine zV_b (pc' := 169) (lv' := [(7, .inl (0 : Int32)), (5, .inr (.inl v28)), (0, .inr (.inr l0)), (1, .inl l1), (3, .inr (.inl l3_27))]) (st' := []) [(.iconst 0, 1), (.istore 7, 2)] (by decide +kernel) rfl ?_
                obtain ⟨y40, e40, h⟩ := zb1_inv h
                refine zV_lv (lv' := [(0, .inr (.inr l0)), (1, .inl l1), (3, .inr (.inl l3_27)), (7, .inl (0 : Int32))]) [2, 3, 4, 0] rfl (zt_X12_blend_L169 e40 ?_)
                obtain ⟨M169_40, l7_40⟩ := y40
                show zV X zC_X12_blend M169_40 203 [(0, .inr (.inr l0)), (1, .inl l1), (3, .inr (.inl l3_27))] []
                refine zV_b (pc' := 205) (lv' := [(0, .inr (.inr l0)), (1, .inl l1), (3, .inr (.inl l3_27))]) (st' := [.inl l1, .inr (.inr l0)]) [(.aload_n 0, 1), (.iload_n 1, 1)] (by decide +kernel) rfl ?_
                refine zV_cvi (As := [.inl l1]) (st := []) (c := 13) (by decide +kernel) (zcl_X12_mixInto (by decide) (by decide)) ⟨zw_1763, zw_1765, zw_71⟩ ⟨⟨_, _, rfl⟩, by decide⟩ rfl rfl (Nat.le_of_ble_eq_true rfl) h (fun _ _ e => zc_X12_mixInto e) (fun M41 v41 _ h => ?_)
                refine zV_if_ne (off := 10) (tgt := 218) (by decide +kernel) (by decide) h (fun c42 h => ?_) (fun c42 h => ?_)
                · refine zV_b (pc' := 214) (lv' := [(0, .inr (.inr l0)), (1, .inl l1), (3, .inr (.inl l3_27))]) (st' := [.inl (12 : Int32), .inr (.inr l0)]) [(.aload_n 0, 1), (.bipush 12, 2)] (by decide +kernel) rfl ?_
                  refine zV_cvj (As := [.inl (12 : Int32)]) (st := []) (c := 13) (by decide +kernel) (zcl_X12_no (by decide) (by decide)) ⟨zw_1677, zw_1679, zw_59⟩ ⟨⟨_, _, rfl⟩, by decide⟩ rfl rfl (Nat.le_of_ble_eq_true rfl) h (fun _ _ e => zc_X12_no e) (fun M43 v43 _ h => ?_)
                  exact zend_j h hR (by decide +kernel)
                · refine zV_b (pc' := 219) (lv' := [(0, .inr (.inr l0)), (1, .inl l1), (3, .inr (.inl l3_27))]) (st' := [.inr (.inr l0)]) [(.aload_n 0, 1)] (by decide +kernel) rfl ?_
                  refine zV_cvv (As := []) (st := []) (c := 13) (by decide +kernel) (zcl_X12_keep (by decide) (by decide)) ⟨zw_1681, zw_1683, zw_60⟩ ⟨⟨_, _, rfl⟩, by decide⟩ rfl rfl (Nat.le_of_ble_eq_true rfl) h (fun _ _ e => zc_X12_keep e) (fun M45 _ _ h => ?_)
                  refine zV_b (pc' := 224) (lv' := [(0, .inr (.inr l0)), (1, .inl l1), (3, .inr (.inl l3_27))]) (st' := [.inl (-1 : Int32), .inr (.inr l0)]) [(.aload_n 0, 1), (.iconst (-1), 1)] (by decide +kernel) rfl ?_
                  refine zV_cvv (As := [.inl (-1 : Int32)]) (st := []) (c := 13) (by decide +kernel) (zcl_X12_takeDraws (by decide) (by decide)) ⟨zw_1811, zw_1813, zw_82⟩ ⟨⟨_, _, rfl⟩, by decide⟩ rfl rfl (Nat.le_of_ble_eq_true rfl) h (fun _ _ e => zc_X12_takeDraws e) (fun M46 _ _ h => ?_)
                  refine zV_b (pc' := 229) (lv' := [(0, .inr (.inr l0)), (1, .inl l1), (3, .inr (.inl l3_27))]) (st' := [.inl l1, .inr (.inr l0)]) [(.aload_n 0, 1), (.iload_n 1, 1)] (by decide +kernel) rfl ?_
                  refine zV_cvv (As := [.inl l1]) (st := []) (c := 13) (by decide +kernel) (zcl_X12_become (by decide) (by decide)) ⟨zw_1779, zw_1781, zw_75⟩ ⟨⟨_, _, rfl⟩, by decide⟩ rfl rfl (Nat.le_of_ble_eq_true rfl) h (fun _ _ e => zc_X12_become e) (fun M47 _ _ h => ?_)
                  refine zV_b (pc' := 235) (lv' := [(7, .inl (0 : Int32)), (0, .inr (.inr l0)), (1, .inl l1), (3, .inr (.inl l3_27))]) (st' := []) [(.iconst 0, 1), (.istore 7, 2)] (by decide +kernel) rfl ?_
                  obtain ⟨y56, e56, h⟩ := zb1_inv h
                  refine zV_lv (lv' := [(0, .inr (.inr l0)), (1, .inl l1), (3, .inr (.inl l3_27)), (7, .inl (0 : Int32))]) [1, 2, 3, 0] rfl (zt_X12_blend_L235 e56 ?_)
                  obtain ⟨M235_56, l7_56⟩ := y56
                  show zV X zC_X12_blend M235_56 270 [(0, .inr (.inr l0)), (3, .inr (.inl l3_27))] []
                  refine zV_b (pc' := 272) (lv' := [(0, .inr (.inr l0)), (3, .inr (.inl l3_27))]) (st' := [.inl (0 : Int32), .inr (.inr l0)]) [(.aload_n 0, 1), (.iconst 0, 1)] (by decide +kernel) rfl ?_
                  refine zV_pi (by decide +kernel) zfp_RX12_334 (by decide) rfl h (fun M57 _ h => ?_)
                  refine zV_b (pc' := 276) (lv' := [(0, .inr (.inr l0)), (3, .inr (.inl l3_27))]) (st' := [.inr (.inl l3_27)]) [(.lload_n 3, 1)] (by decide +kernel) rfl ?_
                  exact zend_j h hR (by decide +kernel)
              · refine zV_b (pc' := 157) (lv' := [(5, .inr (.inl v28)), (0, .inr (.inr l0)), (1, .inl l1), (3, .inr (.inl l3_27))]) (st' := [.inl (11 : Int32), .inr (.inr l0)]) [(.aload_n 0, 1), (.bipush 11, 2)] (by decide +kernel) rfl ?_
                refine zV_cvj (As := [.inl (11 : Int32)]) (st := []) (c := 13) (by decide +kernel) (zcl_X12_no (by decide) (by decide)) ⟨zw_1677, zw_1679, zw_59⟩ ⟨⟨_, _, rfl⟩, by decide⟩ rfl rfl (Nat.le_of_ble_eq_true rfl) h (fun _ _ e => zc_X12_no e) (fun M59 v59 _ h => ?_)
                exact zend_j h hR (by decide +kernel)
            · cases h
              exact hR
          · exact zV_lv (lv' := [(0, .inr (.inr l0))]) [1] rfl (zt_X12_blend_J64 h hR)
        · exact zV_lv (lv' := [(0, .inr (.inr l0))]) [1] rfl (zt_X12_blend_J64 h hR)
      · refine zV_b (pc' := 45) (lv' := [(2, .inl v6), (0, .inr (.inr l0)), (1, .inl l1)]) (st' := [.inl (13 : Int32), .inr (.inr l0)]) [(.aload_n 0, 1), (.bipush 13, 2)] (by decide +kernel) rfl ?_
        refine zV_cvj (As := [.inl (13 : Int32)]) (st := []) (c := 13) (by decide +kernel) (zcl_X12_no (by decide) (by decide)) ⟨zw_1677, zw_1679, zw_59⟩ ⟨⟨_, _, rfl⟩, by decide⟩ rfl rfl (Nat.le_of_ble_eq_true rfl) h (fun _ _ e => zc_X12_no e) (fun M63 v63 _ h => ?_)
        exact zend_j h hR (by decide +kernel)
    · refine zV_b (pc' := 30) (lv' := [(2, .inl v6), (0, .inr (.inr l0)), (1, .inl l1)]) (st' := [.inl v6, .inr (.inr l0)]) [(.aload_n 0, 1), (.iload_n 2, 1)] (by decide +kernel) rfl ?_
      refine zV_cvj (As := [.inl v6]) (st := []) (c := 13) (by decide +kernel) (zcl_X12_no (by decide) (by decide)) ⟨zw_1677, zw_1679, zw_59⟩ ⟨⟨_, _, rfl⟩, by decide⟩ rfl rfl (Nat.le_of_ble_eq_true rfl) h (fun _ _ e => zc_X12_no e) (fun M65 v65 _ h => ?_)
      exact zend_j h hR (by decide +kernel)
theorem zc_X12_blend {M M' : Zm} {l0 : Option Nat} {l1 : Int32} {x : Int64} (h : zf_X12_blend M l0 l1 = some (M', x)) (l : Launch) (D : va_G) (cy : Nat → ClassId) : zMet l yX12_blend zC_X12_blend (some .long) D cy [.inr (.inr l0), .inl l1] M M' (some (.inr (.inl x))) :=
  zM_j (by decide) rfl (fun h => by cases h) (Nat.le_of_ble_eq_true rfl) (fun X hR => zt_X12_blend h hR)
-- BlendCellarModel.isAmount(J)Z
def zC_X12_isAmount : Zc := (cX12_isAmount, 3, RX12, 0, 0, false)
theorem zcl_X12_isAmount {C : Zc} (h1 : zC_X12_isAmount.2.2.2.1 + 1 ≤ C.2.2.2.1) (h2 : 8 + (zC_X12_isAmount.2.1 + 11) + zC_X12_isAmount.2.2.2.2.1 ≤ C.2.2.2.2.1) : zCl C yX12_isAmount zC_X12_isAmount (some .boolean) 1 := ⟨zw_1737, zw_114, ⟨by decide, by decide⟩, by decide +kernel, h1, h2⟩
noncomputable def zf_X12_isAmount (M : Zm) (l0 : Option Nat) (l1 : Int64) : Option (Zm × Int32) :=
  (if l1 < (1 : Int64) then
  zb1 (zo_b (0 : Int32)) (fun w => some (M, w))
  else
  (if (1000000000 : Int64) < l1 then
  zb1 (zo_b (0 : Int32)) (fun w => some (M, w))
  else
  zb1 (zo_b (1 : Int32)) (fun w => some (M, w))))
set_option maxRecDepth 100000 in
theorem zt_X12_isAmount {X : Zx} {M : Zm} {l0 : Option Nat} {l1 : Int64} {z : Zm × Int32} (h : zf_X12_isAmount M l0 l1 = some z) (hR : zRz X zC_X12_isAmount z.1 z.2) : zV X zC_X12_isAmount M 0 [(0, .inr (.inr l0)), (1, .inr (.inl l1))] [] := by
  unfold zf_X12_isAmount at h
  refine zV_b (pc' := 2) (lv' := [(0, .inr (.inr l0)), (1, .inr (.inl l1))]) (st' := [.inr (.inl (1 : Int64)), .inr (.inl l1)]) [(.lload_n 1, 1), (.lconst 1, 1)] (by decide +kernel) rfl ?_
  refine zV_lcmp_lt (off := 15) (tgt := 18) (by decide +kernel) (by decide +kernel) (by decide) h (fun c1 h => ?_) (fun c1 h => ?_)
  · refine zV_b (pc' := 19) (lv' := [(0, .inr (.inr l0)), (1, .inr (.inl l1))]) (st' := [.inl (0 : Int32)]) [(.iconst 0, 1)] (by decide +kernel) rfl ?_
    exact zend_z h hR (by decide +kernel)
  · refine zV_b (pc' := 7) (lv' := [(0, .inr (.inr l0)), (1, .inr (.inl l1))]) (st' := [.inr (.inl l1)]) [(.lload_n 1, 1)] (by decide +kernel) rfl ?_
    refine zV_ldc2 (by decide +kernel) zw_1738 ?_
    refine zV_lcmp_gt (off := 7) (tgt := 18) (by decide +kernel) (by decide +kernel) (by decide) h (fun c4 h => ?_) (fun c4 h => ?_)
    · refine zV_b (pc' := 19) (lv' := [(0, .inr (.inr l0)), (1, .inr (.inl l1))]) (st' := [.inl (0 : Int32)]) [(.iconst 0, 1)] (by decide +kernel) rfl ?_
      exact zend_z h hR (by decide +kernel)
    · refine zV_b (pc' := 15) (lv' := [(0, .inr (.inr l0)), (1, .inr (.inl l1))]) (st' := [.inl (1 : Int32)]) [(.iconst 1, 1)] (by decide +kernel) rfl ?_
      refine zV_goto (off := 4) (tgt := 19) (by decide +kernel) (by decide) ?_
      exact zend_z h hR (by decide +kernel)
theorem zc_X12_isAmount {M M' : Zm} {l0 : Option Nat} {l1 : Int64} {x : Int32} (h : zf_X12_isAmount M l0 l1 = some (M', x)) (l : Launch) (D : va_G) (cy : Nat → ClassId) : zMet l yX12_isAmount zC_X12_isAmount (some .boolean) D cy [.inr (.inr l0), .inr (.inl l1)] M M' (some (.inl x)) :=
  zM_b (by decide) rfl (fun h => by cases h) (Nat.le_of_ble_eq_true rfl) (fun X hR => zt_X12_isAmount h hR)
