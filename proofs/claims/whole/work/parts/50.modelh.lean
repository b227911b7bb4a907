/-! What the bytecode does, as functions of the memory, and the walks (written by wip/gen.py). -/
-- BlendCellarModel.judge(II)J
def zC_X12_judge : Zc := (cX12_judge, 5, RX12, 34, 815, false)
theorem zcl_X12_judge {C : Zc} (h1 : zC_X12_judge.2.2.2.1 + 1 ≤ C.2.2.2.1) (h2 : 8 + (zC_X12_judge.2.1 + 11) + zC_X12_judge.2.2.2.2.1 ≤ C.2.2.2.2.1) : zCl C yX12_judge zC_X12_judge (some .long) 2 := ⟨zw_1905, zw_114, ⟨by decide, by decide⟩, by decide +kernel, h1, h2⟩
noncomputable def zf_X12_judge_L58 (p0 : Option Nat) (p1 : Int32) (p2 : Int32) (x : Zm × Int32) : Option ((Zm × Int32) ⊕ (Zm × Int32)) := match x with
  | (M, l4) =>
  zb1 (zo_gr M p0 13 6) (fun v11 =>
  zb1 (zo_ai M v11 p1) (fun v12 =>
  (if v12 ≤ l4 then
  some (.inr (M, l4))
  else
  zb1 (zo_gr M p0 13 7) (fun v14 =>
  zb1 (zo_ai M v14 (((4 : Int32) * p1) + l4)) (fun v15 =>
  zb1 (zo_rc M p0 13) (fun _ => zbd (zf_X12_mixVessel M p0 v15) (fun M16 _ =>
  some (.inl (M16, (l4 + 1))))))))))
def zP_X12_judge_L58 (X : Zx) (p0 : Option Nat) (p1 : Int32) (p2 : Int32) (x : Zm × Int32) : Prop := match x with
  | (M, l4) => zV X zC_X12_judge M 58 [(0, .inr (.inr p0)), (1, .inl p1), (2, .inl p2), (4, .inl l4)] []
def zK_X12_judge_L58 (X : Zx) (p0 : Option Nat) (p1 : Int32) (p2 : Int32) (y : Zm × Int32) : Prop := match y with
  | (M, l4) => zV X zC_X12_judge M 90 [(0, .inr (.inr p0)), (1, .inl p1), (2, .inl p2)] []
noncomputable def zf_X12_judge_J55 (M : Zm) (l0 : Option Nat) (l1 : Int32) (l2 : Int32) : Option (Zm × Int64) :=
  zb1 (zwhile (zf_X12_judge_L58 l0 l1 l2) (M, (0 : Int32))) (fun y18 => match y18 with
  | (M58_18, l4_18) =>
  zb1 (zo_gr M58_18 l0 13 68) (fun v19 =>
  zb1 (zo_rc M58_18 l0 13) (fun _ => zbd (zf_X12_sharesOfMix M58_18 l0 v19 (0 : Int32)) (fun M20 _ =>
  zb1 (zo_rc M20 l0 13) (fun _ => zbd (zf_X12_inAll M20 l0 l1) (fun M21 v21 =>
  zb1 (zo_pj M21 l0 13 67 v21) (fun M22 =>
  zb1 (zo_rc M22 l0 13) (fun _ => zbd (zf_X12_holdsAll M22 l0 l2) (fun M23 v23 =>
  zb1 (zo_gi M23 l0 13 69) (fun v24 =>
  zb1 (zo_pi M23 l0 13 40 v24) (fun M25 =>
  (if 0 ≤ v23 then
  some (M25, (v23.toInt64))
  else
  zb1 (zo_rc M25 l0 13) (fun _ => zbd (zf_X12_no M25 l0 (5 : Int32)) (fun M28 v28 =>
  some (M28, v28)))))))))))))))
noncomputable def zf_X12_judge_J25 (M : Zm) (l0 : Option Nat) (l1 : Int32) (l2 : Int32) (l3 : Int32) : Option (Zm × Int64) :=
  (if l3 ≤ 0 then
  zb1 (zo_pi M l0 13 64 (0 : Int32)) (fun M7 =>
  zb1 (zo_gr M7 l0 13 2) (fun v8 =>
  zb1 (zo_ai M7 v8 l1) (fun v9 =>
  (if v9 = (5 : Int32) then
  zf_X12_judge_J55 M7 l0 l1 l2
  else
  zb1 (zo_rc M7 l0 13) (fun _ => zbd (zf_X12_mixVessel M7 l0 l1) (fun M31 _ =>
  zf_X12_judge_J55 M31 l0 l1 l2))))))
  else
  zb1 (zo_rc M l0 13) (fun _ => zbd (zf_X12_no M l0 l3) (fun M32 v32 =>
  some (M32, v32))))
noncomputable def zf_X12_judge (M : Zm) (l0 : Option Nat) (l1 : Int32) (l2 : Int32) : Option (Zm × Int64) :=
  zb1 (zo_rc M l0 13) (fun _ => zbd (zf_X12_begin M l0) (fun M1 _ =>
  zb1 (zo_pi M1 l0 13 40 (-1 : Int32)) (fun M2 =>
  zb1 (zo_rc M2 l0 13) (fun _ => zbd (zf_X12_looked M2 l0 l1) (fun M3 v3 =>
  (if v3 = 0 then
  zb1 (zo_rc M3 l0 13) (fun _ => zbd (zf_X12_lookedLabel M3 l0 l2) (fun M5 v5 =>
  zf_X12_judge_J25 M5 l0 l1 l2 v5))
  else
  zf_X12_judge_J25 M3 l0 l1 l2 v3))))))
set_option maxRecDepth 100000 in
theorem zt_X12_judge_L58 {X : Zx} {p0 : Option Nat} {p1 : Int32} {p2 : Int32} {x : Zm × Int32} {y : Zm × Int32} (h : zwhile (zf_X12_judge_L58 p0 p1 p2) x = some y) (hy : zK_X12_judge_L58 X p0 p1 p2 y) : zP_X12_judge_L58 X p0 p1 p2 x := by
  refine zwhile_ind (P := zP_X12_judge_L58 X p0 p1 p2) (K := zK_X12_judge_L58 X p0 p1 p2) ?_ h hy
  intro x z hf k1 k2
  obtain ⟨M, l4⟩ := x
  have h : zf_X12_judge_L58 p0 p1 p2 (M, l4) = some z := hf
  unfold zf_X12_judge_L58 at h
  show zV X zC_X12_judge M 58 [(0, .inr (.inr p0)), (1, .inl p1), (2, .inl p2), (4, .inl l4)] []
  refine zV_b (pc' := 61) (lv' := [(0, .inr (.inr p0)), (1, .inl p1), (2, .inl p2), (4, .inl l4)]) (st' := [.inr (.inr p0), .inl l4]) [(.iload 4, 2), (.aload_n 0, 1)] (by decide +kernel) rfl ?_
  refine zV_gr (by decide +kernel) zfl_RX12_22 (by decide) rfl h (fun v11 _ h => ?_)
  refine zV_b (pc' := 65) (lv' := [(0, .inr (.inr p0)), (1, .inl p1), (2, .inl p2), (4, .inl l4)]) (st' := [.inl p1, .inr (.inr v11), .inl l4]) [(.iload_n 1, 1)] (by decide +kernel) rfl ?_
  refine zV_ai (by decide +kernel) h (fun v12 _ h => ?_)
  refine zV_icmp_ge (off := 24) (tgt := 90) (by decide +kernel) (by decide) h (fun c13 h => ?_) (fun c13 h => ?_)
  · exact zV_lv (lv' := [(0, .inr (.inr p0)), (1, .inl p1), (2, .inl p2)]) [0, 1, 2] rfl (k2 _ (Option.some.inj h).symm)
  · refine zV_b (pc' := 71) (lv' := [(0, .inr (.inr p0)), (1, .inl p1), (2, .inl p2), (4, .inl l4)]) (st' := [.inr (.inr p0), .inr (.inr p0)]) [(.aload_n 0, 1), (.aload_n 0, 1)] (by decide +kernel) rfl ?_
    refine zV_gr (by decide +kernel) zfl_RX12_25 (by decide) rfl h (fun v14 _ h => ?_)
    refine zV_b (pc' := 80) (lv' := [(0, .inr (.inr p0)), (1, .inl p1), (2, .inl p2), (4, .inl l4)]) (st' := [.inl (((4 : Int32) * p1) + l4), .inr (.inr v14), .inr (.inr p0)]) [(.iconst 4, 1), (.iload_n 1, 1), (.imul, 1), (.iload 4, 2), (.iadd, 1)] (by decide +kernel) rfl ?_
    refine zV_ai (by decide +kernel) h (fun v15 _ h => ?_)
    refine zV_cvv (As := [.inl v15]) (st := []) (c := 13) (by decide +kernel) (zcl_X12_mixVessel (by decide) (by decide)) ⟨zw_1906, zw_1908, zw_91⟩ ⟨⟨_, _, rfl⟩, by decide⟩ rfl rfl (Nat.le_of_ble_eq_true rfl) h (fun _ _ e => zc_X12_mixVessel e) (fun M16 _ _ h => ?_)
    refine zV_b (pc' := 87) (lv' := [(4, .inl (l4 + 1)), (0, .inr (.inr p0)), (1, .inl p1), (2, .inl p2)]) (st' := []) [(.iinc 4 1, 3)] (by decide +kernel) rfl ?_
    refine zV_goto (off := (-29)) (tgt := 58) (by decide +kernel) (by decide) ?_
    exact zV_lv (lv' := [(0, .inr (.inr p0)), (1, .inl p1), (2, .inl p2), (4, .inl (l4 + 1))]) [1, 2, 3, 0] rfl (k1 _ (Option.some.inj h).symm)
set_option maxRecDepth 100000 in
theorem zt_X12_judge_J55 {X : Zx} {M : Zm} {l0 : Option Nat} {l1 : Int32} {l2 : Int32} {z : Zm × Int64} (h : zf_X12_judge_J55 M l0 l1 l2 = some z) (hR : zRj X zC_X12_judge z.1 z.2) : zV X zC_X12_judge M 55 [(0, .inr (.inr l0)), (1, .inl l1), (2, .inl l2)] [] := by
  unfold zf_X12_judge_J55 at h
  refine zV_b (pc' := 58) (lv' := [(4, .inl (0 : Int32)), (0, .inr (.inr l0)), (1, .inl l1), (2, .inl l2)]) (st' := []) [(.iconst 0, 1), (.istore 4, 2)] (by decide +kernel) rfl ?_
  obtain ⟨y18, e18, h⟩ := zb1_inv h
  refine zV_lv (lv' := [(0, .inr (.inr l0)), (1, .inl l1), (2, .inl l2), (4, .inl (0 : Int32))]) [1, 2, 3, 0] rfl (zt_X12_judge_L58 e18 ?_)
  obtain ⟨M58_18, l4_18⟩ := y18
  show zV X zC_X12_judge M58_18 90 [(0, .inr (.inr l0)), (1, .inl l1), (2, .inl l2)] []
  refine zV_b (pc' := 92) (lv' := [(0, .inr (.inr l0)), (1, .inl l1), (2, .inl l2)]) (st' := [.inr (.inr l0), .inr (.inr l0)]) [(.aload_n 0, 1), (.aload_n 0, 1)] (by decide +kernel) rfl ?_
  refine zV_gr (by decide +kernel) zfl_RX12_154 (by decide) rfl h (fun v19 _ h => ?_)
  refine zV_b (pc' := 96) (lv' := [(0, .inr (.inr l0)), (1, .inl l1), (2, .inl l2)]) (st' := [.inl (0 : Int32), .inr (.inr v19), .inr (.inr l0)]) [(.iconst 0, 1)] (by decide +kernel) rfl ?_
  refine zV_cvv (As := [.inr (.inr v19), .inl (0 : Int32)]) (st := []) (c := 13) (by decide +kernel) (zcl_X12_sharesOfMix (by decide) (by decide)) ⟨zw_1910, zw_1912, zw_92⟩ ⟨⟨_, _, rfl⟩, by decide⟩ rfl rfl (Nat.le_of_ble_eq_true rfl) h (fun _ _ e => zc_X12_sharesOfMix e) (fun M20 _ _ h => ?_)
  refine zV_b (pc' := 102) (lv' := [(0, .inr (.inr l0)), (1, .inl l1), (2, .inl l2)]) (st' := [.inl l1, .inr (.inr l0), .inr (.inr l0)]) [(.aload_n 0, 1), (.aload_n 0, 1), (.iload_n 1, 1)] (by decide +kernel) rfl ?_
  refine zV_cvj (As := [.inl l1]) (st := [.inr (.inr l0)]) (c := 13) (by decide +kernel) (zcl_X12_inAll (by decide) (by decide)) ⟨zw_1886, zw_1888, zw_89⟩ ⟨⟨_, _, rfl⟩, by decide⟩ rfl rfl (Nat.le_of_ble_eq_true rfl) h (fun _ _ e => zc_X12_inAll e) (fun M21 v21 _ h => ?_)
  refine zV_pj (by decide +kernel) zfp_RX12_367 (by decide) rfl h (fun M22 _ h => ?_)
  refine zV_b (pc' := 110) (lv' := [(0, .inr (.inr l0)), (1, .inl l1), (2, .inl l2)]) (st' := [.inl l2, .inr (.inr l0)]) [(.aload_n 0, 1), (.iload_n 2, 1)] (by decide +kernel) rfl ?_
  refine zV_cvi (As := [.inl l2]) (st := []) (c := 13) (by decide +kernel) (zcl_X12_holdsAll (by decide) (by decide)) ⟨zw_1914, zw_1916, zw_93⟩ ⟨⟨_, _, rfl⟩, by decide⟩ rfl rfl (Nat.le_of_ble_eq_true rfl) h (fun _ _ e => zc_X12_holdsAll e) (fun M23 v23 _ h => ?_)
  refine zV_b (pc' := 117) (lv' := [(4, .inl v23), (0, .inr (.inr l0)), (1, .inl l1), (2, .inl l2)]) (st' := [.inr (.inr l0), .inr (.inr l0)]) [(.istore 4, 2), (.aload_n 0, 1), (.aload_n 0, 1)] (by decide +kernel) rfl ?_
  refine zV_gi (by decide +kernel) zfl_RX12_373 (by decide) rfl (Or.inl rfl) h (fun v24 _ h => ?_)
  refine zV_pi (by decide +kernel) zfp_RX12_99 (by decide) rfl h (fun M25 _ h => ?_)
  refine zV_b (pc' := 125) (lv' := [(4, .inl v23), (0, .inr (.inr l0)), (1, .inl l1), (2, .inl l2)]) (st' := [.inl v23]) [(.iload 4, 2)] (by decide +kernel) rfl ?_
  refine zV_if_ge (off := 11) (tgt := 136) (by decide +kernel) (by decide) h (fun c26 h => ?_) (fun c26 h => ?_)
  · refine zV_b (pc' := 139) (lv' := [(4, .inl v23), (0, .inr (.inr l0)), (1, .inl l1), (2, .inl l2)]) (st' := [.inr (.inl (v23.toInt64))]) [(.iload 4, 2), (.i2l, 1)] (by decide +kernel) rfl ?_
    exact zend_j h hR (by decide +kernel)
  · refine zV_b (pc' := 130) (lv' := [(4, .inl v23), (0, .inr (.inr l0)), (1, .inl l1), (2, .inl l2)]) (st' := [.inl (5 : Int32), .inr (.inr l0)]) [(.aload_n 0, 1), (.iconst 5, 1)] (by decide +kernel) rfl ?_
    refine zV_cvj (As := [.inl (5 : Int32)]) (st := []) (c := 13) (by decide +kernel) (zcl_X12_no (by decide) (by decide)) ⟨zw_1677, zw_1679, zw_59⟩ ⟨⟨_, _, rfl⟩, by decide⟩ rfl rfl (Nat.le_of_ble_eq_true rfl) h (fun _ _ e => zc_X12_no e) (fun M28 v28 _ h => ?_)
    refine zV_goto (off := 6) (tgt := 139) (by decide +kernel) (by decide) ?_
    exact zend_j h hR (by decide +kernel)
set_option maxRecDepth 100000 in
theorem zt_X12_judge_J25 {X : Zx} {M : Zm} {l0 : Option Nat} {l1 : Int32} {l2 : Int32} {l3 : Int32} {z : Zm × Int64} (h : zf_X12_judge_J25 M l0 l1 l2 l3 = some z) (hR : zRj X zC_X12_judge z.1 z.2) : zV X zC_X12_judge M 25 [(0, .inr (.inr l0)), (1, .inl l1), (2, .inl l2), (3, .inl l3)] [] := by
  unfold zf_X12_judge_J25 at h
  refine zV_b (pc' := 26) (lv' := [(0, .inr (.inr l0)), (1, .inl l1), (2, .inl l2), (3, .inl l3)]) (st' := [.inl l3]) [(.iload_n 3, 1)] (by decide +kernel) rfl ?_
  refine zV_if_le (off := 9) (tgt := 35) (by decide +kernel) (by decide) h (fun c6 h => ?_) (fun c6 h => ?_)
  · refine zV_b (pc' := 37) (lv' := [(0, .inr (.inr l0)), (1, .inl l1), (2, .inl l2), (3, .inl l3)]) (st' := [.inl (0 : Int32), .inr (.inr l0)]) [(.aload_n 0, 1), (.iconst 0, 1)] (by decide +kernel) rfl ?_
    refine zV_pi (by decide +kernel) zfp_RX12_254 (by decide) rfl h (fun M7 _ h => ?_)
    refine zV_b (pc' := 41) (lv' := [(0, .inr (.inr l0)), (1, .inl l1), (2, .inl l2), (3, .inl l3)]) (st' := [.inr (.inr l0)]) [(.aload_n 0, 1)] (by decide +kernel) rfl ?_
    refine zV_gr (by decide +kernel) zfl_RX12_9 (by decide) rfl h (fun v8 _ h => ?_)
    refine zV_b (pc' := 45) (lv' := [(0, .inr (.inr l0)), (1, .inl l1), (2, .inl l2), (3, .inl l3)]) (st' := [.inl l1, .inr (.inr v8)]) [(.iload_n 1, 1)] (by decide +kernel) rfl ?_
    refine zV_ai (by decide +kernel) h (fun v9 _ h => ?_)
    refine zV_b (pc' := 47) (lv' := [(0, .inr (.inr l0)), (1, .inl l1), (2, .inl l2), (3, .inl l3)]) (st' := [.inl (5 : Int32), .inl v9]) [(.iconst 5, 1)] (by decide +kernel) rfl ?_
    refine zV_icmp_eq (off := 8) (tgt := 55) (by decide +kernel) (by decide) h (fun c10 h => ?_) (fun c10 h => ?_)
    · exact zV_lv (lv' := [(0, .inr (.inr l0)), (1, .inl l1), (2, .inl l2)]) [0, 1, 2] rfl (zt_X12_judge_J55 h hR)
    · refine zV_b (pc' := 52) (lv' := [(0, .inr (.inr l0)), (1, .inl l1), (2, .inl l2), (3, .inl l3)]) (st' := [.inl l1, .inr (.inr l0)]) [(.aload_n 0, 1), (.iload_n 1, 1)] (by decide +kernel) rfl ?_
      refine zV_cvv (As := [.inl l1]) (st := []) (c := 13) (by decide +kernel) (zcl_X12_mixVessel (by decide) (by decide)) ⟨zw_1906, zw_1908, zw_91⟩ ⟨⟨_, _, rfl⟩, by decide⟩ rfl rfl (Nat.le_of_ble_eq_true rfl) h (fun _ _ e => zc_X12_mixVessel e) (fun M31 _ _ h => ?_)
      exact zV_lv (lv' := [(0, .inr (.inr l0)), (1, .inl l1), (2, .inl l2)]) [0, 1, 2] rfl (zt_X12_judge_J55 h hR)
  · refine zV_b (pc' := 31) (lv' := [(0, .inr (.inr l0)), (1, .inl l1), (2, .inl l2), (3, .inl l3)]) (st' := [.inl l3, .inr (.inr l0)]) [(.aload_n 0, 1), (.iload_n 3, 1)] (by decide +kernel) rfl ?_
    refine zV_cvj (As := [.inl l3]) (st := []) (c := 13) (by decide +kernel) (zcl_X12_no (by decide) (by decide)) ⟨zw_1677, zw_1679, zw_59⟩ ⟨⟨_, _, rfl⟩, by decide⟩ rfl rfl (Nat.le_of_ble_eq_true rfl) h (fun _ _ e => zc_X12_no e) (fun M32 v32 _ h => ?_)
    exact zend_j h hR (by decide +kernel)
set_option maxRecDepth 100000 in
theorem zt_X12_judge {X : Zx} {M : Zm} {l0 : Option Nat} {l1 : Int32} {l2 : Int32} {z : Zm × Int64} (h : zf_X12_judge M l0 l1 l2 = some z) (hR : zRj X zC_X12_judge z.1 z.2) : zV X zC_X12_judge M 0 [(0, .inr (.inr l0)), (1, .inl l1), (2, .inl l2)] [] := by
  unfold zf_X12_judge at h
  refine zV_b (pc' := 1) (lv' := [(0, .inr (.inr l0)), (1, .inl l1), (2, .inl l2)]) (st' := [.inr (.inr l0)]) [(.aload_n 0, 1)] (by decide +kernel) rfl ?_
  refine zV_cvv (As := []) (st := []) (c := 13) (by decide +kernel) (zcl_X12_begin (by decide) (by decide)) ⟨zw_1673, zw_1675, zw_58⟩ ⟨⟨_, _, rfl⟩, by decide⟩ rfl rfl (Nat.le_of_ble_eq_true rfl) h (fun _ _ e => zc_X12_begin e) (fun M1 _ _ h => ?_)
  refine zV_b (pc' := 6) (lv' := [(0, .inr (.inr l0)), (1, .inl l1), (2, .inl l2)]) (st' := [.inl (-1 : Int32), .inr (.inr l0)]) [(.aload_n 0, 1), (.iconst (-1), 1)] (by decide +kernel) rfl ?_
  refine zV_pi (by decide +kernel) zfp_RX12_99 (by decide) rfl h (fun M2 _ h => ?_)
  refine zV_b (pc' := 11) (lv' := [(0, .inr (.inr l0)), (1, .inl l1), (2, .inl l2)]) (st' := [.inl l1, .inr (.inr l0)]) [(.aload_n 0, 1), (.iload_n 1, 1)] (by decide +kernel) rfl ?_
  refine zV_cvi (As := [.inl l1]) (st := []) (c := 13) (by decide +kernel) (zcl_X12_looked (by decide) (by decide)) ⟨zw_1711, zw_1713, zw_63⟩ ⟨⟨_, _, rfl⟩, by decide⟩ rfl rfl (Nat.le_of_ble_eq_true rfl) h (fun _ _ e => zc_X12_looked e) (fun M3 v3 _ h => ?_)
  refine zV_b (pc' := 16) (lv' := [(3, .inl v3), (0, .inr (.inr l0)), (1, .inl l1), (2, .inl l2)]) (st' := [.inl v3]) [(.istore_n 3, 1), (.iload_n 3, 1)] (by decide +kernel) rfl ?_
  refine zV_if_ne (off := 9) (tgt := 25) (by decide +kernel) (by decide) h (fun c4 h => ?_) (fun c4 h => ?_)
  · refine zV_b (pc' := 21) (lv' := [(3, .inl v3), (0, .inr (.inr l0)), (1, .inl l1), (2, .inl l2)]) (st' := [.inl l2, .inr (.inr l0)]) [(.aload_n 0, 1), (.iload_n 2, 1)] (by decide +kernel) rfl ?_
    refine zV_cvi (As := [.inl l2]) (st := []) (c := 13) (by decide +kernel) (zcl_X12_lookedLabel (by decide) (by decide)) ⟨zw_1898, zw_1900, zw_90⟩ ⟨⟨_, _, rfl⟩, by decide⟩ rfl rfl (Nat.le_of_ble_eq_true rfl) h (fun _ _ e => zc_X12_lookedLabel e) (fun M5 v5 _ h => ?_)
    refine zV_b (pc' := 25) (lv' := [(3, .inl v5), (0, .inr (.inr l0)), (1, .inl l1), (2, .inl l2)]) (st' := []) [(.istore_n 3, 1)] (by decide +kernel) rfl ?_
    exact zV_lv (lv' := [(0, .inr (.inr l0)), (1, .inl l1), (2, .inl l2), (3, .inl v5)]) [1, 2, 3, 0] rfl (zt_X12_judge_J25 h hR)
  · exact zV_lv (lv' := [(0, .inr (.inr l0)), (1, .inl l1), (2, .inl l2), (3, .inl v3)]) [1, 2, 3, 0] rfl (zt_X12_judge_J25 h hR)
theorem zc_X12_judge {M M' : Zm} {l0 : Option Nat} {l1 : Int32} {l2 : Int32} {x : Int64} (h : zf_X12_judge M l0 l1 l2 = some (M', x)) (l : Launch) (D : va_G) (cy : Nat → ClassId) : zMet l yX12_judge zC_X12_judge (some .long) D cy [.inr (.inr l0), .inl l1, .inl l2] M M' (some (.inr (.inl x))) :=
  zM_j (by decide) rfl (fun h => by cases h) (Nat.le_of_ble_eq_true rfl) (fun X hR => zt_X12_judge h hR)
-- BlendCellarModel.kindOf(I)I
def zC_X12_kindOf : Zc := (cX12_kindOf, 2, RX12, 1, 21, false)
theorem zcl_X12_kindOf {C : Zc} (h1 : zC_X12_kindOf.2.2.2.1 + 1 ≤ C.2.2.2.1) (h2 : 8 + (zC_X12_kindOf.2.1 + 11) + zC_X12_kindOf.2.2.2.2.1 ≤ C.2.2.2.2.1) : zCl C yX12_kindOf zC_X12_kindOf (some .int) 1 := ⟨zw_1949, zw_114, ⟨by decide, by decide⟩, by decide +kernel, h1, h2⟩
noncomputable def zf_X12_kindOf (M : Zm) (l0 : Option Nat) (l1 : Int32) : Option (Zm × Int32) :=
  zb1 (zo_rc M l0 13) (fun _ => zbd (zf_X12_isBarrel M l0 l1) (fun M1 v1 =>
  (if v1 = 0 then
  some (M1, (0 : Int32))
  else
  zb1 (zo_gr M1 l0 13 2) (fun v4 =>
  zb1 (zo_ai M1 v4 l1) (fun v5 =>
  some (M1, v5))))))
set_option maxRecDepth 100000 in
theorem zt_X12_kindOf {X : Zx} {M : Zm} {l0 : Option Nat} {l1 : Int32} {z : Zm × Int32} (h : zf_X12_kindOf M l0 l1 = some z) (hR : zRi X zC_X12_kindOf z.1 z.2) : zV X zC_X12_kindOf M 0 [(0, .inr (.inr l0)), (1, .inl l1)] [] := by
  unfold zf_X12_kindOf at h
  refine zV_b (pc' := 2) (lv' := [(0, .inr (.inr l0)), (1, .inl l1)]) (st' := [.inl l1, .inr (.inr l0)]) [(.aload_n 0, 1), (.iload_n 1, 1)] (by decide +kernel) rfl ?_
  refine zV_cvi (As := [.inl l1]) (st := []) (c := 13) (by decide +kernel) (zcl_X12_isBarrel (by decide) (by decide)) ⟨zw_1950, zw_1952, zw_98⟩ ⟨⟨_, _, rfl⟩, by decide⟩ rfl rfl (Nat.le_of_ble_eq_true rfl) h (fun _ _ e => zc_X12_isBarrel e) (fun M1 v1 _ h => ?_)
  refine zV_if_eq (off := 12) (tgt := 17) (by decide +kernel) (by decide) h (fun c2 h => ?_) (fun c2 h => ?_)
  · refine zV_b (pc' := 18) (lv' := [(0, .inr (.inr l0)), (1, .inl l1)]) (st' := [.inl (0 : Int32)]) [(.iconst 0, 1)] (by decide +kernel) rfl ?_
    exact zend_i h hR (by decide +kernel)
  · refine zV_b (pc' := 9) (lv' := [(0, .inr (.inr l0)), (1, .inl l1)]) (st' := [.inr (.inr l0)]) [(.aload_n 0, 1)] (by decide +kernel) rfl ?_
    refine zV_gr (by decide +kernel) zfl_RX12_9 (by decide) rfl h (fun v4 _ h => ?_)
    refine zV_b (pc' := 13) (lv' := [(0, .inr (.inr l0)), (1, .inl l1)]) (st' := [.inl l1, .inr (.inr v4)]) [(.iload_n 1, 1)] (by decide +kernel) rfl ?_
    refine zV_ai (by decide +kernel) h (fun v5 _ h => ?_)
    refine zV_goto (off := 4) (tgt := 18) (by decide +kernel) (by decide) ?_
    exact zend_i h hR (by decide +kernel)
theorem zc_X12_kindOf {M M' : Zm} {l0 : Option Nat} {l1 : Int32} {x : Int32} (h : zf_X12_kindOf M l0 l1 = some (M', x)) (l : Launch) (D : va_G) (cy : Nat → ClassId) : zMet l yX12_kindOf zC_X12_kindOf (some .int) D cy [.inr (.inr l0), .inl l1] M M' (some (.inl x)) :=
  zM_i (by decide) rfl (fun h => by cases h) (Nat.le_of_ble_eq_true rfl) (fun X hR => zt_X12_kindOf h hR)
-- BlendCellarModel.label()J
def zC_X12_label : Zc := (cX12_label, 1, RX12, 1, 21, false)
theorem zcl_X12_label {C : Zc} (h1 : zC_X12_label.2.2.2.1 + 1 ≤ C.2.2.2.1) (h2 : 8 + (zC_X12_label.2.1 + 11) + zC_X12_label.2.2.2.2.1 ≤ C.2.2.2.2.1) : zCl C yX12_label zC_X12_label (some .long) 0 := ⟨zw_1893, zw_114, ⟨by decide, by decide⟩, by decide +kernel, h1, h2⟩
noncomputable def zf_X12_label (M : Zm) (l0 : Option Nat) : Option (Zm × Int64) :=
  zb1 (zo_rc M l0 13) (fun _ => zbd (zf_X12_begin M l0) (fun M1 _ =>
  zb1 (zo_gi M1 l0 13 23) (fun v2 =>
  (if v2 = (40 : Int32) then
  zb1 (zo_rc M1 l0 13) (fun _ => zbd (zf_X12_no M1 l0 (12 : Int32)) (fun M4 v4 =>
  some (M4, v4)))
  else
  zb1 (zo_gr M1 l0 13 24) (fun v6 =>
  zb1 (zo_gi M1 l0 13 23) (fun v7 =>
  zb1 (zo_si M1 v6 v7 (0 : Int32)) (fun M8 =>
  zb1 (zo_gr M8 l0 13 25) (fun v9 =>
  zb1 (zo_gi M8 l0 13 23) (fun v10 =>
  zb1 (zo_si M8 v9 v10 (0 : Int32)) (fun M11 =>
  zb1 (zo_gi M11 l0 13 23) (fun v12 =>
  zb1 (zo_pi M11 l0 13 23 (v12 + (1 : Int32))) (fun M13 =>
  zb1 (zo_gi M13 l0 13 23) (fun v14 =>
  some (M13, (((v14 - (1 : Int32))).toInt64)))))))))))))))
set_option maxRecDepth 100000 in
theorem zt_X12_label {X : Zx} {M : Zm} {l0 : Option Nat} {z : Zm × Int64} (h : zf_X12_label M l0 = some z) (hR : zRj X zC_X12_label z.1 z.2) : zV X zC_X12_label M 0 [(0, .inr (.inr l0))] [] := by
  unfold zf_X12_label at h
  refine zV_b (pc' := 1) (lv' := [(0, .inr (.inr l0))]) (st' := [.inr (.inr l0)]) [(.aload_n 0, 1)] (by decide +kernel) rfl ?_
  refine zV_cvv (As := []) (st := []) (c := 13) (by decide +kernel) (zcl_X12_begin (by decide) (by decide)) ⟨zw_1673, zw_1675, zw_58⟩ ⟨⟨_, _, rfl⟩, by decide⟩ rfl rfl (Nat.le_of_ble_eq_true rfl) h (fun _ _ e => zc_X12_begin e) (fun M1 _ _ h => ?_)
  refine zV_b (pc' := 5) (lv' := [(0, .inr (.inr l0))]) (st' := [.inr (.inr l0)]) [(.aload_n 0, 1)] (by decide +kernel) rfl ?_
  refine zV_gi (by decide +kernel) zfl_RX12_184 (by decide) rfl (Or.inl rfl) h (fun v2 _ h => ?_)
  refine zV_b (pc' := 10) (lv' := [(0, .inr (.inr l0))]) (st' := [.inl (40 : Int32), .inl v2]) [(.bipush 40, 2)] (by decide +kernel) rfl ?_
  refine zV_icmp_ne (off := 10) (tgt := 20) (by decide +kernel) (by decide) h (fun c3 h => ?_) (fun c3 h => ?_)
  · refine zV_b (pc' := 16) (lv' := [(0, .inr (.inr l0))]) (st' := [.inl (12 : Int32), .inr (.inr l0)]) [(.aload_n 0, 1), (.bipush 12, 2)] (by decide +kernel) rfl ?_
    refine zV_cvj (As := [.inl (12 : Int32)]) (st := []) (c := 13) (by decide +kernel) (zcl_X12_no (by decide) (by decide)) ⟨zw_1677, zw_1679, zw_59⟩ ⟨⟨_, _, rfl⟩, by decide⟩ rfl rfl (Nat.le_of_ble_eq_true rfl) h (fun _ _ e => zc_X12_no e) (fun M4 v4 _ h => ?_)
    exact zend_j h hR (by decide +kernel)
  · refine zV_b (pc' := 21) (lv' := [(0, .inr (.inr l0))]) (st' := [.inr (.inr l0)]) [(.aload_n 0, 1)] (by decide +kernel) rfl ?_
    refine zV_gr (by decide +kernel) zfl_RX12_63 (by decide) rfl h (fun v6 _ h => ?_)
    refine zV_b (pc' := 25) (lv' := [(0, .inr (.inr l0))]) (st' := [.inr (.inr l0), .inr (.inr v6)]) [(.aload_n 0, 1)] (by decide +kernel) rfl ?_
    refine zV_gi (by decide +kernel) zfl_RX12_184 (by decide) rfl (Or.inl rfl) h (fun v7 _ h => ?_)
    refine zV_b (pc' := 29) (lv' := [(0, .inr (.inr l0))]) (st' := [.inl (0 : Int32), .inl v7, .inr (.inr v6)]) [(.iconst 0, 1)] (by decide +kernel) rfl ?_
    refine zV_si (by decide +kernel) h (fun M8 _ h => ?_)
    refine zV_b (pc' := 31) (lv' := [(0, .inr (.inr l0))]) (st' := [.inr (.inr l0)]) [(.aload_n 0, 1)] (by decide +kernel) rfl ?_
    refine zV_gr (by decide +kernel) zfl_RX12_66 (by decide) rfl h (fun v9 _ h => ?_)
    refine zV_b (pc' := 35) (lv' := [(0, .inr (.inr l0))]) (st' := [.inr (.inr l0), .inr (.inr v9)]) [(.aload_n 0, 1)] (by decide +kernel) rfl ?_
    refine zV_gi (by decide +kernel) zfl_RX12_184 (by decide) rfl (Or.inl rfl) h (fun v10 _ h => ?_)
    refine zV_b (pc' := 39) (lv' := [(0, .inr (.inr l0))]) (st' := [.inl (0 : Int32), .inl v10, .inr (.inr v9)]) [(.iconst 0, 1)] (by decide +kernel) rfl ?_
    refine zV_si (by decide +kernel) h (fun M11 _ h => ?_)
    refine zV_b (pc' := 42) (lv' := [(0, .inr (.inr l0))]) (st' := [.inr (.inr l0), .inr (.inr l0)]) [(.aload_n 0, 1), (.dup, 1)] (by decide +kernel) rfl ?_
    refine zV_gi (by decide +kernel) zfl_RX12_184 (by decide) rfl (Or.inl rfl) h (fun v12 _ h => ?_)
    refine zV_b (pc' := 47) (lv' := [(0, .inr (.inr l0))]) (st' := [.inl (v12 + (1 : Int32)), .inr (.inr l0)]) [(.iconst 1, 1), (.iadd, 1)] (by decide +kernel) rfl ?_
    refine zV_pi (by decide +kernel) zfp_RX12_184 (by decide) rfl h (fun M13 _ h => ?_)
    refine zV_b (pc' := 51) (lv' := [(0, .inr (.inr l0))]) (st' := [.inr (.inr l0)]) [(.aload_n 0, 1)] (by decide +kernel) rfl ?_
    refine zV_gi (by decide +kernel) zfl_RX12_184 (by decide) rfl (Or.inl rfl) h (fun v14 _ h => ?_)
    refine zV_b (pc' := 57) (lv' := [(0, .inr (.inr l0))]) (st' := [.inr (.inl (((v14 - (1 : Int32))).toInt64))]) [(.iconst 1, 1), (.isub, 1), (.i2l, 1)] (by decide +kernel) rfl ?_
    exact zend_j h hR (by decide +kernel)
theorem zc_X12_label {M M' : Zm} {l0 : Option Nat} {x : Int64} (h : zf_X12_label M l0 = some (M', x)) (l : Launch) (D : va_G) (cy : Nat → ClassId) : zMet l yX12_label zC_X12_label (some .long) D cy [.inr (.inr l0)] M M' (some (.inr (.inl x))) :=
  zM_j (by decide) rfl (fun h => by cases h) (Nat.le_of_ble_eq_true rfl) (fun X hR => zt_X12_label h hR)
-- BlendCellarModel.takes(II)Z
def zC_X12_takes : Zc := (cX12_takes, 2, RX12, 0, 0, false)
theorem zcl_X12_takes {C : Zc} (h1 : zC_X12_takes.2.2.2.1 + 1 ≤ C.2.2.2.1) (h2 : 8 + (zC_X12_takes.2.1 + 11) + zC_X12_takes.2.2.2.2.1 ≤ C.2.2.2.2.1) : zCl C yX12_takes zC_X12_takes (some .boolean) 2 := ⟨zw_1721, zw_114, ⟨by decide, by decide⟩, by decide +kernel, h1, h2⟩
noncomputable def zf_X12_takes_J21 (M : Zm)  : Option (Zm × Int32) :=
  zb1 (zo_b (1 : Int32)) (fun w => some (M, w))
noncomputable def zf_X12_takes_J42 (M : Zm)  : Option (Zm × Int32) :=
  zb1 (zo_b (1 : Int32)) (fun w => some (M, w))
noncomputable def zf_X12_takes (M : Zm) (l0 : Int32) (l1 : Int32) : Option (Zm × Int32) :=
  (if l0 = 0 then
  zb1 (zo_b (1 : Int32)) (fun w => some (M, w))
  else
  (if l0 = (1 : Int32) then
  (if l1 = (1 : Int32) then
  zf_X12_takes_J21 M
  else
  (if l1 = (2 : Int32) then
  zf_X12_takes_J21 M
  else
  zb1 (zo_b (0 : Int32)) (fun w => some (M, w))))
  else
  (if l0 = (3 : Int32) then
  (if l1 = (3 : Int32) then
  zf_X12_takes_J42 M
  else
  (if l1 = (4 : Int32) then
  zf_X12_takes_J42 M
  else
  zb1 (zo_b (0 : Int32)) (fun w => some (M, w))))
  else
  (if l0 = (6 : Int32) then
  (if l1 = (5 : Int32) then
  zb1 (zo_b (0 : Int32)) (fun w => some (M, w))
  else
  zb1 (zo_b (1 : Int32)) (fun w => some (M, w)))
  else
  (if l0 = l1 then
  zb1 (zo_b (1 : Int32)) (fun w => some (M, w))
  else
  zb1 (zo_b (0 : Int32)) (fun w => some (M, w)))))))
set_option maxRecDepth 100000 in
theorem zt_X12_takes_J21 {X : Zx} {M : Zm}  {z : Zm × Int32} (h : zf_X12_takes_J21 M  = some z) (hR : zRz X zC_X12_takes z.1 z.2) : zV X zC_X12_takes M 21 [] [] := by
  unfold zf_X12_takes_J21 at h
  refine zV_b (pc' := 22) (lv' := []) (st' := [.inl (1 : Int32)]) [(.iconst 1, 1)] (by decide +kernel) rfl ?_
  refine zV_goto (off := 4) (tgt := 26) (by decide +kernel) (by decide) ?_
  exact zend_z h hR (by decide +kernel)
set_option maxRecDepth 100000 in
theorem zt_X12_takes_J42 {X : Zx} {M : Zm}  {z : Zm × Int32} (h : zf_X12_takes_J42 M  = some z) (hR : zRz X zC_X12_takes z.1 z.2) : zV X zC_X12_takes M 42 [] [] := by
  unfold zf_X12_takes_J42 at h
  refine zV_b (pc' := 43) (lv' := []) (st' := [.inl (1 : Int32)]) [(.iconst 1, 1)] (by decide +kernel) rfl ?_
  refine zV_goto (off := 4) (tgt := 47) (by decide +kernel) (by decide) ?_
  exact zend_z h hR (by decide +kernel)
set_option maxRecDepth 100000 in
theorem zt_X12_takes {X : Zx} {M : Zm} {l0 : Int32} {l1 : Int32} {z : Zm × Int32} (h : zf_X12_takes M l0 l1 = some z) (hR : zRz X zC_X12_takes z.1 z.2) : zV X zC_X12_takes M 0 [(0, .inl l0), (1, .inl l1)] [] := by
  unfold zf_X12_takes at h
  refine zV_b (pc' := 1) (lv' := [(0, .inl l0), (1, .inl l1)]) (st' := [.inl l0]) [(.iload_n 0, 1)] (by decide +kernel) rfl ?_
  refine zV_if_ne (off := 5) (tgt := 6) (by decide +kernel) (by decide) h (fun c1 h => ?_) (fun c1 h => ?_)
  · refine zV_b (pc' := 5) (lv' := [(0, .inl l0), (1, .inl l1)]) (st' := [.inl (1 : Int32)]) [(.iconst 1, 1)] (by decide +kernel) rfl ?_
    exact zend_z h hR (by decide +kernel)
  · refine zV_b (pc' := 8) (lv' := [(0, .inl l0), (1, .inl l1)]) (st' := [.inl (1 : Int32), .inl l0]) [(.iload_n 0, 1), (.iconst 1, 1)] (by decide +kernel) rfl ?_
    refine zV_icmp_ne (off := 19) (tgt := 27) (by decide +kernel) (by decide) h (fun c3 h => ?_) (fun c3 h => ?_)
    · refine zV_b (pc' := 13) (lv' := [(0, .inl l0), (1, .inl l1)]) (st' := [.inl (1 : Int32), .inl l1]) [(.iload_n 1, 1), (.iconst 1, 1)] (by decide +kernel) rfl ?_
      refine zV_icmp_eq (off := 8) (tgt := 21) (by decide +kernel) (by decide) h (fun c4 h => ?_) (fun c4 h => ?_)
      · exact zV_lv (lv' := []) [] rfl (zt_X12_takes_J21 h hR)
      · refine zV_b (pc' := 18) (lv' := [(0, .inl l0), (1, .inl l1)]) (st' := [.inl (2 : Int32), .inl l1]) [(.iload_n 1, 1), (.iconst 2, 1)] (by decide +kernel) rfl ?_
        refine zV_icmp_ne (off := 7) (tgt := 25) (by decide +kernel) (by decide) h (fun c7 h => ?_) (fun c7 h => ?_)
        · exact zV_lv (lv' := []) [] rfl (zt_X12_takes_J21 h hR)
        · refine zV_b (pc' := 26) (lv' := [(0, .inl l0), (1, .inl l1)]) (st' := [.inl (0 : Int32)]) [(.iconst 0, 1)] (by decide +kernel) rfl ?_
          exact zend_z h hR (by decide +kernel)
    · refine zV_b (pc' := 29) (lv' := [(0, .inl l0), (1, .inl l1)]) (st' := [.inl (3 : Int32), .inl l0]) [(.iload_n 0, 1), (.iconst 3, 1)] (by decide +kernel) rfl ?_
      refine zV_icmp_ne (off := 19) (tgt := 48) (by decide +kernel) (by decide) h (fun c9 h => ?_) (fun c9 h => ?_)
      · refine zV_b (pc' := 34) (lv' := [(0, .inl l0), (1, .inl l1)]) (st' := [.inl (3 : Int32), .inl l1]) [(.iload_n 1, 1), (.iconst 3, 1)] (by decide +kernel) rfl ?_
        refine zV_icmp_eq (off := 8) (tgt := 42) (by decide +kernel) (by decide) h (fun c10 h => ?_) (fun c10 h => ?_)
        · exact zV_lv (lv' := []) [] rfl (zt_X12_takes_J42 h hR)
        · refine zV_b (pc' := 39) (lv' := [(0, .inl l0), (1, .inl l1)]) (st' := [.inl (4 : Int32), .inl l1]) [(.iload_n 1, 1), (.iconst 4, 1)] (by decide +kernel) rfl ?_
          refine zV_icmp_ne (off := 7) (tgt := 46) (by decide +kernel) (by decide) h (fun c13 h => ?_) (fun c13 h => ?_)
          · exact zV_lv (lv' := []) [] rfl (zt_X12_takes_J42 h hR)
          · refine zV_b (pc' := 47) (lv' := [(0, .inl l0), (1, .inl l1)]) (st' := [.inl (0 : Int32)]) [(.iconst 0, 1)] (by decide +kernel) rfl ?_
            exact zend_z h hR (by decide +kernel)
      · refine zV_b (pc' := 51) (lv' := [(0, .inl l0), (1, .inl l1)]) (st' := [.inl (6 : Int32), .inl l0]) [(.iload_n 0, 1), (.bipush 6, 2)] (by decide +kernel) rfl ?_
        refine zV_icmp_ne (off := 14) (tgt := 65) (by decide +kernel) (by decide) h (fun c15 h => ?_) (fun c15 h => ?_)
        · refine zV_b (pc' := 56) (lv' := [(0, .inl l0), (1, .inl l1)]) (st' := [.inl (5 : Int32), .inl l1]) [(.iload_n 1, 1), (.iconst 5, 1)] (by decide +kernel) rfl ?_
          refine zV_icmp_eq (off := 7) (tgt := 63) (by decide +kernel) (by decide) h (fun c16 h => ?_) (fun c16 h => ?_)
          · refine zV_b (pc' := 64) (lv' := [(0, .inl l0), (1, .inl l1)]) (st' := [.inl (0 : Int32)]) [(.iconst 0, 1)] (by decide +kernel) rfl ?_
            exact zend_z h hR (by decide +kernel)
          · refine zV_b (pc' := 60) (lv' := [(0, .inl l0), (1, .inl l1)]) (st' := [.inl (1 : Int32)]) [(.iconst 1, 1)] (by decide +kernel) rfl ?_
            refine zV_goto (off := 4) (tgt := 64) (by decide +kernel) (by decide) ?_
            exact zend_z h hR (by decide +kernel)
        · refine zV_b (pc' := 67) (lv' := [(0, .inl l0), (1, .inl l1)]) (st' := [.inl l1, .inl l0]) [(.iload_n 0, 1), (.iload_n 1, 1)] (by decide +kernel) rfl ?_
          refine zV_icmp_ne (off := 7) (tgt := 74) (by decide +kernel) (by decide) h (fun c20 h => ?_) (fun c20 h => ?_)
          · refine zV_b (pc' := 71) (lv' := [(0, .inl l0), (1, .inl l1)]) (st' := [.inl (1 : Int32)]) [(.iconst 1, 1)] (by decide +kernel) rfl ?_
            refine zV_goto (off := 4) (tgt := 75) (by decide +kernel) (by decide) ?_
            exact zend_z h hR (by decide +kernel)
          · refine zV_b (pc' := 75) (lv' := [(0, .inl l0), (1, .inl l1)]) (st' := [.inl (0 : Int32)]) [(.iconst 0, 1)] (by decide +kernel) rfl ?_
            exact zend_z h hR (by decide +kernel)
theorem zc_X12_takes {M M' : Zm} {l0 : Int32} {l1 : Int32} {x : Int32} (h : zf_X12_takes M l0 l1 = some (M', x)) (l : Launch) (D : va_G) (cy : Nat → ClassId) : zMet l yX12_takes zC_X12_takes (some .boolean) D cy [.inl l0, .inl l1] M M' (some (.inl x)) :=
  zM_b (by decide) rfl (fun h => by cases h) (Nat.le_of_ble_eq_true rfl) (fun X hR => zt_X12_takes h hR)
-- BlendCellarModel.lay(III)J
def zC_X12_lay : Zc := (cX12_lay, 5, RX12, 1, 22, false)
theorem zcl_X12_lay {C : Zc} (h1 : zC_X12_lay.2.2.2.1 + 1 ≤ C.2.2.2.1) (h2 : 8 + (zC_X12_lay.2.1 + 11) + zC_X12_lay.2.2.2.2.1 ≤ C.2.2.2.2.1) : zCl C yX12_lay zC_X12_lay (some .long) 3 := ⟨zw_1710, zw_114, ⟨by decide, by decide⟩, by decide +kernel, h1, h2⟩
noncomputable def zf_X12_lay (M : Zm) (l0 : Option Nat) (l1 : Int32) (l2 : Int32) (l3 : Int32) : Option (Zm × Int64) :=
  zb1 (zo_rc M l0 13) (fun _ => zbd (zf_X12_begin M l0) (fun M1 _ =>
  zb1 (zo_rc M1 l0 13) (fun _ => zbd (zf_X12_looked M1 l0 l1) (fun M2 v2 =>
  (if v2 ≤ 0 then
  zb1 (zo_gr M2 l0 13 5) (fun v4 =>
  zb1 (zo_ai M2 v4 l1) (fun v5 =>
  (if v5 = 0 then
  zb1 (zo_rc M2 l0 13) (fun _ => zbd (zf_X12_readPlace M2 l0 l2 l3) (fun M7 v7 =>
  (if v7 ≤ 0 then
  zb1 (zo_gr M7 l0 13 13) (fun v9 =>
  zb1 (zo_ai M7 v9 (((60 : Int32) * l2) + l3)) (fun v10 =>
  (if v10 < 0 then
  zb1 (zo_gr M7 l0 13 11) (fun v12 =>
  zb1 (zo_ai M7 v12 l2) (fun v13 =>
  zb1 (zo_gr M7 l0 13 2) (fun v14 =>
  zb1 (zo_ai M7 v14 l1) (fun v15 =>
  zbd (zf_X12_takes M7 v13 v15) (fun M16 v16 =>
  (if v16 = 0 then
  zb1 (zo_rc M16 l0 13) (fun _ => zbd (zf_X12_no M16 l0 (4 : Int32)) (fun M18 v18 =>
  some (M18, v18)))
  else
  zb1 (zo_rc M16 l0 13) (fun _ => zbd (zf_X12_keep M16 l0) (fun M20 _ =>
  zb1 (zo_gr M20 l0 13 13) (fun v21 =>
  zb1 (zo_si M20 v21 (((60 : Int32) * l2) + l3) l1) (fun M22 =>
  zb1 (zo_gr M22 l0 13 5) (fun v23 =>
  zb1 (zo_si M22 v23 l1 (((1 : Int32) + ((100 : Int32) * l2)) + l3)) (fun M24 =>
  some (M24, (l1.toInt64))))))))))))))
  else
  zb1 (zo_rc M7 l0 13) (fun _ => zbd (zf_X12_no M7 l0 (8 : Int32)) (fun M26 v26 =>
  some (M26, v26))))))
  else
  zb1 (zo_rc M7 l0 13) (fun _ => zbd (zf_X12_no M7 l0 v7) (fun M28 v28 =>
  some (M28, v28))))))
  else
  zb1 (zo_rc M2 l0 13) (fun _ => zbd (zf_X12_no M2 l0 (9 : Int32)) (fun M30 v30 =>
  some (M30, v30))))))
  else
  zb1 (zo_rc M2 l0 13) (fun _ => zbd (zf_X12_no M2 l0 v2) (fun M32 v32 =>
  some (M32, v32))))))))
set_option maxRecDepth 100000 in
theorem zt_X12_lay {X : Zx} {M : Zm} {l0 : Option Nat} {l1 : Int32} {l2 : Int32} {l3 : Int32} {z : Zm × Int64} (h : zf_X12_lay M l0 l1 l2 l3 = some z) (hR : zRj X zC_X12_lay z.1 z.2) : zV X zC_X12_lay M 0 [(0, .inr (.inr l0)), (1, .inl l1), (2, .inl l2), (3, .inl l3)] [] := by
  unfold zf_X12_lay at h
  refine zV_b (pc' := 1) (lv' := [(0, .inr (.inr l0)), (1, .inl l1), (2, .inl l2), (3, .inl l3)]) (st' := [.inr (.inr l0)]) [(.aload_n 0, 1)] (by decide +kernel) rfl ?_
  refine zV_cvv (As := []) (st := []) (c := 13) (by decide +kernel) (zcl_X12_begin (by decide) (by decide)) ⟨zw_1673, zw_1675, zw_58⟩ ⟨⟨_, _, rfl⟩, by decide⟩ rfl rfl (Nat.le_of_ble_eq_true rfl) h (fun _ _ e => zc_X12_begin e) (fun M1 _ _ h => ?_)
  refine zV_b (pc' := 6) (lv' := [(0, .inr (.inr l0)), (1, .inl l1), (2, .inl l2), (3, .inl l3)]) (st' := [.inl l1, .inr (.inr l0)]) [(.aload_n 0, 1), (.iload_n 1, 1)] (by decide +kernel) rfl ?_
  refine zV_cvi (As := [.inl l1]) (st := []) (c := 13) (by decide +kernel) (zcl_X12_looked (by decide) (by decide)) ⟨zw_1711, zw_1713, zw_63⟩ ⟨⟨_, _, rfl⟩, by decide⟩ rfl rfl (Nat.le_of_ble_eq_true rfl) h (fun _ _ e => zc_X12_looked e) (fun M2 v2 _ h => ?_)
  refine zV_b (pc' := 13) (lv' := [(4, .inl v2), (0, .inr (.inr l0)), (1, .inl l1), (2, .inl l2), (3, .inl l3)]) (st' := [.inl v2]) [(.istore 4, 2), (.iload 4, 2)] (by decide +kernel) rfl ?_
  refine zV_if_le (off := 10) (tgt := 23) (by decide +kernel) (by decide) h (fun c3 h => ?_) (fun c3 h => ?_)
  · refine zV_b (pc' := 24) (lv' := [(4, .inl v2), (0, .inr (.inr l0)), (1, .inl l1), (2, .inl l2), (3, .inl l3)]) (st' := [.inr (.inr l0)]) [(.aload_n 0, 1)] (by decide +kernel) rfl ?_
    refine zV_gr (by decide +kernel) zfl_RX12_19 (by decide) rfl h (fun v4 _ h => ?_)
    refine zV_b (pc' := 28) (lv' := [(4, .inl v2), (0, .inr (.inr l0)), (1, .inl l1), (2, .inl l2), (3, .inl l3)]) (st' := [.inl l1, .inr (.inr v4)]) [(.iload_n 1, 1)] (by decide +kernel) rfl ?_
    refine zV_ai (by decide +kernel) h (fun v5 _ h => ?_)
    refine zV_if_eq (off := 10) (tgt := 39) (by decide +kernel) (by decide) h (fun c6 h => ?_) (fun c6 h => ?_)
    · refine zV_b (pc' := 42) (lv' := [(4, .inl v2), (0, .inr (.inr l0)), (1, .inl l1), (2, .inl l2), (3, .inl l3)]) (st' := [.inl l3, .inl l2, .inr (.inr l0)]) [(.aload_n 0, 1), (.iload_n 2, 1), (.iload_n 3, 1)] (by decide +kernel) rfl ?_
      refine zV_cvi (As := [.inl l2, .inl l3]) (st := []) (c := 13) (by decide +kernel) (zcl_X12_readPlace (by decide) (by decide)) ⟨zw_1715, zw_1717, zw_64⟩ ⟨⟨_, _, rfl⟩, by decide⟩ rfl rfl (Nat.le_of_ble_eq_true rfl) h (fun _ _ e => zc_X12_readPlace e) (fun M7 v7 _ h => ?_)
      refine zV_b (pc' := 49) (lv' := [(4, .inl v7), (0, .inr (.inr l0)), (1, .inl l1), (2, .inl l2), (3, .inl l3)]) (st' := [.inl v7]) [(.istore 4, 2), (.iload 4, 2)] (by decide +kernel) rfl ?_
      refine zV_if_le (off := 10) (tgt := 59) (by decide +kernel) (by decide) h (fun c8 h => ?_) (fun c8 h => ?_)
      · refine zV_b (pc' := 60) (lv' := [(4, .inl v7), (0, .inr (.inr l0)), (1, .inl l1), (2, .inl l2), (3, .inl l3)]) (st' := [.inr (.inr l0)]) [(.aload_n 0, 1)] (by decide +kernel) rfl ?_
        refine zV_gr (by decide +kernel) zfl_RX12_45 (by decide) rfl h (fun v9 _ h => ?_)
        refine zV_b (pc' := 69) (lv' := [(4, .inl v7), (0, .inr (.inr l0)), (1, .inl l1), (2, .inl l2), (3, .inl l3)]) (st' := [.inl (((60 : Int32) * l2) + l3), .inr (.inr v9)]) [(.bipush 60, 2), (.iload_n 2, 1), (.imul, 1), (.iload_n 3, 1), (.iadd, 1)] (by decide +kernel) rfl ?_
        refine zV_ai (by decide +kernel) h (fun v10 _ h => ?_)
        refine zV_if_lt (off := 10) (tgt := 80) (by decide +kernel) (by decide) h (fun c11 h => ?_) (fun c11 h => ?_)
        · refine zV_b (pc' := 81) (lv' := [(4, .inl v7), (0, .inr (.inr l0)), (1, .inl l1), (2, .inl l2), (3, .inl l3)]) (st' := [.inr (.inr l0)]) [(.aload_n 0, 1)] (by decide +kernel) rfl ?_
          refine zV_gr (by decide +kernel) zfl_RX12_39 (by decide) rfl h (fun v12 _ h => ?_)
          refine zV_b (pc' := 85) (lv' := [(4, .inl v7), (0, .inr (.inr l0)), (1, .inl l1), (2, .inl l2), (3, .inl l3)]) (st' := [.inl l2, .inr (.inr v12)]) [(.iload_n 2, 1)] (by decide +kernel) rfl ?_
          refine zV_ai (by decide +kernel) h (fun v13 _ h => ?_)
          refine zV_b (pc' := 87) (lv' := [(4, .inl v7), (0, .inr (.inr l0)), (1, .inl l1), (2, .inl l2), (3, .inl l3)]) (st' := [.inr (.inr l0), .inl v13]) [(.aload_n 0, 1)] (by decide +kernel) rfl ?_
          refine zV_gr (by decide +kernel) zfl_RX12_9 (by decide) rfl h (fun v14 _ h => ?_)
          refine zV_b (pc' := 91) (lv' := [(4, .inl v7), (0, .inr (.inr l0)), (1, .inl l1), (2, .inl l2), (3, .inl l3)]) (st' := [.inl l1, .inr (.inr v14), .inl v13]) [(.iload_n 1, 1)] (by decide +kernel) rfl ?_
          refine zV_ai (by decide +kernel) h (fun v15 _ h => ?_)
          refine zV_csi (As := [.inl v13, .inl v15]) (st := []) (by decide +kernel) (zcl_X12_takes (by decide) (by decide)) ⟨zw_1719, zw_1720⟩ rfl rfl (Nat.le_of_ble_eq_true rfl) h (fun _ _ e => zc_X12_takes e) (fun M16 v16 _ h => ?_)
          refine zV_if_ne (off := 9) (tgt := 104) (by decide +kernel) (by decide) h (fun c17 h => ?_) (fun c17 h => ?_)
          · refine zV_b (pc' := 100) (lv' := [(4, .inl v7), (0, .inr (.inr l0)), (1, .inl l1), (2, .inl l2), (3, .inl l3)]) (st' := [.inl (4 : Int32), .inr (.inr l0)]) [(.aload_n 0, 1), (.iconst 4, 1)] (by decide +kernel) rfl ?_
            refine zV_cvj (As := [.inl (4 : Int32)]) (st := []) (c := 13) (by decide +kernel) (zcl_X12_no (by decide) (by decide)) ⟨zw_1677, zw_1679, zw_59⟩ ⟨⟨_, _, rfl⟩, by decide⟩ rfl rfl (Nat.le_of_ble_eq_true rfl) h (fun _ _ e => zc_X12_no e) (fun M18 v18 _ h => ?_)
            exact zend_j h hR (by decide +kernel)
          · refine zV_b (pc' := 105) (lv' := [(4, .inl v7), (0, .inr (.inr l0)), (1, .inl l1), (2, .inl l2), (3, .inl l3)]) (st' := [.inr (.inr l0)]) [(.aload_n 0, 1)] (by decide +kernel) rfl ?_
            refine zV_cvv (As := []) (st := []) (c := 13) (by decide +kernel) (zcl_X12_keep (by decide) (by decide)) ⟨zw_1681, zw_1683, zw_60⟩ ⟨⟨_, _, rfl⟩, by decide⟩ rfl rfl (Nat.le_of_ble_eq_true rfl) h (fun _ _ e => zc_X12_keep e) (fun M20 _ _ h => ?_)
            refine zV_b (pc' := 109) (lv' := [(4, .inl v7), (0, .inr (.inr l0)), (1, .inl l1), (2, .inl l2), (3, .inl l3)]) (st' := [.inr (.inr l0)]) [(.aload_n 0, 1)] (by decide +kernel) rfl ?_
            refine zV_gr (by decide +kernel) zfl_RX12_45 (by decide) rfl h (fun v21 _ h => ?_)
            refine zV_b (pc' := 119) (lv' := [(4, .inl v7), (0, .inr (.inr l0)), (1, .inl l1), (2, .inl l2), (3, .inl l3)]) (st' := [.inl l1, .inl (((60 : Int32) * l2) + l3), .inr (.inr v21)]) [(.bipush 60, 2), (.iload_n 2, 1), (.imul, 1), (.iload_n 3, 1), (.iadd, 1), (.iload_n 1, 1)] (by decide +kernel) rfl ?_
            refine zV_si (by decide +kernel) h (fun M22 _ h => ?_)
            refine zV_b (pc' := 121) (lv' := [(4, .inl v7), (0, .inr (.inr l0)), (1, .inl l1), (2, .inl l2), (3, .inl l3)]) (st' := [.inr (.inr l0)]) [(.aload_n 0, 1)] (by decide +kernel) rfl ?_
            refine zV_gr (by decide +kernel) zfl_RX12_19 (by decide) rfl h (fun v23 _ h => ?_)
            refine zV_b (pc' := 133) (lv' := [(4, .inl v7), (0, .inr (.inr l0)), (1, .inl l1), (2, .inl l2), (3, .inl l3)]) (st' := [.inl (((1 : Int32) + ((100 : Int32) * l2)) + l3), .inl l1, .inr (.inr v23)]) [(.iload_n 1, 1), (.iconst 1, 1), (.bipush 100, 2), (.iload_n 2, 1), (.imul, 1), (.iadd, 1), (.iload_n 3, 1), (.iadd, 1)] (by decide +kernel) rfl ?_
            refine zV_si (by decide +kernel) h (fun M24 _ h => ?_)
            refine zV_b (pc' := 136) (lv' := [(4, .inl v7), (0, .inr (.inr l0)), (1, .inl l1), (2, .inl l2), (3, .inl l3)]) (st' := [.inr (.inl (l1.toInt64))]) [(.iload_n 1, 1), (.i2l, 1)] (by decide +kernel) rfl ?_
            exact zend_j h hR (by decide +kernel)
        · refine zV_b (pc' := 76) (lv' := [(4, .inl v7), (0, .inr (.inr l0)), (1, .inl l1), (2, .inl l2), (3, .inl l3)]) (st' := [.inl (8 : Int32), .inr (.inr l0)]) [(.aload_n 0, 1), (.bipush 8, 2)] (by decide +kernel) rfl ?_
          refine zV_cvj (As := [.inl (8 : Int32)]) (st := []) (c := 13) (by decide +kernel) (zcl_X12_no (by decide) (by decide)) ⟨zw_1677, zw_1679, zw_59⟩ ⟨⟨_, _, rfl⟩, by decide⟩ rfl rfl (Nat.le_of_ble_eq_true rfl) h (fun _ _ e => zc_X12_no e) (fun M26 v26 _ h => ?_)
          exact zend_j h hR (by decide +kernel)
      · refine zV_b (pc' := 55) (lv' := [(4, .inl v7), (0, .inr (.inr l0)), (1, .inl l1), (2, .inl l2), (3, .inl l3)]) (st' := [.inl v7, .inr (.inr l0)]) [(.aload_n 0, 1), (.iload 4, 2)] (by decide +kernel) rfl ?_
        refine zV_cvj (As := [.inl v7]) (st := []) (c := 13) (by decide +kernel) (zcl_X12_no (by decide) (by decide)) ⟨zw_1677, zw_1679, zw_59⟩ ⟨⟨_, _, rfl⟩, by decide⟩ rfl rfl (Nat.le_of_ble_eq_true rfl) h (fun _ _ e => zc_X12_no e) (fun M28 v28 _ h => ?_)
        exact zend_j h hR (by decide +kernel)
    · refine zV_b (pc' := 35) (lv' := [(4, .inl v2), (0, .inr (.inr l0)), (1, .inl l1), (2, .inl l2), (3, .inl l3)]) (st' := [.inl (9 : Int32), .inr (.inr l0)]) [(.aload_n 0, 1), (.bipush 9, 2)] (by decide +kernel) rfl ?_
      refine zV_cvj (As := [.inl (9 : Int32)]) (st := []) (c := 13) (by decide +kernel) (zcl_X12_no (by decide) (by decide)) ⟨zw_1677, zw_1679, zw_59⟩ ⟨⟨_, _, rfl⟩, by decide⟩ rfl rfl (Nat.le_of_ble_eq_true rfl) h (fun _ _ e => zc_X12_no e) (fun M30 v30 _ h => ?_)
      exact zend_j h hR (by decide +kernel)
  · refine zV_b (pc' := 19) (lv' := [(4, .inl v2), (0, .inr (.inr l0)), (1, .inl l1), (2, .inl l2), (3, .inl l3)]) (st' := [.inl v2, .inr (.inr l0)]) [(.aload_n 0, 1), (.iload 4, 2)] (by decide +kernel) rfl ?_
    refine zV_cvj (As := [.inl v2]) (st := []) (c := 13) (by decide +kernel) (zcl_X12_no (by decide) (by decide)) ⟨zw_1677, zw_1679, zw_59⟩ ⟨⟨_, _, rfl⟩, by decide⟩ rfl rfl (Nat.le_of_ble_eq_true rfl) h (fun _ _ e => zc_X12_no e) (fun M32 v32 _ h => ?_)
    exact zend_j h hR (by decide +kernel)
theorem zc_X12_lay {M M' : Zm} {l0 : Option Nat} {l1 : Int32} {l2 : Int32} {l3 : Int32} {x : Int64} (h : zf_X12_lay M l0 l1 l2 l3 = some (M', x)) (l : Launch) (D : va_G) (cy : Nat → ClassId) : zMet l yX12_lay zC_X12_lay (some .long) D cy [.inr (.inr l0), .inl l1, .inl l2, .inl l3] M M' (some (.inr (.inl x))) :=
  zM_j (by decide) rfl (fun h => by cases h) (Nat.le_of_ble_eq_true rfl) (fun X hR => zt_X12_lay h hR)
-- BlendCellarModel.leave(I)J
def zC_X12_leave : Zc := (cX12_leave, 4, RX12, 1, 22, false)
theorem zcl_X12_leave {C : Zc} (h1 : zC_X12_leave.2.2.2.1 + 1 ≤ C.2.2.2.1) (h2 : 8 + (zC_X12_leave.2.1 + 11) + zC_X12_leave.2.2.2.2.1 ≤ C.2.2.2.2.1) : zCl C yX12_leave zC_X12_leave (some .long) 1 := ⟨zw_1706, zw_114, ⟨by decide, by decide⟩, by decide +kernel, h1, h2⟩
noncomputable def zf_X12_leave (M : Zm) (l0 : Option Nat) (l1 : Int32) : Option (Zm × Int64) :=
  zb1 (zo_rc M l0 13) (fun _ => zbd (zf_X12_begin M l0) (fun M1 _ =>
  zb1 (zo_rc M1 l0 13) (fun _ => zbd (zf_X12_lookedCask M1 l0 l1) (fun M2 v2 =>
  (if v2 ≤ 0 then
  zb1 (zo_gr M2 l0 13 6) (fun v4 =>
  zb1 (zo_ai M2 v4 l1) (fun v5 =>
  (if v5 = 0 then
  zb1 (zo_rc M2 l0 13) (fun _ => zbd (zf_X12_no M2 l0 (3 : Int32)) (fun M7 v7 =>
  some (M7, v7)))
  else
  zb1 (zo_rc M2 l0 13) (fun _ => zbd (zf_X12_keep M2 l0) (fun M9 _ =>
  zb1 (zo_gr M9 l0 13 6) (fun v10 =>
  zb1 (zo_ai M9 v10 l1) (fun v11 =>
  zb1 (zo_si M9 v10 l1 (v11 - (1 : Int32))) (fun M12 =>
  zb1 (zo_gr M12 l0 13 7) (fun v13 =>
  zb1 (zo_gr M12 l0 13 6) (fun v14 =>
  zb1 (zo_ai M12 v14 l1) (fun v15 =>
  zb1 (zo_ai M12 v13 (((4 : Int32) * l1) + v15)) (fun v16 =>
  zb1 (zo_gr M12 l0 13 5) (fun v17 =>
  zb1 (zo_si M12 v17 v16 (0 : Int32)) (fun M18 =>
  some (M18, (v16.toInt64))))))))))))))))
  else
  zb1 (zo_rc M2 l0 13) (fun _ => zbd (zf_X12_no M2 l0 v2) (fun M20 v20 =>
  some (M20, v20))))))))
set_option maxRecDepth 100000 in
theorem zt_X12_leave {X : Zx} {M : Zm} {l0 : Option Nat} {l1 : Int32} {z : Zm × Int64} (h : zf_X12_leave M l0 l1 = some z) (hR : zRj X zC_X12_leave z.1 z.2) : zV X zC_X12_leave M 0 [(0, .inr (.inr l0)), (1, .inl l1)] [] := by
  unfold zf_X12_leave at h
  refine zV_b (pc' := 1) (lv' := [(0, .inr (.inr l0)), (1, .inl l1)]) (st' := [.inr (.inr l0)]) [(.aload_n 0, 1)] (by decide +kernel) rfl ?_
  refine zV_cvv (As := []) (st := []) (c := 13) (by decide +kernel) (zcl_X12_begin (by decide) (by decide)) ⟨zw_1673, zw_1675, zw_58⟩ ⟨⟨_, _, rfl⟩, by decide⟩ rfl rfl (Nat.le_of_ble_eq_true rfl) h (fun _ _ e => zc_X12_begin e) (fun M1 _ _ h => ?_)
  refine zV_b (pc' := 6) (lv' := [(0, .inr (.inr l0)), (1, .inl l1)]) (st' := [.inl l1, .inr (.inr l0)]) [(.aload_n 0, 1), (.iload_n 1, 1)] (by decide +kernel) rfl ?_
  refine zV_cvi (As := [.inl l1]) (st := []) (c := 13) (by decide +kernel) (zcl_X12_lookedCask (by decide) (by decide)) ⟨zw_1695, zw_1697, zw_61⟩ ⟨⟨_, _, rfl⟩, by decide⟩ rfl rfl (Nat.le_of_ble_eq_true rfl) h (fun _ _ e => zc_X12_lookedCask e) (fun M2 v2 _ h => ?_)
  refine zV_b (pc' := 11) (lv' := [(2, .inl v2), (0, .inr (.inr l0)), (1, .inl l1)]) (st' := [.inl v2]) [(.istore_n 2, 1), (.iload_n 2, 1)] (by decide +kernel) rfl ?_
  refine zV_if_le (off := 9) (tgt := 20) (by decide +kernel) (by decide) h (fun c3 h => ?_) (fun c3 h => ?_)
  · refine zV_b (pc' := 21) (lv' := [(2, .inl v2), (0, .inr (.inr l0)), (1, .inl l1)]) (st' := [.inr (.inr l0)]) [(.aload_n 0, 1)] (by decide +kernel) rfl ?_
    refine zV_gr (by decide +kernel) zfl_RX12_22 (by decide) rfl h (fun v4 _ h => ?_)
    refine zV_b (pc' := 25) (lv' := [(2, .inl v2), (0, .inr (.inr l0)), (1, .inl l1)]) (st' := [.inl l1, .inr (.inr v4)]) [(.iload_n 1, 1)] (by decide +kernel) rfl ?_
    refine zV_ai (by decide +kernel) h (fun v5 _ h => ?_)
    refine zV_if_ne (off := 9) (tgt := 35) (by decide +kernel) (by decide) h (fun c6 h => ?_) (fun c6 h => ?_)
    · refine zV_b (pc' := 31) (lv' := [(2, .inl v2), (0, .inr (.inr l0)), (1, .inl l1)]) (st' := [.inl (3 : Int32), .inr (.inr l0)]) [(.aload_n 0, 1), (.iconst 3, 1)] (by decide +kernel) rfl ?_
      refine zV_cvj (As := [.inl (3 : Int32)]) (st := []) (c := 13) (by decide +kernel) (zcl_X12_no (by decide) (by decide)) ⟨zw_1677, zw_1679, zw_59⟩ ⟨⟨_, _, rfl⟩, by decide⟩ rfl rfl (Nat.le_of_ble_eq_true rfl) h (fun _ _ e => zc_X12_no e) (fun M7 v7 _ h => ?_)
      exact zend_j h hR (by decide +kernel)
    · refine zV_b (pc' := 36) (lv' := [(2, .inl v2), (0, .inr (.inr l0)), (1, .inl l1)]) (st' := [.inr (.inr l0)]) [(.aload_n 0, 1)] (by decide +kernel) rfl ?_
      refine zV_cvv (As := []) (st := []) (c := 13) (by decide +kernel) (zcl_X12_keep (by decide) (by decide)) ⟨zw_1681, zw_1683, zw_60⟩ ⟨⟨_, _, rfl⟩, by decide⟩ rfl rfl (Nat.le_of_ble_eq_true rfl) h (fun _ _ e => zc_X12_keep e) (fun M9 _ _ h => ?_)
      refine zV_b (pc' := 40) (lv' := [(2, .inl v2), (0, .inr (.inr l0)), (1, .inl l1)]) (st' := [.inr (.inr l0)]) [(.aload_n 0, 1)] (by decide +kernel) rfl ?_
      refine zV_gr (by decide +kernel) zfl_RX12_22 (by decide) rfl h (fun v10 _ h => ?_)
      refine zV_b (pc' := 45) (lv' := [(2, .inl v2), (0, .inr (.inr l0)), (1, .inl l1)]) (st' := [.inl l1, .inr (.inr v10), .inl l1, .inr (.inr v10)]) [(.iload_n 1, 1), (.dup2, 1)] (by decide +kernel) rfl ?_
      refine zV_ai (by decide +kernel) h (fun v11 _ h => ?_)
      refine zV_b (pc' := 48) (lv' := [(2, .inl v2), (0, .inr (.inr l0)), (1, .inl l1)]) (st' := [.inl (v11 - (1 : Int32)), .inl l1, .inr (.inr v10)]) [(.iconst 1, 1), (.isub, 1)] (by decide +kernel) rfl ?_
      refine zV_si (by decide +kernel) h (fun M12 _ h => ?_)
      refine zV_b (pc' := 50) (lv' := [(2, .inl v2), (0, .inr (.inr l0)), (1, .inl l1)]) (st' := [.inr (.inr l0)]) [(.aload_n 0, 1)] (by decide +kernel) rfl ?_
      refine zV_gr (by decide +kernel) zfl_RX12_25 (by decide) rfl h (fun v13 _ h => ?_)
      refine zV_b (pc' := 57) (lv' := [(2, .inl v2), (0, .inr (.inr l0)), (1, .inl l1)]) (st' := [.inr (.inr l0), .inl ((4 : Int32) * l1), .inr (.inr v13)]) [(.iconst 4, 1), (.iload_n 1, 1), (.imul, 1), (.aload_n 0, 1)] (by decide +kernel) rfl ?_
      refine zV_gr (by decide +kernel) zfl_RX12_22 (by decide) rfl h (fun v14 _ h => ?_)
      refine zV_b (pc' := 61) (lv' := [(2, .inl v2), (0, .inr (.inr l0)), (1, .inl l1)]) (st' := [.inl l1, .inr (.inr v14), .inl ((4 : Int32) * l1), .inr (.inr v13)]) [(.iload_n 1, 1)] (by decide +kernel) rfl ?_
      refine zV_ai (by decide +kernel) h (fun v15 _ h => ?_)
      refine zV_b (pc' := 63) (lv' := [(2, .inl v2), (0, .inr (.inr l0)), (1, .inl l1)]) (st' := [.inl (((4 : Int32) * l1) + v15), .inr (.inr v13)]) [(.iadd, 1)] (by decide +kernel) rfl ?_
      refine zV_ai (by decide +kernel) h (fun v16 _ h => ?_)
      refine zV_b (pc' := 66) (lv' := [(3, .inl v16), (2, .inl v2), (0, .inr (.inr l0)), (1, .inl l1)]) (st' := [.inr (.inr l0)]) [(.istore_n 3, 1), (.aload_n 0, 1)] (by decide +kernel) rfl ?_
      refine zV_gr (by decide +kernel) zfl_RX12_19 (by decide) rfl h (fun v17 _ h => ?_)
      refine zV_b (pc' := 71) (lv' := [(3, .inl v16), (2, .inl v2), (0, .inr (.inr l0)), (1, .inl l1)]) (st' := [.inl (0 : Int32), .inl v16, .inr (.inr v17)]) [(.iload_n 3, 1), (.iconst 0, 1)] (by decide +kernel) rfl ?_
      refine zV_si (by decide +kernel) h (fun M18 _ h => ?_)
      refine zV_b (pc' := 74) (lv' := [(3, .inl v16), (2, .inl v2), (0, .inr (.inr l0)), (1, .inl l1)]) (st' := [.inr (.inl (v16.toInt64))]) [(.iload_n 3, 1), (.i2l, 1)] (by decide +kernel) rfl ?_
      exact zend_j h hR (by decide +kernel)
  · refine zV_b (pc' := 16) (lv' := [(2, .inl v2), (0, .inr (.inr l0)), (1, .inl l1)]) (st' := [.inl v2, .inr (.inr l0)]) [(.aload_n 0, 1), (.iload_n 2, 1)] (by decide +kernel) rfl ?_
    refine zV_cvj (As := [.inl v2]) (st := []) (c := 13) (by decide +kernel) (zcl_X12_no (by decide) (by decide)) ⟨zw_1677, zw_1679, zw_59⟩ ⟨⟨_, _, rfl⟩, by decide⟩ rfl rfl (Nat.le_of_ble_eq_true rfl) h (fun _ _ e => zc_X12_no e) (fun M20 v20 _ h => ?_)
    exact zend_j h hR (by decide +kernel)
theorem zc_X12_leave {M M' : Zm} {l0 : Option Nat} {l1 : Int32} {x : Int64} (h : zf_X12_leave M l0 l1 = some (M', x)) (l : Launch) (D : va_G) (cy : Nat → ClassId) : zMet l yX12_leave zC_X12_leave (some .long) D cy [.inr (.inr l0), .inl l1] M M' (some (.inr (.inl x))) :=
  zM_j (by decide) rfl (fun h => by cases h) (Nat.le_of_ble_eq_true rfl) (fun X hR => zt_X12_leave h hR)
-- BlendCellarModel.lift(II)J
def zC_X12_lift : Zc := (cX12_lift, 5, RX12, 1, 22, false)
theorem zcl_X12_lift {C : Zc} (h1 : zC_X12_lift.2.2.2.1 + 1 ≤ C.2.2.2.1) (h2 : 8 + (zC_X12_lift.2.1 + 11) + zC_X12_lift.2.2.2.2.1 ≤ C.2.2.2.2.1) : zCl C yX12_lift zC_X12_lift (some .long) 2 := ⟨zw_1725, zw_114, ⟨by decide, by decide⟩, by decide +kernel, h1, h2⟩
noncomputable def zf_X12_lift (M : Zm) (l0 : Option Nat) (l1 : Int32) (l2 : Int32) : Option (Zm × Int64) :=
  zb1 (zo_rc M l0 13) (fun _ => zbd (zf_X12_begin M l0) (fun M1 _ =>
  zb1 (zo_rc M1 l0 13) (fun _ => zbd (zf_X12_readPlace M1 l0 l1 l2) (fun M2 v2 =>
  (if v2 ≤ 0 then
  zb1 (zo_gr M2 l0 13 13) (fun v4 =>
  zb1 (zo_ai M2 v4 (((60 : Int32) * l1) + l2)) (fun v5 =>
  (if 0 ≤ v5 then
  zb1 (zo_rc M2 l0 13) (fun _ => zbd (zf_X12_keep M2 l0) (fun M7 _ =>
  zb1 (zo_gr M7 l0 13 13) (fun v8 =>
  zb1 (zo_si M7 v8 (((60 : Int32) * l1) + l2) (-1 : Int32)) (fun M9 =>
  zb1 (zo_gr M9 l0 13 5) (fun v10 =>
  zb1 (zo_si M9 v10 v5 (0 : Int32)) (fun M11 =>
  some (M11, (v5.toInt64))))))))
  else
  zb1 (zo_rc M2 l0 13) (fun _ => zbd (zf_X12_no M2 l0 (2 : Int32)) (fun M13 v13 =>
  some (M13, v13))))))
  else
  zb1 (zo_rc M2 l0 13) (fun _ => zbd (zf_X12_no M2 l0 v2) (fun M15 v15 =>
  some (M15, v15))))))))
set_option maxRecDepth 100000 in
theorem zt_X12_lift {X : Zx} {M : Zm} {l0 : Option Nat} {l1 : Int32} {l2 : Int32} {z : Zm × Int64} (h : zf_X12_lift M l0 l1 l2 = some z) (hR : zRj X zC_X12_lift z.1 z.2) : zV X zC_X12_lift M 0 [(0, .inr (.inr l0)), (1, .inl l1), (2, .inl l2)] [] := by
  unfold zf_X12_lift at h
  refine zV_b (pc' := 1) (lv' := [(0, .inr (.inr l0)), (1, .inl l1), (2, .inl l2)]) (st' := [.inr (.inr l0)]) [(.aload_n 0, 1)] (by decide +kernel) rfl ?_
  refine zV_cvv (As := []) (st := []) (c := 13) (by decide +kernel) (zcl_X12_begin (by decide) (by decide)) ⟨zw_1673, zw_1675, zw_58⟩ ⟨⟨_, _, rfl⟩, by decide⟩ rfl rfl (Nat.le_of_ble_eq_true rfl) h (fun _ _ e => zc_X12_begin e) (fun M1 _ _ h => ?_)
  refine zV_b (pc' := 7) (lv' := [(0, .inr (.inr l0)), (1, .inl l1), (2, .inl l2)]) (st' := [.inl l2, .inl l1, .inr (.inr l0)]) [(.aload_n 0, 1), (.iload_n 1, 1), (.iload_n 2, 1)] (by decide +kernel) rfl ?_
  refine zV_cvi (As := [.inl l1, .inl l2]) (st := []) (c := 13) (by decide +kernel) (zcl_X12_readPlace (by decide) (by decide)) ⟨zw_1715, zw_1717, zw_64⟩ ⟨⟨_, _, rfl⟩, by decide⟩ rfl rfl (Nat.le_of_ble_eq_true rfl) h (fun _ _ e => zc_X12_readPlace e) (fun M2 v2 _ h => ?_)
  refine zV_b (pc' := 12) (lv' := [(3, .inl v2), (0, .inr (.inr l0)), (1, .inl l1), (2, .inl l2)]) (st' := [.inl v2]) [(.istore_n 3, 1), (.iload_n 3, 1)] (by decide +kernel) rfl ?_
  refine zV_if_le (off := 9) (tgt := 21) (by decide +kernel) (by decide) h (fun c3 h => ?_) (fun c3 h => ?_)
  · refine zV_b (pc' := 22) (lv' := [(3, .inl v2), (0, .inr (.inr l0)), (1, .inl l1), (2, .inl l2)]) (st' := [.inr (.inr l0)]) [(.aload_n 0, 1)] (by decide +kernel) rfl ?_
    refine zV_gr (by decide +kernel) zfl_RX12_45 (by decide) rfl h (fun v4 _ h => ?_)
    refine zV_b (pc' := 31) (lv' := [(3, .inl v2), (0, .inr (.inr l0)), (1, .inl l1), (2, .inl l2)]) (st' := [.inl (((60 : Int32) * l1) + l2), .inr (.inr v4)]) [(.bipush 60, 2), (.iload_n 1, 1), (.imul, 1), (.iload_n 2, 1), (.iadd, 1)] (by decide +kernel) rfl ?_
    refine zV_ai (by decide +kernel) h (fun v5 _ h => ?_)
    refine zV_b (pc' := 36) (lv' := [(4, .inl v5), (3, .inl v2), (0, .inr (.inr l0)), (1, .inl l1), (2, .inl l2)]) (st' := [.inl v5]) [(.istore 4, 2), (.iload 4, 2)] (by decide +kernel) rfl ?_
    refine zV_if_ge (off := 9) (tgt := 45) (by decide +kernel) (by decide) h (fun c6 h => ?_) (fun c6 h => ?_)
    · refine zV_b (pc' := 46) (lv' := [(4, .inl v5), (3, .inl v2), (0, .inr (.inr l0)), (1, .inl l1), (2, .inl l2)]) (st' := [.inr (.inr l0)]) [(.aload_n 0, 1)] (by decide +kernel) rfl ?_
      refine zV_cvv (As := []) (st := []) (c := 13) (by decide +kernel) (zcl_X12_keep (by decide) (by decide)) ⟨zw_1681, zw_1683, zw_60⟩ ⟨⟨_, _, rfl⟩, by decide⟩ rfl rfl (Nat.le_of_ble_eq_true rfl) h (fun _ _ e => zc_X12_keep e) (fun M7 _ _ h => ?_)
      refine zV_b (pc' := 50) (lv' := [(4, .inl v5), (3, .inl v2), (0, .inr (.inr l0)), (1, .inl l1), (2, .inl l2)]) (st' := [.inr (.inr l0)]) [(.aload_n 0, 1)] (by decide +kernel) rfl ?_
      refine zV_gr (by decide +kernel) zfl_RX12_45 (by decide) rfl h (fun v8 _ h => ?_)
      refine zV_b (pc' := 60) (lv' := [(4, .inl v5), (3, .inl v2), (0, .inr (.inr l0)), (1, .inl l1), (2, .inl l2)]) (st' := [.inl (-1 : Int32), .inl (((60 : Int32) * l1) + l2), .inr (.inr v8)]) [(.bipush 60, 2), (.iload_n 1, 1), (.imul, 1), (.iload_n 2, 1), (.iadd, 1), (.iconst (-1), 1)] (by decide +kernel) rfl ?_
      refine zV_si (by decide +kernel) h (fun M9 _ h => ?_)
      refine zV_b (pc' := 62) (lv' := [(4, .inl v5), (3, .inl v2), (0, .inr (.inr l0)), (1, .inl l1), (2, .inl l2)]) (st' := [.inr (.inr l0)]) [(.aload_n 0, 1)] (by decide +kernel) rfl ?_
      refine zV_gr (by decide +kernel) zfl_RX12_19 (by decide) rfl h (fun v10 _ h => ?_)
      refine zV_b (pc' := 68) (lv' := [(4, .inl v5), (3, .inl v2), (0, .inr (.inr l0)), (1, .inl l1), (2, .inl l2)]) (st' := [.inl (0 : Int32), .inl v5, .inr (.inr v10)]) [(.iload 4, 2), (.iconst 0, 1)] (by decide +kernel) rfl ?_
      refine zV_si (by decide +kernel) h (fun M11 _ h => ?_)
      refine zV_b (pc' := 72) (lv' := [(4, .inl v5), (3, .inl v2), (0, .inr (.inr l0)), (1, .inl l1), (2, .inl l2)]) (st' := [.inr (.inl (v5.toInt64))]) [(.iload 4, 2), (.i2l, 1)] (by decide +kernel) rfl ?_
      exact zend_j h hR (by decide +kernel)
    · refine zV_b (pc' := 41) (lv' := [(4, .inl v5), (3, .inl v2), (0, .inr (.inr l0)), (1, .inl l1), (2, .inl l2)]) (st' := [.inl (2 : Int32), .inr (.inr l0)]) [(.aload_n 0, 1), (.iconst 2, 1)] (by decide +kernel) rfl ?_
      refine zV_cvj (As := [.inl (2 : Int32)]) (st := []) (c := 13) (by decide +kernel) (zcl_X12_no (by decide) (by decide)) ⟨zw_1677, zw_1679, zw_59⟩ ⟨⟨_, _, rfl⟩, by decide⟩ rfl rfl (Nat.le_of_ble_eq_true rfl) h (fun _ _ e => zc_X12_no e) (fun M13 v13 _ h => ?_)
      exact zend_j h hR (by decide +kernel)
  · refine zV_b (pc' := 17) (lv' := [(3, .inl v2), (0, .inr (.inr l0)), (1, .inl l1), (2, .inl l2)]) (st' := [.inl v2, .inr (.inr l0)]) [(.aload_n 0, 1), (.iload_n 3, 1)] (by decide +kernel) rfl ?_
    refine zV_cvj (As := [.inl v2]) (st := []) (c := 13) (by decide +kernel) (zcl_X12_no (by decide) (by decide)) ⟨zw_1677, zw_1679, zw_59⟩ ⟨⟨_, _, rfl⟩, by decide⟩ rfl rfl (Nat.le_of_ble_eq_true rfl) h (fun _ _ e => zc_X12_no e) (fun M15 v15 _ h => ?_)
    exact zend_j h hR (by decide +kernel)
theorem zc_X12_lift {M M' : Zm} {l0 : Option Nat} {l1 : Int32} {l2 : Int32} {x : Int64} (h : zf_X12_lift M l0 l1 l2 = some (M', x)) (l : Launch) (D : va_G) (cy : Nat → ClassId) : zMet l yX12_lift zC_X12_lift (some .long) D cy [.inr (.inr l0), .inl l1, .inl l2] M M' (some (.inr (.inl x))) :=
  zM_j (by decide) rfl (fun h => by cases h) (Nat.le_of_ble_eq_true rfl) (fun X hR => zt_X12_lift h hR)
-- BlendCellarModel.month()I
def zC_X12_month : Zc := (cX12_month, 1, RX12, 0, 0, false)
theorem zcl_X12_month {C : Zc} (h1 : zC_X12_month.2.2.2.1 + 1 ≤ C.2.2.2.1) (h2 : 8 + (zC_X12_month.2.1 + 11) + zC_X12_month.2.2.2.2.1 ≤ C.2.2.2.2.1) : zCl C yX12_month zC_X12_month (some .int) 0 := ⟨zw_1993, zw_114, ⟨by decide, by decide⟩, by decide +kernel, h1, h2⟩
noncomputable def zf_X12_month (M : Zm) (l0 : Option Nat) : Option (Zm × Int32) :=
  zb1 (zo_gi M l0 13 18) (fun v1 =>
  some (M, v1))
set_option maxRecDepth 100000 in
theorem zt_X12_month {X : Zx} {M : Zm} {l0 : Option Nat} {z : Zm × Int32} (h : zf_X12_month M l0 = some z) (hR : zRi X zC_X12_month z.1 z.2) : zV X zC_X12_month M 0 [(0, .inr (.inr l0))] [] := by
  unfold zf_X12_month at h
  refine zV_b (pc' := 1) (lv' := [(0, .inr (.inr l0))]) (st' := [.inr (.inr l0)]) [(.aload_n 0, 1)] (by decide +kernel) rfl ?_
  refine zV_gi (by decide +kernel) zfl_RX12_205 (by decide) rfl (Or.inl rfl) h (fun v1 _ h => ?_)
  exact zend_i h hR (by decide +kernel)
theorem zc_X12_month {M M' : Zm} {l0 : Option Nat} {x : Int32} (h : zf_X12_month M l0 = some (M', x)) (l : Launch) (D : va_G) (cy : Nat → ClassId) : zMet l yX12_month zC_X12_month (some .int) D cy [.inr (.inr l0)] M M' (some (.inl x)) :=
  zM_i (by decide) rfl (fun h => by cases h) (Nat.le_of_ble_eq_true rfl) (fun X hR => zt_X12_month h hR)
-- BlendCellarModel.ofPart(II)J
def zC_X12_ofPart : Zc := (cX12_ofPart, 6, RX12, 0, 0, false)
theorem zcl_X12_ofPart {C : Zc} (h1 : zC_X12_ofPart.2.2.2.1 + 1 ≤ C.2.2.2.1) (h2 : 8 + (zC_X12_ofPart.2.1 + 11) + zC_X12_ofPart.2.2.2.2.1 ≤ C.2.2.2.2.1) : zCl C yX12_ofPart zC_X12_ofPart (some .long) 2 := ⟨zw_1973, zw_114, ⟨by decide, by decide⟩, by decide +kernel, h1, h2⟩
noncomputable def zf_X12_ofPart_J45 (M : Zm) (p0 : Option Nat) (p1 : Int32) (p2 : Int32) (l3 : Int64) (l5 : Int32) : Option ((Zm × Int64 × Int32) ⊕ (Zm × Int64 × Int32)) :=
  some (.inl (M, l3, (l5 + 1)))
noncomputable def zf_X12_ofPart_L8 (p0 : Option Nat) (p1 : Int32) (p2 : Int32) (x : Zm × Int64 × Int32) : Option ((Zm × Int64 × Int32) ⊕ (Zm × Int64 × Int32)) := match x with
  | (M, l3, l5) =>
  zb1 (zo_gr M p0 13 8) (fun v1 =>
  zb1 (zo_ai M v1 p1) (fun v2 =>
  (if (((60 : Int32) * p1) + v2) ≤ l5 then
  some (.inr (M, l3, l5))
  else
  zb1 (zo_gr M p0 13 9) (fun v4 =>
  zb1 (zo_ai M v4 l5) (fun v5 =>
  (if v5 = p2 then
  zb1 (zo_gr M p0 13 10) (fun v7 =>
  zb1 (zo_aj M v7 l5) (fun v8 =>
  zf_X12_ofPart_J45 M p0 p1 p2 (l3 + v8) l5))
  else
  zf_X12_ofPart_J45 M p0 p1 p2 l3 l5))))))
def zP_X12_ofPart_L8 (X : Zx) (p0 : Option Nat) (p1 : Int32) (p2 : Int32) (x : Zm × Int64 × Int32) : Prop := match x with
  | (M, l3, l5) => zV X zC_X12_ofPart M 8 [(0, .inr (.inr p0)), (1, .inl p1), (2, .inl p2), (3, .inr (.inl l3)), (5, .inl l5)] []
def zK_X12_ofPart_L8 (X : Zx) (p0 : Option Nat) (p1 : Int32) (p2 : Int32) (y : Zm × Int64 × Int32) : Prop := match y with
  | (M, l3, l5) => zV X zC_X12_ofPart M 51 [(3, .inr (.inl l3))] []
noncomputable def zf_X12_ofPart (M : Zm) (l0 : Option Nat) (l1 : Int32) (l2 : Int32) : Option (Zm × Int64) :=
  zb1 (zwhile (zf_X12_ofPart_L8 l0 l1 l2) (M, (0 : Int64), ((60 : Int32) * l1))) (fun y10 => match y10 with
  | (M8_10, l3_10, l5_10) =>
  some (M8_10, l3_10))
set_option maxRecDepth 100000 in
theorem zt_X12_ofPart_J45 {X : Zx} {M : Zm} {p0 : Option Nat} {p1 : Int32} {p2 : Int32} {l3 : Int64} {l5 : Int32} {z : (Zm × Int64 × Int32) ⊕ (Zm × Int64 × Int32)} (h : zf_X12_ofPart_J45 M p0 p1 p2 l3 l5 = some z) (k1 : ∀ x' : Zm × Int64 × Int32, z = .inl x' → zP_X12_ofPart_L8 X p0 p1 p2 x') (k2 : ∀ y : Zm × Int64 × Int32, z = .inr y → zK_X12_ofPart_L8 X p0 p1 p2 y) : zV X zC_X12_ofPart M 45 [(0, .inr (.inr p0)), (1, .inl p1), (2, .inl p2), (3, .inr (.inl l3)), (5, .inl l5)] [] := by
  unfold zf_X12_ofPart_J45 at h
  refine zV_b (pc' := 48) (lv' := [(5, .inl (l5 + 1)), (0, .inr (.inr p0)), (1, .inl p1), (2, .inl p2), (3, .inr (.inl l3))]) (st' := []) [(.iinc 5 1, 3)] (by decide +kernel) rfl ?_
  refine zV_goto (off := (-40)) (tgt := 8) (by decide +kernel) (by decide) ?_
  exact zV_lv (lv' := [(0, .inr (.inr p0)), (1, .inl p1), (2, .inl p2), (3, .inr (.inl l3)), (5, .inl (l5 + 1))]) [1, 2, 3, 4, 0] rfl (k1 _ (Option.some.inj h).symm)
set_option maxRecDepth 100000 in
theorem zt_X12_ofPart_L8 {X : Zx} {p0 : Option Nat} {p1 : Int32} {p2 : Int32} {x : Zm × Int64 × Int32} {y : Zm × Int64 × Int32} (h : zwhile (zf_X12_ofPart_L8 p0 p1 p2) x = some y) (hy : zK_X12_ofPart_L8 X p0 p1 p2 y) : zP_X12_ofPart_L8 X p0 p1 p2 x := by
  refine zwhile_ind (P := zP_X12_ofPart_L8 X p0 p1 p2) (K := zK_X12_ofPart_L8 X p0 p1 p2) ?_ h hy
  intro x z hf k1 k2
  obtain ⟨M, l3, l5⟩ := x
  have h : zf_X12_ofPart_L8 p0 p1 p2 (M, l3, l5) = some z := hf
  unfold zf_X12_ofPart_L8 at h
  show zV X zC_X12_ofPart M 8 [(0, .inr (.inr p0)), (1, .inl p1), (2, .inl p2), (3, .inr (.inl l3)), (5, .inl l5)] []
  refine zV_b (pc' := 15) (lv' := [(0, .inr (.inr p0)), (1, .inl p1), (2, .inl p2), (3, .inr (.inl l3)), (5, .inl l5)]) (st' := [.inr (.inr p0), .inl ((60 : Int32) * p1), .inl l5]) [(.iload 5, 2), (.bipush 60, 2), (.iload_n 1, 1), (.imul, 1), (.aload_n 0, 1)] (by decide +kernel) rfl ?_
  refine zV_gr (by decide +kernel) zfl_RX12_28 (by decide) rfl h (fun v1 _ h => ?_)
  refine zV_b (pc' := 19) (lv' := [(0, .inr (.inr p0)), (1, .inl p1), (2, .inl p2), (3, .inr (.inl l3)), (5, .inl l5)]) (st' := [.inl p1, .inr (.inr v1), .inl ((60 : Int32) * p1), .inl l5]) [(.iload_n 1, 1)] (by decide +kernel) rfl ?_
  refine zV_ai (by decide +kernel) h (fun v2 _ h => ?_)
  refine zV_b (pc' := 21) (lv' := [(0, .inr (.inr p0)), (1, .inl p1), (2, .inl p2), (3, .inr (.inl l3)), (5, .inl l5)]) (st' := [.inl (((60 : Int32) * p1) + v2), .inl l5]) [(.iadd, 1)] (by decide +kernel) rfl ?_
  refine zV_icmp_ge (off := 30) (tgt := 51) (by decide +kernel) (by decide) h (fun c3 h => ?_) (fun c3 h => ?_)
  · exact zV_lv (lv' := [(3, .inr (.inl l3))]) [3] rfl (k2 _ (Option.some.inj h).symm)
  · refine zV_b (pc' := 25) (lv' := [(0, .inr (.inr p0)), (1, .inl p1), (2, .inl p2), (3, .inr (.inl l3)), (5, .inl l5)]) (st' := [.inr (.inr p0)]) [(.aload_n 0, 1)] (by decide +kernel) rfl ?_
    refine zV_gr (by decide +kernel) zfl_RX12_32 (by decide) rfl h (fun v4 _ h => ?_)
    refine zV_b (pc' := 30) (lv' := [(0, .inr (.inr p0)), (1, .inl p1), (2, .inl p2), (3, .inr (.inl l3)), (5, .inl l5)]) (st' := [.inl l5, .inr (.inr v4)]) [(.iload 5, 2)] (by decide +kernel) rfl ?_
    refine zV_ai (by decide +kernel) h (fun v5 _ h => ?_)
    refine zV_b (pc' := 32) (lv' := [(0, .inr (.inr p0)), (1, .inl p1), (2, .inl p2), (3, .inr (.inl l3)), (5, .inl l5)]) (st' := [.inl p2, .inl v5]) [(.iload_n 2, 1)] (by decide +kernel) rfl ?_
    refine zV_icmp_ne (off := 13) (tgt := 45) (by decide +kernel) (by decide) h (fun c6 h => ?_) (fun c6 h => ?_)
    · refine zV_b (pc' := 37) (lv' := [(0, .inr (.inr p0)), (1, .inl p1), (2, .inl p2), (3, .inr (.inl l3)), (5, .inl l5)]) (st' := [.inr (.inr p0), .inr (.inl l3)]) [(.lload_n 3, 1), (.aload_n 0, 1)] (by decide +kernel) rfl ?_
      refine zV_gr (by decide +kernel) zfl_RX12_35 (by decide) rfl h (fun v7 _ h => ?_)
      refine zV_b (pc' := 42) (lv' := [(0, .inr (.inr p0)), (1, .inl p1), (2, .inl p2), (3, .inr (.inl l3)), (5, .inl l5)]) (st' := [.inl l5, .inr (.inr v7), .inr (.inl l3)]) [(.iload 5, 2)] (by decide +kernel) rfl ?_
      refine zV_aj (by decide +kernel) h (fun v8 _ h => ?_)
      refine zV_b (pc' := 45) (lv' := [(3, .inr (.inl (l3 + v8))), (0, .inr (.inr p0)), (1, .inl p1), (2, .inl p2), (5, .inl l5)]) (st' := []) [(.ladd, 1), (.lstore_n 3, 1)] (by decide +kernel) rfl ?_
      exact zV_lv (lv' := [(0, .inr (.inr p0)), (1, .inl p1), (2, .inl p2), (3, .inr (.inl (l3 + v8))), (5, .inl l5)]) [1, 2, 3, 0, 4] rfl (zt_X12_ofPart_J45 h k1 k2)
    · exact zV_lv (lv' := [(0, .inr (.inr p0)), (1, .inl p1), (2, .inl p2), (3, .inr (.inl l3)), (5, .inl l5)]) [0, 1, 2, 3, 4] rfl (zt_X12_ofPart_J45 h k1 k2)
set_option maxRecDepth 100000 in
theorem zt_X12_ofPart {X : Zx} {M : Zm} {l0 : Option Nat} {l1 : Int32} {l2 : Int32} {z : Zm × Int64} (h : zf_X12_ofPart M l0 l1 l2 = some z) (hR : zRj X zC_X12_ofPart z.1 z.2) : zV X zC_X12_ofPart M 0 [(0, .inr (.inr l0)), (1, .inl l1), (2, .inl l2)] [] := by
  unfold zf_X12_ofPart at h
  refine zV_b (pc' := 8) (lv' := [(5, .inl ((60 : Int32) * l1)), (3, .inr (.inl (0 : Int64))), (0, .inr (.inr l0)), (1, .inl l1), (2, .inl l2)]) (st' := []) [(.lconst 0, 1), (.lstore_n 3, 1), (.bipush 60, 2), (.iload_n 1, 1), (.imul, 1), (.istore 5, 2)] (by decide +kernel) rfl ?_
  obtain ⟨y10, e10, h⟩ := zb1_inv h
  refine zV_lv (lv' := [(0, .inr (.inr l0)), (1, .inl l1), (2, .inl l2), (3, .inr (.inl (0 : Int64))), (5, .inl ((60 : Int32) * l1))]) [2, 3, 4, 1, 0] rfl (zt_X12_ofPart_L8 e10 ?_)
  obtain ⟨M8_10, l3_10, l5_10⟩ := y10
  show zV X zC_X12_ofPart M8_10 51 [(3, .inr (.inl l3_10))] []
  refine zV_b (pc' := 52) (lv' := [(3, .inr (.inl l3_10))]) (st' := [.inr (.inl l3_10)]) [(.lload_n 3, 1)] (by decide +kernel) rfl ?_
  exact zend_j h hR (by decide +kernel)
theorem zc_X12_ofPart {M M' : Zm} {l0 : Option Nat} {l1 : Int32} {l2 : Int32} {x : Int64} (h : zf_X12_ofPart M l0 l1 l2 = some (M', x)) (l : Launch) (D : va_G) (cy : Nat → ClassId) : zMet l yX12_ofPart zC_X12_ofPart (some .long) D cy [.inr (.inr l0), .inl l1, .inl l2] M M' (some (.inr (.inl x))) :=
  zM_j (by decide) rfl (fun h => by cases h) (Nat.le_of_ble_eq_true rfl) (fun X hR => zt_X12_ofPart h hR)
-- BlendCellarModel.odd()I
def zC_X12_odd : Zc := (cX12_odd, 6, RX12, 1, 25, false)
theorem zcl_X12_odd {C : Zc} (h1 : zC_X12_odd.2.2.2.1 + 1 ≤ C.2.2.2.1) (h2 : 8 + (zC_X12_odd.2.1 + 11) + zC_X12_odd.2.2.2.2.1 ≤ C.2.2.2.2.1) : zCl C yX12_odd zC_X12_odd (some .int) 0 := ⟨zw_1985, zw_114, ⟨by decide, by decide⟩, by decide +kernel, h1, h2⟩
noncomputable def zf_X12_odd_L24 (p0 : Option Nat) (p1 : Int32) (p2 : Int32) (x : Zm × Int64 × Int32) : Option ((Zm × Int64 × Int32) ⊕ (Zm × Int64 × Int32)) := match x with
  | (M, l3, l5) =>
  (if (4 : Int32) < l5 then
  some (.inr (M, l3, l5))
  else
  zb1 (zo_gr M p0 13 17) (fun v6 =>
  zb1 (zo_aj M v6 (((5 : Int32) * p2) + l5)) (fun v7 =>
  some (.inl (M, (l3 - v7), (l5 + 1))))))
def zP_X12_odd_L24 (X : Zx) (p0 : Option Nat) (p1 : Int32) (p2 : Int32) (x : Zm × Int64 × Int32) : Prop := match x with
  | (M, l3, l5) => zV X zC_X12_odd M 24 [(0, .inr (.inr p0)), (1, .inl p1), (2, .inl p2), (3, .inr (.inl l3)), (5, .inl l5)] []
def zK_X12_odd_L24 (X : Zx) (p0 : Option Nat) (p1 : Int32) (p2 : Int32) (y : Zm × Int64 × Int32) : Prop := match y with
  | (M, l3, l5) => zV X zC_X12_odd M 50 [(0, .inr (.inr p0)), (1, .inl p1), (2, .inl p2), (3, .inr (.inl l3))] []
noncomputable def zf_X12_odd_L53 (p0 : Option Nat) (p1 : Int32) (p2 : Int32) (x : Zm × Int64 × Int32) : Option ((Zm × Int64 × Int32) ⊕ (Zm × Int64 × Int32)) := match x with
  | (M, l3, l5) =>
  zb1 (zo_gi M p0 13 1) (fun v10 =>
  (if v10 ≤ l5 then
  some (.inr (M, l3, l5))
  else
  zb1 (zo_gr M p0 13 16) (fun v12 =>
  zb1 (zo_ai M v12 p2) (fun v13 =>
  zb1 (zo_rc M p0 13) (fun _ => zbd (zf_X12_ofPart M p0 l5 v13) (fun M14 v14 =>
  some (.inl (M14, (l3 - v14), (l5 + 1)))))))))
def zP_X12_odd_L53 (X : Zx) (p0 : Option Nat) (p1 : Int32) (p2 : Int32) (x : Zm × Int64 × Int32) : Prop := match x with
  | (M, l3, l5) => zV X zC_X12_odd M 53 [(0, .inr (.inr p0)), (1, .inl p1), (2, .inl p2), (3, .inr (.inl l3)), (5, .inl l5)] []
def zK_X12_odd_L53 (X : Zx) (p0 : Option Nat) (p1 : Int32) (p2 : Int32) (y : Zm × Int64 × Int32) : Prop := match y with
  | (M, l3, l5) => zV X zC_X12_odd M 83 [(0, .inr (.inr p0)), (1, .inl p1), (2, .inl p2), (3, .inr (.inl l3))] []
noncomputable def zf_X12_odd_J95 (M : Zm) (p0 : Option Nat) (l2 : Int32) (s0 : Int32) (s1 : Int32) : Option ((Zm × Int32 × Int32) ⊕ (Zm × Int32 × Int32)) :=
  some (.inl (M, (s1 + s0), (l2 + 1)))
noncomputable def zf_X12_odd_L4 (p0 : Option Nat) (x : Zm × Int32 × Int32) : Option ((Zm × Int32 × Int32) ⊕ (Zm × Int32 × Int32)) := match x with
  | (M, l1, l2) =>
  zb1 (zo_gi M p0 13 14) (fun v1 =>
  (if v1 ≤ l2 then
  some (.inr (M, l1, l2))
  else
  zb1 (zo_gr M p0 13 17) (fun v3 =>
  zb1 (zo_aj M v3 ((5 : Int32) * l2)) (fun v4 =>
  zb1 (zwhile (zf_X12_odd_L24 p0 l1 l2) (M, v4, (1 : Int32))) (fun y9 => match y9 with
  | (M24_9, l3_9, l5_9) =>
  zb1 (zwhile (zf_X12_odd_L53 p0 l1 l2) (M24_9, l3_9, (0 : Int32))) (fun y16 => match y16 with
  | (M53_16, l3_16, l5_16) =>
  (if l3_16 = (0 : Int64) then
  zf_X12_odd_J95 M53_16 p0 l2 (0 : Int32) l1
  else
  zf_X12_odd_J95 M53_16 p0 l2 (1 : Int32) l1)))))))
def zP_X12_odd_L4 (X : Zx) (p0 : Option Nat) (x : Zm × Int32 × Int32) : Prop := match x with
  | (M, l1, l2) => zV X zC_X12_odd M 4 [(0, .inr (.inr p0)), (1, .inl l1), (2, .inl l2)] []
def zK_X12_odd_L4 (X : Zx) (p0 : Option Nat) (y : Zm × Int32 × Int32) : Prop := match y with
  | (M, l1, l2) => zV X zC_X12_odd M 103 [(1, .inl l1)] []
noncomputable def zf_X12_odd (M : Zm) (l0 : Option Nat) : Option (Zm × Int32) :=
  zb1 (zwhile (zf_X12_odd_L4 l0) (M, (0 : Int32), (0 : Int32))) (fun y20 => match y20 with
  | (M4_20, l1_20, l2_20) =>
  some (M4_20, l1_20))
set_option maxRecDepth 100000 in
theorem zt_X12_odd_L24 {X : Zx} {p0 : Option Nat} {p1 : Int32} {p2 : Int32} {x : Zm × Int64 × Int32} {y : Zm × Int64 × Int32} (h : zwhile (zf_X12_odd_L24 p0 p1 p2) x = some y) (hy : zK_X12_odd_L24 X p0 p1 p2 y) : zP_X12_odd_L24 X p0 p1 p2 x := by
  refine zwhile_ind (P := zP_X12_odd_L24 X p0 p1 p2) (K := zK_X12_odd_L24 X p0 p1 p2) ?_ h hy
  intro x z hf k1 k2
  obtain ⟨M, l3, l5⟩ := x
  have h : zf_X12_odd_L24 p0 p1 p2 (M, l3, l5) = some z := hf
  unfold zf_X12_odd_L24 at h
  show zV X zC_X12_odd M 24 [(0, .inr (.inr p0)), (1, .inl p1), (2, .inl p2), (3, .inr (.inl l3)), (5, .inl l5)] []
  refine zV_b (pc' := 27) (lv' := [(0, .inr (.inr p0)), (1, .inl p1), (2, .inl p2), (3, .inr (.inl l3)), (5, .inl l5)]) (st' := [.inl (4 : Int32), .inl l5]) [(.iload 5, 2), (.iconst 4, 1)] (by decide +kernel) rfl ?_
  refine zV_icmp_gt (off := 23) (tgt := 50) (by decide +kernel) (by decide) h (fun c5 h => ?_) (fun c5 h => ?_)
  · exact zV_lv (lv' := [(0, .inr (.inr p0)), (1, .inl p1), (2, .inl p2), (3, .inr (.inl l3))]) [0, 1, 2, 3] rfl (k2 _ (Option.some.inj h).symm)
  · refine zV_b (pc' := 32) (lv' := [(0, .inr (.inr p0)), (1, .inl p1), (2, .inl p2), (3, .inr (.inl l3)), (5, .inl l5)]) (st' := [.inr (.inr p0), .inr (.inl l3)]) [(.lload_n 3, 1), (.aload_n 0, 1)] (by decide +kernel) rfl ?_
    refine zV_gr (by decide +kernel) zfl_RX12_54 (by decide) rfl h (fun v6 _ h => ?_)
    refine zV_b (pc' := 41) (lv' := [(0, .inr (.inr p0)), (1, .inl p1), (2, .inl p2), (3, .inr (.inl l3)), (5, .inl l5)]) (st' := [.inl (((5 : Int32) * p2) + l5), .inr (.inr v6), .inr (.inl l3)]) [(.iconst 5, 1), (.iload_n 2, 1), (.imul, 1), (.iload 5, 2), (.iadd, 1)] (by decide +kernel) rfl ?_
    refine zV_aj (by decide +kernel) h (fun v7 _ h => ?_)
    refine zV_b (pc' := 47) (lv' := [(5, .inl (l5 + 1)), (3, .inr (.inl (l3 - v7))), (0, .inr (.inr p0)), (1, .inl p1), (2, .inl p2)]) (st' := []) [(.lsub, 1), (.lstore_n 3, 1), (.iinc 5 1, 3)] (by decide +kernel) rfl ?_
    refine zV_goto (off := (-23)) (tgt := 24) (by decide +kernel) (by decide) ?_
    exact zV_lv (lv' := [(0, .inr (.inr p0)), (1, .inl p1), (2, .inl p2), (3, .inr (.inl (l3 - v7))), (5, .inl (l5 + 1))]) [2, 3, 4, 1, 0] rfl (k1 _ (Option.some.inj h).symm)
set_option maxRecDepth 100000 in
theorem zt_X12_odd_L53 {X : Zx} {p0 : Option Nat} {p1 : Int32} {p2 : Int32} {x : Zm × Int64 × Int32} {y : Zm × Int64 × Int32} (h : zwhile (zf_X12_odd_L53 p0 p1 p2) x = some y) (hy : zK_X12_odd_L53 X p0 p1 p2 y) : zP_X12_odd_L53 X p0 p1 p2 x := by
  refine zwhile_ind (P := zP_X12_odd_L53 X p0 p1 p2) (K := zK_X12_odd_L53 X p0 p1 p2) ?_ h hy
  intro x z hf k1 k2
  obtain ⟨M, l3, l5⟩ := x
  have h : zf_X12_odd_L53 p0 p1 p2 (M, l3, l5) = some z := hf
  unfold zf_X12_odd_L53 at h
  show zV X zC_X12_odd M 53 [(0, .inr (.inr p0)), (1, .inl p1), (2, .inl p2), (3, .inr (.inl l3)), (5, .inl l5)] []
  refine zV_b (pc' := 56) (lv' := [(0, .inr (.inr p0)), (1, .inl p1), (2, .inl p2), (3, .inr (.inl l3)), (5, .inl l5)]) (st' := [.inr (.inr p0), .inl l5]) [(.iload 5, 2), (.aload_n 0, 1)] (by decide +kernel) rfl ?_
  refine zV_gi (by decide +kernel) zfl_RX12_181 (by decide) rfl (Or.inl rfl) h (fun v10 _ h => ?_)
  refine zV_icmp_ge (off := 24) (tgt := 83) (by decide +kernel) (by decide) h (fun c11 h => ?_) (fun c11 h => ?_)
  · exact zV_lv (lv' := [(0, .inr (.inr p0)), (1, .inl p1), (2, .inl p2), (3, .inr (.inl l3))]) [0, 1, 2, 3] rfl (k2 _ (Option.some.inj h).symm)
  · refine zV_b (pc' := 67) (lv' := [(0, .inr (.inr p0)), (1, .inl p1), (2, .inl p2), (3, .inr (.inl l3)), (5, .inl l5)]) (st' := [.inr (.inr p0), .inl l5, .inr (.inr p0), .inr (.inl l3)]) [(.lload_n 3, 1), (.aload_n 0, 1), (.iload 5, 2), (.aload_n 0, 1)] (by decide +kernel) rfl ?_
    refine zV_gr (by decide +kernel) zfl_RX12_51 (by decide) rfl h (fun v12 _ h => ?_)
    refine zV_b (pc' := 71) (lv' := [(0, .inr (.inr p0)), (1, .inl p1), (2, .inl p2), (3, .inr (.inl l3)), (5, .inl l5)]) (st' := [.inl p2, .inr (.inr v12), .inl l5, .inr (.inr p0), .inr (.inl l3)]) [(.iload_n 2, 1)] (by decide +kernel) rfl ?_
    refine zV_ai (by decide +kernel) h (fun v13 _ h => ?_)
    refine zV_cvj (As := [.inl l5, .inl v13]) (st := [.inr (.inl l3)]) (c := 13) (by decide +kernel) (zcl_X12_ofPart (by decide) (by decide)) ⟨zw_1970, zw_1972, zw_99⟩ ⟨⟨_, _, rfl⟩, by decide⟩ rfl rfl (Nat.le_of_ble_eq_true rfl) h (fun _ _ e => zc_X12_ofPart e) (fun M14 v14 _ h => ?_)
    refine zV_b (pc' := 80) (lv' := [(5, .inl (l5 + 1)), (3, .inr (.inl (l3 - v14))), (0, .inr (.inr p0)), (1, .inl p1), (2, .inl p2)]) (st' := []) [(.lsub, 1), (.lstore_n 3, 1), (.iinc 5 1, 3)] (by decide +kernel) rfl ?_
    refine zV_goto (off := (-27)) (tgt := 53) (by decide +kernel) (by decide) ?_
    exact zV_lv (lv' := [(0, .inr (.inr p0)), (1, .inl p1), (2, .inl p2), (3, .inr (.inl (l3 - v14))), (5, .inl (l5 + 1))]) [2, 3, 4, 1, 0] rfl (k1 _ (Option.some.inj h).symm)
set_option maxRecDepth 100000 in
theorem zt_X12_odd_J95 {X : Zx} {M : Zm} {p0 : Option Nat} {l2 : Int32} {s0 : Int32} {s1 : Int32} {z : (Zm × Int32 × Int32) ⊕ (Zm × Int32 × Int32)} (h : zf_X12_odd_J95 M p0 l2 s0 s1 = some z) (k1 : ∀ x' : Zm × Int32 × Int32, z = .inl x' → zP_X12_odd_L4 X p0 x') (k2 : ∀ y : Zm × Int32 × Int32, z = .inr y → zK_X12_odd_L4 X p0 y) : zV X zC_X12_odd M 95 [(0, .inr (.inr p0)), (2, .inl l2)] [.inl s0, .inl s1] := by
  unfold zf_X12_odd_J95 at h
  refine zV_b (pc' := 100) (lv' := [(2, .inl (l2 + 1)), (1, .inl (s1 + s0)), (0, .inr (.inr p0))]) (st' := []) [(.iadd, 1), (.istore_n 1, 1), (.iinc 2 1, 3)] (by decide +kernel) rfl ?_
  refine zV_goto (off := (-96)) (tgt := 4) (by decide +kernel) (by decide) ?_
  exact zV_lv (lv' := [(0, .inr (.inr p0)), (1, .inl (s1 + s0)), (2, .inl (l2 + 1))]) [2, 1, 0] rfl (k1 _ (Option.some.inj h).symm)
set_option maxRecDepth 100000 in
theorem zt_X12_odd_L4 {X : Zx} {p0 : Option Nat} {x : Zm × Int32 × Int32} {y : Zm × Int32 × Int32} (h : zwhile (zf_X12_odd_L4 p0) x = some y) (hy : zK_X12_odd_L4 X p0 y) : zP_X12_odd_L4 X p0 x := by
  refine zwhile_ind (P := zP_X12_odd_L4 X p0) (K := zK_X12_odd_L4 X p0) ?_ h hy
  intro x z hf k1 k2
  obtain ⟨M, l1, l2⟩ := x
  have h : zf_X12_odd_L4 p0 (M, l1, l2) = some z := hf
  unfold zf_X12_odd_L4 at h
  show zV X zC_X12_odd M 4 [(0, .inr (.inr p0)), (1, .inl l1), (2, .inl l2)] []
  refine zV_b (pc' := 6) (lv' := [(0, .inr (.inr p0)), (1, .inl l1), (2, .inl l2)]) (st' := [.inr (.inr p0), .inl l2]) [(.iload_n 2, 1), (.aload_n 0, 1)] (by decide +kernel) rfl ?_
  refine zV_gi (by decide +kernel) zfl_RX12_199 (by decide) rfl (Or.inl rfl) h (fun v1 _ h => ?_)
  refine zV_icmp_ge (off := 94) (tgt := 103) (by decide +kernel) (by decide) h (fun c2 h => ?_) (fun c2 h => ?_)
  · exact zV_lv (lv' := [(1, .inl l1)]) [1] rfl (k2 _ (Option.some.inj h).symm)
  · refine zV_b (pc' := 13) (lv' := [(0, .inr (.inr p0)), (1, .inl l1), (2, .inl l2)]) (st' := [.inr (.inr p0)]) [(.aload_n 0, 1)] (by decide +kernel) rfl ?_
    refine zV_gr (by decide +kernel) zfl_RX12_54 (by decide) rfl h (fun v3 _ h => ?_)
    refine zV_b (pc' := 19) (lv' := [(0, .inr (.inr p0)), (1, .inl l1), (2, .inl l2)]) (st' := [.inl ((5 : Int32) * l2), .inr (.inr v3)]) [(.iconst 5, 1), (.iload_n 2, 1), (.imul, 1)] (by decide +kernel) rfl ?_
    refine zV_aj (by decide +kernel) h (fun v4 _ h => ?_)
    refine zV_b (pc' := 24) (lv' := [(5, .inl (1 : Int32)), (3, .inr (.inl v4)), (0, .inr (.inr p0)), (1, .inl l1), (2, .inl l2)]) (st' := []) [(.lstore_n 3, 1), (.iconst 1, 1), (.istore 5, 2)] (by decide +kernel) rfl ?_
    obtain ⟨y9, e9, h⟩ := zb1_inv h
    refine zV_lv (lv' := [(0, .inr (.inr p0)), (1, .inl l1), (2, .inl l2), (3, .inr (.inl v4)), (5, .inl (1 : Int32))]) [2, 3, 4, 1, 0] rfl (zt_X12_odd_L24 e9 ?_)
    obtain ⟨M24_9, l3_9, l5_9⟩ := y9
    show zV X zC_X12_odd M24_9 50 [(0, .inr (.inr p0)), (1, .inl l1), (2, .inl l2), (3, .inr (.inl l3_9))] []
    refine zV_b (pc' := 53) (lv' := [(5, .inl (0 : Int32)), (0, .inr (.inr p0)), (1, .inl l1), (2, .inl l2), (3, .inr (.inl l3_9))]) (st' := []) [(.iconst 0, 1), (.istore 5, 2)] (by decide +kernel) rfl ?_
    obtain ⟨y16, e16, h⟩ := zb1_inv h
    refine zV_lv (lv' := [(0, .inr (.inr p0)), (1, .inl l1), (2, .inl l2), (3, .inr (.inl l3_9)), (5, .inl (0 : Int32))]) [1, 2, 3, 4, 0] rfl (zt_X12_odd_L53 e16 ?_)
    obtain ⟨M53_16, l3_16, l5_16⟩ := y16
    show zV X zC_X12_odd M53_16 83 [(0, .inr (.inr p0)), (1, .inl l1), (2, .inl l2), (3, .inr (.inl l3_16))] []
    refine zV_b (pc' := 86) (lv' := [(0, .inr (.inr p0)), (1, .inl l1), (2, .inl l2), (3, .inr (.inl l3_16))]) (st' := [.inr (.inl (0 : Int64)), .inr (.inl l3_16), .inl l1]) [(.iload_n 1, 1), (.lload_n 3, 1), (.lconst 0, 1)] (by decide +kernel) rfl ?_
    refine zV_lcmp_ne (off := 7) (tgt := 94) (by decide +kernel) (by decide +kernel) (by decide) h (fun c17 h => ?_) (fun c17 h => ?_)
    · refine zV_b (pc' := 91) (lv' := [(0, .inr (.inr p0)), (1, .inl l1), (2, .inl l2), (3, .inr (.inl l3_16))]) (st' := [.inl (0 : Int32), .inl l1]) [(.iconst 0, 1)] (by decide +kernel) rfl ?_
      refine zV_goto (off := 4) (tgt := 95) (by decide +kernel) (by decide) ?_
      exact zV_lv (lv' := [(0, .inr (.inr p0)), (2, .inl l2)]) [0, 2] rfl (zt_X12_odd_J95 h k1 k2)
    · refine zV_b (pc' := 95) (lv' := [(0, .inr (.inr p0)), (1, .inl l1), (2, .inl l2), (3, .inr (.inl l3_16))]) (st' := [.inl (1 : Int32), .inl l1]) [(.iconst 1, 1)] (by decide +kernel) rfl ?_
      exact zV_lv (lv' := [(0, .inr (.inr p0)), (2, .inl l2)]) [0, 2] rfl (zt_X12_odd_J95 h k1 k2)
set_option maxRecDepth 100000 in
theorem zt_X12_odd {X : Zx} {M : Zm} {l0 : Option Nat} {z : Zm × Int32} (h : zf_X12_odd M l0 = some z) (hR : zRi X zC_X12_odd z.1 z.2) : zV X zC_X12_odd M 0 [(0, .inr (.inr l0))] [] := by
  unfold zf_X12_odd at h
  refine zV_b (pc' := 4) (lv' := [(2, .inl (0 : Int32)), (1, .inl (0 : Int32)), (0, .inr (.inr l0))]) (st' := []) [(.iconst 0, 1), (.istore_n 1, 1), (.iconst 0, 1), (.istore_n 2, 1)] (by decide +kernel) rfl ?_
  obtain ⟨y20, e20, h⟩ := zb1_inv h
  refine zV_lv (lv' := [(0, .inr (.inr l0)), (1, .inl (0 : Int32)), (2, .inl (0 : Int32))]) [2, 1, 0] rfl (zt_X12_odd_L4 e20 ?_)
  obtain ⟨M4_20, l1_20, l2_20⟩ := y20
  show zV X zC_X12_odd M4_20 103 [(1, .inl l1_20)] []
  refine zV_b (pc' := 104) (lv' := [(1, .inl l1_20)]) (st' := [.inl l1_20]) [(.iload_n 1, 1)] (by decide +kernel) rfl ?_
  exact zend_i h hR (by decide +kernel)
theorem zc_X12_odd {M M' : Zm} {l0 : Option Nat} {x : Int32} (h : zf_X12_odd M l0 = some (M', x)) (l : Launch) (D : va_G) (cy : Nat → ClassId) : zMet l yX12_odd zC_X12_odd (some .int) D cy [.inr (.inr l0)] M M' (some (.inl x)) :=
  zM_i (by decide) rfl (fun h => by cases h) (Nat.le_of_ble_eq_true rfl) (fun X hR => zt_X12_odd h hR)
-- BlendCellarModel.part(II)J
def zC_X12_part : Zc := (cX12_part, 6, RX12, 1, 25, false)
theorem zcl_X12_part {C : Zc} (h1 : zC_X12_part.2.2.2.1 + 1 ≤ C.2.2.2.1) (h2 : 8 + (zC_X12_part.2.1 + 11) + zC_X12_part.2.2.2.2.1 ≤ C.2.2.2.2.1) : zCl C yX12_part zC_X12_part (some .long) 2 := ⟨zw_1969, zw_114, ⟨by decide, by decide⟩, by decide +kernel, h1, h2⟩
noncomputable def zf_X12_part_L20 (p0 : Option Nat) (p1 : Int32) (p2 : Int32) (x : Zm × Int64 × Int32) : Option ((Zm × Int64 × Int32) ⊕ (Zm × Int64 × Int32)) := match x with
  | (M, l3, l5) =>
  zb1 (zo_gr M p0 13 6) (fun v5 =>
  zb1 (zo_ai M v5 p1) (fun v6 =>
  (if v6 ≤ l5 then
  some (.inr (M, l3, l5))
  else
  zb1 (zo_gr M p0 13 7) (fun v8 =>
  zb1 (zo_ai M v8 (((4 : Int32) * p1) + l5)) (fun v9 =>
  zb1 (zo_rc M p0 13) (fun _ => zbd (zf_X12_ofPart M p0 v9 p2) (fun M10 v10 =>
  some (.inl (M10, (l3 + v10), (l5 + 1))))))))))
def zP_X12_part_L20 (X : Zx) (p0 : Option Nat) (p1 : Int32) (p2 : Int32) (x : Zm × Int64 × Int32) : Prop := match x with
  | (M, l3, l5) => zV X zC_X12_part M 20 [(0, .inr (.inr p0)), (1, .inl p1), (2, .inl p2), (3, .inr (.inl l3)), (5, .inl l5)] []
def zK_X12_part_L20 (X : Zx) (p0 : Option Nat) (p1 : Int32) (p2 : Int32) (y : Zm × Int64 × Int32) : Prop := match y with
  | (M, l3, l5) => zV X zC_X12_part M 56 [(3, .inr (.inl l3))] []
noncomputable def zf_X12_part (M : Zm) (l0 : Option Nat) (l1 : Int32) (l2 : Int32) : Option (Zm × Int64) :=
  zb1 (zo_rc M l0 13) (fun _ => zbd (zf_X12_isBarrel M l0 l1) (fun M1 v1 =>
  (if v1 = 0 then
  some (M1, (0 : Int64))
  else
  zb1 (zo_rc M1 l0 13) (fun _ => zbd (zf_X12_ofPart M1 l0 l1 l2) (fun M4 v4 =>
  zb1 (zwhile (zf_X12_part_L20 l0 l1 l2) (M4, v4, (0 : Int32))) (fun y12 => match y12 with
  | (M20_12, l3_12, l5_12) =>
  some (M20_12, l3_12)))))))
set_option maxRecDepth 100000 in
theorem zt_X12_part_L20 {X : Zx} {p0 : Option Nat} {p1 : Int32} {p2 : Int32} {x : Zm × Int64 × Int32} {y : Zm × Int64 × Int32} (h : zwhile (zf_X12_part_L20 p0 p1 p2) x = some y) (hy : zK_X12_part_L20 X p0 p1 p2 y) : zP_X12_part_L20 X p0 p1 p2 x := by
  refine zwhile_ind (P := zP_X12_part_L20 X p0 p1 p2) (K := zK_X12_part_L20 X p0 p1 p2) ?_ h hy
  intro x z hf k1 k2
  obtain ⟨M, l3, l5⟩ := x
  have h : zf_X12_part_L20 p0 p1 p2 (M, l3, l5) = some z := hf
  unfold zf_X12_part_L20 at h
  show zV X zC_X12_part M 20 [(0, .inr (.inr p0)), (1, .inl p1), (2, .inl p2), (3, .inr (.inl l3)), (5, .inl l5)] []
  refine zV_b (pc' := 23) (lv' := [(0, .inr (.inr p0)), (1, .inl p1), (2, .inl p2), (3, .inr (.inl l3)), (5, .inl l5)]) (st' := [.inr (.inr p0), .inl l5]) [(.iload 5, 2), (.aload_n 0, 1)] (by decide +kernel) rfl ?_
  refine zV_gr (by decide +kernel) zfl_RX12_22 (by decide) rfl h (fun v5 _ h => ?_)
  refine zV_b (pc' := 27) (lv' := [(0, .inr (.inr p0)), (1, .inl p1), (2, .inl p2), (3, .inr (.inl l3)), (5, .inl l5)]) (st' := [.inl p1, .inr (.inr v5), .inl l5]) [(.iload_n 1, 1)] (by decide +kernel) rfl ?_
  refine zV_ai (by decide +kernel) h (fun v6 _ h => ?_)
  refine zV_icmp_ge (off := 28) (tgt := 56) (by decide +kernel) (by decide) h (fun c7 h => ?_) (fun c7 h => ?_)
  · exact zV_lv (lv' := [(3, .inr (.inl l3))]) [3] rfl (k2 _ (Option.some.inj h).symm)
  · refine zV_b (pc' := 34) (lv' := [(0, .inr (.inr p0)), (1, .inl p1), (2, .inl p2), (3, .inr (.inl l3)), (5, .inl l5)]) (st' := [.inr (.inr p0), .inr (.inr p0), .inr (.inl l3)]) [(.lload_n 3, 1), (.aload_n 0, 1), (.aload_n 0, 1)] (by decide +kernel) rfl ?_
    refine zV_gr (by decide +kernel) zfl_RX12_25 (by decide) rfl h (fun v8 _ h => ?_)
    refine zV_b (pc' := 43) (lv' := [(0, .inr (.inr p0)), (1, .inl p1), (2, .inl p2), (3, .inr (.inl l3)), (5, .inl l5)]) (st' := [.inl (((4 : Int32) * p1) + l5), .inr (.inr v8), .inr (.inr p0), .inr (.inl l3)]) [(.iconst 4, 1), (.iload_n 1, 1), (.imul, 1), (.iload 5, 2), (.iadd, 1)] (by decide +kernel) rfl ?_
    refine zV_ai (by decide +kernel) h (fun v9 _ h => ?_)
    refine zV_b (pc' := 45) (lv' := [(0, .inr (.inr p0)), (1, .inl p1), (2, .inl p2), (3, .inr (.inl l3)), (5, .inl l5)]) (st' := [.inl p2, .inl v9, .inr (.inr p0), .inr (.inl l3)]) [(.iload_n 2, 1)] (by decide +kernel) rfl ?_
    refine zV_cvj (As := [.inl v9, .inl p2]) (st := [.inr (.inl l3)]) (c := 13) (by decide +kernel) (zcl_X12_ofPart (by decide) (by decide)) ⟨zw_1970, zw_1972, zw_99⟩ ⟨⟨_, _, rfl⟩, by decide⟩ rfl rfl (Nat.le_of_ble_eq_true rfl) h (fun _ _ e => zc_X12_ofPart e) (fun M10 v10 _ h => ?_)
    refine zV_b (pc' := 53) (lv' := [(5, .inl (l5 + 1)), (3, .inr (.inl (l3 + v10))), (0, .inr (.inr p0)), (1, .inl p1), (2, .inl p2)]) (st' := []) [(.ladd, 1), (.lstore_n 3, 1), (.iinc 5 1, 3)] (by decide +kernel) rfl ?_
    refine zV_goto (off := (-33)) (tgt := 20) (by decide +kernel) (by decide) ?_
    exact zV_lv (lv' := [(0, .inr (.inr p0)), (1, .inl p1), (2, .inl p2), (3, .inr (.inl (l3 + v10))), (5, .inl (l5 + 1))]) [2, 3, 4, 1, 0] rfl (k1 _ (Option.some.inj h).symm)
set_option maxRecDepth 100000 in
theorem zt_X12_part {X : Zx} {M : Zm} {l0 : Option Nat} {l1 : Int32} {l2 : Int32} {z : Zm × Int64} (h : zf_X12_part M l0 l1 l2 = some z) (hR : zRj X zC_X12_part z.1 z.2) : zV X zC_X12_part M 0 [(0, .inr (.inr l0)), (1, .inl l1), (2, .inl l2)] [] := by
  unfold zf_X12_part at h
  refine zV_b (pc' := 2) (lv' := [(0, .inr (.inr l0)), (1, .inl l1), (2, .inl l2)]) (st' := [.inl l1, .inr (.inr l0)]) [(.aload_n 0, 1), (.iload_n 1, 1)] (by decide +kernel) rfl ?_
  refine zV_cvi (As := [.inl l1]) (st := []) (c := 13) (by decide +kernel) (zcl_X12_isBarrel (by decide) (by decide)) ⟨zw_1950, zw_1952, zw_98⟩ ⟨⟨_, _, rfl⟩, by decide⟩ rfl rfl (Nat.le_of_ble_eq_true rfl) h (fun _ _ e => zc_X12_isBarrel e) (fun M1 v1 _ h => ?_)
  refine zV_if_ne (off := 5) (tgt := 10) (by decide +kernel) (by decide) h (fun c2 h => ?_) (fun c2 h => ?_)
  · refine zV_b (pc' := 9) (lv' := [(0, .inr (.inr l0)), (1, .inl l1), (2, .inl l2)]) (st' := [.inr (.inl (0 : Int64))]) [(.lconst 0, 1)] (by decide +kernel) rfl ?_
    exact zend_j h hR (by decide +kernel)
  · refine zV_b (pc' := 13) (lv' := [(0, .inr (.inr l0)), (1, .inl l1), (2, .inl l2)]) (st' := [.inl l2, .inl l1, .inr (.inr l0)]) [(.aload_n 0, 1), (.iload_n 1, 1), (.iload_n 2, 1)] (by decide +kernel) rfl ?_
    refine zV_cvj (As := [.inl l1, .inl l2]) (st := []) (c := 13) (by decide +kernel) (zcl_X12_ofPart (by decide) (by decide)) ⟨zw_1970, zw_1972, zw_99⟩ ⟨⟨_, _, rfl⟩, by decide⟩ rfl rfl (Nat.le_of_ble_eq_true rfl) h (fun _ _ e => zc_X12_ofPart e) (fun M4 v4 _ h => ?_)
    refine zV_b (pc' := 20) (lv' := [(5, .inl (0 : Int32)), (3, .inr (.inl v4)), (0, .inr (.inr l0)), (1, .inl l1), (2, .inl l2)]) (st' := []) [(.lstore_n 3, 1), (.iconst 0, 1), (.istore 5, 2)] (by decide +kernel) rfl ?_
    obtain ⟨y12, e12, h⟩ := zb1_inv h
    refine zV_lv (lv' := [(0, .inr (.inr l0)), (1, .inl l1), (2, .inl l2), (3, .inr (.inl v4)), (5, .inl (0 : Int32))]) [2, 3, 4, 1, 0] rfl (zt_X12_part_L20 e12 ?_)
    obtain ⟨M20_12, l3_12, l5_12⟩ := y12
    show zV X zC_X12_part M20_12 56 [(3, .inr (.inl l3_12))] []
    refine zV_b (pc' := 57) (lv' := [(3, .inr (.inl l3_12))]) (st' := [.inr (.inl l3_12)]) [(.lload_n 3, 1)] (by decide +kernel) rfl ?_
    exact zend_j h hR (by decide +kernel)
theorem zc_X12_part {M M' : Zm} {l0 : Option Nat} {l1 : Int32} {l2 : Int32} {x : Int64} (h : zf_X12_part M l0 l1 l2 = some (M', x)) (l : Launch) (D : va_G) (cy : Nat → ClassId) : zMet l yX12_part zC_X12_part (some .long) D cy [.inr (.inr l0), .inl l1, .inl l2] M M' (some (.inr (.inl x))) :=
  zM_j (by decide) rfl (fun h => by cases h) (Nat.le_of_ble_eq_true rfl) (fun X hR => zt_X12_part h hR)
