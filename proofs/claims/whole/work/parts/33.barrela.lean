/-! What the bytecode does, as functions of the memory, and the walks (written by wip/gen.py). -/
-- BlendCellar$Barrel.<init>(IIII)V
def zC_X0_init : Zc := (cX0_init, 5, RX0, 2, 32, true)
theorem zcl_X0_init {C : Zc} (h1 : zC_X0_init.2.2.2.1 + 1 ≤ C.2.2.2.1) (h2 : 8 + (zC_X0_init.2.1 + 11) + zC_X0_init.2.2.2.2.1 ≤ C.2.2.2.2.1) : zCl C yX0_init zC_X0_init none 4 := ⟨zw_532, zw_117, ⟨by decide, by decide⟩, by decide +kernel, h1, h2⟩
noncomputable def zf_X0_init (M : Zm) (l0 : Option Nat) (l1 : Int32) (l2 : Int32) (l3 : Int32) (l4 : Int32) : Option (Zm × Unit) :=
  zb1 (zo_rc M l0 1) (fun _ =>
  zb1 (zo_pi M l0 1 4 (0 : Int32)) (fun M2 =>
  zb1 (zo_n M2 11 4) (fun M3 =>
  zb1 (zo_rc M3 (zm_nx M2) 11) (fun _ => zbd (zf_X10_init M3 (zm_nx M2)) (fun M4 _ =>
  zb1 (zo_pr M4 l0 1 5 (zm_nx M2)) (fun M5 =>
  zb1 (zo_na M5 16 (4 : Int32)) (fun M6 =>
  zb1 (zo_pr M6 l0 1 6 (zm_nx M5)) (fun M7 =>
  zb1 (zo_pi M7 l0 1 7 (0 : Int32)) (fun M8 =>
  zb1 (zo_pi M8 l0 1 8 (0 : Int32)) (fun M9 =>
  zb1 (zo_pi M9 l0 1 9 (0 : Int32)) (fun M10 =>
  zb1 (zo_pi M10 l0 1 10 (0 : Int32)) (fun M11 =>
  zb1 (zo_n M11 11 4) (fun M12 =>
  zb1 (zo_rc M12 (zm_nx M11) 11) (fun _ => zbd (zf_X10_init M12 (zm_nx M11)) (fun M13 _ =>
  zb1 (zo_pr M13 l0 1 11 (zm_nx M11)) (fun M14 =>
  zb1 (zo_pi M14 l0 1 12 (0 : Int32)) (fun M15 =>
  zb1 (zo_pi M15 l0 1 13 (0 : Int32)) (fun M16 =>
  zb1 (zo_pi M16 l0 1 0 l1) (fun M17 =>
  zb1 (zo_pi M17 l0 1 1 l2) (fun M18 =>
  zb1 (zo_pi M18 l0 1 2 l3) (fun M19 =>
  zb1 (zo_pi M19 l0 1 3 l4) (fun M20 =>
  some (M20, ())))))))))))))))))))))))
set_option maxRecDepth 100000 in
theorem zt_X0_init {X : Zx} {M : Zm} {l0 : Option Nat} {l1 : Int32} {l2 : Int32} {l3 : Int32} {l4 : Int32} {z : Zm × Unit} (h : zf_X0_init M l0 l1 l2 l3 l4 = some z) (hR : zRv X zC_X0_init z.1) : zV X zC_X0_init M 0 [(0, .inr (.inr l0)), (1, .inl l1), (2, .inl l2), (3, .inl l3), (4, .inl l4)] [] := by
  unfold zf_X0_init at h
  refine zV_b (pc' := 1) (lv' := [(0, .inr (.inr l0)), (1, .inl l1), (2, .inl l2), (3, .inl l3), (4, .inl l4)]) (st' := [.inr (.inr l0)]) [(.aload_n 0, 1)] (by decide +kernel) rfl ?_
  refine zV_oo (by decide +kernel) zw_533 (by decide) (by decide) h (fun _ _ h => ?_)
  refine zV_b (pc' := 6) (lv' := [(0, .inr (.inr l0)), (1, .inl l1), (2, .inl l2), (3, .inl l3), (4, .inl l4)]) (st' := [.inl (0 : Int32), .inr (.inr l0)]) [(.aload_n 0, 1), (.iconst 0, 1)] (by decide +kernel) rfl ?_
  refine zV_pi (by decide +kernel) zfp_RX0_9_i (by decide) rfl h (fun M2 _ h => ?_)
  refine zV_b (pc' := 10) (lv' := [(0, .inr (.inr l0)), (1, .inl l1), (2, .inl l2), (3, .inl l3), (4, .inl l4)]) (st' := [.inr (.inr l0)]) [(.aload_n 0, 1)] (by decide +kernel) rfl ?_
  refine zV_n (by decide +kernel) znw_RX0_15 h (fun M3 _ h => ?_)
  refine zV_b (pc' := 14) (lv' := [(0, .inr (.inr l0)), (1, .inl l1), (2, .inl l2), (3, .inl l3), (4, .inl l4)]) (st' := [.inr (.inr (zm_nx M2)), .inr (.inr (zm_nx M2)), .inr (.inr l0)]) [(.dup, 1)] (by decide +kernel) rfl ?_
  refine zV_cin (As := []) (st := [.inr (.inr (zm_nx M2)), .inr (.inr l0)]) (c := 11) (by decide +kernel) (zcl_X10_init (by decide) (by decide)) ⟨⟨_, zw_535⟩, rfl, zw_249⟩ rfl rfl (Nat.le_of_ble_eq_true rfl) h (fun _ _ e => zc_X10_init e) (fun M4 _ _ h => ?_)
  refine zV_pr (by decide +kernel) zfp_RX0_18_i (Or.inl ⟨_, rfl⟩) (by decide) rfl h (fun M5 _ h => ?_)
  refine zV_b (pc' := 22) (lv' := [(0, .inr (.inr l0)), (1, .inl l1), (2, .inl l2), (3, .inl l3), (4, .inl l4)]) (st' := [.inl (4 : Int32), .inr (.inr l0)]) [(.aload_n 0, 1), (.iconst 4, 1)] (by decide +kernel) rfl ?_
  refine zV_nr (k := 16) (by decide +kernel) (by decide) (by decide) zw_536 h (fun M6 _ h => ?_)
  refine zV_pr (by decide +kernel) zfp_RX0_22_i (Or.inr ⟨_, rfl⟩) (by decide) rfl h (fun M7 _ h => ?_)
  refine zV_b (pc' := 30) (lv' := [(0, .inr (.inr l0)), (1, .inl l1), (2, .inl l2), (3, .inl l3), (4, .inl l4)]) (st' := [.inl (0 : Int32), .inr (.inr l0)]) [(.aload_n 0, 1), (.iconst 0, 1)] (by decide +kernel) rfl ?_
  refine zV_pi (by decide +kernel) zfp_RX0_26_i (by decide) rfl h (fun M8 _ h => ?_)
  refine zV_b (pc' := 35) (lv' := [(0, .inr (.inr l0)), (1, .inl l1), (2, .inl l2), (3, .inl l3), (4, .inl l4)]) (st' := [.inl (0 : Int32), .inr (.inr l0)]) [(.aload_n 0, 1), (.iconst 0, 1)] (by decide +kernel) rfl ?_
  refine zV_pi (by decide +kernel) zfp_RX0_29_i (by decide) rfl h (fun M9 _ h => ?_)
  refine zV_b (pc' := 40) (lv' := [(0, .inr (.inr l0)), (1, .inl l1), (2, .inl l2), (3, .inl l3), (4, .inl l4)]) (st' := [.inl (0 : Int32), .inr (.inr l0)]) [(.aload_n 0, 1), (.iconst 0, 1)] (by decide +kernel) rfl ?_
  refine zV_pi (by decide +kernel) zfp_RX0_32_i (by decide) rfl h (fun M10 _ h => ?_)
  refine zV_b (pc' := 45) (lv' := [(0, .inr (.inr l0)), (1, .inl l1), (2, .inl l2), (3, .inl l3), (4, .inl l4)]) (st' := [.inl (0 : Int32), .inr (.inr l0)]) [(.aload_n 0, 1), (.iconst 0, 1)] (by decide +kernel) rfl ?_
  refine zV_pi (by decide +kernel) zfp_RX0_35_i (by decide) rfl h (fun M11 _ h => ?_)
  refine zV_b (pc' := 49) (lv' := [(0, .inr (.inr l0)), (1, .inl l1), (2, .inl l2), (3, .inl l3), (4, .inl l4)]) (st' := [.inr (.inr l0)]) [(.aload_n 0, 1)] (by decide +kernel) rfl ?_
  refine zV_n (by decide +kernel) znw_RX0_15 h (fun M12 _ h => ?_)
  refine zV_b (pc' := 53) (lv' := [(0, .inr (.inr l0)), (1, .inl l1), (2, .inl l2), (3, .inl l3), (4, .inl l4)]) (st' := [.inr (.inr (zm_nx M11)), .inr (.inr (zm_nx M11)), .inr (.inr l0)]) [(.dup, 1)] (by decide +kernel) rfl ?_
  refine zV_cin (As := []) (st := [.inr (.inr (zm_nx M11)), .inr (.inr l0)]) (c := 11) (by decide +kernel) (zcl_X10_init (by decide) (by decide)) ⟨⟨_, zw_535⟩, rfl, zw_249⟩ rfl rfl (Nat.le_of_ble_eq_true rfl) h (fun _ _ e => zc_X10_init e) (fun M13 _ _ h => ?_)
  refine zV_pr (by decide +kernel) zfp_RX0_38_i (Or.inl ⟨_, rfl⟩) (by decide) rfl h (fun M14 _ h => ?_)
  refine zV_b (pc' := 61) (lv' := [(0, .inr (.inr l0)), (1, .inl l1), (2, .inl l2), (3, .inl l3), (4, .inl l4)]) (st' := [.inl (0 : Int32), .inr (.inr l0)]) [(.aload_n 0, 1), (.iconst 0, 1)] (by decide +kernel) rfl ?_
  refine zV_pi (by decide +kernel) zfp_RX0_41_i (by decide) rfl h (fun M15 _ h => ?_)
  refine zV_b (pc' := 66) (lv' := [(0, .inr (.inr l0)), (1, .inl l1), (2, .inl l2), (3, .inl l3), (4, .inl l4)]) (st' := [.inl (0 : Int32), .inr (.inr l0)]) [(.aload_n 0, 1), (.iconst 0, 1)] (by decide +kernel) rfl ?_
  refine zV_pi (by decide +kernel) zfp_RX0_44_i (by decide) rfl h (fun M16 _ h => ?_)
  refine zV_b (pc' := 71) (lv' := [(0, .inr (.inr l0)), (1, .inl l1), (2, .inl l2), (3, .inl l3), (4, .inl l4)]) (st' := [.inl l1, .inr (.inr l0)]) [(.aload_n 0, 1), (.iload_n 1, 1)] (by decide +kernel) rfl ?_
  refine zV_pi (by decide +kernel) zfp_RX0_47_i (by decide) rfl h (fun M17 _ h => ?_)
  refine zV_b (pc' := 76) (lv' := [(0, .inr (.inr l0)), (1, .inl l1), (2, .inl l2), (3, .inl l3), (4, .inl l4)]) (st' := [.inl l2, .inr (.inr l0)]) [(.aload_n 0, 1), (.iload_n 2, 1)] (by decide +kernel) rfl ?_
  refine zV_pi (by decide +kernel) zfp_RX0_50_i (by decide) rfl h (fun M18 _ h => ?_)
  refine zV_b (pc' := 81) (lv' := [(0, .inr (.inr l0)), (1, .inl l1), (2, .inl l2), (3, .inl l3), (4, .inl l4)]) (st' := [.inl l3, .inr (.inr l0)]) [(.aload_n 0, 1), (.iload_n 3, 1)] (by decide +kernel) rfl ?_
  refine zV_pi (by decide +kernel) zfp_RX0_53_i (by decide) rfl h (fun M19 _ h => ?_)
  refine zV_b (pc' := 87) (lv' := [(0, .inr (.inr l0)), (1, .inl l1), (2, .inl l2), (3, .inl l3), (4, .inl l4)]) (st' := [.inl l4, .inr (.inr l0)]) [(.aload_n 0, 1), (.iload 4, 2)] (by decide +kernel) rfl ?_
  refine zV_pi (by decide +kernel) zfp_RX0_56_i (by decide) rfl h (fun M20 _ h => ?_)
  exact zend_v h hR (by decide +kernel)
theorem zc_X0_init {M M' : Zm} {l0 : Option Nat} {l1 : Int32} {l2 : Int32} {l3 : Int32} {l4 : Int32} {x : Unit} (h : zf_X0_init M l0 l1 l2 l3 l4 = some (M', x)) (l : Launch) (D : va_G) (cy : Nat → ClassId) : zMet l yX0_init zC_X0_init none D cy [.inr (.inr l0), .inl l1, .inl l2, .inl l3, .inl l4] M M' none :=
  zM_v (by decide) rfl (fun _ => rfl) (Nat.le_of_ble_eq_true rfl) (fun X hR => zt_X0_init h hR)
-- BlendCellar$Barrel.oakBreathes(LBlendCellar$Trace;)J
def zC_X0_oakBreathes : Zc := (cX0_oakBreathes, 1, RX0, 1, 21, false)
theorem zcl_X0_oakBreathes {C : Zc} (h1 : zC_X0_oakBreathes.2.2.2.1 + 1 ≤ C.2.2.2.1) (h2 : 8 + (zC_X0_oakBreathes.2.1 + 11) + zC_X0_oakBreathes.2.2.2.2.1 ≤ C.2.2.2.2.1) : zCl C yX0_oakBreathes zC_X0_oakBreathes (some .long) 1 := ⟨zw_1005, zw_117, ⟨by decide, by decide⟩, by decide +kernel, h1, h2⟩
noncomputable def zf_X0_oakBreathes (M : Zm) (l0 : Option Nat) : Option (Zm × Int64) :=
  zb1 (zo_rc M l0 10) (fun _ => zbd (zf_X9_ran M l0 (10 : Int32)) (fun M1 _ =>
  some (M1, (20 : Int64))))
set_option maxRecDepth 100000 in
theorem zt_X0_oakBreathes {X : Zx} {M : Zm} {l0 : Option Nat} {z : Zm × Int64} (h : zf_X0_oakBreathes M l0 = some z) (hR : zRj X zC_X0_oakBreathes z.1 z.2) : zV X zC_X0_oakBreathes M 0 [(0, .inr (.inr l0))] [] := by
  unfold zf_X0_oakBreathes at h
  refine zV_b (pc' := 3) (lv' := [(0, .inr (.inr l0))]) (st' := [.inl (10 : Int32), .inr (.inr l0)]) [(.aload_n 0, 1), (.bipush 10, 2)] (by decide +kernel) rfl ?_
  refine zV_cvv (As := [.inl (10 : Int32)]) (st := []) (c := 10) (by decide +kernel) (zcl_X9_ran (by decide) (by decide)) ⟨zw_796, zw_797, zw_798⟩ ⟨⟨_, _, rfl⟩, by decide⟩ rfl rfl (Nat.le_of_ble_eq_true rfl) h (fun _ _ e => zc_X9_ran e) (fun M1 _ _ h => ?_)
  refine zV_ldc2 (by decide +kernel) zw_1006 ?_
  exact zend_j h hR (by decide +kernel)
theorem zc_X0_oakBreathes {M M' : Zm} {l0 : Option Nat} {x : Int64} (h : zf_X0_oakBreathes M l0 = some (M', x)) (l : Launch) (D : va_G) (cy : Nat → ClassId) : zMet l yX0_oakBreathes zC_X0_oakBreathes (some .long) D cy [.inr (.inr l0)] M M' (some (.inr (.inl x))) :=
  zM_j (by decide) rfl (fun h => by cases h) (Nat.le_of_ble_eq_true rfl) (fun X hR => zt_X0_oakBreathes h hR)
-- BlendCellar$Barrel.breathes(LBlendCellar$Trace;)J
def zC_X0_breathes : Zc := (cX0_breathes, 2, RX0, 2, 41, false)
theorem zcl_X0_breathes {C : Zc} (h1 : zC_X0_breathes.2.2.2.1 + 1 ≤ C.2.2.2.1) (h2 : 8 + (zC_X0_breathes.2.1 + 11) + zC_X0_breathes.2.2.2.2.1 ≤ C.2.2.2.2.1) : zCl C yX0_breathes zC_X0_breathes (some .long) 1 := ⟨zw_1002, zw_117, ⟨by decide, by decide⟩, by decide +kernel, h1, h2⟩
theorem zd_X0_breathes_4 : decode cX0_breathes 4 = .ok (.tableswitch 60 1 4 #[32, 37, 60, 52], 32) := by decide +kernel
noncomputable def zf_X0_breathes (M : Zm) (l0 : Option Nat) (l1 : Option Nat) : Option (Zm × Int64) :=
  zb1 (zo_gi M l0 1 1) (fun v1 =>
  (if v1 = 1 then
  zbd (zf_X0_oakBreathes M l1) (fun M5 v5 =>
  some (M5, v5))
  else
  (if v1 = 2 then
  zb1 (zo_rc M l1 10) (fun _ => zbd (zf_X9_ran M l1 (11 : Int32)) (fun M7 _ =>
  zbd (zf_X0_oakBreathes M7 l1) (fun M8 v8 =>
  some (M8, (v8 + (15 : Int64))))))
  else
  (if v1 = 3 then
  zb1 (zo_rc M l1 10) (fun _ => zbd (zf_X9_ran M l1 (9 : Int32)) (fun M11 _ =>
  some (M11, (0 : Int64))))
  else
  (if v1 = 4 then
  zb1 (zo_rc M l1 10) (fun _ => zbd (zf_X9_ran M l1 (12 : Int32)) (fun M13 _ =>
  some (M13, (1 : Int64))))
  else
  zb1 (zo_rc M l1 10) (fun _ => zbd (zf_X9_ran M l1 (9 : Int32)) (fun M3 _ =>
  some (M3, (0 : Int64)))))))))
set_option maxRecDepth 100000 in
theorem zt_X0_breathes {X : Zx} {M : Zm} {l0 : Option Nat} {l1 : Option Nat} {z : Zm × Int64} (h : zf_X0_breathes M l0 l1 = some z) (hR : zRj X zC_X0_breathes z.1 z.2) : zV X zC_X0_breathes M 0 [(0, .inr (.inr l0)), (1, .inr (.inr l1))] [] := by
  unfold zf_X0_breathes at h
  refine zV_b (pc' := 1) (lv' := [(0, .inr (.inr l0)), (1, .inr (.inr l1))]) (st' := [.inr (.inr l0)]) [(.aload_n 0, 1)] (by decide +kernel) rfl ?_
  refine zV_gi (by decide +kernel) zfl_RX0_50 (by decide) rfl (Or.inl rfl) h (fun v1 _ h => ?_)
  by_cases e2_0 : v1 = 1
  · have h := (zite h).1 e2_0
    refine zV_top e2_0 (zV_tin (tgt := 36) zd_X0_breathes_4 (by decide) (by decide) rfl (by decide) ?_)
    refine zV_b (pc' := 37) (lv' := [(0, .inr (.inr l0)), (1, .inr (.inr l1))]) (st' := [.inr (.inr l1)]) [(.aload_n 1, 1)] (by decide +kernel) rfl ?_
    refine zV_csj (As := [.inr (.inr l1)]) (st := []) (by decide +kernel) (zcl_X0_oakBreathes (by decide) (by decide)) ⟨zw_1003, zw_1004⟩ rfl rfl (Nat.le_of_ble_eq_true rfl) h (fun _ _ e => zc_X0_oakBreathes e) (fun M5 v5 _ h => ?_)
    exact zend_j h hR (by decide +kernel)
  · have h := (zite h).2 e2_0
    by_cases e2_1 : v1 = 2
    · have h := (zite h).1 e2_1
      refine zV_top e2_1 (zV_tin (tgt := 41) zd_X0_breathes_4 (by decide) (by decide) rfl (by decide) ?_)
      refine zV_b (pc' := 44) (lv' := [(0, .inr (.inr l0)), (1, .inr (.inr l1))]) (st' := [.inl (11 : Int32), .inr (.inr l1)]) [(.aload_n 1, 1), (.bipush 11, 2)] (by decide +kernel) rfl ?_
      refine zV_cvv (As := [.inl (11 : Int32)]) (st := []) (c := 10) (by decide +kernel) (zcl_X9_ran (by decide) (by decide)) ⟨zw_796, zw_797, zw_798⟩ ⟨⟨_, _, rfl⟩, by decide⟩ rfl rfl (Nat.le_of_ble_eq_true rfl) h (fun _ _ e => zc_X9_ran e) (fun M7 _ _ h => ?_)
      refine zV_b (pc' := 48) (lv' := [(0, .inr (.inr l0)), (1, .inr (.inr l1))]) (st' := [.inr (.inr l1)]) [(.aload_n 1, 1)] (by decide +kernel) rfl ?_
      refine zV_csj (As := [.inr (.inr l1)]) (st := []) (by decide +kernel) (zcl_X0_oakBreathes (by decide) (by decide)) ⟨zw_1003, zw_1004⟩ rfl rfl (Nat.le_of_ble_eq_true rfl) h (fun _ _ e => zc_X0_oakBreathes e) (fun M8 v8 _ h => ?_)
      refine zV_ldc2 (by decide +kernel) zw_1007 ?_
      refine zV_b (pc' := 55) (lv' := [(0, .inr (.inr l0)), (1, .inr (.inr l1))]) (st' := [.inr (.inl (v8 + (15 : Int64)))]) [(.ladd, 1)] (by decide +kernel) rfl ?_
      exact zend_j h hR (by decide +kernel)
    · have h := (zite h).2 e2_1
      by_cases e2_2 : v1 = 3
      · have h := (zite h).1 e2_2
        refine zV_top e2_2 (zV_tin (tgt := 64) zd_X0_breathes_4 (by decide) (by decide) rfl (by decide) ?_)
        refine zV_b (pc' := 67) (lv' := [(0, .inr (.inr l0)), (1, .inr (.inr l1))]) (st' := [.inl (9 : Int32), .inr (.inr l1)]) [(.aload_n 1, 1), (.bipush 9, 2)] (by decide +kernel) rfl ?_
        refine zV_cvv (As := [.inl (9 : Int32)]) (st := []) (c := 10) (by decide +kernel) (zcl_X9_ran (by decide) (by decide)) ⟨zw_796, zw_797, zw_798⟩ ⟨⟨_, _, rfl⟩, by decide⟩ rfl rfl (Nat.le_of_ble_eq_true rfl) h (fun _ _ e => zc_X9_ran e) (fun M11 _ _ h => ?_)
        refine zV_b (pc' := 71) (lv' := [(0, .inr (.inr l0)), (1, .inr (.inr l1))]) (st' := [.inr (.inl (0 : Int64))]) [(.lconst 0, 1)] (by decide +kernel) rfl ?_
        exact zend_j h hR (by decide +kernel)
      · have h := (zite h).2 e2_2
        by_cases e2_3 : v1 = 4
        · have h := (zite h).1 e2_3
          refine zV_top e2_3 (zV_tin (tgt := 56) zd_X0_breathes_4 (by decide) (by decide) rfl (by decide) ?_)
          refine zV_b (pc' := 59) (lv' := [(0, .inr (.inr l0)), (1, .inr (.inr l1))]) (st' := [.inl (12 : Int32), .inr (.inr l1)]) [(.aload_n 1, 1), (.bipush 12, 2)] (by decide +kernel) rfl ?_
          refine zV_cvv (As := [.inl (12 : Int32)]) (st := []) (c := 10) (by decide +kernel) (zcl_X9_ran (by decide) (by decide)) ⟨zw_796, zw_797, zw_798⟩ ⟨⟨_, _, rfl⟩, by decide⟩ rfl rfl (Nat.le_of_ble_eq_true rfl) h (fun _ _ e => zc_X9_ran e) (fun M13 _ _ h => ?_)
          refine zV_b (pc' := 63) (lv' := [(0, .inr (.inr l0)), (1, .inr (.inr l1))]) (st' := [.inr (.inl (1 : Int64))]) [(.lconst 1, 1)] (by decide +kernel) rfl ?_
          exact zend_j h hR (by decide +kernel)
        · have h := (zite h).2 e2_3
          refine zV_tout (tgt := 64) zd_X0_breathes_4 (by have q1 := lv_neT e2_0 (show (1 : Int32).toInt = 1 by decide); have q2 := lv_neT e2_1 (show (2 : Int32).toInt = 2 by decide); have q3 := lv_neT e2_2 (show (3 : Int32).toInt = 3 by decide); have q4 := lv_neT e2_3 (show (4 : Int32).toInt = 4 by decide); omega) (by decide) ?_
          refine zV_b (pc' := 67) (lv' := [(0, .inr (.inr l0)), (1, .inr (.inr l1))]) (st' := [.inl (9 : Int32), .inr (.inr l1)]) [(.aload_n 1, 1), (.bipush 9, 2)] (by decide +kernel) rfl ?_
          refine zV_cvv (As := [.inl (9 : Int32)]) (st := []) (c := 10) (by decide +kernel) (zcl_X9_ran (by decide) (by decide)) ⟨zw_796, zw_797, zw_798⟩ ⟨⟨_, _, rfl⟩, by decide⟩ rfl rfl (Nat.le_of_ble_eq_true rfl) h (fun _ _ e => zc_X9_ran e) (fun M3 _ _ h => ?_)
          refine zV_b (pc' := 71) (lv' := [(0, .inr (.inr l0)), (1, .inr (.inr l1))]) (st' := [.inr (.inl (0 : Int64))]) [(.lconst 0, 1)] (by decide +kernel) rfl ?_
          exact zend_j h hR (by decide +kernel)
theorem zc_X0_breathes {M M' : Zm} {l0 : Option Nat} {l1 : Option Nat} {x : Int64} (h : zf_X0_breathes M l0 l1 = some (M', x)) (l : Launch) (D : va_G) (cy : Nat → ClassId) : zMet l yX0_breathes zC_X0_breathes (some .long) D cy [.inr (.inr l0), .inr (.inr l1)] M M' (some (.inr (.inl x))) :=
  zM_j (by decide) rfl (fun h => by cases h) (Nat.le_of_ble_eq_true rfl) (fun X hR => zt_X0_breathes h hR)
-- BlendCellar$Barrel.countInside()I
def zC_X0_countInside : Zc := (cX0_countInside, 1, RX0, 0, 0, false)
theorem zcl_X0_countInside {C : Zc} (h1 : zC_X0_countInside.2.2.2.1 + 1 ≤ C.2.2.2.1) (h2 : 8 + (zC_X0_countInside.2.1 + 11) + zC_X0_countInside.2.2.2.2.1 ≤ C.2.2.2.2.1) : zCl C yX0_countInside zC_X0_countInside (some .int) 0 := ⟨zw_1318, zw_117, ⟨by decide, by decide⟩, by decide +kernel, h1, h2⟩
noncomputable def zf_X0_countInside (M : Zm) (l0 : Option Nat) : Option (Zm × Int32) :=
  zb1 (zo_gi M l0 1 1) (fun v1 =>
  (if v1 = (5 : Int32) then
  zb1 (zo_gi M l0 1 7) (fun v3 =>
  some (M, v3))
  else
  zb1 (zo_gr M l0 1 5) (fun v6 =>
  zb1 (zo_gi M v6 11 2) (fun v7 =>
  some (M, v7)))))
set_option maxRecDepth 100000 in
theorem zt_X0_countInside {X : Zx} {M : Zm} {l0 : Option Nat} {z : Zm × Int32} (h : zf_X0_countInside M l0 = some z) (hR : zRi X zC_X0_countInside z.1 z.2) : zV X zC_X0_countInside M 0 [(0, .inr (.inr l0))] [] := by
  unfold zf_X0_countInside at h
  refine zV_b (pc' := 1) (lv' := [(0, .inr (.inr l0))]) (st' := [.inr (.inr l0)]) [(.aload_n 0, 1)] (by decide +kernel) rfl ?_
  refine zV_gi (by decide +kernel) zfl_RX0_50 (by decide) rfl (Or.inl rfl) h (fun v1 _ h => ?_)
  refine zV_b (pc' := 5) (lv' := [(0, .inr (.inr l0))]) (st' := [.inl (5 : Int32), .inl v1]) [(.iconst 5, 1)] (by decide +kernel) rfl ?_
  refine zV_icmp_ne (off := 10) (tgt := 15) (by decide +kernel) (by decide) h (fun c2 h => ?_) (fun c2 h => ?_)
  · refine zV_b (pc' := 9) (lv' := [(0, .inr (.inr l0))]) (st' := [.inr (.inr l0)]) [(.aload_n 0, 1)] (by decide +kernel) rfl ?_
    refine zV_gi (by decide +kernel) zfl_RX0_26 (by decide) rfl (Or.inl rfl) h (fun v3 _ h => ?_)
    refine zV_goto (off := 10) (tgt := 22) (by decide +kernel) (by decide) ?_
    exact zend_i h hR (by decide +kernel)
  · refine zV_b (pc' := 16) (lv' := [(0, .inr (.inr l0))]) (st' := [.inr (.inr l0)]) [(.aload_n 0, 1)] (by decide +kernel) rfl ?_
    refine zV_gr (by decide +kernel) zfl_RX0_18 (by decide) rfl h (fun v6 _ h => ?_)
    refine zV_gi (by decide +kernel) zfl_RX0_67 (by decide) rfl (Or.inl rfl) h (fun v7 _ h => ?_)
    exact zend_i h hR (by decide +kernel)
theorem zc_X0_countInside {M M' : Zm} {l0 : Option Nat} {x : Int32} (h : zf_X0_countInside M l0 = some (M', x)) (l : Launch) (D : va_G) (cy : Nat → ClassId) : zMet l yX0_countInside zC_X0_countInside (some .int) D cy [.inr (.inr l0)] M M' (some (.inl x)) :=
  zM_i (by decide) rfl (fun h => by cases h) (Nat.le_of_ble_eq_true rfl) (fun X hR => zt_X0_countInside h hR)
-- BlendCellar$Barrel.digestOnto(J)J
def zC_X0_digestOnto : Zc := (cX0_digestOnto, 6, RX0, 1, 20, false)
theorem zcl_X0_digestOnto {C : Zc} (h1 : zC_X0_digestOnto.2.2.2.1 + 1 ≤ C.2.2.2.1) (h2 : 8 + (zC_X0_digestOnto.2.1 + 11) + zC_X0_digestOnto.2.2.2.2.1 ≤ C.2.2.2.2.1) : zCl C yX0_digestOnto zC_X0_digestOnto (some .long) 1 := ⟨zw_1429, zw_117, ⟨by decide, by decide⟩, by decide +kernel, h1, h2⟩
noncomputable def zf_X0_digestOnto_L63 (p0 : Option Nat) (x : Zm × Int64 × Int32) : Option ((Zm × Int64 × Int32) ⊕ (Zm × Int64 × Int32)) := match x with
  | (M, l3, l5) =>
  zb1 (zo_gr M p0 1 5) (fun v11 =>
  zb1 (zo_gi M v11 11 2) (fun v12 =>
  (if v12 ≤ l5 then
  some (.inr (M, l3, l5))
  else
  zb1 (zo_gr M p0 1 5) (fun v15 =>
  zb1 (zo_gr M v15 11 0) (fun v16 =>
  zb1 (zo_ai M v16 l5) (fun v17 =>
  zb1 (zo_gr M p0 1 5) (fun v19 =>
  zb1 (zo_gr M v19 11 1) (fun v20 =>
  zb1 (zo_aj M v20 l5) (fun v21 =>
  some (.inl (M, ((((l3 * (31 : Int64)) + (v17.toInt64)) * (31 : Int64)) + v21), (l5 + 1))))))))))))
def zP_X0_digestOnto_L63 (X : Zx) (p0 : Option Nat) (x : Zm × Int64 × Int32) : Prop := match x with
  | (M, l3, l5) => zV X zC_X0_digestOnto M 63 [(0, .inr (.inr p0)), (3, .inr (.inl l3)), (5, .inl l5)] []
def zK_X0_digestOnto_L63 (X : Zx) (p0 : Option Nat) (y : Zm × Int64 × Int32) : Prop := match y with
  | (M, l3, l5) => zV X zC_X0_digestOnto M 116 [(0, .inr (.inr p0)), (3, .inr (.inl l3))] []
noncomputable def zf_X0_digestOnto_L119 (p0 : Option Nat) (x : Zm × Int64 × Int32) : Option ((Zm × Int64 × Int32) ⊕ (Zm × Int64 × Int32)) := match x with
  | (M, l3, l5) =>
  zb1 (zo_gi M p0 1 7) (fun v24 =>
  (if v24 ≤ l5 then
  some (.inr (M, l3, l5))
  else
  zb1 (zo_gr M p0 1 6) (fun v27 =>
  zb1 (zo_ar M 16 v27 l5) (fun v28 =>
  zb1 (zo_gi M v28 1 0) (fun v29 =>
  some (.inl (M, ((l3 * (31 : Int64)) + (v29.toInt64)), (l5 + 1))))))))
def zP_X0_digestOnto_L119 (X : Zx) (p0 : Option Nat) (x : Zm × Int64 × Int32) : Prop := match x with
  | (M, l3, l5) => zV X zC_X0_digestOnto M 119 [(0, .inr (.inr p0)), (3, .inr (.inl l3)), (5, .inl l5)] []
def zK_X0_digestOnto_L119 (X : Zx) (p0 : Option Nat) (y : Zm × Int64 × Int32) : Prop := match y with
  | (M, l3, l5) => zV X zC_X0_digestOnto M 152 [(3, .inr (.inl l3))] []
noncomputable def zf_X0_digestOnto (M : Zm) (l0 : Option Nat) (l1 : Int64) : Option (Zm × Int64) :=
  zb1 (zo_gi M l0 1 1) (fun v2 =>
  zb1 (zo_gi M l0 1 2) (fun v4 =>
  zb1 (zo_gi M l0 1 3) (fun v6 =>
  zb1 (zo_gi M l0 1 4) (fun v8 =>
  zb1 (zo_rc M l0 1) (fun _ => zbd (zf_X0_countInside M l0) (fun M10 v10 =>
  zb1 (zwhile (zf_X0_digestOnto_L63 l0) (M10, ((((((((((l1 * (31 : Int64)) + (v2.toInt64)) * (31 : Int64)) + (v4.toInt64)) * (31 : Int64)) + (v6.toInt64)) * (31 : Int64)) + (v8.toInt64)) * (31 : Int64)) + (v10.toInt64)), (0 : Int32))) (fun y23 => match y23 with
  | (M63_23, l3_23, l5_23) =>
  zb1 (zwhile (zf_X0_digestOnto_L119 l0) (M63_23, l3_23, (0 : Int32))) (fun y31 => match y31 with
  | (M119_31, l3_31, l5_31) =>
  some (M119_31, l3_31)))))))))
set_option maxRecDepth 100000 in
theorem zt_X0_digestOnto_L63 {X : Zx} {p0 : Option Nat} {x : Zm × Int64 × Int32} {y : Zm × Int64 × Int32} (h : zwhile (zf_X0_digestOnto_L63 p0) x = some y) (hy : zK_X0_digestOnto_L63 X p0 y) : zP_X0_digestOnto_L63 X p0 x := by
  refine zwhile_ind (P := zP_X0_digestOnto_L63 X p0) (K := zK_X0_digestOnto_L63 X p0) ?_ h hy
  intro x z hf k1 k2
  obtain ⟨M, l3, l5⟩ := x
  have h : zf_X0_digestOnto_L63 p0 (M, l3, l5) = some z := hf
  unfold zf_X0_digestOnto_L63 at h
  show zV X zC_X0_digestOnto M 63 [(0, .inr (.inr p0)), (3, .inr (.inl l3)), (5, .inl l5)] []
  refine zV_b (pc' := 66) (lv' := [(0, .inr (.inr p0)), (3, .inr (.inl l3)), (5, .inl l5)]) (st' := [.inr (.inr p0), .inl l5]) [(.iload 5, 2), (.aload_n 0, 1)] (by decide +kernel) rfl ?_
  refine zV_gr (by decide +kernel) zfl_RX0_18 (by decide) rfl h (fun v11 _ h => ?_)
  refine zV_gi (by decide +kernel) zfl_RX0_67 (by decide) rfl (Or.inl rfl) h (fun v12 _ h => ?_)
  refine zV_icmp_ge (off := 44) (tgt := 116) (by decide +kernel) (by decide) h (fun c13 h => ?_) (fun c13 h => ?_)
  · exact zV_lv (lv' := [(0, .inr (.inr p0)), (3, .inr (.inl l3))]) [0, 1] rfl (k2 _ (Option.some.inj h).symm)
  · refine zV_b (pc' := 76) (lv' := [(0, .inr (.inr p0)), (3, .inr (.inl l3)), (5, .inl l5)]) (st' := [.inr (.inl l3)]) [(.lload_n 3, 1)] (by decide +kernel) rfl ?_
    refine zV_ldc2 (by decide +kernel) zw_1430 ?_
    refine zV_b (pc' := 81) (lv' := [(0, .inr (.inr p0)), (3, .inr (.inl l3)), (5, .inl l5)]) (st' := [.inr (.inr p0), .inr (.inl (l3 * (31 : Int64)))]) [(.lmul, 1), (.aload_n 0, 1)] (by decide +kernel) rfl ?_
    refine zV_gr (by decide +kernel) zfl_RX0_18 (by decide) rfl h (fun v15 _ h => ?_)
    refine zV_gr (by decide +kernel) zfl_RX0_119 (by decide) rfl h (fun v16 _ h => ?_)
    refine zV_b (pc' := 89) (lv' := [(0, .inr (.inr p0)), (3, .inr (.inl l3)), (5, .inl l5)]) (st' := [.inl l5, .inr (.inr v16), .inr (.inl (l3 * (31 : Int64)))]) [(.iload 5, 2)] (by decide +kernel) rfl ?_
    refine zV_ai (by decide +kernel) h (fun v17 _ h => ?_)
    refine zV_b (pc' := 94) (lv' := [(3, .inr (.inl ((l3 * (31 : Int64)) + (v17.toInt64)))), (0, .inr (.inr p0)), (5, .inl l5)]) (st' := [.inr (.inl ((l3 * (31 : Int64)) + (v17.toInt64)))]) [(.i2l, 1), (.ladd, 1), (.lstore_n 3, 1), (.lload_n 3, 1)] (by decide +kernel) rfl ?_
    refine zV_ldc2 (by decide +kernel) zw_1430 ?_
    refine zV_b (pc' := 99) (lv' := [(3, .inr (.inl ((l3 * (31 : Int64)) + (v17.toInt64)))), (0, .inr (.inr p0)), (5, .inl l5)]) (st' := [.inr (.inr p0), .inr (.inl (((l3 * (31 : Int64)) + (v17.toInt64)) * (31 : Int64)))]) [(.lmul, 1), (.aload_n 0, 1)] (by decide +kernel) rfl ?_
    refine zV_gr (by decide +kernel) zfl_RX0_18 (by decide) rfl h (fun v19 _ h => ?_)
    refine zV_gr (by decide +kernel) zfl_RX0_123 (by decide) rfl h (fun v20 _ h => ?_)
    refine zV_b (pc' := 107) (lv' := [(3, .inr (.inl ((l3 * (31 : Int64)) + (v17.toInt64)))), (0, .inr (.inr p0)), (5, .inl l5)]) (st' := [.inl l5, .inr (.inr v20), .inr (.inl (((l3 * (31 : Int64)) + (v17.toInt64)) * (31 : Int64)))]) [(.iload 5, 2)] (by decide +kernel) rfl ?_
    refine zV_aj (by decide +kernel) h (fun v21 _ h => ?_)
    refine zV_b (pc' := 113) (lv' := [(5, .inl (l5 + 1)), (3, .inr (.inl ((((l3 * (31 : Int64)) + (v17.toInt64)) * (31 : Int64)) + v21))), (0, .inr (.inr p0))]) (st' := []) [(.ladd, 1), (.lstore_n 3, 1), (.iinc 5 1, 3)] (by decide +kernel) rfl ?_
    refine zV_goto (off := (-50)) (tgt := 63) (by decide +kernel) (by decide) ?_
    exact zV_lv (lv' := [(0, .inr (.inr p0)), (3, .inr (.inl ((((l3 * (31 : Int64)) + (v17.toInt64)) * (31 : Int64)) + v21))), (5, .inl (l5 + 1))]) [2, 1, 0] rfl (k1 _ (Option.some.inj h).symm)
set_option maxRecDepth 100000 in
theorem zt_X0_digestOnto_L119 {X : Zx} {p0 : Option Nat} {x : Zm × Int64 × Int32} {y : Zm × Int64 × Int32} (h : zwhile (zf_X0_digestOnto_L119 p0) x = some y) (hy : zK_X0_digestOnto_L119 X p0 y) : zP_X0_digestOnto_L119 X p0 x := by
  refine zwhile_ind (P := zP_X0_digestOnto_L119 X p0) (K := zK_X0_digestOnto_L119 X p0) ?_ h hy
  intro x z hf k1 k2
  obtain ⟨M, l3, l5⟩ := x
  have h : zf_X0_digestOnto_L119 p0 (M, l3, l5) = some z := hf
  unfold zf_X0_digestOnto_L119 at h
  show zV X zC_X0_digestOnto M 119 [(0, .inr (.inr p0)), (3, .inr (.inl l3)), (5, .inl l5)] []
  refine zV_b (pc' := 122) (lv' := [(0, .inr (.inr p0)), (3, .inr (.inl l3)), (5, .inl l5)]) (st' := [.inr (.inr p0), .inl l5]) [(.iload 5, 2), (.aload_n 0, 1)] (by decide +kernel) rfl ?_
  refine zV_gi (by decide +kernel) zfl_RX0_26 (by decide) rfl (Or.inl rfl) h (fun v24 _ h => ?_)
  refine zV_icmp_ge (off := 27) (tgt := 152) (by decide +kernel) (by decide) h (fun c25 h => ?_) (fun c25 h => ?_)
  · exact zV_lv (lv' := [(3, .inr (.inl l3))]) [1] rfl (k2 _ (Option.some.inj h).symm)
  · refine zV_b (pc' := 129) (lv' := [(0, .inr (.inr p0)), (3, .inr (.inl l3)), (5, .inl l5)]) (st' := [.inr (.inl l3)]) [(.lload_n 3, 1)] (by decide +kernel) rfl ?_
    refine zV_ldc2 (by decide +kernel) zw_1430 ?_
    refine zV_b (pc' := 134) (lv' := [(0, .inr (.inr p0)), (3, .inr (.inl l3)), (5, .inl l5)]) (st' := [.inr (.inr p0), .inr (.inl (l3 * (31 : Int64)))]) [(.lmul, 1), (.aload_n 0, 1)] (by decide +kernel) rfl ?_
    refine zV_gr (by decide +kernel) zfl_RX0_22 (by decide) rfl h (fun v27 _ h => ?_)
    refine zV_b (pc' := 139) (lv' := [(0, .inr (.inr p0)), (3, .inr (.inl l3)), (5, .inl l5)]) (st' := [.inl l5, .inr (.inr v27), .inr (.inl (l3 * (31 : Int64)))]) [(.iload 5, 2)] (by decide +kernel) rfl ?_
    refine zV_ar (by decide +kernel) (by decide) (by decide) h (fun v28 _ h => ?_)
    refine zV_gi (by decide +kernel) zfl_RX0_47 (by decide) rfl (Or.inl rfl) h (fun v29 _ h => ?_)
    refine zV_b (pc' := 149) (lv' := [(5, .inl (l5 + 1)), (3, .inr (.inl ((l3 * (31 : Int64)) + (v29.toInt64)))), (0, .inr (.inr p0))]) (st' := []) [(.i2l, 1), (.ladd, 1), (.lstore_n 3, 1), (.iinc 5 1, 3)] (by decide +kernel) rfl ?_
    refine zV_goto (off := (-30)) (tgt := 119) (by decide +kernel) (by decide) ?_
    exact zV_lv (lv' := [(0, .inr (.inr p0)), (3, .inr (.inl ((l3 * (31 : Int64)) + (v29.toInt64)))), (5, .inl (l5 + 1))]) [2, 1, 0] rfl (k1 _ (Option.some.inj h).symm)
set_option maxRecDepth 100000 in
theorem zt_X0_digestOnto {X : Zx} {M : Zm} {l0 : Option Nat} {l1 : Int64} {z : Zm × Int64} (h : zf_X0_digestOnto M l0 l1 = some z) (hR : zRj X zC_X0_digestOnto z.1 z.2) : zV X zC_X0_digestOnto M 0 [(0, .inr (.inr l0)), (1, .inr (.inl l1))] [] := by
  unfold zf_X0_digestOnto at h
  refine zV_b (pc' := 1) (lv' := [(0, .inr (.inr l0)), (1, .inr (.inl l1))]) (st' := [.inr (.inl l1)]) [(.lload_n 1, 1)] (by decide +kernel) rfl ?_
  refine zV_ldc2 (by decide +kernel) zw_1430 ?_
  refine zV_b (pc' := 6) (lv' := [(0, .inr (.inr l0)), (1, .inr (.inl l1))]) (st' := [.inr (.inr l0), .inr (.inl (l1 * (31 : Int64)))]) [(.lmul, 1), (.aload_n 0, 1)] (by decide +kernel) rfl ?_
  refine zV_gi (by decide +kernel) zfl_RX0_50 (by decide) rfl (Or.inl rfl) h (fun v2 _ h => ?_)
  refine zV_b (pc' := 13) (lv' := [(3, .inr (.inl ((l1 * (31 : Int64)) + (v2.toInt64)))), (0, .inr (.inr l0)), (1, .inr (.inl l1))]) (st' := [.inr (.inl ((l1 * (31 : Int64)) + (v2.toInt64)))]) [(.i2l, 1), (.ladd, 1), (.lstore_n 3, 1), (.lload_n 3, 1)] (by decide +kernel) rfl ?_
  refine zV_ldc2 (by decide +kernel) zw_1430 ?_
  refine zV_b (pc' := 18) (lv' := [(3, .inr (.inl ((l1 * (31 : Int64)) + (v2.toInt64)))), (0, .inr (.inr l0)), (1, .inr (.inl l1))]) (st' := [.inr (.inr l0), .inr (.inl (((l1 * (31 : Int64)) + (v2.toInt64)) * (31 : Int64)))]) [(.lmul, 1), (.aload_n 0, 1)] (by decide +kernel) rfl ?_
  refine zV_gi (by decide +kernel) zfl_RX0_53 (by decide) rfl (Or.inl rfl) h (fun v4 _ h => ?_)
  refine zV_b (pc' := 25) (lv' := [(3, .inr (.inl ((((l1 * (31 : Int64)) + (v2.toInt64)) * (31 : Int64)) + (v4.toInt64)))), (0, .inr (.inr l0)), (1, .inr (.inl l1))]) (st' := [.inr (.inl ((((l1 * (31 : Int64)) + (v2.toInt64)) * (31 : Int64)) + (v4.toInt64)))]) [(.i2l, 1), (.ladd, 1), (.lstore_n 3, 1), (.lload_n 3, 1)] (by decide +kernel) rfl ?_
  refine zV_ldc2 (by decide +kernel) zw_1430 ?_
  refine zV_b (pc' := 30) (lv' := [(3, .inr (.inl ((((l1 * (31 : Int64)) + (v2.toInt64)) * (31 : Int64)) + (v4.toInt64)))), (0, .inr (.inr l0)), (1, .inr (.inl l1))]) (st' := [.inr (.inr l0), .inr (.inl (((((l1 * (31 : Int64)) + (v2.toInt64)) * (31 : Int64)) + (v4.toInt64)) * (31 : Int64)))]) [(.lmul, 1), (.aload_n 0, 1)] (by decide +kernel) rfl ?_
  refine zV_gi (by decide +kernel) zfl_RX0_56 (by decide) rfl (Or.inl rfl) h (fun v6 _ h => ?_)
  refine zV_b (pc' := 37) (lv' := [(3, .inr (.inl ((((((l1 * (31 : Int64)) + (v2.toInt64)) * (31 : Int64)) + (v4.toInt64)) * (31 : Int64)) + (v6.toInt64)))), (0, .inr (.inr l0)), (1, .inr (.inl l1))]) (st' := [.inr (.inl ((((((l1 * (31 : Int64)) + (v2.toInt64)) * (31 : Int64)) + (v4.toInt64)) * (31 : Int64)) + (v6.toInt64)))]) [(.i2l, 1), (.ladd, 1), (.lstore_n 3, 1), (.lload_n 3, 1)] (by decide +kernel) rfl ?_
  refine zV_ldc2 (by decide +kernel) zw_1430 ?_
  refine zV_b (pc' := 42) (lv' := [(3, .inr (.inl ((((((l1 * (31 : Int64)) + (v2.toInt64)) * (31 : Int64)) + (v4.toInt64)) * (31 : Int64)) + (v6.toInt64)))), (0, .inr (.inr l0)), (1, .inr (.inl l1))]) (st' := [.inr (.inr l0), .inr (.inl (((((((l1 * (31 : Int64)) + (v2.toInt64)) * (31 : Int64)) + (v4.toInt64)) * (31 : Int64)) + (v6.toInt64)) * (31 : Int64)))]) [(.lmul, 1), (.aload_n 0, 1)] (by decide +kernel) rfl ?_
  refine zV_gi (by decide +kernel) zfl_RX0_9 (by decide) rfl (Or.inl rfl) h (fun v8 _ h => ?_)
  refine zV_b (pc' := 49) (lv' := [(3, .inr (.inl ((((((((l1 * (31 : Int64)) + (v2.toInt64)) * (31 : Int64)) + (v4.toInt64)) * (31 : Int64)) + (v6.toInt64)) * (31 : Int64)) + (v8.toInt64)))), (0, .inr (.inr l0)), (1, .inr (.inl l1))]) (st' := [.inr (.inl ((((((((l1 * (31 : Int64)) + (v2.toInt64)) * (31 : Int64)) + (v4.toInt64)) * (31 : Int64)) + (v6.toInt64)) * (31 : Int64)) + (v8.toInt64)))]) [(.i2l, 1), (.ladd, 1), (.lstore_n 3, 1), (.lload_n 3, 1)] (by decide +kernel) rfl ?_
  refine zV_ldc2 (by decide +kernel) zw_1430 ?_
  refine zV_b (pc' := 54) (lv' := [(3, .inr (.inl ((((((((l1 * (31 : Int64)) + (v2.toInt64)) * (31 : Int64)) + (v4.toInt64)) * (31 : Int64)) + (v6.toInt64)) * (31 : Int64)) + (v8.toInt64)))), (0, .inr (.inr l0)), (1, .inr (.inl l1))]) (st' := [.inr (.inr l0), .inr (.inl (((((((((l1 * (31 : Int64)) + (v2.toInt64)) * (31 : Int64)) + (v4.toInt64)) * (31 : Int64)) + (v6.toInt64)) * (31 : Int64)) + (v8.toInt64)) * (31 : Int64)))]) [(.lmul, 1), (.aload_n 0, 1)] (by decide +kernel) rfl ?_
  refine zV_cvi (As := []) (st := [.inr (.inl (((((((((l1 * (31 : Int64)) + (v2.toInt64)) * (31 : Int64)) + (v4.toInt64)) * (31 : Int64)) + (v6.toInt64)) * (31 : Int64)) + (v8.toInt64)) * (31 : Int64)))]) (c := 1) (by decide +kernel) (zcl_X0_countInside (by decide) (by decide)) ⟨zw_1431, zw_1316, zw_1317⟩ ⟨⟨_, _, rfl⟩, by decide⟩ rfl rfl (Nat.le_of_ble_eq_true rfl) h (fun _ _ e => zc_X0_countInside e) (fun M10 v10 _ h => ?_)
  refine zV_b (pc' := 63) (lv' := [(5, .inl (0 : Int32)), (3, .inr (.inl ((((((((((l1 * (31 : Int64)) + (v2.toInt64)) * (31 : Int64)) + (v4.toInt64)) * (31 : Int64)) + (v6.toInt64)) * (31 : Int64)) + (v8.toInt64)) * (31 : Int64)) + (v10.toInt64)))), (0, .inr (.inr l0)), (1, .inr (.inl l1))]) (st' := []) [(.i2l, 1), (.ladd, 1), (.lstore_n 3, 1), (.iconst 0, 1), (.istore 5, 2)] (by decide +kernel) rfl ?_
  obtain ⟨y23, e23, h⟩ := zb1_inv h
  refine zV_lv (lv' := [(0, .inr (.inr l0)), (3, .inr (.inl ((((((((((l1 * (31 : Int64)) + (v2.toInt64)) * (31 : Int64)) + (v4.toInt64)) * (31 : Int64)) + (v6.toInt64)) * (31 : Int64)) + (v8.toInt64)) * (31 : Int64)) + (v10.toInt64)))), (5, .inl (0 : Int32))]) [2, 1, 0] rfl (zt_X0_digestOnto_L63 e23 ?_)
  obtain ⟨M63_23, l3_23, l5_23⟩ := y23
  show zV X zC_X0_digestOnto M63_23 116 [(0, .inr (.inr l0)), (3, .inr (.inl l3_23))] []
  refine zV_b (pc' := 119) (lv' := [(5, .inl (0 : Int32)), (0, .inr (.inr l0)), (3, .inr (.inl l3_23))]) (st' := []) [(.iconst 0, 1), (.istore 5, 2)] (by decide +kernel) rfl ?_
  obtain ⟨y31, e31, h⟩ := zb1_inv h
  refine zV_lv (lv' := [(0, .inr (.inr l0)), (3, .inr (.inl l3_23)), (5, .inl (0 : Int32))]) [1, 2, 0] rfl (zt_X0_digestOnto_L119 e31 ?_)
  obtain ⟨M119_31, l3_31, l5_31⟩ := y31
  show zV X zC_X0_digestOnto M119_31 152 [(3, .inr (.inl l3_31))] []
  refine zV_b (pc' := 153) (lv' := [(3, .inr (.inl l3_31))]) (st' := [.inr (.inl l3_31)]) [(.lload_n 3, 1)] (by decide +kernel) rfl ?_
  exact zend_j h hR (by decide +kernel)
theorem zc_X0_digestOnto {M M' : Zm} {l0 : Option Nat} {l1 : Int64} {x : Int64} (h : zf_X0_digestOnto M l0 l1 = some (M', x)) (l : Launch) (D : va_G) (cy : Nat → ClassId) : zMet l yX0_digestOnto zC_X0_digestOnto (some .long) D cy [.inr (.inr l0), .inr (.inl l1)] M M' (some (.inr (.inl x))) :=
  zM_j (by decide) rfl (fun h => by cases h) (Nat.le_of_ble_eq_true rfl) (fun X hR => zt_X0_digestOnto h hR)
-- BlendCellar$Barrel.has()J
def zC_X0_has : Zc := (cX0_has, 4, RX0, 0, 0, false)
theorem zcl_X0_has {C : Zc} (h1 : zC_X0_has.2.2.2.1 + 1 ≤ C.2.2.2.1) (h2 : 8 + (zC_X0_has.2.1 + 11) + zC_X0_has.2.2.2.2.1 ≤ C.2.2.2.2.1) : zCl C yX0_has zC_X0_has (some .long) 0 := ⟨zw_1071, zw_117, ⟨by decide, by decide⟩, by decide +kernel, h1, h2⟩
noncomputable def zf_X0_has_L10 (p0 : Option Nat) (x : Zm × Int64 × Int32) : Option ((Zm × Int64 × Int32) ⊕ (Zm × Int64 × Int32)) := match x with
  | (M, l1, l3) =>
  zb1 (zo_gi M p0 1 7) (fun v3 =>
  (if v3 ≤ l3 then
  some (.inr (M, l1, l3))
  else
  zb1 (zo_gr M p0 1 6) (fun v5 =>
  zb1 (zo_ar M 16 v5 l3) (fun v6 =>
  zb1 (zo_gr M v6 1 5) (fun v7 =>
  zb1 (zo_gj M v7 11 3) (fun v8 =>
  some (.inl (M, (l1 + v8), (l3 + 1)))))))))
def zP_X0_has_L10 (X : Zx) (p0 : Option Nat) (x : Zm × Int64 × Int32) : Prop := match x with
  | (M, l1, l3) => zV X zC_X0_has M 10 [(0, .inr (.inr p0)), (1, .inr (.inl l1)), (3, .inl l3)] []
def zK_X0_has_L10 (X : Zx) (p0 : Option Nat) (y : Zm × Int64 × Int32) : Prop := match y with
  | (M, l1, l3) => zV X zC_X0_has M 39 [(1, .inr (.inl l1))] []
noncomputable def zf_X0_has (M : Zm) (l0 : Option Nat) : Option (Zm × Int64) :=
  zb1 (zo_gr M l0 1 5) (fun v1 =>
  zb1 (zo_gj M v1 11 3) (fun v2 =>
  zb1 (zwhile (zf_X0_has_L10 l0) (M, v2, (0 : Int32))) (fun y10 => match y10 with
  | (M10_10, l1_10, l3_10) =>
  some (M10_10, l1_10))))
set_option maxRecDepth 100000 in
theorem zt_X0_has_L10 {X : Zx} {p0 : Option Nat} {x : Zm × Int64 × Int32} {y : Zm × Int64 × Int32} (h : zwhile (zf_X0_has_L10 p0) x = some y) (hy : zK_X0_has_L10 X p0 y) : zP_X0_has_L10 X p0 x := by
  refine zwhile_ind (P := zP_X0_has_L10 X p0) (K := zK_X0_has_L10 X p0) ?_ h hy
  intro x z hf k1 k2
  obtain ⟨M, l1, l3⟩ := x
  have h : zf_X0_has_L10 p0 (M, l1, l3) = some z := hf
  unfold zf_X0_has_L10 at h
  show zV X zC_X0_has M 10 [(0, .inr (.inr p0)), (1, .inr (.inl l1)), (3, .inl l3)] []
  refine zV_b (pc' := 12) (lv' := [(0, .inr (.inr p0)), (1, .inr (.inl l1)), (3, .inl l3)]) (st' := [.inr (.inr p0), .inl l3]) [(.iload_n 3, 1), (.aload_n 0, 1)] (by decide +kernel) rfl ?_
  refine zV_gi (by decide +kernel) zfl_RX0_26 (by decide) rfl (Or.inl rfl) h (fun v3 _ h => ?_)
  refine zV_icmp_ge (off := 24) (tgt := 39) (by decide +kernel) (by decide) h (fun c4 h => ?_) (fun c4 h => ?_)
  · exact zV_lv (lv' := [(1, .inr (.inl l1))]) [1] rfl (k2 _ (Option.some.inj h).symm)
  · refine zV_b (pc' := 20) (lv' := [(0, .inr (.inr p0)), (1, .inr (.inl l1)), (3, .inl l3)]) (st' := [.inr (.inr p0), .inr (.inl l1)]) [(.lload_n 1, 1), (.aload_n 0, 1)] (by decide +kernel) rfl ?_
    refine zV_gr (by decide +kernel) zfl_RX0_22 (by decide) rfl h (fun v5 _ h => ?_)
    refine zV_b (pc' := 24) (lv' := [(0, .inr (.inr p0)), (1, .inr (.inl l1)), (3, .inl l3)]) (st' := [.inl l3, .inr (.inr v5), .inr (.inl l1)]) [(.iload_n 3, 1)] (by decide +kernel) rfl ?_
    refine zV_ar (by decide +kernel) (by decide) (by decide) h (fun v6 _ h => ?_)
    refine zV_gr (by decide +kernel) zfl_RX0_18 (by decide) rfl h (fun v7 _ h => ?_)
    refine zV_gj (by decide +kernel) zfl_RX0_59 (by decide) rfl h (fun v8 _ h => ?_)
    refine zV_b (pc' := 36) (lv' := [(3, .inl (l3 + 1)), (1, .inr (.inl (l1 + v8))), (0, .inr (.inr p0))]) (st' := []) [(.ladd, 1), (.lstore_n 1, 1), (.iinc 3 1, 3)] (by decide +kernel) rfl ?_
    refine zV_goto (off := (-26)) (tgt := 10) (by decide +kernel) (by decide) ?_
    exact zV_lv (lv' := [(0, .inr (.inr p0)), (1, .inr (.inl (l1 + v8))), (3, .inl (l3 + 1))]) [2, 1, 0] rfl (k1 _ (Option.some.inj h).symm)
set_option maxRecDepth 100000 in
theorem zt_X0_has {X : Zx} {M : Zm} {l0 : Option Nat} {z : Zm × Int64} (h : zf_X0_has M l0 = some z) (hR : zRj X zC_X0_has z.1 z.2) : zV X zC_X0_has M 0 [(0, .inr (.inr l0))] [] := by
  unfold zf_X0_has at h
  refine zV_b (pc' := 1) (lv' := [(0, .inr (.inr l0))]) (st' := [.inr (.inr l0)]) [(.aload_n 0, 1)] (by decide +kernel) rfl ?_
  refine zV_gr (by decide +kernel) zfl_RX0_18 (by decide) rfl h (fun v1 _ h => ?_)
  refine zV_gj (by decide +kernel) zfl_RX0_59 (by decide) rfl h (fun v2 _ h => ?_)
  refine zV_b (pc' := 10) (lv' := [(3, .inl (0 : Int32)), (1, .inr (.inl v2)), (0, .inr (.inr l0))]) (st' := []) [(.lstore_n 1, 1), (.iconst 0, 1), (.istore_n 3, 1)] (by decide +kernel) rfl ?_
  obtain ⟨y10, e10, h⟩ := zb1_inv h
  refine zV_lv (lv' := [(0, .inr (.inr l0)), (1, .inr (.inl v2)), (3, .inl (0 : Int32))]) [2, 1, 0] rfl (zt_X0_has_L10 e10 ?_)
  obtain ⟨M10_10, l1_10, l3_10⟩ := y10
  show zV X zC_X0_has M10_10 39 [(1, .inr (.inl l1_10))] []
  refine zV_b (pc' := 40) (lv' := [(1, .inr (.inl l1_10))]) (st' := [.inr (.inl l1_10)]) [(.lload_n 1, 1)] (by decide +kernel) rfl ?_
  exact zend_j h hR (by decide +kernel)
theorem zc_X0_has {M M' : Zm} {l0 : Option Nat} {x : Int64} (h : zf_X0_has M l0 = some (M', x)) (l : Launch) (D : va_G) (cy : Nat → ClassId) : zMet l yX0_has zC_X0_has (some .long) D cy [.inr (.inr l0)] M M' (some (.inr (.inl x))) :=
  zM_j (by decide) rfl (fun h => by cases h) (Nat.le_of_ble_eq_true rfl) (fun X hR => zt_X0_has h hR)
-- BlendCellar$Barrel.hasOf(I)J
def zC_X0_hasOf : Zc := (cX0_hasOf, 5, RX0, 2, 46, false)
theorem zcl_X0_hasOf {C : Zc} (h1 : zC_X0_hasOf.2.2.2.1 + 1 ≤ C.2.2.2.1) (h2 : 8 + (zC_X0_hasOf.2.1 + 11) + zC_X0_hasOf.2.2.2.2.1 ≤ C.2.2.2.2.1) : zCl C yX0_hasOf zC_X0_hasOf (some .long) 1 := ⟨zw_1309, zw_117, ⟨by decide, by decide⟩, by decide +kernel, h1, h2⟩
noncomputable def zf_X0_hasOf_L12 (p0 : Option Nat) (p1 : Int32) (x : Zm × Int64 × Int32) : Option ((Zm × Int64 × Int32) ⊕ (Zm × Int64 × Int32)) := match x with
  | (M, l2, l4) =>
  zb1 (zo_gi M p0 1 7) (fun v3 =>
  (if v3 ≤ l4 then
  some (.inr (M, l2, l4))
  else
  zb1 (zo_gr M p0 1 6) (fun v5 =>
  zb1 (zo_ar M 16 v5 l4) (fun v6 =>
  zb1 (zo_gr M v6 1 5) (fun v7 =>
  zb1 (zo_rc M v7 11) (fun _ => zbd (zf_X10_amountOf M v7 p1) (fun M8 v8 =>
  some (.inl (M8, (l2 + v8), (l4 + 1))))))))))
def zP_X0_hasOf_L12 (X : Zx) (p0 : Option Nat) (p1 : Int32) (x : Zm × Int64 × Int32) : Prop := match x with
  | (M, l2, l4) => zV X zC_X0_hasOf M 12 [(0, .inr (.inr p0)), (1, .inl p1), (2, .inr (.inl l2)), (4, .inl l4)] []
def zK_X0_hasOf_L12 (X : Zx) (p0 : Option Nat) (p1 : Int32) (y : Zm × Int64 × Int32) : Prop := match y with
  | (M, l2, l4) => zV X zC_X0_hasOf M 44 [(2, .inr (.inl l2))] []
noncomputable def zf_X0_hasOf (M : Zm) (l0 : Option Nat) (l1 : Int32) : Option (Zm × Int64) :=
  zb1 (zo_gr M l0 1 5) (fun v1 =>
  zb1 (zo_rc M v1 11) (fun _ => zbd (zf_X10_amountOf M v1 l1) (fun M2 v2 =>
  zb1 (zwhile (zf_X0_hasOf_L12 l0 l1) (M2, v2, (0 : Int32))) (fun y10 => match y10 with
  | (M12_10, l2_10, l4_10) =>
  some (M12_10, l2_10)))))
set_option maxRecDepth 100000 in
theorem zt_X0_hasOf_L12 {X : Zx} {p0 : Option Nat} {p1 : Int32} {x : Zm × Int64 × Int32} {y : Zm × Int64 × Int32} (h : zwhile (zf_X0_hasOf_L12 p0 p1) x = some y) (hy : zK_X0_hasOf_L12 X p0 p1 y) : zP_X0_hasOf_L12 X p0 p1 x := by
  refine zwhile_ind (P := zP_X0_hasOf_L12 X p0 p1) (K := zK_X0_hasOf_L12 X p0 p1) ?_ h hy
  intro x z hf k1 k2
  obtain ⟨M, l2, l4⟩ := x
  have h : zf_X0_hasOf_L12 p0 p1 (M, l2, l4) = some z := hf
  unfold zf_X0_hasOf_L12 at h
  show zV X zC_X0_hasOf M 12 [(0, .inr (.inr p0)), (1, .inl p1), (2, .inr (.inl l2)), (4, .inl l4)] []
  refine zV_b (pc' := 15) (lv' := [(0, .inr (.inr p0)), (1, .inl p1), (2, .inr (.inl l2)), (4, .inl l4)]) (st' := [.inr (.inr p0), .inl l4]) [(.iload 4, 2), (.aload_n 0, 1)] (by decide +kernel) rfl ?_
  refine zV_gi (by decide +kernel) zfl_RX0_26 (by decide) rfl (Or.inl rfl) h (fun v3 _ h => ?_)
  refine zV_icmp_ge (off := 26) (tgt := 44) (by decide +kernel) (by decide) h (fun c4 h => ?_) (fun c4 h => ?_)
  · exact zV_lv (lv' := [(2, .inr (.inl l2))]) [2] rfl (k2 _ (Option.some.inj h).symm)
  · refine zV_b (pc' := 23) (lv' := [(0, .inr (.inr p0)), (1, .inl p1), (2, .inr (.inl l2)), (4, .inl l4)]) (st' := [.inr (.inr p0), .inr (.inl l2)]) [(.lload_n 2, 1), (.aload_n 0, 1)] (by decide +kernel) rfl ?_
    refine zV_gr (by decide +kernel) zfl_RX0_22 (by decide) rfl h (fun v5 _ h => ?_)
    refine zV_b (pc' := 28) (lv' := [(0, .inr (.inr p0)), (1, .inl p1), (2, .inr (.inl l2)), (4, .inl l4)]) (st' := [.inl l4, .inr (.inr v5), .inr (.inl l2)]) [(.iload 4, 2)] (by decide +kernel) rfl ?_
    refine zV_ar (by decide +kernel) (by decide) (by decide) h (fun v6 _ h => ?_)
    refine zV_gr (by decide +kernel) zfl_RX0_18 (by decide) rfl h (fun v7 _ h => ?_)
    refine zV_b (pc' := 33) (lv' := [(0, .inr (.inr p0)), (1, .inl p1), (2, .inr (.inl l2)), (4, .inl l4)]) (st' := [.inl p1, .inr (.inr v7), .inr (.inl l2)]) [(.iload_n 1, 1)] (by decide +kernel) rfl ?_
    refine zV_cvj (As := [.inl p1]) (st := [.inr (.inl l2)]) (c := 11) (by decide +kernel) (zcl_X10_amountOf (by decide) (by decide)) ⟨zw_1310, zw_806, zw_807⟩ ⟨⟨_, _, rfl⟩, by decide⟩ rfl rfl (Nat.le_of_ble_eq_true rfl) h (fun _ _ e => zc_X10_amountOf e) (fun M8 v8 _ h => ?_)
    refine zV_b (pc' := 41) (lv' := [(4, .inl (l4 + 1)), (2, .inr (.inl (l2 + v8))), (0, .inr (.inr p0)), (1, .inl p1)]) (st' := []) [(.ladd, 1), (.lstore_n 2, 1), (.iinc 4 1, 3)] (by decide +kernel) rfl ?_
    refine zV_goto (off := (-29)) (tgt := 12) (by decide +kernel) (by decide) ?_
    exact zV_lv (lv' := [(0, .inr (.inr p0)), (1, .inl p1), (2, .inr (.inl (l2 + v8))), (4, .inl (l4 + 1))]) [2, 3, 1, 0] rfl (k1 _ (Option.some.inj h).symm)
set_option maxRecDepth 100000 in
theorem zt_X0_hasOf {X : Zx} {M : Zm} {l0 : Option Nat} {l1 : Int32} {z : Zm × Int64} (h : zf_X0_hasOf M l0 l1 = some z) (hR : zRj X zC_X0_hasOf z.1 z.2) : zV X zC_X0_hasOf M 0 [(0, .inr (.inr l0)), (1, .inl l1)] [] := by
  unfold zf_X0_hasOf at h
  refine zV_b (pc' := 1) (lv' := [(0, .inr (.inr l0)), (1, .inl l1)]) (st' := [.inr (.inr l0)]) [(.aload_n 0, 1)] (by decide +kernel) rfl ?_
  refine zV_gr (by decide +kernel) zfl_RX0_18 (by decide) rfl h (fun v1 _ h => ?_)
  refine zV_b (pc' := 5) (lv' := [(0, .inr (.inr l0)), (1, .inl l1)]) (st' := [.inl l1, .inr (.inr v1)]) [(.iload_n 1, 1)] (by decide +kernel) rfl ?_
  refine zV_cvj (As := [.inl l1]) (st := []) (c := 11) (by decide +kernel) (zcl_X10_amountOf (by decide) (by decide)) ⟨zw_1310, zw_806, zw_807⟩ ⟨⟨_, _, rfl⟩, by decide⟩ rfl rfl (Nat.le_of_ble_eq_true rfl) h (fun _ _ e => zc_X10_amountOf e) (fun M2 v2 _ h => ?_)
  refine zV_b (pc' := 12) (lv' := [(4, .inl (0 : Int32)), (2, .inr (.inl v2)), (0, .inr (.inr l0)), (1, .inl l1)]) (st' := []) [(.lstore_n 2, 1), (.iconst 0, 1), (.istore 4, 2)] (by decide +kernel) rfl ?_
  obtain ⟨y10, e10, h⟩ := zb1_inv h
  refine zV_lv (lv' := [(0, .inr (.inr l0)), (1, .inl l1), (2, .inr (.inl v2)), (4, .inl (0 : Int32))]) [2, 3, 1, 0] rfl (zt_X0_hasOf_L12 e10 ?_)
  obtain ⟨M12_10, l2_10, l4_10⟩ := y10
  show zV X zC_X0_hasOf M12_10 44 [(2, .inr (.inl l2_10))] []
  refine zV_b (pc' := 45) (lv' := [(2, .inr (.inl l2_10))]) (st' := [.inr (.inl l2_10)]) [(.lload_n 2, 1)] (by decide +kernel) rfl ?_
  exact zend_j h hR (by decide +kernel)
theorem zc_X0_hasOf {M M' : Zm} {l0 : Option Nat} {l1 : Int32} {x : Int64} (h : zf_X0_hasOf M l0 l1 = some (M', x)) (l : Launch) (D : va_G) (cy : Nat → ClassId) : zMet l yX0_hasOf zC_X0_hasOf (some .long) D cy [.inr (.inr l0), .inl l1] M M' (some (.inr (.inl x))) :=
  zM_j (by decide) rfl (fun h => by cases h) (Nat.le_of_ble_eq_true rfl) (fun X hR => zt_X0_hasOf h hR)
-- BlendCellar$Barrel.inCask()Z
def zC_X0_inCask : Zc := (cX0_inCask, 1, RX0, 0, 0, false)
theorem zcl_X0_inCask {C : Zc} (h1 : zC_X0_inCask.2.2.2.1 + 1 ≤ C.2.2.2.1) (h2 : 8 + (zC_X0_inCask.2.1 + 11) + zC_X0_inCask.2.2.2.2.1 ≤ C.2.2.2.2.1) : zCl C yX0_inCask zC_X0_inCask (some .boolean) 0 := ⟨zw_783, zw_117, ⟨by decide, by decide⟩, by decide +kernel, h1, h2⟩
noncomputable def zf_X0_inCask (M : Zm) (l0 : Option Nat) : Option (Zm × Int32) :=
  zb1 (zo_gi M l0 1 4) (fun v1 =>
  (if v1 < (10000 : Int32) then
  zb1 (zo_b (0 : Int32)) (fun w => some (M, w))
  else
  zb1 (zo_b (1 : Int32)) (fun w => some (M, w))))
set_option maxRecDepth 100000 in
theorem zt_X0_inCask {X : Zx} {M : Zm} {l0 : Option Nat} {z : Zm × Int32} (h : zf_X0_inCask M l0 = some z) (hR : zRz X zC_X0_inCask z.1 z.2) : zV X zC_X0_inCask M 0 [(0, .inr (.inr l0))] [] := by
  unfold zf_X0_inCask at h
  refine zV_b (pc' := 1) (lv' := [(0, .inr (.inr l0))]) (st' := [.inr (.inr l0)]) [(.aload_n 0, 1)] (by decide +kernel) rfl ?_
  refine zV_gi (by decide +kernel) zfl_RX0_9 (by decide) rfl (Or.inl rfl) h (fun v1 _ h => ?_)
  refine zV_b (pc' := 7) (lv' := [(0, .inr (.inr l0))]) (st' := [.inl (10000 : Int32), .inl v1]) [(.sipush 10000, 3)] (by decide +kernel) rfl ?_
  refine zV_icmp_lt (off := 7) (tgt := 14) (by decide +kernel) (by decide) h (fun c2 h => ?_) (fun c2 h => ?_)
  · refine zV_b (pc' := 15) (lv' := [(0, .inr (.inr l0))]) (st' := [.inl (0 : Int32)]) [(.iconst 0, 1)] (by decide +kernel) rfl ?_
    exact zend_z h hR (by decide +kernel)
  · refine zV_b (pc' := 11) (lv' := [(0, .inr (.inr l0))]) (st' := [.inl (1 : Int32)]) [(.iconst 1, 1)] (by decide +kernel) rfl ?_
    refine zV_goto (off := 4) (tgt := 15) (by decide +kernel) (by decide) ?_
    exact zend_z h hR (by decide +kernel)
theorem zc_X0_inCask {M M' : Zm} {l0 : Option Nat} {x : Int32} (h : zf_X0_inCask M l0 = some (M', x)) (l : Launch) (D : va_G) (cy : Nat → ClassId) : zMet l yX0_inCask zC_X0_inCask (some .boolean) D cy [.inr (.inr l0)] M M' (some (.inl x)) :=
  zM_b (by decide) rfl (fun h => by cases h) (Nat.le_of_ble_eq_true rfl) (fun X hR => zt_X0_inCask h hR)
-- BlendCellar$Barrel.isDear(JLBlendCellar$Trace;)J
def zC_X0_isDear : Zc := (cX0_isDear, 6, RX0, 1, 21, false)
theorem zcl_X0_isDear {C : Zc} (h1 : zC_X0_isDear.2.2.2.1 + 1 ≤ C.2.2.2.1) (h2 : 8 + (zC_X0_isDear.2.1 + 11) + zC_X0_isDear.2.2.2.2.1 ≤ C.2.2.2.2.1) : zCl C yX0_isDear zC_X0_isDear (some .long) 2 := ⟨zw_1217, zw_117, ⟨by decide, by decide⟩, by decide +kernel, h1, h2⟩
theorem zd_X0_isDear_13 : decode cX0_isDear 13 = .ok (.lookupswitch 56 #[(2, 27), (5, 43)], 27) := by decide +kernel
noncomputable def zf_X0_isDear (M : Zm) (l0 : Option Nat) (l1 : Int64) (l3 : Option Nat) : Option (Zm × Int64) :=
  zb1 (zo_gi M l0 1 3) (fun v1 =>
  zb1 (zo_gi M l0 1 1) (fun v2 =>
  (if v2 = 2 then
  zb1 (zo_rc M l3 10) (fun _ => zbd (zf_X9_ran M l3 (14 : Int32)) (fun M6 _ =>
  zb1 (zo_ld ((v1.toInt64) * l1) (10 : Int64)) (fun v8 =>
  some (M6, (((v1.toInt64) * l1) + v8)))))
  else
  (if v2 = 5 then
  zb1 (zo_rc M l3 10) (fun _ => zbd (zf_X9_ran M l3 (15 : Int32)) (fun M10 _ =>
  some (M10, ((2 : Int64) * ((v1.toInt64) * l1)))))
  else
  zb1 (zo_rc M l3 10) (fun _ => zbd (zf_X9_ran M l3 (13 : Int32)) (fun M4 _ =>
  some (M4, ((v1.toInt64) * l1))))))))
set_option maxRecDepth 100000 in
theorem zt_X0_isDear {X : Zx} {M : Zm} {l0 : Option Nat} {l1 : Int64} {l3 : Option Nat} {z : Zm × Int64} (h : zf_X0_isDear M l0 l1 l3 = some z) (hR : zRj X zC_X0_isDear z.1 z.2) : zV X zC_X0_isDear M 0 [(0, .inr (.inr l0)), (1, .inr (.inl l1)), (3, .inr (.inr l3))] [] := by
  unfold zf_X0_isDear at h
  refine zV_b (pc' := 1) (lv' := [(0, .inr (.inr l0)), (1, .inr (.inl l1)), (3, .inr (.inr l3))]) (st' := [.inr (.inr l0)]) [(.aload_n 0, 1)] (by decide +kernel) rfl ?_
  refine zV_gi (by decide +kernel) zfl_RX0_56 (by decide) rfl (Or.inl rfl) h (fun v1 _ h => ?_)
  refine zV_b (pc' := 10) (lv' := [(4, .inr (.inl ((v1.toInt64) * l1))), (0, .inr (.inr l0)), (1, .inr (.inl l1)), (3, .inr (.inr l3))]) (st' := [.inr (.inr l0)]) [(.i2l, 1), (.lload_n 1, 1), (.lmul, 1), (.lstore 4, 2), (.aload_n 0, 1)] (by decide +kernel) rfl ?_
  refine zV_gi (by decide +kernel) zfl_RX0_50 (by decide) rfl (Or.inl rfl) h (fun v2 _ h => ?_)
  by_cases e3_0 : v2 = 2
  · have h := (zite h).1 e3_0
    refine zV_top e3_0 (zV_lsw (tgt := 40) zd_X0_isDear_13 (by decide) rfl (by decide) ?_)
    refine zV_b (pc' := 43) (lv' := [(4, .inr (.inl ((v1.toInt64) * l1))), (0, .inr (.inr l0)), (1, .inr (.inl l1)), (3, .inr (.inr l3))]) (st' := [.inl (14 : Int32), .inr (.inr l3)]) [(.aload_n 3, 1), (.bipush 14, 2)] (by decide +kernel) rfl ?_
    refine zV_cvv (As := [.inl (14 : Int32)]) (st := []) (c := 10) (by decide +kernel) (zcl_X9_ran (by decide) (by decide)) ⟨zw_796, zw_797, zw_798⟩ ⟨⟨_, _, rfl⟩, by decide⟩ rfl rfl (Nat.le_of_ble_eq_true rfl) h (fun _ _ e => zc_X9_ran e) (fun M6 _ _ h => ?_)
    refine zV_b (pc' := 50) (lv' := [(4, .inr (.inl ((v1.toInt64) * l1))), (0, .inr (.inr l0)), (1, .inr (.inl l1)), (3, .inr (.inr l3))]) (st' := [.inr (.inl ((v1.toInt64) * l1)), .inr (.inl ((v1.toInt64) * l1))]) [(.lload 4, 2), (.lload 4, 2)] (by decide +kernel) rfl ?_
    refine zV_ldc2 (by decide +kernel) zw_800 ?_
    refine zV_ld (by decide +kernel) h (fun v8 _ h => ?_)
    refine zV_b (pc' := 55) (lv' := [(4, .inr (.inl ((v1.toInt64) * l1))), (0, .inr (.inr l0)), (1, .inr (.inl l1)), (3, .inr (.inr l3))]) (st' := [.inr (.inl (((v1.toInt64) * l1) + v8))]) [(.ladd, 1)] (by decide +kernel) rfl ?_
    exact zend_j h hR (by decide +kernel)
  · have h := (zite h).2 e3_0
    by_cases e3_1 : v2 = 5
    · have h := (zite h).1 e3_1
      refine zV_top e3_1 (zV_lsw (tgt := 56) zd_X0_isDear_13 (by decide) rfl (by decide) ?_)
      refine zV_b (pc' := 59) (lv' := [(4, .inr (.inl ((v1.toInt64) * l1))), (0, .inr (.inr l0)), (1, .inr (.inl l1)), (3, .inr (.inr l3))]) (st' := [.inl (15 : Int32), .inr (.inr l3)]) [(.aload_n 3, 1), (.bipush 15, 2)] (by decide +kernel) rfl ?_
      refine zV_cvv (As := [.inl (15 : Int32)]) (st := []) (c := 10) (by decide +kernel) (zcl_X9_ran (by decide) (by decide)) ⟨zw_796, zw_797, zw_798⟩ ⟨⟨_, _, rfl⟩, by decide⟩ rfl rfl (Nat.le_of_ble_eq_true rfl) h (fun _ _ e => zc_X9_ran e) (fun M10 _ _ h => ?_)
      refine zV_ldc2 (by decide +kernel) zw_1218 ?_
      refine zV_b (pc' := 68) (lv' := [(4, .inr (.inl ((v1.toInt64) * l1))), (0, .inr (.inr l0)), (1, .inr (.inl l1)), (3, .inr (.inr l3))]) (st' := [.inr (.inl ((2 : Int64) * ((v1.toInt64) * l1)))]) [(.lload 4, 2), (.lmul, 1)] (by decide +kernel) rfl ?_
      exact zend_j h hR (by decide +kernel)
    · have h := (zite h).2 e3_1
      refine zV_lsw (off := 56) (tgt := 69) zd_X0_isDear_13 (by decide) ((lv_osw e3_0 (by decide)).trans ((lv_osw e3_1 (by decide)).trans rfl)) (by decide) ?_
      refine zV_b (pc' := 72) (lv' := [(4, .inr (.inl ((v1.toInt64) * l1))), (0, .inr (.inr l0)), (1, .inr (.inl l1)), (3, .inr (.inr l3))]) (st' := [.inl (13 : Int32), .inr (.inr l3)]) [(.aload_n 3, 1), (.bipush 13, 2)] (by decide +kernel) rfl ?_
      refine zV_cvv (As := [.inl (13 : Int32)]) (st := []) (c := 10) (by decide +kernel) (zcl_X9_ran (by decide) (by decide)) ⟨zw_796, zw_797, zw_798⟩ ⟨⟨_, _, rfl⟩, by decide⟩ rfl rfl (Nat.le_of_ble_eq_true rfl) h (fun _ _ e => zc_X9_ran e) (fun M4 _ _ h => ?_)
      refine zV_b (pc' := 77) (lv' := [(4, .inr (.inl ((v1.toInt64) * l1))), (0, .inr (.inr l0)), (1, .inr (.inl l1)), (3, .inr (.inr l3))]) (st' := [.inr (.inl ((v1.toInt64) * l1))]) [(.lload 4, 2)] (by decide +kernel) rfl ?_
      exact zend_j h hR (by decide +kernel)
theorem zc_X0_isDear {M M' : Zm} {l0 : Option Nat} {l1 : Int64} {l3 : Option Nat} {x : Int64} (h : zf_X0_isDear M l0 l1 l3 = some (M', x)) (l : Launch) (D : va_G) (cy : Nat → ClassId) : zMet l yX0_isDear zC_X0_isDear (some .long) D cy [.inr (.inr l0), .inr (.inl l1), .inr (.inr l3)] M M' (some (.inr (.inl x))) :=
  zM_j (by decide) rfl (fun h => by cases h) (Nat.le_of_ble_eq_true rfl) (fun X hR => zt_X0_isDear h hR)
-- BlendCellar$Barrel.isStray()Z
def zC_X0_isStray : Zc := (cX0_isStray, 1, RX0, 0, 0, false)
theorem zcl_X0_isStray {C : Zc} (h1 : zC_X0_isStray.2.2.2.1 + 1 ≤ C.2.2.2.1) (h2 : 8 + (zC_X0_isStray.2.1 + 11) + zC_X0_isStray.2.2.2.2.1 ≤ C.2.2.2.2.1) : zCl C yX0_isStray zC_X0_isStray (some .boolean) 0 := ⟨zw_1360, zw_117, ⟨by decide, by decide⟩, by decide +kernel, h1, h2⟩
noncomputable def zf_X0_isStray_J19 (M : Zm)  : Option (Zm × Int32) :=
  zb1 (zo_b (1 : Int32)) (fun w => some (M, w))
noncomputable def zf_X0_isStray (M : Zm) (l0 : Option Nat) : Option (Zm × Int32) :=
  zb1 (zo_gi M l0 1 12) (fun v1 =>
  (if (1 : Int32) < v1 then
  zf_X0_isStray_J19 M
  else
  zb1 (zo_gi M l0 1 13) (fun v5 =>
  zb1 (zo_gi M l0 1 4) (fun v6 =>
  (if v5 = v6 then
  zb1 (zo_b (0 : Int32)) (fun w => some (M, w))
  else
  zf_X0_isStray_J19 M)))))
set_option maxRecDepth 100000 in
theorem zt_X0_isStray_J19 {X : Zx} {M : Zm}  {z : Zm × Int32} (h : zf_X0_isStray_J19 M  = some z) (hR : zRz X zC_X0_isStray z.1 z.2) : zV X zC_X0_isStray M 19 [] [] := by
  unfold zf_X0_isStray_J19 at h
  refine zV_b (pc' := 20) (lv' := []) (st' := [.inl (1 : Int32)]) [(.iconst 1, 1)] (by decide +kernel) rfl ?_
  refine zV_goto (off := 4) (tgt := 24) (by decide +kernel) (by decide) ?_
  exact zend_z h hR (by decide +kernel)
set_option maxRecDepth 100000 in
theorem zt_X0_isStray {X : Zx} {M : Zm} {l0 : Option Nat} {z : Zm × Int32} (h : zf_X0_isStray M l0 = some z) (hR : zRz X zC_X0_isStray z.1 z.2) : zV X zC_X0_isStray M 0 [(0, .inr (.inr l0))] [] := by
  unfold zf_X0_isStray at h
  refine zV_b (pc' := 1) (lv' := [(0, .inr (.inr l0))]) (st' := [.inr (.inr l0)]) [(.aload_n 0, 1)] (by decide +kernel) rfl ?_
  refine zV_gi (by decide +kernel) zfl_RX0_41 (by decide) rfl (Or.inl rfl) h (fun v1 _ h => ?_)
  refine zV_b (pc' := 5) (lv' := [(0, .inr (.inr l0))]) (st' := [.inl (1 : Int32), .inl v1]) [(.iconst 1, 1)] (by decide +kernel) rfl ?_
  refine zV_icmp_gt (off := 14) (tgt := 19) (by decide +kernel) (by decide) h (fun c2 h => ?_) (fun c2 h => ?_)
  · exact zV_lv (lv' := []) [] rfl (zt_X0_isStray_J19 h hR)
  · refine zV_b (pc' := 9) (lv' := [(0, .inr (.inr l0))]) (st' := [.inr (.inr l0)]) [(.aload_n 0, 1)] (by decide +kernel) rfl ?_
    refine zV_gi (by decide +kernel) zfl_RX0_44 (by decide) rfl (Or.inl rfl) h (fun v5 _ h => ?_)
    refine zV_b (pc' := 13) (lv' := [(0, .inr (.inr l0))]) (st' := [.inr (.inr l0), .inl v5]) [(.aload_n 0, 1)] (by decide +kernel) rfl ?_
    refine zV_gi (by decide +kernel) zfl_RX0_9 (by decide) rfl (Or.inl rfl) h (fun v6 _ h => ?_)
    refine zV_icmp_eq (off := 7) (tgt := 23) (by decide +kernel) (by decide) h (fun c7 h => ?_) (fun c7 h => ?_)
    · refine zV_b (pc' := 24) (lv' := [(0, .inr (.inr l0))]) (st' := [.inl (0 : Int32)]) [(.iconst 0, 1)] (by decide +kernel) rfl ?_
      exact zend_z h hR (by decide +kernel)
    · exact zV_lv (lv' := []) [] rfl (zt_X0_isStray_J19 h hR)
theorem zc_X0_isStray {M M' : Zm} {l0 : Option Nat} {x : Int32} (h : zf_X0_isStray M l0 = some (M', x)) (l : Launch) (D : va_G) (cy : Nat → ClassId) : zMet l yX0_isStray zC_X0_isStray (some .boolean) D cy [.inr (.inr l0)] M M' (some (.inl x)) :=
  zM_b (by decide) rfl (fun h => by cases h) (Nat.le_of_ble_eq_true rfl) (fun X hR => zt_X0_isStray h hR)
-- BlendCellar$Barrel.keep()V
def zC_X0_keep : Zc := (cX0_keep, 1, RX0, 2, 47, false)
theorem zcl_X0_keep {C : Zc} (h1 : zC_X0_keep.2.2.2.1 + 1 ≤ C.2.2.2.1) (h2 : 8 + (zC_X0_keep.2.1 + 11) + zC_X0_keep.2.2.2.2.1 ≤ C.2.2.2.2.1) : zCl C yX0_keep zC_X0_keep none 0 := ⟨zw_703, zw_117, ⟨by decide, by decide⟩, by decide +kernel, h1, h2⟩
noncomputable def zf_X0_keep (M : Zm) (l0 : Option Nat) : Option (Zm × Unit) :=
  zb1 (zo_gi M l0 1 3) (fun v1 =>
  zb1 (zo_pi M l0 1 8 v1) (fun M2 =>
  zb1 (zo_gi M2 l0 1 4) (fun v3 =>
  zb1 (zo_pi M2 l0 1 9 v3) (fun M4 =>
  zb1 (zo_gi M4 l0 1 7) (fun v5 =>
  zb1 (zo_pi M4 l0 1 10 v5) (fun M6 =>
  zb1 (zo_gr M6 l0 1 11) (fun v7 =>
  zb1 (zo_gr M6 l0 1 5) (fun v8 =>
  zb1 (zo_rc M6 v7 11) (fun _ => zbd (zf_X10_copyFrom M6 v7 v8) (fun M9 _ =>
  some (M9, ())))))))))))
set_option maxRecDepth 100000 in
theorem zt_X0_keep {X : Zx} {M : Zm} {l0 : Option Nat} {z : Zm × Unit} (h : zf_X0_keep M l0 = some z) (hR : zRv X zC_X0_keep z.1) : zV X zC_X0_keep M 0 [(0, .inr (.inr l0))] [] := by
  unfold zf_X0_keep at h
  refine zV_b (pc' := 2) (lv' := [(0, .inr (.inr l0))]) (st' := [.inr (.inr l0), .inr (.inr l0)]) [(.aload_n 0, 1), (.aload_n 0, 1)] (by decide +kernel) rfl ?_
  refine zV_gi (by decide +kernel) zfl_RX0_56 (by decide) rfl (Or.inl rfl) h (fun v1 _ h => ?_)
  refine zV_pi (by decide +kernel) zfp_RX0_29 (by decide) rfl h (fun M2 _ h => ?_)
  refine zV_b (pc' := 10) (lv' := [(0, .inr (.inr l0))]) (st' := [.inr (.inr l0), .inr (.inr l0)]) [(.aload_n 0, 1), (.aload_n 0, 1)] (by decide +kernel) rfl ?_
  refine zV_gi (by decide +kernel) zfl_RX0_9 (by decide) rfl (Or.inl rfl) h (fun v3 _ h => ?_)
  refine zV_pi (by decide +kernel) zfp_RX0_32 (by decide) rfl h (fun M4 _ h => ?_)
  refine zV_b (pc' := 18) (lv' := [(0, .inr (.inr l0))]) (st' := [.inr (.inr l0), .inr (.inr l0)]) [(.aload_n 0, 1), (.aload_n 0, 1)] (by decide +kernel) rfl ?_
  refine zV_gi (by decide +kernel) zfl_RX0_26 (by decide) rfl (Or.inl rfl) h (fun v5 _ h => ?_)
  refine zV_pi (by decide +kernel) zfp_RX0_35 (by decide) rfl h (fun M6 _ h => ?_)
  refine zV_b (pc' := 25) (lv' := [(0, .inr (.inr l0))]) (st' := [.inr (.inr l0)]) [(.aload_n 0, 1)] (by decide +kernel) rfl ?_
  refine zV_gr (by decide +kernel) zfl_RX0_38 (by decide) rfl h (fun v7 _ h => ?_)
  refine zV_b (pc' := 29) (lv' := [(0, .inr (.inr l0))]) (st' := [.inr (.inr l0), .inr (.inr v7)]) [(.aload_n 0, 1)] (by decide +kernel) rfl ?_
  refine zV_gr (by decide +kernel) zfl_RX0_18 (by decide) rfl h (fun v8 _ h => ?_)
  refine zV_cvv (As := [.inr (.inr v8)]) (st := []) (c := 11) (by decide +kernel) (zcl_X10_copyFrom (by decide) (by decide)) ⟨zw_704, zw_705, zw_706⟩ ⟨⟨_, _, rfl⟩, by decide⟩ rfl rfl (Nat.le_of_ble_eq_true rfl) h (fun _ _ e => zc_X10_copyFrom e) (fun M9 _ _ h => ?_)
  exact zend_v h hR (by decide +kernel)
theorem zc_X0_keep {M M' : Zm} {l0 : Option Nat} {x : Unit} (h : zf_X0_keep M l0 = some (M', x)) (l : Launch) (D : va_G) (cy : Nat → ClassId) : zMet l yX0_keep zC_X0_keep none D cy [.inr (.inr l0)] M M' none :=
  zM_v (by decide) rfl (fun h => by cases h) (Nat.le_of_ble_eq_true rfl) (fun X hR => zt_X0_keep h hR)
-- BlendCellar$Barrel.loseSight()V
def zC_X0_loseSight : Zc := (cX0_loseSight, 1, RX0, 0, 0, false)
theorem zcl_X0_loseSight {C : Zc} (h1 : zC_X0_loseSight.2.2.2.1 + 1 ≤ C.2.2.2.1) (h2 : 8 + (zC_X0_loseSight.2.1 + 11) + zC_X0_loseSight.2.2.2.2.1 ≤ C.2.2.2.2.1) : zCl C yX0_loseSight zC_X0_loseSight none 0 := ⟨zw_1343, zw_117, ⟨by decide, by decide⟩, by decide +kernel, h1, h2⟩
noncomputable def zf_X0_loseSight (M : Zm) (l0 : Option Nat) : Option (Zm × Unit) :=
  zb1 (zo_pi M l0 1 12 (0 : Int32)) (fun M1 =>
  zb1 (zo_pi M1 l0 1 13 (0 : Int32)) (fun M2 =>
  some (M2, ())))
set_option maxRecDepth 100000 in
theorem zt_X0_loseSight {X : Zx} {M : Zm} {l0 : Option Nat} {z : Zm × Unit} (h : zf_X0_loseSight M l0 = some z) (hR : zRv X zC_X0_loseSight z.1) : zV X zC_X0_loseSight M 0 [(0, .inr (.inr l0))] [] := by
  unfold zf_X0_loseSight at h
  refine zV_b (pc' := 2) (lv' := [(0, .inr (.inr l0))]) (st' := [.inl (0 : Int32), .inr (.inr l0)]) [(.aload_n 0, 1), (.iconst 0, 1)] (by decide +kernel) rfl ?_
  refine zV_pi (by decide +kernel) zfp_RX0_41 (by decide) rfl h (fun M1 _ h => ?_)
  refine zV_b (pc' := 7) (lv' := [(0, .inr (.inr l0))]) (st' := [.inl (0 : Int32), .inr (.inr l0)]) [(.aload_n 0, 1), (.iconst 0, 1)] (by decide +kernel) rfl ?_
  refine zV_pi (by decide +kernel) zfp_RX0_44 (by decide) rfl h (fun M2 _ h => ?_)
  exact zend_v h hR (by decide +kernel)
theorem zc_X0_loseSight {M M' : Zm} {l0 : Option Nat} {x : Unit} (h : zf_X0_loseSight M l0 = some (M', x)) (l : Launch) (D : va_G) (cy : Nat → ClassId) : zMet l yX0_loseSight zC_X0_loseSight none D cy [.inr (.inr l0)] M M' none :=
  zM_v (by decide) rfl (fun h => by cases h) (Nat.le_of_ble_eq_true rfl) (fun X hR => zt_X0_loseSight h hR)
-- BlendCellar$Barrel.oakSpares(LBlendCellar$Trace;)J
def zC_X0_oakSpares : Zc := (cX0_oakSpares, 2, RX0, 1, 23, false)
theorem zcl_X0_oakSpares {C : Zc} (h1 : zC_X0_oakSpares.2.2.2.1 + 1 ≤ C.2.2.2.1) (h2 : 8 + (zC_X0_oakSpares.2.1 + 11) + zC_X0_oakSpares.2.2.2.2.1 ≤ C.2.2.2.2.1) : zCl C yX0_oakSpares zC_X0_oakSpares (some .long) 1 := ⟨zw_872, zw_117, ⟨by decide, by decide⟩, by decide +kernel, h1, h2⟩
noncomputable def zf_X0_oakSpares (M : Zm) (l0 : Option Nat) (l1 : Option Nat) : Option (Zm × Int64) :=
  zb1 (zo_rc M l1 10) (fun _ => zbd (zf_X9_ran M l1 (5 : Int32)) (fun M1 _ =>
  zb1 (zo_gr M1 l0 1 5) (fun v2 =>
  zb1 (zo_gj M1 v2 11 3) (fun v3 =>
  zb1 (zo_gi M1 l0 1 2) (fun v4 =>
  zb1 (zo_id v4 (1000 : Int32)) (fun v5 =>
  some (M1, (zmaxl (v3 - (v5.toInt64)) (0 : Int64)))))))))
set_option maxRecDepth 100000 in
theorem zt_X0_oakSpares {X : Zx} {M : Zm} {l0 : Option Nat} {l1 : Option Nat} {z : Zm × Int64} (h : zf_X0_oakSpares M l0 l1 = some z) (hR : zRj X zC_X0_oakSpares z.1 z.2) : zV X zC_X0_oakSpares M 0 [(0, .inr (.inr l0)), (1, .inr (.inr l1))] [] := by
  unfold zf_X0_oakSpares at h
  refine zV_b (pc' := 2) (lv' := [(0, .inr (.inr l0)), (1, .inr (.inr l1))]) (st' := [.inl (5 : Int32), .inr (.inr l1)]) [(.aload_n 1, 1), (.iconst 5, 1)] (by decide +kernel) rfl ?_
  refine zV_cvv (As := [.inl (5 : Int32)]) (st := []) (c := 10) (by decide +kernel) (zcl_X9_ran (by decide) (by decide)) ⟨zw_796, zw_797, zw_798⟩ ⟨⟨_, _, rfl⟩, by decide⟩ rfl rfl (Nat.le_of_ble_eq_true rfl) h (fun _ _ e => zc_X9_ran e) (fun M1 _ _ h => ?_)
  refine zV_b (pc' := 6) (lv' := [(0, .inr (.inr l0)), (1, .inr (.inr l1))]) (st' := [.inr (.inr l0)]) [(.aload_n 0, 1)] (by decide +kernel) rfl ?_
  refine zV_gr (by decide +kernel) zfl_RX0_18 (by decide) rfl h (fun v2 _ h => ?_)
  refine zV_gj (by decide +kernel) zfl_RX0_59 (by decide) rfl h (fun v3 _ h => ?_)
  refine zV_b (pc' := 13) (lv' := [(0, .inr (.inr l0)), (1, .inr (.inr l1))]) (st' := [.inr (.inr l0), .inr (.inl v3)]) [(.aload_n 0, 1)] (by decide +kernel) rfl ?_
  refine zV_gi (by decide +kernel) zfl_RX0_53 (by decide) rfl (Or.inl rfl) h (fun v4 _ h => ?_)
  refine zV_b (pc' := 19) (lv' := [(0, .inr (.inr l0)), (1, .inr (.inr l1))]) (st' := [.inl (1000 : Int32), .inl v4, .inr (.inl v3)]) [(.sipush 1000, 3)] (by decide +kernel) rfl ?_
  refine zV_id (by decide +kernel) h (fun v5 _ h => ?_)
  refine zV_b (pc' := 23) (lv' := [(0, .inr (.inr l0)), (1, .inr (.inr l1))]) (st' := [.inr (.inl (0 : Int64)), .inr (.inl (v3 - (v5.toInt64)))]) [(.i2l, 1), (.lsub, 1), (.lconst 0, 1)] (by decide +kernel) rfl ?_
  refine zV_maxl (st := []) (by decide +kernel) zw_801 (by decide) (Nat.le_of_ble_eq_true rfl) ?_
  exact zend_j h hR (by decide +kernel)
theorem zc_X0_oakSpares {M M' : Zm} {l0 : Option Nat} {l1 : Option Nat} {x : Int64} (h : zf_X0_oakSpares M l0 l1 = some (M', x)) (l : Launch) (D : va_G) (cy : Nat → ClassId) : zMet l yX0_oakSpares zC_X0_oakSpares (some .long) D cy [.inr (.inr l0), .inr (.inr l1)] M M' (some (.inr (.inl x))) :=
  zM_j (by decide) rfl (fun h => by cases h) (Nat.le_of_ble_eq_true rfl) (fun X hR => zt_X0_oakSpares h hR)
-- BlendCellar$Barrel.vesselSpares(LBlendCellar$Trace;)J
def zC_X0_vesselSpares : Zc := (cX0_vesselSpares, 2, RX0, 2, 44, false)
theorem zcl_X0_vesselSpares {C : Zc} (h1 : zC_X0_vesselSpares.2.2.2.1 + 1 ≤ C.2.2.2.1) (h2 : 8 + (zC_X0_vesselSpares.2.1 + 11) + zC_X0_vesselSpares.2.2.2.2.1 ≤ C.2.2.2.2.1) : zCl C yX0_vesselSpares zC_X0_vesselSpares (some .long) 1 := ⟨zw_868, zw_117, ⟨by decide, by decide⟩, by decide +kernel, h1, h2⟩
theorem zd_X0_vesselSpares_4 : decode cX0_vesselSpares 4 = .ok (.lookupswitch 60 #[(1, 28), (2, 34)], 28) := by decide +kernel
noncomputable def zf_X0_vesselSpares (M : Zm) (l0 : Option Nat) (l1 : Option Nat) : Option (Zm × Int64) :=
  zb1 (zo_gi M l0 1 1) (fun v1 =>
  (if v1 = 1 then
  zb1 (zo_rc M l0 1) (fun _ => zbd (zf_X0_oakSpares M l0 l1) (fun M7 v7 =>
  some (M7, v7)))
  else
  (if v1 = 2 then
  zb1 (zo_rc M l1 10) (fun _ => zbd (zf_X9_ran M l1 (6 : Int32)) (fun M9 _ =>
  zb1 (zo_rc M9 l0 1) (fun _ => zbd (zf_X0_oakSpares M9 l0 l1) (fun M10 v10 =>
  zb1 (zo_gi M10 l0 1 2) (fun v11 =>
  zb1 (zo_id v11 (2000 : Int32)) (fun v12 =>
  some (M10, (zmaxl (v10 - (v12.toInt64)) (0 : Int64)))))))))
  else
  zb1 (zo_rc M l1 10) (fun _ => zbd (zf_X9_ran M l1 (7 : Int32)) (fun M3 _ =>
  zb1 (zo_gr M3 l0 1 5) (fun v4 =>
  zb1 (zo_gj M3 v4 11 3) (fun v5 =>
  some (M3, v5))))))))
set_option maxRecDepth 100000 in
theorem zt_X0_vesselSpares {X : Zx} {M : Zm} {l0 : Option Nat} {l1 : Option Nat} {z : Zm × Int64} (h : zf_X0_vesselSpares M l0 l1 = some z) (hR : zRj X zC_X0_vesselSpares z.1 z.2) : zV X zC_X0_vesselSpares M 0 [(0, .inr (.inr l0)), (1, .inr (.inr l1))] [] := by
  unfold zf_X0_vesselSpares at h
  refine zV_b (pc' := 1) (lv' := [(0, .inr (.inr l0)), (1, .inr (.inr l1))]) (st' := [.inr (.inr l0)]) [(.aload_n 0, 1)] (by decide +kernel) rfl ?_
  refine zV_gi (by decide +kernel) zfl_RX0_50 (by decide) rfl (Or.inl rfl) h (fun v1 _ h => ?_)
  by_cases e2_0 : v1 = 1
  · have h := (zite h).1 e2_0
    refine zV_top e2_0 (zV_lsw (tgt := 32) zd_X0_vesselSpares_4 (by decide) rfl (by decide) ?_)
    refine zV_b (pc' := 34) (lv' := [(0, .inr (.inr l0)), (1, .inr (.inr l1))]) (st' := [.inr (.inr l1), .inr (.inr l0)]) [(.aload_n 0, 1), (.aload_n 1, 1)] (by decide +kernel) rfl ?_
    refine zV_cvj (As := [.inr (.inr l1)]) (st := []) (c := 1) (by decide +kernel) (zcl_X0_oakSpares (by decide) (by decide)) ⟨zw_869, zw_871, zw_27⟩ ⟨⟨_, _, rfl⟩, by decide⟩ rfl rfl (Nat.le_of_ble_eq_true rfl) h (fun _ _ e => zc_X0_oakSpares e) (fun M7 v7 _ h => ?_)
    exact zend_j h hR (by decide +kernel)
  · have h := (zite h).2 e2_0
    by_cases e2_1 : v1 = 2
    · have h := (zite h).1 e2_1
      refine zV_top e2_1 (zV_lsw (tgt := 38) zd_X0_vesselSpares_4 (by decide) rfl (by decide) ?_)
      refine zV_b (pc' := 41) (lv' := [(0, .inr (.inr l0)), (1, .inr (.inr l1))]) (st' := [.inl (6 : Int32), .inr (.inr l1)]) [(.aload_n 1, 1), (.bipush 6, 2)] (by decide +kernel) rfl ?_
      refine zV_cvv (As := [.inl (6 : Int32)]) (st := []) (c := 10) (by decide +kernel) (zcl_X9_ran (by decide) (by decide)) ⟨zw_796, zw_797, zw_798⟩ ⟨⟨_, _, rfl⟩, by decide⟩ rfl rfl (Nat.le_of_ble_eq_true rfl) h (fun _ _ e => zc_X9_ran e) (fun M9 _ _ h => ?_)
      refine zV_b (pc' := 46) (lv' := [(0, .inr (.inr l0)), (1, .inr (.inr l1))]) (st' := [.inr (.inr l1), .inr (.inr l0)]) [(.aload_n 0, 1), (.aload_n 1, 1)] (by decide +kernel) rfl ?_
      refine zV_cvj (As := [.inr (.inr l1)]) (st := []) (c := 1) (by decide +kernel) (zcl_X0_oakSpares (by decide) (by decide)) ⟨zw_869, zw_871, zw_27⟩ ⟨⟨_, _, rfl⟩, by decide⟩ rfl rfl (Nat.le_of_ble_eq_true rfl) h (fun _ _ e => zc_X0_oakSpares e) (fun M10 v10 _ h => ?_)
      refine zV_b (pc' := 50) (lv' := [(0, .inr (.inr l0)), (1, .inr (.inr l1))]) (st' := [.inr (.inr l0), .inr (.inl v10)]) [(.aload_n 0, 1)] (by decide +kernel) rfl ?_
      refine zV_gi (by decide +kernel) zfl_RX0_53 (by decide) rfl (Or.inl rfl) h (fun v11 _ h => ?_)
      refine zV_b (pc' := 56) (lv' := [(0, .inr (.inr l0)), (1, .inr (.inr l1))]) (st' := [.inl (2000 : Int32), .inl v11, .inr (.inl v10)]) [(.sipush 2000, 3)] (by decide +kernel) rfl ?_
      refine zV_id (by decide +kernel) h (fun v12 _ h => ?_)
      refine zV_b (pc' := 60) (lv' := [(0, .inr (.inr l0)), (1, .inr (.inr l1))]) (st' := [.inr (.inl (0 : Int64)), .inr (.inl (v10 - (v12.toInt64)))]) [(.i2l, 1), (.lsub, 1), (.lconst 0, 1)] (by decide +kernel) rfl ?_
      refine zV_maxl (st := []) (by decide +kernel) zw_801 (by decide) (Nat.le_of_ble_eq_true rfl) ?_
      exact zend_j h hR (by decide +kernel)
    · have h := (zite h).2 e2_1
      refine zV_lsw (off := 60) (tgt := 64) zd_X0_vesselSpares_4 (by decide) ((lv_osw e2_0 (by decide)).trans ((lv_osw e2_1 (by decide)).trans rfl)) (by decide) ?_
      refine zV_b (pc' := 67) (lv' := [(0, .inr (.inr l0)), (1, .inr (.inr l1))]) (st' := [.inl (7 : Int32), .inr (.inr l1)]) [(.aload_n 1, 1), (.bipush 7, 2)] (by decide +kernel) rfl ?_
      refine zV_cvv (As := [.inl (7 : Int32)]) (st := []) (c := 10) (by decide +kernel) (zcl_X9_ran (by decide) (by decide)) ⟨zw_796, zw_797, zw_798⟩ ⟨⟨_, _, rfl⟩, by decide⟩ rfl rfl (Nat.le_of_ble_eq_true rfl) h (fun _ _ e => zc_X9_ran e) (fun M3 _ _ h => ?_)
      refine zV_b (pc' := 71) (lv' := [(0, .inr (.inr l0)), (1, .inr (.inr l1))]) (st' := [.inr (.inr l0)]) [(.aload_n 0, 1)] (by decide +kernel) rfl ?_
      refine zV_gr (by decide +kernel) zfl_RX0_18 (by decide) rfl h (fun v4 _ h => ?_)
      refine zV_gj (by decide +kernel) zfl_RX0_59 (by decide) rfl h (fun v5 _ h => ?_)
      exact zend_j h hR (by decide +kernel)
theorem zc_X0_vesselSpares {M M' : Zm} {l0 : Option Nat} {l1 : Option Nat} {x : Int64} (h : zf_X0_vesselSpares M l0 l1 = some (M', x)) (l : Launch) (D : va_G) (cy : Nat → ClassId) : zMet l yX0_vesselSpares zC_X0_vesselSpares (some .long) D cy [.inr (.inr l0), .inr (.inr l1)] M M' (some (.inr (.inl x))) :=
  zM_j (by decide) rfl (fun h => by cases h) (Nat.le_of_ble_eq_true rfl) (fun X hR => zt_X0_vesselSpares h hR)
-- BlendCellar$Barrel.maySpare(LBlendCellar$Trace;)J
def zC_X0_maySpare : Zc := (cX0_maySpare, 5, RX0, 3, 65, false)
theorem zcl_X0_maySpare {C : Zc} (h1 : zC_X0_maySpare.2.2.2.1 + 1 ≤ C.2.2.2.1) (h2 : 8 + (zC_X0_maySpare.2.1 + 11) + zC_X0_maySpare.2.2.2.2.1 ≤ C.2.2.2.2.1) : zCl C yX0_maySpare zC_X0_maySpare (some .long) 1 := ⟨zw_864, zw_117, ⟨by decide, by decide⟩, by decide +kernel, h1, h2⟩
noncomputable def zf_X0_maySpare_L25 (p0 : Option Nat) (p1 : Option Nat) (x : Zm × Int64 × Int32) : Option ((Zm × Int64 × Int32) ⊕ (Zm × Int64 × Int32)) := match x with
  | (M, l2, l4) =>
  zb1 (zo_gi M p0 1 7) (fun v4 =>
  (if v4 ≤ l4 then
  some (.inr (M, l2, l4))
  else
  zb1 (zo_gr M p0 1 6) (fun v6 =>
  zb1 (zo_ar M 16 v6 l4) (fun v7 =>
  zb1 (zo_rc M v7 1) (fun _ => zbd (zf_X0_vesselSpares M v7 p1) (fun M8 v8 =>
  some (.inl (M8, (l2 + v8), (l4 + 1)))))))))
def zP_X0_maySpare_L25 (X : Zx) (p0 : Option Nat) (p1 : Option Nat) (x : Zm × Int64 × Int32) : Prop := match x with
  | (M, l2, l4) => zV X zC_X0_maySpare M 25 [(0, .inr (.inr p0)), (1, .inr (.inr p1)), (2, .inr (.inl l2)), (4, .inl l4)] []
def zK_X0_maySpare_L25 (X : Zx) (p0 : Option Nat) (p1 : Option Nat) (y : Zm × Int64 × Int32) : Prop := match y with
  | (M, l2, l4) => zV X zC_X0_maySpare M 54 [(2, .inr (.inl l2))] []
noncomputable def zf_X0_maySpare (M : Zm) (l0 : Option Nat) (l1 : Option Nat) : Option (Zm × Int64) :=
  zb1 (zo_gi M l0 1 1) (fun v1 =>
  (if v1 = (5 : Int32) then
  zb1 (zo_rc M l1 10) (fun _ => zbd (zf_X9_ran M l1 (8 : Int32)) (fun M3 _ =>
  zb1 (zwhile (zf_X0_maySpare_L25 l0 l1) (M3, (0 : Int64), (0 : Int32))) (fun y10 => match y10 with
  | (M25_10, l2_10, l4_10) =>
  some (M25_10, l2_10))))
  else
  zb1 (zo_rc M l0 1) (fun _ => zbd (zf_X0_vesselSpares M l0 l1) (fun M12 v12 =>
  some (M12, v12)))))
set_option maxRecDepth 100000 in
theorem zt_X0_maySpare_L25 {X : Zx} {p0 : Option Nat} {p1 : Option Nat} {x : Zm × Int64 × Int32} {y : Zm × Int64 × Int32} (h : zwhile (zf_X0_maySpare_L25 p0 p1) x = some y) (hy : zK_X0_maySpare_L25 X p0 p1 y) : zP_X0_maySpare_L25 X p0 p1 x := by
  refine zwhile_ind (P := zP_X0_maySpare_L25 X p0 p1) (K := zK_X0_maySpare_L25 X p0 p1) ?_ h hy
  intro x z hf k1 k2
  obtain ⟨M, l2, l4⟩ := x
  have h : zf_X0_maySpare_L25 p0 p1 (M, l2, l4) = some z := hf
  unfold zf_X0_maySpare_L25 at h
  show zV X zC_X0_maySpare M 25 [(0, .inr (.inr p0)), (1, .inr (.inr p1)), (2, .inr (.inl l2)), (4, .inl l4)] []
  refine zV_b (pc' := 28) (lv' := [(0, .inr (.inr p0)), (1, .inr (.inr p1)), (2, .inr (.inl l2)), (4, .inl l4)]) (st' := [.inr (.inr p0), .inl l4]) [(.iload 4, 2), (.aload_n 0, 1)] (by decide +kernel) rfl ?_
  refine zV_gi (by decide +kernel) zfl_RX0_26 (by decide) rfl (Or.inl rfl) h (fun v4 _ h => ?_)
  refine zV_icmp_ge (off := 23) (tgt := 54) (by decide +kernel) (by decide) h (fun c5 h => ?_) (fun c5 h => ?_)
  · exact zV_lv (lv' := [(2, .inr (.inl l2))]) [2] rfl (k2 _ (Option.some.inj h).symm)
  · refine zV_b (pc' := 36) (lv' := [(0, .inr (.inr p0)), (1, .inr (.inr p1)), (2, .inr (.inl l2)), (4, .inl l4)]) (st' := [.inr (.inr p0), .inr (.inl l2)]) [(.lload_n 2, 1), (.aload_n 0, 1)] (by decide +kernel) rfl ?_
    refine zV_gr (by decide +kernel) zfl_RX0_22 (by decide) rfl h (fun v6 _ h => ?_)
    refine zV_b (pc' := 41) (lv' := [(0, .inr (.inr p0)), (1, .inr (.inr p1)), (2, .inr (.inl l2)), (4, .inl l4)]) (st' := [.inl l4, .inr (.inr v6), .inr (.inl l2)]) [(.iload 4, 2)] (by decide +kernel) rfl ?_
    refine zV_ar (by decide +kernel) (by decide) (by decide) h (fun v7 _ h => ?_)
    refine zV_b (pc' := 43) (lv' := [(0, .inr (.inr p0)), (1, .inr (.inr p1)), (2, .inr (.inl l2)), (4, .inl l4)]) (st' := [.inr (.inr p1), .inr (.inr v7), .inr (.inl l2)]) [(.aload_n 1, 1)] (by decide +kernel) rfl ?_
    refine zV_cvj (As := [.inr (.inr p1)]) (st := [.inr (.inl l2)]) (c := 1) (by decide +kernel) (zcl_X0_vesselSpares (by decide) (by decide)) ⟨zw_865, zw_867, zw_26⟩ ⟨⟨_, _, rfl⟩, by decide⟩ rfl rfl (Nat.le_of_ble_eq_true rfl) h (fun _ _ e => zc_X0_vesselSpares e) (fun M8 v8 _ h => ?_)
    refine zV_b (pc' := 51) (lv' := [(4, .inl (l4 + 1)), (2, .inr (.inl (l2 + v8))), (0, .inr (.inr p0)), (1, .inr (.inr p1))]) (st' := []) [(.ladd, 1), (.lstore_n 2, 1), (.iinc 4 1, 3)] (by decide +kernel) rfl ?_
    refine zV_goto (off := (-26)) (tgt := 25) (by decide +kernel) (by decide) ?_
    exact zV_lv (lv' := [(0, .inr (.inr p0)), (1, .inr (.inr p1)), (2, .inr (.inl (l2 + v8))), (4, .inl (l4 + 1))]) [2, 3, 1, 0] rfl (k1 _ (Option.some.inj h).symm)
set_option maxRecDepth 100000 in
theorem zt_X0_maySpare {X : Zx} {M : Zm} {l0 : Option Nat} {l1 : Option Nat} {z : Zm × Int64} (h : zf_X0_maySpare M l0 l1 = some z) (hR : zRj X zC_X0_maySpare z.1 z.2) : zV X zC_X0_maySpare M 0 [(0, .inr (.inr l0)), (1, .inr (.inr l1))] [] := by
  unfold zf_X0_maySpare at h
  refine zV_b (pc' := 1) (lv' := [(0, .inr (.inr l0)), (1, .inr (.inr l1))]) (st' := [.inr (.inr l0)]) [(.aload_n 0, 1)] (by decide +kernel) rfl ?_
  refine zV_gi (by decide +kernel) zfl_RX0_50 (by decide) rfl (Or.inl rfl) h (fun v1 _ h => ?_)
  refine zV_b (pc' := 5) (lv' := [(0, .inr (.inr l0)), (1, .inr (.inr l1))]) (st' := [.inl (5 : Int32), .inl v1]) [(.iconst 5, 1)] (by decide +kernel) rfl ?_
  refine zV_icmp_eq (off := 9) (tgt := 14) (by decide +kernel) (by decide) h (fun c2 h => ?_) (fun c2 h => ?_)
  · refine zV_b (pc' := 17) (lv' := [(0, .inr (.inr l0)), (1, .inr (.inr l1))]) (st' := [.inl (8 : Int32), .inr (.inr l1)]) [(.aload_n 1, 1), (.bipush 8, 2)] (by decide +kernel) rfl ?_
    refine zV_cvv (As := [.inl (8 : Int32)]) (st := []) (c := 10) (by decide +kernel) (zcl_X9_ran (by decide) (by decide)) ⟨zw_796, zw_797, zw_798⟩ ⟨⟨_, _, rfl⟩, by decide⟩ rfl rfl (Nat.le_of_ble_eq_true rfl) h (fun _ _ e => zc_X9_ran e) (fun M3 _ _ h => ?_)
    refine zV_b (pc' := 25) (lv' := [(4, .inl (0 : Int32)), (2, .inr (.inl (0 : Int64))), (0, .inr (.inr l0)), (1, .inr (.inr l1))]) (st' := []) [(.lconst 0, 1), (.lstore_n 2, 1), (.iconst 0, 1), (.istore 4, 2)] (by decide +kernel) rfl ?_
    obtain ⟨y10, e10, h⟩ := zb1_inv h
    refine zV_lv (lv' := [(0, .inr (.inr l0)), (1, .inr (.inr l1)), (2, .inr (.inl (0 : Int64))), (4, .inl (0 : Int32))]) [2, 3, 1, 0] rfl (zt_X0_maySpare_L25 e10 ?_)
    obtain ⟨M25_10, l2_10, l4_10⟩ := y10
    show zV X zC_X0_maySpare M25_10 54 [(2, .inr (.inl l2_10))] []
    refine zV_b (pc' := 55) (lv' := [(2, .inr (.inl l2_10))]) (st' := [.inr (.inl l2_10)]) [(.lload_n 2, 1)] (by decide +kernel) rfl ?_
    exact zend_j h hR (by decide +kernel)
  · refine zV_b (pc' := 10) (lv' := [(0, .inr (.inr l0)), (1, .inr (.inr l1))]) (st' := [.inr (.inr l1), .inr (.inr l0)]) [(.aload_n 0, 1), (.aload_n 1, 1)] (by decide +kernel) rfl ?_
    refine zV_cvj (As := [.inr (.inr l1)]) (st := []) (c := 1) (by decide +kernel) (zcl_X0_vesselSpares (by decide) (by decide)) ⟨zw_865, zw_867, zw_26⟩ ⟨⟨_, _, rfl⟩, by decide⟩ rfl rfl (Nat.le_of_ble_eq_true rfl) h (fun _ _ e => zc_X0_vesselSpares e) (fun M12 v12 _ h => ?_)
    exact zend_j h hR (by decide +kernel)
theorem zc_X0_maySpare {M M' : Zm} {l0 : Option Nat} {l1 : Option Nat} {x : Int64} (h : zf_X0_maySpare M l0 l1 = some (M', x)) (l : Launch) (D : va_G) (cy : Nat → ClassId) : zMet l yX0_maySpare zC_X0_maySpare (some .long) D cy [.inr (.inr l0), .inr (.inr l1)] M M' (some (.inr (.inl x))) :=
  zM_j (by decide) rfl (fun h => by cases h) (Nat.le_of_ble_eq_true rfl) (fun X hR => zt_X0_maySpare h hR)
-- BlendCellar$Barrel.onFloor()Z
def zC_X0_onFloor : Zc := (cX0_onFloor, 1, RX0, 0, 0, false)
theorem zcl_X0_onFloor {C : Zc} (h1 : zC_X0_onFloor.2.2.2.1 + 1 ≤ C.2.2.2.1) (h2 : 8 + (zC_X0_onFloor.2.1 + 11) + zC_X0_onFloor.2.2.2.2.1 ≤ C.2.2.2.2.1) : zCl C yX0_onFloor zC_X0_onFloor (some .boolean) 0 := ⟨zw_694, zw_117, ⟨by decide, by decide⟩, by decide +kernel, h1, h2⟩
noncomputable def zf_X0_onFloor (M : Zm) (l0 : Option Nat) : Option (Zm × Int32) :=
  zb1 (zo_gi M l0 1 4) (fun v1 =>
  (if v1 = 0 then
  zb1 (zo_b (1 : Int32)) (fun w => some (M, w))
  else
  zb1 (zo_b (0 : Int32)) (fun w => some (M, w))))
set_option maxRecDepth 100000 in
theorem zt_X0_onFloor {X : Zx} {M : Zm} {l0 : Option Nat} {z : Zm × Int32} (h : zf_X0_onFloor M l0 = some z) (hR : zRz X zC_X0_onFloor z.1 z.2) : zV X zC_X0_onFloor M 0 [(0, .inr (.inr l0))] [] := by
  unfold zf_X0_onFloor at h
  refine zV_b (pc' := 1) (lv' := [(0, .inr (.inr l0))]) (st' := [.inr (.inr l0)]) [(.aload_n 0, 1)] (by decide +kernel) rfl ?_
  refine zV_gi (by decide +kernel) zfl_RX0_9 (by decide) rfl (Or.inl rfl) h (fun v1 _ h => ?_)
  refine zV_if_ne (off := 7) (tgt := 11) (by decide +kernel) (by decide) h (fun c2 h => ?_) (fun c2 h => ?_)
  · refine zV_b (pc' := 8) (lv' := [(0, .inr (.inr l0))]) (st' := [.inl (1 : Int32)]) [(.iconst 1, 1)] (by decide +kernel) rfl ?_
    refine zV_goto (off := 4) (tgt := 12) (by decide +kernel) (by decide) ?_
    exact zend_z h hR (by decide +kernel)
  · refine zV_b (pc' := 12) (lv' := [(0, .inr (.inr l0))]) (st' := [.inl (0 : Int32)]) [(.iconst 0, 1)] (by decide +kernel) rfl ?_
    exact zend_z h hR (by decide +kernel)
theorem zc_X0_onFloor {M M' : Zm} {l0 : Option Nat} {x : Int32} (h : zf_X0_onFloor M l0 = some (M', x)) (l : Launch) (D : va_G) (cy : Nat → ClassId) : zMet l yX0_onFloor zC_X0_onFloor (some .boolean) D cy [.inr (.inr l0)] M M' (some (.inl x)) :=
  zM_b (by decide) rfl (fun h => by cases h) (Nat.le_of_ble_eq_true rfl) (fun X hR => zt_X0_onFloor h hR)
-- BlendCellar$Barrel.restore()V
def zC_X0_restore : Zc := (cX0_restore, 1, RX0, 2, 47, false)
theorem zcl_X0_restore {C : Zc} (h1 : zC_X0_restore.2.2.2.1 + 1 ≤ C.2.2.2.1) (h2 : 8 + (zC_X0_restore.2.1 + 11) + zC_X0_restore.2.2.2.2.1 ≤ C.2.2.2.2.1) : zCl C yX0_restore zC_X0_restore none 0 := ⟨zw_1266, zw_117, ⟨by decide, by decide⟩, by decide +kernel, h1, h2⟩
noncomputable def zf_X0_restore (M : Zm) (l0 : Option Nat) : Option (Zm × Unit) :=
  zb1 (zo_gi M l0 1 8) (fun v1 =>
  zb1 (zo_pi M l0 1 3 v1) (fun M2 =>
  zb1 (zo_gi M2 l0 1 9) (fun v3 =>
  zb1 (zo_pi M2 l0 1 4 v3) (fun M4 =>
  zb1 (zo_gi M4 l0 1 10) (fun v5 =>
  zb1 (zo_pi M4 l0 1 7 v5) (fun M6 =>
  zb1 (zo_gr M6 l0 1 5) (fun v7 =>
  zb1 (zo_gr M6 l0 1 11) (fun v8 =>
  zb1 (zo_rc M6 v7 11) (fun _ => zbd (zf_X10_copyFrom M6 v7 v8) (fun M9 _ =>
  some (M9, ())))))))))))
set_option maxRecDepth 100000 in
theorem zt_X0_restore {X : Zx} {M : Zm} {l0 : Option Nat} {z : Zm × Unit} (h : zf_X0_restore M l0 = some z) (hR : zRv X zC_X0_restore z.1) : zV X zC_X0_restore M 0 [(0, .inr (.inr l0))] [] := by
  unfold zf_X0_restore at h
  refine zV_b (pc' := 2) (lv' := [(0, .inr (.inr l0))]) (st' := [.inr (.inr l0), .inr (.inr l0)]) [(.aload_n 0, 1), (.aload_n 0, 1)] (by decide +kernel) rfl ?_
  refine zV_gi (by decide +kernel) zfl_RX0_29 (by decide) rfl (Or.inl rfl) h (fun v1 _ h => ?_)
  refine zV_pi (by decide +kernel) zfp_RX0_56 (by decide) rfl h (fun M2 _ h => ?_)
  refine zV_b (pc' := 10) (lv' := [(0, .inr (.inr l0))]) (st' := [.inr (.inr l0), .inr (.inr l0)]) [(.aload_n 0, 1), (.aload_n 0, 1)] (by decide +kernel) rfl ?_
  refine zV_gi (by decide +kernel) zfl_RX0_32 (by decide) rfl (Or.inl rfl) h (fun v3 _ h => ?_)
  refine zV_pi (by decide +kernel) zfp_RX0_9 (by decide) rfl h (fun M4 _ h => ?_)
  refine zV_b (pc' := 18) (lv' := [(0, .inr (.inr l0))]) (st' := [.inr (.inr l0), .inr (.inr l0)]) [(.aload_n 0, 1), (.aload_n 0, 1)] (by decide +kernel) rfl ?_
  refine zV_gi (by decide +kernel) zfl_RX0_35 (by decide) rfl (Or.inl rfl) h (fun v5 _ h => ?_)
  refine zV_pi (by decide +kernel) zfp_RX0_26 (by decide) rfl h (fun M6 _ h => ?_)
  refine zV_b (pc' := 25) (lv' := [(0, .inr (.inr l0))]) (st' := [.inr (.inr l0)]) [(.aload_n 0, 1)] (by decide +kernel) rfl ?_
  refine zV_gr (by decide +kernel) zfl_RX0_18 (by decide) rfl h (fun v7 _ h => ?_)
  refine zV_b (pc' := 29) (lv' := [(0, .inr (.inr l0))]) (st' := [.inr (.inr l0), .inr (.inr v7)]) [(.aload_n 0, 1)] (by decide +kernel) rfl ?_
  refine zV_gr (by decide +kernel) zfl_RX0_38 (by decide) rfl h (fun v8 _ h => ?_)
  refine zV_cvv (As := [.inr (.inr v8)]) (st := []) (c := 11) (by decide +kernel) (zcl_X10_copyFrom (by decide) (by decide)) ⟨zw_704, zw_705, zw_706⟩ ⟨⟨_, _, rfl⟩, by decide⟩ rfl rfl (Nat.le_of_ble_eq_true rfl) h (fun _ _ e => zc_X10_copyFrom e) (fun M9 _ _ h => ?_)
  exact zend_v h hR (by decide +kernel)
theorem zc_X0_restore {M M' : Zm} {l0 : Option Nat} {x : Unit} (h : zf_X0_restore M l0 = some (M', x)) (l : Launch) (D : va_G) (cy : Nat → ClassId) : zMet l yX0_restore zC_X0_restore none D cy [.inr (.inr l0)] M M' none :=
  zM_v (by decide) rfl (fun h => by cases h) (Nat.le_of_ble_eq_true rfl) (fun X hR => zt_X0_restore h hR)
-- BlendCellar$Barrel.seeAt(I)V
def zC_X0_seeAt : Zc := (cX0_seeAt, 2, RX0, 0, 0, false)
theorem zcl_X0_seeAt {C : Zc} (h1 : zC_X0_seeAt.2.2.2.1 + 1 ≤ C.2.2.2.1) (h2 : 8 + (zC_X0_seeAt.2.1 + 11) + zC_X0_seeAt.2.2.2.2.1 ≤ C.2.2.2.2.1) : zCl C yX0_seeAt zC_X0_seeAt none 1 := ⟨zw_1351, zw_117, ⟨by decide, by decide⟩, by decide +kernel, h1, h2⟩
noncomputable def zf_X0_seeAt (M : Zm) (l0 : Option Nat) (l1 : Int32) : Option (Zm × Unit) :=
  zb1 (zo_gi M l0 1 12) (fun v1 =>
  zb1 (zo_pi M l0 1 12 (v1 + (1 : Int32))) (fun M2 =>
  zb1 (zo_pi M2 l0 1 13 l1) (fun M3 =>
  some (M3, ()))))
set_option maxRecDepth 100000 in
theorem zt_X0_seeAt {X : Zx} {M : Zm} {l0 : Option Nat} {l1 : Int32} {z : Zm × Unit} (h : zf_X0_seeAt M l0 l1 = some z) (hR : zRv X zC_X0_seeAt z.1) : zV X zC_X0_seeAt M 0 [(0, .inr (.inr l0)), (1, .inl l1)] [] := by
  unfold zf_X0_seeAt at h
  refine zV_b (pc' := 2) (lv' := [(0, .inr (.inr l0)), (1, .inl l1)]) (st' := [.inr (.inr l0), .inr (.inr l0)]) [(.aload_n 0, 1), (.dup, 1)] (by decide +kernel) rfl ?_
  refine zV_gi (by decide +kernel) zfl_RX0_41 (by decide) rfl (Or.inl rfl) h (fun v1 _ h => ?_)
  refine zV_b (pc' := 7) (lv' := [(0, .inr (.inr l0)), (1, .inl l1)]) (st' := [.inl (v1 + (1 : Int32)), .inr (.inr l0)]) [(.iconst 1, 1), (.iadd, 1)] (by decide +kernel) rfl ?_
  refine zV_pi (by decide +kernel) zfp_RX0_41 (by decide) rfl h (fun M2 _ h => ?_)
  refine zV_b (pc' := 12) (lv' := [(0, .inr (.inr l0)), (1, .inl l1)]) (st' := [.inl l1, .inr (.inr l0)]) [(.aload_n 0, 1), (.iload_n 1, 1)] (by decide +kernel) rfl ?_
  refine zV_pi (by decide +kernel) zfp_RX0_44 (by decide) rfl h (fun M3 _ h => ?_)
  exact zend_v h hR (by decide +kernel)
theorem zc_X0_seeAt {M M' : Zm} {l0 : Option Nat} {l1 : Int32} {x : Unit} (h : zf_X0_seeAt M l0 l1 = some (M', x)) (l : Launch) (D : va_G) (cy : Nat → ClassId) : zMet l yX0_seeAt zC_X0_seeAt none D cy [.inr (.inr l0), .inl l1] M M' none :=
  zM_v (by decide) rfl (fun h => by cases h) (Nat.le_of_ble_eq_true rfl) (fun X hR => zt_X0_seeAt h hR)
-- BlendCellar$Barrel.seeMembers()V
def zC_X0_seeMembers : Zc := (cX0_seeMembers, 2, RX0, 1, 21, false)
theorem zcl_X0_seeMembers {C : Zc} (h1 : zC_X0_seeMembers.2.2.2.1 + 1 ≤ C.2.2.2.1) (h2 : 8 + (zC_X0_seeMembers.2.1 + 11) + zC_X0_seeMembers.2.2.2.2.1 ≤ C.2.2.2.2.1) : zCl C yX0_seeMembers zC_X0_seeMembers none 0 := ⟨zw_1355, zw_117, ⟨by decide, by decide⟩, by decide +kernel, h1, h2⟩
noncomputable def zf_X0_seeMembers_L2 (p0 : Option Nat) (x : Zm × Int32) : Option ((Zm × Int32) ⊕ (Zm × Int32)) := match x with
  | (M, l1) =>
  zb1 (zo_gi M p0 1 7) (fun v1 =>
  (if v1 ≤ l1 then
  some (.inr (M, l1))
  else
  zb1 (zo_gr M p0 1 6) (fun v3 =>
  zb1 (zo_ar M 16 v3 l1) (fun v4 =>
  zb1 (zo_gi M p0 1 0) (fun v5 =>
  zb1 (zo_rc M v4 1) (fun _ => zbd (zf_X0_seeAt M v4 ((10000 : Int32) + v5)) (fun M6 _ =>
  some (.inl (M6, (l1 + 1))))))))))
def zP_X0_seeMembers_L2 (X : Zx) (p0 : Option Nat) (x : Zm × Int32) : Prop := match x with
  | (M, l1) => zV X zC_X0_seeMembers M 2 [(0, .inr (.inr p0)), (1, .inl l1)] []
def zK_X0_seeMembers_L2 (X : Zx) (p0 : Option Nat) (y : Zm × Int32) : Prop := match y with
  | (M, l1) => zV X zC_X0_seeMembers M 33 [] []
noncomputable def zf_X0_seeMembers (M : Zm) (l0 : Option Nat) : Option (Zm × Unit) :=
  zb1 (zwhile (zf_X0_seeMembers_L2 l0) (M, (0 : Int32))) (fun y8 => match y8 with
  | (M2_8, l1_8) =>
  some (M2_8, ()))
set_option maxRecDepth 100000 in
theorem zt_X0_seeMembers_L2 {X : Zx} {p0 : Option Nat} {x : Zm × Int32} {y : Zm × Int32} (h : zwhile (zf_X0_seeMembers_L2 p0) x = some y) (hy : zK_X0_seeMembers_L2 X p0 y) : zP_X0_seeMembers_L2 X p0 x := by
  refine zwhile_ind (P := zP_X0_seeMembers_L2 X p0) (K := zK_X0_seeMembers_L2 X p0) ?_ h hy
  intro x z hf k1 k2
  obtain ⟨M, l1⟩ := x
  have h : zf_X0_seeMembers_L2 p0 (M, l1) = some z := hf
  unfold zf_X0_seeMembers_L2 at h
  show zV X zC_X0_seeMembers M 2 [(0, .inr (.inr p0)), (1, .inl l1)] []
  refine zV_b (pc' := 4) (lv' := [(0, .inr (.inr p0)), (1, .inl l1)]) (st' := [.inr (.inr p0), .inl l1]) [(.iload_n 1, 1), (.aload_n 0, 1)] (by decide +kernel) rfl ?_
  refine zV_gi (by decide +kernel) zfl_RX0_26 (by decide) rfl (Or.inl rfl) h (fun v1 _ h => ?_)
  refine zV_icmp_ge (off := 26) (tgt := 33) (by decide +kernel) (by decide) h (fun c2 h => ?_) (fun c2 h => ?_)
  · exact zV_lv (lv' := []) [] rfl (k2 _ (Option.some.inj h).symm)
  · refine zV_b (pc' := 11) (lv' := [(0, .inr (.inr p0)), (1, .inl l1)]) (st' := [.inr (.inr p0)]) [(.aload_n 0, 1)] (by decide +kernel) rfl ?_
    refine zV_gr (by decide +kernel) zfl_RX0_22 (by decide) rfl h (fun v3 _ h => ?_)
    refine zV_b (pc' := 15) (lv' := [(0, .inr (.inr p0)), (1, .inl l1)]) (st' := [.inl l1, .inr (.inr v3)]) [(.iload_n 1, 1)] (by decide +kernel) rfl ?_
    refine zV_ar (by decide +kernel) (by decide) (by decide) h (fun v4 _ h => ?_)
    refine zV_b (pc' := 20) (lv' := [(0, .inr (.inr p0)), (1, .inl l1)]) (st' := [.inr (.inr p0), .inl (10000 : Int32), .inr (.inr v4)]) [(.sipush 10000, 3), (.aload_n 0, 1)] (by decide +kernel) rfl ?_
    refine zV_gi (by decide +kernel) zfl_RX0_47 (by decide) rfl (Or.inl rfl) h (fun v5 _ h => ?_)
    refine zV_b (pc' := 24) (lv' := [(0, .inr (.inr p0)), (1, .inl l1)]) (st' := [.inl ((10000 : Int32) + v5), .inr (.inr v4)]) [(.iadd, 1)] (by decide +kernel) rfl ?_
    refine zV_cvv (As := [.inl ((10000 : Int32) + v5)]) (st := []) (c := 1) (by decide +kernel) (zcl_X0_seeAt (by decide) (by decide)) ⟨zw_1356, zw_1349, zw_1350⟩ ⟨⟨_, _, rfl⟩, by decide⟩ rfl rfl (Nat.le_of_ble_eq_true rfl) h (fun _ _ e => zc_X0_seeAt e) (fun M6 _ _ h => ?_)
    refine zV_b (pc' := 30) (lv' := [(1, .inl (l1 + 1)), (0, .inr (.inr p0))]) (st' := []) [(.iinc 1 1, 3)] (by decide +kernel) rfl ?_
    refine zV_goto (off := (-28)) (tgt := 2) (by decide +kernel) (by decide) ?_
    exact zV_lv (lv' := [(0, .inr (.inr p0)), (1, .inl (l1 + 1))]) [1, 0] rfl (k1 _ (Option.some.inj h).symm)
set_option maxRecDepth 100000 in
theorem zt_X0_seeMembers {X : Zx} {M : Zm} {l0 : Option Nat} {z : Zm × Unit} (h : zf_X0_seeMembers M l0 = some z) (hR : zRv X zC_X0_seeMembers z.1) : zV X zC_X0_seeMembers M 0 [(0, .inr (.inr l0))] [] := by
  unfold zf_X0_seeMembers at h
  refine zV_b (pc' := 2) (lv' := [(1, .inl (0 : Int32)), (0, .inr (.inr l0))]) (st' := []) [(.iconst 0, 1), (.istore_n 1, 1)] (by decide +kernel) rfl ?_
  obtain ⟨y8, e8, h⟩ := zb1_inv h
  refine zV_lv (lv' := [(0, .inr (.inr l0)), (1, .inl (0 : Int32))]) [1, 0] rfl (zt_X0_seeMembers_L2 e8 ?_)
  obtain ⟨M2_8, l1_8⟩ := y8
  show zV X zC_X0_seeMembers M2_8 33 [] []
  exact zend_v h hR (by decide +kernel)
theorem zc_X0_seeMembers {M M' : Zm} {l0 : Option Nat} {x : Unit} (h : zf_X0_seeMembers M l0 = some (M', x)) (l : Launch) (D : va_G) (cy : Nat → ClassId) : zMet l yX0_seeMembers zC_X0_seeMembers none D cy [.inr (.inr l0)] M M' none :=
  zM_v (by decide) rfl (fun h => by cases h) (Nat.le_of_ble_eq_true rfl) (fun X hR => zt_X0_seeMembers h hR)
