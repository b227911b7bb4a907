/-! What the bytecode does, as functions of the memory, and the walks (written by wip/gen.py). -/
-- BlendCellar$Label.<init>()V
def zC_X3_init : Zc := (cX3_init, 1, RX3, 1, 12, true)
theorem zcl_X3_init {C : Zc} (h1 : zC_X3_init.2.2.2.1 + 1 ≤ C.2.2.2.1) (h2 : 8 + (zC_X3_init.2.1 + 11) + zC_X3_init.2.2.2.2.1 ≤ C.2.2.2.2.1) : zCl C yX3_init zC_X3_init none 0 := ⟨zw_1084, zw_122, ⟨by decide, by decide⟩, by decide +kernel, h1, h2⟩
noncomputable def zf_X3_init (M : Zm) (l0 : Option Nat) : Option (Zm × Unit) :=
  zb1 (zo_rc M l0 4) (fun _ =>
  zb1 (zo_na M 14 (20 : Int32)) (fun M2 =>
  zb1 (zo_pr M2 l0 4 0 (zm_nx M)) (fun M3 =>
  zb1 (zo_na M3 14 (20 : Int32)) (fun M4 =>
  zb1 (zo_pr M4 l0 4 1 (zm_nx M3)) (fun M5 =>
  zb1 (zo_na M5 14 (20 : Int32)) (fun M6 =>
  zb1 (zo_pr M6 l0 4 2 (zm_nx M5)) (fun M7 =>
  zb1 (zo_na M7 14 (20 : Int32)) (fun M8 =>
  zb1 (zo_pr M8 l0 4 3 (zm_nx M7)) (fun M9 =>
  zb1 (zo_pi M9 l0 4 4 (0 : Int32)) (fun M10 =>
  zb1 (zo_na M10 14 (20 : Int32)) (fun M11 =>
  zb1 (zo_pr M11 l0 4 5 (zm_nx M10)) (fun M12 =>
  zb1 (zo_pi M12 l0 4 6 (0 : Int32)) (fun M13 =>
  zb1 (zo_pi M13 l0 4 7 (0 : Int32)) (fun M14 =>
  some (M14, ())))))))))))))))
set_option maxRecDepth 100000 in
theorem zt_X3_init {X : Zx} {M : Zm} {l0 : Option Nat} {z : Zm × Unit} (h : zf_X3_init M l0 = some z) (hR : zRv X zC_X3_init z.1) : zV X zC_X3_init M 0 [(0, .inr (.inr l0))] [] := by
  unfold zf_X3_init at h
  refine zV_b (pc' := 1) (lv' := [(0, .inr (.inr l0))]) (st' := [.inr (.inr l0)]) [(.aload_n 0, 1)] (by decide +kernel) rfl ?_
  refine zV_oo (by decide +kernel) zw_1085 (by decide) (by decide) h (fun _ _ h => ?_)
  refine zV_b (pc' := 7) (lv' := [(0, .inr (.inr l0))]) (st' := [.inl (20 : Int32), .inr (.inr l0)]) [(.aload_n 0, 1), (.bipush 20, 2)] (by decide +kernel) rfl ?_
  refine zV_na (by decide +kernel) (Or.inl ⟨rfl, rfl⟩) h (fun M2 _ h => ?_)
  refine zV_pr (by decide +kernel) zfp_RX3_9_i (Or.inr ⟨_, rfl⟩) (by decide) rfl h (fun M3 _ h => ?_)
  refine zV_b (pc' := 15) (lv' := [(0, .inr (.inr l0))]) (st' := [.inl (20 : Int32), .inr (.inr l0)]) [(.aload_n 0, 1), (.bipush 20, 2)] (by decide +kernel) rfl ?_
  refine zV_na (by decide +kernel) (Or.inl ⟨rfl, rfl⟩) h (fun M4 _ h => ?_)
  refine zV_pr (by decide +kernel) zfp_RX3_15_i (Or.inr ⟨_, rfl⟩) (by decide) rfl h (fun M5 _ h => ?_)
  refine zV_b (pc' := 23) (lv' := [(0, .inr (.inr l0))]) (st' := [.inl (20 : Int32), .inr (.inr l0)]) [(.aload_n 0, 1), (.bipush 20, 2)] (by decide +kernel) rfl ?_
  refine zV_na (by decide +kernel) (Or.inl ⟨rfl, rfl⟩) h (fun M6 _ h => ?_)
  refine zV_pr (by decide +kernel) zfp_RX3_18_i (Or.inr ⟨_, rfl⟩) (by decide) rfl h (fun M7 _ h => ?_)
  refine zV_b (pc' := 31) (lv' := [(0, .inr (.inr l0))]) (st' := [.inl (20 : Int32), .inr (.inr l0)]) [(.aload_n 0, 1), (.bipush 20, 2)] (by decide +kernel) rfl ?_
  refine zV_na (by decide +kernel) (Or.inl ⟨rfl, rfl⟩) h (fun M8 _ h => ?_)
  refine zV_pr (by decide +kernel) zfp_RX3_21_i (Or.inr ⟨_, rfl⟩) (by decide) rfl h (fun M9 _ h => ?_)
  refine zV_b (pc' := 38) (lv' := [(0, .inr (.inr l0))]) (st' := [.inl (0 : Int32), .inr (.inr l0)]) [(.aload_n 0, 1), (.iconst 0, 1)] (by decide +kernel) rfl ?_
  refine zV_pi (by decide +kernel) zfp_RX3_24_i (by decide) rfl h (fun M10 _ h => ?_)
  refine zV_b (pc' := 44) (lv' := [(0, .inr (.inr l0))]) (st' := [.inl (20 : Int32), .inr (.inr l0)]) [(.aload_n 0, 1), (.bipush 20, 2)] (by decide +kernel) rfl ?_
  refine zV_na (by decide +kernel) (Or.inl ⟨rfl, rfl⟩) h (fun M11 _ h => ?_)
  refine zV_pr (by decide +kernel) zfp_RX3_28_i (Or.inr ⟨_, rfl⟩) (by decide) rfl h (fun M12 _ h => ?_)
  refine zV_b (pc' := 51) (lv' := [(0, .inr (.inr l0))]) (st' := [.inl (0 : Int32), .inr (.inr l0)]) [(.aload_n 0, 1), (.iconst 0, 1)] (by decide +kernel) rfl ?_
  refine zV_pi (by decide +kernel) zfp_RX3_31_i (by decide) rfl h (fun M13 _ h => ?_)
  refine zV_b (pc' := 56) (lv' := [(0, .inr (.inr l0))]) (st' := [.inl (0 : Int32), .inr (.inr l0)]) [(.aload_n 0, 1), (.iconst 0, 1)] (by decide +kernel) rfl ?_
  refine zV_pi (by decide +kernel) zfp_RX3_34_i (by decide) rfl h (fun M14 _ h => ?_)
  exact zend_v h hR (by decide +kernel)
theorem zc_X3_init {M M' : Zm} {l0 : Option Nat} {x : Unit} (h : zf_X3_init M l0 = some (M', x)) (l : Launch) (D : va_G) (cy : Nat → ClassId) : zMet l yX3_init zC_X3_init none D cy [.inr (.inr l0)] M M' none :=
  zM_v (by decide) rfl (fun _ => rfl) (Nat.le_of_ble_eq_true rfl) (fun X hR => zt_X3_init h hR)
-- BlendCellar$Label.addRule(IIII)V
def zC_X3_addRule : Zc := (cX3_addRule, 5, RX3, 0, 0, false)
theorem zcl_X3_addRule {C : Zc} (h1 : zC_X3_addRule.2.2.2.1 + 1 ≤ C.2.2.2.1) (h2 : 8 + (zC_X3_addRule.2.1 + 11) + zC_X3_addRule.2.2.2.2.1 ≤ C.2.2.2.2.1) : zCl C yX3_addRule zC_X3_addRule none 4 := ⟨zw_1131, zw_122, ⟨by decide, by decide⟩, by decide +kernel, h1, h2⟩
noncomputable def zf_X3_addRule (M : Zm) (l0 : Option Nat) (l1 : Int32) (l2 : Int32) (l3 : Int32) (l4 : Int32) : Option (Zm × Unit) :=
  zb1 (zo_gi M l0 4 4) (fun v1 =>
  (if v1 < (20 : Int32) then
  zb1 (zo_gr M l0 4 0) (fun v3 =>
  zb1 (zo_gi M l0 4 4) (fun v4 =>
  zb1 (zo_si M v3 v4 l1) (fun M5 =>
  zb1 (zo_gr M5 l0 4 1) (fun v6 =>
  zb1 (zo_gi M5 l0 4 4) (fun v7 =>
  zb1 (zo_si M5 v6 v7 l2) (fun M8 =>
  zb1 (zo_gr M8 l0 4 2) (fun v9 =>
  zb1 (zo_gi M8 l0 4 4) (fun v10 =>
  zb1 (zo_si M8 v9 v10 l3) (fun M11 =>
  zb1 (zo_gr M11 l0 4 3) (fun v12 =>
  zb1 (zo_gi M11 l0 4 4) (fun v13 =>
  zb1 (zo_si M11 v12 v13 l4) (fun M14 =>
  zb1 (zo_gr M14 l0 4 5) (fun v15 =>
  zb1 (zo_gi M14 l0 4 6) (fun v16 =>
  zb1 (zo_gi M14 l0 4 4) (fun v17 =>
  zb1 (zo_si M14 v15 v16 v17) (fun M18 =>
  zb1 (zo_gi M18 l0 4 4) (fun v19 =>
  zb1 (zo_pi M18 l0 4 4 (v19 + (1 : Int32))) (fun M20 =>
  zb1 (zo_gi M20 l0 4 6) (fun v21 =>
  zb1 (zo_pi M20 l0 4 6 (v21 + (1 : Int32))) (fun M22 =>
  zb1 (zo_gi M22 l0 4 7) (fun v23 =>
  zb1 (zo_pi M22 l0 4 7 (v23 + (1 : Int32))) (fun M24 =>
  some (M24, ())))))))))))))))))))))))
  else
  some (M, ())))
set_option maxRecDepth 100000 in
theorem zt_X3_addRule {X : Zx} {M : Zm} {l0 : Option Nat} {l1 : Int32} {l2 : Int32} {l3 : Int32} {l4 : Int32} {z : Zm × Unit} (h : zf_X3_addRule M l0 l1 l2 l3 l4 = some z) (hR : zRv X zC_X3_addRule z.1) : zV X zC_X3_addRule M 0 [(0, .inr (.inr l0)), (1, .inl l1), (2, .inl l2), (3, .inl l3), (4, .inl l4)] [] := by
  unfold zf_X3_addRule at h
  refine zV_b (pc' := 1) (lv' := [(0, .inr (.inr l0)), (1, .inl l1), (2, .inl l2), (3, .inl l3), (4, .inl l4)]) (st' := [.inr (.inr l0)]) [(.aload_n 0, 1)] (by decide +kernel) rfl ?_
  refine zV_gi (by decide +kernel) zfl_RX3_24 (by decide) rfl (Or.inl rfl) h (fun v1 _ h => ?_)
  refine zV_b (pc' := 6) (lv' := [(0, .inr (.inr l0)), (1, .inl l1), (2, .inl l2), (3, .inl l3), (4, .inl l4)]) (st' := [.inl (20 : Int32), .inl v1]) [(.bipush 20, 2)] (by decide +kernel) rfl ?_
  refine zV_icmp_lt (off := 4) (tgt := 10) (by decide +kernel) (by decide) h (fun c2 h => ?_) (fun c2 h => ?_)
  · refine zV_b (pc' := 11) (lv' := [(0, .inr (.inr l0)), (1, .inl l1), (2, .inl l2), (3, .inl l3), (4, .inl l4)]) (st' := [.inr (.inr l0)]) [(.aload_n 0, 1)] (by decide +kernel) rfl ?_
    refine zV_gr (by decide +kernel) zfl_RX3_9 (by decide) rfl h (fun v3 _ h => ?_)
    refine zV_b (pc' := 15) (lv' := [(0, .inr (.inr l0)), (1, .inl l1), (2, .inl l2), (3, .inl l3), (4, .inl l4)]) (st' := [.inr (.inr l0), .inr (.inr v3)]) [(.aload_n 0, 1)] (by decide +kernel) rfl ?_
    refine zV_gi (by decide +kernel) zfl_RX3_24 (by decide) rfl (Or.inl rfl) h (fun v4 _ h => ?_)
    refine zV_b (pc' := 19) (lv' := [(0, .inr (.inr l0)), (1, .inl l1), (2, .inl l2), (3, .inl l3), (4, .inl l4)]) (st' := [.inl l1, .inl v4, .inr (.inr v3)]) [(.iload_n 1, 1)] (by decide +kernel) rfl ?_
    refine zV_si (by decide +kernel) h (fun M5 _ h => ?_)
    refine zV_b (pc' := 21) (lv' := [(0, .inr (.inr l0)), (1, .inl l1), (2, .inl l2), (3, .inl l3), (4, .inl l4)]) (st' := [.inr (.inr l0)]) [(.aload_n 0, 1)] (by decide +kernel) rfl ?_
    refine zV_gr (by decide +kernel) zfl_RX3_15 (by decide) rfl h (fun v6 _ h => ?_)
    refine zV_b (pc' := 25) (lv' := [(0, .inr (.inr l0)), (1, .inl l1), (2, .inl l2), (3, .inl l3), (4, .inl l4)]) (st' := [.inr (.inr l0), .inr (.inr v6)]) [(.aload_n 0, 1)] (by decide +kernel) rfl ?_
    refine zV_gi (by decide +kernel) zfl_RX3_24 (by decide) rfl (Or.inl rfl) h (fun v7 _ h => ?_)
    refine zV_b (pc' := 29) (lv' := [(0, .inr (.inr l0)), (1, .inl l1), (2, .inl l2), (3, .inl l3), (4, .inl l4)]) (st' := [.inl l2, .inl v7, .inr (.inr v6)]) [(.iload_n 2, 1)] (by decide +kernel) rfl ?_
    refine zV_si (by decide +kernel) h (fun M8 _ h => ?_)
    refine zV_b (pc' := 31) (lv' := [(0, .inr (.inr l0)), (1, .inl l1), (2, .inl l2), (3, .inl l3), (4, .inl l4)]) (st' := [.inr (.inr l0)]) [(.aload_n 0, 1)] (by decide +kernel) rfl ?_
    refine zV_gr (by decide +kernel) zfl_RX3_18 (by decide) rfl h (fun v9 _ h => ?_)
    refine zV_b (pc' := 35) (lv' := [(0, .inr (.inr l0)), (1, .inl l1), (2, .inl l2), (3, .inl l3), (4, .inl l4)]) (st' := [.inr (.inr l0), .inr (.inr v9)]) [(.aload_n 0, 1)] (by decide +kernel) rfl ?_
    refine zV_gi (by decide +kernel) zfl_RX3_24 (by decide) rfl (Or.inl rfl) h (fun v10 _ h => ?_)
    refine zV_b (pc' := 39) (lv' := [(0, .inr (.inr l0)), (1, .inl l1), (2, .inl l2), (3, .inl l3), (4, .inl l4)]) (st' := [.inl l3, .inl v10, .inr (.inr v9)]) [(.iload_n 3, 1)] (by decide +kernel) rfl ?_
    refine zV_si (by decide +kernel) h (fun M11 _ h => ?_)
    refine zV_b (pc' := 41) (lv' := [(0, .inr (.inr l0)), (1, .inl l1), (2, .inl l2), (3, .inl l3), (4, .inl l4)]) (st' := [.inr (.inr l0)]) [(.aload_n 0, 1)] (by decide +kernel) rfl ?_
    refine zV_gr (by decide +kernel) zfl_RX3_21 (by decide) rfl h (fun v12 _ h => ?_)
    refine zV_b (pc' := 45) (lv' := [(0, .inr (.inr l0)), (1, .inl l1), (2, .inl l2), (3, .inl l3), (4, .inl l4)]) (st' := [.inr (.inr l0), .inr (.inr v12)]) [(.aload_n 0, 1)] (by decide +kernel) rfl ?_
    refine zV_gi (by decide +kernel) zfl_RX3_24 (by decide) rfl (Or.inl rfl) h (fun v13 _ h => ?_)
    refine zV_b (pc' := 50) (lv' := [(0, .inr (.inr l0)), (1, .inl l1), (2, .inl l2), (3, .inl l3), (4, .inl l4)]) (st' := [.inl l4, .inl v13, .inr (.inr v12)]) [(.iload 4, 2)] (by decide +kernel) rfl ?_
    refine zV_si (by decide +kernel) h (fun M14 _ h => ?_)
    refine zV_b (pc' := 52) (lv' := [(0, .inr (.inr l0)), (1, .inl l1), (2, .inl l2), (3, .inl l3), (4, .inl l4)]) (st' := [.inr (.inr l0)]) [(.aload_n 0, 1)] (by decide +kernel) rfl ?_
    refine zV_gr (by decide +kernel) zfl_RX3_28 (by decide) rfl h (fun v15 _ h => ?_)
    refine zV_b (pc' := 56) (lv' := [(0, .inr (.inr l0)), (1, .inl l1), (2, .inl l2), (3, .inl l3), (4, .inl l4)]) (st' := [.inr (.inr l0), .inr (.inr v15)]) [(.aload_n 0, 1)] (by decide +kernel) rfl ?_
    refine zV_gi (by decide +kernel) zfl_RX3_31 (by decide) rfl (Or.inl rfl) h (fun v16 _ h => ?_)
    refine zV_b (pc' := 60) (lv' := [(0, .inr (.inr l0)), (1, .inl l1), (2, .inl l2), (3, .inl l3), (4, .inl l4)]) (st' := [.inr (.inr l0), .inl v16, .inr (.inr v15)]) [(.aload_n 0, 1)] (by decide +kernel) rfl ?_
    refine zV_gi (by decide +kernel) zfl_RX3_24 (by decide) rfl (Or.inl rfl) h (fun v17 _ h => ?_)
    refine zV_si (by decide +kernel) h (fun M18 _ h => ?_)
    refine zV_b (pc' := 66) (lv' := [(0, .inr (.inr l0)), (1, .inl l1), (2, .inl l2), (3, .inl l3), (4, .inl l4)]) (st' := [.inr (.inr l0), .inr (.inr l0)]) [(.aload_n 0, 1), (.dup, 1)] (by decide +kernel) rfl ?_
    refine zV_gi (by decide +kernel) zfl_RX3_24 (by decide) rfl (Or.inl rfl) h (fun v19 _ h => ?_)
    refine zV_b (pc' := 71) (lv' := [(0, .inr (.inr l0)), (1, .inl l1), (2, .inl l2), (3, .inl l3), (4, .inl l4)]) (st' := [.inl (v19 + (1 : Int32)), .inr (.inr l0)]) [(.iconst 1, 1), (.iadd, 1)] (by decide +kernel) rfl ?_
    refine zV_pi (by decide +kernel) zfp_RX3_24 (by decide) rfl h (fun M20 _ h => ?_)
    refine zV_b (pc' := 76) (lv' := [(0, .inr (.inr l0)), (1, .inl l1), (2, .inl l2), (3, .inl l3), (4, .inl l4)]) (st' := [.inr (.inr l0), .inr (.inr l0)]) [(.aload_n 0, 1), (.dup, 1)] (by decide +kernel) rfl ?_
    refine zV_gi (by decide +kernel) zfl_RX3_31 (by decide) rfl (Or.inl rfl) h (fun v21 _ h => ?_)
    refine zV_b (pc' := 81) (lv' := [(0, .inr (.inr l0)), (1, .inl l1), (2, .inl l2), (3, .inl l3), (4, .inl l4)]) (st' := [.inl (v21 + (1 : Int32)), .inr (.inr l0)]) [(.iconst 1, 1), (.iadd, 1)] (by decide +kernel) rfl ?_
    refine zV_pi (by decide +kernel) zfp_RX3_31 (by decide) rfl h (fun M22 _ h => ?_)
    refine zV_b (pc' := 86) (lv' := [(0, .inr (.inr l0)), (1, .inl l1), (2, .inl l2), (3, .inl l3), (4, .inl l4)]) (st' := [.inr (.inr l0), .inr (.inr l0)]) [(.aload_n 0, 1), (.dup, 1)] (by decide +kernel) rfl ?_
    refine zV_gi (by decide +kernel) zfl_RX3_34 (by decide) rfl (Or.inl rfl) h (fun v23 _ h => ?_)
    refine zV_b (pc' := 91) (lv' := [(0, .inr (.inr l0)), (1, .inl l1), (2, .inl l2), (3, .inl l3), (4, .inl l4)]) (st' := [.inl (v23 + (1 : Int32)), .inr (.inr l0)]) [(.iconst 1, 1), (.iadd, 1)] (by decide +kernel) rfl ?_
    refine zV_pi (by decide +kernel) zfp_RX3_34 (by decide) rfl h (fun M24 _ h => ?_)
    exact zend_v h hR (by decide +kernel)
  · exact zend_v h hR (by decide +kernel)
theorem zc_X3_addRule {M M' : Zm} {l0 : Option Nat} {l1 : Int32} {l2 : Int32} {l3 : Int32} {l4 : Int32} {x : Unit} (h : zf_X3_addRule M l0 l1 l2 l3 l4 = some (M', x)) (l : Launch) (D : va_G) (cy : Nat → ClassId) : zMet l yX3_addRule zC_X3_addRule none D cy [.inr (.inr l0), .inl l1, .inl l2, .inl l3, .inl l4] M M' none :=
  zM_v (by decide) rfl (fun h => by cases h) (Nat.le_of_ble_eq_true rfl) (fun X hR => zt_X3_addRule h hR)
-- BlendCellar$Label.isSo(IJJI)Z
def zC_X3_isSo : Zc := (cX3_isSo, 6, RX3, 0, 0, false)
theorem zcl_X3_isSo {C : Zc} (h1 : zC_X3_isSo.2.2.2.1 + 1 ≤ C.2.2.2.1) (h2 : 8 + (zC_X3_isSo.2.1 + 11) + zC_X3_isSo.2.2.2.2.1 ≤ C.2.2.2.2.1) : zCl C yX3_isSo zC_X3_isSo (some .boolean) 4 := ⟨zw_1184, zw_122, ⟨by decide, by decide⟩, by decide +kernel, h1, h2⟩
theorem zd_X3_isSo_1 : decode cX3_isSo 1 = .ok (.tableswitch 111 1 4 #[31, 57, 87, 99], 31) := by decide +kernel
noncomputable def zf_X3_isSo (M : Zm) (l0 : Int32) (l1 : Int64) (l3 : Int64) (l5 : Int32) : Option (Zm × Int32) :=
  (if l0 = 1 then
  (if l3 = (0 : Int64) then
  zb1 (zo_b (0 : Int32)) (fun w => some (M, w))
  else
  zb1 (zo_ld (l1 * (100 : Int64)) l3) (fun v9 =>
  (if v9 < (l5.toInt64) then
  zb1 (zo_b (0 : Int32)) (fun w => some (M, w))
  else
  zb1 (zo_b (1 : Int32)) (fun w => some (M, w)))))
  else
  (if l0 = 2 then
  (if l3 = (0 : Int64) then
  zb1 (zo_b (0 : Int32)) (fun w => some (M, w))
  else
  zb1 (zo_ld (((l1 * (100 : Int64)) + l3) - (1 : Int64)) l3) (fun v17 =>
  (if (l5.toInt64) < v17 then
  zb1 (zo_b (0 : Int32)) (fun w => some (M, w))
  else
  zb1 (zo_b (1 : Int32)) (fun w => some (M, w)))))
  else
  (if l0 = 3 then
  (if l1 = l3 then
  zb1 (zo_b (1 : Int32)) (fun w => some (M, w))
  else
  zb1 (zo_b (0 : Int32)) (fun w => some (M, w)))
  else
  (if l0 = 4 then
  (if l1 ≤ (0 : Int64) then
  zb1 (zo_b (0 : Int32)) (fun w => some (M, w))
  else
  zb1 (zo_b (1 : Int32)) (fun w => some (M, w)))
  else
  (if l1 = (0 : Int64) then
  zb1 (zo_b (1 : Int32)) (fun w => some (M, w))
  else
  zb1 (zo_b (0 : Int32)) (fun w => some (M, w)))))))
set_option maxRecDepth 100000 in
theorem zt_X3_isSo {X : Zx} {M : Zm} {l0 : Int32} {l1 : Int64} {l3 : Int64} {l5 : Int32} {z : Zm × Int32} (h : zf_X3_isSo M l0 l1 l3 l5 = some z) (hR : zRz X zC_X3_isSo z.1 z.2) : zV X zC_X3_isSo M 0 [(0, .inl l0), (1, .inr (.inl l1)), (3, .inr (.inl l3)), (5, .inl l5)] [] := by
  unfold zf_X3_isSo at h
  refine zV_b (pc' := 1) (lv' := [(0, .inl l0), (1, .inr (.inl l1)), (3, .inr (.inl l3)), (5, .inl l5)]) (st' := [.inl l0]) [(.iload_n 0, 1)] (by decide +kernel) rfl ?_
  by_cases e1_0 : l0 = 1
  · have h := (zite h).1 e1_0
    refine zV_top e1_0 (zV_tin (tgt := 32) zd_X3_isSo_1 (by decide) (by decide) rfl (by decide) ?_)
    refine zV_b (pc' := 34) (lv' := [(0, .inl l0), (1, .inr (.inl l1)), (3, .inr (.inl l3)), (5, .inl l5)]) (st' := [.inr (.inl (0 : Int64)), .inr (.inl l3)]) [(.lload_n 3, 1), (.lconst 0, 1)] (by decide +kernel) rfl ?_
    refine zV_lcmp_eq (off := 21) (tgt := 56) (by decide +kernel) (by decide +kernel) (by decide) h (fun c6 h => ?_) (fun c6 h => ?_)
    · refine zV_b (pc' := 57) (lv' := [(0, .inl l0), (1, .inr (.inl l1)), (3, .inr (.inl l3)), (5, .inl l5)]) (st' := [.inl (0 : Int32)]) [(.iconst 0, 1)] (by decide +kernel) rfl ?_
      exact zend_z h hR (by decide +kernel)
    · refine zV_b (pc' := 39) (lv' := [(0, .inl l0), (1, .inr (.inl l1)), (3, .inr (.inl l3)), (5, .inl l5)]) (st' := [.inr (.inl l1)]) [(.lload_n 1, 1)] (by decide +kernel) rfl ?_
      refine zV_ldc2 (by decide +kernel) zw_1185 ?_
      refine zV_b (pc' := 44) (lv' := [(0, .inl l0), (1, .inr (.inl l1)), (3, .inr (.inl l3)), (5, .inl l5)]) (st' := [.inr (.inl l3), .inr (.inl (l1 * (100 : Int64)))]) [(.lmul, 1), (.lload_n 3, 1)] (by decide +kernel) rfl ?_
      refine zV_ld (by decide +kernel) h (fun v9 _ h => ?_)
      refine zV_b (pc' := 48) (lv' := [(0, .inl l0), (1, .inr (.inl l1)), (3, .inr (.inl l3)), (5, .inl l5)]) (st' := [.inr (.inl (l5.toInt64)), .inr (.inl v9)]) [(.iload 5, 2), (.i2l, 1)] (by decide +kernel) rfl ?_
      refine zV_lcmp_lt (off := 7) (tgt := 56) (by decide +kernel) (by decide +kernel) (by decide) h (fun c10 h => ?_) (fun c10 h => ?_)
      · refine zV_b (pc' := 57) (lv' := [(0, .inl l0), (1, .inr (.inl l1)), (3, .inr (.inl l3)), (5, .inl l5)]) (st' := [.inl (0 : Int32)]) [(.iconst 0, 1)] (by decide +kernel) rfl ?_
        exact zend_z h hR (by decide +kernel)
      · refine zV_b (pc' := 53) (lv' := [(0, .inl l0), (1, .inr (.inl l1)), (3, .inr (.inl l3)), (5, .inl l5)]) (st' := [.inl (1 : Int32)]) [(.iconst 1, 1)] (by decide +kernel) rfl ?_
        refine zV_goto (off := 4) (tgt := 57) (by decide +kernel) (by decide) ?_
        exact zend_z h hR (by decide +kernel)
  · have h := (zite h).2 e1_0
    by_cases e1_1 : l0 = 2
    · have h := (zite h).1 e1_1
      refine zV_top e1_1 (zV_tin (tgt := 58) zd_X3_isSo_1 (by decide) (by decide) rfl (by decide) ?_)
      refine zV_b (pc' := 60) (lv' := [(0, .inl l0), (1, .inr (.inl l1)), (3, .inr (.inl l3)), (5, .inl l5)]) (st' := [.inr (.inl (0 : Int64)), .inr (.inl l3)]) [(.lload_n 3, 1), (.lconst 0, 1)] (by decide +kernel) rfl ?_
      refine zV_lcmp_eq (off := 25) (tgt := 86) (by decide +kernel) (by decide +kernel) (by decide) h (fun c14 h => ?_) (fun c14 h => ?_)
      · refine zV_b (pc' := 87) (lv' := [(0, .inl l0), (1, .inr (.inl l1)), (3, .inr (.inl l3)), (5, .inl l5)]) (st' := [.inl (0 : Int32)]) [(.iconst 0, 1)] (by decide +kernel) rfl ?_
        exact zend_z h hR (by decide +kernel)
      · refine zV_b (pc' := 65) (lv' := [(0, .inl l0), (1, .inr (.inl l1)), (3, .inr (.inl l3)), (5, .inl l5)]) (st' := [.inr (.inl l1)]) [(.lload_n 1, 1)] (by decide +kernel) rfl ?_
        refine zV_ldc2 (by decide +kernel) zw_1185 ?_
        refine zV_b (pc' := 74) (lv' := [(0, .inl l0), (1, .inr (.inl l1)), (3, .inr (.inl l3)), (5, .inl l5)]) (st' := [.inr (.inl l3), .inr (.inl (((l1 * (100 : Int64)) + l3) - (1 : Int64)))]) [(.lmul, 1), (.lload_n 3, 1), (.ladd, 1), (.lconst 1, 1), (.lsub, 1), (.lload_n 3, 1)] (by decide +kernel) rfl ?_
        refine zV_ld (by decide +kernel) h (fun v17 _ h => ?_)
        refine zV_b (pc' := 78) (lv' := [(0, .inl l0), (1, .inr (.inl l1)), (3, .inr (.inl l3)), (5, .inl l5)]) (st' := [.inr (.inl (l5.toInt64)), .inr (.inl v17)]) [(.iload 5, 2), (.i2l, 1)] (by decide +kernel) rfl ?_
        refine zV_lcmp_gt (off := 7) (tgt := 86) (by decide +kernel) (by decide +kernel) (by decide) h (fun c18 h => ?_) (fun c18 h => ?_)
        · refine zV_b (pc' := 87) (lv' := [(0, .inl l0), (1, .inr (.inl l1)), (3, .inr (.inl l3)), (5, .inl l5)]) (st' := [.inl (0 : Int32)]) [(.iconst 0, 1)] (by decide +kernel) rfl ?_
          exact zend_z h hR (by decide +kernel)
        · refine zV_b (pc' := 83) (lv' := [(0, .inl l0), (1, .inr (.inl l1)), (3, .inr (.inl l3)), (5, .inl l5)]) (st' := [.inl (1 : Int32)]) [(.iconst 1, 1)] (by decide +kernel) rfl ?_
          refine zV_goto (off := 4) (tgt := 87) (by decide +kernel) (by decide) ?_
          exact zend_z h hR (by decide +kernel)
    · have h := (zite h).2 e1_1
      by_cases e1_2 : l0 = 3
      · have h := (zite h).1 e1_2
        refine zV_top e1_2 (zV_tin (tgt := 88) zd_X3_isSo_1 (by decide) (by decide) rfl (by decide) ?_)
        refine zV_b (pc' := 90) (lv' := [(0, .inl l0), (1, .inr (.inl l1)), (3, .inr (.inl l3)), (5, .inl l5)]) (st' := [.inr (.inl l3), .inr (.inl l1)]) [(.lload_n 1, 1), (.lload_n 3, 1)] (by decide +kernel) rfl ?_
        refine zV_lcmp_ne (off := 7) (tgt := 98) (by decide +kernel) (by decide +kernel) (by decide) h (fun c22 h => ?_) (fun c22 h => ?_)
        · refine zV_b (pc' := 95) (lv' := [(0, .inl l0), (1, .inr (.inl l1)), (3, .inr (.inl l3)), (5, .inl l5)]) (st' := [.inl (1 : Int32)]) [(.iconst 1, 1)] (by decide +kernel) rfl ?_
          refine zV_goto (off := 4) (tgt := 99) (by decide +kernel) (by decide) ?_
          exact zend_z h hR (by decide +kernel)
        · refine zV_b (pc' := 99) (lv' := [(0, .inl l0), (1, .inr (.inl l1)), (3, .inr (.inl l3)), (5, .inl l5)]) (st' := [.inl (0 : Int32)]) [(.iconst 0, 1)] (by decide +kernel) rfl ?_
          exact zend_z h hR (by decide +kernel)
      · have h := (zite h).2 e1_2
        by_cases e1_3 : l0 = 4
        · have h := (zite h).1 e1_3
          refine zV_top e1_3 (zV_tin (tgt := 100) zd_X3_isSo_1 (by decide) (by decide) rfl (by decide) ?_)
          refine zV_b (pc' := 102) (lv' := [(0, .inl l0), (1, .inr (.inl l1)), (3, .inr (.inl l3)), (5, .inl l5)]) (st' := [.inr (.inl (0 : Int64)), .inr (.inl l1)]) [(.lload_n 1, 1), (.lconst 0, 1)] (by decide +kernel) rfl ?_
          refine zV_lcmp_le (off := 7) (tgt := 110) (by decide +kernel) (by decide +kernel) (by decide) h (fun c26 h => ?_) (fun c26 h => ?_)
          · refine zV_b (pc' := 111) (lv' := [(0, .inl l0), (1, .inr (.inl l1)), (3, .inr (.inl l3)), (5, .inl l5)]) (st' := [.inl (0 : Int32)]) [(.iconst 0, 1)] (by decide +kernel) rfl ?_
            exact zend_z h hR (by decide +kernel)
          · refine zV_b (pc' := 107) (lv' := [(0, .inl l0), (1, .inr (.inl l1)), (3, .inr (.inl l3)), (5, .inl l5)]) (st' := [.inl (1 : Int32)]) [(.iconst 1, 1)] (by decide +kernel) rfl ?_
            refine zV_goto (off := 4) (tgt := 111) (by decide +kernel) (by decide) ?_
            exact zend_z h hR (by decide +kernel)
        · have h := (zite h).2 e1_3
          refine zV_tout (tgt := 112) zd_X3_isSo_1 (by have q1 := lv_neT e1_0 (show (1 : Int32).toInt = 1 by decide); have q2 := lv_neT e1_1 (show (2 : Int32).toInt = 2 by decide); have q3 := lv_neT e1_2 (show (3 : Int32).toInt = 3 by decide); have q4 := lv_neT e1_3 (show (4 : Int32).toInt = 4 by decide); omega) (by decide) ?_
          refine zV_b (pc' := 114) (lv' := [(0, .inl l0), (1, .inr (.inl l1)), (3, .inr (.inl l3)), (5, .inl l5)]) (st' := [.inr (.inl (0 : Int64)), .inr (.inl l1)]) [(.lload_n 1, 1), (.lconst 0, 1)] (by decide +kernel) rfl ?_
          refine zV_lcmp_ne (off := 7) (tgt := 122) (by decide +kernel) (by decide +kernel) (by decide) h (fun c2 h => ?_) (fun c2 h => ?_)
          · refine zV_b (pc' := 119) (lv' := [(0, .inl l0), (1, .inr (.inl l1)), (3, .inr (.inl l3)), (5, .inl l5)]) (st' := [.inl (1 : Int32)]) [(.iconst 1, 1)] (by decide +kernel) rfl ?_
            refine zV_goto (off := 4) (tgt := 123) (by decide +kernel) (by decide) ?_
            exact zend_z h hR (by decide +kernel)
          · refine zV_b (pc' := 123) (lv' := [(0, .inl l0), (1, .inr (.inl l1)), (3, .inr (.inl l3)), (5, .inl l5)]) (st' := [.inl (0 : Int32)]) [(.iconst 0, 1)] (by decide +kernel) rfl ?_
            exact zend_z h hR (by decide +kernel)
theorem zc_X3_isSo {M M' : Zm} {l0 : Int32} {l1 : Int64} {l3 : Int64} {l5 : Int32} {x : Int32} (h : zf_X3_isSo M l0 l1 l3 l5 = some (M', x)) (l : Launch) (D : va_G) (cy : Nat → ClassId) : zMet l yX3_isSo zC_X3_isSo (some .boolean) D cy [.inl l0, .inr (.inl l1), .inr (.inl l3), .inl l5] M M' (some (.inl x)) :=
  zM_b (by decide) rfl (fun h => by cases h) (Nat.le_of_ble_eq_true rfl) (fun X hR => zt_X3_isSo h hR)
-- BlendCellar$Label.answerOfLeaf(ILBlendCellar$Tally;)I
def zC_X3_answerOfLeaf : Zc := (cX3_answerOfLeaf, 7, RX3, 1, 26, false)
theorem zcl_X3_answerOfLeaf {C : Zc} (h1 : zC_X3_answerOfLeaf.2.2.2.1 + 1 ≤ C.2.2.2.1) (h2 : 8 + (zC_X3_answerOfLeaf.2.1 + 11) + zC_X3_answerOfLeaf.2.2.2.2.1 ≤ C.2.2.2.2.1) : zCl C yX3_answerOfLeaf zC_X3_answerOfLeaf (some .int) 2 := ⟨zw_1177, zw_122, ⟨by decide, by decide⟩, by decide +kernel, h1, h2⟩
noncomputable def zf_X3_answerOfLeaf_J42 (M : Zm) (l0 : Option Nat) (l1 : Int32) (l3 : Int64) (l5 : Int64) : Option (Zm × Int32) :=
  zb1 (zo_gr M l0 4 0) (fun v11 =>
  zb1 (zo_ai M v11 l1) (fun v12 =>
  zb1 (zo_gr M l0 4 3) (fun v13 =>
  zb1 (zo_ai M v13 l1) (fun v14 =>
  zbd (zf_X3_isSo M v12 l3 l5 v14) (fun M15 v15 =>
  (if v15 = 0 then
  some (M15, (0 : Int32))
  else
  some (M15, (1 : Int32))))))))
noncomputable def zf_X3_answerOfLeaf (M : Zm) (l0 : Option Nat) (l1 : Int32) (l2 : Option Nat) : Option (Zm × Int32) :=
  zb1 (zo_gr M l0 4 1) (fun v1 =>
  zb1 (zo_ai M v1 l1) (fun v2 =>
  zb1 (zo_gr M l0 4 2) (fun v3 =>
  zb1 (zo_ai M v3 l1) (fun v4 =>
  zb1 (zo_rc M l2 9) (fun _ => zbd (zf_X8_having M l2 v2 v4) (fun M5 v5 =>
  zb1 (zo_gj M5 l2 9 3) (fun v6 =>
  (if v6 = (0 : Int64) then
  zb1 (zo_gr M5 l0 4 0) (fun v8 =>
  zb1 (zo_ai M5 v8 l1) (fun v9 =>
  (if (2 : Int32) < v9 then
  zf_X3_answerOfLeaf_J42 M5 l0 l1 v5 v6
  else
  some (M5, (-1 : Int32)))))
  else
  zf_X3_answerOfLeaf_J42 M5 l0 l1 v5 v6))))))))
set_option maxRecDepth 100000 in
theorem zt_X3_answerOfLeaf_J42 {X : Zx} {M : Zm} {l0 : Option Nat} {l1 : Int32} {l3 : Int64} {l5 : Int64} {z : Zm × Int32} (h : zf_X3_answerOfLeaf_J42 M l0 l1 l3 l5 = some z) (hR : zRi X zC_X3_answerOfLeaf z.1 z.2) : zV X zC_X3_answerOfLeaf M 42 [(0, .inr (.inr l0)), (1, .inl l1), (3, .inr (.inl l3)), (5, .inr (.inl l5))] [] := by
  unfold zf_X3_answerOfLeaf_J42 at h
  refine zV_b (pc' := 43) (lv' := [(0, .inr (.inr l0)), (1, .inl l1), (3, .inr (.inl l3)), (5, .inr (.inl l5))]) (st' := [.inr (.inr l0)]) [(.aload_n 0, 1)] (by decide +kernel) rfl ?_
  refine zV_gr (by decide +kernel) zfl_RX3_9 (by decide) rfl h (fun v11 _ h => ?_)
  refine zV_b (pc' := 47) (lv' := [(0, .inr (.inr l0)), (1, .inl l1), (3, .inr (.inl l3)), (5, .inr (.inl l5))]) (st' := [.inl l1, .inr (.inr v11)]) [(.iload_n 1, 1)] (by decide +kernel) rfl ?_
  refine zV_ai (by decide +kernel) h (fun v12 _ h => ?_)
  refine zV_b (pc' := 52) (lv' := [(0, .inr (.inr l0)), (1, .inl l1), (3, .inr (.inl l3)), (5, .inr (.inl l5))]) (st' := [.inr (.inr l0), .inr (.inl l5), .inr (.inl l3), .inl v12]) [(.lload_n 3, 1), (.lload 5, 2), (.aload_n 0, 1)] (by decide +kernel) rfl ?_
  refine zV_gr (by decide +kernel) zfl_RX3_21 (by decide) rfl h (fun v13 _ h => ?_)
  refine zV_b (pc' := 56) (lv' := [(0, .inr (.inr l0)), (1, .inl l1), (3, .inr (.inl l3)), (5, .inr (.inl l5))]) (st' := [.inl l1, .inr (.inr v13), .inr (.inl l5), .inr (.inl l3), .inl v12]) [(.iload_n 1, 1)] (by decide +kernel) rfl ?_
  refine zV_ai (by decide +kernel) h (fun v14 _ h => ?_)
  refine zV_csi (As := [.inl v12, .inr (.inl l3), .inr (.inl l5), .inl v14]) (st := []) (by decide +kernel) (zcl_X3_isSo (by decide) (by decide)) ⟨zw_1182, zw_1183⟩ rfl rfl (Nat.le_of_ble_eq_true rfl) h (fun _ _ e => zc_X3_isSo e) (fun M15 v15 _ h => ?_)
  refine zV_if_eq (off := 7) (tgt := 67) (by decide +kernel) (by decide) h (fun c16 h => ?_) (fun c16 h => ?_)
  · refine zV_b (pc' := 68) (lv' := [(0, .inr (.inr l0)), (1, .inl l1), (3, .inr (.inl l3)), (5, .inr (.inl l5))]) (st' := [.inl (0 : Int32)]) [(.iconst 0, 1)] (by decide +kernel) rfl ?_
    exact zend_i h hR (by decide +kernel)
  · refine zV_b (pc' := 64) (lv' := [(0, .inr (.inr l0)), (1, .inl l1), (3, .inr (.inl l3)), (5, .inr (.inl l5))]) (st' := [.inl (1 : Int32)]) [(.iconst 1, 1)] (by decide +kernel) rfl ?_
    refine zV_goto (off := 4) (tgt := 68) (by decide +kernel) (by decide) ?_
    exact zend_i h hR (by decide +kernel)
set_option maxRecDepth 100000 in
theorem zt_X3_answerOfLeaf {X : Zx} {M : Zm} {l0 : Option Nat} {l1 : Int32} {l2 : Option Nat} {z : Zm × Int32} (h : zf_X3_answerOfLeaf M l0 l1 l2 = some z) (hR : zRi X zC_X3_answerOfLeaf z.1 z.2) : zV X zC_X3_answerOfLeaf M 0 [(0, .inr (.inr l0)), (1, .inl l1), (2, .inr (.inr l2))] [] := by
  unfold zf_X3_answerOfLeaf at h
  refine zV_b (pc' := 2) (lv' := [(0, .inr (.inr l0)), (1, .inl l1), (2, .inr (.inr l2))]) (st' := [.inr (.inr l0), .inr (.inr l2)]) [(.aload_n 2, 1), (.aload_n 0, 1)] (by decide +kernel) rfl ?_
  refine zV_gr (by decide +kernel) zfl_RX3_15 (by decide) rfl h (fun v1 _ h => ?_)
  refine zV_b (pc' := 6) (lv' := [(0, .inr (.inr l0)), (1, .inl l1), (2, .inr (.inr l2))]) (st' := [.inl l1, .inr (.inr v1), .inr (.inr l2)]) [(.iload_n 1, 1)] (by decide +kernel) rfl ?_
  refine zV_ai (by decide +kernel) h (fun v2 _ h => ?_)
  refine zV_b (pc' := 8) (lv' := [(0, .inr (.inr l0)), (1, .inl l1), (2, .inr (.inr l2))]) (st' := [.inr (.inr l0), .inl v2, .inr (.inr l2)]) [(.aload_n 0, 1)] (by decide +kernel) rfl ?_
  refine zV_gr (by decide +kernel) zfl_RX3_18 (by decide) rfl h (fun v3 _ h => ?_)
  refine zV_b (pc' := 12) (lv' := [(0, .inr (.inr l0)), (1, .inl l1), (2, .inr (.inr l2))]) (st' := [.inl l1, .inr (.inr v3), .inl v2, .inr (.inr l2)]) [(.iload_n 1, 1)] (by decide +kernel) rfl ?_
  refine zV_ai (by decide +kernel) h (fun v4 _ h => ?_)
  refine zV_cvj (As := [.inl v2, .inl v4]) (st := []) (c := 9) (by decide +kernel) (zcl_X8_having (by decide) (by decide)) ⟨zw_1178, zw_1179, zw_1180⟩ ⟨⟨_, _, rfl⟩, by decide⟩ rfl rfl (Nat.le_of_ble_eq_true rfl) h (fun _ _ e => zc_X8_having e) (fun M5 v5 _ h => ?_)
  refine zV_b (pc' := 18) (lv' := [(3, .inr (.inl v5)), (0, .inr (.inr l0)), (1, .inl l1), (2, .inr (.inr l2))]) (st' := [.inr (.inr l2)]) [(.lstore_n 3, 1), (.aload_n 2, 1)] (by decide +kernel) rfl ?_
  refine zV_gj (by decide +kernel) zfl_RX3_50 (by decide) rfl h (fun v6 _ h => ?_)
  refine zV_b (pc' := 26) (lv' := [(5, .inr (.inl v6)), (3, .inr (.inl v5)), (0, .inr (.inr l0)), (1, .inl l1), (2, .inr (.inr l2))]) (st' := [.inr (.inl (0 : Int64)), .inr (.inl v6)]) [(.lstore 5, 2), (.lload 5, 2), (.lconst 0, 1)] (by decide +kernel) rfl ?_
  refine zV_lcmp_ne (off := 15) (tgt := 42) (by decide +kernel) (by decide +kernel) (by decide) h (fun c7 h => ?_) (fun c7 h => ?_)
  · refine zV_b (pc' := 31) (lv' := [(5, .inr (.inl v6)), (3, .inr (.inl v5)), (0, .inr (.inr l0)), (1, .inl l1), (2, .inr (.inr l2))]) (st' := [.inr (.inr l0)]) [(.aload_n 0, 1)] (by decide +kernel) rfl ?_
    refine zV_gr (by decide +kernel) zfl_RX3_9 (by decide) rfl h (fun v8 _ h => ?_)
    refine zV_b (pc' := 35) (lv' := [(5, .inr (.inl v6)), (3, .inr (.inl v5)), (0, .inr (.inr l0)), (1, .inl l1), (2, .inr (.inr l2))]) (st' := [.inl l1, .inr (.inr v8)]) [(.iload_n 1, 1)] (by decide +kernel) rfl ?_
    refine zV_ai (by decide +kernel) h (fun v9 _ h => ?_)
    refine zV_b (pc' := 37) (lv' := [(5, .inr (.inl v6)), (3, .inr (.inl v5)), (0, .inr (.inr l0)), (1, .inl l1), (2, .inr (.inr l2))]) (st' := [.inl (2 : Int32), .inl v9]) [(.iconst 2, 1)] (by decide +kernel) rfl ?_
    refine zV_icmp_gt (off := 5) (tgt := 42) (by decide +kernel) (by decide) h (fun c10 h => ?_) (fun c10 h => ?_)
    · exact zV_lv (lv' := [(0, .inr (.inr l0)), (1, .inl l1), (3, .inr (.inl v5)), (5, .inr (.inl v6))]) [2, 3, 1, 0] rfl (zt_X3_answerOfLeaf_J42 h hR)
    · refine zV_b (pc' := 41) (lv' := [(5, .inr (.inl v6)), (3, .inr (.inl v5)), (0, .inr (.inr l0)), (1, .inl l1), (2, .inr (.inr l2))]) (st' := [.inl (-1 : Int32)]) [(.iconst (-1), 1)] (by decide +kernel) rfl ?_
      exact zend_i h hR (by decide +kernel)
  · exact zV_lv (lv' := [(0, .inr (.inr l0)), (1, .inl l1), (3, .inr (.inl v5)), (5, .inr (.inl v6))]) [2, 3, 1, 0] rfl (zt_X3_answerOfLeaf_J42 h hR)
theorem zc_X3_answerOfLeaf {M M' : Zm} {l0 : Option Nat} {l1 : Int32} {l2 : Option Nat} {x : Int32} (h : zf_X3_answerOfLeaf M l0 l1 l2 = some (M', x)) (l : Launch) (D : va_G) (cy : Nat → ClassId) : zMet l yX3_answerOfLeaf zC_X3_answerOfLeaf (some .int) D cy [.inr (.inr l0), .inl l1, .inr (.inr l2)] M M' (some (.inl x)) :=
  zM_i (by decide) rfl (fun h => by cases h) (Nat.le_of_ble_eq_true rfl) (fun X hR => zt_X3_answerOfLeaf h hR)
-- BlendCellar$Label.answerOf(ILBlendCellar$Tally;)I
def zC_X3_answerOf : Zc := (cX3_answerOf, 6, RX3, 2, 52, false)
theorem zcl_X3_answerOf {C : Zc} (h1 : zC_X3_answerOf.2.2.2.1 + 1 ≤ C.2.2.2.1) (h2 : 8 + (zC_X3_answerOf.2.1 + 11) + zC_X3_answerOf.2.2.2.2.1 ≤ C.2.2.2.2.1) : zCl C yX3_answerOf zC_X3_answerOf (some .int) 2 := ⟨zw_1173, zw_122, ⟨by decide, by decide⟩, by decide +kernel, h1, h2⟩
noncomputable def zf_X3_answerOf_L48 (p0 : Option Nat) (p2 : Option Nat) (p3 : Int32) (x : Zm × Int32) : Option ((Zm × Int32) ⊕ ((Zm × Int32) ⊕ (Zm × Int32))) := match x with
  | (M, l4) =>
  (if p3 ≤ l4 then
  some (.inr (.inl (M, l4)))
  else
  zb1 (zo_rc M p0 4) (fun _ => zbd (zf_X3_answerOfLeaf M p0 l4 p2) (fun M11 v11 =>
  (if v11 = 0 then
  some (.inl (M11, (l4 + 1)))
  else
  some (.inr (.inr (M11, v11)))))))
def zP_X3_answerOf_L48 (X : Zx) (p0 : Option Nat) (p2 : Option Nat) (p3 : Int32) (x : Zm × Int32) : Prop := match x with
  | (M, l4) => zV X zC_X3_answerOf M 48 [(0, .inr (.inr p0)), (2, .inr (.inr p2)), (3, .inl p3), (4, .inl l4)] []
def zK_X3_answerOf_L48 (X : Zx) (p0 : Option Nat) (p2 : Option Nat) (p3 : Int32) (y : (Zm × Int32) ⊕ (Zm × Int32)) : Prop := match y with
  | .inl (M, l4) => zV X zC_X3_answerOf M 77 [] []
  | .inr (M, x) => zRi X zC_X3_answerOf M x
noncomputable def zf_X3_answerOf_J39 (M : Zm) (l0 : Option Nat) (l1 : Int32) (l2 : Option Nat) (s0 : Int32) : Option (Zm × Int32) :=
  zb1 (zo_gr M l0 4 5) (fun v8 =>
  zb1 (zo_ai M v8 l1) (fun v9 =>
  zb1 (zwhile (zf_X3_answerOf_L48 l0 l2 s0) (M, v9)) (fun y15 => match y15 with
  | .inl (M48_15, l4_15) =>
  some (M48_15, (0 : Int32))
  | .inr q => some q)))
noncomputable def zf_X3_answerOf (M : Zm) (l0 : Option Nat) (l1 : Int32) (l2 : Option Nat) : Option (Zm × Int32) :=
  (if l1 < 0 then
  some (M, (0 : Int32))
  else
  zb1 (zo_gi M l0 4 6) (fun v3 =>
  (if l1 < v3 then
  zb1 (zo_gi M l0 4 6) (fun v5 =>
  (if v5 ≤ (l1 + (1 : Int32)) then
  zb1 (zo_gi M l0 4 4) (fun v7 =>
  zf_X3_answerOf_J39 M l0 l1 l2 v7)
  else
  zb1 (zo_gr M l0 4 5) (fun v17 =>
  zb1 (zo_ai M v17 (l1 + (1 : Int32))) (fun v18 =>
  zf_X3_answerOf_J39 M l0 l1 l2 v18))))
  else
  some (M, (0 : Int32)))))
set_option maxRecDepth 100000 in
theorem zt_X3_answerOf_L48 {X : Zx} {p0 : Option Nat} {p2 : Option Nat} {p3 : Int32} {x : Zm × Int32} {y : (Zm × Int32) ⊕ (Zm × Int32)} (h : zwhile (zf_X3_answerOf_L48 p0 p2 p3) x = some y) (hy : zK_X3_answerOf_L48 X p0 p2 p3 y) : zP_X3_answerOf_L48 X p0 p2 p3 x := by
  refine zwhile_ind (P := zP_X3_answerOf_L48 X p0 p2 p3) (K := zK_X3_answerOf_L48 X p0 p2 p3) ?_ h hy
  intro x z hf k1 k2
  obtain ⟨M, l4⟩ := x
  have h : zf_X3_answerOf_L48 p0 p2 p3 (M, l4) = some z := hf
  unfold zf_X3_answerOf_L48 at h
  show zV X zC_X3_answerOf M 48 [(0, .inr (.inr p0)), (2, .inr (.inr p2)), (3, .inl p3), (4, .inl l4)] []
  refine zV_b (pc' := 51) (lv' := [(0, .inr (.inr p0)), (2, .inr (.inr p2)), (3, .inl p3), (4, .inl l4)]) (st' := [.inl p3, .inl l4]) [(.iload 4, 2), (.iload_n 3, 1)] (by decide +kernel) rfl ?_
  refine zV_icmp_ge (off := 26) (tgt := 77) (by decide +kernel) (by decide) h (fun c10 h => ?_) (fun c10 h => ?_)
  · exact zV_lv (lv' := []) [] rfl (k2 _ (Option.some.inj h).symm)
  · refine zV_b (pc' := 58) (lv' := [(0, .inr (.inr p0)), (2, .inr (.inr p2)), (3, .inl p3), (4, .inl l4)]) (st' := [.inr (.inr p2), .inl l4, .inr (.inr p0)]) [(.aload_n 0, 1), (.iload 4, 2), (.aload_n 2, 1)] (by decide +kernel) rfl ?_
    refine zV_cvi (As := [.inl l4, .inr (.inr p2)]) (st := []) (c := 4) (by decide +kernel) (zcl_X3_answerOfLeaf (by decide) (by decide)) ⟨zw_1174, zw_1176, zw_49⟩ ⟨⟨_, _, rfl⟩, by decide⟩ rfl rfl (Nat.le_of_ble_eq_true rfl) h (fun _ _ e => zc_X3_answerOfLeaf e) (fun M11 v11 _ h => ?_)
    refine zV_b (pc' := 65) (lv' := [(5, .inl v11), (0, .inr (.inr p0)), (2, .inr (.inr p2)), (3, .inl p3), (4, .inl l4)]) (st' := [.inl v11]) [(.istore 5, 2), (.iload 5, 2)] (by decide +kernel) rfl ?_
    refine zV_if_eq (off := 6) (tgt := 71) (by decide +kernel) (by decide) h (fun c12 h => ?_) (fun c12 h => ?_)
    · refine zV_b (pc' := 74) (lv' := [(4, .inl (l4 + 1)), (5, .inl v11), (0, .inr (.inr p0)), (2, .inr (.inr p2)), (3, .inl p3)]) (st' := []) [(.iinc 4 1, 3)] (by decide +kernel) rfl ?_
      refine zV_goto (off := (-26)) (tgt := 48) (by decide +kernel) (by decide) ?_
      exact zV_lv (lv' := [(0, .inr (.inr p0)), (2, .inr (.inr p2)), (3, .inl p3), (4, .inl (l4 + 1))]) [2, 3, 4, 0] rfl (k1 _ (Option.some.inj h).symm)
    · refine zV_b (pc' := 70) (lv' := [(5, .inl v11), (0, .inr (.inr p0)), (2, .inr (.inr p2)), (3, .inl p3), (4, .inl l4)]) (st' := [.inl v11]) [(.iload 5, 2)] (by decide +kernel) rfl ?_
      have hq : zRi X zC_X3_answerOf M11 v11 := k2 _ (Option.some.inj h).symm
      exact hq _ _ (by decide +kernel)
set_option maxRecDepth 100000 in
theorem zt_X3_answerOf_J39 {X : Zx} {M : Zm} {l0 : Option Nat} {l1 : Int32} {l2 : Option Nat} {s0 : Int32} {z : Zm × Int32} (h : zf_X3_answerOf_J39 M l0 l1 l2 s0 = some z) (hR : zRi X zC_X3_answerOf z.1 z.2) : zV X zC_X3_answerOf M 39 [(0, .inr (.inr l0)), (1, .inl l1), (2, .inr (.inr l2))] [.inl s0] := by
  unfold zf_X3_answerOf_J39 at h
  refine zV_b (pc' := 41) (lv' := [(3, .inl s0), (0, .inr (.inr l0)), (1, .inl l1), (2, .inr (.inr l2))]) (st' := [.inr (.inr l0)]) [(.istore_n 3, 1), (.aload_n 0, 1)] (by decide +kernel) rfl ?_
  refine zV_gr (by decide +kernel) zfl_RX3_28 (by decide) rfl h (fun v8 _ h => ?_)
  refine zV_b (pc' := 45) (lv' := [(3, .inl s0), (0, .inr (.inr l0)), (1, .inl l1), (2, .inr (.inr l2))]) (st' := [.inl l1, .inr (.inr v8)]) [(.iload_n 1, 1)] (by decide +kernel) rfl ?_
  refine zV_ai (by decide +kernel) h (fun v9 _ h => ?_)
  refine zV_b (pc' := 48) (lv' := [(4, .inl v9), (3, .inl s0), (0, .inr (.inr l0)), (1, .inl l1), (2, .inr (.inr l2))]) (st' := []) [(.istore 4, 2)] (by decide +kernel) rfl ?_
  obtain ⟨y15, e15, h⟩ := zb1_inv h
  refine zV_lv (lv' := [(0, .inr (.inr l0)), (2, .inr (.inr l2)), (3, .inl s0), (4, .inl v9)]) [2, 4, 1, 0] rfl (zt_X3_answerOf_L48 e15 ?_)
  rcases y15 with ⟨M48_15, l4_15⟩ | ⟨Mq, xq⟩
  · show zV X zC_X3_answerOf M48_15 77 [] []
    refine zV_b (pc' := 78) (lv' := []) (st' := [.inl (0 : Int32)]) [(.iconst 0, 1)] (by decide +kernel) rfl ?_
    exact zend_i h hR (by decide +kernel)
  · cases h
    exact hR
set_option maxRecDepth 100000 in
theorem zt_X3_answerOf {X : Zx} {M : Zm} {l0 : Option Nat} {l1 : Int32} {l2 : Option Nat} {z : Zm × Int32} (h : zf_X3_answerOf M l0 l1 l2 = some z) (hR : zRi X zC_X3_answerOf z.1 z.2) : zV X zC_X3_answerOf M 0 [(0, .inr (.inr l0)), (1, .inl l1), (2, .inr (.inr l2))] [] := by
  unfold zf_X3_answerOf at h
  refine zV_b (pc' := 1) (lv' := [(0, .inr (.inr l0)), (1, .inl l1), (2, .inr (.inr l2))]) (st' := [.inl l1]) [(.iload_n 1, 1)] (by decide +kernel) rfl ?_
  refine zV_if_lt (off := 11) (tgt := 12) (by decide +kernel) (by decide) h (fun c1 h => ?_) (fun c1 h => ?_)
  · refine zV_b (pc' := 13) (lv' := [(0, .inr (.inr l0)), (1, .inl l1), (2, .inr (.inr l2))]) (st' := [.inl (0 : Int32)]) [(.iconst 0, 1)] (by decide +kernel) rfl ?_
    exact zend_i h hR (by decide +kernel)
  · refine zV_b (pc' := 6) (lv' := [(0, .inr (.inr l0)), (1, .inl l1), (2, .inr (.inr l2))]) (st' := [.inr (.inr l0), .inl l1]) [(.iload_n 1, 1), (.aload_n 0, 1)] (by decide +kernel) rfl ?_
    refine zV_gi (by decide +kernel) zfl_RX3_31 (by decide) rfl (Or.inl rfl) h (fun v3 _ h => ?_)
    refine zV_icmp_lt (off := 5) (tgt := 14) (by decide +kernel) (by decide) h (fun c4 h => ?_) (fun c4 h => ?_)
    · refine zV_b (pc' := 18) (lv' := [(0, .inr (.inr l0)), (1, .inl l1), (2, .inr (.inr l2))]) (st' := [.inr (.inr l0), .inl (l1 + (1 : Int32))]) [(.iload_n 1, 1), (.iconst 1, 1), (.iadd, 1), (.aload_n 0, 1)] (by decide +kernel) rfl ?_
      refine zV_gi (by decide +kernel) zfl_RX3_31 (by decide) rfl (Or.inl rfl) h (fun v5 _ h => ?_)
      refine zV_icmp_ge (off := 14) (tgt := 35) (by decide +kernel) (by decide) h (fun c6 h => ?_) (fun c6 h => ?_)
      · refine zV_b (pc' := 36) (lv' := [(0, .inr (.inr l0)), (1, .inl l1), (2, .inr (.inr l2))]) (st' := [.inr (.inr l0)]) [(.aload_n 0, 1)] (by decide +kernel) rfl ?_
        refine zV_gi (by decide +kernel) zfl_RX3_24 (by decide) rfl (Or.inl rfl) h (fun v7 _ h => ?_)
        exact zV_lv (lv' := [(0, .inr (.inr l0)), (1, .inl l1), (2, .inr (.inr l2))]) [0, 1, 2] rfl (zt_X3_answerOf_J39 h hR)
      · refine zV_b (pc' := 25) (lv' := [(0, .inr (.inr l0)), (1, .inl l1), (2, .inr (.inr l2))]) (st' := [.inr (.inr l0)]) [(.aload_n 0, 1)] (by decide +kernel) rfl ?_
        refine zV_gr (by decide +kernel) zfl_RX3_28 (by decide) rfl h (fun v17 _ h => ?_)
        refine zV_b (pc' := 31) (lv' := [(0, .inr (.inr l0)), (1, .inl l1), (2, .inr (.inr l2))]) (st' := [.inl (l1 + (1 : Int32)), .inr (.inr v17)]) [(.iload_n 1, 1), (.iconst 1, 1), (.iadd, 1)] (by decide +kernel) rfl ?_
        refine zV_ai (by decide +kernel) h (fun v18 _ h => ?_)
        refine zV_goto (off := 7) (tgt := 39) (by decide +kernel) (by decide) ?_
        exact zV_lv (lv' := [(0, .inr (.inr l0)), (1, .inl l1), (2, .inr (.inr l2))]) [0, 1, 2] rfl (zt_X3_answerOf_J39 h hR)
    · refine zV_b (pc' := 13) (lv' := [(0, .inr (.inr l0)), (1, .inl l1), (2, .inr (.inr l2))]) (st' := [.inl (0 : Int32)]) [(.iconst 0, 1)] (by decide +kernel) rfl ?_
      exact zend_i h hR (by decide +kernel)
theorem zc_X3_answerOf {M M' : Zm} {l0 : Option Nat} {l1 : Int32} {l2 : Option Nat} {x : Int32} (h : zf_X3_answerOf M l0 l1 l2 = some (M', x)) (l : Launch) (D : va_G) (cy : Nat → ClassId) : zMet l yX3_answerOf zC_X3_answerOf (some .int) D cy [.inr (.inr l0), .inl l1, .inr (.inr l2)] M M' (some (.inl x)) :=
  zM_i (by decide) rfl (fun h => by cases h) (Nat.le_of_ble_eq_true rfl) (fun X hR => zt_X3_answerOf h hR)
-- BlendCellar$Label.firstBroken(LBlendCellar$Tally;)I
def zC_X3_firstBroken : Zc := (cX3_firstBroken, 3, RX3, 3, 77, false)
theorem zcl_X3_firstBroken {C : Zc} (h1 : zC_X3_firstBroken.2.2.2.1 + 1 ≤ C.2.2.2.1) (h2 : 8 + (zC_X3_firstBroken.2.1 + 11) + zC_X3_firstBroken.2.2.2.2.1 ≤ C.2.2.2.2.1) : zCl C yX3_firstBroken zC_X3_firstBroken (some .int) 1 := ⟨zw_1169, zw_122, ⟨by decide, by decide⟩, by decide +kernel, h1, h2⟩
noncomputable def zf_X3_firstBroken_L2 (p0 : Option Nat) (p1 : Option Nat) (x : Zm × Int32) : Option ((Zm × Int32) ⊕ ((Zm × Int32) ⊕ (Zm × Int32))) := match x with
  | (M, l2) =>
  zb1 (zo_gi M p0 4 6) (fun v1 =>
  (if v1 ≤ l2 then
  some (.inr (.inl (M, l2)))
  else
  zb1 (zo_rc M p0 4) (fun _ => zbd (zf_X3_answerOf M p0 l2 p1) (fun M3 v3 =>
  (if v3 = (1 : Int32) then
  some (.inl (M3, (l2 + 1)))
  else
  some (.inr (.inr (M3, l2))))))))
def zP_X3_firstBroken_L2 (X : Zx) (p0 : Option Nat) (p1 : Option Nat) (x : Zm × Int32) : Prop := match x with
  | (M, l2) => zV X zC_X3_firstBroken M 2 [(0, .inr (.inr p0)), (1, .inr (.inr p1)), (2, .inl l2)] []
def zK_X3_firstBroken_L2 (X : Zx) (p0 : Option Nat) (p1 : Option Nat) (y : (Zm × Int32) ⊕ (Zm × Int32)) : Prop := match y with
  | .inl (M, l2) => zV X zC_X3_firstBroken M 28 [] []
  | .inr (M, x) => zRi X zC_X3_firstBroken M x
noncomputable def zf_X3_firstBroken (M : Zm) (l0 : Option Nat) (l1 : Option Nat) : Option (Zm × Int32) :=
  zb1 (zwhile (zf_X3_firstBroken_L2 l0 l1) (M, (0 : Int32))) (fun y7 => match y7 with
  | .inl (M2_7, l2_7) =>
  some (M2_7, (-1 : Int32))
  | .inr q => some q)
set_option maxRecDepth 100000 in
theorem zt_X3_firstBroken_L2 {X : Zx} {p0 : Option Nat} {p1 : Option Nat} {x : Zm × Int32} {y : (Zm × Int32) ⊕ (Zm × Int32)} (h : zwhile (zf_X3_firstBroken_L2 p0 p1) x = some y) (hy : zK_X3_firstBroken_L2 X p0 p1 y) : zP_X3_firstBroken_L2 X p0 p1 x := by
  refine zwhile_ind (P := zP_X3_firstBroken_L2 X p0 p1) (K := zK_X3_firstBroken_L2 X p0 p1) ?_ h hy
  intro x z hf k1 k2
  obtain ⟨M, l2⟩ := x
  have h : zf_X3_firstBroken_L2 p0 p1 (M, l2) = some z := hf
  unfold zf_X3_firstBroken_L2 at h
  show zV X zC_X3_firstBroken M 2 [(0, .inr (.inr p0)), (1, .inr (.inr p1)), (2, .inl l2)] []
  refine zV_b (pc' := 4) (lv' := [(0, .inr (.inr p0)), (1, .inr (.inr p1)), (2, .inl l2)]) (st' := [.inr (.inr p0), .inl l2]) [(.iload_n 2, 1), (.aload_n 0, 1)] (by decide +kernel) rfl ?_
  refine zV_gi (by decide +kernel) zfl_RX3_31 (by decide) rfl (Or.inl rfl) h (fun v1 _ h => ?_)
  refine zV_icmp_ge (off := 21) (tgt := 28) (by decide +kernel) (by decide) h (fun c2 h => ?_) (fun c2 h => ?_)
  · exact zV_lv (lv' := []) [] rfl (k2 _ (Option.some.inj h).symm)
  · refine zV_b (pc' := 13) (lv' := [(0, .inr (.inr p0)), (1, .inr (.inr p1)), (2, .inl l2)]) (st' := [.inr (.inr p1), .inl l2, .inr (.inr p0)]) [(.aload_n 0, 1), (.iload_n 2, 1), (.aload_n 1, 1)] (by decide +kernel) rfl ?_
    refine zV_cvi (As := [.inl l2, .inr (.inr p1)]) (st := []) (c := 4) (by decide +kernel) (zcl_X3_answerOf (by decide) (by decide)) ⟨zw_1170, zw_1171, zw_1172⟩ ⟨⟨_, _, rfl⟩, by decide⟩ rfl rfl (Nat.le_of_ble_eq_true rfl) h (fun _ _ e => zc_X3_answerOf e) (fun M3 v3 _ h => ?_)
    refine zV_b (pc' := 17) (lv' := [(0, .inr (.inr p0)), (1, .inr (.inr p1)), (2, .inl l2)]) (st' := [.inl (1 : Int32), .inl v3]) [(.iconst 1, 1)] (by decide +kernel) rfl ?_
    refine zV_icmp_eq (off := 5) (tgt := 22) (by decide +kernel) (by decide) h (fun c4 h => ?_) (fun c4 h => ?_)
    · refine zV_b (pc' := 25) (lv' := [(2, .inl (l2 + 1)), (0, .inr (.inr p0)), (1, .inr (.inr p1))]) (st' := []) [(.iinc 2 1, 3)] (by decide +kernel) rfl ?_
      refine zV_goto (off := (-23)) (tgt := 2) (by decide +kernel) (by decide) ?_
      exact zV_lv (lv' := [(0, .inr (.inr p0)), (1, .inr (.inr p1)), (2, .inl (l2 + 1))]) [1, 2, 0] rfl (k1 _ (Option.some.inj h).symm)
    · refine zV_b (pc' := 21) (lv' := [(0, .inr (.inr p0)), (1, .inr (.inr p1)), (2, .inl l2)]) (st' := [.inl l2]) [(.iload_n 2, 1)] (by decide +kernel) rfl ?_
      have hq : zRi X zC_X3_firstBroken M3 l2 := k2 _ (Option.some.inj h).symm
      exact hq _ _ (by decide +kernel)
set_option maxRecDepth 100000 in
theorem zt_X3_firstBroken {X : Zx} {M : Zm} {l0 : Option Nat} {l1 : Option Nat} {z : Zm × Int32} (h : zf_X3_firstBroken M l0 l1 = some z) (hR : zRi X zC_X3_firstBroken z.1 z.2) : zV X zC_X3_firstBroken M 0 [(0, .inr (.inr l0)), (1, .inr (.inr l1))] [] := by
  unfold zf_X3_firstBroken at h
  refine zV_b (pc' := 2) (lv' := [(2, .inl (0 : Int32)), (0, .inr (.inr l0)), (1, .inr (.inr l1))]) (st' := []) [(.iconst 0, 1), (.istore_n 2, 1)] (by decide +kernel) rfl ?_
  obtain ⟨y7, e7, h⟩ := zb1_inv h
  refine zV_lv (lv' := [(0, .inr (.inr l0)), (1, .inr (.inr l1)), (2, .inl (0 : Int32))]) [1, 2, 0] rfl (zt_X3_firstBroken_L2 e7 ?_)
  rcases y7 with ⟨M2_7, l2_7⟩ | ⟨Mq, xq⟩
  · show zV X zC_X3_firstBroken M2_7 28 [] []
    refine zV_b (pc' := 29) (lv' := []) (st' := [.inl (-1 : Int32)]) [(.iconst (-1), 1)] (by decide +kernel) rfl ?_
    exact zend_i h hR (by decide +kernel)
  · cases h
    exact hR
theorem zc_X3_firstBroken {M M' : Zm} {l0 : Option Nat} {l1 : Option Nat} {x : Int32} (h : zf_X3_firstBroken M l0 l1 = some (M', x)) (l : Launch) (D : va_G) (cy : Nat → ClassId) : zMet l yX3_firstBroken zC_X3_firstBroken (some .int) D cy [.inr (.inr l0), .inr (.inr l1)] M M' (some (.inl x)) :=
  zM_i (by decide) rfl (fun h => by cases h) (Nat.le_of_ble_eq_true rfl) (fun X hR => zt_X3_firstBroken h hR)
-- BlendCellar$Label.uniteLastTwo()V
def zC_X3_uniteLastTwo : Zc := (cX3_uniteLastTwo, 1, RX3, 0, 0, false)
theorem zcl_X3_uniteLastTwo {C : Zc} (h1 : zC_X3_uniteLastTwo.2.2.2.1 + 1 ≤ C.2.2.2.1) (h2 : 8 + (zC_X3_uniteLastTwo.2.1 + 11) + zC_X3_uniteLastTwo.2.2.2.2.1 ≤ C.2.2.2.2.1) : zCl C yX3_uniteLastTwo zC_X3_uniteLastTwo none 0 := ⟨zw_1135, zw_122, ⟨by decide, by decide⟩, by decide +kernel, h1, h2⟩
noncomputable def zf_X3_uniteLastTwo (M : Zm) (l0 : Option Nat) : Option (Zm × Unit) :=
  zb1 (zo_gi M l0 4 6) (fun v1 =>
  zb1 (zo_pi M l0 4 6 (v1 - (1 : Int32))) (fun M2 =>
  zb1 (zo_gi M2 l0 4 7) (fun v3 =>
  zb1 (zo_pi M2 l0 4 7 (v3 + (1 : Int32))) (fun M4 =>
  some (M4, ())))))
set_option maxRecDepth 100000 in
theorem zt_X3_uniteLastTwo {X : Zx} {M : Zm} {l0 : Option Nat} {z : Zm × Unit} (h : zf_X3_uniteLastTwo M l0 = some z) (hR : zRv X zC_X3_uniteLastTwo z.1) : zV X zC_X3_uniteLastTwo M 0 [(0, .inr (.inr l0))] [] := by
  unfold zf_X3_uniteLastTwo at h
  refine zV_b (pc' := 2) (lv' := [(0, .inr (.inr l0))]) (st' := [.inr (.inr l0), .inr (.inr l0)]) [(.aload_n 0, 1), (.dup, 1)] (by decide +kernel) rfl ?_
  refine zV_gi (by decide +kernel) zfl_RX3_31 (by decide) rfl (Or.inl rfl) h (fun v1 _ h => ?_)
  refine zV_b (pc' := 7) (lv' := [(0, .inr (.inr l0))]) (st' := [.inl (v1 - (1 : Int32)), .inr (.inr l0)]) [(.iconst 1, 1), (.isub, 1)] (by decide +kernel) rfl ?_
  refine zV_pi (by decide +kernel) zfp_RX3_31 (by decide) rfl h (fun M2 _ h => ?_)
  refine zV_b (pc' := 12) (lv' := [(0, .inr (.inr l0))]) (st' := [.inr (.inr l0), .inr (.inr l0)]) [(.aload_n 0, 1), (.dup, 1)] (by decide +kernel) rfl ?_
  refine zV_gi (by decide +kernel) zfl_RX3_34 (by decide) rfl (Or.inl rfl) h (fun v3 _ h => ?_)
  refine zV_b (pc' := 17) (lv' := [(0, .inr (.inr l0))]) (st' := [.inl (v3 + (1 : Int32)), .inr (.inr l0)]) [(.iconst 1, 1), (.iadd, 1)] (by decide +kernel) rfl ?_
  refine zV_pi (by decide +kernel) zfp_RX3_34 (by decide) rfl h (fun M4 _ h => ?_)
  exact zend_v h hR (by decide +kernel)
theorem zc_X3_uniteLastTwo {M M' : Zm} {l0 : Option Nat} {x : Unit} (h : zf_X3_uniteLastTwo M l0 = some (M', x)) (l : Launch) (D : va_G) (cy : Nat → ClassId) : zMet l yX3_uniteLastTwo zC_X3_uniteLastTwo none D cy [.inr (.inr l0)] M M' none :=
  zM_v (by decide) rfl (fun h => by cases h) (Nat.le_of_ble_eq_true rfl) (fun X hR => zt_X3_uniteLastTwo h hR)
