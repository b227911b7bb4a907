/-! What the bytecode does, as functions of the memory, and the walks (written by wip/gen.py). -/
-- BlendCellar$Before.<init>()V
def zC_X1_init : Zc := (cX1_init, 1, RX1, 4, 72, true)
theorem zcl_X1_init {C : Zc} (h1 : zC_X1_init.2.2.2.1 + 1 ≤ C.2.2.2.1) (h2 : 8 + (zC_X1_init.2.1 + 11) + zC_X1_init.2.2.2.2.1 ≤ C.2.2.2.2.1) : zCl C yX1_init zC_X1_init none 0 := ⟨zw_324, zw_112, ⟨by decide, by decide⟩, by decide +kernel, h1, h2⟩
noncomputable def zf_X1_init (M : Zm) (l0 : Option Nat) : Option (Zm × Unit) :=
  zb1 (zo_rc M l0 2) (fun _ =>
  zb1 (zo_pz M l0 2 0 (0 : Int32)) (fun M2 =>
  zb1 (zo_pi M2 l0 2 1 (0 : Int32)) (fun M3 =>
  zb1 (zo_pi M3 l0 2 2 (0 : Int32)) (fun M4 =>
  zb1 (zo_pi M4 l0 2 3 (0 : Int32)) (fun M5 =>
  zb1 (zo_pi M5 l0 2 4 (0 : Int32)) (fun M6 =>
  zb1 (zo_pi M6 l0 2 5 (-1 : Int32)) (fun M7 =>
  zb1 (zo_pi M7 l0 2 6 (-1 : Int32)) (fun M8 =>
  zb1 (zo_pi M8 l0 2 7 (-1 : Int32)) (fun M9 =>
  zb1 (zo_pi M9 l0 2 8 (-1 : Int32)) (fun M10 =>
  zb1 (zo_n M10 11 4) (fun M11 =>
  zb1 (zo_rc M11 (zm_nx M10) 11) (fun _ => zbd (zf_X10_init M11 (zm_nx M10)) (fun M12 _ =>
  zb1 (zo_pr M12 l0 2 9 (zm_nx M10)) (fun M13 =>
  zb1 (zo_n M13 0 3) (fun M14 =>
  zb1 (zo_rc M14 (zm_nx M13) 0) (fun _ => zbd (zf_Jx4a65c_init_da8c8 M14 (zm_nx M13)) (fun M15 _ =>
  zb1 (zo_pr M15 l0 2 10 (zm_nx M13)) (fun M16 =>
  some (M16, ())))))))))))))))))))
set_option maxRecDepth 100000 in
theorem zt_X1_init {X : Zx} {M : Zm} {l0 : Option Nat} {z : Zm × Unit} (h : zf_X1_init M l0 = some z) (hR : zRv X zC_X1_init z.1) : zV X zC_X1_init M 0 [(0, .inr (.inr l0))] [] := by
  unfold zf_X1_init at h
  refine zV_b (pc' := 1) (lv' := [(0, .inr (.inr l0))]) (st' := [.inr (.inr l0)]) [(.aload_n 0, 1)] (by decide +kernel) rfl ?_
  refine zV_oo (by decide +kernel) zw_325 (by decide) (by decide) h (fun _ _ h => ?_)
  refine zV_b (pc' := 6) (lv' := [(0, .inr (.inr l0))]) (st' := [.inl (0 : Int32), .inr (.inr l0)]) [(.aload_n 0, 1), (.iconst 0, 1)] (by decide +kernel) rfl ?_
  refine zV_pz (by decide +kernel) zfp_RX1_9_i (by decide) rfl h (fun M2 _ h => ?_)
  refine zV_b (pc' := 11) (lv' := [(0, .inr (.inr l0))]) (st' := [.inl (0 : Int32), .inr (.inr l0)]) [(.aload_n 0, 1), (.iconst 0, 1)] (by decide +kernel) rfl ?_
  refine zV_pi (by decide +kernel) zfp_RX1_15_i (by decide) rfl h (fun M3 _ h => ?_)
  refine zV_b (pc' := 16) (lv' := [(0, .inr (.inr l0))]) (st' := [.inl (0 : Int32), .inr (.inr l0)]) [(.aload_n 0, 1), (.iconst 0, 1)] (by decide +kernel) rfl ?_
  refine zV_pi (by decide +kernel) zfp_RX1_19_i (by decide) rfl h (fun M4 _ h => ?_)
  refine zV_b (pc' := 21) (lv' := [(0, .inr (.inr l0))]) (st' := [.inl (0 : Int32), .inr (.inr l0)]) [(.aload_n 0, 1), (.iconst 0, 1)] (by decide +kernel) rfl ?_
  refine zV_pi (by decide +kernel) zfp_RX1_22_i (by decide) rfl h (fun M5 _ h => ?_)
  refine zV_b (pc' := 26) (lv' := [(0, .inr (.inr l0))]) (st' := [.inl (0 : Int32), .inr (.inr l0)]) [(.aload_n 0, 1), (.iconst 0, 1)] (by decide +kernel) rfl ?_
  refine zV_pi (by decide +kernel) zfp_RX1_25_i (by decide) rfl h (fun M6 _ h => ?_)
  refine zV_b (pc' := 31) (lv' := [(0, .inr (.inr l0))]) (st' := [.inl (-1 : Int32), .inr (.inr l0)]) [(.aload_n 0, 1), (.iconst (-1), 1)] (by decide +kernel) rfl ?_
  refine zV_pi (by decide +kernel) zfp_RX1_28_i (by decide) rfl h (fun M7 _ h => ?_)
  refine zV_b (pc' := 36) (lv' := [(0, .inr (.inr l0))]) (st' := [.inl (-1 : Int32), .inr (.inr l0)]) [(.aload_n 0, 1), (.iconst (-1), 1)] (by decide +kernel) rfl ?_
  refine zV_pi (by decide +kernel) zfp_RX1_31_i (by decide) rfl h (fun M8 _ h => ?_)
  refine zV_b (pc' := 41) (lv' := [(0, .inr (.inr l0))]) (st' := [.inl (-1 : Int32), .inr (.inr l0)]) [(.aload_n 0, 1), (.iconst (-1), 1)] (by decide +kernel) rfl ?_
  refine zV_pi (by decide +kernel) zfp_RX1_34_i (by decide) rfl h (fun M9 _ h => ?_)
  refine zV_b (pc' := 46) (lv' := [(0, .inr (.inr l0))]) (st' := [.inl (-1 : Int32), .inr (.inr l0)]) [(.aload_n 0, 1), (.iconst (-1), 1)] (by decide +kernel) rfl ?_
  refine zV_pi (by decide +kernel) zfp_RX1_37_i (by decide) rfl h (fun M10 _ h => ?_)
  refine zV_b (pc' := 50) (lv' := [(0, .inr (.inr l0))]) (st' := [.inr (.inr l0)]) [(.aload_n 0, 1)] (by decide +kernel) rfl ?_
  refine zV_n (by decide +kernel) znw_RX1_40 h (fun M11 _ h => ?_)
  refine zV_b (pc' := 54) (lv' := [(0, .inr (.inr l0))]) (st' := [.inr (.inr (zm_nx M10)), .inr (.inr (zm_nx M10)), .inr (.inr l0)]) [(.dup, 1)] (by decide +kernel) rfl ?_
  refine zV_cin (As := []) (st := [.inr (.inr (zm_nx M10)), .inr (.inr l0)]) (c := 11) (by decide +kernel) (zcl_X10_init (by decide) (by decide)) ⟨⟨_, zw_327⟩, rfl, zw_249⟩ rfl rfl (Nat.le_of_ble_eq_true rfl) h (fun _ _ e => zc_X10_init e) (fun M12 _ _ h => ?_)
  refine zV_pr (by decide +kernel) zfp_RX1_43_i (Or.inl ⟨_, rfl⟩) (by decide) rfl h (fun M13 _ h => ?_)
  refine zV_b (pc' := 61) (lv' := [(0, .inr (.inr l0))]) (st' := [.inr (.inr l0)]) [(.aload_n 0, 1)] (by decide +kernel) rfl ?_
  refine zV_n (by decide +kernel) znw_RX1_47 h (fun M14 _ h => ?_)
  refine zV_b (pc' := 65) (lv' := [(0, .inr (.inr l0))]) (st' := [.inr (.inr (zm_nx M13)), .inr (.inr (zm_nx M13)), .inr (.inr l0)]) [(.dup, 1)] (by decide +kernel) rfl ?_
  refine zV_cii (As := []) (st := [.inr (.inr (zm_nx M13)), .inr (.inr l0)]) (c := 0) (by decide +kernel) (zcl_Jx4a65c_init_da8c8 (by decide) (by decide)) ⟨zw_329, rfl, zw_134⟩ rfl rfl (Nat.le_of_ble_eq_true rfl) h (fun _ _ e => zc_Jx4a65c_init_da8c8 e) (fun M15 _ _ h => ?_)
  refine zV_pr (by decide +kernel) zfp_RX1_50_i (Or.inl ⟨_, rfl⟩) (by decide) rfl h (fun M16 _ h => ?_)
  exact zend_v h hR (by decide +kernel)
theorem zc_X1_init {M M' : Zm} {l0 : Option Nat} {x : Unit} (h : zf_X1_init M l0 = some (M', x)) (l : Launch) (D : va_G) (cy : Nat → ClassId) : zMet l yX1_init zC_X1_init none D cy [.inr (.inr l0)] M M' none :=
  zM_v (by decide) rfl (fun _ => rfl) (Nat.le_of_ble_eq_true rfl) (fun X hR => zt_X1_init h hR)
-- BlendCellar$Before.begin(IIII)V
def zC_X1_begin : Zc := (cX1_begin, 5, RX1, 1, 23, false)
theorem zcl_X1_begin {C : Zc} (h1 : zC_X1_begin.2.2.2.1 + 1 ≤ C.2.2.2.1) (h2 : 8 + (zC_X1_begin.2.1 + 11) + zC_X1_begin.2.2.2.2.1 ≤ C.2.2.2.2.1) : zCl C yX1_begin zC_X1_begin none 4 := ⟨zw_480, zw_112, ⟨by decide, by decide⟩, by decide +kernel, h1, h2⟩
noncomputable def zf_X1_begin (M : Zm) (l0 : Option Nat) (l1 : Int32) (l2 : Int32) (l3 : Int32) (l4 : Int32) : Option (Zm × Unit) :=
  zb1 (zo_pz M l0 2 0 (1 : Int32)) (fun M1 =>
  zb1 (zo_pi M1 l0 2 1 l1) (fun M2 =>
  zb1 (zo_pi M2 l0 2 2 l2) (fun M3 =>
  zb1 (zo_pi M3 l0 2 3 l3) (fun M4 =>
  zb1 (zo_pi M4 l0 2 4 l4) (fun M5 =>
  zb1 (zo_pi M5 l0 2 5 (-1 : Int32)) (fun M6 =>
  zb1 (zo_pi M6 l0 2 8 (-1 : Int32)) (fun M7 =>
  zb1 (zo_gr M7 l0 2 10) (fun v8 =>
  zb1 (zo_rc M7 v8 0) (fun _ => zbd (zf_Jx4a65c_clear_da8c8 M7 v8) (fun M9 _ =>
  some (M9, ())))))))))))
set_option maxRecDepth 100000 in
theorem zt_X1_begin {X : Zx} {M : Zm} {l0 : Option Nat} {l1 : Int32} {l2 : Int32} {l3 : Int32} {l4 : Int32} {z : Zm × Unit} (h : zf_X1_begin M l0 l1 l2 l3 l4 = some z) (hR : zRv X zC_X1_begin z.1) : zV X zC_X1_begin M 0 [(0, .inr (.inr l0)), (1, .inl l1), (2, .inl l2), (3, .inl l3), (4, .inl l4)] [] := by
  unfold zf_X1_begin at h
  refine zV_b (pc' := 2) (lv' := [(0, .inr (.inr l0)), (1, .inl l1), (2, .inl l2), (3, .inl l3), (4, .inl l4)]) (st' := [.inl (1 : Int32), .inr (.inr l0)]) [(.aload_n 0, 1), (.iconst 1, 1)] (by decide +kernel) rfl ?_
  refine zV_pz (by decide +kernel) zfp_RX1_9 (by decide) rfl h (fun M1 _ h => ?_)
  refine zV_b (pc' := 7) (lv' := [(0, .inr (.inr l0)), (1, .inl l1), (2, .inl l2), (3, .inl l3), (4, .inl l4)]) (st' := [.inl l1, .inr (.inr l0)]) [(.aload_n 0, 1), (.iload_n 1, 1)] (by decide +kernel) rfl ?_
  refine zV_pi (by decide +kernel) zfp_RX1_15 (by decide) rfl h (fun M2 _ h => ?_)
  refine zV_b (pc' := 12) (lv' := [(0, .inr (.inr l0)), (1, .inl l1), (2, .inl l2), (3, .inl l3), (4, .inl l4)]) (st' := [.inl l2, .inr (.inr l0)]) [(.aload_n 0, 1), (.iload_n 2, 1)] (by decide +kernel) rfl ?_
  refine zV_pi (by decide +kernel) zfp_RX1_19 (by decide) rfl h (fun M3 _ h => ?_)
  refine zV_b (pc' := 17) (lv' := [(0, .inr (.inr l0)), (1, .inl l1), (2, .inl l2), (3, .inl l3), (4, .inl l4)]) (st' := [.inl l3, .inr (.inr l0)]) [(.aload_n 0, 1), (.iload_n 3, 1)] (by decide +kernel) rfl ?_
  refine zV_pi (by decide +kernel) zfp_RX1_22 (by decide) rfl h (fun M4 _ h => ?_)
  refine zV_b (pc' := 23) (lv' := [(0, .inr (.inr l0)), (1, .inl l1), (2, .inl l2), (3, .inl l3), (4, .inl l4)]) (st' := [.inl l4, .inr (.inr l0)]) [(.aload_n 0, 1), (.iload 4, 2)] (by decide +kernel) rfl ?_
  refine zV_pi (by decide +kernel) zfp_RX1_25 (by decide) rfl h (fun M5 _ h => ?_)
  refine zV_b (pc' := 28) (lv' := [(0, .inr (.inr l0)), (1, .inl l1), (2, .inl l2), (3, .inl l3), (4, .inl l4)]) (st' := [.inl (-1 : Int32), .inr (.inr l0)]) [(.aload_n 0, 1), (.iconst (-1), 1)] (by decide +kernel) rfl ?_
  refine zV_pi (by decide +kernel) zfp_RX1_28 (by decide) rfl h (fun M6 _ h => ?_)
  refine zV_b (pc' := 33) (lv' := [(0, .inr (.inr l0)), (1, .inl l1), (2, .inl l2), (3, .inl l3), (4, .inl l4)]) (st' := [.inl (-1 : Int32), .inr (.inr l0)]) [(.aload_n 0, 1), (.iconst (-1), 1)] (by decide +kernel) rfl ?_
  refine zV_pi (by decide +kernel) zfp_RX1_37 (by decide) rfl h (fun M7 _ h => ?_)
  refine zV_b (pc' := 37) (lv' := [(0, .inr (.inr l0)), (1, .inl l1), (2, .inl l2), (3, .inl l3), (4, .inl l4)]) (st' := [.inr (.inr l0)]) [(.aload_n 0, 1)] (by decide +kernel) rfl ?_
  refine zV_gr (by decide +kernel) zfl_RX1_50 (by decide) rfl h (fun v8 _ h => ?_)
  refine zV_cvv (As := []) (st := []) (c := 0) (by decide +kernel) (zcl_Jx4a65c_clear_da8c8 (by decide) (by decide)) ⟨zw_481, zw_482, zw_483⟩ ⟨⟨_, _, rfl⟩, by decide⟩ rfl rfl (Nat.le_of_ble_eq_true rfl) h (fun _ _ e => zc_Jx4a65c_clear_da8c8 e) (fun M9 _ _ h => ?_)
  exact zend_v h hR (by decide +kernel)
theorem zc_X1_begin {M M' : Zm} {l0 : Option Nat} {l1 : Int32} {l2 : Int32} {l3 : Int32} {l4 : Int32} {x : Unit} (h : zf_X1_begin M l0 l1 l2 l3 l4 = some (M', x)) (l : Launch) (D : va_G) (cy : Nat → ClassId) : zMet l yX1_begin zC_X1_begin none D cy [.inr (.inr l0), .inl l1, .inl l2, .inl l3, .inl l4] M M' none :=
  zM_v (by decide) rfl (fun h => by cases h) (Nat.le_of_ble_eq_true rfl) (fun X hR => zt_X1_begin h hR)
-- BlendCellar$Before.keepAccount(ILBlendCellar$Wine;)V
def zC_X1_keepAccount : Zc := (cX1_keepAccount, 3, RX1, 2, 47, false)
theorem zcl_X1_keepAccount {C : Zc} (h1 : zC_X1_keepAccount.2.2.2.1 + 1 ≤ C.2.2.2.1) (h2 : 8 + (zC_X1_keepAccount.2.1 + 11) + zC_X1_keepAccount.2.2.2.2.1 ≤ C.2.2.2.2.1) : zCl C yX1_keepAccount zC_X1_keepAccount none 2 := ⟨zw_820, zw_112, ⟨by decide, by decide⟩, by decide +kernel, h1, h2⟩
noncomputable def zf_X1_keepAccount (M : Zm) (l0 : Option Nat) (l1 : Int32) (l2 : Option Nat) : Option (Zm × Unit) :=
  zb1 (zo_pi M l0 2 8 l1) (fun M1 =>
  zb1 (zo_gr M1 l0 2 9) (fun v2 =>
  zb1 (zo_rc M1 v2 11) (fun _ => zbd (zf_X10_copyFrom M1 v2 l2) (fun M3 _ =>
  some (M3, ())))))
set_option maxRecDepth 100000 in
theorem zt_X1_keepAccount {X : Zx} {M : Zm} {l0 : Option Nat} {l1 : Int32} {l2 : Option Nat} {z : Zm × Unit} (h : zf_X1_keepAccount M l0 l1 l2 = some z) (hR : zRv X zC_X1_keepAccount z.1) : zV X zC_X1_keepAccount M 0 [(0, .inr (.inr l0)), (1, .inl l1), (2, .inr (.inr l2))] [] := by
  unfold zf_X1_keepAccount at h
  refine zV_b (pc' := 2) (lv' := [(0, .inr (.inr l0)), (1, .inl l1), (2, .inr (.inr l2))]) (st' := [.inl l1, .inr (.inr l0)]) [(.aload_n 0, 1), (.iload_n 1, 1)] (by decide +kernel) rfl ?_
  refine zV_pi (by decide +kernel) zfp_RX1_37 (by decide) rfl h (fun M1 _ h => ?_)
  refine zV_b (pc' := 6) (lv' := [(0, .inr (.inr l0)), (1, .inl l1), (2, .inr (.inr l2))]) (st' := [.inr (.inr l0)]) [(.aload_n 0, 1)] (by decide +kernel) rfl ?_
  refine zV_gr (by decide +kernel) zfl_RX1_43 (by decide) rfl h (fun v2 _ h => ?_)
  refine zV_b (pc' := 10) (lv' := [(0, .inr (.inr l0)), (1, .inl l1), (2, .inr (.inr l2))]) (st' := [.inr (.inr l2), .inr (.inr v2)]) [(.aload_n 2, 1)] (by decide +kernel) rfl ?_
  refine zV_cvv (As := [.inr (.inr l2)]) (st := []) (c := 11) (by decide +kernel) (zcl_X10_copyFrom (by decide) (by decide)) ⟨zw_821, zw_705, zw_706⟩ ⟨⟨_, _, rfl⟩, by decide⟩ rfl rfl (Nat.le_of_ble_eq_true rfl) h (fun _ _ e => zc_X10_copyFrom e) (fun M3 _ _ h => ?_)
  exact zend_v h hR (by decide +kernel)
theorem zc_X1_keepAccount {M M' : Zm} {l0 : Option Nat} {l1 : Int32} {l2 : Option Nat} {x : Unit} (h : zf_X1_keepAccount M l0 l1 l2 = some (M', x)) (l : Launch) (D : va_G) (cy : Nat → ClassId) : zMet l yX1_keepAccount zC_X1_keepAccount none D cy [.inr (.inr l0), .inl l1, .inr (.inr l2)] M M' none :=
  zM_v (by decide) rfl (fun h => by cases h) (Nat.le_of_ble_eq_true rfl) (fun X hR => zt_X1_keepAccount h hR)
-- BlendCellar$Before.keepBarrel(LBlendCellar$Barrel;)V
def zC_X1_keepBarrel : Zc := (cX1_keepBarrel, 2, RX1, 7, 157, false)
theorem zcl_X1_keepBarrel {C : Zc} (h1 : zC_X1_keepBarrel.2.2.2.1 + 1 ≤ C.2.2.2.1) (h2 : 8 + (zC_X1_keepBarrel.2.1 + 11) + zC_X1_keepBarrel.2.2.2.2.1 ≤ C.2.2.2.2.1) : zCl C yX1_keepBarrel zC_X1_keepBarrel none 1 := ⟨zw_699, zw_112, ⟨by decide, by decide⟩, by decide +kernel, h1, h2⟩
noncomputable def zf_X1_keepBarrel (M : Zm) (l0 : Option Nat) (l1 : Option Nat) : Option (Zm × Unit) :=
  zb1 (zo_rc M l1 1) (fun _ => zbd (zf_X0_keep M l1) (fun M1 _ =>
  zb1 (zo_gr M1 l0 2 10) (fun v2 =>
  zb1 (zo_rc M1 v2 0) (fun _ => zbd (zf_Jx4a65c_add_9ea2d M1 v2 l1) (fun M3 v3 =>
  some (M3, ()))))))
set_option maxRecDepth 100000 in
theorem zt_X1_keepBarrel {X : Zx} {M : Zm} {l0 : Option Nat} {l1 : Option Nat} {z : Zm × Unit} (h : zf_X1_keepBarrel M l0 l1 = some z) (hR : zRv X zC_X1_keepBarrel z.1) : zV X zC_X1_keepBarrel M 0 [(0, .inr (.inr l0)), (1, .inr (.inr l1))] [] := by
  unfold zf_X1_keepBarrel at h
  refine zV_b (pc' := 1) (lv' := [(0, .inr (.inr l0)), (1, .inr (.inr l1))]) (st' := [.inr (.inr l1)]) [(.aload_n 1, 1)] (by decide +kernel) rfl ?_
  refine zV_cvv (As := []) (st := []) (c := 1) (by decide +kernel) (zcl_X0_keep (by decide) (by decide)) ⟨zw_700, zw_701, zw_702⟩ ⟨⟨_, _, rfl⟩, by decide⟩ rfl rfl (Nat.le_of_ble_eq_true rfl) h (fun _ _ e => zc_X0_keep e) (fun M1 _ _ h => ?_)
  refine zV_b (pc' := 5) (lv' := [(0, .inr (.inr l0)), (1, .inr (.inr l1))]) (st' := [.inr (.inr l0)]) [(.aload_n 0, 1)] (by decide +kernel) rfl ?_
  refine zV_gr (by decide +kernel) zfl_RX1_50 (by decide) rfl h (fun v2 _ h => ?_)
  refine zV_b (pc' := 9) (lv' := [(0, .inr (.inr l0)), (1, .inr (.inr l1))]) (st' := [.inr (.inr l1), .inr (.inr v2)]) [(.aload_n 1, 1)] (by decide +kernel) rfl ?_
  refine zV_cvi (As := [.inr (.inr l1)]) (st := []) (c := 0) (by decide +kernel) (zcl_Jx4a65c_add_9ea2d (by decide) (by decide)) ⟨zw_709, zw_596, zw_597⟩ ⟨⟨_, _, rfl⟩, by decide⟩ rfl rfl (Nat.le_of_ble_eq_true rfl) h (fun _ _ e => zc_Jx4a65c_add_9ea2d e) (fun M3 v3 _ h => ?_)
  refine zV_b (pc' := 13) (lv' := [(0, .inr (.inr l0)), (1, .inr (.inr l1))]) (st' := []) [(.pop, 1)] (by decide +kernel) rfl ?_
  exact zend_v h hR (by decide +kernel)
theorem zc_X1_keepBarrel {M M' : Zm} {l0 : Option Nat} {l1 : Option Nat} {x : Unit} (h : zf_X1_keepBarrel M l0 l1 = some (M', x)) (l : Launch) (D : va_G) (cy : Nat → ClassId) : zMet l yX1_keepBarrel zC_X1_keepBarrel none D cy [.inr (.inr l0), .inr (.inr l1)] M M' none :=
  zM_v (by decide) rfl (fun h => by cases h) (Nat.le_of_ble_eq_true rfl) (fun X hR => zt_X1_keepBarrel h hR)
-- BlendCellar$Before.keepPlace(III)V
def zC_X1_keepPlace : Zc := (cX1_keepPlace, 4, RX1, 0, 0, false)
theorem zcl_X1_keepPlace {C : Zc} (h1 : zC_X1_keepPlace.2.2.2.1 + 1 ≤ C.2.2.2.1) (h2 : 8 + (zC_X1_keepPlace.2.1 + 11) + zC_X1_keepPlace.2.2.2.2.1 ≤ C.2.2.2.2.1) : zCl C yX1_keepPlace zC_X1_keepPlace none 3 := ⟨zw_492, zw_112, ⟨by decide, by decide⟩, by decide +kernel, h1, h2⟩
noncomputable def zf_X1_keepPlace (M : Zm) (l0 : Option Nat) (l1 : Int32) (l2 : Int32) (l3 : Int32) : Option (Zm × Unit) :=
  zb1 (zo_pi M l0 2 5 l1) (fun M1 =>
  zb1 (zo_pi M1 l0 2 6 l2) (fun M2 =>
  zb1 (zo_pi M2 l0 2 7 l3) (fun M3 =>
  some (M3, ()))))
set_option maxRecDepth 100000 in
theorem zt_X1_keepPlace {X : Zx} {M : Zm} {l0 : Option Nat} {l1 : Int32} {l2 : Int32} {l3 : Int32} {z : Zm × Unit} (h : zf_X1_keepPlace M l0 l1 l2 l3 = some z) (hR : zRv X zC_X1_keepPlace z.1) : zV X zC_X1_keepPlace M 0 [(0, .inr (.inr l0)), (1, .inl l1), (2, .inl l2), (3, .inl l3)] [] := by
  unfold zf_X1_keepPlace at h
  refine zV_b (pc' := 2) (lv' := [(0, .inr (.inr l0)), (1, .inl l1), (2, .inl l2), (3, .inl l3)]) (st' := [.inl l1, .inr (.inr l0)]) [(.aload_n 0, 1), (.iload_n 1, 1)] (by decide +kernel) rfl ?_
  refine zV_pi (by decide +kernel) zfp_RX1_28 (by decide) rfl h (fun M1 _ h => ?_)
  refine zV_b (pc' := 7) (lv' := [(0, .inr (.inr l0)), (1, .inl l1), (2, .inl l2), (3, .inl l3)]) (st' := [.inl l2, .inr (.inr l0)]) [(.aload_n 0, 1), (.iload_n 2, 1)] (by decide +kernel) rfl ?_
  refine zV_pi (by decide +kernel) zfp_RX1_31 (by decide) rfl h (fun M2 _ h => ?_)
  refine zV_b (pc' := 12) (lv' := [(0, .inr (.inr l0)), (1, .inl l1), (2, .inl l2), (3, .inl l3)]) (st' := [.inl l3, .inr (.inr l0)]) [(.aload_n 0, 1), (.iload_n 3, 1)] (by decide +kernel) rfl ?_
  refine zV_pi (by decide +kernel) zfp_RX1_34 (by decide) rfl h (fun M3 _ h => ?_)
  exact zend_v h hR (by decide +kernel)
theorem zc_X1_keepPlace {M M' : Zm} {l0 : Option Nat} {l1 : Int32} {l2 : Int32} {l3 : Int32} {x : Unit} (h : zf_X1_keepPlace M l0 l1 l2 l3 = some (M', x)) (l : Launch) (D : va_G) (cy : Nat → ClassId) : zMet l yX1_keepPlace zC_X1_keepPlace none D cy [.inr (.inr l0), .inl l1, .inl l2, .inl l3] M M' none :=
  zM_v (by decide) rfl (fun h => by cases h) (Nat.le_of_ble_eq_true rfl) (fun X hR => zt_X1_keepPlace h hR)
-- BlendCellar$Before.keepRow(I)V
def zC_X1_keepRow : Zc := (cX1_keepRow, 2, RX1, 1, 23, false)
theorem zcl_X1_keepRow {C : Zc} (h1 : zC_X1_keepRow.2.2.2.1 + 1 ≤ C.2.2.2.1) (h2 : 8 + (zC_X1_keepRow.2.1 + 11) + zC_X1_keepRow.2.2.2.2.1 ≤ C.2.2.2.2.1) : zCl C yX1_keepRow zC_X1_keepRow none 1 := ⟨zw_488, zw_112, ⟨by decide, by decide⟩, by decide +kernel, h1, h2⟩
noncomputable def zf_X1_keepRow (M : Zm) (l0 : Option Nat) (l1 : Int32) : Option (Zm × Unit) :=
  zb1 (zo_rc M l0 2) (fun _ => zbd (zf_X1_keepPlace M l0 l1 (-1 : Int32) (-1 : Int32)) (fun M1 _ =>
  some (M1, ())))
set_option maxRecDepth 100000 in
theorem zt_X1_keepRow {X : Zx} {M : Zm} {l0 : Option Nat} {l1 : Int32} {z : Zm × Unit} (h : zf_X1_keepRow M l0 l1 = some z) (hR : zRv X zC_X1_keepRow z.1) : zV X zC_X1_keepRow M 0 [(0, .inr (.inr l0)), (1, .inl l1)] [] := by
  unfold zf_X1_keepRow at h
  refine zV_b (pc' := 4) (lv' := [(0, .inr (.inr l0)), (1, .inl l1)]) (st' := [.inl (-1 : Int32), .inl (-1 : Int32), .inl l1, .inr (.inr l0)]) [(.aload_n 0, 1), (.iload_n 1, 1), (.iconst (-1), 1), (.iconst (-1), 1)] (by decide +kernel) rfl ?_
  refine zV_cvv (As := [.inl l1, .inl (-1 : Int32), .inl (-1 : Int32)]) (st := []) (c := 2) (by decide +kernel) (zcl_X1_keepPlace (by decide) (by decide)) ⟨zw_489, zw_490, zw_491⟩ ⟨⟨_, _, rfl⟩, by decide⟩ rfl rfl (Nat.le_of_ble_eq_true rfl) h (fun _ _ e => zc_X1_keepPlace e) (fun M1 _ _ h => ?_)
  exact zend_v h hR (by decide +kernel)
theorem zc_X1_keepRow {M M' : Zm} {l0 : Option Nat} {l1 : Int32} {x : Unit} (h : zf_X1_keepRow M l0 l1 = some (M', x)) (l : Launch) (D : va_G) (cy : Nat → ClassId) : zMet l yX1_keepRow zC_X1_keepRow none D cy [.inr (.inr l0), .inl l1] M M' none :=
  zM_v (by decide) rfl (fun h => by cases h) (Nat.le_of_ble_eq_true rfl) (fun X hR => zt_X1_keepRow h hR)
-- BlendCellar$Before.restoreBarrels()V
def zC_X1_restoreBarrels : Zc := (cX1_restoreBarrels, 2, RX1, 3, 67, false)
theorem zcl_X1_restoreBarrels {C : Zc} (h1 : zC_X1_restoreBarrels.2.2.2.1 + 1 ≤ C.2.2.2.1) (h2 : 8 + (zC_X1_restoreBarrels.2.1 + 11) + zC_X1_restoreBarrels.2.2.2.2.1 ≤ C.2.2.2.2.1) : zCl C yX1_restoreBarrels zC_X1_restoreBarrels none 0 := ⟨zw_1259, zw_112, ⟨by decide, by decide⟩, by decide +kernel, h1, h2⟩
noncomputable def zf_X1_restoreBarrels_L2 (p0 : Option Nat) (x : Zm × Int32) : Option ((Zm × Int32) ⊕ (Zm × Int32)) := match x with
  | (M, l1) =>
  zb1 (zo_gr M p0 2 10) (fun v1 =>
  zb1 (zo_rc M v1 0) (fun _ => zbd (zf_Jx4a65c_size_8abf5 M v1) (fun M2 v2 =>
  (if v2 ≤ l1 then
  some (.inr (M2, l1))
  else
  zb1 (zo_gr M2 p0 2 10) (fun v4 =>
  zb1 (zo_rc M2 v4 0) (fun _ => zbd (zf_Jx4a65c_get_915e3 M2 v4 l1) (fun M5 v5 =>
  zb1 (zo_cc M5 v5 1) (fun _ =>
  zb1 (zo_rc M5 v5 1) (fun _ => zbd (zf_X0_restore M5 v5) (fun M7 _ =>
  some (.inl (M7, (l1 + 1)))))))))))))
def zP_X1_restoreBarrels_L2 (X : Zx) (p0 : Option Nat) (x : Zm × Int32) : Prop := match x with
  | (M, l1) => zV X zC_X1_restoreBarrels M 2 [(0, .inr (.inr p0)), (1, .inl l1)] []
def zK_X1_restoreBarrels_L2 (X : Zx) (p0 : Option Nat) (y : Zm × Int32) : Prop := match y with
  | (M, l1) => zV X zC_X1_restoreBarrels M 33 [] []
noncomputable def zf_X1_restoreBarrels (M : Zm) (l0 : Option Nat) : Option (Zm × Unit) :=
  zb1 (zwhile (zf_X1_restoreBarrels_L2 l0) (M, (0 : Int32))) (fun y9 => match y9 with
  | (M2_9, l1_9) =>
  some (M2_9, ()))
set_option maxRecDepth 100000 in
theorem zt_X1_restoreBarrels_L2 {X : Zx} {p0 : Option Nat} {x : Zm × Int32} {y : Zm × Int32} (h : zwhile (zf_X1_restoreBarrels_L2 p0) x = some y) (hy : zK_X1_restoreBarrels_L2 X p0 y) : zP_X1_restoreBarrels_L2 X p0 x := by
  refine zwhile_ind (P := zP_X1_restoreBarrels_L2 X p0) (K := zK_X1_restoreBarrels_L2 X p0) ?_ h hy
  intro x z hf k1 k2
  obtain ⟨M, l1⟩ := x
  have h : zf_X1_restoreBarrels_L2 p0 (M, l1) = some z := hf
  unfold zf_X1_restoreBarrels_L2 at h
  show zV X zC_X1_restoreBarrels M 2 [(0, .inr (.inr p0)), (1, .inl l1)] []
  refine zV_b (pc' := 4) (lv' := [(0, .inr (.inr p0)), (1, .inl l1)]) (st' := [.inr (.inr p0), .inl l1]) [(.iload_n 1, 1), (.aload_n 0, 1)] (by decide +kernel) rfl ?_
  refine zV_gr (by decide +kernel) zfl_RX1_50 (by decide) rfl h (fun v1 _ h => ?_)
  refine zV_cvi (As := []) (st := [.inl l1]) (c := 0) (by decide +kernel) (zcl_Jx4a65c_size_8abf5 (by decide) (by decide)) ⟨zw_1260, zw_474, zw_475⟩ ⟨⟨_, _, rfl⟩, by decide⟩ rfl rfl (Nat.le_of_ble_eq_true rfl) h (fun _ _ e => zc_Jx4a65c_size_8abf5 e) (fun M2 v2 _ h => ?_)
  refine zV_icmp_ge (off := 23) (tgt := 33) (by decide +kernel) (by decide) h (fun c3 h => ?_) (fun c3 h => ?_)
  · exact zV_lv (lv' := []) [] rfl (k2 _ (Option.some.inj h).symm)
  · refine zV_b (pc' := 14) (lv' := [(0, .inr (.inr p0)), (1, .inl l1)]) (st' := [.inr (.inr p0)]) [(.aload_n 0, 1)] (by decide +kernel) rfl ?_
    refine zV_gr (by decide +kernel) zfl_RX1_50 (by decide) rfl h (fun v4 _ h => ?_)
    refine zV_b (pc' := 18) (lv' := [(0, .inr (.inr p0)), (1, .inl l1)]) (st' := [.inl l1, .inr (.inr v4)]) [(.iload_n 1, 1)] (by decide +kernel) rfl ?_
    refine zV_cvr (As := [.inl l1]) (st := []) (c := 0) (by decide +kernel) (zcl_Jx4a65c_get_915e3 (by decide) (by decide)) ⟨zw_1261, zw_671, zw_672⟩ ⟨⟨_, _, rfl⟩, by decide⟩ rfl rfl (Nat.le_of_ble_eq_true rfl) h (fun _ _ e => zc_Jx4a65c_get_915e3 e) (fun M5 v5 _ h => ?_)
    refine zV_cc (by decide +kernel) zck_RX1_58 h (fun _ _ h => ?_)
    refine zV_cvv (As := []) (st := []) (c := 1) (by decide +kernel) (zcl_X0_restore (by decide) (by decide)) ⟨zw_1263, zw_1264, zw_1265⟩ ⟨⟨_, _, rfl⟩, by decide⟩ rfl rfl (Nat.le_of_ble_eq_true rfl) h (fun _ _ e => zc_X0_restore e) (fun M7 _ _ h => ?_)
    refine zV_b (pc' := 30) (lv' := [(1, .inl (l1 + 1)), (0, .inr (.inr p0))]) (st' := []) [(.iinc 1 1, 3)] (by decide +kernel) rfl ?_
    refine zV_goto (off := (-28)) (tgt := 2) (by decide +kernel) (by decide) ?_
    exact zV_lv (lv' := [(0, .inr (.inr p0)), (1, .inl (l1 + 1))]) [1, 0] rfl (k1 _ (Option.some.inj h).symm)
set_option maxRecDepth 100000 in
theorem zt_X1_restoreBarrels {X : Zx} {M : Zm} {l0 : Option Nat} {z : Zm × Unit} (h : zf_X1_restoreBarrels M l0 = some z) (hR : zRv X zC_X1_restoreBarrels z.1) : zV X zC_X1_restoreBarrels M 0 [(0, .inr (.inr l0))] [] := by
  unfold zf_X1_restoreBarrels at h
  refine zV_b (pc' := 2) (lv' := [(1, .inl (0 : Int32)), (0, .inr (.inr l0))]) (st' := []) [(.iconst 0, 1), (.istore_n 1, 1)] (by decide +kernel) rfl ?_
  obtain ⟨y9, e9, h⟩ := zb1_inv h
  refine zV_lv (lv' := [(0, .inr (.inr l0)), (1, .inl (0 : Int32))]) [1, 0] rfl (zt_X1_restoreBarrels_L2 e9 ?_)
  obtain ⟨M2_9, l1_9⟩ := y9
  show zV X zC_X1_restoreBarrels M2_9 33 [] []
  exact zend_v h hR (by decide +kernel)
theorem zc_X1_restoreBarrels {M M' : Zm} {l0 : Option Nat} {x : Unit} (h : zf_X1_restoreBarrels M l0 = some (M', x)) (l : Launch) (D : va_G) (cy : Nat → ClassId) : zMet l yX1_restoreBarrels zC_X1_restoreBarrels none D cy [.inr (.inr l0)] M M' none :=
  zM_v (by decide) rfl (fun h => by cases h) (Nat.le_of_ble_eq_true rfl) (fun X hR => zt_X1_restoreBarrels h hR)
-- BlendCellar$Picks.<init>()V
def zC_X5_init : Zc := (cX5_init, 1, RX5, 1, 12, true)
theorem zcl_X5_init {C : Zc} (h1 : zC_X5_init.2.2.2.1 + 1 ≤ C.2.2.2.1) (h2 : 8 + (zC_X5_init.2.1 + 11) + zC_X5_init.2.2.2.2.1 ≤ C.2.2.2.2.1) : zCl C yX5_init zC_X5_init none 0 := ⟨zw_163, zw_105, ⟨by decide, by decide⟩, by decide +kernel, h1, h2⟩
noncomputable def zf_X5_init (M : Zm) (l0 : Option Nat) : Option (Zm × Unit) :=
  zb1 (zo_rc M l0 6) (fun _ =>
  zb1 (zo_na M 16 (8 : Int32)) (fun M2 =>
  zb1 (zo_pr M2 l0 6 0 (zm_nx M)) (fun M3 =>
  zb1 (zo_na M3 15 (8 : Int32)) (fun M4 =>
  zb1 (zo_pr M4 l0 6 1 (zm_nx M3)) (fun M5 =>
  zb1 (zo_pi M5 l0 6 2 (0 : Int32)) (fun M6 =>
  some (M6, ())))))))
set_option maxRecDepth 100000 in
theorem zt_X5_init {X : Zx} {M : Zm} {l0 : Option Nat} {z : Zm × Unit} (h : zf_X5_init M l0 = some z) (hR : zRv X zC_X5_init z.1) : zV X zC_X5_init M 0 [(0, .inr (.inr l0))] [] := by
  unfold zf_X5_init at h
  refine zV_b (pc' := 1) (lv' := [(0, .inr (.inr l0))]) (st' := [.inr (.inr l0)]) [(.aload_n 0, 1)] (by decide +kernel) rfl ?_
  refine zV_oo (by decide +kernel) zw_164 (by decide) (by decide) h (fun _ _ h => ?_)
  refine zV_b (pc' := 7) (lv' := [(0, .inr (.inr l0))]) (st' := [.inl (8 : Int32), .inr (.inr l0)]) [(.aload_n 0, 1), (.bipush 8, 2)] (by decide +kernel) rfl ?_
  refine zV_nr (k := 16) (by decide +kernel) (by decide) (by decide) zw_165 h (fun M2 _ h => ?_)
  refine zV_pr (by decide +kernel) zfp_RX5_11_i (Or.inr ⟨_, rfl⟩) (by decide) rfl h (fun M3 _ h => ?_)
  refine zV_b (pc' := 16) (lv' := [(0, .inr (.inr l0))]) (st' := [.inl (8 : Int32), .inr (.inr l0)]) [(.aload_n 0, 1), (.bipush 8, 2)] (by decide +kernel) rfl ?_
  refine zV_na (by decide +kernel) (Or.inr ⟨rfl, rfl⟩) h (fun M4 _ h => ?_)
  refine zV_pr (by decide +kernel) zfp_RX5_17_i (Or.inr ⟨_, rfl⟩) (by decide) rfl h (fun M5 _ h => ?_)
  refine zV_b (pc' := 23) (lv' := [(0, .inr (.inr l0))]) (st' := [.inl (0 : Int32), .inr (.inr l0)]) [(.aload_n 0, 1), (.iconst 0, 1)] (by decide +kernel) rfl ?_
  refine zV_pi (by decide +kernel) zfp_RX5_21_i (by decide) rfl h (fun M6 _ h => ?_)
  exact zend_v h hR (by decide +kernel)
theorem zc_X5_init {M M' : Zm} {l0 : Option Nat} {x : Unit} (h : zf_X5_init M l0 = some (M', x)) (l : Launch) (D : va_G) (cy : Nat → ClassId) : zMet l yX5_init zC_X5_init none D cy [.inr (.inr l0)] M M' none :=
  zM_v (by decide) rfl (fun _ => rfl) (Nat.le_of_ble_eq_true rfl) (fun X hR => zt_X5_init h hR)
-- BlendCellar$Picks.add(LBlendCellar$Barrel;J)V
def zC_X5_add : Zc := (cX5_add, 4, RX5, 0, 0, false)
theorem zcl_X5_add {C : Zc} (h1 : zC_X5_add.2.2.2.1 + 1 ≤ C.2.2.2.1) (h2 : 8 + (zC_X5_add.2.1 + 11) + zC_X5_add.2.2.2.2.1 ≤ C.2.2.2.2.1) : zCl C yX5_add zC_X5_add none 2 := ⟨zw_955, zw_105, ⟨by decide, by decide⟩, by decide +kernel, h1, h2⟩
noncomputable def zf_X5_add (M : Zm) (l0 : Option Nat) (l1 : Option Nat) (l2 : Int64) : Option (Zm × Unit) :=
  zb1 (zo_gi M l0 6 2) (fun v1 =>
  zb1 (zo_gr M l0 6 0) (fun v2 =>
  zb1 (zo_al M v2) (fun v3 =>
  (if v3 ≤ v1 then
  some (M, ())
  else
  zb1 (zo_gr M l0 6 0) (fun v6 =>
  zb1 (zo_gi M l0 6 2) (fun v7 =>
  zb1 (zo_sr M 16 1 v6 v7 l1) (fun M8 =>
  zb1 (zo_gr M8 l0 6 1) (fun v9 =>
  zb1 (zo_gi M8 l0 6 2) (fun v10 =>
  zb1 (zo_sj M8 v9 v10 l2) (fun M11 =>
  zb1 (zo_gi M11 l0 6 2) (fun v12 =>
  zb1 (zo_pi M11 l0 6 2 (v12 + (1 : Int32))) (fun M13 =>
  some (M13, ())))))))))))))
set_option maxRecDepth 100000 in
theorem zt_X5_add {X : Zx} {M : Zm} {l0 : Option Nat} {l1 : Option Nat} {l2 : Int64} {z : Zm × Unit} (h : zf_X5_add M l0 l1 l2 = some z) (hR : zRv X zC_X5_add z.1) : zV X zC_X5_add M 0 [(0, .inr (.inr l0)), (1, .inr (.inr l1)), (2, .inr (.inl l2))] [] := by
  unfold zf_X5_add at h
  refine zV_b (pc' := 1) (lv' := [(0, .inr (.inr l0)), (1, .inr (.inr l1)), (2, .inr (.inl l2))]) (st' := [.inr (.inr l0)]) [(.aload_n 0, 1)] (by decide +kernel) rfl ?_
  refine zV_gi (by decide +kernel) zfl_RX5_21 (by decide) rfl (Or.inl rfl) h (fun v1 _ h => ?_)
  refine zV_b (pc' := 5) (lv' := [(0, .inr (.inr l0)), (1, .inr (.inr l1)), (2, .inr (.inl l2))]) (st' := [.inr (.inr l0), .inl v1]) [(.aload_n 0, 1)] (by decide +kernel) rfl ?_
  refine zV_gr (by decide +kernel) zfl_RX5_11 (by decide) rfl h (fun v2 _ h => ?_)
  refine zV_al (by decide +kernel) h (fun v3 _ h => ?_)
  refine zV_icmp_ge (off := 33) (tgt := 42) (by decide +kernel) (by decide) h (fun c4 h => ?_) (fun c4 h => ?_)
  · exact zend_v h hR (by decide +kernel)
  · refine zV_b (pc' := 13) (lv' := [(0, .inr (.inr l0)), (1, .inr (.inr l1)), (2, .inr (.inl l2))]) (st' := [.inr (.inr l0)]) [(.aload_n 0, 1)] (by decide +kernel) rfl ?_
    refine zV_gr (by decide +kernel) zfl_RX5_11 (by decide) rfl h (fun v6 _ h => ?_)
    refine zV_b (pc' := 17) (lv' := [(0, .inr (.inr l0)), (1, .inr (.inr l1)), (2, .inr (.inl l2))]) (st' := [.inr (.inr l0), .inr (.inr v6)]) [(.aload_n 0, 1)] (by decide +kernel) rfl ?_
    refine zV_gi (by decide +kernel) zfl_RX5_21 (by decide) rfl (Or.inl rfl) h (fun v7 _ h => ?_)
    refine zV_b (pc' := 21) (lv' := [(0, .inr (.inr l0)), (1, .inr (.inr l1)), (2, .inr (.inl l2))]) (st' := [.inr (.inr l1), .inl v7, .inr (.inr v6)]) [(.aload_n 1, 1)] (by decide +kernel) rfl ?_
    refine zV_sr (by decide +kernel) (by decide) (by decide) (Or.inr ⟨_, _, rfl, by decide⟩) h (fun M8 _ h => ?_)
    refine zV_b (pc' := 23) (lv' := [(0, .inr (.inr l0)), (1, .inr (.inr l1)), (2, .inr (.inl l2))]) (st' := [.inr (.inr l0)]) [(.aload_n 0, 1)] (by decide +kernel) rfl ?_
    refine zV_gr (by decide +kernel) zfl_RX5_17 (by decide) rfl h (fun v9 _ h => ?_)
    refine zV_b (pc' := 27) (lv' := [(0, .inr (.inr l0)), (1, .inr (.inr l1)), (2, .inr (.inl l2))]) (st' := [.inr (.inr l0), .inr (.inr v9)]) [(.aload_n 0, 1)] (by decide +kernel) rfl ?_
    refine zV_gi (by decide +kernel) zfl_RX5_21 (by decide) rfl (Or.inl rfl) h (fun v10 _ h => ?_)
    refine zV_b (pc' := 31) (lv' := [(0, .inr (.inr l0)), (1, .inr (.inr l1)), (2, .inr (.inl l2))]) (st' := [.inr (.inl l2), .inl v10, .inr (.inr v9)]) [(.lload_n 2, 1)] (by decide +kernel) rfl ?_
    refine zV_sj (by decide +kernel) h (fun M11 _ h => ?_)
    refine zV_b (pc' := 34) (lv' := [(0, .inr (.inr l0)), (1, .inr (.inr l1)), (2, .inr (.inl l2))]) (st' := [.inr (.inr l0), .inr (.inr l0)]) [(.aload_n 0, 1), (.dup, 1)] (by decide +kernel) rfl ?_
    refine zV_gi (by decide +kernel) zfl_RX5_21 (by decide) rfl (Or.inl rfl) h (fun v12 _ h => ?_)
    refine zV_b (pc' := 39) (lv' := [(0, .inr (.inr l0)), (1, .inr (.inr l1)), (2, .inr (.inl l2))]) (st' := [.inl (v12 + (1 : Int32)), .inr (.inr l0)]) [(.iconst 1, 1), (.iadd, 1)] (by decide +kernel) rfl ?_
    refine zV_pi (by decide +kernel) zfp_RX5_21 (by decide) rfl h (fun M13 _ h => ?_)
    exact zend_v h hR (by decide +kernel)
theorem zc_X5_add {M M' : Zm} {l0 : Option Nat} {l1 : Option Nat} {l2 : Int64} {x : Unit} (h : zf_X5_add M l0 l1 l2 = some (M', x)) (l : Launch) (D : va_G) (cy : Nat → ClassId) : zMet l yX5_add zC_X5_add none D cy [.inr (.inr l0), .inr (.inr l1), .inr (.inl l2)] M M' none :=
  zM_v (by decide) rfl (fun h => by cases h) (Nat.le_of_ble_eq_true rfl) (fun X hR => zt_X5_add h hR)
-- BlendCellar$Picks.allSpared(LBlendCellar$Trace;)Z
def zC_X5_allSpared : Zc := (cX5_allSpared, 3, RX5, 4, 89, false)
theorem zcl_X5_allSpared {C : Zc} (h1 : zC_X5_allSpared.2.2.2.1 + 1 ≤ C.2.2.2.1) (h2 : 8 + (zC_X5_allSpared.2.1 + 11) + zC_X5_allSpared.2.2.2.2.1 ≤ C.2.2.2.2.1) : zCl C yX5_allSpared zC_X5_allSpared (some .boolean) 1 := ⟨zw_980, zw_105, ⟨by decide, by decide⟩, by decide +kernel, h1, h2⟩
noncomputable def zf_X5_allSpared_L2 (p0 : Option Nat) (p1 : Option Nat) (x : Zm × Int32) : Option ((Zm × Int32) ⊕ ((Zm × Int32) ⊕ (Zm × Int32))) := match x with
  | (M, l2) =>
  zb1 (zo_gi M p0 6 2) (fun v1 =>
  (if v1 ≤ l2 then
  some (.inr (.inl (M, l2)))
  else
  zb1 (zo_gr M p0 6 1) (fun v3 =>
  zb1 (zo_aj M v3 l2) (fun v4 =>
  zb1 (zo_gr M p0 6 0) (fun v5 =>
  zb1 (zo_ar M 16 v5 l2) (fun v6 =>
  zb1 (zo_rc M v6 1) (fun _ => zbd (zf_X0_maySpare M v6 p1) (fun M7 v7 =>
  (if v4 ≤ v7 then
  some (.inl (M7, (l2 + 1)))
  else
  zb1 (zo_b (0 : Int32)) (fun w => some (.inr (.inr (M7, w)))))))))))))
def zP_X5_allSpared_L2 (X : Zx) (p0 : Option Nat) (p1 : Option Nat) (x : Zm × Int32) : Prop := match x with
  | (M, l2) => zV X zC_X5_allSpared M 2 [(0, .inr (.inr p0)), (1, .inr (.inr p1)), (2, .inl l2)] []
def zK_X5_allSpared_L2 (X : Zx) (p0 : Option Nat) (p1 : Option Nat) (y : (Zm × Int32) ⊕ (Zm × Int32)) : Prop := match y with
  | .inl (M, l2) => zV X zC_X5_allSpared M 38 [] []
  | .inr (M, x) => zRz X zC_X5_allSpared M x
noncomputable def zf_X5_allSpared (M : Zm) (l0 : Option Nat) (l1 : Option Nat) : Option (Zm × Int32) :=
  zb1 (zwhile (zf_X5_allSpared_L2 l0 l1) (M, (0 : Int32))) (fun y11 => match y11 with
  | .inl (M2_11, l2_11) =>
  zb1 (zo_b (1 : Int32)) (fun w => some (M2_11, w))
  | .inr q => some q)
set_option maxRecDepth 100000 in
theorem zt_X5_allSpared_L2 {X : Zx} {p0 : Option Nat} {p1 : Option Nat} {x : Zm × Int32} {y : (Zm × Int32) ⊕ (Zm × Int32)} (h : zwhile (zf_X5_allSpared_L2 p0 p1) x = some y) (hy : zK_X5_allSpared_L2 X p0 p1 y) : zP_X5_allSpared_L2 X p0 p1 x := by
  refine zwhile_ind (P := zP_X5_allSpared_L2 X p0 p1) (K := zK_X5_allSpared_L2 X p0 p1) ?_ h hy
  intro x z hf k1 k2
  obtain ⟨M, l2⟩ := x
  have h : zf_X5_allSpared_L2 p0 p1 (M, l2) = some z := hf
  unfold zf_X5_allSpared_L2 at h
  show zV X zC_X5_allSpared M 2 [(0, .inr (.inr p0)), (1, .inr (.inr p1)), (2, .inl l2)] []
  refine zV_b (pc' := 4) (lv' := [(0, .inr (.inr p0)), (1, .inr (.inr p1)), (2, .inl l2)]) (st' := [.inr (.inr p0), .inl l2]) [(.iload_n 2, 1), (.aload_n 0, 1)] (by decide +kernel) rfl ?_
  refine zV_gi (by decide +kernel) zfl_RX5_21 (by decide) rfl (Or.inl rfl) h (fun v1 _ h => ?_)
  refine zV_icmp_ge (off := 31) (tgt := 38) (by decide +kernel) (by decide) h (fun c2 h => ?_) (fun c2 h => ?_)
  · exact zV_lv (lv' := []) [] rfl (k2 _ (Option.some.inj h).symm)
  · refine zV_b (pc' := 11) (lv' := [(0, .inr (.inr p0)), (1, .inr (.inr p1)), (2, .inl l2)]) (st' := [.inr (.inr p0)]) [(.aload_n 0, 1)] (by decide +kernel) rfl ?_
    refine zV_gr (by decide +kernel) zfl_RX5_17 (by decide) rfl h (fun v3 _ h => ?_)
    refine zV_b (pc' := 15) (lv' := [(0, .inr (.inr p0)), (1, .inr (.inr p1)), (2, .inl l2)]) (st' := [.inl l2, .inr (.inr v3)]) [(.iload_n 2, 1)] (by decide +kernel) rfl ?_
    refine zV_aj (by decide +kernel) h (fun v4 _ h => ?_)
    refine zV_b (pc' := 17) (lv' := [(0, .inr (.inr p0)), (1, .inr (.inr p1)), (2, .inl l2)]) (st' := [.inr (.inr p0), .inr (.inl v4)]) [(.aload_n 0, 1)] (by decide +kernel) rfl ?_
    refine zV_gr (by decide +kernel) zfl_RX5_11 (by decide) rfl h (fun v5 _ h => ?_)
    refine zV_b (pc' := 21) (lv' := [(0, .inr (.inr p0)), (1, .inr (.inr p1)), (2, .inl l2)]) (st' := [.inl l2, .inr (.inr v5), .inr (.inl v4)]) [(.iload_n 2, 1)] (by decide +kernel) rfl ?_
    refine zV_ar (by decide +kernel) (by decide) (by decide) h (fun v6 _ h => ?_)
    refine zV_b (pc' := 23) (lv' := [(0, .inr (.inr p0)), (1, .inr (.inr p1)), (2, .inl l2)]) (st' := [.inr (.inr p1), .inr (.inr v6), .inr (.inl v4)]) [(.aload_n 1, 1)] (by decide +kernel) rfl ?_
    refine zV_cvj (As := [.inr (.inr p1)]) (st := [.inr (.inl v4)]) (c := 1) (by decide +kernel) (zcl_X0_maySpare (by decide) (by decide)) ⟨zw_981, zw_862, zw_863⟩ ⟨⟨_, _, rfl⟩, by decide⟩ rfl rfl (Nat.le_of_ble_eq_true rfl) h (fun _ _ e => zc_X0_maySpare e) (fun M7 v7 _ h => ?_)
    refine zV_lcmp_le (off := 5) (tgt := 32) (by decide +kernel) (by decide +kernel) (by decide) h (fun c8 h => ?_) (fun c8 h => ?_)
    · refine zV_b (pc' := 35) (lv' := [(2, .inl (l2 + 1)), (0, .inr (.inr p0)), (1, .inr (.inr p1))]) (st' := []) [(.iinc 2 1, 3)] (by decide +kernel) rfl ?_
      refine zV_goto (off := (-33)) (tgt := 2) (by decide +kernel) (by decide) ?_
      exact zV_lv (lv' := [(0, .inr (.inr p0)), (1, .inr (.inr p1)), (2, .inl (l2 + 1))]) [1, 2, 0] rfl (k1 _ (Option.some.inj h).symm)
    · refine zV_b (pc' := 31) (lv' := [(0, .inr (.inr p0)), (1, .inr (.inr p1)), (2, .inl l2)]) (st' := [.inl (0 : Int32)]) [(.iconst 0, 1)] (by decide +kernel) rfl ?_
      obtain ⟨w, ew, h⟩ := zb1_inv h
      obtain ⟨rfl, hv⟩ := zo_b_inv ew
      have hq : zRz X zC_X5_allSpared M7 (0 : Int32) := k2 _ (Option.some.inj h).symm
      exact hq hv _ _ (by decide +kernel)
set_option maxRecDepth 100000 in
theorem zt_X5_allSpared {X : Zx} {M : Zm} {l0 : Option Nat} {l1 : Option Nat} {z : Zm × Int32} (h : zf_X5_allSpared M l0 l1 = some z) (hR : zRz X zC_X5_allSpared z.1 z.2) : zV X zC_X5_allSpared M 0 [(0, .inr (.inr l0)), (1, .inr (.inr l1))] [] := by
  unfold zf_X5_allSpared at h
  refine zV_b (pc' := 2) (lv' := [(2, .inl (0 : Int32)), (0, .inr (.inr l0)), (1, .inr (.inr l1))]) (st' := []) [(.iconst 0, 1), (.istore_n 2, 1)] (by decide +kernel) rfl ?_
  obtain ⟨y11, e11, h⟩ := zb1_inv h
  refine zV_lv (lv' := [(0, .inr (.inr l0)), (1, .inr (.inr l1)), (2, .inl (0 : Int32))]) [1, 2, 0] rfl (zt_X5_allSpared_L2 e11 ?_)
  rcases y11 with ⟨M2_11, l2_11⟩ | ⟨Mq, xq⟩
  · show zV X zC_X5_allSpared M2_11 38 [] []
    refine zV_b (pc' := 39) (lv' := []) (st' := [.inl (1 : Int32)]) [(.iconst 1, 1)] (by decide +kernel) rfl ?_
    exact zend_z h hR (by decide +kernel)
  · cases h
    exact hR
theorem zc_X5_allSpared {M M' : Zm} {l0 : Option Nat} {l1 : Option Nat} {x : Int32} (h : zf_X5_allSpared M l0 l1 = some (M', x)) (l : Launch) (D : va_G) (cy : Nat → ClassId) : zMet l yX5_allSpared zC_X5_allSpared (some .boolean) D cy [.inr (.inr l0), .inr (.inr l1)] M M' (some (.inl x)) :=
  zM_b (by decide) rfl (fun h => by cases h) (Nat.le_of_ble_eq_true rfl) (fun X hR => zt_X5_allSpared h hR)
-- BlendCellar$Picks.anyInCask()Z
def zC_X5_anyInCask : Zc := (cX5_anyInCask, 2, RX5, 1, 20, false)
theorem zcl_X5_anyInCask {C : Zc} (h1 : zC_X5_anyInCask.2.2.2.1 + 1 ≤ C.2.2.2.1) (h2 : 8 + (zC_X5_anyInCask.2.1 + 11) + zC_X5_anyInCask.2.2.2.2.1 ≤ C.2.2.2.2.1) : zCl C yX5_anyInCask zC_X5_anyInCask (some .boolean) 0 := ⟨zw_975, zw_105, ⟨by decide, by decide⟩, by decide +kernel, h1, h2⟩
noncomputable def zf_X5_anyInCask_L2 (p0 : Option Nat) (x : Zm × Int32) : Option ((Zm × Int32) ⊕ ((Zm × Int32) ⊕ (Zm × Int32))) := match x with
  | (M, l1) =>
  zb1 (zo_gi M p0 6 2) (fun v1 =>
  (if v1 ≤ l1 then
  some (.inr (.inl (M, l1)))
  else
  zb1 (zo_gr M p0 6 0) (fun v3 =>
  zb1 (zo_ar M 16 v3 l1) (fun v4 =>
  zb1 (zo_rc M v4 1) (fun _ => zbd (zf_X0_inCask M v4) (fun M5 v5 =>
  (if v5 = 0 then
  some (.inl (M5, (l1 + 1)))
  else
  zb1 (zo_b (1 : Int32)) (fun w => some (.inr (.inr (M5, w)))))))))))
def zP_X5_anyInCask_L2 (X : Zx) (p0 : Option Nat) (x : Zm × Int32) : Prop := match x with
  | (M, l1) => zV X zC_X5_anyInCask M 2 [(0, .inr (.inr p0)), (1, .inl l1)] []
def zK_X5_anyInCask_L2 (X : Zx) (p0 : Option Nat) (y : (Zm × Int32) ⊕ (Zm × Int32)) : Prop := match y with
  | .inl (M, l1) => zV X zC_X5_anyInCask M 30 [] []
  | .inr (M, x) => zRz X zC_X5_anyInCask M x
noncomputable def zf_X5_anyInCask (M : Zm) (l0 : Option Nat) : Option (Zm × Int32) :=
  zb1 (zwhile (zf_X5_anyInCask_L2 l0) (M, (0 : Int32))) (fun y9 => match y9 with
  | .inl (M2_9, l1_9) =>
  zb1 (zo_b (0 : Int32)) (fun w => some (M2_9, w))
  | .inr q => some q)
set_option maxRecDepth 100000 in
theorem zt_X5_anyInCask_L2 {X : Zx} {p0 : Option Nat} {x : Zm × Int32} {y : (Zm × Int32) ⊕ (Zm × Int32)} (h : zwhile (zf_X5_anyInCask_L2 p0) x = some y) (hy : zK_X5_anyInCask_L2 X p0 y) : zP_X5_anyInCask_L2 X p0 x := by
  refine zwhile_ind (P := zP_X5_anyInCask_L2 X p0) (K := zK_X5_anyInCask_L2 X p0) ?_ h hy
  intro x z hf k1 k2
  obtain ⟨M, l1⟩ := x
  have h : zf_X5_anyInCask_L2 p0 (M, l1) = some z := hf
  unfold zf_X5_anyInCask_L2 at h
  show zV X zC_X5_anyInCask M 2 [(0, .inr (.inr p0)), (1, .inl l1)] []
  refine zV_b (pc' := 4) (lv' := [(0, .inr (.inr p0)), (1, .inl l1)]) (st' := [.inr (.inr p0), .inl l1]) [(.iload_n 1, 1), (.aload_n 0, 1)] (by decide +kernel) rfl ?_
  refine zV_gi (by decide +kernel) zfl_RX5_21 (by decide) rfl (Or.inl rfl) h (fun v1 _ h => ?_)
  refine zV_icmp_ge (off := 23) (tgt := 30) (by decide +kernel) (by decide) h (fun c2 h => ?_) (fun c2 h => ?_)
  · exact zV_lv (lv' := []) [] rfl (k2 _ (Option.some.inj h).symm)
  · refine zV_b (pc' := 11) (lv' := [(0, .inr (.inr p0)), (1, .inl l1)]) (st' := [.inr (.inr p0)]) [(.aload_n 0, 1)] (by decide +kernel) rfl ?_
    refine zV_gr (by decide +kernel) zfl_RX5_11 (by decide) rfl h (fun v3 _ h => ?_)
    refine zV_b (pc' := 15) (lv' := [(0, .inr (.inr p0)), (1, .inl l1)]) (st' := [.inl l1, .inr (.inr v3)]) [(.iload_n 1, 1)] (by decide +kernel) rfl ?_
    refine zV_ar (by decide +kernel) (by decide) (by decide) h (fun v4 _ h => ?_)
    refine zV_cvi (As := []) (st := []) (c := 1) (by decide +kernel) (zcl_X0_inCask (by decide) (by decide)) ⟨zw_976, zw_781, zw_782⟩ ⟨⟨_, _, rfl⟩, by decide⟩ rfl rfl (Nat.le_of_ble_eq_true rfl) h (fun _ _ e => zc_X0_inCask e) (fun M5 v5 _ h => ?_)
    refine zV_if_eq (off := 5) (tgt := 24) (by decide +kernel) (by decide) h (fun c6 h => ?_) (fun c6 h => ?_)
    · refine zV_b (pc' := 27) (lv' := [(1, .inl (l1 + 1)), (0, .inr (.inr p0))]) (st' := []) [(.iinc 1 1, 3)] (by decide +kernel) rfl ?_
      refine zV_goto (off := (-25)) (tgt := 2) (by decide +kernel) (by decide) ?_
      exact zV_lv (lv' := [(0, .inr (.inr p0)), (1, .inl (l1 + 1))]) [1, 0] rfl (k1 _ (Option.some.inj h).symm)
    · refine zV_b (pc' := 23) (lv' := [(0, .inr (.inr p0)), (1, .inl l1)]) (st' := [.inl (1 : Int32)]) [(.iconst 1, 1)] (by decide +kernel) rfl ?_
      obtain ⟨w, ew, h⟩ := zb1_inv h
      obtain ⟨rfl, hv⟩ := zo_b_inv ew
      have hq : zRz X zC_X5_anyInCask M5 (1 : Int32) := k2 _ (Option.some.inj h).symm
      exact hq hv _ _ (by decide +kernel)
set_option maxRecDepth 100000 in
theorem zt_X5_anyInCask {X : Zx} {M : Zm} {l0 : Option Nat} {z : Zm × Int32} (h : zf_X5_anyInCask M l0 = some z) (hR : zRz X zC_X5_anyInCask z.1 z.2) : zV X zC_X5_anyInCask M 0 [(0, .inr (.inr l0))] [] := by
  unfold zf_X5_anyInCask at h
  refine zV_b (pc' := 2) (lv' := [(1, .inl (0 : Int32)), (0, .inr (.inr l0))]) (st' := []) [(.iconst 0, 1), (.istore_n 1, 1)] (by decide +kernel) rfl ?_
  obtain ⟨y9, e9, h⟩ := zb1_inv h
  refine zV_lv (lv' := [(0, .inr (.inr l0)), (1, .inl (0 : Int32))]) [1, 0] rfl (zt_X5_anyInCask_L2 e9 ?_)
  rcases y9 with ⟨M2_9, l1_9⟩ | ⟨Mq, xq⟩
  · show zV X zC_X5_anyInCask M2_9 30 [] []
    refine zV_b (pc' := 31) (lv' := []) (st' := [.inl (0 : Int32)]) [(.iconst 0, 1)] (by decide +kernel) rfl ?_
    exact zend_z h hR (by decide +kernel)
  · cases h
    exact hR
theorem zc_X5_anyInCask {M M' : Zm} {l0 : Option Nat} {x : Int32} (h : zf_X5_anyInCask M l0 = some (M', x)) (l : Launch) (D : va_G) (cy : Nat → ClassId) : zMet l yX5_anyInCask zC_X5_anyInCask (some .boolean) D cy [.inr (.inr l0)] M M' (some (.inl x)) :=
  zM_b (by decide) rfl (fun h => by cases h) (Nat.le_of_ble_eq_true rfl) (fun X hR => zt_X5_anyInCask h hR)
-- BlendCellar$Picks.clear()V
def zC_X5_clear : Zc := (cX5_clear, 1, RX5, 0, 0, false)
theorem zcl_X5_clear {C : Zc} (h1 : zC_X5_clear.2.2.2.1 + 1 ≤ C.2.2.2.1) (h2 : 8 + (zC_X5_clear.2.1 + 11) + zC_X5_clear.2.2.2.2.1 ≤ C.2.2.2.2.1) : zCl C yX5_clear zC_X5_clear none 0 := ⟨zw_963, zw_105, ⟨by decide, by decide⟩, by decide +kernel, h1, h2⟩
noncomputable def zf_X5_clear (M : Zm) (l0 : Option Nat) : Option (Zm × Unit) :=
  zb1 (zo_pi M l0 6 2 (0 : Int32)) (fun M1 =>
  some (M1, ()))
set_option maxRecDepth 100000 in
theorem zt_X5_clear {X : Zx} {M : Zm} {l0 : Option Nat} {z : Zm × Unit} (h : zf_X5_clear M l0 = some z) (hR : zRv X zC_X5_clear z.1) : zV X zC_X5_clear M 0 [(0, .inr (.inr l0))] [] := by
  unfold zf_X5_clear at h
  refine zV_b (pc' := 2) (lv' := [(0, .inr (.inr l0))]) (st' := [.inl (0 : Int32), .inr (.inr l0)]) [(.aload_n 0, 1), (.iconst 0, 1)] (by decide +kernel) rfl ?_
  refine zV_pi (by decide +kernel) zfp_RX5_21 (by decide) rfl h (fun M1 _ h => ?_)
  exact zend_v h hR (by decide +kernel)
theorem zc_X5_clear {M M' : Zm} {l0 : Option Nat} {x : Unit} (h : zf_X5_clear M l0 = some (M', x)) (l : Launch) (D : va_G) (cy : Nat → ClassId) : zMet l yX5_clear zC_X5_clear none D cy [.inr (.inr l0)] M M' none :=
  zM_v (by decide) rfl (fun h => by cases h) (Nat.le_of_ble_eq_true rfl) (fun X hR => zt_X5_clear h hR)
-- BlendCellar$Picks.has(I)Z
def zC_X5_has : Zc := (cX5_has, 3, RX5, 0, 0, false)
theorem zcl_X5_has {C : Zc} (h1 : zC_X5_has.2.2.2.1 + 1 ≤ C.2.2.2.1) (h2 : 8 + (zC_X5_has.2.1 + 11) + zC_X5_has.2.2.2.2.1 ≤ C.2.2.2.2.1) : zCl C yX5_has zC_X5_has (some .boolean) 1 := ⟨zw_950, zw_105, ⟨by decide, by decide⟩, by decide +kernel, h1, h2⟩
noncomputable def zf_X5_has_L2 (p0 : Option Nat) (p1 : Int32) (x : Zm × Int32) : Option ((Zm × Int32) ⊕ ((Zm × Int32) ⊕ (Zm × Int32))) := match x with
  | (M, l2) =>
  zb1 (zo_gi M p0 6 2) (fun v1 =>
  (if v1 ≤ l2 then
  some (.inr (.inl (M, l2)))
  else
  zb1 (zo_gr M p0 6 0) (fun v3 =>
  zb1 (zo_ar M 16 v3 l2) (fun v4 =>
  zb1 (zo_gi M v4 1 0) (fun v5 =>
  (if v5 = p1 then
  zb1 (zo_b (1 : Int32)) (fun w => some (.inr (.inr (M, w))))
  else
  some (.inl (M, (l2 + 1)))))))))
def zP_X5_has_L2 (X : Zx) (p0 : Option Nat) (p1 : Int32) (x : Zm × Int32) : Prop := match x with
  | (M, l2) => zV X zC_X5_has M 2 [(0, .inr (.inr p0)), (1, .inl p1), (2, .inl l2)] []
def zK_X5_has_L2 (X : Zx) (p0 : Option Nat) (p1 : Int32) (y : (Zm × Int32) ⊕ (Zm × Int32)) : Prop := match y with
  | .inl (M, l2) => zV X zC_X5_has M 31 [] []
  | .inr (M, x) => zRz X zC_X5_has M x
noncomputable def zf_X5_has (M : Zm) (l0 : Option Nat) (l1 : Int32) : Option (Zm × Int32) :=
  zb1 (zwhile (zf_X5_has_L2 l0 l1) (M, (0 : Int32))) (fun y9 => match y9 with
  | .inl (M2_9, l2_9) =>
  zb1 (zo_b (0 : Int32)) (fun w => some (M2_9, w))
  | .inr q => some q)
set_option maxRecDepth 100000 in
theorem zt_X5_has_L2 {X : Zx} {p0 : Option Nat} {p1 : Int32} {x : Zm × Int32} {y : (Zm × Int32) ⊕ (Zm × Int32)} (h : zwhile (zf_X5_has_L2 p0 p1) x = some y) (hy : zK_X5_has_L2 X p0 p1 y) : zP_X5_has_L2 X p0 p1 x := by
  refine zwhile_ind (P := zP_X5_has_L2 X p0 p1) (K := zK_X5_has_L2 X p0 p1) ?_ h hy
  intro x z hf k1 k2
  obtain ⟨M, l2⟩ := x
  have h : zf_X5_has_L2 p0 p1 (M, l2) = some z := hf
  unfold zf_X5_has_L2 at h
  show zV X zC_X5_has M 2 [(0, .inr (.inr p0)), (1, .inl p1), (2, .inl l2)] []
  refine zV_b (pc' := 4) (lv' := [(0, .inr (.inr p0)), (1, .inl p1), (2, .inl l2)]) (st' := [.inr (.inr p0), .inl l2]) [(.iload_n 2, 1), (.aload_n 0, 1)] (by decide +kernel) rfl ?_
  refine zV_gi (by decide +kernel) zfl_RX5_21 (by decide) rfl (Or.inl rfl) h (fun v1 _ h => ?_)
  refine zV_icmp_ge (off := 24) (tgt := 31) (by decide +kernel) (by decide) h (fun c2 h => ?_) (fun c2 h => ?_)
  · exact zV_lv (lv' := []) [] rfl (k2 _ (Option.some.inj h).symm)
  · refine zV_b (pc' := 11) (lv' := [(0, .inr (.inr p0)), (1, .inl p1), (2, .inl l2)]) (st' := [.inr (.inr p0)]) [(.aload_n 0, 1)] (by decide +kernel) rfl ?_
    refine zV_gr (by decide +kernel) zfl_RX5_11 (by decide) rfl h (fun v3 _ h => ?_)
    refine zV_b (pc' := 15) (lv' := [(0, .inr (.inr p0)), (1, .inl p1), (2, .inl l2)]) (st' := [.inl l2, .inr (.inr v3)]) [(.iload_n 2, 1)] (by decide +kernel) rfl ?_
    refine zV_ar (by decide +kernel) (by decide) (by decide) h (fun v4 _ h => ?_)
    refine zV_gi (by decide +kernel) zfl_RX5_25 (by decide) rfl (Or.inl rfl) h (fun v5 _ h => ?_)
    refine zV_b (pc' := 20) (lv' := [(0, .inr (.inr p0)), (1, .inl p1), (2, .inl l2)]) (st' := [.inl p1, .inl v5]) [(.iload_n 1, 1)] (by decide +kernel) rfl ?_
    refine zV_icmp_ne (off := 5) (tgt := 25) (by decide +kernel) (by decide) h (fun c6 h => ?_) (fun c6 h => ?_)
    · refine zV_b (pc' := 24) (lv' := [(0, .inr (.inr p0)), (1, .inl p1), (2, .inl l2)]) (st' := [.inl (1 : Int32)]) [(.iconst 1, 1)] (by decide +kernel) rfl ?_
      obtain ⟨w, ew, h⟩ := zb1_inv h
      obtain ⟨rfl, hv⟩ := zo_b_inv ew
      have hq : zRz X zC_X5_has M (1 : Int32) := k2 _ (Option.some.inj h).symm
      exact hq hv _ _ (by decide +kernel)
    · refine zV_b (pc' := 28) (lv' := [(2, .inl (l2 + 1)), (0, .inr (.inr p0)), (1, .inl p1)]) (st' := []) [(.iinc 2 1, 3)] (by decide +kernel) rfl ?_
      refine zV_goto (off := (-26)) (tgt := 2) (by decide +kernel) (by decide) ?_
      exact zV_lv (lv' := [(0, .inr (.inr p0)), (1, .inl p1), (2, .inl (l2 + 1))]) [1, 2, 0] rfl (k1 _ (Option.some.inj h).symm)
set_option maxRecDepth 100000 in
theorem zt_X5_has {X : Zx} {M : Zm} {l0 : Option Nat} {l1 : Int32} {z : Zm × Int32} (h : zf_X5_has M l0 l1 = some z) (hR : zRz X zC_X5_has z.1 z.2) : zV X zC_X5_has M 0 [(0, .inr (.inr l0)), (1, .inl l1)] [] := by
  unfold zf_X5_has at h
  refine zV_b (pc' := 2) (lv' := [(2, .inl (0 : Int32)), (0, .inr (.inr l0)), (1, .inl l1)]) (st' := []) [(.iconst 0, 1), (.istore_n 2, 1)] (by decide +kernel) rfl ?_
  obtain ⟨y9, e9, h⟩ := zb1_inv h
  refine zV_lv (lv' := [(0, .inr (.inr l0)), (1, .inl l1), (2, .inl (0 : Int32))]) [1, 2, 0] rfl (zt_X5_has_L2 e9 ?_)
  rcases y9 with ⟨M2_9, l2_9⟩ | ⟨Mq, xq⟩
  · show zV X zC_X5_has M2_9 31 [] []
    refine zV_b (pc' := 32) (lv' := []) (st' := [.inl (0 : Int32)]) [(.iconst 0, 1)] (by decide +kernel) rfl ?_
    exact zend_z h hR (by decide +kernel)
  · cases h
    exact hR
theorem zc_X5_has {M M' : Zm} {l0 : Option Nat} {l1 : Int32} {x : Int32} (h : zf_X5_has M l0 l1 = some (M', x)) (l : Launch) (D : va_G) (cy : Nat → ClassId) : zMet l yX5_has zC_X5_has (some .boolean) D cy [.inr (.inr l0), .inl l1] M M' (some (.inl x)) :=
  zM_b (by decide) rfl (fun h => by cases h) (Nat.le_of_ble_eq_true rfl) (fun X hR => zt_X5_has h hR)
-- BlendCellar$Picks.sum()J
def zC_X5_sum : Zc := (cX5_sum, 4, RX5, 0, 0, false)
theorem zcl_X5_sum {C : Zc} (h1 : zC_X5_sum.2.2.2.1 + 1 ≤ C.2.2.2.1) (h2 : 8 + (zC_X5_sum.2.1 + 11) + zC_X5_sum.2.2.2.2.1 ≤ C.2.2.2.2.1) : zCl C yX5_sum zC_X5_sum (some .long) 0 := ⟨zw_985, zw_105, ⟨by decide, by decide⟩, by decide +kernel, h1, h2⟩
noncomputable def zf_X5_sum_L4 (p0 : Option Nat) (x : Zm × Int64 × Int32) : Option ((Zm × Int64 × Int32) ⊕ (Zm × Int64 × Int32)) := match x with
  | (M, l1, l3) =>
  zb1 (zo_gi M p0 6 2) (fun v1 =>
  (if v1 ≤ l3 then
  some (.inr (M, l1, l3))
  else
  zb1 (zo_gr M p0 6 1) (fun v3 =>
  zb1 (zo_aj M v3 l3) (fun v4 =>
  some (.inl (M, (l1 + v4), (l3 + 1)))))))
def zP_X5_sum_L4 (X : Zx) (p0 : Option Nat) (x : Zm × Int64 × Int32) : Prop := match x with
  | (M, l1, l3) => zV X zC_X5_sum M 4 [(0, .inr (.inr p0)), (1, .inr (.inl l1)), (3, .inl l3)] []
def zK_X5_sum_L4 (X : Zx) (p0 : Option Nat) (y : Zm × Int64 × Int32) : Prop := match y with
  | (M, l1, l3) => zV X zC_X5_sum M 27 [(1, .inr (.inl l1))] []
noncomputable def zf_X5_sum (M : Zm) (l0 : Option Nat) : Option (Zm × Int64) :=
  zb1 (zwhile (zf_X5_sum_L4 l0) (M, (0 : Int64), (0 : Int32))) (fun y6 => match y6 with
  | (M4_6, l1_6, l3_6) =>
  some (M4_6, l1_6))
set_option maxRecDepth 100000 in
theorem zt_X5_sum_L4 {X : Zx} {p0 : Option Nat} {x : Zm × Int64 × Int32} {y : Zm × Int64 × Int32} (h : zwhile (zf_X5_sum_L4 p0) x = some y) (hy : zK_X5_sum_L4 X p0 y) : zP_X5_sum_L4 X p0 x := by
  refine zwhile_ind (P := zP_X5_sum_L4 X p0) (K := zK_X5_sum_L4 X p0) ?_ h hy
  intro x z hf k1 k2
  obtain ⟨M, l1, l3⟩ := x
  have h : zf_X5_sum_L4 p0 (M, l1, l3) = some z := hf
  unfold zf_X5_sum_L4 at h
  show zV X zC_X5_sum M 4 [(0, .inr (.inr p0)), (1, .inr (.inl l1)), (3, .inl l3)] []
  refine zV_b (pc' := 6) (lv' := [(0, .inr (.inr p0)), (1, .inr (.inl l1)), (3, .inl l3)]) (st' := [.inr (.inr p0), .inl l3]) [(.iload_n 3, 1), (.aload_n 0, 1)] (by decide +kernel) rfl ?_
  refine zV_gi (by decide +kernel) zfl_RX5_21 (by decide) rfl (Or.inl rfl) h (fun v1 _ h => ?_)
  refine zV_icmp_ge (off := 18) (tgt := 27) (by decide +kernel) (by decide) h (fun c2 h => ?_) (fun c2 h => ?_)
  · exact zV_lv (lv' := [(1, .inr (.inl l1))]) [1] rfl (k2 _ (Option.some.inj h).symm)
  · refine zV_b (pc' := 14) (lv' := [(0, .inr (.inr p0)), (1, .inr (.inl l1)), (3, .inl l3)]) (st' := [.inr (.inr p0), .inr (.inl l1)]) [(.lload_n 1, 1), (.aload_n 0, 1)] (by decide +kernel) rfl ?_
    refine zV_gr (by decide +kernel) zfl_RX5_17 (by decide) rfl h (fun v3 _ h => ?_)
    refine zV_b (pc' := 18) (lv' := [(0, .inr (.inr p0)), (1, .inr (.inl l1)), (3, .inl l3)]) (st' := [.inl l3, .inr (.inr v3), .inr (.inl l1)]) [(.iload_n 3, 1)] (by decide +kernel) rfl ?_
    refine zV_aj (by decide +kernel) h (fun v4 _ h => ?_)
    refine zV_b (pc' := 24) (lv' := [(3, .inl (l3 + 1)), (1, .inr (.inl (l1 + v4))), (0, .inr (.inr p0))]) (st' := []) [(.ladd, 1), (.lstore_n 1, 1), (.iinc 3 1, 3)] (by decide +kernel) rfl ?_
    refine zV_goto (off := (-20)) (tgt := 4) (by decide +kernel) (by decide) ?_
    exact zV_lv (lv' := [(0, .inr (.inr p0)), (1, .inr (.inl (l1 + v4))), (3, .inl (l3 + 1))]) [2, 1, 0] rfl (k1 _ (Option.some.inj h).symm)
set_option maxRecDepth 100000 in
theorem zt_X5_sum {X : Zx} {M : Zm} {l0 : Option Nat} {z : Zm × Int64} (h : zf_X5_sum M l0 = some z) (hR : zRj X zC_X5_sum z.1 z.2) : zV X zC_X5_sum M 0 [(0, .inr (.inr l0))] [] := by
  unfold zf_X5_sum at h
  refine zV_b (pc' := 4) (lv' := [(3, .inl (0 : Int32)), (1, .inr (.inl (0 : Int64))), (0, .inr (.inr l0))]) (st' := []) [(.lconst 0, 1), (.lstore_n 1, 1), (.iconst 0, 1), (.istore_n 3, 1)] (by decide +kernel) rfl ?_
  obtain ⟨y6, e6, h⟩ := zb1_inv h
  refine zV_lv (lv' := [(0, .inr (.inr l0)), (1, .inr (.inl (0 : Int64))), (3, .inl (0 : Int32))]) [2, 1, 0] rfl (zt_X5_sum_L4 e6 ?_)
  obtain ⟨M4_6, l1_6, l3_6⟩ := y6
  show zV X zC_X5_sum M4_6 27 [(1, .inr (.inl l1_6))] []
  refine zV_b (pc' := 28) (lv' := [(1, .inr (.inl l1_6))]) (st' := [.inr (.inl l1_6)]) [(.lload_n 1, 1)] (by decide +kernel) rfl ?_
  exact zend_j h hR (by decide +kernel)
theorem zc_X5_sum {M M' : Zm} {l0 : Option Nat} {x : Int64} (h : zf_X5_sum M l0 = some (M', x)) (l : Launch) (D : va_G) (cy : Nat → ClassId) : zMet l yX5_sum zC_X5_sum (some .long) D cy [.inr (.inr l0)] M M' (some (.inr (.inl x))) :=
  zM_j (by decide) rfl (fun h => by cases h) (Nat.le_of_ble_eq_true rfl) (fun X hR => zt_X5_sum h hR)
