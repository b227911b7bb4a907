/-! What the bytecode does, as functions of the memory, and the walks (written by wip/gen.py). -/
-- BlendCellar$Trace.ran(I)V
def zC_X9_ran : Zc := (cX9_ran, 2, RX9, 0, 0, false)
theorem zcl_X9_ran {C : Zc} (h1 : zC_X9_ran.2.2.2.1 + 1 ≤ C.2.2.2.1) (h2 : 8 + (zC_X9_ran.2.1 + 11) + zC_X9_ran.2.2.2.2.1 ≤ C.2.2.2.2.1) : zCl C yX9_ran zC_X9_ran none 1 := ⟨zw_799, zw_113, ⟨by decide, by decide⟩, by decide +kernel, h1, h2⟩
noncomputable def zf_X9_ran (M : Zm) (l0 : Option Nat) (l1 : Int32) : Option (Zm × Unit) :=
  zb1 (zo_gi M l0 10 1) (fun v1 =>
  zb1 (zo_gr M l0 10 0) (fun v2 =>
  zb1 (zo_al M v2) (fun v3 =>
  (if v3 ≤ v1 then
  some (M, ())
  else
  zb1 (zo_gr M l0 10 0) (fun v6 =>
  zb1 (zo_gi M l0 10 1) (fun v7 =>
  zb1 (zo_si M v6 v7 l1) (fun M8 =>
  zb1 (zo_gi M8 l0 10 1) (fun v9 =>
  zb1 (zo_pi M8 l0 10 1 (v9 + (1 : Int32))) (fun M10 =>
  some (M10, ()))))))))))
set_option maxRecDepth 100000 in
theorem zt_X9_ran {X : Zx} {M : Zm} {l0 : Option Nat} {l1 : Int32} {z : Zm × Unit} (h : zf_X9_ran M l0 l1 = some z) (hR : zRv X zC_X9_ran z.1) : zV X zC_X9_ran M 0 [(0, .inr (.inr l0)), (1, .inl l1)] [] := by
  unfold zf_X9_ran at h
  refine zV_b (pc' := 1) (lv' := [(0, .inr (.inr l0)), (1, .inl l1)]) (st' := [.inr (.inr l0)]) [(.aload_n 0, 1)] (by decide +kernel) rfl ?_
  refine zV_gi (by decide +kernel) zfl_RX9_7 (by decide) rfl (Or.inl rfl) h (fun v1 _ h => ?_)
  refine zV_b (pc' := 5) (lv' := [(0, .inr (.inr l0)), (1, .inl l1)]) (st' := [.inr (.inr l0), .inl v1]) [(.aload_n 0, 1)] (by decide +kernel) rfl ?_
  refine zV_gr (by decide +kernel) zfl_RX9_19 (by decide) rfl h (fun v2 _ h => ?_)
  refine zV_al (by decide +kernel) h (fun v3 _ h => ?_)
  refine zV_icmp_ge (off := 23) (tgt := 32) (by decide +kernel) (by decide) h (fun c4 h => ?_) (fun c4 h => ?_)
  · exact zend_v h hR (by decide +kernel)
  · refine zV_b (pc' := 13) (lv' := [(0, .inr (.inr l0)), (1, .inl l1)]) (st' := [.inr (.inr l0)]) [(.aload_n 0, 1)] (by decide +kernel) rfl ?_
    refine zV_gr (by decide +kernel) zfl_RX9_19 (by decide) rfl h (fun v6 _ h => ?_)
    refine zV_b (pc' := 17) (lv' := [(0, .inr (.inr l0)), (1, .inl l1)]) (st' := [.inr (.inr l0), .inr (.inr v6)]) [(.aload_n 0, 1)] (by decide +kernel) rfl ?_
    refine zV_gi (by decide +kernel) zfl_RX9_7 (by decide) rfl (Or.inl rfl) h (fun v7 _ h => ?_)
    refine zV_b (pc' := 21) (lv' := [(0, .inr (.inr l0)), (1, .inl l1)]) (st' := [.inl l1, .inl v7, .inr (.inr v6)]) [(.iload_n 1, 1)] (by decide +kernel) rfl ?_
    refine zV_si (by decide +kernel) h (fun M8 _ h => ?_)
    refine zV_b (pc' := 24) (lv' := [(0, .inr (.inr l0)), (1, .inl l1)]) (st' := [.inr (.inr l0), .inr (.inr l0)]) [(.aload_n 0, 1), (.dup, 1)] (by decide +kernel) rfl ?_
    refine zV_gi (by decide +kernel) zfl_RX9_7 (by decide) rfl (Or.inl rfl) h (fun v9 _ h => ?_)
    refine zV_b (pc' := 29) (lv' := [(0, .inr (.inr l0)), (1, .inl l1)]) (st' := [.inl (v9 + (1 : Int32)), .inr (.inr l0)]) [(.iconst 1, 1), (.iadd, 1)] (by decide +kernel) rfl ?_
    refine zV_pi (by decide +kernel) zfp_RX9_7 (by decide) rfl h (fun M10 _ h => ?_)
    exact zend_v h hR (by decide +kernel)
theorem zc_X9_ran {M M' : Zm} {l0 : Option Nat} {l1 : Int32} {x : Unit} (h : zf_X9_ran M l0 l1 = some (M', x)) (l : Launch) (D : va_G) (cy : Nat → ClassId) : zMet l yX9_ran zC_X9_ran none D cy [.inr (.inr l0), .inl l1] M M' none :=
  zM_v (by decide) rfl (fun h => by cases h) (Nat.le_of_ble_eq_true rfl) (fun X hR => zt_X9_ran h hR)
-- BlendCellar$Lines.<init>()V
def zC_X4_init : Zc := (cX4_init, 1, RX4, 1, 12, true)
theorem zcl_X4_init {C : Zc} (h1 : zC_X4_init.2.2.2.1 + 1 ≤ C.2.2.2.1) (h2 : 8 + (zC_X4_init.2.1 + 11) + zC_X4_init.2.2.2.2.1 ≤ C.2.2.2.2.1) : zCl C yX4_init zC_X4_init none 0 := ⟨zw_284, zw_110, ⟨by decide, by decide⟩, by decide +kernel, h1, h2⟩
noncomputable def zf_X4_init (M : Zm) (l0 : Option Nat) : Option (Zm × Unit) :=
  zb1 (zo_rc M l0 5) (fun _ =>
  zb1 (zo_na M 15 (16 : Int32)) (fun M2 =>
  zb1 (zo_pr M2 l0 5 0 (zm_nx M)) (fun M3 =>
  zb1 (zo_pi M3 l0 5 1 (0 : Int32)) (fun M4 =>
  some (M4, ())))))
set_option maxRecDepth 100000 in
theorem zt_X4_init {X : Zx} {M : Zm} {l0 : Option Nat} {z : Zm × Unit} (h : zf_X4_init M l0 = some z) (hR : zRv X zC_X4_init z.1) : zV X zC_X4_init M 0 [(0, .inr (.inr l0))] [] := by
  unfold zf_X4_init at h
  refine zV_b (pc' := 1) (lv' := [(0, .inr (.inr l0))]) (st' := [.inr (.inr l0)]) [(.aload_n 0, 1)] (by decide +kernel) rfl ?_
  refine zV_oo (by decide +kernel) zw_285 (by decide) (by decide) h (fun _ _ h => ?_)
  refine zV_b (pc' := 7) (lv' := [(0, .inr (.inr l0))]) (st' := [.inl (16 : Int32), .inr (.inr l0)]) [(.aload_n 0, 1), (.bipush 16, 2)] (by decide +kernel) rfl ?_
  refine zV_na (by decide +kernel) (Or.inr ⟨rfl, rfl⟩) h (fun M2 _ h => ?_)
  refine zV_pr (by decide +kernel) zfp_RX4_11_i (Or.inr ⟨_, rfl⟩) (by decide) rfl h (fun M3 _ h => ?_)
  refine zV_b (pc' := 14) (lv' := [(0, .inr (.inr l0))]) (st' := [.inl (0 : Int32), .inr (.inr l0)]) [(.aload_n 0, 1), (.iconst 0, 1)] (by decide +kernel) rfl ?_
  refine zV_pi (by decide +kernel) zfp_RX4_15_i (by decide) rfl h (fun M4 _ h => ?_)
  exact zend_v h hR (by decide +kernel)
theorem zc_X4_init {M M' : Zm} {l0 : Option Nat} {x : Unit} (h : zf_X4_init M l0 = some (M', x)) (l : Launch) (D : va_G) (cy : Nat → ClassId) : zMet l yX4_init zC_X4_init none D cy [.inr (.inr l0)] M M' none :=
  zM_v (by decide) rfl (fun _ => rfl) (Nat.le_of_ble_eq_true rfl) (fun X hR => zt_X4_init h hR)
-- BlendCellar$Lines.add(JJJJ)V
def zC_X4_add : Zc := (cX4_add, 10, RX4, 2, 48, false)
theorem zcl_X4_add {C : Zc} (h1 : zC_X4_add.2.2.2.1 + 1 ≤ C.2.2.2.1) (h2 : 8 + (zC_X4_add.2.1 + 11) + zC_X4_add.2.2.2.2.1 ≤ C.2.2.2.2.1) : zCl C yX4_add zC_X4_add none 4 := ⟨zw_847, zw_110, ⟨by decide, by decide⟩, by decide +kernel, h1, h2⟩
noncomputable def zf_X4_add_J38 (M : Zm) (l0 : Option Nat) (l1 : Int64) (l3 : Int64) (l5 : Int64) (l7 : Int64) (l9 : Int32) : Option (Zm × Unit) :=
  zb1 (zo_gr M l0 5 0) (fun v5 =>
  zb1 (zo_sj M v5 l9 l1) (fun M6 =>
  zb1 (zo_gr M6 l0 5 0) (fun v7 =>
  zb1 (zo_sj M6 v7 (l9 + (1 : Int32)) l3) (fun M8 =>
  zb1 (zo_gr M8 l0 5 0) (fun v9 =>
  zb1 (zo_sj M8 v9 (l9 + (2 : Int32)) l5) (fun M10 =>
  zb1 (zo_gr M10 l0 5 0) (fun v11 =>
  zb1 (zo_sj M10 v11 (l9 + (3 : Int32)) l7) (fun M12 =>
  zb1 (zo_gi M12 l0 5 1) (fun v13 =>
  zb1 (zo_pi M12 l0 5 1 (v13 + (1 : Int32))) (fun M14 =>
  some (M14, ())))))))))))
noncomputable def zf_X4_add (M : Zm) (l0 : Option Nat) (l1 : Int64) (l3 : Int64) (l5 : Int64) (l7 : Int64) : Option (Zm × Unit) :=
  zb1 (zo_gi M l0 5 1) (fun v1 =>
  zb1 (zo_gr M l0 5 0) (fun v2 =>
  zb1 (zo_al M v2) (fun v3 =>
  (if ((v1 * (4 : Int32)) + (4 : Int32)) ≤ v3 then
  zf_X4_add_J38 M l0 l1 l3 l5 l7 (v1 * (4 : Int32))
  else
  zb1 (zo_gr M l0 5 0) (fun v16 =>
  zb1 (zo_gr M l0 5 0) (fun v17 =>
  zb1 (zo_al M v17) (fun v18 =>
  zbd (zf_J7_copyOf_c38d5 M v16 ((2 : Int32) * v18)) (fun M19 v19 =>
  zb1 (zo_pr M19 l0 5 0 v19) (fun M20 =>
  zf_X4_add_J38 M20 l0 l1 l3 l5 l7 (v1 * (4 : Int32)))))))))))
set_option maxRecDepth 100000 in
theorem zt_X4_add_J38 {X : Zx} {M : Zm} {l0 : Option Nat} {l1 : Int64} {l3 : Int64} {l5 : Int64} {l7 : Int64} {l9 : Int32} {z : Zm × Unit} (h : zf_X4_add_J38 M l0 l1 l3 l5 l7 l9 = some z) (hR : zRv X zC_X4_add z.1) : zV X zC_X4_add M 38 [(0, .inr (.inr l0)), (1, .inr (.inl l1)), (3, .inr (.inl l3)), (5, .inr (.inl l5)), (7, .inr (.inl l7)), (9, .inl l9)] [] := by
  unfold zf_X4_add_J38 at h
  refine zV_b (pc' := 39) (lv' := [(0, .inr (.inr l0)), (1, .inr (.inl l1)), (3, .inr (.inl l3)), (5, .inr (.inl l5)), (7, .inr (.inl l7)), (9, .inl l9)]) (st' := [.inr (.inr l0)]) [(.aload_n 0, 1)] (by decide +kernel) rfl ?_
  refine zV_gr (by decide +kernel) zfl_RX4_11 (by decide) rfl h (fun v5 _ h => ?_)
  refine zV_b (pc' := 45) (lv' := [(0, .inr (.inr l0)), (1, .inr (.inl l1)), (3, .inr (.inl l3)), (5, .inr (.inl l5)), (7, .inr (.inl l7)), (9, .inl l9)]) (st' := [.inr (.inl l1), .inl l9, .inr (.inr v5)]) [(.iload 9, 2), (.lload_n 1, 1)] (by decide +kernel) rfl ?_
  refine zV_sj (by decide +kernel) h (fun M6 _ h => ?_)
  refine zV_b (pc' := 47) (lv' := [(0, .inr (.inr l0)), (1, .inr (.inl l1)), (3, .inr (.inl l3)), (5, .inr (.inl l5)), (7, .inr (.inl l7)), (9, .inl l9)]) (st' := [.inr (.inr l0)]) [(.aload_n 0, 1)] (by decide +kernel) rfl ?_
  refine zV_gr (by decide +kernel) zfl_RX4_11 (by decide) rfl h (fun v7 _ h => ?_)
  refine zV_b (pc' := 55) (lv' := [(0, .inr (.inr l0)), (1, .inr (.inl l1)), (3, .inr (.inl l3)), (5, .inr (.inl l5)), (7, .inr (.inl l7)), (9, .inl l9)]) (st' := [.inr (.inl l3), .inl (l9 + (1 : Int32)), .inr (.inr v7)]) [(.iload 9, 2), (.iconst 1, 1), (.iadd, 1), (.lload_n 3, 1)] (by decide +kernel) rfl ?_
  refine zV_sj (by decide +kernel) h (fun M8 _ h => ?_)
  refine zV_b (pc' := 57) (lv' := [(0, .inr (.inr l0)), (1, .inr (.inl l1)), (3, .inr (.inl l3)), (5, .inr (.inl l5)), (7, .inr (.inl l7)), (9, .inl l9)]) (st' := [.inr (.inr l0)]) [(.aload_n 0, 1)] (by decide +kernel) rfl ?_
  refine zV_gr (by decide +kernel) zfl_RX4_11 (by decide) rfl h (fun v9 _ h => ?_)
  refine zV_b (pc' := 66) (lv' := [(0, .inr (.inr l0)), (1, .inr (.inl l1)), (3, .inr (.inl l3)), (5, .inr (.inl l5)), (7, .inr (.inl l7)), (9, .inl l9)]) (st' := [.inr (.inl l5), .inl (l9 + (2 : Int32)), .inr (.inr v9)]) [(.iload 9, 2), (.iconst 2, 1), (.iadd, 1), (.lload 5, 2)] (by decide +kernel) rfl ?_
  refine zV_sj (by decide +kernel) h (fun M10 _ h => ?_)
  refine zV_b (pc' := 68) (lv' := [(0, .inr (.inr l0)), (1, .inr (.inl l1)), (3, .inr (.inl l3)), (5, .inr (.inl l5)), (7, .inr (.inl l7)), (9, .inl l9)]) (st' := [.inr (.inr l0)]) [(.aload_n 0, 1)] (by decide +kernel) rfl ?_
  refine zV_gr (by decide +kernel) zfl_RX4_11 (by decide) rfl h (fun v11 _ h => ?_)
  refine zV_b (pc' := 77) (lv' := [(0, .inr (.inr l0)), (1, .inr (.inl l1)), (3, .inr (.inl l3)), (5, .inr (.inl l5)), (7, .inr (.inl l7)), (9, .inl l9)]) (st' := [.inr (.inl l7), .inl (l9 + (3 : Int32)), .inr (.inr v11)]) [(.iload 9, 2), (.iconst 3, 1), (.iadd, 1), (.lload 7, 2)] (by decide +kernel) rfl ?_
  refine zV_sj (by decide +kernel) h (fun M12 _ h => ?_)
  refine zV_b (pc' := 80) (lv' := [(0, .inr (.inr l0)), (1, .inr (.inl l1)), (3, .inr (.inl l3)), (5, .inr (.inl l5)), (7, .inr (.inl l7)), (9, .inl l9)]) (st' := [.inr (.inr l0), .inr (.inr l0)]) [(.aload_n 0, 1), (.dup, 1)] (by decide +kernel) rfl ?_
  refine zV_gi (by decide +kernel) zfl_RX4_15 (by decide) rfl (Or.inl rfl) h (fun v13 _ h => ?_)
  refine zV_b (pc' := 85) (lv' := [(0, .inr (.inr l0)), (1, .inr (.inl l1)), (3, .inr (.inl l3)), (5, .inr (.inl l5)), (7, .inr (.inl l7)), (9, .inl l9)]) (st' := [.inl (v13 + (1 : Int32)), .inr (.inr l0)]) [(.iconst 1, 1), (.iadd, 1)] (by decide +kernel) rfl ?_
  refine zV_pi (by decide +kernel) zfp_RX4_15 (by decide) rfl h (fun M14 _ h => ?_)
  exact zend_v h hR (by decide +kernel)
set_option maxRecDepth 100000 in
theorem zt_X4_add {X : Zx} {M : Zm} {l0 : Option Nat} {l1 : Int64} {l3 : Int64} {l5 : Int64} {l7 : Int64} {z : Zm × Unit} (h : zf_X4_add M l0 l1 l3 l5 l7 = some z) (hR : zRv X zC_X4_add z.1) : zV X zC_X4_add M 0 [(0, .inr (.inr l0)), (1, .inr (.inl l1)), (3, .inr (.inl l3)), (5, .inr (.inl l5)), (7, .inr (.inl l7))] [] := by
  unfold zf_X4_add at h
  refine zV_b (pc' := 1) (lv' := [(0, .inr (.inr l0)), (1, .inr (.inl l1)), (3, .inr (.inl l3)), (5, .inr (.inl l5)), (7, .inr (.inl l7))]) (st' := [.inr (.inr l0)]) [(.aload_n 0, 1)] (by decide +kernel) rfl ?_
  refine zV_gi (by decide +kernel) zfl_RX4_15 (by decide) rfl (Or.inl rfl) h (fun v1 _ h => ?_)
  refine zV_b (pc' := 13) (lv' := [(9, .inl (v1 * (4 : Int32))), (0, .inr (.inr l0)), (1, .inr (.inl l1)), (3, .inr (.inl l3)), (5, .inr (.inl l5)), (7, .inr (.inl l7))]) (st' := [.inr (.inr l0), .inl ((v1 * (4 : Int32)) + (4 : Int32))]) [(.iconst 4, 1), (.imul, 1), (.istore 9, 2), (.iload 9, 2), (.iconst 4, 1), (.iadd, 1), (.aload_n 0, 1)] (by decide +kernel) rfl ?_
  refine zV_gr (by decide +kernel) zfl_RX4_11 (by decide) rfl h (fun v2 _ h => ?_)
  refine zV_al (by decide +kernel) h (fun v3 _ h => ?_)
  refine zV_icmp_le (off := 21) (tgt := 38) (by decide +kernel) (by decide) h (fun c4 h => ?_) (fun c4 h => ?_)
  · exact zV_lv (lv' := [(0, .inr (.inr l0)), (1, .inr (.inl l1)), (3, .inr (.inl l3)), (5, .inr (.inl l5)), (7, .inr (.inl l7)), (9, .inl (v1 * (4 : Int32)))]) [1, 2, 3, 4, 5, 0] rfl (zt_X4_add_J38 h hR)
  · refine zV_b (pc' := 22) (lv' := [(9, .inl (v1 * (4 : Int32))), (0, .inr (.inr l0)), (1, .inr (.inl l1)), (3, .inr (.inl l3)), (5, .inr (.inl l5)), (7, .inr (.inl l7))]) (st' := [.inr (.inr l0), .inr (.inr l0)]) [(.aload_n 0, 1), (.aload_n 0, 1)] (by decide +kernel) rfl ?_
    refine zV_gr (by decide +kernel) zfl_RX4_11 (by decide) rfl h (fun v16 _ h => ?_)
    refine zV_b (pc' := 27) (lv' := [(9, .inl (v1 * (4 : Int32))), (0, .inr (.inr l0)), (1, .inr (.inl l1)), (3, .inr (.inl l3)), (5, .inr (.inl l5)), (7, .inr (.inl l7))]) (st' := [.inr (.inr l0), .inl (2 : Int32), .inr (.inr v16), .inr (.inr l0)]) [(.iconst 2, 1), (.aload_n 0, 1)] (by decide +kernel) rfl ?_
    refine zV_gr (by decide +kernel) zfl_RX4_11 (by decide) rfl h (fun v17 _ h => ?_)
    refine zV_al (by decide +kernel) h (fun v18 _ h => ?_)
    refine zV_b (pc' := 32) (lv' := [(9, .inl (v1 * (4 : Int32))), (0, .inr (.inr l0)), (1, .inr (.inl l1)), (3, .inr (.inl l3)), (5, .inr (.inl l5)), (7, .inr (.inl l7))]) (st' := [.inl ((2 : Int32) * v18), .inr (.inr v16), .inr (.inr l0)]) [(.imul, 1)] (by decide +kernel) rfl ?_
    refine zV_csr (As := [.inr (.inr v16), .inl ((2 : Int32) * v18)]) (st := [.inr (.inr l0)]) (by decide +kernel) (zcl_J7_copyOf_c38d5 (by decide) (by decide)) ⟨zw_848, zw_837⟩ rfl rfl (Nat.le_of_ble_eq_true rfl) h (fun _ _ e => zc_J7_copyOf_c38d5 e) (fun M19 v19 _ h => ?_)
    refine zV_pr (by decide +kernel) zfp_RX4_11 (Or.inr ⟨_, rfl⟩) (by decide) rfl h (fun M20 _ h => ?_)
    exact zV_lv (lv' := [(0, .inr (.inr l0)), (1, .inr (.inl l1)), (3, .inr (.inl l3)), (5, .inr (.inl l5)), (7, .inr (.inl l7)), (9, .inl (v1 * (4 : Int32)))]) [1, 2, 3, 4, 5, 0] rfl (zt_X4_add_J38 h hR)
theorem zc_X4_add {M M' : Zm} {l0 : Option Nat} {l1 : Int64} {l3 : Int64} {l5 : Int64} {l7 : Int64} {x : Unit} (h : zf_X4_add M l0 l1 l3 l5 l7 = some (M', x)) (l : Launch) (D : va_G) (cy : Nat → ClassId) : zMet l yX4_add zC_X4_add none D cy [.inr (.inr l0), .inr (.inl l1), .inr (.inl l3), .inr (.inl l5), .inr (.inl l7)] M M' none :=
  zM_v (by decide) rfl (fun h => by cases h) (Nat.le_of_ble_eq_true rfl) (fun X hR => zt_X4_add h hR)
-- BlendCellar$Lines.cutTo(I)V
def zC_X4_cutTo : Zc := (cX4_cutTo, 2, RX4, 1, 23, false)
theorem zcl_X4_cutTo {C : Zc} (h1 : zC_X4_cutTo.2.2.2.1 + 1 ≤ C.2.2.2.1) (h2 : 8 + (zC_X4_cutTo.2.1 + 11) + zC_X4_cutTo.2.2.2.2.1 ≤ C.2.2.2.2.1) : zCl C yX4_cutTo zC_X4_cutTo none 1 := ⟨zw_1284, zw_110, ⟨by decide, by decide⟩, by decide +kernel, h1, h2⟩
noncomputable def zf_X4_cutTo (M : Zm) (l0 : Option Nat) (l1 : Int32) : Option (Zm × Unit) :=
  zb1 (zo_gi M l0 5 1) (fun v1 =>
  zb1 (zo_pi M l0 5 1 (zmini v1 l1)) (fun M3 =>
  some (M3, ())))
set_option maxRecDepth 100000 in
theorem zt_X4_cutTo {X : Zx} {M : Zm} {l0 : Option Nat} {l1 : Int32} {z : Zm × Unit} (h : zf_X4_cutTo M l0 l1 = some z) (hR : zRv X zC_X4_cutTo z.1) : zV X zC_X4_cutTo M 0 [(0, .inr (.inr l0)), (1, .inl l1)] [] := by
  unfold zf_X4_cutTo at h
  refine zV_b (pc' := 2) (lv' := [(0, .inr (.inr l0)), (1, .inl l1)]) (st' := [.inr (.inr l0), .inr (.inr l0)]) [(.aload_n 0, 1), (.aload_n 0, 1)] (by decide +kernel) rfl ?_
  refine zV_gi (by decide +kernel) zfl_RX4_15 (by decide) rfl (Or.inl rfl) h (fun v1 _ h => ?_)
  refine zV_b (pc' := 6) (lv' := [(0, .inr (.inr l0)), (1, .inl l1)]) (st' := [.inl l1, .inl v1, .inr (.inr l0)]) [(.iload_n 1, 1)] (by decide +kernel) rfl ?_
  refine zV_mini (st := [.inr (.inr l0)]) (by decide +kernel) zw_1285 (by decide) (Nat.le_of_ble_eq_true rfl) ?_
  refine zV_pi (by decide +kernel) zfp_RX4_15 (by decide) rfl h (fun M3 _ h => ?_)
  exact zend_v h hR (by decide +kernel)
theorem zc_X4_cutTo {M M' : Zm} {l0 : Option Nat} {l1 : Int32} {x : Unit} (h : zf_X4_cutTo M l0 l1 = some (M', x)) (l : Launch) (D : va_G) (cy : Nat → ClassId) : zMet l yX4_cutTo zC_X4_cutTo none D cy [.inr (.inr l0), .inl l1] M M' none :=
  zM_v (by decide) rfl (fun h => by cases h) (Nat.le_of_ble_eq_true rfl) (fun X hR => zt_X4_cutTo h hR)
-- BlendCellar$Lines.read(II)J
def zC_X4_read : Zc := (cX4_read, 3, RX4, 0, 0, false)
theorem zcl_X4_read {C : Zc} (h1 : zC_X4_read.2.2.2.1 + 1 ≤ C.2.2.2.1) (h2 : 8 + (zC_X4_read.2.1 + 11) + zC_X4_read.2.2.2.2.1 ≤ C.2.2.2.2.1) : zCl C yX4_read zC_X4_read (some .long) 2 := ⟨zw_1376, zw_110, ⟨by decide, by decide⟩, by decide +kernel, h1, h2⟩
noncomputable def zf_X4_read_J21 (M : Zm)  : Option (Zm × Int64) :=
  some (M, (-1 : Int64))
noncomputable def zf_X4_read (M : Zm) (l0 : Option Nat) (l1 : Int32) (l2 : Int32) : Option (Zm × Int64) :=
  (if l1 < 0 then
  zf_X4_read_J21 M
  else
  zb1 (zo_gi M l0 5 1) (fun v4 =>
  (if v4 ≤ l1 then
  zf_X4_read_J21 M
  else
  (if l2 < 0 then
  zf_X4_read_J21 M
  else
  (if l2 < (4 : Int32) then
  zb1 (zo_gr M l0 5 0) (fun v8 =>
  zb1 (zo_aj M v8 ((l1 * (4 : Int32)) + l2)) (fun v9 =>
  some (M, v9)))
  else
  zf_X4_read_J21 M)))))
set_option maxRecDepth 100000 in
theorem zt_X4_read_J21 {X : Zx} {M : Zm}  {z : Zm × Int64} (h : zf_X4_read_J21 M  = some z) (hR : zRj X zC_X4_read z.1 z.2) : zV X zC_X4_read M 21 [] [] := by
  unfold zf_X4_read_J21 at h
  refine zV_ldc2 (by decide +kernel) zw_1377 ?_
  exact zend_j h hR (by decide +kernel)
set_option maxRecDepth 100000 in
theorem zt_X4_read {X : Zx} {M : Zm} {l0 : Option Nat} {l1 : Int32} {l2 : Int32} {z : Zm × Int64} (h : zf_X4_read M l0 l1 l2 = some z) (hR : zRj X zC_X4_read z.1 z.2) : zV X zC_X4_read M 0 [(0, .inr (.inr l0)), (1, .inl l1), (2, .inl l2)] [] := by
  unfold zf_X4_read at h
  refine zV_b (pc' := 1) (lv' := [(0, .inr (.inr l0)), (1, .inl l1), (2, .inl l2)]) (st' := [.inl l1]) [(.iload_n 1, 1)] (by decide +kernel) rfl ?_
  refine zV_if_lt (off := 20) (tgt := 21) (by decide +kernel) (by decide) h (fun c1 h => ?_) (fun c1 h => ?_)
  · exact zV_lv (lv' := []) [] rfl (zt_X4_read_J21 h hR)
  · refine zV_b (pc' := 6) (lv' := [(0, .inr (.inr l0)), (1, .inl l1), (2, .inl l2)]) (st' := [.inr (.inr l0), .inl l1]) [(.iload_n 1, 1), (.aload_n 0, 1)] (by decide +kernel) rfl ?_
    refine zV_gi (by decide +kernel) zfl_RX4_15 (by decide) rfl (Or.inl rfl) h (fun v4 _ h => ?_)
    refine zV_icmp_ge (off := 12) (tgt := 21) (by decide +kernel) (by decide) h (fun c5 h => ?_) (fun c5 h => ?_)
    · exact zV_lv (lv' := []) [] rfl (zt_X4_read_J21 h hR)
    · refine zV_b (pc' := 13) (lv' := [(0, .inr (.inr l0)), (1, .inl l1), (2, .inl l2)]) (st' := [.inl l2]) [(.iload_n 2, 1)] (by decide +kernel) rfl ?_
      refine zV_if_lt (off := 8) (tgt := 21) (by decide +kernel) (by decide) h (fun c6 h => ?_) (fun c6 h => ?_)
      · exact zV_lv (lv' := []) [] rfl (zt_X4_read_J21 h hR)
      · refine zV_b (pc' := 18) (lv' := [(0, .inr (.inr l0)), (1, .inl l1), (2, .inl l2)]) (st' := [.inl (4 : Int32), .inl l2]) [(.iload_n 2, 1), (.iconst 4, 1)] (by decide +kernel) rfl ?_
        refine zV_icmp_lt (off := 7) (tgt := 25) (by decide +kernel) (by decide) h (fun c7 h => ?_) (fun c7 h => ?_)
        · refine zV_b (pc' := 26) (lv' := [(0, .inr (.inr l0)), (1, .inl l1), (2, .inl l2)]) (st' := [.inr (.inr l0)]) [(.aload_n 0, 1)] (by decide +kernel) rfl ?_
          refine zV_gr (by decide +kernel) zfl_RX4_11 (by decide) rfl h (fun v8 _ h => ?_)
          refine zV_b (pc' := 34) (lv' := [(0, .inr (.inr l0)), (1, .inl l1), (2, .inl l2)]) (st' := [.inl ((l1 * (4 : Int32)) + l2), .inr (.inr v8)]) [(.iload_n 1, 1), (.iconst 4, 1), (.imul, 1), (.iload_n 2, 1), (.iadd, 1)] (by decide +kernel) rfl ?_
          refine zV_aj (by decide +kernel) h (fun v9 _ h => ?_)
          exact zend_j h hR (by decide +kernel)
        · exact zV_lv (lv' := []) [] rfl (zt_X4_read_J21 h hR)
theorem zc_X4_read {M M' : Zm} {l0 : Option Nat} {l1 : Int32} {l2 : Int32} {x : Int64} (h : zf_X4_read M l0 l1 l2 = some (M', x)) (l : Launch) (D : va_G) (cy : Nat → ClassId) : zMet l yX4_read zC_X4_read (some .long) D cy [.inr (.inr l0), .inl l1, .inl l2] M M' (some (.inr (.inl x))) :=
  zM_j (by decide) rfl (fun h => by cases h) (Nat.le_of_ble_eq_true rfl) (fun X hR => zt_X4_read h hR)
-- BlendCellar$Row.<init>(II)V
def zC_X7_init : Zc := (cX7_init, 3, RX7, 1, 23, true)
theorem zcl_X7_init {C : Zc} (h1 : zC_X7_init.2.2.2.1 + 1 ≤ C.2.2.2.1) (h2 : 8 + (zC_X7_init.2.1 + 11) + zC_X7_init.2.2.2.2.1 ≤ C.2.2.2.2.1) : zCl C yX7_init zC_X7_init none 2 := ⟨zw_496, zw_115, ⟨by decide, by decide⟩, by decide +kernel, h1, h2⟩
noncomputable def zf_X7_init (M : Zm) (l0 : Option Nat) (l1 : Int32) (l2 : Int32) : Option (Zm × Unit) :=
  zb1 (zo_rc M l0 8) (fun _ =>
  zb1 (zo_pi M l0 8 0 l1) (fun M2 =>
  zb1 (zo_na M2 14 (zmaxi l2 (0 : Int32))) (fun M4 =>
  zb1 (zo_pr M4 l0 8 1 (zm_nx M2)) (fun M5 =>
  zb1 (zo_gr M5 l0 8 1) (fun v6 =>
  zbd (zf_J7_fill_53178 M5 v6 (-1 : Int32)) (fun M7 _ =>
  some (M7, ())))))))
set_option maxRecDepth 100000 in
theorem zt_X7_init {X : Zx} {M : Zm} {l0 : Option Nat} {l1 : Int32} {l2 : Int32} {z : Zm × Unit} (h : zf_X7_init M l0 l1 l2 = some z) (hR : zRv X zC_X7_init z.1) : zV X zC_X7_init M 0 [(0, .inr (.inr l0)), (1, .inl l1), (2, .inl l2)] [] := by
  unfold zf_X7_init at h
  refine zV_b (pc' := 1) (lv' := [(0, .inr (.inr l0)), (1, .inl l1), (2, .inl l2)]) (st' := [.inr (.inr l0)]) [(.aload_n 0, 1)] (by decide +kernel) rfl ?_
  refine zV_oo (by decide +kernel) zw_497 (by decide) (by decide) h (fun _ _ h => ?_)
  refine zV_b (pc' := 6) (lv' := [(0, .inr (.inr l0)), (1, .inl l1), (2, .inl l2)]) (st' := [.inl l1, .inr (.inr l0)]) [(.aload_n 0, 1), (.iload_n 1, 1)] (by decide +kernel) rfl ?_
  refine zV_pi (by decide +kernel) zfp_RX7_9_i (by decide) rfl h (fun M2 _ h => ?_)
  refine zV_b (pc' := 12) (lv' := [(0, .inr (.inr l0)), (1, .inl l1), (2, .inl l2)]) (st' := [.inl (0 : Int32), .inl l2, .inr (.inr l0)]) [(.aload_n 0, 1), (.iload_n 2, 1), (.iconst 0, 1)] (by decide +kernel) rfl ?_
  refine zV_maxi (st := [.inr (.inr l0)]) (by decide +kernel) zw_498 (by decide) (Nat.le_of_ble_eq_true rfl) ?_
  refine zV_na (by decide +kernel) (Or.inl ⟨rfl, rfl⟩) h (fun M4 _ h => ?_)
  refine zV_pr (by decide +kernel) zfp_RX7_21_i (Or.inr ⟨_, rfl⟩) (by decide) rfl h (fun M5 _ h => ?_)
  refine zV_b (pc' := 21) (lv' := [(0, .inr (.inr l0)), (1, .inl l1), (2, .inl l2)]) (st' := [.inr (.inr l0)]) [(.aload_n 0, 1)] (by decide +kernel) rfl ?_
  refine zV_gr (by decide +kernel) zfl_RX7_21 (by decide) rfl h (fun v6 _ h => ?_)
  refine zV_b (pc' := 25) (lv' := [(0, .inr (.inr l0)), (1, .inl l1), (2, .inl l2)]) (st' := [.inl (-1 : Int32), .inr (.inr v6)]) [(.iconst (-1), 1)] (by decide +kernel) rfl ?_
  refine zV_csv (As := [.inr (.inr v6), .inl (-1 : Int32)]) (st := []) (by decide +kernel) (zcl_J7_fill_53178 (by decide) (by decide)) ⟨zw_499, zw_500⟩ rfl rfl (Nat.le_of_ble_eq_true rfl) h (fun _ _ e => zc_J7_fill_53178 e) (fun M7 _ _ h => ?_)
  exact zend_v h hR (by decide +kernel)
theorem zc_X7_init {M M' : Zm} {l0 : Option Nat} {l1 : Int32} {l2 : Int32} {x : Unit} (h : zf_X7_init M l0 l1 l2 = some (M', x)) (l : Launch) (D : va_G) (cy : Nat → ClassId) : zMet l yX7_init zC_X7_init none D cy [.inr (.inr l0), .inl l1, .inl l2] M M' none :=
  zM_v (by decide) rfl (fun _ => rfl) (Nat.le_of_ble_eq_true rfl) (fun X hR => zt_X7_init h hR)
-- BlendCellar$Row.takes(I)Z
def zC_X7_takes : Zc := (cX7_takes, 2, RX7, 0, 0, false)
theorem zcl_X7_takes {C : Zc} (h1 : zC_X7_takes.2.2.2.1 + 1 ≤ C.2.2.2.1) (h2 : 8 + (zC_X7_takes.2.1 + 11) + zC_X7_takes.2.2.2.2.1 ≤ C.2.2.2.2.1) : zCl C yX7_takes zC_X7_takes (some .boolean) 1 := ⟨zw_737, zw_115, ⟨by decide, by decide⟩, by decide +kernel, h1, h2⟩
theorem zd_X7_takes_4 : decode cX7_takes 4 = .ok (.tableswitch 107 0 5 #[40, 42, 58, 69, 85, 96], 40) := by decide +kernel
noncomputable def zf_X7_takes_J56 (M : Zm)  : Option (Zm × Int32) :=
  zb1 (zo_b (1 : Int32)) (fun w => some (M, w))
noncomputable def zf_X7_takes_J83 (M : Zm)  : Option (Zm × Int32) :=
  zb1 (zo_b (1 : Int32)) (fun w => some (M, w))
noncomputable def zf_X7_takes (M : Zm) (l0 : Option Nat) (l1 : Int32) : Option (Zm × Int32) :=
  zb1 (zo_gi M l0 8 0) (fun v1 =>
  (if v1 = 0 then
  zb1 (zo_b (1 : Int32)) (fun w => some (M, w))
  else
  (if v1 = 1 then
  (if l1 = (1 : Int32) then
  zf_X7_takes_J56 M
  else
  (if l1 = (2 : Int32) then
  zf_X7_takes_J56 M
  else
  zb1 (zo_b (0 : Int32)) (fun w => some (M, w))))
  else
  (if v1 = 2 then
  (if l1 = (2 : Int32) then
  zb1 (zo_b (1 : Int32)) (fun w => some (M, w))
  else
  zb1 (zo_b (0 : Int32)) (fun w => some (M, w)))
  else
  (if v1 = 3 then
  (if l1 = (3 : Int32) then
  zf_X7_takes_J83 M
  else
  (if l1 = (4 : Int32) then
  zf_X7_takes_J83 M
  else
  zb1 (zo_b (0 : Int32)) (fun w => some (M, w))))
  else
  (if v1 = 4 then
  (if l1 = (4 : Int32) then
  zb1 (zo_b (1 : Int32)) (fun w => some (M, w))
  else
  zb1 (zo_b (0 : Int32)) (fun w => some (M, w)))
  else
  (if v1 = 5 then
  (if l1 = (5 : Int32) then
  zb1 (zo_b (1 : Int32)) (fun w => some (M, w))
  else
  zb1 (zo_b (0 : Int32)) (fun w => some (M, w)))
  else
  (if l1 = (5 : Int32) then
  zb1 (zo_b (0 : Int32)) (fun w => some (M, w))
  else
  zb1 (zo_b (1 : Int32)) (fun w => some (M, w))))))))))
set_option maxRecDepth 100000 in
theorem zt_X7_takes_J56 {X : Zx} {M : Zm}  {z : Zm × Int32} (h : zf_X7_takes_J56 M  = some z) (hR : zRz X zC_X7_takes z.1 z.2) : zV X zC_X7_takes M 56 [] [] := by
  unfold zf_X7_takes_J56 at h
  refine zV_b (pc' := 57) (lv' := []) (st' := [.inl (1 : Int32)]) [(.iconst 1, 1)] (by decide +kernel) rfl ?_
  refine zV_goto (off := 4) (tgt := 61) (by decide +kernel) (by decide) ?_
  exact zend_z h hR (by decide +kernel)
set_option maxRecDepth 100000 in
theorem zt_X7_takes_J83 {X : Zx} {M : Zm}  {z : Zm × Int32} (h : zf_X7_takes_J83 M  = some z) (hR : zRz X zC_X7_takes z.1 z.2) : zV X zC_X7_takes M 83 [] [] := by
  unfold zf_X7_takes_J83 at h
  refine zV_b (pc' := 84) (lv' := []) (st' := [.inl (1 : Int32)]) [(.iconst 1, 1)] (by decide +kernel) rfl ?_
  refine zV_goto (off := 4) (tgt := 88) (by decide +kernel) (by decide) ?_
  exact zend_z h hR (by decide +kernel)
set_option maxRecDepth 100000 in
theorem zt_X7_takes {X : Zx} {M : Zm} {l0 : Option Nat} {l1 : Int32} {z : Zm × Int32} (h : zf_X7_takes M l0 l1 = some z) (hR : zRz X zC_X7_takes z.1 z.2) : zV X zC_X7_takes M 0 [(0, .inr (.inr l0)), (1, .inl l1)] [] := by
  unfold zf_X7_takes at h
  refine zV_b (pc' := 1) (lv' := [(0, .inr (.inr l0)), (1, .inl l1)]) (st' := [.inr (.inr l0)]) [(.aload_n 0, 1)] (by decide +kernel) rfl ?_
  refine zV_gi (by decide +kernel) zfl_RX7_9 (by decide) rfl (Or.inl rfl) h (fun v1 _ h => ?_)
  by_cases e2_0 : v1 = 0
  · have h := (zite h).1 e2_0
    refine zV_top e2_0 (zV_tin (tgt := 44) zd_X7_takes_4 (by decide) (by decide) rfl (by decide) ?_)
    refine zV_b (pc' := 45) (lv' := [(0, .inr (.inr l0)), (1, .inl l1)]) (st' := [.inl (1 : Int32)]) [(.iconst 1, 1)] (by decide +kernel) rfl ?_
    exact zend_z h hR (by decide +kernel)
  · have h := (zite h).2 e2_0
    by_cases e2_1 : v1 = 1
    · have h := (zite h).1 e2_1
      refine zV_top e2_1 (zV_tin (tgt := 46) zd_X7_takes_4 (by decide) (by decide) rfl (by decide) ?_)
      refine zV_b (pc' := 48) (lv' := [(0, .inr (.inr l0)), (1, .inl l1)]) (st' := [.inl (1 : Int32), .inl l1]) [(.iload_n 1, 1), (.iconst 1, 1)] (by decide +kernel) rfl ?_
      refine zV_icmp_eq (off := 8) (tgt := 56) (by decide +kernel) (by decide) h (fun c8 h => ?_) (fun c8 h => ?_)
      · exact zV_lv (lv' := []) [] rfl (zt_X7_takes_J56 h hR)
      · refine zV_b (pc' := 53) (lv' := [(0, .inr (.inr l0)), (1, .inl l1)]) (st' := [.inl (2 : Int32), .inl l1]) [(.iload_n 1, 1), (.iconst 2, 1)] (by decide +kernel) rfl ?_
        refine zV_icmp_ne (off := 7) (tgt := 60) (by decide +kernel) (by decide) h (fun c11 h => ?_) (fun c11 h => ?_)
        · exact zV_lv (lv' := []) [] rfl (zt_X7_takes_J56 h hR)
        · refine zV_b (pc' := 61) (lv' := [(0, .inr (.inr l0)), (1, .inl l1)]) (st' := [.inl (0 : Int32)]) [(.iconst 0, 1)] (by decide +kernel) rfl ?_
          exact zend_z h hR (by decide +kernel)
    · have h := (zite h).2 e2_1
      by_cases e2_2 : v1 = 2
      · have h := (zite h).1 e2_2
        refine zV_top e2_2 (zV_tin (tgt := 62) zd_X7_takes_4 (by decide) (by decide) rfl (by decide) ?_)
        refine zV_b (pc' := 64) (lv' := [(0, .inr (.inr l0)), (1, .inl l1)]) (st' := [.inl (2 : Int32), .inl l1]) [(.iload_n 1, 1), (.iconst 2, 1)] (by decide +kernel) rfl ?_
        refine zV_icmp_ne (off := 7) (tgt := 71) (by decide +kernel) (by decide) h (fun c13 h => ?_) (fun c13 h => ?_)
        · refine zV_b (pc' := 68) (lv' := [(0, .inr (.inr l0)), (1, .inl l1)]) (st' := [.inl (1 : Int32)]) [(.iconst 1, 1)] (by decide +kernel) rfl ?_
          refine zV_goto (off := 4) (tgt := 72) (by decide +kernel) (by decide) ?_
          exact zend_z h hR (by decide +kernel)
        · refine zV_b (pc' := 72) (lv' := [(0, .inr (.inr l0)), (1, .inl l1)]) (st' := [.inl (0 : Int32)]) [(.iconst 0, 1)] (by decide +kernel) rfl ?_
          exact zend_z h hR (by decide +kernel)
      · have h := (zite h).2 e2_2
        by_cases e2_3 : v1 = 3
        · have h := (zite h).1 e2_3
          refine zV_top e2_3 (zV_tin (tgt := 73) zd_X7_takes_4 (by decide) (by decide) rfl (by decide) ?_)
          refine zV_b (pc' := 75) (lv' := [(0, .inr (.inr l0)), (1, .inl l1)]) (st' := [.inl (3 : Int32), .inl l1]) [(.iload_n 1, 1), (.iconst 3, 1)] (by decide +kernel) rfl ?_
          refine zV_icmp_eq (off := 8) (tgt := 83) (by decide +kernel) (by decide) h (fun c17 h => ?_) (fun c17 h => ?_)
          · exact zV_lv (lv' := []) [] rfl (zt_X7_takes_J83 h hR)
          · refine zV_b (pc' := 80) (lv' := [(0, .inr (.inr l0)), (1, .inl l1)]) (st' := [.inl (4 : Int32), .inl l1]) [(.iload_n 1, 1), (.iconst 4, 1)] (by decide +kernel) rfl ?_
            refine zV_icmp_ne (off := 7) (tgt := 87) (by decide +kernel) (by decide) h (fun c20 h => ?_) (fun c20 h => ?_)
            · exact zV_lv (lv' := []) [] rfl (zt_X7_takes_J83 h hR)
            · refine zV_b (pc' := 88) (lv' := [(0, .inr (.inr l0)), (1, .inl l1)]) (st' := [.inl (0 : Int32)]) [(.iconst 0, 1)] (by decide +kernel) rfl ?_
              exact zend_z h hR (by decide +kernel)
        · have h := (zite h).2 e2_3
          by_cases e2_4 : v1 = 4
          · have h := (zite h).1 e2_4
            refine zV_top e2_4 (zV_tin (tgt := 89) zd_X7_takes_4 (by decide) (by decide) rfl (by decide) ?_)
            refine zV_b (pc' := 91) (lv' := [(0, .inr (.inr l0)), (1, .inl l1)]) (st' := [.inl (4 : Int32), .inl l1]) [(.iload_n 1, 1), (.iconst 4, 1)] (by decide +kernel) rfl ?_
            refine zV_icmp_ne (off := 7) (tgt := 98) (by decide +kernel) (by decide) h (fun c22 h => ?_) (fun c22 h => ?_)
            · refine zV_b (pc' := 95) (lv' := [(0, .inr (.inr l0)), (1, .inl l1)]) (st' := [.inl (1 : Int32)]) [(.iconst 1, 1)] (by decide +kernel) rfl ?_
              refine zV_goto (off := 4) (tgt := 99) (by decide +kernel) (by decide) ?_
              exact zend_z h hR (by decide +kernel)
            · refine zV_b (pc' := 99) (lv' := [(0, .inr (.inr l0)), (1, .inl l1)]) (st' := [.inl (0 : Int32)]) [(.iconst 0, 1)] (by decide +kernel) rfl ?_
              exact zend_z h hR (by decide +kernel)
          · have h := (zite h).2 e2_4
            by_cases e2_5 : v1 = 5
            · have h := (zite h).1 e2_5
              refine zV_top e2_5 (zV_tin (tgt := 100) zd_X7_takes_4 (by decide) (by decide) rfl (by decide) ?_)
              refine zV_b (pc' := 102) (lv' := [(0, .inr (.inr l0)), (1, .inl l1)]) (st' := [.inl (5 : Int32), .inl l1]) [(.iload_n 1, 1), (.iconst 5, 1)] (by decide +kernel) rfl ?_
              refine zV_icmp_ne (off := 7) (tgt := 109) (by decide +kernel) (by decide) h (fun c26 h => ?_) (fun c26 h => ?_)
              · refine zV_b (pc' := 106) (lv' := [(0, .inr (.inr l0)), (1, .inl l1)]) (st' := [.inl (1 : Int32)]) [(.iconst 1, 1)] (by decide +kernel) rfl ?_
                refine zV_goto (off := 4) (tgt := 110) (by decide +kernel) (by decide) ?_
                exact zend_z h hR (by decide +kernel)
              · refine zV_b (pc' := 110) (lv' := [(0, .inr (.inr l0)), (1, .inl l1)]) (st' := [.inl (0 : Int32)]) [(.iconst 0, 1)] (by decide +kernel) rfl ?_
                exact zend_z h hR (by decide +kernel)
            · have h := (zite h).2 e2_5
              refine zV_tout (tgt := 111) zd_X7_takes_4 (by have q0 := lv_neT e2_0 (show (0 : Int32).toInt = 0 by decide); have q1 := lv_neT e2_1 (show (1 : Int32).toInt = 1 by decide); have q2 := lv_neT e2_2 (show (2 : Int32).toInt = 2 by decide); have q3 := lv_neT e2_3 (show (3 : Int32).toInt = 3 by decide); have q4 := lv_neT e2_4 (show (4 : Int32).toInt = 4 by decide); have q5 := lv_neT e2_5 (show (5 : Int32).toInt = 5 by decide); omega) (by decide) ?_
              refine zV_b (pc' := 113) (lv' := [(0, .inr (.inr l0)), (1, .inl l1)]) (st' := [.inl (5 : Int32), .inl l1]) [(.iload_n 1, 1), (.iconst 5, 1)] (by decide +kernel) rfl ?_
              refine zV_icmp_eq (off := 7) (tgt := 120) (by decide +kernel) (by decide) h (fun c3 h => ?_) (fun c3 h => ?_)
              · refine zV_b (pc' := 121) (lv' := [(0, .inr (.inr l0)), (1, .inl l1)]) (st' := [.inl (0 : Int32)]) [(.iconst 0, 1)] (by decide +kernel) rfl ?_
                exact zend_z h hR (by decide +kernel)
              · refine zV_b (pc' := 117) (lv' := [(0, .inr (.inr l0)), (1, .inl l1)]) (st' := [.inl (1 : Int32)]) [(.iconst 1, 1)] (by decide +kernel) rfl ?_
                refine zV_goto (off := 4) (tgt := 121) (by decide +kernel) (by decide) ?_
                exact zend_z h hR (by decide +kernel)
theorem zc_X7_takes {M M' : Zm} {l0 : Option Nat} {l1 : Int32} {x : Int32} (h : zf_X7_takes M l0 l1 = some (M', x)) (l : Launch) (D : va_G) (cy : Nat → ClassId) : zMet l yX7_takes zC_X7_takes (some .boolean) D cy [.inr (.inr l0), .inl l1] M M' (some (.inl x)) :=
  zM_b (by decide) rfl (fun h => by cases h) (Nat.le_of_ble_eq_true rfl) (fun X hR => zt_X7_takes h hR)
-- BlendCellar$Trace.<init>(I)V
def zC_X9_init : Zc := (cX9_init, 2, RX9, 1, 23, true)
theorem zcl_X9_init {C : Zc} (h1 : zC_X9_init.2.2.2.1 + 1 ≤ C.2.2.2.1) (h2 : 8 + (zC_X9_init.2.1 + 11) + zC_X9_init.2.2.2.2.1 ≤ C.2.2.2.2.1) : zCl C yX9_init zC_X9_init none 1 := ⟨zw_378, zw_113, ⟨by decide, by decide⟩, by decide +kernel, h1, h2⟩
noncomputable def zf_X9_init (M : Zm) (l0 : Option Nat) (l1 : Int32) : Option (Zm × Unit) :=
  zb1 (zo_rc M l0 10) (fun _ =>
  zb1 (zo_pi M l0 10 1 (0 : Int32)) (fun M2 =>
  zb1 (zo_na M2 14 (zmaxi l1 (0 : Int32))) (fun M4 =>
  zb1 (zo_pr M4 l0 10 0 (zm_nx M2)) (fun M5 =>
  some (M5, ())))))
set_option maxRecDepth 100000 in
theorem zt_X9_init {X : Zx} {M : Zm} {l0 : Option Nat} {l1 : Int32} {z : Zm × Unit} (h : zf_X9_init M l0 l1 = some z) (hR : zRv X zC_X9_init z.1) : zV X zC_X9_init M 0 [(0, .inr (.inr l0)), (1, .inl l1)] [] := by
  unfold zf_X9_init at h
  refine zV_b (pc' := 1) (lv' := [(0, .inr (.inr l0)), (1, .inl l1)]) (st' := [.inr (.inr l0)]) [(.aload_n 0, 1)] (by decide +kernel) rfl ?_
  refine zV_oo (by decide +kernel) zw_379 (by decide) (by decide) h (fun _ _ h => ?_)
  refine zV_b (pc' := 6) (lv' := [(0, .inr (.inr l0)), (1, .inl l1)]) (st' := [.inl (0 : Int32), .inr (.inr l0)]) [(.aload_n 0, 1), (.iconst 0, 1)] (by decide +kernel) rfl ?_
  refine zV_pi (by decide +kernel) zfp_RX9_7_i (by decide) rfl h (fun M2 _ h => ?_)
  refine zV_b (pc' := 12) (lv' := [(0, .inr (.inr l0)), (1, .inl l1)]) (st' := [.inl (0 : Int32), .inl l1, .inr (.inr l0)]) [(.aload_n 0, 1), (.iload_n 1, 1), (.iconst 0, 1)] (by decide +kernel) rfl ?_
  refine zV_maxi (st := [.inr (.inr l0)]) (by decide +kernel) zw_380 (by decide) (Nat.le_of_ble_eq_true rfl) ?_
  refine zV_na (by decide +kernel) (Or.inl ⟨rfl, rfl⟩) h (fun M4 _ h => ?_)
  refine zV_pr (by decide +kernel) zfp_RX9_19_i (Or.inr ⟨_, rfl⟩) (by decide) rfl h (fun M5 _ h => ?_)
  exact zend_v h hR (by decide +kernel)
theorem zc_X9_init {M M' : Zm} {l0 : Option Nat} {l1 : Int32} {x : Unit} (h : zf_X9_init M l0 l1 = some (M', x)) (l : Launch) (D : va_G) (cy : Nat → ClassId) : zMet l yX9_init zC_X9_init none D cy [.inr (.inr l0), .inl l1] M M' none :=
  zM_v (by decide) rfl (fun _ => rfl) (Nat.le_of_ble_eq_true rfl) (fun X hR => zt_X9_init h hR)
-- BlendCellar$Trace.clear()V
def zC_X9_clear : Zc := (cX9_clear, 1, RX9, 0, 0, false)
theorem zcl_X9_clear {C : Zc} (h1 : zC_X9_clear.2.2.2.1 + 1 ≤ C.2.2.2.1) (h2 : 8 + (zC_X9_clear.2.1 + 11) + zC_X9_clear.2.2.2.2.1 ≤ C.2.2.2.2.1) : zCl C yX9_clear zC_X9_clear none 0 := ⟨zw_460, zw_113, ⟨by decide, by decide⟩, by decide +kernel, h1, h2⟩
noncomputable def zf_X9_clear (M : Zm) (l0 : Option Nat) : Option (Zm × Unit) :=
  zb1 (zo_pi M l0 10 1 (0 : Int32)) (fun M1 =>
  some (M1, ()))
set_option maxRecDepth 100000 in
theorem zt_X9_clear {X : Zx} {M : Zm} {l0 : Option Nat} {z : Zm × Unit} (h : zf_X9_clear M l0 = some z) (hR : zRv X zC_X9_clear z.1) : zV X zC_X9_clear M 0 [(0, .inr (.inr l0))] [] := by
  unfold zf_X9_clear at h
  refine zV_b (pc' := 2) (lv' := [(0, .inr (.inr l0))]) (st' := [.inl (0 : Int32), .inr (.inr l0)]) [(.aload_n 0, 1), (.iconst 0, 1)] (by decide +kernel) rfl ?_
  refine zV_pi (by decide +kernel) zfp_RX9_7 (by decide) rfl h (fun M1 _ h => ?_)
  exact zend_v h hR (by decide +kernel)
theorem zc_X9_clear {M M' : Zm} {l0 : Option Nat} {x : Unit} (h : zf_X9_clear M l0 = some (M', x)) (l : Launch) (D : va_G) (cy : Nat → ClassId) : zMet l yX9_clear zC_X9_clear none D cy [.inr (.inr l0)] M M' none :=
  zM_v (by decide) rfl (fun h => by cases h) (Nat.le_of_ble_eq_true rfl) (fun X hR => zt_X9_clear h hR)
-- BlendCellar$Trace.read(I)I
def zC_X9_read : Zc := (cX9_read, 2, RX9, 0, 0, false)
theorem zcl_X9_read {C : Zc} (h1 : zC_X9_read.2.2.2.1 + 1 ≤ C.2.2.2.1) (h2 : 8 + (zC_X9_read.2.1 + 11) + zC_X9_read.2.2.2.2.1 ≤ C.2.2.2.2.1) : zCl C yX9_read zC_X9_read (some .int) 1 := ⟨zw_1409, zw_113, ⟨by decide, by decide⟩, by decide +kernel, h1, h2⟩
noncomputable def zf_X9_read_J12 (M : Zm)  : Option (Zm × Int32) :=
  some (M, (0 : Int32))
noncomputable def zf_X9_read (M : Zm) (l0 : Option Nat) (l1 : Int32) : Option (Zm × Int32) :=
  (if l1 < 0 then
  zf_X9_read_J12 M
  else
  zb1 (zo_gi M l0 10 1) (fun v4 =>
  (if l1 < v4 then
  zb1 (zo_gr M l0 10 0) (fun v6 =>
  zb1 (zo_ai M v6 l1) (fun v7 =>
  some (M, v7)))
  else
  zf_X9_read_J12 M)))
set_option maxRecDepth 100000 in
theorem zt_X9_read_J12 {X : Zx} {M : Zm}  {z : Zm × Int32} (h : zf_X9_read_J12 M  = some z) (hR : zRi X zC_X9_read z.1 z.2) : zV X zC_X9_read M 12 [] [] := by
  unfold zf_X9_read_J12 at h
  refine zV_b (pc' := 13) (lv' := []) (st' := [.inl (0 : Int32)]) [(.iconst 0, 1)] (by decide +kernel) rfl ?_
  refine zV_goto (off := 9) (tgt := 22) (by decide +kernel) (by decide) ?_
  exact zend_i h hR (by decide +kernel)
set_option maxRecDepth 100000 in
theorem zt_X9_read {X : Zx} {M : Zm} {l0 : Option Nat} {l1 : Int32} {z : Zm × Int32} (h : zf_X9_read M l0 l1 = some z) (hR : zRi X zC_X9_read z.1 z.2) : zV X zC_X9_read M 0 [(0, .inr (.inr l0)), (1, .inl l1)] [] := by
  unfold zf_X9_read at h
  refine zV_b (pc' := 1) (lv' := [(0, .inr (.inr l0)), (1, .inl l1)]) (st' := [.inl l1]) [(.iload_n 1, 1)] (by decide +kernel) rfl ?_
  refine zV_if_lt (off := 11) (tgt := 12) (by decide +kernel) (by decide) h (fun c1 h => ?_) (fun c1 h => ?_)
  · exact zV_lv (lv' := []) [] rfl (zt_X9_read_J12 h hR)
  · refine zV_b (pc' := 6) (lv' := [(0, .inr (.inr l0)), (1, .inl l1)]) (st' := [.inr (.inr l0), .inl l1]) [(.iload_n 1, 1), (.aload_n 0, 1)] (by decide +kernel) rfl ?_
    refine zV_gi (by decide +kernel) zfl_RX9_7 (by decide) rfl (Or.inl rfl) h (fun v4 _ h => ?_)
    refine zV_icmp_lt (off := 7) (tgt := 16) (by decide +kernel) (by decide) h (fun c5 h => ?_) (fun c5 h => ?_)
    · refine zV_b (pc' := 17) (lv' := [(0, .inr (.inr l0)), (1, .inl l1)]) (st' := [.inr (.inr l0)]) [(.aload_n 0, 1)] (by decide +kernel) rfl ?_
      refine zV_gr (by decide +kernel) zfl_RX9_19 (by decide) rfl h (fun v6 _ h => ?_)
      refine zV_b (pc' := 21) (lv' := [(0, .inr (.inr l0)), (1, .inl l1)]) (st' := [.inl l1, .inr (.inr v6)]) [(.iload_n 1, 1)] (by decide +kernel) rfl ?_
      refine zV_ai (by decide +kernel) h (fun v7 _ h => ?_)
      exact zend_i h hR (by decide +kernel)
    · exact zV_lv (lv' := []) [] rfl (zt_X9_read_J12 h hR)
theorem zc_X9_read {M M' : Zm} {l0 : Option Nat} {l1 : Int32} {x : Int32} (h : zf_X9_read M l0 l1 = some (M', x)) (l : Launch) (D : va_G) (cy : Nat → ClassId) : zMet l yX9_read zC_X9_read (some .int) D cy [.inr (.inr l0), .inl l1] M M' (some (.inl x)) :=
  zM_i (by decide) rfl (fun h => by cases h) (Nat.le_of_ble_eq_true rfl) (fun X hR => zt_X9_read h hR)
