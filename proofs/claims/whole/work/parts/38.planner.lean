/-! What the bytecode does, as functions of the memory, and the walks (written by wip/gen.py). -/
-- BlendCellar$Planner.<init>()V
def zC_X6_init : Zc := (cX6_init, 1, RX6, 2, 44, true)
theorem zcl_X6_init {C : Zc} (h1 : zC_X6_init.2.2.2.1 + 1 ≤ C.2.2.2.1) (h2 : 8 + (zC_X6_init.2.1 + 11) + zC_X6_init.2.2.2.2.1 ≤ C.2.2.2.2.1) : zCl C yX6_init zC_X6_init none 0 := ⟨zw_209, zw_108, ⟨by decide, by decide⟩, by decide +kernel, h1, h2⟩
noncomputable def zf_X6_init (M : Zm) (l0 : Option Nat) : Option (Zm × Unit) :=
  zb1 (zo_rc M l0 7) (fun _ =>
  zb1 (zo_n M 9 4) (fun M2 =>
  zb1 (zo_rc M2 (zm_nx M) 9) (fun _ => zbd (zf_X8_init M2 (zm_nx M) (78 : Int32)) (fun M3 _ =>
  zb1 (zo_pr M3 l0 7 0 (zm_nx M)) (fun M4 =>
  zb1 (zo_na M4 15 (78 : Int32)) (fun M5 =>
  zb1 (zo_pr M5 l0 7 1 (zm_nx M4)) (fun M6 =>
  zb1 (zo_na M6 14 (6 : Int32)) (fun M7 =>
  zb1 (zo_pr M7 l0 7 2 (zm_nx M6)) (fun M8 =>
  zb1 (zo_na M8 14 (6 : Int32)) (fun M9 =>
  zb1 (zo_pr M9 l0 7 3 (zm_nx M8)) (fun M10 =>
  zb1 (zo_na M10 14 (6 : Int32)) (fun M11 =>
  zb1 (zo_pr M11 l0 7 4 (zm_nx M10)) (fun M12 =>
  zb1 (zo_pr M12 l0 7 5 none) (fun M13 =>
  zb1 (zo_pi M13 l0 7 6 (0 : Int32)) (fun M14 =>
  zb1 (zo_pj M14 l0 7 7 (-1 : Int64)) (fun M16 =>
  zb1 (zo_na M16 15 (6 : Int32)) (fun M17 =>
  zb1 (zo_pr M17 l0 7 8 (zm_nx M16)) (fun M18 =>
  zb1 (zo_pi M18 l0 7 9 (0 : Int32)) (fun M19 =>
  some (M19, ()))))))))))))))))))))
set_option maxRecDepth 100000 in
theorem zt_X6_init {X : Zx} {M : Zm} {l0 : Option Nat} {z : Zm × Unit} (h : zf_X6_init M l0 = some z) (hR : zRv X zC_X6_init z.1) : zV X zC_X6_init M 0 [(0, .inr (.inr l0))] [] := by
  unfold zf_X6_init at h
  refine zV_b (pc' := 1) (lv' := [(0, .inr (.inr l0))]) (st' := [.inr (.inr l0)]) [(.aload_n 0, 1)] (by decide +kernel) rfl ?_
  refine zV_oo (by decide +kernel) zw_210 (by decide) (by decide) h (fun _ _ h => ?_)
  refine zV_b (pc' := 5) (lv' := [(0, .inr (.inr l0))]) (st' := [.inr (.inr l0)]) [(.aload_n 0, 1)] (by decide +kernel) rfl ?_
  refine zV_n (by decide +kernel) znw_RX6_9 h (fun M2 _ h => ?_)
  refine zV_b (pc' := 11) (lv' := [(0, .inr (.inr l0))]) (st' := [.inl (78 : Int32), .inr (.inr (zm_nx M)), .inr (.inr (zm_nx M)), .inr (.inr l0)]) [(.dup, 1), (.bipush 78, 2)] (by decide +kernel) rfl ?_
  refine zV_cii (As := [.inl (78 : Int32)]) (st := [.inr (.inr (zm_nx M)), .inr (.inr l0)]) (c := 9) (by decide +kernel) (zcl_X8_init (by decide) (by decide)) ⟨zw_212, rfl, zw_184⟩ rfl rfl (Nat.le_of_ble_eq_true rfl) h (fun _ _ e => zc_X8_init e) (fun M3 _ _ h => ?_)
  refine zV_pr (by decide +kernel) zfp_RX6_16_i (Or.inl ⟨_, rfl⟩) (by decide) rfl h (fun M4 _ h => ?_)
  refine zV_b (pc' := 20) (lv' := [(0, .inr (.inr l0))]) (st' := [.inl (78 : Int32), .inr (.inr l0)]) [(.aload_n 0, 1), (.bipush 78, 2)] (by decide +kernel) rfl ?_
  refine zV_na (by decide +kernel) (Or.inr ⟨rfl, rfl⟩) h (fun M5 _ h => ?_)
  refine zV_pr (by decide +kernel) zfp_RX6_20_i (Or.inr ⟨_, rfl⟩) (by decide) rfl h (fun M6 _ h => ?_)
  refine zV_b (pc' := 28) (lv' := [(0, .inr (.inr l0))]) (st' := [.inl (6 : Int32), .inr (.inr l0)]) [(.aload_n 0, 1), (.bipush 6, 2)] (by decide +kernel) rfl ?_
  refine zV_na (by decide +kernel) (Or.inl ⟨rfl, rfl⟩) h (fun M7 _ h => ?_)
  refine zV_pr (by decide +kernel) zfp_RX6_24_i (Or.inr ⟨_, rfl⟩) (by decide) rfl h (fun M8 _ h => ?_)
  refine zV_b (pc' := 36) (lv' := [(0, .inr (.inr l0))]) (st' := [.inl (6 : Int32), .inr (.inr l0)]) [(.aload_n 0, 1), (.bipush 6, 2)] (by decide +kernel) rfl ?_
  refine zV_na (by decide +kernel) (Or.inl ⟨rfl, rfl⟩) h (fun M9 _ h => ?_)
  refine zV_pr (by decide +kernel) zfp_RX6_28_i (Or.inr ⟨_, rfl⟩) (by decide) rfl h (fun M10 _ h => ?_)
  refine zV_b (pc' := 44) (lv' := [(0, .inr (.inr l0))]) (st' := [.inl (6 : Int32), .inr (.inr l0)]) [(.aload_n 0, 1), (.bipush 6, 2)] (by decide +kernel) rfl ?_
  refine zV_na (by decide +kernel) (Or.inl ⟨rfl, rfl⟩) h (fun M11 _ h => ?_)
  refine zV_pr (by decide +kernel) zfp_RX6_31_i (Or.inr ⟨_, rfl⟩) (by decide) rfl h (fun M12 _ h => ?_)
  refine zV_b (pc' := 51) (lv' := [(0, .inr (.inr l0))]) (st' := [.inr (.inr none), .inr (.inr l0)]) [(.aload_n 0, 1), (.aconst_null, 1)] (by decide +kernel) rfl ?_
  refine zV_pr (by decide +kernel) zfp_RX6_34_i (Or.inl ⟨_, rfl⟩) (by decide) rfl h (fun M13 _ h => ?_)
  refine zV_b (pc' := 56) (lv' := [(0, .inr (.inr l0))]) (st' := [.inl (0 : Int32), .inr (.inr l0)]) [(.aload_n 0, 1), (.iconst 0, 1)] (by decide +kernel) rfl ?_
  refine zV_pi (by decide +kernel) zfp_RX6_38_i (by decide) rfl h (fun M14 _ h => ?_)
  refine zV_b (pc' := 60) (lv' := [(0, .inr (.inr l0))]) (st' := [.inr (.inr l0)]) [(.aload_n 0, 1)] (by decide +kernel) rfl ?_
  refine zV_ldc2 (by decide +kernel) zw_213 ?_
  refine zV_pj (by decide +kernel) zfp_RX6_44_i (by decide) rfl h (fun M16 _ h => ?_)
  refine zV_b (pc' := 69) (lv' := [(0, .inr (.inr l0))]) (st' := [.inl (6 : Int32), .inr (.inr l0)]) [(.aload_n 0, 1), (.bipush 6, 2)] (by decide +kernel) rfl ?_
  refine zV_na (by decide +kernel) (Or.inr ⟨rfl, rfl⟩) h (fun M17 _ h => ?_)
  refine zV_pr (by decide +kernel) zfp_RX6_48_i (Or.inr ⟨_, rfl⟩) (by decide) rfl h (fun M18 _ h => ?_)
  refine zV_b (pc' := 76) (lv' := [(0, .inr (.inr l0))]) (st' := [.inl (0 : Int32), .inr (.inr l0)]) [(.aload_n 0, 1), (.iconst 0, 1)] (by decide +kernel) rfl ?_
  refine zV_pi (by decide +kernel) zfp_RX6_51_i (by decide) rfl h (fun M19 _ h => ?_)
  exact zend_v h hR (by decide +kernel)
theorem zc_X6_init {M M' : Zm} {l0 : Option Nat} {x : Unit} (h : zf_X6_init M l0 = some (M', x)) (l : Launch) (D : va_G) (cy : Nat → ClassId) : zMet l yX6_init zC_X6_init none D cy [.inr (.inr l0)] M M' none :=
  zM_v (by decide) rfl (fun _ => rfl) (Nat.le_of_ble_eq_true rfl) (fun X hR => zt_X6_init h hR)
-- BlendCellar$Planner.begin(LBlendCellar$Label;IJ)V
def zC_X6_begin : Zc := (cX6_begin, 5, RX6, 2, 46, false)
theorem zcl_X6_begin {C : Zc} (h1 : zC_X6_begin.2.2.2.1 + 1 ≤ C.2.2.2.1) (h2 : 8 + (zC_X6_begin.2.1 + 11) + zC_X6_begin.2.2.2.2.1 ≤ C.2.2.2.2.1) : zCl C yX6_begin zC_X6_begin none 3 := ⟨zw_1206, zw_108, ⟨by decide, by decide⟩, by decide +kernel, h1, h2⟩
noncomputable def zf_X6_begin (M : Zm) (l0 : Option Nat) (l1 : Option Nat) (l2 : Int32) (l3 : Int64) : Option (Zm × Unit) :=
  zb1 (zo_pr M l0 7 5 l1) (fun M1 =>
  zb1 (zo_pi M1 l0 7 6 (zmini l2 (6 : Int32))) (fun M3 =>
  zb1 (zo_gr M3 l0 7 2) (fun v4 =>
  zbd (zf_J7_fill_53178 M3 v4 (0 : Int32)) (fun M5 _ =>
  zb1 (zo_gr M5 l0 7 0) (fun v6 =>
  zb1 (zo_gi M5 l0 7 6) (fun v7 =>
  zb1 (zo_rc M5 v6 9) (fun _ => zbd (zf_X8_begin M5 v6 v7 l3) (fun M8 _ =>
  some (M8, ())))))))))
set_option maxRecDepth 100000 in
theorem zt_X6_begin {X : Zx} {M : Zm} {l0 : Option Nat} {l1 : Option Nat} {l2 : Int32} {l3 : Int64} {z : Zm × Unit} (h : zf_X6_begin M l0 l1 l2 l3 = some z) (hR : zRv X zC_X6_begin z.1) : zV X zC_X6_begin M 0 [(0, .inr (.inr l0)), (1, .inr (.inr l1)), (2, .inl l2), (3, .inr (.inl l3))] [] := by
  unfold zf_X6_begin at h
  refine zV_b (pc' := 2) (lv' := [(0, .inr (.inr l0)), (1, .inr (.inr l1)), (2, .inl l2), (3, .inr (.inl l3))]) (st' := [.inr (.inr l1), .inr (.inr l0)]) [(.aload_n 0, 1), (.aload_n 1, 1)] (by decide +kernel) rfl ?_
  refine zV_pr (by decide +kernel) zfp_RX6_34 (Or.inl ⟨_, rfl⟩) (by decide) rfl h (fun M1 _ h => ?_)
  refine zV_b (pc' := 9) (lv' := [(0, .inr (.inr l0)), (1, .inr (.inr l1)), (2, .inl l2), (3, .inr (.inl l3))]) (st' := [.inl (6 : Int32), .inl l2, .inr (.inr l0)]) [(.aload_n 0, 1), (.iload_n 2, 1), (.bipush 6, 2)] (by decide +kernel) rfl ?_
  refine zV_mini (st := [.inr (.inr l0)]) (by decide +kernel) zw_1207 (by decide) (Nat.le_of_ble_eq_true rfl) ?_
  refine zV_pi (by decide +kernel) zfp_RX6_38 (by decide) rfl h (fun M3 _ h => ?_)
  refine zV_b (pc' := 16) (lv' := [(0, .inr (.inr l0)), (1, .inr (.inr l1)), (2, .inl l2), (3, .inr (.inl l3))]) (st' := [.inr (.inr l0)]) [(.aload_n 0, 1)] (by decide +kernel) rfl ?_
  refine zV_gr (by decide +kernel) zfl_RX6_24 (by decide) rfl h (fun v4 _ h => ?_)
  refine zV_b (pc' := 20) (lv' := [(0, .inr (.inr l0)), (1, .inr (.inr l1)), (2, .inl l2), (3, .inr (.inl l3))]) (st' := [.inl (0 : Int32), .inr (.inr v4)]) [(.iconst 0, 1)] (by decide +kernel) rfl ?_
  refine zV_csv (As := [.inr (.inr v4), .inl (0 : Int32)]) (st := []) (by decide +kernel) (zcl_J7_fill_53178 (by decide) (by decide)) ⟨zw_1208, zw_500⟩ rfl rfl (Nat.le_of_ble_eq_true rfl) h (fun _ _ e => zc_J7_fill_53178 e) (fun M5 _ _ h => ?_)
  refine zV_b (pc' := 24) (lv' := [(0, .inr (.inr l0)), (1, .inr (.inr l1)), (2, .inl l2), (3, .inr (.inl l3))]) (st' := [.inr (.inr l0)]) [(.aload_n 0, 1)] (by decide +kernel) rfl ?_
  refine zV_gr (by decide +kernel) zfl_RX6_16 (by decide) rfl h (fun v6 _ h => ?_)
  refine zV_b (pc' := 28) (lv' := [(0, .inr (.inr l0)), (1, .inr (.inr l1)), (2, .inl l2), (3, .inr (.inl l3))]) (st' := [.inr (.inr l0), .inr (.inr v6)]) [(.aload_n 0, 1)] (by decide +kernel) rfl ?_
  refine zV_gi (by decide +kernel) zfl_RX6_38 (by decide) rfl (Or.inl rfl) h (fun v7 _ h => ?_)
  refine zV_b (pc' := 32) (lv' := [(0, .inr (.inr l0)), (1, .inr (.inr l1)), (2, .inl l2), (3, .inr (.inl l3))]) (st' := [.inr (.inl l3), .inl v7, .inr (.inr v6)]) [(.lload_n 3, 1)] (by decide +kernel) rfl ?_
  refine zV_cvv (As := [.inl v7, .inr (.inl l3)]) (st := []) (c := 9) (by decide +kernel) (zcl_X8_begin (by decide) (by decide)) ⟨zw_1209, zw_1150, zw_1151⟩ ⟨⟨_, _, rfl⟩, by decide⟩ rfl rfl (Nat.le_of_ble_eq_true rfl) h (fun _ _ e => zc_X8_begin e) (fun M8 _ _ h => ?_)
  exact zend_v h hR (by decide +kernel)
theorem zc_X6_begin {M M' : Zm} {l0 : Option Nat} {l1 : Option Nat} {l2 : Int32} {l3 : Int64} {x : Unit} (h : zf_X6_begin M l0 l1 l2 l3 = some (M', x)) (l : Launch) (D : va_G) (cy : Nat → ClassId) : zMet l yX6_begin zC_X6_begin none D cy [.inr (.inr l0), .inr (.inr l1), .inl l2, .inr (.inl l3)] M M' none :=
  zM_v (by decide) rfl (fun h => by cases h) (Nat.le_of_ble_eq_true rfl) (fun X hR => zt_X6_begin h hR)
-- BlendCellar$Planner.slotOf(II)I
def zC_X6_slotOf : Zc := (cX6_slotOf, 2, RX6, 0, 0, false)
theorem zcl_X6_slotOf {C : Zc} (h1 : zC_X6_slotOf.2.2.2.1 + 1 ≤ C.2.2.2.1) (h2 : 8 + (zC_X6_slotOf.2.1 + 11) + zC_X6_slotOf.2.2.2.2.1 ≤ C.2.2.2.2.1) : zCl C yX6_slotOf zC_X6_slotOf (some .int) 2 := ⟨zw_1225, zw_108, ⟨by decide, by decide⟩, by decide +kernel, h1, h2⟩
noncomputable def zf_X6_slotOf (M : Zm) (l0 : Int32) (l1 : Int32) : Option (Zm × Int32) :=
  some (M, ((l0 * (13 : Int32)) + l1))
set_option maxRecDepth 100000 in
theorem zt_X6_slotOf {X : Zx} {M : Zm} {l0 : Int32} {l1 : Int32} {z : Zm × Int32} (h : zf_X6_slotOf M l0 l1 = some z) (hR : zRi X zC_X6_slotOf z.1 z.2) : zV X zC_X6_slotOf M 0 [(0, .inl l0), (1, .inl l1)] [] := by
  unfold zf_X6_slotOf at h
  refine zV_b (pc' := 6) (lv' := [(0, .inl l0), (1, .inl l1)]) (st' := [.inl ((l0 * (13 : Int32)) + l1)]) [(.iload_n 0, 1), (.bipush 13, 2), (.imul, 1), (.iload_n 1, 1), (.iadd, 1)] (by decide +kernel) rfl ?_
  exact zend_i h hR (by decide +kernel)
theorem zc_X6_slotOf {M M' : Zm} {l0 : Int32} {l1 : Int32} {x : Int32} (h : zf_X6_slotOf M l0 l1 = some (M', x)) (l : Launch) (D : va_G) (cy : Nat → ClassId) : zMet l yX6_slotOf zC_X6_slotOf (some .int) D cy [.inl l0, .inl l1] M M' (some (.inl x)) :=
  zM_i (by decide) rfl (fun h => by cases h) (Nat.le_of_ble_eq_true rfl) (fun X hR => zt_X6_slotOf h hR)
-- BlendCellar$Planner.chooseFrom(IIJ)V
def zC_X6_chooseFrom (d : Nat) : Zc := (cX6_chooseFrom, 8, RX6, 4 + d, 99 + d * 27, false)
theorem zcl_X6_chooseFrom {d : Nat} {C : Zc} (h1 : (zC_X6_chooseFrom d).2.2.2.1 + 1 ≤ C.2.2.2.1) (h2 : 8 + ((zC_X6_chooseFrom d).2.1 + 11) + (zC_X6_chooseFrom d).2.2.2.2.1 ≤ C.2.2.2.2.1) : zCl C yX6_chooseFrom (zC_X6_chooseFrom d) none 3 := ⟨zw_1239, zw_108, ⟨by decide, by decide⟩, by decide +kernel, h1, h2⟩
noncomputable def zf_X6_chooseFrom_L111 (rec : Zm → Option Nat → Int32 → Int32 → Int64 → Option (Zm × Unit)) (p0 : Option Nat) (p1 : Int32) (p2 : Int32) (p3 : Int64) (p6 : Int32) (x : Zm × Int32) : Option ((Zm × Int32) ⊕ (Zm × Int32)) := match x with
  | (M, l7) =>
  (if p6 < l7 then
  some (.inr (M, l7))
  else
  zb1 (zo_gr M p0 7 3) (fun v13 =>
  zb1 (zo_si M v13 p1 l7) (fun M14 =>
  zb1 (zo_gr M14 p0 7 0) (fun v15 =>
  zbd (zf_X6_slotOf M14 p1 l7) (fun M16 v16 =>
  zb1 (zo_rc M16 v15 9) (fun _ => zbd (zf_X8_choose M16 v15 p1 v16) (fun M17 _ =>
  zb1 (zo_gr M17 p0 7 1) (fun v18 =>
  zbd (zf_X6_slotOf M17 p1 l7) (fun M19 v19 =>
  zb1 (zo_aj M19 v18 v19) (fun v20 =>
  zb1 (zo_rc M19 p0 7) (fun _ => zbd (rec M19 p0 (p1 + (1 : Int32)) (p2 - l7) (p3 + v20)) (fun M21 _ =>
  some (.inl (M21, (l7 + 1)))))))))))))))
def zP_X6_chooseFrom_L111 (d : Nat) (X : Zx) (p0 : Option Nat) (p1 : Int32) (p2 : Int32) (p3 : Int64) (p6 : Int32) (x : Zm × Int32) : Prop := match x with
  | (M, l7) => zV X (zC_X6_chooseFrom (d + 1)) M 111 [(0, .inr (.inr p0)), (1, .inl p1), (2, .inl p2), (3, .inr (.inl p3)), (6, .inl p6), (7, .inl l7)] []
def zK_X6_chooseFrom_L111 (d : Nat) (X : Zx) (p0 : Option Nat) (p1 : Int32) (p2 : Int32) (p3 : Int64) (p6 : Int32) (y : Zm × Int32) : Prop := match y with
  | (M, l7) => zV X (zC_X6_chooseFrom (d + 1)) M 170 [] []
noncomputable def zf_X6_chooseFrom_J93 (rec : Zm → Option Nat → Int32 → Int32 → Int64 → Option (Zm × Unit)) (M : Zm) (l0 : Option Nat) (l1 : Int32) (l2 : Int32) (l3 : Int64) (s0 : Int32) : Option (Zm × Unit) :=
  zb1 (zo_gr M l0 7 2) (fun v9 =>
  zb1 (zo_ai M v9 l1) (fun v10 =>
  zb1 (zwhile (zf_X6_chooseFrom_L111 rec l0 l1 l2 l3 (zmini l2 v10)) (M, s0)) (fun y23 => match y23 with
  | (M111_23, l7_23) =>
  some (M111_23, ()))))
noncomputable def zf_X6_chooseFrom_J21 (rec : Zm → Option Nat → Int32 → Int32 → Int64 → Option (Zm × Unit)) (M : Zm) (l0 : Option Nat) (l1 : Int32) (l2 : Int32) (l3 : Int64) : Option (Zm × Unit) :=
  zb1 (zo_gi M l0 7 6) (fun v4 =>
  (if l1 < v4 then
  zb1 (zo_gi M l0 7 6) (fun v6 =>
  (if l1 = (v6 - (1 : Int32)) then
  zf_X6_chooseFrom_J93 rec M l0 l1 l2 l3 l2
  else
  zf_X6_chooseFrom_J93 rec M l0 l1 l2 l3 (0 : Int32)))
  else
  (if l2 = 0 then
  zb1 (zo_gr M l0 7 5) (fun v26 =>
  (if v26 = none then
  some (M, ())
  else
  zb1 (zo_gr M l0 7 5) (fun v29 =>
  zb1 (zo_gr M l0 7 0) (fun v30 =>
  zb1 (zo_rc M v29 4) (fun _ => zbd (zf_X3_firstBroken M v29 v30) (fun M31 v31 =>
  (if v31 = (-1 : Int32) then
  zb1 (zo_pj M31 l0 7 7 l3) (fun M33 =>
  zb1 (zo_gr M33 l0 7 3) (fun v34 =>
  zb1 (zo_gr M33 l0 7 4) (fun v35 =>
  zb1 (zo_gi M33 l0 7 6) (fun v36 =>
  zb1 (zo_ci M33 v34 (0 : Int32) v35 (0 : Int32) v36) (fun M37 =>
  some (M37, ()))))))
  else
  some (M31, ()))))))))
  else
  some (M, ()))))
noncomputable def zf_X6_chooseFrombody (rec : Zm → Option Nat → Int32 → Int32 → Int64 → Option (Zm × Unit)) (M : Zm) (l0 : Option Nat) (l1 : Int32) (l2 : Int32) (l3 : Int64) : Option (Zm × Unit) :=
  zb1 (zo_gj M l0 7 7) (fun v1 =>
  (if v1 = (-1 : Int64) then
  zf_X6_chooseFrom_J21 rec M l0 l1 l2 l3
  else
  zb1 (zo_gj M l0 7 7) (fun v41 =>
  (if l3 < v41 then
  zf_X6_chooseFrom_J21 rec M l0 l1 l2 l3
  else
  some (M, ())))))
set_option maxRecDepth 100000 in
theorem zt_X6_chooseFrom_L111 {X : Zx} {d : Nat} {rec : Zm → Option Nat → Int32 → Int32 → Int64 → Option (Zm × Unit)} (hrec : ∀ {M M' : Zm} {l0 : Option Nat} {l1 : Int32} {l2 : Int32} {l3 : Int64} {x : Unit}, rec M l0 l1 l2 l3 = some (M', x) → ∀ (l : Launch) (D : va_G) (cy : Nat → ClassId), zMet l yX6_chooseFrom (zC_X6_chooseFrom d) none D cy [.inr (.inr l0), .inl l1, .inl l2, .inr (.inl l3)] M M' none) {p0 : Option Nat} {p1 : Int32} {p2 : Int32} {p3 : Int64} {p6 : Int32} {x : Zm × Int32} {y : Zm × Int32} (h : zwhile (zf_X6_chooseFrom_L111 rec p0 p1 p2 p3 p6) x = some y) (hy : zK_X6_chooseFrom_L111 d X p0 p1 p2 p3 p6 y) : zP_X6_chooseFrom_L111 d X p0 p1 p2 p3 p6 x := by
  refine zwhile_ind (P := zP_X6_chooseFrom_L111 d X p0 p1 p2 p3 p6) (K := zK_X6_chooseFrom_L111 d X p0 p1 p2 p3 p6) ?_ h hy
  intro x z hf k1 k2
  obtain ⟨M, l7⟩ := x
  have h : zf_X6_chooseFrom_L111 rec p0 p1 p2 p3 p6 (M, l7) = some z := hf
  unfold zf_X6_chooseFrom_L111 at h
  show zV X (zC_X6_chooseFrom (d + 1)) M 111 [(0, .inr (.inr p0)), (1, .inl p1), (2, .inl p2), (3, .inr (.inl p3)), (6, .inl p6), (7, .inl l7)] []
  refine zV_b (pc' := 115) (lv' := [(0, .inr (.inr p0)), (1, .inl p1), (2, .inl p2), (3, .inr (.inl p3)), (6, .inl p6), (7, .inl l7)]) (st' := [.inl p6, .inl l7]) [(.iload 7, 2), (.iload 6, 2)] (show zdec cX6_chooseFrom [(.iload 7, 2), (.iload 6, 2)] 111 = true by decide +kernel) rfl ?_
  refine zV_icmp_gt (off := 55) (tgt := 170) (show decode cX6_chooseFrom 115 = .ok (.if_icmp .gt 55, 3) by decide +kernel) (by decide) h (fun c12 h => ?_) (fun c12 h => ?_)
  · exact zV_lv (lv' := []) [] rfl (k2 _ (Option.some.inj h).symm)
  · refine zV_b (pc' := 119) (lv' := [(0, .inr (.inr p0)), (1, .inl p1), (2, .inl p2), (3, .inr (.inl p3)), (6, .inl p6), (7, .inl l7)]) (st' := [.inr (.inr p0)]) [(.aload_n 0, 1)] (show zdec cX6_chooseFrom [(.aload_n 0, 1)] 118 = true by decide +kernel) rfl ?_
    refine zV_gr (show decode cX6_chooseFrom 119 = .ok (.getfield 28, 3) by decide +kernel) zfl_RX6_28 (by decide) rfl h (fun v13 _ h => ?_)
    refine zV_b (pc' := 125) (lv' := [(0, .inr (.inr p0)), (1, .inl p1), (2, .inl p2), (3, .inr (.inl p3)), (6, .inl p6), (7, .inl l7)]) (st' := [.inl l7, .inl p1, .inr (.inr v13)]) [(.iload_n 1, 1), (.iload 7, 2)] (show zdec cX6_chooseFrom [(.iload_n 1, 1), (.iload 7, 2)] 122 = true by decide +kernel) rfl ?_
    refine zV_si (show decode cX6_chooseFrom 125 = .ok (.iastore, 1) by decide +kernel) h (fun M14 _ h => ?_)
    refine zV_b (pc' := 127) (lv' := [(0, .inr (.inr p0)), (1, .inl p1), (2, .inl p2), (3, .inr (.inl p3)), (6, .inl p6), (7, .inl l7)]) (st' := [.inr (.inr p0)]) [(.aload_n 0, 1)] (show zdec cX6_chooseFrom [(.aload_n 0, 1)] 126 = true by decide +kernel) rfl ?_
    refine zV_gr (show decode cX6_chooseFrom 127 = .ok (.getfield 16, 3) by decide +kernel) zfl_RX6_16 (by decide) rfl h (fun v15 _ h => ?_)
    refine zV_b (pc' := 134) (lv' := [(0, .inr (.inr p0)), (1, .inl p1), (2, .inl p2), (3, .inr (.inl p3)), (6, .inl p6), (7, .inl l7)]) (st' := [.inl l7, .inl p1, .inl p1, .inr (.inr v15)]) [(.iload_n 1, 1), (.iload_n 1, 1), (.iload 7, 2)] (show zdec cX6_chooseFrom [(.iload_n 1, 1), (.iload_n 1, 1), (.iload 7, 2)] 130 = true by decide +kernel) rfl ?_
    refine zV_csi (As := [.inl p1, .inl l7]) (st := [.inl p1, .inr (.inr v15)]) (show decode cX6_chooseFrom 134 = .ok (.invokestatic 70, 3) by decide +kernel) (zcl_X6_slotOf (by simp only [zC_X6_chooseFrom, zC_X6_slotOf]; omega) (by simp only [zC_X6_chooseFrom, zC_X6_slotOf]; omega)) ⟨zw_1223, zw_1224⟩ rfl rfl (Nat.le_of_ble_eq_true rfl) h (fun _ _ e => zc_X6_slotOf e) (fun M16 v16 _ h => ?_)
    refine zV_cvv (As := [.inl p1, .inl v16]) (st := []) (c := 9) (show decode cX6_chooseFrom 137 = .ok (.invokevirtual 96, 3) by decide +kernel) (zcl_X8_choose (by simp only [zC_X6_chooseFrom, zC_X8_choose]; omega) (by simp only [zC_X6_chooseFrom, zC_X8_choose]; omega)) ⟨zw_1242, zw_1155, zw_1156⟩ ⟨⟨_, _, rfl⟩, by decide⟩ rfl rfl (Nat.le_of_ble_eq_true rfl) h (fun _ _ e => zc_X8_choose e) (fun M17 _ _ h => ?_)
    refine zV_b (pc' := 150) (lv' := [(0, .inr (.inr p0)), (1, .inl p1), (2, .inl p2), (3, .inr (.inl p3)), (6, .inl p6), (7, .inl l7)]) (st' := [.inr (.inr p0), .inr (.inl p3), .inl (p2 - l7), .inl (p1 + (1 : Int32)), .inr (.inr p0)]) [(.aload_n 0, 1), (.iload_n 1, 1), (.iconst 1, 1), (.iadd, 1), (.iload_n 2, 1), (.iload 7, 2), (.isub, 1), (.lload_n 3, 1), (.aload_n 0, 1)] (show zdec cX6_chooseFrom [(.aload_n 0, 1), (.iload_n 1, 1), (.iconst 1, 1), (.iadd, 1), (.iload_n 2, 1), (.iload 7, 2), (.isub, 1), (.lload_n 3, 1), (.aload_n 0, 1)] 140 = true by decide +kernel) rfl ?_
    refine zV_gr (show decode cX6_chooseFrom 150 = .ok (.getfield 20, 3) by decide +kernel) zfl_RX6_20 (by decide) rfl h (fun v18 _ h => ?_)
    refine zV_b (pc' := 156) (lv' := [(0, .inr (.inr p0)), (1, .inl p1), (2, .inl p2), (3, .inr (.inl p3)), (6, .inl p6), (7, .inl l7)]) (st' := [.inl l7, .inl p1, .inr (.inr v18), .inr (.inl p3), .inl (p2 - l7), .inl (p1 + (1 : Int32)), .inr (.inr p0)]) [(.iload_n 1, 1), (.iload 7, 2)] (show zdec cX6_chooseFrom [(.iload_n 1, 1), (.iload 7, 2)] 153 = true by decide +kernel) rfl ?_
    refine zV_csi (As := [.inl p1, .inl l7]) (st := [.inr (.inr v18), .inr (.inl p3), .inl (p2 - l7), .inl (p1 + (1 : Int32)), .inr (.inr p0)]) (show decode cX6_chooseFrom 156 = .ok (.invokestatic 70, 3) by decide +kernel) (zcl_X6_slotOf (by simp only [zC_X6_chooseFrom, zC_X6_slotOf]; omega) (by simp only [zC_X6_chooseFrom, zC_X6_slotOf]; omega)) ⟨zw_1223, zw_1224⟩ rfl rfl (Nat.le_of_ble_eq_true rfl) h (fun _ _ e => zc_X6_slotOf e) (fun M19 v19 _ h => ?_)
    refine zV_aj (show decode cX6_chooseFrom 159 = .ok (.laload, 1) by decide +kernel) h (fun v20 _ h => ?_)
    refine zV_b (pc' := 161) (lv' := [(0, .inr (.inr p0)), (1, .inl p1), (2, .inl p2), (3, .inr (.inl p3)), (6, .inl p6), (7, .inl l7)]) (st' := [.inr (.inl (p3 + v20)), .inl (p2 - l7), .inl (p1 + (1 : Int32)), .inr (.inr p0)]) [(.ladd, 1)] (show zdec cX6_chooseFrom [(.ladd, 1)] 160 = true by decide +kernel) rfl ?_
    refine zV_cvv (As := [.inl (p1 + (1 : Int32)), .inl (p2 - l7), .inr (.inl (p3 + v20))]) (st := []) (c := 7) (show decode cX6_chooseFrom 161 = .ok (.invokevirtual 80, 3) by decide +kernel) (zcl_X6_chooseFrom (by simp only [zC_X6_chooseFrom]; omega) (by simp only [zC_X6_chooseFrom]; omega)) ⟨zw_1236, zw_1238, zw_53⟩ ⟨⟨_, _, rfl⟩, by decide⟩ rfl rfl (Nat.le_of_ble_eq_true rfl) h (fun _ _ e => hrec e) (fun M21 _ _ h => ?_)
    refine zV_b (pc' := 167) (lv' := [(7, .inl (l7 + 1)), (0, .inr (.inr p0)), (1, .inl p1), (2, .inl p2), (3, .inr (.inl p3)), (6, .inl p6)]) (st' := []) [(.iinc 7 1, 3)] (show zdec cX6_chooseFrom [(.iinc 7 1, 3)] 164 = true by decide +kernel) rfl ?_
    refine zV_goto (off := (-56)) (tgt := 111) (show decode cX6_chooseFrom 167 = .ok (.goto (-56), 3) by decide +kernel) (by decide) ?_
    exact zV_lv (lv' := [(0, .inr (.inr p0)), (1, .inl p1), (2, .inl p2), (3, .inr (.inl p3)), (6, .inl p6), (7, .inl (l7 + 1))]) [1, 2, 3, 4, 5, 0] rfl (k1 _ (Option.some.inj h).symm)
set_option maxRecDepth 100000 in
theorem zt_X6_chooseFrom_J93 {X : Zx} {d : Nat} {rec : Zm → Option Nat → Int32 → Int32 → Int64 → Option (Zm × Unit)} (hrec : ∀ {M M' : Zm} {l0 : Option Nat} {l1 : Int32} {l2 : Int32} {l3 : Int64} {x : Unit}, rec M l0 l1 l2 l3 = some (M', x) → ∀ (l : Launch) (D : va_G) (cy : Nat → ClassId), zMet l yX6_chooseFrom (zC_X6_chooseFrom d) none D cy [.inr (.inr l0), .inl l1, .inl l2, .inr (.inl l3)] M M' none) {M : Zm} {l0 : Option Nat} {l1 : Int32} {l2 : Int32} {l3 : Int64} {s0 : Int32} {z : Zm × Unit} (h : zf_X6_chooseFrom_J93 rec M l0 l1 l2 l3 s0 = some z) (hR : zRv X (zC_X6_chooseFrom (d + 1)) z.1) : zV X (zC_X6_chooseFrom (d + 1)) M 93 [(0, .inr (.inr l0)), (1, .inl l1), (2, .inl l2), (3, .inr (.inl l3))] [.inl s0] := by
  unfold zf_X6_chooseFrom_J93 at h
  refine zV_b (pc' := 97) (lv' := [(5, .inl s0), (0, .inr (.inr l0)), (1, .inl l1), (2, .inl l2), (3, .inr (.inl l3))]) (st' := [.inr (.inr l0), .inl l2]) [(.istore 5, 2), (.iload_n 2, 1), (.aload_n 0, 1)] (show zdec cX6_chooseFrom [(.istore 5, 2), (.iload_n 2, 1), (.aload_n 0, 1)] 93 = true by decide +kernel) rfl ?_
  refine zV_gr (show decode cX6_chooseFrom 97 = .ok (.getfield 24, 3) by decide +kernel) zfl_RX6_24 (by decide) rfl h (fun v9 _ h => ?_)
  refine zV_b (pc' := 101) (lv' := [(5, .inl s0), (0, .inr (.inr l0)), (1, .inl l1), (2, .inl l2), (3, .inr (.inl l3))]) (st' := [.inl l1, .inr (.inr v9), .inl l2]) [(.iload_n 1, 1)] (show zdec cX6_chooseFrom [(.iload_n 1, 1)] 100 = true by decide +kernel) rfl ?_
  refine zV_ai (show decode cX6_chooseFrom 101 = .ok (.iaload, 1) by decide +kernel) h (fun v10 _ h => ?_)
  refine zV_mini (st := []) (show decode cX6_chooseFrom 102 = .ok (.invokestatic 54, 3) by decide +kernel) zw_1207 (by simp only [zC_X6_chooseFrom]; omega) (show 0 + 13 ≤ (zC_X6_chooseFrom (d + 1)).2.2.2.2.1 by simp only [zC_X6_chooseFrom]; omega) ?_
  refine zV_b (pc' := 111) (lv' := [(7, .inl s0), (6, .inl (zmini l2 v10)), (5, .inl s0), (0, .inr (.inr l0)), (1, .inl l1), (2, .inl l2), (3, .inr (.inl l3))]) (st' := []) [(.istore 6, 2), (.iload 5, 2), (.istore 7, 2)] (show zdec cX6_chooseFrom [(.istore 6, 2), (.iload 5, 2), (.istore 7, 2)] 105 = true by decide +kernel) rfl ?_
  obtain ⟨y23, e23, h⟩ := zb1_inv h
  refine zV_lv (lv' := [(0, .inr (.inr l0)), (1, .inl l1), (2, .inl l2), (3, .inr (.inl l3)), (6, .inl (zmini l2 v10)), (7, .inl s0)]) [3, 4, 5, 6, 1, 0] rfl (zt_X6_chooseFrom_L111 hrec e23 ?_)
  obtain ⟨M111_23, l7_23⟩ := y23
  show zV X (zC_X6_chooseFrom (d + 1)) M111_23 170 [] []
  exact zend_v h hR (show decode cX6_chooseFrom 170 = .ok (.return_, 1) by decide +kernel)
set_option maxRecDepth 100000 in
theorem zt_X6_chooseFrom_J21 {X : Zx} {d : Nat} {rec : Zm → Option Nat → Int32 → Int32 → Int64 → Option (Zm × Unit)} (hrec : ∀ {M M' : Zm} {l0 : Option Nat} {l1 : Int32} {l2 : Int32} {l3 : Int64} {x : Unit}, rec M l0 l1 l2 l3 = some (M', x) → ∀ (l : Launch) (D : va_G) (cy : Nat → ClassId), zMet l yX6_chooseFrom (zC_X6_chooseFrom d) none D cy [.inr (.inr l0), .inl l1, .inl l2, .inr (.inl l3)] M M' none) {M : Zm} {l0 : Option Nat} {l1 : Int32} {l2 : Int32} {l3 : Int64} {z : Zm × Unit} (h : zf_X6_chooseFrom_J21 rec M l0 l1 l2 l3 = some z) (hR : zRv X (zC_X6_chooseFrom (d + 1)) z.1) : zV X (zC_X6_chooseFrom (d + 1)) M 21 [(0, .inr (.inr l0)), (1, .inl l1), (2, .inl l2), (3, .inr (.inl l3))] [] := by
  unfold zf_X6_chooseFrom_J21 at h
  refine zV_b (pc' := 23) (lv' := [(0, .inr (.inr l0)), (1, .inl l1), (2, .inl l2), (3, .inr (.inl l3))]) (st' := [.inr (.inr l0), .inl l1]) [(.iload_n 1, 1), (.aload_n 0, 1)] (show zdec cX6_chooseFrom [(.iload_n 1, 1), (.aload_n 0, 1)] 21 = true by decide +kernel) rfl ?_
  refine zV_gi (show decode cX6_chooseFrom 23 = .ok (.getfield 38, 3) by decide +kernel) zfl_RX6_38 (by decide) rfl (Or.inl rfl) h (fun v4 _ h => ?_)
  refine zV_icmp_lt (off := 52) (tgt := 78) (show decode cX6_chooseFrom 26 = .ok (.if_icmp .lt 52, 3) by decide +kernel) (by decide) h (fun c5 h => ?_) (fun c5 h => ?_)
  · refine zV_b (pc' := 80) (lv' := [(0, .inr (.inr l0)), (1, .inl l1), (2, .inl l2), (3, .inr (.inl l3))]) (st' := [.inr (.inr l0), .inl l1]) [(.iload_n 1, 1), (.aload_n 0, 1)] (show zdec cX6_chooseFrom [(.iload_n 1, 1), (.aload_n 0, 1)] 78 = true by decide +kernel) rfl ?_
    refine zV_gi (show decode cX6_chooseFrom 80 = .ok (.getfield 38, 3) by decide +kernel) zfl_RX6_38 (by decide) rfl (Or.inl rfl) h (fun v6 _ h => ?_)
    refine zV_b (pc' := 85) (lv' := [(0, .inr (.inr l0)), (1, .inl l1), (2, .inl l2), (3, .inr (.inl l3))]) (st' := [.inl (v6 - (1 : Int32)), .inl l1]) [(.iconst 1, 1), (.isub, 1)] (show zdec cX6_chooseFrom [(.iconst 1, 1), (.isub, 1)] 83 = true by decide +kernel) rfl ?_
    refine zV_icmp_ne (off := 7) (tgt := 92) (show decode cX6_chooseFrom 85 = .ok (.if_icmp .ne 7, 3) by decide +kernel) (by decide) h (fun c7 h => ?_) (fun c7 h => ?_)
    · refine zV_b (pc' := 89) (lv' := [(0, .inr (.inr l0)), (1, .inl l1), (2, .inl l2), (3, .inr (.inl l3))]) (st' := [.inl l2]) [(.iload_n 2, 1)] (show zdec cX6_chooseFrom [(.iload_n 2, 1)] 88 = true by decide +kernel) rfl ?_
      refine zV_goto (off := 4) (tgt := 93) (show decode cX6_chooseFrom 89 = .ok (.goto 4, 3) by decide +kernel) (by decide) ?_
      exact zV_lv (lv' := [(0, .inr (.inr l0)), (1, .inl l1), (2, .inl l2), (3, .inr (.inl l3))]) [0, 1, 2, 3] rfl (zt_X6_chooseFrom_J93 hrec h hR)
    · refine zV_b (pc' := 93) (lv' := [(0, .inr (.inr l0)), (1, .inl l1), (2, .inl l2), (3, .inr (.inl l3))]) (st' := [.inl (0 : Int32)]) [(.iconst 0, 1)] (show zdec cX6_chooseFrom [(.iconst 0, 1)] 92 = true by decide +kernel) rfl ?_
      exact zV_lv (lv' := [(0, .inr (.inr l0)), (1, .inl l1), (2, .inl l2), (3, .inr (.inl l3))]) [0, 1, 2, 3] rfl (zt_X6_chooseFrom_J93 hrec h hR)
  · refine zV_b (pc' := 30) (lv' := [(0, .inr (.inr l0)), (1, .inl l1), (2, .inl l2), (3, .inr (.inl l3))]) (st' := [.inl l2]) [(.iload_n 2, 1)] (show zdec cX6_chooseFrom [(.iload_n 2, 1)] 29 = true by decide +kernel) rfl ?_
    refine zV_if_ne (off := 47) (tgt := 77) (show decode cX6_chooseFrom 30 = .ok (.ifCond .ne 47, 3) by decide +kernel) (by decide) h (fun c25 h => ?_) (fun c25 h => ?_)
    · refine zV_b (pc' := 34) (lv' := [(0, .inr (.inr l0)), (1, .inl l1), (2, .inl l2), (3, .inr (.inl l3))]) (st' := [.inr (.inr l0)]) [(.aload_n 0, 1)] (show zdec cX6_chooseFrom [(.aload_n 0, 1)] 33 = true by decide +kernel) rfl ?_
      refine zV_gr (show decode cX6_chooseFrom 34 = .ok (.getfield 34, 3) by decide +kernel) zfl_RX6_34 (by decide) rfl h (fun v26 _ h => ?_)
      refine zV_ifnull (off := 40) (tgt := 77) (show decode cX6_chooseFrom 37 = .ok (.ifnull 40, 3) by decide +kernel) (by decide) h (fun c27 h => ?_) (fun c27 h => ?_)
      · exact zend_v h hR (show decode cX6_chooseFrom 77 = .ok (.return_, 1) by decide +kernel)
      · refine zV_b (pc' := 41) (lv' := [(0, .inr (.inr l0)), (1, .inl l1), (2, .inl l2), (3, .inr (.inl l3))]) (st' := [.inr (.inr l0)]) [(.aload_n 0, 1)] (show zdec cX6_chooseFrom [(.aload_n 0, 1)] 40 = true by decide +kernel) rfl ?_
        refine zV_gr (show decode cX6_chooseFrom 41 = .ok (.getfield 34, 3) by decide +kernel) zfl_RX6_34 (by decide) rfl h (fun v29 _ h => ?_)
        refine zV_b (pc' := 45) (lv' := [(0, .inr (.inr l0)), (1, .inl l1), (2, .inl l2), (3, .inr (.inl l3))]) (st' := [.inr (.inr l0), .inr (.inr v29)]) [(.aload_n 0, 1)] (show zdec cX6_chooseFrom [(.aload_n 0, 1)] 44 = true by decide +kernel) rfl ?_
        refine zV_gr (show decode cX6_chooseFrom 45 = .ok (.getfield 16, 3) by decide +kernel) zfl_RX6_16 (by decide) rfl h (fun v30 _ h => ?_)
        refine zV_cvi (As := [.inr (.inr v30)]) (st := []) (c := 4) (show decode cX6_chooseFrom 48 = .ok (.invokevirtual 84, 3) by decide +kernel) (zcl_X3_firstBroken (by simp only [zC_X6_chooseFrom, zC_X3_firstBroken]; omega) (by simp only [zC_X6_chooseFrom, zC_X3_firstBroken]; omega)) ⟨zw_1240, zw_1167, zw_1168⟩ ⟨⟨_, _, rfl⟩, by decide⟩ rfl rfl (Nat.le_of_ble_eq_true rfl) h (fun _ _ e => zc_X3_firstBroken e) (fun M31 v31 _ h => ?_)
        refine zV_b (pc' := 52) (lv' := [(0, .inr (.inr l0)), (1, .inl l1), (2, .inl l2), (3, .inr (.inl l3))]) (st' := [.inl (-1 : Int32), .inl v31]) [(.iconst (-1), 1)] (show zdec cX6_chooseFrom [(.iconst (-1), 1)] 51 = true by decide +kernel) rfl ?_
        refine zV_icmp_ne (off := 25) (tgt := 77) (show decode cX6_chooseFrom 52 = .ok (.if_icmp .ne 25, 3) by decide +kernel) (by decide) h (fun c32 h => ?_) (fun c32 h => ?_)
        · refine zV_b (pc' := 57) (lv' := [(0, .inr (.inr l0)), (1, .inl l1), (2, .inl l2), (3, .inr (.inl l3))]) (st' := [.inr (.inl l3), .inr (.inr l0)]) [(.aload_n 0, 1), (.lload_n 3, 1)] (show zdec cX6_chooseFrom [(.aload_n 0, 1), (.lload_n 3, 1)] 55 = true by decide +kernel) rfl ?_
          refine zV_pj (show decode cX6_chooseFrom 57 = .ok (.putfield 44, 3) by decide +kernel) zfp_RX6_44 (by decide) rfl h (fun M33 _ h => ?_)
          refine zV_b (pc' := 61) (lv' := [(0, .inr (.inr l0)), (1, .inl l1), (2, .inl l2), (3, .inr (.inl l3))]) (st' := [.inr (.inr l0)]) [(.aload_n 0, 1)] (show zdec cX6_chooseFrom [(.aload_n 0, 1)] 60 = true by decide +kernel) rfl ?_
          refine zV_gr (show decode cX6_chooseFrom 61 = .ok (.getfield 28, 3) by decide +kernel) zfl_RX6_28 (by decide) rfl h (fun v34 _ h => ?_)
          refine zV_b (pc' := 66) (lv' := [(0, .inr (.inr l0)), (1, .inl l1), (2, .inl l2), (3, .inr (.inl l3))]) (st' := [.inr (.inr l0), .inl (0 : Int32), .inr (.inr v34)]) [(.iconst 0, 1), (.aload_n 0, 1)] (show zdec cX6_chooseFrom [(.iconst 0, 1), (.aload_n 0, 1)] 64 = true by decide +kernel) rfl ?_
          refine zV_gr (show decode cX6_chooseFrom 66 = .ok (.getfield 31, 3) by decide +kernel) zfl_RX6_31 (by decide) rfl h (fun v35 _ h => ?_)
          refine zV_b (pc' := 71) (lv' := [(0, .inr (.inr l0)), (1, .inl l1), (2, .inl l2), (3, .inr (.inl l3))]) (st' := [.inr (.inr l0), .inl (0 : Int32), .inr (.inr v35), .inl (0 : Int32), .inr (.inr v34)]) [(.iconst 0, 1), (.aload_n 0, 1)] (show zdec cX6_chooseFrom [(.iconst 0, 1), (.aload_n 0, 1)] 69 = true by decide +kernel) rfl ?_
          refine zV_gi (show decode cX6_chooseFrom 71 = .ok (.getfield 38, 3) by decide +kernel) zfl_RX6_38 (by decide) rfl (Or.inl rfl) h (fun v36 _ h => ?_)
          refine zV_ci (show decode cX6_chooseFrom 74 = .ok (.invokestatic 90, 3) by decide +kernel) zw_1241 (by simp only [zC_X6_chooseFrom]; omega) (show 0 + 18 ≤ (zC_X6_chooseFrom (d + 1)).2.2.2.2.1 by simp only [zC_X6_chooseFrom]; omega) h (fun M37 _ h => ?_)
          exact zend_v h hR (show decode cX6_chooseFrom 77 = .ok (.return_, 1) by decide +kernel)
        · exact zend_v h hR (show decode cX6_chooseFrom 77 = .ok (.return_, 1) by decide +kernel)
    · exact zend_v h hR (show decode cX6_chooseFrom 77 = .ok (.return_, 1) by decide +kernel)
set_option maxRecDepth 100000 in
theorem zt_X6_chooseFrom {X : Zx} {d : Nat} {rec : Zm → Option Nat → Int32 → Int32 → Int64 → Option (Zm × Unit)} (hrec : ∀ {M M' : Zm} {l0 : Option Nat} {l1 : Int32} {l2 : Int32} {l3 : Int64} {x : Unit}, rec M l0 l1 l2 l3 = some (M', x) → ∀ (l : Launch) (D : va_G) (cy : Nat → ClassId), zMet l yX6_chooseFrom (zC_X6_chooseFrom d) none D cy [.inr (.inr l0), .inl l1, .inl l2, .inr (.inl l3)] M M' none) {M : Zm} {l0 : Option Nat} {l1 : Int32} {l2 : Int32} {l3 : Int64} {z : Zm × Unit} (h : zf_X6_chooseFrombody rec M l0 l1 l2 l3 = some z) (hR : zRv X (zC_X6_chooseFrom (d + 1)) z.1) : zV X (zC_X6_chooseFrom (d + 1)) M 0 [(0, .inr (.inr l0)), (1, .inl l1), (2, .inl l2), (3, .inr (.inl l3))] [] := by
  unfold zf_X6_chooseFrombody at h
  refine zV_b (pc' := 1) (lv' := [(0, .inr (.inr l0)), (1, .inl l1), (2, .inl l2), (3, .inr (.inl l3))]) (st' := [.inr (.inr l0)]) [(.aload_n 0, 1)] (show zdec cX6_chooseFrom [(.aload_n 0, 1)] 0 = true by decide +kernel) rfl ?_
  refine zV_gj (show decode cX6_chooseFrom 1 = .ok (.getfield 44, 3) by decide +kernel) zfl_RX6_44 (by decide) rfl h (fun v1 _ h => ?_)
  refine zV_ldc2 (show decode cX6_chooseFrom 4 = .ok (.ldc2_w 42, 3) by decide +kernel) zw_213 ?_
  refine zV_lcmp_eq (off := 13) (tgt := 21) (show decode cX6_chooseFrom 7 = .ok (.lcmp, 1) by decide +kernel) (show decode cX6_chooseFrom 8 = .ok (.ifCond .eq 13, 3) by decide +kernel) (by decide) h (fun c3 h => ?_) (fun c3 h => ?_)
  · exact zV_lv (lv' := [(0, .inr (.inr l0)), (1, .inl l1), (2, .inl l2), (3, .inr (.inl l3))]) [0, 1, 2, 3] rfl (zt_X6_chooseFrom_J21 hrec h hR)
  · refine zV_b (pc' := 13) (lv' := [(0, .inr (.inr l0)), (1, .inl l1), (2, .inl l2), (3, .inr (.inl l3))]) (st' := [.inr (.inr l0), .inr (.inl l3)]) [(.lload_n 3, 1), (.aload_n 0, 1)] (show zdec cX6_chooseFrom [(.lload_n 3, 1), (.aload_n 0, 1)] 11 = true by decide +kernel) rfl ?_
    refine zV_gj (show decode cX6_chooseFrom 13 = .ok (.getfield 44, 3) by decide +kernel) zfl_RX6_44 (by decide) rfl h (fun v41 _ h => ?_)
    refine zV_lcmp_lt (off := 4) (tgt := 21) (show decode cX6_chooseFrom 16 = .ok (.lcmp, 1) by decide +kernel) (show decode cX6_chooseFrom 17 = .ok (.ifCond .lt 4, 3) by decide +kernel) (by decide) h (fun c42 h => ?_) (fun c42 h => ?_)
    · exact zV_lv (lv' := [(0, .inr (.inr l0)), (1, .inl l1), (2, .inl l2), (3, .inr (.inl l3))]) [0, 1, 2, 3] rfl (zt_X6_chooseFrom_J21 hrec h hR)
    · exact zend_v h hR (show decode cX6_chooseFrom 20 = .ok (.return_, 1) by decide +kernel)
noncomputable def zf_X6_chooseFrom : Nat → Zm → Option Nat → Int32 → Int32 → Int64 → Option (Zm × Unit)
  | 0 => fun _ _ _ _ _ => none
  | d + 1 => zf_X6_chooseFrombody (zf_X6_chooseFrom d)
theorem zc_X6_chooseFrom : ∀ {d : Nat} {M M' : Zm} {l0 : Option Nat} {l1 : Int32} {l2 : Int32} {l3 : Int64} {x : Unit}, zf_X6_chooseFrom d M l0 l1 l2 l3 = some (M', x) → ∀ (l : Launch) (D : va_G) (cy : Nat → ClassId), zMet l yX6_chooseFrom (zC_X6_chooseFrom d) none D cy [.inr (.inr l0), .inl l1, .inl l2, .inr (.inl l3)] M M' none := by
  intro d
  induction d with
  | zero => intro M M' l0 l1 l2 l3 x h; cases h
  | succ d ih =>
    intro M M' l0 l1 l2 l3 x h l D cy
    exact zM_v (by decide) rfl (fun h => by cases h) (Nat.le_of_ble_eq_true rfl) (fun X hR => zt_X6_chooseFrom (fun {_ _} {_} {_} {_} {_} {_} e => ih e) h hR)
-- BlendCellar$Planner.offer(IILBlendCellar$Wine;)V
def zC_X6_offer : Zc := (cX6_offer, 4, RX6, 1, 25, false)
theorem zcl_X6_offer {C : Zc} (h1 : zC_X6_offer.2.2.2.1 + 1 ≤ C.2.2.2.1) (h2 : 8 + (zC_X6_offer.2.1 + 11) + zC_X6_offer.2.2.2.2.1 ≤ C.2.2.2.2.1) : zCl C yX6_offer zC_X6_offer none 3 := ⟨zw_1229, zw_108, ⟨by decide, by decide⟩, by decide +kernel, h1, h2⟩
noncomputable def zf_X6_offer (M : Zm) (l0 : Option Nat) (l1 : Int32) (l2 : Int32) (l3 : Option Nat) : Option (Zm × Unit) :=
  zb1 (zo_gr M l0 7 2) (fun v1 =>
  zb1 (zo_si M v1 l1 l2) (fun M2 =>
  zb1 (zo_gr M2 l0 7 0) (fun v3 =>
  zbd (zf_X6_slotOf M2 l1 l2) (fun M4 v4 =>
  zb1 (zo_rc M4 v3 9) (fun _ => zbd (zf_X8_clearSlot M4 v3 v4) (fun M5 _ =>
  zb1 (zo_gr M5 l0 7 0) (fun v6 =>
  zbd (zf_X6_slotOf M5 l1 l2) (fun M7 v7 =>
  zb1 (zo_rc M7 v6 9) (fun _ => zbd (zf_X8_addToSlot M7 v6 v7 l3) (fun M8 _ =>
  some (M8, ())))))))))))
set_option maxRecDepth 100000 in
theorem zt_X6_offer {X : Zx} {M : Zm} {l0 : Option Nat} {l1 : Int32} {l2 : Int32} {l3 : Option Nat} {z : Zm × Unit} (h : zf_X6_offer M l0 l1 l2 l3 = some z) (hR : zRv X zC_X6_offer z.1) : zV X zC_X6_offer M 0 [(0, .inr (.inr l0)), (1, .inl l1), (2, .inl l2), (3, .inr (.inr l3))] [] := by
  unfold zf_X6_offer at h
  refine zV_b (pc' := 1) (lv' := [(0, .inr (.inr l0)), (1, .inl l1), (2, .inl l2), (3, .inr (.inr l3))]) (st' := [.inr (.inr l0)]) [(.aload_n 0, 1)] (by decide +kernel) rfl ?_
  refine zV_gr (by decide +kernel) zfl_RX6_24 (by decide) rfl h (fun v1 _ h => ?_)
  refine zV_b (pc' := 6) (lv' := [(0, .inr (.inr l0)), (1, .inl l1), (2, .inl l2), (3, .inr (.inr l3))]) (st' := [.inl l2, .inl l1, .inr (.inr v1)]) [(.iload_n 1, 1), (.iload_n 2, 1)] (by decide +kernel) rfl ?_
  refine zV_si (by decide +kernel) h (fun M2 _ h => ?_)
  refine zV_b (pc' := 8) (lv' := [(0, .inr (.inr l0)), (1, .inl l1), (2, .inl l2), (3, .inr (.inr l3))]) (st' := [.inr (.inr l0)]) [(.aload_n 0, 1)] (by decide +kernel) rfl ?_
  refine zV_gr (by decide +kernel) zfl_RX6_16 (by decide) rfl h (fun v3 _ h => ?_)
  refine zV_b (pc' := 13) (lv' := [(0, .inr (.inr l0)), (1, .inl l1), (2, .inl l2), (3, .inr (.inr l3))]) (st' := [.inl l2, .inl l1, .inr (.inr v3)]) [(.iload_n 1, 1), (.iload_n 2, 1)] (by decide +kernel) rfl ?_
  refine zV_csi (As := [.inl l1, .inl l2]) (st := [.inr (.inr v3)]) (by decide +kernel) (zcl_X6_slotOf (by decide) (by decide)) ⟨zw_1223, zw_1224⟩ rfl rfl (Nat.le_of_ble_eq_true rfl) h (fun _ _ e => zc_X6_slotOf e) (fun M4 v4 _ h => ?_)
  refine zV_cvv (As := [.inl v4]) (st := []) (c := 9) (by decide +kernel) (zcl_X8_clearSlot (by decide) (by decide)) ⟨zw_1230, zw_1159, zw_1160⟩ ⟨⟨_, _, rfl⟩, by decide⟩ rfl rfl (Nat.le_of_ble_eq_true rfl) h (fun _ _ e => zc_X8_clearSlot e) (fun M5 _ _ h => ?_)
  refine zV_b (pc' := 20) (lv' := [(0, .inr (.inr l0)), (1, .inl l1), (2, .inl l2), (3, .inr (.inr l3))]) (st' := [.inr (.inr l0)]) [(.aload_n 0, 1)] (by decide +kernel) rfl ?_
  refine zV_gr (by decide +kernel) zfl_RX6_16 (by decide) rfl h (fun v6 _ h => ?_)
  refine zV_b (pc' := 25) (lv' := [(0, .inr (.inr l0)), (1, .inl l1), (2, .inl l2), (3, .inr (.inr l3))]) (st' := [.inl l2, .inl l1, .inr (.inr v6)]) [(.iload_n 1, 1), (.iload_n 2, 1)] (by decide +kernel) rfl ?_
  refine zV_csi (As := [.inl l1, .inl l2]) (st := [.inr (.inr v6)]) (by decide +kernel) (zcl_X6_slotOf (by decide) (by decide)) ⟨zw_1223, zw_1224⟩ rfl rfl (Nat.le_of_ble_eq_true rfl) h (fun _ _ e => zc_X6_slotOf e) (fun M7 v7 _ h => ?_)
  refine zV_b (pc' := 29) (lv' := [(0, .inr (.inr l0)), (1, .inl l1), (2, .inl l2), (3, .inr (.inr l3))]) (st' := [.inr (.inr l3), .inl v7, .inr (.inr v6)]) [(.aload_n 3, 1)] (by decide +kernel) rfl ?_
  refine zV_cvv (As := [.inl v7, .inr (.inr l3)]) (st := []) (c := 9) (by decide +kernel) (zcl_X8_addToSlot (by decide) (by decide)) ⟨zw_1231, zw_1163, zw_1164⟩ ⟨⟨_, _, rfl⟩, by decide⟩ rfl rfl (Nat.le_of_ble_eq_true rfl) h (fun _ _ e => zc_X8_addToSlot e) (fun M8 _ _ h => ?_)
  exact zend_v h hR (by decide +kernel)
theorem zc_X6_offer {M M' : Zm} {l0 : Option Nat} {l1 : Int32} {l2 : Int32} {l3 : Option Nat} {x : Unit} (h : zf_X6_offer M l0 l1 l2 l3 = some (M', x)) (l : Launch) (D : va_G) (cy : Nat → ClassId) : zMet l yX6_offer zC_X6_offer none D cy [.inr (.inr l0), .inl l1, .inl l2, .inr (.inr l3)] M M' none :=
  zM_v (by decide) rfl (fun h => by cases h) (Nat.le_of_ble_eq_true rfl) (fun X hR => zt_X6_offer h hR)
-- BlendCellar$Planner.readSettled(I)J
def zC_X6_readSettled : Zc := (cX6_readSettled, 2, RX6, 0, 0, false)
theorem zcl_X6_readSettled {C : Zc} (h1 : zC_X6_readSettled.2.2.2.1 + 1 ≤ C.2.2.2.1) (h2 : 8 + (zC_X6_readSettled.2.1 + 11) + zC_X6_readSettled.2.2.2.2.1 ≤ C.2.2.2.2.1) : zCl C yX6_readSettled zC_X6_readSettled (some .long) 1 := ⟨zw_1421, zw_108, ⟨by decide, by decide⟩, by decide +kernel, h1, h2⟩
noncomputable def zf_X6_readSettled_J12 (M : Zm)  : Option (Zm × Int64) :=
  some (M, (0 : Int64))
noncomputable def zf_X6_readSettled (M : Zm) (l0 : Option Nat) (l1 : Int32) : Option (Zm × Int64) :=
  (if l1 < 0 then
  zf_X6_readSettled_J12 M
  else
  zb1 (zo_gi M l0 7 9) (fun v4 =>
  (if l1 < v4 then
  zb1 (zo_gr M l0 7 8) (fun v6 =>
  zb1 (zo_aj M v6 l1) (fun v7 =>
  some (M, v7)))
  else
  zf_X6_readSettled_J12 M)))
set_option maxRecDepth 100000 in
theorem zt_X6_readSettled_J12 {X : Zx} {M : Zm}  {z : Zm × Int64} (h : zf_X6_readSettled_J12 M  = some z) (hR : zRj X zC_X6_readSettled z.1 z.2) : zV X zC_X6_readSettled M 12 [] [] := by
  unfold zf_X6_readSettled_J12 at h
  refine zV_b (pc' := 13) (lv' := []) (st' := [.inr (.inl (0 : Int64))]) [(.lconst 0, 1)] (by decide +kernel) rfl ?_
  refine zV_goto (off := 9) (tgt := 22) (by decide +kernel) (by decide) ?_
  exact zend_j h hR (by decide +kernel)
set_option maxRecDepth 100000 in
theorem zt_X6_readSettled {X : Zx} {M : Zm} {l0 : Option Nat} {l1 : Int32} {z : Zm × Int64} (h : zf_X6_readSettled M l0 l1 = some z) (hR : zRj X zC_X6_readSettled z.1 z.2) : zV X zC_X6_readSettled M 0 [(0, .inr (.inr l0)), (1, .inl l1)] [] := by
  unfold zf_X6_readSettled at h
  refine zV_b (pc' := 1) (lv' := [(0, .inr (.inr l0)), (1, .inl l1)]) (st' := [.inl l1]) [(.iload_n 1, 1)] (by decide +kernel) rfl ?_
  refine zV_if_lt (off := 11) (tgt := 12) (by decide +kernel) (by decide) h (fun c1 h => ?_) (fun c1 h => ?_)
  · exact zV_lv (lv' := []) [] rfl (zt_X6_readSettled_J12 h hR)
  · refine zV_b (pc' := 6) (lv' := [(0, .inr (.inr l0)), (1, .inl l1)]) (st' := [.inr (.inr l0), .inl l1]) [(.iload_n 1, 1), (.aload_n 0, 1)] (by decide +kernel) rfl ?_
    refine zV_gi (by decide +kernel) zfl_RX6_51 (by decide) rfl (Or.inl rfl) h (fun v4 _ h => ?_)
    refine zV_icmp_lt (off := 7) (tgt := 16) (by decide +kernel) (by decide) h (fun c5 h => ?_) (fun c5 h => ?_)
    · refine zV_b (pc' := 17) (lv' := [(0, .inr (.inr l0)), (1, .inl l1)]) (st' := [.inr (.inr l0)]) [(.aload_n 0, 1)] (by decide +kernel) rfl ?_
      refine zV_gr (by decide +kernel) zfl_RX6_48 (by decide) rfl h (fun v6 _ h => ?_)
      refine zV_b (pc' := 21) (lv' := [(0, .inr (.inr l0)), (1, .inl l1)]) (st' := [.inl l1, .inr (.inr v6)]) [(.iload_n 1, 1)] (by decide +kernel) rfl ?_
      refine zV_aj (by decide +kernel) h (fun v7 _ h => ?_)
      exact zend_j h hR (by decide +kernel)
    · exact zV_lv (lv' := []) [] rfl (zt_X6_readSettled_J12 h hR)
theorem zc_X6_readSettled {M M' : Zm} {l0 : Option Nat} {l1 : Int32} {x : Int64} (h : zf_X6_readSettled M l0 l1 = some (M', x)) (l : Launch) (D : va_G) (cy : Nat → ClassId) : zMet l yX6_readSettled zC_X6_readSettled (some .long) D cy [.inr (.inr l0), .inl l1] M M' (some (.inr (.inl x))) :=
  zM_j (by decide) rfl (fun h => by cases h) (Nat.le_of_ble_eq_true rfl) (fun X hR => zt_X6_readSettled h hR)
-- BlendCellar$Planner.search(I)J
def zC_X6_search : Zc := (cX6_search, 2, RX6, 37, 990, false)
theorem zcl_X6_search {C : Zc} (h1 : zC_X6_search.2.2.2.1 + 1 ≤ C.2.2.2.1) (h2 : 8 + (zC_X6_search.2.1 + 11) + zC_X6_search.2.2.2.2.1 ≤ C.2.2.2.2.1) : zCl C yX6_search zC_X6_search (some .long) 1 := ⟨zw_1235, zw_108, ⟨by decide, by decide⟩, by decide +kernel, h1, h2⟩
noncomputable def zf_X6_search (M : Zm) (l0 : Option Nat) (l1 : Int32) : Option (Zm × Int64) :=
  zb1 (zo_pj M l0 7 7 (-1 : Int64)) (fun M2 =>
  zb1 (zo_rc M2 l0 7) (fun _ => zbd (zf_X6_chooseFrom 32 M2 l0 (0 : Int32) l1 (0 : Int64)) (fun M3 _ =>
  zb1 (zo_gj M3 l0 7 7) (fun v4 =>
  some (M3, v4)))))
set_option maxRecDepth 100000 in
theorem zt_X6_search {X : Zx} {M : Zm} {l0 : Option Nat} {l1 : Int32} {z : Zm × Int64} (h : zf_X6_search M l0 l1 = some z) (hR : zRj X zC_X6_search z.1 z.2) : zV X zC_X6_search M 0 [(0, .inr (.inr l0)), (1, .inl l1)] [] := by
  unfold zf_X6_search at h
  refine zV_b (pc' := 1) (lv' := [(0, .inr (.inr l0)), (1, .inl l1)]) (st' := [.inr (.inr l0)]) [(.aload_n 0, 1)] (by decide +kernel) rfl ?_
  refine zV_ldc2 (by decide +kernel) zw_213 ?_
  refine zV_pj (by decide +kernel) zfp_RX6_44 (by decide) rfl h (fun M2 _ h => ?_)
  refine zV_b (pc' := 11) (lv' := [(0, .inr (.inr l0)), (1, .inl l1)]) (st' := [.inr (.inl (0 : Int64)), .inl l1, .inl (0 : Int32), .inr (.inr l0)]) [(.aload_n 0, 1), (.iconst 0, 1), (.iload_n 1, 1), (.lconst 0, 1)] (by decide +kernel) rfl ?_
  refine zV_cvv (As := [.inl (0 : Int32), .inl l1, .inr (.inl (0 : Int64))]) (st := []) (c := 7) (by decide +kernel) (zcl_X6_chooseFrom (by decide) (by decide)) ⟨zw_1236, zw_1238, zw_53⟩ ⟨⟨_, _, rfl⟩, by decide⟩ rfl rfl (Nat.le_of_ble_eq_true rfl) h (fun _ _ e => zc_X6_chooseFrom e) (fun M3 _ _ h => ?_)
  refine zV_b (pc' := 15) (lv' := [(0, .inr (.inr l0)), (1, .inl l1)]) (st' := [.inr (.inr l0)]) [(.aload_n 0, 1)] (by decide +kernel) rfl ?_
  refine zV_gj (by decide +kernel) zfl_RX6_44 (by decide) rfl h (fun v4 _ h => ?_)
  exact zend_j h hR (by decide +kernel)
theorem zc_X6_search {M M' : Zm} {l0 : Option Nat} {l1 : Int32} {x : Int64} (h : zf_X6_search M l0 l1 = some (M', x)) (l : Launch) (D : va_G) (cy : Nat → ClassId) : zMet l yX6_search zC_X6_search (some .long) D cy [.inr (.inr l0), .inl l1] M M' (some (.inr (.inl x))) :=
  zM_j (by decide) rfl (fun h => by cases h) (Nat.le_of_ble_eq_true rfl) (fun X hR => zt_X6_search h hR)
-- BlendCellar$Planner.setDear(IIJ)V
def zC_X6_setDear : Zc := (cX6_setDear, 5, RX6, 1, 21, false)
theorem zcl_X6_setDear {C : Zc} (h1 : zC_X6_setDear.2.2.2.1 + 1 ≤ C.2.2.2.1) (h2 : 8 + (zC_X6_setDear.2.1 + 11) + zC_X6_setDear.2.2.2.2.1 ≤ C.2.2.2.2.1) : zCl C yX6_setDear zC_X6_setDear none 3 := ⟨zw_1222, zw_108, ⟨by decide, by decide⟩, by decide +kernel, h1, h2⟩
noncomputable def zf_X6_setDear (M : Zm) (l0 : Option Nat) (l1 : Int32) (l2 : Int32) (l3 : Int64) : Option (Zm × Unit) :=
  zb1 (zo_gr M l0 7 1) (fun v1 =>
  zbd (zf_X6_slotOf M l1 l2) (fun M2 v2 =>
  zb1 (zo_sj M2 v1 v2 l3) (fun M3 =>
  some (M3, ()))))
set_option maxRecDepth 100000 in
theorem zt_X6_setDear {X : Zx} {M : Zm} {l0 : Option Nat} {l1 : Int32} {l2 : Int32} {l3 : Int64} {z : Zm × Unit} (h : zf_X6_setDear M l0 l1 l2 l3 = some z) (hR : zRv X zC_X6_setDear z.1) : zV X zC_X6_setDear M 0 [(0, .inr (.inr l0)), (1, .inl l1), (2, .inl l2), (3, .inr (.inl l3))] [] := by
  unfold zf_X6_setDear at h
  refine zV_b (pc' := 1) (lv' := [(0, .inr (.inr l0)), (1, .inl l1), (2, .inl l2), (3, .inr (.inl l3))]) (st' := [.inr (.inr l0)]) [(.aload_n 0, 1)] (by decide +kernel) rfl ?_
  refine zV_gr (by decide +kernel) zfl_RX6_20 (by decide) rfl h (fun v1 _ h => ?_)
  refine zV_b (pc' := 6) (lv' := [(0, .inr (.inr l0)), (1, .inl l1), (2, .inl l2), (3, .inr (.inl l3))]) (st' := [.inl l2, .inl l1, .inr (.inr v1)]) [(.iload_n 1, 1), (.iload_n 2, 1)] (by decide +kernel) rfl ?_
  refine zV_csi (As := [.inl l1, .inl l2]) (st := [.inr (.inr v1)]) (by decide +kernel) (zcl_X6_slotOf (by decide) (by decide)) ⟨zw_1223, zw_1224⟩ rfl rfl (Nat.le_of_ble_eq_true rfl) h (fun _ _ e => zc_X6_slotOf e) (fun M2 v2 _ h => ?_)
  refine zV_b (pc' := 10) (lv' := [(0, .inr (.inr l0)), (1, .inl l1), (2, .inl l2), (3, .inr (.inl l3))]) (st' := [.inr (.inl l3), .inl v2, .inr (.inr v1)]) [(.lload_n 3, 1)] (by decide +kernel) rfl ?_
  refine zV_sj (by decide +kernel) h (fun M3 _ h => ?_)
  exact zend_v h hR (by decide +kernel)
theorem zc_X6_setDear {M M' : Zm} {l0 : Option Nat} {l1 : Int32} {l2 : Int32} {l3 : Int64} {x : Unit} (h : zf_X6_setDear M l0 l1 l2 l3 = some (M', x)) (l : Launch) (D : va_G) (cy : Nat → ClassId) : zMet l yX6_setDear zC_X6_setDear none D cy [.inr (.inr l0), .inl l1, .inl l2, .inr (.inl l3)] M M' none :=
  zM_v (by decide) rfl (fun h => by cases h) (Nat.le_of_ble_eq_true rfl) (fun X hR => zt_X6_setDear h hR)
-- BlendCellar$Planner.settle(J)V
def zC_X6_settle : Zc := (cX6_settle, 4, RX6, 0, 0, false)
theorem zcl_X6_settle {C : Zc} (h1 : zC_X6_settle.2.2.2.1 + 1 ≤ C.2.2.2.1) (h2 : 8 + (zC_X6_settle.2.1 + 11) + zC_X6_settle.2.2.2.2.1 ≤ C.2.2.2.2.1) : zCl C yX6_settle zC_X6_settle none 1 := ⟨zw_1247, zw_108, ⟨by decide, by decide⟩, by decide +kernel, h1, h2⟩
noncomputable def zf_X6_settle_L10 (p0 : Option Nat) (p1 : Int64) (x : Zm × Int32) : Option ((Zm × Int32) ⊕ (Zm × Int32)) := match x with
  | (M, l3) =>
  zb1 (zo_gi M p0 7 6) (fun v3 =>
  (if v3 ≤ l3 then
  some (.inr (M, l3))
  else
  zb1 (zo_gr M p0 7 8) (fun v5 =>
  zb1 (zo_gr M p0 7 4) (fun v6 =>
  zb1 (zo_ai M v6 l3) (fun v7 =>
  zb1 (zo_sj M v5 l3 ((v7.toInt64) * p1)) (fun M8 =>
  some (.inl (M8, (l3 + 1)))))))))
def zP_X6_settle_L10 (X : Zx) (p0 : Option Nat) (p1 : Int64) (x : Zm × Int32) : Prop := match x with
  | (M, l3) => zV X zC_X6_settle M 10 [(0, .inr (.inr p0)), (1, .inr (.inl p1)), (3, .inl l3)] []
def zK_X6_settle_L10 (X : Zx) (p0 : Option Nat) (p1 : Int64) (y : Zm × Int32) : Prop := match y with
  | (M, l3) => zV X zC_X6_settle M 39 [] []
noncomputable def zf_X6_settle (M : Zm) (l0 : Option Nat) (l1 : Int64) : Option (Zm × Unit) :=
  zb1 (zo_gi M l0 7 6) (fun v1 =>
  zb1 (zo_pi M l0 7 9 v1) (fun M2 =>
  zb1 (zwhile (zf_X6_settle_L10 l0 l1) (M2, (0 : Int32))) (fun y10 => match y10 with
  | (M10_10, l3_10) =>
  some (M10_10, ()))))
set_option maxRecDepth 100000 in
theorem zt_X6_settle_L10 {X : Zx} {p0 : Option Nat} {p1 : Int64} {x : Zm × Int32} {y : Zm × Int32} (h : zwhile (zf_X6_settle_L10 p0 p1) x = some y) (hy : zK_X6_settle_L10 X p0 p1 y) : zP_X6_settle_L10 X p0 p1 x := by
  refine zwhile_ind (P := zP_X6_settle_L10 X p0 p1) (K := zK_X6_settle_L10 X p0 p1) ?_ h hy
  intro x z hf k1 k2
  obtain ⟨M, l3⟩ := x
  have h : zf_X6_settle_L10 p0 p1 (M, l3) = some z := hf
  unfold zf_X6_settle_L10 at h
  show zV X zC_X6_settle M 10 [(0, .inr (.inr p0)), (1, .inr (.inl p1)), (3, .inl l3)] []
  refine zV_b (pc' := 12) (lv' := [(0, .inr (.inr p0)), (1, .inr (.inl p1)), (3, .inl l3)]) (st' := [.inr (.inr p0), .inl l3]) [(.iload_n 3, 1), (.aload_n 0, 1)] (by decide +kernel) rfl ?_
  refine zV_gi (by decide +kernel) zfl_RX6_38 (by decide) rfl (Or.inl rfl) h (fun v3 _ h => ?_)
  refine zV_icmp_ge (off := 24) (tgt := 39) (by decide +kernel) (by decide) h (fun c4 h => ?_) (fun c4 h => ?_)
  · exact zV_lv (lv' := []) [] rfl (k2 _ (Option.some.inj h).symm)
  · refine zV_b (pc' := 19) (lv' := [(0, .inr (.inr p0)), (1, .inr (.inl p1)), (3, .inl l3)]) (st' := [.inr (.inr p0)]) [(.aload_n 0, 1)] (by decide +kernel) rfl ?_
    refine zV_gr (by decide +kernel) zfl_RX6_48 (by decide) rfl h (fun v5 _ h => ?_)
    refine zV_b (pc' := 24) (lv' := [(0, .inr (.inr p0)), (1, .inr (.inl p1)), (3, .inl l3)]) (st' := [.inr (.inr p0), .inl l3, .inr (.inr v5)]) [(.iload_n 3, 1), (.aload_n 0, 1)] (by decide +kernel) rfl ?_
    refine zV_gr (by decide +kernel) zfl_RX6_31 (by decide) rfl h (fun v6 _ h => ?_)
    refine zV_b (pc' := 28) (lv' := [(0, .inr (.inr p0)), (1, .inr (.inl p1)), (3, .inl l3)]) (st' := [.inl l3, .inr (.inr v6), .inl l3, .inr (.inr v5)]) [(.iload_n 3, 1)] (by decide +kernel) rfl ?_
    refine zV_ai (by decide +kernel) h (fun v7 _ h => ?_)
    refine zV_b (pc' := 32) (lv' := [(0, .inr (.inr p0)), (1, .inr (.inl p1)), (3, .inl l3)]) (st' := [.inr (.inl ((v7.toInt64) * p1)), .inl l3, .inr (.inr v5)]) [(.i2l, 1), (.lload_n 1, 1), (.lmul, 1)] (by decide +kernel) rfl ?_
    refine zV_sj (by decide +kernel) h (fun M8 _ h => ?_)
    refine zV_b (pc' := 36) (lv' := [(3, .inl (l3 + 1)), (0, .inr (.inr p0)), (1, .inr (.inl p1))]) (st' := []) [(.iinc 3 1, 3)] (by decide +kernel) rfl ?_
    refine zV_goto (off := (-26)) (tgt := 10) (by decide +kernel) (by decide) ?_
    exact zV_lv (lv' := [(0, .inr (.inr p0)), (1, .inr (.inl p1)), (3, .inl (l3 + 1))]) [1, 2, 0] rfl (k1 _ (Option.some.inj h).symm)
set_option maxRecDepth 100000 in
theorem zt_X6_settle {X : Zx} {M : Zm} {l0 : Option Nat} {l1 : Int64} {z : Zm × Unit} (h : zf_X6_settle M l0 l1 = some z) (hR : zRv X zC_X6_settle z.1) : zV X zC_X6_settle M 0 [(0, .inr (.inr l0)), (1, .inr (.inl l1))] [] := by
  unfold zf_X6_settle at h
  refine zV_b (pc' := 2) (lv' := [(0, .inr (.inr l0)), (1, .inr (.inl l1))]) (st' := [.inr (.inr l0), .inr (.inr l0)]) [(.aload_n 0, 1), (.aload_n 0, 1)] (by decide +kernel) rfl ?_
  refine zV_gi (by decide +kernel) zfl_RX6_38 (by decide) rfl (Or.inl rfl) h (fun v1 _ h => ?_)
  refine zV_pi (by decide +kernel) zfp_RX6_51 (by decide) rfl h (fun M2 _ h => ?_)
  refine zV_b (pc' := 10) (lv' := [(3, .inl (0 : Int32)), (0, .inr (.inr l0)), (1, .inr (.inl l1))]) (st' := []) [(.iconst 0, 1), (.istore_n 3, 1)] (by decide +kernel) rfl ?_
  obtain ⟨y10, e10, h⟩ := zb1_inv h
  refine zV_lv (lv' := [(0, .inr (.inr l0)), (1, .inr (.inl l1)), (3, .inl (0 : Int32))]) [1, 2, 0] rfl (zt_X6_settle_L10 e10 ?_)
  obtain ⟨M10_10, l3_10⟩ := y10
  show zV X zC_X6_settle M10_10 39 [] []
  exact zend_v h hR (by decide +kernel)
theorem zc_X6_settle {M M' : Zm} {l0 : Option Nat} {l1 : Int64} {x : Unit} (h : zf_X6_settle M l0 l1 = some (M', x)) (l : Launch) (D : va_G) (cy : Nat → ClassId) : zMet l yX6_settle zC_X6_settle none D cy [.inr (.inr l0), .inr (.inl l1)] M M' none :=
  zM_v (by decide) rfl (fun h => by cases h) (Nat.le_of_ble_eq_true rfl) (fun X hR => zt_X6_settle h hR)
