/-! What the bytecode does, as functions of the memory, and the walks (written by wip/gen.py). -/
-- BlendCellar$Barrel.steelTakes(LBlendCellar$Trace;)J
def zC_X0_steelTakes : Zc := (cX0_steelTakes, 2, RX0, 1, 21, false)
theorem zcl_X0_steelTakes {C : Zc} (h1 : zC_X0_steelTakes.2.2.2.1 + 1 ≤ C.2.2.2.1) (h2 : 8 + (zC_X0_steelTakes.2.1 + 11) + zC_X0_steelTakes.2.2.2.2.1 ≤ C.2.2.2.2.1) : zCl C yX0_steelTakes zC_X0_steelTakes (some .long) 1 := ⟨zw_795, zw_117, ⟨by decide, by decide⟩, by decide +kernel, h1, h2⟩
noncomputable def zf_X0_steelTakes (M : Zm) (l0 : Option Nat) (l1 : Option Nat) : Option (Zm × Int64) :=
  zb1 (zo_rc M l1 10) (fun _ => zbd (zf_X9_ran M l1 (2 : Int32)) (fun M1 _ =>
  zb1 (zo_gi M1 l0 1 2) (fun v2 =>
  zb1 (zo_gi M1 l0 1 2) (fun v3 =>
  zb1 (zo_id v3 (50 : Int32)) (fun v4 =>
  some (M1, (((v2 - v4)).toInt64)))))))
set_option maxRecDepth 100000 in
theorem zt_X0_steelTakes {X : Zx} {M : Zm} {l0 : Option Nat} {l1 : Option Nat} {z : Zm × Int64} (h : zf_X0_steelTakes M l0 l1 = some z) (hR : zRj X zC_X0_steelTakes z.1 z.2) : zV X zC_X0_steelTakes M 0 [(0, .inr (.inr l0)), (1, .inr (.inr l1))] [] := by
  unfold zf_X0_steelTakes at h
  refine zV_b (pc' := 2) (lv' := [(0, .inr (.inr l0)), (1, .inr (.inr l1))]) (st' := [.inl (2 : Int32), .inr (.inr l1)]) [(.aload_n 1, 1), (.iconst 2, 1)] (by decide +kernel) rfl ?_
  refine zV_cvv (As := [.inl (2 : Int32)]) (st := []) (c := 10) (by decide +kernel) (zcl_X9_ran (by decide) (by decide)) ⟨zw_796, zw_797, zw_798⟩ ⟨⟨_, _, rfl⟩, by decide⟩ rfl rfl (Nat.le_of_ble_eq_true rfl) h (fun _ _ e => zc_X9_ran e) (fun M1 _ _ h => ?_)
  refine zV_b (pc' := 6) (lv' := [(0, .inr (.inr l0)), (1, .inr (.inr l1))]) (st' := [.inr (.inr l0)]) [(.aload_n 0, 1)] (by decide +kernel) rfl ?_
  refine zV_gi (by decide +kernel) zfl_RX0_53 (by decide) rfl (Or.inl rfl) h (fun v2 _ h => ?_)
  refine zV_b (pc' := 10) (lv' := [(0, .inr (.inr l0)), (1, .inr (.inr l1))]) (st' := [.inr (.inr l0), .inl v2]) [(.aload_n 0, 1)] (by decide +kernel) rfl ?_
  refine zV_gi (by decide +kernel) zfl_RX0_53 (by decide) rfl (Or.inl rfl) h (fun v3 _ h => ?_)
  refine zV_b (pc' := 15) (lv' := [(0, .inr (.inr l0)), (1, .inr (.inr l1))]) (st' := [.inl (50 : Int32), .inl v3, .inl v2]) [(.bipush 50, 2)] (by decide +kernel) rfl ?_
  refine zV_id (by decide +kernel) h (fun v4 _ h => ?_)
  refine zV_b (pc' := 18) (lv' := [(0, .inr (.inr l0)), (1, .inr (.inr l1))]) (st' := [.inr (.inl (((v2 - v4)).toInt64))]) [(.isub, 1), (.i2l, 1)] (by decide +kernel) rfl ?_
  exact zend_j h hR (by decide +kernel)
theorem zc_X0_steelTakes {M M' : Zm} {l0 : Option Nat} {l1 : Option Nat} {x : Int64} (h : zf_X0_steelTakes M l0 l1 = some (M', x)) (l : Launch) (D : va_G) (cy : Nat → ClassId) : zMet l yX0_steelTakes zC_X0_steelTakes (some .long) D cy [.inr (.inr l0), .inr (.inr l1)] M M' (some (.inr (.inl x))) :=
  zM_j (by decide) rfl (fun h => by cases h) (Nat.le_of_ble_eq_true rfl) (fun X hR => zt_X0_steelTakes h hR)
-- BlendCellar$Barrel.takeIn(LBlendCellar$Barrel;)V
def zC_X0_takeIn : Zc := (cX0_takeIn, 2, RX0, 0, 0, false)
theorem zcl_X0_takeIn {C : Zc} (h1 : zC_X0_takeIn.2.2.2.1 + 1 ≤ C.2.2.2.1) (h2 : 8 + (zC_X0_takeIn.2.1 + 11) + zC_X0_takeIn.2.2.2.2.1 ≤ C.2.2.2.2.1) : zCl C yX0_takeIn zC_X0_takeIn none 1 := ⟨zw_713, zw_117, ⟨by decide, by decide⟩, by decide +kernel, h1, h2⟩
noncomputable def zf_X0_takeIn (M : Zm) (l0 : Option Nat) (l1 : Option Nat) : Option (Zm × Unit) :=
  zb1 (zo_gi M l0 1 7) (fun v1 =>
  zb1 (zo_gr M l0 1 6) (fun v2 =>
  zb1 (zo_al M v2) (fun v3 =>
  (if v3 ≤ v1 then
  some (M, ())
  else
  zb1 (zo_gr M l0 1 6) (fun v6 =>
  zb1 (zo_gi M l0 1 7) (fun v7 =>
  zb1 (zo_sr M 16 1 v6 v7 l1) (fun M8 =>
  zb1 (zo_gi M8 l0 1 7) (fun v9 =>
  zb1 (zo_pi M8 l0 1 7 (v9 + (1 : Int32))) (fun M10 =>
  zb1 (zo_gi M10 l0 1 0) (fun v11 =>
  zb1 (zo_pi M10 l1 1 4 ((10000 : Int32) + v11)) (fun M12 =>
  some (M12, ()))))))))))))
set_option maxRecDepth 100000 in
theorem zt_X0_takeIn {X : Zx} {M : Zm} {l0 : Option Nat} {l1 : Option Nat} {z : Zm × Unit} (h : zf_X0_takeIn M l0 l1 = some z) (hR : zRv X zC_X0_takeIn z.1) : zV X zC_X0_takeIn M 0 [(0, .inr (.inr l0)), (1, .inr (.inr l1))] [] := by
  unfold zf_X0_takeIn at h
  refine zV_b (pc' := 1) (lv' := [(0, .inr (.inr l0)), (1, .inr (.inr l1))]) (st' := [.inr (.inr l0)]) [(.aload_n 0, 1)] (by decide +kernel) rfl ?_
  refine zV_gi (by decide +kernel) zfl_RX0_26 (by decide) rfl (Or.inl rfl) h (fun v1 _ h => ?_)
  refine zV_b (pc' := 5) (lv' := [(0, .inr (.inr l0)), (1, .inr (.inr l1))]) (st' := [.inr (.inr l0), .inl v1]) [(.aload_n 0, 1)] (by decide +kernel) rfl ?_
  refine zV_gr (by decide +kernel) zfl_RX0_22 (by decide) rfl h (fun v2 _ h => ?_)
  refine zV_al (by decide +kernel) h (fun v3 _ h => ?_)
  refine zV_icmp_ge (off := 35) (tgt := 44) (by decide +kernel) (by decide) h (fun c4 h => ?_) (fun c4 h => ?_)
  · exact zend_v h hR (by decide +kernel)
  · refine zV_b (pc' := 13) (lv' := [(0, .inr (.inr l0)), (1, .inr (.inr l1))]) (st' := [.inr (.inr l0)]) [(.aload_n 0, 1)] (by decide +kernel) rfl ?_
    refine zV_gr (by decide +kernel) zfl_RX0_22 (by decide) rfl h (fun v6 _ h => ?_)
    refine zV_b (pc' := 17) (lv' := [(0, .inr (.inr l0)), (1, .inr (.inr l1))]) (st' := [.inr (.inr l0), .inr (.inr v6)]) [(.aload_n 0, 1)] (by decide +kernel) rfl ?_
    refine zV_gi (by decide +kernel) zfl_RX0_26 (by decide) rfl (Or.inl rfl) h (fun v7 _ h => ?_)
    refine zV_b (pc' := 21) (lv' := [(0, .inr (.inr l0)), (1, .inr (.inr l1))]) (st' := [.inr (.inr l1), .inl v7, .inr (.inr v6)]) [(.aload_n 1, 1)] (by decide +kernel) rfl ?_
    refine zV_sr (by decide +kernel) (by decide) (by decide) (Or.inr ⟨_, _, rfl, by decide⟩) h (fun M8 _ h => ?_)
    refine zV_b (pc' := 24) (lv' := [(0, .inr (.inr l0)), (1, .inr (.inr l1))]) (st' := [.inr (.inr l0), .inr (.inr l0)]) [(.aload_n 0, 1), (.dup, 1)] (by decide +kernel) rfl ?_
    refine zV_gi (by decide +kernel) zfl_RX0_26 (by decide) rfl (Or.inl rfl) h (fun v9 _ h => ?_)
    refine zV_b (pc' := 29) (lv' := [(0, .inr (.inr l0)), (1, .inr (.inr l1))]) (st' := [.inl (v9 + (1 : Int32)), .inr (.inr l0)]) [(.iconst 1, 1), (.iadd, 1)] (by decide +kernel) rfl ?_
    refine zV_pi (by decide +kernel) zfp_RX0_26 (by decide) rfl h (fun M10 _ h => ?_)
    refine zV_b (pc' := 37) (lv' := [(0, .inr (.inr l0)), (1, .inr (.inr l1))]) (st' := [.inr (.inr l0), .inl (10000 : Int32), .inr (.inr l1)]) [(.aload_n 1, 1), (.sipush 10000, 3), (.aload_n 0, 1)] (by decide +kernel) rfl ?_
    refine zV_gi (by decide +kernel) zfl_RX0_47 (by decide) rfl (Or.inl rfl) h (fun v11 _ h => ?_)
    refine zV_b (pc' := 41) (lv' := [(0, .inr (.inr l0)), (1, .inr (.inr l1))]) (st' := [.inl ((10000 : Int32) + v11), .inr (.inr l1)]) [(.iadd, 1)] (by decide +kernel) rfl ?_
    refine zV_pi (by decide +kernel) zfp_RX0_9 (by decide) rfl h (fun M12 _ h => ?_)
    exact zend_v h hR (by decide +kernel)
theorem zc_X0_takeIn {M M' : Zm} {l0 : Option Nat} {l1 : Option Nat} {x : Unit} (h : zf_X0_takeIn M l0 l1 = some (M', x)) (l : Launch) (D : va_G) (cy : Nat → ClassId) : zMet l yX0_takeIn zC_X0_takeIn none D cy [.inr (.inr l0), .inr (.inr l1)] M M' none :=
  zM_v (by decide) rfl (fun h => by cases h) (Nat.le_of_ble_eq_true rfl) (fun X hR => zt_X0_takeIn h hR)
-- BlendCellar$Barrel.vesselTakes(LBlendCellar$Trace;)J
def zC_X0_vesselTakes : Zc := (cX0_vesselTakes, 2, RX0, 2, 42, false)
theorem zcl_X0_vesselTakes {C : Zc} (h1 : zC_X0_vesselTakes.2.2.2.1 + 1 ≤ C.2.2.2.1) (h2 : 8 + (zC_X0_vesselTakes.2.1 + 11) + zC_X0_vesselTakes.2.2.2.2.1 ≤ C.2.2.2.2.1) : zCl C yX0_vesselTakes zC_X0_vesselTakes (some .long) 1 := ⟨zw_791, zw_117, ⟨by decide, by decide⟩, by decide +kernel, h1, h2⟩
theorem zd_X0_vesselTakes_4 : decode cX0_vesselTakes 4 = .ok (.lookupswitch 53 #[(3, 28), (4, 34)], 28) := by decide +kernel
noncomputable def zf_X0_vesselTakes (M : Zm) (l0 : Option Nat) (l1 : Option Nat) : Option (Zm × Int64) :=
  zb1 (zo_gi M l0 1 1) (fun v1 =>
  (if v1 = 3 then
  zb1 (zo_rc M l0 1) (fun _ => zbd (zf_X0_steelTakes M l0 l1) (fun M6 v6 =>
  some (M6, v6)))
  else
  (if v1 = 4 then
  zb1 (zo_rc M l1 10) (fun _ => zbd (zf_X9_ran M l1 (3 : Int32)) (fun M8 _ =>
  zb1 (zo_rc M8 l0 1) (fun _ => zbd (zf_X0_steelTakes M8 l0 l1) (fun M9 v9 =>
  some (M9, (zmaxl (v9 - (10 : Int64)) (0 : Int64)))))))
  else
  zb1 (zo_rc M l1 10) (fun _ => zbd (zf_X9_ran M l1 (1 : Int32)) (fun M3 _ =>
  zb1 (zo_gi M3 l0 1 2) (fun v4 =>
  some (M3, (v4.toInt64))))))))
set_option maxRecDepth 100000 in
theorem zt_X0_vesselTakes {X : Zx} {M : Zm} {l0 : Option Nat} {l1 : Option Nat} {z : Zm × Int64} (h : zf_X0_vesselTakes M l0 l1 = some z) (hR : zRj X zC_X0_vesselTakes z.1 z.2) : zV X zC_X0_vesselTakes M 0 [(0, .inr (.inr l0)), (1, .inr (.inr l1))] [] := by
  unfold zf_X0_vesselTakes at h
  refine zV_b (pc' := 1) (lv' := [(0, .inr (.inr l0)), (1, .inr (.inr l1))]) (st' := [.inr (.inr l0)]) [(.aload_n 0, 1)] (by decide +kernel) rfl ?_
  refine zV_gi (by decide +kernel) zfl_RX0_50 (by decide) rfl (Or.inl rfl) h (fun v1 _ h => ?_)
  by_cases e2_0 : v1 = 3
  · have h := (zite h).1 e2_0
    refine zV_top e2_0 (zV_lsw (tgt := 32) zd_X0_vesselTakes_4 (by decide) rfl (by decide) ?_)
    refine zV_b (pc' := 34) (lv' := [(0, .inr (.inr l0)), (1, .inr (.inr l1))]) (st' := [.inr (.inr l1), .inr (.inr l0)]) [(.aload_n 0, 1), (.aload_n 1, 1)] (by decide +kernel) rfl ?_
    refine zV_cvj (As := [.inr (.inr l1)]) (st := []) (c := 1) (by decide +kernel) (zcl_X0_steelTakes (by decide) (by decide)) ⟨zw_792, zw_794, zw_21⟩ ⟨⟨_, _, rfl⟩, by decide⟩ rfl rfl (Nat.le_of_ble_eq_true rfl) h (fun _ _ e => zc_X0_steelTakes e) (fun M6 v6 _ h => ?_)
    exact zend_j h hR (by decide +kernel)
  · have h := (zite h).2 e2_0
    by_cases e2_1 : v1 = 4
    · have h := (zite h).1 e2_1
      refine zV_top e2_1 (zV_lsw (tgt := 38) zd_X0_vesselTakes_4 (by decide) rfl (by decide) ?_)
      refine zV_b (pc' := 40) (lv' := [(0, .inr (.inr l0)), (1, .inr (.inr l1))]) (st' := [.inl (3 : Int32), .inr (.inr l1)]) [(.aload_n 1, 1), (.iconst 3, 1)] (by decide +kernel) rfl ?_
      refine zV_cvv (As := [.inl (3 : Int32)]) (st := []) (c := 10) (by decide +kernel) (zcl_X9_ran (by decide) (by decide)) ⟨zw_796, zw_797, zw_798⟩ ⟨⟨_, _, rfl⟩, by decide⟩ rfl rfl (Nat.le_of_ble_eq_true rfl) h (fun _ _ e => zc_X9_ran e) (fun M8 _ _ h => ?_)
      refine zV_b (pc' := 45) (lv' := [(0, .inr (.inr l0)), (1, .inr (.inr l1))]) (st' := [.inr (.inr l1), .inr (.inr l0)]) [(.aload_n 0, 1), (.aload_n 1, 1)] (by decide +kernel) rfl ?_
      refine zV_cvj (As := [.inr (.inr l1)]) (st := []) (c := 1) (by decide +kernel) (zcl_X0_steelTakes (by decide) (by decide)) ⟨zw_792, zw_794, zw_21⟩ ⟨⟨_, _, rfl⟩, by decide⟩ rfl rfl (Nat.le_of_ble_eq_true rfl) h (fun _ _ e => zc_X0_steelTakes e) (fun M9 v9 _ h => ?_)
      refine zV_ldc2 (by decide +kernel) zw_800 ?_
      refine zV_b (pc' := 53) (lv' := [(0, .inr (.inr l0)), (1, .inr (.inr l1))]) (st' := [.inr (.inl (0 : Int64)), .inr (.inl (v9 - (10 : Int64)))]) [(.lsub, 1), (.lconst 0, 1)] (by decide +kernel) rfl ?_
      refine zV_maxl (st := []) (by decide +kernel) zw_801 (by decide) (Nat.le_of_ble_eq_true rfl) ?_
      exact zend_j h hR (by decide +kernel)
    · have h := (zite h).2 e2_1
      refine zV_lsw (off := 53) (tgt := 57) zd_X0_vesselTakes_4 (by decide) ((lv_osw e2_0 (by decide)).trans ((lv_osw e2_1 (by decide)).trans rfl)) (by decide) ?_
      refine zV_b (pc' := 59) (lv' := [(0, .inr (.inr l0)), (1, .inr (.inr l1))]) (st' := [.inl (1 : Int32), .inr (.inr l1)]) [(.aload_n 1, 1), (.iconst 1, 1)] (by decide +kernel) rfl ?_
      refine zV_cvv (As := [.inl (1 : Int32)]) (st := []) (c := 10) (by decide +kernel) (zcl_X9_ran (by decide) (by decide)) ⟨zw_796, zw_797, zw_798⟩ ⟨⟨_, _, rfl⟩, by decide⟩ rfl rfl (Nat.le_of_ble_eq_true rfl) h (fun _ _ e => zc_X9_ran e) (fun M3 _ _ h => ?_)
      refine zV_b (pc' := 63) (lv' := [(0, .inr (.inr l0)), (1, .inr (.inr l1))]) (st' := [.inr (.inr l0)]) [(.aload_n 0, 1)] (by decide +kernel) rfl ?_
      refine zV_gi (by decide +kernel) zfl_RX0_53 (by decide) rfl (Or.inl rfl) h (fun v4 _ h => ?_)
      refine zV_b (pc' := 67) (lv' := [(0, .inr (.inr l0)), (1, .inr (.inr l1))]) (st' := [.inr (.inl (v4.toInt64))]) [(.i2l, 1)] (by decide +kernel) rfl ?_
      exact zend_j h hR (by decide +kernel)
theorem zc_X0_vesselTakes {M M' : Zm} {l0 : Option Nat} {l1 : Option Nat} {x : Int64} (h : zf_X0_vesselTakes M l0 l1 = some (M', x)) (l : Launch) (D : va_G) (cy : Nat → ClassId) : zMet l yX0_vesselTakes zC_X0_vesselTakes (some .long) D cy [.inr (.inr l0), .inr (.inr l1)] M M' (some (.inr (.inl x))) :=
  zM_j (by decide) rfl (fun h => by cases h) (Nat.le_of_ble_eq_true rfl) (fun X hR => zt_X0_vesselTakes h hR)
-- BlendCellar$Barrel.takesInAll(LBlendCellar$Trace;)J
def zC_X0_takesInAll : Zc := (cX0_takesInAll, 5, RX0, 3, 63, false)
theorem zcl_X0_takesInAll {C : Zc} (h1 : zC_X0_takesInAll.2.2.2.1 + 1 ≤ C.2.2.2.1) (h2 : 8 + (zC_X0_takesInAll.2.1 + 11) + zC_X0_takesInAll.2.2.2.2.1 ≤ C.2.2.2.2.1) : zCl C yX0_takesInAll zC_X0_takesInAll (some .long) 1 := ⟨zw_787, zw_117, ⟨by decide, by decide⟩, by decide +kernel, h1, h2⟩
noncomputable def zf_X0_takesInAll_L24 (p0 : Option Nat) (p1 : Option Nat) (x : Zm × Int64 × Int32) : Option ((Zm × Int64 × Int32) ⊕ (Zm × Int64 × Int32)) := match x with
  | (M, l2, l4) =>
  zb1 (zo_gi M p0 1 7) (fun v4 =>
  (if v4 ≤ l4 then
  some (.inr (M, l2, l4))
  else
  zb1 (zo_gr M p0 1 6) (fun v6 =>
  zb1 (zo_ar M 16 v6 l4) (fun v7 =>
  zb1 (zo_rc M v7 1) (fun _ => zbd (zf_X0_vesselTakes M v7 p1) (fun M8 v8 =>
  some (.inl (M8, (l2 + v8), (l4 + 1)))))))))
def zP_X0_takesInAll_L24 (X : Zx) (p0 : Option Nat) (p1 : Option Nat) (x : Zm × Int64 × Int32) : Prop := match x with
  | (M, l2, l4) => zV X zC_X0_takesInAll M 24 [(0, .inr (.inr p0)), (1, .inr (.inr p1)), (2, .inr (.inl l2)), (4, .inl l4)] []
def zK_X0_takesInAll_L24 (X : Zx) (p0 : Option Nat) (p1 : Option Nat) (y : Zm × Int64 × Int32) : Prop := match y with
  | (M, l2, l4) => zV X zC_X0_takesInAll M 53 [(2, .inr (.inl l2))] []
noncomputable def zf_X0_takesInAll (M : Zm) (l0 : Option Nat) (l1 : Option Nat) : Option (Zm × Int64) :=
  zb1 (zo_gi M l0 1 1) (fun v1 =>
  (if v1 = (5 : Int32) then
  zb1 (zo_rc M l1 10) (fun _ => zbd (zf_X9_ran M l1 (4 : Int32)) (fun M3 _ =>
  zb1 (zwhile (zf_X0_takesInAll_L24 l0 l1) (M3, (0 : Int64), (0 : Int32))) (fun y10 => match y10 with
  | (M24_10, l2_10, l4_10) =>
  some (M24_10, l2_10))))
  else
  zb1 (zo_rc M l0 1) (fun _ => zbd (zf_X0_vesselTakes M l0 l1) (fun M12 v12 =>
  some (M12, v12)))))
set_option maxRecDepth 100000 in
theorem zt_X0_takesInAll_L24 {X : Zx} {p0 : Option Nat} {p1 : Option Nat} {x : Zm × Int64 × Int32} {y : Zm × Int64 × Int32} (h : zwhile (zf_X0_takesInAll_L24 p0 p1) x = some y) (hy : zK_X0_takesInAll_L24 X p0 p1 y) : zP_X0_takesInAll_L24 X p0 p1 x := by
  refine zwhile_ind (P := zP_X0_takesInAll_L24 X p0 p1) (K := zK_X0_takesInAll_L24 X p0 p1) ?_ h hy
  intro x z hf k1 k2
  obtain ⟨M, l2, l4⟩ := x
  have h : zf_X0_takesInAll_L24 p0 p1 (M, l2, l4) = some z := hf
  unfold zf_X0_takesInAll_L24 at h
  show zV X zC_X0_takesInAll M 24 [(0, .inr (.inr p0)), (1, .inr (.inr p1)), (2, .inr (.inl l2)), (4, .inl l4)] []
  refine zV_b (pc' := 27) (lv' := [(0, .inr (.inr p0)), (1, .inr (.inr p1)), (2, .inr (.inl l2)), (4, .inl l4)]) (st' := [.inr (.inr p0), .inl l4]) [(.iload 4, 2), (.aload_n 0, 1)] (by decide +kernel) rfl ?_
  refine zV_gi (by decide +kernel) zfl_RX0_26 (by decide) rfl (Or.inl rfl) h (fun v4 _ h => ?_)
  refine zV_icmp_ge (off := 23) (tgt := 53) (by decide +kernel) (by decide) h (fun c5 h => ?_) (fun c5 h => ?_)
  · exact zV_lv (lv' := [(2, .inr (.inl l2))]) [2] rfl (k2 _ (Option.some.inj h).symm)
  · refine zV_b (pc' := 35) (lv' := [(0, .inr (.inr p0)), (1, .inr (.inr p1)), (2, .inr (.inl l2)), (4, .inl l4)]) (st' := [.inr (.inr p0), .inr (.inl l2)]) [(.lload_n 2, 1), (.aload_n 0, 1)] (by decide +kernel) rfl ?_
    refine zV_gr (by decide +kernel) zfl_RX0_22 (by decide) rfl h (fun v6 _ h => ?_)
    refine zV_b (pc' := 40) (lv' := [(0, .inr (.inr p0)), (1, .inr (.inr p1)), (2, .inr (.inl l2)), (4, .inl l4)]) (st' := [.inl l4, .inr (.inr v6), .inr (.inl l2)]) [(.iload 4, 2)] (by decide +kernel) rfl ?_
    refine zV_ar (by decide +kernel) (by decide) (by decide) h (fun v7 _ h => ?_)
    refine zV_b (pc' := 42) (lv' := [(0, .inr (.inr p0)), (1, .inr (.inr p1)), (2, .inr (.inl l2)), (4, .inl l4)]) (st' := [.inr (.inr p1), .inr (.inr v7), .inr (.inl l2)]) [(.aload_n 1, 1)] (by decide +kernel) rfl ?_
    refine zV_cvj (As := [.inr (.inr p1)]) (st := [.inr (.inl l2)]) (c := 1) (by decide +kernel) (zcl_X0_vesselTakes (by decide) (by decide)) ⟨zw_788, zw_790, zw_20⟩ ⟨⟨_, _, rfl⟩, by decide⟩ rfl rfl (Nat.le_of_ble_eq_true rfl) h (fun _ _ e => zc_X0_vesselTakes e) (fun M8 v8 _ h => ?_)
    refine zV_b (pc' := 50) (lv' := [(4, .inl (l4 + 1)), (2, .inr (.inl (l2 + v8))), (0, .inr (.inr p0)), (1, .inr (.inr p1))]) (st' := []) [(.ladd, 1), (.lstore_n 2, 1), (.iinc 4 1, 3)] (by decide +kernel) rfl ?_
    refine zV_goto (off := (-26)) (tgt := 24) (by decide +kernel) (by decide) ?_
    exact zV_lv (lv' := [(0, .inr (.inr p0)), (1, .inr (.inr p1)), (2, .inr (.inl (l2 + v8))), (4, .inl (l4 + 1))]) [2, 3, 1, 0] rfl (k1 _ (Option.some.inj h).symm)
set_option maxRecDepth 100000 in
theorem zt_X0_takesInAll {X : Zx} {M : Zm} {l0 : Option Nat} {l1 : Option Nat} {z : Zm × Int64} (h : zf_X0_takesInAll M l0 l1 = some z) (hR : zRj X zC_X0_takesInAll z.1 z.2) : zV X zC_X0_takesInAll M 0 [(0, .inr (.inr l0)), (1, .inr (.inr l1))] [] := by
  unfold zf_X0_takesInAll at h
  refine zV_b (pc' := 1) (lv' := [(0, .inr (.inr l0)), (1, .inr (.inr l1))]) (st' := [.inr (.inr l0)]) [(.aload_n 0, 1)] (by decide +kernel) rfl ?_
  refine zV_gi (by decide +kernel) zfl_RX0_50 (by decide) rfl (Or.inl rfl) h (fun v1 _ h => ?_)
  refine zV_b (pc' := 5) (lv' := [(0, .inr (.inr l0)), (1, .inr (.inr l1))]) (st' := [.inl (5 : Int32), .inl v1]) [(.iconst 5, 1)] (by decide +kernel) rfl ?_
  refine zV_icmp_eq (off := 9) (tgt := 14) (by decide +kernel) (by decide) h (fun c2 h => ?_) (fun c2 h => ?_)
  · refine zV_b (pc' := 16) (lv' := [(0, .inr (.inr l0)), (1, .inr (.inr l1))]) (st' := [.inl (4 : Int32), .inr (.inr l1)]) [(.aload_n 1, 1), (.iconst 4, 1)] (by decide +kernel) rfl ?_
    refine zV_cvv (As := [.inl (4 : Int32)]) (st := []) (c := 10) (by decide +kernel) (zcl_X9_ran (by decide) (by decide)) ⟨zw_796, zw_797, zw_798⟩ ⟨⟨_, _, rfl⟩, by decide⟩ rfl rfl (Nat.le_of_ble_eq_true rfl) h (fun _ _ e => zc_X9_ran e) (fun M3 _ _ h => ?_)
    refine zV_b (pc' := 24) (lv' := [(4, .inl (0 : Int32)), (2, .inr (.inl (0 : Int64))), (0, .inr (.inr l0)), (1, .inr (.inr l1))]) (st' := []) [(.lconst 0, 1), (.lstore_n 2, 1), (.iconst 0, 1), (.istore 4, 2)] (by decide +kernel) rfl ?_
    obtain ⟨y10, e10, h⟩ := zb1_inv h
    refine zV_lv (lv' := [(0, .inr (.inr l0)), (1, .inr (.inr l1)), (2, .inr (.inl (0 : Int64))), (4, .inl (0 : Int32))]) [2, 3, 1, 0] rfl (zt_X0_takesInAll_L24 e10 ?_)
    obtain ⟨M24_10, l2_10, l4_10⟩ := y10
    show zV X zC_X0_takesInAll M24_10 53 [(2, .inr (.inl l2_10))] []
    refine zV_b (pc' := 54) (lv' := [(2, .inr (.inl l2_10))]) (st' := [.inr (.inl l2_10)]) [(.lload_n 2, 1)] (by decide +kernel) rfl ?_
    exact zend_j h hR (by decide +kernel)
  · refine zV_b (pc' := 10) (lv' := [(0, .inr (.inr l0)), (1, .inr (.inr l1))]) (st' := [.inr (.inr l1), .inr (.inr l0)]) [(.aload_n 0, 1), (.aload_n 1, 1)] (by decide +kernel) rfl ?_
    refine zV_cvj (As := [.inr (.inr l1)]) (st := []) (c := 1) (by decide +kernel) (zcl_X0_vesselTakes (by decide) (by decide)) ⟨zw_788, zw_790, zw_20⟩ ⟨⟨_, _, rfl⟩, by decide⟩ rfl rfl (Nat.le_of_ble_eq_true rfl) h (fun _ _ e => zc_X0_vesselTakes e) (fun M12 v12 _ h => ?_)
    exact zend_j h hR (by decide +kernel)
theorem zc_X0_takesInAll {M M' : Zm} {l0 : Option Nat} {l1 : Option Nat} {x : Int64} (h : zf_X0_takesInAll M l0 l1 = some (M', x)) (l : Launch) (D : va_G) (cy : Nat → ClassId) : zMet l yX0_takesInAll zC_X0_takesInAll (some .long) D cy [.inr (.inr l0), .inr (.inr l1)] M M' (some (.inr (.inl x))) :=
  zM_j (by decide) rfl (fun h => by cases h) (Nat.le_of_ble_eq_true rfl) (fun X hR => zt_X0_takesInAll h hR)
