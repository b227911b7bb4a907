/-! What the bytecode does, as functions of the memory, and the walks (written by wip/gen.py). -/
-- BlendCellar$Wine.<init>()V
def zC_X10_init : Zc := (cX10_init, 1, RX10, 1, 12, true)
theorem zcl_X10_init {C : Zc} (h1 : zC_X10_init.2.2.2.1 + 1 ≤ C.2.2.2.1) (h2 : 8 + (zC_X10_init.2.1 + 11) + zC_X10_init.2.2.2.2.1 ≤ C.2.2.2.2.1) : zCl C yX10_init zC_X10_init none 0 := ⟨zw_250, zw_109, ⟨by decide, by decide⟩, by decide +kernel, h1, h2⟩
noncomputable def zf_X10_init (M : Zm) (l0 : Option Nat) : Option (Zm × Unit) :=
  zb1 (zo_rc M l0 11) (fun _ =>
  zb1 (zo_na M 14 (4 : Int32)) (fun M2 =>
  zb1 (zo_pr M2 l0 11 0 (zm_nx M)) (fun M3 =>
  zb1 (zo_na M3 15 (4 : Int32)) (fun M4 =>
  zb1 (zo_pr M4 l0 11 1 (zm_nx M3)) (fun M5 =>
  zb1 (zo_pi M5 l0 11 2 (0 : Int32)) (fun M6 =>
  zb1 (zo_pj M6 l0 11 3 (0 : Int64)) (fun M7 =>
  some (M7, ()))))))))
set_option maxRecDepth 100000 in
theorem zt_X10_init {X : Zx} {M : Zm} {l0 : Option Nat} {z : Zm × Unit} (h : zf_X10_init M l0 = some z) (hR : zRv X zC_X10_init z.1) : zV X zC_X10_init M 0 [(0, .inr (.inr l0))] [] := by
  unfold zf_X10_init at h
  refine zV_b (pc' := 1) (lv' := [(0, .inr (.inr l0))]) (st' := [.inr (.inr l0)]) [(.aload_n 0, 1)] (by decide +kernel) rfl ?_
  refine zV_oo (by decide +kernel) zw_251 (by decide) (by decide) h (fun _ _ h => ?_)
  refine zV_b (pc' := 6) (lv' := [(0, .inr (.inr l0))]) (st' := [.inl (4 : Int32), .inr (.inr l0)]) [(.aload_n 0, 1), (.iconst 4, 1)] (by decide +kernel) rfl ?_
  refine zV_na (by decide +kernel) (Or.inl ⟨rfl, rfl⟩) h (fun M2 _ h => ?_)
  refine zV_pr (by decide +kernel) zfp_RX10_7_i (Or.inr ⟨_, rfl⟩) (by decide) rfl h (fun M3 _ h => ?_)
  refine zV_b (pc' := 13) (lv' := [(0, .inr (.inr l0))]) (st' := [.inl (4 : Int32), .inr (.inr l0)]) [(.aload_n 0, 1), (.iconst 4, 1)] (by decide +kernel) rfl ?_
  refine zV_na (by decide +kernel) (Or.inr ⟨rfl, rfl⟩) h (fun M4 _ h => ?_)
  refine zV_pr (by decide +kernel) zfp_RX10_13_i (Or.inr ⟨_, rfl⟩) (by decide) rfl h (fun M5 _ h => ?_)
  refine zV_b (pc' := 20) (lv' := [(0, .inr (.inr l0))]) (st' := [.inl (0 : Int32), .inr (.inr l0)]) [(.aload_n 0, 1), (.iconst 0, 1)] (by decide +kernel) rfl ?_
  refine zV_pi (by decide +kernel) zfp_RX10_17_i (by decide) rfl h (fun M6 _ h => ?_)
  refine zV_b (pc' := 25) (lv' := [(0, .inr (.inr l0))]) (st' := [.inr (.inl (0 : Int64)), .inr (.inr l0)]) [(.aload_n 0, 1), (.lconst 0, 1)] (by decide +kernel) rfl ?_
  refine zV_pj (by decide +kernel) zfp_RX10_21_i (by decide) rfl h (fun M7 _ h => ?_)
  exact zend_v h hR (by decide +kernel)
theorem zc_X10_init {M M' : Zm} {l0 : Option Nat} {x : Unit} (h : zf_X10_init M l0 = some (M', x)) (l : Launch) (D : va_G) (cy : Nat → ClassId) : zMet l yX10_init zC_X10_init none D cy [.inr (.inr l0)] M M' none :=
  zM_v (by decide) rfl (fun _ => rfl) (Nat.le_of_ble_eq_true rfl) (fun X hR => zt_X10_init h hR)
-- BlendCellar$Wine.indexOf(I)I
def zC_X10_indexOf : Zc := (cX10_indexOf, 5, RX10, 0, 0, false)
theorem zcl_X10_indexOf {C : Zc} (h1 : zC_X10_indexOf.2.2.2.1 + 1 ≤ C.2.2.2.1) (h2 : 8 + (zC_X10_indexOf.2.1 + 11) + zC_X10_indexOf.2.2.2.2.1 ≤ C.2.2.2.2.1) : zCl C yX10_indexOf zC_X10_indexOf (some .int) 1 := ⟨zw_812, zw_109, ⟨by decide, by decide⟩, by decide +kernel, h1, h2⟩
noncomputable def zf_X10_indexOf_J41 (M : Zm) (p0 : Option Nat) (p1 : Int32) (l2 : Int32) (l3 : Int32) : Option ((Zm × Int32 × Int32) ⊕ (Zm × Int32 × Int32)) :=
  some (.inl (M, l2, l3))
noncomputable def zf_X10_indexOf_L7 (p0 : Option Nat) (p1 : Int32) (x : Zm × Int32 × Int32) : Option ((Zm × Int32 × Int32) ⊕ (Zm × Int32 × Int32)) := match x with
  | (M, l2, l3) =>
  (if l3 ≤ l2 then
  some (.inr (M, l2, l3))
  else
  zb1 (zo_id (l2 + l3) (2 : Int32)) (fun v3 =>
  zb1 (zo_gr M p0 11 0) (fun v4 =>
  zb1 (zo_ai M v4 v3) (fun v5 =>
  (if p1 ≤ v5 then
  zf_X10_indexOf_J41 M p0 p1 l2 v3
  else
  zf_X10_indexOf_J41 M p0 p1 (v3 + (1 : Int32)) l3)))))
def zP_X10_indexOf_L7 (X : Zx) (p0 : Option Nat) (p1 : Int32) (x : Zm × Int32 × Int32) : Prop := match x with
  | (M, l2, l3) => zV X zC_X10_indexOf M 7 [(0, .inr (.inr p0)), (1, .inl p1), (2, .inl l2), (3, .inl l3)] []
def zK_X10_indexOf_L7 (X : Zx) (p0 : Option Nat) (p1 : Int32) (y : Zm × Int32 × Int32) : Prop := match y with
  | (M, l2, l3) => zV X zC_X10_indexOf M 44 [(2, .inl l2)] []
noncomputable def zf_X10_indexOf (M : Zm) (l0 : Option Nat) (l1 : Int32) : Option (Zm × Int32) :=
  zb1 (zo_gi M l0 11 2) (fun v1 =>
  zb1 (zwhile (zf_X10_indexOf_L7 l0 l1) (M, (0 : Int32), v1)) (fun y9 => match y9 with
  | (M7_9, l2_9, l3_9) =>
  some (M7_9, l2_9)))
set_option maxRecDepth 100000 in
theorem zt_X10_indexOf_J41 {X : Zx} {M : Zm} {p0 : Option Nat} {p1 : Int32} {l2 : Int32} {l3 : Int32} {z : (Zm × Int32 × Int32) ⊕ (Zm × Int32 × Int32)} (h : zf_X10_indexOf_J41 M p0 p1 l2 l3 = some z) (k1 : ∀ x' : Zm × Int32 × Int32, z = .inl x' → zP_X10_indexOf_L7 X p0 p1 x') (k2 : ∀ y : Zm × Int32 × Int32, z = .inr y → zK_X10_indexOf_L7 X p0 p1 y) : zV X zC_X10_indexOf M 41 [(0, .inr (.inr p0)), (1, .inl p1), (2, .inl l2), (3, .inl l3)] [] := by
  unfold zf_X10_indexOf_J41 at h
  refine zV_goto (off := (-34)) (tgt := 7) (by decide +kernel) (by decide) ?_
  exact zV_lv (lv' := [(0, .inr (.inr p0)), (1, .inl p1), (2, .inl l2), (3, .inl l3)]) [0, 1, 2, 3] rfl (k1 _ (Option.some.inj h).symm)
set_option maxRecDepth 100000 in
theorem zt_X10_indexOf_L7 {X : Zx} {p0 : Option Nat} {p1 : Int32} {x : Zm × Int32 × Int32} {y : Zm × Int32 × Int32} (h : zwhile (zf_X10_indexOf_L7 p0 p1) x = some y) (hy : zK_X10_indexOf_L7 X p0 p1 y) : zP_X10_indexOf_L7 X p0 p1 x := by
  refine zwhile_ind (P := zP_X10_indexOf_L7 X p0 p1) (K := zK_X10_indexOf_L7 X p0 p1) ?_ h hy
  intro x z hf k1 k2
  obtain ⟨M, l2, l3⟩ := x
  have h : zf_X10_indexOf_L7 p0 p1 (M, l2, l3) = some z := hf
  unfold zf_X10_indexOf_L7 at h
  show zV X zC_X10_indexOf M 7 [(0, .inr (.inr p0)), (1, .inl p1), (2, .inl l2), (3, .inl l3)] []
  refine zV_b (pc' := 9) (lv' := [(0, .inr (.inr p0)), (1, .inl p1), (2, .inl l2), (3, .inl l3)]) (st' := [.inl l3, .inl l2]) [(.iload_n 2, 1), (.iload_n 3, 1)] (by decide +kernel) rfl ?_
  refine zV_icmp_ge (off := 35) (tgt := 44) (by decide +kernel) (by decide) h (fun c2 h => ?_) (fun c2 h => ?_)
  · exact zV_lv (lv' := [(2, .inl l2)]) [2] rfl (k2 _ (Option.some.inj h).symm)
  · refine zV_b (pc' := 16) (lv' := [(0, .inr (.inr p0)), (1, .inl p1), (2, .inl l2), (3, .inl l3)]) (st' := [.inl (2 : Int32), .inl (l2 + l3)]) [(.iload_n 2, 1), (.iload_n 3, 1), (.iadd, 1), (.iconst 2, 1)] (by decide +kernel) rfl ?_
    refine zV_id (by decide +kernel) h (fun v3 _ h => ?_)
    refine zV_b (pc' := 20) (lv' := [(4, .inl v3), (0, .inr (.inr p0)), (1, .inl p1), (2, .inl l2), (3, .inl l3)]) (st' := [.inr (.inr p0)]) [(.istore 4, 2), (.aload_n 0, 1)] (by decide +kernel) rfl ?_
    refine zV_gr (by decide +kernel) zfl_RX10_7 (by decide) rfl h (fun v4 _ h => ?_)
    refine zV_b (pc' := 25) (lv' := [(4, .inl v3), (0, .inr (.inr p0)), (1, .inl p1), (2, .inl l2), (3, .inl l3)]) (st' := [.inl v3, .inr (.inr v4)]) [(.iload 4, 2)] (by decide +kernel) rfl ?_
    refine zV_ai (by decide +kernel) h (fun v5 _ h => ?_)
    refine zV_b (pc' := 27) (lv' := [(4, .inl v3), (0, .inr (.inr p0)), (1, .inl p1), (2, .inl l2), (3, .inl l3)]) (st' := [.inl p1, .inl v5]) [(.iload_n 1, 1)] (by decide +kernel) rfl ?_
    refine zV_icmp_ge (off := 11) (tgt := 38) (by decide +kernel) (by decide) h (fun c6 h => ?_) (fun c6 h => ?_)
    · refine zV_b (pc' := 41) (lv' := [(3, .inl v3), (4, .inl v3), (0, .inr (.inr p0)), (1, .inl p1), (2, .inl l2)]) (st' := []) [(.iload 4, 2), (.istore_n 3, 1)] (by decide +kernel) rfl ?_
      exact zV_lv (lv' := [(0, .inr (.inr p0)), (1, .inl p1), (2, .inl l2), (3, .inl v3)]) [2, 3, 4, 0] rfl (zt_X10_indexOf_J41 h k1 k2)
    · refine zV_b (pc' := 35) (lv' := [(2, .inl (v3 + (1 : Int32))), (4, .inl v3), (0, .inr (.inr p0)), (1, .inl p1), (3, .inl l3)]) (st' := []) [(.iload 4, 2), (.iconst 1, 1), (.iadd, 1), (.istore_n 2, 1)] (by decide +kernel) rfl ?_
      refine zV_goto (off := 6) (tgt := 41) (by decide +kernel) (by decide) ?_
      exact zV_lv (lv' := [(0, .inr (.inr p0)), (1, .inl p1), (2, .inl (v3 + (1 : Int32))), (3, .inl l3)]) [2, 3, 0, 4] rfl (zt_X10_indexOf_J41 h k1 k2)
set_option maxRecDepth 100000 in
theorem zt_X10_indexOf {X : Zx} {M : Zm} {l0 : Option Nat} {l1 : Int32} {z : Zm × Int32} (h : zf_X10_indexOf M l0 l1 = some z) (hR : zRi X zC_X10_indexOf z.1 z.2) : zV X zC_X10_indexOf M 0 [(0, .inr (.inr l0)), (1, .inl l1)] [] := by
  unfold zf_X10_indexOf at h
  refine zV_b (pc' := 3) (lv' := [(2, .inl (0 : Int32)), (0, .inr (.inr l0)), (1, .inl l1)]) (st' := [.inr (.inr l0)]) [(.iconst 0, 1), (.istore_n 2, 1), (.aload_n 0, 1)] (by decide +kernel) rfl ?_
  refine zV_gi (by decide +kernel) zfl_RX10_17 (by decide) rfl (Or.inl rfl) h (fun v1 _ h => ?_)
  refine zV_b (pc' := 7) (lv' := [(3, .inl v1), (2, .inl (0 : Int32)), (0, .inr (.inr l0)), (1, .inl l1)]) (st' := []) [(.istore_n 3, 1)] (by decide +kernel) rfl ?_
  obtain ⟨y9, e9, h⟩ := zb1_inv h
  refine zV_lv (lv' := [(0, .inr (.inr l0)), (1, .inl l1), (2, .inl (0 : Int32)), (3, .inl v1)]) [2, 3, 1, 0] rfl (zt_X10_indexOf_L7 e9 ?_)
  obtain ⟨M7_9, l2_9, l3_9⟩ := y9
  show zV X zC_X10_indexOf M7_9 44 [(2, .inl l2_9)] []
  refine zV_b (pc' := 45) (lv' := [(2, .inl l2_9)]) (st' := [.inl l2_9]) [(.iload_n 2, 1)] (by decide +kernel) rfl ?_
  exact zend_i h hR (by decide +kernel)
theorem zc_X10_indexOf {M M' : Zm} {l0 : Option Nat} {l1 : Int32} {x : Int32} (h : zf_X10_indexOf M l0 l1 = some (M', x)) (l : Launch) (D : va_G) (cy : Nat → ClassId) : zMet l yX10_indexOf zC_X10_indexOf (some .int) D cy [.inr (.inr l0), .inl l1] M M' (some (.inl x)) :=
  zM_i (by decide) rfl (fun h => by cases h) (Nat.le_of_ble_eq_true rfl) (fun X hR => zt_X10_indexOf h hR)
-- BlendCellar$Wine.isAt(II)Z
def zC_X10_isAt : Zc := (cX10_isAt, 3, RX10, 0, 0, false)
theorem zcl_X10_isAt {C : Zc} (h1 : zC_X10_isAt.2.2.2.1 + 1 ≤ C.2.2.2.1) (h2 : 8 + (zC_X10_isAt.2.1 + 11) + zC_X10_isAt.2.2.2.2.1 ≤ C.2.2.2.2.1) : zCl C yX10_isAt zC_X10_isAt (some .boolean) 2 := ⟨zw_816, zw_109, ⟨by decide, by decide⟩, by decide +kernel, h1, h2⟩
noncomputable def zf_X10_isAt (M : Zm) (l0 : Option Nat) (l1 : Int32) (l2 : Int32) : Option (Zm × Int32) :=
  zb1 (zo_gi M l0 11 2) (fun v1 =>
  (if v1 ≤ l1 then
  zb1 (zo_b (0 : Int32)) (fun w => some (M, w))
  else
  zb1 (zo_gr M l0 11 0) (fun v4 =>
  zb1 (zo_ai M v4 l1) (fun v5 =>
  (if v5 = l2 then
  zb1 (zo_b (1 : Int32)) (fun w => some (M, w))
  else
  zb1 (zo_b (0 : Int32)) (fun w => some (M, w)))))))
set_option maxRecDepth 100000 in
theorem zt_X10_isAt {X : Zx} {M : Zm} {l0 : Option Nat} {l1 : Int32} {l2 : Int32} {z : Zm × Int32} (h : zf_X10_isAt M l0 l1 l2 = some z) (hR : zRz X zC_X10_isAt z.1 z.2) : zV X zC_X10_isAt M 0 [(0, .inr (.inr l0)), (1, .inl l1), (2, .inl l2)] [] := by
  unfold zf_X10_isAt at h
  refine zV_b (pc' := 2) (lv' := [(0, .inr (.inr l0)), (1, .inl l1), (2, .inl l2)]) (st' := [.inr (.inr l0), .inl l1]) [(.iload_n 1, 1), (.aload_n 0, 1)] (by decide +kernel) rfl ?_
  refine zV_gi (by decide +kernel) zfl_RX10_17 (by decide) rfl (Or.inl rfl) h (fun v1 _ h => ?_)
  refine zV_icmp_ge (off := 17) (tgt := 22) (by decide +kernel) (by decide) h (fun c2 h => ?_) (fun c2 h => ?_)
  · refine zV_b (pc' := 23) (lv' := [(0, .inr (.inr l0)), (1, .inl l1), (2, .inl l2)]) (st' := [.inl (0 : Int32)]) [(.iconst 0, 1)] (by decide +kernel) rfl ?_
    exact zend_z h hR (by decide +kernel)
  · refine zV_b (pc' := 9) (lv' := [(0, .inr (.inr l0)), (1, .inl l1), (2, .inl l2)]) (st' := [.inr (.inr l0)]) [(.aload_n 0, 1)] (by decide +kernel) rfl ?_
    refine zV_gr (by decide +kernel) zfl_RX10_7 (by decide) rfl h (fun v4 _ h => ?_)
    refine zV_b (pc' := 13) (lv' := [(0, .inr (.inr l0)), (1, .inl l1), (2, .inl l2)]) (st' := [.inl l1, .inr (.inr v4)]) [(.iload_n 1, 1)] (by decide +kernel) rfl ?_
    refine zV_ai (by decide +kernel) h (fun v5 _ h => ?_)
    refine zV_b (pc' := 15) (lv' := [(0, .inr (.inr l0)), (1, .inl l1), (2, .inl l2)]) (st' := [.inl l2, .inl v5]) [(.iload_n 2, 1)] (by decide +kernel) rfl ?_
    refine zV_icmp_ne (off := 7) (tgt := 22) (by decide +kernel) (by decide) h (fun c6 h => ?_) (fun c6 h => ?_)
    · refine zV_b (pc' := 19) (lv' := [(0, .inr (.inr l0)), (1, .inl l1), (2, .inl l2)]) (st' := [.inl (1 : Int32)]) [(.iconst 1, 1)] (by decide +kernel) rfl ?_
      refine zV_goto (off := 4) (tgt := 23) (by decide +kernel) (by decide) ?_
      exact zend_z h hR (by decide +kernel)
    · refine zV_b (pc' := 23) (lv' := [(0, .inr (.inr l0)), (1, .inl l1), (2, .inl l2)]) (st' := [.inl (0 : Int32)]) [(.iconst 0, 1)] (by decide +kernel) rfl ?_
      exact zend_z h hR (by decide +kernel)
theorem zc_X10_isAt {M M' : Zm} {l0 : Option Nat} {l1 : Int32} {l2 : Int32} {x : Int32} (h : zf_X10_isAt M l0 l1 l2 = some (M', x)) (l : Launch) (D : va_G) (cy : Nat → ClassId) : zMet l yX10_isAt zC_X10_isAt (some .boolean) D cy [.inr (.inr l0), .inl l1, .inl l2] M M' (some (.inl x)) :=
  zM_b (by decide) rfl (fun h => by cases h) (Nat.le_of_ble_eq_true rfl) (fun X hR => zt_X10_isAt h hR)
-- BlendCellar$Wine.amountOf(I)J
def zC_X10_amountOf : Zc := (cX10_amountOf, 3, RX10, 1, 24, false)
theorem zcl_X10_amountOf {C : Zc} (h1 : zC_X10_amountOf.2.2.2.1 + 1 ≤ C.2.2.2.1) (h2 : 8 + (zC_X10_amountOf.2.1 + 11) + zC_X10_amountOf.2.2.2.2.1 ≤ C.2.2.2.2.1) : zCl C yX10_amountOf zC_X10_amountOf (some .long) 1 := ⟨zw_808, zw_109, ⟨by decide, by decide⟩, by decide +kernel, h1, h2⟩
noncomputable def zf_X10_amountOf (M : Zm) (l0 : Option Nat) (l1 : Int32) : Option (Zm × Int64) :=
  zb1 (zo_rc M l0 11) (fun _ => zbd (zf_X10_indexOf M l0 l1) (fun M1 v1 =>
  zb1 (zo_rc M1 l0 11) (fun _ => zbd (zf_X10_isAt M1 l0 v1 l1) (fun M2 v2 =>
  (if v2 = 0 then
  some (M2, (0 : Int64))
  else
  zb1 (zo_gr M2 l0 11 1) (fun v5 =>
  zb1 (zo_aj M2 v5 v1) (fun v6 =>
  some (M2, v6))))))))
set_option maxRecDepth 100000 in
theorem zt_X10_amountOf {X : Zx} {M : Zm} {l0 : Option Nat} {l1 : Int32} {z : Zm × Int64} (h : zf_X10_amountOf M l0 l1 = some z) (hR : zRj X zC_X10_amountOf z.1 z.2) : zV X zC_X10_amountOf M 0 [(0, .inr (.inr l0)), (1, .inl l1)] [] := by
  unfold zf_X10_amountOf at h
  refine zV_b (pc' := 2) (lv' := [(0, .inr (.inr l0)), (1, .inl l1)]) (st' := [.inl l1, .inr (.inr l0)]) [(.aload_n 0, 1), (.iload_n 1, 1)] (by decide +kernel) rfl ?_
  refine zV_cvi (As := [.inl l1]) (st := []) (c := 11) (by decide +kernel) (zcl_X10_indexOf (by decide) (by decide)) ⟨zw_809, zw_811, zw_22⟩ ⟨⟨_, _, rfl⟩, by decide⟩ rfl rfl (Nat.le_of_ble_eq_true rfl) h (fun _ _ e => zc_X10_indexOf e) (fun M1 v1 _ h => ?_)
  refine zV_b (pc' := 9) (lv' := [(2, .inl v1), (0, .inr (.inr l0)), (1, .inl l1)]) (st' := [.inl l1, .inl v1, .inr (.inr l0)]) [(.istore_n 2, 1), (.aload_n 0, 1), (.iload_n 2, 1), (.iload_n 1, 1)] (by decide +kernel) rfl ?_
  refine zV_cvi (As := [.inl v1, .inl l1]) (st := []) (c := 11) (by decide +kernel) (zcl_X10_isAt (by decide) (by decide)) ⟨zw_813, zw_815, zw_23⟩ ⟨⟨_, _, rfl⟩, by decide⟩ rfl rfl (Nat.le_of_ble_eq_true rfl) h (fun _ _ e => zc_X10_isAt e) (fun M2 v2 _ h => ?_)
  refine zV_if_eq (off := 12) (tgt := 24) (by decide +kernel) (by decide) h (fun c3 h => ?_) (fun c3 h => ?_)
  · refine zV_b (pc' := 25) (lv' := [(2, .inl v1), (0, .inr (.inr l0)), (1, .inl l1)]) (st' := [.inr (.inl (0 : Int64))]) [(.lconst 0, 1)] (by decide +kernel) rfl ?_
    exact zend_j h hR (by decide +kernel)
  · refine zV_b (pc' := 16) (lv' := [(2, .inl v1), (0, .inr (.inr l0)), (1, .inl l1)]) (st' := [.inr (.inr l0)]) [(.aload_n 0, 1)] (by decide +kernel) rfl ?_
    refine zV_gr (by decide +kernel) zfl_RX10_13 (by decide) rfl h (fun v5 _ h => ?_)
    refine zV_b (pc' := 20) (lv' := [(2, .inl v1), (0, .inr (.inr l0)), (1, .inl l1)]) (st' := [.inl v1, .inr (.inr v5)]) [(.iload_n 2, 1)] (by decide +kernel) rfl ?_
    refine zV_aj (by decide +kernel) h (fun v6 _ h => ?_)
    refine zV_goto (off := 4) (tgt := 25) (by decide +kernel) (by decide) ?_
    exact zend_j h hR (by decide +kernel)
theorem zc_X10_amountOf {M M' : Zm} {l0 : Option Nat} {l1 : Int32} {x : Int64} (h : zf_X10_amountOf M l0 l1 = some (M', x)) (l : Launch) (D : va_G) (cy : Nat → ClassId) : zMet l yX10_amountOf zC_X10_amountOf (some .long) D cy [.inr (.inr l0), .inl l1] M M' (some (.inr (.inl x))) :=
  zM_j (by decide) rfl (fun h => by cases h) (Nat.le_of_ble_eq_true rfl) (fun X hR => zt_X10_amountOf h hR)
-- BlendCellar$Wine.copyFrom(LBlendCellar$Wine;)V
def zC_X10_copyFrom : Zc := (cX10_copyFrom, 2, RX10, 1, 26, false)
theorem zcl_X10_copyFrom {C : Zc} (h1 : zC_X10_copyFrom.2.2.2.1 + 1 ≤ C.2.2.2.1) (h2 : 8 + (zC_X10_copyFrom.2.1 + 11) + zC_X10_copyFrom.2.2.2.2.1 ≤ C.2.2.2.2.1) : zCl C yX10_copyFrom zC_X10_copyFrom none 1 := ⟨zw_707, zw_109, ⟨by decide, by decide⟩, by decide +kernel, h1, h2⟩
noncomputable def zf_X10_copyFrom_J34 (M : Zm) (l0 : Option Nat) (l1 : Option Nat) : Option (Zm × Unit) :=
  zb1 (zo_gr M l1 11 0) (fun v5 =>
  zb1 (zo_gr M l0 11 0) (fun v6 =>
  zb1 (zo_gi M l1 11 2) (fun v7 =>
  zb1 (zo_ci M v5 (0 : Int32) v6 (0 : Int32) v7) (fun M8 =>
  zb1 (zo_gr M8 l1 11 1) (fun v9 =>
  zb1 (zo_gr M8 l0 11 1) (fun v10 =>
  zb1 (zo_gi M8 l1 11 2) (fun v11 =>
  zb1 (zo_cj M8 v9 (0 : Int32) v10 (0 : Int32) v11) (fun M12 =>
  zb1 (zo_gi M12 l1 11 2) (fun v13 =>
  zb1 (zo_pi M12 l0 11 2 v13) (fun M14 =>
  zb1 (zo_gj M14 l1 11 3) (fun v15 =>
  zb1 (zo_pj M14 l0 11 3 v15) (fun M16 =>
  some (M16, ())))))))))))))
noncomputable def zf_X10_copyFrom (M : Zm) (l0 : Option Nat) (l1 : Option Nat) : Option (Zm × Unit) :=
  zb1 (zo_gi M l1 11 2) (fun v1 =>
  zb1 (zo_gr M l0 11 0) (fun v2 =>
  zb1 (zo_al M v2) (fun v3 =>
  (if v1 ≤ v3 then
  zf_X10_copyFrom_J34 M l0 l1
  else
  zb1 (zo_gr M l1 11 0) (fun v18 =>
  zb1 (zo_al M v18) (fun v19 =>
  zb1 (zo_na M 14 v19) (fun M20 =>
  zb1 (zo_pr M20 l0 11 0 (zm_nx M)) (fun M21 =>
  zb1 (zo_gr M21 l1 11 1) (fun v22 =>
  zb1 (zo_al M21 v22) (fun v23 =>
  zb1 (zo_na M21 15 v23) (fun M24 =>
  zb1 (zo_pr M24 l0 11 1 (zm_nx M21)) (fun M25 =>
  zf_X10_copyFrom_J34 M25 l0 l1))))))))))))
set_option maxRecDepth 100000 in
theorem zt_X10_copyFrom_J34 {X : Zx} {M : Zm} {l0 : Option Nat} {l1 : Option Nat} {z : Zm × Unit} (h : zf_X10_copyFrom_J34 M l0 l1 = some z) (hR : zRv X zC_X10_copyFrom z.1) : zV X zC_X10_copyFrom M 34 [(0, .inr (.inr l0)), (1, .inr (.inr l1))] [] := by
  unfold zf_X10_copyFrom_J34 at h
  refine zV_b (pc' := 35) (lv' := [(0, .inr (.inr l0)), (1, .inr (.inr l1))]) (st' := [.inr (.inr l1)]) [(.aload_n 1, 1)] (by decide +kernel) rfl ?_
  refine zV_gr (by decide +kernel) zfl_RX10_7 (by decide) rfl h (fun v5 _ h => ?_)
  refine zV_b (pc' := 40) (lv' := [(0, .inr (.inr l0)), (1, .inr (.inr l1))]) (st' := [.inr (.inr l0), .inl (0 : Int32), .inr (.inr v5)]) [(.iconst 0, 1), (.aload_n 0, 1)] (by decide +kernel) rfl ?_
  refine zV_gr (by decide +kernel) zfl_RX10_7 (by decide) rfl h (fun v6 _ h => ?_)
  refine zV_b (pc' := 45) (lv' := [(0, .inr (.inr l0)), (1, .inr (.inr l1))]) (st' := [.inr (.inr l1), .inl (0 : Int32), .inr (.inr v6), .inl (0 : Int32), .inr (.inr v5)]) [(.iconst 0, 1), (.aload_n 1, 1)] (by decide +kernel) rfl ?_
  refine zV_gi (by decide +kernel) zfl_RX10_17 (by decide) rfl (Or.inl rfl) h (fun v7 _ h => ?_)
  refine zV_ci (by decide +kernel) zw_708 (by decide) (Nat.le_of_ble_eq_true rfl) h (fun M8 _ h => ?_)
  refine zV_b (pc' := 52) (lv' := [(0, .inr (.inr l0)), (1, .inr (.inr l1))]) (st' := [.inr (.inr l1)]) [(.aload_n 1, 1)] (by decide +kernel) rfl ?_
  refine zV_gr (by decide +kernel) zfl_RX10_13 (by decide) rfl h (fun v9 _ h => ?_)
  refine zV_b (pc' := 57) (lv' := [(0, .inr (.inr l0)), (1, .inr (.inr l1))]) (st' := [.inr (.inr l0), .inl (0 : Int32), .inr (.inr v9)]) [(.iconst 0, 1), (.aload_n 0, 1)] (by decide +kernel) rfl ?_
  refine zV_gr (by decide +kernel) zfl_RX10_13 (by decide) rfl h (fun v10 _ h => ?_)
  refine zV_b (pc' := 62) (lv' := [(0, .inr (.inr l0)), (1, .inr (.inr l1))]) (st' := [.inr (.inr l1), .inl (0 : Int32), .inr (.inr v10), .inl (0 : Int32), .inr (.inr v9)]) [(.iconst 0, 1), (.aload_n 1, 1)] (by decide +kernel) rfl ?_
  refine zV_gi (by decide +kernel) zfl_RX10_17 (by decide) rfl (Or.inl rfl) h (fun v11 _ h => ?_)
  refine zV_cj (by decide +kernel) zw_708 (by decide) (Nat.le_of_ble_eq_true rfl) h (fun M12 _ h => ?_)
  refine zV_b (pc' := 70) (lv' := [(0, .inr (.inr l0)), (1, .inr (.inr l1))]) (st' := [.inr (.inr l1), .inr (.inr l0)]) [(.aload_n 0, 1), (.aload_n 1, 1)] (by decide +kernel) rfl ?_
  refine zV_gi (by decide +kernel) zfl_RX10_17 (by decide) rfl (Or.inl rfl) h (fun v13 _ h => ?_)
  refine zV_pi (by decide +kernel) zfp_RX10_17 (by decide) rfl h (fun M14 _ h => ?_)
  refine zV_b (pc' := 78) (lv' := [(0, .inr (.inr l0)), (1, .inr (.inr l1))]) (st' := [.inr (.inr l1), .inr (.inr l0)]) [(.aload_n 0, 1), (.aload_n 1, 1)] (by decide +kernel) rfl ?_
  refine zV_gj (by decide +kernel) zfl_RX10_21 (by decide) rfl h (fun v15 _ h => ?_)
  refine zV_pj (by decide +kernel) zfp_RX10_21 (by decide) rfl h (fun M16 _ h => ?_)
  exact zend_v h hR (by decide +kernel)
set_option maxRecDepth 100000 in
theorem zt_X10_copyFrom {X : Zx} {M : Zm} {l0 : Option Nat} {l1 : Option Nat} {z : Zm × Unit} (h : zf_X10_copyFrom M l0 l1 = some z) (hR : zRv X zC_X10_copyFrom z.1) : zV X zC_X10_copyFrom M 0 [(0, .inr (.inr l0)), (1, .inr (.inr l1))] [] := by
  unfold zf_X10_copyFrom at h
  refine zV_b (pc' := 1) (lv' := [(0, .inr (.inr l0)), (1, .inr (.inr l1))]) (st' := [.inr (.inr l1)]) [(.aload_n 1, 1)] (by decide +kernel) rfl ?_
  refine zV_gi (by decide +kernel) zfl_RX10_17 (by decide) rfl (Or.inl rfl) h (fun v1 _ h => ?_)
  refine zV_b (pc' := 5) (lv' := [(0, .inr (.inr l0)), (1, .inr (.inr l1))]) (st' := [.inr (.inr l0), .inl v1]) [(.aload_n 0, 1)] (by decide +kernel) rfl ?_
  refine zV_gr (by decide +kernel) zfl_RX10_7 (by decide) rfl h (fun v2 _ h => ?_)
  refine zV_al (by decide +kernel) h (fun v3 _ h => ?_)
  refine zV_icmp_le (off := 25) (tgt := 34) (by decide +kernel) (by decide) h (fun c4 h => ?_) (fun c4 h => ?_)
  · exact zV_lv (lv' := [(0, .inr (.inr l0)), (1, .inr (.inr l1))]) [0, 1] rfl (zt_X10_copyFrom_J34 h hR)
  · refine zV_b (pc' := 14) (lv' := [(0, .inr (.inr l0)), (1, .inr (.inr l1))]) (st' := [.inr (.inr l1), .inr (.inr l0)]) [(.aload_n 0, 1), (.aload_n 1, 1)] (by decide +kernel) rfl ?_
    refine zV_gr (by decide +kernel) zfl_RX10_7 (by decide) rfl h (fun v18 _ h => ?_)
    refine zV_al (by decide +kernel) h (fun v19 _ h => ?_)
    refine zV_na (by decide +kernel) (Or.inl ⟨rfl, rfl⟩) h (fun M20 _ h => ?_)
    refine zV_pr (by decide +kernel) zfp_RX10_7 (Or.inr ⟨_, rfl⟩) (by decide) rfl h (fun M21 _ h => ?_)
    refine zV_b (pc' := 25) (lv' := [(0, .inr (.inr l0)), (1, .inr (.inr l1))]) (st' := [.inr (.inr l1), .inr (.inr l0)]) [(.aload_n 0, 1), (.aload_n 1, 1)] (by decide +kernel) rfl ?_
    refine zV_gr (by decide +kernel) zfl_RX10_13 (by decide) rfl h (fun v22 _ h => ?_)
    refine zV_al (by decide +kernel) h (fun v23 _ h => ?_)
    refine zV_na (by decide +kernel) (Or.inr ⟨rfl, rfl⟩) h (fun M24 _ h => ?_)
    refine zV_pr (by decide +kernel) zfp_RX10_13 (Or.inr ⟨_, rfl⟩) (by decide) rfl h (fun M25 _ h => ?_)
    exact zV_lv (lv' := [(0, .inr (.inr l0)), (1, .inr (.inr l1))]) [0, 1] rfl (zt_X10_copyFrom_J34 h hR)
theorem zc_X10_copyFrom {M M' : Zm} {l0 : Option Nat} {l1 : Option Nat} {x : Unit} (h : zf_X10_copyFrom M l0 l1 = some (M', x)) (l : Launch) (D : va_G) (cy : Nat → ClassId) : zMet l yX10_copyFrom zC_X10_copyFrom none D cy [.inr (.inr l0), .inr (.inr l1)] M M' none :=
  zM_v (by decide) rfl (fun h => by cases h) (Nat.le_of_ble_eq_true rfl) (fun X hR => zt_X10_copyFrom h hR)
-- BlendCellar$Wine.add(IJ)V
def zC_X10_add : Zc := (cX10_add, 5, RX10, 2, 48, false)
theorem zcl_X10_add {C : Zc} (h1 : zC_X10_add.2.2.2.1 + 1 ≤ C.2.2.2.1) (h2 : 8 + (zC_X10_add.2.1 + 11) + zC_X10_add.2.2.2.2.1 ≤ C.2.2.2.2.1) : zCl C yX10_add zC_X10_add none 2 := ⟨zw_825, zw_109, ⟨by decide, by decide⟩, by decide +kernel, h1, h2⟩
noncomputable def zf_X10_add_J153 (M : Zm) (l0 : Option Nat) (l2 : Int64) : Option (Zm × Unit) :=
  zb1 (zo_gj M l0 11 3) (fun v22 =>
  zb1 (zo_pj M l0 11 3 (v22 + l2)) (fun M23 =>
  some (M23, ())))
noncomputable def zf_X10_add_J79 (M : Zm) (l0 : Option Nat) (l1 : Int32) (l2 : Int64) (l4 : Int32) : Option (Zm × Unit) :=
  zb1 (zo_gr M l0 11 0) (fun v8 =>
  zb1 (zo_gr M l0 11 0) (fun v9 =>
  zb1 (zo_gi M l0 11 2) (fun v10 =>
  zb1 (zo_ci M v8 l4 v9 (l4 + (1 : Int32)) (v10 - l4)) (fun M11 =>
  zb1 (zo_gr M11 l0 11 1) (fun v12 =>
  zb1 (zo_gr M11 l0 11 1) (fun v13 =>
  zb1 (zo_gi M11 l0 11 2) (fun v14 =>
  zb1 (zo_cj M11 v12 l4 v13 (l4 + (1 : Int32)) (v14 - l4)) (fun M15 =>
  zb1 (zo_gr M15 l0 11 0) (fun v16 =>
  zb1 (zo_si M15 v16 l4 l1) (fun M17 =>
  zb1 (zo_gr M17 l0 11 1) (fun v18 =>
  zb1 (zo_sj M17 v18 l4 l2) (fun M19 =>
  zb1 (zo_gi M19 l0 11 2) (fun v20 =>
  zb1 (zo_pi M19 l0 11 2 (v20 + (1 : Int32))) (fun M21 =>
  zf_X10_add_J153 M21 l0 l2))))))))))))))
noncomputable def zf_X10_add (M : Zm) (l0 : Option Nat) (l1 : Int32) (l2 : Int64) : Option (Zm × Unit) :=
  zb1 (zo_rc M l0 11) (fun _ => zbd (zf_X10_indexOf M l0 l1) (fun M1 v1 =>
  zb1 (zo_rc M1 l0 11) (fun _ => zbd (zf_X10_isAt M1 l0 v1 l1) (fun M2 v2 =>
  (if v2 = 0 then
  zb1 (zo_gi M2 l0 11 2) (fun v4 =>
  zb1 (zo_gr M2 l0 11 0) (fun v5 =>
  zb1 (zo_al M2 v5) (fun v6 =>
  (if v4 < v6 then
  zf_X10_add_J79 M2 l0 l1 l2 v1
  else
  zb1 (zo_gr M2 l0 11 0) (fun v25 =>
  zb1 (zo_gr M2 l0 11 0) (fun v26 =>
  zb1 (zo_al M2 v26) (fun v27 =>
  zbd (zf_J7_copyOf_59c91 M2 v25 ((2 : Int32) * v27)) (fun M28 v28 =>
  zb1 (zo_pr M28 l0 11 0 v28) (fun M29 =>
  zb1 (zo_gr M29 l0 11 1) (fun v30 =>
  zb1 (zo_gr M29 l0 11 1) (fun v31 =>
  zb1 (zo_al M29 v31) (fun v32 =>
  zbd (zf_J7_copyOf_c38d5 M29 v30 ((2 : Int32) * v32)) (fun M33 v33 =>
  zb1 (zo_pr M33 l0 11 1 v33) (fun M34 =>
  zf_X10_add_J79 M34 l0 l1 l2 v1))))))))))))))
  else
  zb1 (zo_gr M2 l0 11 1) (fun v35 =>
  zb1 (zo_aj M2 v35 v1) (fun v36 =>
  zb1 (zo_sj M2 v35 v1 (v36 + l2)) (fun M37 =>
  zf_X10_add_J153 M37 l0 l2))))))))
set_option maxRecDepth 100000 in
theorem zt_X10_add_J153 {X : Zx} {M : Zm} {l0 : Option Nat} {l2 : Int64} {z : Zm × Unit} (h : zf_X10_add_J153 M l0 l2 = some z) (hR : zRv X zC_X10_add z.1) : zV X zC_X10_add M 153 [(0, .inr (.inr l0)), (2, .inr (.inl l2))] [] := by
  unfold zf_X10_add_J153 at h
  refine zV_b (pc' := 155) (lv' := [(0, .inr (.inr l0)), (2, .inr (.inl l2))]) (st' := [.inr (.inr l0), .inr (.inr l0)]) [(.aload_n 0, 1), (.dup, 1)] (by decide +kernel) rfl ?_
  refine zV_gj (by decide +kernel) zfl_RX10_21 (by decide) rfl h (fun v22 _ h => ?_)
  refine zV_b (pc' := 160) (lv' := [(0, .inr (.inr l0)), (2, .inr (.inl l2))]) (st' := [.inr (.inl (v22 + l2)), .inr (.inr l0)]) [(.lload_n 2, 1), (.ladd, 1)] (by decide +kernel) rfl ?_
  refine zV_pj (by decide +kernel) zfp_RX10_21 (by decide) rfl h (fun M23 _ h => ?_)
  exact zend_v h hR (by decide +kernel)
set_option maxRecDepth 100000 in
theorem zt_X10_add_J79 {X : Zx} {M : Zm} {l0 : Option Nat} {l1 : Int32} {l2 : Int64} {l4 : Int32} {z : Zm × Unit} (h : zf_X10_add_J79 M l0 l1 l2 l4 = some z) (hR : zRv X zC_X10_add z.1) : zV X zC_X10_add M 79 [(0, .inr (.inr l0)), (1, .inl l1), (2, .inr (.inl l2)), (4, .inl l4)] [] := by
  unfold zf_X10_add_J79 at h
  refine zV_b (pc' := 80) (lv' := [(0, .inr (.inr l0)), (1, .inl l1), (2, .inr (.inl l2)), (4, .inl l4)]) (st' := [.inr (.inr l0)]) [(.aload_n 0, 1)] (by decide +kernel) rfl ?_
  refine zV_gr (by decide +kernel) zfl_RX10_7 (by decide) rfl h (fun v8 _ h => ?_)
  refine zV_b (pc' := 86) (lv' := [(0, .inr (.inr l0)), (1, .inl l1), (2, .inr (.inl l2)), (4, .inl l4)]) (st' := [.inr (.inr l0), .inl l4, .inr (.inr v8)]) [(.iload 4, 2), (.aload_n 0, 1)] (by decide +kernel) rfl ?_
  refine zV_gr (by decide +kernel) zfl_RX10_7 (by decide) rfl h (fun v9 _ h => ?_)
  refine zV_b (pc' := 94) (lv' := [(0, .inr (.inr l0)), (1, .inl l1), (2, .inr (.inl l2)), (4, .inl l4)]) (st' := [.inr (.inr l0), .inl (l4 + (1 : Int32)), .inr (.inr v9), .inl l4, .inr (.inr v8)]) [(.iload 4, 2), (.iconst 1, 1), (.iadd, 1), (.aload_n 0, 1)] (by decide +kernel) rfl ?_
  refine zV_gi (by decide +kernel) zfl_RX10_17 (by decide) rfl (Or.inl rfl) h (fun v10 _ h => ?_)
  refine zV_b (pc' := 100) (lv' := [(0, .inr (.inr l0)), (1, .inl l1), (2, .inr (.inl l2)), (4, .inl l4)]) (st' := [.inl (v10 - l4), .inl (l4 + (1 : Int32)), .inr (.inr v9), .inl l4, .inr (.inr v8)]) [(.iload 4, 2), (.isub, 1)] (by decide +kernel) rfl ?_
  refine zV_ci (by decide +kernel) zw_708 (by decide) (Nat.le_of_ble_eq_true rfl) h (fun M11 _ h => ?_)
  refine zV_b (pc' := 104) (lv' := [(0, .inr (.inr l0)), (1, .inl l1), (2, .inr (.inl l2)), (4, .inl l4)]) (st' := [.inr (.inr l0)]) [(.aload_n 0, 1)] (by decide +kernel) rfl ?_
  refine zV_gr (by decide +kernel) zfl_RX10_13 (by decide) rfl h (fun v12 _ h => ?_)
  refine zV_b (pc' := 110) (lv' := [(0, .inr (.inr l0)), (1, .inl l1), (2, .inr (.inl l2)), (4, .inl l4)]) (st' := [.inr (.inr l0), .inl l4, .inr (.inr v12)]) [(.iload 4, 2), (.aload_n 0, 1)] (by decide +kernel) rfl ?_
  refine zV_gr (by decide +kernel) zfl_RX10_13 (by decide) rfl h (fun v13 _ h => ?_)
  refine zV_b (pc' := 118) (lv' := [(0, .inr (.inr l0)), (1, .inl l1), (2, .inr (.inl l2)), (4, .inl l4)]) (st' := [.inr (.inr l0), .inl (l4 + (1 : Int32)), .inr (.inr v13), .inl l4, .inr (.inr v12)]) [(.iload 4, 2), (.iconst 1, 1), (.iadd, 1), (.aload_n 0, 1)] (by decide +kernel) rfl ?_
  refine zV_gi (by decide +kernel) zfl_RX10_17 (by decide) rfl (Or.inl rfl) h (fun v14 _ h => ?_)
  refine zV_b (pc' := 124) (lv' := [(0, .inr (.inr l0)), (1, .inl l1), (2, .inr (.inl l2)), (4, .inl l4)]) (st' := [.inl (v14 - l4), .inl (l4 + (1 : Int32)), .inr (.inr v13), .inl l4, .inr (.inr v12)]) [(.iload 4, 2), (.isub, 1)] (by decide +kernel) rfl ?_
  refine zV_cj (by decide +kernel) zw_708 (by decide) (Nat.le_of_ble_eq_true rfl) h (fun M15 _ h => ?_)
  refine zV_b (pc' := 128) (lv' := [(0, .inr (.inr l0)), (1, .inl l1), (2, .inr (.inl l2)), (4, .inl l4)]) (st' := [.inr (.inr l0)]) [(.aload_n 0, 1)] (by decide +kernel) rfl ?_
  refine zV_gr (by decide +kernel) zfl_RX10_7 (by decide) rfl h (fun v16 _ h => ?_)
  refine zV_b (pc' := 134) (lv' := [(0, .inr (.inr l0)), (1, .inl l1), (2, .inr (.inl l2)), (4, .inl l4)]) (st' := [.inl l1, .inl l4, .inr (.inr v16)]) [(.iload 4, 2), (.iload_n 1, 1)] (by decide +kernel) rfl ?_
  refine zV_si (by decide +kernel) h (fun M17 _ h => ?_)
  refine zV_b (pc' := 136) (lv' := [(0, .inr (.inr l0)), (1, .inl l1), (2, .inr (.inl l2)), (4, .inl l4)]) (st' := [.inr (.inr l0)]) [(.aload_n 0, 1)] (by decide +kernel) rfl ?_
  refine zV_gr (by decide +kernel) zfl_RX10_13 (by decide) rfl h (fun v18 _ h => ?_)
  refine zV_b (pc' := 142) (lv' := [(0, .inr (.inr l0)), (1, .inl l1), (2, .inr (.inl l2)), (4, .inl l4)]) (st' := [.inr (.inl l2), .inl l4, .inr (.inr v18)]) [(.iload 4, 2), (.lload_n 2, 1)] (by decide +kernel) rfl ?_
  refine zV_sj (by decide +kernel) h (fun M19 _ h => ?_)
  refine zV_b (pc' := 145) (lv' := [(0, .inr (.inr l0)), (1, .inl l1), (2, .inr (.inl l2)), (4, .inl l4)]) (st' := [.inr (.inr l0), .inr (.inr l0)]) [(.aload_n 0, 1), (.dup, 1)] (by decide +kernel) rfl ?_
  refine zV_gi (by decide +kernel) zfl_RX10_17 (by decide) rfl (Or.inl rfl) h (fun v20 _ h => ?_)
  refine zV_b (pc' := 150) (lv' := [(0, .inr (.inr l0)), (1, .inl l1), (2, .inr (.inl l2)), (4, .inl l4)]) (st' := [.inl (v20 + (1 : Int32)), .inr (.inr l0)]) [(.iconst 1, 1), (.iadd, 1)] (by decide +kernel) rfl ?_
  refine zV_pi (by decide +kernel) zfp_RX10_17 (by decide) rfl h (fun M21 _ h => ?_)
  exact zV_lv (lv' := [(0, .inr (.inr l0)), (2, .inr (.inl l2))]) [0, 2] rfl (zt_X10_add_J153 h hR)
set_option maxRecDepth 100000 in
theorem zt_X10_add {X : Zx} {M : Zm} {l0 : Option Nat} {l1 : Int32} {l2 : Int64} {z : Zm × Unit} (h : zf_X10_add M l0 l1 l2 = some z) (hR : zRv X zC_X10_add z.1) : zV X zC_X10_add M 0 [(0, .inr (.inr l0)), (1, .inl l1), (2, .inr (.inl l2))] [] := by
  unfold zf_X10_add at h
  refine zV_b (pc' := 2) (lv' := [(0, .inr (.inr l0)), (1, .inl l1), (2, .inr (.inl l2))]) (st' := [.inl l1, .inr (.inr l0)]) [(.aload_n 0, 1), (.iload_n 1, 1)] (by decide +kernel) rfl ?_
  refine zV_cvi (As := [.inl l1]) (st := []) (c := 11) (by decide +kernel) (zcl_X10_indexOf (by decide) (by decide)) ⟨zw_809, zw_811, zw_22⟩ ⟨⟨_, _, rfl⟩, by decide⟩ rfl rfl (Nat.le_of_ble_eq_true rfl) h (fun _ _ e => zc_X10_indexOf e) (fun M1 v1 _ h => ?_)
  refine zV_b (pc' := 11) (lv' := [(4, .inl v1), (0, .inr (.inr l0)), (1, .inl l1), (2, .inr (.inl l2))]) (st' := [.inl l1, .inl v1, .inr (.inr l0)]) [(.istore 4, 2), (.aload_n 0, 1), (.iload 4, 2), (.iload_n 1, 1)] (by decide +kernel) rfl ?_
  refine zV_cvi (As := [.inl v1, .inl l1]) (st := []) (c := 11) (by decide +kernel) (zcl_X10_isAt (by decide) (by decide)) ⟨zw_813, zw_815, zw_23⟩ ⟨⟨_, _, rfl⟩, by decide⟩ rfl rfl (Nat.le_of_ble_eq_true rfl) h (fun _ _ e => zc_X10_isAt e) (fun M2 v2 _ h => ?_)
  refine zV_if_eq (off := 17) (tgt := 31) (by decide +kernel) (by decide) h (fun c3 h => ?_) (fun c3 h => ?_)
  · refine zV_b (pc' := 32) (lv' := [(4, .inl v1), (0, .inr (.inr l0)), (1, .inl l1), (2, .inr (.inl l2))]) (st' := [.inr (.inr l0)]) [(.aload_n 0, 1)] (by decide +kernel) rfl ?_
    refine zV_gi (by decide +kernel) zfl_RX10_17 (by decide) rfl (Or.inl rfl) h (fun v4 _ h => ?_)
    refine zV_b (pc' := 36) (lv' := [(4, .inl v1), (0, .inr (.inr l0)), (1, .inl l1), (2, .inr (.inl l2))]) (st' := [.inr (.inr l0), .inl v4]) [(.aload_n 0, 1)] (by decide +kernel) rfl ?_
    refine zV_gr (by decide +kernel) zfl_RX10_7 (by decide) rfl h (fun v5 _ h => ?_)
    refine zV_al (by decide +kernel) h (fun v6 _ h => ?_)
    refine zV_icmp_lt (off := 39) (tgt := 79) (by decide +kernel) (by decide) h (fun c7 h => ?_) (fun c7 h => ?_)
    · exact zV_lv (lv' := [(0, .inr (.inr l0)), (1, .inl l1), (2, .inr (.inl l2)), (4, .inl v1)]) [1, 2, 3, 0] rfl (zt_X10_add_J79 h hR)
    · refine zV_b (pc' := 45) (lv' := [(4, .inl v1), (0, .inr (.inr l0)), (1, .inl l1), (2, .inr (.inl l2))]) (st' := [.inr (.inr l0), .inr (.inr l0)]) [(.aload_n 0, 1), (.aload_n 0, 1)] (by decide +kernel) rfl ?_
      refine zV_gr (by decide +kernel) zfl_RX10_7 (by decide) rfl h (fun v25 _ h => ?_)
      refine zV_b (pc' := 50) (lv' := [(4, .inl v1), (0, .inr (.inr l0)), (1, .inl l1), (2, .inr (.inl l2))]) (st' := [.inr (.inr l0), .inl (2 : Int32), .inr (.inr v25), .inr (.inr l0)]) [(.iconst 2, 1), (.aload_n 0, 1)] (by decide +kernel) rfl ?_
      refine zV_gr (by decide +kernel) zfl_RX10_7 (by decide) rfl h (fun v26 _ h => ?_)
      refine zV_al (by decide +kernel) h (fun v27 _ h => ?_)
      refine zV_b (pc' := 55) (lv' := [(4, .inl v1), (0, .inr (.inr l0)), (1, .inl l1), (2, .inr (.inl l2))]) (st' := [.inl ((2 : Int32) * v27), .inr (.inr v25), .inr (.inr l0)]) [(.imul, 1)] (by decide +kernel) rfl ?_
      refine zV_csr (As := [.inr (.inr v25), .inl ((2 : Int32) * v27)]) (st := [.inr (.inr l0)]) (by decide +kernel) (zcl_J7_copyOf_59c91 (by decide) (by decide)) ⟨zw_826, zw_827⟩ rfl rfl (Nat.le_of_ble_eq_true rfl) h (fun _ _ e => zc_J7_copyOf_59c91 e) (fun M28 v28 _ h => ?_)
      refine zV_pr (by decide +kernel) zfp_RX10_7 (Or.inr ⟨_, rfl⟩) (by decide) rfl h (fun M29 _ h => ?_)
      refine zV_b (pc' := 63) (lv' := [(4, .inl v1), (0, .inr (.inr l0)), (1, .inl l1), (2, .inr (.inl l2))]) (st' := [.inr (.inr l0), .inr (.inr l0)]) [(.aload_n 0, 1), (.aload_n 0, 1)] (by decide +kernel) rfl ?_
      refine zV_gr (by decide +kernel) zfl_RX10_13 (by decide) rfl h (fun v30 _ h => ?_)
      refine zV_b (pc' := 68) (lv' := [(4, .inl v1), (0, .inr (.inr l0)), (1, .inl l1), (2, .inr (.inl l2))]) (st' := [.inr (.inr l0), .inl (2 : Int32), .inr (.inr v30), .inr (.inr l0)]) [(.iconst 2, 1), (.aload_n 0, 1)] (by decide +kernel) rfl ?_
      refine zV_gr (by decide +kernel) zfl_RX10_13 (by decide) rfl h (fun v31 _ h => ?_)
      refine zV_al (by decide +kernel) h (fun v32 _ h => ?_)
      refine zV_b (pc' := 73) (lv' := [(4, .inl v1), (0, .inr (.inr l0)), (1, .inl l1), (2, .inr (.inl l2))]) (st' := [.inl ((2 : Int32) * v32), .inr (.inr v30), .inr (.inr l0)]) [(.imul, 1)] (by decide +kernel) rfl ?_
      refine zV_csr (As := [.inr (.inr v30), .inl ((2 : Int32) * v32)]) (st := [.inr (.inr l0)]) (by decide +kernel) (zcl_J7_copyOf_c38d5 (by decide) (by decide)) ⟨zw_836, zw_837⟩ rfl rfl (Nat.le_of_ble_eq_true rfl) h (fun _ _ e => zc_J7_copyOf_c38d5 e) (fun M33 v33 _ h => ?_)
      refine zV_pr (by decide +kernel) zfp_RX10_13 (Or.inr ⟨_, rfl⟩) (by decide) rfl h (fun M34 _ h => ?_)
      exact zV_lv (lv' := [(0, .inr (.inr l0)), (1, .inl l1), (2, .inr (.inl l2)), (4, .inl v1)]) [1, 2, 3, 0] rfl (zt_X10_add_J79 h hR)
  · refine zV_b (pc' := 18) (lv' := [(4, .inl v1), (0, .inr (.inr l0)), (1, .inl l1), (2, .inr (.inl l2))]) (st' := [.inr (.inr l0)]) [(.aload_n 0, 1)] (by decide +kernel) rfl ?_
    refine zV_gr (by decide +kernel) zfl_RX10_13 (by decide) rfl h (fun v35 _ h => ?_)
    refine zV_b (pc' := 24) (lv' := [(4, .inl v1), (0, .inr (.inr l0)), (1, .inl l1), (2, .inr (.inl l2))]) (st' := [.inl v1, .inr (.inr v35), .inl v1, .inr (.inr v35)]) [(.iload 4, 2), (.dup2, 1)] (by decide +kernel) rfl ?_
    refine zV_aj (by decide +kernel) h (fun v36 _ h => ?_)
    refine zV_b (pc' := 27) (lv' := [(4, .inl v1), (0, .inr (.inr l0)), (1, .inl l1), (2, .inr (.inl l2))]) (st' := [.inr (.inl (v36 + l2)), .inl v1, .inr (.inr v35)]) [(.lload_n 2, 1), (.ladd, 1)] (by decide +kernel) rfl ?_
    refine zV_sj (by decide +kernel) h (fun M37 _ h => ?_)
    refine zV_goto (off := 125) (tgt := 153) (by decide +kernel) (by decide) ?_
    exact zV_lv (lv' := [(0, .inr (.inr l0)), (2, .inr (.inl l2))]) [1, 3] rfl (zt_X10_add_J153 h hR)
theorem zc_X10_add {M M' : Zm} {l0 : Option Nat} {l1 : Int32} {l2 : Int64} {x : Unit} (h : zf_X10_add M l0 l1 l2 = some (M', x)) (l : Launch) (D : va_G) (cy : Nat → ClassId) : zMet l yX10_add zC_X10_add none D cy [.inr (.inr l0), .inl l1, .inr (.inl l2)] M M' none :=
  zM_v (by decide) rfl (fun h => by cases h) (Nat.le_of_ble_eq_true rfl) (fun X hR => zt_X10_add h hR)
-- BlendCellar$Wine.lessen([J)V
def zC_X10_lessen : Zc := (cX10_lessen, 6, RX10, 0, 0, false)
theorem zcl_X10_lessen {C : Zc} (h1 : zC_X10_lessen.2.2.2.1 + 1 ≤ C.2.2.2.1) (h2 : 8 + (zC_X10_lessen.2.1 + 11) + zC_X10_lessen.2.2.2.2.1 ≤ C.2.2.2.2.1) : zCl C yX10_lessen zC_X10_lessen none 1 := ⟨zw_927, zw_109, ⟨by decide, by decide⟩, by decide +kernel, h1, h2⟩
noncomputable def zf_X10_lessen_J80 (M : Zm) (p0 : Option Nat) (p1 : Option Nat) (l2 : Int32) (l3 : Int32) : Option ((Zm × Int32 × Int32) ⊕ (Zm × Int32 × Int32)) :=
  some (.inl (M, l2, (l3 + 1)))
noncomputable def zf_X10_lessen_J25 (M : Zm) (p0 : Option Nat) (p1 : Option Nat) (l2 : Int32) (l3 : Int32) (s0 : Int64) : Option ((Zm × Int32 × Int32) ⊕ (Zm × Int32 × Int32)) :=
  zb1 (zo_gj M p0 11 3) (fun v5 =>
  zb1 (zo_pj M p0 11 3 (v5 - s0)) (fun M6 =>
  zb1 (zo_gr M6 p0 11 1) (fun v7 =>
  zb1 (zo_aj M6 v7 l3) (fun v8 =>
  (if v8 ≤ s0 then
  zf_X10_lessen_J80 M6 p0 p1 l2 l3
  else
  zb1 (zo_gr M6 p0 11 0) (fun v11 =>
  zb1 (zo_gr M6 p0 11 0) (fun v12 =>
  zb1 (zo_ai M6 v12 l3) (fun v13 =>
  zb1 (zo_si M6 v11 l2 v13) (fun M14 =>
  zb1 (zo_gr M14 p0 11 1) (fun v15 =>
  zb1 (zo_gr M14 p0 11 1) (fun v16 =>
  zb1 (zo_aj M14 v16 l3) (fun v17 =>
  zb1 (zo_sj M14 v15 l2 (v17 - s0)) (fun M18 =>
  zf_X10_lessen_J80 M18 p0 p1 (l2 + 1) l3)))))))))))))
noncomputable def zf_X10_lessen_L4 (p0 : Option Nat) (p1 : Option Nat) (x : Zm × Int32 × Int32) : Option ((Zm × Int32 × Int32) ⊕ (Zm × Int32 × Int32)) := match x with
  | (M, l2, l3) =>
  zb1 (zo_gi M p0 11 2) (fun v1 =>
  (if v1 ≤ l3 then
  some (.inr (M, l2, l3))
  else
  zb1 (zo_al M p1) (fun v3 =>
  (if v3 ≤ l3 then
  zf_X10_lessen_J25 M p0 p1 l2 l3 (0 : Int64)
  else
  zb1 (zo_aj M p1 l3) (fun v19 =>
  zf_X10_lessen_J25 M p0 p1 l2 l3 v19)))))
def zP_X10_lessen_L4 (X : Zx) (p0 : Option Nat) (p1 : Option Nat) (x : Zm × Int32 × Int32) : Prop := match x with
  | (M, l2, l3) => zV X zC_X10_lessen M 4 [(0, .inr (.inr p0)), (1, .inr (.inr p1)), (2, .inl l2), (3, .inl l3)] []
def zK_X10_lessen_L4 (X : Zx) (p0 : Option Nat) (p1 : Option Nat) (y : Zm × Int32 × Int32) : Prop := match y with
  | (M, l2, l3) => zV X zC_X10_lessen M 86 [(0, .inr (.inr p0)), (2, .inl l2)] []
noncomputable def zf_X10_lessen (M : Zm) (l0 : Option Nat) (l1 : Option Nat) : Option (Zm × Unit) :=
  zb1 (zwhile (zf_X10_lessen_L4 l0 l1) (M, (0 : Int32), (0 : Int32))) (fun y21 => match y21 with
  | (M4_21, l2_21, l3_21) =>
  zb1 (zo_pi M4_21 l0 11 2 l2_21) (fun M22 =>
  some (M22, ())))
set_option maxRecDepth 100000 in
theorem zt_X10_lessen_J80 {X : Zx} {M : Zm} {p0 : Option Nat} {p1 : Option Nat} {l2 : Int32} {l3 : Int32} {z : (Zm × Int32 × Int32) ⊕ (Zm × Int32 × Int32)} (h : zf_X10_lessen_J80 M p0 p1 l2 l3 = some z) (k1 : ∀ x' : Zm × Int32 × Int32, z = .inl x' → zP_X10_lessen_L4 X p0 p1 x') (k2 : ∀ y : Zm × Int32 × Int32, z = .inr y → zK_X10_lessen_L4 X p0 p1 y) : zV X zC_X10_lessen M 80 [(0, .inr (.inr p0)), (1, .inr (.inr p1)), (2, .inl l2), (3, .inl l3)] [] := by
  unfold zf_X10_lessen_J80 at h
  refine zV_b (pc' := 83) (lv' := [(3, .inl (l3 + 1)), (0, .inr (.inr p0)), (1, .inr (.inr p1)), (2, .inl l2)]) (st' := []) [(.iinc 3 1, 3)] (by decide +kernel) rfl ?_
  refine zV_goto (off := (-79)) (tgt := 4) (by decide +kernel) (by decide) ?_
  exact zV_lv (lv' := [(0, .inr (.inr p0)), (1, .inr (.inr p1)), (2, .inl l2), (3, .inl (l3 + 1))]) [1, 2, 3, 0] rfl (k1 _ (Option.some.inj h).symm)
set_option maxRecDepth 100000 in
theorem zt_X10_lessen_J25 {X : Zx} {M : Zm} {p0 : Option Nat} {p1 : Option Nat} {l2 : Int32} {l3 : Int32} {s0 : Int64} {z : (Zm × Int32 × Int32) ⊕ (Zm × Int32 × Int32)} (h : zf_X10_lessen_J25 M p0 p1 l2 l3 s0 = some z) (k1 : ∀ x' : Zm × Int32 × Int32, z = .inl x' → zP_X10_lessen_L4 X p0 p1 x') (k2 : ∀ y : Zm × Int32 × Int32, z = .inr y → zK_X10_lessen_L4 X p0 p1 y) : zV X zC_X10_lessen M 25 [(0, .inr (.inr p0)), (1, .inr (.inr p1)), (2, .inl l2), (3, .inl l3)] [.inr (.inl s0)] := by
  unfold zf_X10_lessen_J25 at h
  refine zV_b (pc' := 29) (lv' := [(4, .inr (.inl s0)), (0, .inr (.inr p0)), (1, .inr (.inr p1)), (2, .inl l2), (3, .inl l3)]) (st' := [.inr (.inr p0), .inr (.inr p0)]) [(.lstore 4, 2), (.aload_n 0, 1), (.dup, 1)] (by decide +kernel) rfl ?_
  refine zV_gj (by decide +kernel) zfl_RX10_21 (by decide) rfl h (fun v5 _ h => ?_)
  refine zV_b (pc' := 35) (lv' := [(4, .inr (.inl s0)), (0, .inr (.inr p0)), (1, .inr (.inr p1)), (2, .inl l2), (3, .inl l3)]) (st' := [.inr (.inl (v5 - s0)), .inr (.inr p0)]) [(.lload 4, 2), (.lsub, 1)] (by decide +kernel) rfl ?_
  refine zV_pj (by decide +kernel) zfp_RX10_21 (by decide) rfl h (fun M6 _ h => ?_)
  refine zV_b (pc' := 39) (lv' := [(4, .inr (.inl s0)), (0, .inr (.inr p0)), (1, .inr (.inr p1)), (2, .inl l2), (3, .inl l3)]) (st' := [.inr (.inr p0)]) [(.aload_n 0, 1)] (by decide +kernel) rfl ?_
  refine zV_gr (by decide +kernel) zfl_RX10_13 (by decide) rfl h (fun v7 _ h => ?_)
  refine zV_b (pc' := 43) (lv' := [(4, .inr (.inl s0)), (0, .inr (.inr p0)), (1, .inr (.inr p1)), (2, .inl l2), (3, .inl l3)]) (st' := [.inl l3, .inr (.inr v7)]) [(.iload_n 3, 1)] (by decide +kernel) rfl ?_
  refine zV_aj (by decide +kernel) h (fun v8 _ h => ?_)
  refine zV_b (pc' := 46) (lv' := [(4, .inr (.inl s0)), (0, .inr (.inr p0)), (1, .inr (.inr p1)), (2, .inl l2), (3, .inl l3)]) (st' := [.inr (.inl s0), .inr (.inl v8)]) [(.lload 4, 2)] (by decide +kernel) rfl ?_
  refine zV_lcmp_le (off := 33) (tgt := 80) (by decide +kernel) (by decide +kernel) (by decide) h (fun c9 h => ?_) (fun c9 h => ?_)
  · exact zV_lv (lv' := [(0, .inr (.inr p0)), (1, .inr (.inr p1)), (2, .inl l2), (3, .inl l3)]) [1, 2, 3, 4] rfl (zt_X10_lessen_J80 h k1 k2)
  · refine zV_b (pc' := 51) (lv' := [(4, .inr (.inl s0)), (0, .inr (.inr p0)), (1, .inr (.inr p1)), (2, .inl l2), (3, .inl l3)]) (st' := [.inr (.inr p0)]) [(.aload_n 0, 1)] (by decide +kernel) rfl ?_
    refine zV_gr (by decide +kernel) zfl_RX10_7 (by decide) rfl h (fun v11 _ h => ?_)
    refine zV_b (pc' := 56) (lv' := [(4, .inr (.inl s0)), (0, .inr (.inr p0)), (1, .inr (.inr p1)), (2, .inl l2), (3, .inl l3)]) (st' := [.inr (.inr p0), .inl l2, .inr (.inr v11)]) [(.iload_n 2, 1), (.aload_n 0, 1)] (by decide +kernel) rfl ?_
    refine zV_gr (by decide +kernel) zfl_RX10_7 (by decide) rfl h (fun v12 _ h => ?_)
    refine zV_b (pc' := 60) (lv' := [(4, .inr (.inl s0)), (0, .inr (.inr p0)), (1, .inr (.inr p1)), (2, .inl l2), (3, .inl l3)]) (st' := [.inl l3, .inr (.inr v12), .inl l2, .inr (.inr v11)]) [(.iload_n 3, 1)] (by decide +kernel) rfl ?_
    refine zV_ai (by decide +kernel) h (fun v13 _ h => ?_)
    refine zV_si (by decide +kernel) h (fun M14 _ h => ?_)
    refine zV_b (pc' := 63) (lv' := [(4, .inr (.inl s0)), (0, .inr (.inr p0)), (1, .inr (.inr p1)), (2, .inl l2), (3, .inl l3)]) (st' := [.inr (.inr p0)]) [(.aload_n 0, 1)] (by decide +kernel) rfl ?_
    refine zV_gr (by decide +kernel) zfl_RX10_13 (by decide) rfl h (fun v15 _ h => ?_)
    refine zV_b (pc' := 68) (lv' := [(4, .inr (.inl s0)), (0, .inr (.inr p0)), (1, .inr (.inr p1)), (2, .inl l2), (3, .inl l3)]) (st' := [.inr (.inr p0), .inl l2, .inr (.inr v15)]) [(.iload_n 2, 1), (.aload_n 0, 1)] (by decide +kernel) rfl ?_
    refine zV_gr (by decide +kernel) zfl_RX10_13 (by decide) rfl h (fun v16 _ h => ?_)
    refine zV_b (pc' := 72) (lv' := [(4, .inr (.inl s0)), (0, .inr (.inr p0)), (1, .inr (.inr p1)), (2, .inl l2), (3, .inl l3)]) (st' := [.inl l3, .inr (.inr v16), .inl l2, .inr (.inr v15)]) [(.iload_n 3, 1)] (by decide +kernel) rfl ?_
    refine zV_aj (by decide +kernel) h (fun v17 _ h => ?_)
    refine zV_b (pc' := 76) (lv' := [(4, .inr (.inl s0)), (0, .inr (.inr p0)), (1, .inr (.inr p1)), (2, .inl l2), (3, .inl l3)]) (st' := [.inr (.inl (v17 - s0)), .inl l2, .inr (.inr v15)]) [(.lload 4, 2), (.lsub, 1)] (by decide +kernel) rfl ?_
    refine zV_sj (by decide +kernel) h (fun M18 _ h => ?_)
    refine zV_b (pc' := 80) (lv' := [(2, .inl (l2 + 1)), (4, .inr (.inl s0)), (0, .inr (.inr p0)), (1, .inr (.inr p1)), (3, .inl l3)]) (st' := []) [(.iinc 2 1, 3)] (by decide +kernel) rfl ?_
    exact zV_lv (lv' := [(0, .inr (.inr p0)), (1, .inr (.inr p1)), (2, .inl (l2 + 1)), (3, .inl l3)]) [2, 3, 0, 4] rfl (zt_X10_lessen_J80 h k1 k2)
set_option maxRecDepth 100000 in
theorem zt_X10_lessen_L4 {X : Zx} {p0 : Option Nat} {p1 : Option Nat} {x : Zm × Int32 × Int32} {y : Zm × Int32 × Int32} (h : zwhile (zf_X10_lessen_L4 p0 p1) x = some y) (hy : zK_X10_lessen_L4 X p0 p1 y) : zP_X10_lessen_L4 X p0 p1 x := by
  refine zwhile_ind (P := zP_X10_lessen_L4 X p0 p1) (K := zK_X10_lessen_L4 X p0 p1) ?_ h hy
  intro x z hf k1 k2
  obtain ⟨M, l2, l3⟩ := x
  have h : zf_X10_lessen_L4 p0 p1 (M, l2, l3) = some z := hf
  unfold zf_X10_lessen_L4 at h
  show zV X zC_X10_lessen M 4 [(0, .inr (.inr p0)), (1, .inr (.inr p1)), (2, .inl l2), (3, .inl l3)] []
  refine zV_b (pc' := 6) (lv' := [(0, .inr (.inr p0)), (1, .inr (.inr p1)), (2, .inl l2), (3, .inl l3)]) (st' := [.inr (.inr p0), .inl l3]) [(.iload_n 3, 1), (.aload_n 0, 1)] (by decide +kernel) rfl ?_
  refine zV_gi (by decide +kernel) zfl_RX10_17 (by decide) rfl (Or.inl rfl) h (fun v1 _ h => ?_)
  refine zV_icmp_ge (off := 77) (tgt := 86) (by decide +kernel) (by decide) h (fun c2 h => ?_) (fun c2 h => ?_)
  · exact zV_lv (lv' := [(0, .inr (.inr p0)), (2, .inl l2)]) [0, 2] rfl (k2 _ (Option.some.inj h).symm)
  · refine zV_b (pc' := 14) (lv' := [(0, .inr (.inr p0)), (1, .inr (.inr p1)), (2, .inl l2), (3, .inl l3)]) (st' := [.inr (.inr p1), .inl l3]) [(.iload_n 3, 1), (.aload_n 1, 1)] (by decide +kernel) rfl ?_
    refine zV_al (by decide +kernel) h (fun v3 _ h => ?_)
    refine zV_icmp_ge (off := 9) (tgt := 24) (by decide +kernel) (by decide) h (fun c4 h => ?_) (fun c4 h => ?_)
    · refine zV_b (pc' := 25) (lv' := [(0, .inr (.inr p0)), (1, .inr (.inr p1)), (2, .inl l2), (3, .inl l3)]) (st' := [.inr (.inl (0 : Int64))]) [(.lconst 0, 1)] (by decide +kernel) rfl ?_
      exact zV_lv (lv' := [(0, .inr (.inr p0)), (1, .inr (.inr p1)), (2, .inl l2), (3, .inl l3)]) [0, 1, 2, 3] rfl (zt_X10_lessen_J25 h k1 k2)
    · refine zV_b (pc' := 20) (lv' := [(0, .inr (.inr p0)), (1, .inr (.inr p1)), (2, .inl l2), (3, .inl l3)]) (st' := [.inl l3, .inr (.inr p1)]) [(.aload_n 1, 1), (.iload_n 3, 1)] (by decide +kernel) rfl ?_
      refine zV_aj (by decide +kernel) h (fun v19 _ h => ?_)
      refine zV_goto (off := 4) (tgt := 25) (by decide +kernel) (by decide) ?_
      exact zV_lv (lv' := [(0, .inr (.inr p0)), (1, .inr (.inr p1)), (2, .inl l2), (3, .inl l3)]) [0, 1, 2, 3] rfl (zt_X10_lessen_J25 h k1 k2)
set_option maxRecDepth 100000 in
theorem zt_X10_lessen {X : Zx} {M : Zm} {l0 : Option Nat} {l1 : Option Nat} {z : Zm × Unit} (h : zf_X10_lessen M l0 l1 = some z) (hR : zRv X zC_X10_lessen z.1) : zV X zC_X10_lessen M 0 [(0, .inr (.inr l0)), (1, .inr (.inr l1))] [] := by
  unfold zf_X10_lessen at h
  refine zV_b (pc' := 4) (lv' := [(3, .inl (0 : Int32)), (2, .inl (0 : Int32)), (0, .inr (.inr l0)), (1, .inr (.inr l1))]) (st' := []) [(.iconst 0, 1), (.istore_n 2, 1), (.iconst 0, 1), (.istore_n 3, 1)] (by decide +kernel) rfl ?_
  obtain ⟨y21, e21, h⟩ := zb1_inv h
  refine zV_lv (lv' := [(0, .inr (.inr l0)), (1, .inr (.inr l1)), (2, .inl (0 : Int32)), (3, .inl (0 : Int32))]) [2, 3, 1, 0] rfl (zt_X10_lessen_L4 e21 ?_)
  obtain ⟨M4_21, l2_21, l3_21⟩ := y21
  show zV X zC_X10_lessen M4_21 86 [(0, .inr (.inr l0)), (2, .inl l2_21)] []
  refine zV_b (pc' := 88) (lv' := [(0, .inr (.inr l0)), (2, .inl l2_21)]) (st' := [.inl l2_21, .inr (.inr l0)]) [(.aload_n 0, 1), (.iload_n 2, 1)] (by decide +kernel) rfl ?_
  refine zV_pi (by decide +kernel) zfp_RX10_17 (by decide) rfl h (fun M22 _ h => ?_)
  exact zend_v h hR (by decide +kernel)
theorem zc_X10_lessen {M M' : Zm} {l0 : Option Nat} {l1 : Option Nat} {x : Unit} (h : zf_X10_lessen M l0 l1 = some (M', x)) (l : Launch) (D : va_G) (cy : Nat → ClassId) : zMet l yX10_lessen zC_X10_lessen none D cy [.inr (.inr l0), .inr (.inr l1)] M M' none :=
  zM_v (by decide) rfl (fun h => by cases h) (Nat.le_of_ble_eq_true rfl) (fun X hR => zt_X10_lessen h hR)
-- BlendCellar$Wine.clear()V
def zC_X10_clear : Zc := (cX10_clear, 1, RX10, 0, 0, false)
theorem zcl_X10_clear {C : Zc} (h1 : zC_X10_clear.2.2.2.1 + 1 ≤ C.2.2.2.1) (h2 : 8 + (zC_X10_clear.2.1 + 11) + zC_X10_clear.2.2.2.2.1 ≤ C.2.2.2.2.1) : zCl C yX10_clear zC_X10_clear none 0 := ⟨zw_881, zw_109, ⟨by decide, by decide⟩, by decide +kernel, h1, h2⟩
noncomputable def zf_X10_clear (M : Zm) (l0 : Option Nat) : Option (Zm × Unit) :=
  zb1 (zo_pi M l0 11 2 (0 : Int32)) (fun M1 =>
  zb1 (zo_pj M1 l0 11 3 (0 : Int64)) (fun M2 =>
  some (M2, ())))
set_option maxRecDepth 100000 in
theorem zt_X10_clear {X : Zx} {M : Zm} {l0 : Option Nat} {z : Zm × Unit} (h : zf_X10_clear M l0 = some z) (hR : zRv X zC_X10_clear z.1) : zV X zC_X10_clear M 0 [(0, .inr (.inr l0))] [] := by
  unfold zf_X10_clear at h
  refine zV_b (pc' := 2) (lv' := [(0, .inr (.inr l0))]) (st' := [.inl (0 : Int32), .inr (.inr l0)]) [(.aload_n 0, 1), (.iconst 0, 1)] (by decide +kernel) rfl ?_
  refine zV_pi (by decide +kernel) zfp_RX10_17 (by decide) rfl h (fun M1 _ h => ?_)
  refine zV_b (pc' := 7) (lv' := [(0, .inr (.inr l0))]) (st' := [.inr (.inl (0 : Int64)), .inr (.inr l0)]) [(.aload_n 0, 1), (.lconst 0, 1)] (by decide +kernel) rfl ?_
  refine zV_pj (by decide +kernel) zfp_RX10_21 (by decide) rfl h (fun M2 _ h => ?_)
  exact zend_v h hR (by decide +kernel)
theorem zc_X10_clear {M M' : Zm} {l0 : Option Nat} {x : Unit} (h : zf_X10_clear M l0 = some (M', x)) (l : Launch) (D : va_G) (cy : Nat → ClassId) : zMet l yX10_clear zC_X10_clear none D cy [.inr (.inr l0)] M M' none :=
  zM_v (by decide) rfl (fun h => by cases h) (Nat.le_of_ble_eq_true rfl) (fun X hR => zt_X10_clear h hR)
-- BlendCellar$Wine.countUneven()I
def zC_X10_countUneven : Zc := (cX10_countUneven, 3, RX10, 0, 0, false)
theorem zcl_X10_countUneven {C : Zc} (h1 : zC_X10_countUneven.2.2.2.1 + 1 ≤ C.2.2.2.1) (h2 : 8 + (zC_X10_countUneven.2.1 + 11) + zC_X10_countUneven.2.2.2.2.1 ≤ C.2.2.2.2.1) : zCl C yX10_countUneven zC_X10_countUneven (some .int) 0 := ⟨zw_1335, zw_109, ⟨by decide, by decide⟩, by decide +kernel, h1, h2⟩
noncomputable def zf_X10_countUneven_J26 (M : Zm) (p0 : Option Nat) (l1 : Int32) (l2 : Int32) : Option ((Zm × Int32 × Int32) ⊕ (Zm × Int32 × Int32)) :=
  some (.inl (M, l1, (l2 + 1)))
noncomputable def zf_X10_countUneven_L4 (p0 : Option Nat) (x : Zm × Int32 × Int32) : Option ((Zm × Int32 × Int32) ⊕ (Zm × Int32 × Int32)) := match x with
  | (M, l1, l2) =>
  zb1 (zo_gi M p0 11 2) (fun v1 =>
  (if v1 ≤ l2 then
  some (.inr (M, l1, l2))
  else
  zb1 (zo_gr M p0 11 1) (fun v3 =>
  zb1 (zo_aj M v3 l2) (fun v4 =>
  (if v4 = (0 : Int64) then
  zf_X10_countUneven_J26 M p0 l1 l2
  else
  zf_X10_countUneven_J26 M p0 (l1 + 1) l2)))))
def zP_X10_countUneven_L4 (X : Zx) (p0 : Option Nat) (x : Zm × Int32 × Int32) : Prop := match x with
  | (M, l1, l2) => zV X zC_X10_countUneven M 4 [(0, .inr (.inr p0)), (1, .inl l1), (2, .inl l2)] []
def zK_X10_countUneven_L4 (X : Zx) (p0 : Option Nat) (y : Zm × Int32 × Int32) : Prop := match y with
  | (M, l1, l2) => zV X zC_X10_countUneven M 32 [(1, .inl l1)] []
noncomputable def zf_X10_countUneven (M : Zm) (l0 : Option Nat) : Option (Zm × Int32) :=
  zb1 (zwhile (zf_X10_countUneven_L4 l0) (M, (0 : Int32), (0 : Int32))) (fun y7 => match y7 with
  | (M4_7, l1_7, l2_7) =>
  some (M4_7, l1_7))
set_option maxRecDepth 100000 in
theorem zt_X10_countUneven_J26 {X : Zx} {M : Zm} {p0 : Option Nat} {l1 : Int32} {l2 : Int32} {z : (Zm × Int32 × Int32) ⊕ (Zm × Int32 × Int32)} (h : zf_X10_countUneven_J26 M p0 l1 l2 = some z) (k1 : ∀ x' : Zm × Int32 × Int32, z = .inl x' → zP_X10_countUneven_L4 X p0 x') (k2 : ∀ y : Zm × Int32 × Int32, z = .inr y → zK_X10_countUneven_L4 X p0 y) : zV X zC_X10_countUneven M 26 [(0, .inr (.inr p0)), (1, .inl l1), (2, .inl l2)] [] := by
  unfold zf_X10_countUneven_J26 at h
  refine zV_b (pc' := 29) (lv' := [(2, .inl (l2 + 1)), (0, .inr (.inr p0)), (1, .inl l1)]) (st' := []) [(.iinc 2 1, 3)] (by decide +kernel) rfl ?_
  refine zV_goto (off := (-25)) (tgt := 4) (by decide +kernel) (by decide) ?_
  exact zV_lv (lv' := [(0, .inr (.inr p0)), (1, .inl l1), (2, .inl (l2 + 1))]) [1, 2, 0] rfl (k1 _ (Option.some.inj h).symm)
set_option maxRecDepth 100000 in
theorem zt_X10_countUneven_L4 {X : Zx} {p0 : Option Nat} {x : Zm × Int32 × Int32} {y : Zm × Int32 × Int32} (h : zwhile (zf_X10_countUneven_L4 p0) x = some y) (hy : zK_X10_countUneven_L4 X p0 y) : zP_X10_countUneven_L4 X p0 x := by
  refine zwhile_ind (P := zP_X10_countUneven_L4 X p0) (K := zK_X10_countUneven_L4 X p0) ?_ h hy
  intro x z hf k1 k2
  obtain ⟨M, l1, l2⟩ := x
  have h : zf_X10_countUneven_L4 p0 (M, l1, l2) = some z := hf
  unfold zf_X10_countUneven_L4 at h
  show zV X zC_X10_countUneven M 4 [(0, .inr (.inr p0)), (1, .inl l1), (2, .inl l2)] []
  refine zV_b (pc' := 6) (lv' := [(0, .inr (.inr p0)), (1, .inl l1), (2, .inl l2)]) (st' := [.inr (.inr p0), .inl l2]) [(.iload_n 2, 1), (.aload_n 0, 1)] (by decide +kernel) rfl ?_
  refine zV_gi (by decide +kernel) zfl_RX10_17 (by decide) rfl (Or.inl rfl) h (fun v1 _ h => ?_)
  refine zV_icmp_ge (off := 23) (tgt := 32) (by decide +kernel) (by decide) h (fun c2 h => ?_) (fun c2 h => ?_)
  · exact zV_lv (lv' := [(1, .inl l1)]) [1] rfl (k2 _ (Option.some.inj h).symm)
  · refine zV_b (pc' := 13) (lv' := [(0, .inr (.inr p0)), (1, .inl l1), (2, .inl l2)]) (st' := [.inr (.inr p0)]) [(.aload_n 0, 1)] (by decide +kernel) rfl ?_
    refine zV_gr (by decide +kernel) zfl_RX10_13 (by decide) rfl h (fun v3 _ h => ?_)
    refine zV_b (pc' := 17) (lv' := [(0, .inr (.inr p0)), (1, .inl l1), (2, .inl l2)]) (st' := [.inl l2, .inr (.inr v3)]) [(.iload_n 2, 1)] (by decide +kernel) rfl ?_
    refine zV_aj (by decide +kernel) h (fun v4 _ h => ?_)
    refine zV_b (pc' := 19) (lv' := [(0, .inr (.inr p0)), (1, .inl l1), (2, .inl l2)]) (st' := [.inr (.inl (0 : Int64)), .inr (.inl v4)]) [(.lconst 0, 1)] (by decide +kernel) rfl ?_
    refine zV_lcmp_eq (off := 6) (tgt := 26) (by decide +kernel) (by decide +kernel) (by decide) h (fun c5 h => ?_) (fun c5 h => ?_)
    · exact zV_lv (lv' := [(0, .inr (.inr p0)), (1, .inl l1), (2, .inl l2)]) [0, 1, 2] rfl (zt_X10_countUneven_J26 h k1 k2)
    · refine zV_b (pc' := 26) (lv' := [(1, .inl (l1 + 1)), (0, .inr (.inr p0)), (2, .inl l2)]) (st' := []) [(.iinc 1 1, 3)] (by decide +kernel) rfl ?_
      exact zV_lv (lv' := [(0, .inr (.inr p0)), (1, .inl (l1 + 1)), (2, .inl l2)]) [1, 0, 2] rfl (zt_X10_countUneven_J26 h k1 k2)
set_option maxRecDepth 100000 in
theorem zt_X10_countUneven {X : Zx} {M : Zm} {l0 : Option Nat} {z : Zm × Int32} (h : zf_X10_countUneven M l0 = some z) (hR : zRi X zC_X10_countUneven z.1 z.2) : zV X zC_X10_countUneven M 0 [(0, .inr (.inr l0))] [] := by
  unfold zf_X10_countUneven at h
  refine zV_b (pc' := 4) (lv' := [(2, .inl (0 : Int32)), (1, .inl (0 : Int32)), (0, .inr (.inr l0))]) (st' := []) [(.iconst 0, 1), (.istore_n 1, 1), (.iconst 0, 1), (.istore_n 2, 1)] (by decide +kernel) rfl ?_
  obtain ⟨y7, e7, h⟩ := zb1_inv h
  refine zV_lv (lv' := [(0, .inr (.inr l0)), (1, .inl (0 : Int32)), (2, .inl (0 : Int32))]) [2, 1, 0] rfl (zt_X10_countUneven_L4 e7 ?_)
  obtain ⟨M4_7, l1_7, l2_7⟩ := y7
  show zV X zC_X10_countUneven M4_7 32 [(1, .inl l1_7)] []
  refine zV_b (pc' := 33) (lv' := [(1, .inl l1_7)]) (st' := [.inl l1_7]) [(.iload_n 1, 1)] (by decide +kernel) rfl ?_
  exact zend_i h hR (by decide +kernel)
theorem zc_X10_countUneven {M M' : Zm} {l0 : Option Nat} {x : Int32} (h : zf_X10_countUneven M l0 = some (M', x)) (l : Launch) (D : va_G) (cy : Nat → ClassId) : zMet l yX10_countUneven zC_X10_countUneven (some .int) D cy [.inr (.inr l0)] M M' (some (.inl x)) :=
  zM_i (by decide) rfl (fun h => by cases h) (Nat.le_of_ble_eq_true rfl) (fun X hR => zt_X10_countUneven h hR)
-- BlendCellar$Wine.countWith(LBlendCellar$Wine;)I
def zC_X10_countWith : Zc := (cX10_countWith, 4, RX10, 1, 24, false)
theorem zcl_X10_countWith {C : Zc} (h1 : zC_X10_countWith.2.2.2.1 + 1 ≤ C.2.2.2.1) (h2 : 8 + (zC_X10_countWith.2.1 + 11) + zC_X10_countWith.2.2.2.2.1 ≤ C.2.2.2.2.1) : zCl C yX10_countWith zC_X10_countWith (some .int) 1 := ⟨zw_910, zw_109, ⟨by decide, by decide⟩, by decide +kernel, h1, h2⟩
noncomputable def zf_X10_countWith_J41 (M : Zm) (p0 : Option Nat) (p1 : Option Nat) (l2 : Int32) (l3 : Int32) : Option ((Zm × Int32 × Int32) ⊕ (Zm × Int32 × Int32)) :=
  some (.inl (M, l2, (l3 + 1)))
noncomputable def zf_X10_countWith_L7 (p0 : Option Nat) (p1 : Option Nat) (x : Zm × Int32 × Int32) : Option ((Zm × Int32 × Int32) ⊕ (Zm × Int32 × Int32)) := match x with
  | (M, l2, l3) =>
  zb1 (zo_gi M p1 11 2) (fun v2 =>
  (if v2 ≤ l3 then
  some (.inr (M, l2, l3))
  else
  zb1 (zo_gr M p1 11 0) (fun v4 =>
  zb1 (zo_ai M v4 l3) (fun v5 =>
  zb1 (zo_rc M p0 11) (fun _ => zbd (zf_X10_indexOf M p0 v5) (fun M6 v6 =>
  zb1 (zo_gr M6 p1 11 0) (fun v7 =>
  zb1 (zo_ai M6 v7 l3) (fun v8 =>
  zb1 (zo_rc M6 p0 11) (fun _ => zbd (zf_X10_isAt M6 p0 v6 v8) (fun M9 v9 =>
  (if v9 = 0 then
  zf_X10_countWith_J41 M9 p0 p1 (l2 + 1) l3
  else
  zf_X10_countWith_J41 M9 p0 p1 l2 l3)))))))))))
def zP_X10_countWith_L7 (X : Zx) (p0 : Option Nat) (p1 : Option Nat) (x : Zm × Int32 × Int32) : Prop := match x with
  | (M, l2, l3) => zV X zC_X10_countWith M 7 [(0, .inr (.inr p0)), (1, .inr (.inr p1)), (2, .inl l2), (3, .inl l3)] []
def zK_X10_countWith_L7 (X : Zx) (p0 : Option Nat) (p1 : Option Nat) (y : Zm × Int32 × Int32) : Prop := match y with
  | (M, l2, l3) => zV X zC_X10_countWith M 47 [(2, .inl l2)] []
noncomputable def zf_X10_countWith (M : Zm) (l0 : Option Nat) (l1 : Option Nat) : Option (Zm × Int32) :=
  zb1 (zo_gi M l0 11 2) (fun v1 =>
  zb1 (zwhile (zf_X10_countWith_L7 l0 l1) (M, v1, (0 : Int32))) (fun y12 => match y12 with
  | (M7_12, l2_12, l3_12) =>
  some (M7_12, l2_12)))
set_option maxRecDepth 100000 in
theorem zt_X10_countWith_J41 {X : Zx} {M : Zm} {p0 : Option Nat} {p1 : Option Nat} {l2 : Int32} {l3 : Int32} {z : (Zm × Int32 × Int32) ⊕ (Zm × Int32 × Int32)} (h : zf_X10_countWith_J41 M p0 p1 l2 l3 = some z) (k1 : ∀ x' : Zm × Int32 × Int32, z = .inl x' → zP_X10_countWith_L7 X p0 p1 x') (k2 : ∀ y : Zm × Int32 × Int32, z = .inr y → zK_X10_countWith_L7 X p0 p1 y) : zV X zC_X10_countWith M 41 [(0, .inr (.inr p0)), (1, .inr (.inr p1)), (2, .inl l2), (3, .inl l3)] [] := by
  unfold zf_X10_countWith_J41 at h
  refine zV_b (pc' := 44) (lv' := [(3, .inl (l3 + 1)), (0, .inr (.inr p0)), (1, .inr (.inr p1)), (2, .inl l2)]) (st' := []) [(.iinc 3 1, 3)] (by decide +kernel) rfl ?_
  refine zV_goto (off := (-37)) (tgt := 7) (by decide +kernel) (by decide) ?_
  exact zV_lv (lv' := [(0, .inr (.inr p0)), (1, .inr (.inr p1)), (2, .inl l2), (3, .inl (l3 + 1))]) [1, 2, 3, 0] rfl (k1 _ (Option.some.inj h).symm)
set_option maxRecDepth 100000 in
theorem zt_X10_countWith_L7 {X : Zx} {p0 : Option Nat} {p1 : Option Nat} {x : Zm × Int32 × Int32} {y : Zm × Int32 × Int32} (h : zwhile (zf_X10_countWith_L7 p0 p1) x = some y) (hy : zK_X10_countWith_L7 X p0 p1 y) : zP_X10_countWith_L7 X p0 p1 x := by
  refine zwhile_ind (P := zP_X10_countWith_L7 X p0 p1) (K := zK_X10_countWith_L7 X p0 p1) ?_ h hy
  intro x z hf k1 k2
  obtain ⟨M, l2, l3⟩ := x
  have h : zf_X10_countWith_L7 p0 p1 (M, l2, l3) = some z := hf
  unfold zf_X10_countWith_L7 at h
  show zV X zC_X10_countWith M 7 [(0, .inr (.inr p0)), (1, .inr (.inr p1)), (2, .inl l2), (3, .inl l3)] []
  refine zV_b (pc' := 9) (lv' := [(0, .inr (.inr p0)), (1, .inr (.inr p1)), (2, .inl l2), (3, .inl l3)]) (st' := [.inr (.inr p1), .inl l3]) [(.iload_n 3, 1), (.aload_n 1, 1)] (by decide +kernel) rfl ?_
  refine zV_gi (by decide +kernel) zfl_RX10_17 (by decide) rfl (Or.inl rfl) h (fun v2 _ h => ?_)
  refine zV_icmp_ge (off := 35) (tgt := 47) (by decide +kernel) (by decide) h (fun c3 h => ?_) (fun c3 h => ?_)
  · exact zV_lv (lv' := [(2, .inl l2)]) [2] rfl (k2 _ (Option.some.inj h).symm)
  · refine zV_b (pc' := 18) (lv' := [(0, .inr (.inr p0)), (1, .inr (.inr p1)), (2, .inl l2), (3, .inl l3)]) (st' := [.inr (.inr p1), .inr (.inr p0), .inr (.inr p0)]) [(.aload_n 0, 1), (.aload_n 0, 1), (.aload_n 1, 1)] (by decide +kernel) rfl ?_
    refine zV_gr (by decide +kernel) zfl_RX10_7 (by decide) rfl h (fun v4 _ h => ?_)
    refine zV_b (pc' := 22) (lv' := [(0, .inr (.inr p0)), (1, .inr (.inr p1)), (2, .inl l2), (3, .inl l3)]) (st' := [.inl l3, .inr (.inr v4), .inr (.inr p0), .inr (.inr p0)]) [(.iload_n 3, 1)] (by decide +kernel) rfl ?_
    refine zV_ai (by decide +kernel) h (fun v5 _ h => ?_)
    refine zV_cvi (As := [.inl v5]) (st := [.inr (.inr p0)]) (c := 11) (by decide +kernel) (zcl_X10_indexOf (by decide) (by decide)) ⟨zw_809, zw_811, zw_22⟩ ⟨⟨_, _, rfl⟩, by decide⟩ rfl rfl (Nat.le_of_ble_eq_true rfl) h (fun _ _ e => zc_X10_indexOf e) (fun M6 v6 _ h => ?_)
    refine zV_b (pc' := 27) (lv' := [(0, .inr (.inr p0)), (1, .inr (.inr p1)), (2, .inl l2), (3, .inl l3)]) (st' := [.inr (.inr p1), .inl v6, .inr (.inr p0)]) [(.aload_n 1, 1)] (by decide +kernel) rfl ?_
    refine zV_gr (by decide +kernel) zfl_RX10_7 (by decide) rfl h (fun v7 _ h => ?_)
    refine zV_b (pc' := 31) (lv' := [(0, .inr (.inr p0)), (1, .inr (.inr p1)), (2, .inl l2), (3, .inl l3)]) (st' := [.inl l3, .inr (.inr v7), .inl v6, .inr (.inr p0)]) [(.iload_n 3, 1)] (by decide +kernel) rfl ?_
    refine zV_ai (by decide +kernel) h (fun v8 _ h => ?_)
    refine zV_cvi (As := [.inl v6, .inl v8]) (st := []) (c := 11) (by decide +kernel) (zcl_X10_isAt (by decide) (by decide)) ⟨zw_813, zw_815, zw_23⟩ ⟨⟨_, _, rfl⟩, by decide⟩ rfl rfl (Nat.le_of_ble_eq_true rfl) h (fun _ _ e => zc_X10_isAt e) (fun M9 v9 _ h => ?_)
    refine zV_if_ne (off := 6) (tgt := 41) (by decide +kernel) (by decide) h (fun c10 h => ?_) (fun c10 h => ?_)
    · refine zV_b (pc' := 41) (lv' := [(2, .inl (l2 + 1)), (0, .inr (.inr p0)), (1, .inr (.inr p1)), (3, .inl l3)]) (st' := []) [(.iinc 2 1, 3)] (by decide +kernel) rfl ?_
      exact zV_lv (lv' := [(0, .inr (.inr p0)), (1, .inr (.inr p1)), (2, .inl (l2 + 1)), (3, .inl l3)]) [1, 2, 0, 3] rfl (zt_X10_countWith_J41 h k1 k2)
    · exact zV_lv (lv' := [(0, .inr (.inr p0)), (1, .inr (.inr p1)), (2, .inl l2), (3, .inl l3)]) [0, 1, 2, 3] rfl (zt_X10_countWith_J41 h k1 k2)
set_option maxRecDepth 100000 in
theorem zt_X10_countWith {X : Zx} {M : Zm} {l0 : Option Nat} {l1 : Option Nat} {z : Zm × Int32} (h : zf_X10_countWith M l0 l1 = some z) (hR : zRi X zC_X10_countWith z.1 z.2) : zV X zC_X10_countWith M 0 [(0, .inr (.inr l0)), (1, .inr (.inr l1))] [] := by
  unfold zf_X10_countWith at h
  refine zV_b (pc' := 1) (lv' := [(0, .inr (.inr l0)), (1, .inr (.inr l1))]) (st' := [.inr (.inr l0)]) [(.aload_n 0, 1)] (by decide +kernel) rfl ?_
  refine zV_gi (by decide +kernel) zfl_RX10_17 (by decide) rfl (Or.inl rfl) h (fun v1 _ h => ?_)
  refine zV_b (pc' := 7) (lv' := [(3, .inl (0 : Int32)), (2, .inl v1), (0, .inr (.inr l0)), (1, .inr (.inr l1))]) (st' := []) [(.istore_n 2, 1), (.iconst 0, 1), (.istore_n 3, 1)] (by decide +kernel) rfl ?_
  obtain ⟨y12, e12, h⟩ := zb1_inv h
  refine zV_lv (lv' := [(0, .inr (.inr l0)), (1, .inr (.inr l1)), (2, .inl v1), (3, .inl (0 : Int32))]) [2, 3, 1, 0] rfl (zt_X10_countWith_L7 e12 ?_)
  obtain ⟨M7_12, l2_12, l3_12⟩ := y12
  show zV X zC_X10_countWith M7_12 47 [(2, .inl l2_12)] []
  refine zV_b (pc' := 48) (lv' := [(2, .inl l2_12)]) (st' := [.inl l2_12]) [(.iload_n 2, 1)] (by decide +kernel) rfl ?_
  exact zend_i h hR (by decide +kernel)
theorem zc_X10_countWith {M M' : Zm} {l0 : Option Nat} {l1 : Option Nat} {x : Int32} (h : zf_X10_countWith M l0 l1 = some (M', x)) (l : Launch) (D : va_G) (cy : Nat → ClassId) : zMet l yX10_countWith zC_X10_countWith (some .int) D cy [.inr (.inr l0), .inr (.inr l1)] M M' (some (.inl x)) :=
  zM_i (by decide) rfl (fun h => by cases h) (Nat.le_of_ble_eq_true rfl) (fun X hR => zt_X10_countWith h hR)
-- BlendCellar$Wine.subtract(LBlendCellar$Wine;)V
def zC_X10_subtract : Zc := (cX10_subtract, 3, RX10, 3, 72, false)
theorem zcl_X10_subtract {C : Zc} (h1 : zC_X10_subtract.2.2.2.1 + 1 ≤ C.2.2.2.1) (h2 : 8 + (zC_X10_subtract.2.1 + 11) + zC_X10_subtract.2.2.2.2.1 ≤ C.2.2.2.2.1) : zCl C yX10_subtract zC_X10_subtract none 1 := ⟨zw_1330, zw_109, ⟨by decide, by decide⟩, by decide +kernel, h1, h2⟩
noncomputable def zf_X10_subtract_L2 (p0 : Option Nat) (p1 : Option Nat) (x : Zm × Int32) : Option ((Zm × Int32) ⊕ (Zm × Int32)) := match x with
  | (M, l2) =>
  zb1 (zo_gi M p1 11 2) (fun v1 =>
  (if v1 ≤ l2 then
  some (.inr (M, l2))
  else
  zb1 (zo_gr M p1 11 0) (fun v3 =>
  zb1 (zo_ai M v3 l2) (fun v4 =>
  zb1 (zo_gr M p1 11 1) (fun v5 =>
  zb1 (zo_aj M v5 l2) (fun v6 =>
  zb1 (zo_rc M p0 11) (fun _ => zbd (zf_X10_add M p0 v4 (-v6)) (fun M7 _ =>
  some (.inl (M7, (l2 + 1)))))))))))
def zP_X10_subtract_L2 (X : Zx) (p0 : Option Nat) (p1 : Option Nat) (x : Zm × Int32) : Prop := match x with
  | (M, l2) => zV X zC_X10_subtract M 2 [(0, .inr (.inr p0)), (1, .inr (.inr p1)), (2, .inl l2)] []
def zK_X10_subtract_L2 (X : Zx) (p0 : Option Nat) (p1 : Option Nat) (y : Zm × Int32) : Prop := match y with
  | (M, l2) => zV X zC_X10_subtract M 33 [] []
noncomputable def zf_X10_subtract (M : Zm) (l0 : Option Nat) (l1 : Option Nat) : Option (Zm × Unit) :=
  zb1 (zwhile (zf_X10_subtract_L2 l0 l1) (M, (0 : Int32))) (fun y9 => match y9 with
  | (M2_9, l2_9) =>
  some (M2_9, ()))
set_option maxRecDepth 100000 in
theorem zt_X10_subtract_L2 {X : Zx} {p0 : Option Nat} {p1 : Option Nat} {x : Zm × Int32} {y : Zm × Int32} (h : zwhile (zf_X10_subtract_L2 p0 p1) x = some y) (hy : zK_X10_subtract_L2 X p0 p1 y) : zP_X10_subtract_L2 X p0 p1 x := by
  refine zwhile_ind (P := zP_X10_subtract_L2 X p0 p1) (K := zK_X10_subtract_L2 X p0 p1) ?_ h hy
  intro x z hf k1 k2
  obtain ⟨M, l2⟩ := x
  have h : zf_X10_subtract_L2 p0 p1 (M, l2) = some z := hf
  unfold zf_X10_subtract_L2 at h
  show zV X zC_X10_subtract M 2 [(0, .inr (.inr p0)), (1, .inr (.inr p1)), (2, .inl l2)] []
  refine zV_b (pc' := 4) (lv' := [(0, .inr (.inr p0)), (1, .inr (.inr p1)), (2, .inl l2)]) (st' := [.inr (.inr p1), .inl l2]) [(.iload_n 2, 1), (.aload_n 1, 1)] (by decide +kernel) rfl ?_
  refine zV_gi (by decide +kernel) zfl_RX10_17 (by decide) rfl (Or.inl rfl) h (fun v1 _ h => ?_)
  refine zV_icmp_ge (off := 26) (tgt := 33) (by decide +kernel) (by decide) h (fun c2 h => ?_) (fun c2 h => ?_)
  · exact zV_lv (lv' := []) [] rfl (k2 _ (Option.some.inj h).symm)
  · refine zV_b (pc' := 12) (lv' := [(0, .inr (.inr p0)), (1, .inr (.inr p1)), (2, .inl l2)]) (st' := [.inr (.inr p1), .inr (.inr p0)]) [(.aload_n 0, 1), (.aload_n 1, 1)] (by decide +kernel) rfl ?_
    refine zV_gr (by decide +kernel) zfl_RX10_7 (by decide) rfl h (fun v3 _ h => ?_)
    refine zV_b (pc' := 16) (lv' := [(0, .inr (.inr p0)), (1, .inr (.inr p1)), (2, .inl l2)]) (st' := [.inl l2, .inr (.inr v3), .inr (.inr p0)]) [(.iload_n 2, 1)] (by decide +kernel) rfl ?_
    refine zV_ai (by decide +kernel) h (fun v4 _ h => ?_)
    refine zV_b (pc' := 18) (lv' := [(0, .inr (.inr p0)), (1, .inr (.inr p1)), (2, .inl l2)]) (st' := [.inr (.inr p1), .inl v4, .inr (.inr p0)]) [(.aload_n 1, 1)] (by decide +kernel) rfl ?_
    refine zV_gr (by decide +kernel) zfl_RX10_13 (by decide) rfl h (fun v5 _ h => ?_)
    refine zV_b (pc' := 22) (lv' := [(0, .inr (.inr p0)), (1, .inr (.inr p1)), (2, .inl l2)]) (st' := [.inl l2, .inr (.inr v5), .inl v4, .inr (.inr p0)]) [(.iload_n 2, 1)] (by decide +kernel) rfl ?_
    refine zV_aj (by decide +kernel) h (fun v6 _ h => ?_)
    refine zV_b (pc' := 24) (lv' := [(0, .inr (.inr p0)), (1, .inr (.inr p1)), (2, .inl l2)]) (st' := [.inr (.inl (-v6)), .inl v4, .inr (.inr p0)]) [(.lneg, 1)] (by decide +kernel) rfl ?_
    refine zV_cvv (As := [.inl v4, .inr (.inl (-v6))]) (st := []) (c := 11) (by decide +kernel) (zcl_X10_add (by decide) (by decide)) ⟨zw_1331, zw_823, zw_824⟩ ⟨⟨_, _, rfl⟩, by decide⟩ rfl rfl (Nat.le_of_ble_eq_true rfl) h (fun _ _ e => zc_X10_add e) (fun M7 _ _ h => ?_)
    refine zV_b (pc' := 30) (lv' := [(2, .inl (l2 + 1)), (0, .inr (.inr p0)), (1, .inr (.inr p1))]) (st' := []) [(.iinc 2 1, 3)] (by decide +kernel) rfl ?_
    refine zV_goto (off := (-28)) (tgt := 2) (by decide +kernel) (by decide) ?_
    exact zV_lv (lv' := [(0, .inr (.inr p0)), (1, .inr (.inr p1)), (2, .inl (l2 + 1))]) [1, 2, 0] rfl (k1 _ (Option.some.inj h).symm)
set_option maxRecDepth 100000 in
theorem zt_X10_subtract {X : Zx} {M : Zm} {l0 : Option Nat} {l1 : Option Nat} {z : Zm × Unit} (h : zf_X10_subtract M l0 l1 = some z) (hR : zRv X zC_X10_subtract z.1) : zV X zC_X10_subtract M 0 [(0, .inr (.inr l0)), (1, .inr (.inr l1))] [] := by
  unfold zf_X10_subtract at h
  refine zV_b (pc' := 2) (lv' := [(2, .inl (0 : Int32)), (0, .inr (.inr l0)), (1, .inr (.inr l1))]) (st' := []) [(.iconst 0, 1), (.istore_n 2, 1)] (by decide +kernel) rfl ?_
  obtain ⟨y9, e9, h⟩ := zb1_inv h
  refine zV_lv (lv' := [(0, .inr (.inr l0)), (1, .inr (.inr l1)), (2, .inl (0 : Int32))]) [1, 2, 0] rfl (zt_X10_subtract_L2 e9 ?_)
  obtain ⟨M2_9, l2_9⟩ := y9
  show zV X zC_X10_subtract M2_9 33 [] []
  exact zend_v h hR (by decide +kernel)
theorem zc_X10_subtract {M M' : Zm} {l0 : Option Nat} {l1 : Option Nat} {x : Unit} (h : zf_X10_subtract M l0 l1 = some (M', x)) (l : Launch) (D : va_G) (cy : Nat → ClassId) : zMet l yX10_subtract zC_X10_subtract none D cy [.inr (.inr l0), .inr (.inr l1)] M M' none :=
  zM_v (by decide) rfl (fun h => by cases h) (Nat.le_of_ble_eq_true rfl) (fun X hR => zt_X10_subtract h hR)
