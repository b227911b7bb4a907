/-! What the bytecode does, as functions of the memory, and the walks (written by wip/gen.py). -/
-- java/util/AbstractCollection.<init>()V
def zC_Jxa1e45_init_da8c8 : Zc := (cJxa1e45_init_da8c8, 1, RJxa1e45, 1, 12, true)
theorem zcl_Jxa1e45_init_da8c8 {C : Zc} (h1 : zC_Jxa1e45_init_da8c8.2.2.2.1 + 1 ≤ C.2.2.2.1) (h2 : 8 + (zC_Jxa1e45_init_da8c8.2.1 + 11) + zC_Jxa1e45_init_da8c8.2.2.2.2.1 ≤ C.2.2.2.2.1) : zCl C yJxa1e45_init_da8c8 zC_Jxa1e45_init_da8c8 none 0 := ⟨zw_141, zw_102, ⟨by decide, by decide⟩, by decide +kernel, h1, h2⟩
noncomputable def zf_Jxa1e45_init_da8c8 (M : Zm) (l0 : Option Nat) : Option (Zm × Unit) :=
  zb1 (zo_rc M l0 0) (fun _ =>
  some (M, ()))
set_option maxRecDepth 100000 in
theorem zt_Jxa1e45_init_da8c8 {X : Zx} {M : Zm} {l0 : Option Nat} {z : Zm × Unit} (h : zf_Jxa1e45_init_da8c8 M l0 = some z) (hR : zRv X zC_Jxa1e45_init_da8c8 z.1) : zV X zC_Jxa1e45_init_da8c8 M 0 [(0, .inr (.inr l0))] [] := by
  unfold zf_Jxa1e45_init_da8c8 at h
  refine zV_b (pc' := 1) (lv' := [(0, .inr (.inr l0))]) (st' := [.inr (.inr l0)]) [(.aload_n 0, 1)] (by decide +kernel) rfl ?_
  refine zV_oo (by decide +kernel) zw_142 (by decide) (by decide) h (fun _ _ h => ?_)
  exact zend_v h hR (by decide +kernel)
theorem zc_Jxa1e45_init_da8c8 {M M' : Zm} {l0 : Option Nat} {x : Unit} (h : zf_Jxa1e45_init_da8c8 M l0 = some (M', x)) (l : Launch) (D : va_G) (cy : Nat → ClassId) : zMet l yJxa1e45_init_da8c8 zC_Jxa1e45_init_da8c8 none D cy [.inr (.inr l0)] M M' none :=
  zM_v (by decide) rfl (fun _ => rfl) (Nat.le_of_ble_eq_true rfl) (fun X hR => zt_Jxa1e45_init_da8c8 h hR)
-- java/util/AbstractList.<init>()V
def zC_Jxc12de_init_da8c8 : Zc := (cJxc12de_init_da8c8, 1, RJxc12de, 2, 32, true)
theorem zcl_Jxc12de_init_da8c8 {C : Zc} (h1 : zC_Jxc12de_init_da8c8.2.2.2.1 + 1 ≤ C.2.2.2.1) (h2 : 8 + (zC_Jxc12de_init_da8c8.2.1 + 11) + zC_Jxc12de_init_da8c8.2.2.2.2.1 ≤ C.2.2.2.2.1) : zCl C yJxc12de_init_da8c8 zC_Jxc12de_init_da8c8 none 0 := ⟨zw_138, zw_103, ⟨by decide, by decide⟩, by decide +kernel, h1, h2⟩
noncomputable def zf_Jxc12de_init_da8c8 (M : Zm) (l0 : Option Nat) : Option (Zm × Unit) :=
  zb1 (zo_rc M l0 0) (fun _ => zbd (zf_Jxa1e45_init_da8c8 M l0) (fun M1 _ =>
  zb1 (zo_pi M1 l0 0 0 (0 : Int32)) (fun M2 =>
  some (M2, ()))))
set_option maxRecDepth 100000 in
theorem zt_Jxc12de_init_da8c8 {X : Zx} {M : Zm} {l0 : Option Nat} {z : Zm × Unit} (h : zf_Jxc12de_init_da8c8 M l0 = some z) (hR : zRv X zC_Jxc12de_init_da8c8 z.1) : zV X zC_Jxc12de_init_da8c8 M 0 [(0, .inr (.inr l0))] [] := by
  unfold zf_Jxc12de_init_da8c8 at h
  refine zV_b (pc' := 1) (lv' := [(0, .inr (.inr l0))]) (st' := [.inr (.inr l0)]) [(.aload_n 0, 1)] (by decide +kernel) rfl ?_
  refine zV_cii (As := []) (st := []) (c := 0) (by decide +kernel) (zcl_Jxa1e45_init_da8c8 (by decide) (by decide)) ⟨zw_139, rfl, zw_140⟩ rfl rfl (Nat.le_of_ble_eq_true rfl) h (fun _ _ e => zc_Jxa1e45_init_da8c8 e) (fun M1 _ _ h => ?_)
  refine zV_b (pc' := 6) (lv' := [(0, .inr (.inr l0))]) (st' := [.inl (0 : Int32), .inr (.inr l0)]) [(.aload_n 0, 1), (.iconst 0, 1)] (by decide +kernel) rfl ?_
  refine zV_pi (by decide +kernel) zfp_RJxc12de_7_i (by decide) rfl h (fun M2 _ h => ?_)
  exact zend_v h hR (by decide +kernel)
theorem zc_Jxc12de_init_da8c8 {M M' : Zm} {l0 : Option Nat} {x : Unit} (h : zf_Jxc12de_init_da8c8 M l0 = some (M', x)) (l : Launch) (D : va_G) (cy : Nat → ClassId) : zMet l yJxc12de_init_da8c8 zC_Jxc12de_init_da8c8 none D cy [.inr (.inr l0)] M M' none :=
  zM_v (by decide) rfl (fun _ => rfl) (Nat.le_of_ble_eq_true rfl) (fun X hR => zt_Jxc12de_init_da8c8 h hR)
-- java/util/ArrayList.<init>()V
def zC_Jx4a65c_init_da8c8 : Zc := (cJx4a65c_init_da8c8, 1, RJx4a65c, 3, 52, true)
theorem zcl_Jx4a65c_init_da8c8 {C : Zc} (h1 : zC_Jx4a65c_init_da8c8.2.2.2.1 + 1 ≤ C.2.2.2.1) (h2 : 8 + (zC_Jx4a65c_init_da8c8.2.1 + 11) + zC_Jx4a65c_init_da8c8.2.2.2.2.1 ≤ C.2.2.2.2.1) : zCl C yJx4a65c_init_da8c8 zC_Jx4a65c_init_da8c8 none 0 := ⟨zw_135, zw_104, ⟨by decide, by decide⟩, by decide +kernel, h1, h2⟩
noncomputable def zf_Jx4a65c_init_da8c8 (M : Zm) (l0 : Option Nat) : Option (Zm × Unit) :=
  zb1 (zo_rc M l0 0) (fun _ => zbd (zf_Jxc12de_init_da8c8 M l0) (fun M1 _ =>
  zb1 (zo_pr M1 l0 0 1 (some (zm_e M1))) (fun M3 =>
  some (M3, ()))))
set_option maxRecDepth 100000 in
theorem zt_Jx4a65c_init_da8c8 {X : Zx} {M : Zm} {l0 : Option Nat} {z : Zm × Unit} (h : zf_Jx4a65c_init_da8c8 M l0 = some z) (hR : zRv X zC_Jx4a65c_init_da8c8 z.1) : zV X zC_Jx4a65c_init_da8c8 M 0 [(0, .inr (.inr l0))] [] := by
  unfold zf_Jx4a65c_init_da8c8 at h
  refine zV_b (pc' := 1) (lv' := [(0, .inr (.inr l0))]) (st' := [.inr (.inr l0)]) [(.aload_n 0, 1)] (by decide +kernel) rfl ?_
  refine zV_cii (As := []) (st := []) (c := 0) (by decide +kernel) (zcl_Jxc12de_init_da8c8 (by decide) (by decide)) ⟨zw_136, rfl, zw_137⟩ rfl rfl (Nat.le_of_ble_eq_true rfl) h (fun _ _ e => zc_Jxc12de_init_da8c8 e) (fun M1 _ _ h => ?_)
  refine zV_b (pc' := 5) (lv' := [(0, .inr (.inr l0))]) (st' := [.inr (.inr l0)]) [(.aload_n 0, 1)] (by decide +kernel) rfl ?_
  refine zV_gs (by decide +kernel) zw_143 ?_
  refine zV_pr (by decide +kernel) zfp_RJx4a65c_9_i (Or.inr ⟨_, rfl⟩) (by decide) rfl h (fun M3 _ h => ?_)
  exact zend_v h hR (by decide +kernel)
theorem zc_Jx4a65c_init_da8c8 {M M' : Zm} {l0 : Option Nat} {x : Unit} (h : zf_Jx4a65c_init_da8c8 M l0 = some (M', x)) (l : Launch) (D : va_G) (cy : Nat → ClassId) : zMet l yJx4a65c_init_da8c8 zC_Jx4a65c_init_da8c8 none D cy [.inr (.inr l0)] M M' none :=
  zM_v (by decide) rfl (fun _ => rfl) (Nat.le_of_ble_eq_true rfl) (fun X hR => zt_Jx4a65c_init_da8c8 h hR)
-- java/util/ArrayList.clear()V
def zC_Jx4a65c_clear_da8c8 : Zc := (cJx4a65c_clear_da8c8, 4, RJx4a65c, 0, 0, false)
theorem zcl_Jx4a65c_clear_da8c8 {C : Zc} (h1 : zC_Jx4a65c_clear_da8c8.2.2.2.1 + 1 ≤ C.2.2.2.1) (h2 : 8 + (zC_Jx4a65c_clear_da8c8.2.1 + 11) + zC_Jx4a65c_clear_da8c8.2.2.2.2.1 ≤ C.2.2.2.2.1) : zCl C yJx4a65c_clear_da8c8 zC_Jx4a65c_clear_da8c8 none 0 := ⟨zw_484, zw_104, ⟨by decide, by decide⟩, by decide +kernel, h1, h2⟩
noncomputable def zf_Jx4a65c_clear_da8c8_L27 (p1 : Option Nat) (p2 : Int32) (x : Zm × Int32) : Option ((Zm × Int32) ⊕ (Zm × Int32)) := match x with
  | (M, l3) =>
  (if p2 ≤ l3 then
  some (.inr (M, l3))
  else
  zb1 (zo_sr M 19 14 p1 l3 none) (fun M7 =>
  some (.inl (M7, (l3 + 1)))))
def zP_Jx4a65c_clear_da8c8_L27 (X : Zx) (p1 : Option Nat) (p2 : Int32) (x : Zm × Int32) : Prop := match x with
  | (M, l3) => zV X zC_Jx4a65c_clear_da8c8 M 27 [(1, .inr (.inr p1)), (2, .inl p2), (3, .inl l3)] []
def zK_Jx4a65c_clear_da8c8_L27 (X : Zx) (p1 : Option Nat) (p2 : Int32) (y : Zm × Int32) : Prop := match y with
  | (M, l3) => zV X zC_Jx4a65c_clear_da8c8 M 42 [] []
noncomputable def zf_Jx4a65c_clear_da8c8 (M : Zm) (l0 : Option Nat) : Option (Zm × Unit) :=
  zb1 (zo_gi M l0 0 0) (fun v1 =>
  zb1 (zo_pi M l0 0 0 (v1 + (1 : Int32))) (fun M2 =>
  zb1 (zo_gr M2 l0 0 1) (fun v3 =>
  zb1 (zo_gi M2 l0 0 2) (fun v4 =>
  zb1 (zo_pi M2 l0 0 2 (0 : Int32)) (fun M5 =>
  zb1 (zwhile (zf_Jx4a65c_clear_da8c8_L27 v3 v4) (M5, (0 : Int32))) (fun y9 => match y9 with
  | (M27_9, l3_9) =>
  some (M27_9, ())))))))
set_option maxRecDepth 100000 in
theorem zt_Jx4a65c_clear_da8c8_L27 {X : Zx} {p1 : Option Nat} {p2 : Int32} {x : Zm × Int32} {y : Zm × Int32} (h : zwhile (zf_Jx4a65c_clear_da8c8_L27 p1 p2) x = some y) (hy : zK_Jx4a65c_clear_da8c8_L27 X p1 p2 y) : zP_Jx4a65c_clear_da8c8_L27 X p1 p2 x := by
  refine zwhile_ind (P := zP_Jx4a65c_clear_da8c8_L27 X p1 p2) (K := zK_Jx4a65c_clear_da8c8_L27 X p1 p2) ?_ h hy
  intro x z hf k1 k2
  obtain ⟨M, l3⟩ := x
  have h : zf_Jx4a65c_clear_da8c8_L27 p1 p2 (M, l3) = some z := hf
  unfold zf_Jx4a65c_clear_da8c8_L27 at h
  show zV X zC_Jx4a65c_clear_da8c8 M 27 [(1, .inr (.inr p1)), (2, .inl p2), (3, .inl l3)] []
  refine zV_b (pc' := 29) (lv' := [(1, .inr (.inr p1)), (2, .inl p2), (3, .inl l3)]) (st' := [.inl p2, .inl l3]) [(.iload_n 3, 1), (.iload_n 2, 1)] (by decide +kernel) rfl ?_
  refine zV_icmp_ge (off := 13) (tgt := 42) (by decide +kernel) (by decide) h (fun c6 h => ?_) (fun c6 h => ?_)
  · exact zV_lv (lv' := []) [] rfl (k2 _ (Option.some.inj h).symm)
  · refine zV_b (pc' := 35) (lv' := [(1, .inr (.inr p1)), (2, .inl p2), (3, .inl l3)]) (st' := [.inr (.inr none), .inl l3, .inr (.inr p1)]) [(.aload_n 1, 1), (.iload_n 3, 1), (.aconst_null, 1)] (by decide +kernel) rfl ?_
    refine zV_sr (by decide +kernel) (by decide) (by decide) (Or.inl ⟨rfl, rfl⟩) h (fun M7 _ h => ?_)
    refine zV_b (pc' := 39) (lv' := [(3, .inl (l3 + 1)), (1, .inr (.inr p1)), (2, .inl p2)]) (st' := []) [(.iinc 3 1, 3)] (by decide +kernel) rfl ?_
    refine zV_goto (off := (-12)) (tgt := 27) (by decide +kernel) (by decide) ?_
    exact zV_lv (lv' := [(1, .inr (.inr p1)), (2, .inl p2), (3, .inl (l3 + 1))]) [1, 2, 0] rfl (k1 _ (Option.some.inj h).symm)
set_option maxRecDepth 100000 in
theorem zt_Jx4a65c_clear_da8c8 {X : Zx} {M : Zm} {l0 : Option Nat} {z : Zm × Unit} (h : zf_Jx4a65c_clear_da8c8 M l0 = some z) (hR : zRv X zC_Jx4a65c_clear_da8c8 z.1) : zV X zC_Jx4a65c_clear_da8c8 M 0 [(0, .inr (.inr l0))] [] := by
  unfold zf_Jx4a65c_clear_da8c8 at h
  refine zV_b (pc' := 2) (lv' := [(0, .inr (.inr l0))]) (st' := [.inr (.inr l0), .inr (.inr l0)]) [(.aload_n 0, 1), (.dup, 1)] (by decide +kernel) rfl ?_
  refine zV_gi (by decide +kernel) zfl_RJx4a65c_63 (by decide) rfl (Or.inl rfl) h (fun v1 _ h => ?_)
  refine zV_b (pc' := 7) (lv' := [(0, .inr (.inr l0))]) (st' := [.inl (v1 + (1 : Int32)), .inr (.inr l0)]) [(.iconst 1, 1), (.iadd, 1)] (by decide +kernel) rfl ?_
  refine zV_pi (by decide +kernel) zfp_RJx4a65c_63 (by decide) rfl h (fun M2 _ h => ?_)
  refine zV_b (pc' := 11) (lv' := [(0, .inr (.inr l0))]) (st' := [.inr (.inr l0)]) [(.aload_n 0, 1)] (by decide +kernel) rfl ?_
  refine zV_gr (by decide +kernel) zfl_RJx4a65c_9 (by decide) rfl h (fun v3 _ h => ?_)
  refine zV_b (pc' := 16) (lv' := [(1, .inr (.inr v3)), (0, .inr (.inr l0))]) (st' := [.inr (.inr l0)]) [(.astore_n 1, 1), (.aload_n 0, 1)] (by decide +kernel) rfl ?_
  refine zV_gi (by decide +kernel) zfl_RJx4a65c_48 (by decide) rfl (Or.inl rfl) h (fun v4 _ h => ?_)
  refine zV_b (pc' := 23) (lv' := [(2, .inl v4), (1, .inr (.inr v3)), (0, .inr (.inr l0))]) (st' := [.inl (0 : Int32), .inr (.inr l0), .inl (0 : Int32)]) [(.istore_n 2, 1), (.aload_n 0, 1), (.iconst 0, 1), (.dup_x1, 1)] (by decide +kernel) rfl ?_
  refine zV_pi (by decide +kernel) zfp_RJx4a65c_48 (by decide) rfl h (fun M5 _ h => ?_)
  refine zV_b (pc' := 27) (lv' := [(3, .inl (0 : Int32)), (2, .inl v4), (1, .inr (.inr v3)), (0, .inr (.inr l0))]) (st' := []) [(.istore_n 3, 1)] (by decide +kernel) rfl ?_
  obtain ⟨y9, e9, h⟩ := zb1_inv h
  refine zV_lv (lv' := [(1, .inr (.inr v3)), (2, .inl v4), (3, .inl (0 : Int32))]) [2, 1, 0] rfl (zt_Jx4a65c_clear_da8c8_L27 e9 ?_)
  obtain ⟨M27_9, l3_9⟩ := y9
  show zV X zC_Jx4a65c_clear_da8c8 M27_9 42 [] []
  exact zend_v h hR (by decide +kernel)
theorem zc_Jx4a65c_clear_da8c8 {M M' : Zm} {l0 : Option Nat} {x : Unit} (h : zf_Jx4a65c_clear_da8c8 M l0 = some (M', x)) (l : Launch) (D : va_G) (cy : Nat → ClassId) : zMet l yJx4a65c_clear_da8c8 zC_Jx4a65c_clear_da8c8 none D cy [.inr (.inr l0)] M M' none :=
  zM_v (by decide) rfl (fun h => by cases h) (Nat.le_of_ble_eq_true rfl) (fun X hR => zt_Jx4a65c_clear_da8c8 h hR)
-- java/util/Arrays.copyOf([Ljava/lang/Object;ILjava/lang/Class;)[Ljava/lang/Object;
def zC_J7_copyOf_6403c : Zc := (cJ7_copyOf_6403c, 4, RJ7, 1, 26, false)
theorem zcl_J7_copyOf_6403c {C : Zc} (h1 : zC_J7_copyOf_6403c.2.2.2.1 + 1 ≤ C.2.2.2.1) (h2 : 8 + (zC_J7_copyOf_6403c.2.1 + 11) + zC_J7_copyOf_6403c.2.2.2.2.1 ≤ C.2.2.2.2.1) : zCl C yJ7_copyOf_6403c zC_J7_copyOf_6403c (some (.array (.object "java/lang/Object"))) 3 := ⟨zw_642, zw_116, ⟨by decide, by decide⟩, by decide +kernel, h1, h2⟩
noncomputable def zf_J7_copyOf_6403c_J24 (M : Zm) (l0 : Option Nat) (l1 : Int32) (s0 : Option Nat) : Option (Zm × Option Nat) :=
  zb1 (zo_al M l0) (fun v5 =>
  zb1 (zo_cr M l0 (0 : Int32) s0 (0 : Int32) (zmini v5 l1)) (fun M7 =>
  some (M7, s0)))
noncomputable def zf_J7_copyOf_6403c (M : Zm) (l0 : Option Nat) (l1 : Int32) (l2 : Option Nat) : Option (Zm × Option Nat) :=
  (if l2 = (some (zm_h M)) then
  zb1 (zo_na M 19 l1) (fun M3 =>
  zf_J7_copyOf_6403c_J24 M3 l0 l1 (zm_nx M))
  else
  none)
set_option maxRecDepth 100000 in
theorem zt_J7_copyOf_6403c_J24 {X : Zx} {M : Zm} {l0 : Option Nat} {l1 : Int32} {s0 : Option Nat} {z : Zm × Option Nat} (h : zf_J7_copyOf_6403c_J24 M l0 l1 s0 = some z) (hR : zRr X zC_J7_copyOf_6403c z.1 z.2) : zV X zC_J7_copyOf_6403c M 24 [(0, .inr (.inr l0)), (1, .inl l1)] [.inr (.inr s0)] := by
  unfold zf_J7_copyOf_6403c_J24 at h
  refine zV_b (pc' := 30) (lv' := [(3, .inr (.inr s0)), (0, .inr (.inr l0)), (1, .inl l1)]) (st' := [.inr (.inr l0), .inl (0 : Int32), .inr (.inr s0), .inl (0 : Int32), .inr (.inr l0)]) [(.astore_n 3, 1), (.aload_n 0, 1), (.iconst 0, 1), (.aload_n 3, 1), (.iconst 0, 1), (.aload_n 0, 1)] (by decide +kernel) rfl ?_
  refine zV_al (by decide +kernel) h (fun v5 _ h => ?_)
  refine zV_b (pc' := 32) (lv' := [(3, .inr (.inr s0)), (0, .inr (.inr l0)), (1, .inl l1)]) (st' := [.inl l1, .inl v5, .inl (0 : Int32), .inr (.inr s0), .inl (0 : Int32), .inr (.inr l0)]) [(.iload_n 1, 1)] (by decide +kernel) rfl ?_
  refine zV_mini (st := [.inl (0 : Int32), .inr (.inr s0), .inl (0 : Int32), .inr (.inr l0)]) (by decide +kernel) zw_646 (by decide) (Nat.le_of_ble_eq_true rfl) ?_
  refine zV_cr (by decide +kernel) zw_649 (by decide) (Nat.le_of_ble_eq_true rfl) h (fun M7 _ h => ?_)
  refine zV_b (pc' := 39) (lv' := [(3, .inr (.inr s0)), (0, .inr (.inr l0)), (1, .inl l1)]) (st' := [.inr (.inr s0)]) [(.aload_n 3, 1)] (by decide +kernel) rfl ?_
  exact zend_r h hR (by decide +kernel)
set_option maxRecDepth 100000 in
theorem zt_J7_copyOf_6403c {X : Zx} {M : Zm} {l0 : Option Nat} {l1 : Int32} {l2 : Option Nat} {z : Zm × Option Nat} (h : zf_J7_copyOf_6403c M l0 l1 l2 = some z) (hR : zRr X zC_J7_copyOf_6403c z.1 z.2) : zV X zC_J7_copyOf_6403c M 0 [(0, .inr (.inr l0)), (1, .inl l1), (2, .inr (.inr l2))] [] := by
  unfold zf_J7_copyOf_6403c at h
  refine zV_b (pc' := 1) (lv' := [(0, .inr (.inr l0)), (1, .inl l1), (2, .inr (.inr l2))]) (st' := [.inr (.inr l2)]) [(.aload_n 2, 1)] (by decide +kernel) rfl ?_
  refine zV_lk (by decide +kernel) zw_643 ?_
  refine zV_acmp_ne (off := 10) (tgt := 13) (by decide +kernel) (by decide) h (fun c2 h => ?_) (fun c2 h => ?_)
  · refine zV_b (pc' := 7) (lv' := [(0, .inr (.inr l0)), (1, .inl l1), (2, .inr (.inr l2))]) (st' := [.inl l1]) [(.iload_n 1, 1)] (by decide +kernel) rfl ?_
    refine zV_nr (k := 19) (by decide +kernel) (by decide) (by decide) zw_645 h (fun M3 _ h => ?_)
    refine zV_goto (off := 14) (tgt := 24) (by decide +kernel) (by decide) ?_
    exact zV_lv (lv' := [(0, .inr (.inr l0)), (1, .inl l1)]) [0, 1] rfl (zt_J7_copyOf_6403c_J24 h hR)
  · refine zV_b (pc' := 14) (lv' := [(0, .inr (.inr l0)), (1, .inl l1), (2, .inr (.inr l2))]) (st' := [.inr (.inr l2)]) [(.aload_n 2, 1)] (by decide +kernel) rfl ?_
    cases h
theorem zc_J7_copyOf_6403c {M M' : Zm} {l0 : Option Nat} {l1 : Int32} {l2 : Option Nat} {x : Option Nat} (h : zf_J7_copyOf_6403c M l0 l1 l2 = some (M', x)) (l : Launch) (D : va_G) (cy : Nat → ClassId) : zMet l yJ7_copyOf_6403c zC_J7_copyOf_6403c (some (.array (.object "java/lang/Object"))) D cy [.inr (.inr l0), .inl l1, .inr (.inr l2)] M M' (some (.inr (.inr x))) :=
  zM_r (Or.inr ⟨_, rfl⟩) (by decide) rfl (fun h => by cases h) (Nat.le_of_ble_eq_true rfl) (fun X hR => zt_J7_copyOf_6403c h hR)
-- java/util/Arrays.copyOf([Ljava/lang/Object;I)[Ljava/lang/Object;
def zC_J7_copyOf_1904c : Zc := (cJ7_copyOf_1904c, 2, RJ7, 2, 49, false)
theorem zcl_J7_copyOf_1904c {C : Zc} (h1 : zC_J7_copyOf_1904c.2.2.2.1 + 1 ≤ C.2.2.2.1) (h2 : 8 + (zC_J7_copyOf_1904c.2.1 + 11) + zC_J7_copyOf_1904c.2.2.2.2.1 ≤ C.2.2.2.2.1) : zCl C yJ7_copyOf_1904c zC_J7_copyOf_1904c (some (.array (.object "java/lang/Object"))) 2 := ⟨zw_621, zw_116, ⟨by decide, by decide⟩, by decide +kernel, h1, h2⟩
noncomputable def zf_J7_copyOf_1904c (M : Zm) (l0 : Option Nat) (l1 : Int32) : Option (Zm × Option Nat) :=
  zb1 (zo_rc M l0 19) (fun _ =>
  zbd (zf_J7_copyOf_6403c M l0 l1 (some (zm_h M))) (fun M2 v2 =>
  some (M2, v2)))
set_option maxRecDepth 100000 in
theorem zt_J7_copyOf_1904c {X : Zx} {M : Zm} {l0 : Option Nat} {l1 : Int32} {z : Zm × Option Nat} (h : zf_J7_copyOf_1904c M l0 l1 = some z) (hR : zRr X zC_J7_copyOf_1904c z.1 z.2) : zV X zC_J7_copyOf_1904c M 0 [(0, .inr (.inr l0)), (1, .inl l1)] [] := by
  unfold zf_J7_copyOf_1904c at h
  refine zV_b (pc' := 3) (lv' := [(0, .inr (.inr l0)), (1, .inl l1)]) (st' := [.inr (.inr l0), .inl l1, .inr (.inr l0)]) [(.aload_n 0, 1), (.iload_n 1, 1), (.aload_n 0, 1)] (by decide +kernel) rfl ?_
  refine zV_gc (by decide +kernel) zw_622 (by decide) (Nat.le_of_ble_eq_true rfl) h (fun _ _ h => ?_)
  refine zV_csr (As := [.inr (.inr l0), .inl l1, .inr (.inr (some (zm_h M)))]) (st := []) (by decide +kernel) (zcl_J7_copyOf_6403c (by decide) (by decide)) ⟨zw_640, zw_641⟩ rfl rfl (Nat.le_of_ble_eq_true rfl) h (fun _ _ e => zc_J7_copyOf_6403c e) (fun M2 v2 _ h => ?_)
  exact zend_r h hR (by decide +kernel)
theorem zc_J7_copyOf_1904c {M M' : Zm} {l0 : Option Nat} {l1 : Int32} {x : Option Nat} (h : zf_J7_copyOf_1904c M l0 l1 = some (M', x)) (l : Launch) (D : va_G) (cy : Nat → ClassId) : zMet l yJ7_copyOf_1904c zC_J7_copyOf_1904c (some (.array (.object "java/lang/Object"))) D cy [.inr (.inr l0), .inl l1] M M' (some (.inr (.inr x))) :=
  zM_r (Or.inr ⟨_, rfl⟩) (by decide) rfl (fun h => by cases h) (Nat.le_of_ble_eq_true rfl) (fun X hR => zt_J7_copyOf_1904c h hR)
-- jdk/internal/util/ArraysSupport.newLength(III)I
def zC_J8_newLength_cabcc : Zc := (cJ8_newLength_cabcc, 4, RJ8, 1, 23, false)
theorem zcl_J8_newLength_cabcc {C : Zc} (h1 : zC_J8_newLength_cabcc.2.2.2.1 + 1 ≤ C.2.2.2.1) (h2 : 8 + (zC_J8_newLength_cabcc.2.1 + 11) + zC_J8_newLength_cabcc.2.2.2.2.1 ≤ C.2.2.2.2.1) : zCl C yJ8_newLength_cabcc zC_J8_newLength_cabcc (some .int) 3 := ⟨zw_613, zw_118, ⟨by decide, by decide⟩, by decide +kernel, h1, h2⟩
noncomputable def zf_J8_newLength_cabcc_J21 (M : Zm) (l0 : Int32) (l1 : Int32) : Option (Zm × Int32) :=
  none
noncomputable def zf_J8_newLength_cabcc (M : Zm) (l0 : Int32) (l1 : Int32) (l2 : Int32) : Option (Zm × Int32) :=
  (if (l0 + (zmaxi l1 l2)) ≤ (0 : Int32) then
  zf_J8_newLength_cabcc_J21 M l0 l1
  else
  (if (2147483639 : Int32) < (l0 + (zmaxi l1 l2)) then
  zf_J8_newLength_cabcc_J21 M l0 l1
  else
  some (M, (l0 + (zmaxi l1 l2)))))
set_option maxRecDepth 100000 in
theorem zt_J8_newLength_cabcc_J21 {X : Zx} {M : Zm} {l0 : Int32} {l1 : Int32} {z : Zm × Int32} (h : zf_J8_newLength_cabcc_J21 M l0 l1 = some z) (hR : zRi X zC_J8_newLength_cabcc z.1 z.2) : zV X zC_J8_newLength_cabcc M 21 [(0, .inl l0), (1, .inl l1)] [] := by
  unfold zf_J8_newLength_cabcc_J21 at h
  refine zV_b (pc' := 23) (lv' := [(0, .inl l0), (1, .inl l1)]) (st' := [.inl l1, .inl l0]) [(.iload_n 0, 1), (.iload_n 1, 1)] (by decide +kernel) rfl ?_
  cases h
set_option maxRecDepth 100000 in
theorem zt_J8_newLength_cabcc {X : Zx} {M : Zm} {l0 : Int32} {l1 : Int32} {l2 : Int32} {z : Zm × Int32} (h : zf_J8_newLength_cabcc M l0 l1 l2 = some z) (hR : zRi X zC_J8_newLength_cabcc z.1 z.2) : zV X zC_J8_newLength_cabcc M 0 [(0, .inl l0), (1, .inl l1), (2, .inl l2)] [] := by
  unfold zf_J8_newLength_cabcc at h
  refine zV_b (pc' := 3) (lv' := [(0, .inl l0), (1, .inl l1), (2, .inl l2)]) (st' := [.inl l2, .inl l1, .inl l0]) [(.iload_n 0, 1), (.iload_n 1, 1), (.iload_n 2, 1)] (by decide +kernel) rfl ?_
  refine zV_maxi (st := [.inl l0]) (by decide +kernel) zw_614 (by decide) (Nat.le_of_ble_eq_true rfl) ?_
  refine zV_b (pc' := 10) (lv' := [(3, .inl (l0 + (zmaxi l1 l2))), (0, .inl l0), (1, .inl l1), (2, .inl l2)]) (st' := [.inl (l0 + (zmaxi l1 l2)), .inl (0 : Int32)]) [(.iadd, 1), (.istore_n 3, 1), (.iconst 0, 1), (.iload_n 3, 1)] (by decide +kernel) rfl ?_
  refine zV_icmp_ge (off := 11) (tgt := 21) (by decide +kernel) (by decide) h (fun c2 h => ?_) (fun c2 h => ?_)
  · exact zV_lv (lv' := [(0, .inl l0), (1, .inl l1)]) [1, 2] rfl (zt_J8_newLength_cabcc_J21 h hR)
  · refine zV_b (pc' := 14) (lv' := [(3, .inl (l0 + (zmaxi l1 l2))), (0, .inl l0), (1, .inl l1), (2, .inl l2)]) (st' := [.inl (l0 + (zmaxi l1 l2))]) [(.iload_n 3, 1)] (by decide +kernel) rfl ?_
    refine zV_ldc (by decide +kernel) zw_615 ?_
    refine zV_icmp_gt (off := 5) (tgt := 21) (by decide +kernel) (by decide) h (fun c5 h => ?_) (fun c5 h => ?_)
    · exact zV_lv (lv' := [(0, .inl l0), (1, .inl l1)]) [1, 2] rfl (zt_J8_newLength_cabcc_J21 h hR)
    · refine zV_b (pc' := 20) (lv' := [(3, .inl (l0 + (zmaxi l1 l2))), (0, .inl l0), (1, .inl l1), (2, .inl l2)]) (st' := [.inl (l0 + (zmaxi l1 l2))]) [(.iload_n 3, 1)] (by decide +kernel) rfl ?_
      exact zend_i h hR (by decide +kernel)
theorem zc_J8_newLength_cabcc {M M' : Zm} {l0 : Int32} {l1 : Int32} {l2 : Int32} {x : Int32} (h : zf_J8_newLength_cabcc M l0 l1 l2 = some (M', x)) (l : Launch) (D : va_G) (cy : Nat → ClassId) : zMet l yJ8_newLength_cabcc zC_J8_newLength_cabcc (some .int) D cy [.inl l0, .inl l1, .inl l2] M M' (some (.inl x)) :=
  zM_i (by decide) rfl (fun h => by cases h) (Nat.le_of_ble_eq_true rfl) (fun X hR => zt_J8_newLength_cabcc h hR)
-- java/util/ArrayList.grow(I)[Ljava/lang/Object;
def zC_Jx4a65c_grow_92f84 : Zc := (cJx4a65c_grow_92f84, 4, RJx4a65c, 3, 70, false)
theorem zcl_Jx4a65c_grow_92f84 {C : Zc} (h1 : zC_Jx4a65c_grow_92f84.2.2.2.1 + 1 ≤ C.2.2.2.1) (h2 : 8 + (zC_Jx4a65c_grow_92f84.2.1 + 11) + zC_Jx4a65c_grow_92f84.2.2.2.2.1 ≤ C.2.2.2.2.1) : zCl C yJx4a65c_grow_92f84 zC_Jx4a65c_grow_92f84 (some (.array (.object "java/lang/Object"))) 1 := ⟨zw_610, zw_104, ⟨by decide, by decide⟩, by decide +kernel, h1, h2⟩
noncomputable def zf_Jx4a65c_grow_92f84_J20 (M : Zm) (l0 : Option Nat) (l1 : Int32) (l2 : Int32) : Option (Zm × Option Nat) :=
  zbd (zf_J8_newLength_cabcc M l2 (l1 - l2) (l2 >>> ((1 : Int32) &&& 31))) (fun M4 v4 =>
  zb1 (zo_gr M4 l0 0 1) (fun v5 =>
  zbd (zf_J7_copyOf_1904c M4 v5 v4) (fun M6 v6 =>
  zb1 (zo_pr M6 l0 0 1 v6) (fun M7 =>
  some (M7, v6)))))
noncomputable def zf_Jx4a65c_grow_92f84 (M : Zm) (l0 : Option Nat) (l1 : Int32) : Option (Zm × Option Nat) :=
  zb1 (zo_gr M l0 0 1) (fun v1 =>
  zb1 (zo_al M v1) (fun v2 =>
  (if 0 < v2 then
  zf_Jx4a65c_grow_92f84_J20 M l0 l1 v2
  else
  zb1 (zo_gr M l0 0 1) (fun v9 =>
  (if v9 = (some (zm_e M)) then
  zb1 (zo_na M 19 (zmaxi (10 : Int32) l1)) (fun M13 =>
  zb1 (zo_pr M13 l0 0 1 (zm_nx M)) (fun M14 =>
  some (M14, (zm_nx M))))
  else
  zf_Jx4a65c_grow_92f84_J20 M l0 l1 v2)))))
set_option maxRecDepth 100000 in
theorem zt_Jx4a65c_grow_92f84_J20 {X : Zx} {M : Zm} {l0 : Option Nat} {l1 : Int32} {l2 : Int32} {z : Zm × Option Nat} (h : zf_Jx4a65c_grow_92f84_J20 M l0 l1 l2 = some z) (hR : zRr X zC_Jx4a65c_grow_92f84 z.1 z.2) : zV X zC_Jx4a65c_grow_92f84 M 20 [(0, .inr (.inr l0)), (1, .inl l1), (2, .inl l2)] [] := by
  unfold zf_Jx4a65c_grow_92f84_J20 at h
  refine zV_b (pc' := 27) (lv' := [(0, .inr (.inr l0)), (1, .inl l1), (2, .inl l2)]) (st' := [.inl (l2 >>> ((1 : Int32) &&& 31)), .inl (l1 - l2), .inl l2]) [(.iload_n 2, 1), (.iload_n 1, 1), (.iload_n 2, 1), (.isub, 1), (.iload_n 2, 1), (.iconst 1, 1), (.ishr, 1)] (by decide +kernel) rfl ?_
  refine zV_csi (As := [.inl l2, .inl (l1 - l2), .inl (l2 >>> ((1 : Int32) &&& 31))]) (st := []) (by decide +kernel) (zcl_J8_newLength_cabcc (by decide) (by decide)) ⟨zw_611, zw_612⟩ rfl rfl (Nat.le_of_ble_eq_true rfl) h (fun _ _ e => zc_J8_newLength_cabcc e) (fun M4 v4 _ h => ?_)
  refine zV_b (pc' := 33) (lv' := [(3, .inl v4), (0, .inr (.inr l0)), (1, .inl l1), (2, .inl l2)]) (st' := [.inr (.inr l0), .inr (.inr l0)]) [(.istore_n 3, 1), (.aload_n 0, 1), (.aload_n 0, 1)] (by decide +kernel) rfl ?_
  refine zV_gr (by decide +kernel) zfl_RJx4a65c_9 (by decide) rfl h (fun v5 _ h => ?_)
  refine zV_b (pc' := 37) (lv' := [(3, .inl v4), (0, .inr (.inr l0)), (1, .inl l1), (2, .inl l2)]) (st' := [.inl v4, .inr (.inr v5), .inr (.inr l0)]) [(.iload_n 3, 1)] (by decide +kernel) rfl ?_
  refine zV_csr (As := [.inr (.inr v5), .inl v4]) (st := [.inr (.inr l0)]) (by decide +kernel) (zcl_J7_copyOf_1904c (by decide) (by decide)) ⟨zw_619, zw_620⟩ rfl rfl (Nat.le_of_ble_eq_true rfl) h (fun _ _ e => zc_J7_copyOf_1904c e) (fun M6 v6 _ h => ?_)
  refine zV_b (pc' := 41) (lv' := [(3, .inl v4), (0, .inr (.inr l0)), (1, .inl l1), (2, .inl l2)]) (st' := [.inr (.inr v6), .inr (.inr l0), .inr (.inr v6)]) [(.dup_x1, 1)] (by decide +kernel) rfl ?_
  refine zV_pr (by decide +kernel) zfp_RJx4a65c_9 (Or.inr ⟨_, rfl⟩) (by decide) rfl h (fun M7 _ h => ?_)
  exact zend_r h hR (by decide +kernel)
set_option maxRecDepth 100000 in
theorem zt_Jx4a65c_grow_92f84 {X : Zx} {M : Zm} {l0 : Option Nat} {l1 : Int32} {z : Zm × Option Nat} (h : zf_Jx4a65c_grow_92f84 M l0 l1 = some z) (hR : zRr X zC_Jx4a65c_grow_92f84 z.1 z.2) : zV X zC_Jx4a65c_grow_92f84 M 0 [(0, .inr (.inr l0)), (1, .inl l1)] [] := by
  unfold zf_Jx4a65c_grow_92f84 at h
  refine zV_b (pc' := 1) (lv' := [(0, .inr (.inr l0)), (1, .inl l1)]) (st' := [.inr (.inr l0)]) [(.aload_n 0, 1)] (by decide +kernel) rfl ?_
  refine zV_gr (by decide +kernel) zfl_RJx4a65c_9 (by decide) rfl h (fun v1 _ h => ?_)
  refine zV_al (by decide +kernel) h (fun v2 _ h => ?_)
  refine zV_b (pc' := 7) (lv' := [(2, .inl v2), (0, .inr (.inr l0)), (1, .inl l1)]) (st' := [.inl v2]) [(.istore_n 2, 1), (.iload_n 2, 1)] (by decide +kernel) rfl ?_
  refine zV_if_gt (off := 13) (tgt := 20) (by decide +kernel) (by decide) h (fun c3 h => ?_) (fun c3 h => ?_)
  · exact zV_lv (lv' := [(0, .inr (.inr l0)), (1, .inl l1), (2, .inl v2)]) [1, 2, 0] rfl (zt_Jx4a65c_grow_92f84_J20 h hR)
  · refine zV_b (pc' := 11) (lv' := [(2, .inl v2), (0, .inr (.inr l0)), (1, .inl l1)]) (st' := [.inr (.inr l0)]) [(.aload_n 0, 1)] (by decide +kernel) rfl ?_
    refine zV_gr (by decide +kernel) zfl_RJx4a65c_9 (by decide) rfl h (fun v9 _ h => ?_)
    refine zV_gs (by decide +kernel) zw_143 ?_
    refine zV_acmp_eq (off := 28) (tgt := 45) (by decide +kernel) (by decide) h (fun c11 h => ?_) (fun c11 h => ?_)
    · refine zV_b (pc' := 49) (lv' := [(2, .inl v2), (0, .inr (.inr l0)), (1, .inl l1)]) (st' := [.inl l1, .inl (10 : Int32), .inr (.inr l0)]) [(.aload_n 0, 1), (.bipush 10, 2), (.iload_n 1, 1)] (by decide +kernel) rfl ?_
      refine zV_maxi (st := [.inr (.inr l0)]) (by decide +kernel) zw_652 (by decide) (Nat.le_of_ble_eq_true rfl) ?_
      refine zV_nr (k := 19) (by decide +kernel) (by decide) (by decide) zw_653 h (fun M13 _ h => ?_)
      refine zV_b (pc' := 56) (lv' := [(2, .inl v2), (0, .inr (.inr l0)), (1, .inl l1)]) (st' := [.inr (.inr (zm_nx M)), .inr (.inr l0), .inr (.inr (zm_nx M))]) [(.dup_x1, 1)] (by decide +kernel) rfl ?_
      refine zV_pr (by decide +kernel) zfp_RJx4a65c_9 (Or.inr ⟨_, rfl⟩) (by decide) rfl h (fun M14 _ h => ?_)
      exact zend_r h hR (by decide +kernel)
    · exact zV_lv (lv' := [(0, .inr (.inr l0)), (1, .inl l1), (2, .inl v2)]) [1, 2, 0] rfl (zt_Jx4a65c_grow_92f84_J20 h hR)
theorem zc_Jx4a65c_grow_92f84 {M M' : Zm} {l0 : Option Nat} {l1 : Int32} {x : Option Nat} (h : zf_Jx4a65c_grow_92f84 M l0 l1 = some (M', x)) (l : Launch) (D : va_G) (cy : Nat → ClassId) : zMet l yJx4a65c_grow_92f84 zC_Jx4a65c_grow_92f84 (some (.array (.object "java/lang/Object"))) D cy [.inr (.inr l0), .inl l1] M M' (some (.inr (.inr x))) :=
  zM_r (Or.inr ⟨_, rfl⟩) (by decide) rfl (fun h => by cases h) (Nat.le_of_ble_eq_true rfl) (fun X hR => zt_Jx4a65c_grow_92f84 h hR)
-- java/util/ArrayList.grow()[Ljava/lang/Object;
def zC_Jx4a65c_grow_d5877 : Zc := (cJx4a65c_grow_d5877, 1, RJx4a65c, 4, 93, false)
theorem zcl_Jx4a65c_grow_d5877 {C : Zc} (h1 : zC_Jx4a65c_grow_d5877.2.2.2.1 + 1 ≤ C.2.2.2.1) (h2 : 8 + (zC_Jx4a65c_grow_d5877.2.1 + 11) + zC_Jx4a65c_grow_d5877.2.2.2.2.1 ≤ C.2.2.2.2.1) : zCl C yJx4a65c_grow_d5877 zC_Jx4a65c_grow_d5877 (some (.array (.object "java/lang/Object"))) 0 := ⟨zw_606, zw_104, ⟨by decide, by decide⟩, by decide +kernel, h1, h2⟩
noncomputable def zf_Jx4a65c_grow_d5877 (M : Zm) (l0 : Option Nat) : Option (Zm × Option Nat) :=
  zb1 (zo_gi M l0 0 2) (fun v1 =>
  zb1 (zo_rc M l0 0) (fun _ => zbd (zf_Jx4a65c_grow_92f84 M l0 (v1 + (1 : Int32))) (fun M2 v2 =>
  some (M2, v2))))
set_option maxRecDepth 100000 in
theorem zt_Jx4a65c_grow_d5877 {X : Zx} {M : Zm} {l0 : Option Nat} {z : Zm × Option Nat} (h : zf_Jx4a65c_grow_d5877 M l0 = some z) (hR : zRr X zC_Jx4a65c_grow_d5877 z.1 z.2) : zV X zC_Jx4a65c_grow_d5877 M 0 [(0, .inr (.inr l0))] [] := by
  unfold zf_Jx4a65c_grow_d5877 at h
  refine zV_b (pc' := 2) (lv' := [(0, .inr (.inr l0))]) (st' := [.inr (.inr l0), .inr (.inr l0)]) [(.aload_n 0, 1), (.aload_n 0, 1)] (by decide +kernel) rfl ?_
  refine zV_gi (by decide +kernel) zfl_RJx4a65c_48 (by decide) rfl (Or.inl rfl) h (fun v1 _ h => ?_)
  refine zV_b (pc' := 7) (lv' := [(0, .inr (.inr l0))]) (st' := [.inl (v1 + (1 : Int32)), .inr (.inr l0)]) [(.iconst 1, 1), (.iadd, 1)] (by decide +kernel) rfl ?_
  refine zV_cvr (As := [.inl (v1 + (1 : Int32))]) (st := []) (c := 0) (by decide +kernel) (zcl_Jx4a65c_grow_92f84 (by decide) (by decide)) ⟨zw_607, zw_609, zw_7⟩ ⟨⟨_, _, rfl⟩, by decide⟩ rfl rfl (Nat.le_of_ble_eq_true rfl) h (fun _ _ e => zc_Jx4a65c_grow_92f84 e) (fun M2 v2 _ h => ?_)
  exact zend_r h hR (by decide +kernel)
theorem zc_Jx4a65c_grow_d5877 {M M' : Zm} {l0 : Option Nat} {x : Option Nat} (h : zf_Jx4a65c_grow_d5877 M l0 = some (M', x)) (l : Launch) (D : va_G) (cy : Nat → ClassId) : zMet l yJx4a65c_grow_d5877 zC_Jx4a65c_grow_d5877 (some (.array (.object "java/lang/Object"))) D cy [.inr (.inr l0)] M M' (some (.inr (.inr x))) :=
  zM_r (Or.inr ⟨_, rfl⟩) (by decide) rfl (fun h => by cases h) (Nat.le_of_ble_eq_true rfl) (fun X hR => zt_Jx4a65c_grow_d5877 h hR)
-- java/util/ArrayList.add(Ljava/lang/Object;[Ljava/lang/Object;I)V
def zC_Jx4a65c_add_72be8 : Zc := (cJx4a65c_add_72be8, 4, RJx4a65c, 5, 113, false)
theorem zcl_Jx4a65c_add_72be8 {C : Zc} (h1 : zC_Jx4a65c_add_72be8.2.2.2.1 + 1 ≤ C.2.2.2.1) (h2 : 8 + (zC_Jx4a65c_add_72be8.2.1 + 11) + zC_Jx4a65c_add_72be8.2.2.2.2.1 ≤ C.2.2.2.2.1) : zCl C yJx4a65c_add_72be8 zC_Jx4a65c_add_72be8 none 3 := ⟨zw_602, zw_104, ⟨by decide, by decide⟩, by decide +kernel, h1, h2⟩
noncomputable def zf_Jx4a65c_add_72be8_J11 (M : Zm) (l0 : Option Nat) (l1 : Option Nat) (l2 : Option Nat) (l3 : Int32) : Option (Zm × Unit) :=
  zb1 (zo_sr M 19 14 l2 l3 l1) (fun M4 =>
  zb1 (zo_pi M4 l0 0 2 (l3 + (1 : Int32))) (fun M5 =>
  some (M5, ())))
noncomputable def zf_Jx4a65c_add_72be8 (M : Zm) (l0 : Option Nat) (l1 : Option Nat) (l2 : Option Nat) (l3 : Int32) : Option (Zm × Unit) :=
  zb1 (zo_al M l2) (fun v1 =>
  (if l3 = v1 then
  zb1 (zo_rc M l0 0) (fun _ => zbd (zf_Jx4a65c_grow_d5877 M l0) (fun M3 v3 =>
  zf_Jx4a65c_add_72be8_J11 M3 l0 l1 v3 l3))
  else
  zf_Jx4a65c_add_72be8_J11 M l0 l1 l2 l3))
set_option maxRecDepth 100000 in
theorem zt_Jx4a65c_add_72be8_J11 {X : Zx} {M : Zm} {l0 : Option Nat} {l1 : Option Nat} {l2 : Option Nat} {l3 : Int32} {z : Zm × Unit} (h : zf_Jx4a65c_add_72be8_J11 M l0 l1 l2 l3 = some z) (hR : zRv X zC_Jx4a65c_add_72be8 z.1) : zV X zC_Jx4a65c_add_72be8 M 11 [(0, .inr (.inr l0)), (1, .inr (.inr l1)), (2, .inr (.inr l2)), (3, .inl l3)] [] := by
  unfold zf_Jx4a65c_add_72be8_J11 at h
  refine zV_b (pc' := 14) (lv' := [(0, .inr (.inr l0)), (1, .inr (.inr l1)), (2, .inr (.inr l2)), (3, .inl l3)]) (st' := [.inr (.inr l1), .inl l3, .inr (.inr l2)]) [(.aload_n 2, 1), (.iload_n 3, 1), (.aload_n 1, 1)] (by decide +kernel) rfl ?_
  refine zV_sr (by decide +kernel) (by decide) (by decide) (Or.inl ⟨rfl, rfl⟩) h (fun M4 _ h => ?_)
  refine zV_b (pc' := 19) (lv' := [(0, .inr (.inr l0)), (1, .inr (.inr l1)), (2, .inr (.inr l2)), (3, .inl l3)]) (st' := [.inl (l3 + (1 : Int32)), .inr (.inr l0)]) [(.aload_n 0, 1), (.iload_n 3, 1), (.iconst 1, 1), (.iadd, 1)] (by decide +kernel) rfl ?_
  refine zV_pi (by decide +kernel) zfp_RJx4a65c_48 (by decide) rfl h (fun M5 _ h => ?_)
  exact zend_v h hR (by decide +kernel)
set_option maxRecDepth 100000 in
theorem zt_Jx4a65c_add_72be8 {X : Zx} {M : Zm} {l0 : Option Nat} {l1 : Option Nat} {l2 : Option Nat} {l3 : Int32} {z : Zm × Unit} (h : zf_Jx4a65c_add_72be8 M l0 l1 l2 l3 = some z) (hR : zRv X zC_Jx4a65c_add_72be8 z.1) : zV X zC_Jx4a65c_add_72be8 M 0 [(0, .inr (.inr l0)), (1, .inr (.inr l1)), (2, .inr (.inr l2)), (3, .inl l3)] [] := by
  unfold zf_Jx4a65c_add_72be8 at h
  refine zV_b (pc' := 2) (lv' := [(0, .inr (.inr l0)), (1, .inr (.inr l1)), (2, .inr (.inr l2)), (3, .inl l3)]) (st' := [.inr (.inr l2), .inl l3]) [(.iload_n 3, 1), (.aload_n 2, 1)] (by decide +kernel) rfl ?_
  refine zV_al (by decide +kernel) h (fun v1 _ h => ?_)
  refine zV_icmp_ne (off := 8) (tgt := 11) (by decide +kernel) (by decide) h (fun c2 h => ?_) (fun c2 h => ?_)
  · refine zV_b (pc' := 7) (lv' := [(0, .inr (.inr l0)), (1, .inr (.inr l1)), (2, .inr (.inr l2)), (3, .inl l3)]) (st' := [.inr (.inr l0)]) [(.aload_n 0, 1)] (by decide +kernel) rfl ?_
    refine zV_cvr (As := []) (st := []) (c := 0) (by decide +kernel) (zcl_Jx4a65c_grow_d5877 (by decide) (by decide)) ⟨zw_603, zw_605, zw_6⟩ ⟨⟨_, _, rfl⟩, by decide⟩ rfl rfl (Nat.le_of_ble_eq_true rfl) h (fun _ _ e => zc_Jx4a65c_grow_d5877 e) (fun M3 v3 _ h => ?_)
    refine zV_b (pc' := 11) (lv' := [(2, .inr (.inr v3)), (0, .inr (.inr l0)), (1, .inr (.inr l1)), (3, .inl l3)]) (st' := []) [(.astore_n 2, 1)] (by decide +kernel) rfl ?_
    exact zV_lv (lv' := [(0, .inr (.inr l0)), (1, .inr (.inr l1)), (2, .inr (.inr v3)), (3, .inl l3)]) [1, 2, 0, 3] rfl (zt_Jx4a65c_add_72be8_J11 h hR)
  · exact zV_lv (lv' := [(0, .inr (.inr l0)), (1, .inr (.inr l1)), (2, .inr (.inr l2)), (3, .inl l3)]) [0, 1, 2, 3] rfl (zt_Jx4a65c_add_72be8_J11 h hR)
theorem zc_Jx4a65c_add_72be8 {M M' : Zm} {l0 : Option Nat} {l1 : Option Nat} {l2 : Option Nat} {l3 : Int32} {x : Unit} (h : zf_Jx4a65c_add_72be8 M l0 l1 l2 l3 = some (M', x)) (l : Launch) (D : va_G) (cy : Nat → ClassId) : zMet l yJx4a65c_add_72be8 zC_Jx4a65c_add_72be8 none D cy [.inr (.inr l0), .inr (.inr l1), .inr (.inr l2), .inl l3] M M' none :=
  zM_v (by decide) rfl (fun h => by cases h) (Nat.le_of_ble_eq_true rfl) (fun X hR => zt_Jx4a65c_add_72be8 h hR)
-- java/util/ArrayList.add(Ljava/lang/Object;)Z
def zC_Jx4a65c_add_9ea2d : Zc := (cJx4a65c_add_9ea2d, 2, RJx4a65c, 6, 136, false)
theorem zcl_Jx4a65c_add_9ea2d {C : Zc} (h1 : zC_Jx4a65c_add_9ea2d.2.2.2.1 + 1 ≤ C.2.2.2.1) (h2 : 8 + (zC_Jx4a65c_add_9ea2d.2.1 + 11) + zC_Jx4a65c_add_9ea2d.2.2.2.2.1 ≤ C.2.2.2.2.1) : zCl C yJx4a65c_add_9ea2d zC_Jx4a65c_add_9ea2d (some .boolean) 1 := ⟨zw_598, zw_104, ⟨by decide, by decide⟩, by decide +kernel, h1, h2⟩
noncomputable def zf_Jx4a65c_add_9ea2d (M : Zm) (l0 : Option Nat) (l1 : Option Nat) : Option (Zm × Int32) :=
  zb1 (zo_gi M l0 0 0) (fun v1 =>
  zb1 (zo_pi M l0 0 0 (v1 + (1 : Int32))) (fun M2 =>
  zb1 (zo_gr M2 l0 0 1) (fun v3 =>
  zb1 (zo_gi M2 l0 0 2) (fun v4 =>
  zb1 (zo_rc M2 l0 0) (fun _ => zbd (zf_Jx4a65c_add_72be8 M2 l0 l1 v3 v4) (fun M5 _ =>
  zb1 (zo_b (1 : Int32)) (fun w => some (M5, w))))))))
set_option maxRecDepth 100000 in
theorem zt_Jx4a65c_add_9ea2d {X : Zx} {M : Zm} {l0 : Option Nat} {l1 : Option Nat} {z : Zm × Int32} (h : zf_Jx4a65c_add_9ea2d M l0 l1 = some z) (hR : zRz X zC_Jx4a65c_add_9ea2d z.1 z.2) : zV X zC_Jx4a65c_add_9ea2d M 0 [(0, .inr (.inr l0)), (1, .inr (.inr l1))] [] := by
  unfold zf_Jx4a65c_add_9ea2d at h
  refine zV_b (pc' := 2) (lv' := [(0, .inr (.inr l0)), (1, .inr (.inr l1))]) (st' := [.inr (.inr l0), .inr (.inr l0)]) [(.aload_n 0, 1), (.dup, 1)] (by decide +kernel) rfl ?_
  refine zV_gi (by decide +kernel) zfl_RJx4a65c_63 (by decide) rfl (Or.inl rfl) h (fun v1 _ h => ?_)
  refine zV_b (pc' := 7) (lv' := [(0, .inr (.inr l0)), (1, .inr (.inr l1))]) (st' := [.inl (v1 + (1 : Int32)), .inr (.inr l0)]) [(.iconst 1, 1), (.iadd, 1)] (by decide +kernel) rfl ?_
  refine zV_pi (by decide +kernel) zfp_RJx4a65c_63 (by decide) rfl h (fun M2 _ h => ?_)
  refine zV_b (pc' := 13) (lv' := [(0, .inr (.inr l0)), (1, .inr (.inr l1))]) (st' := [.inr (.inr l0), .inr (.inr l1), .inr (.inr l0)]) [(.aload_n 0, 1), (.aload_n 1, 1), (.aload_n 0, 1)] (by decide +kernel) rfl ?_
  refine zV_gr (by decide +kernel) zfl_RJx4a65c_9 (by decide) rfl h (fun v3 _ h => ?_)
  refine zV_b (pc' := 17) (lv' := [(0, .inr (.inr l0)), (1, .inr (.inr l1))]) (st' := [.inr (.inr l0), .inr (.inr v3), .inr (.inr l1), .inr (.inr l0)]) [(.aload_n 0, 1)] (by decide +kernel) rfl ?_
  refine zV_gi (by decide +kernel) zfl_RJx4a65c_48 (by decide) rfl (Or.inl rfl) h (fun v4 _ h => ?_)
  refine zV_cvv (As := [.inr (.inr l1), .inr (.inr v3), .inl v4]) (st := []) (c := 0) (by decide +kernel) (zcl_Jx4a65c_add_72be8 (by decide) (by decide)) ⟨zw_599, zw_601, zw_5⟩ ⟨⟨_, _, rfl⟩, by decide⟩ rfl rfl (Nat.le_of_ble_eq_true rfl) h (fun _ _ e => zc_Jx4a65c_add_72be8 e) (fun M5 _ _ h => ?_)
  refine zV_b (pc' := 24) (lv' := [(0, .inr (.inr l0)), (1, .inr (.inr l1))]) (st' := [.inl (1 : Int32)]) [(.iconst 1, 1)] (by decide +kernel) rfl ?_
  exact zend_z h hR (by decide +kernel)
theorem zc_Jx4a65c_add_9ea2d {M M' : Zm} {l0 : Option Nat} {l1 : Option Nat} {x : Int32} (h : zf_Jx4a65c_add_9ea2d M l0 l1 = some (M', x)) (l : Launch) (D : va_G) (cy : Nat → ClassId) : zMet l yJx4a65c_add_9ea2d zC_Jx4a65c_add_9ea2d (some .boolean) D cy [.inr (.inr l0), .inr (.inr l1)] M M' (some (.inl x)) :=
  zM_b (by decide) rfl (fun h => by cases h) (Nat.le_of_ble_eq_true rfl) (fun X hR => zt_Jx4a65c_add_9ea2d h hR)
-- java/util/ArrayList.elementData(I)Ljava/lang/Object;
def zC_Jx4a65c_elementData_915e3 : Zc := (cJx4a65c_elementData_915e3, 2, RJx4a65c, 0, 0, false)
theorem zcl_Jx4a65c_elementData_915e3 {C : Zc} (h1 : zC_Jx4a65c_elementData_915e3.2.2.2.1 + 1 ≤ C.2.2.2.1) (h2 : 8 + (zC_Jx4a65c_elementData_915e3.2.1 + 11) + zC_Jx4a65c_elementData_915e3.2.2.2.2.1 ≤ C.2.2.2.2.1) : zCl C yJx4a65c_elementData_915e3 zC_Jx4a65c_elementData_915e3 (some (.object "java/lang/Object")) 1 := ⟨zw_683, zw_104, ⟨by decide, by decide⟩, by decide +kernel, h1, h2⟩
noncomputable def zf_Jx4a65c_elementData_915e3 (M : Zm) (l0 : Option Nat) (l1 : Int32) : Option (Zm × Option Nat) :=
  zb1 (zo_gr M l0 0 1) (fun v1 =>
  zb1 (zo_ar M 19 v1 l1) (fun v2 =>
  some (M, v2)))
set_option maxRecDepth 100000 in
theorem zt_Jx4a65c_elementData_915e3 {X : Zx} {M : Zm} {l0 : Option Nat} {l1 : Int32} {z : Zm × Option Nat} (h : zf_Jx4a65c_elementData_915e3 M l0 l1 = some z) (hR : zRr X zC_Jx4a65c_elementData_915e3 z.1 z.2) : zV X zC_Jx4a65c_elementData_915e3 M 0 [(0, .inr (.inr l0)), (1, .inl l1)] [] := by
  unfold zf_Jx4a65c_elementData_915e3 at h
  refine zV_b (pc' := 1) (lv' := [(0, .inr (.inr l0)), (1, .inl l1)]) (st' := [.inr (.inr l0)]) [(.aload_n 0, 1)] (by decide +kernel) rfl ?_
  refine zV_gr (by decide +kernel) zfl_RJx4a65c_9 (by decide) rfl h (fun v1 _ h => ?_)
  refine zV_b (pc' := 5) (lv' := [(0, .inr (.inr l0)), (1, .inl l1)]) (st' := [.inl l1, .inr (.inr v1)]) [(.iload_n 1, 1)] (by decide +kernel) rfl ?_
  refine zV_ar (by decide +kernel) (by decide) (by decide) h (fun v2 _ h => ?_)
  exact zend_r h hR (by decide +kernel)
theorem zc_Jx4a65c_elementData_915e3 {M M' : Zm} {l0 : Option Nat} {l1 : Int32} {x : Option Nat} (h : zf_Jx4a65c_elementData_915e3 M l0 l1 = some (M', x)) (l : Launch) (D : va_G) (cy : Nat → ClassId) : zMet l yJx4a65c_elementData_915e3 zC_Jx4a65c_elementData_915e3 (some (.object "java/lang/Object")) D cy [.inr (.inr l0), .inl l1] M M' (some (.inr (.inr x))) :=
  zM_r (Or.inl ⟨_, rfl⟩) (by decide) rfl (fun h => by cases h) (Nat.le_of_ble_eq_true rfl) (fun X hR => zt_Jx4a65c_elementData_915e3 h hR)
-- jdk/internal/util/Preconditions.checkIndex(IILjava/util/function/BiFunction;)I
def zC_J3_checkIndex_8e157 : Zc := (cJ3_checkIndex_8e157, 3, RJ3, 0, 0, false)
theorem zcl_J3_checkIndex_8e157 {C : Zc} (h1 : zC_J3_checkIndex_8e157.2.2.2.1 + 1 ≤ C.2.2.2.1) (h2 : 8 + (zC_J3_checkIndex_8e157.2.1 + 11) + zC_J3_checkIndex_8e157.2.2.2.2.1 ≤ C.2.2.2.2.1) : zCl C yJ3_checkIndex_8e157 zC_J3_checkIndex_8e157 (some .int) 3 := ⟨zw_679, zw_121, ⟨by decide, by decide⟩, by decide +kernel, h1, h2⟩
noncomputable def zf_J3_checkIndex_8e157_J9 (M : Zm) (l0 : Int32) (l1 : Int32) (l2 : Option Nat) : Option (Zm × Int32) :=
  none
noncomputable def zf_J3_checkIndex_8e157 (M : Zm) (l0 : Int32) (l1 : Int32) (l2 : Option Nat) : Option (Zm × Int32) :=
  (if l0 < 0 then
  zf_J3_checkIndex_8e157_J9 M l0 l1 l2
  else
  (if l0 < l1 then
  some (M, l0)
  else
  zf_J3_checkIndex_8e157_J9 M l0 l1 l2))
set_option maxRecDepth 100000 in
theorem zt_J3_checkIndex_8e157_J9 {X : Zx} {M : Zm} {l0 : Int32} {l1 : Int32} {l2 : Option Nat} {z : Zm × Int32} (h : zf_J3_checkIndex_8e157_J9 M l0 l1 l2 = some z) (hR : zRi X zC_J3_checkIndex_8e157 z.1 z.2) : zV X zC_J3_checkIndex_8e157 M 9 [(0, .inl l0), (1, .inl l1), (2, .inr (.inr l2))] [] := by
  unfold zf_J3_checkIndex_8e157_J9 at h
  refine zV_b (pc' := 12) (lv' := [(0, .inl l0), (1, .inl l1), (2, .inr (.inr l2))]) (st' := [.inl l1, .inl l0, .inr (.inr l2)]) [(.aload_n 2, 1), (.iload_n 0, 1), (.iload_n 1, 1)] (by decide +kernel) rfl ?_
  cases h
set_option maxRecDepth 100000 in
theorem zt_J3_checkIndex_8e157 {X : Zx} {M : Zm} {l0 : Int32} {l1 : Int32} {l2 : Option Nat} {z : Zm × Int32} (h : zf_J3_checkIndex_8e157 M l0 l1 l2 = some z) (hR : zRi X zC_J3_checkIndex_8e157 z.1 z.2) : zV X zC_J3_checkIndex_8e157 M 0 [(0, .inl l0), (1, .inl l1), (2, .inr (.inr l2))] [] := by
  unfold zf_J3_checkIndex_8e157 at h
  refine zV_b (pc' := 1) (lv' := [(0, .inl l0), (1, .inl l1), (2, .inr (.inr l2))]) (st' := [.inl l0]) [(.iload_n 0, 1)] (by decide +kernel) rfl ?_
  refine zV_if_lt (off := 8) (tgt := 9) (by decide +kernel) (by decide) h (fun c1 h => ?_) (fun c1 h => ?_)
  · exact zV_lv (lv' := [(0, .inl l0), (1, .inl l1), (2, .inr (.inr l2))]) [0, 1, 2] rfl (zt_J3_checkIndex_8e157_J9 h hR)
  · refine zV_b (pc' := 6) (lv' := [(0, .inl l0), (1, .inl l1), (2, .inr (.inr l2))]) (st' := [.inl l1, .inl l0]) [(.iload_n 0, 1), (.iload_n 1, 1)] (by decide +kernel) rfl ?_
    refine zV_icmp_lt (off := 10) (tgt := 16) (by decide +kernel) (by decide) h (fun c3 h => ?_) (fun c3 h => ?_)
    · refine zV_b (pc' := 17) (lv' := [(0, .inl l0), (1, .inl l1), (2, .inr (.inr l2))]) (st' := [.inl l0]) [(.iload_n 0, 1)] (by decide +kernel) rfl ?_
      exact zend_i h hR (by decide +kernel)
    · exact zV_lv (lv' := [(0, .inl l0), (1, .inl l1), (2, .inr (.inr l2))]) [0, 1, 2] rfl (zt_J3_checkIndex_8e157_J9 h hR)
theorem zc_J3_checkIndex_8e157 {M M' : Zm} {l0 : Int32} {l1 : Int32} {l2 : Option Nat} {x : Int32} (h : zf_J3_checkIndex_8e157 M l0 l1 l2 = some (M', x)) (l : Launch) (D : va_G) (cy : Nat → ClassId) : zMet l yJ3_checkIndex_8e157 zC_J3_checkIndex_8e157 (some .int) D cy [.inl l0, .inl l1, .inr (.inr l2)] M M' (some (.inl x)) :=
  zM_i (by decide) rfl (fun h => by cases h) (Nat.le_of_ble_eq_true rfl) (fun X hR => zt_J3_checkIndex_8e157 h hR)
-- java/util/Objects.checkIndex(II)I
def zC_J15_checkIndex_7cf53 : Zc := (cJ15_checkIndex_7cf53, 2, RJ15, 1, 22, false)
theorem zcl_J15_checkIndex_7cf53 {C : Zc} (h1 : zC_J15_checkIndex_7cf53.2.2.2.1 + 1 ≤ C.2.2.2.1) (h2 : 8 + (zC_J15_checkIndex_7cf53.2.1 + 11) + zC_J15_checkIndex_7cf53.2.2.2.2.1 ≤ C.2.2.2.2.1) : zCl C yJ15_checkIndex_7cf53 zC_J15_checkIndex_7cf53 (some .int) 2 := ⟨zw_676, zw_120, ⟨by decide, by decide⟩, by decide +kernel, h1, h2⟩
noncomputable def zf_J15_checkIndex_7cf53 (M : Zm) (l0 : Int32) (l1 : Int32) : Option (Zm × Int32) :=
  zbd (zf_J3_checkIndex_8e157 M l0 l1 none) (fun M1 v1 =>
  some (M1, v1))
set_option maxRecDepth 100000 in
theorem zt_J15_checkIndex_7cf53 {X : Zx} {M : Zm} {l0 : Int32} {l1 : Int32} {z : Zm × Int32} (h : zf_J15_checkIndex_7cf53 M l0 l1 = some z) (hR : zRi X zC_J15_checkIndex_7cf53 z.1 z.2) : zV X zC_J15_checkIndex_7cf53 M 0 [(0, .inl l0), (1, .inl l1)] [] := by
  unfold zf_J15_checkIndex_7cf53 at h
  refine zV_b (pc' := 3) (lv' := [(0, .inl l0), (1, .inl l1)]) (st' := [.inr (.inr none), .inl l1, .inl l0]) [(.iload_n 0, 1), (.iload_n 1, 1), (.aconst_null, 1)] (by decide +kernel) rfl ?_
  refine zV_csi (As := [.inl l0, .inl l1, .inr (.inr none)]) (st := []) (by decide +kernel) (zcl_J3_checkIndex_8e157 (by decide) (by decide)) ⟨zw_677, zw_678⟩ rfl rfl (Nat.le_of_ble_eq_true rfl) h (fun _ _ e => zc_J3_checkIndex_8e157 e) (fun M1 v1 _ h => ?_)
  exact zend_i h hR (by decide +kernel)
theorem zc_J15_checkIndex_7cf53 {M M' : Zm} {l0 : Int32} {l1 : Int32} {x : Int32} (h : zf_J15_checkIndex_7cf53 M l0 l1 = some (M', x)) (l : Launch) (D : va_G) (cy : Nat → ClassId) : zMet l yJ15_checkIndex_7cf53 zC_J15_checkIndex_7cf53 (some .int) D cy [.inl l0, .inl l1] M M' (some (.inl x)) :=
  zM_i (by decide) rfl (fun h => by cases h) (Nat.le_of_ble_eq_true rfl) (fun X hR => zt_J15_checkIndex_7cf53 h hR)
-- java/util/ArrayList.get(I)Ljava/lang/Object;
def zC_Jx4a65c_get_915e3 : Zc := (cJx4a65c_get_915e3, 2, RJx4a65c, 2, 43, false)
theorem zcl_Jx4a65c_get_915e3 {C : Zc} (h1 : zC_Jx4a65c_get_915e3.2.2.2.1 + 1 ≤ C.2.2.2.1) (h2 : 8 + (zC_Jx4a65c_get_915e3.2.1 + 11) + zC_Jx4a65c_get_915e3.2.2.2.2.1 ≤ C.2.2.2.2.1) : zCl C yJx4a65c_get_915e3 zC_Jx4a65c_get_915e3 (some (.object "java/lang/Object")) 1 := ⟨zw_673, zw_104, ⟨by decide, by decide⟩, by decide +kernel, h1, h2⟩
noncomputable def zf_Jx4a65c_get_915e3 (M : Zm) (l0 : Option Nat) (l1 : Int32) : Option (Zm × Option Nat) :=
  zb1 (zo_gi M l0 0 2) (fun v1 =>
  zbd (zf_J15_checkIndex_7cf53 M l1 v1) (fun M2 v2 =>
  zb1 (zo_rc M2 l0 0) (fun _ => zbd (zf_Jx4a65c_elementData_915e3 M2 l0 l1) (fun M3 v3 =>
  some (M3, v3)))))
set_option maxRecDepth 100000 in
theorem zt_Jx4a65c_get_915e3 {X : Zx} {M : Zm} {l0 : Option Nat} {l1 : Int32} {z : Zm × Option Nat} (h : zf_Jx4a65c_get_915e3 M l0 l1 = some z) (hR : zRr X zC_Jx4a65c_get_915e3 z.1 z.2) : zV X zC_Jx4a65c_get_915e3 M 0 [(0, .inr (.inr l0)), (1, .inl l1)] [] := by
  unfold zf_Jx4a65c_get_915e3 at h
  refine zV_b (pc' := 2) (lv' := [(0, .inr (.inr l0)), (1, .inl l1)]) (st' := [.inr (.inr l0), .inl l1]) [(.iload_n 1, 1), (.aload_n 0, 1)] (by decide +kernel) rfl ?_
  refine zV_gi (by decide +kernel) zfl_RJx4a65c_48 (by decide) rfl (Or.inl rfl) h (fun v1 _ h => ?_)
  refine zV_csi (As := [.inl l1, .inl v1]) (st := []) (by decide +kernel) (zcl_J15_checkIndex_7cf53 (by decide) (by decide)) ⟨zw_674, zw_675⟩ rfl rfl (Nat.le_of_ble_eq_true rfl) h (fun _ _ e => zc_J15_checkIndex_7cf53 e) (fun M2 v2 _ h => ?_)
  refine zV_b (pc' := 11) (lv' := [(0, .inr (.inr l0)), (1, .inl l1)]) (st' := [.inl l1, .inr (.inr l0)]) [(.pop, 1), (.aload_n 0, 1), (.iload_n 1, 1)] (by decide +kernel) rfl ?_
  refine zV_cvr (As := [.inl l1]) (st := []) (c := 0) (by decide +kernel) (zcl_Jx4a65c_elementData_915e3 (by decide) (by decide)) ⟨zw_680, zw_681, zw_682⟩ ⟨⟨_, _, rfl⟩, by decide⟩ rfl rfl (Nat.le_of_ble_eq_true rfl) h (fun _ _ e => zc_Jx4a65c_elementData_915e3 e) (fun M3 v3 _ h => ?_)
  exact zend_r h hR (by decide +kernel)
theorem zc_Jx4a65c_get_915e3 {M M' : Zm} {l0 : Option Nat} {l1 : Int32} {x : Option Nat} (h : zf_Jx4a65c_get_915e3 M l0 l1 = some (M', x)) (l : Launch) (D : va_G) (cy : Nat → ClassId) : zMet l yJx4a65c_get_915e3 zC_Jx4a65c_get_915e3 (some (.object "java/lang/Object")) D cy [.inr (.inr l0), .inl l1] M M' (some (.inr (.inr x))) :=
  zM_r (Or.inl ⟨_, rfl⟩) (by decide) rfl (fun h => by cases h) (Nat.le_of_ble_eq_true rfl) (fun X hR => zt_Jx4a65c_get_915e3 h hR)
-- java/util/ArrayList.size()I
def zC_Jx4a65c_size_8abf5 : Zc := (cJx4a65c_size_8abf5, 1, RJx4a65c, 0, 0, false)
theorem zcl_Jx4a65c_size_8abf5 {C : Zc} (h1 : zC_Jx4a65c_size_8abf5.2.2.2.1 + 1 ≤ C.2.2.2.1) (h2 : 8 + (zC_Jx4a65c_size_8abf5.2.1 + 11) + zC_Jx4a65c_size_8abf5.2.2.2.2.1 ≤ C.2.2.2.2.1) : zCl C yJx4a65c_size_8abf5 zC_Jx4a65c_size_8abf5 (some .int) 0 := ⟨zw_476, zw_104, ⟨by decide, by decide⟩, by decide +kernel, h1, h2⟩
noncomputable def zf_Jx4a65c_size_8abf5 (M : Zm) (l0 : Option Nat) : Option (Zm × Int32) :=
  zb1 (zo_gi M l0 0 2) (fun v1 =>
  some (M, v1))
set_option maxRecDepth 100000 in
theorem zt_Jx4a65c_size_8abf5 {X : Zx} {M : Zm} {l0 : Option Nat} {z : Zm × Int32} (h : zf_Jx4a65c_size_8abf5 M l0 = some z) (hR : zRi X zC_Jx4a65c_size_8abf5 z.1 z.2) : zV X zC_Jx4a65c_size_8abf5 M 0 [(0, .inr (.inr l0))] [] := by
  unfold zf_Jx4a65c_size_8abf5 at h
  refine zV_b (pc' := 1) (lv' := [(0, .inr (.inr l0))]) (st' := [.inr (.inr l0)]) [(.aload_n 0, 1)] (by decide +kernel) rfl ?_
  refine zV_gi (by decide +kernel) zfl_RJx4a65c_48 (by decide) rfl (Or.inl rfl) h (fun v1 _ h => ?_)
  exact zend_i h hR (by decide +kernel)
theorem zc_Jx4a65c_size_8abf5 {M M' : Zm} {l0 : Option Nat} {x : Int32} (h : zf_Jx4a65c_size_8abf5 M l0 = some (M', x)) (l : Launch) (D : va_G) (cy : Nat → ClassId) : zMet l yJx4a65c_size_8abf5 zC_Jx4a65c_size_8abf5 (some .int) D cy [.inr (.inr l0)] M M' (some (.inl x)) :=
  zM_i (by decide) rfl (fun h => by cases h) (Nat.le_of_ble_eq_true rfl) (fun X hR => zt_Jx4a65c_size_8abf5 h hR)
-- java/util/Arrays.copyOf([II)[I
def zC_J7_copyOf_59c91 : Zc := (cJ7_copyOf_59c91, 3, RJ7, 1, 26, false)
theorem zcl_J7_copyOf_59c91 {C : Zc} (h1 : zC_J7_copyOf_59c91.2.2.2.1 + 1 ≤ C.2.2.2.1) (h2 : 8 + (zC_J7_copyOf_59c91.2.1 + 11) + zC_J7_copyOf_59c91.2.2.2.2.1 ≤ C.2.2.2.2.1) : zCl C yJ7_copyOf_59c91 zC_J7_copyOf_59c91 (some (.array .int)) 2 := ⟨zw_828, zw_116, ⟨by decide, by decide⟩, by decide +kernel, h1, h2⟩
noncomputable def zf_J7_copyOf_59c91 (M : Zm) (l0 : Option Nat) (l1 : Int32) : Option (Zm × Option Nat) :=
  zb1 (zo_al M l0) (fun v1 =>
  (if l1 = v1 then
  none
  else
  zb1 (zo_na M 14 l1) (fun M4 =>
  zb1 (zo_al M4 l0) (fun v5 =>
  zb1 (zo_ci M4 l0 (0 : Int32) (zm_nx M) (0 : Int32) (zmini v5 l1)) (fun M7 =>
  some (M7, (zm_nx M)))))))
set_option maxRecDepth 100000 in
theorem zt_J7_copyOf_59c91 {X : Zx} {M : Zm} {l0 : Option Nat} {l1 : Int32} {z : Zm × Option Nat} (h : zf_J7_copyOf_59c91 M l0 l1 = some z) (hR : zRr X zC_J7_copyOf_59c91 z.1 z.2) : zV X zC_J7_copyOf_59c91 M 0 [(0, .inr (.inr l0)), (1, .inl l1)] [] := by
  unfold zf_J7_copyOf_59c91 at h
  refine zV_b (pc' := 2) (lv' := [(0, .inr (.inr l0)), (1, .inl l1)]) (st' := [.inr (.inr l0), .inl l1]) [(.iload_n 1, 1), (.aload_n 0, 1)] (by decide +kernel) rfl ?_
  refine zV_al (by decide +kernel) h (fun v1 _ h => ?_)
  refine zV_icmp_ne (off := 11) (tgt := 14) (by decide +kernel) (by decide) h (fun c2 h => ?_) (fun c2 h => ?_)
  · refine zV_b (pc' := 7) (lv' := [(0, .inr (.inr l0)), (1, .inl l1)]) (st' := [.inr (.inr l0)]) [(.aload_n 0, 1)] (by decide +kernel) rfl ?_
    cases h
  · refine zV_b (pc' := 15) (lv' := [(0, .inr (.inr l0)), (1, .inl l1)]) (st' := [.inl l1]) [(.iload_n 1, 1)] (by decide +kernel) rfl ?_
    refine zV_na (by decide +kernel) (Or.inl ⟨rfl, rfl⟩) h (fun M4 _ h => ?_)
    refine zV_b (pc' := 23) (lv' := [(2, .inr (.inr (zm_nx M))), (0, .inr (.inr l0)), (1, .inl l1)]) (st' := [.inr (.inr l0), .inl (0 : Int32), .inr (.inr (zm_nx M)), .inl (0 : Int32), .inr (.inr l0)]) [(.astore_n 2, 1), (.aload_n 0, 1), (.iconst 0, 1), (.aload_n 2, 1), (.iconst 0, 1), (.aload_n 0, 1)] (by decide +kernel) rfl ?_
    refine zV_al (by decide +kernel) h (fun v5 _ h => ?_)
    refine zV_b (pc' := 25) (lv' := [(2, .inr (.inr (zm_nx M))), (0, .inr (.inr l0)), (1, .inl l1)]) (st' := [.inl l1, .inl v5, .inl (0 : Int32), .inr (.inr (zm_nx M)), .inl (0 : Int32), .inr (.inr l0)]) [(.iload_n 1, 1)] (by decide +kernel) rfl ?_
    refine zV_mini (st := [.inl (0 : Int32), .inr (.inr (zm_nx M)), .inl (0 : Int32), .inr (.inr l0)]) (by decide +kernel) zw_646 (by decide) (Nat.le_of_ble_eq_true rfl) ?_
    refine zV_ci (by decide +kernel) zw_649 (by decide) (Nat.le_of_ble_eq_true rfl) h (fun M7 _ h => ?_)
    refine zV_b (pc' := 32) (lv' := [(2, .inr (.inr (zm_nx M))), (0, .inr (.inr l0)), (1, .inl l1)]) (st' := [.inr (.inr (zm_nx M))]) [(.aload_n 2, 1)] (by decide +kernel) rfl ?_
    exact zend_r h hR (by decide +kernel)
theorem zc_J7_copyOf_59c91 {M M' : Zm} {l0 : Option Nat} {l1 : Int32} {x : Option Nat} (h : zf_J7_copyOf_59c91 M l0 l1 = some (M', x)) (l : Launch) (D : va_G) (cy : Nat → ClassId) : zMet l yJ7_copyOf_59c91 zC_J7_copyOf_59c91 (some (.array .int)) D cy [.inr (.inr l0), .inl l1] M M' (some (.inr (.inr x))) :=
  zM_r (Or.inr ⟨_, rfl⟩) (by decide) rfl (fun h => by cases h) (Nat.le_of_ble_eq_true rfl) (fun X hR => zt_J7_copyOf_59c91 h hR)
-- java/util/Arrays.copyOf([JI)[J
def zC_J7_copyOf_c38d5 : Zc := (cJ7_copyOf_c38d5, 3, RJ7, 1, 26, false)
theorem zcl_J7_copyOf_c38d5 {C : Zc} (h1 : zC_J7_copyOf_c38d5.2.2.2.1 + 1 ≤ C.2.2.2.1) (h2 : 8 + (zC_J7_copyOf_c38d5.2.1 + 11) + zC_J7_copyOf_c38d5.2.2.2.2.1 ≤ C.2.2.2.2.1) : zCl C yJ7_copyOf_c38d5 zC_J7_copyOf_c38d5 (some (.array .long)) 2 := ⟨zw_838, zw_116, ⟨by decide, by decide⟩, by decide +kernel, h1, h2⟩
noncomputable def zf_J7_copyOf_c38d5 (M : Zm) (l0 : Option Nat) (l1 : Int32) : Option (Zm × Option Nat) :=
  zb1 (zo_al M l0) (fun v1 =>
  (if l1 = v1 then
  none
  else
  zb1 (zo_na M 15 l1) (fun M4 =>
  zb1 (zo_al M4 l0) (fun v5 =>
  zb1 (zo_cj M4 l0 (0 : Int32) (zm_nx M) (0 : Int32) (zmini v5 l1)) (fun M7 =>
  some (M7, (zm_nx M)))))))
set_option maxRecDepth 100000 in
theorem zt_J7_copyOf_c38d5 {X : Zx} {M : Zm} {l0 : Option Nat} {l1 : Int32} {z : Zm × Option Nat} (h : zf_J7_copyOf_c38d5 M l0 l1 = some z) (hR : zRr X zC_J7_copyOf_c38d5 z.1 z.2) : zV X zC_J7_copyOf_c38d5 M 0 [(0, .inr (.inr l0)), (1, .inl l1)] [] := by
  unfold zf_J7_copyOf_c38d5 at h
  refine zV_b (pc' := 2) (lv' := [(0, .inr (.inr l0)), (1, .inl l1)]) (st' := [.inr (.inr l0), .inl l1]) [(.iload_n 1, 1), (.aload_n 0, 1)] (by decide +kernel) rfl ?_
  refine zV_al (by decide +kernel) h (fun v1 _ h => ?_)
  refine zV_icmp_ne (off := 11) (tgt := 14) (by decide +kernel) (by decide) h (fun c2 h => ?_) (fun c2 h => ?_)
  · refine zV_b (pc' := 7) (lv' := [(0, .inr (.inr l0)), (1, .inl l1)]) (st' := [.inr (.inr l0)]) [(.aload_n 0, 1)] (by decide +kernel) rfl ?_
    cases h
  · refine zV_b (pc' := 15) (lv' := [(0, .inr (.inr l0)), (1, .inl l1)]) (st' := [.inl l1]) [(.iload_n 1, 1)] (by decide +kernel) rfl ?_
    refine zV_na (by decide +kernel) (Or.inr ⟨rfl, rfl⟩) h (fun M4 _ h => ?_)
    refine zV_b (pc' := 23) (lv' := [(2, .inr (.inr (zm_nx M))), (0, .inr (.inr l0)), (1, .inl l1)]) (st' := [.inr (.inr l0), .inl (0 : Int32), .inr (.inr (zm_nx M)), .inl (0 : Int32), .inr (.inr l0)]) [(.astore_n 2, 1), (.aload_n 0, 1), (.iconst 0, 1), (.aload_n 2, 1), (.iconst 0, 1), (.aload_n 0, 1)] (by decide +kernel) rfl ?_
    refine zV_al (by decide +kernel) h (fun v5 _ h => ?_)
    refine zV_b (pc' := 25) (lv' := [(2, .inr (.inr (zm_nx M))), (0, .inr (.inr l0)), (1, .inl l1)]) (st' := [.inl l1, .inl v5, .inl (0 : Int32), .inr (.inr (zm_nx M)), .inl (0 : Int32), .inr (.inr l0)]) [(.iload_n 1, 1)] (by decide +kernel) rfl ?_
    refine zV_mini (st := [.inl (0 : Int32), .inr (.inr (zm_nx M)), .inl (0 : Int32), .inr (.inr l0)]) (by decide +kernel) zw_646 (by decide) (Nat.le_of_ble_eq_true rfl) ?_
    refine zV_cj (by decide +kernel) zw_649 (by decide) (Nat.le_of_ble_eq_true rfl) h (fun M7 _ h => ?_)
    refine zV_b (pc' := 32) (lv' := [(2, .inr (.inr (zm_nx M))), (0, .inr (.inr l0)), (1, .inl l1)]) (st' := [.inr (.inr (zm_nx M))]) [(.aload_n 2, 1)] (by decide +kernel) rfl ?_
    exact zend_r h hR (by decide +kernel)
theorem zc_J7_copyOf_c38d5 {M M' : Zm} {l0 : Option Nat} {l1 : Int32} {x : Option Nat} (h : zf_J7_copyOf_c38d5 M l0 l1 = some (M', x)) (l : Launch) (D : va_G) (cy : Nat → ClassId) : zMet l yJ7_copyOf_c38d5 zC_J7_copyOf_c38d5 (some (.array .long)) D cy [.inr (.inr l0), .inl l1] M M' (some (.inr (.inr x))) :=
  zM_r (Or.inr ⟨_, rfl⟩) (by decide) rfl (fun h => by cases h) (Nat.le_of_ble_eq_true rfl) (fun X hR => zt_J7_copyOf_c38d5 h hR)
-- java/util/Arrays.fill([II)V
def zC_J7_fill_53178 : Zc := (cJ7_fill_53178, 4, RJ7, 0, 0, false)
theorem zcl_J7_fill_53178 {C : Zc} (h1 : zC_J7_fill_53178.2.2.2.1 + 1 ≤ C.2.2.2.1) (h2 : 8 + (zC_J7_fill_53178.2.1 + 11) + zC_J7_fill_53178.2.2.2.2.1 ≤ C.2.2.2.2.1) : zCl C yJ7_fill_53178 zC_J7_fill_53178 none 2 := ⟨zw_501, zw_116, ⟨by decide, by decide⟩, by decide +kernel, h1, h2⟩
noncomputable def zf_J7_fill_53178_L5 (p0 : Option Nat) (p1 : Int32) (p3 : Int32) (x : Zm × Int32) : Option ((Zm × Int32) ⊕ (Zm × Int32)) := match x with
  | (M, l2) =>
  (if p3 ≤ l2 then
  some (.inr (M, l2))
  else
  zb1 (zo_si M p0 l2 p1) (fun M3 =>
  some (.inl (M3, (l2 + 1)))))
def zP_J7_fill_53178_L5 (X : Zx) (p0 : Option Nat) (p1 : Int32) (p3 : Int32) (x : Zm × Int32) : Prop := match x with
  | (M, l2) => zV X zC_J7_fill_53178 M 5 [(0, .inr (.inr p0)), (1, .inl p1), (2, .inl l2), (3, .inl p3)] []
def zK_J7_fill_53178_L5 (X : Zx) (p0 : Option Nat) (p1 : Int32) (p3 : Int32) (y : Zm × Int32) : Prop := match y with
  | (M, l2) => zV X zC_J7_fill_53178 M 20 [] []
noncomputable def zf_J7_fill_53178 (M : Zm) (l0 : Option Nat) (l1 : Int32) : Option (Zm × Unit) :=
  zb1 (zo_al M l0) (fun v1 =>
  zb1 (zwhile (zf_J7_fill_53178_L5 l0 l1 v1) (M, (0 : Int32))) (fun y5 => match y5 with
  | (M5_5, l2_5) =>
  some (M5_5, ())))
set_option maxRecDepth 100000 in
theorem zt_J7_fill_53178_L5 {X : Zx} {p0 : Option Nat} {p1 : Int32} {p3 : Int32} {x : Zm × Int32} {y : Zm × Int32} (h : zwhile (zf_J7_fill_53178_L5 p0 p1 p3) x = some y) (hy : zK_J7_fill_53178_L5 X p0 p1 p3 y) : zP_J7_fill_53178_L5 X p0 p1 p3 x := by
  refine zwhile_ind (P := zP_J7_fill_53178_L5 X p0 p1 p3) (K := zK_J7_fill_53178_L5 X p0 p1 p3) ?_ h hy
  intro x z hf k1 k2
  obtain ⟨M, l2⟩ := x
  have h : zf_J7_fill_53178_L5 p0 p1 p3 (M, l2) = some z := hf
  unfold zf_J7_fill_53178_L5 at h
  show zV X zC_J7_fill_53178 M 5 [(0, .inr (.inr p0)), (1, .inl p1), (2, .inl l2), (3, .inl p3)] []
  refine zV_b (pc' := 7) (lv' := [(0, .inr (.inr p0)), (1, .inl p1), (2, .inl l2), (3, .inl p3)]) (st' := [.inl p3, .inl l2]) [(.iload_n 2, 1), (.iload_n 3, 1)] (by decide +kernel) rfl ?_
  refine zV_icmp_ge (off := 13) (tgt := 20) (by decide +kernel) (by decide) h (fun c2 h => ?_) (fun c2 h => ?_)
  · exact zV_lv (lv' := []) [] rfl (k2 _ (Option.some.inj h).symm)
  · refine zV_b (pc' := 13) (lv' := [(0, .inr (.inr p0)), (1, .inl p1), (2, .inl l2), (3, .inl p3)]) (st' := [.inl p1, .inl l2, .inr (.inr p0)]) [(.aload_n 0, 1), (.iload_n 2, 1), (.iload_n 1, 1)] (by decide +kernel) rfl ?_
    refine zV_si (by decide +kernel) h (fun M3 _ h => ?_)
    refine zV_b (pc' := 17) (lv' := [(2, .inl (l2 + 1)), (0, .inr (.inr p0)), (1, .inl p1), (3, .inl p3)]) (st' := []) [(.iinc 2 1, 3)] (by decide +kernel) rfl ?_
    refine zV_goto (off := (-12)) (tgt := 5) (by decide +kernel) (by decide) ?_
    exact zV_lv (lv' := [(0, .inr (.inr p0)), (1, .inl p1), (2, .inl (l2 + 1)), (3, .inl p3)]) [1, 2, 0, 3] rfl (k1 _ (Option.some.inj h).symm)
set_option maxRecDepth 100000 in
theorem zt_J7_fill_53178 {X : Zx} {M : Zm} {l0 : Option Nat} {l1 : Int32} {z : Zm × Unit} (h : zf_J7_fill_53178 M l0 l1 = some z) (hR : zRv X zC_J7_fill_53178 z.1) : zV X zC_J7_fill_53178 M 0 [(0, .inr (.inr l0)), (1, .inl l1)] [] := by
  unfold zf_J7_fill_53178 at h
  refine zV_b (pc' := 3) (lv' := [(2, .inl (0 : Int32)), (0, .inr (.inr l0)), (1, .inl l1)]) (st' := [.inr (.inr l0)]) [(.iconst 0, 1), (.istore_n 2, 1), (.aload_n 0, 1)] (by decide +kernel) rfl ?_
  refine zV_al (by decide +kernel) h (fun v1 _ h => ?_)
  refine zV_b (pc' := 5) (lv' := [(3, .inl v1), (2, .inl (0 : Int32)), (0, .inr (.inr l0)), (1, .inl l1)]) (st' := []) [(.istore_n 3, 1)] (by decide +kernel) rfl ?_
  obtain ⟨y5, e5, h⟩ := zb1_inv h
  refine zV_lv (lv' := [(0, .inr (.inr l0)), (1, .inl l1), (2, .inl (0 : Int32)), (3, .inl v1)]) [2, 3, 1, 0] rfl (zt_J7_fill_53178_L5 e5 ?_)
  obtain ⟨M5_5, l2_5⟩ := y5
  show zV X zC_J7_fill_53178 M5_5 20 [] []
  exact zend_v h hR (by decide +kernel)
theorem zc_J7_fill_53178 {M M' : Zm} {l0 : Option Nat} {l1 : Int32} {x : Unit} (h : zf_J7_fill_53178 M l0 l1 = some (M', x)) (l : Launch) (D : va_G) (cy : Nat → ClassId) : zMet l yJ7_fill_53178 zC_J7_fill_53178 none D cy [.inr (.inr l0), .inl l1] M M' none :=
  zM_v (by decide) rfl (fun h => by cases h) (Nat.le_of_ble_eq_true rfl) (fun X hR => zt_J7_fill_53178 h hR)
-- java/util/ArrayList.fastRemove([Ljava/lang/Object;I)V
def zC_Jx4a65c_fastRemove_b59b0 : Zc := (cJx4a65c_fastRemove_b59b0, 4, RJx4a65c, 1, 26, false)
theorem zcl_Jx4a65c_fastRemove_b59b0 {C : Zc} (h1 : zC_Jx4a65c_fastRemove_b59b0.2.2.2.1 + 1 ≤ C.2.2.2.1) (h2 : 8 + (zC_Jx4a65c_fastRemove_b59b0.2.1 + 11) + zC_Jx4a65c_fastRemove_b59b0.2.2.2.2.1 ≤ C.2.2.2.2.1) : zCl C yJx4a65c_fastRemove_b59b0 zC_Jx4a65c_fastRemove_b59b0 none 2 := ⟨zw_1274, zw_104, ⟨by decide, by decide⟩, by decide +kernel, h1, h2⟩
noncomputable def zf_Jx4a65c_fastRemove_b59b0_J34 (M : Zm) (l0 : Option Nat) (l1 : Option Nat) (l3 : Int32) : Option (Zm × Unit) :=
  zb1 (zo_pi M l0 0 2 l3) (fun M5 =>
  zb1 (zo_sr M5 19 14 l1 l3 none) (fun M6 =>
  some (M6, ())))
noncomputable def zf_Jx4a65c_fastRemove_b59b0 (M : Zm) (l0 : Option Nat) (l1 : Option Nat) (l2 : Int32) : Option (Zm × Unit) :=
  zb1 (zo_gi M l0 0 0) (fun v1 =>
  zb1 (zo_pi M l0 0 0 (v1 + (1 : Int32))) (fun M2 =>
  zb1 (zo_gi M2 l0 0 2) (fun v3 =>
  (if (v3 - (1 : Int32)) ≤ l2 then
  zf_Jx4a65c_fastRemove_b59b0_J34 M2 l0 l1 (v3 - (1 : Int32))
  else
  zb1 (zo_cr M2 l1 (l2 + (1 : Int32)) l1 l2 ((v3 - (1 : Int32)) - l2)) (fun M8 =>
  zf_Jx4a65c_fastRemove_b59b0_J34 M8 l0 l1 (v3 - (1 : Int32)))))))
set_option maxRecDepth 100000 in
theorem zt_Jx4a65c_fastRemove_b59b0_J34 {X : Zx} {M : Zm} {l0 : Option Nat} {l1 : Option Nat} {l3 : Int32} {z : Zm × Unit} (h : zf_Jx4a65c_fastRemove_b59b0_J34 M l0 l1 l3 = some z) (hR : zRv X zC_Jx4a65c_fastRemove_b59b0 z.1) : zV X zC_Jx4a65c_fastRemove_b59b0 M 34 [(0, .inr (.inr l0)), (1, .inr (.inr l1)), (3, .inl l3)] [] := by
  unfold zf_Jx4a65c_fastRemove_b59b0_J34 at h
  refine zV_b (pc' := 38) (lv' := [(0, .inr (.inr l0)), (1, .inr (.inr l1)), (3, .inl l3)]) (st' := [.inl l3, .inr (.inr l0), .inl l3, .inr (.inr l1)]) [(.aload_n 1, 1), (.aload_n 0, 1), (.iload_n 3, 1), (.dup_x1, 1)] (by decide +kernel) rfl ?_
  refine zV_pi (by decide +kernel) zfp_RJx4a65c_48 (by decide) rfl h (fun M5 _ h => ?_)
  refine zV_b (pc' := 42) (lv' := [(0, .inr (.inr l0)), (1, .inr (.inr l1)), (3, .inl l3)]) (st' := [.inr (.inr none), .inl l3, .inr (.inr l1)]) [(.aconst_null, 1)] (by decide +kernel) rfl ?_
  refine zV_sr (by decide +kernel) (by decide) (by decide) (Or.inl ⟨rfl, rfl⟩) h (fun M6 _ h => ?_)
  exact zend_v h hR (by decide +kernel)
set_option maxRecDepth 100000 in
theorem zt_Jx4a65c_fastRemove_b59b0 {X : Zx} {M : Zm} {l0 : Option Nat} {l1 : Option Nat} {l2 : Int32} {z : Zm × Unit} (h : zf_Jx4a65c_fastRemove_b59b0 M l0 l1 l2 = some z) (hR : zRv X zC_Jx4a65c_fastRemove_b59b0 z.1) : zV X zC_Jx4a65c_fastRemove_b59b0 M 0 [(0, .inr (.inr l0)), (1, .inr (.inr l1)), (2, .inl l2)] [] := by
  unfold zf_Jx4a65c_fastRemove_b59b0 at h
  refine zV_b (pc' := 2) (lv' := [(0, .inr (.inr l0)), (1, .inr (.inr l1)), (2, .inl l2)]) (st' := [.inr (.inr l0), .inr (.inr l0)]) [(.aload_n 0, 1), (.dup, 1)] (by decide +kernel) rfl ?_
  refine zV_gi (by decide +kernel) zfl_RJx4a65c_63 (by decide) rfl (Or.inl rfl) h (fun v1 _ h => ?_)
  refine zV_b (pc' := 7) (lv' := [(0, .inr (.inr l0)), (1, .inr (.inr l1)), (2, .inl l2)]) (st' := [.inl (v1 + (1 : Int32)), .inr (.inr l0)]) [(.iconst 1, 1), (.iadd, 1)] (by decide +kernel) rfl ?_
  refine zV_pi (by decide +kernel) zfp_RJx4a65c_63 (by decide) rfl h (fun M2 _ h => ?_)
  refine zV_b (pc' := 11) (lv' := [(0, .inr (.inr l0)), (1, .inr (.inr l1)), (2, .inl l2)]) (st' := [.inr (.inr l0)]) [(.aload_n 0, 1)] (by decide +kernel) rfl ?_
  refine zV_gi (by decide +kernel) zfl_RJx4a65c_48 (by decide) rfl (Or.inl rfl) h (fun v3 _ h => ?_)
  refine zV_b (pc' := 19) (lv' := [(3, .inl (v3 - (1 : Int32))), (0, .inr (.inr l0)), (1, .inr (.inr l1)), (2, .inl l2)]) (st' := [.inl l2, .inl (v3 - (1 : Int32))]) [(.iconst 1, 1), (.isub, 1), (.dup, 1), (.istore_n 3, 1), (.iload_n 2, 1)] (by decide +kernel) rfl ?_
  refine zV_icmp_le (off := 15) (tgt := 34) (by decide +kernel) (by decide) h (fun c4 h => ?_) (fun c4 h => ?_)
  · exact zV_lv (lv' := [(0, .inr (.inr l0)), (1, .inr (.inr l1)), (3, .inl (v3 - (1 : Int32)))]) [1, 2, 0] rfl (zt_Jx4a65c_fastRemove_b59b0_J34 h hR)
  · refine zV_b (pc' := 31) (lv' := [(3, .inl (v3 - (1 : Int32))), (0, .inr (.inr l0)), (1, .inr (.inr l1)), (2, .inl l2)]) (st' := [.inl ((v3 - (1 : Int32)) - l2), .inl l2, .inr (.inr l1), .inl (l2 + (1 : Int32)), .inr (.inr l1)]) [(.aload_n 1, 1), (.iload_n 2, 1), (.iconst 1, 1), (.iadd, 1), (.aload_n 1, 1), (.iload_n 2, 1), (.iload_n 3, 1), (.iload_n 2, 1), (.isub, 1)] (by decide +kernel) rfl ?_
    refine zV_cr (by decide +kernel) zw_1275 (by decide) (Nat.le_of_ble_eq_true rfl) h (fun M8 _ h => ?_)
    exact zV_lv (lv' := [(0, .inr (.inr l0)), (1, .inr (.inr l1)), (3, .inl (v3 - (1 : Int32)))]) [1, 2, 0] rfl (zt_Jx4a65c_fastRemove_b59b0_J34 h hR)
theorem zc_Jx4a65c_fastRemove_b59b0 {M M' : Zm} {l0 : Option Nat} {l1 : Option Nat} {l2 : Int32} {x : Unit} (h : zf_Jx4a65c_fastRemove_b59b0 M l0 l1 l2 = some (M', x)) (l : Launch) (D : va_G) (cy : Nat → ClassId) : zMet l yJx4a65c_fastRemove_b59b0 zC_Jx4a65c_fastRemove_b59b0 none D cy [.inr (.inr l0), .inr (.inr l1), .inl l2] M M' none :=
  zM_v (by decide) rfl (fun h => by cases h) (Nat.le_of_ble_eq_true rfl) (fun X hR => zt_Jx4a65c_fastRemove_b59b0 h hR)
-- java/util/ArrayList.remove(I)Ljava/lang/Object;
def zC_Jx4a65c_remove_915e3 : Zc := (cJx4a65c_remove_915e3, 4, RJx4a65c, 2, 49, false)
theorem zcl_Jx4a65c_remove_915e3 {C : Zc} (h1 : zC_Jx4a65c_remove_915e3.2.2.2.1 + 1 ≤ C.2.2.2.1) (h2 : 8 + (zC_Jx4a65c_remove_915e3.2.1 + 11) + zC_Jx4a65c_remove_915e3.2.2.2.2.1 ≤ C.2.2.2.2.1) : zCl C yJx4a65c_remove_915e3 zC_Jx4a65c_remove_915e3 (some (.object "java/lang/Object")) 1 := ⟨zw_1270, zw_104, ⟨by decide, by decide⟩, by decide +kernel, h1, h2⟩
noncomputable def zf_Jx4a65c_remove_915e3 (M : Zm) (l0 : Option Nat) (l1 : Int32) : Option (Zm × Option Nat) :=
  zb1 (zo_gi M l0 0 2) (fun v1 =>
  zbd (zf_J15_checkIndex_7cf53 M l1 v1) (fun M2 v2 =>
  zb1 (zo_gr M2 l0 0 1) (fun v3 =>
  zb1 (zo_ar M2 19 v3 l1) (fun v4 =>
  zb1 (zo_rc M2 l0 0) (fun _ => zbd (zf_Jx4a65c_fastRemove_b59b0 M2 l0 v3 l1) (fun M5 _ =>
  some (M5, v4)))))))
set_option maxRecDepth 100000 in
theorem zt_Jx4a65c_remove_915e3 {X : Zx} {M : Zm} {l0 : Option Nat} {l1 : Int32} {z : Zm × Option Nat} (h : zf_Jx4a65c_remove_915e3 M l0 l1 = some z) (hR : zRr X zC_Jx4a65c_remove_915e3 z.1 z.2) : zV X zC_Jx4a65c_remove_915e3 M 0 [(0, .inr (.inr l0)), (1, .inl l1)] [] := by
  unfold zf_Jx4a65c_remove_915e3 at h
  refine zV_b (pc' := 2) (lv' := [(0, .inr (.inr l0)), (1, .inl l1)]) (st' := [.inr (.inr l0), .inl l1]) [(.iload_n 1, 1), (.aload_n 0, 1)] (by decide +kernel) rfl ?_
  refine zV_gi (by decide +kernel) zfl_RJx4a65c_48 (by decide) rfl (Or.inl rfl) h (fun v1 _ h => ?_)
  refine zV_csi (As := [.inl l1, .inl v1]) (st := []) (by decide +kernel) (zcl_J15_checkIndex_7cf53 (by decide) (by decide)) ⟨zw_674, zw_675⟩ rfl rfl (Nat.le_of_ble_eq_true rfl) h (fun _ _ e => zc_J15_checkIndex_7cf53 e) (fun M2 v2 _ h => ?_)
  refine zV_b (pc' := 10) (lv' := [(0, .inr (.inr l0)), (1, .inl l1)]) (st' := [.inr (.inr l0)]) [(.pop, 1), (.aload_n 0, 1)] (by decide +kernel) rfl ?_
  refine zV_gr (by decide +kernel) zfl_RJx4a65c_9 (by decide) rfl h (fun v3 _ h => ?_)
  refine zV_b (pc' := 16) (lv' := [(2, .inr (.inr v3)), (0, .inr (.inr l0)), (1, .inl l1)]) (st' := [.inl l1, .inr (.inr v3)]) [(.astore_n 2, 1), (.aload_n 2, 1), (.iload_n 1, 1)] (by decide +kernel) rfl ?_
  refine zV_ar (by decide +kernel) (by decide) (by decide) h (fun v4 _ h => ?_)
  refine zV_b (pc' := 21) (lv' := [(3, .inr (.inr v4)), (2, .inr (.inr v3)), (0, .inr (.inr l0)), (1, .inl l1)]) (st' := [.inl l1, .inr (.inr v3), .inr (.inr l0)]) [(.astore_n 3, 1), (.aload_n 0, 1), (.aload_n 2, 1), (.iload_n 1, 1)] (by decide +kernel) rfl ?_
  refine zV_cvv (As := [.inr (.inr v3), .inl l1]) (st := []) (c := 0) (by decide +kernel) (zcl_Jx4a65c_fastRemove_b59b0 (by decide) (by decide)) ⟨zw_1271, zw_1273, zw_55⟩ ⟨⟨_, _, rfl⟩, by decide⟩ rfl rfl (Nat.le_of_ble_eq_true rfl) h (fun _ _ e => zc_Jx4a65c_fastRemove_b59b0 e) (fun M5 _ _ h => ?_)
  refine zV_b (pc' := 25) (lv' := [(3, .inr (.inr v4)), (2, .inr (.inr v3)), (0, .inr (.inr l0)), (1, .inl l1)]) (st' := [.inr (.inr v4)]) [(.aload_n 3, 1)] (by decide +kernel) rfl ?_
  exact zend_r h hR (by decide +kernel)
theorem zc_Jx4a65c_remove_915e3 {M M' : Zm} {l0 : Option Nat} {l1 : Int32} {x : Option Nat} (h : zf_Jx4a65c_remove_915e3 M l0 l1 = some (M', x)) (l : Launch) (D : va_G) (cy : Nat → ClassId) : zMet l yJx4a65c_remove_915e3 zC_Jx4a65c_remove_915e3 (some (.object "java/lang/Object")) D cy [.inr (.inr l0), .inl l1] M M' (some (.inr (.inr x))) :=
  zM_r (Or.inl ⟨_, rfl⟩) (by decide) rfl (fun h => by cases h) (Nat.le_of_ble_eq_true rfl) (fun X hR => zt_Jx4a65c_remove_915e3 h hR)
