/-! What the bytecode does, as functions of the memory, and the walks (written by wip/gen.py). -/
-- BlendCellarModel.drawFrom(IJZ)V
def zC_X12_drawFrom : Zc := (cX12_drawFrom, 13, RX12, 2, 50, false)
theorem zcl_X12_drawFrom {C : Zc} (h1 : zC_X12_drawFrom.2.2.2.1 + 1 ≤ C.2.2.2.1) (h2 : 8 + (zC_X12_drawFrom.2.1 + 11) + zC_X12_drawFrom.2.2.2.2.1 ≤ C.2.2.2.2.1) : zCl C yX12_drawFrom zC_X12_drawFrom none 3 := ⟨zw_1806, zw_114, ⟨by decide, by decide⟩, by decide +kernel, h1, h2⟩
noncomputable def zf_X12_drawFrom_J96 (M : Zm) (p0 : Option Nat) (p1 : Int32) (p4 : Int32) (l5 : Int64) (l7 : Int32) (l11 : Int64) : Option ((Zm × Int64 × Int32) ⊕ (Zm × Int64 × Int32)) :=
  some (.inl (M, (l5 - l11), (l7 + 1)))
noncomputable def zf_X12_drawFrom_J79 (M : Zm) (p0 : Option Nat) (p1 : Int32) (p4 : Int32) (l5 : Int64) (l7 : Int32) (l8 : Int32) (s0 : Int64) : Option ((Zm × Int64 × Int32) ⊕ (Zm × Int64 × Int32)) :=
  (if s0 ≤ (0 : Int64) then
  zf_X12_drawFrom_J96 M p0 p1 p4 l5 l7 s0
  else
  zb1 (zo_rc M p0 13) (fun _ => zbd (zf_X12_addDraw M p0 l8 s0) (fun M14 _ =>
  zf_X12_drawFrom_J96 M14 p0 p1 p4 l5 l7 s0)))
noncomputable def zf_X12_drawFrom_L23 (p0 : Option Nat) (p1 : Int32) (p4 : Int32) (x : Zm × Int64 × Int32) : Option ((Zm × Int64 × Int32) ⊕ (Zm × Int64 × Int32)) := match x with
  | (M, l5, l7) =>
  zb1 (zo_gr M p0 13 6) (fun v4 =>
  zb1 (zo_ai M v4 p1) (fun v5 =>
  (if v5 ≤ l7 then
  some (.inr (M, l5, l7))
  else
  (if l5 ≤ (0 : Int64) then
  some (.inr (M, l5, l7))
  else
  zb1 (zo_gr M p0 13 7) (fun v8 =>
  zb1 (zo_ai M v8 (((4 : Int32) * p1) + l7)) (fun v9 =>
  zb1 (zo_rc M p0 13) (fun _ => zbd (zf_X12_spareOfVessel M p0 v9 p4) (fun M10 v10 =>
  (if l5 ≤ v10 then
  zf_X12_drawFrom_J79 M10 p0 p1 p4 l5 l7 v9 l5
  else
  zf_X12_drawFrom_J79 M10 p0 p1 p4 l5 l7 v9 v10)))))))))
def zP_X12_drawFrom_L23 (X : Zx) (p0 : Option Nat) (p1 : Int32) (p4 : Int32) (x : Zm × Int64 × Int32) : Prop := match x with
  | (M, l5, l7) => zV X zC_X12_drawFrom M 23 [(0, .inr (.inr p0)), (1, .inl p1), (4, .inl p4), (5, .inr (.inl l5)), (7, .inl l7)] []
def zK_X12_drawFrom_L23 (X : Zx) (p0 : Option Nat) (p1 : Int32) (p4 : Int32) (y : Zm × Int64 × Int32) : Prop := match y with
  | (M, l5, l7) => zV X zC_X12_drawFrom M 109 [] []
noncomputable def zf_X12_drawFrom (M : Zm) (l0 : Option Nat) (l1 : Int32) (l2 : Int64) (l4 : Int32) : Option (Zm × Unit) :=
  zb1 (zo_gr M l0 13 2) (fun v1 =>
  zb1 (zo_ai M v1 l1) (fun v2 =>
  (if v2 = (5 : Int32) then
  zb1 (zwhile (zf_X12_drawFrom_L23 l0 l1 l4) (M, l2, (0 : Int32))) (fun y16 => match y16 with
  | (M23_16, l5_16, l7_16) =>
  some (M23_16, ()))
  else
  zb1 (zo_rc M l0 13) (fun _ => zbd (zf_X12_addDraw M l0 l1 l2) (fun M18 _ =>
  some (M18, ()))))))
set_option maxRecDepth 100000 in
theorem zt_X12_drawFrom_J96 {X : Zx} {M : Zm} {p0 : Option Nat} {p1 : Int32} {p4 : Int32} {l5 : Int64} {l7 : Int32} {l11 : Int64} {z : (Zm × Int64 × Int32) ⊕ (Zm × Int64 × Int32)} (h : zf_X12_drawFrom_J96 M p0 p1 p4 l5 l7 l11 = some z) (k1 : ∀ x' : Zm × Int64 × Int32, z = .inl x' → zP_X12_drawFrom_L23 X p0 p1 p4 x') (k2 : ∀ y : Zm × Int64 × Int32, z = .inr y → zK_X12_drawFrom_L23 X p0 p1 p4 y) : zV X zC_X12_drawFrom M 96 [(0, .inr (.inr p0)), (1, .inl p1), (4, .inl p4), (5, .inr (.inl l5)), (7, .inl l7), (11, .inr (.inl l11))] [] := by
  unfold zf_X12_drawFrom_J96 at h
  refine zV_b (pc' := 106) (lv' := [(7, .inl (l7 + 1)), (5, .inr (.inl (l5 - l11))), (0, .inr (.inr p0)), (1, .inl p1), (4, .inl p4), (11, .inr (.inl l11))]) (st' := []) [(.lload 5, 2), (.lload 11, 2), (.lsub, 1), (.lstore 5, 2), (.iinc 7 1, 3)] (by decide +kernel) rfl ?_
  refine zV_goto (off := (-83)) (tgt := 23) (by decide +kernel) (by decide) ?_
  exact zV_lv (lv' := [(0, .inr (.inr p0)), (1, .inl p1), (4, .inl p4), (5, .inr (.inl (l5 - l11))), (7, .inl (l7 + 1))]) [2, 3, 4, 1, 0] rfl (k1 _ (Option.some.inj h).symm)
set_option maxRecDepth 100000 in
theorem zt_X12_drawFrom_J79 {X : Zx} {M : Zm} {p0 : Option Nat} {p1 : Int32} {p4 : Int32} {l5 : Int64} {l7 : Int32} {l8 : Int32} {s0 : Int64} {z : (Zm × Int64 × Int32) ⊕ (Zm × Int64 × Int32)} (h : zf_X12_drawFrom_J79 M p0 p1 p4 l5 l7 l8 s0 = some z) (k1 : ∀ x' : Zm × Int64 × Int32, z = .inl x' → zP_X12_drawFrom_L23 X p0 p1 p4 x') (k2 : ∀ y : Zm × Int64 × Int32, z = .inr y → zK_X12_drawFrom_L23 X p0 p1 p4 y) : zV X zC_X12_drawFrom M 79 [(0, .inr (.inr p0)), (1, .inl p1), (4, .inl p4), (5, .inr (.inl l5)), (7, .inl l7), (8, .inl l8)] [.inr (.inl s0)] := by
  unfold zf_X12_drawFrom_J79 at h
  refine zV_b (pc' := 84) (lv' := [(11, .inr (.inl s0)), (0, .inr (.inr p0)), (1, .inl p1), (4, .inl p4), (5, .inr (.inl l5)), (7, .inl l7), (8, .inl l8)]) (st' := [.inr (.inl (0 : Int64)), .inr (.inl s0)]) [(.lstore 11, 2), (.lload 11, 2), (.lconst 0, 1)] (by decide +kernel) rfl ?_
  refine zV_lcmp_le (off := 11) (tgt := 96) (by decide +kernel) (by decide +kernel) (by decide) h (fun c12 h => ?_) (fun c12 h => ?_)
  · exact zV_lv (lv' := [(0, .inr (.inr p0)), (1, .inl p1), (4, .inl p4), (5, .inr (.inl l5)), (7, .inl l7), (11, .inr (.inl s0))]) [1, 2, 3, 4, 5, 0] rfl (zt_X12_drawFrom_J96 h k1 k2)
  · refine zV_b (pc' := 93) (lv' := [(11, .inr (.inl s0)), (0, .inr (.inr p0)), (1, .inl p1), (4, .inl p4), (5, .inr (.inl l5)), (7, .inl l7), (8, .inl l8)]) (st' := [.inr (.inl s0), .inl l8, .inr (.inr p0)]) [(.aload_n 0, 1), (.iload 8, 2), (.lload 11, 2)] (by decide +kernel) rfl ?_
    refine zV_cvv (As := [.inl l8, .inr (.inl s0)]) (st := []) (c := 13) (by decide +kernel) (zcl_X12_addDraw (by decide) (by decide)) ⟨zw_1807, zw_1809, zw_81⟩ ⟨⟨_, _, rfl⟩, by decide⟩ rfl rfl (Nat.le_of_ble_eq_true rfl) h (fun _ _ e => zc_X12_addDraw e) (fun M14 _ _ h => ?_)
    exact zV_lv (lv' := [(0, .inr (.inr p0)), (1, .inl p1), (4, .inl p4), (5, .inr (.inl l5)), (7, .inl l7), (11, .inr (.inl s0))]) [1, 2, 3, 4, 5, 0] rfl (zt_X12_drawFrom_J96 h k1 k2)
set_option maxRecDepth 100000 in
theorem zt_X12_drawFrom_L23 {X : Zx} {p0 : Option Nat} {p1 : Int32} {p4 : Int32} {x : Zm × Int64 × Int32} {y : Zm × Int64 × Int32} (h : zwhile (zf_X12_drawFrom_L23 p0 p1 p4) x = some y) (hy : zK_X12_drawFrom_L23 X p0 p1 p4 y) : zP_X12_drawFrom_L23 X p0 p1 p4 x := by
  refine zwhile_ind (P := zP_X12_drawFrom_L23 X p0 p1 p4) (K := zK_X12_drawFrom_L23 X p0 p1 p4) ?_ h hy
  intro x z hf k1 k2
  obtain ⟨M, l5, l7⟩ := x
  have h : zf_X12_drawFrom_L23 p0 p1 p4 (M, l5, l7) = some z := hf
  unfold zf_X12_drawFrom_L23 at h
  show zV X zC_X12_drawFrom M 23 [(0, .inr (.inr p0)), (1, .inl p1), (4, .inl p4), (5, .inr (.inl l5)), (7, .inl l7)] []
  refine zV_b (pc' := 26) (lv' := [(0, .inr (.inr p0)), (1, .inl p1), (4, .inl p4), (5, .inr (.inl l5)), (7, .inl l7)]) (st' := [.inr (.inr p0), .inl l7]) [(.iload 7, 2), (.aload_n 0, 1)] (by decide +kernel) rfl ?_
  refine zV_gr (by decide +kernel) zfl_RX12_22 (by decide) rfl h (fun v4 _ h => ?_)
  refine zV_b (pc' := 30) (lv' := [(0, .inr (.inr p0)), (1, .inl p1), (4, .inl p4), (5, .inr (.inl l5)), (7, .inl l7)]) (st' := [.inl p1, .inr (.inr v4), .inl l7]) [(.iload_n 1, 1)] (by decide +kernel) rfl ?_
  refine zV_ai (by decide +kernel) h (fun v5 _ h => ?_)
  refine zV_icmp_ge (off := 78) (tgt := 109) (by decide +kernel) (by decide) h (fun c6 h => ?_) (fun c6 h => ?_)
  · exact zV_lv (lv' := []) [] rfl (k2 _ (Option.some.inj h).symm)
  · refine zV_b (pc' := 37) (lv' := [(0, .inr (.inr p0)), (1, .inl p1), (4, .inl p4), (5, .inr (.inl l5)), (7, .inl l7)]) (st' := [.inr (.inl (0 : Int64)), .inr (.inl l5)]) [(.lload 5, 2), (.lconst 0, 1)] (by decide +kernel) rfl ?_
    refine zV_lcmp_le (off := 71) (tgt := 109) (by decide +kernel) (by decide +kernel) (by decide) h (fun c7 h => ?_) (fun c7 h => ?_)
    · exact zV_lv (lv' := []) [] rfl (k2 _ (Option.some.inj h).symm)
    · refine zV_b (pc' := 42) (lv' := [(0, .inr (.inr p0)), (1, .inl p1), (4, .inl p4), (5, .inr (.inl l5)), (7, .inl l7)]) (st' := [.inr (.inr p0)]) [(.aload_n 0, 1)] (by decide +kernel) rfl ?_
      refine zV_gr (by decide +kernel) zfl_RX12_25 (by decide) rfl h (fun v8 _ h => ?_)
      refine zV_b (pc' := 51) (lv' := [(0, .inr (.inr p0)), (1, .inl p1), (4, .inl p4), (5, .inr (.inl l5)), (7, .inl l7)]) (st' := [.inl (((4 : Int32) * p1) + l7), .inr (.inr v8)]) [(.iconst 4, 1), (.iload_n 1, 1), (.imul, 1), (.iload 7, 2), (.iadd, 1)] (by decide +kernel) rfl ?_
      refine zV_ai (by decide +kernel) h (fun v9 _ h => ?_)
      refine zV_b (pc' := 59) (lv' := [(8, .inl v9), (0, .inr (.inr p0)), (1, .inl p1), (4, .inl p4), (5, .inr (.inl l5)), (7, .inl l7)]) (st' := [.inl p4, .inl v9, .inr (.inr p0)]) [(.istore 8, 2), (.aload_n 0, 1), (.iload 8, 2), (.iload 4, 2)] (by decide +kernel) rfl ?_
      refine zV_cvj (As := [.inl v9, .inl p4]) (st := []) (c := 13) (by decide +kernel) (zcl_X12_spareOfVessel (by decide) (by decide)) ⟨zw_1799, zw_1801, zw_79⟩ ⟨⟨_, _, rfl⟩, by decide⟩ rfl rfl (Nat.le_of_ble_eq_true rfl) h (fun _ _ e => zc_X12_spareOfVessel e) (fun M10 v10 _ h => ?_)
      refine zV_b (pc' := 68) (lv' := [(9, .inr (.inl v10)), (8, .inl v9), (0, .inr (.inr p0)), (1, .inl p1), (4, .inl p4), (5, .inr (.inl l5)), (7, .inl l7)]) (st' := [.inr (.inl l5), .inr (.inl v10)]) [(.lstore 9, 2), (.lload 9, 2), (.lload 5, 2)] (by decide +kernel) rfl ?_
      refine zV_lcmp_ge (off := 8) (tgt := 77) (by decide +kernel) (by decide +kernel) (by decide) h (fun c11 h => ?_) (fun c11 h => ?_)
      · refine zV_b (pc' := 79) (lv' := [(9, .inr (.inl v10)), (8, .inl v9), (0, .inr (.inr p0)), (1, .inl p1), (4, .inl p4), (5, .inr (.inl l5)), (7, .inl l7)]) (st' := [.inr (.inl l5)]) [(.lload 5, 2)] (by decide +kernel) rfl ?_
        exact zV_lv (lv' := [(0, .inr (.inr p0)), (1, .inl p1), (4, .inl p4), (5, .inr (.inl l5)), (7, .inl l7), (8, .inl v9)]) [2, 3, 4, 5, 6, 1] rfl (zt_X12_drawFrom_J79 h k1 k2)
      · refine zV_b (pc' := 74) (lv' := [(9, .inr (.inl v10)), (8, .inl v9), (0, .inr (.inr p0)), (1, .inl p1), (4, .inl p4), (5, .inr (.inl l5)), (7, .inl l7)]) (st' := [.inr (.inl v10)]) [(.lload 9, 2)] (by decide +kernel) rfl ?_
        refine zV_goto (off := 5) (tgt := 79) (by decide +kernel) (by decide) ?_
        exact zV_lv (lv' := [(0, .inr (.inr p0)), (1, .inl p1), (4, .inl p4), (5, .inr (.inl l5)), (7, .inl l7), (8, .inl v9)]) [2, 3, 4, 5, 6, 1] rfl (zt_X12_drawFrom_J79 h k1 k2)
set_option maxRecDepth 100000 in
theorem zt_X12_drawFrom {X : Zx} {M : Zm} {l0 : Option Nat} {l1 : Int32} {l2 : Int64} {l4 : Int32} {z : Zm × Unit} (h : zf_X12_drawFrom M l0 l1 l2 l4 = some z) (hR : zRv X zC_X12_drawFrom z.1) : zV X zC_X12_drawFrom M 0 [(0, .inr (.inr l0)), (1, .inl l1), (2, .inr (.inl l2)), (4, .inl l4)] [] := by
  unfold zf_X12_drawFrom at h
  refine zV_b (pc' := 1) (lv' := [(0, .inr (.inr l0)), (1, .inl l1), (2, .inr (.inl l2)), (4, .inl l4)]) (st' := [.inr (.inr l0)]) [(.aload_n 0, 1)] (by decide +kernel) rfl ?_
  refine zV_gr (by decide +kernel) zfl_RX12_9 (by decide) rfl h (fun v1 _ h => ?_)
  refine zV_b (pc' := 5) (lv' := [(0, .inr (.inr l0)), (1, .inl l1), (2, .inr (.inl l2)), (4, .inl l4)]) (st' := [.inl l1, .inr (.inr v1)]) [(.iload_n 1, 1)] (by decide +kernel) rfl ?_
  refine zV_ai (by decide +kernel) h (fun v2 _ h => ?_)
  refine zV_b (pc' := 7) (lv' := [(0, .inr (.inr l0)), (1, .inl l1), (2, .inr (.inl l2)), (4, .inl l4)]) (st' := [.inl (5 : Int32), .inl v2]) [(.iconst 5, 1)] (by decide +kernel) rfl ?_
  refine zV_icmp_eq (off := 10) (tgt := 17) (by decide +kernel) (by decide) h (fun c3 h => ?_) (fun c3 h => ?_)
  · refine zV_b (pc' := 23) (lv' := [(7, .inl (0 : Int32)), (5, .inr (.inl l2)), (0, .inr (.inr l0)), (1, .inl l1), (2, .inr (.inl l2)), (4, .inl l4)]) (st' := []) [(.lload_n 2, 1), (.lstore 5, 2), (.iconst 0, 1), (.istore 7, 2)] (by decide +kernel) rfl ?_
    obtain ⟨y16, e16, h⟩ := zb1_inv h
    refine zV_lv (lv' := [(0, .inr (.inr l0)), (1, .inl l1), (4, .inl l4), (5, .inr (.inl l2)), (7, .inl (0 : Int32))]) [2, 3, 5, 1, 0] rfl (zt_X12_drawFrom_L23 e16 ?_)
    obtain ⟨M23_16, l5_16, l7_16⟩ := y16
    show zV X zC_X12_drawFrom M23_16 109 [] []
    exact zend_v h hR (by decide +kernel)
  · refine zV_b (pc' := 13) (lv' := [(0, .inr (.inr l0)), (1, .inl l1), (2, .inr (.inl l2)), (4, .inl l4)]) (st' := [.inr (.inl l2), .inl l1, .inr (.inr l0)]) [(.aload_n 0, 1), (.iload_n 1, 1), (.lload_n 2, 1)] (by decide +kernel) rfl ?_
    refine zV_cvv (As := [.inl l1, .inr (.inl l2)]) (st := []) (c := 13) (by decide +kernel) (zcl_X12_addDraw (by decide) (by decide)) ⟨zw_1807, zw_1809, zw_81⟩ ⟨⟨_, _, rfl⟩, by decide⟩ rfl rfl (Nat.le_of_ble_eq_true rfl) h (fun _ _ e => zc_X12_addDraw e) (fun M18 _ _ h => ?_)
    exact zend_v h hR (by decide +kernel)
theorem zc_X12_drawFrom {M M' : Zm} {l0 : Option Nat} {l1 : Int32} {l2 : Int64} {l4 : Int32} {x : Unit} (h : zf_X12_drawFrom M l0 l1 l2 l4 = some (M', x)) (l : Launch) (D : va_G) (cy : Nat → ClassId) : zMet l yX12_drawFrom zC_X12_drawFrom none D cy [.inr (.inr l0), .inl l1, .inr (.inl l2), .inl l4] M M' none :=
  zM_v (by decide) rfl (fun h => by cases h) (Nat.le_of_ble_eq_true rfl) (fun X hR => zt_X12_drawFrom h hR)
-- BlendCellarModel.enter(IIIJ)V
def zC_X12_enter : Zc := (cX12_enter, 8, RX12, 0, 0, false)
theorem zcl_X12_enter {C : Zc} (h1 : zC_X12_enter.2.2.2.1 + 1 ≤ C.2.2.2.1) (h2 : 8 + (zC_X12_enter.2.1 + 11) + zC_X12_enter.2.2.2.2.1 ≤ C.2.2.2.2.1) : zCl C yX12_enter zC_X12_enter none 4 := ⟨zw_1790, zw_114, ⟨by decide, by decide⟩, by decide +kernel, h1, h2⟩
noncomputable def zf_X12_enter_L28 (p0 : Option Nat) (p1 : Int32) (p2 : Int32) (p3 : Int32) (p4 : Int64) (p6 : Option Nat) (x : Zm × Int32) : Option ((Zm × Int32) ⊕ (Zm × Int32)) := match x with
  | (M, l7) =>
  zb1 (zo_gr M p0 13 20) (fun v8 =>
  zb1 (zo_al M v8) (fun v9 =>
  (if v9 ≤ l7 then
  some (.inr (M, l7))
  else
  zb1 (zo_gr M p0 13 20) (fun v11 =>
  zb1 (zo_aj M v11 l7) (fun v12 =>
  zb1 (zo_sj M p6 l7 v12) (fun M13 =>
  some (.inl (M13, (l7 + 1)))))))))
def zP_X12_enter_L28 (X : Zx) (p0 : Option Nat) (p1 : Int32) (p2 : Int32) (p3 : Int32) (p4 : Int64) (p6 : Option Nat) (x : Zm × Int32) : Prop := match x with
  | (M, l7) => zV X zC_X12_enter M 28 [(0, .inr (.inr p0)), (1, .inl p1), (2, .inl p2), (3, .inl p3), (4, .inr (.inl p4)), (6, .inr (.inr p6)), (7, .inl l7)] []
def zK_X12_enter_L28 (X : Zx) (p0 : Option Nat) (p1 : Int32) (p2 : Int32) (p3 : Int32) (p4 : Int64) (p6 : Option Nat) (y : Zm × Int32) : Prop := match y with
  | (M, l7) => zV X zC_X12_enter M 56 [(0, .inr (.inr p0)), (1, .inl p1), (2, .inl p2), (3, .inl p3), (4, .inr (.inl p4)), (6, .inr (.inr p6))] []
noncomputable def zf_X12_enter_J62 (M : Zm) (l0 : Option Nat) (l1 : Int32) (l2 : Int32) (l3 : Int32) (l4 : Int64) : Option (Zm × Unit) :=
  zb1 (zo_gr M l0 13 20) (fun v17 =>
  zb1 (zo_gi M l0 13 19) (fun v18 =>
  zb1 (zo_sj M v17 ((4 : Int32) * v18) (l1.toInt64)) (fun M19 =>
  zb1 (zo_gr M19 l0 13 20) (fun v20 =>
  zb1 (zo_gi M19 l0 13 19) (fun v21 =>
  zb1 (zo_sj M19 v20 (((4 : Int32) * v21) + (1 : Int32)) (l2.toInt64)) (fun M22 =>
  zb1 (zo_gr M22 l0 13 20) (fun v23 =>
  zb1 (zo_gi M22 l0 13 19) (fun v24 =>
  zb1 (zo_sj M22 v23 (((4 : Int32) * v24) + (2 : Int32)) (l3.toInt64)) (fun M25 =>
  zb1 (zo_gr M25 l0 13 20) (fun v26 =>
  zb1 (zo_gi M25 l0 13 19) (fun v27 =>
  zb1 (zo_sj M25 v26 (((4 : Int32) * v27) + (3 : Int32)) l4) (fun M28 =>
  zb1 (zo_gi M28 l0 13 19) (fun v29 =>
  zb1 (zo_pi M28 l0 13 19 (v29 + (1 : Int32))) (fun M30 =>
  some (M30, ())))))))))))))))
noncomputable def zf_X12_enter (M : Zm) (l0 : Option Nat) (l1 : Int32) (l2 : Int32) (l3 : Int32) (l4 : Int64) : Option (Zm × Unit) :=
  zb1 (zo_gi M l0 13 19) (fun v1 =>
  zb1 (zo_gr M l0 13 20) (fun v2 =>
  zb1 (zo_al M v2) (fun v3 =>
  (if ((4 : Int32) * v1) = v3 then
  zb1 (zo_gr M l0 13 20) (fun v5 =>
  zb1 (zo_al M v5) (fun v6 =>
  zb1 (zo_na M 15 ((2 : Int32) * v6)) (fun M7 =>
  zb1 (zwhile (zf_X12_enter_L28 l0 l1 l2 l3 l4 (zm_nx M)) (M7, (0 : Int32))) (fun y15 => match y15 with
  | (M28_15, l7_15) =>
  zb1 (zo_pr M28_15 l0 13 20 (zm_nx M)) (fun M16 =>
  zf_X12_enter_J62 M16 l0 l1 l2 l3 l4)))))
  else
  zf_X12_enter_J62 M l0 l1 l2 l3 l4))))
set_option maxRecDepth 100000 in
theorem zt_X12_enter_L28 {X : Zx} {p0 : Option Nat} {p1 : Int32} {p2 : Int32} {p3 : Int32} {p4 : Int64} {p6 : Option Nat} {x : Zm × Int32} {y : Zm × Int32} (h : zwhile (zf_X12_enter_L28 p0 p1 p2 p3 p4 p6) x = some y) (hy : zK_X12_enter_L28 X p0 p1 p2 p3 p4 p6 y) : zP_X12_enter_L28 X p0 p1 p2 p3 p4 p6 x := by
  refine zwhile_ind (P := zP_X12_enter_L28 X p0 p1 p2 p3 p4 p6) (K := zK_X12_enter_L28 X p0 p1 p2 p3 p4 p6) ?_ h hy
  intro x z hf k1 k2
  obtain ⟨M, l7⟩ := x
  have h : zf_X12_enter_L28 p0 p1 p2 p3 p4 p6 (M, l7) = some z := hf
  unfold zf_X12_enter_L28 at h
  show zV X zC_X12_enter M 28 [(0, .inr (.inr p0)), (1, .inl p1), (2, .inl p2), (3, .inl p3), (4, .inr (.inl p4)), (6, .inr (.inr p6)), (7, .inl l7)] []
  refine zV_b (pc' := 31) (lv' := [(0, .inr (.inr p0)), (1, .inl p1), (2, .inl p2), (3, .inl p3), (4, .inr (.inl p4)), (6, .inr (.inr p6)), (7, .inl l7)]) (st' := [.inr (.inr p0), .inl l7]) [(.iload 7, 2), (.aload_n 0, 1)] (by decide +kernel) rfl ?_
  refine zV_gr (by decide +kernel) zfl_RX12_57 (by decide) rfl h (fun v8 _ h => ?_)
  refine zV_al (by decide +kernel) h (fun v9 _ h => ?_)
  refine zV_icmp_ge (off := 21) (tgt := 56) (by decide +kernel) (by decide) h (fun c10 h => ?_) (fun c10 h => ?_)
  · exact zV_lv (lv' := [(0, .inr (.inr p0)), (1, .inl p1), (2, .inl p2), (3, .inl p3), (4, .inr (.inl p4)), (6, .inr (.inr p6))]) [0, 1, 2, 3, 4, 5] rfl (k2 _ (Option.some.inj h).symm)
  · refine zV_b (pc' := 43) (lv' := [(0, .inr (.inr p0)), (1, .inl p1), (2, .inl p2), (3, .inl p3), (4, .inr (.inl p4)), (6, .inr (.inr p6)), (7, .inl l7)]) (st' := [.inr (.inr p0), .inl l7, .inr (.inr p6)]) [(.aload 6, 2), (.iload 7, 2), (.aload_n 0, 1)] (by decide +kernel) rfl ?_
    refine zV_gr (by decide +kernel) zfl_RX12_57 (by decide) rfl h (fun v11 _ h => ?_)
    refine zV_b (pc' := 48) (lv' := [(0, .inr (.inr p0)), (1, .inl p1), (2, .inl p2), (3, .inl p3), (4, .inr (.inl p4)), (6, .inr (.inr p6)), (7, .inl l7)]) (st' := [.inl l7, .inr (.inr v11), .inl l7, .inr (.inr p6)]) [(.iload 7, 2)] (by decide +kernel) rfl ?_
    refine zV_aj (by decide +kernel) h (fun v12 _ h => ?_)
    refine zV_sj (by decide +kernel) h (fun M13 _ h => ?_)
    refine zV_b (pc' := 53) (lv' := [(7, .inl (l7 + 1)), (0, .inr (.inr p0)), (1, .inl p1), (2, .inl p2), (3, .inl p3), (4, .inr (.inl p4)), (6, .inr (.inr p6))]) (st' := []) [(.iinc 7 1, 3)] (by decide +kernel) rfl ?_
    refine zV_goto (off := (-25)) (tgt := 28) (by decide +kernel) (by decide) ?_
    exact zV_lv (lv' := [(0, .inr (.inr p0)), (1, .inl p1), (2, .inl p2), (3, .inl p3), (4, .inr (.inl p4)), (6, .inr (.inr p6)), (7, .inl (l7 + 1))]) [1, 2, 3, 4, 5, 6, 0] rfl (k1 _ (Option.some.inj h).symm)
set_option maxRecDepth 100000 in
theorem zt_X12_enter_J62 {X : Zx} {M : Zm} {l0 : Option Nat} {l1 : Int32} {l2 : Int32} {l3 : Int32} {l4 : Int64} {z : Zm × Unit} (h : zf_X12_enter_J62 M l0 l1 l2 l3 l4 = some z) (hR : zRv X zC_X12_enter z.1) : zV X zC_X12_enter M 62 [(0, .inr (.inr l0)), (1, .inl l1), (2, .inl l2), (3, .inl l3), (4, .inr (.inl l4))] [] := by
  unfold zf_X12_enter_J62 at h
  refine zV_b (pc' := 63) (lv' := [(0, .inr (.inr l0)), (1, .inl l1), (2, .inl l2), (3, .inl l3), (4, .inr (.inl l4))]) (st' := [.inr (.inr l0)]) [(.aload_n 0, 1)] (by decide +kernel) rfl ?_
  refine zV_gr (by decide +kernel) zfl_RX12_57 (by decide) rfl h (fun v17 _ h => ?_)
  refine zV_b (pc' := 68) (lv' := [(0, .inr (.inr l0)), (1, .inl l1), (2, .inl l2), (3, .inl l3), (4, .inr (.inl l4))]) (st' := [.inr (.inr l0), .inl (4 : Int32), .inr (.inr v17)]) [(.iconst 4, 1), (.aload_n 0, 1)] (by decide +kernel) rfl ?_
  refine zV_gi (by decide +kernel) zfl_RX12_189 (by decide) rfl (Or.inl rfl) h (fun v18 _ h => ?_)
  refine zV_b (pc' := 74) (lv' := [(0, .inr (.inr l0)), (1, .inl l1), (2, .inl l2), (3, .inl l3), (4, .inr (.inl l4))]) (st' := [.inr (.inl (l1.toInt64)), .inl ((4 : Int32) * v18), .inr (.inr v17)]) [(.imul, 1), (.iload_n 1, 1), (.i2l, 1)] (by decide +kernel) rfl ?_
  refine zV_sj (by decide +kernel) h (fun M19 _ h => ?_)
  refine zV_b (pc' := 76) (lv' := [(0, .inr (.inr l0)), (1, .inl l1), (2, .inl l2), (3, .inl l3), (4, .inr (.inl l4))]) (st' := [.inr (.inr l0)]) [(.aload_n 0, 1)] (by decide +kernel) rfl ?_
  refine zV_gr (by decide +kernel) zfl_RX12_57 (by decide) rfl h (fun v20 _ h => ?_)
  refine zV_b (pc' := 81) (lv' := [(0, .inr (.inr l0)), (1, .inl l1), (2, .inl l2), (3, .inl l3), (4, .inr (.inl l4))]) (st' := [.inr (.inr l0), .inl (4 : Int32), .inr (.inr v20)]) [(.iconst 4, 1), (.aload_n 0, 1)] (by decide +kernel) rfl ?_
  refine zV_gi (by decide +kernel) zfl_RX12_189 (by decide) rfl (Or.inl rfl) h (fun v21 _ h => ?_)
  refine zV_b (pc' := 89) (lv' := [(0, .inr (.inr l0)), (1, .inl l1), (2, .inl l2), (3, .inl l3), (4, .inr (.inl l4))]) (st' := [.inr (.inl (l2.toInt64)), .inl (((4 : Int32) * v21) + (1 : Int32)), .inr (.inr v20)]) [(.imul, 1), (.iconst 1, 1), (.iadd, 1), (.iload_n 2, 1), (.i2l, 1)] (by decide +kernel) rfl ?_
  refine zV_sj (by decide +kernel) h (fun M22 _ h => ?_)
  refine zV_b (pc' := 91) (lv' := [(0, .inr (.inr l0)), (1, .inl l1), (2, .inl l2), (3, .inl l3), (4, .inr (.inl l4))]) (st' := [.inr (.inr l0)]) [(.aload_n 0, 1)] (by decide +kernel) rfl ?_
  refine zV_gr (by decide +kernel) zfl_RX12_57 (by decide) rfl h (fun v23 _ h => ?_)
  refine zV_b (pc' := 96) (lv' := [(0, .inr (.inr l0)), (1, .inl l1), (2, .inl l2), (3, .inl l3), (4, .inr (.inl l4))]) (st' := [.inr (.inr l0), .inl (4 : Int32), .inr (.inr v23)]) [(.iconst 4, 1), (.aload_n 0, 1)] (by decide +kernel) rfl ?_
  refine zV_gi (by decide +kernel) zfl_RX12_189 (by decide) rfl (Or.inl rfl) h (fun v24 _ h => ?_)
  refine zV_b (pc' := 104) (lv' := [(0, .inr (.inr l0)), (1, .inl l1), (2, .inl l2), (3, .inl l3), (4, .inr (.inl l4))]) (st' := [.inr (.inl (l3.toInt64)), .inl (((4 : Int32) * v24) + (2 : Int32)), .inr (.inr v23)]) [(.imul, 1), (.iconst 2, 1), (.iadd, 1), (.iload_n 3, 1), (.i2l, 1)] (by decide +kernel) rfl ?_
  refine zV_sj (by decide +kernel) h (fun M25 _ h => ?_)
  refine zV_b (pc' := 106) (lv' := [(0, .inr (.inr l0)), (1, .inl l1), (2, .inl l2), (3, .inl l3), (4, .inr (.inl l4))]) (st' := [.inr (.inr l0)]) [(.aload_n 0, 1)] (by decide +kernel) rfl ?_
  refine zV_gr (by decide +kernel) zfl_RX12_57 (by decide) rfl h (fun v26 _ h => ?_)
  refine zV_b (pc' := 111) (lv' := [(0, .inr (.inr l0)), (1, .inl l1), (2, .inl l2), (3, .inl l3), (4, .inr (.inl l4))]) (st' := [.inr (.inr l0), .inl (4 : Int32), .inr (.inr v26)]) [(.iconst 4, 1), (.aload_n 0, 1)] (by decide +kernel) rfl ?_
  refine zV_gi (by decide +kernel) zfl_RX12_189 (by decide) rfl (Or.inl rfl) h (fun v27 _ h => ?_)
  refine zV_b (pc' := 119) (lv' := [(0, .inr (.inr l0)), (1, .inl l1), (2, .inl l2), (3, .inl l3), (4, .inr (.inl l4))]) (st' := [.inr (.inl l4), .inl (((4 : Int32) * v27) + (3 : Int32)), .inr (.inr v26)]) [(.imul, 1), (.iconst 3, 1), (.iadd, 1), (.lload 4, 2)] (by decide +kernel) rfl ?_
  refine zV_sj (by decide +kernel) h (fun M28 _ h => ?_)
  refine zV_b (pc' := 122) (lv' := [(0, .inr (.inr l0)), (1, .inl l1), (2, .inl l2), (3, .inl l3), (4, .inr (.inl l4))]) (st' := [.inr (.inr l0), .inr (.inr l0)]) [(.aload_n 0, 1), (.dup, 1)] (by decide +kernel) rfl ?_
  refine zV_gi (by decide +kernel) zfl_RX12_189 (by decide) rfl (Or.inl rfl) h (fun v29 _ h => ?_)
  refine zV_b (pc' := 127) (lv' := [(0, .inr (.inr l0)), (1, .inl l1), (2, .inl l2), (3, .inl l3), (4, .inr (.inl l4))]) (st' := [.inl (v29 + (1 : Int32)), .inr (.inr l0)]) [(.iconst 1, 1), (.iadd, 1)] (by decide +kernel) rfl ?_
  refine zV_pi (by decide +kernel) zfp_RX12_189 (by decide) rfl h (fun M30 _ h => ?_)
  exact zend_v h hR (by decide +kernel)
set_option maxRecDepth 100000 in
theorem zt_X12_enter {X : Zx} {M : Zm} {l0 : Option Nat} {l1 : Int32} {l2 : Int32} {l3 : Int32} {l4 : Int64} {z : Zm × Unit} (h : zf_X12_enter M l0 l1 l2 l3 l4 = some z) (hR : zRv X zC_X12_enter z.1) : zV X zC_X12_enter M 0 [(0, .inr (.inr l0)), (1, .inl l1), (2, .inl l2), (3, .inl l3), (4, .inr (.inl l4))] [] := by
  unfold zf_X12_enter at h
  refine zV_b (pc' := 2) (lv' := [(0, .inr (.inr l0)), (1, .inl l1), (2, .inl l2), (3, .inl l3), (4, .inr (.inl l4))]) (st' := [.inr (.inr l0), .inl (4 : Int32)]) [(.iconst 4, 1), (.aload_n 0, 1)] (by decide +kernel) rfl ?_
  refine zV_gi (by decide +kernel) zfl_RX12_189 (by decide) rfl (Or.inl rfl) h (fun v1 _ h => ?_)
  refine zV_b (pc' := 7) (lv' := [(0, .inr (.inr l0)), (1, .inl l1), (2, .inl l2), (3, .inl l3), (4, .inr (.inl l4))]) (st' := [.inr (.inr l0), .inl ((4 : Int32) * v1)]) [(.imul, 1), (.aload_n 0, 1)] (by decide +kernel) rfl ?_
  refine zV_gr (by decide +kernel) zfl_RX12_57 (by decide) rfl h (fun v2 _ h => ?_)
  refine zV_al (by decide +kernel) h (fun v3 _ h => ?_)
  refine zV_icmp_ne (off := 51) (tgt := 62) (by decide +kernel) (by decide) h (fun c4 h => ?_) (fun c4 h => ?_)
  · refine zV_b (pc' := 16) (lv' := [(0, .inr (.inr l0)), (1, .inl l1), (2, .inl l2), (3, .inl l3), (4, .inr (.inl l4))]) (st' := [.inr (.inr l0), .inl (2 : Int32)]) [(.iconst 2, 1), (.aload_n 0, 1)] (by decide +kernel) rfl ?_
    refine zV_gr (by decide +kernel) zfl_RX12_57 (by decide) rfl h (fun v5 _ h => ?_)
    refine zV_al (by decide +kernel) h (fun v6 _ h => ?_)
    refine zV_b (pc' := 21) (lv' := [(0, .inr (.inr l0)), (1, .inl l1), (2, .inl l2), (3, .inl l3), (4, .inr (.inl l4))]) (st' := [.inl ((2 : Int32) * v6)]) [(.imul, 1)] (by decide +kernel) rfl ?_
    refine zV_na (by decide +kernel) (Or.inr ⟨rfl, rfl⟩) h (fun M7 _ h => ?_)
    refine zV_b (pc' := 28) (lv' := [(7, .inl (0 : Int32)), (6, .inr (.inr (zm_nx M))), (0, .inr (.inr l0)), (1, .inl l1), (2, .inl l2), (3, .inl l3), (4, .inr (.inl l4))]) (st' := []) [(.astore 6, 2), (.iconst 0, 1), (.istore 7, 2)] (by decide +kernel) rfl ?_
    obtain ⟨y15, e15, h⟩ := zb1_inv h
    refine zV_lv (lv' := [(0, .inr (.inr l0)), (1, .inl l1), (2, .inl l2), (3, .inl l3), (4, .inr (.inl l4)), (6, .inr (.inr (zm_nx M))), (7, .inl (0 : Int32))]) [2, 3, 4, 5, 6, 1, 0] rfl (zt_X12_enter_L28 e15 ?_)
    obtain ⟨M28_15, l7_15⟩ := y15
    show zV X zC_X12_enter M28_15 56 [(0, .inr (.inr l0)), (1, .inl l1), (2, .inl l2), (3, .inl l3), (4, .inr (.inl l4)), (6, .inr (.inr (zm_nx M)))] []
    refine zV_b (pc' := 59) (lv' := [(0, .inr (.inr l0)), (1, .inl l1), (2, .inl l2), (3, .inl l3), (4, .inr (.inl l4)), (6, .inr (.inr (zm_nx M)))]) (st' := [.inr (.inr (zm_nx M)), .inr (.inr l0)]) [(.aload_n 0, 1), (.aload 6, 2)] (by decide +kernel) rfl ?_
    refine zV_pr (by decide +kernel) zfp_RX12_57 (Or.inr ⟨_, rfl⟩) (by decide) rfl h (fun M16 _ h => ?_)
    exact zV_lv (lv' := [(0, .inr (.inr l0)), (1, .inl l1), (2, .inl l2), (3, .inl l3), (4, .inr (.inl l4))]) [0, 1, 2, 3, 4] rfl (zt_X12_enter_J62 h hR)
  · exact zV_lv (lv' := [(0, .inr (.inr l0)), (1, .inl l1), (2, .inl l2), (3, .inl l3), (4, .inr (.inl l4))]) [0, 1, 2, 3, 4] rfl (zt_X12_enter_J62 h hR)
theorem zc_X12_enter {M M' : Zm} {l0 : Option Nat} {l1 : Int32} {l2 : Int32} {l3 : Int32} {l4 : Int64} {x : Unit} (h : zf_X12_enter M l0 l1 l2 l3 l4 = some (M', x)) (l : Launch) (D : va_G) (cy : Nat → ClassId) : zMet l yX12_enter zC_X12_enter none D cy [.inr (.inr l0), .inl l1, .inl l2, .inl l3, .inr (.inl l4)] M M' none :=
  zM_v (by decide) rfl (fun h => by cases h) (Nat.le_of_ble_eq_true rfl) (fun X hR => zt_X12_enter h hR)
-- BlendCellarModel.isInCask(I)Z
def zC_X12_isInCask : Zc := (cX12_isInCask, 2, RX12, 0, 0, false)
theorem zcl_X12_isInCask {C : Zc} (h1 : zC_X12_isInCask.2.2.2.1 + 1 ≤ C.2.2.2.1) (h2 : 8 + (zC_X12_isInCask.2.1 + 11) + zC_X12_isInCask.2.2.2.2.1 ≤ C.2.2.2.2.1) : zCl C yX12_isInCask zC_X12_isInCask (some .boolean) 1 := ⟨zw_1742, zw_114, ⟨by decide, by decide⟩, by decide +kernel, h1, h2⟩
noncomputable def zf_X12_isInCask (M : Zm) (l0 : Option Nat) (l1 : Int32) : Option (Zm × Int32) :=
  zb1 (zo_gr M l0 13 5) (fun v1 =>
  zb1 (zo_ai M v1 l1) (fun v2 =>
  (if v2 < (10000 : Int32) then
  zb1 (zo_b (0 : Int32)) (fun w => some (M, w))
  else
  zb1 (zo_b (1 : Int32)) (fun w => some (M, w)))))
set_option maxRecDepth 100000 in
theorem zt_X12_isInCask {X : Zx} {M : Zm} {l0 : Option Nat} {l1 : Int32} {z : Zm × Int32} (h : zf_X12_isInCask M l0 l1 = some z) (hR : zRz X zC_X12_isInCask z.1 z.2) : zV X zC_X12_isInCask M 0 [(0, .inr (.inr l0)), (1, .inl l1)] [] := by
  unfold zf_X12_isInCask at h
  refine zV_b (pc' := 1) (lv' := [(0, .inr (.inr l0)), (1, .inl l1)]) (st' := [.inr (.inr l0)]) [(.aload_n 0, 1)] (by decide +kernel) rfl ?_
  refine zV_gr (by decide +kernel) zfl_RX12_19 (by decide) rfl h (fun v1 _ h => ?_)
  refine zV_b (pc' := 5) (lv' := [(0, .inr (.inr l0)), (1, .inl l1)]) (st' := [.inl l1, .inr (.inr v1)]) [(.iload_n 1, 1)] (by decide +kernel) rfl ?_
  refine zV_ai (by decide +kernel) h (fun v2 _ h => ?_)
  refine zV_b (pc' := 9) (lv' := [(0, .inr (.inr l0)), (1, .inl l1)]) (st' := [.inl (10000 : Int32), .inl v2]) [(.sipush 10000, 3)] (by decide +kernel) rfl ?_
  refine zV_icmp_lt (off := 7) (tgt := 16) (by decide +kernel) (by decide) h (fun c3 h => ?_) (fun c3 h => ?_)
  · refine zV_b (pc' := 17) (lv' := [(0, .inr (.inr l0)), (1, .inl l1)]) (st' := [.inl (0 : Int32)]) [(.iconst 0, 1)] (by decide +kernel) rfl ?_
    exact zend_z h hR (by decide +kernel)
  · refine zV_b (pc' := 13) (lv' := [(0, .inr (.inr l0)), (1, .inl l1)]) (st' := [.inl (1 : Int32)]) [(.iconst 1, 1)] (by decide +kernel) rfl ?_
    refine zV_goto (off := 4) (tgt := 17) (by decide +kernel) (by decide) ?_
    exact zend_z h hR (by decide +kernel)
theorem zc_X12_isInCask {M M' : Zm} {l0 : Option Nat} {l1 : Int32} {x : Int32} (h : zf_X12_isInCask M l0 l1 = some (M', x)) (l : Launch) (D : va_G) (cy : Nat → ClassId) : zMet l yX12_isInCask zC_X12_isInCask (some .boolean) D cy [.inr (.inr l0), .inl l1] M M' (some (.inl x)) :=
  zM_b (by decide) rfl (fun h => by cases h) (Nat.le_of_ble_eq_true rfl) (fun X hR => zt_X12_isInCask h hR)
-- BlendCellarModel.isOneInCask()Z
def zC_X12_isOneInCask : Zc := (cX12_isOneInCask, 3, RX12, 1, 21, false)
theorem zcl_X12_isOneInCask {C : Zc} (h1 : zC_X12_isOneInCask.2.2.2.1 + 1 ≤ C.2.2.2.1) (h2 : 8 + (zC_X12_isOneInCask.2.1 + 11) + zC_X12_isOneInCask.2.2.2.2.1 ≤ C.2.2.2.2.1) : zCl C yX12_isOneInCask zC_X12_isOneInCask (some .boolean) 0 := ⟨zw_1842, zw_114, ⟨by decide, by decide⟩, by decide +kernel, h1, h2⟩
noncomputable def zf_X12_isOneInCask_J34 (M : Zm) (p0 : Option Nat) (l2 : Int32) (s0 : Int32) : Option ((Zm × Int32 × Int32) ⊕ (Zm × Int32 × Int32)) :=
  some (.inl (M, s0, (l2 + 1)))
noncomputable def zf_X12_isOneInCask_J29 (M : Zm) (p0 : Option Nat) (l2 : Int32) : Option ((Zm × Int32 × Int32) ⊕ (Zm × Int32 × Int32)) :=
  zf_X12_isOneInCask_J34 M p0 l2 (1 : Int32)
noncomputable def zf_X12_isOneInCask_L4 (p0 : Option Nat) (x : Zm × Int32 × Int32) : Option ((Zm × Int32 × Int32) ⊕ (Zm × Int32 × Int32)) := match x with
  | (M, l1, l2) =>
  zb1 (zo_gi M p0 13 33) (fun v1 =>
  (if v1 ≤ l2 then
  some (.inr (M, l1, l2))
  else
  (if l1 = 0 then
  zb1 (zo_gr M p0 13 34) (fun v4 =>
  zb1 (zo_ai M v4 l2) (fun v5 =>
  zb1 (zo_rc M p0 13) (fun _ => zbd (zf_X12_isInCask M p0 v5) (fun M6 v6 =>
  (if v6 = 0 then
  zf_X12_isOneInCask_J34 M6 p0 l2 (0 : Int32)
  else
  zf_X12_isOneInCask_J29 M6 p0 l2)))))
  else
  zf_X12_isOneInCask_J29 M p0 l2)))
def zP_X12_isOneInCask_L4 (X : Zx) (p0 : Option Nat) (x : Zm × Int32 × Int32) : Prop := match x with
  | (M, l1, l2) => zV X zC_X12_isOneInCask M 4 [(0, .inr (.inr p0)), (1, .inl l1), (2, .inl l2)] []
def zK_X12_isOneInCask_L4 (X : Zx) (p0 : Option Nat) (y : Zm × Int32 × Int32) : Prop := match y with
  | (M, l1, l2) => zV X zC_X12_isOneInCask M 41 [(1, .inl l1)] []
noncomputable def zf_X12_isOneInCask (M : Zm) (l0 : Option Nat) : Option (Zm × Int32) :=
  zb1 (zwhile (zf_X12_isOneInCask_L4 l0) (M, (0 : Int32), (0 : Int32))) (fun y10 => match y10 with
  | (M4_10, l1_10, l2_10) =>
  zb1 (zo_b l1_10) (fun w => some (M4_10, w)))
set_option maxRecDepth 100000 in
theorem zt_X12_isOneInCask_J34 {X : Zx} {M : Zm} {p0 : Option Nat} {l2 : Int32} {s0 : Int32} {z : (Zm × Int32 × Int32) ⊕ (Zm × Int32 × Int32)} (h : zf_X12_isOneInCask_J34 M p0 l2 s0 = some z) (k1 : ∀ x' : Zm × Int32 × Int32, z = .inl x' → zP_X12_isOneInCask_L4 X p0 x') (k2 : ∀ y : Zm × Int32 × Int32, z = .inr y → zK_X12_isOneInCask_L4 X p0 y) : zV X zC_X12_isOneInCask M 34 [(0, .inr (.inr p0)), (2, .inl l2)] [.inl s0] := by
  unfold zf_X12_isOneInCask_J34 at h
  refine zV_b (pc' := 38) (lv' := [(2, .inl (l2 + 1)), (1, .inl s0), (0, .inr (.inr p0))]) (st' := []) [(.istore_n 1, 1), (.iinc 2 1, 3)] (by decide +kernel) rfl ?_
  refine zV_goto (off := (-34)) (tgt := 4) (by decide +kernel) (by decide) ?_
  exact zV_lv (lv' := [(0, .inr (.inr p0)), (1, .inl s0), (2, .inl (l2 + 1))]) [2, 1, 0] rfl (k1 _ (Option.some.inj h).symm)
set_option maxRecDepth 100000 in
theorem zt_X12_isOneInCask_J29 {X : Zx} {M : Zm} {p0 : Option Nat} {l2 : Int32} {z : (Zm × Int32 × Int32) ⊕ (Zm × Int32 × Int32)} (h : zf_X12_isOneInCask_J29 M p0 l2 = some z) (k1 : ∀ x' : Zm × Int32 × Int32, z = .inl x' → zP_X12_isOneInCask_L4 X p0 x') (k2 : ∀ y : Zm × Int32 × Int32, z = .inr y → zK_X12_isOneInCask_L4 X p0 y) : zV X zC_X12_isOneInCask M 29 [(0, .inr (.inr p0)), (2, .inl l2)] [] := by
  unfold zf_X12_isOneInCask_J29 at h
  refine zV_b (pc' := 30) (lv' := [(0, .inr (.inr p0)), (2, .inl l2)]) (st' := [.inl (1 : Int32)]) [(.iconst 1, 1)] (by decide +kernel) rfl ?_
  refine zV_goto (off := 4) (tgt := 34) (by decide +kernel) (by decide) ?_
  exact zV_lv (lv' := [(0, .inr (.inr p0)), (2, .inl l2)]) [0, 1] rfl (zt_X12_isOneInCask_J34 h k1 k2)
set_option maxRecDepth 100000 in
theorem zt_X12_isOneInCask_L4 {X : Zx} {p0 : Option Nat} {x : Zm × Int32 × Int32} {y : Zm × Int32 × Int32} (h : zwhile (zf_X12_isOneInCask_L4 p0) x = some y) (hy : zK_X12_isOneInCask_L4 X p0 y) : zP_X12_isOneInCask_L4 X p0 x := by
  refine zwhile_ind (P := zP_X12_isOneInCask_L4 X p0) (K := zK_X12_isOneInCask_L4 X p0) ?_ h hy
  intro x z hf k1 k2
  obtain ⟨M, l1, l2⟩ := x
  have h : zf_X12_isOneInCask_L4 p0 (M, l1, l2) = some z := hf
  unfold zf_X12_isOneInCask_L4 at h
  show zV X zC_X12_isOneInCask M 4 [(0, .inr (.inr p0)), (1, .inl l1), (2, .inl l2)] []
  refine zV_b (pc' := 6) (lv' := [(0, .inr (.inr p0)), (1, .inl l1), (2, .inl l2)]) (st' := [.inr (.inr p0), .inl l2]) [(.iload_n 2, 1), (.aload_n 0, 1)] (by decide +kernel) rfl ?_
  refine zV_gi (by decide +kernel) zfl_RX12_334 (by decide) rfl (Or.inl rfl) h (fun v1 _ h => ?_)
  refine zV_icmp_ge (off := 32) (tgt := 41) (by decide +kernel) (by decide) h (fun c2 h => ?_) (fun c2 h => ?_)
  · exact zV_lv (lv' := [(1, .inl l1)]) [1] rfl (k2 _ (Option.some.inj h).symm)
  · refine zV_b (pc' := 13) (lv' := [(0, .inr (.inr p0)), (1, .inl l1), (2, .inl l2)]) (st' := [.inl l1]) [(.iload_n 1, 1)] (by decide +kernel) rfl ?_
    refine zV_if_ne (off := 16) (tgt := 29) (by decide +kernel) (by decide) h (fun c3 h => ?_) (fun c3 h => ?_)
    · refine zV_b (pc' := 18) (lv' := [(0, .inr (.inr p0)), (1, .inl l1), (2, .inl l2)]) (st' := [.inr (.inr p0), .inr (.inr p0)]) [(.aload_n 0, 1), (.aload_n 0, 1)] (by decide +kernel) rfl ?_
      refine zV_gr (by decide +kernel) zfl_RX12_90 (by decide) rfl h (fun v4 _ h => ?_)
      refine zV_b (pc' := 22) (lv' := [(0, .inr (.inr p0)), (1, .inl l1), (2, .inl l2)]) (st' := [.inl l2, .inr (.inr v4), .inr (.inr p0)]) [(.iload_n 2, 1)] (by decide +kernel) rfl ?_
      refine zV_ai (by decide +kernel) h (fun v5 _ h => ?_)
      refine zV_cvi (As := [.inl v5]) (st := []) (c := 13) (by decide +kernel) (zcl_X12_isInCask (by decide) (by decide)) ⟨zw_1739, zw_1741, zw_66⟩ ⟨⟨_, _, rfl⟩, by decide⟩ rfl rfl (Nat.le_of_ble_eq_true rfl) h (fun _ _ e => zc_X12_isInCask e) (fun M6 v6 _ h => ?_)
      refine zV_if_eq (off := 7) (tgt := 33) (by decide +kernel) (by decide) h (fun c7 h => ?_) (fun c7 h => ?_)
      · refine zV_b (pc' := 34) (lv' := [(0, .inr (.inr p0)), (1, .inl l1), (2, .inl l2)]) (st' := [.inl (0 : Int32)]) [(.iconst 0, 1)] (by decide +kernel) rfl ?_
        exact zV_lv (lv' := [(0, .inr (.inr p0)), (2, .inl l2)]) [0, 2] rfl (zt_X12_isOneInCask_J34 h k1 k2)
      · exact zV_lv (lv' := [(0, .inr (.inr p0)), (2, .inl l2)]) [0, 2] rfl (zt_X12_isOneInCask_J29 h k1 k2)
    · exact zV_lv (lv' := [(0, .inr (.inr p0)), (2, .inl l2)]) [0, 2] rfl (zt_X12_isOneInCask_J29 h k1 k2)
set_option maxRecDepth 100000 in
theorem zt_X12_isOneInCask {X : Zx} {M : Zm} {l0 : Option Nat} {z : Zm × Int32} (h : zf_X12_isOneInCask M l0 = some z) (hR : zRz X zC_X12_isOneInCask z.1 z.2) : zV X zC_X12_isOneInCask M 0 [(0, .inr (.inr l0))] [] := by
  unfold zf_X12_isOneInCask at h
  refine zV_b (pc' := 4) (lv' := [(2, .inl (0 : Int32)), (1, .inl (0 : Int32)), (0, .inr (.inr l0))]) (st' := []) [(.iconst 0, 1), (.istore_n 1, 1), (.iconst 0, 1), (.istore_n 2, 1)] (by decide +kernel) rfl ?_
  obtain ⟨y10, e10, h⟩ := zb1_inv h
  refine zV_lv (lv' := [(0, .inr (.inr l0)), (1, .inl (0 : Int32)), (2, .inl (0 : Int32))]) [2, 1, 0] rfl (zt_X12_isOneInCask_L4 e10 ?_)
  obtain ⟨M4_10, l1_10, l2_10⟩ := y10
  show zV X zC_X12_isOneInCask M4_10 41 [(1, .inl l1_10)] []
  refine zV_b (pc' := 42) (lv' := [(1, .inl l1_10)]) (st' := [.inl l1_10]) [(.iload_n 1, 1)] (by decide +kernel) rfl ?_
  exact zend_z h hR (by decide +kernel)
theorem zc_X12_isOneInCask {M M' : Zm} {l0 : Option Nat} {x : Int32} (h : zf_X12_isOneInCask M l0 = some (M', x)) (l : Launch) (D : va_G) (cy : Nat → ClassId) : zMet l yX12_isOneInCask zC_X12_isOneInCask (some .boolean) D cy [.inr (.inr l0)] M M' (some (.inl x)) :=
  zM_b (by decide) rfl (fun h => by cases h) (Nat.le_of_ble_eq_true rfl) (fun X hR => zt_X12_isOneInCask h hR)
-- BlendCellarModel.isPicked(I)Z
def zC_X12_isPicked : Zc := (cX12_isPicked, 4, RX12, 0, 0, false)
theorem zcl_X12_isPicked {C : Zc} (h1 : zC_X12_isPicked.2.2.2.1 + 1 ≤ C.2.2.2.1) (h2 : 8 + (zC_X12_isPicked.2.1 + 11) + zC_X12_isPicked.2.2.2.2.1 ≤ C.2.2.2.2.1) : zCl C yX12_isPicked zC_X12_isPicked (some .boolean) 1 := ⟨zw_1830, zw_114, ⟨by decide, by decide⟩, by decide +kernel, h1, h2⟩
noncomputable def zf_X12_isPicked_J31 (M : Zm) (p0 : Option Nat) (p1 : Int32) (l3 : Int32) (s0 : Int32) : Option ((Zm × Int32 × Int32) ⊕ (Zm × Int32 × Int32)) :=
  some (.inl (M, s0, (l3 + 1)))
noncomputable def zf_X12_isPicked_J26 (M : Zm) (p0 : Option Nat) (p1 : Int32) (l3 : Int32) : Option ((Zm × Int32 × Int32) ⊕ (Zm × Int32 × Int32)) :=
  zf_X12_isPicked_J31 M p0 p1 l3 (1 : Int32)
noncomputable def zf_X12_isPicked_L4 (p0 : Option Nat) (p1 : Int32) (x : Zm × Int32 × Int32) : Option ((Zm × Int32 × Int32) ⊕ (Zm × Int32 × Int32)) := match x with
  | (M, l2, l3) =>
  zb1 (zo_gi M p0 13 33) (fun v1 =>
  (if v1 ≤ l3 then
  some (.inr (M, l2, l3))
  else
  (if l2 = 0 then
  zb1 (zo_gr M p0 13 34) (fun v4 =>
  zb1 (zo_ai M v4 l3) (fun v5 =>
  (if v5 = p1 then
  zf_X12_isPicked_J26 M p0 p1 l3
  else
  zf_X12_isPicked_J31 M p0 p1 l3 (0 : Int32))))
  else
  zf_X12_isPicked_J26 M p0 p1 l3)))
def zP_X12_isPicked_L4 (X : Zx) (p0 : Option Nat) (p1 : Int32) (x : Zm × Int32 × Int32) : Prop := match x with
  | (M, l2, l3) => zV X zC_X12_isPicked M 4 [(0, .inr (.inr p0)), (1, .inl p1), (2, .inl l2), (3, .inl l3)] []
def zK_X12_isPicked_L4 (X : Zx) (p0 : Option Nat) (p1 : Int32) (y : Zm × Int32 × Int32) : Prop := match y with
  | (M, l2, l3) => zV X zC_X12_isPicked M 38 [(2, .inl l2)] []
noncomputable def zf_X12_isPicked (M : Zm) (l0 : Option Nat) (l1 : Int32) : Option (Zm × Int32) :=
  zb1 (zwhile (zf_X12_isPicked_L4 l0 l1) (M, (0 : Int32), (0 : Int32))) (fun y9 => match y9 with
  | (M4_9, l2_9, l3_9) =>
  zb1 (zo_b l2_9) (fun w => some (M4_9, w)))
set_option maxRecDepth 100000 in
theorem zt_X12_isPicked_J31 {X : Zx} {M : Zm} {p0 : Option Nat} {p1 : Int32} {l3 : Int32} {s0 : Int32} {z : (Zm × Int32 × Int32) ⊕ (Zm × Int32 × Int32)} (h : zf_X12_isPicked_J31 M p0 p1 l3 s0 = some z) (k1 : ∀ x' : Zm × Int32 × Int32, z = .inl x' → zP_X12_isPicked_L4 X p0 p1 x') (k2 : ∀ y : Zm × Int32 × Int32, z = .inr y → zK_X12_isPicked_L4 X p0 p1 y) : zV X zC_X12_isPicked M 31 [(0, .inr (.inr p0)), (1, .inl p1), (3, .inl l3)] [.inl s0] := by
  unfold zf_X12_isPicked_J31 at h
  refine zV_b (pc' := 35) (lv' := [(3, .inl (l3 + 1)), (2, .inl s0), (0, .inr (.inr p0)), (1, .inl p1)]) (st' := []) [(.istore_n 2, 1), (.iinc 3 1, 3)] (by decide +kernel) rfl ?_
  refine zV_goto (off := (-31)) (tgt := 4) (by decide +kernel) (by decide) ?_
  exact zV_lv (lv' := [(0, .inr (.inr p0)), (1, .inl p1), (2, .inl s0), (3, .inl (l3 + 1))]) [2, 3, 1, 0] rfl (k1 _ (Option.some.inj h).symm)
set_option maxRecDepth 100000 in
theorem zt_X12_isPicked_J26 {X : Zx} {M : Zm} {p0 : Option Nat} {p1 : Int32} {l3 : Int32} {z : (Zm × Int32 × Int32) ⊕ (Zm × Int32 × Int32)} (h : zf_X12_isPicked_J26 M p0 p1 l3 = some z) (k1 : ∀ x' : Zm × Int32 × Int32, z = .inl x' → zP_X12_isPicked_L4 X p0 p1 x') (k2 : ∀ y : Zm × Int32 × Int32, z = .inr y → zK_X12_isPicked_L4 X p0 p1 y) : zV X zC_X12_isPicked M 26 [(0, .inr (.inr p0)), (1, .inl p1), (3, .inl l3)] [] := by
  unfold zf_X12_isPicked_J26 at h
  refine zV_b (pc' := 27) (lv' := [(0, .inr (.inr p0)), (1, .inl p1), (3, .inl l3)]) (st' := [.inl (1 : Int32)]) [(.iconst 1, 1)] (by decide +kernel) rfl ?_
  refine zV_goto (off := 4) (tgt := 31) (by decide +kernel) (by decide) ?_
  exact zV_lv (lv' := [(0, .inr (.inr p0)), (1, .inl p1), (3, .inl l3)]) [0, 1, 2] rfl (zt_X12_isPicked_J31 h k1 k2)
set_option maxRecDepth 100000 in
theorem zt_X12_isPicked_L4 {X : Zx} {p0 : Option Nat} {p1 : Int32} {x : Zm × Int32 × Int32} {y : Zm × Int32 × Int32} (h : zwhile (zf_X12_isPicked_L4 p0 p1) x = some y) (hy : zK_X12_isPicked_L4 X p0 p1 y) : zP_X12_isPicked_L4 X p0 p1 x := by
  refine zwhile_ind (P := zP_X12_isPicked_L4 X p0 p1) (K := zK_X12_isPicked_L4 X p0 p1) ?_ h hy
  intro x z hf k1 k2
  obtain ⟨M, l2, l3⟩ := x
  have h : zf_X12_isPicked_L4 p0 p1 (M, l2, l3) = some z := hf
  unfold zf_X12_isPicked_L4 at h
  show zV X zC_X12_isPicked M 4 [(0, .inr (.inr p0)), (1, .inl p1), (2, .inl l2), (3, .inl l3)] []
  refine zV_b (pc' := 6) (lv' := [(0, .inr (.inr p0)), (1, .inl p1), (2, .inl l2), (3, .inl l3)]) (st' := [.inr (.inr p0), .inl l3]) [(.iload_n 3, 1), (.aload_n 0, 1)] (by decide +kernel) rfl ?_
  refine zV_gi (by decide +kernel) zfl_RX12_334 (by decide) rfl (Or.inl rfl) h (fun v1 _ h => ?_)
  refine zV_icmp_ge (off := 29) (tgt := 38) (by decide +kernel) (by decide) h (fun c2 h => ?_) (fun c2 h => ?_)
  · exact zV_lv (lv' := [(2, .inl l2)]) [2] rfl (k2 _ (Option.some.inj h).symm)
  · refine zV_b (pc' := 13) (lv' := [(0, .inr (.inr p0)), (1, .inl p1), (2, .inl l2), (3, .inl l3)]) (st' := [.inl l2]) [(.iload_n 2, 1)] (by decide +kernel) rfl ?_
    refine zV_if_ne (off := 13) (tgt := 26) (by decide +kernel) (by decide) h (fun c3 h => ?_) (fun c3 h => ?_)
    · refine zV_b (pc' := 17) (lv' := [(0, .inr (.inr p0)), (1, .inl p1), (2, .inl l2), (3, .inl l3)]) (st' := [.inr (.inr p0)]) [(.aload_n 0, 1)] (by decide +kernel) rfl ?_
      refine zV_gr (by decide +kernel) zfl_RX12_90 (by decide) rfl h (fun v4 _ h => ?_)
      refine zV_b (pc' := 21) (lv' := [(0, .inr (.inr p0)), (1, .inl p1), (2, .inl l2), (3, .inl l3)]) (st' := [.inl l3, .inr (.inr v4)]) [(.iload_n 3, 1)] (by decide +kernel) rfl ?_
      refine zV_ai (by decide +kernel) h (fun v5 _ h => ?_)
      refine zV_b (pc' := 23) (lv' := [(0, .inr (.inr p0)), (1, .inl p1), (2, .inl l2), (3, .inl l3)]) (st' := [.inl p1, .inl v5]) [(.iload_n 1, 1)] (by decide +kernel) rfl ?_
      refine zV_icmp_ne (off := 7) (tgt := 30) (by decide +kernel) (by decide) h (fun c6 h => ?_) (fun c6 h => ?_)
      · exact zV_lv (lv' := [(0, .inr (.inr p0)), (1, .inl p1), (3, .inl l3)]) [0, 1, 3] rfl (zt_X12_isPicked_J26 h k1 k2)
      · refine zV_b (pc' := 31) (lv' := [(0, .inr (.inr p0)), (1, .inl p1), (2, .inl l2), (3, .inl l3)]) (st' := [.inl (0 : Int32)]) [(.iconst 0, 1)] (by decide +kernel) rfl ?_
        exact zV_lv (lv' := [(0, .inr (.inr p0)), (1, .inl p1), (3, .inl l3)]) [0, 1, 3] rfl (zt_X12_isPicked_J31 h k1 k2)
    · exact zV_lv (lv' := [(0, .inr (.inr p0)), (1, .inl p1), (3, .inl l3)]) [0, 1, 3] rfl (zt_X12_isPicked_J26 h k1 k2)
set_option maxRecDepth 100000 in
theorem zt_X12_isPicked {X : Zx} {M : Zm} {l0 : Option Nat} {l1 : Int32} {z : Zm × Int32} (h : zf_X12_isPicked M l0 l1 = some z) (hR : zRz X zC_X12_isPicked z.1 z.2) : zV X zC_X12_isPicked M 0 [(0, .inr (.inr l0)), (1, .inl l1)] [] := by
  unfold zf_X12_isPicked at h
  refine zV_b (pc' := 4) (lv' := [(3, .inl (0 : Int32)), (2, .inl (0 : Int32)), (0, .inr (.inr l0)), (1, .inl l1)]) (st' := []) [(.iconst 0, 1), (.istore_n 2, 1), (.iconst 0, 1), (.istore_n 3, 1)] (by decide +kernel) rfl ?_
  obtain ⟨y9, e9, h⟩ := zb1_inv h
  refine zV_lv (lv' := [(0, .inr (.inr l0)), (1, .inl l1), (2, .inl (0 : Int32)), (3, .inl (0 : Int32))]) [2, 3, 1, 0] rfl (zt_X12_isPicked_L4 e9 ?_)
  obtain ⟨M4_9, l2_9, l3_9⟩ := y9
  show zV X zC_X12_isPicked M4_9 38 [(2, .inl l2_9)] []
  refine zV_b (pc' := 39) (lv' := [(2, .inl l2_9)]) (st' := [.inl l2_9]) [(.iload_n 2, 1)] (by decide +kernel) rfl ?_
  exact zend_z h hR (by decide +kernel)
theorem zc_X12_isPicked {M M' : Zm} {l0 : Option Nat} {l1 : Int32} {x : Int32} (h : zf_X12_isPicked M l0 l1 = some (M', x)) (l : Launch) (D : va_G) (cy : Nat → ClassId) : zMet l yX12_isPicked zC_X12_isPicked (some .boolean) D cy [.inr (.inr l0), .inl l1] M M' (some (.inl x)) :=
  zM_b (by decide) rfl (fun h => by cases h) (Nat.le_of_ble_eq_true rfl) (fun X hR => zt_X12_isPicked h hR)
-- BlendCellarModel.mix(IJ)V
def zC_X12_mix : Zc := (cX12_mix, 6, RX12, 0, 0, false)
theorem zcl_X12_mix {C : Zc} (h1 : zC_X12_mix.2.2.2.1 + 1 ≤ C.2.2.2.1) (h2 : 8 + (zC_X12_mix.2.1 + 11) + zC_X12_mix.2.2.2.2.1 ≤ C.2.2.2.2.1) : zCl C yX12_mix zC_X12_mix none 2 := ⟨zw_1770, zw_114, ⟨by decide, by decide⟩, by decide +kernel, h1, h2⟩
noncomputable def zf_X12_mix_L3 (p0 : Option Nat) (p1 : Int32) (p2 : Int64) (x : Zm × Int32) : Option ((Zm × Int32) ⊕ (Zm × Int32)) := match x with
  | (M, l4) =>
  zb1 (zo_gi M p0 13 64) (fun v1 =>
  (if v1 ≤ l4 then
  some (.inr (M, l4))
  else
  zb1 (zo_gr M p0 13 65) (fun v3 =>
  zb1 (zo_ai M v3 l4) (fun v4 =>
  (if p1 ≤ v4 then
  some (.inr (M, l4))
  else
  some (.inl (M, (l4 + 1))))))))
def zP_X12_mix_L3 (X : Zx) (p0 : Option Nat) (p1 : Int32) (p2 : Int64) (x : Zm × Int32) : Prop := match x with
  | (M, l4) => zV X zC_X12_mix M 3 [(0, .inr (.inr p0)), (1, .inl p1), (2, .inr (.inl p2)), (4, .inl l4)] []
def zK_X12_mix_L3 (X : Zx) (p0 : Option Nat) (p1 : Int32) (p2 : Int64) (y : Zm × Int32) : Prop := match y with
  | (M, l4) => zV X zC_X12_mix M 29 [(0, .inr (.inr p0)), (1, .inl p1), (2, .inr (.inl p2)), (4, .inl l4)] []
noncomputable def zf_X12_mix_L72 (p0 : Option Nat) (p1 : Int32) (p2 : Int64) (p4 : Int32) (x : Zm × Int32) : Option ((Zm × Int32) ⊕ (Zm × Int32)) := match x with
  | (M, l5) =>
  (if l5 ≤ p4 then
  some (.inr (M, l5))
  else
  zb1 (zo_gr M p0 13 65) (fun v12 =>
  zb1 (zo_gr M p0 13 65) (fun v13 =>
  zb1 (zo_ai M v13 (l5 - (1 : Int32))) (fun v14 =>
  zb1 (zo_si M v12 l5 v14) (fun M15 =>
  zb1 (zo_gr M15 p0 13 66) (fun v16 =>
  zb1 (zo_gr M15 p0 13 66) (fun v17 =>
  zb1 (zo_aj M15 v17 (l5 - (1 : Int32))) (fun v18 =>
  zb1 (zo_sj M15 v16 l5 v18) (fun M19 =>
  some (.inl (M19, (l5 + (-1)))))))))))))
def zP_X12_mix_L72 (X : Zx) (p0 : Option Nat) (p1 : Int32) (p2 : Int64) (p4 : Int32) (x : Zm × Int32) : Prop := match x with
  | (M, l5) => zV X zC_X12_mix M 72 [(0, .inr (.inr p0)), (1, .inl p1), (2, .inr (.inl p2)), (4, .inl p4), (5, .inl l5)] []
def zK_X12_mix_L72 (X : Zx) (p0 : Option Nat) (p1 : Int32) (p2 : Int64) (p4 : Int32) (y : Zm × Int32) : Prop := match y with
  | (M, l5) => zV X zC_X12_mix M 117 [(0, .inr (.inr p0)), (1, .inl p1), (2, .inr (.inl p2)), (4, .inl p4)] []
noncomputable def zf_X12_mix_J66 (M : Zm) (l0 : Option Nat) (l1 : Int32) (l2 : Int64) (l4 : Int32) : Option (Zm × Unit) :=
  zb1 (zo_gi M l0 13 64) (fun v10 =>
  zb1 (zwhile (zf_X12_mix_L72 l0 l1 l2 l4) (M, v10)) (fun y21 => match y21 with
  | (M72_21, l5_21) =>
  zb1 (zo_gr M72_21 l0 13 65) (fun v22 =>
  zb1 (zo_si M72_21 v22 l4 l1) (fun M23 =>
  zb1 (zo_gr M23 l0 13 66) (fun v24 =>
  zb1 (zo_sj M23 v24 l4 l2) (fun M25 =>
  zb1 (zo_gi M25 l0 13 64) (fun v26 =>
  zb1 (zo_pi M25 l0 13 64 (v26 + (1 : Int32))) (fun M27 =>
  some (M27, ())))))))))
noncomputable def zf_X12_mix (M : Zm) (l0 : Option Nat) (l1 : Int32) (l2 : Int64) : Option (Zm × Unit) :=
  zb1 (zwhile (zf_X12_mix_L3 l0 l1 l2) (M, (0 : Int32))) (fun y7 => match y7 with
  | (M3_7, l4_7) =>
  zb1 (zo_gi M3_7 l0 13 64) (fun v8 =>
  (if v8 ≤ l4_7 then
  zf_X12_mix_J66 M3_7 l0 l1 l2 l4_7
  else
  zb1 (zo_gr M3_7 l0 13 65) (fun v29 =>
  zb1 (zo_ai M3_7 v29 l4_7) (fun v30 =>
  (if v30 = l1 then
  zb1 (zo_gr M3_7 l0 13 66) (fun v32 =>
  zb1 (zo_gr M3_7 l0 13 66) (fun v33 =>
  zb1 (zo_aj M3_7 v33 l4_7) (fun v34 =>
  zb1 (zo_sj M3_7 v32 l4_7 (v34 + l2)) (fun M35 =>
  some (M35, ())))))
  else
  zf_X12_mix_J66 M3_7 l0 l1 l2 l4_7))))))
set_option maxRecDepth 100000 in
theorem zt_X12_mix_L3 {X : Zx} {p0 : Option Nat} {p1 : Int32} {p2 : Int64} {x : Zm × Int32} {y : Zm × Int32} (h : zwhile (zf_X12_mix_L3 p0 p1 p2) x = some y) (hy : zK_X12_mix_L3 X p0 p1 p2 y) : zP_X12_mix_L3 X p0 p1 p2 x := by
  refine zwhile_ind (P := zP_X12_mix_L3 X p0 p1 p2) (K := zK_X12_mix_L3 X p0 p1 p2) ?_ h hy
  intro x z hf k1 k2
  obtain ⟨M, l4⟩ := x
  have h : zf_X12_mix_L3 p0 p1 p2 (M, l4) = some z := hf
  unfold zf_X12_mix_L3 at h
  show zV X zC_X12_mix M 3 [(0, .inr (.inr p0)), (1, .inl p1), (2, .inr (.inl p2)), (4, .inl l4)] []
  refine zV_b (pc' := 6) (lv' := [(0, .inr (.inr p0)), (1, .inl p1), (2, .inr (.inl p2)), (4, .inl l4)]) (st' := [.inr (.inr p0), .inl l4]) [(.iload 4, 2), (.aload_n 0, 1)] (by decide +kernel) rfl ?_
  refine zV_gi (by decide +kernel) zfl_RX12_254 (by decide) rfl (Or.inl rfl) h (fun v1 _ h => ?_)
  refine zV_icmp_ge (off := 20) (tgt := 29) (by decide +kernel) (by decide) h (fun c2 h => ?_) (fun c2 h => ?_)
  · exact zV_lv (lv' := [(0, .inr (.inr p0)), (1, .inl p1), (2, .inr (.inl p2)), (4, .inl l4)]) [0, 1, 2, 3] rfl (k2 _ (Option.some.inj h).symm)
  · refine zV_b (pc' := 13) (lv' := [(0, .inr (.inr p0)), (1, .inl p1), (2, .inr (.inl p2)), (4, .inl l4)]) (st' := [.inr (.inr p0)]) [(.aload_n 0, 1)] (by decide +kernel) rfl ?_
    refine zV_gr (by decide +kernel) zfl_RX12_148 (by decide) rfl h (fun v3 _ h => ?_)
    refine zV_b (pc' := 18) (lv' := [(0, .inr (.inr p0)), (1, .inl p1), (2, .inr (.inl p2)), (4, .inl l4)]) (st' := [.inl l4, .inr (.inr v3)]) [(.iload 4, 2)] (by decide +kernel) rfl ?_
    refine zV_ai (by decide +kernel) h (fun v4 _ h => ?_)
    refine zV_b (pc' := 20) (lv' := [(0, .inr (.inr p0)), (1, .inl p1), (2, .inr (.inl p2)), (4, .inl l4)]) (st' := [.inl p1, .inl v4]) [(.iload_n 1, 1)] (by decide +kernel) rfl ?_
    refine zV_icmp_ge (off := 9) (tgt := 29) (by decide +kernel) (by decide) h (fun c5 h => ?_) (fun c5 h => ?_)
    · exact zV_lv (lv' := [(0, .inr (.inr p0)), (1, .inl p1), (2, .inr (.inl p2)), (4, .inl l4)]) [0, 1, 2, 3] rfl (k2 _ (Option.some.inj h).symm)
    · refine zV_b (pc' := 26) (lv' := [(4, .inl (l4 + 1)), (0, .inr (.inr p0)), (1, .inl p1), (2, .inr (.inl p2))]) (st' := []) [(.iinc 4 1, 3)] (by decide +kernel) rfl ?_
      refine zV_goto (off := (-23)) (tgt := 3) (by decide +kernel) (by decide) ?_
      exact zV_lv (lv' := [(0, .inr (.inr p0)), (1, .inl p1), (2, .inr (.inl p2)), (4, .inl (l4 + 1))]) [1, 2, 3, 0] rfl (k1 _ (Option.some.inj h).symm)
set_option maxRecDepth 100000 in
theorem zt_X12_mix_L72 {X : Zx} {p0 : Option Nat} {p1 : Int32} {p2 : Int64} {p4 : Int32} {x : Zm × Int32} {y : Zm × Int32} (h : zwhile (zf_X12_mix_L72 p0 p1 p2 p4) x = some y) (hy : zK_X12_mix_L72 X p0 p1 p2 p4 y) : zP_X12_mix_L72 X p0 p1 p2 p4 x := by
  refine zwhile_ind (P := zP_X12_mix_L72 X p0 p1 p2 p4) (K := zK_X12_mix_L72 X p0 p1 p2 p4) ?_ h hy
  intro x z hf k1 k2
  obtain ⟨M, l5⟩ := x
  have h : zf_X12_mix_L72 p0 p1 p2 p4 (M, l5) = some z := hf
  unfold zf_X12_mix_L72 at h
  show zV X zC_X12_mix M 72 [(0, .inr (.inr p0)), (1, .inl p1), (2, .inr (.inl p2)), (4, .inl p4), (5, .inl l5)] []
  refine zV_b (pc' := 76) (lv' := [(0, .inr (.inr p0)), (1, .inl p1), (2, .inr (.inl p2)), (4, .inl p4), (5, .inl l5)]) (st' := [.inl p4, .inl l5]) [(.iload 5, 2), (.iload 4, 2)] (by decide +kernel) rfl ?_
  refine zV_icmp_le (off := 41) (tgt := 117) (by decide +kernel) (by decide) h (fun c11 h => ?_) (fun c11 h => ?_)
  · exact zV_lv (lv' := [(0, .inr (.inr p0)), (1, .inl p1), (2, .inr (.inl p2)), (4, .inl p4)]) [0, 1, 2, 3] rfl (k2 _ (Option.some.inj h).symm)
  · refine zV_b (pc' := 80) (lv' := [(0, .inr (.inr p0)), (1, .inl p1), (2, .inr (.inl p2)), (4, .inl p4), (5, .inl l5)]) (st' := [.inr (.inr p0)]) [(.aload_n 0, 1)] (by decide +kernel) rfl ?_
    refine zV_gr (by decide +kernel) zfl_RX12_148 (by decide) rfl h (fun v12 _ h => ?_)
    refine zV_b (pc' := 86) (lv' := [(0, .inr (.inr p0)), (1, .inl p1), (2, .inr (.inl p2)), (4, .inl p4), (5, .inl l5)]) (st' := [.inr (.inr p0), .inl l5, .inr (.inr v12)]) [(.iload 5, 2), (.aload_n 0, 1)] (by decide +kernel) rfl ?_
    refine zV_gr (by decide +kernel) zfl_RX12_148 (by decide) rfl h (fun v13 _ h => ?_)
    refine zV_b (pc' := 93) (lv' := [(0, .inr (.inr p0)), (1, .inl p1), (2, .inr (.inl p2)), (4, .inl p4), (5, .inl l5)]) (st' := [.inl (l5 - (1 : Int32)), .inr (.inr v13), .inl l5, .inr (.inr v12)]) [(.iload 5, 2), (.iconst 1, 1), (.isub, 1)] (by decide +kernel) rfl ?_
    refine zV_ai (by decide +kernel) h (fun v14 _ h => ?_)
    refine zV_si (by decide +kernel) h (fun M15 _ h => ?_)
    refine zV_b (pc' := 96) (lv' := [(0, .inr (.inr p0)), (1, .inl p1), (2, .inr (.inl p2)), (4, .inl p4), (5, .inl l5)]) (st' := [.inr (.inr p0)]) [(.aload_n 0, 1)] (by decide +kernel) rfl ?_
    refine zV_gr (by decide +kernel) zfl_RX12_151 (by decide) rfl h (fun v16 _ h => ?_)
    refine zV_b (pc' := 102) (lv' := [(0, .inr (.inr p0)), (1, .inl p1), (2, .inr (.inl p2)), (4, .inl p4), (5, .inl l5)]) (st' := [.inr (.inr p0), .inl l5, .inr (.inr v16)]) [(.iload 5, 2), (.aload_n 0, 1)] (by decide +kernel) rfl ?_
    refine zV_gr (by decide +kernel) zfl_RX12_151 (by decide) rfl h (fun v17 _ h => ?_)
    refine zV_b (pc' := 109) (lv' := [(0, .inr (.inr p0)), (1, .inl p1), (2, .inr (.inl p2)), (4, .inl p4), (5, .inl l5)]) (st' := [.inl (l5 - (1 : Int32)), .inr (.inr v17), .inl l5, .inr (.inr v16)]) [(.iload 5, 2), (.iconst 1, 1), (.isub, 1)] (by decide +kernel) rfl ?_
    refine zV_aj (by decide +kernel) h (fun v18 _ h => ?_)
    refine zV_sj (by decide +kernel) h (fun M19 _ h => ?_)
    refine zV_b (pc' := 114) (lv' := [(5, .inl (l5 + (-1))), (0, .inr (.inr p0)), (1, .inl p1), (2, .inr (.inl p2)), (4, .inl p4)]) (st' := []) [(.iinc 5 (-1), 3)] (by decide +kernel) rfl ?_
    refine zV_goto (off := (-42)) (tgt := 72) (by decide +kernel) (by decide) ?_
    exact zV_lv (lv' := [(0, .inr (.inr p0)), (1, .inl p1), (2, .inr (.inl p2)), (4, .inl p4), (5, .inl (l5 + (-1)))]) [1, 2, 3, 4, 0] rfl (k1 _ (Option.some.inj h).symm)
set_option maxRecDepth 100000 in
theorem zt_X12_mix_J66 {X : Zx} {M : Zm} {l0 : Option Nat} {l1 : Int32} {l2 : Int64} {l4 : Int32} {z : Zm × Unit} (h : zf_X12_mix_J66 M l0 l1 l2 l4 = some z) (hR : zRv X zC_X12_mix z.1) : zV X zC_X12_mix M 66 [(0, .inr (.inr l0)), (1, .inl l1), (2, .inr (.inl l2)), (4, .inl l4)] [] := by
  unfold zf_X12_mix_J66 at h
  refine zV_b (pc' := 67) (lv' := [(0, .inr (.inr l0)), (1, .inl l1), (2, .inr (.inl l2)), (4, .inl l4)]) (st' := [.inr (.inr l0)]) [(.aload_n 0, 1)] (by decide +kernel) rfl ?_
  refine zV_gi (by decide +kernel) zfl_RX12_254 (by decide) rfl (Or.inl rfl) h (fun v10 _ h => ?_)
  refine zV_b (pc' := 72) (lv' := [(5, .inl v10), (0, .inr (.inr l0)), (1, .inl l1), (2, .inr (.inl l2)), (4, .inl l4)]) (st' := []) [(.istore 5, 2)] (by decide +kernel) rfl ?_
  obtain ⟨y21, e21, h⟩ := zb1_inv h
  refine zV_lv (lv' := [(0, .inr (.inr l0)), (1, .inl l1), (2, .inr (.inl l2)), (4, .inl l4), (5, .inl v10)]) [1, 2, 3, 4, 0] rfl (zt_X12_mix_L72 e21 ?_)
  obtain ⟨M72_21, l5_21⟩ := y21
  show zV X zC_X12_mix M72_21 117 [(0, .inr (.inr l0)), (1, .inl l1), (2, .inr (.inl l2)), (4, .inl l4)] []
  refine zV_b (pc' := 118) (lv' := [(0, .inr (.inr l0)), (1, .inl l1), (2, .inr (.inl l2)), (4, .inl l4)]) (st' := [.inr (.inr l0)]) [(.aload_n 0, 1)] (by decide +kernel) rfl ?_
  refine zV_gr (by decide +kernel) zfl_RX12_148 (by decide) rfl h (fun v22 _ h => ?_)
  refine zV_b (pc' := 124) (lv' := [(0, .inr (.inr l0)), (1, .inl l1), (2, .inr (.inl l2)), (4, .inl l4)]) (st' := [.inl l1, .inl l4, .inr (.inr v22)]) [(.iload 4, 2), (.iload_n 1, 1)] (by decide +kernel) rfl ?_
  refine zV_si (by decide +kernel) h (fun M23 _ h => ?_)
  refine zV_b (pc' := 126) (lv' := [(0, .inr (.inr l0)), (1, .inl l1), (2, .inr (.inl l2)), (4, .inl l4)]) (st' := [.inr (.inr l0)]) [(.aload_n 0, 1)] (by decide +kernel) rfl ?_
  refine zV_gr (by decide +kernel) zfl_RX12_151 (by decide) rfl h (fun v24 _ h => ?_)
  refine zV_b (pc' := 132) (lv' := [(0, .inr (.inr l0)), (1, .inl l1), (2, .inr (.inl l2)), (4, .inl l4)]) (st' := [.inr (.inl l2), .inl l4, .inr (.inr v24)]) [(.iload 4, 2), (.lload_n 2, 1)] (by decide +kernel) rfl ?_
  refine zV_sj (by decide +kernel) h (fun M25 _ h => ?_)
  refine zV_b (pc' := 135) (lv' := [(0, .inr (.inr l0)), (1, .inl l1), (2, .inr (.inl l2)), (4, .inl l4)]) (st' := [.inr (.inr l0), .inr (.inr l0)]) [(.aload_n 0, 1), (.dup, 1)] (by decide +kernel) rfl ?_
  refine zV_gi (by decide +kernel) zfl_RX12_254 (by decide) rfl (Or.inl rfl) h (fun v26 _ h => ?_)
  refine zV_b (pc' := 140) (lv' := [(0, .inr (.inr l0)), (1, .inl l1), (2, .inr (.inl l2)), (4, .inl l4)]) (st' := [.inl (v26 + (1 : Int32)), .inr (.inr l0)]) [(.iconst 1, 1), (.iadd, 1)] (by decide +kernel) rfl ?_
  refine zV_pi (by decide +kernel) zfp_RX12_254 (by decide) rfl h (fun M27 _ h => ?_)
  exact zend_v h hR (by decide +kernel)
set_option maxRecDepth 100000 in
theorem zt_X12_mix {X : Zx} {M : Zm} {l0 : Option Nat} {l1 : Int32} {l2 : Int64} {z : Zm × Unit} (h : zf_X12_mix M l0 l1 l2 = some z) (hR : zRv X zC_X12_mix z.1) : zV X zC_X12_mix M 0 [(0, .inr (.inr l0)), (1, .inl l1), (2, .inr (.inl l2))] [] := by
  unfold zf_X12_mix at h
  refine zV_b (pc' := 3) (lv' := [(4, .inl (0 : Int32)), (0, .inr (.inr l0)), (1, .inl l1), (2, .inr (.inl l2))]) (st' := []) [(.iconst 0, 1), (.istore 4, 2)] (by decide +kernel) rfl ?_
  obtain ⟨y7, e7, h⟩ := zb1_inv h
  refine zV_lv (lv' := [(0, .inr (.inr l0)), (1, .inl l1), (2, .inr (.inl l2)), (4, .inl (0 : Int32))]) [1, 2, 3, 0] rfl (zt_X12_mix_L3 e7 ?_)
  obtain ⟨M3_7, l4_7⟩ := y7
  show zV X zC_X12_mix M3_7 29 [(0, .inr (.inr l0)), (1, .inl l1), (2, .inr (.inl l2)), (4, .inl l4_7)] []
  refine zV_b (pc' := 32) (lv' := [(0, .inr (.inr l0)), (1, .inl l1), (2, .inr (.inl l2)), (4, .inl l4_7)]) (st' := [.inr (.inr l0), .inl l4_7]) [(.iload 4, 2), (.aload_n 0, 1)] (by decide +kernel) rfl ?_
  refine zV_gi (by decide +kernel) zfl_RX12_254 (by decide) rfl (Or.inl rfl) h (fun v8 _ h => ?_)
  refine zV_icmp_ge (off := 31) (tgt := 66) (by decide +kernel) (by decide) h (fun c9 h => ?_) (fun c9 h => ?_)
  · exact zV_lv (lv' := [(0, .inr (.inr l0)), (1, .inl l1), (2, .inr (.inl l2)), (4, .inl l4_7)]) [0, 1, 2, 3] rfl (zt_X12_mix_J66 h hR)
  · refine zV_b (pc' := 39) (lv' := [(0, .inr (.inr l0)), (1, .inl l1), (2, .inr (.inl l2)), (4, .inl l4_7)]) (st' := [.inr (.inr l0)]) [(.aload_n 0, 1)] (by decide +kernel) rfl ?_
    refine zV_gr (by decide +kernel) zfl_RX12_148 (by decide) rfl h (fun v29 _ h => ?_)
    refine zV_b (pc' := 44) (lv' := [(0, .inr (.inr l0)), (1, .inl l1), (2, .inr (.inl l2)), (4, .inl l4_7)]) (st' := [.inl l4_7, .inr (.inr v29)]) [(.iload 4, 2)] (by decide +kernel) rfl ?_
    refine zV_ai (by decide +kernel) h (fun v30 _ h => ?_)
    refine zV_b (pc' := 46) (lv' := [(0, .inr (.inr l0)), (1, .inl l1), (2, .inr (.inl l2)), (4, .inl l4_7)]) (st' := [.inl l1, .inl v30]) [(.iload_n 1, 1)] (by decide +kernel) rfl ?_
    refine zV_icmp_ne (off := 20) (tgt := 66) (by decide +kernel) (by decide) h (fun c31 h => ?_) (fun c31 h => ?_)
    · refine zV_b (pc' := 50) (lv' := [(0, .inr (.inr l0)), (1, .inl l1), (2, .inr (.inl l2)), (4, .inl l4_7)]) (st' := [.inr (.inr l0)]) [(.aload_n 0, 1)] (by decide +kernel) rfl ?_
      refine zV_gr (by decide +kernel) zfl_RX12_151 (by decide) rfl h (fun v32 _ h => ?_)
      refine zV_b (pc' := 56) (lv' := [(0, .inr (.inr l0)), (1, .inl l1), (2, .inr (.inl l2)), (4, .inl l4_7)]) (st' := [.inr (.inr l0), .inl l4_7, .inr (.inr v32)]) [(.iload 4, 2), (.aload_n 0, 1)] (by decide +kernel) rfl ?_
      refine zV_gr (by decide +kernel) zfl_RX12_151 (by decide) rfl h (fun v33 _ h => ?_)
      refine zV_b (pc' := 61) (lv' := [(0, .inr (.inr l0)), (1, .inl l1), (2, .inr (.inl l2)), (4, .inl l4_7)]) (st' := [.inl l4_7, .inr (.inr v33), .inl l4_7, .inr (.inr v32)]) [(.iload 4, 2)] (by decide +kernel) rfl ?_
      refine zV_aj (by decide +kernel) h (fun v34 _ h => ?_)
      refine zV_b (pc' := 64) (lv' := [(0, .inr (.inr l0)), (1, .inl l1), (2, .inr (.inl l2)), (4, .inl l4_7)]) (st' := [.inr (.inl (v34 + l2)), .inl l4_7, .inr (.inr v32)]) [(.lload_n 2, 1), (.ladd, 1)] (by decide +kernel) rfl ?_
      refine zV_sj (by decide +kernel) h (fun M35 _ h => ?_)
      exact zend_v h hR (by decide +kernel)
    · exact zV_lv (lv' := [(0, .inr (.inr l0)), (1, .inl l1), (2, .inr (.inl l2)), (4, .inl l4_7)]) [0, 1, 2, 3] rfl (zt_X12_mix_J66 h hR)
theorem zc_X12_mix {M M' : Zm} {l0 : Option Nat} {l1 : Int32} {l2 : Int64} {x : Unit} (h : zf_X12_mix M l0 l1 l2 = some (M', x)) (l : Launch) (D : va_G) (cy : Nat → ClassId) : zMet l yX12_mix zC_X12_mix none D cy [.inr (.inr l0), .inl l1, .inr (.inl l2)] M M' none :=
  zM_v (by decide) rfl (fun h => by cases h) (Nat.le_of_ble_eq_true rfl) (fun X hR => zt_X12_mix h hR)
-- BlendCellarModel.shares(IJ)V
def zC_X12_shares : Zc := (cX12_shares, 9, RX12, 1, 24, false)
theorem zcl_X12_shares {C : Zc} (h1 : zC_X12_shares.2.2.2.1 + 1 ≤ C.2.2.2.1) (h2 : 8 + (zC_X12_shares.2.1 + 11) + zC_X12_shares.2.2.2.2.1 ≤ C.2.2.2.2.1) : zCl C yX12_shares zC_X12_shares none 2 := ⟨zw_1778, zw_114, ⟨by decide, by decide⟩, by decide +kernel, h1, h2⟩
noncomputable def zf_X12_shares_L13 (p0 : Option Nat) (p1 : Int32) (p2 : Int64) (p4 : Int64) (x : Zm × Int64 × Int32) : Option ((Zm × Int64 × Int32) ⊕ (Zm × Int64 × Int32)) := match x with
  | (M, l6, l8) =>
  zb1 (zo_gr M p0 13 8) (fun v2 =>
  zb1 (zo_ai M v2 p1) (fun v3 =>
  (if v3 ≤ l8 then
  some (.inr (M, l6, l8))
  else
  zb1 (zo_gr M p0 13 63) (fun v5 =>
  zb1 (zo_gr M p0 13 10) (fun v6 =>
  zb1 (zo_aj M v6 (((60 : Int32) * p1) + l8)) (fun v7 =>
  zb1 (zo_ld (p2 * v7) p4) (fun v8 =>
  zb1 (zo_sj M v5 l8 v8) (fun M9 =>
  zb1 (zo_gr M9 p0 13 63) (fun v10 =>
  zb1 (zo_aj M9 v10 l8) (fun v11 =>
  some (.inl (M9, (l6 - v11), (l8 + 1)))))))))))))
def zP_X12_shares_L13 (X : Zx) (p0 : Option Nat) (p1 : Int32) (p2 : Int64) (p4 : Int64) (x : Zm × Int64 × Int32) : Prop := match x with
  | (M, l6, l8) => zV X zC_X12_shares M 13 [(0, .inr (.inr p0)), (1, .inl p1), (2, .inr (.inl p2)), (4, .inr (.inl p4)), (6, .inr (.inl l6)), (8, .inl l8)] []
def zK_X12_shares_L13 (X : Zx) (p0 : Option Nat) (p1 : Int32) (p2 : Int64) (p4 : Int64) (y : Zm × Int64 × Int32) : Prop := match y with
  | (M, l6, l8) => zV X zC_X12_shares M 66 [(0, .inr (.inr p0)), (1, .inl p1), (2, .inr (.inl p2)), (4, .inr (.inl p4)), (6, .inr (.inl l6))] []
noncomputable def zf_X12_shares_J134 (M : Zm) (p0 : Option Nat) (p1 : Int32) (p2 : Int64) (p4 : Int64) (l6 : Int64) (l8 : Int32) : Option ((Zm × Int64 × Int32) ⊕ (Zm × Int64 × Int32)) :=
  some (.inl (M, l6, (l8 + 1)))
noncomputable def zf_X12_shares_L69 (p0 : Option Nat) (p1 : Int32) (p2 : Int64) (p4 : Int64) (x : Zm × Int64 × Int32) : Option ((Zm × Int64 × Int32) ⊕ (Zm × Int64 × Int32)) := match x with
  | (M, l6, l8) =>
  zb1 (zo_gr M p0 13 8) (fun v14 =>
  zb1 (zo_ai M v14 p1) (fun v15 =>
  (if v15 ≤ l8 then
  some (.inr (M, l6, l8))
  else
  (if l6 ≤ (0 : Int64) then
  some (.inr (M, l6, l8))
  else
  zb1 (zo_gr M p0 13 10) (fun v18 =>
  zb1 (zo_aj M v18 (((60 : Int32) * p1) + l8)) (fun v19 =>
  zb1 (zo_lm (p2 * v19) p4) (fun v20 =>
  (if v20 = (0 : Int64) then
  zf_X12_shares_J134 M p0 p1 p2 p4 l6 l8
  else
  zb1 (zo_gr M p0 13 63) (fun v24 =>
  zb1 (zo_gr M p0 13 63) (fun v25 =>
  zb1 (zo_aj M v25 l8) (fun v26 =>
  zb1 (zo_sj M v24 l8 (v26 + (1 : Int64))) (fun M27 =>
  zf_X12_shares_J134 M27 p0 p1 p2 p4 (l6 - (1 : Int64)) l8))))))))))))
def zP_X12_shares_L69 (X : Zx) (p0 : Option Nat) (p1 : Int32) (p2 : Int64) (p4 : Int64) (x : Zm × Int64 × Int32) : Prop := match x with
  | (M, l6, l8) => zV X zC_X12_shares M 69 [(0, .inr (.inr p0)), (1, .inl p1), (2, .inr (.inl p2)), (4, .inr (.inl p4)), (6, .inr (.inl l6)), (8, .inl l8)] []
def zK_X12_shares_L69 (X : Zx) (p0 : Option Nat) (p1 : Int32) (p2 : Int64) (p4 : Int64) (y : Zm × Int64 × Int32) : Prop := match y with
  | (M, l6, l8) => zV X zC_X12_shares M 140 [] []
noncomputable def zf_X12_shares (M : Zm) (l0 : Option Nat) (l1 : Int32) (l2 : Int64) : Option (Zm × Unit) :=
  zb1 (zo_rc M l0 13) (fun _ => zbd (zf_X12_inVessel M l0 l1) (fun M1 v1 =>
  zb1 (zwhile (zf_X12_shares_L13 l0 l1 l2 v1) (M1, l2, (0 : Int32))) (fun y13 => match y13 with
  | (M13_13, l6_13, l8_13) =>
  zb1 (zwhile (zf_X12_shares_L69 l0 l1 l2 v1) (M13_13, l6_13, (0 : Int32))) (fun y28 => match y28 with
  | (M69_28, l6_28, l8_28) =>
  some (M69_28, ())))))
set_option maxRecDepth 100000 in
theorem zt_X12_shares_L13 {X : Zx} {p0 : Option Nat} {p1 : Int32} {p2 : Int64} {p4 : Int64} {x : Zm × Int64 × Int32} {y : Zm × Int64 × Int32} (h : zwhile (zf_X12_shares_L13 p0 p1 p2 p4) x = some y) (hy : zK_X12_shares_L13 X p0 p1 p2 p4 y) : zP_X12_shares_L13 X p0 p1 p2 p4 x := by
  refine zwhile_ind (P := zP_X12_shares_L13 X p0 p1 p2 p4) (K := zK_X12_shares_L13 X p0 p1 p2 p4) ?_ h hy
  intro x z hf k1 k2
  obtain ⟨M, l6, l8⟩ := x
  have h : zf_X12_shares_L13 p0 p1 p2 p4 (M, l6, l8) = some z := hf
  unfold zf_X12_shares_L13 at h
  show zV X zC_X12_shares M 13 [(0, .inr (.inr p0)), (1, .inl p1), (2, .inr (.inl p2)), (4, .inr (.inl p4)), (6, .inr (.inl l6)), (8, .inl l8)] []
  refine zV_b (pc' := 16) (lv' := [(0, .inr (.inr p0)), (1, .inl p1), (2, .inr (.inl p2)), (4, .inr (.inl p4)), (6, .inr (.inl l6)), (8, .inl l8)]) (st' := [.inr (.inr p0), .inl l8]) [(.iload 8, 2), (.aload_n 0, 1)] (by decide +kernel) rfl ?_
  refine zV_gr (by decide +kernel) zfl_RX12_28 (by decide) rfl h (fun v2 _ h => ?_)
  refine zV_b (pc' := 20) (lv' := [(0, .inr (.inr p0)), (1, .inl p1), (2, .inr (.inl p2)), (4, .inr (.inl p4)), (6, .inr (.inl l6)), (8, .inl l8)]) (st' := [.inl p1, .inr (.inr v2), .inl l8]) [(.iload_n 1, 1)] (by decide +kernel) rfl ?_
  refine zV_ai (by decide +kernel) h (fun v3 _ h => ?_)
  refine zV_icmp_ge (off := 45) (tgt := 66) (by decide +kernel) (by decide) h (fun c4 h => ?_) (fun c4 h => ?_)
  · exact zV_lv (lv' := [(0, .inr (.inr p0)), (1, .inl p1), (2, .inr (.inl p2)), (4, .inr (.inl p4)), (6, .inr (.inl l6))]) [0, 1, 2, 3, 4] rfl (k2 _ (Option.some.inj h).symm)
  · refine zV_b (pc' := 25) (lv' := [(0, .inr (.inr p0)), (1, .inl p1), (2, .inr (.inl p2)), (4, .inr (.inl p4)), (6, .inr (.inl l6)), (8, .inl l8)]) (st' := [.inr (.inr p0)]) [(.aload_n 0, 1)] (by decide +kernel) rfl ?_
    refine zV_gr (by decide +kernel) zfl_RX12_145 (by decide) rfl h (fun v5 _ h => ?_)
    refine zV_b (pc' := 32) (lv' := [(0, .inr (.inr p0)), (1, .inl p1), (2, .inr (.inl p2)), (4, .inr (.inl p4)), (6, .inr (.inl l6)), (8, .inl l8)]) (st' := [.inr (.inr p0), .inr (.inl p2), .inl l8, .inr (.inr v5)]) [(.iload 8, 2), (.lload_n 2, 1), (.aload_n 0, 1)] (by decide +kernel) rfl ?_
    refine zV_gr (by decide +kernel) zfl_RX12_35 (by decide) rfl h (fun v6 _ h => ?_)
    refine zV_b (pc' := 42) (lv' := [(0, .inr (.inr p0)), (1, .inl p1), (2, .inr (.inl p2)), (4, .inr (.inl p4)), (6, .inr (.inl l6)), (8, .inl l8)]) (st' := [.inl (((60 : Int32) * p1) + l8), .inr (.inr v6), .inr (.inl p2), .inl l8, .inr (.inr v5)]) [(.bipush 60, 2), (.iload_n 1, 1), (.imul, 1), (.iload 8, 2), (.iadd, 1)] (by decide +kernel) rfl ?_
    refine zV_aj (by decide +kernel) h (fun v7 _ h => ?_)
    refine zV_b (pc' := 46) (lv' := [(0, .inr (.inr p0)), (1, .inl p1), (2, .inr (.inl p2)), (4, .inr (.inl p4)), (6, .inr (.inl l6)), (8, .inl l8)]) (st' := [.inr (.inl p4), .inr (.inl (p2 * v7)), .inl l8, .inr (.inr v5)]) [(.lmul, 1), (.lload 4, 2)] (by decide +kernel) rfl ?_
    refine zV_ld (by decide +kernel) h (fun v8 _ h => ?_)
    refine zV_sj (by decide +kernel) h (fun M9 _ h => ?_)
    refine zV_b (pc' := 51) (lv' := [(0, .inr (.inr p0)), (1, .inl p1), (2, .inr (.inl p2)), (4, .inr (.inl p4)), (6, .inr (.inl l6)), (8, .inl l8)]) (st' := [.inr (.inr p0), .inr (.inl l6)]) [(.lload 6, 2), (.aload_n 0, 1)] (by decide +kernel) rfl ?_
    refine zV_gr (by decide +kernel) zfl_RX12_145 (by decide) rfl h (fun v10 _ h => ?_)
    refine zV_b (pc' := 56) (lv' := [(0, .inr (.inr p0)), (1, .inl p1), (2, .inr (.inl p2)), (4, .inr (.inl p4)), (6, .inr (.inl l6)), (8, .inl l8)]) (st' := [.inl l8, .inr (.inr v10), .inr (.inl l6)]) [(.iload 8, 2)] (by decide +kernel) rfl ?_
    refine zV_aj (by decide +kernel) h (fun v11 _ h => ?_)
    refine zV_b (pc' := 63) (lv' := [(8, .inl (l8 + 1)), (6, .inr (.inl (l6 - v11))), (0, .inr (.inr p0)), (1, .inl p1), (2, .inr (.inl p2)), (4, .inr (.inl p4))]) (st' := []) [(.lsub, 1), (.lstore 6, 2), (.iinc 8 1, 3)] (by decide +kernel) rfl ?_
    refine zV_goto (off := (-50)) (tgt := 13) (by decide +kernel) (by decide) ?_
    exact zV_lv (lv' := [(0, .inr (.inr p0)), (1, .inl p1), (2, .inr (.inl p2)), (4, .inr (.inl p4)), (6, .inr (.inl (l6 - v11))), (8, .inl (l8 + 1))]) [2, 3, 4, 5, 1, 0] rfl (k1 _ (Option.some.inj h).symm)
set_option maxRecDepth 100000 in
theorem zt_X12_shares_J134 {X : Zx} {M : Zm} {p0 : Option Nat} {p1 : Int32} {p2 : Int64} {p4 : Int64} {l6 : Int64} {l8 : Int32} {z : (Zm × Int64 × Int32) ⊕ (Zm × Int64 × Int32)} (h : zf_X12_shares_J134 M p0 p1 p2 p4 l6 l8 = some z) (k1 : ∀ x' : Zm × Int64 × Int32, z = .inl x' → zP_X12_shares_L69 X p0 p1 p2 p4 x') (k2 : ∀ y : Zm × Int64 × Int32, z = .inr y → zK_X12_shares_L69 X p0 p1 p2 p4 y) : zV X zC_X12_shares M 134 [(0, .inr (.inr p0)), (1, .inl p1), (2, .inr (.inl p2)), (4, .inr (.inl p4)), (6, .inr (.inl l6)), (8, .inl l8)] [] := by
  unfold zf_X12_shares_J134 at h
  refine zV_b (pc' := 137) (lv' := [(8, .inl (l8 + 1)), (0, .inr (.inr p0)), (1, .inl p1), (2, .inr (.inl p2)), (4, .inr (.inl p4)), (6, .inr (.inl l6))]) (st' := []) [(.iinc 8 1, 3)] (by decide +kernel) rfl ?_
  refine zV_goto (off := (-68)) (tgt := 69) (by decide +kernel) (by decide) ?_
  exact zV_lv (lv' := [(0, .inr (.inr p0)), (1, .inl p1), (2, .inr (.inl p2)), (4, .inr (.inl p4)), (6, .inr (.inl l6)), (8, .inl (l8 + 1))]) [1, 2, 3, 4, 5, 0] rfl (k1 _ (Option.some.inj h).symm)
set_option maxRecDepth 100000 in
theorem zt_X12_shares_L69 {X : Zx} {p0 : Option Nat} {p1 : Int32} {p2 : Int64} {p4 : Int64} {x : Zm × Int64 × Int32} {y : Zm × Int64 × Int32} (h : zwhile (zf_X12_shares_L69 p0 p1 p2 p4) x = some y) (hy : zK_X12_shares_L69 X p0 p1 p2 p4 y) : zP_X12_shares_L69 X p0 p1 p2 p4 x := by
  refine zwhile_ind (P := zP_X12_shares_L69 X p0 p1 p2 p4) (K := zK_X12_shares_L69 X p0 p1 p2 p4) ?_ h hy
  intro x z hf k1 k2
  obtain ⟨M, l6, l8⟩ := x
  have h : zf_X12_shares_L69 p0 p1 p2 p4 (M, l6, l8) = some z := hf
  unfold zf_X12_shares_L69 at h
  show zV X zC_X12_shares M 69 [(0, .inr (.inr p0)), (1, .inl p1), (2, .inr (.inl p2)), (4, .inr (.inl p4)), (6, .inr (.inl l6)), (8, .inl l8)] []
  refine zV_b (pc' := 72) (lv' := [(0, .inr (.inr p0)), (1, .inl p1), (2, .inr (.inl p2)), (4, .inr (.inl p4)), (6, .inr (.inl l6)), (8, .inl l8)]) (st' := [.inr (.inr p0), .inl l8]) [(.iload 8, 2), (.aload_n 0, 1)] (by decide +kernel) rfl ?_
  refine zV_gr (by decide +kernel) zfl_RX12_28 (by decide) rfl h (fun v14 _ h => ?_)
  refine zV_b (pc' := 76) (lv' := [(0, .inr (.inr p0)), (1, .inl p1), (2, .inr (.inl p2)), (4, .inr (.inl p4)), (6, .inr (.inl l6)), (8, .inl l8)]) (st' := [.inl p1, .inr (.inr v14), .inl l8]) [(.iload_n 1, 1)] (by decide +kernel) rfl ?_
  refine zV_ai (by decide +kernel) h (fun v15 _ h => ?_)
  refine zV_icmp_ge (off := 63) (tgt := 140) (by decide +kernel) (by decide) h (fun c16 h => ?_) (fun c16 h => ?_)
  · exact zV_lv (lv' := []) [] rfl (k2 _ (Option.some.inj h).symm)
  · refine zV_b (pc' := 83) (lv' := [(0, .inr (.inr p0)), (1, .inl p1), (2, .inr (.inl p2)), (4, .inr (.inl p4)), (6, .inr (.inl l6)), (8, .inl l8)]) (st' := [.inr (.inl (0 : Int64)), .inr (.inl l6)]) [(.lload 6, 2), (.lconst 0, 1)] (by decide +kernel) rfl ?_
    refine zV_lcmp_le (off := 56) (tgt := 140) (by decide +kernel) (by decide +kernel) (by decide) h (fun c17 h => ?_) (fun c17 h => ?_)
    · exact zV_lv (lv' := []) [] rfl (k2 _ (Option.some.inj h).symm)
    · refine zV_b (pc' := 89) (lv' := [(0, .inr (.inr p0)), (1, .inl p1), (2, .inr (.inl p2)), (4, .inr (.inl p4)), (6, .inr (.inl l6)), (8, .inl l8)]) (st' := [.inr (.inr p0), .inr (.inl p2)]) [(.lload_n 2, 1), (.aload_n 0, 1)] (by decide +kernel) rfl ?_
      refine zV_gr (by decide +kernel) zfl_RX12_35 (by decide) rfl h (fun v18 _ h => ?_)
      refine zV_b (pc' := 99) (lv' := [(0, .inr (.inr p0)), (1, .inl p1), (2, .inr (.inl p2)), (4, .inr (.inl p4)), (6, .inr (.inl l6)), (8, .inl l8)]) (st' := [.inl (((60 : Int32) * p1) + l8), .inr (.inr v18), .inr (.inl p2)]) [(.bipush 60, 2), (.iload_n 1, 1), (.imul, 1), (.iload 8, 2), (.iadd, 1)] (by decide +kernel) rfl ?_
      refine zV_aj (by decide +kernel) h (fun v19 _ h => ?_)
      refine zV_b (pc' := 103) (lv' := [(0, .inr (.inr p0)), (1, .inl p1), (2, .inr (.inl p2)), (4, .inr (.inl p4)), (6, .inr (.inl l6)), (8, .inl l8)]) (st' := [.inr (.inl p4), .inr (.inl (p2 * v19))]) [(.lmul, 1), (.lload 4, 2)] (by decide +kernel) rfl ?_
      refine zV_lm (by decide +kernel) h (fun v20 _ h => ?_)
      refine zV_b (pc' := 105) (lv' := [(0, .inr (.inr p0)), (1, .inl p1), (2, .inr (.inl p2)), (4, .inr (.inl p4)), (6, .inr (.inl l6)), (8, .inl l8)]) (st' := [.inr (.inl (0 : Int64)), .inr (.inl v20)]) [(.lconst 0, 1)] (by decide +kernel) rfl ?_
      refine zV_lcmp_ne (off := 6) (tgt := 112) (by decide +kernel) (by decide +kernel) (by decide) h (fun c21 h => ?_) (fun c21 h => ?_)
      · refine zV_goto (off := 25) (tgt := 134) (by decide +kernel) (by decide) ?_
        exact zV_lv (lv' := [(0, .inr (.inr p0)), (1, .inl p1), (2, .inr (.inl p2)), (4, .inr (.inl p4)), (6, .inr (.inl l6)), (8, .inl l8)]) [0, 1, 2, 3, 4, 5] rfl (zt_X12_shares_J134 h k1 k2)
      · refine zV_b (pc' := 113) (lv' := [(0, .inr (.inr p0)), (1, .inl p1), (2, .inr (.inl p2)), (4, .inr (.inl p4)), (6, .inr (.inl l6)), (8, .inl l8)]) (st' := [.inr (.inr p0)]) [(.aload_n 0, 1)] (by decide +kernel) rfl ?_
        refine zV_gr (by decide +kernel) zfl_RX12_145 (by decide) rfl h (fun v24 _ h => ?_)
        refine zV_b (pc' := 119) (lv' := [(0, .inr (.inr p0)), (1, .inl p1), (2, .inr (.inl p2)), (4, .inr (.inl p4)), (6, .inr (.inl l6)), (8, .inl l8)]) (st' := [.inr (.inr p0), .inl l8, .inr (.inr v24)]) [(.iload 8, 2), (.aload_n 0, 1)] (by decide +kernel) rfl ?_
        refine zV_gr (by decide +kernel) zfl_RX12_145 (by decide) rfl h (fun v25 _ h => ?_)
        refine zV_b (pc' := 124) (lv' := [(0, .inr (.inr p0)), (1, .inl p1), (2, .inr (.inl p2)), (4, .inr (.inl p4)), (6, .inr (.inl l6)), (8, .inl l8)]) (st' := [.inl l8, .inr (.inr v25), .inl l8, .inr (.inr v24)]) [(.iload 8, 2)] (by decide +kernel) rfl ?_
        refine zV_aj (by decide +kernel) h (fun v26 _ h => ?_)
        refine zV_b (pc' := 127) (lv' := [(0, .inr (.inr p0)), (1, .inl p1), (2, .inr (.inl p2)), (4, .inr (.inl p4)), (6, .inr (.inl l6)), (8, .inl l8)]) (st' := [.inr (.inl (v26 + (1 : Int64))), .inl l8, .inr (.inr v24)]) [(.lconst 1, 1), (.ladd, 1)] (by decide +kernel) rfl ?_
        refine zV_sj (by decide +kernel) h (fun M27 _ h => ?_)
        refine zV_b (pc' := 134) (lv' := [(6, .inr (.inl (l6 - (1 : Int64)))), (0, .inr (.inr p0)), (1, .inl p1), (2, .inr (.inl p2)), (4, .inr (.inl p4)), (8, .inl l8)]) (st' := []) [(.lload 6, 2), (.lconst 1, 1), (.lsub, 1), (.lstore 6, 2)] (by decide +kernel) rfl ?_
        exact zV_lv (lv' := [(0, .inr (.inr p0)), (1, .inl p1), (2, .inr (.inl p2)), (4, .inr (.inl p4)), (6, .inr (.inl (l6 - (1 : Int64)))), (8, .inl l8)]) [1, 2, 3, 4, 0, 5] rfl (zt_X12_shares_J134 h k1 k2)
set_option maxRecDepth 100000 in
theorem zt_X12_shares {X : Zx} {M : Zm} {l0 : Option Nat} {l1 : Int32} {l2 : Int64} {z : Zm × Unit} (h : zf_X12_shares M l0 l1 l2 = some z) (hR : zRv X zC_X12_shares z.1) : zV X zC_X12_shares M 0 [(0, .inr (.inr l0)), (1, .inl l1), (2, .inr (.inl l2))] [] := by
  unfold zf_X12_shares at h
  refine zV_b (pc' := 2) (lv' := [(0, .inr (.inr l0)), (1, .inl l1), (2, .inr (.inl l2))]) (st' := [.inl l1, .inr (.inr l0)]) [(.aload_n 0, 1), (.iload_n 1, 1)] (by decide +kernel) rfl ?_
  refine zV_cvj (As := [.inl l1]) (st := []) (c := 13) (by decide +kernel) (zcl_X12_inVessel (by decide) (by decide)) ⟨zw_1759, zw_1761, zw_70⟩ ⟨⟨_, _, rfl⟩, by decide⟩ rfl rfl (Nat.le_of_ble_eq_true rfl) h (fun _ _ e => zc_X12_inVessel e) (fun M1 v1 _ h => ?_)
  refine zV_b (pc' := 13) (lv' := [(8, .inl (0 : Int32)), (6, .inr (.inl l2)), (4, .inr (.inl v1)), (0, .inr (.inr l0)), (1, .inl l1), (2, .inr (.inl l2))]) (st' := []) [(.lstore 4, 2), (.lload_n 2, 1), (.lstore 6, 2), (.iconst 0, 1), (.istore 8, 2)] (by decide +kernel) rfl ?_
  obtain ⟨y13, e13, h⟩ := zb1_inv h
  refine zV_lv (lv' := [(0, .inr (.inr l0)), (1, .inl l1), (2, .inr (.inl l2)), (4, .inr (.inl v1)), (6, .inr (.inl l2)), (8, .inl (0 : Int32))]) [3, 4, 5, 2, 1, 0] rfl (zt_X12_shares_L13 e13 ?_)
  obtain ⟨M13_13, l6_13, l8_13⟩ := y13
  show zV X zC_X12_shares M13_13 66 [(0, .inr (.inr l0)), (1, .inl l1), (2, .inr (.inl l2)), (4, .inr (.inl v1)), (6, .inr (.inl l6_13))] []
  refine zV_b (pc' := 69) (lv' := [(8, .inl (0 : Int32)), (0, .inr (.inr l0)), (1, .inl l1), (2, .inr (.inl l2)), (4, .inr (.inl v1)), (6, .inr (.inl l6_13))]) (st' := []) [(.iconst 0, 1), (.istore 8, 2)] (by decide +kernel) rfl ?_
  obtain ⟨y28, e28, h⟩ := zb1_inv h
  refine zV_lv (lv' := [(0, .inr (.inr l0)), (1, .inl l1), (2, .inr (.inl l2)), (4, .inr (.inl v1)), (6, .inr (.inl l6_13)), (8, .inl (0 : Int32))]) [1, 2, 3, 4, 5, 0] rfl (zt_X12_shares_L69 e28 ?_)
  obtain ⟨M69_28, l6_28, l8_28⟩ := y28
  show zV X zC_X12_shares M69_28 140 [] []
  exact zend_v h hR (by decide +kernel)
theorem zc_X12_shares {M M' : Zm} {l0 : Option Nat} {l1 : Int32} {l2 : Int64} {x : Unit} (h : zf_X12_shares M l0 l1 l2 = some (M', x)) (l : Launch) (D : va_G) (cy : Nat → ClassId) : zMet l yX12_shares zC_X12_shares none D cy [.inr (.inr l0), .inl l1, .inr (.inl l2)] M M' none :=
  zM_v (by decide) rfl (fun h => by cases h) (Nat.le_of_ble_eq_true rfl) (fun X hR => zt_X12_shares h hR)
-- BlendCellarModel.mixDraws()V
def zC_X12_mixDraws : Zc := (cX12_mixDraws, 4, RX12, 2, 52, false)
theorem zcl_X12_mixDraws {C : Zc} (h1 : zC_X12_mixDraws.2.2.2.1 + 1 ≤ C.2.2.2.1) (h2 : 8 + (zC_X12_mixDraws.2.1 + 11) + zC_X12_mixDraws.2.2.2.2.1 ≤ C.2.2.2.2.1) : zCl C yX12_mixDraws zC_X12_mixDraws none 0 := ⟨zw_1774, zw_114, ⟨by decide, by decide⟩, by decide +kernel, h1, h2⟩
noncomputable def zf_X12_mixDraws_J72 (M : Zm) (p0 : Option Nat) (p1 : Int32) (p2 : Int32) (l3 : Int32) : Option ((Zm × Int32) ⊕ (Zm × Int32)) :=
  some (.inl (M, (l3 + 1)))
noncomputable def zf_X12_mixDraws_L30 (p0 : Option Nat) (p1 : Int32) (p2 : Int32) (x : Zm × Int32) : Option ((Zm × Int32) ⊕ (Zm × Int32)) := match x with
  | (M, l3) =>
  zb1 (zo_gr M p0 13 8) (fun v8 =>
  zb1 (zo_ai M v8 p2) (fun v9 =>
  (if v9 ≤ l3 then
  some (.inr (M, l3))
  else
  zb1 (zo_gr M p0 13 63) (fun v11 =>
  zb1 (zo_aj M v11 l3) (fun v12 =>
  (if v12 ≤ (0 : Int64) then
  zf_X12_mixDraws_J72 M p0 p1 p2 l3
  else
  zb1 (zo_gr M p0 13 9) (fun v15 =>
  zb1 (zo_ai M v15 (((60 : Int32) * p2) + l3)) (fun v16 =>
  zb1 (zo_gr M p0 13 63) (fun v17 =>
  zb1 (zo_aj M v17 l3) (fun v18 =>
  zb1 (zo_rc M p0 13) (fun _ => zbd (zf_X12_mix M p0 v16 v18) (fun M19 _ =>
  zf_X12_mixDraws_J72 M19 p0 p1 p2 l3))))))))))))
def zP_X12_mixDraws_L30 (X : Zx) (p0 : Option Nat) (p1 : Int32) (p2 : Int32) (x : Zm × Int32) : Prop := match x with
  | (M, l3) => zV X zC_X12_mixDraws M 30 [(0, .inr (.inr p0)), (1, .inl p1), (2, .inl p2), (3, .inl l3)] []
def zK_X12_mixDraws_L30 (X : Zx) (p0 : Option Nat) (p1 : Int32) (p2 : Int32) (y : Zm × Int32) : Prop := match y with
  | (M, l3) => zV X zC_X12_mixDraws M 78 [(0, .inr (.inr p0)), (1, .inl p1)] []
noncomputable def zf_X12_mixDraws_L2 (p0 : Option Nat) (x : Zm × Int32) : Option ((Zm × Int32) ⊕ (Zm × Int32)) := match x with
  | (M, l1) =>
  zb1 (zo_gi M p0 13 60) (fun v1 =>
  (if v1 ≤ l1 then
  some (.inr (M, l1))
  else
  zb1 (zo_gr M p0 13 61) (fun v3 =>
  zb1 (zo_ai M v3 l1) (fun v4 =>
  zb1 (zo_gr M p0 13 62) (fun v5 =>
  zb1 (zo_aj M v5 l1) (fun v6 =>
  zb1 (zo_rc M p0 13) (fun _ => zbd (zf_X12_shares M p0 v4 v6) (fun M7 _ =>
  zb1 (zwhile (zf_X12_mixDraws_L30 p0 l1 v4) (M7, (0 : Int32))) (fun y20 => match y20 with
  | (M30_20, l3_20) =>
  some (.inl (M30_20, (l1 + 1))))))))))))
def zP_X12_mixDraws_L2 (X : Zx) (p0 : Option Nat) (x : Zm × Int32) : Prop := match x with
  | (M, l1) => zV X zC_X12_mixDraws M 2 [(0, .inr (.inr p0)), (1, .inl l1)] []
def zK_X12_mixDraws_L2 (X : Zx) (p0 : Option Nat) (y : Zm × Int32) : Prop := match y with
  | (M, l1) => zV X zC_X12_mixDraws M 84 [] []
noncomputable def zf_X12_mixDraws (M : Zm) (l0 : Option Nat) : Option (Zm × Unit) :=
  zb1 (zwhile (zf_X12_mixDraws_L2 l0) (M, (0 : Int32))) (fun y22 => match y22 with
  | (M2_22, l1_22) =>
  some (M2_22, ()))
set_option maxRecDepth 100000 in
theorem zt_X12_mixDraws_J72 {X : Zx} {M : Zm} {p0 : Option Nat} {p1 : Int32} {p2 : Int32} {l3 : Int32} {z : (Zm × Int32) ⊕ (Zm × Int32)} (h : zf_X12_mixDraws_J72 M p0 p1 p2 l3 = some z) (k1 : ∀ x' : Zm × Int32, z = .inl x' → zP_X12_mixDraws_L30 X p0 p1 p2 x') (k2 : ∀ y : Zm × Int32, z = .inr y → zK_X12_mixDraws_L30 X p0 p1 p2 y) : zV X zC_X12_mixDraws M 72 [(0, .inr (.inr p0)), (1, .inl p1), (2, .inl p2), (3, .inl l3)] [] := by
  unfold zf_X12_mixDraws_J72 at h
  refine zV_b (pc' := 75) (lv' := [(3, .inl (l3 + 1)), (0, .inr (.inr p0)), (1, .inl p1), (2, .inl p2)]) (st' := []) [(.iinc 3 1, 3)] (by decide +kernel) rfl ?_
  refine zV_goto (off := (-45)) (tgt := 30) (by decide +kernel) (by decide) ?_
  exact zV_lv (lv' := [(0, .inr (.inr p0)), (1, .inl p1), (2, .inl p2), (3, .inl (l3 + 1))]) [1, 2, 3, 0] rfl (k1 _ (Option.some.inj h).symm)
set_option maxRecDepth 100000 in
theorem zt_X12_mixDraws_L30 {X : Zx} {p0 : Option Nat} {p1 : Int32} {p2 : Int32} {x : Zm × Int32} {y : Zm × Int32} (h : zwhile (zf_X12_mixDraws_L30 p0 p1 p2) x = some y) (hy : zK_X12_mixDraws_L30 X p0 p1 p2 y) : zP_X12_mixDraws_L30 X p0 p1 p2 x := by
  refine zwhile_ind (P := zP_X12_mixDraws_L30 X p0 p1 p2) (K := zK_X12_mixDraws_L30 X p0 p1 p2) ?_ h hy
  intro x z hf k1 k2
  obtain ⟨M, l3⟩ := x
  have h : zf_X12_mixDraws_L30 p0 p1 p2 (M, l3) = some z := hf
  unfold zf_X12_mixDraws_L30 at h
  show zV X zC_X12_mixDraws M 30 [(0, .inr (.inr p0)), (1, .inl p1), (2, .inl p2), (3, .inl l3)] []
  refine zV_b (pc' := 32) (lv' := [(0, .inr (.inr p0)), (1, .inl p1), (2, .inl p2), (3, .inl l3)]) (st' := [.inr (.inr p0), .inl l3]) [(.iload_n 3, 1), (.aload_n 0, 1)] (by decide +kernel) rfl ?_
  refine zV_gr (by decide +kernel) zfl_RX12_28 (by decide) rfl h (fun v8 _ h => ?_)
  refine zV_b (pc' := 36) (lv' := [(0, .inr (.inr p0)), (1, .inl p1), (2, .inl p2), (3, .inl l3)]) (st' := [.inl p2, .inr (.inr v8), .inl l3]) [(.iload_n 2, 1)] (by decide +kernel) rfl ?_
  refine zV_ai (by decide +kernel) h (fun v9 _ h => ?_)
  refine zV_icmp_ge (off := 41) (tgt := 78) (by decide +kernel) (by decide) h (fun c10 h => ?_) (fun c10 h => ?_)
  · exact zV_lv (lv' := [(0, .inr (.inr p0)), (1, .inl p1)]) [0, 1] rfl (k2 _ (Option.some.inj h).symm)
  · refine zV_b (pc' := 41) (lv' := [(0, .inr (.inr p0)), (1, .inl p1), (2, .inl p2), (3, .inl l3)]) (st' := [.inr (.inr p0)]) [(.aload_n 0, 1)] (by decide +kernel) rfl ?_
    refine zV_gr (by decide +kernel) zfl_RX12_145 (by decide) rfl h (fun v11 _ h => ?_)
    refine zV_b (pc' := 45) (lv' := [(0, .inr (.inr p0)), (1, .inl p1), (2, .inl p2), (3, .inl l3)]) (st' := [.inl l3, .inr (.inr v11)]) [(.iload_n 3, 1)] (by decide +kernel) rfl ?_
    refine zV_aj (by decide +kernel) h (fun v12 _ h => ?_)
    refine zV_b (pc' := 47) (lv' := [(0, .inr (.inr p0)), (1, .inl p1), (2, .inl p2), (3, .inl l3)]) (st' := [.inr (.inl (0 : Int64)), .inr (.inl v12)]) [(.lconst 0, 1)] (by decide +kernel) rfl ?_
    refine zV_lcmp_le (off := 24) (tgt := 72) (by decide +kernel) (by decide +kernel) (by decide) h (fun c13 h => ?_) (fun c13 h => ?_)
    · exact zV_lv (lv' := [(0, .inr (.inr p0)), (1, .inl p1), (2, .inl p2), (3, .inl l3)]) [0, 1, 2, 3] rfl (zt_X12_mixDraws_J72 h k1 k2)
    · refine zV_b (pc' := 53) (lv' := [(0, .inr (.inr p0)), (1, .inl p1), (2, .inl p2), (3, .inl l3)]) (st' := [.inr (.inr p0), .inr (.inr p0)]) [(.aload_n 0, 1), (.aload_n 0, 1)] (by decide +kernel) rfl ?_
      refine zV_gr (by decide +kernel) zfl_RX12_32 (by decide) rfl h (fun v15 _ h => ?_)
      refine zV_b (pc' := 62) (lv' := [(0, .inr (.inr p0)), (1, .inl p1), (2, .inl p2), (3, .inl l3)]) (st' := [.inl (((60 : Int32) * p2) + l3), .inr (.inr v15), .inr (.inr p0)]) [(.bipush 60, 2), (.iload_n 2, 1), (.imul, 1), (.iload_n 3, 1), (.iadd, 1)] (by decide +kernel) rfl ?_
      refine zV_ai (by decide +kernel) h (fun v16 _ h => ?_)
      refine zV_b (pc' := 64) (lv' := [(0, .inr (.inr p0)), (1, .inl p1), (2, .inl p2), (3, .inl l3)]) (st' := [.inr (.inr p0), .inl v16, .inr (.inr p0)]) [(.aload_n 0, 1)] (by decide +kernel) rfl ?_
      refine zV_gr (by decide +kernel) zfl_RX12_145 (by decide) rfl h (fun v17 _ h => ?_)
      refine zV_b (pc' := 68) (lv' := [(0, .inr (.inr p0)), (1, .inl p1), (2, .inl p2), (3, .inl l3)]) (st' := [.inl l3, .inr (.inr v17), .inl v16, .inr (.inr p0)]) [(.iload_n 3, 1)] (by decide +kernel) rfl ?_
      refine zV_aj (by decide +kernel) h (fun v18 _ h => ?_)
      refine zV_cvv (As := [.inl v16, .inr (.inl v18)]) (st := []) (c := 13) (by decide +kernel) (zcl_X12_mix (by decide) (by decide)) ⟨zw_1767, zw_1769, zw_72⟩ ⟨⟨_, _, rfl⟩, by decide⟩ rfl rfl (Nat.le_of_ble_eq_true rfl) h (fun _ _ e => zc_X12_mix e) (fun M19 _ _ h => ?_)
      exact zV_lv (lv' := [(0, .inr (.inr p0)), (1, .inl p1), (2, .inl p2), (3, .inl l3)]) [0, 1, 2, 3] rfl (zt_X12_mixDraws_J72 h k1 k2)
set_option maxRecDepth 100000 in
theorem zt_X12_mixDraws_L2 {X : Zx} {p0 : Option Nat} {x : Zm × Int32} {y : Zm × Int32} (h : zwhile (zf_X12_mixDraws_L2 p0) x = some y) (hy : zK_X12_mixDraws_L2 X p0 y) : zP_X12_mixDraws_L2 X p0 x := by
  refine zwhile_ind (P := zP_X12_mixDraws_L2 X p0) (K := zK_X12_mixDraws_L2 X p0) ?_ h hy
  intro x z hf k1 k2
  obtain ⟨M, l1⟩ := x
  have h : zf_X12_mixDraws_L2 p0 (M, l1) = some z := hf
  unfold zf_X12_mixDraws_L2 at h
  show zV X zC_X12_mixDraws M 2 [(0, .inr (.inr p0)), (1, .inl l1)] []
  refine zV_b (pc' := 4) (lv' := [(0, .inr (.inr p0)), (1, .inl l1)]) (st' := [.inr (.inr p0), .inl l1]) [(.iload_n 1, 1), (.aload_n 0, 1)] (by decide +kernel) rfl ?_
  refine zV_gi (by decide +kernel) zfl_RX12_247 (by decide) rfl (Or.inl rfl) h (fun v1 _ h => ?_)
  refine zV_icmp_ge (off := 77) (tgt := 84) (by decide +kernel) (by decide) h (fun c2 h => ?_) (fun c2 h => ?_)
  · exact zV_lv (lv' := []) [] rfl (k2 _ (Option.some.inj h).symm)
  · refine zV_b (pc' := 11) (lv' := [(0, .inr (.inr p0)), (1, .inl l1)]) (st' := [.inr (.inr p0)]) [(.aload_n 0, 1)] (by decide +kernel) rfl ?_
    refine zV_gr (by decide +kernel) zfl_RX12_139 (by decide) rfl h (fun v3 _ h => ?_)
    refine zV_b (pc' := 15) (lv' := [(0, .inr (.inr p0)), (1, .inl l1)]) (st' := [.inl l1, .inr (.inr v3)]) [(.iload_n 1, 1)] (by decide +kernel) rfl ?_
    refine zV_ai (by decide +kernel) h (fun v4 _ h => ?_)
    refine zV_b (pc' := 20) (lv' := [(2, .inl v4), (0, .inr (.inr p0)), (1, .inl l1)]) (st' := [.inr (.inr p0), .inl v4, .inr (.inr p0)]) [(.istore_n 2, 1), (.aload_n 0, 1), (.iload_n 2, 1), (.aload_n 0, 1)] (by decide +kernel) rfl ?_
    refine zV_gr (by decide +kernel) zfl_RX12_142 (by decide) rfl h (fun v5 _ h => ?_)
    refine zV_b (pc' := 24) (lv' := [(2, .inl v4), (0, .inr (.inr p0)), (1, .inl l1)]) (st' := [.inl l1, .inr (.inr v5), .inl v4, .inr (.inr p0)]) [(.iload_n 1, 1)] (by decide +kernel) rfl ?_
    refine zV_aj (by decide +kernel) h (fun v6 _ h => ?_)
    refine zV_cvv (As := [.inl v4, .inr (.inl v6)]) (st := []) (c := 13) (by decide +kernel) (zcl_X12_shares (by decide) (by decide)) ⟨zw_1775, zw_1777, zw_74⟩ ⟨⟨_, _, rfl⟩, by decide⟩ rfl rfl (Nat.le_of_ble_eq_true rfl) h (fun _ _ e => zc_X12_shares e) (fun M7 _ _ h => ?_)
    refine zV_b (pc' := 30) (lv' := [(3, .inl (0 : Int32)), (2, .inl v4), (0, .inr (.inr p0)), (1, .inl l1)]) (st' := []) [(.iconst 0, 1), (.istore_n 3, 1)] (by decide +kernel) rfl ?_
    obtain ⟨y20, e20, h⟩ := zb1_inv h
    refine zV_lv (lv' := [(0, .inr (.inr p0)), (1, .inl l1), (2, .inl v4), (3, .inl (0 : Int32))]) [2, 3, 1, 0] rfl (zt_X12_mixDraws_L30 e20 ?_)
    obtain ⟨M30_20, l3_20⟩ := y20
    show zV X zC_X12_mixDraws M30_20 78 [(0, .inr (.inr p0)), (1, .inl l1)] []
    refine zV_b (pc' := 81) (lv' := [(1, .inl (l1 + 1)), (0, .inr (.inr p0))]) (st' := []) [(.iinc 1 1, 3)] (by decide +kernel) rfl ?_
    refine zV_goto (off := (-79)) (tgt := 2) (by decide +kernel) (by decide) ?_
    exact zV_lv (lv' := [(0, .inr (.inr p0)), (1, .inl (l1 + 1))]) [1, 0] rfl (k1 _ (Option.some.inj h).symm)
set_option maxRecDepth 100000 in
theorem zt_X12_mixDraws {X : Zx} {M : Zm} {l0 : Option Nat} {z : Zm × Unit} (h : zf_X12_mixDraws M l0 = some z) (hR : zRv X zC_X12_mixDraws z.1) : zV X zC_X12_mixDraws M 0 [(0, .inr (.inr l0))] [] := by
  unfold zf_X12_mixDraws at h
  refine zV_b (pc' := 2) (lv' := [(1, .inl (0 : Int32)), (0, .inr (.inr l0))]) (st' := []) [(.iconst 0, 1), (.istore_n 1, 1)] (by decide +kernel) rfl ?_
  obtain ⟨y22, e22, h⟩ := zb1_inv h
  refine zV_lv (lv' := [(0, .inr (.inr l0)), (1, .inl (0 : Int32))]) [1, 0] rfl (zt_X12_mixDraws_L2 e22 ?_)
  obtain ⟨M2_22, l1_22⟩ := y22
  show zV X zC_X12_mixDraws M2_22 84 [] []
  exact zend_v h hR (by decide +kernel)
theorem zc_X12_mixDraws {M M' : Zm} {l0 : Option Nat} {x : Unit} (h : zf_X12_mixDraws M l0 = some (M', x)) (l : Launch) (D : va_G) (cy : Nat → ClassId) : zMet l yX12_mixDraws zC_X12_mixDraws none D cy [.inr (.inr l0)] M M' none :=
  zM_v (by decide) rfl (fun h => by cases h) (Nat.le_of_ble_eq_true rfl) (fun X hR => zt_X12_mixDraws h hR)
