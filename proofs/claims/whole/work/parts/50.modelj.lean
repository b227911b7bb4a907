/-! What the bytecode does, as functions of the memory, and the walks (written by wip/gen.py). -/
-- BlendCellarModel.plan(IJI)J
def zC_X12_plan : Zc := (cX12_plan, 12, RX12, 67, 1772, false)
theorem zcl_X12_plan {C : Zc} (h1 : zC_X12_plan.2.2.2.1 + 1 ≤ C.2.2.2.1) (h2 : 8 + (zC_X12_plan.2.1 + 11) + zC_X12_plan.2.2.2.2.1 ≤ C.2.2.2.2.1) : zCl C yX12_plan zC_X12_plan (some .long) 3 := ⟨zw_1926, zw_114, ⟨by decide, by decide⟩, by decide +kernel, h1, h2⟩
noncomputable def zf_X12_plan_J17 (M : Zm) (l0 : Option Nat) : Option (Zm × Int64) :=
  zb1 (zo_rc M l0 13) (fun _ => zbd (zf_X12_no M l0 (1 : Int32)) (fun M4 v4 =>
  some (M4, v4)))
noncomputable def zf_X12_plan_L204 (p0 : Option Nat) (p1 : Int32) (p2 : Int64) (p4 : Int32) (p6 : Int32) (p7 : Int32) (p8 : Int32) (x : Zm × Int32) : Option ((Zm × Int32) ⊕ (Zm × Int32)) := match x with
  | (M, l11) =>
  (if p6 < l11 then
  some (.inr (M, l11))
  else
  zb1 (zo_gr M p0 13 71) (fun v38 =>
  zb1 (zo_rc M p0 13) (fun _ => zbd (zf_X12_dear M p0 p8 ((l11.toInt64) * (p4.toInt64))) (fun M39 v39 =>
  zb1 (zo_sj M39 v38 (((13 : Int32) * p7) + l11) v39) (fun M40 =>
  some (.inl (M40, (l11 + 1))))))))
def zP_X12_plan_L204 (X : Zx) (p0 : Option Nat) (p1 : Int32) (p2 : Int64) (p4 : Int32) (p6 : Int32) (p7 : Int32) (p8 : Int32) (x : Zm × Int32) : Prop := match x with
  | (M, l11) => zV X zC_X12_plan M 204 [(0, .inr (.inr p0)), (1, .inl p1), (2, .inr (.inl p2)), (4, .inl p4), (6, .inl p6), (7, .inl p7), (8, .inl p8), (11, .inl l11)] []
def zK_X12_plan_L204 (X : Zx) (p0 : Option Nat) (p1 : Int32) (p2 : Int64) (p4 : Int32) (p6 : Int32) (p7 : Int32) (p8 : Int32) (y : Zm × Int32) : Prop := match y with
  | (M, l11) => zV X zC_X12_plan M 243 [(0, .inr (.inr p0)), (1, .inl p1), (2, .inr (.inl p2)), (4, .inl p4), (6, .inl p6), (7, .inl p7), (8, .inl p8)] []
noncomputable def zf_X12_plan_J282 (M : Zm) (p0 : Option Nat) (p1 : Int32) (p2 : Int64) (p4 : Int32) (p6 : Int32) (p7 : Int32) (p8 : Int32) (l11 : Int32) : Option ((Zm × Int32) ⊕ (Zm × Int32)) :=
  zb1 (zo_pi M p0 13 64 (0 : Int32)) (fun M48 =>
  zb1 (zo_rc M48 p0 13) (fun _ => zbd (zf_X12_mixDraws M48 p0) (fun M49 _ =>
  zb1 (zo_gr M49 p0 13 70) (fun v50 =>
  zb1 (zo_rc M49 p0 13) (fun _ => zbd (zf_X12_sharesOfMix M49 p0 v50 ((((13 : Int32) * p7) + l11) * (48 : Int32))) (fun M51 _ =>
  some (.inl (M51, (l11 + 1)))))))))
noncomputable def zf_X12_plan_L246 (p0 : Option Nat) (p1 : Int32) (p2 : Int64) (p4 : Int32) (p6 : Int32) (p7 : Int32) (p8 : Int32) (x : Zm × Int32) : Option ((Zm × Int32) ⊕ (Zm × Int32)) := match x with
  | (M, l11) =>
  zb1 (zo_gr M p0 13 72) (fun v43 =>
  zb1 (zo_ai M v43 p7) (fun v44 =>
  (if v44 < l11 then
  some (.inr (M, l11))
  else
  zb1 (zo_pi M p0 13 60 (0 : Int32)) (fun M46 =>
  (if l11 ≤ 0 then
  zf_X12_plan_J282 M46 p0 p1 p2 p4 p6 p7 p8 l11
  else
  zb1 (zo_rc M46 p0 13) (fun _ => zbd (zf_X12_drawFrom M46 p0 p8 ((l11.toInt64) * (p4.toInt64)) (0 : Int32)) (fun M53 _ =>
  zf_X12_plan_J282 M53 p0 p1 p2 p4 p6 p7 p8 l11)))))))
def zP_X12_plan_L246 (X : Zx) (p0 : Option Nat) (p1 : Int32) (p2 : Int64) (p4 : Int32) (p6 : Int32) (p7 : Int32) (p8 : Int32) (x : Zm × Int32) : Prop := match x with
  | (M, l11) => zV X zC_X12_plan M 246 [(0, .inr (.inr p0)), (1, .inl p1), (2, .inr (.inl p2)), (4, .inl p4), (6, .inl p6), (7, .inl p7), (8, .inl p8), (11, .inl l11)] []
def zK_X12_plan_L246 (X : Zx) (p0 : Option Nat) (p1 : Int32) (p2 : Int64) (p4 : Int32) (p6 : Int32) (p7 : Int32) (p8 : Int32) (y : Zm × Int32) : Prop := match y with
  | (M, l11) => zV X zC_X12_plan M 316 [(0, .inr (.inr p0)), (1, .inl p1), (2, .inr (.inl p2)), (4, .inl p4), (6, .inl p6), (7, .inl p7)] []
noncomputable def zf_X12_plan_J189 (M : Zm) (p0 : Option Nat) (p1 : Int32) (p2 : Int64) (p4 : Int32) (p6 : Int32) (l7 : Int32) (l8 : Int32) (s0 : Int32) (s1 : Int32) (s2 : Option Nat) : Option ((Zm × Int32) ⊕ (Zm × Int32)) :=
  zb1 (zo_si M s2 s1 s0) (fun M34 =>
  zb1 (zo_gr M34 p0 13 71) (fun v35 =>
  zb1 (zo_sj M34 v35 ((13 : Int32) * l7) (0 : Int64)) (fun M36 =>
  zb1 (zwhile (zf_X12_plan_L204 p0 p1 p2 p4 p6 l7 l8) (M36, (1 : Int32))) (fun y42 => match y42 with
  | (M204_42, l11_42) =>
  zb1 (zwhile (zf_X12_plan_L246 p0 p1 p2 p4 p6 l7 l8) (M204_42, (0 : Int32))) (fun y54 => match y54 with
  | (M246_54, l11_54) =>
  some (.inl (M246_54, (l7 + 1))))))))
noncomputable def zf_X12_plan_L136 (p0 : Option Nat) (p1 : Int32) (p2 : Int64) (p4 : Int32) (p6 : Int32) (x : Zm × Int32) : Option ((Zm × Int32) ⊕ (Zm × Int32)) := match x with
  | (M, l7) =>
  zb1 (zo_gi M p0 13 33) (fun v26 =>
  (if v26 ≤ l7 then
  some (.inr (M, l7))
  else
  zb1 (zo_gr M p0 13 34) (fun v28 =>
  zb1 (zo_ai M v28 l7) (fun v29 =>
  zb1 (zo_rc M p0 13) (fun _ => zbd (zf_X12_spare M p0 v29) (fun M30 v30 =>
  zb1 (zo_ld v30 (p4.toInt64)) (fun v31 =>
  zb1 (zo_gr M30 p0 13 72) (fun v32 =>
  (if (p6.toInt64) ≤ v31 then
  zf_X12_plan_J189 M30 p0 p1 p2 p4 p6 l7 v29 p6 l7 v32
  else
  zf_X12_plan_J189 M30 p0 p1 p2 p4 p6 l7 v29 (v31.toInt32) l7 v32)))))))))
def zP_X12_plan_L136 (X : Zx) (p0 : Option Nat) (p1 : Int32) (p2 : Int64) (p4 : Int32) (p6 : Int32) (x : Zm × Int32) : Prop := match x with
  | (M, l7) => zV X zC_X12_plan M 136 [(0, .inr (.inr p0)), (1, .inl p1), (2, .inr (.inl p2)), (4, .inl p4), (6, .inl p6), (7, .inl l7)] []
def zK_X12_plan_L136 (X : Zx) (p0 : Option Nat) (p1 : Int32) (p2 : Int64) (p4 : Int32) (p6 : Int32) (y : Zm × Int32) : Prop := match y with
  | (M, l7) => zV X zC_X12_plan M 322 [(0, .inr (.inr p0)), (1, .inl p1), (2, .inr (.inl p2)), (4, .inl p4), (6, .inl p6)] []
noncomputable def zf_X12_plan_L370 (p0 : Option Nat) (p4 : Int32) (x : Zm × Int32) : Option ((Zm × Int32) ⊕ (Zm × Int32)) := match x with
  | (M, l7) =>
  zb1 (zo_gi M p0 13 33) (fun v66 =>
  (if v66 ≤ l7 then
  some (.inr (M, l7))
  else
  zb1 (zo_gr M p0 13 37) (fun v68 =>
  zb1 (zo_gr M p0 13 74) (fun v69 =>
  zb1 (zo_ai M v69 l7) (fun v70 =>
  zb1 (zo_sj M v68 l7 ((v70.toInt64) * (p4.toInt64))) (fun M71 =>
  some (.inl (M71, (l7 + 1)))))))))
def zP_X12_plan_L370 (X : Zx) (p0 : Option Nat) (p4 : Int32) (x : Zm × Int32) : Prop := match x with
  | (M, l7) => zV X zC_X12_plan M 370 [(0, .inr (.inr p0)), (4, .inl p4), (7, .inl l7)] []
def zK_X12_plan_L370 (X : Zx) (p0 : Option Nat) (p4 : Int32) (y : Zm × Int32) : Prop := match y with
  | (M, l7) => zV X zC_X12_plan M 404 [(0, .inr (.inr p0))] []
noncomputable def zf_X12_plan_J56 (M : Zm) (l0 : Option Nat) : Option (Zm × Int64) :=
  zb1 (zo_rc M l0 13) (fun _ => zbd (zf_X12_no M l0 (1 : Int32)) (fun M84 v84 =>
  some (M84, v84)))
noncomputable def zf_X12_plan (M : Zm) (l0 : Option Nat) (l1 : Int32) (l2 : Int64) (l4 : Int32) : Option (Zm × Int64) :=
  zb1 (zo_rc M l0 13) (fun _ => zbd (zf_X12_begin M l0) (fun M1 _ =>
  zb1 (zo_rc M1 l0 13) (fun _ => zbd (zf_X12_isAmount M1 l0 l2) (fun M2 v2 =>
  (if v2 = 0 then
  zf_X12_plan_J17 M2 l0
  else
  (if 0 ≤ l4 then
  (if l4 = 0 then
  zb1 (zo_rc M2 l0 13) (fun _ => zbd (zf_X12_no M2 l0 (5 : Int32)) (fun M8 v8 =>
  some (M8, v8)))
  else
  zb1 (zo_lm l2 (l4.toInt64)) (fun v10 =>
  (if v10 = (0 : Int64) then
  zb1 (zo_ld l2 (l4.toInt64)) (fun v12 =>
  (if v12 ≤ (12 : Int64) then
  zb1 (zo_rc M2 l0 13) (fun _ => zbd (zf_X12_lookedLabel M2 l0 l1) (fun M15 v15 =>
  (if v15 ≤ 0 then
  zb1 (zo_gi M15 l0 13 33) (fun v17 =>
  (if v17 = 0 then
  zb1 (zo_rc M15 l0 13) (fun _ => zbd (zf_X12_no M15 l0 (10 : Int32)) (fun M19 v19 =>
  some (M19, v19)))
  else
  zb1 (zo_gi M15 l0 13 33) (fun v21 =>
  (if v21 ≤ (6 : Int32) then
  zb1 (zo_rc M15 l0 13) (fun _ => zbd (zf_X12_isOneInCask M15 l0) (fun M23 v23 =>
  (if v23 = 0 then
  zb1 (zo_ld l2 (l4.toInt64)) (fun v25 =>
  zb1 (zwhile (zf_X12_plan_L136 l0 l1 l2 l4 (v25.toInt32)) (M23, (0 : Int32))) (fun y57 => match y57 with
  | (M136_57, l7_57) =>
  zb1 (zo_pj M136_57 l0 13 67 l2) (fun M58 =>
  zb1 (zo_pj M58 l0 13 75 (-1 : Int64)) (fun M60 =>
  zb1 (zo_rc M60 l0 13) (fun _ => zbd (zf_X12_search 32 M60 l0 l1 (0 : Int32) (v25.toInt32) (0 : Int64)) (fun M61 _ =>
  zb1 (zo_gj M61 l0 13 75) (fun v62 =>
  (if (0 : Int64) ≤ v62 then
  zb1 (zo_gi M61 l0 13 33) (fun v64 =>
  zb1 (zo_pi M61 l0 13 36 v64) (fun M65 =>
  zb1 (zwhile (zf_X12_plan_L370 l0 l4) (M65, (0 : Int32))) (fun y73 => match y73 with
  | (M370_73, l7_73) =>
  zb1 (zo_gj M370_73 l0 13 75) (fun v74 =>
  some (M370_73, v74)))))
  else
  zb1 (zo_rc M61 l0 13) (fun _ => zbd (zf_X12_no M61 l0 (14 : Int32)) (fun M76 v76 =>
  some (M76, v76)))))))))))
  else
  zb1 (zo_rc M23 l0 13) (fun _ => zbd (zf_X12_no M23 l0 (9 : Int32)) (fun M78 v78 =>
  some (M78, v78))))))
  else
  zb1 (zo_rc M15 l0 13) (fun _ => zbd (zf_X12_no M15 l0 (12 : Int32)) (fun M80 v80 =>
  some (M80, v80)))))))
  else
  zb1 (zo_rc M15 l0 13) (fun _ => zbd (zf_X12_no M15 l0 v15) (fun M82 v82 =>
  some (M82, v82))))))
  else
  zf_X12_plan_J56 M2 l0))
  else
  zf_X12_plan_J56 M2 l0)))
  else
  zf_X12_plan_J17 M2 l0))))))
set_option maxRecDepth 100000 in
theorem zt_X12_plan_J17 {X : Zx} {M : Zm} {l0 : Option Nat} {z : Zm × Int64} (h : zf_X12_plan_J17 M l0 = some z) (hR : zRj X zC_X12_plan z.1 z.2) : zV X zC_X12_plan M 17 [(0, .inr (.inr l0))] [] := by
  unfold zf_X12_plan_J17 at h
  refine zV_b (pc' := 19) (lv' := [(0, .inr (.inr l0))]) (st' := [.inl (1 : Int32), .inr (.inr l0)]) [(.aload_n 0, 1), (.iconst 1, 1)] (by decide +kernel) rfl ?_
  refine zV_cvj (As := [.inl (1 : Int32)]) (st := []) (c := 13) (by decide +kernel) (zcl_X12_no (by decide) (by decide)) ⟨zw_1677, zw_1679, zw_59⟩ ⟨⟨_, _, rfl⟩, by decide⟩ rfl rfl (Nat.le_of_ble_eq_true rfl) h (fun _ _ e => zc_X12_no e) (fun M4 v4 _ h => ?_)
  exact zend_j h hR (by decide +kernel)
set_option maxRecDepth 100000 in
theorem zt_X12_plan_L204 {X : Zx} {p0 : Option Nat} {p1 : Int32} {p2 : Int64} {p4 : Int32} {p6 : Int32} {p7 : Int32} {p8 : Int32} {x : Zm × Int32} {y : Zm × Int32} (h : zwhile (zf_X12_plan_L204 p0 p1 p2 p4 p6 p7 p8) x = some y) (hy : zK_X12_plan_L204 X p0 p1 p2 p4 p6 p7 p8 y) : zP_X12_plan_L204 X p0 p1 p2 p4 p6 p7 p8 x := by
  refine zwhile_ind (P := zP_X12_plan_L204 X p0 p1 p2 p4 p6 p7 p8) (K := zK_X12_plan_L204 X p0 p1 p2 p4 p6 p7 p8) ?_ h hy
  intro x z hf k1 k2
  obtain ⟨M, l11⟩ := x
  have h : zf_X12_plan_L204 p0 p1 p2 p4 p6 p7 p8 (M, l11) = some z := hf
  unfold zf_X12_plan_L204 at h
  show zV X zC_X12_plan M 204 [(0, .inr (.inr p0)), (1, .inl p1), (2, .inr (.inl p2)), (4, .inl p4), (6, .inl p6), (7, .inl p7), (8, .inl p8), (11, .inl l11)] []
  refine zV_b (pc' := 208) (lv' := [(0, .inr (.inr p0)), (1, .inl p1), (2, .inr (.inl p2)), (4, .inl p4), (6, .inl p6), (7, .inl p7), (8, .inl p8), (11, .inl l11)]) (st' := [.inl p6, .inl l11]) [(.iload 11, 2), (.iload 6, 2)] (by decide +kernel) rfl ?_
  refine zV_icmp_gt (off := 35) (tgt := 243) (by decide +kernel) (by decide) h (fun c37 h => ?_) (fun c37 h => ?_)
  · exact zV_lv (lv' := [(0, .inr (.inr p0)), (1, .inl p1), (2, .inr (.inl p2)), (4, .inl p4), (6, .inl p6), (7, .inl p7), (8, .inl p8)]) [0, 1, 2, 3, 4, 5, 6] rfl (k2 _ (Option.some.inj h).symm)
  · refine zV_b (pc' := 212) (lv' := [(0, .inr (.inr p0)), (1, .inl p1), (2, .inr (.inl p2)), (4, .inl p4), (6, .inl p6), (7, .inl p7), (8, .inl p8), (11, .inl l11)]) (st' := [.inr (.inr p0)]) [(.aload_n 0, 1)] (by decide +kernel) rfl ?_
    refine zV_gr (by decide +kernel) zfl_RX12_160 (by decide) rfl h (fun v38 _ h => ?_)
    refine zV_b (pc' := 233) (lv' := [(0, .inr (.inr p0)), (1, .inl p1), (2, .inr (.inl p2)), (4, .inl p4), (6, .inl p6), (7, .inl p7), (8, .inl p8), (11, .inl l11)]) (st' := [.inr (.inl ((l11.toInt64) * (p4.toInt64))), .inl p8, .inr (.inr p0), .inl (((13 : Int32) * p7) + l11), .inr (.inr v38)]) [(.bipush 13, 2), (.iload 7, 2), (.imul, 1), (.iload 11, 2), (.iadd, 1), (.aload_n 0, 1), (.iload 8, 2), (.iload 11, 2), (.i2l, 1), (.iload 4, 2), (.i2l, 1), (.lmul, 1)] (by decide +kernel) rfl ?_
    refine zV_cvj (As := [.inl p8, .inr (.inl ((l11.toInt64) * (p4.toInt64)))]) (st := [.inl (((13 : Int32) * p7) + l11), .inr (.inr v38)]) (c := 13) (by decide +kernel) (zcl_X12_dear (by decide) (by decide)) ⟨zw_1928, zw_1930, zw_95⟩ ⟨⟨_, _, rfl⟩, by decide⟩ rfl rfl (Nat.le_of_ble_eq_true rfl) h (fun _ _ e => zc_X12_dear e) (fun M39 v39 _ h => ?_)
    refine zV_sj (by decide +kernel) h (fun M40 _ h => ?_)
    refine zV_b (pc' := 240) (lv' := [(11, .inl (l11 + 1)), (0, .inr (.inr p0)), (1, .inl p1), (2, .inr (.inl p2)), (4, .inl p4), (6, .inl p6), (7, .inl p7), (8, .inl p8)]) (st' := []) [(.iinc 11 1, 3)] (by decide +kernel) rfl ?_
    refine zV_goto (off := (-36)) (tgt := 204) (by decide +kernel) (by decide) ?_
    exact zV_lv (lv' := [(0, .inr (.inr p0)), (1, .inl p1), (2, .inr (.inl p2)), (4, .inl p4), (6, .inl p6), (7, .inl p7), (8, .inl p8), (11, .inl (l11 + 1))]) [1, 2, 3, 4, 5, 6, 7, 0] rfl (k1 _ (Option.some.inj h).symm)
set_option maxRecDepth 100000 in
theorem zt_X12_plan_J282 {X : Zx} {M : Zm} {p0 : Option Nat} {p1 : Int32} {p2 : Int64} {p4 : Int32} {p6 : Int32} {p7 : Int32} {p8 : Int32} {l11 : Int32} {z : (Zm × Int32) ⊕ (Zm × Int32)} (h : zf_X12_plan_J282 M p0 p1 p2 p4 p6 p7 p8 l11 = some z) (k1 : ∀ x' : Zm × Int32, z = .inl x' → zP_X12_plan_L246 X p0 p1 p2 p4 p6 p7 p8 x') (k2 : ∀ y : Zm × Int32, z = .inr y → zK_X12_plan_L246 X p0 p1 p2 p4 p6 p7 p8 y) : zV X zC_X12_plan M 282 [(0, .inr (.inr p0)), (1, .inl p1), (2, .inr (.inl p2)), (4, .inl p4), (6, .inl p6), (7, .inl p7), (8, .inl p8), (11, .inl l11)] [] := by
  unfold zf_X12_plan_J282 at h
  refine zV_b (pc' := 284) (lv' := [(0, .inr (.inr p0)), (1, .inl p1), (2, .inr (.inl p2)), (4, .inl p4), (6, .inl p6), (7, .inl p7), (8, .inl p8), (11, .inl l11)]) (st' := [.inl (0 : Int32), .inr (.inr p0)]) [(.aload_n 0, 1), (.iconst 0, 1)] (by decide +kernel) rfl ?_
  refine zV_pi (by decide +kernel) zfp_RX12_254 (by decide) rfl h (fun M48 _ h => ?_)
  refine zV_b (pc' := 288) (lv' := [(0, .inr (.inr p0)), (1, .inl p1), (2, .inr (.inl p2)), (4, .inl p4), (6, .inl p6), (7, .inl p7), (8, .inl p8), (11, .inl l11)]) (st' := [.inr (.inr p0)]) [(.aload_n 0, 1)] (by decide +kernel) rfl ?_
  refine zV_cvv (As := []) (st := []) (c := 13) (by decide +kernel) (zcl_X12_mixDraws (by decide) (by decide)) ⟨zw_1771, zw_1773, zw_73⟩ ⟨⟨_, _, rfl⟩, by decide⟩ rfl rfl (Nat.le_of_ble_eq_true rfl) h (fun _ _ e => zc_X12_mixDraws e) (fun M49 _ _ h => ?_)
  refine zV_b (pc' := 293) (lv' := [(0, .inr (.inr p0)), (1, .inl p1), (2, .inr (.inl p2)), (4, .inl p4), (6, .inl p6), (7, .inl p7), (8, .inl p8), (11, .inl l11)]) (st' := [.inr (.inr p0), .inr (.inr p0)]) [(.aload_n 0, 1), (.aload_n 0, 1)] (by decide +kernel) rfl ?_
  refine zV_gr (by decide +kernel) zfl_RX12_157 (by decide) rfl h (fun v50 _ h => ?_)
  refine zV_b (pc' := 307) (lv' := [(0, .inr (.inr p0)), (1, .inl p1), (2, .inr (.inl p2)), (4, .inl p4), (6, .inl p6), (7, .inl p7), (8, .inl p8), (11, .inl l11)]) (st' := [.inl ((((13 : Int32) * p7) + l11) * (48 : Int32)), .inr (.inr v50), .inr (.inr p0)]) [(.bipush 13, 2), (.iload 7, 2), (.imul, 1), (.iload 11, 2), (.iadd, 1), (.bipush 48, 2), (.imul, 1)] (by decide +kernel) rfl ?_
  refine zV_cvv (As := [.inr (.inr v50), .inl ((((13 : Int32) * p7) + l11) * (48 : Int32))]) (st := []) (c := 13) (by decide +kernel) (zcl_X12_sharesOfMix (by decide) (by decide)) ⟨zw_1910, zw_1912, zw_92⟩ ⟨⟨_, _, rfl⟩, by decide⟩ rfl rfl (Nat.le_of_ble_eq_true rfl) h (fun _ _ e => zc_X12_sharesOfMix e) (fun M51 _ _ h => ?_)
  refine zV_b (pc' := 313) (lv' := [(11, .inl (l11 + 1)), (0, .inr (.inr p0)), (1, .inl p1), (2, .inr (.inl p2)), (4, .inl p4), (6, .inl p6), (7, .inl p7), (8, .inl p8)]) (st' := []) [(.iinc 11 1, 3)] (by decide +kernel) rfl ?_
  refine zV_goto (off := (-67)) (tgt := 246) (by decide +kernel) (by decide) ?_
  exact zV_lv (lv' := [(0, .inr (.inr p0)), (1, .inl p1), (2, .inr (.inl p2)), (4, .inl p4), (6, .inl p6), (7, .inl p7), (8, .inl p8), (11, .inl (l11 + 1))]) [1, 2, 3, 4, 5, 6, 7, 0] rfl (k1 _ (Option.some.inj h).symm)
set_option maxRecDepth 100000 in
theorem zt_X12_plan_L246 {X : Zx} {p0 : Option Nat} {p1 : Int32} {p2 : Int64} {p4 : Int32} {p6 : Int32} {p7 : Int32} {p8 : Int32} {x : Zm × Int32} {y : Zm × Int32} (h : zwhile (zf_X12_plan_L246 p0 p1 p2 p4 p6 p7 p8) x = some y) (hy : zK_X12_plan_L246 X p0 p1 p2 p4 p6 p7 p8 y) : zP_X12_plan_L246 X p0 p1 p2 p4 p6 p7 p8 x := by
  refine zwhile_ind (P := zP_X12_plan_L246 X p0 p1 p2 p4 p6 p7 p8) (K := zK_X12_plan_L246 X p0 p1 p2 p4 p6 p7 p8) ?_ h hy
  intro x z hf k1 k2
  obtain ⟨M, l11⟩ := x
  have h : zf_X12_plan_L246 p0 p1 p2 p4 p6 p7 p8 (M, l11) = some z := hf
  unfold zf_X12_plan_L246 at h
  show zV X zC_X12_plan M 246 [(0, .inr (.inr p0)), (1, .inl p1), (2, .inr (.inl p2)), (4, .inl p4), (6, .inl p6), (7, .inl p7), (8, .inl p8), (11, .inl l11)] []
  refine zV_b (pc' := 249) (lv' := [(0, .inr (.inr p0)), (1, .inl p1), (2, .inr (.inl p2)), (4, .inl p4), (6, .inl p6), (7, .inl p7), (8, .inl p8), (11, .inl l11)]) (st' := [.inr (.inr p0), .inl l11]) [(.iload 11, 2), (.aload_n 0, 1)] (by decide +kernel) rfl ?_
  refine zV_gr (by decide +kernel) zfl_RX12_163 (by decide) rfl h (fun v43 _ h => ?_)
  refine zV_b (pc' := 254) (lv' := [(0, .inr (.inr p0)), (1, .inl p1), (2, .inr (.inl p2)), (4, .inl p4), (6, .inl p6), (7, .inl p7), (8, .inl p8), (11, .inl l11)]) (st' := [.inl p7, .inr (.inr v43), .inl l11]) [(.iload 7, 2)] (by decide +kernel) rfl ?_
  refine zV_ai (by decide +kernel) h (fun v44 _ h => ?_)
  refine zV_icmp_gt (off := 61) (tgt := 316) (by decide +kernel) (by decide) h (fun c45 h => ?_) (fun c45 h => ?_)
  · exact zV_lv (lv' := [(0, .inr (.inr p0)), (1, .inl p1), (2, .inr (.inl p2)), (4, .inl p4), (6, .inl p6), (7, .inl p7)]) [0, 1, 2, 3, 4, 5] rfl (k2 _ (Option.some.inj h).symm)
  · refine zV_b (pc' := 260) (lv' := [(0, .inr (.inr p0)), (1, .inl p1), (2, .inr (.inl p2)), (4, .inl p4), (6, .inl p6), (7, .inl p7), (8, .inl p8), (11, .inl l11)]) (st' := [.inl (0 : Int32), .inr (.inr p0)]) [(.aload_n 0, 1), (.iconst 0, 1)] (by decide +kernel) rfl ?_
    refine zV_pi (by decide +kernel) zfp_RX12_247 (by decide) rfl h (fun M46 _ h => ?_)
    refine zV_b (pc' := 265) (lv' := [(0, .inr (.inr p0)), (1, .inl p1), (2, .inr (.inl p2)), (4, .inl p4), (6, .inl p6), (7, .inl p7), (8, .inl p8), (11, .inl l11)]) (st' := [.inl l11]) [(.iload 11, 2)] (by decide +kernel) rfl ?_
    refine zV_if_le (off := 17) (tgt := 282) (by decide +kernel) (by decide) h (fun c47 h => ?_) (fun c47 h => ?_)
    · exact zV_lv (lv' := [(0, .inr (.inr p0)), (1, .inl p1), (2, .inr (.inl p2)), (4, .inl p4), (6, .inl p6), (7, .inl p7), (8, .inl p8), (11, .inl l11)]) [0, 1, 2, 3, 4, 5, 6, 7] rfl (zt_X12_plan_J282 h k1 k2)
    · refine zV_b (pc' := 279) (lv' := [(0, .inr (.inr p0)), (1, .inl p1), (2, .inr (.inl p2)), (4, .inl p4), (6, .inl p6), (7, .inl p7), (8, .inl p8), (11, .inl l11)]) (st' := [.inl (0 : Int32), .inr (.inl ((l11.toInt64) * (p4.toInt64))), .inl p8, .inr (.inr p0)]) [(.aload_n 0, 1), (.iload 8, 2), (.iload 11, 2), (.i2l, 1), (.iload 4, 2), (.i2l, 1), (.lmul, 1), (.iconst 0, 1)] (by decide +kernel) rfl ?_
      refine zV_cvv (As := [.inl p8, .inr (.inl ((l11.toInt64) * (p4.toInt64))), .inl (0 : Int32)]) (st := []) (c := 13) (by decide +kernel) (zcl_X12_drawFrom (by decide) (by decide)) ⟨zw_1803, zw_1805, zw_80⟩ ⟨⟨_, _, rfl⟩, by decide⟩ rfl rfl (Nat.le_of_ble_eq_true rfl) h (fun _ _ e => zc_X12_drawFrom e) (fun M53 _ _ h => ?_)
      exact zV_lv (lv' := [(0, .inr (.inr p0)), (1, .inl p1), (2, .inr (.inl p2)), (4, .inl p4), (6, .inl p6), (7, .inl p7), (8, .inl p8), (11, .inl l11)]) [0, 1, 2, 3, 4, 5, 6, 7] rfl (zt_X12_plan_J282 h k1 k2)
set_option maxRecDepth 100000 in
theorem zt_X12_plan_J189 {X : Zx} {M : Zm} {p0 : Option Nat} {p1 : Int32} {p2 : Int64} {p4 : Int32} {p6 : Int32} {l7 : Int32} {l8 : Int32} {s0 : Int32} {s1 : Int32} {s2 : Option Nat} {z : (Zm × Int32) ⊕ (Zm × Int32)} (h : zf_X12_plan_J189 M p0 p1 p2 p4 p6 l7 l8 s0 s1 s2 = some z) (k1 : ∀ x' : Zm × Int32, z = .inl x' → zP_X12_plan_L136 X p0 p1 p2 p4 p6 x') (k2 : ∀ y : Zm × Int32, z = .inr y → zK_X12_plan_L136 X p0 p1 p2 p4 p6 y) : zV X zC_X12_plan M 189 [(0, .inr (.inr p0)), (1, .inl p1), (2, .inr (.inl p2)), (4, .inl p4), (6, .inl p6), (7, .inl l7), (8, .inl l8)] [.inl s0, .inl s1, .inr (.inr s2)] := by
  unfold zf_X12_plan_J189 at h
  refine zV_si (by decide +kernel) h (fun M34 _ h => ?_)
  refine zV_b (pc' := 191) (lv' := [(0, .inr (.inr p0)), (1, .inl p1), (2, .inr (.inl p2)), (4, .inl p4), (6, .inl p6), (7, .inl l7), (8, .inl l8)]) (st' := [.inr (.inr p0)]) [(.aload_n 0, 1)] (by decide +kernel) rfl ?_
  refine zV_gr (by decide +kernel) zfl_RX12_160 (by decide) rfl h (fun v35 _ h => ?_)
  refine zV_b (pc' := 200) (lv' := [(0, .inr (.inr p0)), (1, .inl p1), (2, .inr (.inl p2)), (4, .inl p4), (6, .inl p6), (7, .inl l7), (8, .inl l8)]) (st' := [.inr (.inl (0 : Int64)), .inl ((13 : Int32) * l7), .inr (.inr v35)]) [(.bipush 13, 2), (.iload 7, 2), (.imul, 1), (.lconst 0, 1)] (by decide +kernel) rfl ?_
  refine zV_sj (by decide +kernel) h (fun M36 _ h => ?_)
  refine zV_b (pc' := 204) (lv' := [(11, .inl (1 : Int32)), (0, .inr (.inr p0)), (1, .inl p1), (2, .inr (.inl p2)), (4, .inl p4), (6, .inl p6), (7, .inl l7), (8, .inl l8)]) (st' := []) [(.iconst 1, 1), (.istore 11, 2)] (by decide +kernel) rfl ?_
  obtain ⟨y42, e42, h⟩ := zb1_inv h
  refine zV_lv (lv' := [(0, .inr (.inr p0)), (1, .inl p1), (2, .inr (.inl p2)), (4, .inl p4), (6, .inl p6), (7, .inl l7), (8, .inl l8), (11, .inl (1 : Int32))]) [1, 2, 3, 4, 5, 6, 7, 0] rfl (zt_X12_plan_L204 e42 ?_)
  obtain ⟨M204_42, l11_42⟩ := y42
  show zV X zC_X12_plan M204_42 243 [(0, .inr (.inr p0)), (1, .inl p1), (2, .inr (.inl p2)), (4, .inl p4), (6, .inl p6), (7, .inl l7), (8, .inl l8)] []
  refine zV_b (pc' := 246) (lv' := [(11, .inl (0 : Int32)), (0, .inr (.inr p0)), (1, .inl p1), (2, .inr (.inl p2)), (4, .inl p4), (6, .inl p6), (7, .inl l7), (8, .inl l8)]) (st' := []) [(.iconst 0, 1), (.istore 11, 2)] (by decide +kernel) rfl ?_
  obtain ⟨y54, e54, h⟩ := zb1_inv h
  refine zV_lv (lv' := [(0, .inr (.inr p0)), (1, .inl p1), (2, .inr (.inl p2)), (4, .inl p4), (6, .inl p6), (7, .inl l7), (8, .inl l8), (11, .inl (0 : Int32))]) [1, 2, 3, 4, 5, 6, 7, 0] rfl (zt_X12_plan_L246 e54 ?_)
  obtain ⟨M246_54, l11_54⟩ := y54
  show zV X zC_X12_plan M246_54 316 [(0, .inr (.inr p0)), (1, .inl p1), (2, .inr (.inl p2)), (4, .inl p4), (6, .inl p6), (7, .inl l7)] []
  refine zV_b (pc' := 319) (lv' := [(7, .inl (l7 + 1)), (0, .inr (.inr p0)), (1, .inl p1), (2, .inr (.inl p2)), (4, .inl p4), (6, .inl p6)]) (st' := []) [(.iinc 7 1, 3)] (by decide +kernel) rfl ?_
  refine zV_goto (off := (-183)) (tgt := 136) (by decide +kernel) (by decide) ?_
  exact zV_lv (lv' := [(0, .inr (.inr p0)), (1, .inl p1), (2, .inr (.inl p2)), (4, .inl p4), (6, .inl p6), (7, .inl (l7 + 1))]) [1, 2, 3, 4, 5, 0] rfl (k1 _ (Option.some.inj h).symm)
set_option maxRecDepth 100000 in
theorem zt_X12_plan_L136 {X : Zx} {p0 : Option Nat} {p1 : Int32} {p2 : Int64} {p4 : Int32} {p6 : Int32} {x : Zm × Int32} {y : Zm × Int32} (h : zwhile (zf_X12_plan_L136 p0 p1 p2 p4 p6) x = some y) (hy : zK_X12_plan_L136 X p0 p1 p2 p4 p6 y) : zP_X12_plan_L136 X p0 p1 p2 p4 p6 x := by
  refine zwhile_ind (P := zP_X12_plan_L136 X p0 p1 p2 p4 p6) (K := zK_X12_plan_L136 X p0 p1 p2 p4 p6) ?_ h hy
  intro x z hf k1 k2
  obtain ⟨M, l7⟩ := x
  have h : zf_X12_plan_L136 p0 p1 p2 p4 p6 (M, l7) = some z := hf
  unfold zf_X12_plan_L136 at h
  show zV X zC_X12_plan M 136 [(0, .inr (.inr p0)), (1, .inl p1), (2, .inr (.inl p2)), (4, .inl p4), (6, .inl p6), (7, .inl l7)] []
  refine zV_b (pc' := 139) (lv' := [(0, .inr (.inr p0)), (1, .inl p1), (2, .inr (.inl p2)), (4, .inl p4), (6, .inl p6), (7, .inl l7)]) (st' := [.inr (.inr p0), .inl l7]) [(.iload 7, 2), (.aload_n 0, 1)] (by decide +kernel) rfl ?_
  refine zV_gi (by decide +kernel) zfl_RX12_334 (by decide) rfl (Or.inl rfl) h (fun v26 _ h => ?_)
  refine zV_icmp_ge (off := 180) (tgt := 322) (by decide +kernel) (by decide) h (fun c27 h => ?_) (fun c27 h => ?_)
  · exact zV_lv (lv' := [(0, .inr (.inr p0)), (1, .inl p1), (2, .inr (.inl p2)), (4, .inl p4), (6, .inl p6)]) [0, 1, 2, 3, 4] rfl (k2 _ (Option.some.inj h).symm)
  · refine zV_b (pc' := 146) (lv' := [(0, .inr (.inr p0)), (1, .inl p1), (2, .inr (.inl p2)), (4, .inl p4), (6, .inl p6), (7, .inl l7)]) (st' := [.inr (.inr p0)]) [(.aload_n 0, 1)] (by decide +kernel) rfl ?_
    refine zV_gr (by decide +kernel) zfl_RX12_90 (by decide) rfl h (fun v28 _ h => ?_)
    refine zV_b (pc' := 151) (lv' := [(0, .inr (.inr p0)), (1, .inl p1), (2, .inr (.inl p2)), (4, .inl p4), (6, .inl p6), (7, .inl l7)]) (st' := [.inl l7, .inr (.inr v28)]) [(.iload 7, 2)] (by decide +kernel) rfl ?_
    refine zV_ai (by decide +kernel) h (fun v29 _ h => ?_)
    refine zV_b (pc' := 157) (lv' := [(8, .inl v29), (0, .inr (.inr p0)), (1, .inl p1), (2, .inr (.inl p2)), (4, .inl p4), (6, .inl p6), (7, .inl l7)]) (st' := [.inl v29, .inr (.inr p0)]) [(.istore 8, 2), (.aload_n 0, 1), (.iload 8, 2)] (by decide +kernel) rfl ?_
    refine zV_cvj (As := [.inl v29]) (st := []) (c := 13) (by decide +kernel) (zcl_X12_spare (by decide) (by decide)) ⟨zw_1795, zw_1797, zw_78⟩ ⟨⟨_, _, rfl⟩, by decide⟩ rfl rfl (Nat.le_of_ble_eq_true rfl) h (fun _ _ e => zc_X12_spare e) (fun M30 v30 _ h => ?_)
    refine zV_b (pc' := 163) (lv' := [(8, .inl v29), (0, .inr (.inr p0)), (1, .inl p1), (2, .inr (.inl p2)), (4, .inl p4), (6, .inl p6), (7, .inl l7)]) (st' := [.inr (.inl (p4.toInt64)), .inr (.inl v30)]) [(.iload 4, 2), (.i2l, 1)] (by decide +kernel) rfl ?_
    refine zV_ld (by decide +kernel) h (fun v31 _ h => ?_)
    refine zV_b (pc' := 167) (lv' := [(9, .inr (.inl v31)), (8, .inl v29), (0, .inr (.inr p0)), (1, .inl p1), (2, .inr (.inl p2)), (4, .inl p4), (6, .inl p6), (7, .inl l7)]) (st' := [.inr (.inr p0)]) [(.lstore 9, 2), (.aload_n 0, 1)] (by decide +kernel) rfl ?_
    refine zV_gr (by decide +kernel) zfl_RX12_163 (by decide) rfl h (fun v32 _ h => ?_)
    refine zV_b (pc' := 177) (lv' := [(9, .inr (.inl v31)), (8, .inl v29), (0, .inr (.inr p0)), (1, .inl p1), (2, .inr (.inl p2)), (4, .inl p4), (6, .inl p6), (7, .inl l7)]) (st' := [.inr (.inl (p6.toInt64)), .inr (.inl v31), .inl l7, .inr (.inr v32)]) [(.iload 7, 2), (.lload 9, 2), (.iload 6, 2), (.i2l, 1)] (by decide +kernel) rfl ?_
    refine zV_lcmp_ge (off := 9) (tgt := 187) (by decide +kernel) (by decide +kernel) (by decide) h (fun c33 h => ?_) (fun c33 h => ?_)
    · refine zV_b (pc' := 189) (lv' := [(9, .inr (.inl v31)), (8, .inl v29), (0, .inr (.inr p0)), (1, .inl p1), (2, .inr (.inl p2)), (4, .inl p4), (6, .inl p6), (7, .inl l7)]) (st' := [.inl p6, .inl l7, .inr (.inr v32)]) [(.iload 6, 2)] (by decide +kernel) rfl ?_
      exact zV_lv (lv' := [(0, .inr (.inr p0)), (1, .inl p1), (2, .inr (.inl p2)), (4, .inl p4), (6, .inl p6), (7, .inl l7), (8, .inl v29)]) [2, 3, 4, 5, 6, 7, 1] rfl (zt_X12_plan_J189 h k1 k2)
    · refine zV_b (pc' := 184) (lv' := [(9, .inr (.inl v31)), (8, .inl v29), (0, .inr (.inr p0)), (1, .inl p1), (2, .inr (.inl p2)), (4, .inl p4), (6, .inl p6), (7, .inl l7)]) (st' := [.inl (v31.toInt32), .inl l7, .inr (.inr v32)]) [(.lload 9, 2), (.l2i, 1)] (by decide +kernel) rfl ?_
      refine zV_goto (off := 5) (tgt := 189) (by decide +kernel) (by decide) ?_
      exact zV_lv (lv' := [(0, .inr (.inr p0)), (1, .inl p1), (2, .inr (.inl p2)), (4, .inl p4), (6, .inl p6), (7, .inl l7), (8, .inl v29)]) [2, 3, 4, 5, 6, 7, 1] rfl (zt_X12_plan_J189 h k1 k2)
set_option maxRecDepth 100000 in
theorem zt_X12_plan_L370 {X : Zx} {p0 : Option Nat} {p4 : Int32} {x : Zm × Int32} {y : Zm × Int32} (h : zwhile (zf_X12_plan_L370 p0 p4) x = some y) (hy : zK_X12_plan_L370 X p0 p4 y) : zP_X12_plan_L370 X p0 p4 x := by
  refine zwhile_ind (P := zP_X12_plan_L370 X p0 p4) (K := zK_X12_plan_L370 X p0 p4) ?_ h hy
  intro x z hf k1 k2
  obtain ⟨M, l7⟩ := x
  have h : zf_X12_plan_L370 p0 p4 (M, l7) = some z := hf
  unfold zf_X12_plan_L370 at h
  show zV X zC_X12_plan M 370 [(0, .inr (.inr p0)), (4, .inl p4), (7, .inl l7)] []
  refine zV_b (pc' := 373) (lv' := [(0, .inr (.inr p0)), (4, .inl p4), (7, .inl l7)]) (st' := [.inr (.inr p0), .inl l7]) [(.iload 7, 2), (.aload_n 0, 1)] (by decide +kernel) rfl ?_
  refine zV_gi (by decide +kernel) zfl_RX12_334 (by decide) rfl (Or.inl rfl) h (fun v66 _ h => ?_)
  refine zV_icmp_ge (off := 28) (tgt := 404) (by decide +kernel) (by decide) h (fun c67 h => ?_) (fun c67 h => ?_)
  · exact zV_lv (lv' := [(0, .inr (.inr p0))]) [0] rfl (k2 _ (Option.some.inj h).symm)
  · refine zV_b (pc' := 380) (lv' := [(0, .inr (.inr p0)), (4, .inl p4), (7, .inl l7)]) (st' := [.inr (.inr p0)]) [(.aload_n 0, 1)] (by decide +kernel) rfl ?_
    refine zV_gr (by decide +kernel) zfl_RX12_96 (by decide) rfl h (fun v68 _ h => ?_)
    refine zV_b (pc' := 386) (lv' := [(0, .inr (.inr p0)), (4, .inl p4), (7, .inl l7)]) (st' := [.inr (.inr p0), .inl l7, .inr (.inr v68)]) [(.iload 7, 2), (.aload_n 0, 1)] (by decide +kernel) rfl ?_
    refine zV_gr (by decide +kernel) zfl_RX12_169 (by decide) rfl h (fun v69 _ h => ?_)
    refine zV_b (pc' := 391) (lv' := [(0, .inr (.inr p0)), (4, .inl p4), (7, .inl l7)]) (st' := [.inl l7, .inr (.inr v69), .inl l7, .inr (.inr v68)]) [(.iload 7, 2)] (by decide +kernel) rfl ?_
    refine zV_ai (by decide +kernel) h (fun v70 _ h => ?_)
    refine zV_b (pc' := 397) (lv' := [(0, .inr (.inr p0)), (4, .inl p4), (7, .inl l7)]) (st' := [.inr (.inl ((v70.toInt64) * (p4.toInt64))), .inl l7, .inr (.inr v68)]) [(.i2l, 1), (.iload 4, 2), (.i2l, 1), (.lmul, 1)] (by decide +kernel) rfl ?_
    refine zV_sj (by decide +kernel) h (fun M71 _ h => ?_)
    refine zV_b (pc' := 401) (lv' := [(7, .inl (l7 + 1)), (0, .inr (.inr p0)), (4, .inl p4)]) (st' := []) [(.iinc 7 1, 3)] (by decide +kernel) rfl ?_
    refine zV_goto (off := (-31)) (tgt := 370) (by decide +kernel) (by decide) ?_
    exact zV_lv (lv' := [(0, .inr (.inr p0)), (4, .inl p4), (7, .inl (l7 + 1))]) [1, 2, 0] rfl (k1 _ (Option.some.inj h).symm)
set_option maxRecDepth 100000 in
theorem zt_X12_plan_J56 {X : Zx} {M : Zm} {l0 : Option Nat} {z : Zm × Int64} (h : zf_X12_plan_J56 M l0 = some z) (hR : zRj X zC_X12_plan z.1 z.2) : zV X zC_X12_plan M 56 [(0, .inr (.inr l0))] [] := by
  unfold zf_X12_plan_J56 at h
  refine zV_b (pc' := 58) (lv' := [(0, .inr (.inr l0))]) (st' := [.inl (1 : Int32), .inr (.inr l0)]) [(.aload_n 0, 1), (.iconst 1, 1)] (by decide +kernel) rfl ?_
  refine zV_cvj (As := [.inl (1 : Int32)]) (st := []) (c := 13) (by decide +kernel) (zcl_X12_no (by decide) (by decide)) ⟨zw_1677, zw_1679, zw_59⟩ ⟨⟨_, _, rfl⟩, by decide⟩ rfl rfl (Nat.le_of_ble_eq_true rfl) h (fun _ _ e => zc_X12_no e) (fun M84 v84 _ h => ?_)
  exact zend_j h hR (by decide +kernel)
set_option maxRecDepth 100000 in
theorem zt_X12_plan {X : Zx} {M : Zm} {l0 : Option Nat} {l1 : Int32} {l2 : Int64} {l4 : Int32} {z : Zm × Int64} (h : zf_X12_plan M l0 l1 l2 l4 = some z) (hR : zRj X zC_X12_plan z.1 z.2) : zV X zC_X12_plan M 0 [(0, .inr (.inr l0)), (1, .inl l1), (2, .inr (.inl l2)), (4, .inl l4)] [] := by
  unfold zf_X12_plan at h
  refine zV_b (pc' := 1) (lv' := [(0, .inr (.inr l0)), (1, .inl l1), (2, .inr (.inl l2)), (4, .inl l4)]) (st' := [.inr (.inr l0)]) [(.aload_n 0, 1)] (by decide +kernel) rfl ?_
  refine zV_cvv (As := []) (st := []) (c := 13) (by decide +kernel) (zcl_X12_begin (by decide) (by decide)) ⟨zw_1673, zw_1675, zw_58⟩ ⟨⟨_, _, rfl⟩, by decide⟩ rfl rfl (Nat.le_of_ble_eq_true rfl) h (fun _ _ e => zc_X12_begin e) (fun M1 _ _ h => ?_)
  refine zV_b (pc' := 6) (lv' := [(0, .inr (.inr l0)), (1, .inl l1), (2, .inr (.inl l2)), (4, .inl l4)]) (st' := [.inr (.inl l2), .inr (.inr l0)]) [(.aload_n 0, 1), (.lload_n 2, 1)] (by decide +kernel) rfl ?_
  refine zV_cvi (As := [.inr (.inl l2)]) (st := []) (c := 13) (by decide +kernel) (zcl_X12_isAmount (by decide) (by decide)) ⟨zw_1734, zw_1736, zw_65⟩ ⟨⟨_, _, rfl⟩, by decide⟩ rfl rfl (Nat.le_of_ble_eq_true rfl) h (fun _ _ e => zc_X12_isAmount e) (fun M2 v2 _ h => ?_)
  refine zV_if_eq (off := 8) (tgt := 17) (by decide +kernel) (by decide) h (fun c3 h => ?_) (fun c3 h => ?_)
  · exact zV_lv (lv' := [(0, .inr (.inr l0))]) [0] rfl (zt_X12_plan_J17 h hR)
  · refine zV_b (pc' := 14) (lv' := [(0, .inr (.inr l0)), (1, .inl l1), (2, .inr (.inl l2)), (4, .inl l4)]) (st' := [.inl l4]) [(.iload 4, 2)] (by decide +kernel) rfl ?_
    refine zV_if_ge (off := 9) (tgt := 23) (by decide +kernel) (by decide) h (fun c6 h => ?_) (fun c6 h => ?_)
    · refine zV_b (pc' := 25) (lv' := [(0, .inr (.inr l0)), (1, .inl l1), (2, .inr (.inl l2)), (4, .inl l4)]) (st' := [.inl l4]) [(.iload 4, 2)] (by decide +kernel) rfl ?_
      refine zV_if_ne (off := 9) (tgt := 34) (by decide +kernel) (by decide) h (fun c7 h => ?_) (fun c7 h => ?_)
      · refine zV_b (pc' := 30) (lv' := [(0, .inr (.inr l0)), (1, .inl l1), (2, .inr (.inl l2)), (4, .inl l4)]) (st' := [.inl (5 : Int32), .inr (.inr l0)]) [(.aload_n 0, 1), (.iconst 5, 1)] (by decide +kernel) rfl ?_
        refine zV_cvj (As := [.inl (5 : Int32)]) (st := []) (c := 13) (by decide +kernel) (zcl_X12_no (by decide) (by decide)) ⟨zw_1677, zw_1679, zw_59⟩ ⟨⟨_, _, rfl⟩, by decide⟩ rfl rfl (Nat.le_of_ble_eq_true rfl) h (fun _ _ e => zc_X12_no e) (fun M8 v8 _ h => ?_)
        exact zend_j h hR (by decide +kernel)
      · refine zV_b (pc' := 38) (lv' := [(0, .inr (.inr l0)), (1, .inl l1), (2, .inr (.inl l2)), (4, .inl l4)]) (st' := [.inr (.inl (l4.toInt64)), .inr (.inl l2)]) [(.lload_n 2, 1), (.iload 4, 2), (.i2l, 1)] (by decide +kernel) rfl ?_
        refine zV_lm (by decide +kernel) h (fun v10 _ h => ?_)
        refine zV_b (pc' := 40) (lv' := [(0, .inr (.inr l0)), (1, .inl l1), (2, .inr (.inl l2)), (4, .inl l4)]) (st' := [.inr (.inl (0 : Int64)), .inr (.inl v10)]) [(.lconst 0, 1)] (by decide +kernel) rfl ?_
        refine zV_lcmp_ne (off := 15) (tgt := 56) (by decide +kernel) (by decide +kernel) (by decide) h (fun c11 h => ?_) (fun c11 h => ?_)
        · refine zV_b (pc' := 48) (lv' := [(0, .inr (.inr l0)), (1, .inl l1), (2, .inr (.inl l2)), (4, .inl l4)]) (st' := [.inr (.inl (l4.toInt64)), .inr (.inl l2)]) [(.lload_n 2, 1), (.iload 4, 2), (.i2l, 1)] (by decide +kernel) rfl ?_
          refine zV_ld (by decide +kernel) h (fun v12 _ h => ?_)
          refine zV_ldc2 (by decide +kernel) zw_1927 ?_
          refine zV_lcmp_le (off := 9) (tgt := 62) (by decide +kernel) (by decide +kernel) (by decide) h (fun c14 h => ?_) (fun c14 h => ?_)
          · refine zV_b (pc' := 64) (lv' := [(0, .inr (.inr l0)), (1, .inl l1), (2, .inr (.inl l2)), (4, .inl l4)]) (st' := [.inl l1, .inr (.inr l0)]) [(.aload_n 0, 1), (.iload_n 1, 1)] (by decide +kernel) rfl ?_
            refine zV_cvi (As := [.inl l1]) (st := []) (c := 13) (by decide +kernel) (zcl_X12_lookedLabel (by decide) (by decide)) ⟨zw_1898, zw_1900, zw_90⟩ ⟨⟨_, _, rfl⟩, by decide⟩ rfl rfl (Nat.le_of_ble_eq_true rfl) h (fun _ _ e => zc_X12_lookedLabel e) (fun M15 v15 _ h => ?_)
            refine zV_b (pc' := 71) (lv' := [(5, .inl v15), (0, .inr (.inr l0)), (1, .inl l1), (2, .inr (.inl l2)), (4, .inl l4)]) (st' := [.inl v15]) [(.istore 5, 2), (.iload 5, 2)] (by decide +kernel) rfl ?_
            refine zV_if_le (off := 10) (tgt := 81) (by decide +kernel) (by decide) h (fun c16 h => ?_) (fun c16 h => ?_)
            · refine zV_b (pc' := 82) (lv' := [(5, .inl v15), (0, .inr (.inr l0)), (1, .inl l1), (2, .inr (.inl l2)), (4, .inl l4)]) (st' := [.inr (.inr l0)]) [(.aload_n 0, 1)] (by decide +kernel) rfl ?_
              refine zV_gi (by decide +kernel) zfl_RX12_334 (by decide) rfl (Or.inl rfl) h (fun v17 _ h => ?_)
              refine zV_if_ne (off := 10) (tgt := 95) (by decide +kernel) (by decide) h (fun c18 h => ?_) (fun c18 h => ?_)
              · refine zV_b (pc' := 91) (lv' := [(5, .inl v15), (0, .inr (.inr l0)), (1, .inl l1), (2, .inr (.inl l2)), (4, .inl l4)]) (st' := [.inl (10 : Int32), .inr (.inr l0)]) [(.aload_n 0, 1), (.bipush 10, 2)] (by decide +kernel) rfl ?_
                refine zV_cvj (As := [.inl (10 : Int32)]) (st := []) (c := 13) (by decide +kernel) (zcl_X12_no (by decide) (by decide)) ⟨zw_1677, zw_1679, zw_59⟩ ⟨⟨_, _, rfl⟩, by decide⟩ rfl rfl (Nat.le_of_ble_eq_true rfl) h (fun _ _ e => zc_X12_no e) (fun M19 v19 _ h => ?_)
                exact zend_j h hR (by decide +kernel)
              · refine zV_b (pc' := 96) (lv' := [(5, .inl v15), (0, .inr (.inr l0)), (1, .inl l1), (2, .inr (.inl l2)), (4, .inl l4)]) (st' := [.inr (.inr l0)]) [(.aload_n 0, 1)] (by decide +kernel) rfl ?_
                refine zV_gi (by decide +kernel) zfl_RX12_334 (by decide) rfl (Or.inl rfl) h (fun v21 _ h => ?_)
                refine zV_b (pc' := 101) (lv' := [(5, .inl v15), (0, .inr (.inr l0)), (1, .inl l1), (2, .inr (.inl l2)), (4, .inl l4)]) (st' := [.inl (6 : Int32), .inl v21]) [(.bipush 6, 2)] (by decide +kernel) rfl ?_
                refine zV_icmp_le (off := 10) (tgt := 111) (by decide +kernel) (by decide) h (fun c22 h => ?_) (fun c22 h => ?_)
                · refine zV_b (pc' := 112) (lv' := [(5, .inl v15), (0, .inr (.inr l0)), (1, .inl l1), (2, .inr (.inl l2)), (4, .inl l4)]) (st' := [.inr (.inr l0)]) [(.aload_n 0, 1)] (by decide +kernel) rfl ?_
                  refine zV_cvi (As := []) (st := []) (c := 13) (by decide +kernel) (zcl_X12_isOneInCask (by decide) (by decide)) ⟨zw_1839, zw_1841, zw_85⟩ ⟨⟨_, _, rfl⟩, by decide⟩ rfl rfl (Nat.le_of_ble_eq_true rfl) h (fun _ _ e => zc_X12_isOneInCask e) (fun M23 v23 _ h => ?_)
                  refine zV_if_eq (off := 10) (tgt := 125) (by decide +kernel) (by decide) h (fun c24 h => ?_) (fun c24 h => ?_)
                  · refine zV_b (pc' := 129) (lv' := [(5, .inl v15), (0, .inr (.inr l0)), (1, .inl l1), (2, .inr (.inl l2)), (4, .inl l4)]) (st' := [.inr (.inl (l4.toInt64)), .inr (.inl l2)]) [(.lload_n 2, 1), (.iload 4, 2), (.i2l, 1)] (by decide +kernel) rfl ?_
                    refine zV_ld (by decide +kernel) h (fun v25 _ h => ?_)
                    refine zV_b (pc' := 136) (lv' := [(7, .inl (0 : Int32)), (6, .inl (v25.toInt32)), (5, .inl v15), (0, .inr (.inr l0)), (1, .inl l1), (2, .inr (.inl l2)), (4, .inl l4)]) (st' := []) [(.l2i, 1), (.istore 6, 2), (.iconst 0, 1), (.istore 7, 2)] (by decide +kernel) rfl ?_
                    obtain ⟨y57, e57, h⟩ := zb1_inv h
                    refine zV_lv (lv' := [(0, .inr (.inr l0)), (1, .inl l1), (2, .inr (.inl l2)), (4, .inl l4), (6, .inl (v25.toInt32)), (7, .inl (0 : Int32))]) [3, 4, 5, 6, 1, 0] rfl (zt_X12_plan_L136 e57 ?_)
                    obtain ⟨M136_57, l7_57⟩ := y57
                    show zV X zC_X12_plan M136_57 322 [(0, .inr (.inr l0)), (1, .inl l1), (2, .inr (.inl l2)), (4, .inl l4), (6, .inl (v25.toInt32))] []
                    refine zV_b (pc' := 324) (lv' := [(0, .inr (.inr l0)), (1, .inl l1), (2, .inr (.inl l2)), (4, .inl l4), (6, .inl (v25.toInt32))]) (st' := [.inr (.inl l2), .inr (.inr l0)]) [(.aload_n 0, 1), (.lload_n 2, 1)] (by decide +kernel) rfl ?_
                    refine zV_pj (by decide +kernel) zfp_RX12_367 (by decide) rfl h (fun M58 _ h => ?_)
                    refine zV_b (pc' := 328) (lv' := [(0, .inr (.inr l0)), (1, .inl l1), (2, .inr (.inl l2)), (4, .inl l4), (6, .inl (v25.toInt32))]) (st' := [.inr (.inr l0)]) [(.aload_n 0, 1)] (by decide +kernel) rfl ?_
                    refine zV_ldc2 (by decide +kernel) zw_1933 ?_
                    refine zV_pj (by decide +kernel) zfp_RX12_386 (by decide) rfl h (fun M60 _ h => ?_)
                    refine zV_b (pc' := 340) (lv' := [(0, .inr (.inr l0)), (1, .inl l1), (2, .inr (.inl l2)), (4, .inl l4), (6, .inl (v25.toInt32))]) (st' := [.inr (.inl (0 : Int64)), .inl (v25.toInt32), .inl (0 : Int32), .inl l1, .inr (.inr l0)]) [(.aload_n 0, 1), (.iload_n 1, 1), (.iconst 0, 1), (.iload 6, 2), (.lconst 0, 1)] (by decide +kernel) rfl ?_
                    refine zV_cvv (As := [.inl l1, .inl (0 : Int32), .inl (v25.toInt32), .inr (.inl (0 : Int64))]) (st := []) (c := 13) (by decide +kernel) (zcl_X12_search (by decide) (by decide)) ⟨zw_1934, zw_1936, zw_96⟩ ⟨⟨_, _, rfl⟩, by decide⟩ rfl rfl (Nat.le_of_ble_eq_true rfl) h (fun _ _ e => zc_X12_search e) (fun M61 _ _ h => ?_)
                    refine zV_b (pc' := 344) (lv' := [(0, .inr (.inr l0)), (1, .inl l1), (2, .inr (.inl l2)), (4, .inl l4), (6, .inl (v25.toInt32))]) (st' := [.inr (.inr l0)]) [(.aload_n 0, 1)] (by decide +kernel) rfl ?_
                    refine zV_gj (by decide +kernel) zfl_RX12_386 (by decide) rfl h (fun v62 _ h => ?_)
                    refine zV_b (pc' := 348) (lv' := [(0, .inr (.inr l0)), (1, .inl l1), (2, .inr (.inl l2)), (4, .inl l4), (6, .inl (v25.toInt32))]) (st' := [.inr (.inl (0 : Int64)), .inr (.inl v62)]) [(.lconst 0, 1)] (by decide +kernel) rfl ?_
                    refine zV_lcmp_ge (off := 10) (tgt := 359) (by decide +kernel) (by decide +kernel) (by decide) h (fun c63 h => ?_) (fun c63 h => ?_)
                    · refine zV_b (pc' := 361) (lv' := [(0, .inr (.inr l0)), (1, .inl l1), (2, .inr (.inl l2)), (4, .inl l4), (6, .inl (v25.toInt32))]) (st' := [.inr (.inr l0), .inr (.inr l0)]) [(.aload_n 0, 1), (.aload_n 0, 1)] (by decide +kernel) rfl ?_
                      refine zV_gi (by decide +kernel) zfl_RX12_334 (by decide) rfl (Or.inl rfl) h (fun v64 _ h => ?_)
                      refine zV_pi (by decide +kernel) zfp_RX12_400 (by decide) rfl h (fun M65 _ h => ?_)
                      refine zV_b (pc' := 370) (lv' := [(7, .inl (0 : Int32)), (0, .inr (.inr l0)), (1, .inl l1), (2, .inr (.inl l2)), (4, .inl l4), (6, .inl (v25.toInt32))]) (st' := []) [(.iconst 0, 1), (.istore 7, 2)] (by decide +kernel) rfl ?_
                      obtain ⟨y73, e73, h⟩ := zb1_inv h
                      refine zV_lv (lv' := [(0, .inr (.inr l0)), (4, .inl l4), (7, .inl (0 : Int32))]) [1, 4, 0] rfl (zt_X12_plan_L370 e73 ?_)
                      obtain ⟨M370_73, l7_73⟩ := y73
                      show zV X zC_X12_plan M370_73 404 [(0, .inr (.inr l0))] []
                      refine zV_b (pc' := 405) (lv' := [(0, .inr (.inr l0))]) (st' := [.inr (.inr l0)]) [(.aload_n 0, 1)] (by decide +kernel) rfl ?_
                      refine zV_gj (by decide +kernel) zfl_RX12_386 (by decide) rfl h (fun v74 _ h => ?_)
                      exact zend_j h hR (by decide +kernel)
                    · refine zV_b (pc' := 355) (lv' := [(0, .inr (.inr l0)), (1, .inl l1), (2, .inr (.inl l2)), (4, .inl l4), (6, .inl (v25.toInt32))]) (st' := [.inl (14 : Int32), .inr (.inr l0)]) [(.aload_n 0, 1), (.bipush 14, 2)] (by decide +kernel) rfl ?_
                      refine zV_cvj (As := [.inl (14 : Int32)]) (st := []) (c := 13) (by decide +kernel) (zcl_X12_no (by decide) (by decide)) ⟨zw_1677, zw_1679, zw_59⟩ ⟨⟨_, _, rfl⟩, by decide⟩ rfl rfl (Nat.le_of_ble_eq_true rfl) h (fun _ _ e => zc_X12_no e) (fun M76 v76 _ h => ?_)
                      exact zend_j h hR (by decide +kernel)
                  · refine zV_b (pc' := 121) (lv' := [(5, .inl v15), (0, .inr (.inr l0)), (1, .inl l1), (2, .inr (.inl l2)), (4, .inl l4)]) (st' := [.inl (9 : Int32), .inr (.inr l0)]) [(.aload_n 0, 1), (.bipush 9, 2)] (by decide +kernel) rfl ?_
                    refine zV_cvj (As := [.inl (9 : Int32)]) (st := []) (c := 13) (by decide +kernel) (zcl_X12_no (by decide) (by decide)) ⟨zw_1677, zw_1679, zw_59⟩ ⟨⟨_, _, rfl⟩, by decide⟩ rfl rfl (Nat.le_of_ble_eq_true rfl) h (fun _ _ e => zc_X12_no e) (fun M78 v78 _ h => ?_)
                    exact zend_j h hR (by decide +kernel)
                · refine zV_b (pc' := 107) (lv' := [(5, .inl v15), (0, .inr (.inr l0)), (1, .inl l1), (2, .inr (.inl l2)), (4, .inl l4)]) (st' := [.inl (12 : Int32), .inr (.inr l0)]) [(.aload_n 0, 1), (.bipush 12, 2)] (by decide +kernel) rfl ?_
                  refine zV_cvj (As := [.inl (12 : Int32)]) (st := []) (c := 13) (by decide +kernel) (zcl_X12_no (by decide) (by decide)) ⟨zw_1677, zw_1679, zw_59⟩ ⟨⟨_, _, rfl⟩, by decide⟩ rfl rfl (Nat.le_of_ble_eq_true rfl) h (fun _ _ e => zc_X12_no e) (fun M80 v80 _ h => ?_)
                  exact zend_j h hR (by decide +kernel)
            · refine zV_b (pc' := 77) (lv' := [(5, .inl v15), (0, .inr (.inr l0)), (1, .inl l1), (2, .inr (.inl l2)), (4, .inl l4)]) (st' := [.inl v15, .inr (.inr l0)]) [(.aload_n 0, 1), (.iload 5, 2)] (by decide +kernel) rfl ?_
              refine zV_cvj (As := [.inl v15]) (st := []) (c := 13) (by decide +kernel) (zcl_X12_no (by decide) (by decide)) ⟨zw_1677, zw_1679, zw_59⟩ ⟨⟨_, _, rfl⟩, by decide⟩ rfl rfl (Nat.le_of_ble_eq_true rfl) h (fun _ _ e => zc_X12_no e) (fun M82 v82 _ h => ?_)
              exact zend_j h hR (by decide +kernel)
          · exact zV_lv (lv' := [(0, .inr (.inr l0))]) [0] rfl (zt_X12_plan_J56 h hR)
        · exact zV_lv (lv' := [(0, .inr (.inr l0))]) [0] rfl (zt_X12_plan_J56 h hR)
    · exact zV_lv (lv' := [(0, .inr (.inr l0))]) [0] rfl (zt_X12_plan_J17 h hR)
theorem zc_X12_plan {M M' : Zm} {l0 : Option Nat} {l1 : Int32} {l2 : Int64} {l4 : Int32} {x : Int64} (h : zf_X12_plan M l0 l1 l2 l4 = some (M', x)) (l : Launch) (D : va_G) (cy : Nat → ClassId) : zMet l yX12_plan zC_X12_plan (some .long) D cy [.inr (.inr l0), .inl l1, .inr (.inl l2), .inl l4] M M' (some (.inr (.inl x))) :=
  zM_j (by decide) rfl (fun h => by cases h) (Nat.le_of_ble_eq_true rfl) (fun X hR => zt_X12_plan h hR)
-- BlendCellarModel.planned(I)J
def zC_X12_planned : Zc := (cX12_planned, 2, RX12, 0, 0, false)
theorem zcl_X12_planned {C : Zc} (h1 : zC_X12_planned.2.2.2.1 + 1 ≤ C.2.2.2.1) (h2 : 8 + (zC_X12_planned.2.1 + 11) + zC_X12_planned.2.2.2.2.1 ≤ C.2.2.2.2.1) : zCl C yX12_planned zC_X12_planned (some .long) 1 := ⟨zw_2037, zw_114, ⟨by decide, by decide⟩, by decide +kernel, h1, h2⟩
noncomputable def zf_X12_planned_J12 (M : Zm)  : Option (Zm × Int64) :=
  some (M, (0 : Int64))
noncomputable def zf_X12_planned (M : Zm) (l0 : Option Nat) (l1 : Int32) : Option (Zm × Int64) :=
  (if l1 < 0 then
  zf_X12_planned_J12 M
  else
  zb1 (zo_gi M l0 13 36) (fun v4 =>
  (if l1 < v4 then
  zb1 (zo_gr M l0 13 37) (fun v6 =>
  zb1 (zo_aj M v6 l1) (fun v7 =>
  some (M, v7)))
  else
  zf_X12_planned_J12 M)))
set_option maxRecDepth 100000 in
theorem zt_X12_planned_J12 {X : Zx} {M : Zm}  {z : Zm × Int64} (h : zf_X12_planned_J12 M  = some z) (hR : zRj X zC_X12_planned z.1 z.2) : zV X zC_X12_planned M 12 [] [] := by
  unfold zf_X12_planned_J12 at h
  refine zV_b (pc' := 13) (lv' := []) (st' := [.inr (.inl (0 : Int64))]) [(.lconst 0, 1)] (by decide +kernel) rfl ?_
  refine zV_goto (off := 9) (tgt := 22) (by decide +kernel) (by decide) ?_
  exact zend_j h hR (by decide +kernel)
set_option maxRecDepth 100000 in
theorem zt_X12_planned {X : Zx} {M : Zm} {l0 : Option Nat} {l1 : Int32} {z : Zm × Int64} (h : zf_X12_planned M l0 l1 = some z) (hR : zRj X zC_X12_planned z.1 z.2) : zV X zC_X12_planned M 0 [(0, .inr (.inr l0)), (1, .inl l1)] [] := by
  unfold zf_X12_planned at h
  refine zV_b (pc' := 1) (lv' := [(0, .inr (.inr l0)), (1, .inl l1)]) (st' := [.inl l1]) [(.iload_n 1, 1)] (by decide +kernel) rfl ?_
  refine zV_if_lt (off := 11) (tgt := 12) (by decide +kernel) (by decide) h (fun c1 h => ?_) (fun c1 h => ?_)
  · exact zV_lv (lv' := []) [] rfl (zt_X12_planned_J12 h hR)
  · refine zV_b (pc' := 6) (lv' := [(0, .inr (.inr l0)), (1, .inl l1)]) (st' := [.inr (.inr l0), .inl l1]) [(.iload_n 1, 1), (.aload_n 0, 1)] (by decide +kernel) rfl ?_
    refine zV_gi (by decide +kernel) zfl_RX12_400 (by decide) rfl (Or.inl rfl) h (fun v4 _ h => ?_)
    refine zV_icmp_lt (off := 7) (tgt := 16) (by decide +kernel) (by decide) h (fun c5 h => ?_) (fun c5 h => ?_)
    · refine zV_b (pc' := 17) (lv' := [(0, .inr (.inr l0)), (1, .inl l1)]) (st' := [.inr (.inr l0)]) [(.aload_n 0, 1)] (by decide +kernel) rfl ?_
      refine zV_gr (by decide +kernel) zfl_RX12_96 (by decide) rfl h (fun v6 _ h => ?_)
      refine zV_b (pc' := 21) (lv' := [(0, .inr (.inr l0)), (1, .inl l1)]) (st' := [.inl l1, .inr (.inr v6)]) [(.iload_n 1, 1)] (by decide +kernel) rfl ?_
      refine zV_aj (by decide +kernel) h (fun v7 _ h => ?_)
      exact zend_j h hR (by decide +kernel)
    · exact zV_lv (lv' := []) [] rfl (zt_X12_planned_J12 h hR)
theorem zc_X12_planned {M M' : Zm} {l0 : Option Nat} {l1 : Int32} {x : Int64} (h : zf_X12_planned M l0 l1 = some (M', x)) (l : Launch) (D : va_G) (cy : Nat → ClassId) : zMet l yX12_planned zC_X12_planned (some .long) D cy [.inr (.inr l0), .inl l1] M M' (some (.inr (.inl x))) :=
  zM_j (by decide) rfl (fun h => by cases h) (Nat.le_of_ble_eq_true rfl) (fun X hR => zt_X12_planned h hR)
-- BlendCellarModel.rack(IIJ)J
def zC_X12_rack : Zc := (cX12_rack, 8, RX12, 4, 103, false)
theorem zcl_X12_rack {C : Zc} (h1 : zC_X12_rack.2.2.2.1 + 1 ≤ C.2.2.2.1) (h2 : 8 + (zC_X12_rack.2.1 + 11) + zC_X12_rack.2.2.2.2.1 ≤ C.2.2.2.2.1) : zCl C yX12_rack zC_X12_rack (some .long) 3 := ⟨zw_1794, zw_114, ⟨by decide, by decide⟩, by decide +kernel, h1, h2⟩
noncomputable def zf_X12_rack_J77 (M : Zm) (l0 : Option Nat) : Option (Zm × Int64) :=
  zb1 (zo_rc M l0 13) (fun _ => zbd (zf_X12_no M l0 (9 : Int32)) (fun M38 v38 =>
  some (M38, v38)))
noncomputable def zf_X12_rack_J37 (M : Zm) (l0 : Option Nat) (l1 : Int32) (l2 : Int32) (l3 : Int64) (l5 : Int32) : Option (Zm × Int64) :=
  (if l5 ≤ 0 then
  (if l1 = l2 then
  zb1 (zo_rc M l0 13) (fun _ => zbd (zf_X12_no M l0 (13 : Int32)) (fun M11 v11 =>
  some (M11, v11)))
  else
  zb1 (zo_rc M l0 13) (fun _ => zbd (zf_X12_isInCask M l0 l1) (fun M13 v13 =>
  (if v13 = 0 then
  zb1 (zo_rc M13 l0 13) (fun _ => zbd (zf_X12_isInCask M13 l0 l2) (fun M15 v15 =>
  (if v15 = 0 then
  zb1 (zo_rc M15 l0 13) (fun _ => zbd (zf_X12_spare M15 l0 l1) (fun M17 v17 =>
  (if l3 ≤ v17 then
  zb1 (zo_rc M17 l0 13) (fun _ => zbd (zf_X12_most M17 l0 l2) (fun M19 v19 =>
  zb1 (zo_rc M19 l0 13) (fun _ => zbd (zf_X12_inVessel M19 l0 l2) (fun M20 v20 =>
  (if (v20 + l3) ≤ v19 then
  zb1 (zo_pi M20 l0 13 60 (0 : Int32)) (fun M22 =>
  zb1 (zo_rc M22 l0 13) (fun _ => zbd (zf_X12_drawFrom M22 l0 l1 l3 (1 : Int32)) (fun M23 _ =>
  zb1 (zo_rc M23 l0 13) (fun _ => zbd (zf_X12_mixInto M23 l0 l2) (fun M24 v24 =>
  (if v24 = 0 then
  zb1 (zo_rc M24 l0 13) (fun _ => zbd (zf_X12_no M24 l0 (12 : Int32)) (fun M26 v26 =>
  some (M26, v26)))
  else
  zb1 (zo_rc M24 l0 13) (fun _ => zbd (zf_X12_keep M24 l0) (fun M28 _ =>
  zb1 (zo_rc M28 l0 13) (fun _ => zbd (zf_X12_takeDraws M28 l0 (-1 : Int32)) (fun M29 _ =>
  zb1 (zo_rc M29 l0 13) (fun _ => zbd (zf_X12_become M29 l0 l2) (fun M30 _ =>
  zb1 (zo_rc M30 l0 13) (fun _ => zbd (zf_X12_enter M30 l0 (2 : Int32) l1 l2 l3) (fun M31 _ =>
  zb1 (zo_rc M31 l0 13) (fun _ => zbd (zf_X12_inVessel M31 l0 l2) (fun M32 v32 =>
  some (M32, v32)))))))))))))))))
  else
  zb1 (zo_rc M20 l0 13) (fun _ => zbd (zf_X12_no M20 l0 (11 : Int32)) (fun M34 v34 =>
  some (M34, v34))))))))
  else
  zb1 (zo_rc M17 l0 13) (fun _ => zbd (zf_X12_no M17 l0 (10 : Int32)) (fun M36 v36 =>
  some (M36, v36))))))
  else
  zf_X12_rack_J77 M15 l0)))
  else
  zf_X12_rack_J77 M13 l0))))
  else
  zb1 (zo_rc M l0 13) (fun _ => zbd (zf_X12_no M l0 l5) (fun M40 v40 =>
  some (M40, v40))))
noncomputable def zf_X12_rack (M : Zm) (l0 : Option Nat) (l1 : Int32) (l2 : Int32) (l3 : Int64) : Option (Zm × Int64) :=
  zb1 (zo_rc M l0 13) (fun _ => zbd (zf_X12_begin M l0) (fun M1 _ =>
  zb1 (zo_rc M1 l0 13) (fun _ => zbd (zf_X12_isAmount M1 l0 l3) (fun M2 v2 =>
  (if v2 = 0 then
  zb1 (zo_rc M2 l0 13) (fun _ => zbd (zf_X12_no M2 l0 (1 : Int32)) (fun M4 v4 =>
  some (M4, v4)))
  else
  zb1 (zo_rc M2 l0 13) (fun _ => zbd (zf_X12_looked M2 l0 l1) (fun M6 v6 =>
  (if v6 = 0 then
  zb1 (zo_rc M6 l0 13) (fun _ => zbd (zf_X12_lookedVessel M6 l0 l2) (fun M8 v8 =>
  zf_X12_rack_J37 M8 l0 l1 l2 l3 v8))
  else
  zf_X12_rack_J37 M6 l0 l1 l2 l3 v6))))))))
set_option maxRecDepth 100000 in
theorem zt_X12_rack_J77 {X : Zx} {M : Zm} {l0 : Option Nat} {z : Zm × Int64} (h : zf_X12_rack_J77 M l0 = some z) (hR : zRj X zC_X12_rack z.1 z.2) : zV X zC_X12_rack M 77 [(0, .inr (.inr l0))] [] := by
  unfold zf_X12_rack_J77 at h
  refine zV_b (pc' := 80) (lv' := [(0, .inr (.inr l0))]) (st' := [.inl (9 : Int32), .inr (.inr l0)]) [(.aload_n 0, 1), (.bipush 9, 2)] (by decide +kernel) rfl ?_
  refine zV_cvj (As := [.inl (9 : Int32)]) (st := []) (c := 13) (by decide +kernel) (zcl_X12_no (by decide) (by decide)) ⟨zw_1677, zw_1679, zw_59⟩ ⟨⟨_, _, rfl⟩, by decide⟩ rfl rfl (Nat.le_of_ble_eq_true rfl) h (fun _ _ e => zc_X12_no e) (fun M38 v38 _ h => ?_)
  exact zend_j h hR (by decide +kernel)
set_option maxRecDepth 100000 in
theorem zt_X12_rack_J37 {X : Zx} {M : Zm} {l0 : Option Nat} {l1 : Int32} {l2 : Int32} {l3 : Int64} {l5 : Int32} {z : Zm × Int64} (h : zf_X12_rack_J37 M l0 l1 l2 l3 l5 = some z) (hR : zRj X zC_X12_rack z.1 z.2) : zV X zC_X12_rack M 37 [(0, .inr (.inr l0)), (1, .inl l1), (2, .inl l2), (3, .inr (.inl l3)), (5, .inl l5)] [] := by
  unfold zf_X12_rack_J37 at h
  refine zV_b (pc' := 39) (lv' := [(0, .inr (.inr l0)), (1, .inl l1), (2, .inl l2), (3, .inr (.inl l3)), (5, .inl l5)]) (st' := [.inl l5]) [(.iload 5, 2)] (by decide +kernel) rfl ?_
  refine zV_if_le (off := 10) (tgt := 49) (by decide +kernel) (by decide) h (fun c9 h => ?_) (fun c9 h => ?_)
  · refine zV_b (pc' := 51) (lv' := [(0, .inr (.inr l0)), (1, .inl l1), (2, .inl l2), (3, .inr (.inl l3)), (5, .inl l5)]) (st' := [.inl l2, .inl l1]) [(.iload_n 1, 1), (.iload_n 2, 1)] (by decide +kernel) rfl ?_
    refine zV_icmp_ne (off := 10) (tgt := 61) (by decide +kernel) (by decide) h (fun c10 h => ?_) (fun c10 h => ?_)
    · refine zV_b (pc' := 57) (lv' := [(0, .inr (.inr l0)), (1, .inl l1), (2, .inl l2), (3, .inr (.inl l3)), (5, .inl l5)]) (st' := [.inl (13 : Int32), .inr (.inr l0)]) [(.aload_n 0, 1), (.bipush 13, 2)] (by decide +kernel) rfl ?_
      refine zV_cvj (As := [.inl (13 : Int32)]) (st := []) (c := 13) (by decide +kernel) (zcl_X12_no (by decide) (by decide)) ⟨zw_1677, zw_1679, zw_59⟩ ⟨⟨_, _, rfl⟩, by decide⟩ rfl rfl (Nat.le_of_ble_eq_true rfl) h (fun _ _ e => zc_X12_no e) (fun M11 v11 _ h => ?_)
      exact zend_j h hR (by decide +kernel)
    · refine zV_b (pc' := 63) (lv' := [(0, .inr (.inr l0)), (1, .inl l1), (2, .inl l2), (3, .inr (.inl l3)), (5, .inl l5)]) (st' := [.inl l1, .inr (.inr l0)]) [(.aload_n 0, 1), (.iload_n 1, 1)] (by decide +kernel) rfl ?_
      refine zV_cvi (As := [.inl l1]) (st := []) (c := 13) (by decide +kernel) (zcl_X12_isInCask (by decide) (by decide)) ⟨zw_1739, zw_1741, zw_66⟩ ⟨⟨_, _, rfl⟩, by decide⟩ rfl rfl (Nat.le_of_ble_eq_true rfl) h (fun _ _ e => zc_X12_isInCask e) (fun M13 v13 _ h => ?_)
      refine zV_if_ne (off := 11) (tgt := 77) (by decide +kernel) (by decide) h (fun c14 h => ?_) (fun c14 h => ?_)
      · refine zV_b (pc' := 71) (lv' := [(0, .inr (.inr l0)), (1, .inl l1), (2, .inl l2), (3, .inr (.inl l3)), (5, .inl l5)]) (st' := [.inl l2, .inr (.inr l0)]) [(.aload_n 0, 1), (.iload_n 2, 1)] (by decide +kernel) rfl ?_
        refine zV_cvi (As := [.inl l2]) (st := []) (c := 13) (by decide +kernel) (zcl_X12_isInCask (by decide) (by decide)) ⟨zw_1739, zw_1741, zw_66⟩ ⟨⟨_, _, rfl⟩, by decide⟩ rfl rfl (Nat.le_of_ble_eq_true rfl) h (fun _ _ e => zc_X12_isInCask e) (fun M15 v15 _ h => ?_)
        refine zV_if_eq (off := 10) (tgt := 84) (by decide +kernel) (by decide) h (fun c16 h => ?_) (fun c16 h => ?_)
        · refine zV_b (pc' := 86) (lv' := [(0, .inr (.inr l0)), (1, .inl l1), (2, .inl l2), (3, .inr (.inl l3)), (5, .inl l5)]) (st' := [.inl l1, .inr (.inr l0)]) [(.aload_n 0, 1), (.iload_n 1, 1)] (by decide +kernel) rfl ?_
          refine zV_cvj (As := [.inl l1]) (st := []) (c := 13) (by decide +kernel) (zcl_X12_spare (by decide) (by decide)) ⟨zw_1795, zw_1797, zw_78⟩ ⟨⟨_, _, rfl⟩, by decide⟩ rfl rfl (Nat.le_of_ble_eq_true rfl) h (fun _ _ e => zc_X12_spare e) (fun M17 v17 _ h => ?_)
          refine zV_b (pc' := 94) (lv' := [(6, .inr (.inl v17)), (0, .inr (.inr l0)), (1, .inl l1), (2, .inl l2), (3, .inr (.inl l3)), (5, .inl l5)]) (st' := [.inr (.inl v17), .inr (.inl l3)]) [(.lstore 6, 2), (.lload_n 3, 1), (.lload 6, 2)] (by decide +kernel) rfl ?_
          refine zV_lcmp_le (off := 10) (tgt := 105) (by decide +kernel) (by decide +kernel) (by decide) h (fun c18 h => ?_) (fun c18 h => ?_)
          · refine zV_b (pc' := 107) (lv' := [(6, .inr (.inl v17)), (0, .inr (.inr l0)), (1, .inl l1), (2, .inl l2), (3, .inr (.inl l3)), (5, .inl l5)]) (st' := [.inl l2, .inr (.inr l0)]) [(.aload_n 0, 1), (.iload_n 2, 1)] (by decide +kernel) rfl ?_
            refine zV_cvj (As := [.inl l2]) (st := []) (c := 13) (by decide +kernel) (zcl_X12_most (by decide) (by decide)) ⟨zw_1743, zw_1745, zw_67⟩ ⟨⟨_, _, rfl⟩, by decide⟩ rfl rfl (Nat.le_of_ble_eq_true rfl) h (fun _ _ e => zc_X12_most e) (fun M19 v19 _ h => ?_)
            refine zV_b (pc' := 114) (lv' := [(6, .inr (.inl v19)), (0, .inr (.inr l0)), (1, .inl l1), (2, .inl l2), (3, .inr (.inl l3)), (5, .inl l5)]) (st' := [.inl l2, .inr (.inr l0)]) [(.lstore 6, 2), (.aload_n 0, 1), (.iload_n 2, 1)] (by decide +kernel) rfl ?_
            refine zV_cvj (As := [.inl l2]) (st := []) (c := 13) (by decide +kernel) (zcl_X12_inVessel (by decide) (by decide)) ⟨zw_1759, zw_1761, zw_70⟩ ⟨⟨_, _, rfl⟩, by decide⟩ rfl rfl (Nat.le_of_ble_eq_true rfl) h (fun _ _ e => zc_X12_inVessel e) (fun M20 v20 _ h => ?_)
            refine zV_b (pc' := 121) (lv' := [(6, .inr (.inl v19)), (0, .inr (.inr l0)), (1, .inl l1), (2, .inl l2), (3, .inr (.inl l3)), (5, .inl l5)]) (st' := [.inr (.inl v19), .inr (.inl (v20 + l3))]) [(.lload_n 3, 1), (.ladd, 1), (.lload 6, 2)] (by decide +kernel) rfl ?_
            refine zV_lcmp_le (off := 10) (tgt := 132) (by decide +kernel) (by decide +kernel) (by decide) h (fun c21 h => ?_) (fun c21 h => ?_)
            · refine zV_b (pc' := 134) (lv' := [(6, .inr (.inl v19)), (0, .inr (.inr l0)), (1, .inl l1), (2, .inl l2), (3, .inr (.inl l3)), (5, .inl l5)]) (st' := [.inl (0 : Int32), .inr (.inr l0)]) [(.aload_n 0, 1), (.iconst 0, 1)] (by decide +kernel) rfl ?_
              refine zV_pi (by decide +kernel) zfp_RX12_247 (by decide) rfl h (fun M22 _ h => ?_)
              refine zV_b (pc' := 141) (lv' := [(6, .inr (.inl v19)), (0, .inr (.inr l0)), (1, .inl l1), (2, .inl l2), (3, .inr (.inl l3)), (5, .inl l5)]) (st' := [.inl (1 : Int32), .inr (.inl l3), .inl l1, .inr (.inr l0)]) [(.aload_n 0, 1), (.iload_n 1, 1), (.lload_n 3, 1), (.iconst 1, 1)] (by decide +kernel) rfl ?_
              refine zV_cvv (As := [.inl l1, .inr (.inl l3), .inl (1 : Int32)]) (st := []) (c := 13) (by decide +kernel) (zcl_X12_drawFrom (by decide) (by decide)) ⟨zw_1803, zw_1805, zw_80⟩ ⟨⟨_, _, rfl⟩, by decide⟩ rfl rfl (Nat.le_of_ble_eq_true rfl) h (fun _ _ e => zc_X12_drawFrom e) (fun M23 _ _ h => ?_)
              refine zV_b (pc' := 146) (lv' := [(6, .inr (.inl v19)), (0, .inr (.inr l0)), (1, .inl l1), (2, .inl l2), (3, .inr (.inl l3)), (5, .inl l5)]) (st' := [.inl l2, .inr (.inr l0)]) [(.aload_n 0, 1), (.iload_n 2, 1)] (by decide +kernel) rfl ?_
              refine zV_cvi (As := [.inl l2]) (st := []) (c := 13) (by decide +kernel) (zcl_X12_mixInto (by decide) (by decide)) ⟨zw_1763, zw_1765, zw_71⟩ ⟨⟨_, _, rfl⟩, by decide⟩ rfl rfl (Nat.le_of_ble_eq_true rfl) h (fun _ _ e => zc_X12_mixInto e) (fun M24 v24 _ h => ?_)
              refine zV_if_ne (off := 10) (tgt := 159) (by decide +kernel) (by decide) h (fun c25 h => ?_) (fun c25 h => ?_)
              · refine zV_b (pc' := 155) (lv' := [(6, .inr (.inl v19)), (0, .inr (.inr l0)), (1, .inl l1), (2, .inl l2), (3, .inr (.inl l3)), (5, .inl l5)]) (st' := [.inl (12 : Int32), .inr (.inr l0)]) [(.aload_n 0, 1), (.bipush 12, 2)] (by decide +kernel) rfl ?_
                refine zV_cvj (As := [.inl (12 : Int32)]) (st := []) (c := 13) (by decide +kernel) (zcl_X12_no (by decide) (by decide)) ⟨zw_1677, zw_1679, zw_59⟩ ⟨⟨_, _, rfl⟩, by decide⟩ rfl rfl (Nat.le_of_ble_eq_true rfl) h (fun _ _ e => zc_X12_no e) (fun M26 v26 _ h => ?_)
                exact zend_j h hR (by decide +kernel)
              · refine zV_b (pc' := 160) (lv' := [(6, .inr (.inl v19)), (0, .inr (.inr l0)), (1, .inl l1), (2, .inl l2), (3, .inr (.inl l3)), (5, .inl l5)]) (st' := [.inr (.inr l0)]) [(.aload_n 0, 1)] (by decide +kernel) rfl ?_
                refine zV_cvv (As := []) (st := []) (c := 13) (by decide +kernel) (zcl_X12_keep (by decide) (by decide)) ⟨zw_1681, zw_1683, zw_60⟩ ⟨⟨_, _, rfl⟩, by decide⟩ rfl rfl (Nat.le_of_ble_eq_true rfl) h (fun _ _ e => zc_X12_keep e) (fun M28 _ _ h => ?_)
                refine zV_b (pc' := 165) (lv' := [(6, .inr (.inl v19)), (0, .inr (.inr l0)), (1, .inl l1), (2, .inl l2), (3, .inr (.inl l3)), (5, .inl l5)]) (st' := [.inl (-1 : Int32), .inr (.inr l0)]) [(.aload_n 0, 1), (.iconst (-1), 1)] (by decide +kernel) rfl ?_
                refine zV_cvv (As := [.inl (-1 : Int32)]) (st := []) (c := 13) (by decide +kernel) (zcl_X12_takeDraws (by decide) (by decide)) ⟨zw_1811, zw_1813, zw_82⟩ ⟨⟨_, _, rfl⟩, by decide⟩ rfl rfl (Nat.le_of_ble_eq_true rfl) h (fun _ _ e => zc_X12_takeDraws e) (fun M29 _ _ h => ?_)
                refine zV_b (pc' := 170) (lv' := [(6, .inr (.inl v19)), (0, .inr (.inr l0)), (1, .inl l1), (2, .inl l2), (3, .inr (.inl l3)), (5, .inl l5)]) (st' := [.inl l2, .inr (.inr l0)]) [(.aload_n 0, 1), (.iload_n 2, 1)] (by decide +kernel) rfl ?_
                refine zV_cvv (As := [.inl l2]) (st := []) (c := 13) (by decide +kernel) (zcl_X12_become (by decide) (by decide)) ⟨zw_1779, zw_1781, zw_75⟩ ⟨⟨_, _, rfl⟩, by decide⟩ rfl rfl (Nat.le_of_ble_eq_true rfl) h (fun _ _ e => zc_X12_become e) (fun M30 _ _ h => ?_)
                refine zV_b (pc' := 178) (lv' := [(6, .inr (.inl v19)), (0, .inr (.inr l0)), (1, .inl l1), (2, .inl l2), (3, .inr (.inl l3)), (5, .inl l5)]) (st' := [.inr (.inl l3), .inl l2, .inl l1, .inl (2 : Int32), .inr (.inr l0)]) [(.aload_n 0, 1), (.iconst 2, 1), (.iload_n 1, 1), (.iload_n 2, 1), (.lload_n 3, 1)] (by decide +kernel) rfl ?_
                refine zV_cvv (As := [.inl (2 : Int32), .inl l1, .inl l2, .inr (.inl l3)]) (st := []) (c := 13) (by decide +kernel) (zcl_X12_enter (by decide) (by decide)) ⟨zw_1787, zw_1789, zw_77⟩ ⟨⟨_, _, rfl⟩, by decide⟩ rfl rfl (Nat.le_of_ble_eq_true rfl) h (fun _ _ e => zc_X12_enter e) (fun M31 _ _ h => ?_)
                refine zV_b (pc' := 183) (lv' := [(6, .inr (.inl v19)), (0, .inr (.inr l0)), (1, .inl l1), (2, .inl l2), (3, .inr (.inl l3)), (5, .inl l5)]) (st' := [.inl l2, .inr (.inr l0)]) [(.aload_n 0, 1), (.iload_n 2, 1)] (by decide +kernel) rfl ?_
                refine zV_cvj (As := [.inl l2]) (st := []) (c := 13) (by decide +kernel) (zcl_X12_inVessel (by decide) (by decide)) ⟨zw_1759, zw_1761, zw_70⟩ ⟨⟨_, _, rfl⟩, by decide⟩ rfl rfl (Nat.le_of_ble_eq_true rfl) h (fun _ _ e => zc_X12_inVessel e) (fun M32 v32 _ h => ?_)
                exact zend_j h hR (by decide +kernel)
            · refine zV_b (pc' := 128) (lv' := [(6, .inr (.inl v19)), (0, .inr (.inr l0)), (1, .inl l1), (2, .inl l2), (3, .inr (.inl l3)), (5, .inl l5)]) (st' := [.inl (11 : Int32), .inr (.inr l0)]) [(.aload_n 0, 1), (.bipush 11, 2)] (by decide +kernel) rfl ?_
              refine zV_cvj (As := [.inl (11 : Int32)]) (st := []) (c := 13) (by decide +kernel) (zcl_X12_no (by decide) (by decide)) ⟨zw_1677, zw_1679, zw_59⟩ ⟨⟨_, _, rfl⟩, by decide⟩ rfl rfl (Nat.le_of_ble_eq_true rfl) h (fun _ _ e => zc_X12_no e) (fun M34 v34 _ h => ?_)
              exact zend_j h hR (by decide +kernel)
          · refine zV_b (pc' := 101) (lv' := [(6, .inr (.inl v17)), (0, .inr (.inr l0)), (1, .inl l1), (2, .inl l2), (3, .inr (.inl l3)), (5, .inl l5)]) (st' := [.inl (10 : Int32), .inr (.inr l0)]) [(.aload_n 0, 1), (.bipush 10, 2)] (by decide +kernel) rfl ?_
            refine zV_cvj (As := [.inl (10 : Int32)]) (st := []) (c := 13) (by decide +kernel) (zcl_X12_no (by decide) (by decide)) ⟨zw_1677, zw_1679, zw_59⟩ ⟨⟨_, _, rfl⟩, by decide⟩ rfl rfl (Nat.le_of_ble_eq_true rfl) h (fun _ _ e => zc_X12_no e) (fun M36 v36 _ h => ?_)
            exact zend_j h hR (by decide +kernel)
        · exact zV_lv (lv' := [(0, .inr (.inr l0))]) [0] rfl (zt_X12_rack_J77 h hR)
      · exact zV_lv (lv' := [(0, .inr (.inr l0))]) [0] rfl (zt_X12_rack_J77 h hR)
  · refine zV_b (pc' := 45) (lv' := [(0, .inr (.inr l0)), (1, .inl l1), (2, .inl l2), (3, .inr (.inl l3)), (5, .inl l5)]) (st' := [.inl l5, .inr (.inr l0)]) [(.aload_n 0, 1), (.iload 5, 2)] (by decide +kernel) rfl ?_
    refine zV_cvj (As := [.inl l5]) (st := []) (c := 13) (by decide +kernel) (zcl_X12_no (by decide) (by decide)) ⟨zw_1677, zw_1679, zw_59⟩ ⟨⟨_, _, rfl⟩, by decide⟩ rfl rfl (Nat.le_of_ble_eq_true rfl) h (fun _ _ e => zc_X12_no e) (fun M40 v40 _ h => ?_)
    exact zend_j h hR (by decide +kernel)
set_option maxRecDepth 100000 in
theorem zt_X12_rack {X : Zx} {M : Zm} {l0 : Option Nat} {l1 : Int32} {l2 : Int32} {l3 : Int64} {z : Zm × Int64} (h : zf_X12_rack M l0 l1 l2 l3 = some z) (hR : zRj X zC_X12_rack z.1 z.2) : zV X zC_X12_rack M 0 [(0, .inr (.inr l0)), (1, .inl l1), (2, .inl l2), (3, .inr (.inl l3))] [] := by
  unfold zf_X12_rack at h
  refine zV_b (pc' := 1) (lv' := [(0, .inr (.inr l0)), (1, .inl l1), (2, .inl l2), (3, .inr (.inl l3))]) (st' := [.inr (.inr l0)]) [(.aload_n 0, 1)] (by decide +kernel) rfl ?_
  refine zV_cvv (As := []) (st := []) (c := 13) (by decide +kernel) (zcl_X12_begin (by decide) (by decide)) ⟨zw_1673, zw_1675, zw_58⟩ ⟨⟨_, _, rfl⟩, by decide⟩ rfl rfl (Nat.le_of_ble_eq_true rfl) h (fun _ _ e => zc_X12_begin e) (fun M1 _ _ h => ?_)
  refine zV_b (pc' := 6) (lv' := [(0, .inr (.inr l0)), (1, .inl l1), (2, .inl l2), (3, .inr (.inl l3))]) (st' := [.inr (.inl l3), .inr (.inr l0)]) [(.aload_n 0, 1), (.lload_n 3, 1)] (by decide +kernel) rfl ?_
  refine zV_cvi (As := [.inr (.inl l3)]) (st := []) (c := 13) (by decide +kernel) (zcl_X12_isAmount (by decide) (by decide)) ⟨zw_1734, zw_1736, zw_65⟩ ⟨⟨_, _, rfl⟩, by decide⟩ rfl rfl (Nat.le_of_ble_eq_true rfl) h (fun _ _ e => zc_X12_isAmount e) (fun M2 v2 _ h => ?_)
  refine zV_if_ne (off := 9) (tgt := 18) (by decide +kernel) (by decide) h (fun c3 h => ?_) (fun c3 h => ?_)
  · refine zV_b (pc' := 14) (lv' := [(0, .inr (.inr l0)), (1, .inl l1), (2, .inl l2), (3, .inr (.inl l3))]) (st' := [.inl (1 : Int32), .inr (.inr l0)]) [(.aload_n 0, 1), (.iconst 1, 1)] (by decide +kernel) rfl ?_
    refine zV_cvj (As := [.inl (1 : Int32)]) (st := []) (c := 13) (by decide +kernel) (zcl_X12_no (by decide) (by decide)) ⟨zw_1677, zw_1679, zw_59⟩ ⟨⟨_, _, rfl⟩, by decide⟩ rfl rfl (Nat.le_of_ble_eq_true rfl) h (fun _ _ e => zc_X12_no e) (fun M4 v4 _ h => ?_)
    exact zend_j h hR (by decide +kernel)
  · refine zV_b (pc' := 20) (lv' := [(0, .inr (.inr l0)), (1, .inl l1), (2, .inl l2), (3, .inr (.inl l3))]) (st' := [.inl l1, .inr (.inr l0)]) [(.aload_n 0, 1), (.iload_n 1, 1)] (by decide +kernel) rfl ?_
    refine zV_cvi (As := [.inl l1]) (st := []) (c := 13) (by decide +kernel) (zcl_X12_looked (by decide) (by decide)) ⟨zw_1711, zw_1713, zw_63⟩ ⟨⟨_, _, rfl⟩, by decide⟩ rfl rfl (Nat.le_of_ble_eq_true rfl) h (fun _ _ e => zc_X12_looked e) (fun M6 v6 _ h => ?_)
    refine zV_b (pc' := 27) (lv' := [(5, .inl v6), (0, .inr (.inr l0)), (1, .inl l1), (2, .inl l2), (3, .inr (.inl l3))]) (st' := [.inl v6]) [(.istore 5, 2), (.iload 5, 2)] (by decide +kernel) rfl ?_
    refine zV_if_ne (off := 10) (tgt := 37) (by decide +kernel) (by decide) h (fun c7 h => ?_) (fun c7 h => ?_)
    · refine zV_b (pc' := 32) (lv' := [(5, .inl v6), (0, .inr (.inr l0)), (1, .inl l1), (2, .inl l2), (3, .inr (.inl l3))]) (st' := [.inl l2, .inr (.inr l0)]) [(.aload_n 0, 1), (.iload_n 2, 1)] (by decide +kernel) rfl ?_
      refine zV_cvi (As := [.inl l2]) (st := []) (c := 13) (by decide +kernel) (zcl_X12_lookedVessel (by decide) (by decide)) ⟨zw_1699, zw_1701, zw_62⟩ ⟨⟨_, _, rfl⟩, by decide⟩ rfl rfl (Nat.le_of_ble_eq_true rfl) h (fun _ _ e => zc_X12_lookedVessel e) (fun M8 v8 _ h => ?_)
      refine zV_b (pc' := 37) (lv' := [(5, .inl v8), (0, .inr (.inr l0)), (1, .inl l1), (2, .inl l2), (3, .inr (.inl l3))]) (st' := []) [(.istore 5, 2)] (by decide +kernel) rfl ?_
      exact zV_lv (lv' := [(0, .inr (.inr l0)), (1, .inl l1), (2, .inl l2), (3, .inr (.inl l3)), (5, .inl v8)]) [1, 2, 3, 4, 0] rfl (zt_X12_rack_J37 h hR)
    · exact zV_lv (lv' := [(0, .inr (.inr l0)), (1, .inl l1), (2, .inl l2), (3, .inr (.inl l3)), (5, .inl v6)]) [1, 2, 3, 4, 0] rfl (zt_X12_rack_J37 h hR)
theorem zc_X12_rack {M M' : Zm} {l0 : Option Nat} {l1 : Int32} {l2 : Int32} {l3 : Int64} {x : Int64} (h : zf_X12_rack M l0 l1 l2 l3 = some (M', x)) (l : Launch) (D : va_G) (cy : Nat → ClassId) : zMet l yX12_rack zC_X12_rack (some .long) D cy [.inr (.inr l0), .inl l1, .inl l2, .inr (.inl l3)] M M' (some (.inr (.inl x))) :=
  zM_j (by decide) rfl (fun h => by cases h) (Nat.le_of_ble_eq_true rfl) (fun X hR => zt_X12_rack h hR)
-- BlendCellarModel.room(I)J
def zC_X12_room : Zc := (cX12_room, 3, RX12, 3, 68, false)
theorem zcl_X12_room {C : Zc} (h1 : zC_X12_room.2.2.2.1 + 1 ≤ C.2.2.2.1) (h2 : 8 + (zC_X12_room.2.1 + 11) + zC_X12_room.2.2.2.2.1 ≤ C.2.2.2.2.1) : zCl C yX12_room zC_X12_room (some .long) 1 := ⟨zw_1885, zw_114, ⟨by decide, by decide⟩, by decide +kernel, h1, h2⟩
noncomputable def zf_X12_room (M : Zm) (l0 : Option Nat) (l1 : Int32) : Option (Zm × Int64) :=
  zb1 (zo_rc M l0 13) (fun _ => zbd (zf_X12_begin M l0) (fun M1 _ =>
  zb1 (zo_rc M1 l0 13) (fun _ => zbd (zf_X12_looked M1 l0 l1) (fun M2 v2 =>
  (if v2 ≤ 0 then
  zb1 (zo_rc M2 l0 13) (fun _ => zbd (zf_X12_most M2 l0 l1) (fun M4 v4 =>
  zb1 (zo_rc M4 l0 13) (fun _ => zbd (zf_X12_inAll M4 l0 l1) (fun M5 v5 =>
  some (M5, (v4 - v5))))))
  else
  zb1 (zo_rc M2 l0 13) (fun _ => zbd (zf_X12_no M2 l0 v2) (fun M7 v7 =>
  some (M7, v7))))))))
set_option maxRecDepth 100000 in
theorem zt_X12_room {X : Zx} {M : Zm} {l0 : Option Nat} {l1 : Int32} {z : Zm × Int64} (h : zf_X12_room M l0 l1 = some z) (hR : zRj X zC_X12_room z.1 z.2) : zV X zC_X12_room M 0 [(0, .inr (.inr l0)), (1, .inl l1)] [] := by
  unfold zf_X12_room at h
  refine zV_b (pc' := 1) (lv' := [(0, .inr (.inr l0)), (1, .inl l1)]) (st' := [.inr (.inr l0)]) [(.aload_n 0, 1)] (by decide +kernel) rfl ?_
  refine zV_cvv (As := []) (st := []) (c := 13) (by decide +kernel) (zcl_X12_begin (by decide) (by decide)) ⟨zw_1673, zw_1675, zw_58⟩ ⟨⟨_, _, rfl⟩, by decide⟩ rfl rfl (Nat.le_of_ble_eq_true rfl) h (fun _ _ e => zc_X12_begin e) (fun M1 _ _ h => ?_)
  refine zV_b (pc' := 6) (lv' := [(0, .inr (.inr l0)), (1, .inl l1)]) (st' := [.inl l1, .inr (.inr l0)]) [(.aload_n 0, 1), (.iload_n 1, 1)] (by decide +kernel) rfl ?_
  refine zV_cvi (As := [.inl l1]) (st := []) (c := 13) (by decide +kernel) (zcl_X12_looked (by decide) (by decide)) ⟨zw_1711, zw_1713, zw_63⟩ ⟨⟨_, _, rfl⟩, by decide⟩ rfl rfl (Nat.le_of_ble_eq_true rfl) h (fun _ _ e => zc_X12_looked e) (fun M2 v2 _ h => ?_)
  refine zV_b (pc' := 11) (lv' := [(2, .inl v2), (0, .inr (.inr l0)), (1, .inl l1)]) (st' := [.inl v2]) [(.istore_n 2, 1), (.iload_n 2, 1)] (by decide +kernel) rfl ?_
  refine zV_if_le (off := 9) (tgt := 20) (by decide +kernel) (by decide) h (fun c3 h => ?_) (fun c3 h => ?_)
  · refine zV_b (pc' := 22) (lv' := [(2, .inl v2), (0, .inr (.inr l0)), (1, .inl l1)]) (st' := [.inl l1, .inr (.inr l0)]) [(.aload_n 0, 1), (.iload_n 1, 1)] (by decide +kernel) rfl ?_
    refine zV_cvj (As := [.inl l1]) (st := []) (c := 13) (by decide +kernel) (zcl_X12_most (by decide) (by decide)) ⟨zw_1743, zw_1745, zw_67⟩ ⟨⟨_, _, rfl⟩, by decide⟩ rfl rfl (Nat.le_of_ble_eq_true rfl) h (fun _ _ e => zc_X12_most e) (fun M4 v4 _ h => ?_)
    refine zV_b (pc' := 27) (lv' := [(2, .inl v2), (0, .inr (.inr l0)), (1, .inl l1)]) (st' := [.inl l1, .inr (.inr l0), .inr (.inl v4)]) [(.aload_n 0, 1), (.iload_n 1, 1)] (by decide +kernel) rfl ?_
    refine zV_cvj (As := [.inl l1]) (st := [.inr (.inl v4)]) (c := 13) (by decide +kernel) (zcl_X12_inAll (by decide) (by decide)) ⟨zw_1886, zw_1888, zw_89⟩ ⟨⟨_, _, rfl⟩, by decide⟩ rfl rfl (Nat.le_of_ble_eq_true rfl) h (fun _ _ e => zc_X12_inAll e) (fun M5 v5 _ h => ?_)
    refine zV_b (pc' := 31) (lv' := [(2, .inl v2), (0, .inr (.inr l0)), (1, .inl l1)]) (st' := [.inr (.inl (v4 - v5))]) [(.lsub, 1)] (by decide +kernel) rfl ?_
    exact zend_j h hR (by decide +kernel)
  · refine zV_b (pc' := 16) (lv' := [(2, .inl v2), (0, .inr (.inr l0)), (1, .inl l1)]) (st' := [.inl v2, .inr (.inr l0)]) [(.aload_n 0, 1), (.iload_n 2, 1)] (by decide +kernel) rfl ?_
    refine zV_cvj (As := [.inl v2]) (st := []) (c := 13) (by decide +kernel) (zcl_X12_no (by decide) (by decide)) ⟨zw_1677, zw_1679, zw_59⟩ ⟨⟨_, _, rfl⟩, by decide⟩ rfl rfl (Nat.le_of_ble_eq_true rfl) h (fun _ _ e => zc_X12_no e) (fun M7 v7 _ h => ?_)
    exact zend_j h hR (by decide +kernel)
theorem zc_X12_room {M M' : Zm} {l0 : Option Nat} {l1 : Int32} {x : Int64} (h : zf_X12_room M l0 l1 = some (M', x)) (l : Launch) (D : va_G) (cy : Nat → ClassId) : zMet l yX12_room zC_X12_room (some .long) D cy [.inr (.inr l0), .inl l1] M M' (some (.inr (.inl x))) :=
  zM_j (by decide) rfl (fun h => by cases h) (Nat.le_of_ble_eq_true rfl) (fun X hR => zt_X12_room h hR)
-- BlendCellarModel.row(III)J
def zC_X12_row : Zc := (cX12_row, 4, RX12, 1, 22, false)
theorem zcl_X12_row {C : Zc} (h1 : zC_X12_row.2.2.2.1 + 1 ≤ C.2.2.2.1) (h2 : 8 + (zC_X12_row.2.1 + 11) + zC_X12_row.2.2.2.2.1 ≤ C.2.2.2.2.1) : zCl C yX12_row zC_X12_row (some .long) 3 := ⟨zw_1672, zw_114, ⟨by decide, by decide⟩, by decide +kernel, h1, h2⟩
noncomputable def zf_X12_row_J20 (M : Zm) (l0 : Option Nat) : Option (Zm × Int64) :=
  zb1 (zo_rc M l0 13) (fun _ => zbd (zf_X12_no M l0 (1 : Int32)) (fun M3 v3 =>
  some (M3, v3)))
noncomputable def zf_X12_row_J36 (M : Zm) (l0 : Option Nat) : Option (Zm × Int64) :=
  zb1 (zo_rc M l0 13) (fun _ => zbd (zf_X12_no M l0 (3 : Int32)) (fun M8 v8 =>
  some (M8, v8)))
noncomputable def zf_X12_row (M : Zm) (l0 : Option Nat) (l1 : Int32) (l2 : Int32) (l3 : Int32) : Option (Zm × Int64) :=
  zb1 (zo_rc M l0 13) (fun _ => zbd (zf_X12_begin M l0) (fun M1 _ =>
  (if l2 < 0 then
  zf_X12_row_J20 M1 l0
  else
  (if (6 : Int32) < l2 then
  zf_X12_row_J20 M1 l0
  else
  (if l3 ≤ (60 : Int32) then
  (if l1 < 0 then
  zf_X12_row_J36 M1 l0
  else
  (if l1 < (20 : Int32) then
  zb1 (zo_gr M1 l0 13 11) (fun v11 =>
  zb1 (zo_ai M1 v11 l1) (fun v12 =>
  (if v12 < 0 then
  (if 0 ≤ l3 then
  zb1 (zo_rc M1 l0 13) (fun _ => zbd (zf_X12_keep M1 l0) (fun M15 _ =>
  zb1 (zo_gr M15 l0 13 11) (fun v16 =>
  zb1 (zo_si M15 v16 l1 l2) (fun M17 =>
  zb1 (zo_gr M17 l0 13 12) (fun v18 =>
  zb1 (zo_si M17 v18 l1 l3) (fun M19 =>
  some (M19, (l3.toInt64))))))))
  else
  zb1 (zo_rc M1 l0 13) (fun _ => zbd (zf_X12_no M1 l0 (7 : Int32)) (fun M21 v21 =>
  some (M21, v21))))
  else
  zb1 (zo_rc M1 l0 13) (fun _ => zbd (zf_X12_no M1 l0 (8 : Int32)) (fun M23 v23 =>
  some (M23, v23))))))
  else
  zf_X12_row_J36 M1 l0))
  else
  zf_X12_row_J20 M1 l0)))))
set_option maxRecDepth 100000 in
theorem zt_X12_row_J20 {X : Zx} {M : Zm} {l0 : Option Nat} {z : Zm × Int64} (h : zf_X12_row_J20 M l0 = some z) (hR : zRj X zC_X12_row z.1 z.2) : zV X zC_X12_row M 20 [(0, .inr (.inr l0))] [] := by
  unfold zf_X12_row_J20 at h
  refine zV_b (pc' := 22) (lv' := [(0, .inr (.inr l0))]) (st' := [.inl (1 : Int32), .inr (.inr l0)]) [(.aload_n 0, 1), (.iconst 1, 1)] (by decide +kernel) rfl ?_
  refine zV_cvj (As := [.inl (1 : Int32)]) (st := []) (c := 13) (by decide +kernel) (zcl_X12_no (by decide) (by decide)) ⟨zw_1677, zw_1679, zw_59⟩ ⟨⟨_, _, rfl⟩, by decide⟩ rfl rfl (Nat.le_of_ble_eq_true rfl) h (fun _ _ e => zc_X12_no e) (fun M3 v3 _ h => ?_)
  exact zend_j h hR (by decide +kernel)
set_option maxRecDepth 100000 in
theorem zt_X12_row_J36 {X : Zx} {M : Zm} {l0 : Option Nat} {z : Zm × Int64} (h : zf_X12_row_J36 M l0 = some z) (hR : zRj X zC_X12_row z.1 z.2) : zV X zC_X12_row M 36 [(0, .inr (.inr l0))] [] := by
  unfold zf_X12_row_J36 at h
  refine zV_b (pc' := 38) (lv' := [(0, .inr (.inr l0))]) (st' := [.inl (3 : Int32), .inr (.inr l0)]) [(.aload_n 0, 1), (.iconst 3, 1)] (by decide +kernel) rfl ?_
  refine zV_cvj (As := [.inl (3 : Int32)]) (st := []) (c := 13) (by decide +kernel) (zcl_X12_no (by decide) (by decide)) ⟨zw_1677, zw_1679, zw_59⟩ ⟨⟨_, _, rfl⟩, by decide⟩ rfl rfl (Nat.le_of_ble_eq_true rfl) h (fun _ _ e => zc_X12_no e) (fun M8 v8 _ h => ?_)
  exact zend_j h hR (by decide +kernel)
set_option maxRecDepth 100000 in
theorem zt_X12_row {X : Zx} {M : Zm} {l0 : Option Nat} {l1 : Int32} {l2 : Int32} {l3 : Int32} {z : Zm × Int64} (h : zf_X12_row M l0 l1 l2 l3 = some z) (hR : zRj X zC_X12_row z.1 z.2) : zV X zC_X12_row M 0 [(0, .inr (.inr l0)), (1, .inl l1), (2, .inl l2), (3, .inl l3)] [] := by
  unfold zf_X12_row at h
  refine zV_b (pc' := 1) (lv' := [(0, .inr (.inr l0)), (1, .inl l1), (2, .inl l2), (3, .inl l3)]) (st' := [.inr (.inr l0)]) [(.aload_n 0, 1)] (by decide +kernel) rfl ?_
  refine zV_cvv (As := []) (st := []) (c := 13) (by decide +kernel) (zcl_X12_begin (by decide) (by decide)) ⟨zw_1673, zw_1675, zw_58⟩ ⟨⟨_, _, rfl⟩, by decide⟩ rfl rfl (Nat.le_of_ble_eq_true rfl) h (fun _ _ e => zc_X12_begin e) (fun M1 _ _ h => ?_)
  refine zV_b (pc' := 5) (lv' := [(0, .inr (.inr l0)), (1, .inl l1), (2, .inl l2), (3, .inl l3)]) (st' := [.inl l2]) [(.iload_n 2, 1)] (by decide +kernel) rfl ?_
  refine zV_if_lt (off := 15) (tgt := 20) (by decide +kernel) (by decide) h (fun c2 h => ?_) (fun c2 h => ?_)
  · exact zV_lv (lv' := [(0, .inr (.inr l0))]) [0] rfl (zt_X12_row_J20 h hR)
  · refine zV_b (pc' := 11) (lv' := [(0, .inr (.inr l0)), (1, .inl l1), (2, .inl l2), (3, .inl l3)]) (st' := [.inl (6 : Int32), .inl l2]) [(.iload_n 2, 1), (.bipush 6, 2)] (by decide +kernel) rfl ?_
    refine zV_icmp_gt (off := 9) (tgt := 20) (by decide +kernel) (by decide) h (fun c5 h => ?_) (fun c5 h => ?_)
    · exact zV_lv (lv' := [(0, .inr (.inr l0))]) [0] rfl (zt_X12_row_J20 h hR)
    · refine zV_b (pc' := 17) (lv' := [(0, .inr (.inr l0)), (1, .inl l1), (2, .inl l2), (3, .inl l3)]) (st' := [.inl (60 : Int32), .inl l3]) [(.iload_n 3, 1), (.bipush 60, 2)] (by decide +kernel) rfl ?_
      refine zV_icmp_le (off := 9) (tgt := 26) (by decide +kernel) (by decide) h (fun c6 h => ?_) (fun c6 h => ?_)
      · refine zV_b (pc' := 27) (lv' := [(0, .inr (.inr l0)), (1, .inl l1), (2, .inl l2), (3, .inl l3)]) (st' := [.inl l1]) [(.iload_n 1, 1)] (by decide +kernel) rfl ?_
        refine zV_if_lt (off := 9) (tgt := 36) (by decide +kernel) (by decide) h (fun c7 h => ?_) (fun c7 h => ?_)
        · exact zV_lv (lv' := [(0, .inr (.inr l0))]) [0] rfl (zt_X12_row_J36 h hR)
        · refine zV_b (pc' := 33) (lv' := [(0, .inr (.inr l0)), (1, .inl l1), (2, .inl l2), (3, .inl l3)]) (st' := [.inl (20 : Int32), .inl l1]) [(.iload_n 1, 1), (.bipush 20, 2)] (by decide +kernel) rfl ?_
          refine zV_icmp_lt (off := 9) (tgt := 42) (by decide +kernel) (by decide) h (fun c10 h => ?_) (fun c10 h => ?_)
          · refine zV_b (pc' := 43) (lv' := [(0, .inr (.inr l0)), (1, .inl l1), (2, .inl l2), (3, .inl l3)]) (st' := [.inr (.inr l0)]) [(.aload_n 0, 1)] (by decide +kernel) rfl ?_
            refine zV_gr (by decide +kernel) zfl_RX12_39 (by decide) rfl h (fun v11 _ h => ?_)
            refine zV_b (pc' := 47) (lv' := [(0, .inr (.inr l0)), (1, .inl l1), (2, .inl l2), (3, .inl l3)]) (st' := [.inl l1, .inr (.inr v11)]) [(.iload_n 1, 1)] (by decide +kernel) rfl ?_
            refine zV_ai (by decide +kernel) h (fun v12 _ h => ?_)
            refine zV_if_lt (off := 10) (tgt := 58) (by decide +kernel) (by decide) h (fun c13 h => ?_) (fun c13 h => ?_)
            · refine zV_b (pc' := 59) (lv' := [(0, .inr (.inr l0)), (1, .inl l1), (2, .inl l2), (3, .inl l3)]) (st' := [.inl l3]) [(.iload_n 3, 1)] (by decide +kernel) rfl ?_
              refine zV_if_ge (off := 10) (tgt := 69) (by decide +kernel) (by decide) h (fun c14 h => ?_) (fun c14 h => ?_)
              · refine zV_b (pc' := 70) (lv' := [(0, .inr (.inr l0)), (1, .inl l1), (2, .inl l2), (3, .inl l3)]) (st' := [.inr (.inr l0)]) [(.aload_n 0, 1)] (by decide +kernel) rfl ?_
                refine zV_cvv (As := []) (st := []) (c := 13) (by decide +kernel) (zcl_X12_keep (by decide) (by decide)) ⟨zw_1681, zw_1683, zw_60⟩ ⟨⟨_, _, rfl⟩, by decide⟩ rfl rfl (Nat.le_of_ble_eq_true rfl) h (fun _ _ e => zc_X12_keep e) (fun M15 _ _ h => ?_)
                refine zV_b (pc' := 74) (lv' := [(0, .inr (.inr l0)), (1, .inl l1), (2, .inl l2), (3, .inl l3)]) (st' := [.inr (.inr l0)]) [(.aload_n 0, 1)] (by decide +kernel) rfl ?_
                refine zV_gr (by decide +kernel) zfl_RX12_39 (by decide) rfl h (fun v16 _ h => ?_)
                refine zV_b (pc' := 79) (lv' := [(0, .inr (.inr l0)), (1, .inl l1), (2, .inl l2), (3, .inl l3)]) (st' := [.inl l2, .inl l1, .inr (.inr v16)]) [(.iload_n 1, 1), (.iload_n 2, 1)] (by decide +kernel) rfl ?_
                refine zV_si (by decide +kernel) h (fun M17 _ h => ?_)
                refine zV_b (pc' := 81) (lv' := [(0, .inr (.inr l0)), (1, .inl l1), (2, .inl l2), (3, .inl l3)]) (st' := [.inr (.inr l0)]) [(.aload_n 0, 1)] (by decide +kernel) rfl ?_
                refine zV_gr (by decide +kernel) zfl_RX12_42 (by decide) rfl h (fun v18 _ h => ?_)
                refine zV_b (pc' := 86) (lv' := [(0, .inr (.inr l0)), (1, .inl l1), (2, .inl l2), (3, .inl l3)]) (st' := [.inl l3, .inl l1, .inr (.inr v18)]) [(.iload_n 1, 1), (.iload_n 3, 1)] (by decide +kernel) rfl ?_
                refine zV_si (by decide +kernel) h (fun M19 _ h => ?_)
                refine zV_b (pc' := 89) (lv' := [(0, .inr (.inr l0)), (1, .inl l1), (2, .inl l2), (3, .inl l3)]) (st' := [.inr (.inl (l3.toInt64))]) [(.iload_n 3, 1), (.i2l, 1)] (by decide +kernel) rfl ?_
                exact zend_j h hR (by decide +kernel)
              · refine zV_b (pc' := 65) (lv' := [(0, .inr (.inr l0)), (1, .inl l1), (2, .inl l2), (3, .inl l3)]) (st' := [.inl (7 : Int32), .inr (.inr l0)]) [(.aload_n 0, 1), (.bipush 7, 2)] (by decide +kernel) rfl ?_
                refine zV_cvj (As := [.inl (7 : Int32)]) (st := []) (c := 13) (by decide +kernel) (zcl_X12_no (by decide) (by decide)) ⟨zw_1677, zw_1679, zw_59⟩ ⟨⟨_, _, rfl⟩, by decide⟩ rfl rfl (Nat.le_of_ble_eq_true rfl) h (fun _ _ e => zc_X12_no e) (fun M21 v21 _ h => ?_)
                exact zend_j h hR (by decide +kernel)
            · refine zV_b (pc' := 54) (lv' := [(0, .inr (.inr l0)), (1, .inl l1), (2, .inl l2), (3, .inl l3)]) (st' := [.inl (8 : Int32), .inr (.inr l0)]) [(.aload_n 0, 1), (.bipush 8, 2)] (by decide +kernel) rfl ?_
              refine zV_cvj (As := [.inl (8 : Int32)]) (st := []) (c := 13) (by decide +kernel) (zcl_X12_no (by decide) (by decide)) ⟨zw_1677, zw_1679, zw_59⟩ ⟨⟨_, _, rfl⟩, by decide⟩ rfl rfl (Nat.le_of_ble_eq_true rfl) h (fun _ _ e => zc_X12_no e) (fun M23 v23 _ h => ?_)
              exact zend_j h hR (by decide +kernel)
          · exact zV_lv (lv' := [(0, .inr (.inr l0))]) [0] rfl (zt_X12_row_J36 h hR)
      · exact zV_lv (lv' := [(0, .inr (.inr l0))]) [0] rfl (zt_X12_row_J20 h hR)
theorem zc_X12_row {M M' : Zm} {l0 : Option Nat} {l1 : Int32} {l2 : Int32} {l3 : Int32} {x : Int64} (h : zf_X12_row M l0 l1 l2 l3 = some (M', x)) (l : Launch) (D : va_G) (cy : Nat → ClassId) : zMet l yX12_row zC_X12_row (some .long) D cy [.inr (.inr l0), .inl l1, .inl l2, .inl l3] M M' (some (.inr (.inl x))) :=
  zM_j (by decide) rfl (fun h => by cases h) (Nat.le_of_ble_eq_true rfl) (fun X hR => zt_X12_row h hR)
