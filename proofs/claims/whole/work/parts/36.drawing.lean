/-! What the bytecode does, as functions of the memory, and the walks (written by wip/gen.py). -/
-- BlendCellar$Drawing.<init>()V
def zC_X2_init : Zc := (cX2_init, 1, RX2, 2, 32, true)
theorem zcl_X2_init {C : Zc} (h1 : zC_X2_init.2.2.2.1 + 1 ≤ C.2.2.2.1) (h2 : 8 + (zC_X2_init.2.1 + 11) + zC_X2_init.2.2.2.2.1 ≤ C.2.2.2.2.1) : zCl C yX2_init zC_X2_init none 0 := ⟨zw_298, zw_111, ⟨by decide, by decide⟩, by decide +kernel, h1, h2⟩
noncomputable def zf_X2_init (M : Zm) (l0 : Option Nat) : Option (Zm × Unit) :=
  zb1 (zo_rc M l0 3) (fun _ =>
  zb1 (zo_na M 16 (32 : Int32)) (fun M2 =>
  zb1 (zo_pr M2 l0 3 0 (zm_nx M)) (fun M3 =>
  zb1 (zo_na M3 15 (32 : Int32)) (fun M4 =>
  zb1 (zo_pr M4 l0 3 1 (zm_nx M3)) (fun M5 =>
  zb1 (zo_na M5 15 (60 : Int32)) (fun M6 =>
  zb1 (zo_pr M6 l0 3 2 (zm_nx M5)) (fun M7 =>
  zb1 (zo_pi M7 l0 3 3 (0 : Int32)) (fun M8 =>
  zb1 (zo_n M8 11 4) (fun M9 =>
  zb1 (zo_rc M9 (zm_nx M8) 11) (fun _ => zbd (zf_X10_init M9 (zm_nx M8)) (fun M10 _ =>
  zb1 (zo_pr M10 l0 3 4 (zm_nx M8)) (fun M11 =>
  some (M11, ())))))))))))))
set_option maxRecDepth 100000 in
theorem zt_X2_init {X : Zx} {M : Zm} {l0 : Option Nat} {z : Zm × Unit} (h : zf_X2_init M l0 = some z) (hR : zRv X zC_X2_init z.1) : zV X zC_X2_init M 0 [(0, .inr (.inr l0))] [] := by
  unfold zf_X2_init at h
  refine zV_b (pc' := 1) (lv' := [(0, .inr (.inr l0))]) (st' := [.inr (.inr l0)]) [(.aload_n 0, 1)] (by decide +kernel) rfl ?_
  refine zV_oo (by decide +kernel) zw_299 (by decide) (by decide) h (fun _ _ h => ?_)
  refine zV_b (pc' := 7) (lv' := [(0, .inr (.inr l0))]) (st' := [.inl (32 : Int32), .inr (.inr l0)]) [(.aload_n 0, 1), (.bipush 32, 2)] (by decide +kernel) rfl ?_
  refine zV_nr (k := 16) (by decide +kernel) (by decide) (by decide) zw_300 h (fun M2 _ h => ?_)
  refine zV_pr (by decide +kernel) zfp_RX2_11_i (Or.inr ⟨_, rfl⟩) (by decide) rfl h (fun M3 _ h => ?_)
  refine zV_b (pc' := 16) (lv' := [(0, .inr (.inr l0))]) (st' := [.inl (32 : Int32), .inr (.inr l0)]) [(.aload_n 0, 1), (.bipush 32, 2)] (by decide +kernel) rfl ?_
  refine zV_na (by decide +kernel) (Or.inr ⟨rfl, rfl⟩) h (fun M4 _ h => ?_)
  refine zV_pr (by decide +kernel) zfp_RX2_17_i (Or.inr ⟨_, rfl⟩) (by decide) rfl h (fun M5 _ h => ?_)
  refine zV_b (pc' := 24) (lv' := [(0, .inr (.inr l0))]) (st' := [.inl (60 : Int32), .inr (.inr l0)]) [(.aload_n 0, 1), (.bipush 60, 2)] (by decide +kernel) rfl ?_
  refine zV_na (by decide +kernel) (Or.inr ⟨rfl, rfl⟩) h (fun M6 _ h => ?_)
  refine zV_pr (by decide +kernel) zfp_RX2_21_i (Or.inr ⟨_, rfl⟩) (by decide) rfl h (fun M7 _ h => ?_)
  refine zV_b (pc' := 31) (lv' := [(0, .inr (.inr l0))]) (st' := [.inl (0 : Int32), .inr (.inr l0)]) [(.aload_n 0, 1), (.iconst 0, 1)] (by decide +kernel) rfl ?_
  refine zV_pi (by decide +kernel) zfp_RX2_24_i (by decide) rfl h (fun M8 _ h => ?_)
  refine zV_b (pc' := 35) (lv' := [(0, .inr (.inr l0))]) (st' := [.inr (.inr l0)]) [(.aload_n 0, 1)] (by decide +kernel) rfl ?_
  refine zV_n (by decide +kernel) znw_RX2_28 h (fun M9 _ h => ?_)
  refine zV_b (pc' := 39) (lv' := [(0, .inr (.inr l0))]) (st' := [.inr (.inr (zm_nx M8)), .inr (.inr (zm_nx M8)), .inr (.inr l0)]) [(.dup, 1)] (by decide +kernel) rfl ?_
  refine zV_cin (As := []) (st := [.inr (.inr (zm_nx M8)), .inr (.inr l0)]) (c := 11) (by decide +kernel) (zcl_X10_init (by decide) (by decide)) ⟨⟨_, zw_302⟩, rfl, zw_249⟩ rfl rfl (Nat.le_of_ble_eq_true rfl) h (fun _ _ e => zc_X10_init e) (fun M10 _ _ h => ?_)
  refine zV_pr (by decide +kernel) zfp_RX2_31_i (Or.inl ⟨_, rfl⟩) (by decide) rfl h (fun M11 _ h => ?_)
  exact zend_v h hR (by decide +kernel)
theorem zc_X2_init {M M' : Zm} {l0 : Option Nat} {x : Unit} (h : zf_X2_init M l0 = some (M', x)) (l : Launch) (D : va_G) (cy : Nat → ClassId) : zMet l yX2_init zC_X2_init none D cy [.inr (.inr l0)] M M' none :=
  zM_v (by decide) rfl (fun _ => rfl) (Nat.le_of_ble_eq_true rfl) (fun X hR => zt_X2_init h hR)
-- BlendCellar$Drawing.addGoing(LBlendCellar$Wine;LBlendCellar$Wine;)V
def zC_X2_addGoing : Zc := (cX2_addGoing, 4, RX2, 3, 72, false)
theorem zcl_X2_addGoing {C : Zc} (h1 : zC_X2_addGoing.2.2.2.1 + 1 ≤ C.2.2.2.1) (h2 : 8 + (zC_X2_addGoing.2.1 + 11) + zC_X2_addGoing.2.2.2.2.1 ≤ C.2.2.2.2.1) : zCl C yX2_addGoing zC_X2_addGoing none 2 := ⟨zw_897, zw_111, ⟨by decide, by decide⟩, by decide +kernel, h1, h2⟩
noncomputable def zf_X2_addGoing_J46 (M : Zm) (p0 : Option Nat) (p1 : Option Nat) (p2 : Option Nat) (l3 : Int32) : Option ((Zm × Int32) ⊕ (Zm × Int32)) :=
  some (.inl (M, (l3 + 1)))
noncomputable def zf_X2_addGoing_L2 (p0 : Option Nat) (p1 : Option Nat) (p2 : Option Nat) (x : Zm × Int32) : Option ((Zm × Int32) ⊕ (Zm × Int32)) := match x with
  | (M, l3) =>
  zb1 (zo_gi M p1 11 2) (fun v1 =>
  (if v1 ≤ l3 then
  some (.inr (M, l3))
  else
  zb1 (zo_gr M p0 3 2) (fun v3 =>
  zb1 (zo_al M v3) (fun v4 =>
  (if v4 ≤ l3 then
  some (.inr (M, l3))
  else
  zb1 (zo_gr M p0 3 2) (fun v6 =>
  zb1 (zo_aj M v6 l3) (fun v7 =>
  (if v7 ≤ (0 : Int64) then
  zf_X2_addGoing_J46 M p0 p1 p2 l3
  else
  zb1 (zo_gr M p1 11 0) (fun v10 =>
  zb1 (zo_ai M v10 l3) (fun v11 =>
  zb1 (zo_gr M p0 3 2) (fun v12 =>
  zb1 (zo_aj M v12 l3) (fun v13 =>
  zb1 (zo_rc M p2 11) (fun _ => zbd (zf_X10_add M p2 v11 v13) (fun M14 _ =>
  zf_X2_addGoing_J46 M14 p0 p1 p2 l3))))))))))))))
def zP_X2_addGoing_L2 (X : Zx) (p0 : Option Nat) (p1 : Option Nat) (p2 : Option Nat) (x : Zm × Int32) : Prop := match x with
  | (M, l3) => zV X zC_X2_addGoing M 2 [(0, .inr (.inr p0)), (1, .inr (.inr p1)), (2, .inr (.inr p2)), (3, .inl l3)] []
def zK_X2_addGoing_L2 (X : Zx) (p0 : Option Nat) (p1 : Option Nat) (p2 : Option Nat) (y : Zm × Int32) : Prop := match y with
  | (M, l3) => zV X zC_X2_addGoing M 52 [] []
noncomputable def zf_X2_addGoing (M : Zm) (l0 : Option Nat) (l1 : Option Nat) (l2 : Option Nat) : Option (Zm × Unit) :=
  zb1 (zwhile (zf_X2_addGoing_L2 l0 l1 l2) (M, (0 : Int32))) (fun y15 => match y15 with
  | (M2_15, l3_15) =>
  some (M2_15, ()))
set_option maxRecDepth 100000 in
theorem zt_X2_addGoing_J46 {X : Zx} {M : Zm} {p0 : Option Nat} {p1 : Option Nat} {p2 : Option Nat} {l3 : Int32} {z : (Zm × Int32) ⊕ (Zm × Int32)} (h : zf_X2_addGoing_J46 M p0 p1 p2 l3 = some z) (k1 : ∀ x' : Zm × Int32, z = .inl x' → zP_X2_addGoing_L2 X p0 p1 p2 x') (k2 : ∀ y : Zm × Int32, z = .inr y → zK_X2_addGoing_L2 X p0 p1 p2 y) : zV X zC_X2_addGoing M 46 [(0, .inr (.inr p0)), (1, .inr (.inr p1)), (2, .inr (.inr p2)), (3, .inl l3)] [] := by
  unfold zf_X2_addGoing_J46 at h
  refine zV_b (pc' := 49) (lv' := [(3, .inl (l3 + 1)), (0, .inr (.inr p0)), (1, .inr (.inr p1)), (2, .inr (.inr p2))]) (st' := []) [(.iinc 3 1, 3)] (by decide +kernel) rfl ?_
  refine zV_goto (off := (-47)) (tgt := 2) (by decide +kernel) (by decide) ?_
  exact zV_lv (lv' := [(0, .inr (.inr p0)), (1, .inr (.inr p1)), (2, .inr (.inr p2)), (3, .inl (l3 + 1))]) [1, 2, 3, 0] rfl (k1 _ (Option.some.inj h).symm)
set_option maxRecDepth 100000 in
theorem zt_X2_addGoing_L2 {X : Zx} {p0 : Option Nat} {p1 : Option Nat} {p2 : Option Nat} {x : Zm × Int32} {y : Zm × Int32} (h : zwhile (zf_X2_addGoing_L2 p0 p1 p2) x = some y) (hy : zK_X2_addGoing_L2 X p0 p1 p2 y) : zP_X2_addGoing_L2 X p0 p1 p2 x := by
  refine zwhile_ind (P := zP_X2_addGoing_L2 X p0 p1 p2) (K := zK_X2_addGoing_L2 X p0 p1 p2) ?_ h hy
  intro x z hf k1 k2
  obtain ⟨M, l3⟩ := x
  have h : zf_X2_addGoing_L2 p0 p1 p2 (M, l3) = some z := hf
  unfold zf_X2_addGoing_L2 at h
  show zV X zC_X2_addGoing M 2 [(0, .inr (.inr p0)), (1, .inr (.inr p1)), (2, .inr (.inr p2)), (3, .inl l3)] []
  refine zV_b (pc' := 4) (lv' := [(0, .inr (.inr p0)), (1, .inr (.inr p1)), (2, .inr (.inr p2)), (3, .inl l3)]) (st' := [.inr (.inr p1), .inl l3]) [(.iload_n 3, 1), (.aload_n 1, 1)] (by decide +kernel) rfl ?_
  refine zV_gi (by decide +kernel) zfl_RX2_90 (by decide) rfl (Or.inl rfl) h (fun v1 _ h => ?_)
  refine zV_icmp_ge (off := 45) (tgt := 52) (by decide +kernel) (by decide) h (fun c2 h => ?_) (fun c2 h => ?_)
  · exact zV_lv (lv' := []) [] rfl (k2 _ (Option.some.inj h).symm)
  · refine zV_b (pc' := 12) (lv' := [(0, .inr (.inr p0)), (1, .inr (.inr p1)), (2, .inr (.inr p2)), (3, .inl l3)]) (st' := [.inr (.inr p0), .inl l3]) [(.iload_n 3, 1), (.aload_n 0, 1)] (by decide +kernel) rfl ?_
    refine zV_gr (by decide +kernel) zfl_RX2_21 (by decide) rfl h (fun v3 _ h => ?_)
    refine zV_al (by decide +kernel) h (fun v4 _ h => ?_)
    refine zV_icmp_ge (off := 36) (tgt := 52) (by decide +kernel) (by decide) h (fun c5 h => ?_) (fun c5 h => ?_)
    · exact zV_lv (lv' := []) [] rfl (k2 _ (Option.some.inj h).symm)
    · refine zV_b (pc' := 20) (lv' := [(0, .inr (.inr p0)), (1, .inr (.inr p1)), (2, .inr (.inr p2)), (3, .inl l3)]) (st' := [.inr (.inr p0)]) [(.aload_n 0, 1)] (by decide +kernel) rfl ?_
      refine zV_gr (by decide +kernel) zfl_RX2_21 (by decide) rfl h (fun v6 _ h => ?_)
      refine zV_b (pc' := 24) (lv' := [(0, .inr (.inr p0)), (1, .inr (.inr p1)), (2, .inr (.inr p2)), (3, .inl l3)]) (st' := [.inl l3, .inr (.inr v6)]) [(.iload_n 3, 1)] (by decide +kernel) rfl ?_
      refine zV_aj (by decide +kernel) h (fun v7 _ h => ?_)
      refine zV_b (pc' := 26) (lv' := [(0, .inr (.inr p0)), (1, .inr (.inr p1)), (2, .inr (.inr p2)), (3, .inl l3)]) (st' := [.inr (.inl (0 : Int64)), .inr (.inl v7)]) [(.lconst 0, 1)] (by decide +kernel) rfl ?_
      refine zV_lcmp_le (off := 19) (tgt := 46) (by decide +kernel) (by decide +kernel) (by decide) h (fun c8 h => ?_) (fun c8 h => ?_)
      · exact zV_lv (lv' := [(0, .inr (.inr p0)), (1, .inr (.inr p1)), (2, .inr (.inr p2)), (3, .inl l3)]) [0, 1, 2, 3] rfl (zt_X2_addGoing_J46 h k1 k2)
      · refine zV_b (pc' := 32) (lv' := [(0, .inr (.inr p0)), (1, .inr (.inr p1)), (2, .inr (.inr p2)), (3, .inl l3)]) (st' := [.inr (.inr p1), .inr (.inr p2)]) [(.aload_n 2, 1), (.aload_n 1, 1)] (by decide +kernel) rfl ?_
        refine zV_gr (by decide +kernel) zfl_RX2_92 (by decide) rfl h (fun v10 _ h => ?_)
        refine zV_b (pc' := 36) (lv' := [(0, .inr (.inr p0)), (1, .inr (.inr p1)), (2, .inr (.inr p2)), (3, .inl l3)]) (st' := [.inl l3, .inr (.inr v10), .inr (.inr p2)]) [(.iload_n 3, 1)] (by decide +kernel) rfl ?_
        refine zV_ai (by decide +kernel) h (fun v11 _ h => ?_)
        refine zV_b (pc' := 38) (lv' := [(0, .inr (.inr p0)), (1, .inr (.inr p1)), (2, .inr (.inr p2)), (3, .inl l3)]) (st' := [.inr (.inr p0), .inl v11, .inr (.inr p2)]) [(.aload_n 0, 1)] (by decide +kernel) rfl ?_
        refine zV_gr (by decide +kernel) zfl_RX2_21 (by decide) rfl h (fun v12 _ h => ?_)
        refine zV_b (pc' := 42) (lv' := [(0, .inr (.inr p0)), (1, .inr (.inr p1)), (2, .inr (.inr p2)), (3, .inl l3)]) (st' := [.inl l3, .inr (.inr v12), .inl v11, .inr (.inr p2)]) [(.iload_n 3, 1)] (by decide +kernel) rfl ?_
        refine zV_aj (by decide +kernel) h (fun v13 _ h => ?_)
        refine zV_cvv (As := [.inl v11, .inr (.inl v13)]) (st := []) (c := 11) (by decide +kernel) (zcl_X10_add (by decide) (by decide)) ⟨zw_898, zw_823, zw_824⟩ ⟨⟨_, _, rfl⟩, by decide⟩ rfl rfl (Nat.le_of_ble_eq_true rfl) h (fun _ _ e => zc_X10_add e) (fun M14 _ _ h => ?_)
        exact zV_lv (lv' := [(0, .inr (.inr p0)), (1, .inr (.inr p1)), (2, .inr (.inr p2)), (3, .inl l3)]) [0, 1, 2, 3] rfl (zt_X2_addGoing_J46 h k1 k2)
set_option maxRecDepth 100000 in
theorem zt_X2_addGoing {X : Zx} {M : Zm} {l0 : Option Nat} {l1 : Option Nat} {l2 : Option Nat} {z : Zm × Unit} (h : zf_X2_addGoing M l0 l1 l2 = some z) (hR : zRv X zC_X2_addGoing z.1) : zV X zC_X2_addGoing M 0 [(0, .inr (.inr l0)), (1, .inr (.inr l1)), (2, .inr (.inr l2))] [] := by
  unfold zf_X2_addGoing at h
  refine zV_b (pc' := 2) (lv' := [(3, .inl (0 : Int32)), (0, .inr (.inr l0)), (1, .inr (.inr l1)), (2, .inr (.inr l2))]) (st' := []) [(.iconst 0, 1), (.istore_n 3, 1)] (by decide +kernel) rfl ?_
  obtain ⟨y15, e15, h⟩ := zb1_inv h
  refine zV_lv (lv' := [(0, .inr (.inr l0)), (1, .inr (.inr l1)), (2, .inr (.inr l2)), (3, .inl (0 : Int32))]) [1, 2, 3, 0] rfl (zt_X2_addGoing_L2 e15 ?_)
  obtain ⟨M2_15, l3_15⟩ := y15
  show zV X zC_X2_addGoing M2_15 52 [] []
  exact zend_v h hR (by decide +kernel)
theorem zc_X2_addGoing {M M' : Zm} {l0 : Option Nat} {l1 : Option Nat} {l2 : Option Nat} {x : Unit} (h : zf_X2_addGoing M l0 l1 l2 = some (M', x)) (l : Launch) (D : va_G) (cy : Nat → ClassId) : zMet l yX2_addGoing zC_X2_addGoing none D cy [.inr (.inr l0), .inr (.inr l1), .inr (.inr l2)] M M' none :=
  zM_v (by decide) rfl (fun h => by cases h) (Nat.le_of_ble_eq_true rfl) (fun X hR => zt_X2_addGoing h hR)
-- BlendCellar$Drawing.reckonShares(LBlendCellar$Wine;J)V
def zC_X2_reckonShares : Zc := (cX2_reckonShares, 9, RX2, 0, 0, false)
theorem zcl_X2_reckonShares {C : Zc} (h1 : zC_X2_reckonShares.2.2.2.1 + 1 ≤ C.2.2.2.1) (h2 : 8 + (zC_X2_reckonShares.2.1 + 11) + zC_X2_reckonShares.2.2.2.2.1 ≤ C.2.2.2.2.1) : zCl C yX2_reckonShares zC_X2_reckonShares none 2 := ⟨zw_893, zw_111, ⟨by decide, by decide⟩, by decide +kernel, h1, h2⟩
noncomputable def zf_X2_reckonShares_J60 (M : Zm) (p0 : Option Nat) (p1 : Option Nat) (p2 : Int64) (p4 : Int64) (l6 : Int64) (l8 : Int32) (s0 : Int64) (s1 : Int32) (s2 : Option Nat) : Option ((Zm × Int64 × Int32) ⊕ (Zm × Int64 × Int32)) :=
  zb1 (zo_sj M s2 s1 s0) (fun M10 =>
  zb1 (zo_gr M10 p0 3 2) (fun v11 =>
  zb1 (zo_aj M10 v11 l8) (fun v12 =>
  some (.inl (M10, (l6 - v12), (l8 + 1))))))
noncomputable def zf_X2_reckonShares_L12 (p0 : Option Nat) (p1 : Option Nat) (p2 : Int64) (p4 : Int64) (x : Zm × Int64 × Int32) : Option ((Zm × Int64 × Int32) ⊕ (Zm × Int64 × Int32)) := match x with
  | (M, l6, l8) =>
  zb1 (zo_gi M p1 11 2) (fun v2 =>
  (if v2 ≤ l8 then
  some (.inr (M, l6, l8))
  else
  zb1 (zo_gr M p0 3 2) (fun v4 =>
  zb1 (zo_al M v4) (fun v5 =>
  (if v5 ≤ l8 then
  some (.inr (M, l6, l8))
  else
  zb1 (zo_gr M p0 3 2) (fun v7 =>
  (if p4 = (0 : Int64) then
  zf_X2_reckonShares_J60 M p0 p1 p2 p4 l6 l8 (0 : Int64) l8 v7
  else
  zb1 (zo_gr M p1 11 1) (fun v14 =>
  zb1 (zo_aj M v14 l8) (fun v15 =>
  zb1 (zo_ld (p2 * v15) p4) (fun v16 =>
  zf_X2_reckonShares_J60 M p0 p1 p2 p4 l6 l8 v16 l8 v7))))))))))
def zP_X2_reckonShares_L12 (X : Zx) (p0 : Option Nat) (p1 : Option Nat) (p2 : Int64) (p4 : Int64) (x : Zm × Int64 × Int32) : Prop := match x with
  | (M, l6, l8) => zV X zC_X2_reckonShares M 12 [(0, .inr (.inr p0)), (1, .inr (.inr p1)), (2, .inr (.inl p2)), (4, .inr (.inl p4)), (6, .inr (.inl l6)), (8, .inl l8)] []
def zK_X2_reckonShares_L12 (X : Zx) (p0 : Option Nat) (p1 : Option Nat) (p2 : Int64) (p4 : Int64) (y : Zm × Int64 × Int32) : Prop := match y with
  | (M, l6, l8) => zV X zC_X2_reckonShares M 79 [(0, .inr (.inr p0)), (1, .inr (.inr p1)), (2, .inr (.inl p2)), (4, .inr (.inl p4)), (6, .inr (.inl l6))] []
noncomputable def zf_X2_reckonShares_J149 (M : Zm) (p0 : Option Nat) (p1 : Option Nat) (p2 : Int64) (p4 : Int64) (l6 : Int64) (l8 : Int32) : Option ((Zm × Int64 × Int32) ⊕ (Zm × Int64 × Int32)) :=
  some (.inl (M, l6, (l8 + 1)))
noncomputable def zf_X2_reckonShares_L82 (p0 : Option Nat) (p1 : Option Nat) (p2 : Int64) (p4 : Int64) (x : Zm × Int64 × Int32) : Option ((Zm × Int64 × Int32) ⊕ (Zm × Int64 × Int32)) := match x with
  | (M, l6, l8) =>
  zb1 (zo_gi M p1 11 2) (fun v18 =>
  (if v18 ≤ l8 then
  some (.inr (M, l6, l8))
  else
  zb1 (zo_gr M p0 3 2) (fun v20 =>
  zb1 (zo_al M v20) (fun v21 =>
  (if v21 ≤ l8 then
  some (.inr (M, l6, l8))
  else
  (if l6 ≤ (0 : Int64) then
  some (.inr (M, l6, l8))
  else
  (if p4 = (0 : Int64) then
  zf_X2_reckonShares_J149 M p0 p1 p2 p4 l6 l8
  else
  zb1 (zo_gr M p1 11 1) (fun v26 =>
  zb1 (zo_aj M v26 l8) (fun v27 =>
  zb1 (zo_lm (p2 * v27) p4) (fun v28 =>
  (if v28 = (0 : Int64) then
  zf_X2_reckonShares_J149 M p0 p1 p2 p4 l6 l8
  else
  zb1 (zo_gr M p0 3 2) (fun v30 =>
  zb1 (zo_aj M v30 l8) (fun v31 =>
  zb1 (zo_sj M v30 l8 (v31 + (1 : Int64))) (fun M32 =>
  zf_X2_reckonShares_J149 M32 p0 p1 p2 p4 (l6 - (1 : Int64)) l8))))))))))))))
def zP_X2_reckonShares_L82 (X : Zx) (p0 : Option Nat) (p1 : Option Nat) (p2 : Int64) (p4 : Int64) (x : Zm × Int64 × Int32) : Prop := match x with
  | (M, l6, l8) => zV X zC_X2_reckonShares M 82 [(0, .inr (.inr p0)), (1, .inr (.inr p1)), (2, .inr (.inl p2)), (4, .inr (.inl p4)), (6, .inr (.inl l6)), (8, .inl l8)] []
def zK_X2_reckonShares_L82 (X : Zx) (p0 : Option Nat) (p1 : Option Nat) (p2 : Int64) (p4 : Int64) (y : Zm × Int64 × Int32) : Prop := match y with
  | (M, l6, l8) => zV X zC_X2_reckonShares M 155 [] []
noncomputable def zf_X2_reckonShares (M : Zm) (l0 : Option Nat) (l1 : Option Nat) (l2 : Int64) : Option (Zm × Unit) :=
  zb1 (zo_gj M l1 11 3) (fun v1 =>
  zb1 (zwhile (zf_X2_reckonShares_L12 l0 l1 l2 v1) (M, l2, (0 : Int32))) (fun y17 => match y17 with
  | (M12_17, l6_17, l8_17) =>
  zb1 (zwhile (zf_X2_reckonShares_L82 l0 l1 l2 v1) (M12_17, l6_17, (0 : Int32))) (fun y33 => match y33 with
  | (M82_33, l6_33, l8_33) =>
  some (M82_33, ()))))
set_option maxRecDepth 100000 in
theorem zt_X2_reckonShares_J60 {X : Zx} {M : Zm} {p0 : Option Nat} {p1 : Option Nat} {p2 : Int64} {p4 : Int64} {l6 : Int64} {l8 : Int32} {s0 : Int64} {s1 : Int32} {s2 : Option Nat} {z : (Zm × Int64 × Int32) ⊕ (Zm × Int64 × Int32)} (h : zf_X2_reckonShares_J60 M p0 p1 p2 p4 l6 l8 s0 s1 s2 = some z) (k1 : ∀ x' : Zm × Int64 × Int32, z = .inl x' → zP_X2_reckonShares_L12 X p0 p1 p2 p4 x') (k2 : ∀ y : Zm × Int64 × Int32, z = .inr y → zK_X2_reckonShares_L12 X p0 p1 p2 p4 y) : zV X zC_X2_reckonShares M 60 [(0, .inr (.inr p0)), (1, .inr (.inr p1)), (2, .inr (.inl p2)), (4, .inr (.inl p4)), (6, .inr (.inl l6)), (8, .inl l8)] [.inr (.inl s0), .inl s1, .inr (.inr s2)] := by
  unfold zf_X2_reckonShares_J60 at h
  refine zV_sj (by decide +kernel) h (fun M10 _ h => ?_)
  refine zV_b (pc' := 64) (lv' := [(0, .inr (.inr p0)), (1, .inr (.inr p1)), (2, .inr (.inl p2)), (4, .inr (.inl p4)), (6, .inr (.inl l6)), (8, .inl l8)]) (st' := [.inr (.inr p0), .inr (.inl l6)]) [(.lload 6, 2), (.aload_n 0, 1)] (by decide +kernel) rfl ?_
  refine zV_gr (by decide +kernel) zfl_RX2_21 (by decide) rfl h (fun v11 _ h => ?_)
  refine zV_b (pc' := 69) (lv' := [(0, .inr (.inr p0)), (1, .inr (.inr p1)), (2, .inr (.inl p2)), (4, .inr (.inl p4)), (6, .inr (.inl l6)), (8, .inl l8)]) (st' := [.inl l8, .inr (.inr v11), .inr (.inl l6)]) [(.iload 8, 2)] (by decide +kernel) rfl ?_
  refine zV_aj (by decide +kernel) h (fun v12 _ h => ?_)
  refine zV_b (pc' := 76) (lv' := [(8, .inl (l8 + 1)), (6, .inr (.inl (l6 - v12))), (0, .inr (.inr p0)), (1, .inr (.inr p1)), (2, .inr (.inl p2)), (4, .inr (.inl p4))]) (st' := []) [(.lsub, 1), (.lstore 6, 2), (.iinc 8 1, 3)] (by decide +kernel) rfl ?_
  refine zV_goto (off := (-64)) (tgt := 12) (by decide +kernel) (by decide) ?_
  exact zV_lv (lv' := [(0, .inr (.inr p0)), (1, .inr (.inr p1)), (2, .inr (.inl p2)), (4, .inr (.inl p4)), (6, .inr (.inl (l6 - v12))), (8, .inl (l8 + 1))]) [2, 3, 4, 5, 1, 0] rfl (k1 _ (Option.some.inj h).symm)
set_option maxRecDepth 100000 in
theorem zt_X2_reckonShares_L12 {X : Zx} {p0 : Option Nat} {p1 : Option Nat} {p2 : Int64} {p4 : Int64} {x : Zm × Int64 × Int32} {y : Zm × Int64 × Int32} (h : zwhile (zf_X2_reckonShares_L12 p0 p1 p2 p4) x = some y) (hy : zK_X2_reckonShares_L12 X p0 p1 p2 p4 y) : zP_X2_reckonShares_L12 X p0 p1 p2 p4 x := by
  refine zwhile_ind (P := zP_X2_reckonShares_L12 X p0 p1 p2 p4) (K := zK_X2_reckonShares_L12 X p0 p1 p2 p4) ?_ h hy
  intro x z hf k1 k2
  obtain ⟨M, l6, l8⟩ := x
  have h : zf_X2_reckonShares_L12 p0 p1 p2 p4 (M, l6, l8) = some z := hf
  unfold zf_X2_reckonShares_L12 at h
  show zV X zC_X2_reckonShares M 12 [(0, .inr (.inr p0)), (1, .inr (.inr p1)), (2, .inr (.inl p2)), (4, .inr (.inl p4)), (6, .inr (.inl l6)), (8, .inl l8)] []
  refine zV_b (pc' := 15) (lv' := [(0, .inr (.inr p0)), (1, .inr (.inr p1)), (2, .inr (.inl p2)), (4, .inr (.inl p4)), (6, .inr (.inl l6)), (8, .inl l8)]) (st' := [.inr (.inr p1), .inl l8]) [(.iload 8, 2), (.aload_n 1, 1)] (by decide +kernel) rfl ?_
  refine zV_gi (by decide +kernel) zfl_RX2_90 (by decide) rfl (Or.inl rfl) h (fun v2 _ h => ?_)
  refine zV_icmp_ge (off := 61) (tgt := 79) (by decide +kernel) (by decide) h (fun c3 h => ?_) (fun c3 h => ?_)
  · exact zV_lv (lv' := [(0, .inr (.inr p0)), (1, .inr (.inr p1)), (2, .inr (.inl p2)), (4, .inr (.inl p4)), (6, .inr (.inl l6))]) [0, 1, 2, 3, 4] rfl (k2 _ (Option.some.inj h).symm)
  · refine zV_b (pc' := 24) (lv' := [(0, .inr (.inr p0)), (1, .inr (.inr p1)), (2, .inr (.inl p2)), (4, .inr (.inl p4)), (6, .inr (.inl l6)), (8, .inl l8)]) (st' := [.inr (.inr p0), .inl l8]) [(.iload 8, 2), (.aload_n 0, 1)] (by decide +kernel) rfl ?_
    refine zV_gr (by decide +kernel) zfl_RX2_21 (by decide) rfl h (fun v4 _ h => ?_)
    refine zV_al (by decide +kernel) h (fun v5 _ h => ?_)
    refine zV_icmp_ge (off := 51) (tgt := 79) (by decide +kernel) (by decide) h (fun c6 h => ?_) (fun c6 h => ?_)
    · exact zV_lv (lv' := [(0, .inr (.inr p0)), (1, .inr (.inr p1)), (2, .inr (.inl p2)), (4, .inr (.inl p4)), (6, .inr (.inl l6))]) [0, 1, 2, 3, 4] rfl (k2 _ (Option.some.inj h).symm)
    · refine zV_b (pc' := 32) (lv' := [(0, .inr (.inr p0)), (1, .inr (.inr p1)), (2, .inr (.inl p2)), (4, .inr (.inl p4)), (6, .inr (.inl l6)), (8, .inl l8)]) (st' := [.inr (.inr p0)]) [(.aload_n 0, 1)] (by decide +kernel) rfl ?_
      refine zV_gr (by decide +kernel) zfl_RX2_21 (by decide) rfl h (fun v7 _ h => ?_)
      refine zV_b (pc' := 40) (lv' := [(0, .inr (.inr p0)), (1, .inr (.inr p1)), (2, .inr (.inl p2)), (4, .inr (.inl p4)), (6, .inr (.inl l6)), (8, .inl l8)]) (st' := [.inr (.inl (0 : Int64)), .inr (.inl p4), .inl l8, .inr (.inr v7)]) [(.iload 8, 2), (.lload 4, 2), (.lconst 0, 1)] (by decide +kernel) rfl ?_
      refine zV_lcmp_ne (off := 7) (tgt := 48) (by decide +kernel) (by decide +kernel) (by decide) h (fun c8 h => ?_) (fun c8 h => ?_)
      · refine zV_b (pc' := 45) (lv' := [(0, .inr (.inr p0)), (1, .inr (.inr p1)), (2, .inr (.inl p2)), (4, .inr (.inl p4)), (6, .inr (.inl l6)), (8, .inl l8)]) (st' := [.inr (.inl (0 : Int64)), .inl l8, .inr (.inr v7)]) [(.lconst 0, 1)] (by decide +kernel) rfl ?_
        refine zV_goto (off := 15) (tgt := 60) (by decide +kernel) (by decide) ?_
        exact zV_lv (lv' := [(0, .inr (.inr p0)), (1, .inr (.inr p1)), (2, .inr (.inl p2)), (4, .inr (.inl p4)), (6, .inr (.inl l6)), (8, .inl l8)]) [0, 1, 2, 3, 4, 5] rfl (zt_X2_reckonShares_J60 h k1 k2)
      · refine zV_b (pc' := 50) (lv' := [(0, .inr (.inr p0)), (1, .inr (.inr p1)), (2, .inr (.inl p2)), (4, .inr (.inl p4)), (6, .inr (.inl l6)), (8, .inl l8)]) (st' := [.inr (.inr p1), .inr (.inl p2), .inl l8, .inr (.inr v7)]) [(.lload_n 2, 1), (.aload_n 1, 1)] (by decide +kernel) rfl ?_
        refine zV_gr (by decide +kernel) zfl_RX2_91 (by decide) rfl h (fun v14 _ h => ?_)
        refine zV_b (pc' := 55) (lv' := [(0, .inr (.inr p0)), (1, .inr (.inr p1)), (2, .inr (.inl p2)), (4, .inr (.inl p4)), (6, .inr (.inl l6)), (8, .inl l8)]) (st' := [.inl l8, .inr (.inr v14), .inr (.inl p2), .inl l8, .inr (.inr v7)]) [(.iload 8, 2)] (by decide +kernel) rfl ?_
        refine zV_aj (by decide +kernel) h (fun v15 _ h => ?_)
        refine zV_b (pc' := 59) (lv' := [(0, .inr (.inr p0)), (1, .inr (.inr p1)), (2, .inr (.inl p2)), (4, .inr (.inl p4)), (6, .inr (.inl l6)), (8, .inl l8)]) (st' := [.inr (.inl p4), .inr (.inl (p2 * v15)), .inl l8, .inr (.inr v7)]) [(.lmul, 1), (.lload 4, 2)] (by decide +kernel) rfl ?_
        refine zV_ld (by decide +kernel) h (fun v16 _ h => ?_)
        exact zV_lv (lv' := [(0, .inr (.inr p0)), (1, .inr (.inr p1)), (2, .inr (.inl p2)), (4, .inr (.inl p4)), (6, .inr (.inl l6)), (8, .inl l8)]) [0, 1, 2, 3, 4, 5] rfl (zt_X2_reckonShares_J60 h k1 k2)
set_option maxRecDepth 100000 in
theorem zt_X2_reckonShares_J149 {X : Zx} {M : Zm} {p0 : Option Nat} {p1 : Option Nat} {p2 : Int64} {p4 : Int64} {l6 : Int64} {l8 : Int32} {z : (Zm × Int64 × Int32) ⊕ (Zm × Int64 × Int32)} (h : zf_X2_reckonShares_J149 M p0 p1 p2 p4 l6 l8 = some z) (k1 : ∀ x' : Zm × Int64 × Int32, z = .inl x' → zP_X2_reckonShares_L82 X p0 p1 p2 p4 x') (k2 : ∀ y : Zm × Int64 × Int32, z = .inr y → zK_X2_reckonShares_L82 X p0 p1 p2 p4 y) : zV X zC_X2_reckonShares M 149 [(0, .inr (.inr p0)), (1, .inr (.inr p1)), (2, .inr (.inl p2)), (4, .inr (.inl p4)), (6, .inr (.inl l6)), (8, .inl l8)] [] := by
  unfold zf_X2_reckonShares_J149 at h
  refine zV_b (pc' := 152) (lv' := [(8, .inl (l8 + 1)), (0, .inr (.inr p0)), (1, .inr (.inr p1)), (2, .inr (.inl p2)), (4, .inr (.inl p4)), (6, .inr (.inl l6))]) (st' := []) [(.iinc 8 1, 3)] (by decide +kernel) rfl ?_
  refine zV_goto (off := (-70)) (tgt := 82) (by decide +kernel) (by decide) ?_
  exact zV_lv (lv' := [(0, .inr (.inr p0)), (1, .inr (.inr p1)), (2, .inr (.inl p2)), (4, .inr (.inl p4)), (6, .inr (.inl l6)), (8, .inl (l8 + 1))]) [1, 2, 3, 4, 5, 0] rfl (k1 _ (Option.some.inj h).symm)
set_option maxRecDepth 100000 in
theorem zt_X2_reckonShares_L82 {X : Zx} {p0 : Option Nat} {p1 : Option Nat} {p2 : Int64} {p4 : Int64} {x : Zm × Int64 × Int32} {y : Zm × Int64 × Int32} (h : zwhile (zf_X2_reckonShares_L82 p0 p1 p2 p4) x = some y) (hy : zK_X2_reckonShares_L82 X p0 p1 p2 p4 y) : zP_X2_reckonShares_L82 X p0 p1 p2 p4 x := by
  refine zwhile_ind (P := zP_X2_reckonShares_L82 X p0 p1 p2 p4) (K := zK_X2_reckonShares_L82 X p0 p1 p2 p4) ?_ h hy
  intro x z hf k1 k2
  obtain ⟨M, l6, l8⟩ := x
  have h : zf_X2_reckonShares_L82 p0 p1 p2 p4 (M, l6, l8) = some z := hf
  unfold zf_X2_reckonShares_L82 at h
  show zV X zC_X2_reckonShares M 82 [(0, .inr (.inr p0)), (1, .inr (.inr p1)), (2, .inr (.inl p2)), (4, .inr (.inl p4)), (6, .inr (.inl l6)), (8, .inl l8)] []
  refine zV_b (pc' := 85) (lv' := [(0, .inr (.inr p0)), (1, .inr (.inr p1)), (2, .inr (.inl p2)), (4, .inr (.inl p4)), (6, .inr (.inl l6)), (8, .inl l8)]) (st' := [.inr (.inr p1), .inl l8]) [(.iload 8, 2), (.aload_n 1, 1)] (by decide +kernel) rfl ?_
  refine zV_gi (by decide +kernel) zfl_RX2_90 (by decide) rfl (Or.inl rfl) h (fun v18 _ h => ?_)
  refine zV_icmp_ge (off := 67) (tgt := 155) (by decide +kernel) (by decide) h (fun c19 h => ?_) (fun c19 h => ?_)
  · exact zV_lv (lv' := []) [] rfl (k2 _ (Option.some.inj h).symm)
  · refine zV_b (pc' := 94) (lv' := [(0, .inr (.inr p0)), (1, .inr (.inr p1)), (2, .inr (.inl p2)), (4, .inr (.inl p4)), (6, .inr (.inl l6)), (8, .inl l8)]) (st' := [.inr (.inr p0), .inl l8]) [(.iload 8, 2), (.aload_n 0, 1)] (by decide +kernel) rfl ?_
    refine zV_gr (by decide +kernel) zfl_RX2_21 (by decide) rfl h (fun v20 _ h => ?_)
    refine zV_al (by decide +kernel) h (fun v21 _ h => ?_)
    refine zV_icmp_ge (off := 57) (tgt := 155) (by decide +kernel) (by decide) h (fun c22 h => ?_) (fun c22 h => ?_)
    · exact zV_lv (lv' := []) [] rfl (k2 _ (Option.some.inj h).symm)
    · refine zV_b (pc' := 104) (lv' := [(0, .inr (.inr p0)), (1, .inr (.inr p1)), (2, .inr (.inl p2)), (4, .inr (.inl p4)), (6, .inr (.inl l6)), (8, .inl l8)]) (st' := [.inr (.inl (0 : Int64)), .inr (.inl l6)]) [(.lload 6, 2), (.lconst 0, 1)] (by decide +kernel) rfl ?_
      refine zV_lcmp_le (off := 50) (tgt := 155) (by decide +kernel) (by decide +kernel) (by decide) h (fun c23 h => ?_) (fun c23 h => ?_)
      · exact zV_lv (lv' := []) [] rfl (k2 _ (Option.some.inj h).symm)
      · refine zV_b (pc' := 111) (lv' := [(0, .inr (.inr p0)), (1, .inr (.inr p1)), (2, .inr (.inl p2)), (4, .inr (.inl p4)), (6, .inr (.inl l6)), (8, .inl l8)]) (st' := [.inr (.inl (0 : Int64)), .inr (.inl p4)]) [(.lload 4, 2), (.lconst 0, 1)] (by decide +kernel) rfl ?_
        refine zV_lcmp_eq (off := 37) (tgt := 149) (by decide +kernel) (by decide +kernel) (by decide) h (fun c24 h => ?_) (fun c24 h => ?_)
        · exact zV_lv (lv' := [(0, .inr (.inr p0)), (1, .inr (.inr p1)), (2, .inr (.inl p2)), (4, .inr (.inl p4)), (6, .inr (.inl l6)), (8, .inl l8)]) [0, 1, 2, 3, 4, 5] rfl (zt_X2_reckonShares_J149 h k1 k2)
        · refine zV_b (pc' := 117) (lv' := [(0, .inr (.inr p0)), (1, .inr (.inr p1)), (2, .inr (.inl p2)), (4, .inr (.inl p4)), (6, .inr (.inl l6)), (8, .inl l8)]) (st' := [.inr (.inr p1), .inr (.inl p2)]) [(.lload_n 2, 1), (.aload_n 1, 1)] (by decide +kernel) rfl ?_
          refine zV_gr (by decide +kernel) zfl_RX2_91 (by decide) rfl h (fun v26 _ h => ?_)
          refine zV_b (pc' := 122) (lv' := [(0, .inr (.inr p0)), (1, .inr (.inr p1)), (2, .inr (.inl p2)), (4, .inr (.inl p4)), (6, .inr (.inl l6)), (8, .inl l8)]) (st' := [.inl l8, .inr (.inr v26), .inr (.inl p2)]) [(.iload 8, 2)] (by decide +kernel) rfl ?_
          refine zV_aj (by decide +kernel) h (fun v27 _ h => ?_)
          refine zV_b (pc' := 126) (lv' := [(0, .inr (.inr p0)), (1, .inr (.inr p1)), (2, .inr (.inl p2)), (4, .inr (.inl p4)), (6, .inr (.inl l6)), (8, .inl l8)]) (st' := [.inr (.inl p4), .inr (.inl (p2 * v27))]) [(.lmul, 1), (.lload 4, 2)] (by decide +kernel) rfl ?_
          refine zV_lm (by decide +kernel) h (fun v28 _ h => ?_)
          refine zV_b (pc' := 128) (lv' := [(0, .inr (.inr p0)), (1, .inr (.inr p1)), (2, .inr (.inl p2)), (4, .inr (.inl p4)), (6, .inr (.inl l6)), (8, .inl l8)]) (st' := [.inr (.inl (0 : Int64)), .inr (.inl v28)]) [(.lconst 0, 1)] (by decide +kernel) rfl ?_
          refine zV_lcmp_eq (off := 20) (tgt := 149) (by decide +kernel) (by decide +kernel) (by decide) h (fun c29 h => ?_) (fun c29 h => ?_)
          · exact zV_lv (lv' := [(0, .inr (.inr p0)), (1, .inr (.inr p1)), (2, .inr (.inl p2)), (4, .inr (.inl p4)), (6, .inr (.inl l6)), (8, .inl l8)]) [0, 1, 2, 3, 4, 5] rfl (zt_X2_reckonShares_J149 h k1 k2)
          · refine zV_b (pc' := 133) (lv' := [(0, .inr (.inr p0)), (1, .inr (.inr p1)), (2, .inr (.inl p2)), (4, .inr (.inl p4)), (6, .inr (.inl l6)), (8, .inl l8)]) (st' := [.inr (.inr p0)]) [(.aload_n 0, 1)] (by decide +kernel) rfl ?_
            refine zV_gr (by decide +kernel) zfl_RX2_21 (by decide) rfl h (fun v30 _ h => ?_)
            refine zV_b (pc' := 139) (lv' := [(0, .inr (.inr p0)), (1, .inr (.inr p1)), (2, .inr (.inl p2)), (4, .inr (.inl p4)), (6, .inr (.inl l6)), (8, .inl l8)]) (st' := [.inl l8, .inr (.inr v30), .inl l8, .inr (.inr v30)]) [(.iload 8, 2), (.dup2, 1)] (by decide +kernel) rfl ?_
            refine zV_aj (by decide +kernel) h (fun v31 _ h => ?_)
            refine zV_b (pc' := 142) (lv' := [(0, .inr (.inr p0)), (1, .inr (.inr p1)), (2, .inr (.inl p2)), (4, .inr (.inl p4)), (6, .inr (.inl l6)), (8, .inl l8)]) (st' := [.inr (.inl (v31 + (1 : Int64))), .inl l8, .inr (.inr v30)]) [(.lconst 1, 1), (.ladd, 1)] (by decide +kernel) rfl ?_
            refine zV_sj (by decide +kernel) h (fun M32 _ h => ?_)
            refine zV_b (pc' := 149) (lv' := [(6, .inr (.inl (l6 - (1 : Int64)))), (0, .inr (.inr p0)), (1, .inr (.inr p1)), (2, .inr (.inl p2)), (4, .inr (.inl p4)), (8, .inl l8)]) (st' := []) [(.lload 6, 2), (.lconst 1, 1), (.lsub, 1), (.lstore 6, 2)] (by decide +kernel) rfl ?_
            exact zV_lv (lv' := [(0, .inr (.inr p0)), (1, .inr (.inr p1)), (2, .inr (.inl p2)), (4, .inr (.inl p4)), (6, .inr (.inl (l6 - (1 : Int64)))), (8, .inl l8)]) [1, 2, 3, 4, 0, 5] rfl (zt_X2_reckonShares_J149 h k1 k2)
set_option maxRecDepth 100000 in
theorem zt_X2_reckonShares {X : Zx} {M : Zm} {l0 : Option Nat} {l1 : Option Nat} {l2 : Int64} {z : Zm × Unit} (h : zf_X2_reckonShares M l0 l1 l2 = some z) (hR : zRv X zC_X2_reckonShares z.1) : zV X zC_X2_reckonShares M 0 [(0, .inr (.inr l0)), (1, .inr (.inr l1)), (2, .inr (.inl l2))] [] := by
  unfold zf_X2_reckonShares at h
  refine zV_b (pc' := 1) (lv' := [(0, .inr (.inr l0)), (1, .inr (.inr l1)), (2, .inr (.inl l2))]) (st' := [.inr (.inr l1)]) [(.aload_n 1, 1)] (by decide +kernel) rfl ?_
  refine zV_gj (by decide +kernel) zfl_RX2_86 (by decide) rfl h (fun v1 _ h => ?_)
  refine zV_b (pc' := 12) (lv' := [(8, .inl (0 : Int32)), (6, .inr (.inl l2)), (4, .inr (.inl v1)), (0, .inr (.inr l0)), (1, .inr (.inr l1)), (2, .inr (.inl l2))]) (st' := []) [(.lstore 4, 2), (.lload_n 2, 1), (.lstore 6, 2), (.iconst 0, 1), (.istore 8, 2)] (by decide +kernel) rfl ?_
  obtain ⟨y17, e17, h⟩ := zb1_inv h
  refine zV_lv (lv' := [(0, .inr (.inr l0)), (1, .inr (.inr l1)), (2, .inr (.inl l2)), (4, .inr (.inl v1)), (6, .inr (.inl l2)), (8, .inl (0 : Int32))]) [3, 4, 5, 2, 1, 0] rfl (zt_X2_reckonShares_L12 e17 ?_)
  obtain ⟨M12_17, l6_17, l8_17⟩ := y17
  show zV X zC_X2_reckonShares M12_17 79 [(0, .inr (.inr l0)), (1, .inr (.inr l1)), (2, .inr (.inl l2)), (4, .inr (.inl v1)), (6, .inr (.inl l6_17))] []
  refine zV_b (pc' := 82) (lv' := [(8, .inl (0 : Int32)), (0, .inr (.inr l0)), (1, .inr (.inr l1)), (2, .inr (.inl l2)), (4, .inr (.inl v1)), (6, .inr (.inl l6_17))]) (st' := []) [(.iconst 0, 1), (.istore 8, 2)] (by decide +kernel) rfl ?_
  obtain ⟨y33, e33, h⟩ := zb1_inv h
  refine zV_lv (lv' := [(0, .inr (.inr l0)), (1, .inr (.inr l1)), (2, .inr (.inl l2)), (4, .inr (.inl v1)), (6, .inr (.inl l6_17)), (8, .inl (0 : Int32))]) [1, 2, 3, 4, 5, 0] rfl (zt_X2_reckonShares_L82 e33 ?_)
  obtain ⟨M82_33, l6_33, l8_33⟩ := y33
  show zV X zC_X2_reckonShares M82_33 155 [] []
  exact zend_v h hR (by decide +kernel)
theorem zc_X2_reckonShares {M M' : Zm} {l0 : Option Nat} {l1 : Option Nat} {l2 : Int64} {x : Unit} (h : zf_X2_reckonShares M l0 l1 l2 = some (M', x)) (l : Launch) (D : va_G) (cy : Nat → ClassId) : zMet l yX2_reckonShares zC_X2_reckonShares none D cy [.inr (.inr l0), .inr (.inr l1), .inr (.inl l2)] M M' none :=
  zM_v (by decide) rfl (fun h => by cases h) (Nat.le_of_ble_eq_true rfl) (fun X hR => zt_X2_reckonShares h hR)
-- BlendCellar$Drawing.takeOut(LBlendCellar$Wine;JLBlendCellar$Wine;)V
def zC_X2_takeOut : Zc := (cX2_takeOut, 5, RX2, 4, 95, false)
theorem zcl_X2_takeOut {C : Zc} (h1 : zC_X2_takeOut.2.2.2.1 + 1 ≤ C.2.2.2.1) (h2 : 8 + (zC_X2_takeOut.2.1 + 11) + zC_X2_takeOut.2.2.2.2.1 ≤ C.2.2.2.2.1) : zCl C yX2_takeOut zC_X2_takeOut none 3 := ⟨zw_923, zw_111, ⟨by decide, by decide⟩, by decide +kernel, h1, h2⟩
noncomputable def zf_X2_takeOut (M : Zm) (l0 : Option Nat) (l1 : Option Nat) (l2 : Int64) (l4 : Option Nat) : Option (Zm × Unit) :=
  zb1 (zo_rc M l0 3) (fun _ => zbd (zf_X2_reckonShares M l0 l1 l2) (fun M1 _ =>
  zb1 (zo_rc M1 l0 3) (fun _ => zbd (zf_X2_addGoing M1 l0 l1 l4) (fun M2 _ =>
  zb1 (zo_gr M2 l0 3 2) (fun v3 =>
  zb1 (zo_rc M2 l1 11) (fun _ => zbd (zf_X10_lessen M2 l1 v3) (fun M4 _ =>
  some (M4, ()))))))))
set_option maxRecDepth 100000 in
theorem zt_X2_takeOut {X : Zx} {M : Zm} {l0 : Option Nat} {l1 : Option Nat} {l2 : Int64} {l4 : Option Nat} {z : Zm × Unit} (h : zf_X2_takeOut M l0 l1 l2 l4 = some z) (hR : zRv X zC_X2_takeOut z.1) : zV X zC_X2_takeOut M 0 [(0, .inr (.inr l0)), (1, .inr (.inr l1)), (2, .inr (.inl l2)), (4, .inr (.inr l4))] [] := by
  unfold zf_X2_takeOut at h
  refine zV_b (pc' := 3) (lv' := [(0, .inr (.inr l0)), (1, .inr (.inr l1)), (2, .inr (.inl l2)), (4, .inr (.inr l4))]) (st' := [.inr (.inl l2), .inr (.inr l1), .inr (.inr l0)]) [(.aload_n 0, 1), (.aload_n 1, 1), (.lload_n 2, 1)] (by decide +kernel) rfl ?_
  refine zV_cvv (As := [.inr (.inr l1), .inr (.inl l2)]) (st := []) (c := 3) (by decide +kernel) (zcl_X2_reckonShares (by decide) (by decide)) ⟨zw_890, zw_892, zw_29⟩ ⟨⟨_, _, rfl⟩, by decide⟩ rfl rfl (Nat.le_of_ble_eq_true rfl) h (fun _ _ e => zc_X2_reckonShares e) (fun M1 _ _ h => ?_)
  refine zV_b (pc' := 10) (lv' := [(0, .inr (.inr l0)), (1, .inr (.inr l1)), (2, .inr (.inl l2)), (4, .inr (.inr l4))]) (st' := [.inr (.inr l4), .inr (.inr l1), .inr (.inr l0)]) [(.aload_n 0, 1), (.aload_n 1, 1), (.aload 4, 2)] (by decide +kernel) rfl ?_
  refine zV_cvv (As := [.inr (.inr l1), .inr (.inr l4)]) (st := []) (c := 3) (by decide +kernel) (zcl_X2_addGoing (by decide) (by decide)) ⟨zw_894, zw_896, zw_30⟩ ⟨⟨_, _, rfl⟩, by decide⟩ rfl rfl (Nat.le_of_ble_eq_true rfl) h (fun _ _ e => zc_X2_addGoing e) (fun M2 _ _ h => ?_)
  refine zV_b (pc' := 15) (lv' := [(0, .inr (.inr l0)), (1, .inr (.inr l1)), (2, .inr (.inl l2)), (4, .inr (.inr l4))]) (st' := [.inr (.inr l0), .inr (.inr l1)]) [(.aload_n 1, 1), (.aload_n 0, 1)] (by decide +kernel) rfl ?_
  refine zV_gr (by decide +kernel) zfl_RX2_21 (by decide) rfl h (fun v3 _ h => ?_)
  refine zV_cvv (As := [.inr (.inr v3)]) (st := []) (c := 11) (by decide +kernel) (zcl_X10_lessen (by decide) (by decide)) ⟨zw_924, zw_925, zw_926⟩ ⟨⟨_, _, rfl⟩, by decide⟩ rfl rfl (Nat.le_of_ble_eq_true rfl) h (fun _ _ e => zc_X10_lessen e) (fun M4 _ _ h => ?_)
  exact zend_v h hR (by decide +kernel)
theorem zc_X2_takeOut {M M' : Zm} {l0 : Option Nat} {l1 : Option Nat} {l2 : Int64} {l4 : Option Nat} {x : Unit} (h : zf_X2_takeOut M l0 l1 l2 l4 = some (M', x)) (l : Launch) (D : va_G) (cy : Nat → ClassId) : zMet l yX2_takeOut zC_X2_takeOut none D cy [.inr (.inr l0), .inr (.inr l1), .inr (.inl l2), .inr (.inr l4)] M M' none :=
  zM_v (by decide) rfl (fun h => by cases h) (Nat.le_of_ble_eq_true rfl) (fun X hR => zt_X2_takeOut h hR)
-- BlendCellar$Drawing.carryOut(LBlendCellar$Before;LBlendCellar$Wine;)V
def zC_X2_carryOut : Zc := (cX2_carryOut, 4, RX2, 8, 178, false)
theorem zcl_X2_carryOut {C : Zc} (h1 : zC_X2_carryOut.2.2.2.1 + 1 ≤ C.2.2.2.1) (h2 : 8 + (zC_X2_carryOut.2.1 + 11) + zC_X2_carryOut.2.2.2.2.1 ≤ C.2.2.2.2.1) : zCl C yX2_carryOut zC_X2_carryOut none 2 := ⟨zw_918, zw_111, ⟨by decide, by decide⟩, by decide +kernel, h1, h2⟩
noncomputable def zf_X2_carryOut_L2 (p0 : Option Nat) (p1 : Option Nat) (p2 : Option Nat) (x : Zm × Int32) : Option ((Zm × Int32) ⊕ (Zm × Int32)) := match x with
  | (M, l3) =>
  zb1 (zo_gi M p0 3 3) (fun v1 =>
  (if v1 ≤ l3 then
  some (.inr (M, l3))
  else
  zb1 (zo_gr M p0 3 0) (fun v3 =>
  zb1 (zo_ar M 16 v3 l3) (fun v4 =>
  zb1 (zo_rc M p1 2) (fun _ => zbd (zf_X1_keepBarrel M p1 v4) (fun M5 _ =>
  zb1 (zo_gr M5 p0 3 0) (fun v6 =>
  zb1 (zo_ar M5 16 v6 l3) (fun v7 =>
  zb1 (zo_gr M5 v7 1 5) (fun v8 =>
  zb1 (zo_gr M5 p0 3 1) (fun v9 =>
  zb1 (zo_aj M5 v9 l3) (fun v10 =>
  zb1 (zo_rc M5 p0 3) (fun _ => zbd (zf_X2_takeOut M5 p0 v8 v10 p2) (fun M11 _ =>
  some (.inl (M11, (l3 + 1))))))))))))))))
def zP_X2_carryOut_L2 (X : Zx) (p0 : Option Nat) (p1 : Option Nat) (p2 : Option Nat) (x : Zm × Int32) : Prop := match x with
  | (M, l3) => zV X zC_X2_carryOut M 2 [(0, .inr (.inr p0)), (1, .inr (.inr p1)), (2, .inr (.inr p2)), (3, .inl l3)] []
def zK_X2_carryOut_L2 (X : Zx) (p0 : Option Nat) (p1 : Option Nat) (p2 : Option Nat) (y : Zm × Int32) : Prop := match y with
  | (M, l3) => zV X zC_X2_carryOut M 46 [] []
noncomputable def zf_X2_carryOut (M : Zm) (l0 : Option Nat) (l1 : Option Nat) (l2 : Option Nat) : Option (Zm × Unit) :=
  zb1 (zwhile (zf_X2_carryOut_L2 l0 l1 l2) (M, (0 : Int32))) (fun y13 => match y13 with
  | (M2_13, l3_13) =>
  some (M2_13, ()))
set_option maxRecDepth 100000 in
theorem zt_X2_carryOut_L2 {X : Zx} {p0 : Option Nat} {p1 : Option Nat} {p2 : Option Nat} {x : Zm × Int32} {y : Zm × Int32} (h : zwhile (zf_X2_carryOut_L2 p0 p1 p2) x = some y) (hy : zK_X2_carryOut_L2 X p0 p1 p2 y) : zP_X2_carryOut_L2 X p0 p1 p2 x := by
  refine zwhile_ind (P := zP_X2_carryOut_L2 X p0 p1 p2) (K := zK_X2_carryOut_L2 X p0 p1 p2) ?_ h hy
  intro x z hf k1 k2
  obtain ⟨M, l3⟩ := x
  have h : zf_X2_carryOut_L2 p0 p1 p2 (M, l3) = some z := hf
  unfold zf_X2_carryOut_L2 at h
  show zV X zC_X2_carryOut M 2 [(0, .inr (.inr p0)), (1, .inr (.inr p1)), (2, .inr (.inr p2)), (3, .inl l3)] []
  refine zV_b (pc' := 4) (lv' := [(0, .inr (.inr p0)), (1, .inr (.inr p1)), (2, .inr (.inr p2)), (3, .inl l3)]) (st' := [.inr (.inr p0), .inl l3]) [(.iload_n 3, 1), (.aload_n 0, 1)] (by decide +kernel) rfl ?_
  refine zV_gi (by decide +kernel) zfl_RX2_24 (by decide) rfl (Or.inl rfl) h (fun v1 _ h => ?_)
  refine zV_icmp_ge (off := 39) (tgt := 46) (by decide +kernel) (by decide) h (fun c2 h => ?_) (fun c2 h => ?_)
  · exact zV_lv (lv' := []) [] rfl (k2 _ (Option.some.inj h).symm)
  · refine zV_b (pc' := 12) (lv' := [(0, .inr (.inr p0)), (1, .inr (.inr p1)), (2, .inr (.inr p2)), (3, .inl l3)]) (st' := [.inr (.inr p0), .inr (.inr p1)]) [(.aload_n 1, 1), (.aload_n 0, 1)] (by decide +kernel) rfl ?_
    refine zV_gr (by decide +kernel) zfl_RX2_11 (by decide) rfl h (fun v3 _ h => ?_)
    refine zV_b (pc' := 16) (lv' := [(0, .inr (.inr p0)), (1, .inr (.inr p1)), (2, .inr (.inr p2)), (3, .inl l3)]) (st' := [.inl l3, .inr (.inr v3), .inr (.inr p1)]) [(.iload_n 3, 1)] (by decide +kernel) rfl ?_
    refine zV_ar (by decide +kernel) (by decide) (by decide) h (fun v4 _ h => ?_)
    refine zV_cvv (As := [.inr (.inr v4)]) (st := []) (c := 2) (by decide +kernel) (zcl_X1_keepBarrel (by decide) (by decide)) ⟨zw_919, zw_697, zw_698⟩ ⟨⟨_, _, rfl⟩, by decide⟩ rfl rfl (Nat.le_of_ble_eq_true rfl) h (fun _ _ e => zc_X1_keepBarrel e) (fun M5 _ _ h => ?_)
    refine zV_b (pc' := 22) (lv' := [(0, .inr (.inr p0)), (1, .inr (.inr p1)), (2, .inr (.inr p2)), (3, .inl l3)]) (st' := [.inr (.inr p0), .inr (.inr p0)]) [(.aload_n 0, 1), (.aload_n 0, 1)] (by decide +kernel) rfl ?_
    refine zV_gr (by decide +kernel) zfl_RX2_11 (by decide) rfl h (fun v6 _ h => ?_)
    refine zV_b (pc' := 26) (lv' := [(0, .inr (.inr p0)), (1, .inr (.inr p1)), (2, .inr (.inr p2)), (3, .inl l3)]) (st' := [.inl l3, .inr (.inr v6), .inr (.inr p0)]) [(.iload_n 3, 1)] (by decide +kernel) rfl ?_
    refine zV_ar (by decide +kernel) (by decide) (by decide) h (fun v7 _ h => ?_)
    refine zV_gr (by decide +kernel) zfl_RX2_61 (by decide) rfl h (fun v8 _ h => ?_)
    refine zV_b (pc' := 31) (lv' := [(0, .inr (.inr p0)), (1, .inr (.inr p1)), (2, .inr (.inr p2)), (3, .inl l3)]) (st' := [.inr (.inr p0), .inr (.inr v8), .inr (.inr p0)]) [(.aload_n 0, 1)] (by decide +kernel) rfl ?_
    refine zV_gr (by decide +kernel) zfl_RX2_17 (by decide) rfl h (fun v9 _ h => ?_)
    refine zV_b (pc' := 35) (lv' := [(0, .inr (.inr p0)), (1, .inr (.inr p1)), (2, .inr (.inr p2)), (3, .inl l3)]) (st' := [.inl l3, .inr (.inr v9), .inr (.inr v8), .inr (.inr p0)]) [(.iload_n 3, 1)] (by decide +kernel) rfl ?_
    refine zV_aj (by decide +kernel) h (fun v10 _ h => ?_)
    refine zV_b (pc' := 37) (lv' := [(0, .inr (.inr p0)), (1, .inr (.inr p1)), (2, .inr (.inr p2)), (3, .inl l3)]) (st' := [.inr (.inr p2), .inr (.inl v10), .inr (.inr v8), .inr (.inr p0)]) [(.aload_n 2, 1)] (by decide +kernel) rfl ?_
    refine zV_cvv (As := [.inr (.inr v8), .inr (.inl v10), .inr (.inr p2)]) (st := []) (c := 3) (by decide +kernel) (zcl_X2_takeOut (by decide) (by decide)) ⟨zw_920, zw_921, zw_922⟩ ⟨⟨_, _, rfl⟩, by decide⟩ rfl rfl (Nat.le_of_ble_eq_true rfl) h (fun _ _ e => zc_X2_takeOut e) (fun M11 _ _ h => ?_)
    refine zV_b (pc' := 43) (lv' := [(3, .inl (l3 + 1)), (0, .inr (.inr p0)), (1, .inr (.inr p1)), (2, .inr (.inr p2))]) (st' := []) [(.iinc 3 1, 3)] (by decide +kernel) rfl ?_
    refine zV_goto (off := (-41)) (tgt := 2) (by decide +kernel) (by decide) ?_
    exact zV_lv (lv' := [(0, .inr (.inr p0)), (1, .inr (.inr p1)), (2, .inr (.inr p2)), (3, .inl (l3 + 1))]) [1, 2, 3, 0] rfl (k1 _ (Option.some.inj h).symm)
set_option maxRecDepth 100000 in
theorem zt_X2_carryOut {X : Zx} {M : Zm} {l0 : Option Nat} {l1 : Option Nat} {l2 : Option Nat} {z : Zm × Unit} (h : zf_X2_carryOut M l0 l1 l2 = some z) (hR : zRv X zC_X2_carryOut z.1) : zV X zC_X2_carryOut M 0 [(0, .inr (.inr l0)), (1, .inr (.inr l1)), (2, .inr (.inr l2))] [] := by
  unfold zf_X2_carryOut at h
  refine zV_b (pc' := 2) (lv' := [(3, .inl (0 : Int32)), (0, .inr (.inr l0)), (1, .inr (.inr l1)), (2, .inr (.inr l2))]) (st' := []) [(.iconst 0, 1), (.istore_n 3, 1)] (by decide +kernel) rfl ?_
  obtain ⟨y13, e13, h⟩ := zb1_inv h
  refine zV_lv (lv' := [(0, .inr (.inr l0)), (1, .inr (.inr l1)), (2, .inr (.inr l2)), (3, .inl (0 : Int32))]) [1, 2, 3, 0] rfl (zt_X2_carryOut_L2 e13 ?_)
  obtain ⟨M2_13, l3_13⟩ := y13
  show zV X zC_X2_carryOut M2_13 46 [] []
  exact zend_v h hR (by decide +kernel)
theorem zc_X2_carryOut {M M' : Zm} {l0 : Option Nat} {l1 : Option Nat} {l2 : Option Nat} {x : Unit} (h : zf_X2_carryOut M l0 l1 l2 = some (M', x)) (l : Launch) (D : va_G) (cy : Nat → ClassId) : zMet l yX2_carryOut zC_X2_carryOut none D cy [.inr (.inr l0), .inr (.inr l1), .inr (.inr l2)] M M' none :=
  zM_v (by decide) rfl (fun h => by cases h) (Nat.le_of_ble_eq_true rfl) (fun X hR => zt_X2_carryOut h hR)
-- BlendCellar$Drawing.clear()V
def zC_X2_clear : Zc := (cX2_clear, 1, RX2, 1, 20, false)
theorem zcl_X2_clear {C : Zc} (h1 : zC_X2_clear.2.2.2.1 + 1 ≤ C.2.2.2.1) (h2 : 8 + (zC_X2_clear.2.1 + 11) + zC_X2_clear.2.2.2.2.1 ≤ C.2.2.2.2.1) : zCl C yX2_clear zC_X2_clear none 0 := ⟨zw_877, zw_111, ⟨by decide, by decide⟩, by decide +kernel, h1, h2⟩
noncomputable def zf_X2_clear (M : Zm) (l0 : Option Nat) : Option (Zm × Unit) :=
  zb1 (zo_pi M l0 3 3 (0 : Int32)) (fun M1 =>
  zb1 (zo_gr M1 l0 3 4) (fun v2 =>
  zb1 (zo_rc M1 v2 11) (fun _ => zbd (zf_X10_clear M1 v2) (fun M3 _ =>
  some (M3, ())))))
set_option maxRecDepth 100000 in
theorem zt_X2_clear {X : Zx} {M : Zm} {l0 : Option Nat} {z : Zm × Unit} (h : zf_X2_clear M l0 = some z) (hR : zRv X zC_X2_clear z.1) : zV X zC_X2_clear M 0 [(0, .inr (.inr l0))] [] := by
  unfold zf_X2_clear at h
  refine zV_b (pc' := 2) (lv' := [(0, .inr (.inr l0))]) (st' := [.inl (0 : Int32), .inr (.inr l0)]) [(.aload_n 0, 1), (.iconst 0, 1)] (by decide +kernel) rfl ?_
  refine zV_pi (by decide +kernel) zfp_RX2_24 (by decide) rfl h (fun M1 _ h => ?_)
  refine zV_b (pc' := 6) (lv' := [(0, .inr (.inr l0))]) (st' := [.inr (.inr l0)]) [(.aload_n 0, 1)] (by decide +kernel) rfl ?_
  refine zV_gr (by decide +kernel) zfl_RX2_31 (by decide) rfl h (fun v2 _ h => ?_)
  refine zV_cvv (As := []) (st := []) (c := 11) (by decide +kernel) (zcl_X10_clear (by decide) (by decide)) ⟨zw_878, zw_879, zw_880⟩ ⟨⟨_, _, rfl⟩, by decide⟩ rfl rfl (Nat.le_of_ble_eq_true rfl) h (fun _ _ e => zc_X10_clear e) (fun M3 _ _ h => ?_)
  exact zend_v h hR (by decide +kernel)
theorem zc_X2_clear {M M' : Zm} {l0 : Option Nat} {x : Unit} (h : zf_X2_clear M l0 = some (M', x)) (l : Launch) (D : va_G) (cy : Nat → ClassId) : zMet l yX2_clear zC_X2_clear none D cy [.inr (.inr l0)] M M' none :=
  zM_v (by decide) rfl (fun h => by cases h) (Nat.le_of_ble_eq_true rfl) (fun X hR => zt_X2_clear h hR)
-- BlendCellar$Drawing.drawFromVessel(LBlendCellar$Barrel;J)V
def zC_X2_drawFromVessel : Zc := (cX2_drawFromVessel, 4, RX2, 4, 95, false)
theorem zcl_X2_drawFromVessel {C : Zc} (h1 : zC_X2_drawFromVessel.2.2.2.1 + 1 ≤ C.2.2.2.1) (h2 : 8 + (zC_X2_drawFromVessel.2.1 + 11) + zC_X2_drawFromVessel.2.2.2.2.1 ≤ C.2.2.2.2.1) : zCl C yX2_drawFromVessel zC_X2_drawFromVessel none 2 := ⟨zw_889, zw_111, ⟨by decide, by decide⟩, by decide +kernel, h1, h2⟩
noncomputable def zf_X2_drawFromVessel (M : Zm) (l0 : Option Nat) (l1 : Option Nat) (l2 : Int64) : Option (Zm × Unit) :=
  (if l2 ≤ (0 : Int64) then
  some (M, ())
  else
  zb1 (zo_gi M l0 3 3) (fun v3 =>
  zb1 (zo_gr M l0 3 0) (fun v4 =>
  zb1 (zo_al M v4) (fun v5 =>
  (if v3 < v5 then
  zb1 (zo_gr M l0 3 0) (fun v7 =>
  zb1 (zo_gi M l0 3 3) (fun v8 =>
  zb1 (zo_sr M 16 1 v7 v8 l1) (fun M9 =>
  zb1 (zo_gr M9 l0 3 1) (fun v10 =>
  zb1 (zo_gi M9 l0 3 3) (fun v11 =>
  zb1 (zo_sj M9 v10 v11 l2) (fun M12 =>
  zb1 (zo_gi M12 l0 3 3) (fun v13 =>
  zb1 (zo_pi M12 l0 3 3 (v13 + (1 : Int32))) (fun M14 =>
  zb1 (zo_gr M14 l1 1 5) (fun v15 =>
  zb1 (zo_rc M14 l0 3) (fun _ => zbd (zf_X2_reckonShares M14 l0 v15 l2) (fun M16 _ =>
  zb1 (zo_gr M16 l1 1 5) (fun v17 =>
  zb1 (zo_gr M16 l0 3 4) (fun v18 =>
  zb1 (zo_rc M16 l0 3) (fun _ => zbd (zf_X2_addGoing M16 l0 v17 v18) (fun M19 _ =>
  some (M19, ()))))))))))))))))
  else
  some (M, ()))))))
set_option maxRecDepth 100000 in
theorem zt_X2_drawFromVessel {X : Zx} {M : Zm} {l0 : Option Nat} {l1 : Option Nat} {l2 : Int64} {z : Zm × Unit} (h : zf_X2_drawFromVessel M l0 l1 l2 = some z) (hR : zRv X zC_X2_drawFromVessel z.1) : zV X zC_X2_drawFromVessel M 0 [(0, .inr (.inr l0)), (1, .inr (.inr l1)), (2, .inr (.inl l2))] [] := by
  unfold zf_X2_drawFromVessel at h
  refine zV_b (pc' := 2) (lv' := [(0, .inr (.inr l0)), (1, .inr (.inr l1)), (2, .inr (.inl l2))]) (st' := [.inr (.inl (0 : Int64)), .inr (.inl l2)]) [(.lload_n 2, 1), (.lconst 0, 1)] (by decide +kernel) rfl ?_
  refine zV_lcmp_le (off := 15) (tgt := 18) (by decide +kernel) (by decide +kernel) (by decide) h (fun c1 h => ?_) (fun c1 h => ?_)
  · exact zend_v h hR (by decide +kernel)
  · refine zV_b (pc' := 7) (lv' := [(0, .inr (.inr l0)), (1, .inr (.inr l1)), (2, .inr (.inl l2))]) (st' := [.inr (.inr l0)]) [(.aload_n 0, 1)] (by decide +kernel) rfl ?_
    refine zV_gi (by decide +kernel) zfl_RX2_24 (by decide) rfl (Or.inl rfl) h (fun v3 _ h => ?_)
    refine zV_b (pc' := 11) (lv' := [(0, .inr (.inr l0)), (1, .inr (.inr l1)), (2, .inr (.inl l2))]) (st' := [.inr (.inr l0), .inl v3]) [(.aload_n 0, 1)] (by decide +kernel) rfl ?_
    refine zV_gr (by decide +kernel) zfl_RX2_11 (by decide) rfl h (fun v4 _ h => ?_)
    refine zV_al (by decide +kernel) h (fun v5 _ h => ?_)
    refine zV_icmp_lt (off := 4) (tgt := 19) (by decide +kernel) (by decide) h (fun c6 h => ?_) (fun c6 h => ?_)
    · refine zV_b (pc' := 20) (lv' := [(0, .inr (.inr l0)), (1, .inr (.inr l1)), (2, .inr (.inl l2))]) (st' := [.inr (.inr l0)]) [(.aload_n 0, 1)] (by decide +kernel) rfl ?_
      refine zV_gr (by decide +kernel) zfl_RX2_11 (by decide) rfl h (fun v7 _ h => ?_)
      refine zV_b (pc' := 24) (lv' := [(0, .inr (.inr l0)), (1, .inr (.inr l1)), (2, .inr (.inl l2))]) (st' := [.inr (.inr l0), .inr (.inr v7)]) [(.aload_n 0, 1)] (by decide +kernel) rfl ?_
      refine zV_gi (by decide +kernel) zfl_RX2_24 (by decide) rfl (Or.inl rfl) h (fun v8 _ h => ?_)
      refine zV_b (pc' := 28) (lv' := [(0, .inr (.inr l0)), (1, .inr (.inr l1)), (2, .inr (.inl l2))]) (st' := [.inr (.inr l1), .inl v8, .inr (.inr v7)]) [(.aload_n 1, 1)] (by decide +kernel) rfl ?_
      refine zV_sr (by decide +kernel) (by decide) (by decide) (Or.inr ⟨_, _, rfl, by decide⟩) h (fun M9 _ h => ?_)
      refine zV_b (pc' := 30) (lv' := [(0, .inr (.inr l0)), (1, .inr (.inr l1)), (2, .inr (.inl l2))]) (st' := [.inr (.inr l0)]) [(.aload_n 0, 1)] (by decide +kernel) rfl ?_
      refine zV_gr (by decide +kernel) zfl_RX2_17 (by decide) rfl h (fun v10 _ h => ?_)
      refine zV_b (pc' := 34) (lv' := [(0, .inr (.inr l0)), (1, .inr (.inr l1)), (2, .inr (.inl l2))]) (st' := [.inr (.inr l0), .inr (.inr v10)]) [(.aload_n 0, 1)] (by decide +kernel) rfl ?_
      refine zV_gi (by decide +kernel) zfl_RX2_24 (by decide) rfl (Or.inl rfl) h (fun v11 _ h => ?_)
      refine zV_b (pc' := 38) (lv' := [(0, .inr (.inr l0)), (1, .inr (.inr l1)), (2, .inr (.inl l2))]) (st' := [.inr (.inl l2), .inl v11, .inr (.inr v10)]) [(.lload_n 2, 1)] (by decide +kernel) rfl ?_
      refine zV_sj (by decide +kernel) h (fun M12 _ h => ?_)
      refine zV_b (pc' := 41) (lv' := [(0, .inr (.inr l0)), (1, .inr (.inr l1)), (2, .inr (.inl l2))]) (st' := [.inr (.inr l0), .inr (.inr l0)]) [(.aload_n 0, 1), (.dup, 1)] (by decide +kernel) rfl ?_
      refine zV_gi (by decide +kernel) zfl_RX2_24 (by decide) rfl (Or.inl rfl) h (fun v13 _ h => ?_)
      refine zV_b (pc' := 46) (lv' := [(0, .inr (.inr l0)), (1, .inr (.inr l1)), (2, .inr (.inl l2))]) (st' := [.inl (v13 + (1 : Int32)), .inr (.inr l0)]) [(.iconst 1, 1), (.iadd, 1)] (by decide +kernel) rfl ?_
      refine zV_pi (by decide +kernel) zfp_RX2_24 (by decide) rfl h (fun M14 _ h => ?_)
      refine zV_b (pc' := 51) (lv' := [(0, .inr (.inr l0)), (1, .inr (.inr l1)), (2, .inr (.inl l2))]) (st' := [.inr (.inr l1), .inr (.inr l0)]) [(.aload_n 0, 1), (.aload_n 1, 1)] (by decide +kernel) rfl ?_
      refine zV_gr (by decide +kernel) zfl_RX2_61 (by decide) rfl h (fun v15 _ h => ?_)
      refine zV_b (pc' := 55) (lv' := [(0, .inr (.inr l0)), (1, .inr (.inr l1)), (2, .inr (.inl l2))]) (st' := [.inr (.inl l2), .inr (.inr v15), .inr (.inr l0)]) [(.lload_n 2, 1)] (by decide +kernel) rfl ?_
      refine zV_cvv (As := [.inr (.inr v15), .inr (.inl l2)]) (st := []) (c := 3) (by decide +kernel) (zcl_X2_reckonShares (by decide) (by decide)) ⟨zw_890, zw_892, zw_29⟩ ⟨⟨_, _, rfl⟩, by decide⟩ rfl rfl (Nat.le_of_ble_eq_true rfl) h (fun _ _ e => zc_X2_reckonShares e) (fun M16 _ _ h => ?_)
      refine zV_b (pc' := 60) (lv' := [(0, .inr (.inr l0)), (1, .inr (.inr l1)), (2, .inr (.inl l2))]) (st' := [.inr (.inr l1), .inr (.inr l0)]) [(.aload_n 0, 1), (.aload_n 1, 1)] (by decide +kernel) rfl ?_
      refine zV_gr (by decide +kernel) zfl_RX2_61 (by decide) rfl h (fun v17 _ h => ?_)
      refine zV_b (pc' := 64) (lv' := [(0, .inr (.inr l0)), (1, .inr (.inr l1)), (2, .inr (.inl l2))]) (st' := [.inr (.inr l0), .inr (.inr v17), .inr (.inr l0)]) [(.aload_n 0, 1)] (by decide +kernel) rfl ?_
      refine zV_gr (by decide +kernel) zfl_RX2_31 (by decide) rfl h (fun v18 _ h => ?_)
      refine zV_cvv (As := [.inr (.inr v17), .inr (.inr v18)]) (st := []) (c := 3) (by decide +kernel) (zcl_X2_addGoing (by decide) (by decide)) ⟨zw_894, zw_896, zw_30⟩ ⟨⟨_, _, rfl⟩, by decide⟩ rfl rfl (Nat.le_of_ble_eq_true rfl) h (fun _ _ e => zc_X2_addGoing e) (fun M19 _ _ h => ?_)
      exact zend_v h hR (by decide +kernel)
    · exact zend_v h hR (by decide +kernel)
theorem zc_X2_drawFromVessel {M M' : Zm} {l0 : Option Nat} {l1 : Option Nat} {l2 : Int64} {x : Unit} (h : zf_X2_drawFromVessel M l0 l1 l2 = some (M', x)) (l : Launch) (D : va_G) (cy : Nat → ClassId) : zMet l yX2_drawFromVessel zC_X2_drawFromVessel none D cy [.inr (.inr l0), .inr (.inr l1), .inr (.inl l2)] M M' none :=
  zM_v (by decide) rfl (fun h => by cases h) (Nat.le_of_ble_eq_true rfl) (fun X hR => zt_X2_drawFromVessel h hR)
-- BlendCellar$Drawing.drawFrom(LBlendCellar$Barrel;JLBlendCellar$Trace;)V
def zC_X2_drawFrom : Zc := (cX2_drawFrom, 11, RX2, 5, 118, false)
theorem zcl_X2_drawFrom {C : Zc} (h1 : zC_X2_drawFrom.2.2.2.1 + 1 ≤ C.2.2.2.1) (h2 : 8 + (zC_X2_drawFrom.2.1 + 11) + zC_X2_drawFrom.2.2.2.2.1 ≤ C.2.2.2.2.1) : zCl C yX2_drawFrom zC_X2_drawFrom none 3 := ⟨zw_885, zw_111, ⟨by decide, by decide⟩, by decide +kernel, h1, h2⟩
noncomputable def zf_X2_drawFrom_L21 (p0 : Option Nat) (p1 : Option Nat) (p4 : Option Nat) (x : Zm × Int64 × Int32) : Option ((Zm × Int64 × Int32) ⊕ (Zm × Int64 × Int32)) := match x with
  | (M, l5, l7) =>
  zb1 (zo_gi M p1 1 7) (fun v3 =>
  (if v3 ≤ l7 then
  some (.inr (M, l5, l7))
  else
  (if l5 ≤ (0 : Int64) then
  some (.inr (M, l5, l7))
  else
  zb1 (zo_gr M p1 1 6) (fun v6 =>
  zb1 (zo_ar M 16 v6 l7) (fun v7 =>
  zb1 (zo_rc M v7 1) (fun _ => zbd (zf_X0_maySpare M v7 p4) (fun M8 v8 =>
  zb1 (zo_rc M8 p0 3) (fun _ => zbd (zf_X2_drawFromVessel M8 p0 v7 (zminl l5 v8)) (fun M10 _ =>
  some (.inl (M10, (l5 - (zminl l5 v8)), (l7 + 1))))))))))))
def zP_X2_drawFrom_L21 (X : Zx) (p0 : Option Nat) (p1 : Option Nat) (p4 : Option Nat) (x : Zm × Int64 × Int32) : Prop := match x with
  | (M, l5, l7) => zV X zC_X2_drawFrom M 21 [(0, .inr (.inr p0)), (1, .inr (.inr p1)), (4, .inr (.inr p4)), (5, .inr (.inl l5)), (7, .inl l7)] []
def zK_X2_drawFrom_L21 (X : Zx) (p0 : Option Nat) (p1 : Option Nat) (p4 : Option Nat) (y : Zm × Int64 × Int32) : Prop := match y with
  | (M, l5, l7) => zV X zC_X2_drawFrom M 81 [] []
noncomputable def zf_X2_drawFrom (M : Zm) (l0 : Option Nat) (l1 : Option Nat) (l2 : Int64) (l4 : Option Nat) : Option (Zm × Unit) :=
  zb1 (zo_gi M l1 1 1) (fun v1 =>
  (if v1 = (5 : Int32) then
  zb1 (zwhile (zf_X2_drawFrom_L21 l0 l1 l4) (M, l2, (0 : Int32))) (fun y12 => match y12 with
  | (M21_12, l5_12, l7_12) =>
  some (M21_12, ()))
  else
  zb1 (zo_rc M l0 3) (fun _ => zbd (zf_X2_drawFromVessel M l0 l1 l2) (fun M14 _ =>
  some (M14, ())))))
set_option maxRecDepth 100000 in
theorem zt_X2_drawFrom_L21 {X : Zx} {p0 : Option Nat} {p1 : Option Nat} {p4 : Option Nat} {x : Zm × Int64 × Int32} {y : Zm × Int64 × Int32} (h : zwhile (zf_X2_drawFrom_L21 p0 p1 p4) x = some y) (hy : zK_X2_drawFrom_L21 X p0 p1 p4 y) : zP_X2_drawFrom_L21 X p0 p1 p4 x := by
  refine zwhile_ind (P := zP_X2_drawFrom_L21 X p0 p1 p4) (K := zK_X2_drawFrom_L21 X p0 p1 p4) ?_ h hy
  intro x z hf k1 k2
  obtain ⟨M, l5, l7⟩ := x
  have h : zf_X2_drawFrom_L21 p0 p1 p4 (M, l5, l7) = some z := hf
  unfold zf_X2_drawFrom_L21 at h
  show zV X zC_X2_drawFrom M 21 [(0, .inr (.inr p0)), (1, .inr (.inr p1)), (4, .inr (.inr p4)), (5, .inr (.inl l5)), (7, .inl l7)] []
  refine zV_b (pc' := 24) (lv' := [(0, .inr (.inr p0)), (1, .inr (.inr p1)), (4, .inr (.inr p4)), (5, .inr (.inl l5)), (7, .inl l7)]) (st' := [.inr (.inr p1), .inl l7]) [(.iload 7, 2), (.aload_n 1, 1)] (by decide +kernel) rfl ?_
  refine zV_gi (by decide +kernel) zfl_RX2_45 (by decide) rfl (Or.inl rfl) h (fun v3 _ h => ?_)
  refine zV_icmp_ge (off := 54) (tgt := 81) (by decide +kernel) (by decide) h (fun c4 h => ?_) (fun c4 h => ?_)
  · exact zV_lv (lv' := []) [] rfl (k2 _ (Option.some.inj h).symm)
  · refine zV_b (pc' := 33) (lv' := [(0, .inr (.inr p0)), (1, .inr (.inr p1)), (4, .inr (.inr p4)), (5, .inr (.inl l5)), (7, .inl l7)]) (st' := [.inr (.inl (0 : Int64)), .inr (.inl l5)]) [(.lload 5, 2), (.lconst 0, 1)] (by decide +kernel) rfl ?_
    refine zV_lcmp_le (off := 47) (tgt := 81) (by decide +kernel) (by decide +kernel) (by decide) h (fun c5 h => ?_) (fun c5 h => ?_)
    · exact zV_lv (lv' := []) [] rfl (k2 _ (Option.some.inj h).symm)
    · refine zV_b (pc' := 38) (lv' := [(0, .inr (.inr p0)), (1, .inr (.inr p1)), (4, .inr (.inr p4)), (5, .inr (.inl l5)), (7, .inl l7)]) (st' := [.inr (.inr p1)]) [(.aload_n 1, 1)] (by decide +kernel) rfl ?_
      refine zV_gr (by decide +kernel) zfl_RX2_48 (by decide) rfl h (fun v6 _ h => ?_)
      refine zV_b (pc' := 43) (lv' := [(0, .inr (.inr p0)), (1, .inr (.inr p1)), (4, .inr (.inr p4)), (5, .inr (.inl l5)), (7, .inl l7)]) (st' := [.inl l7, .inr (.inr v6)]) [(.iload 7, 2)] (by decide +kernel) rfl ?_
      refine zV_ar (by decide +kernel) (by decide) (by decide) h (fun v7 _ h => ?_)
      refine zV_b (pc' := 52) (lv' := [(8, .inr (.inr v7)), (0, .inr (.inr p0)), (1, .inr (.inr p1)), (4, .inr (.inr p4)), (5, .inr (.inl l5)), (7, .inl l7)]) (st' := [.inr (.inr p4), .inr (.inr v7), .inr (.inl l5)]) [(.astore 8, 2), (.lload 5, 2), (.aload 8, 2), (.aload 4, 2)] (by decide +kernel) rfl ?_
      refine zV_cvj (As := [.inr (.inr p4)]) (st := [.inr (.inl l5)]) (c := 1) (by decide +kernel) (zcl_X0_maySpare (by decide) (by decide)) ⟨zw_899, zw_862, zw_863⟩ ⟨⟨_, _, rfl⟩, by decide⟩ rfl rfl (Nat.le_of_ble_eq_true rfl) h (fun _ _ e => zc_X0_maySpare e) (fun M8 v8 _ h => ?_)
      refine zV_minl (st := []) (by decide +kernel) zw_900 (by decide) (Nat.le_of_ble_eq_true rfl) ?_
      refine zV_b (pc' := 65) (lv' := [(9, .inr (.inl (zminl l5 v8))), (8, .inr (.inr v7)), (0, .inr (.inr p0)), (1, .inr (.inr p1)), (4, .inr (.inr p4)), (5, .inr (.inl l5)), (7, .inl l7)]) (st' := [.inr (.inl (zminl l5 v8)), .inr (.inr v7), .inr (.inr p0)]) [(.lstore 9, 2), (.aload_n 0, 1), (.aload 8, 2), (.lload 9, 2)] (by decide +kernel) rfl ?_
      refine zV_cvv (As := [.inr (.inr v7), .inr (.inl (zminl l5 v8))]) (st := []) (c := 3) (by decide +kernel) (zcl_X2_drawFromVessel (by decide) (by decide)) ⟨zw_886, zw_888, zw_28⟩ ⟨⟨_, _, rfl⟩, by decide⟩ rfl rfl (Nat.le_of_ble_eq_true rfl) h (fun _ _ e => zc_X2_drawFromVessel e) (fun M10 _ _ h => ?_)
      refine zV_b (pc' := 78) (lv' := [(7, .inl (l7 + 1)), (5, .inr (.inl (l5 - (zminl l5 v8)))), (9, .inr (.inl (zminl l5 v8))), (8, .inr (.inr v7)), (0, .inr (.inr p0)), (1, .inr (.inr p1)), (4, .inr (.inr p4))]) (st' := []) [(.lload 5, 2), (.lload 9, 2), (.lsub, 1), (.lstore 5, 2), (.iinc 7 1, 3)] (by decide +kernel) rfl ?_
      refine zV_goto (off := (-57)) (tgt := 21) (by decide +kernel) (by decide) ?_
      exact zV_lv (lv' := [(0, .inr (.inr p0)), (1, .inr (.inr p1)), (4, .inr (.inr p4)), (5, .inr (.inl (l5 - (zminl l5 v8)))), (7, .inl (l7 + 1))]) [4, 5, 6, 1, 0] rfl (k1 _ (Option.some.inj h).symm)
set_option maxRecDepth 100000 in
theorem zt_X2_drawFrom {X : Zx} {M : Zm} {l0 : Option Nat} {l1 : Option Nat} {l2 : Int64} {l4 : Option Nat} {z : Zm × Unit} (h : zf_X2_drawFrom M l0 l1 l2 l4 = some z) (hR : zRv X zC_X2_drawFrom z.1) : zV X zC_X2_drawFrom M 0 [(0, .inr (.inr l0)), (1, .inr (.inr l1)), (2, .inr (.inl l2)), (4, .inr (.inr l4))] [] := by
  unfold zf_X2_drawFrom at h
  refine zV_b (pc' := 1) (lv' := [(0, .inr (.inr l0)), (1, .inr (.inr l1)), (2, .inr (.inl l2)), (4, .inr (.inr l4))]) (st' := [.inr (.inr l1)]) [(.aload_n 1, 1)] (by decide +kernel) rfl ?_
  refine zV_gi (by decide +kernel) zfl_RX2_38 (by decide) rfl (Or.inl rfl) h (fun v1 _ h => ?_)
  refine zV_b (pc' := 5) (lv' := [(0, .inr (.inr l0)), (1, .inr (.inr l1)), (2, .inr (.inl l2)), (4, .inr (.inr l4))]) (st' := [.inl (5 : Int32), .inl v1]) [(.iconst 5, 1)] (by decide +kernel) rfl ?_
  refine zV_icmp_eq (off := 10) (tgt := 15) (by decide +kernel) (by decide) h (fun c2 h => ?_) (fun c2 h => ?_)
  · refine zV_b (pc' := 21) (lv' := [(7, .inl (0 : Int32)), (5, .inr (.inl l2)), (0, .inr (.inr l0)), (1, .inr (.inr l1)), (2, .inr (.inl l2)), (4, .inr (.inr l4))]) (st' := []) [(.lload_n 2, 1), (.lstore 5, 2), (.iconst 0, 1), (.istore 7, 2)] (by decide +kernel) rfl ?_
    obtain ⟨y12, e12, h⟩ := zb1_inv h
    refine zV_lv (lv' := [(0, .inr (.inr l0)), (1, .inr (.inr l1)), (4, .inr (.inr l4)), (5, .inr (.inl l2)), (7, .inl (0 : Int32))]) [2, 3, 5, 1, 0] rfl (zt_X2_drawFrom_L21 e12 ?_)
    obtain ⟨M21_12, l5_12, l7_12⟩ := y12
    show zV X zC_X2_drawFrom M21_12 81 [] []
    exact zend_v h hR (by decide +kernel)
  · refine zV_b (pc' := 11) (lv' := [(0, .inr (.inr l0)), (1, .inr (.inr l1)), (2, .inr (.inl l2)), (4, .inr (.inr l4))]) (st' := [.inr (.inl l2), .inr (.inr l1), .inr (.inr l0)]) [(.aload_n 0, 1), (.aload_n 1, 1), (.lload_n 2, 1)] (by decide +kernel) rfl ?_
    refine zV_cvv (As := [.inr (.inr l1), .inr (.inl l2)]) (st := []) (c := 3) (by decide +kernel) (zcl_X2_drawFromVessel (by decide) (by decide)) ⟨zw_886, zw_888, zw_28⟩ ⟨⟨_, _, rfl⟩, by decide⟩ rfl rfl (Nat.le_of_ble_eq_true rfl) h (fun _ _ e => zc_X2_drawFromVessel e) (fun M14 _ _ h => ?_)
    exact zend_v h hR (by decide +kernel)
theorem zc_X2_drawFrom {M M' : Zm} {l0 : Option Nat} {l1 : Option Nat} {l2 : Int64} {l4 : Option Nat} {x : Unit} (h : zf_X2_drawFrom M l0 l1 l2 l4 = some (M', x)) (l : Launch) (D : va_G) (cy : Nat → ClassId) : zMet l yX2_drawFrom zC_X2_drawFrom none D cy [.inr (.inr l0), .inr (.inr l1), .inr (.inl l2), .inr (.inr l4)] M M' none :=
  zM_v (by decide) rfl (fun h => by cases h) (Nat.le_of_ble_eq_true rfl) (fun X hR => zt_X2_drawFrom h hR)
