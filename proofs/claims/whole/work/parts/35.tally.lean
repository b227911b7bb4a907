/-! What the bytecode does, as functions of the memory, and the walks (written by wip/gen.py). -/
-- BlendCellar$Tally.having(II)J
def zC_X8_having : Zc := (cX8_having, 7, RX8, 0, 0, false)
theorem zcl_X8_having {C : Zc} (h1 : zC_X8_having.2.2.2.1 + 1 ≤ C.2.2.2.1) (h2 : 8 + (zC_X8_having.2.1 + 11) + zC_X8_having.2.2.2.2.1 ≤ C.2.2.2.2.1) : zCl C yX8_having zC_X8_having (some .long) 2 := ⟨zw_1181, zw_106, ⟨by decide, by decide⟩, by decide +kernel, h1, h2⟩
noncomputable def zf_X8_having_L15 (p0 : Option Nat) (p3 : Int32) (x : Zm × Int64 × Int32) : Option ((Zm × Int64 × Int32) ⊕ (Zm × Int64 × Int32)) := match x with
  | (M, l4, l6) =>
  zb1 (zo_gi M p0 9 2) (fun v1 =>
  (if v1 ≤ l6 then
  some (.inr (M, l4, l6))
  else
  zb1 (zo_gr M p0 9 0) (fun v3 =>
  zb1 (zo_gr M p0 9 1) (fun v4 =>
  zb1 (zo_ai M v4 l6) (fun v5 =>
  zb1 (zo_aj M v3 (v5 + p3)) (fun v6 =>
  some (.inl (M, (l4 + v6), (l6 + 1)))))))))
def zP_X8_having_L15 (X : Zx) (p0 : Option Nat) (p3 : Int32) (x : Zm × Int64 × Int32) : Prop := match x with
  | (M, l4, l6) => zV X zC_X8_having M 15 [(0, .inr (.inr p0)), (3, .inl p3), (4, .inr (.inl l4)), (6, .inl l6)] []
def zK_X8_having_L15 (X : Zx) (p0 : Option Nat) (p3 : Int32) (y : Zm × Int64 × Int32) : Prop := match y with
  | (M, l4, l6) => zV X zC_X8_having M 49 [(4, .inr (.inl l4))] []
noncomputable def zf_X8_having (M : Zm) (l0 : Option Nat) (l1 : Int32) (l2 : Int32) : Option (Zm × Int64) :=
  zb1 (zwhile (zf_X8_having_L15 l0 (((l1 - (1 : Int32)) * (16 : Int32)) + l2)) (M, (0 : Int64), (0 : Int32))) (fun y8 => match y8 with
  | (M15_8, l4_8, l6_8) =>
  some (M15_8, l4_8))
set_option maxRecDepth 100000 in
theorem zt_X8_having_L15 {X : Zx} {p0 : Option Nat} {p3 : Int32} {x : Zm × Int64 × Int32} {y : Zm × Int64 × Int32} (h : zwhile (zf_X8_having_L15 p0 p3) x = some y) (hy : zK_X8_having_L15 X p0 p3 y) : zP_X8_having_L15 X p0 p3 x := by
  refine zwhile_ind (P := zP_X8_having_L15 X p0 p3) (K := zK_X8_having_L15 X p0 p3) ?_ h hy
  intro x z hf k1 k2
  obtain ⟨M, l4, l6⟩ := x
  have h : zf_X8_having_L15 p0 p3 (M, l4, l6) = some z := hf
  unfold zf_X8_having_L15 at h
  show zV X zC_X8_having M 15 [(0, .inr (.inr p0)), (3, .inl p3), (4, .inr (.inl l4)), (6, .inl l6)] []
  refine zV_b (pc' := 18) (lv' := [(0, .inr (.inr p0)), (3, .inl p3), (4, .inr (.inl l4)), (6, .inl l6)]) (st' := [.inr (.inr p0), .inl l6]) [(.iload 6, 2), (.aload_n 0, 1)] (by decide +kernel) rfl ?_
  refine zV_gi (by decide +kernel) zfl_RX8_15 (by decide) rfl (Or.inl rfl) h (fun v1 _ h => ?_)
  refine zV_icmp_ge (off := 28) (tgt := 49) (by decide +kernel) (by decide) h (fun c2 h => ?_) (fun c2 h => ?_)
  · exact zV_lv (lv' := [(4, .inr (.inl l4))]) [2] rfl (k2 _ (Option.some.inj h).symm)
  · refine zV_b (pc' := 27) (lv' := [(0, .inr (.inr p0)), (3, .inl p3), (4, .inr (.inl l4)), (6, .inl l6)]) (st' := [.inr (.inr p0), .inr (.inl l4)]) [(.lload 4, 2), (.aload_n 0, 1)] (by decide +kernel) rfl ?_
    refine zV_gr (by decide +kernel) zfl_RX8_29 (by decide) rfl h (fun v3 _ h => ?_)
    refine zV_b (pc' := 31) (lv' := [(0, .inr (.inr p0)), (3, .inl p3), (4, .inr (.inl l4)), (6, .inl l6)]) (st' := [.inr (.inr p0), .inr (.inr v3), .inr (.inl l4)]) [(.aload_n 0, 1)] (by decide +kernel) rfl ?_
    refine zV_gr (by decide +kernel) zfl_RX8_11 (by decide) rfl h (fun v4 _ h => ?_)
    refine zV_b (pc' := 36) (lv' := [(0, .inr (.inr p0)), (3, .inl p3), (4, .inr (.inl l4)), (6, .inl l6)]) (st' := [.inl l6, .inr (.inr v4), .inr (.inr v3), .inr (.inl l4)]) [(.iload 6, 2)] (by decide +kernel) rfl ?_
    refine zV_ai (by decide +kernel) h (fun v5 _ h => ?_)
    refine zV_b (pc' := 39) (lv' := [(0, .inr (.inr p0)), (3, .inl p3), (4, .inr (.inl l4)), (6, .inl l6)]) (st' := [.inl (v5 + p3), .inr (.inr v3), .inr (.inl l4)]) [(.iload_n 3, 1), (.iadd, 1)] (by decide +kernel) rfl ?_
    refine zV_aj (by decide +kernel) h (fun v6 _ h => ?_)
    refine zV_b (pc' := 46) (lv' := [(6, .inl (l6 + 1)), (4, .inr (.inl (l4 + v6))), (0, .inr (.inr p0)), (3, .inl p3)]) (st' := []) [(.ladd, 1), (.lstore 4, 2), (.iinc 6 1, 3)] (by decide +kernel) rfl ?_
    refine zV_goto (off := (-31)) (tgt := 15) (by decide +kernel) (by decide) ?_
    exact zV_lv (lv' := [(0, .inr (.inr p0)), (3, .inl p3), (4, .inr (.inl (l4 + v6))), (6, .inl (l6 + 1))]) [2, 3, 1, 0] rfl (k1 _ (Option.some.inj h).symm)
set_option maxRecDepth 100000 in
theorem zt_X8_having {X : Zx} {M : Zm} {l0 : Option Nat} {l1 : Int32} {l2 : Int32} {z : Zm × Int64} (h : zf_X8_having M l0 l1 l2 = some z) (hR : zRj X zC_X8_having z.1 z.2) : zV X zC_X8_having M 0 [(0, .inr (.inr l0)), (1, .inl l1), (2, .inl l2)] [] := by
  unfold zf_X8_having at h
  refine zV_b (pc' := 15) (lv' := [(6, .inl (0 : Int32)), (4, .inr (.inl (0 : Int64))), (3, .inl (((l1 - (1 : Int32)) * (16 : Int32)) + l2)), (0, .inr (.inr l0)), (1, .inl l1), (2, .inl l2)]) (st' := []) [(.iload_n 1, 1), (.iconst 1, 1), (.isub, 1), (.bipush 16, 2), (.imul, 1), (.iload_n 2, 1), (.iadd, 1), (.istore_n 3, 1), (.lconst 0, 1), (.lstore 4, 2), (.iconst 0, 1), (.istore 6, 2)] (by decide +kernel) rfl ?_
  obtain ⟨y8, e8, h⟩ := zb1_inv h
  refine zV_lv (lv' := [(0, .inr (.inr l0)), (3, .inl (((l1 - (1 : Int32)) * (16 : Int32)) + l2)), (4, .inr (.inl (0 : Int64))), (6, .inl (0 : Int32))]) [3, 2, 1, 0] rfl (zt_X8_having_L15 e8 ?_)
  obtain ⟨M15_8, l4_8, l6_8⟩ := y8
  show zV X zC_X8_having M15_8 49 [(4, .inr (.inl l4_8))] []
  refine zV_b (pc' := 51) (lv' := [(4, .inr (.inl l4_8))]) (st' := [.inr (.inl l4_8)]) [(.lload 4, 2)] (by decide +kernel) rfl ?_
  exact zend_j h hR (by decide +kernel)
theorem zc_X8_having {M M' : Zm} {l0 : Option Nat} {l1 : Int32} {l2 : Int32} {x : Int64} (h : zf_X8_having M l0 l1 l2 = some (M', x)) (l : Launch) (D : va_G) (cy : Nat → ClassId) : zMet l yX8_having zC_X8_having (some .long) D cy [.inr (.inr l0), .inl l1, .inl l2] M M' (some (.inr (.inl x))) :=
  zM_j (by decide) rfl (fun h => by cases h) (Nat.le_of_ble_eq_true rfl) (fun X hR => zt_X8_having h hR)
-- BlendCellar$Tally.<init>(I)V
def zC_X8_init : Zc := (cX8_init, 2, RX8, 1, 23, true)
theorem zcl_X8_init {C : Zc} (h1 : zC_X8_init.2.2.2.1 + 1 ≤ C.2.2.2.1) (h2 : 8 + (zC_X8_init.2.1 + 11) + zC_X8_init.2.2.2.2.1 ≤ C.2.2.2.2.1) : zCl C yX8_init zC_X8_init none 1 := ⟨zw_185, zw_106, ⟨by decide, by decide⟩, by decide +kernel, h1, h2⟩
noncomputable def zf_X8_init (M : Zm) (l0 : Option Nat) (l1 : Int32) : Option (Zm × Unit) :=
  zb1 (zo_rc M l0 9) (fun _ =>
  zb1 (zo_na M 14 (6 : Int32)) (fun M2 =>
  zb1 (zo_pr M2 l0 9 1 (zm_nx M)) (fun M3 =>
  zb1 (zo_pi M3 l0 9 2 (0 : Int32)) (fun M4 =>
  zb1 (zo_pj M4 l0 9 3 (0 : Int64)) (fun M5 =>
  zb1 (zo_na M5 15 ((zmaxi l1 (1 : Int32)) * (48 : Int32))) (fun M7 =>
  zb1 (zo_pr M7 l0 9 0 (zm_nx M5)) (fun M8 =>
  some (M8, ()))))))))
set_option maxRecDepth 100000 in
theorem zt_X8_init {X : Zx} {M : Zm} {l0 : Option Nat} {l1 : Int32} {z : Zm × Unit} (h : zf_X8_init M l0 l1 = some z) (hR : zRv X zC_X8_init z.1) : zV X zC_X8_init M 0 [(0, .inr (.inr l0)), (1, .inl l1)] [] := by
  unfold zf_X8_init at h
  refine zV_b (pc' := 1) (lv' := [(0, .inr (.inr l0)), (1, .inl l1)]) (st' := [.inr (.inr l0)]) [(.aload_n 0, 1)] (by decide +kernel) rfl ?_
  refine zV_oo (by decide +kernel) zw_186 (by decide) (by decide) h (fun _ _ h => ?_)
  refine zV_b (pc' := 7) (lv' := [(0, .inr (.inr l0)), (1, .inl l1)]) (st' := [.inl (6 : Int32), .inr (.inr l0)]) [(.aload_n 0, 1), (.bipush 6, 2)] (by decide +kernel) rfl ?_
  refine zV_na (by decide +kernel) (Or.inl ⟨rfl, rfl⟩) h (fun M2 _ h => ?_)
  refine zV_pr (by decide +kernel) zfp_RX8_11_i (Or.inr ⟨_, rfl⟩) (by decide) rfl h (fun M3 _ h => ?_)
  refine zV_b (pc' := 14) (lv' := [(0, .inr (.inr l0)), (1, .inl l1)]) (st' := [.inl (0 : Int32), .inr (.inr l0)]) [(.aload_n 0, 1), (.iconst 0, 1)] (by decide +kernel) rfl ?_
  refine zV_pi (by decide +kernel) zfp_RX8_15_i (by decide) rfl h (fun M4 _ h => ?_)
  refine zV_b (pc' := 19) (lv' := [(0, .inr (.inr l0)), (1, .inl l1)]) (st' := [.inr (.inl (0 : Int64)), .inr (.inr l0)]) [(.aload_n 0, 1), (.lconst 0, 1)] (by decide +kernel) rfl ?_
  refine zV_pj (by decide +kernel) zfp_RX8_19_i (by decide) rfl h (fun M5 _ h => ?_)
  refine zV_b (pc' := 25) (lv' := [(0, .inr (.inr l0)), (1, .inl l1)]) (st' := [.inl (1 : Int32), .inl l1, .inr (.inr l0)]) [(.aload_n 0, 1), (.iload_n 1, 1), (.iconst 1, 1)] (by decide +kernel) rfl ?_
  refine zV_maxi (st := [.inr (.inr l0)]) (by decide +kernel) zw_187 (by decide) (Nat.le_of_ble_eq_true rfl) ?_
  refine zV_b (pc' := 31) (lv' := [(0, .inr (.inr l0)), (1, .inl l1)]) (st' := [.inl ((zmaxi l1 (1 : Int32)) * (48 : Int32)), .inr (.inr l0)]) [(.bipush 48, 2), (.imul, 1)] (by decide +kernel) rfl ?_
  refine zV_na (by decide +kernel) (Or.inr ⟨rfl, rfl⟩) h (fun M7 _ h => ?_)
  refine zV_pr (by decide +kernel) zfp_RX8_29_i (Or.inr ⟨_, rfl⟩) (by decide) rfl h (fun M8 _ h => ?_)
  exact zend_v h hR (by decide +kernel)
theorem zc_X8_init {M M' : Zm} {l0 : Option Nat} {l1 : Int32} {x : Unit} (h : zf_X8_init M l0 l1 = some (M', x)) (l : Launch) (D : va_G) (cy : Nat → ClassId) : zMet l yX8_init zC_X8_init none D cy [.inr (.inr l0), .inl l1] M M' none :=
  zM_v (by decide) rfl (fun _ => rfl) (Nat.le_of_ble_eq_true rfl) (fun X hR => zt_X8_init h hR)
-- BlendCellar$Tally.begin(IJ)V
def zC_X8_begin : Zc := (cX8_begin, 4, RX8, 1, 23, false)
theorem zcl_X8_begin {C : Zc} (h1 : zC_X8_begin.2.2.2.1 + 1 ≤ C.2.2.2.1) (h2 : 8 + (zC_X8_begin.2.1 + 11) + zC_X8_begin.2.2.2.2.1 ≤ C.2.2.2.2.1) : zCl C yX8_begin zC_X8_begin none 2 := ⟨zw_1152, zw_106, ⟨by decide, by decide⟩, by decide +kernel, h1, h2⟩
noncomputable def zf_X8_begin (M : Zm) (l0 : Option Nat) (l1 : Int32) (l2 : Int64) : Option (Zm × Unit) :=
  zb1 (zo_gr M l0 9 1) (fun v1 =>
  zb1 (zo_al M v1) (fun v2 =>
  zb1 (zo_pi M l0 9 2 (zmini l1 v2)) (fun M4 =>
  zb1 (zo_pj M4 l0 9 3 l2) (fun M5 =>
  some (M5, ())))))
set_option maxRecDepth 100000 in
theorem zt_X8_begin {X : Zx} {M : Zm} {l0 : Option Nat} {l1 : Int32} {l2 : Int64} {z : Zm × Unit} (h : zf_X8_begin M l0 l1 l2 = some z) (hR : zRv X zC_X8_begin z.1) : zV X zC_X8_begin M 0 [(0, .inr (.inr l0)), (1, .inl l1), (2, .inr (.inl l2))] [] := by
  unfold zf_X8_begin at h
  refine zV_b (pc' := 3) (lv' := [(0, .inr (.inr l0)), (1, .inl l1), (2, .inr (.inl l2))]) (st' := [.inr (.inr l0), .inl l1, .inr (.inr l0)]) [(.aload_n 0, 1), (.iload_n 1, 1), (.aload_n 0, 1)] (by decide +kernel) rfl ?_
  refine zV_gr (by decide +kernel) zfl_RX8_11 (by decide) rfl h (fun v1 _ h => ?_)
  refine zV_al (by decide +kernel) h (fun v2 _ h => ?_)
  refine zV_mini (st := [.inr (.inr l0)]) (by decide +kernel) zw_1153 (by decide) (Nat.le_of_ble_eq_true rfl) ?_
  refine zV_pi (by decide +kernel) zfp_RX8_15 (by decide) rfl h (fun M4 _ h => ?_)
  refine zV_b (pc' := 15) (lv' := [(0, .inr (.inr l0)), (1, .inl l1), (2, .inr (.inl l2))]) (st' := [.inr (.inl l2), .inr (.inr l0)]) [(.aload_n 0, 1), (.lload_n 2, 1)] (by decide +kernel) rfl ?_
  refine zV_pj (by decide +kernel) zfp_RX8_19 (by decide) rfl h (fun M5 _ h => ?_)
  exact zend_v h hR (by decide +kernel)
theorem zc_X8_begin {M M' : Zm} {l0 : Option Nat} {l1 : Int32} {l2 : Int64} {x : Unit} (h : zf_X8_begin M l0 l1 l2 = some (M', x)) (l : Launch) (D : va_G) (cy : Nat → ClassId) : zMet l yX8_begin zC_X8_begin none D cy [.inr (.inr l0), .inl l1, .inr (.inl l2)] M M' none :=
  zM_v (by decide) rfl (fun h => by cases h) (Nat.le_of_ble_eq_true rfl) (fun X hR => zt_X8_begin h hR)
-- BlendCellar$Tally.choose(II)V
def zC_X8_choose : Zc := (cX8_choose, 3, RX8, 0, 0, false)
theorem zcl_X8_choose {C : Zc} (h1 : zC_X8_choose.2.2.2.1 + 1 ≤ C.2.2.2.1) (h2 : 8 + (zC_X8_choose.2.1 + 11) + zC_X8_choose.2.2.2.2.1 ≤ C.2.2.2.2.1) : zCl C yX8_choose zC_X8_choose none 2 := ⟨zw_1157, zw_106, ⟨by decide, by decide⟩, by decide +kernel, h1, h2⟩
noncomputable def zf_X8_choose (M : Zm) (l0 : Option Nat) (l1 : Int32) (l2 : Int32) : Option (Zm × Unit) :=
  zb1 (zo_gr M l0 9 1) (fun v1 =>
  zb1 (zo_si M v1 l1 (l2 * (48 : Int32))) (fun M2 =>
  some (M2, ())))
set_option maxRecDepth 100000 in
theorem zt_X8_choose {X : Zx} {M : Zm} {l0 : Option Nat} {l1 : Int32} {l2 : Int32} {z : Zm × Unit} (h : zf_X8_choose M l0 l1 l2 = some z) (hR : zRv X zC_X8_choose z.1) : zV X zC_X8_choose M 0 [(0, .inr (.inr l0)), (1, .inl l1), (2, .inl l2)] [] := by
  unfold zf_X8_choose at h
  refine zV_b (pc' := 1) (lv' := [(0, .inr (.inr l0)), (1, .inl l1), (2, .inl l2)]) (st' := [.inr (.inr l0)]) [(.aload_n 0, 1)] (by decide +kernel) rfl ?_
  refine zV_gr (by decide +kernel) zfl_RX8_11 (by decide) rfl h (fun v1 _ h => ?_)
  refine zV_b (pc' := 9) (lv' := [(0, .inr (.inr l0)), (1, .inl l1), (2, .inl l2)]) (st' := [.inl (l2 * (48 : Int32)), .inl l1, .inr (.inr v1)]) [(.iload_n 1, 1), (.iload_n 2, 1), (.bipush 48, 2), (.imul, 1)] (by decide +kernel) rfl ?_
  refine zV_si (by decide +kernel) h (fun M2 _ h => ?_)
  exact zend_v h hR (by decide +kernel)
theorem zc_X8_choose {M M' : Zm} {l0 : Option Nat} {l1 : Int32} {l2 : Int32} {x : Unit} (h : zf_X8_choose M l0 l1 l2 = some (M', x)) (l : Launch) (D : va_G) (cy : Nat → ClassId) : zMet l yX8_choose zC_X8_choose none D cy [.inr (.inr l0), .inl l1, .inl l2] M M' none :=
  zM_v (by decide) rfl (fun h => by cases h) (Nat.le_of_ble_eq_true rfl) (fun X hR => zt_X8_choose h hR)
-- BlendCellar$Tally.addToSlot(ILBlendCellar$Wine;)V
def zC_X8_addToSlot : Zc := (cX8_addToSlot, 6, RX8, 0, 0, false)
theorem zcl_X8_addToSlot {C : Zc} (h1 : zC_X8_addToSlot.2.2.2.1 + 1 ≤ C.2.2.2.1) (h2 : 8 + (zC_X8_addToSlot.2.1 + 11) + zC_X8_addToSlot.2.2.2.2.1 ≤ C.2.2.2.2.1) : zCl C yX8_addToSlot zC_X8_addToSlot none 2 := ⟨zw_1165, zw_106, ⟨by decide, by decide⟩, by decide +kernel, h1, h2⟩
noncomputable def zf_X8_addToSlot_L8 (p0 : Option Nat) (p2 : Option Nat) (p3 : Int32) (x : Zm × Int32) : Option ((Zm × Int32) ⊕ (Zm × Int32)) := match x with
  | (M, l4) =>
  zb1 (zo_gi M p2 11 2) (fun v1 =>
  (if v1 ≤ l4 then
  some (.inr (M, l4))
  else
  zb1 (zo_gr M p2 11 0) (fun v3 =>
  zb1 (zo_ai M v3 l4) (fun v4 =>
  zb1 (zo_gr M p0 9 0) (fun v5 =>
  zb1 (zo_id v4 (256 : Int32)) (fun v6 =>
  zb1 (zo_im v6 (16 : Int32)) (fun v7 =>
  zb1 (zo_aj M v5 (p3 + v7)) (fun v8 =>
  zb1 (zo_gr M p2 11 1) (fun v9 =>
  zb1 (zo_aj M v9 l4) (fun v10 =>
  zb1 (zo_sj M v5 (p3 + v7) (v8 + v10)) (fun M11 =>
  zb1 (zo_gr M11 p0 9 0) (fun v12 =>
  zb1 (zo_id v4 (16 : Int32)) (fun v13 =>
  zb1 (zo_im v13 (16 : Int32)) (fun v14 =>
  zb1 (zo_aj M11 v12 ((p3 + (16 : Int32)) + v14)) (fun v15 =>
  zb1 (zo_gr M11 p2 11 1) (fun v16 =>
  zb1 (zo_aj M11 v16 l4) (fun v17 =>
  zb1 (zo_sj M11 v12 ((p3 + (16 : Int32)) + v14) (v15 + v17)) (fun M18 =>
  zb1 (zo_gr M18 p0 9 0) (fun v19 =>
  zb1 (zo_im v4 (16 : Int32)) (fun v20 =>
  zb1 (zo_aj M18 v19 ((p3 + (32 : Int32)) + v20)) (fun v21 =>
  zb1 (zo_gr M18 p2 11 1) (fun v22 =>
  zb1 (zo_aj M18 v22 l4) (fun v23 =>
  zb1 (zo_sj M18 v19 ((p3 + (32 : Int32)) + v20) (v21 + v23)) (fun M24 =>
  some (.inl (M24, (l4 + 1)))))))))))))))))))))))))))
def zP_X8_addToSlot_L8 (X : Zx) (p0 : Option Nat) (p2 : Option Nat) (p3 : Int32) (x : Zm × Int32) : Prop := match x with
  | (M, l4) => zV X zC_X8_addToSlot M 8 [(0, .inr (.inr p0)), (2, .inr (.inr p2)), (3, .inl p3), (4, .inl l4)] []
def zK_X8_addToSlot_L8 (X : Zx) (p0 : Option Nat) (p2 : Option Nat) (p3 : Int32) (y : Zm × Int32) : Prop := match y with
  | (M, l4) => zV X zC_X8_addToSlot M 111 [] []
noncomputable def zf_X8_addToSlot (M : Zm) (l0 : Option Nat) (l1 : Int32) (l2 : Option Nat) : Option (Zm × Unit) :=
  zb1 (zwhile (zf_X8_addToSlot_L8 l0 l2 (l1 * (48 : Int32))) (M, (0 : Int32))) (fun y26 => match y26 with
  | (M8_26, l4_26) =>
  some (M8_26, ()))
set_option maxRecDepth 100000 in
theorem zt_X8_addToSlot_L8 {X : Zx} {p0 : Option Nat} {p2 : Option Nat} {p3 : Int32} {x : Zm × Int32} {y : Zm × Int32} (h : zwhile (zf_X8_addToSlot_L8 p0 p2 p3) x = some y) (hy : zK_X8_addToSlot_L8 X p0 p2 p3 y) : zP_X8_addToSlot_L8 X p0 p2 p3 x := by
  refine zwhile_ind (P := zP_X8_addToSlot_L8 X p0 p2 p3) (K := zK_X8_addToSlot_L8 X p0 p2 p3) ?_ h hy
  intro x z hf k1 k2
  obtain ⟨M, l4⟩ := x
  have h : zf_X8_addToSlot_L8 p0 p2 p3 (M, l4) = some z := hf
  unfold zf_X8_addToSlot_L8 at h
  show zV X zC_X8_addToSlot M 8 [(0, .inr (.inr p0)), (2, .inr (.inr p2)), (3, .inl p3), (4, .inl l4)] []
  refine zV_b (pc' := 11) (lv' := [(0, .inr (.inr p0)), (2, .inr (.inr p2)), (3, .inl p3), (4, .inl l4)]) (st' := [.inr (.inr p2), .inl l4]) [(.iload 4, 2), (.aload_n 2, 1)] (by decide +kernel) rfl ?_
  refine zV_gi (by decide +kernel) zfl_RX8_69 (by decide) rfl (Or.inl rfl) h (fun v1 _ h => ?_)
  refine zV_icmp_ge (off := 97) (tgt := 111) (by decide +kernel) (by decide) h (fun c2 h => ?_) (fun c2 h => ?_)
  · exact zV_lv (lv' := []) [] rfl (k2 _ (Option.some.inj h).symm)
  · refine zV_b (pc' := 18) (lv' := [(0, .inr (.inr p0)), (2, .inr (.inr p2)), (3, .inl p3), (4, .inl l4)]) (st' := [.inr (.inr p2)]) [(.aload_n 2, 1)] (by decide +kernel) rfl ?_
    refine zV_gr (by decide +kernel) zfl_RX8_74 (by decide) rfl h (fun v3 _ h => ?_)
    refine zV_b (pc' := 23) (lv' := [(0, .inr (.inr p0)), (2, .inr (.inr p2)), (3, .inl p3), (4, .inl l4)]) (st' := [.inl l4, .inr (.inr v3)]) [(.iload 4, 2)] (by decide +kernel) rfl ?_
    refine zV_ai (by decide +kernel) h (fun v4 _ h => ?_)
    refine zV_b (pc' := 27) (lv' := [(5, .inl v4), (0, .inr (.inr p0)), (2, .inr (.inr p2)), (3, .inl p3), (4, .inl l4)]) (st' := [.inr (.inr p0)]) [(.istore 5, 2), (.aload_n 0, 1)] (by decide +kernel) rfl ?_
    refine zV_gr (by decide +kernel) zfl_RX8_29 (by decide) rfl h (fun v5 _ h => ?_)
    refine zV_b (pc' := 36) (lv' := [(5, .inl v4), (0, .inr (.inr p0)), (2, .inr (.inr p2)), (3, .inl p3), (4, .inl l4)]) (st' := [.inl (256 : Int32), .inl v4, .inl p3, .inr (.inr v5)]) [(.iload_n 3, 1), (.iload 5, 2), (.sipush 256, 3)] (by decide +kernel) rfl ?_
    refine zV_id (by decide +kernel) h (fun v6 _ h => ?_)
    refine zV_b (pc' := 39) (lv' := [(5, .inl v4), (0, .inr (.inr p0)), (2, .inr (.inr p2)), (3, .inl p3), (4, .inl l4)]) (st' := [.inl (16 : Int32), .inl v6, .inl p3, .inr (.inr v5)]) [(.bipush 16, 2)] (by decide +kernel) rfl ?_
    refine zV_im (by decide +kernel) h (fun v7 _ h => ?_)
    refine zV_b (pc' := 42) (lv' := [(5, .inl v4), (0, .inr (.inr p0)), (2, .inr (.inr p2)), (3, .inl p3), (4, .inl l4)]) (st' := [.inl (p3 + v7), .inr (.inr v5), .inl (p3 + v7), .inr (.inr v5)]) [(.iadd, 1), (.dup2, 1)] (by decide +kernel) rfl ?_
    refine zV_aj (by decide +kernel) h (fun v8 _ h => ?_)
    refine zV_b (pc' := 44) (lv' := [(5, .inl v4), (0, .inr (.inr p0)), (2, .inr (.inr p2)), (3, .inl p3), (4, .inl l4)]) (st' := [.inr (.inr p2), .inr (.inl v8), .inl (p3 + v7), .inr (.inr v5)]) [(.aload_n 2, 1)] (by decide +kernel) rfl ?_
    refine zV_gr (by decide +kernel) zfl_RX8_77 (by decide) rfl h (fun v9 _ h => ?_)
    refine zV_b (pc' := 49) (lv' := [(5, .inl v4), (0, .inr (.inr p0)), (2, .inr (.inr p2)), (3, .inl p3), (4, .inl l4)]) (st' := [.inl l4, .inr (.inr v9), .inr (.inl v8), .inl (p3 + v7), .inr (.inr v5)]) [(.iload 4, 2)] (by decide +kernel) rfl ?_
    refine zV_aj (by decide +kernel) h (fun v10 _ h => ?_)
    refine zV_b (pc' := 51) (lv' := [(5, .inl v4), (0, .inr (.inr p0)), (2, .inr (.inr p2)), (3, .inl p3), (4, .inl l4)]) (st' := [.inr (.inl (v8 + v10)), .inl (p3 + v7), .inr (.inr v5)]) [(.ladd, 1)] (by decide +kernel) rfl ?_
    refine zV_sj (by decide +kernel) h (fun M11 _ h => ?_)
    refine zV_b (pc' := 53) (lv' := [(5, .inl v4), (0, .inr (.inr p0)), (2, .inr (.inr p2)), (3, .inl p3), (4, .inl l4)]) (st' := [.inr (.inr p0)]) [(.aload_n 0, 1)] (by decide +kernel) rfl ?_
    refine zV_gr (by decide +kernel) zfl_RX8_29 (by decide) rfl h (fun v12 _ h => ?_)
    refine zV_b (pc' := 64) (lv' := [(5, .inl v4), (0, .inr (.inr p0)), (2, .inr (.inr p2)), (3, .inl p3), (4, .inl l4)]) (st' := [.inl (16 : Int32), .inl v4, .inl (p3 + (16 : Int32)), .inr (.inr v12)]) [(.iload_n 3, 1), (.bipush 16, 2), (.iadd, 1), (.iload 5, 2), (.bipush 16, 2)] (by decide +kernel) rfl ?_
    refine zV_id (by decide +kernel) h (fun v13 _ h => ?_)
    refine zV_b (pc' := 67) (lv' := [(5, .inl v4), (0, .inr (.inr p0)), (2, .inr (.inr p2)), (3, .inl p3), (4, .inl l4)]) (st' := [.inl (16 : Int32), .inl v13, .inl (p3 + (16 : Int32)), .inr (.inr v12)]) [(.bipush 16, 2)] (by decide +kernel) rfl ?_
    refine zV_im (by decide +kernel) h (fun v14 _ h => ?_)
    refine zV_b (pc' := 70) (lv' := [(5, .inl v4), (0, .inr (.inr p0)), (2, .inr (.inr p2)), (3, .inl p3), (4, .inl l4)]) (st' := [.inl ((p3 + (16 : Int32)) + v14), .inr (.inr v12), .inl ((p3 + (16 : Int32)) + v14), .inr (.inr v12)]) [(.iadd, 1), (.dup2, 1)] (by decide +kernel) rfl ?_
    refine zV_aj (by decide +kernel) h (fun v15 _ h => ?_)
    refine zV_b (pc' := 72) (lv' := [(5, .inl v4), (0, .inr (.inr p0)), (2, .inr (.inr p2)), (3, .inl p3), (4, .inl l4)]) (st' := [.inr (.inr p2), .inr (.inl v15), .inl ((p3 + (16 : Int32)) + v14), .inr (.inr v12)]) [(.aload_n 2, 1)] (by decide +kernel) rfl ?_
    refine zV_gr (by decide +kernel) zfl_RX8_77 (by decide) rfl h (fun v16 _ h => ?_)
    refine zV_b (pc' := 77) (lv' := [(5, .inl v4), (0, .inr (.inr p0)), (2, .inr (.inr p2)), (3, .inl p3), (4, .inl l4)]) (st' := [.inl l4, .inr (.inr v16), .inr (.inl v15), .inl ((p3 + (16 : Int32)) + v14), .inr (.inr v12)]) [(.iload 4, 2)] (by decide +kernel) rfl ?_
    refine zV_aj (by decide +kernel) h (fun v17 _ h => ?_)
    refine zV_b (pc' := 79) (lv' := [(5, .inl v4), (0, .inr (.inr p0)), (2, .inr (.inr p2)), (3, .inl p3), (4, .inl l4)]) (st' := [.inr (.inl (v15 + v17)), .inl ((p3 + (16 : Int32)) + v14), .inr (.inr v12)]) [(.ladd, 1)] (by decide +kernel) rfl ?_
    refine zV_sj (by decide +kernel) h (fun M18 _ h => ?_)
    refine zV_b (pc' := 81) (lv' := [(5, .inl v4), (0, .inr (.inr p0)), (2, .inr (.inr p2)), (3, .inl p3), (4, .inl l4)]) (st' := [.inr (.inr p0)]) [(.aload_n 0, 1)] (by decide +kernel) rfl ?_
    refine zV_gr (by decide +kernel) zfl_RX8_29 (by decide) rfl h (fun v19 _ h => ?_)
    refine zV_b (pc' := 92) (lv' := [(5, .inl v4), (0, .inr (.inr p0)), (2, .inr (.inr p2)), (3, .inl p3), (4, .inl l4)]) (st' := [.inl (16 : Int32), .inl v4, .inl (p3 + (32 : Int32)), .inr (.inr v19)]) [(.iload_n 3, 1), (.bipush 32, 2), (.iadd, 1), (.iload 5, 2), (.bipush 16, 2)] (by decide +kernel) rfl ?_
    refine zV_im (by decide +kernel) h (fun v20 _ h => ?_)
    refine zV_b (pc' := 95) (lv' := [(5, .inl v4), (0, .inr (.inr p0)), (2, .inr (.inr p2)), (3, .inl p3), (4, .inl l4)]) (st' := [.inl ((p3 + (32 : Int32)) + v20), .inr (.inr v19), .inl ((p3 + (32 : Int32)) + v20), .inr (.inr v19)]) [(.iadd, 1), (.dup2, 1)] (by decide +kernel) rfl ?_
    refine zV_aj (by decide +kernel) h (fun v21 _ h => ?_)
    refine zV_b (pc' := 97) (lv' := [(5, .inl v4), (0, .inr (.inr p0)), (2, .inr (.inr p2)), (3, .inl p3), (4, .inl l4)]) (st' := [.inr (.inr p2), .inr (.inl v21), .inl ((p3 + (32 : Int32)) + v20), .inr (.inr v19)]) [(.aload_n 2, 1)] (by decide +kernel) rfl ?_
    refine zV_gr (by decide +kernel) zfl_RX8_77 (by decide) rfl h (fun v22 _ h => ?_)
    refine zV_b (pc' := 102) (lv' := [(5, .inl v4), (0, .inr (.inr p0)), (2, .inr (.inr p2)), (3, .inl p3), (4, .inl l4)]) (st' := [.inl l4, .inr (.inr v22), .inr (.inl v21), .inl ((p3 + (32 : Int32)) + v20), .inr (.inr v19)]) [(.iload 4, 2)] (by decide +kernel) rfl ?_
    refine zV_aj (by decide +kernel) h (fun v23 _ h => ?_)
    refine zV_b (pc' := 104) (lv' := [(5, .inl v4), (0, .inr (.inr p0)), (2, .inr (.inr p2)), (3, .inl p3), (4, .inl l4)]) (st' := [.inr (.inl (v21 + v23)), .inl ((p3 + (32 : Int32)) + v20), .inr (.inr v19)]) [(.ladd, 1)] (by decide +kernel) rfl ?_
    refine zV_sj (by decide +kernel) h (fun M24 _ h => ?_)
    refine zV_b (pc' := 108) (lv' := [(4, .inl (l4 + 1)), (5, .inl v4), (0, .inr (.inr p0)), (2, .inr (.inr p2)), (3, .inl p3)]) (st' := []) [(.iinc 4 1, 3)] (by decide +kernel) rfl ?_
    refine zV_goto (off := (-100)) (tgt := 8) (by decide +kernel) (by decide) ?_
    exact zV_lv (lv' := [(0, .inr (.inr p0)), (2, .inr (.inr p2)), (3, .inl p3), (4, .inl (l4 + 1))]) [2, 3, 4, 0] rfl (k1 _ (Option.some.inj h).symm)
set_option maxRecDepth 100000 in
theorem zt_X8_addToSlot {X : Zx} {M : Zm} {l0 : Option Nat} {l1 : Int32} {l2 : Option Nat} {z : Zm × Unit} (h : zf_X8_addToSlot M l0 l1 l2 = some z) (hR : zRv X zC_X8_addToSlot z.1) : zV X zC_X8_addToSlot M 0 [(0, .inr (.inr l0)), (1, .inl l1), (2, .inr (.inr l2))] [] := by
  unfold zf_X8_addToSlot at h
  refine zV_b (pc' := 8) (lv' := [(4, .inl (0 : Int32)), (3, .inl (l1 * (48 : Int32))), (0, .inr (.inr l0)), (1, .inl l1), (2, .inr (.inr l2))]) (st' := []) [(.iload_n 1, 1), (.bipush 48, 2), (.imul, 1), (.istore_n 3, 1), (.iconst 0, 1), (.istore 4, 2)] (by decide +kernel) rfl ?_
  obtain ⟨y26, e26, h⟩ := zb1_inv h
  refine zV_lv (lv' := [(0, .inr (.inr l0)), (2, .inr (.inr l2)), (3, .inl (l1 * (48 : Int32))), (4, .inl (0 : Int32))]) [2, 4, 1, 0] rfl (zt_X8_addToSlot_L8 e26 ?_)
  obtain ⟨M8_26, l4_26⟩ := y26
  show zV X zC_X8_addToSlot M8_26 111 [] []
  exact zend_v h hR (by decide +kernel)
theorem zc_X8_addToSlot {M M' : Zm} {l0 : Option Nat} {l1 : Int32} {l2 : Option Nat} {x : Unit} (h : zf_X8_addToSlot M l0 l1 l2 = some (M', x)) (l : Launch) (D : va_G) (cy : Nat → ClassId) : zMet l yX8_addToSlot zC_X8_addToSlot none D cy [.inr (.inr l0), .inl l1, .inr (.inr l2)] M M' none :=
  zM_v (by decide) rfl (fun h => by cases h) (Nat.le_of_ble_eq_true rfl) (fun X hR => zt_X8_addToSlot h hR)
-- BlendCellar$Tally.clearSlot(I)V
def zC_X8_clearSlot : Zc := (cX8_clearSlot, 3, RX8, 0, 0, false)
theorem zcl_X8_clearSlot {C : Zc} (h1 : zC_X8_clearSlot.2.2.2.1 + 1 ≤ C.2.2.2.1) (h2 : 8 + (zC_X8_clearSlot.2.1 + 11) + zC_X8_clearSlot.2.2.2.2.1 ≤ C.2.2.2.2.1) : zCl C yX8_clearSlot zC_X8_clearSlot none 1 := ⟨zw_1161, zw_106, ⟨by decide, by decide⟩, by decide +kernel, h1, h2⟩
noncomputable def zf_X8_clearSlot_L2 (p0 : Option Nat) (p1 : Int32) (x : Zm × Int32) : Option ((Zm × Int32) ⊕ (Zm × Int32)) := match x with
  | (M, l2) =>
  (if (48 : Int32) ≤ l2 then
  some (.inr (M, l2))
  else
  zb1 (zo_gr M p0 9 0) (fun v2 =>
  zb1 (zo_sj M v2 ((p1 * (48 : Int32)) + l2) (0 : Int64)) (fun M3 =>
  some (.inl (M3, (l2 + 1))))))
def zP_X8_clearSlot_L2 (X : Zx) (p0 : Option Nat) (p1 : Int32) (x : Zm × Int32) : Prop := match x with
  | (M, l2) => zV X zC_X8_clearSlot M 2 [(0, .inr (.inr p0)), (1, .inl p1), (2, .inl l2)] []
def zK_X8_clearSlot_L2 (X : Zx) (p0 : Option Nat) (p1 : Int32) (y : Zm × Int32) : Prop := match y with
  | (M, l2) => zV X zC_X8_clearSlot M 26 [] []
noncomputable def zf_X8_clearSlot (M : Zm) (l0 : Option Nat) (l1 : Int32) : Option (Zm × Unit) :=
  zb1 (zwhile (zf_X8_clearSlot_L2 l0 l1) (M, (0 : Int32))) (fun y5 => match y5 with
  | (M2_5, l2_5) =>
  some (M2_5, ()))
set_option maxRecDepth 100000 in
theorem zt_X8_clearSlot_L2 {X : Zx} {p0 : Option Nat} {p1 : Int32} {x : Zm × Int32} {y : Zm × Int32} (h : zwhile (zf_X8_clearSlot_L2 p0 p1) x = some y) (hy : zK_X8_clearSlot_L2 X p0 p1 y) : zP_X8_clearSlot_L2 X p0 p1 x := by
  refine zwhile_ind (P := zP_X8_clearSlot_L2 X p0 p1) (K := zK_X8_clearSlot_L2 X p0 p1) ?_ h hy
  intro x z hf k1 k2
  obtain ⟨M, l2⟩ := x
  have h : zf_X8_clearSlot_L2 p0 p1 (M, l2) = some z := hf
  unfold zf_X8_clearSlot_L2 at h
  show zV X zC_X8_clearSlot M 2 [(0, .inr (.inr p0)), (1, .inl p1), (2, .inl l2)] []
  refine zV_b (pc' := 5) (lv' := [(0, .inr (.inr p0)), (1, .inl p1), (2, .inl l2)]) (st' := [.inl (48 : Int32), .inl l2]) [(.iload_n 2, 1), (.bipush 48, 2)] (by decide +kernel) rfl ?_
  refine zV_icmp_ge (off := 21) (tgt := 26) (by decide +kernel) (by decide) h (fun c1 h => ?_) (fun c1 h => ?_)
  · exact zV_lv (lv' := []) [] rfl (k2 _ (Option.some.inj h).symm)
  · refine zV_b (pc' := 9) (lv' := [(0, .inr (.inr p0)), (1, .inl p1), (2, .inl l2)]) (st' := [.inr (.inr p0)]) [(.aload_n 0, 1)] (by decide +kernel) rfl ?_
    refine zV_gr (by decide +kernel) zfl_RX8_29 (by decide) rfl h (fun v2 _ h => ?_)
    refine zV_b (pc' := 19) (lv' := [(0, .inr (.inr p0)), (1, .inl p1), (2, .inl l2)]) (st' := [.inr (.inl (0 : Int64)), .inl ((p1 * (48 : Int32)) + l2), .inr (.inr v2)]) [(.iload_n 1, 1), (.bipush 48, 2), (.imul, 1), (.iload_n 2, 1), (.iadd, 1), (.lconst 0, 1)] (by decide +kernel) rfl ?_
    refine zV_sj (by decide +kernel) h (fun M3 _ h => ?_)
    refine zV_b (pc' := 23) (lv' := [(2, .inl (l2 + 1)), (0, .inr (.inr p0)), (1, .inl p1)]) (st' := []) [(.iinc 2 1, 3)] (by decide +kernel) rfl ?_
    refine zV_goto (off := (-21)) (tgt := 2) (by decide +kernel) (by decide) ?_
    exact zV_lv (lv' := [(0, .inr (.inr p0)), (1, .inl p1), (2, .inl (l2 + 1))]) [1, 2, 0] rfl (k1 _ (Option.some.inj h).symm)
set_option maxRecDepth 100000 in
theorem zt_X8_clearSlot {X : Zx} {M : Zm} {l0 : Option Nat} {l1 : Int32} {z : Zm × Unit} (h : zf_X8_clearSlot M l0 l1 = some z) (hR : zRv X zC_X8_clearSlot z.1) : zV X zC_X8_clearSlot M 0 [(0, .inr (.inr l0)), (1, .inl l1)] [] := by
  unfold zf_X8_clearSlot at h
  refine zV_b (pc' := 2) (lv' := [(2, .inl (0 : Int32)), (0, .inr (.inr l0)), (1, .inl l1)]) (st' := []) [(.iconst 0, 1), (.istore_n 2, 1)] (by decide +kernel) rfl ?_
  obtain ⟨y5, e5, h⟩ := zb1_inv h
  refine zV_lv (lv' := [(0, .inr (.inr l0)), (1, .inl l1), (2, .inl (0 : Int32))]) [1, 2, 0] rfl (zt_X8_clearSlot_L2 e5 ?_)
  obtain ⟨M2_5, l2_5⟩ := y5
  show zV X zC_X8_clearSlot M2_5 26 [] []
  exact zend_v h hR (by decide +kernel)
theorem zc_X8_clearSlot {M M' : Zm} {l0 : Option Nat} {l1 : Int32} {x : Unit} (h : zf_X8_clearSlot M l0 l1 = some (M', x)) (l : Launch) (D : va_G) (cy : Nat → ClassId) : zMet l yX8_clearSlot zC_X8_clearSlot none D cy [.inr (.inr l0), .inl l1] M M' none :=
  zM_v (by decide) rfl (fun h => by cases h) (Nat.le_of_ble_eq_true rfl) (fun X hR => zt_X8_clearSlot h hR)
-- BlendCellar$Tally.countAlone(LBlendCellar$Barrel;)V
def zC_X8_countAlone : Zc := (cX8_countAlone, 3, RX8, 2, 46, false)
theorem zcl_X8_countAlone {C : Zc} (h1 : zC_X8_countAlone.2.2.2.1 + 1 ≤ C.2.2.2.1) (h2 : 8 + (zC_X8_countAlone.2.1 + 11) + zC_X8_countAlone.2.2.2.2.1 ≤ C.2.2.2.2.1) : zCl C yX8_countAlone zC_X8_countAlone none 1 := ⟨zw_1147, zw_106, ⟨by decide, by decide⟩, by decide +kernel, h1, h2⟩
noncomputable def zf_X8_countAlone_L31 (p0 : Option Nat) (p1 : Option Nat) (x : Zm × Int32) : Option ((Zm × Int32) ⊕ (Zm × Int32)) := match x with
  | (M, l2) =>
  zb1 (zo_gi M p1 1 7) (fun v7 =>
  (if v7 ≤ l2 then
  some (.inr (M, l2))
  else
  zb1 (zo_gr M p1 1 6) (fun v9 =>
  zb1 (zo_ar M 16 v9 l2) (fun v10 =>
  zb1 (zo_gr M v10 1 5) (fun v11 =>
  zb1 (zo_rc M p0 9) (fun _ => zbd (zf_X8_addToSlot M p0 (0 : Int32) v11) (fun M12 _ =>
  some (.inl (M12, (l2 + 1))))))))))
def zP_X8_countAlone_L31 (X : Zx) (p0 : Option Nat) (p1 : Option Nat) (x : Zm × Int32) : Prop := match x with
  | (M, l2) => zV X zC_X8_countAlone M 31 [(0, .inr (.inr p0)), (1, .inr (.inr p1)), (2, .inl l2)] []
def zK_X8_countAlone_L31 (X : Zx) (p0 : Option Nat) (p1 : Option Nat) (y : Zm × Int32) : Prop := match y with
  | (M, l2) => zV X zC_X8_countAlone M 59 [] []
noncomputable def zf_X8_countAlone (M : Zm) (l0 : Option Nat) (l1 : Option Nat) : Option (Zm × Unit) :=
  zb1 (zo_rc M l1 1) (fun _ => zbd (zf_X0_has M l1) (fun M1 v1 =>
  zb1 (zo_rc M1 l0 9) (fun _ => zbd (zf_X8_begin M1 l0 (1 : Int32) v1) (fun M2 _ =>
  zb1 (zo_rc M2 l0 9) (fun _ => zbd (zf_X8_choose M2 l0 (0 : Int32) (0 : Int32)) (fun M3 _ =>
  zb1 (zo_rc M3 l0 9) (fun _ => zbd (zf_X8_clearSlot M3 l0 (0 : Int32)) (fun M4 _ =>
  zb1 (zo_gr M4 l1 1 5) (fun v5 =>
  zb1 (zo_rc M4 l0 9) (fun _ => zbd (zf_X8_addToSlot M4 l0 (0 : Int32) v5) (fun M6 _ =>
  zb1 (zwhile (zf_X8_countAlone_L31 l0 l1) (M6, (0 : Int32))) (fun y14 => match y14 with
  | (M31_14, l2_14) =>
  some (M31_14, ())))))))))))))
set_option maxRecDepth 100000 in
theorem zt_X8_countAlone_L31 {X : Zx} {p0 : Option Nat} {p1 : Option Nat} {x : Zm × Int32} {y : Zm × Int32} (h : zwhile (zf_X8_countAlone_L31 p0 p1) x = some y) (hy : zK_X8_countAlone_L31 X p0 p1 y) : zP_X8_countAlone_L31 X p0 p1 x := by
  refine zwhile_ind (P := zP_X8_countAlone_L31 X p0 p1) (K := zK_X8_countAlone_L31 X p0 p1) ?_ h hy
  intro x z hf k1 k2
  obtain ⟨M, l2⟩ := x
  have h : zf_X8_countAlone_L31 p0 p1 (M, l2) = some z := hf
  unfold zf_X8_countAlone_L31 at h
  show zV X zC_X8_countAlone M 31 [(0, .inr (.inr p0)), (1, .inr (.inr p1)), (2, .inl l2)] []
  refine zV_b (pc' := 33) (lv' := [(0, .inr (.inr p0)), (1, .inr (.inr p1)), (2, .inl l2)]) (st' := [.inr (.inr p1), .inl l2]) [(.iload_n 2, 1), (.aload_n 1, 1)] (by decide +kernel) rfl ?_
  refine zV_gi (by decide +kernel) zfl_RX8_62 (by decide) rfl (Or.inl rfl) h (fun v7 _ h => ?_)
  refine zV_icmp_ge (off := 23) (tgt := 59) (by decide +kernel) (by decide) h (fun c8 h => ?_) (fun c8 h => ?_)
  · exact zV_lv (lv' := []) [] rfl (k2 _ (Option.some.inj h).symm)
  · refine zV_b (pc' := 42) (lv' := [(0, .inr (.inr p0)), (1, .inr (.inr p1)), (2, .inl l2)]) (st' := [.inr (.inr p1), .inl (0 : Int32), .inr (.inr p0)]) [(.aload_n 0, 1), (.iconst 0, 1), (.aload_n 1, 1)] (by decide +kernel) rfl ?_
    refine zV_gr (by decide +kernel) zfl_RX8_65 (by decide) rfl h (fun v9 _ h => ?_)
    refine zV_b (pc' := 46) (lv' := [(0, .inr (.inr p0)), (1, .inr (.inr p1)), (2, .inl l2)]) (st' := [.inl l2, .inr (.inr v9), .inl (0 : Int32), .inr (.inr p0)]) [(.iload_n 2, 1)] (by decide +kernel) rfl ?_
    refine zV_ar (by decide +kernel) (by decide) (by decide) h (fun v10 _ h => ?_)
    refine zV_gr (by decide +kernel) zfl_RX8_54 (by decide) rfl h (fun v11 _ h => ?_)
    refine zV_cvv (As := [.inl (0 : Int32), .inr (.inr v11)]) (st := []) (c := 9) (by decide +kernel) (zcl_X8_addToSlot (by decide) (by decide)) ⟨zw_1162, zw_1163, zw_1164⟩ ⟨⟨_, _, rfl⟩, by decide⟩ rfl rfl (Nat.le_of_ble_eq_true rfl) h (fun _ _ e => zc_X8_addToSlot e) (fun M12 _ _ h => ?_)
    refine zV_b (pc' := 56) (lv' := [(2, .inl (l2 + 1)), (0, .inr (.inr p0)), (1, .inr (.inr p1))]) (st' := []) [(.iinc 2 1, 3)] (by decide +kernel) rfl ?_
    refine zV_goto (off := (-25)) (tgt := 31) (by decide +kernel) (by decide) ?_
    exact zV_lv (lv' := [(0, .inr (.inr p0)), (1, .inr (.inr p1)), (2, .inl (l2 + 1))]) [1, 2, 0] rfl (k1 _ (Option.some.inj h).symm)
set_option maxRecDepth 100000 in
theorem zt_X8_countAlone {X : Zx} {M : Zm} {l0 : Option Nat} {l1 : Option Nat} {z : Zm × Unit} (h : zf_X8_countAlone M l0 l1 = some z) (hR : zRv X zC_X8_countAlone z.1) : zV X zC_X8_countAlone M 0 [(0, .inr (.inr l0)), (1, .inr (.inr l1))] [] := by
  unfold zf_X8_countAlone at h
  refine zV_b (pc' := 3) (lv' := [(0, .inr (.inr l0)), (1, .inr (.inr l1))]) (st' := [.inr (.inr l1), .inl (1 : Int32), .inr (.inr l0)]) [(.aload_n 0, 1), (.iconst 1, 1), (.aload_n 1, 1)] (by decide +kernel) rfl ?_
  refine zV_cvj (As := []) (st := [.inl (1 : Int32), .inr (.inr l0)]) (c := 1) (by decide +kernel) (zcl_X0_has (by decide) (by decide)) ⟨zw_1148, zw_1069, zw_1070⟩ ⟨⟨_, _, rfl⟩, by decide⟩ rfl rfl (Nat.le_of_ble_eq_true rfl) h (fun _ _ e => zc_X0_has e) (fun M1 v1 _ h => ?_)
  refine zV_cvv (As := [.inl (1 : Int32), .inr (.inl v1)]) (st := []) (c := 9) (by decide +kernel) (zcl_X8_begin (by decide) (by decide)) ⟨zw_1149, zw_1150, zw_1151⟩ ⟨⟨_, _, rfl⟩, by decide⟩ rfl rfl (Nat.le_of_ble_eq_true rfl) h (fun _ _ e => zc_X8_begin e) (fun M2 _ _ h => ?_)
  refine zV_b (pc' := 12) (lv' := [(0, .inr (.inr l0)), (1, .inr (.inr l1))]) (st' := [.inl (0 : Int32), .inl (0 : Int32), .inr (.inr l0)]) [(.aload_n 0, 1), (.iconst 0, 1), (.iconst 0, 1)] (by decide +kernel) rfl ?_
  refine zV_cvv (As := [.inl (0 : Int32), .inl (0 : Int32)]) (st := []) (c := 9) (by decide +kernel) (zcl_X8_choose (by decide) (by decide)) ⟨zw_1154, zw_1155, zw_1156⟩ ⟨⟨_, _, rfl⟩, by decide⟩ rfl rfl (Nat.le_of_ble_eq_true rfl) h (fun _ _ e => zc_X8_choose e) (fun M3 _ _ h => ?_)
  refine zV_b (pc' := 17) (lv' := [(0, .inr (.inr l0)), (1, .inr (.inr l1))]) (st' := [.inl (0 : Int32), .inr (.inr l0)]) [(.aload_n 0, 1), (.iconst 0, 1)] (by decide +kernel) rfl ?_
  refine zV_cvv (As := [.inl (0 : Int32)]) (st := []) (c := 9) (by decide +kernel) (zcl_X8_clearSlot (by decide) (by decide)) ⟨zw_1158, zw_1159, zw_1160⟩ ⟨⟨_, _, rfl⟩, by decide⟩ rfl rfl (Nat.le_of_ble_eq_true rfl) h (fun _ _ e => zc_X8_clearSlot e) (fun M4 _ _ h => ?_)
  refine zV_b (pc' := 23) (lv' := [(0, .inr (.inr l0)), (1, .inr (.inr l1))]) (st' := [.inr (.inr l1), .inl (0 : Int32), .inr (.inr l0)]) [(.aload_n 0, 1), (.iconst 0, 1), (.aload_n 1, 1)] (by decide +kernel) rfl ?_
  refine zV_gr (by decide +kernel) zfl_RX8_54 (by decide) rfl h (fun v5 _ h => ?_)
  refine zV_cvv (As := [.inl (0 : Int32), .inr (.inr v5)]) (st := []) (c := 9) (by decide +kernel) (zcl_X8_addToSlot (by decide) (by decide)) ⟨zw_1162, zw_1163, zw_1164⟩ ⟨⟨_, _, rfl⟩, by decide⟩ rfl rfl (Nat.le_of_ble_eq_true rfl) h (fun _ _ e => zc_X8_addToSlot e) (fun M6 _ _ h => ?_)
  refine zV_b (pc' := 31) (lv' := [(2, .inl (0 : Int32)), (0, .inr (.inr l0)), (1, .inr (.inr l1))]) (st' := []) [(.iconst 0, 1), (.istore_n 2, 1)] (by decide +kernel) rfl ?_
  obtain ⟨y14, e14, h⟩ := zb1_inv h
  refine zV_lv (lv' := [(0, .inr (.inr l0)), (1, .inr (.inr l1)), (2, .inl (0 : Int32))]) [1, 2, 0] rfl (zt_X8_countAlone_L31 e14 ?_)
  obtain ⟨M31_14, l2_14⟩ := y14
  show zV X zC_X8_countAlone M31_14 59 [] []
  exact zend_v h hR (by decide +kernel)
theorem zc_X8_countAlone {M M' : Zm} {l0 : Option Nat} {l1 : Option Nat} {x : Unit} (h : zf_X8_countAlone M l0 l1 = some (M', x)) (l : Launch) (D : va_G) (cy : Nat → ClassId) : zMet l yX8_countAlone zC_X8_countAlone none D cy [.inr (.inr l0), .inr (.inr l1)] M M' none :=
  zM_v (by decide) rfl (fun h => by cases h) (Nat.le_of_ble_eq_true rfl) (fun X hR => zt_X8_countAlone h hR)
