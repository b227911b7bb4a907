/-! What the bytecode does, as functions of the memory, and the walks (written by wip/gen.py). -/
-- BlendCellarModel.readPlace(II)I
def zC_X12_readPlace : Zc := (cX12_readPlace, 3, RX12, 0, 0, false)
theorem zcl_X12_readPlace {C : Zc} (h1 : zC_X12_readPlace.2.2.2.1 + 1 ≤ C.2.2.2.1) (h2 : 8 + (zC_X12_readPlace.2.1 + 11) + zC_X12_readPlace.2.2.2.2.1 ≤ C.2.2.2.2.1) : zCl C yX12_readPlace zC_X12_readPlace (some .int) 2 := ⟨zw_1718, zw_114, ⟨by decide, by decide⟩, by decide +kernel, h1, h2⟩
noncomputable def zf_X12_readPlace_J38 (M : Zm)  : Option (Zm × Int32) :=
  some (M, (3 : Int32))
noncomputable def zf_X12_readPlace (M : Zm) (l0 : Option Nat) (l1 : Int32) (l2 : Int32) : Option (Zm × Int32) :=
  (if l1 < 0 then
  some (M, (3 : Int32))
  else
  (if l1 < (20 : Int32) then
  zb1 (zo_gr M l0 13 11) (fun v4 =>
  zb1 (zo_ai M v4 l1) (fun v5 =>
  (if 0 ≤ v5 then
  (if l2 < 0 then
  zf_X12_readPlace_J38 M
  else
  zb1 (zo_gr M l0 13 12) (fun v10 =>
  zb1 (zo_ai M v10 l1) (fun v11 =>
  (if l2 < v11 then
  some (M, (0 : Int32))
  else
  zf_X12_readPlace_J38 M))))
  else
  some (M, (6 : Int32)))))
  else
  some (M, (3 : Int32))))
set_option maxRecDepth 100000 in
theorem zt_X12_readPlace_J38 {X : Zx} {M : Zm}  {z : Zm × Int32} (h : zf_X12_readPlace_J38 M  = some z) (hR : zRi X zC_X12_readPlace z.1 z.2) : zV X zC_X12_readPlace M 38 [] [] := by
  unfold zf_X12_readPlace_J38 at h
  refine zV_b (pc' := 39) (lv' := []) (st' := [.inl (3 : Int32)]) [(.iconst 3, 1)] (by decide +kernel) rfl ?_
  refine zV_goto (off := 4) (tgt := 43) (by decide +kernel) (by decide) ?_
  exact zend_i h hR (by decide +kernel)
set_option maxRecDepth 100000 in
theorem zt_X12_readPlace {X : Zx} {M : Zm} {l0 : Option Nat} {l1 : Int32} {l2 : Int32} {z : Zm × Int32} (h : zf_X12_readPlace M l0 l1 l2 = some z) (hR : zRi X zC_X12_readPlace z.1 z.2) : zV X zC_X12_readPlace M 0 [(0, .inr (.inr l0)), (1, .inl l1), (2, .inl l2)] [] := by
  unfold zf_X12_readPlace at h
  refine zV_b (pc' := 1) (lv' := [(0, .inr (.inr l0)), (1, .inl l1), (2, .inl l2)]) (st' := [.inl l1]) [(.iload_n 1, 1)] (by decide +kernel) rfl ?_
  refine zV_if_lt (off := 9) (tgt := 10) (by decide +kernel) (by decide) h (fun c1 h => ?_) (fun c1 h => ?_)
  · refine zV_b (pc' := 11) (lv' := [(0, .inr (.inr l0)), (1, .inl l1), (2, .inl l2)]) (st' := [.inl (3 : Int32)]) [(.iconst 3, 1)] (by decide +kernel) rfl ?_
    exact zend_i h hR (by decide +kernel)
  · refine zV_b (pc' := 7) (lv' := [(0, .inr (.inr l0)), (1, .inl l1), (2, .inl l2)]) (st' := [.inl (20 : Int32), .inl l1]) [(.iload_n 1, 1), (.bipush 20, 2)] (by decide +kernel) rfl ?_
    refine zV_icmp_lt (off := 5) (tgt := 12) (by decide +kernel) (by decide) h (fun c3 h => ?_) (fun c3 h => ?_)
    · refine zV_b (pc' := 13) (lv' := [(0, .inr (.inr l0)), (1, .inl l1), (2, .inl l2)]) (st' := [.inr (.inr l0)]) [(.aload_n 0, 1)] (by decide +kernel) rfl ?_
      refine zV_gr (by decide +kernel) zfl_RX12_39 (by decide) rfl h (fun v4 _ h => ?_)
      refine zV_b (pc' := 17) (lv' := [(0, .inr (.inr l0)), (1, .inl l1), (2, .inl l2)]) (st' := [.inl l1, .inr (.inr v4)]) [(.iload_n 1, 1)] (by decide +kernel) rfl ?_
      refine zV_ai (by decide +kernel) h (fun v5 _ h => ?_)
      refine zV_if_ge (off := 6) (tgt := 24) (by decide +kernel) (by decide) h (fun c6 h => ?_) (fun c6 h => ?_)
      · refine zV_b (pc' := 25) (lv' := [(0, .inr (.inr l0)), (1, .inl l1), (2, .inl l2)]) (st' := [.inl l2]) [(.iload_n 2, 1)] (by decide +kernel) rfl ?_
        refine zV_if_lt (off := 13) (tgt := 38) (by decide +kernel) (by decide) h (fun c7 h => ?_) (fun c7 h => ?_)
        · exact zV_lv (lv' := []) [] rfl (zt_X12_readPlace_J38 h hR)
        · refine zV_b (pc' := 30) (lv' := [(0, .inr (.inr l0)), (1, .inl l1), (2, .inl l2)]) (st' := [.inr (.inr l0), .inl l2]) [(.iload_n 2, 1), (.aload_n 0, 1)] (by decide +kernel) rfl ?_
          refine zV_gr (by decide +kernel) zfl_RX12_42 (by decide) rfl h (fun v10 _ h => ?_)
          refine zV_b (pc' := 34) (lv' := [(0, .inr (.inr l0)), (1, .inl l1), (2, .inl l2)]) (st' := [.inl l1, .inr (.inr v10), .inl l2]) [(.iload_n 1, 1)] (by decide +kernel) rfl ?_
          refine zV_ai (by decide +kernel) h (fun v11 _ h => ?_)
          refine zV_icmp_lt (off := 7) (tgt := 42) (by decide +kernel) (by decide) h (fun c12 h => ?_) (fun c12 h => ?_)
          · refine zV_b (pc' := 43) (lv' := [(0, .inr (.inr l0)), (1, .inl l1), (2, .inl l2)]) (st' := [.inl (0 : Int32)]) [(.iconst 0, 1)] (by decide +kernel) rfl ?_
            exact zend_i h hR (by decide +kernel)
          · exact zV_lv (lv' := []) [] rfl (zt_X12_readPlace_J38 h hR)
      · refine zV_b (pc' := 23) (lv' := [(0, .inr (.inr l0)), (1, .inl l1), (2, .inl l2)]) (st' := [.inl (6 : Int32)]) [(.bipush 6, 2)] (by decide +kernel) rfl ?_
        exact zend_i h hR (by decide +kernel)
    · refine zV_b (pc' := 11) (lv' := [(0, .inr (.inr l0)), (1, .inl l1), (2, .inl l2)]) (st' := [.inl (3 : Int32)]) [(.iconst 3, 1)] (by decide +kernel) rfl ?_
      exact zend_i h hR (by decide +kernel)
theorem zc_X12_readPlace {M M' : Zm} {l0 : Option Nat} {l1 : Int32} {l2 : Int32} {x : Int32} (h : zf_X12_readPlace M l0 l1 l2 = some (M', x)) (l : Launch) (D : va_G) (cy : Nat → ClassId) : zMet l yX12_readPlace zC_X12_readPlace (some .int) D cy [.inr (.inr l0), .inl l1, .inl l2] M M' (some (.inl x)) :=
  zM_i (by decide) rfl (fun h => by cases h) (Nat.le_of_ble_eq_true rfl) (fun X hR => zt_X12_readPlace h hR)
-- BlendCellarModel.at(II)I
def zC_X12_at : Zc := (cX12_at, 3, RX12, 1, 22, false)
theorem zcl_X12_at {C : Zc} (h1 : zC_X12_at.2.2.2.1 + 1 ≤ C.2.2.2.1) (h2 : 8 + (zC_X12_at.2.1 + 11) + zC_X12_at.2.2.2.2.1 ≤ C.2.2.2.2.1) : zCl C yX12_at zC_X12_at (some .int) 2 := ⟨zw_1961, zw_114, ⟨by decide, by decide⟩, by decide +kernel, h1, h2⟩
noncomputable def zf_X12_at (M : Zm) (l0 : Option Nat) (l1 : Int32) (l2 : Int32) : Option (Zm × Int32) :=
  zb1 (zo_rc M l0 13) (fun _ => zbd (zf_X12_readPlace M l0 l1 l2) (fun M1 v1 =>
  (if v1 ≤ 0 then
  zb1 (zo_gr M1 l0 13 13) (fun v3 =>
  zb1 (zo_ai M1 v3 (((60 : Int32) * l1) + l2)) (fun v4 =>
  some (M1, v4)))
  else
  some (M1, (-1 : Int32)))))
set_option maxRecDepth 100000 in
theorem zt_X12_at {X : Zx} {M : Zm} {l0 : Option Nat} {l1 : Int32} {l2 : Int32} {z : Zm × Int32} (h : zf_X12_at M l0 l1 l2 = some z) (hR : zRi X zC_X12_at z.1 z.2) : zV X zC_X12_at M 0 [(0, .inr (.inr l0)), (1, .inl l1), (2, .inl l2)] [] := by
  unfold zf_X12_at at h
  refine zV_b (pc' := 3) (lv' := [(0, .inr (.inr l0)), (1, .inl l1), (2, .inl l2)]) (st' := [.inl l2, .inl l1, .inr (.inr l0)]) [(.aload_n 0, 1), (.iload_n 1, 1), (.iload_n 2, 1)] (by decide +kernel) rfl ?_
  refine zV_cvi (As := [.inl l1, .inl l2]) (st := []) (c := 13) (by decide +kernel) (zcl_X12_readPlace (by decide) (by decide)) ⟨zw_1715, zw_1717, zw_64⟩ ⟨⟨_, _, rfl⟩, by decide⟩ rfl rfl (Nat.le_of_ble_eq_true rfl) h (fun _ _ e => zc_X12_readPlace e) (fun M1 v1 _ h => ?_)
  refine zV_if_le (off := 7) (tgt := 13) (by decide +kernel) (by decide) h (fun c2 h => ?_) (fun c2 h => ?_)
  · refine zV_b (pc' := 14) (lv' := [(0, .inr (.inr l0)), (1, .inl l1), (2, .inl l2)]) (st' := [.inr (.inr l0)]) [(.aload_n 0, 1)] (by decide +kernel) rfl ?_
    refine zV_gr (by decide +kernel) zfl_RX12_45 (by decide) rfl h (fun v3 _ h => ?_)
    refine zV_b (pc' := 23) (lv' := [(0, .inr (.inr l0)), (1, .inl l1), (2, .inl l2)]) (st' := [.inl (((60 : Int32) * l1) + l2), .inr (.inr v3)]) [(.bipush 60, 2), (.iload_n 1, 1), (.imul, 1), (.iload_n 2, 1), (.iadd, 1)] (by decide +kernel) rfl ?_
    refine zV_ai (by decide +kernel) h (fun v4 _ h => ?_)
    exact zend_i h hR (by decide +kernel)
  · refine zV_b (pc' := 10) (lv' := [(0, .inr (.inr l0)), (1, .inl l1), (2, .inl l2)]) (st' := [.inl (-1 : Int32)]) [(.iconst (-1), 1)] (by decide +kernel) rfl ?_
    refine zV_goto (off := 14) (tgt := 24) (by decide +kernel) (by decide) ?_
    exact zend_i h hR (by decide +kernel)
theorem zc_X12_at {M M' : Zm} {l0 : Option Nat} {l1 : Int32} {l2 : Int32} {x : Int32} (h : zf_X12_at M l0 l1 l2 = some (M', x)) (l : Launch) (D : va_G) (cy : Nat → ClassId) : zMet l yX12_at zC_X12_at (some .int) D cy [.inr (.inr l0), .inl l1, .inl l2] M M' (some (.inl x)) :=
  zM_i (by decide) rfl (fun h => by cases h) (Nat.le_of_ble_eq_true rfl) (fun X hR => zt_X12_at h hR)
-- BlendCellarModel.atLeast0(J)J
def zC_X12_atLeast0 : Zc := (cX12_atLeast0, 2, RX12, 0, 0, false)
theorem zcl_X12_atLeast0 {C : Zc} (h1 : zC_X12_atLeast0.2.2.2.1 + 1 ≤ C.2.2.2.1) (h2 : 8 + (zC_X12_atLeast0.2.1 + 11) + zC_X12_atLeast0.2.2.2.2.1 ≤ C.2.2.2.2.1) : zCl C yX12_atLeast0 zC_X12_atLeast0 (some .long) 1 := ⟨zw_1758, zw_114, ⟨by decide, by decide⟩, by decide +kernel, h1, h2⟩
noncomputable def zf_X12_atLeast0 (M : Zm) (l0 : Int64) : Option (Zm × Int64) :=
  (if (0 : Int64) ≤ l0 then
  some (M, l0)
  else
  some (M, (0 : Int64)))
set_option maxRecDepth 100000 in
theorem zt_X12_atLeast0 {X : Zx} {M : Zm} {l0 : Int64} {z : Zm × Int64} (h : zf_X12_atLeast0 M l0 = some z) (hR : zRj X zC_X12_atLeast0 z.1 z.2) : zV X zC_X12_atLeast0 M 0 [(0, .inr (.inl l0))] [] := by
  unfold zf_X12_atLeast0 at h
  refine zV_b (pc' := 2) (lv' := [(0, .inr (.inl l0))]) (st' := [.inr (.inl (0 : Int64)), .inr (.inl l0)]) [(.lload_n 0, 1), (.lconst 0, 1)] (by decide +kernel) rfl ?_
  refine zV_lcmp_ge (off := 7) (tgt := 10) (by decide +kernel) (by decide +kernel) (by decide) h (fun c1 h => ?_) (fun c1 h => ?_)
  · refine zV_b (pc' := 11) (lv' := [(0, .inr (.inl l0))]) (st' := [.inr (.inl l0)]) [(.lload_n 0, 1)] (by decide +kernel) rfl ?_
    exact zend_j h hR (by decide +kernel)
  · refine zV_b (pc' := 7) (lv' := [(0, .inr (.inl l0))]) (st' := [.inr (.inl (0 : Int64))]) [(.lconst 0, 1)] (by decide +kernel) rfl ?_
    refine zV_goto (off := 4) (tgt := 11) (by decide +kernel) (by decide) ?_
    exact zend_j h hR (by decide +kernel)
theorem zc_X12_atLeast0 {M M' : Zm} {l0 : Int64} {x : Int64} (h : zf_X12_atLeast0 M l0 = some (M', x)) (l : Launch) (D : va_G) (cy : Nat → ClassId) : zMet l yX12_atLeast0 zC_X12_atLeast0 (some .long) D cy [.inr (.inl l0)] M M' (some (.inr (.inl x))) :=
  zM_j (by decide) rfl (fun h => by cases h) (Nat.le_of_ble_eq_true rfl) (fun X hR => zt_X12_atLeast0 h hR)
-- BlendCellarModel.keep()V
def zC_X12_keep : Zc := (cX12_keep, 3, RX12, 0, 0, false)
theorem zcl_X12_keep {C : Zc} (h1 : zC_X12_keep.2.2.2.1 + 1 ≤ C.2.2.2.1) (h2 : 8 + (zC_X12_keep.2.1 + 11) + zC_X12_keep.2.2.2.2.1 ≤ C.2.2.2.2.1) : zCl C yX12_keep zC_X12_keep none 0 := ⟨zw_1684, zw_114, ⟨by decide, by decide⟩, by decide +kernel, h1, h2⟩
noncomputable def zf_X12_keep_L93 (p0 : Option Nat) (p1 : Int32) (x : Zm × Int32) : Option ((Zm × Int32) ⊕ (Zm × Int32)) := match x with
  | (M, l2) =>
  zb1 (zo_gr M p0 13 6) (fun v26 =>
  zb1 (zo_ai M v26 p1) (fun v27 =>
  (if v27 ≤ l2 then
  some (.inr (M, l2))
  else
  zb1 (zo_gr M p0 13 52) (fun v29 =>
  zb1 (zo_gr M p0 13 7) (fun v30 =>
  zb1 (zo_ai M v30 (((4 : Int32) * p1) + l2)) (fun v31 =>
  zb1 (zo_si M v29 (((4 : Int32) * p1) + l2) v31) (fun M32 =>
  some (.inl (M32, (l2 + 1))))))))))
def zP_X12_keep_L93 (X : Zx) (p0 : Option Nat) (p1 : Int32) (x : Zm × Int32) : Prop := match x with
  | (M, l2) => zV X zC_X12_keep M 93 [(0, .inr (.inr p0)), (1, .inl p1), (2, .inl l2)] []
def zK_X12_keep_L93 (X : Zx) (p0 : Option Nat) (p1 : Int32) (y : Zm × Int32) : Prop := match y with
  | (M, l2) => zV X zC_X12_keep M 129 [(0, .inr (.inr p0)), (1, .inl p1)] []
noncomputable def zf_X12_keep_L146 (p0 : Option Nat) (p1 : Int32) (x : Zm × Int32) : Option ((Zm × Int32) ⊕ (Zm × Int32)) := match x with
  | (M, l2) =>
  zb1 (zo_gr M p0 13 8) (fun v39 =>
  zb1 (zo_ai M v39 p1) (fun v40 =>
  (if (((60 : Int32) * p1) + v40) ≤ l2 then
  some (.inr (M, l2))
  else
  zb1 (zo_gr M p0 13 54) (fun v42 =>
  zb1 (zo_gr M p0 13 9) (fun v43 =>
  zb1 (zo_ai M v43 l2) (fun v44 =>
  zb1 (zo_si M v42 l2 v44) (fun M45 =>
  zb1 (zo_gr M45 p0 13 55) (fun v46 =>
  zb1 (zo_gr M45 p0 13 10) (fun v47 =>
  zb1 (zo_aj M45 v47 l2) (fun v48 =>
  zb1 (zo_sj M45 v46 l2 v48) (fun M49 =>
  some (.inl (M49, (l2 + 1))))))))))))))
def zP_X12_keep_L146 (X : Zx) (p0 : Option Nat) (p1 : Int32) (x : Zm × Int32) : Prop := match x with
  | (M, l2) => zV X zC_X12_keep M 146 [(0, .inr (.inr p0)), (1, .inl p1), (2, .inl l2)] []
def zK_X12_keep_L146 (X : Zx) (p0 : Option Nat) (p1 : Int32) (y : Zm × Int32) : Prop := match y with
  | (M, l2) => zV X zC_X12_keep M 191 [(0, .inr (.inr p0)), (1, .inl p1)] []
noncomputable def zf_X12_keep_L47 (p0 : Option Nat) (x : Zm × Int32) : Option ((Zm × Int32) ⊕ (Zm × Int32)) := match x with
  | (M, l1) =>
  zb1 (zo_gi M p0 13 1) (fun v12 =>
  (if v12 ≤ l1 then
  some (.inr (M, l1))
  else
  zb1 (zo_gr M p0 13 49) (fun v14 =>
  zb1 (zo_gr M p0 13 4) (fun v15 =>
  zb1 (zo_ai M v15 l1) (fun v16 =>
  zb1 (zo_si M v14 l1 v16) (fun M17 =>
  zb1 (zo_gr M17 p0 13 50) (fun v18 =>
  zb1 (zo_gr M17 p0 13 5) (fun v19 =>
  zb1 (zo_ai M17 v19 l1) (fun v20 =>
  zb1 (zo_si M17 v18 l1 v20) (fun M21 =>
  zb1 (zo_gr M21 p0 13 51) (fun v22 =>
  zb1 (zo_gr M21 p0 13 6) (fun v23 =>
  zb1 (zo_ai M21 v23 l1) (fun v24 =>
  zb1 (zo_si M21 v22 l1 v24) (fun M25 =>
  zb1 (zwhile (zf_X12_keep_L93 p0 l1) (M25, (0 : Int32))) (fun y34 => match y34 with
  | (M93_34, l2_34) =>
  zb1 (zo_gr M93_34 p0 13 53) (fun v35 =>
  zb1 (zo_gr M93_34 p0 13 8) (fun v36 =>
  zb1 (zo_ai M93_34 v36 l1) (fun v37 =>
  zb1 (zo_si M93_34 v35 l1 v37) (fun M38 =>
  zb1 (zwhile (zf_X12_keep_L146 p0 l1) (M38, ((60 : Int32) * l1))) (fun y51 => match y51 with
  | (M146_51, l2_51) =>
  some (.inl (M146_51, (l1 + 1)))))))))))))))))))))))
def zP_X12_keep_L47 (X : Zx) (p0 : Option Nat) (x : Zm × Int32) : Prop := match x with
  | (M, l1) => zV X zC_X12_keep M 47 [(0, .inr (.inr p0)), (1, .inl l1)] []
def zK_X12_keep_L47 (X : Zx) (p0 : Option Nat) (y : Zm × Int32) : Prop := match y with
  | (M, l1) => zV X zC_X12_keep M 197 [(0, .inr (.inr p0))] []
noncomputable def zf_X12_keep_L199 (p0 : Option Nat) (x : Zm × Int32) : Option ((Zm × Int32) ⊕ (Zm × Int32)) := match x with
  | (M, l1) =>
  (if (20 : Int32) ≤ l1 then
  some (.inr (M, l1))
  else
  zb1 (zo_gr M p0 13 56) (fun v55 =>
  zb1 (zo_gr M p0 13 11) (fun v56 =>
  zb1 (zo_ai M v56 l1) (fun v57 =>
  zb1 (zo_si M v55 l1 v57) (fun M58 =>
  zb1 (zo_gr M58 p0 13 57) (fun v59 =>
  zb1 (zo_gr M58 p0 13 12) (fun v60 =>
  zb1 (zo_ai M58 v60 l1) (fun v61 =>
  zb1 (zo_si M58 v59 l1 v61) (fun M62 =>
  some (.inl (M62, (l1 + 1))))))))))))
def zP_X12_keep_L199 (X : Zx) (p0 : Option Nat) (x : Zm × Int32) : Prop := match x with
  | (M, l1) => zV X zC_X12_keep M 199 [(0, .inr (.inr p0)), (1, .inl l1)] []
def zK_X12_keep_L199 (X : Zx) (p0 : Option Nat) (y : Zm × Int32) : Prop := match y with
  | (M, l1) => zV X zC_X12_keep M 235 [(0, .inr (.inr p0))] []
noncomputable def zf_X12_keep_L237 (p0 : Option Nat) (x : Zm × Int32) : Option ((Zm × Int32) ⊕ (Zm × Int32)) := match x with
  | (M, l1) =>
  (if (1200 : Int32) ≤ l1 then
  some (.inr (M, l1))
  else
  zb1 (zo_gr M p0 13 58) (fun v66 =>
  zb1 (zo_gr M p0 13 13) (fun v67 =>
  zb1 (zo_ai M v67 l1) (fun v68 =>
  zb1 (zo_si M v66 l1 v68) (fun M69 =>
  some (.inl (M69, (l1 + 1))))))))
def zP_X12_keep_L237 (X : Zx) (p0 : Option Nat) (x : Zm × Int32) : Prop := match x with
  | (M, l1) => zV X zC_X12_keep M 237 [(0, .inr (.inr p0)), (1, .inl l1)] []
def zK_X12_keep_L237 (X : Zx) (p0 : Option Nat) (y : Zm × Int32) : Prop := match y with
  | (M, l1) => zV X zC_X12_keep M 262 [(0, .inr (.inr p0))] []
noncomputable def zf_X12_keep_L264 (p0 : Option Nat) (x : Zm × Int32) : Option ((Zm × Int32) ⊕ (Zm × Int32)) := match x with
  | (M, l1) =>
  zb1 (zo_gi M p0 13 14) (fun v72 =>
  (if ((5 : Int32) * v72) ≤ l1 then
  some (.inr (M, l1))
  else
  zb1 (zo_gr M p0 13 59) (fun v74 =>
  zb1 (zo_gr M p0 13 17) (fun v75 =>
  zb1 (zo_aj M v75 l1) (fun v76 =>
  zb1 (zo_sj M v74 l1 v76) (fun M77 =>
  some (.inl (M77, (l1 + 1)))))))))
def zP_X12_keep_L264 (X : Zx) (p0 : Option Nat) (x : Zm × Int32) : Prop := match x with
  | (M, l1) => zV X zC_X12_keep M 264 [(0, .inr (.inr p0)), (1, .inl l1)] []
def zK_X12_keep_L264 (X : Zx) (p0 : Option Nat) (y : Zm × Int32) : Prop := match y with
  | (M, l1) => zV X zC_X12_keep M 292 [] []
noncomputable def zf_X12_keep (M : Zm) (l0 : Option Nat) : Option (Zm × Unit) :=
  zb1 (zo_pz M l0 13 43 (1 : Int32)) (fun M1 =>
  zb1 (zo_gi M1 l0 13 1) (fun v2 =>
  zb1 (zo_pi M1 l0 13 44 v2) (fun M3 =>
  zb1 (zo_gi M3 l0 13 14) (fun v4 =>
  zb1 (zo_pi M3 l0 13 45 v4) (fun M5 =>
  zb1 (zo_gi M5 l0 13 18) (fun v6 =>
  zb1 (zo_pi M5 l0 13 46 v6) (fun M7 =>
  zb1 (zo_gi M7 l0 13 19) (fun v8 =>
  zb1 (zo_pi M7 l0 13 47 v8) (fun M9 =>
  zb1 (zo_gi M9 l0 13 21) (fun v10 =>
  zb1 (zo_pi M9 l0 13 48 v10) (fun M11 =>
  zb1 (zwhile (zf_X12_keep_L47 l0) (M11, (0 : Int32))) (fun y53 => match y53 with
  | (M47_53, l1_53) =>
  zb1 (zwhile (zf_X12_keep_L199 l0) (M47_53, (0 : Int32))) (fun y64 => match y64 with
  | (M199_64, l1_64) =>
  zb1 (zwhile (zf_X12_keep_L237 l0) (M199_64, (0 : Int32))) (fun y71 => match y71 with
  | (M237_71, l1_71) =>
  zb1 (zwhile (zf_X12_keep_L264 l0) (M237_71, (0 : Int32))) (fun y79 => match y79 with
  | (M264_79, l1_79) =>
  some (M264_79, ()))))))))))))))))
set_option maxRecDepth 100000 in
theorem zt_X12_keep_L93 {X : Zx} {p0 : Option Nat} {p1 : Int32} {x : Zm × Int32} {y : Zm × Int32} (h : zwhile (zf_X12_keep_L93 p0 p1) x = some y) (hy : zK_X12_keep_L93 X p0 p1 y) : zP_X12_keep_L93 X p0 p1 x := by
  refine zwhile_ind (P := zP_X12_keep_L93 X p0 p1) (K := zK_X12_keep_L93 X p0 p1) ?_ h hy
  intro x z hf k1 k2
  obtain ⟨M, l2⟩ := x
  have h : zf_X12_keep_L93 p0 p1 (M, l2) = some z := hf
  unfold zf_X12_keep_L93 at h
  show zV X zC_X12_keep M 93 [(0, .inr (.inr p0)), (1, .inl p1), (2, .inl l2)] []
  refine zV_b (pc' := 95) (lv' := [(0, .inr (.inr p0)), (1, .inl p1), (2, .inl l2)]) (st' := [.inr (.inr p0), .inl l2]) [(.iload_n 2, 1), (.aload_n 0, 1)] (by decide +kernel) rfl ?_
  refine zV_gr (by decide +kernel) zfl_RX12_22 (by decide) rfl h (fun v26 _ h => ?_)
  refine zV_b (pc' := 99) (lv' := [(0, .inr (.inr p0)), (1, .inl p1), (2, .inl l2)]) (st' := [.inl p1, .inr (.inr v26), .inl l2]) [(.iload_n 1, 1)] (by decide +kernel) rfl ?_
  refine zV_ai (by decide +kernel) h (fun v27 _ h => ?_)
  refine zV_icmp_ge (off := 29) (tgt := 129) (by decide +kernel) (by decide) h (fun c28 h => ?_) (fun c28 h => ?_)
  · exact zV_lv (lv' := [(0, .inr (.inr p0)), (1, .inl p1)]) [0, 1] rfl (k2 _ (Option.some.inj h).symm)
  · refine zV_b (pc' := 104) (lv' := [(0, .inr (.inr p0)), (1, .inl p1), (2, .inl l2)]) (st' := [.inr (.inr p0)]) [(.aload_n 0, 1)] (by decide +kernel) rfl ?_
    refine zV_gr (by decide +kernel) zfl_RX12_115 (by decide) rfl h (fun v29 _ h => ?_)
    refine zV_b (pc' := 113) (lv' := [(0, .inr (.inr p0)), (1, .inl p1), (2, .inl l2)]) (st' := [.inr (.inr p0), .inl (((4 : Int32) * p1) + l2), .inr (.inr v29)]) [(.iconst 4, 1), (.iload_n 1, 1), (.imul, 1), (.iload_n 2, 1), (.iadd, 1), (.aload_n 0, 1)] (by decide +kernel) rfl ?_
    refine zV_gr (by decide +kernel) zfl_RX12_25 (by decide) rfl h (fun v30 _ h => ?_)
    refine zV_b (pc' := 121) (lv' := [(0, .inr (.inr p0)), (1, .inl p1), (2, .inl l2)]) (st' := [.inl (((4 : Int32) * p1) + l2), .inr (.inr v30), .inl (((4 : Int32) * p1) + l2), .inr (.inr v29)]) [(.iconst 4, 1), (.iload_n 1, 1), (.imul, 1), (.iload_n 2, 1), (.iadd, 1)] (by decide +kernel) rfl ?_
    refine zV_ai (by decide +kernel) h (fun v31 _ h => ?_)
    refine zV_si (by decide +kernel) h (fun M32 _ h => ?_)
    refine zV_b (pc' := 126) (lv' := [(2, .inl (l2 + 1)), (0, .inr (.inr p0)), (1, .inl p1)]) (st' := []) [(.iinc 2 1, 3)] (by decide +kernel) rfl ?_
    refine zV_goto (off := (-33)) (tgt := 93) (by decide +kernel) (by decide) ?_
    exact zV_lv (lv' := [(0, .inr (.inr p0)), (1, .inl p1), (2, .inl (l2 + 1))]) [1, 2, 0] rfl (k1 _ (Option.some.inj h).symm)
set_option maxRecDepth 100000 in
theorem zt_X12_keep_L146 {X : Zx} {p0 : Option Nat} {p1 : Int32} {x : Zm × Int32} {y : Zm × Int32} (h : zwhile (zf_X12_keep_L146 p0 p1) x = some y) (hy : zK_X12_keep_L146 X p0 p1 y) : zP_X12_keep_L146 X p0 p1 x := by
  refine zwhile_ind (P := zP_X12_keep_L146 X p0 p1) (K := zK_X12_keep_L146 X p0 p1) ?_ h hy
  intro x z hf k1 k2
  obtain ⟨M, l2⟩ := x
  have h : zf_X12_keep_L146 p0 p1 (M, l2) = some z := hf
  unfold zf_X12_keep_L146 at h
  show zV X zC_X12_keep M 146 [(0, .inr (.inr p0)), (1, .inl p1), (2, .inl l2)] []
  refine zV_b (pc' := 152) (lv' := [(0, .inr (.inr p0)), (1, .inl p1), (2, .inl l2)]) (st' := [.inr (.inr p0), .inl ((60 : Int32) * p1), .inl l2]) [(.iload_n 2, 1), (.bipush 60, 2), (.iload_n 1, 1), (.imul, 1), (.aload_n 0, 1)] (by decide +kernel) rfl ?_
  refine zV_gr (by decide +kernel) zfl_RX12_28 (by decide) rfl h (fun v39 _ h => ?_)
  refine zV_b (pc' := 156) (lv' := [(0, .inr (.inr p0)), (1, .inl p1), (2, .inl l2)]) (st' := [.inl p1, .inr (.inr v39), .inl ((60 : Int32) * p1), .inl l2]) [(.iload_n 1, 1)] (by decide +kernel) rfl ?_
  refine zV_ai (by decide +kernel) h (fun v40 _ h => ?_)
  refine zV_b (pc' := 158) (lv' := [(0, .inr (.inr p0)), (1, .inl p1), (2, .inl l2)]) (st' := [.inl (((60 : Int32) * p1) + v40), .inl l2]) [(.iadd, 1)] (by decide +kernel) rfl ?_
  refine zV_icmp_ge (off := 33) (tgt := 191) (by decide +kernel) (by decide) h (fun c41 h => ?_) (fun c41 h => ?_)
  · exact zV_lv (lv' := [(0, .inr (.inr p0)), (1, .inl p1)]) [0, 1] rfl (k2 _ (Option.some.inj h).symm)
  · refine zV_b (pc' := 162) (lv' := [(0, .inr (.inr p0)), (1, .inl p1), (2, .inl l2)]) (st' := [.inr (.inr p0)]) [(.aload_n 0, 1)] (by decide +kernel) rfl ?_
    refine zV_gr (by decide +kernel) zfl_RX12_121 (by decide) rfl h (fun v42 _ h => ?_)
    refine zV_b (pc' := 167) (lv' := [(0, .inr (.inr p0)), (1, .inl p1), (2, .inl l2)]) (st' := [.inr (.inr p0), .inl l2, .inr (.inr v42)]) [(.iload_n 2, 1), (.aload_n 0, 1)] (by decide +kernel) rfl ?_
    refine zV_gr (by decide +kernel) zfl_RX12_32 (by decide) rfl h (fun v43 _ h => ?_)
    refine zV_b (pc' := 171) (lv' := [(0, .inr (.inr p0)), (1, .inl p1), (2, .inl l2)]) (st' := [.inl l2, .inr (.inr v43), .inl l2, .inr (.inr v42)]) [(.iload_n 2, 1)] (by decide +kernel) rfl ?_
    refine zV_ai (by decide +kernel) h (fun v44 _ h => ?_)
    refine zV_si (by decide +kernel) h (fun M45 _ h => ?_)
    refine zV_b (pc' := 174) (lv' := [(0, .inr (.inr p0)), (1, .inl p1), (2, .inl l2)]) (st' := [.inr (.inr p0)]) [(.aload_n 0, 1)] (by decide +kernel) rfl ?_
    refine zV_gr (by decide +kernel) zfl_RX12_124 (by decide) rfl h (fun v46 _ h => ?_)
    refine zV_b (pc' := 179) (lv' := [(0, .inr (.inr p0)), (1, .inl p1), (2, .inl l2)]) (st' := [.inr (.inr p0), .inl l2, .inr (.inr v46)]) [(.iload_n 2, 1), (.aload_n 0, 1)] (by decide +kernel) rfl ?_
    refine zV_gr (by decide +kernel) zfl_RX12_35 (by decide) rfl h (fun v47 _ h => ?_)
    refine zV_b (pc' := 183) (lv' := [(0, .inr (.inr p0)), (1, .inl p1), (2, .inl l2)]) (st' := [.inl l2, .inr (.inr v47), .inl l2, .inr (.inr v46)]) [(.iload_n 2, 1)] (by decide +kernel) rfl ?_
    refine zV_aj (by decide +kernel) h (fun v48 _ h => ?_)
    refine zV_sj (by decide +kernel) h (fun M49 _ h => ?_)
    refine zV_b (pc' := 188) (lv' := [(2, .inl (l2 + 1)), (0, .inr (.inr p0)), (1, .inl p1)]) (st' := []) [(.iinc 2 1, 3)] (by decide +kernel) rfl ?_
    refine zV_goto (off := (-42)) (tgt := 146) (by decide +kernel) (by decide) ?_
    exact zV_lv (lv' := [(0, .inr (.inr p0)), (1, .inl p1), (2, .inl (l2 + 1))]) [1, 2, 0] rfl (k1 _ (Option.some.inj h).symm)
set_option maxRecDepth 100000 in
theorem zt_X12_keep_L47 {X : Zx} {p0 : Option Nat} {x : Zm × Int32} {y : Zm × Int32} (h : zwhile (zf_X12_keep_L47 p0) x = some y) (hy : zK_X12_keep_L47 X p0 y) : zP_X12_keep_L47 X p0 x := by
  refine zwhile_ind (P := zP_X12_keep_L47 X p0) (K := zK_X12_keep_L47 X p0) ?_ h hy
  intro x z hf k1 k2
  obtain ⟨M, l1⟩ := x
  have h : zf_X12_keep_L47 p0 (M, l1) = some z := hf
  unfold zf_X12_keep_L47 at h
  show zV X zC_X12_keep M 47 [(0, .inr (.inr p0)), (1, .inl l1)] []
  refine zV_b (pc' := 49) (lv' := [(0, .inr (.inr p0)), (1, .inl l1)]) (st' := [.inr (.inr p0), .inl l1]) [(.iload_n 1, 1), (.aload_n 0, 1)] (by decide +kernel) rfl ?_
  refine zV_gi (by decide +kernel) zfl_RX12_181 (by decide) rfl (Or.inl rfl) h (fun v12 _ h => ?_)
  refine zV_icmp_ge (off := 145) (tgt := 197) (by decide +kernel) (by decide) h (fun c13 h => ?_) (fun c13 h => ?_)
  · exact zV_lv (lv' := [(0, .inr (.inr p0))]) [0] rfl (k2 _ (Option.some.inj h).symm)
  · refine zV_b (pc' := 56) (lv' := [(0, .inr (.inr p0)), (1, .inl l1)]) (st' := [.inr (.inr p0)]) [(.aload_n 0, 1)] (by decide +kernel) rfl ?_
    refine zV_gr (by decide +kernel) zfl_RX12_106 (by decide) rfl h (fun v14 _ h => ?_)
    refine zV_b (pc' := 61) (lv' := [(0, .inr (.inr p0)), (1, .inl l1)]) (st' := [.inr (.inr p0), .inl l1, .inr (.inr v14)]) [(.iload_n 1, 1), (.aload_n 0, 1)] (by decide +kernel) rfl ?_
    refine zV_gr (by decide +kernel) zfl_RX12_16 (by decide) rfl h (fun v15 _ h => ?_)
    refine zV_b (pc' := 65) (lv' := [(0, .inr (.inr p0)), (1, .inl l1)]) (st' := [.inl l1, .inr (.inr v15), .inl l1, .inr (.inr v14)]) [(.iload_n 1, 1)] (by decide +kernel) rfl ?_
    refine zV_ai (by decide +kernel) h (fun v16 _ h => ?_)
    refine zV_si (by decide +kernel) h (fun M17 _ h => ?_)
    refine zV_b (pc' := 68) (lv' := [(0, .inr (.inr p0)), (1, .inl l1)]) (st' := [.inr (.inr p0)]) [(.aload_n 0, 1)] (by decide +kernel) rfl ?_
    refine zV_gr (by decide +kernel) zfl_RX12_109 (by decide) rfl h (fun v18 _ h => ?_)
    refine zV_b (pc' := 73) (lv' := [(0, .inr (.inr p0)), (1, .inl l1)]) (st' := [.inr (.inr p0), .inl l1, .inr (.inr v18)]) [(.iload_n 1, 1), (.aload_n 0, 1)] (by decide +kernel) rfl ?_
    refine zV_gr (by decide +kernel) zfl_RX12_19 (by decide) rfl h (fun v19 _ h => ?_)
    refine zV_b (pc' := 77) (lv' := [(0, .inr (.inr p0)), (1, .inl l1)]) (st' := [.inl l1, .inr (.inr v19), .inl l1, .inr (.inr v18)]) [(.iload_n 1, 1)] (by decide +kernel) rfl ?_
    refine zV_ai (by decide +kernel) h (fun v20 _ h => ?_)
    refine zV_si (by decide +kernel) h (fun M21 _ h => ?_)
    refine zV_b (pc' := 80) (lv' := [(0, .inr (.inr p0)), (1, .inl l1)]) (st' := [.inr (.inr p0)]) [(.aload_n 0, 1)] (by decide +kernel) rfl ?_
    refine zV_gr (by decide +kernel) zfl_RX12_112 (by decide) rfl h (fun v22 _ h => ?_)
    refine zV_b (pc' := 85) (lv' := [(0, .inr (.inr p0)), (1, .inl l1)]) (st' := [.inr (.inr p0), .inl l1, .inr (.inr v22)]) [(.iload_n 1, 1), (.aload_n 0, 1)] (by decide +kernel) rfl ?_
    refine zV_gr (by decide +kernel) zfl_RX12_22 (by decide) rfl h (fun v23 _ h => ?_)
    refine zV_b (pc' := 89) (lv' := [(0, .inr (.inr p0)), (1, .inl l1)]) (st' := [.inl l1, .inr (.inr v23), .inl l1, .inr (.inr v22)]) [(.iload_n 1, 1)] (by decide +kernel) rfl ?_
    refine zV_ai (by decide +kernel) h (fun v24 _ h => ?_)
    refine zV_si (by decide +kernel) h (fun M25 _ h => ?_)
    refine zV_b (pc' := 93) (lv' := [(2, .inl (0 : Int32)), (0, .inr (.inr p0)), (1, .inl l1)]) (st' := []) [(.iconst 0, 1), (.istore_n 2, 1)] (by decide +kernel) rfl ?_
    obtain ⟨y34, e34, h⟩ := zb1_inv h
    refine zV_lv (lv' := [(0, .inr (.inr p0)), (1, .inl l1), (2, .inl (0 : Int32))]) [1, 2, 0] rfl (zt_X12_keep_L93 e34 ?_)
    obtain ⟨M93_34, l2_34⟩ := y34
    show zV X zC_X12_keep M93_34 129 [(0, .inr (.inr p0)), (1, .inl l1)] []
    refine zV_b (pc' := 130) (lv' := [(0, .inr (.inr p0)), (1, .inl l1)]) (st' := [.inr (.inr p0)]) [(.aload_n 0, 1)] (by decide +kernel) rfl ?_
    refine zV_gr (by decide +kernel) zfl_RX12_118 (by decide) rfl h (fun v35 _ h => ?_)
    refine zV_b (pc' := 135) (lv' := [(0, .inr (.inr p0)), (1, .inl l1)]) (st' := [.inr (.inr p0), .inl l1, .inr (.inr v35)]) [(.iload_n 1, 1), (.aload_n 0, 1)] (by decide +kernel) rfl ?_
    refine zV_gr (by decide +kernel) zfl_RX12_28 (by decide) rfl h (fun v36 _ h => ?_)
    refine zV_b (pc' := 139) (lv' := [(0, .inr (.inr p0)), (1, .inl l1)]) (st' := [.inl l1, .inr (.inr v36), .inl l1, .inr (.inr v35)]) [(.iload_n 1, 1)] (by decide +kernel) rfl ?_
    refine zV_ai (by decide +kernel) h (fun v37 _ h => ?_)
    refine zV_si (by decide +kernel) h (fun M38 _ h => ?_)
    refine zV_b (pc' := 146) (lv' := [(2, .inl ((60 : Int32) * l1)), (0, .inr (.inr p0)), (1, .inl l1)]) (st' := []) [(.bipush 60, 2), (.iload_n 1, 1), (.imul, 1), (.istore_n 2, 1)] (by decide +kernel) rfl ?_
    obtain ⟨y51, e51, h⟩ := zb1_inv h
    refine zV_lv (lv' := [(0, .inr (.inr p0)), (1, .inl l1), (2, .inl ((60 : Int32) * l1))]) [1, 2, 0] rfl (zt_X12_keep_L146 e51 ?_)
    obtain ⟨M146_51, l2_51⟩ := y51
    show zV X zC_X12_keep M146_51 191 [(0, .inr (.inr p0)), (1, .inl l1)] []
    refine zV_b (pc' := 194) (lv' := [(1, .inl (l1 + 1)), (0, .inr (.inr p0))]) (st' := []) [(.iinc 1 1, 3)] (by decide +kernel) rfl ?_
    refine zV_goto (off := (-147)) (tgt := 47) (by decide +kernel) (by decide) ?_
    exact zV_lv (lv' := [(0, .inr (.inr p0)), (1, .inl (l1 + 1))]) [1, 0] rfl (k1 _ (Option.some.inj h).symm)
set_option maxRecDepth 100000 in
theorem zt_X12_keep_L199 {X : Zx} {p0 : Option Nat} {x : Zm × Int32} {y : Zm × Int32} (h : zwhile (zf_X12_keep_L199 p0) x = some y) (hy : zK_X12_keep_L199 X p0 y) : zP_X12_keep_L199 X p0 x := by
  refine zwhile_ind (P := zP_X12_keep_L199 X p0) (K := zK_X12_keep_L199 X p0) ?_ h hy
  intro x z hf k1 k2
  obtain ⟨M, l1⟩ := x
  have h : zf_X12_keep_L199 p0 (M, l1) = some z := hf
  unfold zf_X12_keep_L199 at h
  show zV X zC_X12_keep M 199 [(0, .inr (.inr p0)), (1, .inl l1)] []
  refine zV_b (pc' := 202) (lv' := [(0, .inr (.inr p0)), (1, .inl l1)]) (st' := [.inl (20 : Int32), .inl l1]) [(.iload_n 1, 1), (.bipush 20, 2)] (by decide +kernel) rfl ?_
  refine zV_icmp_ge (off := 33) (tgt := 235) (by decide +kernel) (by decide) h (fun c54 h => ?_) (fun c54 h => ?_)
  · exact zV_lv (lv' := [(0, .inr (.inr p0))]) [0] rfl (k2 _ (Option.some.inj h).symm)
  · refine zV_b (pc' := 206) (lv' := [(0, .inr (.inr p0)), (1, .inl l1)]) (st' := [.inr (.inr p0)]) [(.aload_n 0, 1)] (by decide +kernel) rfl ?_
    refine zV_gr (by decide +kernel) zfl_RX12_127 (by decide) rfl h (fun v55 _ h => ?_)
    refine zV_b (pc' := 211) (lv' := [(0, .inr (.inr p0)), (1, .inl l1)]) (st' := [.inr (.inr p0), .inl l1, .inr (.inr v55)]) [(.iload_n 1, 1), (.aload_n 0, 1)] (by decide +kernel) rfl ?_
    refine zV_gr (by decide +kernel) zfl_RX12_39 (by decide) rfl h (fun v56 _ h => ?_)
    refine zV_b (pc' := 215) (lv' := [(0, .inr (.inr p0)), (1, .inl l1)]) (st' := [.inl l1, .inr (.inr v56), .inl l1, .inr (.inr v55)]) [(.iload_n 1, 1)] (by decide +kernel) rfl ?_
    refine zV_ai (by decide +kernel) h (fun v57 _ h => ?_)
    refine zV_si (by decide +kernel) h (fun M58 _ h => ?_)
    refine zV_b (pc' := 218) (lv' := [(0, .inr (.inr p0)), (1, .inl l1)]) (st' := [.inr (.inr p0)]) [(.aload_n 0, 1)] (by decide +kernel) rfl ?_
    refine zV_gr (by decide +kernel) zfl_RX12_130 (by decide) rfl h (fun v59 _ h => ?_)
    refine zV_b (pc' := 223) (lv' := [(0, .inr (.inr p0)), (1, .inl l1)]) (st' := [.inr (.inr p0), .inl l1, .inr (.inr v59)]) [(.iload_n 1, 1), (.aload_n 0, 1)] (by decide +kernel) rfl ?_
    refine zV_gr (by decide +kernel) zfl_RX12_42 (by decide) rfl h (fun v60 _ h => ?_)
    refine zV_b (pc' := 227) (lv' := [(0, .inr (.inr p0)), (1, .inl l1)]) (st' := [.inl l1, .inr (.inr v60), .inl l1, .inr (.inr v59)]) [(.iload_n 1, 1)] (by decide +kernel) rfl ?_
    refine zV_ai (by decide +kernel) h (fun v61 _ h => ?_)
    refine zV_si (by decide +kernel) h (fun M62 _ h => ?_)
    refine zV_b (pc' := 232) (lv' := [(1, .inl (l1 + 1)), (0, .inr (.inr p0))]) (st' := []) [(.iinc 1 1, 3)] (by decide +kernel) rfl ?_
    refine zV_goto (off := (-33)) (tgt := 199) (by decide +kernel) (by decide) ?_
    exact zV_lv (lv' := [(0, .inr (.inr p0)), (1, .inl (l1 + 1))]) [1, 0] rfl (k1 _ (Option.some.inj h).symm)
set_option maxRecDepth 100000 in
theorem zt_X12_keep_L237 {X : Zx} {p0 : Option Nat} {x : Zm × Int32} {y : Zm × Int32} (h : zwhile (zf_X12_keep_L237 p0) x = some y) (hy : zK_X12_keep_L237 X p0 y) : zP_X12_keep_L237 X p0 x := by
  refine zwhile_ind (P := zP_X12_keep_L237 X p0) (K := zK_X12_keep_L237 X p0) ?_ h hy
  intro x z hf k1 k2
  obtain ⟨M, l1⟩ := x
  have h : zf_X12_keep_L237 p0 (M, l1) = some z := hf
  unfold zf_X12_keep_L237 at h
  show zV X zC_X12_keep M 237 [(0, .inr (.inr p0)), (1, .inl l1)] []
  refine zV_b (pc' := 241) (lv' := [(0, .inr (.inr p0)), (1, .inl l1)]) (st' := [.inl (1200 : Int32), .inl l1]) [(.iload_n 1, 1), (.sipush 1200, 3)] (by decide +kernel) rfl ?_
  refine zV_icmp_ge (off := 21) (tgt := 262) (by decide +kernel) (by decide) h (fun c65 h => ?_) (fun c65 h => ?_)
  · exact zV_lv (lv' := [(0, .inr (.inr p0))]) [0] rfl (k2 _ (Option.some.inj h).symm)
  · refine zV_b (pc' := 245) (lv' := [(0, .inr (.inr p0)), (1, .inl l1)]) (st' := [.inr (.inr p0)]) [(.aload_n 0, 1)] (by decide +kernel) rfl ?_
    refine zV_gr (by decide +kernel) zfl_RX12_133 (by decide) rfl h (fun v66 _ h => ?_)
    refine zV_b (pc' := 250) (lv' := [(0, .inr (.inr p0)), (1, .inl l1)]) (st' := [.inr (.inr p0), .inl l1, .inr (.inr v66)]) [(.iload_n 1, 1), (.aload_n 0, 1)] (by decide +kernel) rfl ?_
    refine zV_gr (by decide +kernel) zfl_RX12_45 (by decide) rfl h (fun v67 _ h => ?_)
    refine zV_b (pc' := 254) (lv' := [(0, .inr (.inr p0)), (1, .inl l1)]) (st' := [.inl l1, .inr (.inr v67), .inl l1, .inr (.inr v66)]) [(.iload_n 1, 1)] (by decide +kernel) rfl ?_
    refine zV_ai (by decide +kernel) h (fun v68 _ h => ?_)
    refine zV_si (by decide +kernel) h (fun M69 _ h => ?_)
    refine zV_b (pc' := 259) (lv' := [(1, .inl (l1 + 1)), (0, .inr (.inr p0))]) (st' := []) [(.iinc 1 1, 3)] (by decide +kernel) rfl ?_
    refine zV_goto (off := (-22)) (tgt := 237) (by decide +kernel) (by decide) ?_
    exact zV_lv (lv' := [(0, .inr (.inr p0)), (1, .inl (l1 + 1))]) [1, 0] rfl (k1 _ (Option.some.inj h).symm)
set_option maxRecDepth 100000 in
theorem zt_X12_keep_L264 {X : Zx} {p0 : Option Nat} {x : Zm × Int32} {y : Zm × Int32} (h : zwhile (zf_X12_keep_L264 p0) x = some y) (hy : zK_X12_keep_L264 X p0 y) : zP_X12_keep_L264 X p0 x := by
  refine zwhile_ind (P := zP_X12_keep_L264 X p0) (K := zK_X12_keep_L264 X p0) ?_ h hy
  intro x z hf k1 k2
  obtain ⟨M, l1⟩ := x
  have h : zf_X12_keep_L264 p0 (M, l1) = some z := hf
  unfold zf_X12_keep_L264 at h
  show zV X zC_X12_keep M 264 [(0, .inr (.inr p0)), (1, .inl l1)] []
  refine zV_b (pc' := 267) (lv' := [(0, .inr (.inr p0)), (1, .inl l1)]) (st' := [.inr (.inr p0), .inl (5 : Int32), .inl l1]) [(.iload_n 1, 1), (.iconst 5, 1), (.aload_n 0, 1)] (by decide +kernel) rfl ?_
  refine zV_gi (by decide +kernel) zfl_RX12_199 (by decide) rfl (Or.inl rfl) h (fun v72 _ h => ?_)
  refine zV_b (pc' := 271) (lv' := [(0, .inr (.inr p0)), (1, .inl l1)]) (st' := [.inl ((5 : Int32) * v72), .inl l1]) [(.imul, 1)] (by decide +kernel) rfl ?_
  refine zV_icmp_ge (off := 21) (tgt := 292) (by decide +kernel) (by decide) h (fun c73 h => ?_) (fun c73 h => ?_)
  · exact zV_lv (lv' := []) [] rfl (k2 _ (Option.some.inj h).symm)
  · refine zV_b (pc' := 275) (lv' := [(0, .inr (.inr p0)), (1, .inl l1)]) (st' := [.inr (.inr p0)]) [(.aload_n 0, 1)] (by decide +kernel) rfl ?_
    refine zV_gr (by decide +kernel) zfl_RX12_136 (by decide) rfl h (fun v74 _ h => ?_)
    refine zV_b (pc' := 280) (lv' := [(0, .inr (.inr p0)), (1, .inl l1)]) (st' := [.inr (.inr p0), .inl l1, .inr (.inr v74)]) [(.iload_n 1, 1), (.aload_n 0, 1)] (by decide +kernel) rfl ?_
    refine zV_gr (by decide +kernel) zfl_RX12_54 (by decide) rfl h (fun v75 _ h => ?_)
    refine zV_b (pc' := 284) (lv' := [(0, .inr (.inr p0)), (1, .inl l1)]) (st' := [.inl l1, .inr (.inr v75), .inl l1, .inr (.inr v74)]) [(.iload_n 1, 1)] (by decide +kernel) rfl ?_
    refine zV_aj (by decide +kernel) h (fun v76 _ h => ?_)
    refine zV_sj (by decide +kernel) h (fun M77 _ h => ?_)
    refine zV_b (pc' := 289) (lv' := [(1, .inl (l1 + 1)), (0, .inr (.inr p0))]) (st' := []) [(.iinc 1 1, 3)] (by decide +kernel) rfl ?_
    refine zV_goto (off := (-25)) (tgt := 264) (by decide +kernel) (by decide) ?_
    exact zV_lv (lv' := [(0, .inr (.inr p0)), (1, .inl (l1 + 1))]) [1, 0] rfl (k1 _ (Option.some.inj h).symm)
set_option maxRecDepth 100000 in
theorem zt_X12_keep {X : Zx} {M : Zm} {l0 : Option Nat} {z : Zm × Unit} (h : zf_X12_keep M l0 = some z) (hR : zRv X zC_X12_keep z.1) : zV X zC_X12_keep M 0 [(0, .inr (.inr l0))] [] := by
  unfold zf_X12_keep at h
  refine zV_b (pc' := 2) (lv' := [(0, .inr (.inr l0))]) (st' := [.inl (1 : Int32), .inr (.inr l0)]) [(.aload_n 0, 1), (.iconst 1, 1)] (by decide +kernel) rfl ?_
  refine zV_pz (by decide +kernel) zfp_RX12_192 (by decide) rfl h (fun M1 _ h => ?_)
  refine zV_b (pc' := 7) (lv' := [(0, .inr (.inr l0))]) (st' := [.inr (.inr l0), .inr (.inr l0)]) [(.aload_n 0, 1), (.aload_n 0, 1)] (by decide +kernel) rfl ?_
  refine zV_gi (by decide +kernel) zfl_RX12_181 (by decide) rfl (Or.inl rfl) h (fun v2 _ h => ?_)
  refine zV_pi (by decide +kernel) zfp_RX12_196 (by decide) rfl h (fun M3 _ h => ?_)
  refine zV_b (pc' := 15) (lv' := [(0, .inr (.inr l0))]) (st' := [.inr (.inr l0), .inr (.inr l0)]) [(.aload_n 0, 1), (.aload_n 0, 1)] (by decide +kernel) rfl ?_
  refine zV_gi (by decide +kernel) zfl_RX12_199 (by decide) rfl (Or.inl rfl) h (fun v4 _ h => ?_)
  refine zV_pi (by decide +kernel) zfp_RX12_202 (by decide) rfl h (fun M5 _ h => ?_)
  refine zV_b (pc' := 23) (lv' := [(0, .inr (.inr l0))]) (st' := [.inr (.inr l0), .inr (.inr l0)]) [(.aload_n 0, 1), (.aload_n 0, 1)] (by decide +kernel) rfl ?_
  refine zV_gi (by decide +kernel) zfl_RX12_205 (by decide) rfl (Or.inl rfl) h (fun v6 _ h => ?_)
  refine zV_pi (by decide +kernel) zfp_RX12_208 (by decide) rfl h (fun M7 _ h => ?_)
  refine zV_b (pc' := 31) (lv' := [(0, .inr (.inr l0))]) (st' := [.inr (.inr l0), .inr (.inr l0)]) [(.aload_n 0, 1), (.aload_n 0, 1)] (by decide +kernel) rfl ?_
  refine zV_gi (by decide +kernel) zfl_RX12_189 (by decide) rfl (Or.inl rfl) h (fun v8 _ h => ?_)
  refine zV_pi (by decide +kernel) zfp_RX12_211 (by decide) rfl h (fun M9 _ h => ?_)
  refine zV_b (pc' := 39) (lv' := [(0, .inr (.inr l0))]) (st' := [.inr (.inr l0), .inr (.inr l0)]) [(.aload_n 0, 1), (.aload_n 0, 1)] (by decide +kernel) rfl ?_
  refine zV_gi (by decide +kernel) zfl_RX12_214 (by decide) rfl (Or.inl rfl) h (fun v10 _ h => ?_)
  refine zV_pi (by decide +kernel) zfp_RX12_217 (by decide) rfl h (fun M11 _ h => ?_)
  refine zV_b (pc' := 47) (lv' := [(1, .inl (0 : Int32)), (0, .inr (.inr l0))]) (st' := []) [(.iconst 0, 1), (.istore_n 1, 1)] (by decide +kernel) rfl ?_
  obtain ⟨y53, e53, h⟩ := zb1_inv h
  refine zV_lv (lv' := [(0, .inr (.inr l0)), (1, .inl (0 : Int32))]) [1, 0] rfl (zt_X12_keep_L47 e53 ?_)
  obtain ⟨M47_53, l1_53⟩ := y53
  show zV X zC_X12_keep M47_53 197 [(0, .inr (.inr l0))] []
  refine zV_b (pc' := 199) (lv' := [(1, .inl (0 : Int32)), (0, .inr (.inr l0))]) (st' := []) [(.iconst 0, 1), (.istore_n 1, 1)] (by decide +kernel) rfl ?_
  obtain ⟨y64, e64, h⟩ := zb1_inv h
  refine zV_lv (lv' := [(0, .inr (.inr l0)), (1, .inl (0 : Int32))]) [1, 0] rfl (zt_X12_keep_L199 e64 ?_)
  obtain ⟨M199_64, l1_64⟩ := y64
  show zV X zC_X12_keep M199_64 235 [(0, .inr (.inr l0))] []
  refine zV_b (pc' := 237) (lv' := [(1, .inl (0 : Int32)), (0, .inr (.inr l0))]) (st' := []) [(.iconst 0, 1), (.istore_n 1, 1)] (by decide +kernel) rfl ?_
  obtain ⟨y71, e71, h⟩ := zb1_inv h
  refine zV_lv (lv' := [(0, .inr (.inr l0)), (1, .inl (0 : Int32))]) [1, 0] rfl (zt_X12_keep_L237 e71 ?_)
  obtain ⟨M237_71, l1_71⟩ := y71
  show zV X zC_X12_keep M237_71 262 [(0, .inr (.inr l0))] []
  refine zV_b (pc' := 264) (lv' := [(1, .inl (0 : Int32)), (0, .inr (.inr l0))]) (st' := []) [(.iconst 0, 1), (.istore_n 1, 1)] (by decide +kernel) rfl ?_
  obtain ⟨y79, e79, h⟩ := zb1_inv h
  refine zV_lv (lv' := [(0, .inr (.inr l0)), (1, .inl (0 : Int32))]) [1, 0] rfl (zt_X12_keep_L264 e79 ?_)
  obtain ⟨M264_79, l1_79⟩ := y79
  show zV X zC_X12_keep M264_79 292 [] []
  exact zend_v h hR (by decide +kernel)
theorem zc_X12_keep {M M' : Zm} {l0 : Option Nat} {x : Unit} (h : zf_X12_keep M l0 = some (M', x)) (l : Launch) (D : va_G) (cy : Nat → ClassId) : zMet l yX12_keep zC_X12_keep none D cy [.inr (.inr l0)] M M' none :=
  zM_v (by decide) rfl (fun h => by cases h) (Nat.le_of_ble_eq_true rfl) (fun X hR => zt_X12_keep h hR)
-- BlendCellarModel.barrel(III)J
def zC_X12_barrel : Zc := (cX12_barrel, 6, RX12, 1, 22, false)
theorem zcl_X12_barrel {C : Zc} (h1 : zC_X12_barrel.2.2.2.1 + 1 ≤ C.2.2.2.1) (h2 : 8 + (zC_X12_barrel.2.1 + 11) + zC_X12_barrel.2.2.2.2.1 ≤ C.2.2.2.2.1) : zCl C yX12_barrel zC_X12_barrel (some .long) 3 := ⟨zw_1688, zw_114, ⟨by decide, by decide⟩, by decide +kernel, h1, h2⟩
noncomputable def zf_X12_barrel_J121 (M : Zm) (l0 : Option Nat) (l3 : Int32) (l5 : Int32) (s0 : Int32) (s1 : Int32) (s2 : Option Nat) : Option (Zm × Int64) :=
  zb1 (zo_si M s2 s1 s0) (fun M19 =>
  zb1 (zo_gr M19 l0 13 4) (fun v20 =>
  zb1 (zo_si M19 v20 l5 l3) (fun M21 =>
  zb1 (zo_gr M21 l0 13 5) (fun v22 =>
  zb1 (zo_si M21 v22 l5 (0 : Int32)) (fun M23 =>
  zb1 (zo_gr M23 l0 13 6) (fun v24 =>
  zb1 (zo_si M23 v24 l5 (0 : Int32)) (fun M25 =>
  zb1 (zo_gr M25 l0 13 8) (fun v26 =>
  zb1 (zo_si M25 v26 l5 (0 : Int32)) (fun M27 =>
  some (M27, (l5.toInt64)))))))))))
noncomputable def zf_X12_barrel_J47 (M : Zm) (l0 : Option Nat) (l1 : Int32) (l2 : Int32) (l3 : Int32) (s0 : Int32) : Option (Zm × Int64) :=
  (if s0 = 0 then
  zb1 (zo_rc M l0 13) (fun _ => zbd (zf_X12_no M l0 (1 : Int32)) (fun M4 v4 =>
  some (M4, v4)))
  else
  zb1 (zo_gi M l0 13 1) (fun v6 =>
  (if v6 = (1000 : Int32) then
  zb1 (zo_rc M l0 13) (fun _ => zbd (zf_X12_no M l0 (12 : Int32)) (fun M8 v8 =>
  some (M8, v8)))
  else
  zb1 (zo_rc M l0 13) (fun _ => zbd (zf_X12_keep M l0) (fun M10 _ =>
  zb1 (zo_gi M10 l0 13 1) (fun v11 =>
  zb1 (zo_gi M10 l0 13 1) (fun v12 =>
  zb1 (zo_pi M10 l0 13 1 (v12 + (1 : Int32))) (fun M13 =>
  zb1 (zo_gr M13 l0 13 2) (fun v14 =>
  zb1 (zo_si M13 v14 v11 l1) (fun M15 =>
  zb1 (zo_gr M15 l0 13 3) (fun v16 =>
  (if l1 = (5 : Int32) then
  zf_X12_barrel_J121 M15 l0 l3 v11 (0 : Int32) v11 v16
  else
  zf_X12_barrel_J121 M15 l0 l3 v11 l2 v11 v16))))))))))))
noncomputable def zf_X12_barrel_J46 (M : Zm) (l0 : Option Nat) (l1 : Int32) (l2 : Int32) (l3 : Int32) : Option (Zm × Int64) :=
  zf_X12_barrel_J47 M l0 l1 l2 l3 (0 : Int32)
noncomputable def zf_X12_barrel_J31 (M : Zm) (l0 : Option Nat) (l1 : Int32) (l2 : Int32) (l3 : Int32) : Option (Zm × Int64) :=
  (if l3 < 0 then
  zf_X12_barrel_J46 M l0 l1 l2 l3
  else
  (if (1000000 : Int32) < l3 then
  zf_X12_barrel_J46 M l0 l1 l2 l3
  else
  zf_X12_barrel_J47 M l0 l1 l2 l3 (1 : Int32)))
noncomputable def zf_X12_barrel (M : Zm) (l0 : Option Nat) (l1 : Int32) (l2 : Int32) (l3 : Int32) : Option (Zm × Int64) :=
  zb1 (zo_rc M l0 13) (fun _ => zbd (zf_X12_begin M l0) (fun M1 _ =>
  (if l1 < (1 : Int32) then
  zf_X12_barrel_J46 M1 l0 l1 l2 l3
  else
  (if (5 : Int32) < l1 then
  zf_X12_barrel_J46 M1 l0 l1 l2 l3
  else
  (if l1 = (5 : Int32) then
  zf_X12_barrel_J31 M1 l0 l1 l2 l3
  else
  (if l2 < (1 : Int32) then
  zf_X12_barrel_J46 M1 l0 l1 l2 l3
  else
  (if (1000000000 : Int32) < l2 then
  zf_X12_barrel_J46 M1 l0 l1 l2 l3
  else
  zf_X12_barrel_J31 M1 l0 l1 l2 l3)))))))
set_option maxRecDepth 100000 in
theorem zt_X12_barrel_J121 {X : Zx} {M : Zm} {l0 : Option Nat} {l3 : Int32} {l5 : Int32} {s0 : Int32} {s1 : Int32} {s2 : Option Nat} {z : Zm × Int64} (h : zf_X12_barrel_J121 M l0 l3 l5 s0 s1 s2 = some z) (hR : zRj X zC_X12_barrel z.1 z.2) : zV X zC_X12_barrel M 121 [(0, .inr (.inr l0)), (3, .inl l3), (5, .inl l5)] [.inl s0, .inl s1, .inr (.inr s2)] := by
  unfold zf_X12_barrel_J121 at h
  refine zV_si (by decide +kernel) h (fun M19 _ h => ?_)
  refine zV_b (pc' := 123) (lv' := [(0, .inr (.inr l0)), (3, .inl l3), (5, .inl l5)]) (st' := [.inr (.inr l0)]) [(.aload_n 0, 1)] (by decide +kernel) rfl ?_
  refine zV_gr (by decide +kernel) zfl_RX12_16 (by decide) rfl h (fun v20 _ h => ?_)
  refine zV_b (pc' := 129) (lv' := [(0, .inr (.inr l0)), (3, .inl l3), (5, .inl l5)]) (st' := [.inl l3, .inl l5, .inr (.inr v20)]) [(.iload 5, 2), (.iload_n 3, 1)] (by decide +kernel) rfl ?_
  refine zV_si (by decide +kernel) h (fun M21 _ h => ?_)
  refine zV_b (pc' := 131) (lv' := [(0, .inr (.inr l0)), (3, .inl l3), (5, .inl l5)]) (st' := [.inr (.inr l0)]) [(.aload_n 0, 1)] (by decide +kernel) rfl ?_
  refine zV_gr (by decide +kernel) zfl_RX12_19 (by decide) rfl h (fun v22 _ h => ?_)
  refine zV_b (pc' := 137) (lv' := [(0, .inr (.inr l0)), (3, .inl l3), (5, .inl l5)]) (st' := [.inl (0 : Int32), .inl l5, .inr (.inr v22)]) [(.iload 5, 2), (.iconst 0, 1)] (by decide +kernel) rfl ?_
  refine zV_si (by decide +kernel) h (fun M23 _ h => ?_)
  refine zV_b (pc' := 139) (lv' := [(0, .inr (.inr l0)), (3, .inl l3), (5, .inl l5)]) (st' := [.inr (.inr l0)]) [(.aload_n 0, 1)] (by decide +kernel) rfl ?_
  refine zV_gr (by decide +kernel) zfl_RX12_22 (by decide) rfl h (fun v24 _ h => ?_)
  refine zV_b (pc' := 145) (lv' := [(0, .inr (.inr l0)), (3, .inl l3), (5, .inl l5)]) (st' := [.inl (0 : Int32), .inl l5, .inr (.inr v24)]) [(.iload 5, 2), (.iconst 0, 1)] (by decide +kernel) rfl ?_
  refine zV_si (by decide +kernel) h (fun M25 _ h => ?_)
  refine zV_b (pc' := 147) (lv' := [(0, .inr (.inr l0)), (3, .inl l3), (5, .inl l5)]) (st' := [.inr (.inr l0)]) [(.aload_n 0, 1)] (by decide +kernel) rfl ?_
  refine zV_gr (by decide +kernel) zfl_RX12_28 (by decide) rfl h (fun v26 _ h => ?_)
  refine zV_b (pc' := 153) (lv' := [(0, .inr (.inr l0)), (3, .inl l3), (5, .inl l5)]) (st' := [.inl (0 : Int32), .inl l5, .inr (.inr v26)]) [(.iload 5, 2), (.iconst 0, 1)] (by decide +kernel) rfl ?_
  refine zV_si (by decide +kernel) h (fun M27 _ h => ?_)
  refine zV_b (pc' := 157) (lv' := [(0, .inr (.inr l0)), (3, .inl l3), (5, .inl l5)]) (st' := [.inr (.inl (l5.toInt64))]) [(.iload 5, 2), (.i2l, 1)] (by decide +kernel) rfl ?_
  exact zend_j h hR (by decide +kernel)
set_option maxRecDepth 100000 in
theorem zt_X12_barrel_J47 {X : Zx} {M : Zm} {l0 : Option Nat} {l1 : Int32} {l2 : Int32} {l3 : Int32} {s0 : Int32} {z : Zm × Int64} (h : zf_X12_barrel_J47 M l0 l1 l2 l3 s0 = some z) (hR : zRj X zC_X12_barrel z.1 z.2) : zV X zC_X12_barrel M 47 [(0, .inr (.inr l0)), (1, .inl l1), (2, .inl l2), (3, .inl l3)] [.inl s0] := by
  unfold zf_X12_barrel_J47 at h
  refine zV_b (pc' := 51) (lv' := [(4, .inl s0), (0, .inr (.inr l0)), (1, .inl l1), (2, .inl l2), (3, .inl l3)]) (st' := [.inl s0]) [(.istore 4, 2), (.iload 4, 2)] (by decide +kernel) rfl ?_
  refine zV_if_ne (off := 9) (tgt := 60) (by decide +kernel) (by decide) h (fun c3 h => ?_) (fun c3 h => ?_)
  · refine zV_b (pc' := 56) (lv' := [(4, .inl s0), (0, .inr (.inr l0)), (1, .inl l1), (2, .inl l2), (3, .inl l3)]) (st' := [.inl (1 : Int32), .inr (.inr l0)]) [(.aload_n 0, 1), (.iconst 1, 1)] (by decide +kernel) rfl ?_
    refine zV_cvj (As := [.inl (1 : Int32)]) (st := []) (c := 13) (by decide +kernel) (zcl_X12_no (by decide) (by decide)) ⟨zw_1677, zw_1679, zw_59⟩ ⟨⟨_, _, rfl⟩, by decide⟩ rfl rfl (Nat.le_of_ble_eq_true rfl) h (fun _ _ e => zc_X12_no e) (fun M4 v4 _ h => ?_)
    exact zend_j h hR (by decide +kernel)
  · refine zV_b (pc' := 61) (lv' := [(4, .inl s0), (0, .inr (.inr l0)), (1, .inl l1), (2, .inl l2), (3, .inl l3)]) (st' := [.inr (.inr l0)]) [(.aload_n 0, 1)] (by decide +kernel) rfl ?_
    refine zV_gi (by decide +kernel) zfl_RX12_181 (by decide) rfl (Or.inl rfl) h (fun v6 _ h => ?_)
    refine zV_b (pc' := 67) (lv' := [(4, .inl s0), (0, .inr (.inr l0)), (1, .inl l1), (2, .inl l2), (3, .inl l3)]) (st' := [.inl (1000 : Int32), .inl v6]) [(.sipush 1000, 3)] (by decide +kernel) rfl ?_
    refine zV_icmp_ne (off := 10) (tgt := 77) (by decide +kernel) (by decide) h (fun c7 h => ?_) (fun c7 h => ?_)
    · refine zV_b (pc' := 73) (lv' := [(4, .inl s0), (0, .inr (.inr l0)), (1, .inl l1), (2, .inl l2), (3, .inl l3)]) (st' := [.inl (12 : Int32), .inr (.inr l0)]) [(.aload_n 0, 1), (.bipush 12, 2)] (by decide +kernel) rfl ?_
      refine zV_cvj (As := [.inl (12 : Int32)]) (st := []) (c := 13) (by decide +kernel) (zcl_X12_no (by decide) (by decide)) ⟨zw_1677, zw_1679, zw_59⟩ ⟨⟨_, _, rfl⟩, by decide⟩ rfl rfl (Nat.le_of_ble_eq_true rfl) h (fun _ _ e => zc_X12_no e) (fun M8 v8 _ h => ?_)
      exact zend_j h hR (by decide +kernel)
    · refine zV_b (pc' := 78) (lv' := [(4, .inl s0), (0, .inr (.inr l0)), (1, .inl l1), (2, .inl l2), (3, .inl l3)]) (st' := [.inr (.inr l0)]) [(.aload_n 0, 1)] (by decide +kernel) rfl ?_
      refine zV_cvv (As := []) (st := []) (c := 13) (by decide +kernel) (zcl_X12_keep (by decide) (by decide)) ⟨zw_1681, zw_1683, zw_60⟩ ⟨⟨_, _, rfl⟩, by decide⟩ rfl rfl (Nat.le_of_ble_eq_true rfl) h (fun _ _ e => zc_X12_keep e) (fun M10 _ _ h => ?_)
      refine zV_b (pc' := 82) (lv' := [(4, .inl s0), (0, .inr (.inr l0)), (1, .inl l1), (2, .inl l2), (3, .inl l3)]) (st' := [.inr (.inr l0)]) [(.aload_n 0, 1)] (by decide +kernel) rfl ?_
      refine zV_gi (by decide +kernel) zfl_RX12_181 (by decide) rfl (Or.inl rfl) h (fun v11 _ h => ?_)
      refine zV_b (pc' := 89) (lv' := [(5, .inl v11), (4, .inl s0), (0, .inr (.inr l0)), (1, .inl l1), (2, .inl l2), (3, .inl l3)]) (st' := [.inr (.inr l0), .inr (.inr l0)]) [(.istore 5, 2), (.aload_n 0, 1), (.dup, 1)] (by decide +kernel) rfl ?_
      refine zV_gi (by decide +kernel) zfl_RX12_181 (by decide) rfl (Or.inl rfl) h (fun v12 _ h => ?_)
      refine zV_b (pc' := 94) (lv' := [(5, .inl v11), (4, .inl s0), (0, .inr (.inr l0)), (1, .inl l1), (2, .inl l2), (3, .inl l3)]) (st' := [.inl (v12 + (1 : Int32)), .inr (.inr l0)]) [(.iconst 1, 1), (.iadd, 1)] (by decide +kernel) rfl ?_
      refine zV_pi (by decide +kernel) zfp_RX12_181 (by decide) rfl h (fun M13 _ h => ?_)
      refine zV_b (pc' := 98) (lv' := [(5, .inl v11), (4, .inl s0), (0, .inr (.inr l0)), (1, .inl l1), (2, .inl l2), (3, .inl l3)]) (st' := [.inr (.inr l0)]) [(.aload_n 0, 1)] (by decide +kernel) rfl ?_
      refine zV_gr (by decide +kernel) zfl_RX12_9 (by decide) rfl h (fun v14 _ h => ?_)
      refine zV_b (pc' := 104) (lv' := [(5, .inl v11), (4, .inl s0), (0, .inr (.inr l0)), (1, .inl l1), (2, .inl l2), (3, .inl l3)]) (st' := [.inl l1, .inl v11, .inr (.inr v14)]) [(.iload 5, 2), (.iload_n 1, 1)] (by decide +kernel) rfl ?_
      refine zV_si (by decide +kernel) h (fun M15 _ h => ?_)
      refine zV_b (pc' := 106) (lv' := [(5, .inl v11), (4, .inl s0), (0, .inr (.inr l0)), (1, .inl l1), (2, .inl l2), (3, .inl l3)]) (st' := [.inr (.inr l0)]) [(.aload_n 0, 1)] (by decide +kernel) rfl ?_
      refine zV_gr (by decide +kernel) zfl_RX12_13 (by decide) rfl h (fun v16 _ h => ?_)
      refine zV_b (pc' := 113) (lv' := [(5, .inl v11), (4, .inl s0), (0, .inr (.inr l0)), (1, .inl l1), (2, .inl l2), (3, .inl l3)]) (st' := [.inl (5 : Int32), .inl l1, .inl v11, .inr (.inr v16)]) [(.iload 5, 2), (.iload_n 1, 1), (.iconst 5, 1)] (by decide +kernel) rfl ?_
      refine zV_icmp_ne (off := 7) (tgt := 120) (by decide +kernel) (by decide) h (fun c17 h => ?_) (fun c17 h => ?_)
      · refine zV_b (pc' := 117) (lv' := [(5, .inl v11), (4, .inl s0), (0, .inr (.inr l0)), (1, .inl l1), (2, .inl l2), (3, .inl l3)]) (st' := [.inl (0 : Int32), .inl v11, .inr (.inr v16)]) [(.iconst 0, 1)] (by decide +kernel) rfl ?_
        refine zV_goto (off := 4) (tgt := 121) (by decide +kernel) (by decide) ?_
        exact zV_lv (lv' := [(0, .inr (.inr l0)), (3, .inl l3), (5, .inl v11)]) [2, 5, 0] rfl (zt_X12_barrel_J121 h hR)
      · refine zV_b (pc' := 121) (lv' := [(5, .inl v11), (4, .inl s0), (0, .inr (.inr l0)), (1, .inl l1), (2, .inl l2), (3, .inl l3)]) (st' := [.inl l2, .inl v11, .inr (.inr v16)]) [(.iload_n 2, 1)] (by decide +kernel) rfl ?_
        exact zV_lv (lv' := [(0, .inr (.inr l0)), (3, .inl l3), (5, .inl v11)]) [2, 5, 0] rfl (zt_X12_barrel_J121 h hR)
set_option maxRecDepth 100000 in
theorem zt_X12_barrel_J46 {X : Zx} {M : Zm} {l0 : Option Nat} {l1 : Int32} {l2 : Int32} {l3 : Int32} {z : Zm × Int64} (h : zf_X12_barrel_J46 M l0 l1 l2 l3 = some z) (hR : zRj X zC_X12_barrel z.1 z.2) : zV X zC_X12_barrel M 46 [(0, .inr (.inr l0)), (1, .inl l1), (2, .inl l2), (3, .inl l3)] [] := by
  unfold zf_X12_barrel_J46 at h
  refine zV_b (pc' := 47) (lv' := [(0, .inr (.inr l0)), (1, .inl l1), (2, .inl l2), (3, .inl l3)]) (st' := [.inl (0 : Int32)]) [(.iconst 0, 1)] (by decide +kernel) rfl ?_
  exact zV_lv (lv' := [(0, .inr (.inr l0)), (1, .inl l1), (2, .inl l2), (3, .inl l3)]) [0, 1, 2, 3] rfl (zt_X12_barrel_J47 h hR)
set_option maxRecDepth 100000 in
theorem zt_X12_barrel_J31 {X : Zx} {M : Zm} {l0 : Option Nat} {l1 : Int32} {l2 : Int32} {l3 : Int32} {z : Zm × Int64} (h : zf_X12_barrel_J31 M l0 l1 l2 l3 = some z) (hR : zRj X zC_X12_barrel z.1 z.2) : zV X zC_X12_barrel M 31 [(0, .inr (.inr l0)), (1, .inl l1), (2, .inl l2), (3, .inl l3)] [] := by
  unfold zf_X12_barrel_J31 at h
  refine zV_b (pc' := 32) (lv' := [(0, .inr (.inr l0)), (1, .inl l1), (2, .inl l2), (3, .inl l3)]) (st' := [.inl l3]) [(.iload_n 3, 1)] (by decide +kernel) rfl ?_
  refine zV_if_lt (off := 14) (tgt := 46) (by decide +kernel) (by decide) h (fun c31 h => ?_) (fun c31 h => ?_)
  · exact zV_lv (lv' := [(0, .inr (.inr l0)), (1, .inl l1), (2, .inl l2), (3, .inl l3)]) [0, 1, 2, 3] rfl (zt_X12_barrel_J46 h hR)
  · refine zV_b (pc' := 36) (lv' := [(0, .inr (.inr l0)), (1, .inl l1), (2, .inl l2), (3, .inl l3)]) (st' := [.inl l3]) [(.iload_n 3, 1)] (by decide +kernel) rfl ?_
    refine zV_ldcw (by decide +kernel) zw_1690 ?_
    refine zV_icmp_gt (off := 7) (tgt := 46) (by decide +kernel) (by decide) h (fun c33 h => ?_) (fun c33 h => ?_)
    · exact zV_lv (lv' := [(0, .inr (.inr l0)), (1, .inl l1), (2, .inl l2), (3, .inl l3)]) [0, 1, 2, 3] rfl (zt_X12_barrel_J46 h hR)
    · refine zV_b (pc' := 43) (lv' := [(0, .inr (.inr l0)), (1, .inl l1), (2, .inl l2), (3, .inl l3)]) (st' := [.inl (1 : Int32)]) [(.iconst 1, 1)] (by decide +kernel) rfl ?_
      refine zV_goto (off := 4) (tgt := 47) (by decide +kernel) (by decide) ?_
      exact zV_lv (lv' := [(0, .inr (.inr l0)), (1, .inl l1), (2, .inl l2), (3, .inl l3)]) [0, 1, 2, 3] rfl (zt_X12_barrel_J47 h hR)
set_option maxRecDepth 100000 in
theorem zt_X12_barrel {X : Zx} {M : Zm} {l0 : Option Nat} {l1 : Int32} {l2 : Int32} {l3 : Int32} {z : Zm × Int64} (h : zf_X12_barrel M l0 l1 l2 l3 = some z) (hR : zRj X zC_X12_barrel z.1 z.2) : zV X zC_X12_barrel M 0 [(0, .inr (.inr l0)), (1, .inl l1), (2, .inl l2), (3, .inl l3)] [] := by
  unfold zf_X12_barrel at h
  refine zV_b (pc' := 1) (lv' := [(0, .inr (.inr l0)), (1, .inl l1), (2, .inl l2), (3, .inl l3)]) (st' := [.inr (.inr l0)]) [(.aload_n 0, 1)] (by decide +kernel) rfl ?_
  refine zV_cvv (As := []) (st := []) (c := 13) (by decide +kernel) (zcl_X12_begin (by decide) (by decide)) ⟨zw_1673, zw_1675, zw_58⟩ ⟨⟨_, _, rfl⟩, by decide⟩ rfl rfl (Nat.le_of_ble_eq_true rfl) h (fun _ _ e => zc_X12_begin e) (fun M1 _ _ h => ?_)
  refine zV_b (pc' := 6) (lv' := [(0, .inr (.inr l0)), (1, .inl l1), (2, .inl l2), (3, .inl l3)]) (st' := [.inl (1 : Int32), .inl l1]) [(.iload_n 1, 1), (.iconst 1, 1)] (by decide +kernel) rfl ?_
  refine zV_icmp_lt (off := 40) (tgt := 46) (by decide +kernel) (by decide) h (fun c2 h => ?_) (fun c2 h => ?_)
  · exact zV_lv (lv' := [(0, .inr (.inr l0)), (1, .inl l1), (2, .inl l2), (3, .inl l3)]) [0, 1, 2, 3] rfl (zt_X12_barrel_J46 h hR)
  · refine zV_b (pc' := 11) (lv' := [(0, .inr (.inr l0)), (1, .inl l1), (2, .inl l2), (3, .inl l3)]) (st' := [.inl (5 : Int32), .inl l1]) [(.iload_n 1, 1), (.iconst 5, 1)] (by decide +kernel) rfl ?_
    refine zV_icmp_gt (off := 35) (tgt := 46) (by decide +kernel) (by decide) h (fun c29 h => ?_) (fun c29 h => ?_)
    · exact zV_lv (lv' := [(0, .inr (.inr l0)), (1, .inl l1), (2, .inl l2), (3, .inl l3)]) [0, 1, 2, 3] rfl (zt_X12_barrel_J46 h hR)
    · refine zV_b (pc' := 16) (lv' := [(0, .inr (.inr l0)), (1, .inl l1), (2, .inl l2), (3, .inl l3)]) (st' := [.inl (5 : Int32), .inl l1]) [(.iload_n 1, 1), (.iconst 5, 1)] (by decide +kernel) rfl ?_
      refine zV_icmp_eq (off := 15) (tgt := 31) (by decide +kernel) (by decide) h (fun c30 h => ?_) (fun c30 h => ?_)
      · exact zV_lv (lv' := [(0, .inr (.inr l0)), (1, .inl l1), (2, .inl l2), (3, .inl l3)]) [0, 1, 2, 3] rfl (zt_X12_barrel_J31 h hR)
      · refine zV_b (pc' := 21) (lv' := [(0, .inr (.inr l0)), (1, .inl l1), (2, .inl l2), (3, .inl l3)]) (st' := [.inl (1 : Int32), .inl l2]) [(.iload_n 2, 1), (.iconst 1, 1)] (by decide +kernel) rfl ?_
        refine zV_icmp_lt (off := 25) (tgt := 46) (by decide +kernel) (by decide) h (fun c35 h => ?_) (fun c35 h => ?_)
        · exact zV_lv (lv' := [(0, .inr (.inr l0)), (1, .inl l1), (2, .inl l2), (3, .inl l3)]) [0, 1, 2, 3] rfl (zt_X12_barrel_J46 h hR)
        · refine zV_b (pc' := 25) (lv' := [(0, .inr (.inr l0)), (1, .inl l1), (2, .inl l2), (3, .inl l3)]) (st' := [.inl l2]) [(.iload_n 2, 1)] (by decide +kernel) rfl ?_
          refine zV_ldcw (by decide +kernel) zw_1689 ?_
          refine zV_icmp_gt (off := 18) (tgt := 46) (by decide +kernel) (by decide) h (fun c37 h => ?_) (fun c37 h => ?_)
          · exact zV_lv (lv' := [(0, .inr (.inr l0)), (1, .inl l1), (2, .inl l2), (3, .inl l3)]) [0, 1, 2, 3] rfl (zt_X12_barrel_J46 h hR)
          · exact zV_lv (lv' := [(0, .inr (.inr l0)), (1, .inl l1), (2, .inl l2), (3, .inl l3)]) [0, 1, 2, 3] rfl (zt_X12_barrel_J31 h hR)
theorem zc_X12_barrel {M M' : Zm} {l0 : Option Nat} {l1 : Int32} {l2 : Int32} {l3 : Int32} {x : Int64} (h : zf_X12_barrel M l0 l1 l2 l3 = some (M', x)) (l : Launch) (D : va_G) (cy : Nat → ClassId) : zMet l yX12_barrel zC_X12_barrel (some .long) D cy [.inr (.inr l0), .inl l1, .inl l2, .inl l3] M M' (some (.inr (.inl x))) :=
  zM_j (by decide) rfl (fun h => by cases h) (Nat.le_of_ble_eq_true rfl) (fun X hR => zt_X12_barrel h hR)
-- BlendCellarModel.become(I)V
def zC_X12_become : Zc := (cX12_become, 3, RX12, 0, 0, false)
theorem zcl_X12_become {C : Zc} (h1 : zC_X12_become.2.2.2.1 + 1 ≤ C.2.2.2.1) (h2 : 8 + (zC_X12_become.2.1 + 11) + zC_X12_become.2.2.2.2.1 ≤ C.2.2.2.2.1) : zCl C yX12_become zC_X12_become none 1 := ⟨zw_1782, zw_114, ⟨by decide, by decide⟩, by decide +kernel, h1, h2⟩
noncomputable def zf_X12_become_L12 (p0 : Option Nat) (p1 : Int32) (x : Zm × Int32) : Option ((Zm × Int32) ⊕ (Zm × Int32)) := match x with
  | (M, l2) =>
  zb1 (zo_gi M p0 13 64) (fun v4 =>
  (if v4 ≤ l2 then
  some (.inr (M, l2))
  else
  zb1 (zo_gr M p0 13 9) (fun v6 =>
  zb1 (zo_gr M p0 13 65) (fun v7 =>
  zb1 (zo_ai M v7 l2) (fun v8 =>
  zb1 (zo_si M v6 (((60 : Int32) * p1) + l2) v8) (fun M9 =>
  zb1 (zo_gr M9 p0 13 10) (fun v10 =>
  zb1 (zo_gr M9 p0 13 66) (fun v11 =>
  zb1 (zo_aj M9 v11 l2) (fun v12 =>
  zb1 (zo_sj M9 v10 (((60 : Int32) * p1) + l2) v12) (fun M13 =>
  some (.inl (M13, (l2 + 1)))))))))))))
def zP_X12_become_L12 (X : Zx) (p0 : Option Nat) (p1 : Int32) (x : Zm × Int32) : Prop := match x with
  | (M, l2) => zV X zC_X12_become M 12 [(0, .inr (.inr p0)), (1, .inl p1), (2, .inl l2)] []
def zK_X12_become_L12 (X : Zx) (p0 : Option Nat) (p1 : Int32) (y : Zm × Int32) : Prop := match y with
  | (M, l2) => zV X zC_X12_become M 60 [] []
noncomputable def zf_X12_become (M : Zm) (l0 : Option Nat) (l1 : Int32) : Option (Zm × Unit) :=
  zb1 (zo_gr M l0 13 8) (fun v1 =>
  zb1 (zo_gi M l0 13 64) (fun v2 =>
  zb1 (zo_si M v1 l1 v2) (fun M3 =>
  zb1 (zwhile (zf_X12_become_L12 l0 l1) (M3, (0 : Int32))) (fun y15 => match y15 with
  | (M12_15, l2_15) =>
  some (M12_15, ())))))
set_option maxRecDepth 100000 in
theorem zt_X12_become_L12 {X : Zx} {p0 : Option Nat} {p1 : Int32} {x : Zm × Int32} {y : Zm × Int32} (h : zwhile (zf_X12_become_L12 p0 p1) x = some y) (hy : zK_X12_become_L12 X p0 p1 y) : zP_X12_become_L12 X p0 p1 x := by
  refine zwhile_ind (P := zP_X12_become_L12 X p0 p1) (K := zK_X12_become_L12 X p0 p1) ?_ h hy
  intro x z hf k1 k2
  obtain ⟨M, l2⟩ := x
  have h : zf_X12_become_L12 p0 p1 (M, l2) = some z := hf
  unfold zf_X12_become_L12 at h
  show zV X zC_X12_become M 12 [(0, .inr (.inr p0)), (1, .inl p1), (2, .inl l2)] []
  refine zV_b (pc' := 14) (lv' := [(0, .inr (.inr p0)), (1, .inl p1), (2, .inl l2)]) (st' := [.inr (.inr p0), .inl l2]) [(.iload_n 2, 1), (.aload_n 0, 1)] (by decide +kernel) rfl ?_
  refine zV_gi (by decide +kernel) zfl_RX12_254 (by decide) rfl (Or.inl rfl) h (fun v4 _ h => ?_)
  refine zV_icmp_ge (off := 43) (tgt := 60) (by decide +kernel) (by decide) h (fun c5 h => ?_) (fun c5 h => ?_)
  · exact zV_lv (lv' := []) [] rfl (k2 _ (Option.some.inj h).symm)
  · refine zV_b (pc' := 21) (lv' := [(0, .inr (.inr p0)), (1, .inl p1), (2, .inl l2)]) (st' := [.inr (.inr p0)]) [(.aload_n 0, 1)] (by decide +kernel) rfl ?_
    refine zV_gr (by decide +kernel) zfl_RX12_32 (by decide) rfl h (fun v6 _ h => ?_)
    refine zV_b (pc' := 31) (lv' := [(0, .inr (.inr p0)), (1, .inl p1), (2, .inl l2)]) (st' := [.inr (.inr p0), .inl (((60 : Int32) * p1) + l2), .inr (.inr v6)]) [(.bipush 60, 2), (.iload_n 1, 1), (.imul, 1), (.iload_n 2, 1), (.iadd, 1), (.aload_n 0, 1)] (by decide +kernel) rfl ?_
    refine zV_gr (by decide +kernel) zfl_RX12_148 (by decide) rfl h (fun v7 _ h => ?_)
    refine zV_b (pc' := 35) (lv' := [(0, .inr (.inr p0)), (1, .inl p1), (2, .inl l2)]) (st' := [.inl l2, .inr (.inr v7), .inl (((60 : Int32) * p1) + l2), .inr (.inr v6)]) [(.iload_n 2, 1)] (by decide +kernel) rfl ?_
    refine zV_ai (by decide +kernel) h (fun v8 _ h => ?_)
    refine zV_si (by decide +kernel) h (fun M9 _ h => ?_)
    refine zV_b (pc' := 38) (lv' := [(0, .inr (.inr p0)), (1, .inl p1), (2, .inl l2)]) (st' := [.inr (.inr p0)]) [(.aload_n 0, 1)] (by decide +kernel) rfl ?_
    refine zV_gr (by decide +kernel) zfl_RX12_35 (by decide) rfl h (fun v10 _ h => ?_)
    refine zV_b (pc' := 48) (lv' := [(0, .inr (.inr p0)), (1, .inl p1), (2, .inl l2)]) (st' := [.inr (.inr p0), .inl (((60 : Int32) * p1) + l2), .inr (.inr v10)]) [(.bipush 60, 2), (.iload_n 1, 1), (.imul, 1), (.iload_n 2, 1), (.iadd, 1), (.aload_n 0, 1)] (by decide +kernel) rfl ?_
    refine zV_gr (by decide +kernel) zfl_RX12_151 (by decide) rfl h (fun v11 _ h => ?_)
    refine zV_b (pc' := 52) (lv' := [(0, .inr (.inr p0)), (1, .inl p1), (2, .inl l2)]) (st' := [.inl l2, .inr (.inr v11), .inl (((60 : Int32) * p1) + l2), .inr (.inr v10)]) [(.iload_n 2, 1)] (by decide +kernel) rfl ?_
    refine zV_aj (by decide +kernel) h (fun v12 _ h => ?_)
    refine zV_sj (by decide +kernel) h (fun M13 _ h => ?_)
    refine zV_b (pc' := 57) (lv' := [(2, .inl (l2 + 1)), (0, .inr (.inr p0)), (1, .inl p1)]) (st' := []) [(.iinc 2 1, 3)] (by decide +kernel) rfl ?_
    refine zV_goto (off := (-45)) (tgt := 12) (by decide +kernel) (by decide) ?_
    exact zV_lv (lv' := [(0, .inr (.inr p0)), (1, .inl p1), (2, .inl (l2 + 1))]) [1, 2, 0] rfl (k1 _ (Option.some.inj h).symm)
set_option maxRecDepth 100000 in
theorem zt_X12_become {X : Zx} {M : Zm} {l0 : Option Nat} {l1 : Int32} {z : Zm × Unit} (h : zf_X12_become M l0 l1 = some z) (hR : zRv X zC_X12_become z.1) : zV X zC_X12_become M 0 [(0, .inr (.inr l0)), (1, .inl l1)] [] := by
  unfold zf_X12_become at h
  refine zV_b (pc' := 1) (lv' := [(0, .inr (.inr l0)), (1, .inl l1)]) (st' := [.inr (.inr l0)]) [(.aload_n 0, 1)] (by decide +kernel) rfl ?_
  refine zV_gr (by decide +kernel) zfl_RX12_28 (by decide) rfl h (fun v1 _ h => ?_)
  refine zV_b (pc' := 6) (lv' := [(0, .inr (.inr l0)), (1, .inl l1)]) (st' := [.inr (.inr l0), .inl l1, .inr (.inr v1)]) [(.iload_n 1, 1), (.aload_n 0, 1)] (by decide +kernel) rfl ?_
  refine zV_gi (by decide +kernel) zfl_RX12_254 (by decide) rfl (Or.inl rfl) h (fun v2 _ h => ?_)
  refine zV_si (by decide +kernel) h (fun M3 _ h => ?_)
  refine zV_b (pc' := 12) (lv' := [(2, .inl (0 : Int32)), (0, .inr (.inr l0)), (1, .inl l1)]) (st' := []) [(.iconst 0, 1), (.istore_n 2, 1)] (by decide +kernel) rfl ?_
  obtain ⟨y15, e15, h⟩ := zb1_inv h
  refine zV_lv (lv' := [(0, .inr (.inr l0)), (1, .inl l1), (2, .inl (0 : Int32))]) [1, 2, 0] rfl (zt_X12_become_L12 e15 ?_)
  obtain ⟨M12_15, l2_15⟩ := y15
  show zV X zC_X12_become M12_15 60 [] []
  exact zend_v h hR (by decide +kernel)
theorem zc_X12_become {M M' : Zm} {l0 : Option Nat} {l1 : Int32} {x : Unit} (h : zf_X12_become M l0 l1 = some (M', x)) (l : Launch) (D : va_G) (cy : Nat → ClassId) : zMet l yX12_become zC_X12_become none D cy [.inr (.inr l0), .inl l1] M M' none :=
  zM_v (by decide) rfl (fun h => by cases h) (Nat.le_of_ble_eq_true rfl) (fun X hR => zt_X12_become h hR)
-- BlendCellarModel.ran(I)V
def zC_X12_ran : Zc := (cX12_ran, 2, RX12, 0, 0, false)
theorem zcl_X12_ran {C : Zc} (h1 : zC_X12_ran.2.2.2.1 + 1 ≤ C.2.2.2.1) (h2 : 8 + (zC_X12_ran.2.1 + 11) + zC_X12_ran.2.2.2.2.1 ≤ C.2.2.2.2.1) : zCl C yX12_ran zC_X12_ran none 1 := ⟨zw_1754, zw_114, ⟨by decide, by decide⟩, by decide +kernel, h1, h2⟩
noncomputable def zf_X12_ran (M : Zm) (l0 : Option Nat) (l1 : Int32) : Option (Zm × Unit) :=
  zb1 (zo_gi M l0 13 41) (fun v1 =>
  (if v1 = (200 : Int32) then
  some (M, ())
  else
  zb1 (zo_gr M l0 13 42) (fun v4 =>
  zb1 (zo_gi M l0 13 41) (fun v5 =>
  zb1 (zo_si M v4 v5 l1) (fun M6 =>
  zb1 (zo_gi M6 l0 13 41) (fun v7 =>
  zb1 (zo_pi M6 l0 13 41 (v7 + (1 : Int32))) (fun M8 =>
  some (M8, ()))))))))
set_option maxRecDepth 100000 in
theorem zt_X12_ran {X : Zx} {M : Zm} {l0 : Option Nat} {l1 : Int32} {z : Zm × Unit} (h : zf_X12_ran M l0 l1 = some z) (hR : zRv X zC_X12_ran z.1) : zV X zC_X12_ran M 0 [(0, .inr (.inr l0)), (1, .inl l1)] [] := by
  unfold zf_X12_ran at h
  refine zV_b (pc' := 1) (lv' := [(0, .inr (.inr l0)), (1, .inl l1)]) (st' := [.inr (.inr l0)]) [(.aload_n 0, 1)] (by decide +kernel) rfl ?_
  refine zV_gi (by decide +kernel) zfl_RX12_175 (by decide) rfl (Or.inl rfl) h (fun v1 _ h => ?_)
  refine zV_b (pc' := 7) (lv' := [(0, .inr (.inr l0)), (1, .inl l1)]) (st' := [.inl (200 : Int32), .inl v1]) [(.sipush 200, 3)] (by decide +kernel) rfl ?_
  refine zV_icmp_ne (off := 4) (tgt := 11) (by decide +kernel) (by decide) h (fun c2 h => ?_) (fun c2 h => ?_)
  · exact zend_v h hR (by decide +kernel)
  · refine zV_b (pc' := 12) (lv' := [(0, .inr (.inr l0)), (1, .inl l1)]) (st' := [.inr (.inr l0)]) [(.aload_n 0, 1)] (by decide +kernel) rfl ?_
    refine zV_gr (by decide +kernel) zfl_RX12_103 (by decide) rfl h (fun v4 _ h => ?_)
    refine zV_b (pc' := 16) (lv' := [(0, .inr (.inr l0)), (1, .inl l1)]) (st' := [.inr (.inr l0), .inr (.inr v4)]) [(.aload_n 0, 1)] (by decide +kernel) rfl ?_
    refine zV_gi (by decide +kernel) zfl_RX12_175 (by decide) rfl (Or.inl rfl) h (fun v5 _ h => ?_)
    refine zV_b (pc' := 20) (lv' := [(0, .inr (.inr l0)), (1, .inl l1)]) (st' := [.inl l1, .inl v5, .inr (.inr v4)]) [(.iload_n 1, 1)] (by decide +kernel) rfl ?_
    refine zV_si (by decide +kernel) h (fun M6 _ h => ?_)
    refine zV_b (pc' := 23) (lv' := [(0, .inr (.inr l0)), (1, .inl l1)]) (st' := [.inr (.inr l0), .inr (.inr l0)]) [(.aload_n 0, 1), (.dup, 1)] (by decide +kernel) rfl ?_
    refine zV_gi (by decide +kernel) zfl_RX12_175 (by decide) rfl (Or.inl rfl) h (fun v7 _ h => ?_)
    refine zV_b (pc' := 28) (lv' := [(0, .inr (.inr l0)), (1, .inl l1)]) (st' := [.inl (v7 + (1 : Int32)), .inr (.inr l0)]) [(.iconst 1, 1), (.iadd, 1)] (by decide +kernel) rfl ?_
    refine zV_pi (by decide +kernel) zfp_RX12_175 (by decide) rfl h (fun M8 _ h => ?_)
    exact zend_v h hR (by decide +kernel)
theorem zc_X12_ran {M M' : Zm} {l0 : Option Nat} {l1 : Int32} {x : Unit} (h : zf_X12_ran M l0 l1 = some (M', x)) (l : Launch) (D : va_G) (cy : Nat → ClassId) : zMet l yX12_ran zC_X12_ran none D cy [.inr (.inr l0), .inl l1] M M' none :=
  zM_v (by decide) rfl (fun h => by cases h) (Nat.le_of_ble_eq_true rfl) (fun X hR => zt_X12_ran h hR)
-- BlendCellarModel.spareOfVessel(IZ)J
def zC_X12_spareOfVessel : Zc := (cX12_spareOfVessel, 7, RX12, 1, 24, false)
theorem zcl_X12_spareOfVessel {C : Zc} (h1 : zC_X12_spareOfVessel.2.2.2.1 + 1 ≤ C.2.2.2.1) (h2 : 8 + (zC_X12_spareOfVessel.2.1 + 11) + zC_X12_spareOfVessel.2.2.2.2.1 ≤ C.2.2.2.2.1) : zCl C yX12_spareOfVessel zC_X12_spareOfVessel (some .long) 2 := ⟨zw_1802, zw_114, ⟨by decide, by decide⟩, by decide +kernel, h1, h2⟩
noncomputable def zf_X12_spareOfVessel_J26 (M : Zm) (l0 : Option Nat) (l2 : Int32) (l3 : Int64) : Option (Zm × Int64) :=
  (if l2 = 0 then
  some (M, l3)
  else
  zb1 (zo_rc M l0 13) (fun _ => zbd (zf_X12_ran M l0 (7 : Int32)) (fun M7 _ =>
  some (M7, l3))))
noncomputable def zf_X12_spareOfVessel_J67 (M : Zm) (l0 : Option Nat) (l1 : Int32) (l3 : Int64) : Option (Zm × Int64) :=
  zb1 (zo_gr M l0 13 3) (fun v14 =>
  zb1 (zo_ai M v14 l1) (fun v15 =>
  zb1 (zo_id v15 (1000 : Int32)) (fun v16 =>
  zbd (zf_X12_atLeast0 M (l3 - (v16.toInt64))) (fun M17 v17 =>
  zb1 (zo_gr M17 l0 13 2) (fun v18 =>
  zb1 (zo_ai M17 v18 l1) (fun v19 =>
  (if v19 = (2 : Int32) then
  zb1 (zo_gr M17 l0 13 3) (fun v21 =>
  zb1 (zo_ai M17 v21 l1) (fun v22 =>
  zb1 (zo_id v22 (2000 : Int32)) (fun v23 =>
  zbd (zf_X12_atLeast0 M17 (v17 - (v23.toInt64))) (fun M24 v24 =>
  some (M24, v24)))))
  else
  some (M17, v17))))))))
noncomputable def zf_X12_spareOfVessel_J58 (M : Zm) (l0 : Option Nat) (l1 : Int32) (l2 : Int32) (l3 : Int64) : Option (Zm × Int64) :=
  (if l2 = 0 then
  zf_X12_spareOfVessel_J67 M l0 l1 l3
  else
  zb1 (zo_rc M l0 13) (fun _ => zbd (zf_X12_ran M l0 (5 : Int32)) (fun M28 _ =>
  zf_X12_spareOfVessel_J67 M28 l0 l1 l3)))
noncomputable def zf_X12_spareOfVessel (M : Zm) (l0 : Option Nat) (l1 : Int32) (l2 : Int32) : Option (Zm × Int64) :=
  zb1 (zo_rc M l0 13) (fun _ => zbd (zf_X12_inVessel M l0 l1) (fun M1 v1 =>
  zb1 (zo_gr M1 l0 13 2) (fun v2 =>
  zb1 (zo_ai M1 v2 l1) (fun v3 =>
  (if v3 = (3 : Int32) then
  zf_X12_spareOfVessel_J26 M1 l0 l2 v1
  else
  zb1 (zo_gr M1 l0 13 2) (fun v9 =>
  zb1 (zo_ai M1 v9 l1) (fun v10 =>
  (if v10 = (4 : Int32) then
  zf_X12_spareOfVessel_J26 M1 l0 l2 v1
  else
  (if l2 = 0 then
  zf_X12_spareOfVessel_J58 M1 l0 l1 l2 v1
  else
  zb1 (zo_gr M1 l0 13 2) (fun v29 =>
  zb1 (zo_ai M1 v29 l1) (fun v30 =>
  (if v30 = (2 : Int32) then
  zb1 (zo_rc M1 l0 13) (fun _ => zbd (zf_X12_ran M1 l0 (6 : Int32)) (fun M32 _ =>
  zf_X12_spareOfVessel_J58 M32 l0 l1 l2 v1))
  else
  zf_X12_spareOfVessel_J58 M1 l0 l1 l2 v1))))))))))))
set_option maxRecDepth 100000 in
theorem zt_X12_spareOfVessel_J26 {X : Zx} {M : Zm} {l0 : Option Nat} {l2 : Int32} {l3 : Int64} {z : Zm × Int64} (h : zf_X12_spareOfVessel_J26 M l0 l2 l3 = some z) (hR : zRj X zC_X12_spareOfVessel z.1 z.2) : zV X zC_X12_spareOfVessel M 26 [(0, .inr (.inr l0)), (2, .inl l2), (3, .inr (.inl l3))] [] := by
  unfold zf_X12_spareOfVessel_J26 at h
  refine zV_b (pc' := 27) (lv' := [(0, .inr (.inr l0)), (2, .inl l2), (3, .inr (.inl l3))]) (st' := [.inl l2]) [(.iload_n 2, 1)] (by decide +kernel) rfl ?_
  refine zV_if_eq (off := 9) (tgt := 36) (by decide +kernel) (by decide) h (fun c5 h => ?_) (fun c5 h => ?_)
  · refine zV_b (pc' := 37) (lv' := [(0, .inr (.inr l0)), (2, .inl l2), (3, .inr (.inl l3))]) (st' := [.inr (.inl l3)]) [(.lload_n 3, 1)] (by decide +kernel) rfl ?_
    exact zend_j h hR (by decide +kernel)
  · refine zV_b (pc' := 33) (lv' := [(0, .inr (.inr l0)), (2, .inl l2), (3, .inr (.inl l3))]) (st' := [.inl (7 : Int32), .inr (.inr l0)]) [(.aload_n 0, 1), (.bipush 7, 2)] (by decide +kernel) rfl ?_
    refine zV_cvv (As := [.inl (7 : Int32)]) (st := []) (c := 13) (by decide +kernel) (zcl_X12_ran (by decide) (by decide)) ⟨zw_1751, zw_1753, zw_69⟩ ⟨⟨_, _, rfl⟩, by decide⟩ rfl rfl (Nat.le_of_ble_eq_true rfl) h (fun _ _ e => zc_X12_ran e) (fun M7 _ _ h => ?_)
    refine zV_b (pc' := 37) (lv' := [(0, .inr (.inr l0)), (2, .inl l2), (3, .inr (.inl l3))]) (st' := [.inr (.inl l3)]) [(.lload_n 3, 1)] (by decide +kernel) rfl ?_
    exact zend_j h hR (by decide +kernel)
set_option maxRecDepth 100000 in
theorem zt_X12_spareOfVessel_J67 {X : Zx} {M : Zm} {l0 : Option Nat} {l1 : Int32} {l3 : Int64} {z : Zm × Int64} (h : zf_X12_spareOfVessel_J67 M l0 l1 l3 = some z) (hR : zRj X zC_X12_spareOfVessel z.1 z.2) : zV X zC_X12_spareOfVessel M 67 [(0, .inr (.inr l0)), (1, .inl l1), (3, .inr (.inl l3))] [] := by
  unfold zf_X12_spareOfVessel_J67 at h
  refine zV_b (pc' := 69) (lv' := [(0, .inr (.inr l0)), (1, .inl l1), (3, .inr (.inl l3))]) (st' := [.inr (.inr l0), .inr (.inl l3)]) [(.lload_n 3, 1), (.aload_n 0, 1)] (by decide +kernel) rfl ?_
  refine zV_gr (by decide +kernel) zfl_RX12_13 (by decide) rfl h (fun v14 _ h => ?_)
  refine zV_b (pc' := 73) (lv' := [(0, .inr (.inr l0)), (1, .inl l1), (3, .inr (.inl l3))]) (st' := [.inl l1, .inr (.inr v14), .inr (.inl l3)]) [(.iload_n 1, 1)] (by decide +kernel) rfl ?_
  refine zV_ai (by decide +kernel) h (fun v15 _ h => ?_)
  refine zV_b (pc' := 77) (lv' := [(0, .inr (.inr l0)), (1, .inl l1), (3, .inr (.inl l3))]) (st' := [.inl (1000 : Int32), .inl v15, .inr (.inl l3)]) [(.sipush 1000, 3)] (by decide +kernel) rfl ?_
  refine zV_id (by decide +kernel) h (fun v16 _ h => ?_)
  refine zV_b (pc' := 80) (lv' := [(0, .inr (.inr l0)), (1, .inl l1), (3, .inr (.inl l3))]) (st' := [.inr (.inl (l3 - (v16.toInt64)))]) [(.i2l, 1), (.lsub, 1)] (by decide +kernel) rfl ?_
  refine zV_csj (As := [.inr (.inl (l3 - (v16.toInt64)))]) (st := []) (by decide +kernel) (zcl_X12_atLeast0 (by decide) (by decide)) ⟨zw_1756, zw_1757⟩ rfl rfl (Nat.le_of_ble_eq_true rfl) h (fun _ _ e => zc_X12_atLeast0 e) (fun M17 v17 _ h => ?_)
  refine zV_b (pc' := 86) (lv' := [(5, .inr (.inl v17)), (0, .inr (.inr l0)), (1, .inl l1), (3, .inr (.inl l3))]) (st' := [.inr (.inr l0)]) [(.lstore 5, 2), (.aload_n 0, 1)] (by decide +kernel) rfl ?_
  refine zV_gr (by decide +kernel) zfl_RX12_9 (by decide) rfl h (fun v18 _ h => ?_)
  refine zV_b (pc' := 90) (lv' := [(5, .inr (.inl v17)), (0, .inr (.inr l0)), (1, .inl l1), (3, .inr (.inl l3))]) (st' := [.inl l1, .inr (.inr v18)]) [(.iload_n 1, 1)] (by decide +kernel) rfl ?_
  refine zV_ai (by decide +kernel) h (fun v19 _ h => ?_)
  refine zV_b (pc' := 92) (lv' := [(5, .inr (.inl v17)), (0, .inr (.inr l0)), (1, .inl l1), (3, .inr (.inl l3))]) (st' := [.inl (2 : Int32), .inl v19]) [(.iconst 2, 1)] (by decide +kernel) rfl ?_
  refine zV_icmp_ne (off := 23) (tgt := 115) (by decide +kernel) (by decide) h (fun c20 h => ?_) (fun c20 h => ?_)
  · refine zV_b (pc' := 98) (lv' := [(5, .inr (.inl v17)), (0, .inr (.inr l0)), (1, .inl l1), (3, .inr (.inl l3))]) (st' := [.inr (.inr l0), .inr (.inl v17)]) [(.lload 5, 2), (.aload_n 0, 1)] (by decide +kernel) rfl ?_
    refine zV_gr (by decide +kernel) zfl_RX12_13 (by decide) rfl h (fun v21 _ h => ?_)
    refine zV_b (pc' := 102) (lv' := [(5, .inr (.inl v17)), (0, .inr (.inr l0)), (1, .inl l1), (3, .inr (.inl l3))]) (st' := [.inl l1, .inr (.inr v21), .inr (.inl v17)]) [(.iload_n 1, 1)] (by decide +kernel) rfl ?_
    refine zV_ai (by decide +kernel) h (fun v22 _ h => ?_)
    refine zV_b (pc' := 106) (lv' := [(5, .inr (.inl v17)), (0, .inr (.inr l0)), (1, .inl l1), (3, .inr (.inl l3))]) (st' := [.inl (2000 : Int32), .inl v22, .inr (.inl v17)]) [(.sipush 2000, 3)] (by decide +kernel) rfl ?_
    refine zV_id (by decide +kernel) h (fun v23 _ h => ?_)
    refine zV_b (pc' := 109) (lv' := [(5, .inr (.inl v17)), (0, .inr (.inr l0)), (1, .inl l1), (3, .inr (.inl l3))]) (st' := [.inr (.inl (v17 - (v23.toInt64)))]) [(.i2l, 1), (.lsub, 1)] (by decide +kernel) rfl ?_
    refine zV_csj (As := [.inr (.inl (v17 - (v23.toInt64)))]) (st := []) (by decide +kernel) (zcl_X12_atLeast0 (by decide) (by decide)) ⟨zw_1756, zw_1757⟩ rfl rfl (Nat.le_of_ble_eq_true rfl) h (fun _ _ e => zc_X12_atLeast0 e) (fun M24 v24 _ h => ?_)
    refine zV_goto (off := 5) (tgt := 117) (by decide +kernel) (by decide) ?_
    exact zend_j h hR (by decide +kernel)
  · refine zV_b (pc' := 117) (lv' := [(5, .inr (.inl v17)), (0, .inr (.inr l0)), (1, .inl l1), (3, .inr (.inl l3))]) (st' := [.inr (.inl v17)]) [(.lload 5, 2)] (by decide +kernel) rfl ?_
    exact zend_j h hR (by decide +kernel)
set_option maxRecDepth 100000 in
theorem zt_X12_spareOfVessel_J58 {X : Zx} {M : Zm} {l0 : Option Nat} {l1 : Int32} {l2 : Int32} {l3 : Int64} {z : Zm × Int64} (h : zf_X12_spareOfVessel_J58 M l0 l1 l2 l3 = some z) (hR : zRj X zC_X12_spareOfVessel z.1 z.2) : zV X zC_X12_spareOfVessel M 58 [(0, .inr (.inr l0)), (1, .inl l1), (2, .inl l2), (3, .inr (.inl l3))] [] := by
  unfold zf_X12_spareOfVessel_J58 at h
  refine zV_b (pc' := 59) (lv' := [(0, .inr (.inr l0)), (1, .inl l1), (2, .inl l2), (3, .inr (.inl l3))]) (st' := [.inl l2]) [(.iload_n 2, 1)] (by decide +kernel) rfl ?_
  refine zV_if_eq (off := 8) (tgt := 67) (by decide +kernel) (by decide) h (fun c13 h => ?_) (fun c13 h => ?_)
  · exact zV_lv (lv' := [(0, .inr (.inr l0)), (1, .inl l1), (3, .inr (.inl l3))]) [0, 1, 3] rfl (zt_X12_spareOfVessel_J67 h hR)
  · refine zV_b (pc' := 64) (lv' := [(0, .inr (.inr l0)), (1, .inl l1), (2, .inl l2), (3, .inr (.inl l3))]) (st' := [.inl (5 : Int32), .inr (.inr l0)]) [(.aload_n 0, 1), (.iconst 5, 1)] (by decide +kernel) rfl ?_
    refine zV_cvv (As := [.inl (5 : Int32)]) (st := []) (c := 13) (by decide +kernel) (zcl_X12_ran (by decide) (by decide)) ⟨zw_1751, zw_1753, zw_69⟩ ⟨⟨_, _, rfl⟩, by decide⟩ rfl rfl (Nat.le_of_ble_eq_true rfl) h (fun _ _ e => zc_X12_ran e) (fun M28 _ _ h => ?_)
    exact zV_lv (lv' := [(0, .inr (.inr l0)), (1, .inl l1), (3, .inr (.inl l3))]) [0, 1, 3] rfl (zt_X12_spareOfVessel_J67 h hR)
set_option maxRecDepth 100000 in
theorem zt_X12_spareOfVessel {X : Zx} {M : Zm} {l0 : Option Nat} {l1 : Int32} {l2 : Int32} {z : Zm × Int64} (h : zf_X12_spareOfVessel M l0 l1 l2 = some z) (hR : zRj X zC_X12_spareOfVessel z.1 z.2) : zV X zC_X12_spareOfVessel M 0 [(0, .inr (.inr l0)), (1, .inl l1), (2, .inl l2)] [] := by
  unfold zf_X12_spareOfVessel at h
  refine zV_b (pc' := 2) (lv' := [(0, .inr (.inr l0)), (1, .inl l1), (2, .inl l2)]) (st' := [.inl l1, .inr (.inr l0)]) [(.aload_n 0, 1), (.iload_n 1, 1)] (by decide +kernel) rfl ?_
  refine zV_cvj (As := [.inl l1]) (st := []) (c := 13) (by decide +kernel) (zcl_X12_inVessel (by decide) (by decide)) ⟨zw_1759, zw_1761, zw_70⟩ ⟨⟨_, _, rfl⟩, by decide⟩ rfl rfl (Nat.le_of_ble_eq_true rfl) h (fun _ _ e => zc_X12_inVessel e) (fun M1 v1 _ h => ?_)
  refine zV_b (pc' := 7) (lv' := [(3, .inr (.inl v1)), (0, .inr (.inr l0)), (1, .inl l1), (2, .inl l2)]) (st' := [.inr (.inr l0)]) [(.lstore_n 3, 1), (.aload_n 0, 1)] (by decide +kernel) rfl ?_
  refine zV_gr (by decide +kernel) zfl_RX12_9 (by decide) rfl h (fun v2 _ h => ?_)
  refine zV_b (pc' := 11) (lv' := [(3, .inr (.inl v1)), (0, .inr (.inr l0)), (1, .inl l1), (2, .inl l2)]) (st' := [.inl l1, .inr (.inr v2)]) [(.iload_n 1, 1)] (by decide +kernel) rfl ?_
  refine zV_ai (by decide +kernel) h (fun v3 _ h => ?_)
  refine zV_b (pc' := 13) (lv' := [(3, .inr (.inl v1)), (0, .inr (.inr l0)), (1, .inl l1), (2, .inl l2)]) (st' := [.inl (3 : Int32), .inl v3]) [(.iconst 3, 1)] (by decide +kernel) rfl ?_
  refine zV_icmp_eq (off := 13) (tgt := 26) (by decide +kernel) (by decide) h (fun c4 h => ?_) (fun c4 h => ?_)
  · exact zV_lv (lv' := [(0, .inr (.inr l0)), (2, .inl l2), (3, .inr (.inl v1))]) [1, 3, 0] rfl (zt_X12_spareOfVessel_J26 h hR)
  · refine zV_b (pc' := 17) (lv' := [(3, .inr (.inl v1)), (0, .inr (.inr l0)), (1, .inl l1), (2, .inl l2)]) (st' := [.inr (.inr l0)]) [(.aload_n 0, 1)] (by decide +kernel) rfl ?_
    refine zV_gr (by decide +kernel) zfl_RX12_9 (by decide) rfl h (fun v9 _ h => ?_)
    refine zV_b (pc' := 21) (lv' := [(3, .inr (.inl v1)), (0, .inr (.inr l0)), (1, .inl l1), (2, .inl l2)]) (st' := [.inl l1, .inr (.inr v9)]) [(.iload_n 1, 1)] (by decide +kernel) rfl ?_
    refine zV_ai (by decide +kernel) h (fun v10 _ h => ?_)
    refine zV_b (pc' := 23) (lv' := [(3, .inr (.inl v1)), (0, .inr (.inr l0)), (1, .inl l1), (2, .inl l2)]) (st' := [.inl (4 : Int32), .inl v10]) [(.iconst 4, 1)] (by decide +kernel) rfl ?_
    refine zV_icmp_ne (off := 15) (tgt := 38) (by decide +kernel) (by decide) h (fun c11 h => ?_) (fun c11 h => ?_)
    · exact zV_lv (lv' := [(0, .inr (.inr l0)), (2, .inl l2), (3, .inr (.inl v1))]) [1, 3, 0] rfl (zt_X12_spareOfVessel_J26 h hR)
    · refine zV_b (pc' := 39) (lv' := [(3, .inr (.inl v1)), (0, .inr (.inr l0)), (1, .inl l1), (2, .inl l2)]) (st' := [.inl l2]) [(.iload_n 2, 1)] (by decide +kernel) rfl ?_
      refine zV_if_eq (off := 19) (tgt := 58) (by decide +kernel) (by decide) h (fun c12 h => ?_) (fun c12 h => ?_)
      · exact zV_lv (lv' := [(0, .inr (.inr l0)), (1, .inl l1), (2, .inl l2), (3, .inr (.inl v1))]) [1, 2, 3, 0] rfl (zt_X12_spareOfVessel_J58 h hR)
      · refine zV_b (pc' := 43) (lv' := [(3, .inr (.inl v1)), (0, .inr (.inr l0)), (1, .inl l1), (2, .inl l2)]) (st' := [.inr (.inr l0)]) [(.aload_n 0, 1)] (by decide +kernel) rfl ?_
        refine zV_gr (by decide +kernel) zfl_RX12_9 (by decide) rfl h (fun v29 _ h => ?_)
        refine zV_b (pc' := 47) (lv' := [(3, .inr (.inl v1)), (0, .inr (.inr l0)), (1, .inl l1), (2, .inl l2)]) (st' := [.inl l1, .inr (.inr v29)]) [(.iload_n 1, 1)] (by decide +kernel) rfl ?_
        refine zV_ai (by decide +kernel) h (fun v30 _ h => ?_)
        refine zV_b (pc' := 49) (lv' := [(3, .inr (.inl v1)), (0, .inr (.inr l0)), (1, .inl l1), (2, .inl l2)]) (st' := [.inl (2 : Int32), .inl v30]) [(.iconst 2, 1)] (by decide +kernel) rfl ?_
        refine zV_icmp_ne (off := 9) (tgt := 58) (by decide +kernel) (by decide) h (fun c31 h => ?_) (fun c31 h => ?_)
        · refine zV_b (pc' := 55) (lv' := [(3, .inr (.inl v1)), (0, .inr (.inr l0)), (1, .inl l1), (2, .inl l2)]) (st' := [.inl (6 : Int32), .inr (.inr l0)]) [(.aload_n 0, 1), (.bipush 6, 2)] (by decide +kernel) rfl ?_
          refine zV_cvv (As := [.inl (6 : Int32)]) (st := []) (c := 13) (by decide +kernel) (zcl_X12_ran (by decide) (by decide)) ⟨zw_1751, zw_1753, zw_69⟩ ⟨⟨_, _, rfl⟩, by decide⟩ rfl rfl (Nat.le_of_ble_eq_true rfl) h (fun _ _ e => zc_X12_ran e) (fun M32 _ _ h => ?_)
          exact zV_lv (lv' := [(0, .inr (.inr l0)), (1, .inl l1), (2, .inl l2), (3, .inr (.inl v1))]) [1, 2, 3, 0] rfl (zt_X12_spareOfVessel_J58 h hR)
        · exact zV_lv (lv' := [(0, .inr (.inr l0)), (1, .inl l1), (2, .inl l2), (3, .inr (.inl v1))]) [1, 2, 3, 0] rfl (zt_X12_spareOfVessel_J58 h hR)
theorem zc_X12_spareOfVessel {M M' : Zm} {l0 : Option Nat} {l1 : Int32} {l2 : Int32} {x : Int64} (h : zf_X12_spareOfVessel M l0 l1 l2 = some (M', x)) (l : Launch) (D : va_G) (cy : Nat → ClassId) : zMet l yX12_spareOfVessel zC_X12_spareOfVessel (some .long) D cy [.inr (.inr l0), .inl l1, .inl l2] M M' (some (.inr (.inl x))) :=
  zM_j (by decide) rfl (fun h => by cases h) (Nat.le_of_ble_eq_true rfl) (fun X hR => zt_X12_spareOfVessel h hR)
