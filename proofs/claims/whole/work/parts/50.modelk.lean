/-! What the bytecode does, as functions of the memory, and the walks (written by wip/gen.py). -/
-- BlendCellarModel.rule(IIIII)J
def zC_X12_rule : Zc := (cX12_rule, 9, RX12, 1, 21, false)
theorem zcl_X12_rule {C : Zc} (h1 : zC_X12_rule.2.2.2.1 + 1 ≤ C.2.2.2.1) (h2 : 8 + (zC_X12_rule.2.1 + 11) + zC_X12_rule.2.2.2.2.1 ≤ C.2.2.2.2.1) : zCl C yX12_rule zC_X12_rule (some .long) 5 := ⟨zw_1897, zw_114, ⟨by decide, by decide⟩, by decide +kernel, h1, h2⟩
noncomputable def zf_X12_rule_J257 (M : Zm) (l0 : Option Nat) (l1 : Int32) (l8 : Int32) : Option (Zm × Int64) :=
  zb1 (zo_gr M l0 13 26) (fun v48 =>
  zb1 (zo_gr M l0 13 25) (fun v49 =>
  zb1 (zo_ai M v49 l1) (fun v50 =>
  zb1 (zo_si M v48 (((20 : Int32) * l1) + v50) l8) (fun M51 =>
  zb1 (zo_gr M51 l0 13 25) (fun v52 =>
  zb1 (zo_ai M51 v52 l1) (fun v53 =>
  zb1 (zo_si M51 v52 l1 (v53 + (1 : Int32))) (fun M54 =>
  zb1 (zo_gr M54 l0 13 25) (fun v55 =>
  zb1 (zo_ai M54 v55 l1) (fun v56 =>
  some (M54, (v56.toInt64)))))))))))
noncomputable def zf_X12_rule_J132 (M : Zm) (l0 : Option Nat) (l1 : Int32) (l2 : Int32) (l3 : Int32) (l4 : Int32) (l5 : Int32) : Option (Zm × Int64) :=
  zb1 (zo_gr M l0 13 24) (fun v18 =>
  zb1 (zo_ai M v18 l1) (fun v19 =>
  zb1 (zo_gr M l0 13 24) (fun v20 =>
  zb1 (zo_ai M v20 l1) (fun v21 =>
  zb1 (zo_si M v20 l1 (v21 + (1 : Int32))) (fun M22 =>
  zb1 (zo_gr M22 l0 13 27) (fun v23 =>
  zb1 (zo_si M22 v23 (((20 : Int32) * l1) + v19) l2) (fun M24 =>
  zb1 (zo_gr M24 l0 13 28) (fun v25 =>
  zb1 (zo_si M24 v25 (((20 : Int32) * l1) + v19) l3) (fun M26 =>
  zb1 (zo_gr M26 l0 13 29) (fun v27 =>
  zb1 (zo_si M26 v27 (((20 : Int32) * l1) + v19) l4) (fun M28 =>
  zb1 (zo_gr M28 l0 13 30) (fun v29 =>
  zb1 (zo_si M28 v29 (((20 : Int32) * l1) + v19) l5) (fun M30 =>
  (if l2 = (6 : Int32) then
  zb1 (zo_gr M30 l0 13 25) (fun v32 =>
  zb1 (zo_gr M30 l0 13 25) (fun v33 =>
  zb1 (zo_ai M30 v33 l1) (fun v34 =>
  zb1 (zo_si M30 v32 l1 (v34 - (2 : Int32))) (fun M35 =>
  zb1 (zo_gr M35 l0 13 31) (fun v36 =>
  zb1 (zo_gr M35 l0 13 26) (fun v37 =>
  zb1 (zo_gr M35 l0 13 25) (fun v38 =>
  zb1 (zo_ai M35 v38 l1) (fun v39 =>
  zb1 (zo_ai M35 v37 (((20 : Int32) * l1) + v39)) (fun v40 =>
  zb1 (zo_si M35 v36 (((20 : Int32) * l1) + v19) v40) (fun M41 =>
  zb1 (zo_gr M41 l0 13 32) (fun v42 =>
  zb1 (zo_gr M41 l0 13 26) (fun v43 =>
  zb1 (zo_gr M41 l0 13 25) (fun v44 =>
  zb1 (zo_ai M41 v44 l1) (fun v45 =>
  zb1 (zo_ai M41 v43 ((((20 : Int32) * l1) + v45) + (1 : Int32))) (fun v46 =>
  zb1 (zo_si M41 v42 (((20 : Int32) * l1) + v19) v46) (fun M47 =>
  zf_X12_rule_J257 M47 l0 l1 (((20 : Int32) * l1) + v19)))))))))))))))))
  else
  zf_X12_rule_J257 M30 l0 l1 (((20 : Int32) * l1) + v19)))))))))))))))
noncomputable def zf_X12_rule_J59 (M : Zm) (l0 : Option Nat) (l1 : Int32) (l2 : Int32) (l3 : Int32) (l4 : Int32) (l5 : Int32) (s0 : Int32) : Option (Zm × Int64) :=
  (if s0 = 0 then
  zb1 (zo_rc M l0 13) (fun _ => zbd (zf_X12_no M l0 (1 : Int32)) (fun M5 v5 =>
  some (M5, v5)))
  else
  zb1 (zo_rc M l0 13) (fun _ => zbd (zf_X12_lookedLabel M l0 l1) (fun M7 v7 =>
  (if v7 ≤ 0 then
  zb1 (zo_gr M7 l0 13 24) (fun v9 =>
  zb1 (zo_ai M7 v9 l1) (fun v10 =>
  (if v10 = (20 : Int32) then
  zb1 (zo_rc M7 l0 13) (fun _ => zbd (zf_X12_no M7 l0 (12 : Int32)) (fun M12 v12 =>
  some (M12, v12)))
  else
  (if l2 = (6 : Int32) then
  zb1 (zo_gr M7 l0 13 25) (fun v15 =>
  zb1 (zo_ai M7 v15 l1) (fun v16 =>
  (if (2 : Int32) ≤ v16 then
  zf_X12_rule_J132 M7 l0 l1 l2 l3 l4 l5
  else
  zb1 (zo_rc M7 l0 13) (fun _ => zbd (zf_X12_no M7 l0 (10 : Int32)) (fun M58 v58 =>
  some (M58, v58))))))
  else
  zf_X12_rule_J132 M7 l0 l1 l2 l3 l4 l5))))
  else
  zb1 (zo_rc M7 l0 13) (fun _ => zbd (zf_X12_no M7 l0 v7) (fun M60 v60 =>
  some (M60, v60)))))))
noncomputable def zf_X12_rule_J54 (M : Zm) (l0 : Option Nat) (l1 : Int32) (l2 : Int32) (l3 : Int32) (l4 : Int32) (l5 : Int32) : Option (Zm × Int64) :=
  zf_X12_rule_J59 M l0 l1 l2 l3 l4 l5 (1 : Int32)
noncomputable def zf_X12_rule_J58 (M : Zm) (l0 : Option Nat) (l1 : Int32) (l2 : Int32) (l3 : Int32) (l4 : Int32) (l5 : Int32) : Option (Zm × Int64) :=
  zf_X12_rule_J59 M l0 l1 l2 l3 l4 l5 (0 : Int32)
noncomputable def zf_X12_rule (M : Zm) (l0 : Option Nat) (l1 : Int32) (l2 : Int32) (l3 : Int32) (l4 : Int32) (l5 : Int32) : Option (Zm × Int64) :=
  zb1 (zo_rc M l0 13) (fun _ => zbd (zf_X12_begin M l0) (fun M1 _ =>
  (if l2 = (6 : Int32) then
  zf_X12_rule_J54 M1 l0 l1 l2 l3 l4 l5
  else
  (if l2 < (1 : Int32) then
  zf_X12_rule_J58 M1 l0 l1 l2 l3 l4 l5
  else
  (if (5 : Int32) < l2 then
  zf_X12_rule_J58 M1 l0 l1 l2 l3 l4 l5
  else
  (if l3 < (1 : Int32) then
  zf_X12_rule_J58 M1 l0 l1 l2 l3 l4 l5
  else
  (if (3 : Int32) < l3 then
  zf_X12_rule_J58 M1 l0 l1 l2 l3 l4 l5
  else
  (if l4 < 0 then
  zf_X12_rule_J58 M1 l0 l1 l2 l3 l4 l5
  else
  (if (15 : Int32) < l4 then
  zf_X12_rule_J58 M1 l0 l1 l2 l3 l4 l5
  else
  (if l5 < 0 then
  zf_X12_rule_J58 M1 l0 l1 l2 l3 l4 l5
  else
  (if (100 : Int32) < l5 then
  zf_X12_rule_J58 M1 l0 l1 l2 l3 l4 l5
  else
  zf_X12_rule_J54 M1 l0 l1 l2 l3 l4 l5)))))))))))
set_option maxRecDepth 100000 in
theorem zt_X12_rule_J257 {X : Zx} {M : Zm} {l0 : Option Nat} {l1 : Int32} {l8 : Int32} {z : Zm × Int64} (h : zf_X12_rule_J257 M l0 l1 l8 = some z) (hR : zRj X zC_X12_rule z.1 z.2) : zV X zC_X12_rule M 257 [(0, .inr (.inr l0)), (1, .inl l1), (8, .inl l8)] [] := by
  unfold zf_X12_rule_J257 at h
  refine zV_b (pc' := 258) (lv' := [(0, .inr (.inr l0)), (1, .inl l1), (8, .inl l8)]) (st' := [.inr (.inr l0)]) [(.aload_n 0, 1)] (by decide +kernel) rfl ?_
  refine zV_gr (by decide +kernel) zfl_RX12_69 (by decide) rfl h (fun v48 _ h => ?_)
  refine zV_b (pc' := 266) (lv' := [(0, .inr (.inr l0)), (1, .inl l1), (8, .inl l8)]) (st' := [.inr (.inr l0), .inl ((20 : Int32) * l1), .inr (.inr v48)]) [(.bipush 20, 2), (.iload_n 1, 1), (.imul, 1), (.aload_n 0, 1)] (by decide +kernel) rfl ?_
  refine zV_gr (by decide +kernel) zfl_RX12_66 (by decide) rfl h (fun v49 _ h => ?_)
  refine zV_b (pc' := 270) (lv' := [(0, .inr (.inr l0)), (1, .inl l1), (8, .inl l8)]) (st' := [.inl l1, .inr (.inr v49), .inl ((20 : Int32) * l1), .inr (.inr v48)]) [(.iload_n 1, 1)] (by decide +kernel) rfl ?_
  refine zV_ai (by decide +kernel) h (fun v50 _ h => ?_)
  refine zV_b (pc' := 274) (lv' := [(0, .inr (.inr l0)), (1, .inl l1), (8, .inl l8)]) (st' := [.inl l8, .inl (((20 : Int32) * l1) + v50), .inr (.inr v48)]) [(.iadd, 1), (.iload 8, 2)] (by decide +kernel) rfl ?_
  refine zV_si (by decide +kernel) h (fun M51 _ h => ?_)
  refine zV_b (pc' := 276) (lv' := [(0, .inr (.inr l0)), (1, .inl l1), (8, .inl l8)]) (st' := [.inr (.inr l0)]) [(.aload_n 0, 1)] (by decide +kernel) rfl ?_
  refine zV_gr (by decide +kernel) zfl_RX12_66 (by decide) rfl h (fun v52 _ h => ?_)
  refine zV_b (pc' := 281) (lv' := [(0, .inr (.inr l0)), (1, .inl l1), (8, .inl l8)]) (st' := [.inl l1, .inr (.inr v52), .inl l1, .inr (.inr v52)]) [(.iload_n 1, 1), (.dup2, 1)] (by decide +kernel) rfl ?_
  refine zV_ai (by decide +kernel) h (fun v53 _ h => ?_)
  refine zV_b (pc' := 284) (lv' := [(0, .inr (.inr l0)), (1, .inl l1), (8, .inl l8)]) (st' := [.inl (v53 + (1 : Int32)), .inl l1, .inr (.inr v52)]) [(.iconst 1, 1), (.iadd, 1)] (by decide +kernel) rfl ?_
  refine zV_si (by decide +kernel) h (fun M54 _ h => ?_)
  refine zV_b (pc' := 286) (lv' := [(0, .inr (.inr l0)), (1, .inl l1), (8, .inl l8)]) (st' := [.inr (.inr l0)]) [(.aload_n 0, 1)] (by decide +kernel) rfl ?_
  refine zV_gr (by decide +kernel) zfl_RX12_66 (by decide) rfl h (fun v55 _ h => ?_)
  refine zV_b (pc' := 290) (lv' := [(0, .inr (.inr l0)), (1, .inl l1), (8, .inl l8)]) (st' := [.inl l1, .inr (.inr v55)]) [(.iload_n 1, 1)] (by decide +kernel) rfl ?_
  refine zV_ai (by decide +kernel) h (fun v56 _ h => ?_)
  refine zV_b (pc' := 292) (lv' := [(0, .inr (.inr l0)), (1, .inl l1), (8, .inl l8)]) (st' := [.inr (.inl (v56.toInt64))]) [(.i2l, 1)] (by decide +kernel) rfl ?_
  exact zend_j h hR (by decide +kernel)
set_option maxRecDepth 100000 in
theorem zt_X12_rule_J132 {X : Zx} {M : Zm} {l0 : Option Nat} {l1 : Int32} {l2 : Int32} {l3 : Int32} {l4 : Int32} {l5 : Int32} {z : Zm × Int64} (h : zf_X12_rule_J132 M l0 l1 l2 l3 l4 l5 = some z) (hR : zRj X zC_X12_rule z.1 z.2) : zV X zC_X12_rule M 132 [(0, .inr (.inr l0)), (1, .inl l1), (2, .inl l2), (3, .inl l3), (4, .inl l4), (5, .inl l5)] [] := by
  unfold zf_X12_rule_J132 at h
  refine zV_b (pc' := 137) (lv' := [(0, .inr (.inr l0)), (1, .inl l1), (2, .inl l2), (3, .inl l3), (4, .inl l4), (5, .inl l5)]) (st' := [.inr (.inr l0), .inl ((20 : Int32) * l1)]) [(.bipush 20, 2), (.iload_n 1, 1), (.imul, 1), (.aload_n 0, 1)] (by decide +kernel) rfl ?_
  refine zV_gr (by decide +kernel) zfl_RX12_63 (by decide) rfl h (fun v18 _ h => ?_)
  refine zV_b (pc' := 141) (lv' := [(0, .inr (.inr l0)), (1, .inl l1), (2, .inl l2), (3, .inl l3), (4, .inl l4), (5, .inl l5)]) (st' := [.inl l1, .inr (.inr v18), .inl ((20 : Int32) * l1)]) [(.iload_n 1, 1)] (by decide +kernel) rfl ?_
  refine zV_ai (by decide +kernel) h (fun v19 _ h => ?_)
  refine zV_b (pc' := 146) (lv' := [(8, .inl (((20 : Int32) * l1) + v19)), (0, .inr (.inr l0)), (1, .inl l1), (2, .inl l2), (3, .inl l3), (4, .inl l4), (5, .inl l5)]) (st' := [.inr (.inr l0)]) [(.iadd, 1), (.istore 8, 2), (.aload_n 0, 1)] (by decide +kernel) rfl ?_
  refine zV_gr (by decide +kernel) zfl_RX12_63 (by decide) rfl h (fun v20 _ h => ?_)
  refine zV_b (pc' := 151) (lv' := [(8, .inl (((20 : Int32) * l1) + v19)), (0, .inr (.inr l0)), (1, .inl l1), (2, .inl l2), (3, .inl l3), (4, .inl l4), (5, .inl l5)]) (st' := [.inl l1, .inr (.inr v20), .inl l1, .inr (.inr v20)]) [(.iload_n 1, 1), (.dup2, 1)] (by decide +kernel) rfl ?_
  refine zV_ai (by decide +kernel) h (fun v21 _ h => ?_)
  refine zV_b (pc' := 154) (lv' := [(8, .inl (((20 : Int32) * l1) + v19)), (0, .inr (.inr l0)), (1, .inl l1), (2, .inl l2), (3, .inl l3), (4, .inl l4), (5, .inl l5)]) (st' := [.inl (v21 + (1 : Int32)), .inl l1, .inr (.inr v20)]) [(.iconst 1, 1), (.iadd, 1)] (by decide +kernel) rfl ?_
  refine zV_si (by decide +kernel) h (fun M22 _ h => ?_)
  refine zV_b (pc' := 156) (lv' := [(8, .inl (((20 : Int32) * l1) + v19)), (0, .inr (.inr l0)), (1, .inl l1), (2, .inl l2), (3, .inl l3), (4, .inl l4), (5, .inl l5)]) (st' := [.inr (.inr l0)]) [(.aload_n 0, 1)] (by decide +kernel) rfl ?_
  refine zV_gr (by decide +kernel) zfl_RX12_72 (by decide) rfl h (fun v23 _ h => ?_)
  refine zV_b (pc' := 162) (lv' := [(8, .inl (((20 : Int32) * l1) + v19)), (0, .inr (.inr l0)), (1, .inl l1), (2, .inl l2), (3, .inl l3), (4, .inl l4), (5, .inl l5)]) (st' := [.inl l2, .inl (((20 : Int32) * l1) + v19), .inr (.inr v23)]) [(.iload 8, 2), (.iload_n 2, 1)] (by decide +kernel) rfl ?_
  refine zV_si (by decide +kernel) h (fun M24 _ h => ?_)
  refine zV_b (pc' := 164) (lv' := [(8, .inl (((20 : Int32) * l1) + v19)), (0, .inr (.inr l0)), (1, .inl l1), (2, .inl l2), (3, .inl l3), (4, .inl l4), (5, .inl l5)]) (st' := [.inr (.inr l0)]) [(.aload_n 0, 1)] (by decide +kernel) rfl ?_
  refine zV_gr (by decide +kernel) zfl_RX12_75 (by decide) rfl h (fun v25 _ h => ?_)
  refine zV_b (pc' := 170) (lv' := [(8, .inl (((20 : Int32) * l1) + v19)), (0, .inr (.inr l0)), (1, .inl l1), (2, .inl l2), (3, .inl l3), (4, .inl l4), (5, .inl l5)]) (st' := [.inl l3, .inl (((20 : Int32) * l1) + v19), .inr (.inr v25)]) [(.iload 8, 2), (.iload_n 3, 1)] (by decide +kernel) rfl ?_
  refine zV_si (by decide +kernel) h (fun M26 _ h => ?_)
  refine zV_b (pc' := 172) (lv' := [(8, .inl (((20 : Int32) * l1) + v19)), (0, .inr (.inr l0)), (1, .inl l1), (2, .inl l2), (3, .inl l3), (4, .inl l4), (5, .inl l5)]) (st' := [.inr (.inr l0)]) [(.aload_n 0, 1)] (by decide +kernel) rfl ?_
  refine zV_gr (by decide +kernel) zfl_RX12_78 (by decide) rfl h (fun v27 _ h => ?_)
  refine zV_b (pc' := 179) (lv' := [(8, .inl (((20 : Int32) * l1) + v19)), (0, .inr (.inr l0)), (1, .inl l1), (2, .inl l2), (3, .inl l3), (4, .inl l4), (5, .inl l5)]) (st' := [.inl l4, .inl (((20 : Int32) * l1) + v19), .inr (.inr v27)]) [(.iload 8, 2), (.iload 4, 2)] (by decide +kernel) rfl ?_
  refine zV_si (by decide +kernel) h (fun M28 _ h => ?_)
  refine zV_b (pc' := 181) (lv' := [(8, .inl (((20 : Int32) * l1) + v19)), (0, .inr (.inr l0)), (1, .inl l1), (2, .inl l2), (3, .inl l3), (4, .inl l4), (5, .inl l5)]) (st' := [.inr (.inr l0)]) [(.aload_n 0, 1)] (by decide +kernel) rfl ?_
  refine zV_gr (by decide +kernel) zfl_RX12_81 (by decide) rfl h (fun v29 _ h => ?_)
  refine zV_b (pc' := 188) (lv' := [(8, .inl (((20 : Int32) * l1) + v19)), (0, .inr (.inr l0)), (1, .inl l1), (2, .inl l2), (3, .inl l3), (4, .inl l4), (5, .inl l5)]) (st' := [.inl l5, .inl (((20 : Int32) * l1) + v19), .inr (.inr v29)]) [(.iload 8, 2), (.iload 5, 2)] (by decide +kernel) rfl ?_
  refine zV_si (by decide +kernel) h (fun M30 _ h => ?_)
  refine zV_b (pc' := 192) (lv' := [(8, .inl (((20 : Int32) * l1) + v19)), (0, .inr (.inr l0)), (1, .inl l1), (2, .inl l2), (3, .inl l3), (4, .inl l4), (5, .inl l5)]) (st' := [.inl (6 : Int32), .inl l2]) [(.iload_n 2, 1), (.bipush 6, 2)] (by decide +kernel) rfl ?_
  refine zV_icmp_ne (off := 65) (tgt := 257) (by decide +kernel) (by decide) h (fun c31 h => ?_) (fun c31 h => ?_)
  · refine zV_b (pc' := 196) (lv' := [(8, .inl (((20 : Int32) * l1) + v19)), (0, .inr (.inr l0)), (1, .inl l1), (2, .inl l2), (3, .inl l3), (4, .inl l4), (5, .inl l5)]) (st' := [.inr (.inr l0)]) [(.aload_n 0, 1)] (by decide +kernel) rfl ?_
    refine zV_gr (by decide +kernel) zfl_RX12_66 (by decide) rfl h (fun v32 _ h => ?_)
    refine zV_b (pc' := 201) (lv' := [(8, .inl (((20 : Int32) * l1) + v19)), (0, .inr (.inr l0)), (1, .inl l1), (2, .inl l2), (3, .inl l3), (4, .inl l4), (5, .inl l5)]) (st' := [.inr (.inr l0), .inl l1, .inr (.inr v32)]) [(.iload_n 1, 1), (.aload_n 0, 1)] (by decide +kernel) rfl ?_
    refine zV_gr (by decide +kernel) zfl_RX12_66 (by decide) rfl h (fun v33 _ h => ?_)
    refine zV_b (pc' := 205) (lv' := [(8, .inl (((20 : Int32) * l1) + v19)), (0, .inr (.inr l0)), (1, .inl l1), (2, .inl l2), (3, .inl l3), (4, .inl l4), (5, .inl l5)]) (st' := [.inl l1, .inr (.inr v33), .inl l1, .inr (.inr v32)]) [(.iload_n 1, 1)] (by decide +kernel) rfl ?_
    refine zV_ai (by decide +kernel) h (fun v34 _ h => ?_)
    refine zV_b (pc' := 208) (lv' := [(8, .inl (((20 : Int32) * l1) + v19)), (0, .inr (.inr l0)), (1, .inl l1), (2, .inl l2), (3, .inl l3), (4, .inl l4), (5, .inl l5)]) (st' := [.inl (v34 - (2 : Int32)), .inl l1, .inr (.inr v32)]) [(.iconst 2, 1), (.isub, 1)] (by decide +kernel) rfl ?_
    refine zV_si (by decide +kernel) h (fun M35 _ h => ?_)
    refine zV_b (pc' := 210) (lv' := [(8, .inl (((20 : Int32) * l1) + v19)), (0, .inr (.inr l0)), (1, .inl l1), (2, .inl l2), (3, .inl l3), (4, .inl l4), (5, .inl l5)]) (st' := [.inr (.inr l0)]) [(.aload_n 0, 1)] (by decide +kernel) rfl ?_
    refine zV_gr (by decide +kernel) zfl_RX12_84 (by decide) rfl h (fun v36 _ h => ?_)
    refine zV_b (pc' := 216) (lv' := [(8, .inl (((20 : Int32) * l1) + v19)), (0, .inr (.inr l0)), (1, .inl l1), (2, .inl l2), (3, .inl l3), (4, .inl l4), (5, .inl l5)]) (st' := [.inr (.inr l0), .inl (((20 : Int32) * l1) + v19), .inr (.inr v36)]) [(.iload 8, 2), (.aload_n 0, 1)] (by decide +kernel) rfl ?_
    refine zV_gr (by decide +kernel) zfl_RX12_69 (by decide) rfl h (fun v37 _ h => ?_)
    refine zV_b (pc' := 224) (lv' := [(8, .inl (((20 : Int32) * l1) + v19)), (0, .inr (.inr l0)), (1, .inl l1), (2, .inl l2), (3, .inl l3), (4, .inl l4), (5, .inl l5)]) (st' := [.inr (.inr l0), .inl ((20 : Int32) * l1), .inr (.inr v37), .inl (((20 : Int32) * l1) + v19), .inr (.inr v36)]) [(.bipush 20, 2), (.iload_n 1, 1), (.imul, 1), (.aload_n 0, 1)] (by decide +kernel) rfl ?_
    refine zV_gr (by decide +kernel) zfl_RX12_66 (by decide) rfl h (fun v38 _ h => ?_)
    refine zV_b (pc' := 228) (lv' := [(8, .inl (((20 : Int32) * l1) + v19)), (0, .inr (.inr l0)), (1, .inl l1), (2, .inl l2), (3, .inl l3), (4, .inl l4), (5, .inl l5)]) (st' := [.inl l1, .inr (.inr v38), .inl ((20 : Int32) * l1), .inr (.inr v37), .inl (((20 : Int32) * l1) + v19), .inr (.inr v36)]) [(.iload_n 1, 1)] (by decide +kernel) rfl ?_
    refine zV_ai (by decide +kernel) h (fun v39 _ h => ?_)
    refine zV_b (pc' := 230) (lv' := [(8, .inl (((20 : Int32) * l1) + v19)), (0, .inr (.inr l0)), (1, .inl l1), (2, .inl l2), (3, .inl l3), (4, .inl l4), (5, .inl l5)]) (st' := [.inl (((20 : Int32) * l1) + v39), .inr (.inr v37), .inl (((20 : Int32) * l1) + v19), .inr (.inr v36)]) [(.iadd, 1)] (by decide +kernel) rfl ?_
    refine zV_ai (by decide +kernel) h (fun v40 _ h => ?_)
    refine zV_si (by decide +kernel) h (fun M41 _ h => ?_)
    refine zV_b (pc' := 233) (lv' := [(8, .inl (((20 : Int32) * l1) + v19)), (0, .inr (.inr l0)), (1, .inl l1), (2, .inl l2), (3, .inl l3), (4, .inl l4), (5, .inl l5)]) (st' := [.inr (.inr l0)]) [(.aload_n 0, 1)] (by decide +kernel) rfl ?_
    refine zV_gr (by decide +kernel) zfl_RX12_87 (by decide) rfl h (fun v42 _ h => ?_)
    refine zV_b (pc' := 239) (lv' := [(8, .inl (((20 : Int32) * l1) + v19)), (0, .inr (.inr l0)), (1, .inl l1), (2, .inl l2), (3, .inl l3), (4, .inl l4), (5, .inl l5)]) (st' := [.inr (.inr l0), .inl (((20 : Int32) * l1) + v19), .inr (.inr v42)]) [(.iload 8, 2), (.aload_n 0, 1)] (by decide +kernel) rfl ?_
    refine zV_gr (by decide +kernel) zfl_RX12_69 (by decide) rfl h (fun v43 _ h => ?_)
    refine zV_b (pc' := 247) (lv' := [(8, .inl (((20 : Int32) * l1) + v19)), (0, .inr (.inr l0)), (1, .inl l1), (2, .inl l2), (3, .inl l3), (4, .inl l4), (5, .inl l5)]) (st' := [.inr (.inr l0), .inl ((20 : Int32) * l1), .inr (.inr v43), .inl (((20 : Int32) * l1) + v19), .inr (.inr v42)]) [(.bipush 20, 2), (.iload_n 1, 1), (.imul, 1), (.aload_n 0, 1)] (by decide +kernel) rfl ?_
    refine zV_gr (by decide +kernel) zfl_RX12_66 (by decide) rfl h (fun v44 _ h => ?_)
    refine zV_b (pc' := 251) (lv' := [(8, .inl (((20 : Int32) * l1) + v19)), (0, .inr (.inr l0)), (1, .inl l1), (2, .inl l2), (3, .inl l3), (4, .inl l4), (5, .inl l5)]) (st' := [.inl l1, .inr (.inr v44), .inl ((20 : Int32) * l1), .inr (.inr v43), .inl (((20 : Int32) * l1) + v19), .inr (.inr v42)]) [(.iload_n 1, 1)] (by decide +kernel) rfl ?_
    refine zV_ai (by decide +kernel) h (fun v45 _ h => ?_)
    refine zV_b (pc' := 255) (lv' := [(8, .inl (((20 : Int32) * l1) + v19)), (0, .inr (.inr l0)), (1, .inl l1), (2, .inl l2), (3, .inl l3), (4, .inl l4), (5, .inl l5)]) (st' := [.inl ((((20 : Int32) * l1) + v45) + (1 : Int32)), .inr (.inr v43), .inl (((20 : Int32) * l1) + v19), .inr (.inr v42)]) [(.iadd, 1), (.iconst 1, 1), (.iadd, 1)] (by decide +kernel) rfl ?_
    refine zV_ai (by decide +kernel) h (fun v46 _ h => ?_)
    refine zV_si (by decide +kernel) h (fun M47 _ h => ?_)
    exact zV_lv (lv' := [(0, .inr (.inr l0)), (1, .inl l1), (8, .inl (((20 : Int32) * l1) + v19))]) [1, 2, 0] rfl (zt_X12_rule_J257 h hR)
  · exact zV_lv (lv' := [(0, .inr (.inr l0)), (1, .inl l1), (8, .inl (((20 : Int32) * l1) + v19))]) [1, 2, 0] rfl (zt_X12_rule_J257 h hR)
set_option maxRecDepth 100000 in
theorem zt_X12_rule_J59 {X : Zx} {M : Zm} {l0 : Option Nat} {l1 : Int32} {l2 : Int32} {l3 : Int32} {l4 : Int32} {l5 : Int32} {s0 : Int32} {z : Zm × Int64} (h : zf_X12_rule_J59 M l0 l1 l2 l3 l4 l5 s0 = some z) (hR : zRj X zC_X12_rule z.1 z.2) : zV X zC_X12_rule M 59 [(0, .inr (.inr l0)), (1, .inl l1), (2, .inl l2), (3, .inl l3), (4, .inl l4), (5, .inl l5)] [.inl s0] := by
  unfold zf_X12_rule_J59 at h
  refine zV_b (pc' := 63) (lv' := [(6, .inl s0), (0, .inr (.inr l0)), (1, .inl l1), (2, .inl l2), (3, .inl l3), (4, .inl l4), (5, .inl l5)]) (st' := [.inl s0]) [(.istore 6, 2), (.iload 6, 2)] (by decide +kernel) rfl ?_
  refine zV_if_ne (off := 9) (tgt := 72) (by decide +kernel) (by decide) h (fun c4 h => ?_) (fun c4 h => ?_)
  · refine zV_b (pc' := 68) (lv' := [(6, .inl s0), (0, .inr (.inr l0)), (1, .inl l1), (2, .inl l2), (3, .inl l3), (4, .inl l4), (5, .inl l5)]) (st' := [.inl (1 : Int32), .inr (.inr l0)]) [(.aload_n 0, 1), (.iconst 1, 1)] (by decide +kernel) rfl ?_
    refine zV_cvj (As := [.inl (1 : Int32)]) (st := []) (c := 13) (by decide +kernel) (zcl_X12_no (by decide) (by decide)) ⟨zw_1677, zw_1679, zw_59⟩ ⟨⟨_, _, rfl⟩, by decide⟩ rfl rfl (Nat.le_of_ble_eq_true rfl) h (fun _ _ e => zc_X12_no e) (fun M5 v5 _ h => ?_)
    exact zend_j h hR (by decide +kernel)
  · refine zV_b (pc' := 74) (lv' := [(6, .inl s0), (0, .inr (.inr l0)), (1, .inl l1), (2, .inl l2), (3, .inl l3), (4, .inl l4), (5, .inl l5)]) (st' := [.inl l1, .inr (.inr l0)]) [(.aload_n 0, 1), (.iload_n 1, 1)] (by decide +kernel) rfl ?_
    refine zV_cvi (As := [.inl l1]) (st := []) (c := 13) (by decide +kernel) (zcl_X12_lookedLabel (by decide) (by decide)) ⟨zw_1898, zw_1900, zw_90⟩ ⟨⟨_, _, rfl⟩, by decide⟩ rfl rfl (Nat.le_of_ble_eq_true rfl) h (fun _ _ e => zc_X12_lookedLabel e) (fun M7 v7 _ h => ?_)
    refine zV_b (pc' := 81) (lv' := [(7, .inl v7), (6, .inl s0), (0, .inr (.inr l0)), (1, .inl l1), (2, .inl l2), (3, .inl l3), (4, .inl l4), (5, .inl l5)]) (st' := [.inl v7]) [(.istore 7, 2), (.iload 7, 2)] (by decide +kernel) rfl ?_
    refine zV_if_le (off := 10) (tgt := 91) (by decide +kernel) (by decide) h (fun c8 h => ?_) (fun c8 h => ?_)
    · refine zV_b (pc' := 92) (lv' := [(7, .inl v7), (6, .inl s0), (0, .inr (.inr l0)), (1, .inl l1), (2, .inl l2), (3, .inl l3), (4, .inl l4), (5, .inl l5)]) (st' := [.inr (.inr l0)]) [(.aload_n 0, 1)] (by decide +kernel) rfl ?_
      refine zV_gr (by decide +kernel) zfl_RX12_63 (by decide) rfl h (fun v9 _ h => ?_)
      refine zV_b (pc' := 96) (lv' := [(7, .inl v7), (6, .inl s0), (0, .inr (.inr l0)), (1, .inl l1), (2, .inl l2), (3, .inl l3), (4, .inl l4), (5, .inl l5)]) (st' := [.inl l1, .inr (.inr v9)]) [(.iload_n 1, 1)] (by decide +kernel) rfl ?_
      refine zV_ai (by decide +kernel) h (fun v10 _ h => ?_)
      refine zV_b (pc' := 99) (lv' := [(7, .inl v7), (6, .inl s0), (0, .inr (.inr l0)), (1, .inl l1), (2, .inl l2), (3, .inl l3), (4, .inl l4), (5, .inl l5)]) (st' := [.inl (20 : Int32), .inl v10]) [(.bipush 20, 2)] (by decide +kernel) rfl ?_
      refine zV_icmp_ne (off := 10) (tgt := 109) (by decide +kernel) (by decide) h (fun c11 h => ?_) (fun c11 h => ?_)
      · refine zV_b (pc' := 105) (lv' := [(7, .inl v7), (6, .inl s0), (0, .inr (.inr l0)), (1, .inl l1), (2, .inl l2), (3, .inl l3), (4, .inl l4), (5, .inl l5)]) (st' := [.inl (12 : Int32), .inr (.inr l0)]) [(.aload_n 0, 1), (.bipush 12, 2)] (by decide +kernel) rfl ?_
        refine zV_cvj (As := [.inl (12 : Int32)]) (st := []) (c := 13) (by decide +kernel) (zcl_X12_no (by decide) (by decide)) ⟨zw_1677, zw_1679, zw_59⟩ ⟨⟨_, _, rfl⟩, by decide⟩ rfl rfl (Nat.le_of_ble_eq_true rfl) h (fun _ _ e => zc_X12_no e) (fun M12 v12 _ h => ?_)
        exact zend_j h hR (by decide +kernel)
      · refine zV_b (pc' := 112) (lv' := [(7, .inl v7), (6, .inl s0), (0, .inr (.inr l0)), (1, .inl l1), (2, .inl l2), (3, .inl l3), (4, .inl l4), (5, .inl l5)]) (st' := [.inl (6 : Int32), .inl l2]) [(.iload_n 2, 1), (.bipush 6, 2)] (by decide +kernel) rfl ?_
        refine zV_icmp_ne (off := 20) (tgt := 132) (by decide +kernel) (by decide) h (fun c14 h => ?_) (fun c14 h => ?_)
        · refine zV_b (pc' := 116) (lv' := [(7, .inl v7), (6, .inl s0), (0, .inr (.inr l0)), (1, .inl l1), (2, .inl l2), (3, .inl l3), (4, .inl l4), (5, .inl l5)]) (st' := [.inr (.inr l0)]) [(.aload_n 0, 1)] (by decide +kernel) rfl ?_
          refine zV_gr (by decide +kernel) zfl_RX12_66 (by decide) rfl h (fun v15 _ h => ?_)
          refine zV_b (pc' := 120) (lv' := [(7, .inl v7), (6, .inl s0), (0, .inr (.inr l0)), (1, .inl l1), (2, .inl l2), (3, .inl l3), (4, .inl l4), (5, .inl l5)]) (st' := [.inl l1, .inr (.inr v15)]) [(.iload_n 1, 1)] (by decide +kernel) rfl ?_
          refine zV_ai (by decide +kernel) h (fun v16 _ h => ?_)
          refine zV_b (pc' := 122) (lv' := [(7, .inl v7), (6, .inl s0), (0, .inr (.inr l0)), (1, .inl l1), (2, .inl l2), (3, .inl l3), (4, .inl l4), (5, .inl l5)]) (st' := [.inl (2 : Int32), .inl v16]) [(.iconst 2, 1)] (by decide +kernel) rfl ?_
          refine zV_icmp_ge (off := 10) (tgt := 132) (by decide +kernel) (by decide) h (fun c17 h => ?_) (fun c17 h => ?_)
          · exact zV_lv (lv' := [(0, .inr (.inr l0)), (1, .inl l1), (2, .inl l2), (3, .inl l3), (4, .inl l4), (5, .inl l5)]) [2, 3, 4, 5, 6, 7] rfl (zt_X12_rule_J132 h hR)
          · refine zV_b (pc' := 128) (lv' := [(7, .inl v7), (6, .inl s0), (0, .inr (.inr l0)), (1, .inl l1), (2, .inl l2), (3, .inl l3), (4, .inl l4), (5, .inl l5)]) (st' := [.inl (10 : Int32), .inr (.inr l0)]) [(.aload_n 0, 1), (.bipush 10, 2)] (by decide +kernel) rfl ?_
            refine zV_cvj (As := [.inl (10 : Int32)]) (st := []) (c := 13) (by decide +kernel) (zcl_X12_no (by decide) (by decide)) ⟨zw_1677, zw_1679, zw_59⟩ ⟨⟨_, _, rfl⟩, by decide⟩ rfl rfl (Nat.le_of_ble_eq_true rfl) h (fun _ _ e => zc_X12_no e) (fun M58 v58 _ h => ?_)
            exact zend_j h hR (by decide +kernel)
        · exact zV_lv (lv' := [(0, .inr (.inr l0)), (1, .inl l1), (2, .inl l2), (3, .inl l3), (4, .inl l4), (5, .inl l5)]) [2, 3, 4, 5, 6, 7] rfl (zt_X12_rule_J132 h hR)
    · refine zV_b (pc' := 87) (lv' := [(7, .inl v7), (6, .inl s0), (0, .inr (.inr l0)), (1, .inl l1), (2, .inl l2), (3, .inl l3), (4, .inl l4), (5, .inl l5)]) (st' := [.inl v7, .inr (.inr l0)]) [(.aload_n 0, 1), (.iload 7, 2)] (by decide +kernel) rfl ?_
      refine zV_cvj (As := [.inl v7]) (st := []) (c := 13) (by decide +kernel) (zcl_X12_no (by decide) (by decide)) ⟨zw_1677, zw_1679, zw_59⟩ ⟨⟨_, _, rfl⟩, by decide⟩ rfl rfl (Nat.le_of_ble_eq_true rfl) h (fun _ _ e => zc_X12_no e) (fun M60 v60 _ h => ?_)
      exact zend_j h hR (by decide +kernel)
set_option maxRecDepth 100000 in
theorem zt_X12_rule_J54 {X : Zx} {M : Zm} {l0 : Option Nat} {l1 : Int32} {l2 : Int32} {l3 : Int32} {l4 : Int32} {l5 : Int32} {z : Zm × Int64} (h : zf_X12_rule_J54 M l0 l1 l2 l3 l4 l5 = some z) (hR : zRj X zC_X12_rule z.1 z.2) : zV X zC_X12_rule M 54 [(0, .inr (.inr l0)), (1, .inl l1), (2, .inl l2), (3, .inl l3), (4, .inl l4), (5, .inl l5)] [] := by
  unfold zf_X12_rule_J54 at h
  refine zV_b (pc' := 55) (lv' := [(0, .inr (.inr l0)), (1, .inl l1), (2, .inl l2), (3, .inl l3), (4, .inl l4), (5, .inl l5)]) (st' := [.inl (1 : Int32)]) [(.iconst 1, 1)] (by decide +kernel) rfl ?_
  refine zV_goto (off := 4) (tgt := 59) (by decide +kernel) (by decide) ?_
  exact zV_lv (lv' := [(0, .inr (.inr l0)), (1, .inl l1), (2, .inl l2), (3, .inl l3), (4, .inl l4), (5, .inl l5)]) [0, 1, 2, 3, 4, 5] rfl (zt_X12_rule_J59 h hR)
set_option maxRecDepth 100000 in
theorem zt_X12_rule_J58 {X : Zx} {M : Zm} {l0 : Option Nat} {l1 : Int32} {l2 : Int32} {l3 : Int32} {l4 : Int32} {l5 : Int32} {z : Zm × Int64} (h : zf_X12_rule_J58 M l0 l1 l2 l3 l4 l5 = some z) (hR : zRj X zC_X12_rule z.1 z.2) : zV X zC_X12_rule M 58 [(0, .inr (.inr l0)), (1, .inl l1), (2, .inl l2), (3, .inl l3), (4, .inl l4), (5, .inl l5)] [] := by
  unfold zf_X12_rule_J58 at h
  refine zV_b (pc' := 59) (lv' := [(0, .inr (.inr l0)), (1, .inl l1), (2, .inl l2), (3, .inl l3), (4, .inl l4), (5, .inl l5)]) (st' := [.inl (0 : Int32)]) [(.iconst 0, 1)] (by decide +kernel) rfl ?_
  exact zV_lv (lv' := [(0, .inr (.inr l0)), (1, .inl l1), (2, .inl l2), (3, .inl l3), (4, .inl l4), (5, .inl l5)]) [0, 1, 2, 3, 4, 5] rfl (zt_X12_rule_J59 h hR)
set_option maxRecDepth 100000 in
theorem zt_X12_rule {X : Zx} {M : Zm} {l0 : Option Nat} {l1 : Int32} {l2 : Int32} {l3 : Int32} {l4 : Int32} {l5 : Int32} {z : Zm × Int64} (h : zf_X12_rule M l0 l1 l2 l3 l4 l5 = some z) (hR : zRj X zC_X12_rule z.1 z.2) : zV X zC_X12_rule M 0 [(0, .inr (.inr l0)), (1, .inl l1), (2, .inl l2), (3, .inl l3), (4, .inl l4), (5, .inl l5)] [] := by
  unfold zf_X12_rule at h
  refine zV_b (pc' := 1) (lv' := [(0, .inr (.inr l0)), (1, .inl l1), (2, .inl l2), (3, .inl l3), (4, .inl l4), (5, .inl l5)]) (st' := [.inr (.inr l0)]) [(.aload_n 0, 1)] (by decide +kernel) rfl ?_
  refine zV_cvv (As := []) (st := []) (c := 13) (by decide +kernel) (zcl_X12_begin (by decide) (by decide)) ⟨zw_1673, zw_1675, zw_58⟩ ⟨⟨_, _, rfl⟩, by decide⟩ rfl rfl (Nat.le_of_ble_eq_true rfl) h (fun _ _ e => zc_X12_begin e) (fun M1 _ _ h => ?_)
  refine zV_b (pc' := 7) (lv' := [(0, .inr (.inr l0)), (1, .inl l1), (2, .inl l2), (3, .inl l3), (4, .inl l4), (5, .inl l5)]) (st' := [.inl (6 : Int32), .inl l2]) [(.iload_n 2, 1), (.bipush 6, 2)] (by decide +kernel) rfl ?_
  refine zV_icmp_eq (off := 47) (tgt := 54) (by decide +kernel) (by decide) h (fun c2 h => ?_) (fun c2 h => ?_)
  · exact zV_lv (lv' := [(0, .inr (.inr l0)), (1, .inl l1), (2, .inl l2), (3, .inl l3), (4, .inl l4), (5, .inl l5)]) [0, 1, 2, 3, 4, 5] rfl (zt_X12_rule_J54 h hR)
  · refine zV_b (pc' := 12) (lv' := [(0, .inr (.inr l0)), (1, .inl l1), (2, .inl l2), (3, .inl l3), (4, .inl l4), (5, .inl l5)]) (st' := [.inl (1 : Int32), .inl l2]) [(.iload_n 2, 1), (.iconst 1, 1)] (by decide +kernel) rfl ?_
    refine zV_icmp_lt (off := 46) (tgt := 58) (by decide +kernel) (by decide) h (fun c62 h => ?_) (fun c62 h => ?_)
    · exact zV_lv (lv' := [(0, .inr (.inr l0)), (1, .inl l1), (2, .inl l2), (3, .inl l3), (4, .inl l4), (5, .inl l5)]) [0, 1, 2, 3, 4, 5] rfl (zt_X12_rule_J58 h hR)
    · refine zV_b (pc' := 17) (lv' := [(0, .inr (.inr l0)), (1, .inl l1), (2, .inl l2), (3, .inl l3), (4, .inl l4), (5, .inl l5)]) (st' := [.inl (5 : Int32), .inl l2]) [(.iload_n 2, 1), (.iconst 5, 1)] (by decide +kernel) rfl ?_
      refine zV_icmp_gt (off := 41) (tgt := 58) (by decide +kernel) (by decide) h (fun c63 h => ?_) (fun c63 h => ?_)
      · exact zV_lv (lv' := [(0, .inr (.inr l0)), (1, .inl l1), (2, .inl l2), (3, .inl l3), (4, .inl l4), (5, .inl l5)]) [0, 1, 2, 3, 4, 5] rfl (zt_X12_rule_J58 h hR)
      · refine zV_b (pc' := 22) (lv' := [(0, .inr (.inr l0)), (1, .inl l1), (2, .inl l2), (3, .inl l3), (4, .inl l4), (5, .inl l5)]) (st' := [.inl (1 : Int32), .inl l3]) [(.iload_n 3, 1), (.iconst 1, 1)] (by decide +kernel) rfl ?_
        refine zV_icmp_lt (off := 36) (tgt := 58) (by decide +kernel) (by decide) h (fun c64 h => ?_) (fun c64 h => ?_)
        · exact zV_lv (lv' := [(0, .inr (.inr l0)), (1, .inl l1), (2, .inl l2), (3, .inl l3), (4, .inl l4), (5, .inl l5)]) [0, 1, 2, 3, 4, 5] rfl (zt_X12_rule_J58 h hR)
        · refine zV_b (pc' := 27) (lv' := [(0, .inr (.inr l0)), (1, .inl l1), (2, .inl l2), (3, .inl l3), (4, .inl l4), (5, .inl l5)]) (st' := [.inl (3 : Int32), .inl l3]) [(.iload_n 3, 1), (.iconst 3, 1)] (by decide +kernel) rfl ?_
          refine zV_icmp_gt (off := 31) (tgt := 58) (by decide +kernel) (by decide) h (fun c65 h => ?_) (fun c65 h => ?_)
          · exact zV_lv (lv' := [(0, .inr (.inr l0)), (1, .inl l1), (2, .inl l2), (3, .inl l3), (4, .inl l4), (5, .inl l5)]) [0, 1, 2, 3, 4, 5] rfl (zt_X12_rule_J58 h hR)
          · refine zV_b (pc' := 32) (lv' := [(0, .inr (.inr l0)), (1, .inl l1), (2, .inl l2), (3, .inl l3), (4, .inl l4), (5, .inl l5)]) (st' := [.inl l4]) [(.iload 4, 2)] (by decide +kernel) rfl ?_
            refine zV_if_lt (off := 26) (tgt := 58) (by decide +kernel) (by decide) h (fun c66 h => ?_) (fun c66 h => ?_)
            · exact zV_lv (lv' := [(0, .inr (.inr l0)), (1, .inl l1), (2, .inl l2), (3, .inl l3), (4, .inl l4), (5, .inl l5)]) [0, 1, 2, 3, 4, 5] rfl (zt_X12_rule_J58 h hR)
            · refine zV_b (pc' := 39) (lv' := [(0, .inr (.inr l0)), (1, .inl l1), (2, .inl l2), (3, .inl l3), (4, .inl l4), (5, .inl l5)]) (st' := [.inl (15 : Int32), .inl l4]) [(.iload 4, 2), (.bipush 15, 2)] (by decide +kernel) rfl ?_
              refine zV_icmp_gt (off := 19) (tgt := 58) (by decide +kernel) (by decide) h (fun c67 h => ?_) (fun c67 h => ?_)
              · exact zV_lv (lv' := [(0, .inr (.inr l0)), (1, .inl l1), (2, .inl l2), (3, .inl l3), (4, .inl l4), (5, .inl l5)]) [0, 1, 2, 3, 4, 5] rfl (zt_X12_rule_J58 h hR)
              · refine zV_b (pc' := 44) (lv' := [(0, .inr (.inr l0)), (1, .inl l1), (2, .inl l2), (3, .inl l3), (4, .inl l4), (5, .inl l5)]) (st' := [.inl l5]) [(.iload 5, 2)] (by decide +kernel) rfl ?_
                refine zV_if_lt (off := 14) (tgt := 58) (by decide +kernel) (by decide) h (fun c68 h => ?_) (fun c68 h => ?_)
                · exact zV_lv (lv' := [(0, .inr (.inr l0)), (1, .inl l1), (2, .inl l2), (3, .inl l3), (4, .inl l4), (5, .inl l5)]) [0, 1, 2, 3, 4, 5] rfl (zt_X12_rule_J58 h hR)
                · refine zV_b (pc' := 51) (lv' := [(0, .inr (.inr l0)), (1, .inl l1), (2, .inl l2), (3, .inl l3), (4, .inl l4), (5, .inl l5)]) (st' := [.inl (100 : Int32), .inl l5]) [(.iload 5, 2), (.bipush 100, 2)] (by decide +kernel) rfl ?_
                  refine zV_icmp_gt (off := 7) (tgt := 58) (by decide +kernel) (by decide) h (fun c69 h => ?_) (fun c69 h => ?_)
                  · exact zV_lv (lv' := [(0, .inr (.inr l0)), (1, .inl l1), (2, .inl l2), (3, .inl l3), (4, .inl l4), (5, .inl l5)]) [0, 1, 2, 3, 4, 5] rfl (zt_X12_rule_J58 h hR)
                  · exact zV_lv (lv' := [(0, .inr (.inr l0)), (1, .inl l1), (2, .inl l2), (3, .inl l3), (4, .inl l4), (5, .inl l5)]) [0, 1, 2, 3, 4, 5] rfl (zt_X12_rule_J54 h hR)
theorem zc_X12_rule {M M' : Zm} {l0 : Option Nat} {l1 : Int32} {l2 : Int32} {l3 : Int32} {l4 : Int32} {l5 : Int32} {x : Int64} (h : zf_X12_rule M l0 l1 l2 l3 l4 l5 = some (M', x)) (l : Launch) (D : va_G) (cy : Nat → ClassId) : zMet l yX12_rule zC_X12_rule (some .long) D cy [.inr (.inr l0), .inl l1, .inl l2, .inl l3, .inl l4, .inl l5] M M' (some (.inr (.inl x))) :=
  zM_j (by decide) rfl (fun h => by cases h) (Nat.le_of_ble_eq_true rfl) (fun X hR => zt_X12_rule h hR)
-- BlendCellarModel.strays()I
def zC_X12_strays : Zc := (cX12_strays, 7, RX12, 0, 0, false)
theorem zcl_X12_strays {C : Zc} (h1 : zC_X12_strays.2.2.2.1 + 1 ≤ C.2.2.2.1) (h2 : 8 + (zC_X12_strays.2.1 + 11) + zC_X12_strays.2.2.2.2.1 ≤ C.2.2.2.2.1) : zCl C yX12_strays zC_X12_strays (some .int) 0 := ⟨zw_1989, zw_114, ⟨by decide, by decide⟩, by decide +kernel, h1, h2⟩
noncomputable def zf_X12_strays_J63 (M : Zm) (p0 : Option Nat) (p1 : Int32) (p2 : Int32) (l3 : Int32) (l4 : Int32) (l5 : Int32) : Option ((Zm × Int32 × Int32 × Int32) ⊕ (Zm × Int32 × Int32 × Int32)) :=
  some (.inl (M, l3, l4, (l5 + 1)))
noncomputable def zf_X12_strays_L20 (p0 : Option Nat) (p1 : Int32) (p2 : Int32) (x : Zm × Int32 × Int32 × Int32) : Option ((Zm × Int32 × Int32 × Int32) ⊕ (Zm × Int32 × Int32 × Int32)) := match x with
  | (M, l3, l4, l5) =>
  (if (1200 : Int32) ≤ l5 then
  some (.inr (M, l3, l4, l5))
  else
  zb1 (zo_gr M p0 13 13) (fun v4 =>
  zb1 (zo_ai M v4 l5) (fun v5 =>
  (if v5 = p2 then
  zb1 (zo_id l5 (60 : Int32)) (fun v7 =>
  zb1 (zo_im l5 (60 : Int32)) (fun v8 =>
  zf_X12_strays_J63 M p0 p1 p2 (l3 + 1) (((1 : Int32) + ((100 : Int32) * v7)) + v8) l5))
  else
  zf_X12_strays_J63 M p0 p1 p2 l3 l4 l5))))
def zP_X12_strays_L20 (X : Zx) (p0 : Option Nat) (p1 : Int32) (p2 : Int32) (x : Zm × Int32 × Int32 × Int32) : Prop := match x with
  | (M, l3, l4, l5) => zV X zC_X12_strays M 20 [(0, .inr (.inr p0)), (1, .inl p1), (2, .inl p2), (3, .inl l3), (4, .inl l4), (5, .inl l5)] []
def zK_X12_strays_L20 (X : Zx) (p0 : Option Nat) (p1 : Int32) (p2 : Int32) (y : Zm × Int32 × Int32 × Int32) : Prop := match y with
  | (M, l3, l4, l5) => zV X zC_X12_strays M 69 [(0, .inr (.inr p0)), (1, .inl p1), (2, .inl p2), (3, .inl l3), (4, .inl l4)] []
noncomputable def zf_X12_strays_J126 (M : Zm) (p0 : Option Nat) (p1 : Int32) (p2 : Int32) (l3 : Int32) (l4 : Int32) (p5 : Int32) (l6 : Int32) : Option ((Zm × Int32 × Int32 × Int32) ⊕ (Zm × Int32 × Int32 × Int32)) :=
  some (.inl (M, l3, l4, (l6 + 1)))
noncomputable def zf_X12_strays_L84 (p0 : Option Nat) (p1 : Int32) (p2 : Int32) (p5 : Int32) (x : Zm × Int32 × Int32 × Int32) : Option ((Zm × Int32 × Int32 × Int32) ⊕ (Zm × Int32 × Int32 × Int32)) := match x with
  | (M, l3, l4, l6) =>
  zb1 (zo_gr M p0 13 6) (fun v14 =>
  zb1 (zo_ai M v14 p5) (fun v15 =>
  (if v15 ≤ l6 then
  some (.inr (M, l3, l4, l6))
  else
  zb1 (zo_gr M p0 13 7) (fun v17 =>
  zb1 (zo_ai M v17 (((4 : Int32) * p5) + l6)) (fun v18 =>
  (if v18 = p2 then
  zf_X12_strays_J126 M p0 p1 p2 (l3 + 1) ((10000 : Int32) + p5) p5 l6
  else
  zf_X12_strays_J126 M p0 p1 p2 l3 l4 p5 l6))))))
def zP_X12_strays_L84 (X : Zx) (p0 : Option Nat) (p1 : Int32) (p2 : Int32) (p5 : Int32) (x : Zm × Int32 × Int32 × Int32) : Prop := match x with
  | (M, l3, l4, l6) => zV X zC_X12_strays M 84 [(0, .inr (.inr p0)), (1, .inl p1), (2, .inl p2), (3, .inl l3), (4, .inl l4), (5, .inl p5), (6, .inl l6)] []
def zK_X12_strays_L84 (X : Zx) (p0 : Option Nat) (p1 : Int32) (p2 : Int32) (p5 : Int32) (y : Zm × Int32 × Int32 × Int32) : Prop := match y with
  | (M, l3, l4, l6) => zV X zC_X12_strays M 132 [(0, .inr (.inr p0)), (1, .inl p1), (2, .inl p2), (3, .inl l3), (4, .inl l4), (5, .inl p5)] []
noncomputable def zf_X12_strays_L72 (p0 : Option Nat) (p1 : Int32) (p2 : Int32) (x : Zm × Int32 × Int32 × Int32) : Option ((Zm × Int32 × Int32 × Int32) ⊕ (Zm × Int32 × Int32 × Int32)) := match x with
  | (M, l3, l4, l5) =>
  zb1 (zo_gi M p0 13 1) (fun v12 =>
  (if v12 ≤ l5 then
  some (.inr (M, l3, l4, l5))
  else
  zb1 (zwhile (zf_X12_strays_L84 p0 p1 p2 l5) (M, l3, l4, (0 : Int32))) (fun y22 => match y22 with
  | (M84_22, l3_22, l4_22, l6_22) =>
  some (.inl (M84_22, l3_22, l4_22, (l5 + 1))))))
def zP_X12_strays_L72 (X : Zx) (p0 : Option Nat) (p1 : Int32) (p2 : Int32) (x : Zm × Int32 × Int32 × Int32) : Prop := match x with
  | (M, l3, l4, l5) => zV X zC_X12_strays M 72 [(0, .inr (.inr p0)), (1, .inl p1), (2, .inl p2), (3, .inl l3), (4, .inl l4), (5, .inl l5)] []
def zK_X12_strays_L72 (X : Zx) (p0 : Option Nat) (p1 : Int32) (p2 : Int32) (y : Zm × Int32 × Int32 × Int32) : Prop := match y with
  | (M, l3, l4, l5) => zV X zC_X12_strays M 138 [(0, .inr (.inr p0)), (1, .inl p1), (2, .inl p2), (3, .inl l3), (4, .inl l4)] []
noncomputable def zf_X12_strays_J157 (M : Zm) (p0 : Option Nat) (l1 : Int32) (l2 : Int32) : Option ((Zm × Int32 × Int32) ⊕ (Zm × Int32 × Int32)) :=
  some (.inl (M, l1, (l2 + 1)))
noncomputable def zf_X12_strays_J154 (M : Zm) (p0 : Option Nat) (l1 : Int32) (l2 : Int32) : Option ((Zm × Int32 × Int32) ⊕ (Zm × Int32 × Int32)) :=
  zf_X12_strays_J157 M p0 (l1 + 1) l2
noncomputable def zf_X12_strays_L4 (p0 : Option Nat) (x : Zm × Int32 × Int32) : Option ((Zm × Int32 × Int32) ⊕ (Zm × Int32 × Int32)) := match x with
  | (M, l1, l2) =>
  zb1 (zo_gi M p0 13 1) (fun v1 =>
  (if v1 ≤ l2 then
  some (.inr (M, l1, l2))
  else
  zb1 (zwhile (zf_X12_strays_L20 p0 l1 l2) (M, (0 : Int32), (0 : Int32), (0 : Int32))) (fun y11 => match y11 with
  | (M20_11, l3_11, l4_11, l5_11) =>
  zb1 (zwhile (zf_X12_strays_L72 p0 l1 l2) (M20_11, l3_11, l4_11, (0 : Int32))) (fun y24 => match y24 with
  | (M72_24, l3_24, l4_24, l5_24) =>
  (if (1 : Int32) < l3_24 then
  zf_X12_strays_J154 M72_24 p0 l1 l2
  else
  zb1 (zo_gr M72_24 p0 13 5) (fun v27 =>
  zb1 (zo_ai M72_24 v27 l2) (fun v28 =>
  (if l4_24 = v28 then
  zf_X12_strays_J157 M72_24 p0 l1 l2
  else
  zf_X12_strays_J154 M72_24 p0 l1 l2))))))))
def zP_X12_strays_L4 (X : Zx) (p0 : Option Nat) (x : Zm × Int32 × Int32) : Prop := match x with
  | (M, l1, l2) => zV X zC_X12_strays M 4 [(0, .inr (.inr p0)), (1, .inl l1), (2, .inl l2)] []
def zK_X12_strays_L4 (X : Zx) (p0 : Option Nat) (y : Zm × Int32 × Int32) : Prop := match y with
  | (M, l1, l2) => zV X zC_X12_strays M 163 [(1, .inl l1)] []
noncomputable def zf_X12_strays (M : Zm) (l0 : Option Nat) : Option (Zm × Int32) :=
  zb1 (zwhile (zf_X12_strays_L4 l0) (M, (0 : Int32), (0 : Int32))) (fun y30 => match y30 with
  | (M4_30, l1_30, l2_30) =>
  some (M4_30, l1_30))
set_option maxRecDepth 100000 in
theorem zt_X12_strays_J63 {X : Zx} {M : Zm} {p0 : Option Nat} {p1 : Int32} {p2 : Int32} {l3 : Int32} {l4 : Int32} {l5 : Int32} {z : (Zm × Int32 × Int32 × Int32) ⊕ (Zm × Int32 × Int32 × Int32)} (h : zf_X12_strays_J63 M p0 p1 p2 l3 l4 l5 = some z) (k1 : ∀ x' : Zm × Int32 × Int32 × Int32, z = .inl x' → zP_X12_strays_L20 X p0 p1 p2 x') (k2 : ∀ y : Zm × Int32 × Int32 × Int32, z = .inr y → zK_X12_strays_L20 X p0 p1 p2 y) : zV X zC_X12_strays M 63 [(0, .inr (.inr p0)), (1, .inl p1), (2, .inl p2), (3, .inl l3), (4, .inl l4), (5, .inl l5)] [] := by
  unfold zf_X12_strays_J63 at h
  refine zV_b (pc' := 66) (lv' := [(5, .inl (l5 + 1)), (0, .inr (.inr p0)), (1, .inl p1), (2, .inl p2), (3, .inl l3), (4, .inl l4)]) (st' := []) [(.iinc 5 1, 3)] (by decide +kernel) rfl ?_
  refine zV_goto (off := (-46)) (tgt := 20) (by decide +kernel) (by decide) ?_
  exact zV_lv (lv' := [(0, .inr (.inr p0)), (1, .inl p1), (2, .inl p2), (3, .inl l3), (4, .inl l4), (5, .inl (l5 + 1))]) [1, 2, 3, 4, 5, 0] rfl (k1 _ (Option.some.inj h).symm)
set_option maxRecDepth 100000 in
theorem zt_X12_strays_L20 {X : Zx} {p0 : Option Nat} {p1 : Int32} {p2 : Int32} {x : Zm × Int32 × Int32 × Int32} {y : Zm × Int32 × Int32 × Int32} (h : zwhile (zf_X12_strays_L20 p0 p1 p2) x = some y) (hy : zK_X12_strays_L20 X p0 p1 p2 y) : zP_X12_strays_L20 X p0 p1 p2 x := by
  refine zwhile_ind (P := zP_X12_strays_L20 X p0 p1 p2) (K := zK_X12_strays_L20 X p0 p1 p2) ?_ h hy
  intro x z hf k1 k2
  obtain ⟨M, l3, l4, l5⟩ := x
  have h : zf_X12_strays_L20 p0 p1 p2 (M, l3, l4, l5) = some z := hf
  unfold zf_X12_strays_L20 at h
  show zV X zC_X12_strays M 20 [(0, .inr (.inr p0)), (1, .inl p1), (2, .inl p2), (3, .inl l3), (4, .inl l4), (5, .inl l5)] []
  refine zV_b (pc' := 25) (lv' := [(0, .inr (.inr p0)), (1, .inl p1), (2, .inl p2), (3, .inl l3), (4, .inl l4), (5, .inl l5)]) (st' := [.inl (1200 : Int32), .inl l5]) [(.iload 5, 2), (.sipush 1200, 3)] (by decide +kernel) rfl ?_
  refine zV_icmp_ge (off := 44) (tgt := 69) (by decide +kernel) (by decide) h (fun c3 h => ?_) (fun c3 h => ?_)
  · exact zV_lv (lv' := [(0, .inr (.inr p0)), (1, .inl p1), (2, .inl p2), (3, .inl l3), (4, .inl l4)]) [0, 1, 2, 3, 4] rfl (k2 _ (Option.some.inj h).symm)
  · refine zV_b (pc' := 29) (lv' := [(0, .inr (.inr p0)), (1, .inl p1), (2, .inl p2), (3, .inl l3), (4, .inl l4), (5, .inl l5)]) (st' := [.inr (.inr p0)]) [(.aload_n 0, 1)] (by decide +kernel) rfl ?_
    refine zV_gr (by decide +kernel) zfl_RX12_45 (by decide) rfl h (fun v4 _ h => ?_)
    refine zV_b (pc' := 34) (lv' := [(0, .inr (.inr p0)), (1, .inl p1), (2, .inl p2), (3, .inl l3), (4, .inl l4), (5, .inl l5)]) (st' := [.inl l5, .inr (.inr v4)]) [(.iload 5, 2)] (by decide +kernel) rfl ?_
    refine zV_ai (by decide +kernel) h (fun v5 _ h => ?_)
    refine zV_b (pc' := 36) (lv' := [(0, .inr (.inr p0)), (1, .inl p1), (2, .inl p2), (3, .inl l3), (4, .inl l4), (5, .inl l5)]) (st' := [.inl p2, .inl v5]) [(.iload_n 2, 1)] (by decide +kernel) rfl ?_
    refine zV_icmp_eq (off := 6) (tgt := 42) (by decide +kernel) (by decide) h (fun c6 h => ?_) (fun c6 h => ?_)
    · refine zV_b (pc' := 52) (lv' := [(3, .inl (l3 + 1)), (0, .inr (.inr p0)), (1, .inl p1), (2, .inl p2), (4, .inl l4), (5, .inl l5)]) (st' := [.inl (60 : Int32), .inl l5, .inl (100 : Int32), .inl (1 : Int32)]) [(.iinc 3 1, 3), (.iconst 1, 1), (.bipush 100, 2), (.iload 5, 2), (.bipush 60, 2)] (by decide +kernel) rfl ?_
      refine zV_id (by decide +kernel) h (fun v7 _ h => ?_)
      refine zV_b (pc' := 59) (lv' := [(3, .inl (l3 + 1)), (0, .inr (.inr p0)), (1, .inl p1), (2, .inl p2), (4, .inl l4), (5, .inl l5)]) (st' := [.inl (60 : Int32), .inl l5, .inl ((1 : Int32) + ((100 : Int32) * v7))]) [(.imul, 1), (.iadd, 1), (.iload 5, 2), (.bipush 60, 2)] (by decide +kernel) rfl ?_
      refine zV_im (by decide +kernel) h (fun v8 _ h => ?_)
      refine zV_b (pc' := 63) (lv' := [(4, .inl (((1 : Int32) + ((100 : Int32) * v7)) + v8)), (3, .inl (l3 + 1)), (0, .inr (.inr p0)), (1, .inl p1), (2, .inl p2), (5, .inl l5)]) (st' := []) [(.iadd, 1), (.istore 4, 2)] (by decide +kernel) rfl ?_
      exact zV_lv (lv' := [(0, .inr (.inr p0)), (1, .inl p1), (2, .inl p2), (3, .inl (l3 + 1)), (4, .inl (((1 : Int32) + ((100 : Int32) * v7)) + v8)), (5, .inl l5)]) [2, 3, 4, 1, 0, 5] rfl (zt_X12_strays_J63 h k1 k2)
    · refine zV_goto (off := 24) (tgt := 63) (by decide +kernel) (by decide) ?_
      exact zV_lv (lv' := [(0, .inr (.inr p0)), (1, .inl p1), (2, .inl p2), (3, .inl l3), (4, .inl l4), (5, .inl l5)]) [0, 1, 2, 3, 4, 5] rfl (zt_X12_strays_J63 h k1 k2)
set_option maxRecDepth 100000 in
theorem zt_X12_strays_J126 {X : Zx} {M : Zm} {p0 : Option Nat} {p1 : Int32} {p2 : Int32} {l3 : Int32} {l4 : Int32} {p5 : Int32} {l6 : Int32} {z : (Zm × Int32 × Int32 × Int32) ⊕ (Zm × Int32 × Int32 × Int32)} (h : zf_X12_strays_J126 M p0 p1 p2 l3 l4 p5 l6 = some z) (k1 : ∀ x' : Zm × Int32 × Int32 × Int32, z = .inl x' → zP_X12_strays_L84 X p0 p1 p2 p5 x') (k2 : ∀ y : Zm × Int32 × Int32 × Int32, z = .inr y → zK_X12_strays_L84 X p0 p1 p2 p5 y) : zV X zC_X12_strays M 126 [(0, .inr (.inr p0)), (1, .inl p1), (2, .inl p2), (3, .inl l3), (4, .inl l4), (5, .inl p5), (6, .inl l6)] [] := by
  unfold zf_X12_strays_J126 at h
  refine zV_b (pc' := 129) (lv' := [(6, .inl (l6 + 1)), (0, .inr (.inr p0)), (1, .inl p1), (2, .inl p2), (3, .inl l3), (4, .inl l4), (5, .inl p5)]) (st' := []) [(.iinc 6 1, 3)] (by decide +kernel) rfl ?_
  refine zV_goto (off := (-45)) (tgt := 84) (by decide +kernel) (by decide) ?_
  exact zV_lv (lv' := [(0, .inr (.inr p0)), (1, .inl p1), (2, .inl p2), (3, .inl l3), (4, .inl l4), (5, .inl p5), (6, .inl (l6 + 1))]) [1, 2, 3, 4, 5, 6, 0] rfl (k1 _ (Option.some.inj h).symm)
set_option maxRecDepth 100000 in
theorem zt_X12_strays_L84 {X : Zx} {p0 : Option Nat} {p1 : Int32} {p2 : Int32} {p5 : Int32} {x : Zm × Int32 × Int32 × Int32} {y : Zm × Int32 × Int32 × Int32} (h : zwhile (zf_X12_strays_L84 p0 p1 p2 p5) x = some y) (hy : zK_X12_strays_L84 X p0 p1 p2 p5 y) : zP_X12_strays_L84 X p0 p1 p2 p5 x := by
  refine zwhile_ind (P := zP_X12_strays_L84 X p0 p1 p2 p5) (K := zK_X12_strays_L84 X p0 p1 p2 p5) ?_ h hy
  intro x z hf k1 k2
  obtain ⟨M, l3, l4, l6⟩ := x
  have h : zf_X12_strays_L84 p0 p1 p2 p5 (M, l3, l4, l6) = some z := hf
  unfold zf_X12_strays_L84 at h
  show zV X zC_X12_strays M 84 [(0, .inr (.inr p0)), (1, .inl p1), (2, .inl p2), (3, .inl l3), (4, .inl l4), (5, .inl p5), (6, .inl l6)] []
  refine zV_b (pc' := 87) (lv' := [(0, .inr (.inr p0)), (1, .inl p1), (2, .inl p2), (3, .inl l3), (4, .inl l4), (5, .inl p5), (6, .inl l6)]) (st' := [.inr (.inr p0), .inl l6]) [(.iload 6, 2), (.aload_n 0, 1)] (by decide +kernel) rfl ?_
  refine zV_gr (by decide +kernel) zfl_RX12_22 (by decide) rfl h (fun v14 _ h => ?_)
  refine zV_b (pc' := 92) (lv' := [(0, .inr (.inr p0)), (1, .inl p1), (2, .inl p2), (3, .inl l3), (4, .inl l4), (5, .inl p5), (6, .inl l6)]) (st' := [.inl p5, .inr (.inr v14), .inl l6]) [(.iload 5, 2)] (by decide +kernel) rfl ?_
  refine zV_ai (by decide +kernel) h (fun v15 _ h => ?_)
  refine zV_icmp_ge (off := 39) (tgt := 132) (by decide +kernel) (by decide) h (fun c16 h => ?_) (fun c16 h => ?_)
  · exact zV_lv (lv' := [(0, .inr (.inr p0)), (1, .inl p1), (2, .inl p2), (3, .inl l3), (4, .inl l4), (5, .inl p5)]) [0, 1, 2, 3, 4, 5] rfl (k2 _ (Option.some.inj h).symm)
  · refine zV_b (pc' := 97) (lv' := [(0, .inr (.inr p0)), (1, .inl p1), (2, .inl p2), (3, .inl l3), (4, .inl l4), (5, .inl p5), (6, .inl l6)]) (st' := [.inr (.inr p0)]) [(.aload_n 0, 1)] (by decide +kernel) rfl ?_
    refine zV_gr (by decide +kernel) zfl_RX12_25 (by decide) rfl h (fun v17 _ h => ?_)
    refine zV_b (pc' := 107) (lv' := [(0, .inr (.inr p0)), (1, .inl p1), (2, .inl p2), (3, .inl l3), (4, .inl l4), (5, .inl p5), (6, .inl l6)]) (st' := [.inl (((4 : Int32) * p5) + l6), .inr (.inr v17)]) [(.iconst 4, 1), (.iload 5, 2), (.imul, 1), (.iload 6, 2), (.iadd, 1)] (by decide +kernel) rfl ?_
    refine zV_ai (by decide +kernel) h (fun v18 _ h => ?_)
    refine zV_b (pc' := 109) (lv' := [(0, .inr (.inr p0)), (1, .inl p1), (2, .inl p2), (3, .inl l3), (4, .inl l4), (5, .inl p5), (6, .inl l6)]) (st' := [.inl p2, .inl v18]) [(.iload_n 2, 1)] (by decide +kernel) rfl ?_
    refine zV_icmp_eq (off := 6) (tgt := 115) (by decide +kernel) (by decide) h (fun c19 h => ?_) (fun c19 h => ?_)
    · refine zV_b (pc' := 126) (lv' := [(4, .inl ((10000 : Int32) + p5)), (3, .inl (l3 + 1)), (0, .inr (.inr p0)), (1, .inl p1), (2, .inl p2), (5, .inl p5), (6, .inl l6)]) (st' := []) [(.iinc 3 1, 3), (.sipush 10000, 3), (.iload 5, 2), (.iadd, 1), (.istore 4, 2)] (by decide +kernel) rfl ?_
      exact zV_lv (lv' := [(0, .inr (.inr p0)), (1, .inl p1), (2, .inl p2), (3, .inl (l3 + 1)), (4, .inl ((10000 : Int32) + p5)), (5, .inl p5), (6, .inl l6)]) [2, 3, 4, 1, 0, 5, 6] rfl (zt_X12_strays_J126 h k1 k2)
    · refine zV_goto (off := 14) (tgt := 126) (by decide +kernel) (by decide) ?_
      exact zV_lv (lv' := [(0, .inr (.inr p0)), (1, .inl p1), (2, .inl p2), (3, .inl l3), (4, .inl l4), (5, .inl p5), (6, .inl l6)]) [0, 1, 2, 3, 4, 5, 6] rfl (zt_X12_strays_J126 h k1 k2)
set_option maxRecDepth 100000 in
theorem zt_X12_strays_L72 {X : Zx} {p0 : Option Nat} {p1 : Int32} {p2 : Int32} {x : Zm × Int32 × Int32 × Int32} {y : Zm × Int32 × Int32 × Int32} (h : zwhile (zf_X12_strays_L72 p0 p1 p2) x = some y) (hy : zK_X12_strays_L72 X p0 p1 p2 y) : zP_X12_strays_L72 X p0 p1 p2 x := by
  refine zwhile_ind (P := zP_X12_strays_L72 X p0 p1 p2) (K := zK_X12_strays_L72 X p0 p1 p2) ?_ h hy
  intro x z hf k1 k2
  obtain ⟨M, l3, l4, l5⟩ := x
  have h : zf_X12_strays_L72 p0 p1 p2 (M, l3, l4, l5) = some z := hf
  unfold zf_X12_strays_L72 at h
  show zV X zC_X12_strays M 72 [(0, .inr (.inr p0)), (1, .inl p1), (2, .inl p2), (3, .inl l3), (4, .inl l4), (5, .inl l5)] []
  refine zV_b (pc' := 75) (lv' := [(0, .inr (.inr p0)), (1, .inl p1), (2, .inl p2), (3, .inl l3), (4, .inl l4), (5, .inl l5)]) (st' := [.inr (.inr p0), .inl l5]) [(.iload 5, 2), (.aload_n 0, 1)] (by decide +kernel) rfl ?_
  refine zV_gi (by decide +kernel) zfl_RX12_181 (by decide) rfl (Or.inl rfl) h (fun v12 _ h => ?_)
  refine zV_icmp_ge (off := 60) (tgt := 138) (by decide +kernel) (by decide) h (fun c13 h => ?_) (fun c13 h => ?_)
  · exact zV_lv (lv' := [(0, .inr (.inr p0)), (1, .inl p1), (2, .inl p2), (3, .inl l3), (4, .inl l4)]) [0, 1, 2, 3, 4] rfl (k2 _ (Option.some.inj h).symm)
  · refine zV_b (pc' := 84) (lv' := [(6, .inl (0 : Int32)), (0, .inr (.inr p0)), (1, .inl p1), (2, .inl p2), (3, .inl l3), (4, .inl l4), (5, .inl l5)]) (st' := []) [(.iconst 0, 1), (.istore 6, 2)] (by decide +kernel) rfl ?_
    obtain ⟨y22, e22, h⟩ := zb1_inv h
    refine zV_lv (lv' := [(0, .inr (.inr p0)), (1, .inl p1), (2, .inl p2), (3, .inl l3), (4, .inl l4), (5, .inl l5), (6, .inl (0 : Int32))]) [1, 2, 3, 4, 5, 6, 0] rfl (zt_X12_strays_L84 e22 ?_)
    obtain ⟨M84_22, l3_22, l4_22, l6_22⟩ := y22
    show zV X zC_X12_strays M84_22 132 [(0, .inr (.inr p0)), (1, .inl p1), (2, .inl p2), (3, .inl l3_22), (4, .inl l4_22), (5, .inl l5)] []
    refine zV_b (pc' := 135) (lv' := [(5, .inl (l5 + 1)), (0, .inr (.inr p0)), (1, .inl p1), (2, .inl p2), (3, .inl l3_22), (4, .inl l4_22)]) (st' := []) [(.iinc 5 1, 3)] (by decide +kernel) rfl ?_
    refine zV_goto (off := (-63)) (tgt := 72) (by decide +kernel) (by decide) ?_
    exact zV_lv (lv' := [(0, .inr (.inr p0)), (1, .inl p1), (2, .inl p2), (3, .inl l3_22), (4, .inl l4_22), (5, .inl (l5 + 1))]) [1, 2, 3, 4, 5, 0] rfl (k1 _ (Option.some.inj h).symm)
set_option maxRecDepth 100000 in
theorem zt_X12_strays_J157 {X : Zx} {M : Zm} {p0 : Option Nat} {l1 : Int32} {l2 : Int32} {z : (Zm × Int32 × Int32) ⊕ (Zm × Int32 × Int32)} (h : zf_X12_strays_J157 M p0 l1 l2 = some z) (k1 : ∀ x' : Zm × Int32 × Int32, z = .inl x' → zP_X12_strays_L4 X p0 x') (k2 : ∀ y : Zm × Int32 × Int32, z = .inr y → zK_X12_strays_L4 X p0 y) : zV X zC_X12_strays M 157 [(0, .inr (.inr p0)), (1, .inl l1), (2, .inl l2)] [] := by
  unfold zf_X12_strays_J157 at h
  refine zV_b (pc' := 160) (lv' := [(2, .inl (l2 + 1)), (0, .inr (.inr p0)), (1, .inl l1)]) (st' := []) [(.iinc 2 1, 3)] (by decide +kernel) rfl ?_
  refine zV_goto (off := (-156)) (tgt := 4) (by decide +kernel) (by decide) ?_
  exact zV_lv (lv' := [(0, .inr (.inr p0)), (1, .inl l1), (2, .inl (l2 + 1))]) [1, 2, 0] rfl (k1 _ (Option.some.inj h).symm)
set_option maxRecDepth 100000 in
theorem zt_X12_strays_J154 {X : Zx} {M : Zm} {p0 : Option Nat} {l1 : Int32} {l2 : Int32} {z : (Zm × Int32 × Int32) ⊕ (Zm × Int32 × Int32)} (h : zf_X12_strays_J154 M p0 l1 l2 = some z) (k1 : ∀ x' : Zm × Int32 × Int32, z = .inl x' → zP_X12_strays_L4 X p0 x') (k2 : ∀ y : Zm × Int32 × Int32, z = .inr y → zK_X12_strays_L4 X p0 y) : zV X zC_X12_strays M 154 [(0, .inr (.inr p0)), (1, .inl l1), (2, .inl l2)] [] := by
  unfold zf_X12_strays_J154 at h
  refine zV_b (pc' := 157) (lv' := [(1, .inl (l1 + 1)), (0, .inr (.inr p0)), (2, .inl l2)]) (st' := []) [(.iinc 1 1, 3)] (by decide +kernel) rfl ?_
  exact zV_lv (lv' := [(0, .inr (.inr p0)), (1, .inl (l1 + 1)), (2, .inl l2)]) [1, 0, 2] rfl (zt_X12_strays_J157 h k1 k2)
set_option maxRecDepth 100000 in
theorem zt_X12_strays_L4 {X : Zx} {p0 : Option Nat} {x : Zm × Int32 × Int32} {y : Zm × Int32 × Int32} (h : zwhile (zf_X12_strays_L4 p0) x = some y) (hy : zK_X12_strays_L4 X p0 y) : zP_X12_strays_L4 X p0 x := by
  refine zwhile_ind (P := zP_X12_strays_L4 X p0) (K := zK_X12_strays_L4 X p0) ?_ h hy
  intro x z hf k1 k2
  obtain ⟨M, l1, l2⟩ := x
  have h : zf_X12_strays_L4 p0 (M, l1, l2) = some z := hf
  unfold zf_X12_strays_L4 at h
  show zV X zC_X12_strays M 4 [(0, .inr (.inr p0)), (1, .inl l1), (2, .inl l2)] []
  refine zV_b (pc' := 6) (lv' := [(0, .inr (.inr p0)), (1, .inl l1), (2, .inl l2)]) (st' := [.inr (.inr p0), .inl l2]) [(.iload_n 2, 1), (.aload_n 0, 1)] (by decide +kernel) rfl ?_
  refine zV_gi (by decide +kernel) zfl_RX12_181 (by decide) rfl (Or.inl rfl) h (fun v1 _ h => ?_)
  refine zV_icmp_ge (off := 154) (tgt := 163) (by decide +kernel) (by decide) h (fun c2 h => ?_) (fun c2 h => ?_)
  · exact zV_lv (lv' := [(1, .inl l1)]) [1] rfl (k2 _ (Option.some.inj h).symm)
  · refine zV_b (pc' := 20) (lv' := [(5, .inl (0 : Int32)), (4, .inl (0 : Int32)), (3, .inl (0 : Int32)), (0, .inr (.inr p0)), (1, .inl l1), (2, .inl l2)]) (st' := []) [(.iconst 0, 1), (.istore_n 3, 1), (.iconst 0, 1), (.istore 4, 2), (.iconst 0, 1), (.istore 5, 2)] (by decide +kernel) rfl ?_
    obtain ⟨y11, e11, h⟩ := zb1_inv h
    refine zV_lv (lv' := [(0, .inr (.inr p0)), (1, .inl l1), (2, .inl l2), (3, .inl (0 : Int32)), (4, .inl (0 : Int32)), (5, .inl (0 : Int32))]) [3, 4, 5, 2, 1, 0] rfl (zt_X12_strays_L20 e11 ?_)
    obtain ⟨M20_11, l3_11, l4_11, l5_11⟩ := y11
    show zV X zC_X12_strays M20_11 69 [(0, .inr (.inr p0)), (1, .inl l1), (2, .inl l2), (3, .inl l3_11), (4, .inl l4_11)] []
    refine zV_b (pc' := 72) (lv' := [(5, .inl (0 : Int32)), (0, .inr (.inr p0)), (1, .inl l1), (2, .inl l2), (3, .inl l3_11), (4, .inl l4_11)]) (st' := []) [(.iconst 0, 1), (.istore 5, 2)] (by decide +kernel) rfl ?_
    obtain ⟨y24, e24, h⟩ := zb1_inv h
    refine zV_lv (lv' := [(0, .inr (.inr p0)), (1, .inl l1), (2, .inl l2), (3, .inl l3_11), (4, .inl l4_11), (5, .inl (0 : Int32))]) [1, 2, 3, 4, 5, 0] rfl (zt_X12_strays_L72 e24 ?_)
    obtain ⟨M72_24, l3_24, l4_24, l5_24⟩ := y24
    show zV X zC_X12_strays M72_24 138 [(0, .inr (.inr p0)), (1, .inl l1), (2, .inl l2), (3, .inl l3_24), (4, .inl l4_24)] []
    refine zV_b (pc' := 140) (lv' := [(0, .inr (.inr p0)), (1, .inl l1), (2, .inl l2), (3, .inl l3_24), (4, .inl l4_24)]) (st' := [.inl (1 : Int32), .inl l3_24]) [(.iload_n 3, 1), (.iconst 1, 1)] (by decide +kernel) rfl ?_
    refine zV_icmp_gt (off := 14) (tgt := 154) (by decide +kernel) (by decide) h (fun c25 h => ?_) (fun c25 h => ?_)
    · exact zV_lv (lv' := [(0, .inr (.inr p0)), (1, .inl l1), (2, .inl l2)]) [0, 1, 2] rfl (zt_X12_strays_J154 h k1 k2)
    · refine zV_b (pc' := 146) (lv' := [(0, .inr (.inr p0)), (1, .inl l1), (2, .inl l2), (3, .inl l3_24), (4, .inl l4_24)]) (st' := [.inr (.inr p0), .inl l4_24]) [(.iload 4, 2), (.aload_n 0, 1)] (by decide +kernel) rfl ?_
      refine zV_gr (by decide +kernel) zfl_RX12_19 (by decide) rfl h (fun v27 _ h => ?_)
      refine zV_b (pc' := 150) (lv' := [(0, .inr (.inr p0)), (1, .inl l1), (2, .inl l2), (3, .inl l3_24), (4, .inl l4_24)]) (st' := [.inl l2, .inr (.inr v27), .inl l4_24]) [(.iload_n 2, 1)] (by decide +kernel) rfl ?_
      refine zV_ai (by decide +kernel) h (fun v28 _ h => ?_)
      refine zV_icmp_eq (off := 6) (tgt := 157) (by decide +kernel) (by decide) h (fun c29 h => ?_) (fun c29 h => ?_)
      · exact zV_lv (lv' := [(0, .inr (.inr p0)), (1, .inl l1), (2, .inl l2)]) [0, 1, 2] rfl (zt_X12_strays_J157 h k1 k2)
      · exact zV_lv (lv' := [(0, .inr (.inr p0)), (1, .inl l1), (2, .inl l2)]) [0, 1, 2] rfl (zt_X12_strays_J154 h k1 k2)
set_option maxRecDepth 100000 in
theorem zt_X12_strays {X : Zx} {M : Zm} {l0 : Option Nat} {z : Zm × Int32} (h : zf_X12_strays M l0 = some z) (hR : zRi X zC_X12_strays z.1 z.2) : zV X zC_X12_strays M 0 [(0, .inr (.inr l0))] [] := by
  unfold zf_X12_strays at h
  refine zV_b (pc' := 4) (lv' := [(2, .inl (0 : Int32)), (1, .inl (0 : Int32)), (0, .inr (.inr l0))]) (st' := []) [(.iconst 0, 1), (.istore_n 1, 1), (.iconst 0, 1), (.istore_n 2, 1)] (by decide +kernel) rfl ?_
  obtain ⟨y30, e30, h⟩ := zb1_inv h
  refine zV_lv (lv' := [(0, .inr (.inr l0)), (1, .inl (0 : Int32)), (2, .inl (0 : Int32))]) [2, 1, 0] rfl (zt_X12_strays_L4 e30 ?_)
  obtain ⟨M4_30, l1_30, l2_30⟩ := y30
  show zV X zC_X12_strays M4_30 163 [(1, .inl l1_30)] []
  refine zV_b (pc' := 164) (lv' := [(1, .inl l1_30)]) (st' := [.inl l1_30]) [(.iload_n 1, 1)] (by decide +kernel) rfl ?_
  exact zend_i h hR (by decide +kernel)
theorem zc_X12_strays {M M' : Zm} {l0 : Option Nat} {x : Int32} (h : zf_X12_strays M l0 = some (M', x)) (l : Launch) (D : va_G) (cy : Nat → ClassId) : zMet l yX12_strays zC_X12_strays (some .int) D cy [.inr (.inr l0)] M M' (some (.inl x)) :=
  zM_i (by decide) rfl (fun h => by cases h) (Nat.le_of_ble_eq_true rfl) (fun X hR => zt_X12_strays h hR)
-- BlendCellarModel.takeBack()V
def zC_X12_takeBack : Zc := (cX12_takeBack, 3, RX12, 0, 0, false)
theorem zcl_X12_takeBack {C : Zc} (h1 : zC_X12_takeBack.2.2.2.1 + 1 ≤ C.2.2.2.1) (h2 : 8 + (zC_X12_takeBack.2.1 + 11) + zC_X12_takeBack.2.2.2.2.1 ≤ C.2.2.2.2.1) : zCl C yX12_takeBack zC_X12_takeBack none 0 := ⟨zw_1945, zw_114, ⟨by decide, by decide⟩, by decide +kernel, h1, h2⟩
noncomputable def zf_X12_takeBack_L80 (p0 : Option Nat) (p1 : Int32) (x : Zm × Int32) : Option ((Zm × Int32) ⊕ (Zm × Int32)) := match x with
  | (M, l2) =>
  zb1 (zo_gr M p0 13 6) (fun v23 =>
  zb1 (zo_ai M v23 p1) (fun v24 =>
  (if v24 ≤ l2 then
  some (.inr (M, l2))
  else
  zb1 (zo_gr M p0 13 7) (fun v26 =>
  zb1 (zo_gr M p0 13 52) (fun v27 =>
  zb1 (zo_ai M v27 (((4 : Int32) * p1) + l2)) (fun v28 =>
  zb1 (zo_si M v26 (((4 : Int32) * p1) + l2) v28) (fun M29 =>
  some (.inl (M29, (l2 + 1))))))))))
def zP_X12_takeBack_L80 (X : Zx) (p0 : Option Nat) (p1 : Int32) (x : Zm × Int32) : Prop := match x with
  | (M, l2) => zV X zC_X12_takeBack M 80 [(0, .inr (.inr p0)), (1, .inl p1), (2, .inl l2)] []
def zK_X12_takeBack_L80 (X : Zx) (p0 : Option Nat) (p1 : Int32) (y : Zm × Int32) : Prop := match y with
  | (M, l2) => zV X zC_X12_takeBack M 116 [(0, .inr (.inr p0)), (1, .inl p1)] []
noncomputable def zf_X12_takeBack_L133 (p0 : Option Nat) (p1 : Int32) (x : Zm × Int32) : Option ((Zm × Int32) ⊕ (Zm × Int32)) := match x with
  | (M, l2) =>
  zb1 (zo_gr M p0 13 8) (fun v36 =>
  zb1 (zo_ai M v36 p1) (fun v37 =>
  (if (((60 : Int32) * p1) + v37) ≤ l2 then
  some (.inr (M, l2))
  else
  zb1 (zo_gr M p0 13 9) (fun v39 =>
  zb1 (zo_gr M p0 13 54) (fun v40 =>
  zb1 (zo_ai M v40 l2) (fun v41 =>
  zb1 (zo_si M v39 l2 v41) (fun M42 =>
  zb1 (zo_gr M42 p0 13 10) (fun v43 =>
  zb1 (zo_gr M42 p0 13 55) (fun v44 =>
  zb1 (zo_aj M42 v44 l2) (fun v45 =>
  zb1 (zo_sj M42 v43 l2 v45) (fun M46 =>
  some (.inl (M46, (l2 + 1))))))))))))))
def zP_X12_takeBack_L133 (X : Zx) (p0 : Option Nat) (p1 : Int32) (x : Zm × Int32) : Prop := match x with
  | (M, l2) => zV X zC_X12_takeBack M 133 [(0, .inr (.inr p0)), (1, .inl p1), (2, .inl l2)] []
def zK_X12_takeBack_L133 (X : Zx) (p0 : Option Nat) (p1 : Int32) (y : Zm × Int32) : Prop := match y with
  | (M, l2) => zV X zC_X12_takeBack M 178 [(0, .inr (.inr p0)), (1, .inl p1)] []
noncomputable def zf_X12_takeBack_L34 (p0 : Option Nat) (x : Zm × Int32) : Option ((Zm × Int32) ⊕ (Zm × Int32)) := match x with
  | (M, l1) =>
  zb1 (zo_gi M p0 13 1) (fun v9 =>
  (if v9 ≤ l1 then
  some (.inr (M, l1))
  else
  zb1 (zo_gr M p0 13 4) (fun v11 =>
  zb1 (zo_gr M p0 13 49) (fun v12 =>
  zb1 (zo_ai M v12 l1) (fun v13 =>
  zb1 (zo_si M v11 l1 v13) (fun M14 =>
  zb1 (zo_gr M14 p0 13 5) (fun v15 =>
  zb1 (zo_gr M14 p0 13 50) (fun v16 =>
  zb1 (zo_ai M14 v16 l1) (fun v17 =>
  zb1 (zo_si M14 v15 l1 v17) (fun M18 =>
  zb1 (zo_gr M18 p0 13 6) (fun v19 =>
  zb1 (zo_gr M18 p0 13 51) (fun v20 =>
  zb1 (zo_ai M18 v20 l1) (fun v21 =>
  zb1 (zo_si M18 v19 l1 v21) (fun M22 =>
  zb1 (zwhile (zf_X12_takeBack_L80 p0 l1) (M22, (0 : Int32))) (fun y31 => match y31 with
  | (M80_31, l2_31) =>
  zb1 (zo_gr M80_31 p0 13 8) (fun v32 =>
  zb1 (zo_gr M80_31 p0 13 53) (fun v33 =>
  zb1 (zo_ai M80_31 v33 l1) (fun v34 =>
  zb1 (zo_si M80_31 v32 l1 v34) (fun M35 =>
  zb1 (zwhile (zf_X12_takeBack_L133 p0 l1) (M35, ((60 : Int32) * l1))) (fun y48 => match y48 with
  | (M133_48, l2_48) =>
  some (.inl (M133_48, (l1 + 1)))))))))))))))))))))))
def zP_X12_takeBack_L34 (X : Zx) (p0 : Option Nat) (x : Zm × Int32) : Prop := match x with
  | (M, l1) => zV X zC_X12_takeBack M 34 [(0, .inr (.inr p0)), (1, .inl l1)] []
def zK_X12_takeBack_L34 (X : Zx) (p0 : Option Nat) (y : Zm × Int32) : Prop := match y with
  | (M, l1) => zV X zC_X12_takeBack M 184 [(0, .inr (.inr p0))] []
noncomputable def zf_X12_takeBack_L186 (p0 : Option Nat) (x : Zm × Int32) : Option ((Zm × Int32) ⊕ (Zm × Int32)) := match x with
  | (M, l1) =>
  (if (20 : Int32) ≤ l1 then
  some (.inr (M, l1))
  else
  zb1 (zo_gr M p0 13 11) (fun v52 =>
  zb1 (zo_gr M p0 13 56) (fun v53 =>
  zb1 (zo_ai M v53 l1) (fun v54 =>
  zb1 (zo_si M v52 l1 v54) (fun M55 =>
  zb1 (zo_gr M55 p0 13 12) (fun v56 =>
  zb1 (zo_gr M55 p0 13 57) (fun v57 =>
  zb1 (zo_ai M55 v57 l1) (fun v58 =>
  zb1 (zo_si M55 v56 l1 v58) (fun M59 =>
  some (.inl (M59, (l1 + 1))))))))))))
def zP_X12_takeBack_L186 (X : Zx) (p0 : Option Nat) (x : Zm × Int32) : Prop := match x with
  | (M, l1) => zV X zC_X12_takeBack M 186 [(0, .inr (.inr p0)), (1, .inl l1)] []
def zK_X12_takeBack_L186 (X : Zx) (p0 : Option Nat) (y : Zm × Int32) : Prop := match y with
  | (M, l1) => zV X zC_X12_takeBack M 222 [(0, .inr (.inr p0))] []
noncomputable def zf_X12_takeBack_L224 (p0 : Option Nat) (x : Zm × Int32) : Option ((Zm × Int32) ⊕ (Zm × Int32)) := match x with
  | (M, l1) =>
  (if (1200 : Int32) ≤ l1 then
  some (.inr (M, l1))
  else
  zb1 (zo_gr M p0 13 13) (fun v63 =>
  zb1 (zo_gr M p0 13 58) (fun v64 =>
  zb1 (zo_ai M v64 l1) (fun v65 =>
  zb1 (zo_si M v63 l1 v65) (fun M66 =>
  some (.inl (M66, (l1 + 1))))))))
def zP_X12_takeBack_L224 (X : Zx) (p0 : Option Nat) (x : Zm × Int32) : Prop := match x with
  | (M, l1) => zV X zC_X12_takeBack M 224 [(0, .inr (.inr p0)), (1, .inl l1)] []
def zK_X12_takeBack_L224 (X : Zx) (p0 : Option Nat) (y : Zm × Int32) : Prop := match y with
  | (M, l1) => zV X zC_X12_takeBack M 249 [(0, .inr (.inr p0))] []
noncomputable def zf_X12_takeBack_J286 (M : Zm) (p0 : Option Nat) (l1 : Int32) (s0 : Int64) (s1 : Int32) (s2 : Option Nat) : Option ((Zm × Int32) ⊕ (Zm × Int32)) :=
  zb1 (zo_sj M s2 s1 s0) (fun M74 =>
  some (.inl (M74, (l1 + 1))))
noncomputable def zf_X12_takeBack_L251 (p0 : Option Nat) (x : Zm × Int32) : Option ((Zm × Int32) ⊕ (Zm × Int32)) := match x with
  | (M, l1) =>
  zb1 (zo_gi M p0 13 14) (fun v69 =>
  (if ((5 : Int32) * v69) ≤ l1 then
  some (.inr (M, l1))
  else
  zb1 (zo_gr M p0 13 17) (fun v71 =>
  zb1 (zo_gi M p0 13 45) (fun v72 =>
  (if ((5 : Int32) * v72) ≤ l1 then
  zf_X12_takeBack_J286 M p0 l1 (0 : Int64) l1 v71
  else
  zb1 (zo_gr M p0 13 59) (fun v76 =>
  zb1 (zo_aj M v76 l1) (fun v77 =>
  zf_X12_takeBack_J286 M p0 l1 v77 l1 v71)))))))
def zP_X12_takeBack_L251 (X : Zx) (p0 : Option Nat) (x : Zm × Int32) : Prop := match x with
  | (M, l1) => zV X zC_X12_takeBack M 251 [(0, .inr (.inr p0)), (1, .inl l1)] []
def zK_X12_takeBack_L251 (X : Zx) (p0 : Option Nat) (y : Zm × Int32) : Prop := match y with
  | (M, l1) => zV X zC_X12_takeBack M 293 [] []
noncomputable def zf_X12_takeBack (M : Zm) (l0 : Option Nat) : Option (Zm × Unit) :=
  zb1 (zo_gi M l0 13 44) (fun v1 =>
  zb1 (zo_pi M l0 13 1 v1) (fun M2 =>
  zb1 (zo_gi M2 l0 13 46) (fun v3 =>
  zb1 (zo_pi M2 l0 13 18 v3) (fun M4 =>
  zb1 (zo_gi M4 l0 13 47) (fun v5 =>
  zb1 (zo_pi M4 l0 13 19 v5) (fun M6 =>
  zb1 (zo_gi M6 l0 13 48) (fun v7 =>
  zb1 (zo_pi M6 l0 13 21 v7) (fun M8 =>
  zb1 (zwhile (zf_X12_takeBack_L34 l0) (M8, (0 : Int32))) (fun y50 => match y50 with
  | (M34_50, l1_50) =>
  zb1 (zwhile (zf_X12_takeBack_L186 l0) (M34_50, (0 : Int32))) (fun y61 => match y61 with
  | (M186_61, l1_61) =>
  zb1 (zwhile (zf_X12_takeBack_L224 l0) (M186_61, (0 : Int32))) (fun y68 => match y68 with
  | (M224_68, l1_68) =>
  zb1 (zwhile (zf_X12_takeBack_L251 l0) (M224_68, (0 : Int32))) (fun y79 => match y79 with
  | (M251_79, l1_79) =>
  some (M251_79, ())))))))))))))
set_option maxRecDepth 100000 in
theorem zt_X12_takeBack_L80 {X : Zx} {p0 : Option Nat} {p1 : Int32} {x : Zm × Int32} {y : Zm × Int32} (h : zwhile (zf_X12_takeBack_L80 p0 p1) x = some y) (hy : zK_X12_takeBack_L80 X p0 p1 y) : zP_X12_takeBack_L80 X p0 p1 x := by
  refine zwhile_ind (P := zP_X12_takeBack_L80 X p0 p1) (K := zK_X12_takeBack_L80 X p0 p1) ?_ h hy
  intro x z hf k1 k2
  obtain ⟨M, l2⟩ := x
  have h : zf_X12_takeBack_L80 p0 p1 (M, l2) = some z := hf
  unfold zf_X12_takeBack_L80 at h
  show zV X zC_X12_takeBack M 80 [(0, .inr (.inr p0)), (1, .inl p1), (2, .inl l2)] []
  refine zV_b (pc' := 82) (lv' := [(0, .inr (.inr p0)), (1, .inl p1), (2, .inl l2)]) (st' := [.inr (.inr p0), .inl l2]) [(.iload_n 2, 1), (.aload_n 0, 1)] (by decide +kernel) rfl ?_
  refine zV_gr (by decide +kernel) zfl_RX12_22 (by decide) rfl h (fun v23 _ h => ?_)
  refine zV_b (pc' := 86) (lv' := [(0, .inr (.inr p0)), (1, .inl p1), (2, .inl l2)]) (st' := [.inl p1, .inr (.inr v23), .inl l2]) [(.iload_n 1, 1)] (by decide +kernel) rfl ?_
  refine zV_ai (by decide +kernel) h (fun v24 _ h => ?_)
  refine zV_icmp_ge (off := 29) (tgt := 116) (by decide +kernel) (by decide) h (fun c25 h => ?_) (fun c25 h => ?_)
  · exact zV_lv (lv' := [(0, .inr (.inr p0)), (1, .inl p1)]) [0, 1] rfl (k2 _ (Option.some.inj h).symm)
  · refine zV_b (pc' := 91) (lv' := [(0, .inr (.inr p0)), (1, .inl p1), (2, .inl l2)]) (st' := [.inr (.inr p0)]) [(.aload_n 0, 1)] (by decide +kernel) rfl ?_
    refine zV_gr (by decide +kernel) zfl_RX12_25 (by decide) rfl h (fun v26 _ h => ?_)
    refine zV_b (pc' := 100) (lv' := [(0, .inr (.inr p0)), (1, .inl p1), (2, .inl l2)]) (st' := [.inr (.inr p0), .inl (((4 : Int32) * p1) + l2), .inr (.inr v26)]) [(.iconst 4, 1), (.iload_n 1, 1), (.imul, 1), (.iload_n 2, 1), (.iadd, 1), (.aload_n 0, 1)] (by decide +kernel) rfl ?_
    refine zV_gr (by decide +kernel) zfl_RX12_115 (by decide) rfl h (fun v27 _ h => ?_)
    refine zV_b (pc' := 108) (lv' := [(0, .inr (.inr p0)), (1, .inl p1), (2, .inl l2)]) (st' := [.inl (((4 : Int32) * p1) + l2), .inr (.inr v27), .inl (((4 : Int32) * p1) + l2), .inr (.inr v26)]) [(.iconst 4, 1), (.iload_n 1, 1), (.imul, 1), (.iload_n 2, 1), (.iadd, 1)] (by decide +kernel) rfl ?_
    refine zV_ai (by decide +kernel) h (fun v28 _ h => ?_)
    refine zV_si (by decide +kernel) h (fun M29 _ h => ?_)
    refine zV_b (pc' := 113) (lv' := [(2, .inl (l2 + 1)), (0, .inr (.inr p0)), (1, .inl p1)]) (st' := []) [(.iinc 2 1, 3)] (by decide +kernel) rfl ?_
    refine zV_goto (off := (-33)) (tgt := 80) (by decide +kernel) (by decide) ?_
    exact zV_lv (lv' := [(0, .inr (.inr p0)), (1, .inl p1), (2, .inl (l2 + 1))]) [1, 2, 0] rfl (k1 _ (Option.some.inj h).symm)
set_option maxRecDepth 100000 in
theorem zt_X12_takeBack_L133 {X : Zx} {p0 : Option Nat} {p1 : Int32} {x : Zm × Int32} {y : Zm × Int32} (h : zwhile (zf_X12_takeBack_L133 p0 p1) x = some y) (hy : zK_X12_takeBack_L133 X p0 p1 y) : zP_X12_takeBack_L133 X p0 p1 x := by
  refine zwhile_ind (P := zP_X12_takeBack_L133 X p0 p1) (K := zK_X12_takeBack_L133 X p0 p1) ?_ h hy
  intro x z hf k1 k2
  obtain ⟨M, l2⟩ := x
  have h : zf_X12_takeBack_L133 p0 p1 (M, l2) = some z := hf
  unfold zf_X12_takeBack_L133 at h
  show zV X zC_X12_takeBack M 133 [(0, .inr (.inr p0)), (1, .inl p1), (2, .inl l2)] []
  refine zV_b (pc' := 139) (lv' := [(0, .inr (.inr p0)), (1, .inl p1), (2, .inl l2)]) (st' := [.inr (.inr p0), .inl ((60 : Int32) * p1), .inl l2]) [(.iload_n 2, 1), (.bipush 60, 2), (.iload_n 1, 1), (.imul, 1), (.aload_n 0, 1)] (by decide +kernel) rfl ?_
  refine zV_gr (by decide +kernel) zfl_RX12_28 (by decide) rfl h (fun v36 _ h => ?_)
  refine zV_b (pc' := 143) (lv' := [(0, .inr (.inr p0)), (1, .inl p1), (2, .inl l2)]) (st' := [.inl p1, .inr (.inr v36), .inl ((60 : Int32) * p1), .inl l2]) [(.iload_n 1, 1)] (by decide +kernel) rfl ?_
  refine zV_ai (by decide +kernel) h (fun v37 _ h => ?_)
  refine zV_b (pc' := 145) (lv' := [(0, .inr (.inr p0)), (1, .inl p1), (2, .inl l2)]) (st' := [.inl (((60 : Int32) * p1) + v37), .inl l2]) [(.iadd, 1)] (by decide +kernel) rfl ?_
  refine zV_icmp_ge (off := 33) (tgt := 178) (by decide +kernel) (by decide) h (fun c38 h => ?_) (fun c38 h => ?_)
  · exact zV_lv (lv' := [(0, .inr (.inr p0)), (1, .inl p1)]) [0, 1] rfl (k2 _ (Option.some.inj h).symm)
  · refine zV_b (pc' := 149) (lv' := [(0, .inr (.inr p0)), (1, .inl p1), (2, .inl l2)]) (st' := [.inr (.inr p0)]) [(.aload_n 0, 1)] (by decide +kernel) rfl ?_
    refine zV_gr (by decide +kernel) zfl_RX12_32 (by decide) rfl h (fun v39 _ h => ?_)
    refine zV_b (pc' := 154) (lv' := [(0, .inr (.inr p0)), (1, .inl p1), (2, .inl l2)]) (st' := [.inr (.inr p0), .inl l2, .inr (.inr v39)]) [(.iload_n 2, 1), (.aload_n 0, 1)] (by decide +kernel) rfl ?_
    refine zV_gr (by decide +kernel) zfl_RX12_121 (by decide) rfl h (fun v40 _ h => ?_)
    refine zV_b (pc' := 158) (lv' := [(0, .inr (.inr p0)), (1, .inl p1), (2, .inl l2)]) (st' := [.inl l2, .inr (.inr v40), .inl l2, .inr (.inr v39)]) [(.iload_n 2, 1)] (by decide +kernel) rfl ?_
    refine zV_ai (by decide +kernel) h (fun v41 _ h => ?_)
    refine zV_si (by decide +kernel) h (fun M42 _ h => ?_)
    refine zV_b (pc' := 161) (lv' := [(0, .inr (.inr p0)), (1, .inl p1), (2, .inl l2)]) (st' := [.inr (.inr p0)]) [(.aload_n 0, 1)] (by decide +kernel) rfl ?_
    refine zV_gr (by decide +kernel) zfl_RX12_35 (by decide) rfl h (fun v43 _ h => ?_)
    refine zV_b (pc' := 166) (lv' := [(0, .inr (.inr p0)), (1, .inl p1), (2, .inl l2)]) (st' := [.inr (.inr p0), .inl l2, .inr (.inr v43)]) [(.iload_n 2, 1), (.aload_n 0, 1)] (by decide +kernel) rfl ?_
    refine zV_gr (by decide +kernel) zfl_RX12_124 (by decide) rfl h (fun v44 _ h => ?_)
    refine zV_b (pc' := 170) (lv' := [(0, .inr (.inr p0)), (1, .inl p1), (2, .inl l2)]) (st' := [.inl l2, .inr (.inr v44), .inl l2, .inr (.inr v43)]) [(.iload_n 2, 1)] (by decide +kernel) rfl ?_
    refine zV_aj (by decide +kernel) h (fun v45 _ h => ?_)
    refine zV_sj (by decide +kernel) h (fun M46 _ h => ?_)
    refine zV_b (pc' := 175) (lv' := [(2, .inl (l2 + 1)), (0, .inr (.inr p0)), (1, .inl p1)]) (st' := []) [(.iinc 2 1, 3)] (by decide +kernel) rfl ?_
    refine zV_goto (off := (-42)) (tgt := 133) (by decide +kernel) (by decide) ?_
    exact zV_lv (lv' := [(0, .inr (.inr p0)), (1, .inl p1), (2, .inl (l2 + 1))]) [1, 2, 0] rfl (k1 _ (Option.some.inj h).symm)
set_option maxRecDepth 100000 in
theorem zt_X12_takeBack_L34 {X : Zx} {p0 : Option Nat} {x : Zm × Int32} {y : Zm × Int32} (h : zwhile (zf_X12_takeBack_L34 p0) x = some y) (hy : zK_X12_takeBack_L34 X p0 y) : zP_X12_takeBack_L34 X p0 x := by
  refine zwhile_ind (P := zP_X12_takeBack_L34 X p0) (K := zK_X12_takeBack_L34 X p0) ?_ h hy
  intro x z hf k1 k2
  obtain ⟨M, l1⟩ := x
  have h : zf_X12_takeBack_L34 p0 (M, l1) = some z := hf
  unfold zf_X12_takeBack_L34 at h
  show zV X zC_X12_takeBack M 34 [(0, .inr (.inr p0)), (1, .inl l1)] []
  refine zV_b (pc' := 36) (lv' := [(0, .inr (.inr p0)), (1, .inl l1)]) (st' := [.inr (.inr p0), .inl l1]) [(.iload_n 1, 1), (.aload_n 0, 1)] (by decide +kernel) rfl ?_
  refine zV_gi (by decide +kernel) zfl_RX12_181 (by decide) rfl (Or.inl rfl) h (fun v9 _ h => ?_)
  refine zV_icmp_ge (off := 145) (tgt := 184) (by decide +kernel) (by decide) h (fun c10 h => ?_) (fun c10 h => ?_)
  · exact zV_lv (lv' := [(0, .inr (.inr p0))]) [0] rfl (k2 _ (Option.some.inj h).symm)
  · refine zV_b (pc' := 43) (lv' := [(0, .inr (.inr p0)), (1, .inl l1)]) (st' := [.inr (.inr p0)]) [(.aload_n 0, 1)] (by decide +kernel) rfl ?_
    refine zV_gr (by decide +kernel) zfl_RX12_16 (by decide) rfl h (fun v11 _ h => ?_)
    refine zV_b (pc' := 48) (lv' := [(0, .inr (.inr p0)), (1, .inl l1)]) (st' := [.inr (.inr p0), .inl l1, .inr (.inr v11)]) [(.iload_n 1, 1), (.aload_n 0, 1)] (by decide +kernel) rfl ?_
    refine zV_gr (by decide +kernel) zfl_RX12_106 (by decide) rfl h (fun v12 _ h => ?_)
    refine zV_b (pc' := 52) (lv' := [(0, .inr (.inr p0)), (1, .inl l1)]) (st' := [.inl l1, .inr (.inr v12), .inl l1, .inr (.inr v11)]) [(.iload_n 1, 1)] (by decide +kernel) rfl ?_
    refine zV_ai (by decide +kernel) h (fun v13 _ h => ?_)
    refine zV_si (by decide +kernel) h (fun M14 _ h => ?_)
    refine zV_b (pc' := 55) (lv' := [(0, .inr (.inr p0)), (1, .inl l1)]) (st' := [.inr (.inr p0)]) [(.aload_n 0, 1)] (by decide +kernel) rfl ?_
    refine zV_gr (by decide +kernel) zfl_RX12_19 (by decide) rfl h (fun v15 _ h => ?_)
    refine zV_b (pc' := 60) (lv' := [(0, .inr (.inr p0)), (1, .inl l1)]) (st' := [.inr (.inr p0), .inl l1, .inr (.inr v15)]) [(.iload_n 1, 1), (.aload_n 0, 1)] (by decide +kernel) rfl ?_
    refine zV_gr (by decide +kernel) zfl_RX12_109 (by decide) rfl h (fun v16 _ h => ?_)
    refine zV_b (pc' := 64) (lv' := [(0, .inr (.inr p0)), (1, .inl l1)]) (st' := [.inl l1, .inr (.inr v16), .inl l1, .inr (.inr v15)]) [(.iload_n 1, 1)] (by decide +kernel) rfl ?_
    refine zV_ai (by decide +kernel) h (fun v17 _ h => ?_)
    refine zV_si (by decide +kernel) h (fun M18 _ h => ?_)
    refine zV_b (pc' := 67) (lv' := [(0, .inr (.inr p0)), (1, .inl l1)]) (st' := [.inr (.inr p0)]) [(.aload_n 0, 1)] (by decide +kernel) rfl ?_
    refine zV_gr (by decide +kernel) zfl_RX12_22 (by decide) rfl h (fun v19 _ h => ?_)
    refine zV_b (pc' := 72) (lv' := [(0, .inr (.inr p0)), (1, .inl l1)]) (st' := [.inr (.inr p0), .inl l1, .inr (.inr v19)]) [(.iload_n 1, 1), (.aload_n 0, 1)] (by decide +kernel) rfl ?_
    refine zV_gr (by decide +kernel) zfl_RX12_112 (by decide) rfl h (fun v20 _ h => ?_)
    refine zV_b (pc' := 76) (lv' := [(0, .inr (.inr p0)), (1, .inl l1)]) (st' := [.inl l1, .inr (.inr v20), .inl l1, .inr (.inr v19)]) [(.iload_n 1, 1)] (by decide +kernel) rfl ?_
    refine zV_ai (by decide +kernel) h (fun v21 _ h => ?_)
    refine zV_si (by decide +kernel) h (fun M22 _ h => ?_)
    refine zV_b (pc' := 80) (lv' := [(2, .inl (0 : Int32)), (0, .inr (.inr p0)), (1, .inl l1)]) (st' := []) [(.iconst 0, 1), (.istore_n 2, 1)] (by decide +kernel) rfl ?_
    obtain ⟨y31, e31, h⟩ := zb1_inv h
    refine zV_lv (lv' := [(0, .inr (.inr p0)), (1, .inl l1), (2, .inl (0 : Int32))]) [1, 2, 0] rfl (zt_X12_takeBack_L80 e31 ?_)
    obtain ⟨M80_31, l2_31⟩ := y31
    show zV X zC_X12_takeBack M80_31 116 [(0, .inr (.inr p0)), (1, .inl l1)] []
    refine zV_b (pc' := 117) (lv' := [(0, .inr (.inr p0)), (1, .inl l1)]) (st' := [.inr (.inr p0)]) [(.aload_n 0, 1)] (by decide +kernel) rfl ?_
    refine zV_gr (by decide +kernel) zfl_RX12_28 (by decide) rfl h (fun v32 _ h => ?_)
    refine zV_b (pc' := 122) (lv' := [(0, .inr (.inr p0)), (1, .inl l1)]) (st' := [.inr (.inr p0), .inl l1, .inr (.inr v32)]) [(.iload_n 1, 1), (.aload_n 0, 1)] (by decide +kernel) rfl ?_
    refine zV_gr (by decide +kernel) zfl_RX12_118 (by decide) rfl h (fun v33 _ h => ?_)
    refine zV_b (pc' := 126) (lv' := [(0, .inr (.inr p0)), (1, .inl l1)]) (st' := [.inl l1, .inr (.inr v33), .inl l1, .inr (.inr v32)]) [(.iload_n 1, 1)] (by decide +kernel) rfl ?_
    refine zV_ai (by decide +kernel) h (fun v34 _ h => ?_)
    refine zV_si (by decide +kernel) h (fun M35 _ h => ?_)
    refine zV_b (pc' := 133) (lv' := [(2, .inl ((60 : Int32) * l1)), (0, .inr (.inr p0)), (1, .inl l1)]) (st' := []) [(.bipush 60, 2), (.iload_n 1, 1), (.imul, 1), (.istore_n 2, 1)] (by decide +kernel) rfl ?_
    obtain ⟨y48, e48, h⟩ := zb1_inv h
    refine zV_lv (lv' := [(0, .inr (.inr p0)), (1, .inl l1), (2, .inl ((60 : Int32) * l1))]) [1, 2, 0] rfl (zt_X12_takeBack_L133 e48 ?_)
    obtain ⟨M133_48, l2_48⟩ := y48
    show zV X zC_X12_takeBack M133_48 178 [(0, .inr (.inr p0)), (1, .inl l1)] []
    refine zV_b (pc' := 181) (lv' := [(1, .inl (l1 + 1)), (0, .inr (.inr p0))]) (st' := []) [(.iinc 1 1, 3)] (by decide +kernel) rfl ?_
    refine zV_goto (off := (-147)) (tgt := 34) (by decide +kernel) (by decide) ?_
    exact zV_lv (lv' := [(0, .inr (.inr p0)), (1, .inl (l1 + 1))]) [1, 0] rfl (k1 _ (Option.some.inj h).symm)
set_option maxRecDepth 100000 in
theorem zt_X12_takeBack_L186 {X : Zx} {p0 : Option Nat} {x : Zm × Int32} {y : Zm × Int32} (h : zwhile (zf_X12_takeBack_L186 p0) x = some y) (hy : zK_X12_takeBack_L186 X p0 y) : zP_X12_takeBack_L186 X p0 x := by
  refine zwhile_ind (P := zP_X12_takeBack_L186 X p0) (K := zK_X12_takeBack_L186 X p0) ?_ h hy
  intro x z hf k1 k2
  obtain ⟨M, l1⟩ := x
  have h : zf_X12_takeBack_L186 p0 (M, l1) = some z := hf
  unfold zf_X12_takeBack_L186 at h
  show zV X zC_X12_takeBack M 186 [(0, .inr (.inr p0)), (1, .inl l1)] []
  refine zV_b (pc' := 189) (lv' := [(0, .inr (.inr p0)), (1, .inl l1)]) (st' := [.inl (20 : Int32), .inl l1]) [(.iload_n 1, 1), (.bipush 20, 2)] (by decide +kernel) rfl ?_
  refine zV_icmp_ge (off := 33) (tgt := 222) (by decide +kernel) (by decide) h (fun c51 h => ?_) (fun c51 h => ?_)
  · exact zV_lv (lv' := [(0, .inr (.inr p0))]) [0] rfl (k2 _ (Option.some.inj h).symm)
  · refine zV_b (pc' := 193) (lv' := [(0, .inr (.inr p0)), (1, .inl l1)]) (st' := [.inr (.inr p0)]) [(.aload_n 0, 1)] (by decide +kernel) rfl ?_
    refine zV_gr (by decide +kernel) zfl_RX12_39 (by decide) rfl h (fun v52 _ h => ?_)
    refine zV_b (pc' := 198) (lv' := [(0, .inr (.inr p0)), (1, .inl l1)]) (st' := [.inr (.inr p0), .inl l1, .inr (.inr v52)]) [(.iload_n 1, 1), (.aload_n 0, 1)] (by decide +kernel) rfl ?_
    refine zV_gr (by decide +kernel) zfl_RX12_127 (by decide) rfl h (fun v53 _ h => ?_)
    refine zV_b (pc' := 202) (lv' := [(0, .inr (.inr p0)), (1, .inl l1)]) (st' := [.inl l1, .inr (.inr v53), .inl l1, .inr (.inr v52)]) [(.iload_n 1, 1)] (by decide +kernel) rfl ?_
    refine zV_ai (by decide +kernel) h (fun v54 _ h => ?_)
    refine zV_si (by decide +kernel) h (fun M55 _ h => ?_)
    refine zV_b (pc' := 205) (lv' := [(0, .inr (.inr p0)), (1, .inl l1)]) (st' := [.inr (.inr p0)]) [(.aload_n 0, 1)] (by decide +kernel) rfl ?_
    refine zV_gr (by decide +kernel) zfl_RX12_42 (by decide) rfl h (fun v56 _ h => ?_)
    refine zV_b (pc' := 210) (lv' := [(0, .inr (.inr p0)), (1, .inl l1)]) (st' := [.inr (.inr p0), .inl l1, .inr (.inr v56)]) [(.iload_n 1, 1), (.aload_n 0, 1)] (by decide +kernel) rfl ?_
    refine zV_gr (by decide +kernel) zfl_RX12_130 (by decide) rfl h (fun v57 _ h => ?_)
    refine zV_b (pc' := 214) (lv' := [(0, .inr (.inr p0)), (1, .inl l1)]) (st' := [.inl l1, .inr (.inr v57), .inl l1, .inr (.inr v56)]) [(.iload_n 1, 1)] (by decide +kernel) rfl ?_
    refine zV_ai (by decide +kernel) h (fun v58 _ h => ?_)
    refine zV_si (by decide +kernel) h (fun M59 _ h => ?_)
    refine zV_b (pc' := 219) (lv' := [(1, .inl (l1 + 1)), (0, .inr (.inr p0))]) (st' := []) [(.iinc 1 1, 3)] (by decide +kernel) rfl ?_
    refine zV_goto (off := (-33)) (tgt := 186) (by decide +kernel) (by decide) ?_
    exact zV_lv (lv' := [(0, .inr (.inr p0)), (1, .inl (l1 + 1))]) [1, 0] rfl (k1 _ (Option.some.inj h).symm)
set_option maxRecDepth 100000 in
theorem zt_X12_takeBack_L224 {X : Zx} {p0 : Option Nat} {x : Zm × Int32} {y : Zm × Int32} (h : zwhile (zf_X12_takeBack_L224 p0) x = some y) (hy : zK_X12_takeBack_L224 X p0 y) : zP_X12_takeBack_L224 X p0 x := by
  refine zwhile_ind (P := zP_X12_takeBack_L224 X p0) (K := zK_X12_takeBack_L224 X p0) ?_ h hy
  intro x z hf k1 k2
  obtain ⟨M, l1⟩ := x
  have h : zf_X12_takeBack_L224 p0 (M, l1) = some z := hf
  unfold zf_X12_takeBack_L224 at h
  show zV X zC_X12_takeBack M 224 [(0, .inr (.inr p0)), (1, .inl l1)] []
  refine zV_b (pc' := 228) (lv' := [(0, .inr (.inr p0)), (1, .inl l1)]) (st' := [.inl (1200 : Int32), .inl l1]) [(.iload_n 1, 1), (.sipush 1200, 3)] (by decide +kernel) rfl ?_
  refine zV_icmp_ge (off := 21) (tgt := 249) (by decide +kernel) (by decide) h (fun c62 h => ?_) (fun c62 h => ?_)
  · exact zV_lv (lv' := [(0, .inr (.inr p0))]) [0] rfl (k2 _ (Option.some.inj h).symm)
  · refine zV_b (pc' := 232) (lv' := [(0, .inr (.inr p0)), (1, .inl l1)]) (st' := [.inr (.inr p0)]) [(.aload_n 0, 1)] (by decide +kernel) rfl ?_
    refine zV_gr (by decide +kernel) zfl_RX12_45 (by decide) rfl h (fun v63 _ h => ?_)
    refine zV_b (pc' := 237) (lv' := [(0, .inr (.inr p0)), (1, .inl l1)]) (st' := [.inr (.inr p0), .inl l1, .inr (.inr v63)]) [(.iload_n 1, 1), (.aload_n 0, 1)] (by decide +kernel) rfl ?_
    refine zV_gr (by decide +kernel) zfl_RX12_133 (by decide) rfl h (fun v64 _ h => ?_)
    refine zV_b (pc' := 241) (lv' := [(0, .inr (.inr p0)), (1, .inl l1)]) (st' := [.inl l1, .inr (.inr v64), .inl l1, .inr (.inr v63)]) [(.iload_n 1, 1)] (by decide +kernel) rfl ?_
    refine zV_ai (by decide +kernel) h (fun v65 _ h => ?_)
    refine zV_si (by decide +kernel) h (fun M66 _ h => ?_)
    refine zV_b (pc' := 246) (lv' := [(1, .inl (l1 + 1)), (0, .inr (.inr p0))]) (st' := []) [(.iinc 1 1, 3)] (by decide +kernel) rfl ?_
    refine zV_goto (off := (-22)) (tgt := 224) (by decide +kernel) (by decide) ?_
    exact zV_lv (lv' := [(0, .inr (.inr p0)), (1, .inl (l1 + 1))]) [1, 0] rfl (k1 _ (Option.some.inj h).symm)
set_option maxRecDepth 100000 in
theorem zt_X12_takeBack_J286 {X : Zx} {M : Zm} {p0 : Option Nat} {l1 : Int32} {s0 : Int64} {s1 : Int32} {s2 : Option Nat} {z : (Zm × Int32) ⊕ (Zm × Int32)} (h : zf_X12_takeBack_J286 M p0 l1 s0 s1 s2 = some z) (k1 : ∀ x' : Zm × Int32, z = .inl x' → zP_X12_takeBack_L251 X p0 x') (k2 : ∀ y : Zm × Int32, z = .inr y → zK_X12_takeBack_L251 X p0 y) : zV X zC_X12_takeBack M 286 [(0, .inr (.inr p0)), (1, .inl l1)] [.inr (.inl s0), .inl s1, .inr (.inr s2)] := by
  unfold zf_X12_takeBack_J286 at h
  refine zV_sj (by decide +kernel) h (fun M74 _ h => ?_)
  refine zV_b (pc' := 290) (lv' := [(1, .inl (l1 + 1)), (0, .inr (.inr p0))]) (st' := []) [(.iinc 1 1, 3)] (by decide +kernel) rfl ?_
  refine zV_goto (off := (-39)) (tgt := 251) (by decide +kernel) (by decide) ?_
  exact zV_lv (lv' := [(0, .inr (.inr p0)), (1, .inl (l1 + 1))]) [1, 0] rfl (k1 _ (Option.some.inj h).symm)
set_option maxRecDepth 100000 in
theorem zt_X12_takeBack_L251 {X : Zx} {p0 : Option Nat} {x : Zm × Int32} {y : Zm × Int32} (h : zwhile (zf_X12_takeBack_L251 p0) x = some y) (hy : zK_X12_takeBack_L251 X p0 y) : zP_X12_takeBack_L251 X p0 x := by
  refine zwhile_ind (P := zP_X12_takeBack_L251 X p0) (K := zK_X12_takeBack_L251 X p0) ?_ h hy
  intro x z hf k1 k2
  obtain ⟨M, l1⟩ := x
  have h : zf_X12_takeBack_L251 p0 (M, l1) = some z := hf
  unfold zf_X12_takeBack_L251 at h
  show zV X zC_X12_takeBack M 251 [(0, .inr (.inr p0)), (1, .inl l1)] []
  refine zV_b (pc' := 254) (lv' := [(0, .inr (.inr p0)), (1, .inl l1)]) (st' := [.inr (.inr p0), .inl (5 : Int32), .inl l1]) [(.iload_n 1, 1), (.iconst 5, 1), (.aload_n 0, 1)] (by decide +kernel) rfl ?_
  refine zV_gi (by decide +kernel) zfl_RX12_199 (by decide) rfl (Or.inl rfl) h (fun v69 _ h => ?_)
  refine zV_b (pc' := 258) (lv' := [(0, .inr (.inr p0)), (1, .inl l1)]) (st' := [.inl ((5 : Int32) * v69), .inl l1]) [(.imul, 1)] (by decide +kernel) rfl ?_
  refine zV_icmp_ge (off := 35) (tgt := 293) (by decide +kernel) (by decide) h (fun c70 h => ?_) (fun c70 h => ?_)
  · exact zV_lv (lv' := []) [] rfl (k2 _ (Option.some.inj h).symm)
  · refine zV_b (pc' := 262) (lv' := [(0, .inr (.inr p0)), (1, .inl l1)]) (st' := [.inr (.inr p0)]) [(.aload_n 0, 1)] (by decide +kernel) rfl ?_
    refine zV_gr (by decide +kernel) zfl_RX12_54 (by decide) rfl h (fun v71 _ h => ?_)
    refine zV_b (pc' := 269) (lv' := [(0, .inr (.inr p0)), (1, .inl l1)]) (st' := [.inr (.inr p0), .inl (5 : Int32), .inl l1, .inl l1, .inr (.inr v71)]) [(.iload_n 1, 1), (.iload_n 1, 1), (.iconst 5, 1), (.aload_n 0, 1)] (by decide +kernel) rfl ?_
    refine zV_gi (by decide +kernel) zfl_RX12_202 (by decide) rfl (Or.inl rfl) h (fun v72 _ h => ?_)
    refine zV_b (pc' := 273) (lv' := [(0, .inr (.inr p0)), (1, .inl l1)]) (st' := [.inl ((5 : Int32) * v72), .inl l1, .inl l1, .inr (.inr v71)]) [(.imul, 1)] (by decide +kernel) rfl ?_
    refine zV_icmp_ge (off := 12) (tgt := 285) (by decide +kernel) (by decide) h (fun c73 h => ?_) (fun c73 h => ?_)
    · refine zV_b (pc' := 286) (lv' := [(0, .inr (.inr p0)), (1, .inl l1)]) (st' := [.inr (.inl (0 : Int64)), .inl l1, .inr (.inr v71)]) [(.lconst 0, 1)] (by decide +kernel) rfl ?_
      exact zV_lv (lv' := [(0, .inr (.inr p0)), (1, .inl l1)]) [0, 1] rfl (zt_X12_takeBack_J286 h k1 k2)
    · refine zV_b (pc' := 277) (lv' := [(0, .inr (.inr p0)), (1, .inl l1)]) (st' := [.inr (.inr p0), .inl l1, .inr (.inr v71)]) [(.aload_n 0, 1)] (by decide +kernel) rfl ?_
      refine zV_gr (by decide +kernel) zfl_RX12_136 (by decide) rfl h (fun v76 _ h => ?_)
      refine zV_b (pc' := 281) (lv' := [(0, .inr (.inr p0)), (1, .inl l1)]) (st' := [.inl l1, .inr (.inr v76), .inl l1, .inr (.inr v71)]) [(.iload_n 1, 1)] (by decide +kernel) rfl ?_
      refine zV_aj (by decide +kernel) h (fun v77 _ h => ?_)
      refine zV_goto (off := 4) (tgt := 286) (by decide +kernel) (by decide) ?_
      exact zV_lv (lv' := [(0, .inr (.inr p0)), (1, .inl l1)]) [0, 1] rfl (zt_X12_takeBack_J286 h k1 k2)
set_option maxRecDepth 100000 in
theorem zt_X12_takeBack {X : Zx} {M : Zm} {l0 : Option Nat} {z : Zm × Unit} (h : zf_X12_takeBack M l0 = some z) (hR : zRv X zC_X12_takeBack z.1) : zV X zC_X12_takeBack M 0 [(0, .inr (.inr l0))] [] := by
  unfold zf_X12_takeBack at h
  refine zV_b (pc' := 2) (lv' := [(0, .inr (.inr l0))]) (st' := [.inr (.inr l0), .inr (.inr l0)]) [(.aload_n 0, 1), (.aload_n 0, 1)] (by decide +kernel) rfl ?_
  refine zV_gi (by decide +kernel) zfl_RX12_196 (by decide) rfl (Or.inl rfl) h (fun v1 _ h => ?_)
  refine zV_pi (by decide +kernel) zfp_RX12_181 (by decide) rfl h (fun M2 _ h => ?_)
  refine zV_b (pc' := 10) (lv' := [(0, .inr (.inr l0))]) (st' := [.inr (.inr l0), .inr (.inr l0)]) [(.aload_n 0, 1), (.aload_n 0, 1)] (by decide +kernel) rfl ?_
  refine zV_gi (by decide +kernel) zfl_RX12_208 (by decide) rfl (Or.inl rfl) h (fun v3 _ h => ?_)
  refine zV_pi (by decide +kernel) zfp_RX12_205 (by decide) rfl h (fun M4 _ h => ?_)
  refine zV_b (pc' := 18) (lv' := [(0, .inr (.inr l0))]) (st' := [.inr (.inr l0), .inr (.inr l0)]) [(.aload_n 0, 1), (.aload_n 0, 1)] (by decide +kernel) rfl ?_
  refine zV_gi (by decide +kernel) zfl_RX12_211 (by decide) rfl (Or.inl rfl) h (fun v5 _ h => ?_)
  refine zV_pi (by decide +kernel) zfp_RX12_189 (by decide) rfl h (fun M6 _ h => ?_)
  refine zV_b (pc' := 26) (lv' := [(0, .inr (.inr l0))]) (st' := [.inr (.inr l0), .inr (.inr l0)]) [(.aload_n 0, 1), (.aload_n 0, 1)] (by decide +kernel) rfl ?_
  refine zV_gi (by decide +kernel) zfl_RX12_217 (by decide) rfl (Or.inl rfl) h (fun v7 _ h => ?_)
  refine zV_pi (by decide +kernel) zfp_RX12_214 (by decide) rfl h (fun M8 _ h => ?_)
  refine zV_b (pc' := 34) (lv' := [(1, .inl (0 : Int32)), (0, .inr (.inr l0))]) (st' := []) [(.iconst 0, 1), (.istore_n 1, 1)] (by decide +kernel) rfl ?_
  obtain ⟨y50, e50, h⟩ := zb1_inv h
  refine zV_lv (lv' := [(0, .inr (.inr l0)), (1, .inl (0 : Int32))]) [1, 0] rfl (zt_X12_takeBack_L34 e50 ?_)
  obtain ⟨M34_50, l1_50⟩ := y50
  show zV X zC_X12_takeBack M34_50 184 [(0, .inr (.inr l0))] []
  refine zV_b (pc' := 186) (lv' := [(1, .inl (0 : Int32)), (0, .inr (.inr l0))]) (st' := []) [(.iconst 0, 1), (.istore_n 1, 1)] (by decide +kernel) rfl ?_
  obtain ⟨y61, e61, h⟩ := zb1_inv h
  refine zV_lv (lv' := [(0, .inr (.inr l0)), (1, .inl (0 : Int32))]) [1, 0] rfl (zt_X12_takeBack_L186 e61 ?_)
  obtain ⟨M186_61, l1_61⟩ := y61
  show zV X zC_X12_takeBack M186_61 222 [(0, .inr (.inr l0))] []
  refine zV_b (pc' := 224) (lv' := [(1, .inl (0 : Int32)), (0, .inr (.inr l0))]) (st' := []) [(.iconst 0, 1), (.istore_n 1, 1)] (by decide +kernel) rfl ?_
  obtain ⟨y68, e68, h⟩ := zb1_inv h
  refine zV_lv (lv' := [(0, .inr (.inr l0)), (1, .inl (0 : Int32))]) [1, 0] rfl (zt_X12_takeBack_L224 e68 ?_)
  obtain ⟨M224_68, l1_68⟩ := y68
  show zV X zC_X12_takeBack M224_68 249 [(0, .inr (.inr l0))] []
  refine zV_b (pc' := 251) (lv' := [(1, .inl (0 : Int32)), (0, .inr (.inr l0))]) (st' := []) [(.iconst 0, 1), (.istore_n 1, 1)] (by decide +kernel) rfl ?_
  obtain ⟨y79, e79, h⟩ := zb1_inv h
  refine zV_lv (lv' := [(0, .inr (.inr l0)), (1, .inl (0 : Int32))]) [1, 0] rfl (zt_X12_takeBack_L251 e79 ?_)
  obtain ⟨M251_79, l1_79⟩ := y79
  show zV X zC_X12_takeBack M251_79 293 [] []
  exact zend_v h hR (by decide +kernel)
theorem zc_X12_takeBack {M M' : Zm} {l0 : Option Nat} {x : Unit} (h : zf_X12_takeBack M l0 = some (M', x)) (l : Launch) (D : va_G) (cy : Nat → ClassId) : zMet l yX12_takeBack zC_X12_takeBack none D cy [.inr (.inr l0)] M M' none :=
  zM_v (by decide) rfl (fun h => by cases h) (Nat.le_of_ble_eq_true rfl) (fun X hR => zt_X12_takeBack h hR)
