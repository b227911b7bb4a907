/-! What the bytecode does, as functions of the memory, and the walks (written by wip/gen.py). -/
-- BlendCellarModel.holds(I)I
def zC_X12_holds (d : Nat) : Zc := (cX12_holds, 5, RX12, 0 + d, 0 + d * 24, false)
theorem zcl_X12_holds {d : Nat} {C : Zc} (h1 : (zC_X12_holds d).2.2.2.1 + 1 ≤ C.2.2.2.1) (h2 : 8 + ((zC_X12_holds d).2.1 + 11) + (zC_X12_holds d).2.2.2.2.1 ≤ C.2.2.2.2.1) : zCl C yX12_holds (zC_X12_holds d) (some .int) 1 := ⟨zw_1921, zw_114, ⟨by decide, by decide⟩, by decide +kernel, h1, h2⟩
noncomputable def zf_X12_holds_J246 (rec : Zm → Option Nat → Int32 → Option (Zm × Int32)) (M : Zm) (l4 : Int32) : Option (Zm × Int32) :=
  (if l4 = 0 then
  some (M, (0 : Int32))
  else
  some (M, (1 : Int32)))
noncomputable def zf_X12_holds_J125 (rec : Zm → Option Nat → Int32 → Option (Zm × Int32)) (M : Zm) (s0 : Int32) : Option (Zm × Int32) :=
  zf_X12_holds_J246 rec M s0
noncomputable def zf_X12_holds_J173 (rec : Zm → Option Nat → Int32 → Option (Zm × Int32)) (M : Zm) (s0 : Int32) : Option (Zm × Int32) :=
  zf_X12_holds_J246 rec M s0
noncomputable def zf_X12_holds_J202 (rec : Zm → Option Nat → Int32 → Option (Zm × Int32)) (M : Zm) (s0 : Int32) : Option (Zm × Int32) :=
  zf_X12_holds_J246 rec M s0
noncomputable def zf_X12_holds_J228 (rec : Zm → Option Nat → Int32 → Option (Zm × Int32)) (M : Zm) (s0 : Int32) : Option (Zm × Int32) :=
  zf_X12_holds_J246 rec M s0
noncomputable def zf_X12_holds_J244 (rec : Zm → Option Nat → Int32 → Option (Zm × Int32)) (M : Zm) (s0 : Int32) : Option (Zm × Int32) :=
  zf_X12_holds_J246 rec M s0
noncomputable def zf_X12_holds_J86 (rec : Zm → Option Nat → Int32 → Option (Zm × Int32)) (M : Zm) (l0 : Option Nat) (l1 : Int32) (l2 : Int64) : Option (Zm × Int32) :=
  zb1 (zo_gr M l0 13 27) (fun v23 =>
  zb1 (zo_ai M v23 l1) (fun v24 =>
  (if v24 = (1 : Int32) then
  zb1 (zo_gj M l0 13 67) (fun v27 =>
  zb1 (zo_ld (l2 * (100 : Int64)) v27) (fun v28 =>
  zb1 (zo_gr M l0 13 30) (fun v29 =>
  zb1 (zo_ai M v29 l1) (fun v30 =>
  (if v28 < (v30.toInt64) then
  zf_X12_holds_J125 rec M (0 : Int32)
  else
  zf_X12_holds_J125 rec M (1 : Int32))))))
  else
  zb1 (zo_gr M l0 13 27) (fun v38 =>
  zb1 (zo_ai M v38 l1) (fun v39 =>
  (if v39 = (2 : Int32) then
  zb1 (zo_gj M l0 13 67) (fun v42 =>
  zb1 (zo_gj M l0 13 67) (fun v43 =>
  zb1 (zo_ld (((l2 * (100 : Int64)) + v42) - (1 : Int64)) v43) (fun v44 =>
  zb1 (zo_gr M l0 13 30) (fun v45 =>
  zb1 (zo_ai M v45 l1) (fun v46 =>
  (if (v46.toInt64) < v44 then
  zf_X12_holds_J173 rec M (0 : Int32)
  else
  zf_X12_holds_J173 rec M (1 : Int32)))))))
  else
  zb1 (zo_gr M l0 13 27) (fun v50 =>
  zb1 (zo_ai M v50 l1) (fun v51 =>
  (if v51 = (3 : Int32) then
  zb1 (zo_gj M l0 13 67) (fun v53 =>
  (if l2 = v53 then
  zf_X12_holds_J202 rec M (1 : Int32)
  else
  zf_X12_holds_J202 rec M (0 : Int32)))
  else
  zb1 (zo_gr M l0 13 27) (fun v57 =>
  zb1 (zo_ai M v57 l1) (fun v58 =>
  (if v58 = (4 : Int32) then
  (if l2 ≤ (0 : Int64) then
  zf_X12_holds_J228 rec M (0 : Int32)
  else
  zf_X12_holds_J228 rec M (1 : Int32))
  else
  (if l2 = (0 : Int64) then
  zf_X12_holds_J244 rec M (1 : Int32)
  else
  zf_X12_holds_J244 rec M (0 : Int32))))))))))))))
noncomputable def zf_X12_holdsbody (rec : Zm → Option Nat → Int32 → Option (Zm × Int32)) (M : Zm) (l0 : Option Nat) (l1 : Int32) : Option (Zm × Int32) :=
  zb1 (zo_gr M l0 13 27) (fun v1 =>
  zb1 (zo_ai M v1 l1) (fun v2 =>
  (if v2 = (6 : Int32) then
  zb1 (zo_gr M l0 13 31) (fun v4 =>
  zb1 (zo_ai M v4 l1) (fun v5 =>
  zb1 (zo_rc M l0 13) (fun _ => zbd (rec M l0 v5) (fun M6 v6 =>
  (if v6 = 0 then
  zb1 (zo_gr M6 l0 13 32) (fun v8 =>
  zb1 (zo_ai M6 v8 l1) (fun v9 =>
  zb1 (zo_rc M6 l0 13) (fun _ => zbd (rec M6 l0 v9) (fun M10 v10 =>
  some (M10, v10)))))
  else
  some (M6, v6))))))
  else
  zb1 (zo_gr M l0 13 68) (fun v14 =>
  zb1 (zo_gr M l0 13 28) (fun v15 =>
  zb1 (zo_ai M v15 l1) (fun v16 =>
  zb1 (zo_gr M l0 13 29) (fun v17 =>
  zb1 (zo_ai M v17 l1) (fun v18 =>
  zb1 (zo_aj M v14 (((16 : Int32) * (v16 - (1 : Int32))) + v18)) (fun v19 =>
  zb1 (zo_gr M l0 13 27) (fun v20 =>
  zb1 (zo_ai M v20 l1) (fun v21 =>
  (if (2 : Int32) < v21 then
  zf_X12_holds_J86 rec M l0 l1 v19
  else
  zb1 (zo_gj M l0 13 67) (fun v65 =>
  (if v65 = (0 : Int64) then
  some (M, (-1 : Int32))
  else
  zf_X12_holds_J86 rec M l0 l1 v19))))))))))))))
set_option maxRecDepth 100000 in
theorem zt_X12_holds_J246 {X : Zx} {d : Nat} {rec : Zm → Option Nat → Int32 → Option (Zm × Int32)} (hrec : ∀ {M M' : Zm} {l0 : Option Nat} {l1 : Int32} {x : Int32}, rec M l0 l1 = some (M', x) → ∀ (l : Launch) (D : va_G) (cy : Nat → ClassId), zMet l yX12_holds (zC_X12_holds d) (some .int) D cy [.inr (.inr l0), .inl l1] M M' (some (.inl x))) {M : Zm} {l4 : Int32} {z : Zm × Int32} (h : zf_X12_holds_J246 rec M l4 = some z) (hR : zRi X (zC_X12_holds (d + 1)) z.1 z.2) : zV X (zC_X12_holds (d + 1)) M 246 [(4, .inl l4)] [] := by
  unfold zf_X12_holds_J246 at h
  refine zV_b (pc' := 248) (lv' := [(4, .inl l4)]) (st' := [.inl l4]) [(.iload 4, 2)] (show zdec cX12_holds [(.iload 4, 2)] 246 = true by decide +kernel) rfl ?_
  refine zV_if_eq (off := 7) (tgt := 255) (show decode cX12_holds 248 = .ok (.ifCond .eq 7, 3) by decide +kernel) (by decide) h (fun c33 h => ?_) (fun c33 h => ?_)
  · refine zV_b (pc' := 256) (lv' := [(4, .inl l4)]) (st' := [.inl (0 : Int32)]) [(.iconst 0, 1)] (show zdec cX12_holds [(.iconst 0, 1)] 255 = true by decide +kernel) rfl ?_
    exact zend_i h hR (show decode cX12_holds 256 = .ok (.ireturn, 1) by decide +kernel)
  · refine zV_b (pc' := 252) (lv' := [(4, .inl l4)]) (st' := [.inl (1 : Int32)]) [(.iconst 1, 1)] (show zdec cX12_holds [(.iconst 1, 1)] 251 = true by decide +kernel) rfl ?_
    refine zV_goto (off := 4) (tgt := 256) (show decode cX12_holds 252 = .ok (.goto 4, 3) by decide +kernel) (by decide) ?_
    exact zend_i h hR (show decode cX12_holds 256 = .ok (.ireturn, 1) by decide +kernel)
set_option maxRecDepth 100000 in
theorem zt_X12_holds_J125 {X : Zx} {d : Nat} {rec : Zm → Option Nat → Int32 → Option (Zm × Int32)} (hrec : ∀ {M M' : Zm} {l0 : Option Nat} {l1 : Int32} {x : Int32}, rec M l0 l1 = some (M', x) → ∀ (l : Launch) (D : va_G) (cy : Nat → ClassId), zMet l yX12_holds (zC_X12_holds d) (some .int) D cy [.inr (.inr l0), .inl l1] M M' (some (.inl x))) {M : Zm} {s0 : Int32} {z : Zm × Int32} (h : zf_X12_holds_J125 rec M s0 = some z) (hR : zRi X (zC_X12_holds (d + 1)) z.1 z.2) : zV X (zC_X12_holds (d + 1)) M 125 [] [.inl s0] := by
  unfold zf_X12_holds_J125 at h
  refine zV_b (pc' := 127) (lv' := [(4, .inl s0)]) (st' := []) [(.istore 4, 2)] (show zdec cX12_holds [(.istore 4, 2)] 125 = true by decide +kernel) rfl ?_
  refine zV_goto (off := 119) (tgt := 246) (show decode cX12_holds 127 = .ok (.goto 119, 3) by decide +kernel) (by decide) ?_
  exact zV_lv (lv' := [(4, .inl s0)]) [0] rfl (zt_X12_holds_J246 hrec h hR)
set_option maxRecDepth 100000 in
theorem zt_X12_holds_J173 {X : Zx} {d : Nat} {rec : Zm → Option Nat → Int32 → Option (Zm × Int32)} (hrec : ∀ {M M' : Zm} {l0 : Option Nat} {l1 : Int32} {x : Int32}, rec M l0 l1 = some (M', x) → ∀ (l : Launch) (D : va_G) (cy : Nat → ClassId), zMet l yX12_holds (zC_X12_holds d) (some .int) D cy [.inr (.inr l0), .inl l1] M M' (some (.inl x))) {M : Zm} {s0 : Int32} {z : Zm × Int32} (h : zf_X12_holds_J173 rec M s0 = some z) (hR : zRi X (zC_X12_holds (d + 1)) z.1 z.2) : zV X (zC_X12_holds (d + 1)) M 173 [] [.inl s0] := by
  unfold zf_X12_holds_J173 at h
  refine zV_b (pc' := 175) (lv' := [(4, .inl s0)]) (st' := []) [(.istore 4, 2)] (show zdec cX12_holds [(.istore 4, 2)] 173 = true by decide +kernel) rfl ?_
  refine zV_goto (off := 71) (tgt := 246) (show decode cX12_holds 175 = .ok (.goto 71, 3) by decide +kernel) (by decide) ?_
  exact zV_lv (lv' := [(4, .inl s0)]) [0] rfl (zt_X12_holds_J246 hrec h hR)
set_option maxRecDepth 100000 in
theorem zt_X12_holds_J202 {X : Zx} {d : Nat} {rec : Zm → Option Nat → Int32 → Option (Zm × Int32)} (hrec : ∀ {M M' : Zm} {l0 : Option Nat} {l1 : Int32} {x : Int32}, rec M l0 l1 = some (M', x) → ∀ (l : Launch) (D : va_G) (cy : Nat → ClassId), zMet l yX12_holds (zC_X12_holds d) (some .int) D cy [.inr (.inr l0), .inl l1] M M' (some (.inl x))) {M : Zm} {s0 : Int32} {z : Zm × Int32} (h : zf_X12_holds_J202 rec M s0 = some z) (hR : zRi X (zC_X12_holds (d + 1)) z.1 z.2) : zV X (zC_X12_holds (d + 1)) M 202 [] [.inl s0] := by
  unfold zf_X12_holds_J202 at h
  refine zV_b (pc' := 204) (lv' := [(4, .inl s0)]) (st' := []) [(.istore 4, 2)] (show zdec cX12_holds [(.istore 4, 2)] 202 = true by decide +kernel) rfl ?_
  refine zV_goto (off := 42) (tgt := 246) (show decode cX12_holds 204 = .ok (.goto 42, 3) by decide +kernel) (by decide) ?_
  exact zV_lv (lv' := [(4, .inl s0)]) [0] rfl (zt_X12_holds_J246 hrec h hR)
set_option maxRecDepth 100000 in
theorem zt_X12_holds_J228 {X : Zx} {d : Nat} {rec : Zm → Option Nat → Int32 → Option (Zm × Int32)} (hrec : ∀ {M M' : Zm} {l0 : Option Nat} {l1 : Int32} {x : Int32}, rec M l0 l1 = some (M', x) → ∀ (l : Launch) (D : va_G) (cy : Nat → ClassId), zMet l yX12_holds (zC_X12_holds d) (some .int) D cy [.inr (.inr l0), .inl l1] M M' (some (.inl x))) {M : Zm} {s0 : Int32} {z : Zm × Int32} (h : zf_X12_holds_J228 rec M s0 = some z) (hR : zRi X (zC_X12_holds (d + 1)) z.1 z.2) : zV X (zC_X12_holds (d + 1)) M 228 [] [.inl s0] := by
  unfold zf_X12_holds_J228 at h
  refine zV_b (pc' := 230) (lv' := [(4, .inl s0)]) (st' := []) [(.istore 4, 2)] (show zdec cX12_holds [(.istore 4, 2)] 228 = true by decide +kernel) rfl ?_
  refine zV_goto (off := 16) (tgt := 246) (show decode cX12_holds 230 = .ok (.goto 16, 3) by decide +kernel) (by decide) ?_
  exact zV_lv (lv' := [(4, .inl s0)]) [0] rfl (zt_X12_holds_J246 hrec h hR)
set_option maxRecDepth 100000 in
theorem zt_X12_holds_J244 {X : Zx} {d : Nat} {rec : Zm → Option Nat → Int32 → Option (Zm × Int32)} (hrec : ∀ {M M' : Zm} {l0 : Option Nat} {l1 : Int32} {x : Int32}, rec M l0 l1 = some (M', x) → ∀ (l : Launch) (D : va_G) (cy : Nat → ClassId), zMet l yX12_holds (zC_X12_holds d) (some .int) D cy [.inr (.inr l0), .inl l1] M M' (some (.inl x))) {M : Zm} {s0 : Int32} {z : Zm × Int32} (h : zf_X12_holds_J244 rec M s0 = some z) (hR : zRi X (zC_X12_holds (d + 1)) z.1 z.2) : zV X (zC_X12_holds (d + 1)) M 244 [] [.inl s0] := by
  unfold zf_X12_holds_J244 at h
  refine zV_b (pc' := 246) (lv' := [(4, .inl s0)]) (st' := []) [(.istore 4, 2)] (show zdec cX12_holds [(.istore 4, 2)] 244 = true by decide +kernel) rfl ?_
  exact zV_lv (lv' := [(4, .inl s0)]) [0] rfl (zt_X12_holds_J246 hrec h hR)
set_option maxRecDepth 100000 in
theorem zt_X12_holds_J86 {X : Zx} {d : Nat} {rec : Zm → Option Nat → Int32 → Option (Zm × Int32)} (hrec : ∀ {M M' : Zm} {l0 : Option Nat} {l1 : Int32} {x : Int32}, rec M l0 l1 = some (M', x) → ∀ (l : Launch) (D : va_G) (cy : Nat → ClassId), zMet l yX12_holds (zC_X12_holds d) (some .int) D cy [.inr (.inr l0), .inl l1] M M' (some (.inl x))) {M : Zm} {l0 : Option Nat} {l1 : Int32} {l2 : Int64} {z : Zm × Int32} (h : zf_X12_holds_J86 rec M l0 l1 l2 = some z) (hR : zRi X (zC_X12_holds (d + 1)) z.1 z.2) : zV X (zC_X12_holds (d + 1)) M 86 [(0, .inr (.inr l0)), (1, .inl l1), (2, .inr (.inl l2))] [] := by
  unfold zf_X12_holds_J86 at h
  refine zV_b (pc' := 90) (lv' := [(4, .inl (0 : Int32)), (0, .inr (.inr l0)), (1, .inl l1), (2, .inr (.inl l2))]) (st' := [.inr (.inr l0)]) [(.iconst 0, 1), (.istore 4, 2), (.aload_n 0, 1)] (show zdec cX12_holds [(.iconst 0, 1), (.istore 4, 2), (.aload_n 0, 1)] 86 = true by decide +kernel) rfl ?_
  refine zV_gr (show decode cX12_holds 90 = .ok (.getfield 72, 3) by decide +kernel) zfl_RX12_72 (by decide) rfl h (fun v23 _ h => ?_)
  refine zV_b (pc' := 94) (lv' := [(4, .inl (0 : Int32)), (0, .inr (.inr l0)), (1, .inl l1), (2, .inr (.inl l2))]) (st' := [.inl l1, .inr (.inr v23)]) [(.iload_n 1, 1)] (show zdec cX12_holds [(.iload_n 1, 1)] 93 = true by decide +kernel) rfl ?_
  refine zV_ai (show decode cX12_holds 94 = .ok (.iaload, 1) by decide +kernel) h (fun v24 _ h => ?_)
  refine zV_b (pc' := 96) (lv' := [(4, .inl (0 : Int32)), (0, .inr (.inr l0)), (1, .inl l1), (2, .inr (.inl l2))]) (st' := [.inl (1 : Int32), .inl v24]) [(.iconst 1, 1)] (show zdec cX12_holds [(.iconst 1, 1)] 95 = true by decide +kernel) rfl ?_
  refine zV_icmp_ne (off := 34) (tgt := 130) (show decode cX12_holds 96 = .ok (.if_icmp .ne 34, 3) by decide +kernel) (by decide) h (fun c25 h => ?_) (fun c25 h => ?_)
  · refine zV_b (pc' := 100) (lv' := [(4, .inl (0 : Int32)), (0, .inr (.inr l0)), (1, .inl l1), (2, .inr (.inl l2))]) (st' := [.inr (.inl l2)]) [(.lload_n 2, 1)] (show zdec cX12_holds [(.lload_n 2, 1)] 99 = true by decide +kernel) rfl ?_
    refine zV_ldc2 (show decode cX12_holds 100 = .ok (.ldc2_w 371, 3) by decide +kernel) zw_1922 ?_
    refine zV_b (pc' := 105) (lv' := [(4, .inl (0 : Int32)), (0, .inr (.inr l0)), (1, .inl l1), (2, .inr (.inl l2))]) (st' := [.inr (.inr l0), .inr (.inl (l2 * (100 : Int64)))]) [(.lmul, 1), (.aload_n 0, 1)] (show zdec cX12_holds [(.lmul, 1), (.aload_n 0, 1)] 103 = true by decide +kernel) rfl ?_
    refine zV_gj (show decode cX12_holds 105 = .ok (.getfield 367, 3) by decide +kernel) zfl_RX12_367 (by decide) rfl h (fun v27 _ h => ?_)
    refine zV_ld (show decode cX12_holds 108 = .ok (.ldiv, 1) by decide +kernel) h (fun v28 _ h => ?_)
    refine zV_b (pc' := 110) (lv' := [(4, .inl (0 : Int32)), (0, .inr (.inr l0)), (1, .inl l1), (2, .inr (.inl l2))]) (st' := [.inr (.inr l0), .inr (.inl v28)]) [(.aload_n 0, 1)] (show zdec cX12_holds [(.aload_n 0, 1)] 109 = true by decide +kernel) rfl ?_
    refine zV_gr (show decode cX12_holds 110 = .ok (.getfield 81, 3) by decide +kernel) zfl_RX12_81 (by decide) rfl h (fun v29 _ h => ?_)
    refine zV_b (pc' := 114) (lv' := [(4, .inl (0 : Int32)), (0, .inr (.inr l0)), (1, .inl l1), (2, .inr (.inl l2))]) (st' := [.inl l1, .inr (.inr v29), .inr (.inl v28)]) [(.iload_n 1, 1)] (show zdec cX12_holds [(.iload_n 1, 1)] 113 = true by decide +kernel) rfl ?_
    refine zV_ai (show decode cX12_holds 114 = .ok (.iaload, 1) by decide +kernel) h (fun v30 _ h => ?_)
    refine zV_b (pc' := 116) (lv' := [(4, .inl (0 : Int32)), (0, .inr (.inr l0)), (1, .inl l1), (2, .inr (.inl l2))]) (st' := [.inr (.inl (v30.toInt64)), .inr (.inl v28)]) [(.i2l, 1)] (show zdec cX12_holds [(.i2l, 1)] 115 = true by decide +kernel) rfl ?_
    refine zV_lcmp_lt (off := 7) (tgt := 124) (show decode cX12_holds 116 = .ok (.lcmp, 1) by decide +kernel) (show decode cX12_holds 117 = .ok (.ifCond .lt 7, 3) by decide +kernel) (by decide) h (fun c31 h => ?_) (fun c31 h => ?_)
    · refine zV_b (pc' := 125) (lv' := [(4, .inl (0 : Int32)), (0, .inr (.inr l0)), (1, .inl l1), (2, .inr (.inl l2))]) (st' := [.inl (0 : Int32)]) [(.iconst 0, 1)] (show zdec cX12_holds [(.iconst 0, 1)] 124 = true by decide +kernel) rfl ?_
      exact zV_lv (lv' := []) [] rfl (zt_X12_holds_J125 hrec h hR)
    · refine zV_b (pc' := 121) (lv' := [(4, .inl (0 : Int32)), (0, .inr (.inr l0)), (1, .inl l1), (2, .inr (.inl l2))]) (st' := [.inl (1 : Int32)]) [(.iconst 1, 1)] (show zdec cX12_holds [(.iconst 1, 1)] 120 = true by decide +kernel) rfl ?_
      refine zV_goto (off := 4) (tgt := 125) (show decode cX12_holds 121 = .ok (.goto 4, 3) by decide +kernel) (by decide) ?_
      exact zV_lv (lv' := []) [] rfl (zt_X12_holds_J125 hrec h hR)
  · refine zV_b (pc' := 131) (lv' := [(4, .inl (0 : Int32)), (0, .inr (.inr l0)), (1, .inl l1), (2, .inr (.inl l2))]) (st' := [.inr (.inr l0)]) [(.aload_n 0, 1)] (show zdec cX12_holds [(.aload_n 0, 1)] 130 = true by decide +kernel) rfl ?_
    refine zV_gr (show decode cX12_holds 131 = .ok (.getfield 72, 3) by decide +kernel) zfl_RX12_72 (by decide) rfl h (fun v38 _ h => ?_)
    refine zV_b (pc' := 135) (lv' := [(4, .inl (0 : Int32)), (0, .inr (.inr l0)), (1, .inl l1), (2, .inr (.inl l2))]) (st' := [.inl l1, .inr (.inr v38)]) [(.iload_n 1, 1)] (show zdec cX12_holds [(.iload_n 1, 1)] 134 = true by decide +kernel) rfl ?_
    refine zV_ai (show decode cX12_holds 135 = .ok (.iaload, 1) by decide +kernel) h (fun v39 _ h => ?_)
    refine zV_b (pc' := 137) (lv' := [(4, .inl (0 : Int32)), (0, .inr (.inr l0)), (1, .inl l1), (2, .inr (.inl l2))]) (st' := [.inl (2 : Int32), .inl v39]) [(.iconst 2, 1)] (show zdec cX12_holds [(.iconst 2, 1)] 136 = true by decide +kernel) rfl ?_
    refine zV_icmp_ne (off := 41) (tgt := 178) (show decode cX12_holds 137 = .ok (.if_icmp .ne 41, 3) by decide +kernel) (by decide) h (fun c40 h => ?_) (fun c40 h => ?_)
    · refine zV_b (pc' := 141) (lv' := [(4, .inl (0 : Int32)), (0, .inr (.inr l0)), (1, .inl l1), (2, .inr (.inl l2))]) (st' := [.inr (.inl l2)]) [(.lload_n 2, 1)] (show zdec cX12_holds [(.lload_n 2, 1)] 140 = true by decide +kernel) rfl ?_
      refine zV_ldc2 (show decode cX12_holds 141 = .ok (.ldc2_w 371, 3) by decide +kernel) zw_1922 ?_
      refine zV_b (pc' := 146) (lv' := [(4, .inl (0 : Int32)), (0, .inr (.inr l0)), (1, .inl l1), (2, .inr (.inl l2))]) (st' := [.inr (.inr l0), .inr (.inl (l2 * (100 : Int64)))]) [(.lmul, 1), (.aload_n 0, 1)] (show zdec cX12_holds [(.lmul, 1), (.aload_n 0, 1)] 144 = true by decide +kernel) rfl ?_
      refine zV_gj (show decode cX12_holds 146 = .ok (.getfield 367, 3) by decide +kernel) zfl_RX12_367 (by decide) rfl h (fun v42 _ h => ?_)
      refine zV_b (pc' := 153) (lv' := [(4, .inl (0 : Int32)), (0, .inr (.inr l0)), (1, .inl l1), (2, .inr (.inl l2))]) (st' := [.inr (.inr l0), .inr (.inl (((l2 * (100 : Int64)) + v42) - (1 : Int64)))]) [(.ladd, 1), (.lconst 1, 1), (.lsub, 1), (.aload_n 0, 1)] (show zdec cX12_holds [(.ladd, 1), (.lconst 1, 1), (.lsub, 1), (.aload_n 0, 1)] 149 = true by decide +kernel) rfl ?_
      refine zV_gj (show decode cX12_holds 153 = .ok (.getfield 367, 3) by decide +kernel) zfl_RX12_367 (by decide) rfl h (fun v43 _ h => ?_)
      refine zV_ld (show decode cX12_holds 156 = .ok (.ldiv, 1) by decide +kernel) h (fun v44 _ h => ?_)
      refine zV_b (pc' := 158) (lv' := [(4, .inl (0 : Int32)), (0, .inr (.inr l0)), (1, .inl l1), (2, .inr (.inl l2))]) (st' := [.inr (.inr l0), .inr (.inl v44)]) [(.aload_n 0, 1)] (show zdec cX12_holds [(.aload_n 0, 1)] 157 = true by decide +kernel) rfl ?_
      refine zV_gr (show decode cX12_holds 158 = .ok (.getfield 81, 3) by decide +kernel) zfl_RX12_81 (by decide) rfl h (fun v45 _ h => ?_)
      refine zV_b (pc' := 162) (lv' := [(4, .inl (0 : Int32)), (0, .inr (.inr l0)), (1, .inl l1), (2, .inr (.inl l2))]) (st' := [.inl l1, .inr (.inr v45), .inr (.inl v44)]) [(.iload_n 1, 1)] (show zdec cX12_holds [(.iload_n 1, 1)] 161 = true by decide +kernel) rfl ?_
      refine zV_ai (show decode cX12_holds 162 = .ok (.iaload, 1) by decide +kernel) h (fun v46 _ h => ?_)
      refine zV_b (pc' := 164) (lv' := [(4, .inl (0 : Int32)), (0, .inr (.inr l0)), (1, .inl l1), (2, .inr (.inl l2))]) (st' := [.inr (.inl (v46.toInt64)), .inr (.inl v44)]) [(.i2l, 1)] (show zdec cX12_holds [(.i2l, 1)] 163 = true by decide +kernel) rfl ?_
      refine zV_lcmp_gt (off := 7) (tgt := 172) (show decode cX12_holds 164 = .ok (.lcmp, 1) by decide +kernel) (show decode cX12_holds 165 = .ok (.ifCond .gt 7, 3) by decide +kernel) (by decide) h (fun c47 h => ?_) (fun c47 h => ?_)
      · refine zV_b (pc' := 173) (lv' := [(4, .inl (0 : Int32)), (0, .inr (.inr l0)), (1, .inl l1), (2, .inr (.inl l2))]) (st' := [.inl (0 : Int32)]) [(.iconst 0, 1)] (show zdec cX12_holds [(.iconst 0, 1)] 172 = true by decide +kernel) rfl ?_
        exact zV_lv (lv' := []) [] rfl (zt_X12_holds_J173 hrec h hR)
      · refine zV_b (pc' := 169) (lv' := [(4, .inl (0 : Int32)), (0, .inr (.inr l0)), (1, .inl l1), (2, .inr (.inl l2))]) (st' := [.inl (1 : Int32)]) [(.iconst 1, 1)] (show zdec cX12_holds [(.iconst 1, 1)] 168 = true by decide +kernel) rfl ?_
        refine zV_goto (off := 4) (tgt := 173) (show decode cX12_holds 169 = .ok (.goto 4, 3) by decide +kernel) (by decide) ?_
        exact zV_lv (lv' := []) [] rfl (zt_X12_holds_J173 hrec h hR)
    · refine zV_b (pc' := 179) (lv' := [(4, .inl (0 : Int32)), (0, .inr (.inr l0)), (1, .inl l1), (2, .inr (.inl l2))]) (st' := [.inr (.inr l0)]) [(.aload_n 0, 1)] (show zdec cX12_holds [(.aload_n 0, 1)] 178 = true by decide +kernel) rfl ?_
      refine zV_gr (show decode cX12_holds 179 = .ok (.getfield 72, 3) by decide +kernel) zfl_RX12_72 (by decide) rfl h (fun v50 _ h => ?_)
      refine zV_b (pc' := 183) (lv' := [(4, .inl (0 : Int32)), (0, .inr (.inr l0)), (1, .inl l1), (2, .inr (.inl l2))]) (st' := [.inl l1, .inr (.inr v50)]) [(.iload_n 1, 1)] (show zdec cX12_holds [(.iload_n 1, 1)] 182 = true by decide +kernel) rfl ?_
      refine zV_ai (show decode cX12_holds 183 = .ok (.iaload, 1) by decide +kernel) h (fun v51 _ h => ?_)
      refine zV_b (pc' := 185) (lv' := [(4, .inl (0 : Int32)), (0, .inr (.inr l0)), (1, .inl l1), (2, .inr (.inl l2))]) (st' := [.inl (3 : Int32), .inl v51]) [(.iconst 3, 1)] (show zdec cX12_holds [(.iconst 3, 1)] 184 = true by decide +kernel) rfl ?_
      refine zV_icmp_ne (off := 22) (tgt := 207) (show decode cX12_holds 185 = .ok (.if_icmp .ne 22, 3) by decide +kernel) (by decide) h (fun c52 h => ?_) (fun c52 h => ?_)
      · refine zV_b (pc' := 190) (lv' := [(4, .inl (0 : Int32)), (0, .inr (.inr l0)), (1, .inl l1), (2, .inr (.inl l2))]) (st' := [.inr (.inr l0), .inr (.inl l2)]) [(.lload_n 2, 1), (.aload_n 0, 1)] (show zdec cX12_holds [(.lload_n 2, 1), (.aload_n 0, 1)] 188 = true by decide +kernel) rfl ?_
        refine zV_gj (show decode cX12_holds 190 = .ok (.getfield 367, 3) by decide +kernel) zfl_RX12_367 (by decide) rfl h (fun v53 _ h => ?_)
        refine zV_lcmp_ne (off := 7) (tgt := 201) (show decode cX12_holds 193 = .ok (.lcmp, 1) by decide +kernel) (show decode cX12_holds 194 = .ok (.ifCond .ne 7, 3) by decide +kernel) (by decide) h (fun c54 h => ?_) (fun c54 h => ?_)
        · refine zV_b (pc' := 198) (lv' := [(4, .inl (0 : Int32)), (0, .inr (.inr l0)), (1, .inl l1), (2, .inr (.inl l2))]) (st' := [.inl (1 : Int32)]) [(.iconst 1, 1)] (show zdec cX12_holds [(.iconst 1, 1)] 197 = true by decide +kernel) rfl ?_
          refine zV_goto (off := 4) (tgt := 202) (show decode cX12_holds 198 = .ok (.goto 4, 3) by decide +kernel) (by decide) ?_
          exact zV_lv (lv' := []) [] rfl (zt_X12_holds_J202 hrec h hR)
        · refine zV_b (pc' := 202) (lv' := [(4, .inl (0 : Int32)), (0, .inr (.inr l0)), (1, .inl l1), (2, .inr (.inl l2))]) (st' := [.inl (0 : Int32)]) [(.iconst 0, 1)] (show zdec cX12_holds [(.iconst 0, 1)] 201 = true by decide +kernel) rfl ?_
          exact zV_lv (lv' := []) [] rfl (zt_X12_holds_J202 hrec h hR)
      · refine zV_b (pc' := 208) (lv' := [(4, .inl (0 : Int32)), (0, .inr (.inr l0)), (1, .inl l1), (2, .inr (.inl l2))]) (st' := [.inr (.inr l0)]) [(.aload_n 0, 1)] (show zdec cX12_holds [(.aload_n 0, 1)] 207 = true by decide +kernel) rfl ?_
        refine zV_gr (show decode cX12_holds 208 = .ok (.getfield 72, 3) by decide +kernel) zfl_RX12_72 (by decide) rfl h (fun v57 _ h => ?_)
        refine zV_b (pc' := 212) (lv' := [(4, .inl (0 : Int32)), (0, .inr (.inr l0)), (1, .inl l1), (2, .inr (.inl l2))]) (st' := [.inl l1, .inr (.inr v57)]) [(.iload_n 1, 1)] (show zdec cX12_holds [(.iload_n 1, 1)] 211 = true by decide +kernel) rfl ?_
        refine zV_ai (show decode cX12_holds 212 = .ok (.iaload, 1) by decide +kernel) h (fun v58 _ h => ?_)
        refine zV_b (pc' := 214) (lv' := [(4, .inl (0 : Int32)), (0, .inr (.inr l0)), (1, .inl l1), (2, .inr (.inl l2))]) (st' := [.inl (4 : Int32), .inl v58]) [(.iconst 4, 1)] (show zdec cX12_holds [(.iconst 4, 1)] 213 = true by decide +kernel) rfl ?_
        refine zV_icmp_ne (off := 19) (tgt := 233) (show decode cX12_holds 214 = .ok (.if_icmp .ne 19, 3) by decide +kernel) (by decide) h (fun c59 h => ?_) (fun c59 h => ?_)
        · refine zV_b (pc' := 219) (lv' := [(4, .inl (0 : Int32)), (0, .inr (.inr l0)), (1, .inl l1), (2, .inr (.inl l2))]) (st' := [.inr (.inl (0 : Int64)), .inr (.inl l2)]) [(.lload_n 2, 1), (.lconst 0, 1)] (show zdec cX12_holds [(.lload_n 2, 1), (.lconst 0, 1)] 217 = true by decide +kernel) rfl ?_
          refine zV_lcmp_le (off := 7) (tgt := 227) (show decode cX12_holds 219 = .ok (.lcmp, 1) by decide +kernel) (show decode cX12_holds 220 = .ok (.ifCond .le 7, 3) by decide +kernel) (by decide) h (fun c60 h => ?_) (fun c60 h => ?_)
          · refine zV_b (pc' := 228) (lv' := [(4, .inl (0 : Int32)), (0, .inr (.inr l0)), (1, .inl l1), (2, .inr (.inl l2))]) (st' := [.inl (0 : Int32)]) [(.iconst 0, 1)] (show zdec cX12_holds [(.iconst 0, 1)] 227 = true by decide +kernel) rfl ?_
            exact zV_lv (lv' := []) [] rfl (zt_X12_holds_J228 hrec h hR)
          · refine zV_b (pc' := 224) (lv' := [(4, .inl (0 : Int32)), (0, .inr (.inr l0)), (1, .inl l1), (2, .inr (.inl l2))]) (st' := [.inl (1 : Int32)]) [(.iconst 1, 1)] (show zdec cX12_holds [(.iconst 1, 1)] 223 = true by decide +kernel) rfl ?_
            refine zV_goto (off := 4) (tgt := 228) (show decode cX12_holds 224 = .ok (.goto 4, 3) by decide +kernel) (by decide) ?_
            exact zV_lv (lv' := []) [] rfl (zt_X12_holds_J228 hrec h hR)
        · refine zV_b (pc' := 235) (lv' := [(4, .inl (0 : Int32)), (0, .inr (.inr l0)), (1, .inl l1), (2, .inr (.inl l2))]) (st' := [.inr (.inl (0 : Int64)), .inr (.inl l2)]) [(.lload_n 2, 1), (.lconst 0, 1)] (show zdec cX12_holds [(.lload_n 2, 1), (.lconst 0, 1)] 233 = true by decide +kernel) rfl ?_
          refine zV_lcmp_ne (off := 7) (tgt := 243) (show decode cX12_holds 235 = .ok (.lcmp, 1) by decide +kernel) (show decode cX12_holds 236 = .ok (.ifCond .ne 7, 3) by decide +kernel) (by decide) h (fun c63 h => ?_) (fun c63 h => ?_)
          · refine zV_b (pc' := 240) (lv' := [(4, .inl (0 : Int32)), (0, .inr (.inr l0)), (1, .inl l1), (2, .inr (.inl l2))]) (st' := [.inl (1 : Int32)]) [(.iconst 1, 1)] (show zdec cX12_holds [(.iconst 1, 1)] 239 = true by decide +kernel) rfl ?_
            refine zV_goto (off := 4) (tgt := 244) (show decode cX12_holds 240 = .ok (.goto 4, 3) by decide +kernel) (by decide) ?_
            exact zV_lv (lv' := []) [] rfl (zt_X12_holds_J244 hrec h hR)
          · refine zV_b (pc' := 244) (lv' := [(4, .inl (0 : Int32)), (0, .inr (.inr l0)), (1, .inl l1), (2, .inr (.inl l2))]) (st' := [.inl (0 : Int32)]) [(.iconst 0, 1)] (show zdec cX12_holds [(.iconst 0, 1)] 243 = true by decide +kernel) rfl ?_
            exact zV_lv (lv' := []) [] rfl (zt_X12_holds_J244 hrec h hR)
set_option maxRecDepth 100000 in
theorem zt_X12_holds {X : Zx} {d : Nat} {rec : Zm → Option Nat → Int32 → Option (Zm × Int32)} (hrec : ∀ {M M' : Zm} {l0 : Option Nat} {l1 : Int32} {x : Int32}, rec M l0 l1 = some (M', x) → ∀ (l : Launch) (D : va_G) (cy : Nat → ClassId), zMet l yX12_holds (zC_X12_holds d) (some .int) D cy [.inr (.inr l0), .inl l1] M M' (some (.inl x))) {M : Zm} {l0 : Option Nat} {l1 : Int32} {z : Zm × Int32} (h : zf_X12_holdsbody rec M l0 l1 = some z) (hR : zRi X (zC_X12_holds (d + 1)) z.1 z.2) : zV X (zC_X12_holds (d + 1)) M 0 [(0, .inr (.inr l0)), (1, .inl l1)] [] := by
  unfold zf_X12_holdsbody at h
  refine zV_b (pc' := 1) (lv' := [(0, .inr (.inr l0)), (1, .inl l1)]) (st' := [.inr (.inr l0)]) [(.aload_n 0, 1)] (show zdec cX12_holds [(.aload_n 0, 1)] 0 = true by decide +kernel) rfl ?_
  refine zV_gr (show decode cX12_holds 1 = .ok (.getfield 72, 3) by decide +kernel) zfl_RX12_72 (by decide) rfl h (fun v1 _ h => ?_)
  refine zV_b (pc' := 5) (lv' := [(0, .inr (.inr l0)), (1, .inl l1)]) (st' := [.inl l1, .inr (.inr v1)]) [(.iload_n 1, 1)] (show zdec cX12_holds [(.iload_n 1, 1)] 4 = true by decide +kernel) rfl ?_
  refine zV_ai (show decode cX12_holds 5 = .ok (.iaload, 1) by decide +kernel) h (fun v2 _ h => ?_)
  refine zV_b (pc' := 8) (lv' := [(0, .inr (.inr l0)), (1, .inl l1)]) (st' := [.inl (6 : Int32), .inl v2]) [(.bipush 6, 2)] (show zdec cX12_holds [(.bipush 6, 2)] 6 = true by decide +kernel) rfl ?_
  refine zV_icmp_ne (off := 33) (tgt := 41) (show decode cX12_holds 8 = .ok (.if_icmp .ne 33, 3) by decide +kernel) (by decide) h (fun c3 h => ?_) (fun c3 h => ?_)
  · refine zV_b (pc' := 13) (lv' := [(0, .inr (.inr l0)), (1, .inl l1)]) (st' := [.inr (.inr l0), .inr (.inr l0)]) [(.aload_n 0, 1), (.aload_n 0, 1)] (show zdec cX12_holds [(.aload_n 0, 1), (.aload_n 0, 1)] 11 = true by decide +kernel) rfl ?_
    refine zV_gr (show decode cX12_holds 13 = .ok (.getfield 84, 3) by decide +kernel) zfl_RX12_84 (by decide) rfl h (fun v4 _ h => ?_)
    refine zV_b (pc' := 17) (lv' := [(0, .inr (.inr l0)), (1, .inl l1)]) (st' := [.inl l1, .inr (.inr v4), .inr (.inr l0)]) [(.iload_n 1, 1)] (show zdec cX12_holds [(.iload_n 1, 1)] 16 = true by decide +kernel) rfl ?_
    refine zV_ai (show decode cX12_holds 17 = .ok (.iaload, 1) by decide +kernel) h (fun v5 _ h => ?_)
    refine zV_cvi (As := [.inl v5]) (st := []) (c := 13) (show decode cX12_holds 18 = .ok (.invokevirtual 364, 3) by decide +kernel) (zcl_X12_holds (by simp only [zC_X12_holds]; omega) (by simp only [zC_X12_holds]; omega)) ⟨zw_1918, zw_1920, zw_94⟩ ⟨⟨_, _, rfl⟩, by decide⟩ rfl rfl (Nat.le_of_ble_eq_true rfl) h (fun _ _ e => hrec e) (fun M6 v6 _ h => ?_)
    refine zV_b (pc' := 23) (lv' := [(2, .inl v6), (0, .inr (.inr l0)), (1, .inl l1)]) (st' := [.inl v6]) [(.istore_n 2, 1), (.iload_n 2, 1)] (show zdec cX12_holds [(.istore_n 2, 1), (.iload_n 2, 1)] 21 = true by decide +kernel) rfl ?_
    refine zV_if_eq (off := 7) (tgt := 30) (show decode cX12_holds 23 = .ok (.ifCond .eq 7, 3) by decide +kernel) (by decide) h (fun c7 h => ?_) (fun c7 h => ?_)
    · refine zV_b (pc' := 32) (lv' := [(2, .inl v6), (0, .inr (.inr l0)), (1, .inl l1)]) (st' := [.inr (.inr l0), .inr (.inr l0)]) [(.aload_n 0, 1), (.aload_n 0, 1)] (show zdec cX12_holds [(.aload_n 0, 1), (.aload_n 0, 1)] 30 = true by decide +kernel) rfl ?_
      refine zV_gr (show decode cX12_holds 32 = .ok (.getfield 87, 3) by decide +kernel) zfl_RX12_87 (by decide) rfl h (fun v8 _ h => ?_)
      refine zV_b (pc' := 36) (lv' := [(2, .inl v6), (0, .inr (.inr l0)), (1, .inl l1)]) (st' := [.inl l1, .inr (.inr v8), .inr (.inr l0)]) [(.iload_n 1, 1)] (show zdec cX12_holds [(.iload_n 1, 1)] 35 = true by decide +kernel) rfl ?_
      refine zV_ai (show decode cX12_holds 36 = .ok (.iaload, 1) by decide +kernel) h (fun v9 _ h => ?_)
      refine zV_cvi (As := [.inl v9]) (st := []) (c := 13) (show decode cX12_holds 37 = .ok (.invokevirtual 364, 3) by decide +kernel) (zcl_X12_holds (by simp only [zC_X12_holds]; omega) (by simp only [zC_X12_holds]; omega)) ⟨zw_1918, zw_1920, zw_94⟩ ⟨⟨_, _, rfl⟩, by decide⟩ rfl rfl (Nat.le_of_ble_eq_true rfl) h (fun _ _ e => hrec e) (fun M10 v10 _ h => ?_)
      exact zend_i h hR (show decode cX12_holds 40 = .ok (.ireturn, 1) by decide +kernel)
    · refine zV_b (pc' := 27) (lv' := [(2, .inl v6), (0, .inr (.inr l0)), (1, .inl l1)]) (st' := [.inl v6]) [(.iload_n 2, 1)] (show zdec cX12_holds [(.iload_n 2, 1)] 26 = true by decide +kernel) rfl ?_
      refine zV_goto (off := 13) (tgt := 40) (show decode cX12_holds 27 = .ok (.goto 13, 3) by decide +kernel) (by decide) ?_
      exact zend_i h hR (show decode cX12_holds 40 = .ok (.ireturn, 1) by decide +kernel)
  · refine zV_b (pc' := 42) (lv' := [(0, .inr (.inr l0)), (1, .inl l1)]) (st' := [.inr (.inr l0)]) [(.aload_n 0, 1)] (show zdec cX12_holds [(.aload_n 0, 1)] 41 = true by decide +kernel) rfl ?_
    refine zV_gr (show decode cX12_holds 42 = .ok (.getfield 154, 3) by decide +kernel) zfl_RX12_154 (by decide) rfl h (fun v14 _ h => ?_)
    refine zV_b (pc' := 48) (lv' := [(0, .inr (.inr l0)), (1, .inl l1)]) (st' := [.inr (.inr l0), .inl (16 : Int32), .inr (.inr v14)]) [(.bipush 16, 2), (.aload_n 0, 1)] (show zdec cX12_holds [(.bipush 16, 2), (.aload_n 0, 1)] 45 = true by decide +kernel) rfl ?_
    refine zV_gr (show decode cX12_holds 48 = .ok (.getfield 75, 3) by decide +kernel) zfl_RX12_75 (by decide) rfl h (fun v15 _ h => ?_)
    refine zV_b (pc' := 52) (lv' := [(0, .inr (.inr l0)), (1, .inl l1)]) (st' := [.inl l1, .inr (.inr v15), .inl (16 : Int32), .inr (.inr v14)]) [(.iload_n 1, 1)] (show zdec cX12_holds [(.iload_n 1, 1)] 51 = true by decide +kernel) rfl ?_
    refine zV_ai (show decode cX12_holds 52 = .ok (.iaload, 1) by decide +kernel) h (fun v16 _ h => ?_)
    refine zV_b (pc' := 57) (lv' := [(0, .inr (.inr l0)), (1, .inl l1)]) (st' := [.inr (.inr l0), .inl ((16 : Int32) * (v16 - (1 : Int32))), .inr (.inr v14)]) [(.iconst 1, 1), (.isub, 1), (.imul, 1), (.aload_n 0, 1)] (show zdec cX12_holds [(.iconst 1, 1), (.isub, 1), (.imul, 1), (.aload_n 0, 1)] 53 = true by decide +kernel) rfl ?_
    refine zV_gr (show decode cX12_holds 57 = .ok (.getfield 78, 3) by decide +kernel) zfl_RX12_78 (by decide) rfl h (fun v17 _ h => ?_)
    refine zV_b (pc' := 61) (lv' := [(0, .inr (.inr l0)), (1, .inl l1)]) (st' := [.inl l1, .inr (.inr v17), .inl ((16 : Int32) * (v16 - (1 : Int32))), .inr (.inr v14)]) [(.iload_n 1, 1)] (show zdec cX12_holds [(.iload_n 1, 1)] 60 = true by decide +kernel) rfl ?_
    refine zV_ai (show decode cX12_holds 61 = .ok (.iaload, 1) by decide +kernel) h (fun v18 _ h => ?_)
    refine zV_b (pc' := 63) (lv' := [(0, .inr (.inr l0)), (1, .inl l1)]) (st' := [.inl (((16 : Int32) * (v16 - (1 : Int32))) + v18), .inr (.inr v14)]) [(.iadd, 1)] (show zdec cX12_holds [(.iadd, 1)] 62 = true by decide +kernel) rfl ?_
    refine zV_aj (show decode cX12_holds 63 = .ok (.laload, 1) by decide +kernel) h (fun v19 _ h => ?_)
    refine zV_b (pc' := 66) (lv' := [(2, .inr (.inl v19)), (0, .inr (.inr l0)), (1, .inl l1)]) (st' := [.inr (.inr l0)]) [(.lstore_n 2, 1), (.aload_n 0, 1)] (show zdec cX12_holds [(.lstore_n 2, 1), (.aload_n 0, 1)] 64 = true by decide +kernel) rfl ?_
    refine zV_gr (show decode cX12_holds 66 = .ok (.getfield 72, 3) by decide +kernel) zfl_RX12_72 (by decide) rfl h (fun v20 _ h => ?_)
    refine zV_b (pc' := 70) (lv' := [(2, .inr (.inl v19)), (0, .inr (.inr l0)), (1, .inl l1)]) (st' := [.inl l1, .inr (.inr v20)]) [(.iload_n 1, 1)] (show zdec cX12_holds [(.iload_n 1, 1)] 69 = true by decide +kernel) rfl ?_
    refine zV_ai (show decode cX12_holds 70 = .ok (.iaload, 1) by decide +kernel) h (fun v21 _ h => ?_)
    refine zV_b (pc' := 72) (lv' := [(2, .inr (.inl v19)), (0, .inr (.inr l0)), (1, .inl l1)]) (st' := [.inl (2 : Int32), .inl v21]) [(.iconst 2, 1)] (show zdec cX12_holds [(.iconst 2, 1)] 71 = true by decide +kernel) rfl ?_
    refine zV_icmp_gt (off := 14) (tgt := 86) (show decode cX12_holds 72 = .ok (.if_icmp .gt 14, 3) by decide +kernel) (by decide) h (fun c22 h => ?_) (fun c22 h => ?_)
    · exact zV_lv (lv' := [(0, .inr (.inr l0)), (1, .inl l1), (2, .inr (.inl v19))]) [1, 2, 0] rfl (zt_X12_holds_J86 hrec h hR)
    · refine zV_b (pc' := 76) (lv' := [(2, .inr (.inl v19)), (0, .inr (.inr l0)), (1, .inl l1)]) (st' := [.inr (.inr l0)]) [(.aload_n 0, 1)] (show zdec cX12_holds [(.aload_n 0, 1)] 75 = true by decide +kernel) rfl ?_
      refine zV_gj (show decode cX12_holds 76 = .ok (.getfield 367, 3) by decide +kernel) zfl_RX12_367 (by decide) rfl h (fun v65 _ h => ?_)
      refine zV_b (pc' := 80) (lv' := [(2, .inr (.inl v19)), (0, .inr (.inr l0)), (1, .inl l1)]) (st' := [.inr (.inl (0 : Int64)), .inr (.inl v65)]) [(.lconst 0, 1)] (show zdec cX12_holds [(.lconst 0, 1)] 79 = true by decide +kernel) rfl ?_
      refine zV_lcmp_ne (off := 5) (tgt := 86) (show decode cX12_holds 80 = .ok (.lcmp, 1) by decide +kernel) (show decode cX12_holds 81 = .ok (.ifCond .ne 5, 3) by decide +kernel) (by decide) h (fun c66 h => ?_) (fun c66 h => ?_)
      · refine zV_b (pc' := 85) (lv' := [(2, .inr (.inl v19)), (0, .inr (.inr l0)), (1, .inl l1)]) (st' := [.inl (-1 : Int32)]) [(.iconst (-1), 1)] (show zdec cX12_holds [(.iconst (-1), 1)] 84 = true by decide +kernel) rfl ?_
        exact zend_i h hR (show decode cX12_holds 85 = .ok (.ireturn, 1) by decide +kernel)
      · exact zV_lv (lv' := [(0, .inr (.inr l0)), (1, .inl l1), (2, .inr (.inl v19))]) [1, 2, 0] rfl (zt_X12_holds_J86 hrec h hR)
noncomputable def zf_X12_holds : Nat → Zm → Option Nat → Int32 → Option (Zm × Int32)
  | 0 => fun _ _ _ => none
  | d + 1 => zf_X12_holdsbody (zf_X12_holds d)
theorem zc_X12_holds : ∀ {d : Nat} {M M' : Zm} {l0 : Option Nat} {l1 : Int32} {x : Int32}, zf_X12_holds d M l0 l1 = some (M', x) → ∀ (l : Launch) (D : va_G) (cy : Nat → ClassId), zMet l yX12_holds (zC_X12_holds d) (some .int) D cy [.inr (.inr l0), .inl l1] M M' (some (.inl x)) := by
  intro d
  induction d with
  | zero => intro M M' l0 l1 x h; cases h
  | succ d ih =>
    intro M M' l0 l1 x h l D cy
    exact zM_i (by decide) rfl (fun h => by cases h) (Nat.le_of_ble_eq_true rfl) (fun X hR => zt_X12_holds (fun {_ _} {_} {_} {_} e => ih e) h hR)
-- BlendCellarModel.holdsAll(I)I
def zC_X12_holdsAll : Zc := (cX12_holdsAll, 4, RX12, 33, 792, false)
theorem zcl_X12_holdsAll {C : Zc} (h1 : zC_X12_holdsAll.2.2.2.1 + 1 ≤ C.2.2.2.1) (h2 : 8 + (zC_X12_holdsAll.2.1 + 11) + zC_X12_holdsAll.2.2.2.2.1 ≤ C.2.2.2.2.1) : zCl C yX12_holdsAll zC_X12_holdsAll (some .int) 1 := ⟨zw_1917, zw_114, ⟨by decide, by decide⟩, by decide +kernel, h1, h2⟩
noncomputable def zf_X12_holdsAll_L7 (p0 : Option Nat) (p1 : Int32) (x : Zm × Int32) : Option ((Zm × Int32) ⊕ ((Zm × Int32) ⊕ (Zm × Int32))) := match x with
  | (M, l2) =>
  zb1 (zo_gr M p0 13 25) (fun v2 =>
  zb1 (zo_ai M v2 p1) (fun v3 =>
  (if v3 ≤ l2 then
  some (.inr (.inl (M, l2)))
  else
  zb1 (zo_gr M p0 13 26) (fun v5 =>
  zb1 (zo_ai M v5 (((20 : Int32) * p1) + l2)) (fun v6 =>
  zb1 (zo_rc M p0 13) (fun _ => zbd (zf_X12_holds 32 M p0 v6) (fun M7 v7 =>
  (if v7 = (1 : Int32) then
  some (.inl (M7, (l2 + 1)))
  else
  zb1 (zo_pi M7 p0 13 69 l2) (fun M11 =>
  some (.inr (.inr (M11, v7))))))))))))
def zP_X12_holdsAll_L7 (X : Zx) (p0 : Option Nat) (p1 : Int32) (x : Zm × Int32) : Prop := match x with
  | (M, l2) => zV X zC_X12_holdsAll M 7 [(0, .inr (.inr p0)), (1, .inl p1), (2, .inl l2)] []
def zK_X12_holdsAll_L7 (X : Zx) (p0 : Option Nat) (p1 : Int32) (y : (Zm × Int32) ⊕ (Zm × Int32)) : Prop := match y with
  | .inl (M, l2) => zV X zC_X12_holdsAll M 54 [] []
  | .inr (M, x) => zRi X zC_X12_holdsAll M x
noncomputable def zf_X12_holdsAll (M : Zm) (l0 : Option Nat) (l1 : Int32) : Option (Zm × Int32) :=
  zb1 (zo_pi M l0 13 69 (-1 : Int32)) (fun M1 =>
  zb1 (zwhile (zf_X12_holdsAll_L7 l0 l1) (M1, (0 : Int32))) (fun y13 => match y13 with
  | .inl (M7_13, l2_13) =>
  some (M7_13, (1 : Int32))
  | .inr q => some q))
set_option maxRecDepth 100000 in
theorem zt_X12_holdsAll_L7 {X : Zx} {p0 : Option Nat} {p1 : Int32} {x : Zm × Int32} {y : (Zm × Int32) ⊕ (Zm × Int32)} (h : zwhile (zf_X12_holdsAll_L7 p0 p1) x = some y) (hy : zK_X12_holdsAll_L7 X p0 p1 y) : zP_X12_holdsAll_L7 X p0 p1 x := by
  refine zwhile_ind (P := zP_X12_holdsAll_L7 X p0 p1) (K := zK_X12_holdsAll_L7 X p0 p1) ?_ h hy
  intro x z hf k1 k2
  obtain ⟨M, l2⟩ := x
  have h : zf_X12_holdsAll_L7 p0 p1 (M, l2) = some z := hf
  unfold zf_X12_holdsAll_L7 at h
  show zV X zC_X12_holdsAll M 7 [(0, .inr (.inr p0)), (1, .inl p1), (2, .inl l2)] []
  refine zV_b (pc' := 9) (lv' := [(0, .inr (.inr p0)), (1, .inl p1), (2, .inl l2)]) (st' := [.inr (.inr p0), .inl l2]) [(.iload_n 2, 1), (.aload_n 0, 1)] (by decide +kernel) rfl ?_
  refine zV_gr (by decide +kernel) zfl_RX12_66 (by decide) rfl h (fun v2 _ h => ?_)
  refine zV_b (pc' := 13) (lv' := [(0, .inr (.inr p0)), (1, .inl p1), (2, .inl l2)]) (st' := [.inl p1, .inr (.inr v2), .inl l2]) [(.iload_n 1, 1)] (by decide +kernel) rfl ?_
  refine zV_ai (by decide +kernel) h (fun v3 _ h => ?_)
  refine zV_icmp_ge (off := 40) (tgt := 54) (by decide +kernel) (by decide) h (fun c4 h => ?_) (fun c4 h => ?_)
  · exact zV_lv (lv' := []) [] rfl (k2 _ (Option.some.inj h).symm)
  · refine zV_b (pc' := 19) (lv' := [(0, .inr (.inr p0)), (1, .inl p1), (2, .inl l2)]) (st' := [.inr (.inr p0), .inr (.inr p0)]) [(.aload_n 0, 1), (.aload_n 0, 1)] (by decide +kernel) rfl ?_
    refine zV_gr (by decide +kernel) zfl_RX12_69 (by decide) rfl h (fun v5 _ h => ?_)
    refine zV_b (pc' := 28) (lv' := [(0, .inr (.inr p0)), (1, .inl p1), (2, .inl l2)]) (st' := [.inl (((20 : Int32) * p1) + l2), .inr (.inr v5), .inr (.inr p0)]) [(.bipush 20, 2), (.iload_n 1, 1), (.imul, 1), (.iload_n 2, 1), (.iadd, 1)] (by decide +kernel) rfl ?_
    refine zV_ai (by decide +kernel) h (fun v6 _ h => ?_)
    refine zV_cvi (As := [.inl v6]) (st := []) (c := 13) (by decide +kernel) (zcl_X12_holds (by decide) (by decide)) ⟨zw_1918, zw_1920, zw_94⟩ ⟨⟨_, _, rfl⟩, by decide⟩ rfl rfl (Nat.le_of_ble_eq_true rfl) h (fun _ _ e => zc_X12_holds e) (fun M7 v7 _ h => ?_)
    refine zV_b (pc' := 35) (lv' := [(3, .inl v7), (0, .inr (.inr p0)), (1, .inl p1), (2, .inl l2)]) (st' := [.inl (1 : Int32), .inl v7]) [(.istore_n 3, 1), (.iload_n 3, 1), (.iconst 1, 1)] (by decide +kernel) rfl ?_
    refine zV_icmp_ne (off := 6) (tgt := 41) (by decide +kernel) (by decide) h (fun c8 h => ?_) (fun c8 h => ?_)
    · refine zV_goto (off := 10) (tgt := 48) (by decide +kernel) (by decide) ?_
      refine zV_b (pc' := 51) (lv' := [(2, .inl (l2 + 1)), (3, .inl v7), (0, .inr (.inr p0)), (1, .inl p1)]) (st' := []) [(.iinc 2 1, 3)] (by decide +kernel) rfl ?_
      refine zV_goto (off := (-44)) (tgt := 7) (by decide +kernel) (by decide) ?_
      exact zV_lv (lv' := [(0, .inr (.inr p0)), (1, .inl p1), (2, .inl (l2 + 1))]) [2, 3, 0] rfl (k1 _ (Option.some.inj h).symm)
    · refine zV_b (pc' := 43) (lv' := [(3, .inl v7), (0, .inr (.inr p0)), (1, .inl p1), (2, .inl l2)]) (st' := [.inl l2, .inr (.inr p0)]) [(.aload_n 0, 1), (.iload_n 2, 1)] (by decide +kernel) rfl ?_
      refine zV_pi (by decide +kernel) zfp_RX12_373 (by decide) rfl h (fun M11 _ h => ?_)
      refine zV_b (pc' := 47) (lv' := [(3, .inl v7), (0, .inr (.inr p0)), (1, .inl p1), (2, .inl l2)]) (st' := [.inl v7]) [(.iload_n 3, 1)] (by decide +kernel) rfl ?_
      have hq : zRi X zC_X12_holdsAll M11 v7 := k2 _ (Option.some.inj h).symm
      exact hq _ _ (by decide +kernel)
set_option maxRecDepth 100000 in
theorem zt_X12_holdsAll {X : Zx} {M : Zm} {l0 : Option Nat} {l1 : Int32} {z : Zm × Int32} (h : zf_X12_holdsAll M l0 l1 = some z) (hR : zRi X zC_X12_holdsAll z.1 z.2) : zV X zC_X12_holdsAll M 0 [(0, .inr (.inr l0)), (1, .inl l1)] [] := by
  unfold zf_X12_holdsAll at h
  refine zV_b (pc' := 2) (lv' := [(0, .inr (.inr l0)), (1, .inl l1)]) (st' := [.inl (-1 : Int32), .inr (.inr l0)]) [(.aload_n 0, 1), (.iconst (-1), 1)] (by decide +kernel) rfl ?_
  refine zV_pi (by decide +kernel) zfp_RX12_373 (by decide) rfl h (fun M1 _ h => ?_)
  refine zV_b (pc' := 7) (lv' := [(2, .inl (0 : Int32)), (0, .inr (.inr l0)), (1, .inl l1)]) (st' := []) [(.iconst 0, 1), (.istore_n 2, 1)] (by decide +kernel) rfl ?_
  obtain ⟨y13, e13, h⟩ := zb1_inv h
  refine zV_lv (lv' := [(0, .inr (.inr l0)), (1, .inl l1), (2, .inl (0 : Int32))]) [1, 2, 0] rfl (zt_X12_holdsAll_L7 e13 ?_)
  rcases y13 with ⟨M7_13, l2_13⟩ | ⟨Mq, xq⟩
  · show zV X zC_X12_holdsAll M7_13 54 [] []
    refine zV_b (pc' := 55) (lv' := []) (st' := [.inl (1 : Int32)]) [(.iconst 1, 1)] (by decide +kernel) rfl ?_
    exact zend_i h hR (by decide +kernel)
  · cases h
    exact hR
theorem zc_X12_holdsAll {M M' : Zm} {l0 : Option Nat} {l1 : Int32} {x : Int32} (h : zf_X12_holdsAll M l0 l1 = some (M', x)) (l : Launch) (D : va_G) (cy : Nat → ClassId) : zMet l yX12_holdsAll zC_X12_holdsAll (some .int) D cy [.inr (.inr l0), .inl l1] M M' (some (.inl x)) :=
  zM_i (by decide) rfl (fun h => by cases h) (Nat.le_of_ble_eq_true rfl) (fun X hR => zt_X12_holdsAll h hR)
-- BlendCellarModel.lookedCask(I)I
def zC_X12_lookedCask : Zc := (cX12_lookedCask, 2, RX12, 0, 0, false)
theorem zcl_X12_lookedCask {C : Zc} (h1 : zC_X12_lookedCask.2.2.2.1 + 1 ≤ C.2.2.2.1) (h2 : 8 + (zC_X12_lookedCask.2.1 + 11) + zC_X12_lookedCask.2.2.2.2.1 ≤ C.2.2.2.2.1) : zCl C yX12_lookedCask zC_X12_lookedCask (some .int) 1 := ⟨zw_1698, zw_114, ⟨by decide, by decide⟩, by decide +kernel, h1, h2⟩
noncomputable def zf_X12_lookedCask (M : Zm) (l0 : Option Nat) (l1 : Int32) : Option (Zm × Int32) :=
  (if l1 < 0 then
  some (M, (3 : Int32))
  else
  (if l1 < (1000 : Int32) then
  zb1 (zo_gi M l0 13 1) (fun v4 =>
  (if l1 < v4 then
  zb1 (zo_gr M l0 13 2) (fun v6 =>
  zb1 (zo_ai M v6 l1) (fun v7 =>
  (if v7 = (5 : Int32) then
  some (M, (0 : Int32))
  else
  some (M, (4 : Int32)))))
  else
  some (M, (2 : Int32))))
  else
  some (M, (3 : Int32))))
set_option maxRecDepth 100000 in
theorem zt_X12_lookedCask {X : Zx} {M : Zm} {l0 : Option Nat} {l1 : Int32} {z : Zm × Int32} (h : zf_X12_lookedCask M l0 l1 = some z) (hR : zRi X zC_X12_lookedCask z.1 z.2) : zV X zC_X12_lookedCask M 0 [(0, .inr (.inr l0)), (1, .inl l1)] [] := by
  unfold zf_X12_lookedCask at h
  refine zV_b (pc' := 1) (lv' := [(0, .inr (.inr l0)), (1, .inl l1)]) (st' := [.inl l1]) [(.iload_n 1, 1)] (by decide +kernel) rfl ?_
  refine zV_if_lt (off := 10) (tgt := 11) (by decide +kernel) (by decide) h (fun c1 h => ?_) (fun c1 h => ?_)
  · refine zV_b (pc' := 12) (lv' := [(0, .inr (.inr l0)), (1, .inl l1)]) (st' := [.inl (3 : Int32)]) [(.iconst 3, 1)] (by decide +kernel) rfl ?_
    exact zend_i h hR (by decide +kernel)
  · refine zV_b (pc' := 8) (lv' := [(0, .inr (.inr l0)), (1, .inl l1)]) (st' := [.inl (1000 : Int32), .inl l1]) [(.iload_n 1, 1), (.sipush 1000, 3)] (by decide +kernel) rfl ?_
    refine zV_icmp_lt (off := 5) (tgt := 13) (by decide +kernel) (by decide) h (fun c3 h => ?_) (fun c3 h => ?_)
    · refine zV_b (pc' := 15) (lv' := [(0, .inr (.inr l0)), (1, .inl l1)]) (st' := [.inr (.inr l0), .inl l1]) [(.iload_n 1, 1), (.aload_n 0, 1)] (by decide +kernel) rfl ?_
      refine zV_gi (by decide +kernel) zfl_RX12_181 (by decide) rfl (Or.inl rfl) h (fun v4 _ h => ?_)
      refine zV_icmp_lt (off := 5) (tgt := 23) (by decide +kernel) (by decide) h (fun c5 h => ?_) (fun c5 h => ?_)
      · refine zV_b (pc' := 24) (lv' := [(0, .inr (.inr l0)), (1, .inl l1)]) (st' := [.inr (.inr l0)]) [(.aload_n 0, 1)] (by decide +kernel) rfl ?_
        refine zV_gr (by decide +kernel) zfl_RX12_9 (by decide) rfl h (fun v6 _ h => ?_)
        refine zV_b (pc' := 28) (lv' := [(0, .inr (.inr l0)), (1, .inl l1)]) (st' := [.inl l1, .inr (.inr v6)]) [(.iload_n 1, 1)] (by decide +kernel) rfl ?_
        refine zV_ai (by decide +kernel) h (fun v7 _ h => ?_)
        refine zV_b (pc' := 30) (lv' := [(0, .inr (.inr l0)), (1, .inl l1)]) (st' := [.inl (5 : Int32), .inl v7]) [(.iconst 5, 1)] (by decide +kernel) rfl ?_
        refine zV_icmp_ne (off := 7) (tgt := 37) (by decide +kernel) (by decide) h (fun c8 h => ?_) (fun c8 h => ?_)
        · refine zV_b (pc' := 34) (lv' := [(0, .inr (.inr l0)), (1, .inl l1)]) (st' := [.inl (0 : Int32)]) [(.iconst 0, 1)] (by decide +kernel) rfl ?_
          refine zV_goto (off := 4) (tgt := 38) (by decide +kernel) (by decide) ?_
          exact zend_i h hR (by decide +kernel)
        · refine zV_b (pc' := 38) (lv' := [(0, .inr (.inr l0)), (1, .inl l1)]) (st' := [.inl (4 : Int32)]) [(.iconst 4, 1)] (by decide +kernel) rfl ?_
          exact zend_i h hR (by decide +kernel)
      · refine zV_b (pc' := 22) (lv' := [(0, .inr (.inr l0)), (1, .inl l1)]) (st' := [.inl (2 : Int32)]) [(.iconst 2, 1)] (by decide +kernel) rfl ?_
        exact zend_i h hR (by decide +kernel)
    · refine zV_b (pc' := 12) (lv' := [(0, .inr (.inr l0)), (1, .inl l1)]) (st' := [.inl (3 : Int32)]) [(.iconst 3, 1)] (by decide +kernel) rfl ?_
      exact zend_i h hR (by decide +kernel)
theorem zc_X12_lookedCask {M M' : Zm} {l0 : Option Nat} {l1 : Int32} {x : Int32} (h : zf_X12_lookedCask M l0 l1 = some (M', x)) (l : Launch) (D : va_G) (cy : Nat → ClassId) : zMet l yX12_lookedCask zC_X12_lookedCask (some .int) D cy [.inr (.inr l0), .inl l1] M M' (some (.inl x)) :=
  zM_i (by decide) rfl (fun h => by cases h) (Nat.le_of_ble_eq_true rfl) (fun X hR => zt_X12_lookedCask h hR)
-- BlendCellarModel.join(II)J
def zC_X12_join : Zc := (cX12_join, 4, RX12, 1, 22, false)
theorem zcl_X12_join {C : Zc} (h1 : zC_X12_join.2.2.2.1 + 1 ≤ C.2.2.2.1) (h2 : 8 + (zC_X12_join.2.1 + 11) + zC_X12_join.2.2.2.2.1 ≤ C.2.2.2.2.1) : zCl C yX12_join zC_X12_join (some .long) 2 := ⟨zw_1694, zw_114, ⟨by decide, by decide⟩, by decide +kernel, h1, h2⟩
noncomputable def zf_X12_join_J20 (M : Zm) (l0 : Option Nat) (l1 : Int32) (l2 : Int32) (l3 : Int32) : Option (Zm × Int64) :=
  (if l3 ≤ 0 then
  zb1 (zo_gr M l0 13 5) (fun v6 =>
  zb1 (zo_ai M v6 l2) (fun v7 =>
  (if v7 = 0 then
  zb1 (zo_gr M l0 13 6) (fun v9 =>
  zb1 (zo_ai M v9 l1) (fun v10 =>
  (if v10 = (4 : Int32) then
  zb1 (zo_rc M l0 13) (fun _ => zbd (zf_X12_no M l0 (12 : Int32)) (fun M12 v12 =>
  some (M12, v12)))
  else
  zb1 (zo_rc M l0 13) (fun _ => zbd (zf_X12_keep M l0) (fun M14 _ =>
  zb1 (zo_gr M14 l0 13 7) (fun v15 =>
  zb1 (zo_gr M14 l0 13 6) (fun v16 =>
  zb1 (zo_ai M14 v16 l1) (fun v17 =>
  zb1 (zo_si M14 v15 (((4 : Int32) * l1) + v17) l2) (fun M18 =>
  zb1 (zo_gr M18 l0 13 6) (fun v19 =>
  zb1 (zo_ai M18 v19 l1) (fun v20 =>
  zb1 (zo_si M18 v19 l1 (v20 + (1 : Int32))) (fun M21 =>
  zb1 (zo_gr M21 l0 13 5) (fun v22 =>
  zb1 (zo_si M21 v22 l2 ((10000 : Int32) + l1)) (fun M23 =>
  zb1 (zo_gr M23 l0 13 6) (fun v24 =>
  zb1 (zo_ai M23 v24 l1) (fun v25 =>
  some (M23, (v25.toInt64))))))))))))))))))
  else
  zb1 (zo_rc M l0 13) (fun _ => zbd (zf_X12_no M l0 (9 : Int32)) (fun M27 v27 =>
  some (M27, v27))))))
  else
  zb1 (zo_rc M l0 13) (fun _ => zbd (zf_X12_no M l0 l3) (fun M29 v29 =>
  some (M29, v29))))
noncomputable def zf_X12_join (M : Zm) (l0 : Option Nat) (l1 : Int32) (l2 : Int32) : Option (Zm × Int64) :=
  zb1 (zo_rc M l0 13) (fun _ => zbd (zf_X12_begin M l0) (fun M1 _ =>
  zb1 (zo_rc M1 l0 13) (fun _ => zbd (zf_X12_lookedCask M1 l0 l1) (fun M2 v2 =>
  (if v2 = 0 then
  zb1 (zo_rc M2 l0 13) (fun _ => zbd (zf_X12_lookedVessel M2 l0 l2) (fun M4 v4 =>
  zf_X12_join_J20 M4 l0 l1 l2 v4))
  else
  zf_X12_join_J20 M2 l0 l1 l2 v2)))))
set_option maxRecDepth 100000 in
theorem zt_X12_join_J20 {X : Zx} {M : Zm} {l0 : Option Nat} {l1 : Int32} {l2 : Int32} {l3 : Int32} {z : Zm × Int64} (h : zf_X12_join_J20 M l0 l1 l2 l3 = some z) (hR : zRj X zC_X12_join z.1 z.2) : zV X zC_X12_join M 20 [(0, .inr (.inr l0)), (1, .inl l1), (2, .inl l2), (3, .inl l3)] [] := by
  unfold zf_X12_join_J20 at h
  refine zV_b (pc' := 21) (lv' := [(0, .inr (.inr l0)), (1, .inl l1), (2, .inl l2), (3, .inl l3)]) (st' := [.inl l3]) [(.iload_n 3, 1)] (by decide +kernel) rfl ?_
  refine zV_if_le (off := 9) (tgt := 30) (by decide +kernel) (by decide) h (fun c5 h => ?_) (fun c5 h => ?_)
  · refine zV_b (pc' := 31) (lv' := [(0, .inr (.inr l0)), (1, .inl l1), (2, .inl l2), (3, .inl l3)]) (st' := [.inr (.inr l0)]) [(.aload_n 0, 1)] (by decide +kernel) rfl ?_
    refine zV_gr (by decide +kernel) zfl_RX12_19 (by decide) rfl h (fun v6 _ h => ?_)
    refine zV_b (pc' := 35) (lv' := [(0, .inr (.inr l0)), (1, .inl l1), (2, .inl l2), (3, .inl l3)]) (st' := [.inl l2, .inr (.inr v6)]) [(.iload_n 2, 1)] (by decide +kernel) rfl ?_
    refine zV_ai (by decide +kernel) h (fun v7 _ h => ?_)
    refine zV_if_eq (off := 10) (tgt := 46) (by decide +kernel) (by decide) h (fun c8 h => ?_) (fun c8 h => ?_)
    · refine zV_b (pc' := 47) (lv' := [(0, .inr (.inr l0)), (1, .inl l1), (2, .inl l2), (3, .inl l3)]) (st' := [.inr (.inr l0)]) [(.aload_n 0, 1)] (by decide +kernel) rfl ?_
      refine zV_gr (by decide +kernel) zfl_RX12_22 (by decide) rfl h (fun v9 _ h => ?_)
      refine zV_b (pc' := 51) (lv' := [(0, .inr (.inr l0)), (1, .inl l1), (2, .inl l2), (3, .inl l3)]) (st' := [.inl l1, .inr (.inr v9)]) [(.iload_n 1, 1)] (by decide +kernel) rfl ?_
      refine zV_ai (by decide +kernel) h (fun v10 _ h => ?_)
      refine zV_b (pc' := 53) (lv' := [(0, .inr (.inr l0)), (1, .inl l1), (2, .inl l2), (3, .inl l3)]) (st' := [.inl (4 : Int32), .inl v10]) [(.iconst 4, 1)] (by decide +kernel) rfl ?_
      refine zV_icmp_ne (off := 10) (tgt := 63) (by decide +kernel) (by decide) h (fun c11 h => ?_) (fun c11 h => ?_)
      · refine zV_b (pc' := 59) (lv' := [(0, .inr (.inr l0)), (1, .inl l1), (2, .inl l2), (3, .inl l3)]) (st' := [.inl (12 : Int32), .inr (.inr l0)]) [(.aload_n 0, 1), (.bipush 12, 2)] (by decide +kernel) rfl ?_
        refine zV_cvj (As := [.inl (12 : Int32)]) (st := []) (c := 13) (by decide +kernel) (zcl_X12_no (by decide) (by decide)) ⟨zw_1677, zw_1679, zw_59⟩ ⟨⟨_, _, rfl⟩, by decide⟩ rfl rfl (Nat.le_of_ble_eq_true rfl) h (fun _ _ e => zc_X12_no e) (fun M12 v12 _ h => ?_)
        exact zend_j h hR (by decide +kernel)
      · refine zV_b (pc' := 64) (lv' := [(0, .inr (.inr l0)), (1, .inl l1), (2, .inl l2), (3, .inl l3)]) (st' := [.inr (.inr l0)]) [(.aload_n 0, 1)] (by decide +kernel) rfl ?_
        refine zV_cvv (As := []) (st := []) (c := 13) (by decide +kernel) (zcl_X12_keep (by decide) (by decide)) ⟨zw_1681, zw_1683, zw_60⟩ ⟨⟨_, _, rfl⟩, by decide⟩ rfl rfl (Nat.le_of_ble_eq_true rfl) h (fun _ _ e => zc_X12_keep e) (fun M14 _ _ h => ?_)
        refine zV_b (pc' := 68) (lv' := [(0, .inr (.inr l0)), (1, .inl l1), (2, .inl l2), (3, .inl l3)]) (st' := [.inr (.inr l0)]) [(.aload_n 0, 1)] (by decide +kernel) rfl ?_
        refine zV_gr (by decide +kernel) zfl_RX12_25 (by decide) rfl h (fun v15 _ h => ?_)
        refine zV_b (pc' := 75) (lv' := [(0, .inr (.inr l0)), (1, .inl l1), (2, .inl l2), (3, .inl l3)]) (st' := [.inr (.inr l0), .inl ((4 : Int32) * l1), .inr (.inr v15)]) [(.iconst 4, 1), (.iload_n 1, 1), (.imul, 1), (.aload_n 0, 1)] (by decide +kernel) rfl ?_
        refine zV_gr (by decide +kernel) zfl_RX12_22 (by decide) rfl h (fun v16 _ h => ?_)
        refine zV_b (pc' := 79) (lv' := [(0, .inr (.inr l0)), (1, .inl l1), (2, .inl l2), (3, .inl l3)]) (st' := [.inl l1, .inr (.inr v16), .inl ((4 : Int32) * l1), .inr (.inr v15)]) [(.iload_n 1, 1)] (by decide +kernel) rfl ?_
        refine zV_ai (by decide +kernel) h (fun v17 _ h => ?_)
        refine zV_b (pc' := 82) (lv' := [(0, .inr (.inr l0)), (1, .inl l1), (2, .inl l2), (3, .inl l3)]) (st' := [.inl l2, .inl (((4 : Int32) * l1) + v17), .inr (.inr v15)]) [(.iadd, 1), (.iload_n 2, 1)] (by decide +kernel) rfl ?_
        refine zV_si (by decide +kernel) h (fun M18 _ h => ?_)
        refine zV_b (pc' := 84) (lv' := [(0, .inr (.inr l0)), (1, .inl l1), (2, .inl l2), (3, .inl l3)]) (st' := [.inr (.inr l0)]) [(.aload_n 0, 1)] (by decide +kernel) rfl ?_
        refine zV_gr (by decide +kernel) zfl_RX12_22 (by decide) rfl h (fun v19 _ h => ?_)
        refine zV_b (pc' := 89) (lv' := [(0, .inr (.inr l0)), (1, .inl l1), (2, .inl l2), (3, .inl l3)]) (st' := [.inl l1, .inr (.inr v19), .inl l1, .inr (.inr v19)]) [(.iload_n 1, 1), (.dup2, 1)] (by decide +kernel) rfl ?_
        refine zV_ai (by decide +kernel) h (fun v20 _ h => ?_)
        refine zV_b (pc' := 92) (lv' := [(0, .inr (.inr l0)), (1, .inl l1), (2, .inl l2), (3, .inl l3)]) (st' := [.inl (v20 + (1 : Int32)), .inl l1, .inr (.inr v19)]) [(.iconst 1, 1), (.iadd, 1)] (by decide +kernel) rfl ?_
        refine zV_si (by decide +kernel) h (fun M21 _ h => ?_)
        refine zV_b (pc' := 94) (lv' := [(0, .inr (.inr l0)), (1, .inl l1), (2, .inl l2), (3, .inl l3)]) (st' := [.inr (.inr l0)]) [(.aload_n 0, 1)] (by decide +kernel) rfl ?_
        refine zV_gr (by decide +kernel) zfl_RX12_19 (by decide) rfl h (fun v22 _ h => ?_)
        refine zV_b (pc' := 103) (lv' := [(0, .inr (.inr l0)), (1, .inl l1), (2, .inl l2), (3, .inl l3)]) (st' := [.inl ((10000 : Int32) + l1), .inl l2, .inr (.inr v22)]) [(.iload_n 2, 1), (.sipush 10000, 3), (.iload_n 1, 1), (.iadd, 1)] (by decide +kernel) rfl ?_
        refine zV_si (by decide +kernel) h (fun M23 _ h => ?_)
        refine zV_b (pc' := 105) (lv' := [(0, .inr (.inr l0)), (1, .inl l1), (2, .inl l2), (3, .inl l3)]) (st' := [.inr (.inr l0)]) [(.aload_n 0, 1)] (by decide +kernel) rfl ?_
        refine zV_gr (by decide +kernel) zfl_RX12_22 (by decide) rfl h (fun v24 _ h => ?_)
        refine zV_b (pc' := 109) (lv' := [(0, .inr (.inr l0)), (1, .inl l1), (2, .inl l2), (3, .inl l3)]) (st' := [.inl l1, .inr (.inr v24)]) [(.iload_n 1, 1)] (by decide +kernel) rfl ?_
        refine zV_ai (by decide +kernel) h (fun v25 _ h => ?_)
        refine zV_b (pc' := 111) (lv' := [(0, .inr (.inr l0)), (1, .inl l1), (2, .inl l2), (3, .inl l3)]) (st' := [.inr (.inl (v25.toInt64))]) [(.i2l, 1)] (by decide +kernel) rfl ?_
        exact zend_j h hR (by decide +kernel)
    · refine zV_b (pc' := 42) (lv' := [(0, .inr (.inr l0)), (1, .inl l1), (2, .inl l2), (3, .inl l3)]) (st' := [.inl (9 : Int32), .inr (.inr l0)]) [(.aload_n 0, 1), (.bipush 9, 2)] (by decide +kernel) rfl ?_
      refine zV_cvj (As := [.inl (9 : Int32)]) (st := []) (c := 13) (by decide +kernel) (zcl_X12_no (by decide) (by decide)) ⟨zw_1677, zw_1679, zw_59⟩ ⟨⟨_, _, rfl⟩, by decide⟩ rfl rfl (Nat.le_of_ble_eq_true rfl) h (fun _ _ e => zc_X12_no e) (fun M27 v27 _ h => ?_)
      exact zend_j h hR (by decide +kernel)
  · refine zV_b (pc' := 26) (lv' := [(0, .inr (.inr l0)), (1, .inl l1), (2, .inl l2), (3, .inl l3)]) (st' := [.inl l3, .inr (.inr l0)]) [(.aload_n 0, 1), (.iload_n 3, 1)] (by decide +kernel) rfl ?_
    refine zV_cvj (As := [.inl l3]) (st := []) (c := 13) (by decide +kernel) (zcl_X12_no (by decide) (by decide)) ⟨zw_1677, zw_1679, zw_59⟩ ⟨⟨_, _, rfl⟩, by decide⟩ rfl rfl (Nat.le_of_ble_eq_true rfl) h (fun _ _ e => zc_X12_no e) (fun M29 v29 _ h => ?_)
    exact zend_j h hR (by decide +kernel)
set_option maxRecDepth 100000 in
theorem zt_X12_join {X : Zx} {M : Zm} {l0 : Option Nat} {l1 : Int32} {l2 : Int32} {z : Zm × Int64} (h : zf_X12_join M l0 l1 l2 = some z) (hR : zRj X zC_X12_join z.1 z.2) : zV X zC_X12_join M 0 [(0, .inr (.inr l0)), (1, .inl l1), (2, .inl l2)] [] := by
  unfold zf_X12_join at h
  refine zV_b (pc' := 1) (lv' := [(0, .inr (.inr l0)), (1, .inl l1), (2, .inl l2)]) (st' := [.inr (.inr l0)]) [(.aload_n 0, 1)] (by decide +kernel) rfl ?_
  refine zV_cvv (As := []) (st := []) (c := 13) (by decide +kernel) (zcl_X12_begin (by decide) (by decide)) ⟨zw_1673, zw_1675, zw_58⟩ ⟨⟨_, _, rfl⟩, by decide⟩ rfl rfl (Nat.le_of_ble_eq_true rfl) h (fun _ _ e => zc_X12_begin e) (fun M1 _ _ h => ?_)
  refine zV_b (pc' := 6) (lv' := [(0, .inr (.inr l0)), (1, .inl l1), (2, .inl l2)]) (st' := [.inl l1, .inr (.inr l0)]) [(.aload_n 0, 1), (.iload_n 1, 1)] (by decide +kernel) rfl ?_
  refine zV_cvi (As := [.inl l1]) (st := []) (c := 13) (by decide +kernel) (zcl_X12_lookedCask (by decide) (by decide)) ⟨zw_1695, zw_1697, zw_61⟩ ⟨⟨_, _, rfl⟩, by decide⟩ rfl rfl (Nat.le_of_ble_eq_true rfl) h (fun _ _ e => zc_X12_lookedCask e) (fun M2 v2 _ h => ?_)
  refine zV_b (pc' := 11) (lv' := [(3, .inl v2), (0, .inr (.inr l0)), (1, .inl l1), (2, .inl l2)]) (st' := [.inl v2]) [(.istore_n 3, 1), (.iload_n 3, 1)] (by decide +kernel) rfl ?_
  refine zV_if_ne (off := 9) (tgt := 20) (by decide +kernel) (by decide) h (fun c3 h => ?_) (fun c3 h => ?_)
  · refine zV_b (pc' := 16) (lv' := [(3, .inl v2), (0, .inr (.inr l0)), (1, .inl l1), (2, .inl l2)]) (st' := [.inl l2, .inr (.inr l0)]) [(.aload_n 0, 1), (.iload_n 2, 1)] (by decide +kernel) rfl ?_
    refine zV_cvi (As := [.inl l2]) (st := []) (c := 13) (by decide +kernel) (zcl_X12_lookedVessel (by decide) (by decide)) ⟨zw_1699, zw_1701, zw_62⟩ ⟨⟨_, _, rfl⟩, by decide⟩ rfl rfl (Nat.le_of_ble_eq_true rfl) h (fun _ _ e => zc_X12_lookedVessel e) (fun M4 v4 _ h => ?_)
    refine zV_b (pc' := 20) (lv' := [(3, .inl v4), (0, .inr (.inr l0)), (1, .inl l1), (2, .inl l2)]) (st' := []) [(.istore_n 3, 1)] (by decide +kernel) rfl ?_
    exact zV_lv (lv' := [(0, .inr (.inr l0)), (1, .inl l1), (2, .inl l2), (3, .inl v4)]) [1, 2, 3, 0] rfl (zt_X12_join_J20 h hR)
  · exact zV_lv (lv' := [(0, .inr (.inr l0)), (1, .inl l1), (2, .inl l2), (3, .inl v2)]) [1, 2, 3, 0] rfl (zt_X12_join_J20 h hR)
theorem zc_X12_join {M M' : Zm} {l0 : Option Nat} {l1 : Int32} {l2 : Int32} {x : Int64} (h : zf_X12_join M l0 l1 l2 = some (M', x)) (l : Launch) (D : va_G) (cy : Nat → ClassId) : zMet l yX12_join zC_X12_join (some .long) D cy [.inr (.inr l0), .inl l1, .inl l2] M M' (some (.inr (.inl x))) :=
  zM_j (by decide) rfl (fun h => by cases h) (Nat.le_of_ble_eq_true rfl) (fun X hR => zt_X12_join h hR)
-- BlendCellarModel.lookedLabel(I)I
def zC_X12_lookedLabel : Zc := (cX12_lookedLabel, 2, RX12, 0, 0, false)
theorem zcl_X12_lookedLabel {C : Zc} (h1 : zC_X12_lookedLabel.2.2.2.1 + 1 ≤ C.2.2.2.1) (h2 : 8 + (zC_X12_lookedLabel.2.1 + 11) + zC_X12_lookedLabel.2.2.2.2.1 ≤ C.2.2.2.2.1) : zCl C yX12_lookedLabel zC_X12_lookedLabel (some .int) 1 := ⟨zw_1901, zw_114, ⟨by decide, by decide⟩, by decide +kernel, h1, h2⟩
noncomputable def zf_X12_lookedLabel (M : Zm) (l0 : Option Nat) (l1 : Int32) : Option (Zm × Int32) :=
  (if l1 < 0 then
  some (M, (3 : Int32))
  else
  (if l1 < (40 : Int32) then
  zb1 (zo_gi M l0 13 23) (fun v4 =>
  (if v4 ≤ l1 then
  some (M, (2 : Int32))
  else
  some (M, (0 : Int32))))
  else
  some (M, (3 : Int32))))
set_option maxRecDepth 100000 in
theorem zt_X12_lookedLabel {X : Zx} {M : Zm} {l0 : Option Nat} {l1 : Int32} {z : Zm × Int32} (h : zf_X12_lookedLabel M l0 l1 = some z) (hR : zRi X zC_X12_lookedLabel z.1 z.2) : zV X zC_X12_lookedLabel M 0 [(0, .inr (.inr l0)), (1, .inl l1)] [] := by
  unfold zf_X12_lookedLabel at h
  refine zV_b (pc' := 1) (lv' := [(0, .inr (.inr l0)), (1, .inl l1)]) (st' := [.inl l1]) [(.iload_n 1, 1)] (by decide +kernel) rfl ?_
  refine zV_if_lt (off := 9) (tgt := 10) (by decide +kernel) (by decide) h (fun c1 h => ?_) (fun c1 h => ?_)
  · refine zV_b (pc' := 11) (lv' := [(0, .inr (.inr l0)), (1, .inl l1)]) (st' := [.inl (3 : Int32)]) [(.iconst 3, 1)] (by decide +kernel) rfl ?_
    exact zend_i h hR (by decide +kernel)
  · refine zV_b (pc' := 7) (lv' := [(0, .inr (.inr l0)), (1, .inl l1)]) (st' := [.inl (40 : Int32), .inl l1]) [(.iload_n 1, 1), (.bipush 40, 2)] (by decide +kernel) rfl ?_
    refine zV_icmp_lt (off := 5) (tgt := 12) (by decide +kernel) (by decide) h (fun c3 h => ?_) (fun c3 h => ?_)
    · refine zV_b (pc' := 14) (lv' := [(0, .inr (.inr l0)), (1, .inl l1)]) (st' := [.inr (.inr l0), .inl l1]) [(.iload_n 1, 1), (.aload_n 0, 1)] (by decide +kernel) rfl ?_
      refine zV_gi (by decide +kernel) zfl_RX12_184 (by decide) rfl (Or.inl rfl) h (fun v4 _ h => ?_)
      refine zV_icmp_ge (off := 7) (tgt := 24) (by decide +kernel) (by decide) h (fun c5 h => ?_) (fun c5 h => ?_)
      · refine zV_b (pc' := 25) (lv' := [(0, .inr (.inr l0)), (1, .inl l1)]) (st' := [.inl (2 : Int32)]) [(.iconst 2, 1)] (by decide +kernel) rfl ?_
        exact zend_i h hR (by decide +kernel)
      · refine zV_b (pc' := 21) (lv' := [(0, .inr (.inr l0)), (1, .inl l1)]) (st' := [.inl (0 : Int32)]) [(.iconst 0, 1)] (by decide +kernel) rfl ?_
        refine zV_goto (off := 4) (tgt := 25) (by decide +kernel) (by decide) ?_
        exact zend_i h hR (by decide +kernel)
    · refine zV_b (pc' := 11) (lv' := [(0, .inr (.inr l0)), (1, .inl l1)]) (st' := [.inl (3 : Int32)]) [(.iconst 3, 1)] (by decide +kernel) rfl ?_
      exact zend_i h hR (by decide +kernel)
theorem zc_X12_lookedLabel {M M' : Zm} {l0 : Option Nat} {l1 : Int32} {x : Int32} (h : zf_X12_lookedLabel M l0 l1 = some (M', x)) (l : Launch) (D : va_G) (cy : Nat → ClassId) : zMet l yX12_lookedLabel zC_X12_lookedLabel (some .int) D cy [.inr (.inr l0), .inl l1] M M' (some (.inl x)) :=
  zM_i (by decide) rfl (fun h => by cases h) (Nat.le_of_ble_eq_true rfl) (fun X hR => zt_X12_lookedLabel h hR)
-- BlendCellarModel.mixVessel(I)V
def zC_X12_mixVessel : Zc := (cX12_mixVessel, 3, RX12, 1, 25, false)
theorem zcl_X12_mixVessel {C : Zc} (h1 : zC_X12_mixVessel.2.2.2.1 + 1 ≤ C.2.2.2.1) (h2 : 8 + (zC_X12_mixVessel.2.1 + 11) + zC_X12_mixVessel.2.2.2.2.1 ≤ C.2.2.2.2.1) : zCl C yX12_mixVessel zC_X12_mixVessel none 1 := ⟨zw_1909, zw_114, ⟨by decide, by decide⟩, by decide +kernel, h1, h2⟩
noncomputable def zf_X12_mixVessel_L5 (p0 : Option Nat) (p1 : Int32) (x : Zm × Int32) : Option ((Zm × Int32) ⊕ (Zm × Int32)) := match x with
  | (M, l2) =>
  zb1 (zo_gr M p0 13 8) (fun v1 =>
  zb1 (zo_ai M v1 p1) (fun v2 =>
  (if (((60 : Int32) * p1) + v2) ≤ l2 then
  some (.inr (M, l2))
  else
  zb1 (zo_gr M p0 13 9) (fun v4 =>
  zb1 (zo_ai M v4 l2) (fun v5 =>
  zb1 (zo_gr M p0 13 10) (fun v6 =>
  zb1 (zo_aj M v6 l2) (fun v7 =>
  zb1 (zo_rc M p0 13) (fun _ => zbd (zf_X12_mix M p0 v5 v7) (fun M8 _ =>
  some (.inl (M8, (l2 + 1))))))))))))
def zP_X12_mixVessel_L5 (X : Zx) (p0 : Option Nat) (p1 : Int32) (x : Zm × Int32) : Prop := match x with
  | (M, l2) => zV X zC_X12_mixVessel M 5 [(0, .inr (.inr p0)), (1, .inl p1), (2, .inl l2)] []
def zK_X12_mixVessel_L5 (X : Zx) (p0 : Option Nat) (p1 : Int32) (y : Zm × Int32) : Prop := match y with
  | (M, l2) => zV X zC_X12_mixVessel M 42 [] []
noncomputable def zf_X12_mixVessel (M : Zm) (l0 : Option Nat) (l1 : Int32) : Option (Zm × Unit) :=
  zb1 (zwhile (zf_X12_mixVessel_L5 l0 l1) (M, ((60 : Int32) * l1))) (fun y10 => match y10 with
  | (M5_10, l2_10) =>
  some (M5_10, ()))
set_option maxRecDepth 100000 in
theorem zt_X12_mixVessel_L5 {X : Zx} {p0 : Option Nat} {p1 : Int32} {x : Zm × Int32} {y : Zm × Int32} (h : zwhile (zf_X12_mixVessel_L5 p0 p1) x = some y) (hy : zK_X12_mixVessel_L5 X p0 p1 y) : zP_X12_mixVessel_L5 X p0 p1 x := by
  refine zwhile_ind (P := zP_X12_mixVessel_L5 X p0 p1) (K := zK_X12_mixVessel_L5 X p0 p1) ?_ h hy
  intro x z hf k1 k2
  obtain ⟨M, l2⟩ := x
  have h : zf_X12_mixVessel_L5 p0 p1 (M, l2) = some z := hf
  unfold zf_X12_mixVessel_L5 at h
  show zV X zC_X12_mixVessel M 5 [(0, .inr (.inr p0)), (1, .inl p1), (2, .inl l2)] []
  refine zV_b (pc' := 11) (lv' := [(0, .inr (.inr p0)), (1, .inl p1), (2, .inl l2)]) (st' := [.inr (.inr p0), .inl ((60 : Int32) * p1), .inl l2]) [(.iload_n 2, 1), (.bipush 60, 2), (.iload_n 1, 1), (.imul, 1), (.aload_n 0, 1)] (by decide +kernel) rfl ?_
  refine zV_gr (by decide +kernel) zfl_RX12_28 (by decide) rfl h (fun v1 _ h => ?_)
  refine zV_b (pc' := 15) (lv' := [(0, .inr (.inr p0)), (1, .inl p1), (2, .inl l2)]) (st' := [.inl p1, .inr (.inr v1), .inl ((60 : Int32) * p1), .inl l2]) [(.iload_n 1, 1)] (by decide +kernel) rfl ?_
  refine zV_ai (by decide +kernel) h (fun v2 _ h => ?_)
  refine zV_b (pc' := 17) (lv' := [(0, .inr (.inr p0)), (1, .inl p1), (2, .inl l2)]) (st' := [.inl (((60 : Int32) * p1) + v2), .inl l2]) [(.iadd, 1)] (by decide +kernel) rfl ?_
  refine zV_icmp_ge (off := 25) (tgt := 42) (by decide +kernel) (by decide) h (fun c3 h => ?_) (fun c3 h => ?_)
  · exact zV_lv (lv' := []) [] rfl (k2 _ (Option.some.inj h).symm)
  · refine zV_b (pc' := 22) (lv' := [(0, .inr (.inr p0)), (1, .inl p1), (2, .inl l2)]) (st' := [.inr (.inr p0), .inr (.inr p0)]) [(.aload_n 0, 1), (.aload_n 0, 1)] (by decide +kernel) rfl ?_
    refine zV_gr (by decide +kernel) zfl_RX12_32 (by decide) rfl h (fun v4 _ h => ?_)
    refine zV_b (pc' := 26) (lv' := [(0, .inr (.inr p0)), (1, .inl p1), (2, .inl l2)]) (st' := [.inl l2, .inr (.inr v4), .inr (.inr p0)]) [(.iload_n 2, 1)] (by decide +kernel) rfl ?_
    refine zV_ai (by decide +kernel) h (fun v5 _ h => ?_)
    refine zV_b (pc' := 28) (lv' := [(0, .inr (.inr p0)), (1, .inl p1), (2, .inl l2)]) (st' := [.inr (.inr p0), .inl v5, .inr (.inr p0)]) [(.aload_n 0, 1)] (by decide +kernel) rfl ?_
    refine zV_gr (by decide +kernel) zfl_RX12_35 (by decide) rfl h (fun v6 _ h => ?_)
    refine zV_b (pc' := 32) (lv' := [(0, .inr (.inr p0)), (1, .inl p1), (2, .inl l2)]) (st' := [.inl l2, .inr (.inr v6), .inl v5, .inr (.inr p0)]) [(.iload_n 2, 1)] (by decide +kernel) rfl ?_
    refine zV_aj (by decide +kernel) h (fun v7 _ h => ?_)
    refine zV_cvv (As := [.inl v5, .inr (.inl v7)]) (st := []) (c := 13) (by decide +kernel) (zcl_X12_mix (by decide) (by decide)) ⟨zw_1767, zw_1769, zw_72⟩ ⟨⟨_, _, rfl⟩, by decide⟩ rfl rfl (Nat.le_of_ble_eq_true rfl) h (fun _ _ e => zc_X12_mix e) (fun M8 _ _ h => ?_)
    refine zV_b (pc' := 39) (lv' := [(2, .inl (l2 + 1)), (0, .inr (.inr p0)), (1, .inl p1)]) (st' := []) [(.iinc 2 1, 3)] (by decide +kernel) rfl ?_
    refine zV_goto (off := (-34)) (tgt := 5) (by decide +kernel) (by decide) ?_
    exact zV_lv (lv' := [(0, .inr (.inr p0)), (1, .inl p1), (2, .inl (l2 + 1))]) [1, 2, 0] rfl (k1 _ (Option.some.inj h).symm)
set_option maxRecDepth 100000 in
theorem zt_X12_mixVessel {X : Zx} {M : Zm} {l0 : Option Nat} {l1 : Int32} {z : Zm × Unit} (h : zf_X12_mixVessel M l0 l1 = some z) (hR : zRv X zC_X12_mixVessel z.1) : zV X zC_X12_mixVessel M 0 [(0, .inr (.inr l0)), (1, .inl l1)] [] := by
  unfold zf_X12_mixVessel at h
  refine zV_b (pc' := 5) (lv' := [(2, .inl ((60 : Int32) * l1)), (0, .inr (.inr l0)), (1, .inl l1)]) (st' := []) [(.bipush 60, 2), (.iload_n 1, 1), (.imul, 1), (.istore_n 2, 1)] (by decide +kernel) rfl ?_
  obtain ⟨y10, e10, h⟩ := zb1_inv h
  refine zV_lv (lv' := [(0, .inr (.inr l0)), (1, .inl l1), (2, .inl ((60 : Int32) * l1))]) [1, 2, 0] rfl (zt_X12_mixVessel_L5 e10 ?_)
  obtain ⟨M5_10, l2_10⟩ := y10
  show zV X zC_X12_mixVessel M5_10 42 [] []
  exact zend_v h hR (by decide +kernel)
theorem zc_X12_mixVessel {M M' : Zm} {l0 : Option Nat} {l1 : Int32} {x : Unit} (h : zf_X12_mixVessel M l0 l1 = some (M', x)) (l : Launch) (D : va_G) (cy : Nat → ClassId) : zMet l yX12_mixVessel zC_X12_mixVessel none D cy [.inr (.inr l0), .inl l1] M M' none :=
  zM_v (by decide) rfl (fun h => by cases h) (Nat.le_of_ble_eq_true rfl) (fun X hR => zt_X12_mixVessel h hR)
-- BlendCellarModel.sharesOfMix([JI)V
def zC_X12_sharesOfMix : Zc := (cX12_sharesOfMix, 7, RX12, 0, 0, false)
theorem zcl_X12_sharesOfMix {C : Zc} (h1 : zC_X12_sharesOfMix.2.2.2.1 + 1 ≤ C.2.2.2.1) (h2 : 8 + (zC_X12_sharesOfMix.2.1 + 11) + zC_X12_sharesOfMix.2.2.2.2.1 ≤ C.2.2.2.2.1) : zCl C yX12_sharesOfMix zC_X12_sharesOfMix none 2 := ⟨zw_1913, zw_114, ⟨by decide, by decide⟩, by decide +kernel, h1, h2⟩
noncomputable def zf_X12_sharesOfMix_L2 (p0 : Option Nat) (p1 : Option Nat) (p2 : Int32) (x : Zm × Int32) : Option ((Zm × Int32) ⊕ (Zm × Int32)) := match x with
  | (M, l3) =>
  (if (48 : Int32) ≤ l3 then
  some (.inr (M, l3))
  else
  zb1 (zo_sj M p1 (p2 + l3) (0 : Int64)) (fun M2 =>
  some (.inl (M2, (l3 + 1)))))
def zP_X12_sharesOfMix_L2 (X : Zx) (p0 : Option Nat) (p1 : Option Nat) (p2 : Int32) (x : Zm × Int32) : Prop := match x with
  | (M, l3) => zV X zC_X12_sharesOfMix M 2 [(0, .inr (.inr p0)), (1, .inr (.inr p1)), (2, .inl p2), (3, .inl l3)] []
def zK_X12_sharesOfMix_L2 (X : Zx) (p0 : Option Nat) (p1 : Option Nat) (p2 : Int32) (y : Zm × Int32) : Prop := match y with
  | (M, l3) => zV X zC_X12_sharesOfMix M 20 [(0, .inr (.inr p0)), (1, .inr (.inr p1)), (2, .inl p2)] []
noncomputable def zf_X12_sharesOfMix_L22 (p0 : Option Nat) (p1 : Option Nat) (p2 : Int32) (x : Zm × Int32) : Option ((Zm × Int32) ⊕ (Zm × Int32)) := match x with
  | (M, l3) =>
  zb1 (zo_gi M p0 13 64) (fun v5 =>
  (if v5 ≤ l3 then
  some (.inr (M, l3))
  else
  zb1 (zo_gr M p0 13 65) (fun v7 =>
  zb1 (zo_ai M v7 l3) (fun v8 =>
  zb1 (zo_id v8 (256 : Int32)) (fun v9 =>
  zb1 (zo_gr M p0 13 65) (fun v10 =>
  zb1 (zo_ai M v10 l3) (fun v11 =>
  zb1 (zo_id v11 (16 : Int32)) (fun v12 =>
  zb1 (zo_im v12 (16 : Int32)) (fun v13 =>
  zb1 (zo_gr M p0 13 65) (fun v14 =>
  zb1 (zo_ai M v14 l3) (fun v15 =>
  zb1 (zo_im v15 (16 : Int32)) (fun v16 =>
  zb1 (zo_aj M p1 (p2 + v9)) (fun v17 =>
  zb1 (zo_gr M p0 13 66) (fun v18 =>
  zb1 (zo_aj M v18 l3) (fun v19 =>
  zb1 (zo_sj M p1 (p2 + v9) (v17 + v19)) (fun M20 =>
  zb1 (zo_aj M20 p1 ((p2 + (16 : Int32)) + v13)) (fun v21 =>
  zb1 (zo_gr M20 p0 13 66) (fun v22 =>
  zb1 (zo_aj M20 v22 l3) (fun v23 =>
  zb1 (zo_sj M20 p1 ((p2 + (16 : Int32)) + v13) (v21 + v23)) (fun M24 =>
  zb1 (zo_aj M24 p1 ((p2 + (32 : Int32)) + v16)) (fun v25 =>
  zb1 (zo_gr M24 p0 13 66) (fun v26 =>
  zb1 (zo_aj M24 v26 l3) (fun v27 =>
  zb1 (zo_sj M24 p1 ((p2 + (32 : Int32)) + v16) (v25 + v27)) (fun M28 =>
  some (.inl (M28, (l3 + 1)))))))))))))))))))))))))))
def zP_X12_sharesOfMix_L22 (X : Zx) (p0 : Option Nat) (p1 : Option Nat) (p2 : Int32) (x : Zm × Int32) : Prop := match x with
  | (M, l3) => zV X zC_X12_sharesOfMix M 22 [(0, .inr (.inr p0)), (1, .inr (.inr p1)), (2, .inl p2), (3, .inl l3)] []
def zK_X12_sharesOfMix_L22 (X : Zx) (p0 : Option Nat) (p1 : Option Nat) (p2 : Int32) (y : Zm × Int32) : Prop := match y with
  | (M, l3) => zV X zC_X12_sharesOfMix M 130 [] []
noncomputable def zf_X12_sharesOfMix (M : Zm) (l0 : Option Nat) (l1 : Option Nat) (l2 : Int32) : Option (Zm × Unit) :=
  zb1 (zwhile (zf_X12_sharesOfMix_L2 l0 l1 l2) (M, (0 : Int32))) (fun y4 => match y4 with
  | (M2_4, l3_4) =>
  zb1 (zwhile (zf_X12_sharesOfMix_L22 l0 l1 l2) (M2_4, (0 : Int32))) (fun y30 => match y30 with
  | (M22_30, l3_30) =>
  some (M22_30, ())))
set_option maxRecDepth 100000 in
theorem zt_X12_sharesOfMix_L2 {X : Zx} {p0 : Option Nat} {p1 : Option Nat} {p2 : Int32} {x : Zm × Int32} {y : Zm × Int32} (h : zwhile (zf_X12_sharesOfMix_L2 p0 p1 p2) x = some y) (hy : zK_X12_sharesOfMix_L2 X p0 p1 p2 y) : zP_X12_sharesOfMix_L2 X p0 p1 p2 x := by
  refine zwhile_ind (P := zP_X12_sharesOfMix_L2 X p0 p1 p2) (K := zK_X12_sharesOfMix_L2 X p0 p1 p2) ?_ h hy
  intro x z hf k1 k2
  obtain ⟨M, l3⟩ := x
  have h : zf_X12_sharesOfMix_L2 p0 p1 p2 (M, l3) = some z := hf
  unfold zf_X12_sharesOfMix_L2 at h
  show zV X zC_X12_sharesOfMix M 2 [(0, .inr (.inr p0)), (1, .inr (.inr p1)), (2, .inl p2), (3, .inl l3)] []
  refine zV_b (pc' := 5) (lv' := [(0, .inr (.inr p0)), (1, .inr (.inr p1)), (2, .inl p2), (3, .inl l3)]) (st' := [.inl (48 : Int32), .inl l3]) [(.iload_n 3, 1), (.bipush 48, 2)] (by decide +kernel) rfl ?_
  refine zV_icmp_ge (off := 15) (tgt := 20) (by decide +kernel) (by decide) h (fun c1 h => ?_) (fun c1 h => ?_)
  · exact zV_lv (lv' := [(0, .inr (.inr p0)), (1, .inr (.inr p1)), (2, .inl p2)]) [0, 1, 2] rfl (k2 _ (Option.some.inj h).symm)
  · refine zV_b (pc' := 13) (lv' := [(0, .inr (.inr p0)), (1, .inr (.inr p1)), (2, .inl p2), (3, .inl l3)]) (st' := [.inr (.inl (0 : Int64)), .inl (p2 + l3), .inr (.inr p1)]) [(.aload_n 1, 1), (.iload_n 2, 1), (.iload_n 3, 1), (.iadd, 1), (.lconst 0, 1)] (by decide +kernel) rfl ?_
    refine zV_sj (by decide +kernel) h (fun M2 _ h => ?_)
    refine zV_b (pc' := 17) (lv' := [(3, .inl (l3 + 1)), (0, .inr (.inr p0)), (1, .inr (.inr p1)), (2, .inl p2)]) (st' := []) [(.iinc 3 1, 3)] (by decide +kernel) rfl ?_
    refine zV_goto (off := (-15)) (tgt := 2) (by decide +kernel) (by decide) ?_
    exact zV_lv (lv' := [(0, .inr (.inr p0)), (1, .inr (.inr p1)), (2, .inl p2), (3, .inl (l3 + 1))]) [1, 2, 3, 0] rfl (k1 _ (Option.some.inj h).symm)
set_option maxRecDepth 100000 in
theorem zt_X12_sharesOfMix_L22 {X : Zx} {p0 : Option Nat} {p1 : Option Nat} {p2 : Int32} {x : Zm × Int32} {y : Zm × Int32} (h : zwhile (zf_X12_sharesOfMix_L22 p0 p1 p2) x = some y) (hy : zK_X12_sharesOfMix_L22 X p0 p1 p2 y) : zP_X12_sharesOfMix_L22 X p0 p1 p2 x := by
  refine zwhile_ind (P := zP_X12_sharesOfMix_L22 X p0 p1 p2) (K := zK_X12_sharesOfMix_L22 X p0 p1 p2) ?_ h hy
  intro x z hf k1 k2
  obtain ⟨M, l3⟩ := x
  have h : zf_X12_sharesOfMix_L22 p0 p1 p2 (M, l3) = some z := hf
  unfold zf_X12_sharesOfMix_L22 at h
  show zV X zC_X12_sharesOfMix M 22 [(0, .inr (.inr p0)), (1, .inr (.inr p1)), (2, .inl p2), (3, .inl l3)] []
  refine zV_b (pc' := 24) (lv' := [(0, .inr (.inr p0)), (1, .inr (.inr p1)), (2, .inl p2), (3, .inl l3)]) (st' := [.inr (.inr p0), .inl l3]) [(.iload_n 3, 1), (.aload_n 0, 1)] (by decide +kernel) rfl ?_
  refine zV_gi (by decide +kernel) zfl_RX12_254 (by decide) rfl (Or.inl rfl) h (fun v5 _ h => ?_)
  refine zV_icmp_ge (off := 103) (tgt := 130) (by decide +kernel) (by decide) h (fun c6 h => ?_) (fun c6 h => ?_)
  · exact zV_lv (lv' := []) [] rfl (k2 _ (Option.some.inj h).symm)
  · refine zV_b (pc' := 32) (lv' := [(0, .inr (.inr p0)), (1, .inr (.inr p1)), (2, .inl p2), (3, .inl l3)]) (st' := [.inr (.inr p0), .inl p2]) [(.iload_n 2, 1), (.aload_n 0, 1)] (by decide +kernel) rfl ?_
    refine zV_gr (by decide +kernel) zfl_RX12_148 (by decide) rfl h (fun v7 _ h => ?_)
    refine zV_b (pc' := 36) (lv' := [(0, .inr (.inr p0)), (1, .inr (.inr p1)), (2, .inl p2), (3, .inl l3)]) (st' := [.inl l3, .inr (.inr v7), .inl p2]) [(.iload_n 3, 1)] (by decide +kernel) rfl ?_
    refine zV_ai (by decide +kernel) h (fun v8 _ h => ?_)
    refine zV_b (pc' := 40) (lv' := [(0, .inr (.inr p0)), (1, .inr (.inr p1)), (2, .inl p2), (3, .inl l3)]) (st' := [.inl (256 : Int32), .inl v8, .inl p2]) [(.sipush 256, 3)] (by decide +kernel) rfl ?_
    refine zV_id (by decide +kernel) h (fun v9 _ h => ?_)
    refine zV_b (pc' := 49) (lv' := [(4, .inl (p2 + v9)), (0, .inr (.inr p0)), (1, .inr (.inr p1)), (2, .inl p2), (3, .inl l3)]) (st' := [.inr (.inr p0), .inl (p2 + (16 : Int32))]) [(.iadd, 1), (.istore 4, 2), (.iload_n 2, 1), (.bipush 16, 2), (.iadd, 1), (.aload_n 0, 1)] (by decide +kernel) rfl ?_
    refine zV_gr (by decide +kernel) zfl_RX12_148 (by decide) rfl h (fun v10 _ h => ?_)
    refine zV_b (pc' := 53) (lv' := [(4, .inl (p2 + v9)), (0, .inr (.inr p0)), (1, .inr (.inr p1)), (2, .inl p2), (3, .inl l3)]) (st' := [.inl l3, .inr (.inr v10), .inl (p2 + (16 : Int32))]) [(.iload_n 3, 1)] (by decide +kernel) rfl ?_
    refine zV_ai (by decide +kernel) h (fun v11 _ h => ?_)
    refine zV_b (pc' := 56) (lv' := [(4, .inl (p2 + v9)), (0, .inr (.inr p0)), (1, .inr (.inr p1)), (2, .inl p2), (3, .inl l3)]) (st' := [.inl (16 : Int32), .inl v11, .inl (p2 + (16 : Int32))]) [(.bipush 16, 2)] (by decide +kernel) rfl ?_
    refine zV_id (by decide +kernel) h (fun v12 _ h => ?_)
    refine zV_b (pc' := 59) (lv' := [(4, .inl (p2 + v9)), (0, .inr (.inr p0)), (1, .inr (.inr p1)), (2, .inl p2), (3, .inl l3)]) (st' := [.inl (16 : Int32), .inl v12, .inl (p2 + (16 : Int32))]) [(.bipush 16, 2)] (by decide +kernel) rfl ?_
    refine zV_im (by decide +kernel) h (fun v13 _ h => ?_)
    refine zV_b (pc' := 68) (lv' := [(5, .inl ((p2 + (16 : Int32)) + v13)), (4, .inl (p2 + v9)), (0, .inr (.inr p0)), (1, .inr (.inr p1)), (2, .inl p2), (3, .inl l3)]) (st' := [.inr (.inr p0), .inl (p2 + (32 : Int32))]) [(.iadd, 1), (.istore 5, 2), (.iload_n 2, 1), (.bipush 32, 2), (.iadd, 1), (.aload_n 0, 1)] (by decide +kernel) rfl ?_
    refine zV_gr (by decide +kernel) zfl_RX12_148 (by decide) rfl h (fun v14 _ h => ?_)
    refine zV_b (pc' := 72) (lv' := [(5, .inl ((p2 + (16 : Int32)) + v13)), (4, .inl (p2 + v9)), (0, .inr (.inr p0)), (1, .inr (.inr p1)), (2, .inl p2), (3, .inl l3)]) (st' := [.inl l3, .inr (.inr v14), .inl (p2 + (32 : Int32))]) [(.iload_n 3, 1)] (by decide +kernel) rfl ?_
    refine zV_ai (by decide +kernel) h (fun v15 _ h => ?_)
    refine zV_b (pc' := 75) (lv' := [(5, .inl ((p2 + (16 : Int32)) + v13)), (4, .inl (p2 + v9)), (0, .inr (.inr p0)), (1, .inr (.inr p1)), (2, .inl p2), (3, .inl l3)]) (st' := [.inl (16 : Int32), .inl v15, .inl (p2 + (32 : Int32))]) [(.bipush 16, 2)] (by decide +kernel) rfl ?_
    refine zV_im (by decide +kernel) h (fun v16 _ h => ?_)
    refine zV_b (pc' := 85) (lv' := [(6, .inl ((p2 + (32 : Int32)) + v16)), (5, .inl ((p2 + (16 : Int32)) + v13)), (4, .inl (p2 + v9)), (0, .inr (.inr p0)), (1, .inr (.inr p1)), (2, .inl p2), (3, .inl l3)]) (st' := [.inl (p2 + v9), .inr (.inr p1), .inl (p2 + v9), .inr (.inr p1)]) [(.iadd, 1), (.istore 6, 2), (.aload_n 1, 1), (.iload 4, 2), (.aload_n 1, 1), (.iload 4, 2)] (by decide +kernel) rfl ?_
    refine zV_aj (by decide +kernel) h (fun v17 _ h => ?_)
    refine zV_b (pc' := 87) (lv' := [(6, .inl ((p2 + (32 : Int32)) + v16)), (5, .inl ((p2 + (16 : Int32)) + v13)), (4, .inl (p2 + v9)), (0, .inr (.inr p0)), (1, .inr (.inr p1)), (2, .inl p2), (3, .inl l3)]) (st' := [.inr (.inr p0), .inr (.inl v17), .inl (p2 + v9), .inr (.inr p1)]) [(.aload_n 0, 1)] (by decide +kernel) rfl ?_
    refine zV_gr (by decide +kernel) zfl_RX12_151 (by decide) rfl h (fun v18 _ h => ?_)
    refine zV_b (pc' := 91) (lv' := [(6, .inl ((p2 + (32 : Int32)) + v16)), (5, .inl ((p2 + (16 : Int32)) + v13)), (4, .inl (p2 + v9)), (0, .inr (.inr p0)), (1, .inr (.inr p1)), (2, .inl p2), (3, .inl l3)]) (st' := [.inl l3, .inr (.inr v18), .inr (.inl v17), .inl (p2 + v9), .inr (.inr p1)]) [(.iload_n 3, 1)] (by decide +kernel) rfl ?_
    refine zV_aj (by decide +kernel) h (fun v19 _ h => ?_)
    refine zV_b (pc' := 93) (lv' := [(6, .inl ((p2 + (32 : Int32)) + v16)), (5, .inl ((p2 + (16 : Int32)) + v13)), (4, .inl (p2 + v9)), (0, .inr (.inr p0)), (1, .inr (.inr p1)), (2, .inl p2), (3, .inl l3)]) (st' := [.inr (.inl (v17 + v19)), .inl (p2 + v9), .inr (.inr p1)]) [(.ladd, 1)] (by decide +kernel) rfl ?_
    refine zV_sj (by decide +kernel) h (fun M20 _ h => ?_)
    refine zV_b (pc' := 100) (lv' := [(6, .inl ((p2 + (32 : Int32)) + v16)), (5, .inl ((p2 + (16 : Int32)) + v13)), (4, .inl (p2 + v9)), (0, .inr (.inr p0)), (1, .inr (.inr p1)), (2, .inl p2), (3, .inl l3)]) (st' := [.inl ((p2 + (16 : Int32)) + v13), .inr (.inr p1), .inl ((p2 + (16 : Int32)) + v13), .inr (.inr p1)]) [(.aload_n 1, 1), (.iload 5, 2), (.aload_n 1, 1), (.iload 5, 2)] (by decide +kernel) rfl ?_
    refine zV_aj (by decide +kernel) h (fun v21 _ h => ?_)
    refine zV_b (pc' := 102) (lv' := [(6, .inl ((p2 + (32 : Int32)) + v16)), (5, .inl ((p2 + (16 : Int32)) + v13)), (4, .inl (p2 + v9)), (0, .inr (.inr p0)), (1, .inr (.inr p1)), (2, .inl p2), (3, .inl l3)]) (st' := [.inr (.inr p0), .inr (.inl v21), .inl ((p2 + (16 : Int32)) + v13), .inr (.inr p1)]) [(.aload_n 0, 1)] (by decide +kernel) rfl ?_
    refine zV_gr (by decide +kernel) zfl_RX12_151 (by decide) rfl h (fun v22 _ h => ?_)
    refine zV_b (pc' := 106) (lv' := [(6, .inl ((p2 + (32 : Int32)) + v16)), (5, .inl ((p2 + (16 : Int32)) + v13)), (4, .inl (p2 + v9)), (0, .inr (.inr p0)), (1, .inr (.inr p1)), (2, .inl p2), (3, .inl l3)]) (st' := [.inl l3, .inr (.inr v22), .inr (.inl v21), .inl ((p2 + (16 : Int32)) + v13), .inr (.inr p1)]) [(.iload_n 3, 1)] (by decide +kernel) rfl ?_
    refine zV_aj (by decide +kernel) h (fun v23 _ h => ?_)
    refine zV_b (pc' := 108) (lv' := [(6, .inl ((p2 + (32 : Int32)) + v16)), (5, .inl ((p2 + (16 : Int32)) + v13)), (4, .inl (p2 + v9)), (0, .inr (.inr p0)), (1, .inr (.inr p1)), (2, .inl p2), (3, .inl l3)]) (st' := [.inr (.inl (v21 + v23)), .inl ((p2 + (16 : Int32)) + v13), .inr (.inr p1)]) [(.ladd, 1)] (by decide +kernel) rfl ?_
    refine zV_sj (by decide +kernel) h (fun M24 _ h => ?_)
    refine zV_b (pc' := 115) (lv' := [(6, .inl ((p2 + (32 : Int32)) + v16)), (5, .inl ((p2 + (16 : Int32)) + v13)), (4, .inl (p2 + v9)), (0, .inr (.inr p0)), (1, .inr (.inr p1)), (2, .inl p2), (3, .inl l3)]) (st' := [.inl ((p2 + (32 : Int32)) + v16), .inr (.inr p1), .inl ((p2 + (32 : Int32)) + v16), .inr (.inr p1)]) [(.aload_n 1, 1), (.iload 6, 2), (.aload_n 1, 1), (.iload 6, 2)] (by decide +kernel) rfl ?_
    refine zV_aj (by decide +kernel) h (fun v25 _ h => ?_)
    refine zV_b (pc' := 117) (lv' := [(6, .inl ((p2 + (32 : Int32)) + v16)), (5, .inl ((p2 + (16 : Int32)) + v13)), (4, .inl (p2 + v9)), (0, .inr (.inr p0)), (1, .inr (.inr p1)), (2, .inl p2), (3, .inl l3)]) (st' := [.inr (.inr p0), .inr (.inl v25), .inl ((p2 + (32 : Int32)) + v16), .inr (.inr p1)]) [(.aload_n 0, 1)] (by decide +kernel) rfl ?_
    refine zV_gr (by decide +kernel) zfl_RX12_151 (by decide) rfl h (fun v26 _ h => ?_)
    refine zV_b (pc' := 121) (lv' := [(6, .inl ((p2 + (32 : Int32)) + v16)), (5, .inl ((p2 + (16 : Int32)) + v13)), (4, .inl (p2 + v9)), (0, .inr (.inr p0)), (1, .inr (.inr p1)), (2, .inl p2), (3, .inl l3)]) (st' := [.inl l3, .inr (.inr v26), .inr (.inl v25), .inl ((p2 + (32 : Int32)) + v16), .inr (.inr p1)]) [(.iload_n 3, 1)] (by decide +kernel) rfl ?_
    refine zV_aj (by decide +kernel) h (fun v27 _ h => ?_)
    refine zV_b (pc' := 123) (lv' := [(6, .inl ((p2 + (32 : Int32)) + v16)), (5, .inl ((p2 + (16 : Int32)) + v13)), (4, .inl (p2 + v9)), (0, .inr (.inr p0)), (1, .inr (.inr p1)), (2, .inl p2), (3, .inl l3)]) (st' := [.inr (.inl (v25 + v27)), .inl ((p2 + (32 : Int32)) + v16), .inr (.inr p1)]) [(.ladd, 1)] (by decide +kernel) rfl ?_
    refine zV_sj (by decide +kernel) h (fun M28 _ h => ?_)
    refine zV_b (pc' := 127) (lv' := [(3, .inl (l3 + 1)), (6, .inl ((p2 + (32 : Int32)) + v16)), (5, .inl ((p2 + (16 : Int32)) + v13)), (4, .inl (p2 + v9)), (0, .inr (.inr p0)), (1, .inr (.inr p1)), (2, .inl p2)]) (st' := []) [(.iinc 3 1, 3)] (by decide +kernel) rfl ?_
    refine zV_goto (off := (-105)) (tgt := 22) (by decide +kernel) (by decide) ?_
    exact zV_lv (lv' := [(0, .inr (.inr p0)), (1, .inr (.inr p1)), (2, .inl p2), (3, .inl (l3 + 1))]) [4, 5, 6, 0] rfl (k1 _ (Option.some.inj h).symm)
set_option maxRecDepth 100000 in
theorem zt_X12_sharesOfMix {X : Zx} {M : Zm} {l0 : Option Nat} {l1 : Option Nat} {l2 : Int32} {z : Zm × Unit} (h : zf_X12_sharesOfMix M l0 l1 l2 = some z) (hR : zRv X zC_X12_sharesOfMix z.1) : zV X zC_X12_sharesOfMix M 0 [(0, .inr (.inr l0)), (1, .inr (.inr l1)), (2, .inl l2)] [] := by
  unfold zf_X12_sharesOfMix at h
  refine zV_b (pc' := 2) (lv' := [(3, .inl (0 : Int32)), (0, .inr (.inr l0)), (1, .inr (.inr l1)), (2, .inl l2)]) (st' := []) [(.iconst 0, 1), (.istore_n 3, 1)] (by decide +kernel) rfl ?_
  obtain ⟨y4, e4, h⟩ := zb1_inv h
  refine zV_lv (lv' := [(0, .inr (.inr l0)), (1, .inr (.inr l1)), (2, .inl l2), (3, .inl (0 : Int32))]) [1, 2, 3, 0] rfl (zt_X12_sharesOfMix_L2 e4 ?_)
  obtain ⟨M2_4, l3_4⟩ := y4
  show zV X zC_X12_sharesOfMix M2_4 20 [(0, .inr (.inr l0)), (1, .inr (.inr l1)), (2, .inl l2)] []
  refine zV_b (pc' := 22) (lv' := [(3, .inl (0 : Int32)), (0, .inr (.inr l0)), (1, .inr (.inr l1)), (2, .inl l2)]) (st' := []) [(.iconst 0, 1), (.istore_n 3, 1)] (by decide +kernel) rfl ?_
  obtain ⟨y30, e30, h⟩ := zb1_inv h
  refine zV_lv (lv' := [(0, .inr (.inr l0)), (1, .inr (.inr l1)), (2, .inl l2), (3, .inl (0 : Int32))]) [1, 2, 3, 0] rfl (zt_X12_sharesOfMix_L22 e30 ?_)
  obtain ⟨M22_30, l3_30⟩ := y30
  show zV X zC_X12_sharesOfMix M22_30 130 [] []
  exact zend_v h hR (by decide +kernel)
theorem zc_X12_sharesOfMix {M M' : Zm} {l0 : Option Nat} {l1 : Option Nat} {l2 : Int32} {x : Unit} (h : zf_X12_sharesOfMix M l0 l1 l2 = some (M', x)) (l : Launch) (D : va_G) (cy : Nat → ClassId) : zMet l yX12_sharesOfMix zC_X12_sharesOfMix none D cy [.inr (.inr l0), .inr (.inr l1), .inl l2] M M' none :=
  zM_v (by decide) rfl (fun h => by cases h) (Nat.le_of_ble_eq_true rfl) (fun X hR => zt_X12_sharesOfMix h hR)
