/-! What the bytecode does, as functions of the memory, and the walks (written by wip/gen.py). -/
-- BlendCellarModel.digest()J
def zC_X12_digest : Zc := (cX12_digest, 5, RX12, 2, 42, false)
theorem zcl_X12_digest {C : Zc} (h1 : zC_X12_digest.2.2.2.1 + 1 ≤ C.2.2.2.1) (h2 : 8 + (zC_X12_digest.2.1 + 11) + zC_X12_digest.2.2.2.2.1 ≤ C.2.2.2.2.1) : zCl C yX12_digest zC_X12_digest (some .long) 0 := ⟨zw_2041, zw_114, ⟨by decide, by decide⟩, by decide +kernel, h1, h2⟩
noncomputable def zf_X12_digest_L101 (p0 : Option Nat) (p3 : Int32) (x : Zm × Int64 × Int32) : Option ((Zm × Int64 × Int32) ⊕ (Zm × Int64 × Int32)) := match x with
  | (M, l1, l4) =>
  zb1 (zo_gr M p0 13 8) (fun v20 =>
  zb1 (zo_ai M v20 p3) (fun v21 =>
  (if (((60 : Int32) * p3) + v21) ≤ l4 then
  some (.inr (M, l1, l4))
  else
  zb1 (zo_gr M p0 13 9) (fun v24 =>
  zb1 (zo_ai M v24 l4) (fun v25 =>
  zb1 (zo_gr M p0 13 10) (fun v27 =>
  zb1 (zo_aj M v27 l4) (fun v28 =>
  some (.inl (M, ((((l1 * (31 : Int64)) + (v25.toInt64)) * (31 : Int64)) + v28), (l4 + 1))))))))))
def zP_X12_digest_L101 (X : Zx) (p0 : Option Nat) (p3 : Int32) (x : Zm × Int64 × Int32) : Prop := match x with
  | (M, l1, l4) => zV X zC_X12_digest M 101 [(0, .inr (.inr p0)), (1, .inr (.inl l1)), (3, .inl p3), (4, .inl l4)] []
def zK_X12_digest_L101 (X : Zx) (p0 : Option Nat) (p3 : Int32) (y : Zm × Int64 × Int32) : Prop := match y with
  | (M, l1, l4) => zV X zC_X12_digest M 152 [(0, .inr (.inr p0)), (1, .inr (.inl l1)), (3, .inl p3)] []
noncomputable def zf_X12_digest_L155 (p0 : Option Nat) (p3 : Int32) (x : Zm × Int64 × Int32) : Option ((Zm × Int64 × Int32) ⊕ (Zm × Int64 × Int32)) := match x with
  | (M, l1, l4) =>
  zb1 (zo_gr M p0 13 6) (fun v31 =>
  zb1 (zo_ai M v31 p3) (fun v32 =>
  (if v32 ≤ l4 then
  some (.inr (M, l1, l4))
  else
  zb1 (zo_gr M p0 13 7) (fun v35 =>
  zb1 (zo_ai M v35 (((4 : Int32) * p3) + l4)) (fun v36 =>
  some (.inl (M, ((l1 * (31 : Int64)) + (v36.toInt64)), (l4 + 1))))))))
def zP_X12_digest_L155 (X : Zx) (p0 : Option Nat) (p3 : Int32) (x : Zm × Int64 × Int32) : Prop := match x with
  | (M, l1, l4) => zV X zC_X12_digest M 155 [(0, .inr (.inr p0)), (1, .inr (.inl l1)), (3, .inl p3), (4, .inl l4)] []
def zK_X12_digest_L155 (X : Zx) (p0 : Option Nat) (p3 : Int32) (y : Zm × Int64 × Int32) : Prop := match y with
  | (M, l1, l4) => zV X zC_X12_digest M 191 [(0, .inr (.inr p0)), (1, .inr (.inl l1)), (3, .inl p3)] []
noncomputable def zf_X12_digest_L18 (p0 : Option Nat) (x : Zm × Int64 × Int32) : Option ((Zm × Int64 × Int32) ⊕ (Zm × Int64 × Int32)) := match x with
  | (M, l1, l3) =>
  zb1 (zo_gi M p0 13 1) (fun v4 =>
  (if v4 ≤ l3 then
  some (.inr (M, l1, l3))
  else
  zb1 (zo_gr M p0 13 2) (fun v7 =>
  zb1 (zo_ai M v7 l3) (fun v8 =>
  zb1 (zo_gr M p0 13 3) (fun v10 =>
  zb1 (zo_ai M v10 l3) (fun v11 =>
  zb1 (zo_gr M p0 13 4) (fun v13 =>
  zb1 (zo_ai M v13 l3) (fun v14 =>
  zb1 (zo_gr M p0 13 5) (fun v16 =>
  zb1 (zo_ai M v16 l3) (fun v17 =>
  zb1 (zo_rc M p0 13) (fun _ => zbd (zf_X12_parts M p0 l3) (fun M19 v19 =>
  zb1 (zwhile (zf_X12_digest_L101 p0 l3) (M19, ((((((((((l1 * (31 : Int64)) + (v8.toInt64)) * (31 : Int64)) + (v11.toInt64)) * (31 : Int64)) + (v14.toInt64)) * (31 : Int64)) + (v17.toInt64)) * (31 : Int64)) + (v19.toInt64)), ((60 : Int32) * l3))) (fun y30 => match y30 with
  | (M101_30, l1_30, l4_30) =>
  zb1 (zwhile (zf_X12_digest_L155 p0 l3) (M101_30, l1_30, (0 : Int32))) (fun y38 => match y38 with
  | (M155_38, l1_38, l4_38) =>
  some (.inl (M155_38, l1_38, (l3 + 1)))))))))))))))))
def zP_X12_digest_L18 (X : Zx) (p0 : Option Nat) (x : Zm × Int64 × Int32) : Prop := match x with
  | (M, l1, l3) => zV X zC_X12_digest M 18 [(0, .inr (.inr p0)), (1, .inr (.inl l1)), (3, .inl l3)] []
def zK_X12_digest_L18 (X : Zx) (p0 : Option Nat) (y : Zm × Int64 × Int32) : Prop := match y with
  | (M, l1, l3) => zV X zC_X12_digest M 197 [(0, .inr (.inr p0)), (1, .inr (.inl l1))] []
noncomputable def zf_X12_digest (M : Zm) (l0 : Option Nat) : Option (Zm × Int64) :=
  zb1 (zo_gi M l0 13 1) (fun v3 =>
  zb1 (zwhile (zf_X12_digest_L18 l0) (M, (((7 : Int64) * (31 : Int64)) + (v3.toInt64)), (0 : Int32))) (fun y40 => match y40 with
  | (M18_40, l1_40, l3_40) =>
  zb1 (zo_gi M18_40 l0 13 18) (fun v42 =>
  zb1 (zo_gi M18_40 l0 13 19) (fun v44 =>
  some (M18_40, ((((l1_40 * (31 : Int64)) + (v42.toInt64)) * (31 : Int64)) + (v44.toInt64)))))))
set_option maxRecDepth 100000 in
theorem zt_X12_digest_L101 {X : Zx} {p0 : Option Nat} {p3 : Int32} {x : Zm × Int64 × Int32} {y : Zm × Int64 × Int32} (h : zwhile (zf_X12_digest_L101 p0 p3) x = some y) (hy : zK_X12_digest_L101 X p0 p3 y) : zP_X12_digest_L101 X p0 p3 x := by
  refine zwhile_ind (P := zP_X12_digest_L101 X p0 p3) (K := zK_X12_digest_L101 X p0 p3) ?_ h hy
  intro x z hf k1 k2
  obtain ⟨M, l1, l4⟩ := x
  have h : zf_X12_digest_L101 p0 p3 (M, l1, l4) = some z := hf
  unfold zf_X12_digest_L101 at h
  show zV X zC_X12_digest M 101 [(0, .inr (.inr p0)), (1, .inr (.inl l1)), (3, .inl p3), (4, .inl l4)] []
  refine zV_b (pc' := 108) (lv' := [(0, .inr (.inr p0)), (1, .inr (.inl l1)), (3, .inl p3), (4, .inl l4)]) (st' := [.inr (.inr p0), .inl ((60 : Int32) * p3), .inl l4]) [(.iload 4, 2), (.bipush 60, 2), (.iload_n 3, 1), (.imul, 1), (.aload_n 0, 1)] (by decide +kernel) rfl ?_
  refine zV_gr (by decide +kernel) zfl_RX12_28 (by decide) rfl h (fun v20 _ h => ?_)
  refine zV_b (pc' := 112) (lv' := [(0, .inr (.inr p0)), (1, .inr (.inl l1)), (3, .inl p3), (4, .inl l4)]) (st' := [.inl p3, .inr (.inr v20), .inl ((60 : Int32) * p3), .inl l4]) [(.iload_n 3, 1)] (by decide +kernel) rfl ?_
  refine zV_ai (by decide +kernel) h (fun v21 _ h => ?_)
  refine zV_b (pc' := 114) (lv' := [(0, .inr (.inr p0)), (1, .inr (.inl l1)), (3, .inl p3), (4, .inl l4)]) (st' := [.inl (((60 : Int32) * p3) + v21), .inl l4]) [(.iadd, 1)] (by decide +kernel) rfl ?_
  refine zV_icmp_ge (off := 38) (tgt := 152) (by decide +kernel) (by decide) h (fun c22 h => ?_) (fun c22 h => ?_)
  · exact zV_lv (lv' := [(0, .inr (.inr p0)), (1, .inr (.inl l1)), (3, .inl p3)]) [0, 1, 2] rfl (k2 _ (Option.some.inj h).symm)
  · refine zV_b (pc' := 118) (lv' := [(0, .inr (.inr p0)), (1, .inr (.inl l1)), (3, .inl p3), (4, .inl l4)]) (st' := [.inr (.inl l1)]) [(.lload_n 1, 1)] (by decide +kernel) rfl ?_
    refine zV_ldc2 (by decide +kernel) zw_2043 ?_
    refine zV_b (pc' := 123) (lv' := [(0, .inr (.inr p0)), (1, .inr (.inl l1)), (3, .inl p3), (4, .inl l4)]) (st' := [.inr (.inr p0), .inr (.inl (l1 * (31 : Int64)))]) [(.lmul, 1), (.aload_n 0, 1)] (by decide +kernel) rfl ?_
    refine zV_gr (by decide +kernel) zfl_RX12_32 (by decide) rfl h (fun v24 _ h => ?_)
    refine zV_b (pc' := 128) (lv' := [(0, .inr (.inr p0)), (1, .inr (.inl l1)), (3, .inl p3), (4, .inl l4)]) (st' := [.inl l4, .inr (.inr v24), .inr (.inl (l1 * (31 : Int64)))]) [(.iload 4, 2)] (by decide +kernel) rfl ?_
    refine zV_ai (by decide +kernel) h (fun v25 _ h => ?_)
    refine zV_b (pc' := 133) (lv' := [(1, .inr (.inl ((l1 * (31 : Int64)) + (v25.toInt64)))), (0, .inr (.inr p0)), (3, .inl p3), (4, .inl l4)]) (st' := [.inr (.inl ((l1 * (31 : Int64)) + (v25.toInt64)))]) [(.i2l, 1), (.ladd, 1), (.lstore_n 1, 1), (.lload_n 1, 1)] (by decide +kernel) rfl ?_
    refine zV_ldc2 (by decide +kernel) zw_2043 ?_
    refine zV_b (pc' := 138) (lv' := [(1, .inr (.inl ((l1 * (31 : Int64)) + (v25.toInt64)))), (0, .inr (.inr p0)), (3, .inl p3), (4, .inl l4)]) (st' := [.inr (.inr p0), .inr (.inl (((l1 * (31 : Int64)) + (v25.toInt64)) * (31 : Int64)))]) [(.lmul, 1), (.aload_n 0, 1)] (by decide +kernel) rfl ?_
    refine zV_gr (by decide +kernel) zfl_RX12_35 (by decide) rfl h (fun v27 _ h => ?_)
    refine zV_b (pc' := 143) (lv' := [(1, .inr (.inl ((l1 * (31 : Int64)) + (v25.toInt64)))), (0, .inr (.inr p0)), (3, .inl p3), (4, .inl l4)]) (st' := [.inl l4, .inr (.inr v27), .inr (.inl (((l1 * (31 : Int64)) + (v25.toInt64)) * (31 : Int64)))]) [(.iload 4, 2)] (by decide +kernel) rfl ?_
    refine zV_aj (by decide +kernel) h (fun v28 _ h => ?_)
    refine zV_b (pc' := 149) (lv' := [(4, .inl (l4 + 1)), (1, .inr (.inl ((((l1 * (31 : Int64)) + (v25.toInt64)) * (31 : Int64)) + v28))), (0, .inr (.inr p0)), (3, .inl p3)]) (st' := []) [(.ladd, 1), (.lstore_n 1, 1), (.iinc 4 1, 3)] (by decide +kernel) rfl ?_
    refine zV_goto (off := (-48)) (tgt := 101) (by decide +kernel) (by decide) ?_
    exact zV_lv (lv' := [(0, .inr (.inr p0)), (1, .inr (.inl ((((l1 * (31 : Int64)) + (v25.toInt64)) * (31 : Int64)) + v28))), (3, .inl p3), (4, .inl (l4 + 1))]) [2, 1, 3, 0] rfl (k1 _ (Option.some.inj h).symm)
set_option maxRecDepth 100000 in
theorem zt_X12_digest_L155 {X : Zx} {p0 : Option Nat} {p3 : Int32} {x : Zm × Int64 × Int32} {y : Zm × Int64 × Int32} (h : zwhile (zf_X12_digest_L155 p0 p3) x = some y) (hy : zK_X12_digest_L155 X p0 p3 y) : zP_X12_digest_L155 X p0 p3 x := by
  refine zwhile_ind (P := zP_X12_digest_L155 X p0 p3) (K := zK_X12_digest_L155 X p0 p3) ?_ h hy
  intro x z hf k1 k2
  obtain ⟨M, l1, l4⟩ := x
  have h : zf_X12_digest_L155 p0 p3 (M, l1, l4) = some z := hf
  unfold zf_X12_digest_L155 at h
  show zV X zC_X12_digest M 155 [(0, .inr (.inr p0)), (1, .inr (.inl l1)), (3, .inl p3), (4, .inl l4)] []
  refine zV_b (pc' := 158) (lv' := [(0, .inr (.inr p0)), (1, .inr (.inl l1)), (3, .inl p3), (4, .inl l4)]) (st' := [.inr (.inr p0), .inl l4]) [(.iload 4, 2), (.aload_n 0, 1)] (by decide +kernel) rfl ?_
  refine zV_gr (by decide +kernel) zfl_RX12_22 (by decide) rfl h (fun v31 _ h => ?_)
  refine zV_b (pc' := 162) (lv' := [(0, .inr (.inr p0)), (1, .inr (.inl l1)), (3, .inl p3), (4, .inl l4)]) (st' := [.inl p3, .inr (.inr v31), .inl l4]) [(.iload_n 3, 1)] (by decide +kernel) rfl ?_
  refine zV_ai (by decide +kernel) h (fun v32 _ h => ?_)
  refine zV_icmp_ge (off := 28) (tgt := 191) (by decide +kernel) (by decide) h (fun c33 h => ?_) (fun c33 h => ?_)
  · exact zV_lv (lv' := [(0, .inr (.inr p0)), (1, .inr (.inl l1)), (3, .inl p3)]) [0, 1, 2] rfl (k2 _ (Option.some.inj h).symm)
  · refine zV_b (pc' := 167) (lv' := [(0, .inr (.inr p0)), (1, .inr (.inl l1)), (3, .inl p3), (4, .inl l4)]) (st' := [.inr (.inl l1)]) [(.lload_n 1, 1)] (by decide +kernel) rfl ?_
    refine zV_ldc2 (by decide +kernel) zw_2043 ?_
    refine zV_b (pc' := 172) (lv' := [(0, .inr (.inr p0)), (1, .inr (.inl l1)), (3, .inl p3), (4, .inl l4)]) (st' := [.inr (.inr p0), .inr (.inl (l1 * (31 : Int64)))]) [(.lmul, 1), (.aload_n 0, 1)] (by decide +kernel) rfl ?_
    refine zV_gr (by decide +kernel) zfl_RX12_25 (by decide) rfl h (fun v35 _ h => ?_)
    refine zV_b (pc' := 181) (lv' := [(0, .inr (.inr p0)), (1, .inr (.inl l1)), (3, .inl p3), (4, .inl l4)]) (st' := [.inl (((4 : Int32) * p3) + l4), .inr (.inr v35), .inr (.inl (l1 * (31 : Int64)))]) [(.iconst 4, 1), (.iload_n 3, 1), (.imul, 1), (.iload 4, 2), (.iadd, 1)] (by decide +kernel) rfl ?_
    refine zV_ai (by decide +kernel) h (fun v36 _ h => ?_)
    refine zV_b (pc' := 188) (lv' := [(4, .inl (l4 + 1)), (1, .inr (.inl ((l1 * (31 : Int64)) + (v36.toInt64)))), (0, .inr (.inr p0)), (3, .inl p3)]) (st' := []) [(.i2l, 1), (.ladd, 1), (.lstore_n 1, 1), (.iinc 4 1, 3)] (by decide +kernel) rfl ?_
    refine zV_goto (off := (-33)) (tgt := 155) (by decide +kernel) (by decide) ?_
    exact zV_lv (lv' := [(0, .inr (.inr p0)), (1, .inr (.inl ((l1 * (31 : Int64)) + (v36.toInt64)))), (3, .inl p3), (4, .inl (l4 + 1))]) [2, 1, 3, 0] rfl (k1 _ (Option.some.inj h).symm)
set_option maxRecDepth 100000 in
theorem zt_X12_digest_L18 {X : Zx} {p0 : Option Nat} {x : Zm × Int64 × Int32} {y : Zm × Int64 × Int32} (h : zwhile (zf_X12_digest_L18 p0) x = some y) (hy : zK_X12_digest_L18 X p0 y) : zP_X12_digest_L18 X p0 x := by
  refine zwhile_ind (P := zP_X12_digest_L18 X p0) (K := zK_X12_digest_L18 X p0) ?_ h hy
  intro x z hf k1 k2
  obtain ⟨M, l1, l3⟩ := x
  have h : zf_X12_digest_L18 p0 (M, l1, l3) = some z := hf
  unfold zf_X12_digest_L18 at h
  show zV X zC_X12_digest M 18 [(0, .inr (.inr p0)), (1, .inr (.inl l1)), (3, .inl l3)] []
  refine zV_b (pc' := 20) (lv' := [(0, .inr (.inr p0)), (1, .inr (.inl l1)), (3, .inl l3)]) (st' := [.inr (.inr p0), .inl l3]) [(.iload_n 3, 1), (.aload_n 0, 1)] (by decide +kernel) rfl ?_
  refine zV_gi (by decide +kernel) zfl_RX12_181 (by decide) rfl (Or.inl rfl) h (fun v4 _ h => ?_)
  refine zV_icmp_ge (off := 174) (tgt := 197) (by decide +kernel) (by decide) h (fun c5 h => ?_) (fun c5 h => ?_)
  · exact zV_lv (lv' := [(0, .inr (.inr p0)), (1, .inr (.inl l1))]) [0, 1] rfl (k2 _ (Option.some.inj h).symm)
  · refine zV_b (pc' := 27) (lv' := [(0, .inr (.inr p0)), (1, .inr (.inl l1)), (3, .inl l3)]) (st' := [.inr (.inl l1)]) [(.lload_n 1, 1)] (by decide +kernel) rfl ?_
    refine zV_ldc2 (by decide +kernel) zw_2043 ?_
    refine zV_b (pc' := 32) (lv' := [(0, .inr (.inr p0)), (1, .inr (.inl l1)), (3, .inl l3)]) (st' := [.inr (.inr p0), .inr (.inl (l1 * (31 : Int64)))]) [(.lmul, 1), (.aload_n 0, 1)] (by decide +kernel) rfl ?_
    refine zV_gr (by decide +kernel) zfl_RX12_9 (by decide) rfl h (fun v7 _ h => ?_)
    refine zV_b (pc' := 36) (lv' := [(0, .inr (.inr p0)), (1, .inr (.inl l1)), (3, .inl l3)]) (st' := [.inl l3, .inr (.inr v7), .inr (.inl (l1 * (31 : Int64)))]) [(.iload_n 3, 1)] (by decide +kernel) rfl ?_
    refine zV_ai (by decide +kernel) h (fun v8 _ h => ?_)
    refine zV_b (pc' := 41) (lv' := [(1, .inr (.inl ((l1 * (31 : Int64)) + (v8.toInt64)))), (0, .inr (.inr p0)), (3, .inl l3)]) (st' := [.inr (.inl ((l1 * (31 : Int64)) + (v8.toInt64)))]) [(.i2l, 1), (.ladd, 1), (.lstore_n 1, 1), (.lload_n 1, 1)] (by decide +kernel) rfl ?_
    refine zV_ldc2 (by decide +kernel) zw_2043 ?_
    refine zV_b (pc' := 46) (lv' := [(1, .inr (.inl ((l1 * (31 : Int64)) + (v8.toInt64)))), (0, .inr (.inr p0)), (3, .inl l3)]) (st' := [.inr (.inr p0), .inr (.inl (((l1 * (31 : Int64)) + (v8.toInt64)) * (31 : Int64)))]) [(.lmul, 1), (.aload_n 0, 1)] (by decide +kernel) rfl ?_
    refine zV_gr (by decide +kernel) zfl_RX12_13 (by decide) rfl h (fun v10 _ h => ?_)
    refine zV_b (pc' := 50) (lv' := [(1, .inr (.inl ((l1 * (31 : Int64)) + (v8.toInt64)))), (0, .inr (.inr p0)), (3, .inl l3)]) (st' := [.inl l3, .inr (.inr v10), .inr (.inl (((l1 * (31 : Int64)) + (v8.toInt64)) * (31 : Int64)))]) [(.iload_n 3, 1)] (by decide +kernel) rfl ?_
    refine zV_ai (by decide +kernel) h (fun v11 _ h => ?_)
    refine zV_b (pc' := 55) (lv' := [(1, .inr (.inl ((((l1 * (31 : Int64)) + (v8.toInt64)) * (31 : Int64)) + (v11.toInt64)))), (0, .inr (.inr p0)), (3, .inl l3)]) (st' := [.inr (.inl ((((l1 * (31 : Int64)) + (v8.toInt64)) * (31 : Int64)) + (v11.toInt64)))]) [(.i2l, 1), (.ladd, 1), (.lstore_n 1, 1), (.lload_n 1, 1)] (by decide +kernel) rfl ?_
    refine zV_ldc2 (by decide +kernel) zw_2043 ?_
    refine zV_b (pc' := 60) (lv' := [(1, .inr (.inl ((((l1 * (31 : Int64)) + (v8.toInt64)) * (31 : Int64)) + (v11.toInt64)))), (0, .inr (.inr p0)), (3, .inl l3)]) (st' := [.inr (.inr p0), .inr (.inl (((((l1 * (31 : Int64)) + (v8.toInt64)) * (31 : Int64)) + (v11.toInt64)) * (31 : Int64)))]) [(.lmul, 1), (.aload_n 0, 1)] (by decide +kernel) rfl ?_
    refine zV_gr (by decide +kernel) zfl_RX12_16 (by decide) rfl h (fun v13 _ h => ?_)
    refine zV_b (pc' := 64) (lv' := [(1, .inr (.inl ((((l1 * (31 : Int64)) + (v8.toInt64)) * (31 : Int64)) + (v11.toInt64)))), (0, .inr (.inr p0)), (3, .inl l3)]) (st' := [.inl l3, .inr (.inr v13), .inr (.inl (((((l1 * (31 : Int64)) + (v8.toInt64)) * (31 : Int64)) + (v11.toInt64)) * (31 : Int64)))]) [(.iload_n 3, 1)] (by decide +kernel) rfl ?_
    refine zV_ai (by decide +kernel) h (fun v14 _ h => ?_)
    refine zV_b (pc' := 69) (lv' := [(1, .inr (.inl ((((((l1 * (31 : Int64)) + (v8.toInt64)) * (31 : Int64)) + (v11.toInt64)) * (31 : Int64)) + (v14.toInt64)))), (0, .inr (.inr p0)), (3, .inl l3)]) (st' := [.inr (.inl ((((((l1 * (31 : Int64)) + (v8.toInt64)) * (31 : Int64)) + (v11.toInt64)) * (31 : Int64)) + (v14.toInt64)))]) [(.i2l, 1), (.ladd, 1), (.lstore_n 1, 1), (.lload_n 1, 1)] (by decide +kernel) rfl ?_
    refine zV_ldc2 (by decide +kernel) zw_2043 ?_
    refine zV_b (pc' := 74) (lv' := [(1, .inr (.inl ((((((l1 * (31 : Int64)) + (v8.toInt64)) * (31 : Int64)) + (v11.toInt64)) * (31 : Int64)) + (v14.toInt64)))), (0, .inr (.inr p0)), (3, .inl l3)]) (st' := [.inr (.inr p0), .inr (.inl (((((((l1 * (31 : Int64)) + (v8.toInt64)) * (31 : Int64)) + (v11.toInt64)) * (31 : Int64)) + (v14.toInt64)) * (31 : Int64)))]) [(.lmul, 1), (.aload_n 0, 1)] (by decide +kernel) rfl ?_
    refine zV_gr (by decide +kernel) zfl_RX12_19 (by decide) rfl h (fun v16 _ h => ?_)
    refine zV_b (pc' := 78) (lv' := [(1, .inr (.inl ((((((l1 * (31 : Int64)) + (v8.toInt64)) * (31 : Int64)) + (v11.toInt64)) * (31 : Int64)) + (v14.toInt64)))), (0, .inr (.inr p0)), (3, .inl l3)]) (st' := [.inl l3, .inr (.inr v16), .inr (.inl (((((((l1 * (31 : Int64)) + (v8.toInt64)) * (31 : Int64)) + (v11.toInt64)) * (31 : Int64)) + (v14.toInt64)) * (31 : Int64)))]) [(.iload_n 3, 1)] (by decide +kernel) rfl ?_
    refine zV_ai (by decide +kernel) h (fun v17 _ h => ?_)
    refine zV_b (pc' := 83) (lv' := [(1, .inr (.inl ((((((((l1 * (31 : Int64)) + (v8.toInt64)) * (31 : Int64)) + (v11.toInt64)) * (31 : Int64)) + (v14.toInt64)) * (31 : Int64)) + (v17.toInt64)))), (0, .inr (.inr p0)), (3, .inl l3)]) (st' := [.inr (.inl ((((((((l1 * (31 : Int64)) + (v8.toInt64)) * (31 : Int64)) + (v11.toInt64)) * (31 : Int64)) + (v14.toInt64)) * (31 : Int64)) + (v17.toInt64)))]) [(.i2l, 1), (.ladd, 1), (.lstore_n 1, 1), (.lload_n 1, 1)] (by decide +kernel) rfl ?_
    refine zV_ldc2 (by decide +kernel) zw_2043 ?_
    refine zV_b (pc' := 89) (lv' := [(1, .inr (.inl ((((((((l1 * (31 : Int64)) + (v8.toInt64)) * (31 : Int64)) + (v11.toInt64)) * (31 : Int64)) + (v14.toInt64)) * (31 : Int64)) + (v17.toInt64)))), (0, .inr (.inr p0)), (3, .inl l3)]) (st' := [.inl l3, .inr (.inr p0), .inr (.inl (((((((((l1 * (31 : Int64)) + (v8.toInt64)) * (31 : Int64)) + (v11.toInt64)) * (31 : Int64)) + (v14.toInt64)) * (31 : Int64)) + (v17.toInt64)) * (31 : Int64)))]) [(.lmul, 1), (.aload_n 0, 1), (.iload_n 3, 1)] (by decide +kernel) rfl ?_
    refine zV_cvi (As := [.inl l3]) (st := [.inr (.inl (((((((((l1 * (31 : Int64)) + (v8.toInt64)) * (31 : Int64)) + (v11.toInt64)) * (31 : Int64)) + (v14.toInt64)) * (31 : Int64)) + (v17.toInt64)) * (31 : Int64)))]) (c := 13) (by decide +kernel) (zcl_X12_parts (by decide) (by decide)) ⟨zw_2044, zw_1975, zw_1976⟩ ⟨⟨_, _, rfl⟩, by decide⟩ rfl rfl (Nat.le_of_ble_eq_true rfl) h (fun _ _ e => zc_X12_parts e) (fun M19 v19 _ h => ?_)
    refine zV_b (pc' := 101) (lv' := [(4, .inl ((60 : Int32) * l3)), (1, .inr (.inl ((((((((((l1 * (31 : Int64)) + (v8.toInt64)) * (31 : Int64)) + (v11.toInt64)) * (31 : Int64)) + (v14.toInt64)) * (31 : Int64)) + (v17.toInt64)) * (31 : Int64)) + (v19.toInt64)))), (0, .inr (.inr p0)), (3, .inl l3)]) (st' := []) [(.i2l, 1), (.ladd, 1), (.lstore_n 1, 1), (.bipush 60, 2), (.iload_n 3, 1), (.imul, 1), (.istore 4, 2)] (by decide +kernel) rfl ?_
    obtain ⟨y30, e30, h⟩ := zb1_inv h
    refine zV_lv (lv' := [(0, .inr (.inr p0)), (1, .inr (.inl ((((((((((l1 * (31 : Int64)) + (v8.toInt64)) * (31 : Int64)) + (v11.toInt64)) * (31 : Int64)) + (v14.toInt64)) * (31 : Int64)) + (v17.toInt64)) * (31 : Int64)) + (v19.toInt64)))), (3, .inl l3), (4, .inl ((60 : Int32) * l3))]) [2, 1, 3, 0] rfl (zt_X12_digest_L101 e30 ?_)
    obtain ⟨M101_30, l1_30, l4_30⟩ := y30
    show zV X zC_X12_digest M101_30 152 [(0, .inr (.inr p0)), (1, .inr (.inl l1_30)), (3, .inl l3)] []
    refine zV_b (pc' := 155) (lv' := [(4, .inl (0 : Int32)), (0, .inr (.inr p0)), (1, .inr (.inl l1_30)), (3, .inl l3)]) (st' := []) [(.iconst 0, 1), (.istore 4, 2)] (by decide +kernel) rfl ?_
    obtain ⟨y38, e38, h⟩ := zb1_inv h
    refine zV_lv (lv' := [(0, .inr (.inr p0)), (1, .inr (.inl l1_30)), (3, .inl l3), (4, .inl (0 : Int32))]) [1, 2, 3, 0] rfl (zt_X12_digest_L155 e38 ?_)
    obtain ⟨M155_38, l1_38, l4_38⟩ := y38
    show zV X zC_X12_digest M155_38 191 [(0, .inr (.inr p0)), (1, .inr (.inl l1_38)), (3, .inl l3)] []
    refine zV_b (pc' := 194) (lv' := [(3, .inl (l3 + 1)), (0, .inr (.inr p0)), (1, .inr (.inl l1_38))]) (st' := []) [(.iinc 3 1, 3)] (by decide +kernel) rfl ?_
    refine zV_goto (off := (-176)) (tgt := 18) (by decide +kernel) (by decide) ?_
    exact zV_lv (lv' := [(0, .inr (.inr p0)), (1, .inr (.inl l1_38)), (3, .inl (l3 + 1))]) [1, 2, 0] rfl (k1 _ (Option.some.inj h).symm)
set_option maxRecDepth 100000 in
theorem zt_X12_digest {X : Zx} {M : Zm} {l0 : Option Nat} {z : Zm × Int64} (h : zf_X12_digest M l0 = some z) (hR : zRj X zC_X12_digest z.1 z.2) : zV X zC_X12_digest M 0 [(0, .inr (.inr l0))] [] := by
  unfold zf_X12_digest at h
  refine zV_ldc2 (by decide +kernel) zw_2042 ?_
  refine zV_b (pc' := 5) (lv' := [(1, .inr (.inl (7 : Int64))), (0, .inr (.inr l0))]) (st' := [.inr (.inl (7 : Int64))]) [(.lstore_n 1, 1), (.lload_n 1, 1)] (by decide +kernel) rfl ?_
  refine zV_ldc2 (by decide +kernel) zw_2043 ?_
  refine zV_b (pc' := 10) (lv' := [(1, .inr (.inl (7 : Int64))), (0, .inr (.inr l0))]) (st' := [.inr (.inr l0), .inr (.inl ((7 : Int64) * (31 : Int64)))]) [(.lmul, 1), (.aload_n 0, 1)] (by decide +kernel) rfl ?_
  refine zV_gi (by decide +kernel) zfl_RX12_181 (by decide) rfl (Or.inl rfl) h (fun v3 _ h => ?_)
  refine zV_b (pc' := 18) (lv' := [(3, .inl (0 : Int32)), (1, .inr (.inl (((7 : Int64) * (31 : Int64)) + (v3.toInt64)))), (0, .inr (.inr l0))]) (st' := []) [(.i2l, 1), (.ladd, 1), (.lstore_n 1, 1), (.iconst 0, 1), (.istore_n 3, 1)] (by decide +kernel) rfl ?_
  obtain ⟨y40, e40, h⟩ := zb1_inv h
  refine zV_lv (lv' := [(0, .inr (.inr l0)), (1, .inr (.inl (((7 : Int64) * (31 : Int64)) + (v3.toInt64)))), (3, .inl (0 : Int32))]) [2, 1, 0] rfl (zt_X12_digest_L18 e40 ?_)
  obtain ⟨M18_40, l1_40, l3_40⟩ := y40
  show zV X zC_X12_digest M18_40 197 [(0, .inr (.inr l0)), (1, .inr (.inl l1_40))] []
  refine zV_b (pc' := 198) (lv' := [(0, .inr (.inr l0)), (1, .inr (.inl l1_40))]) (st' := [.inr (.inl l1_40)]) [(.lload_n 1, 1)] (by decide +kernel) rfl ?_
  refine zV_ldc2 (by decide +kernel) zw_2043 ?_
  refine zV_b (pc' := 203) (lv' := [(0, .inr (.inr l0)), (1, .inr (.inl l1_40))]) (st' := [.inr (.inr l0), .inr (.inl (l1_40 * (31 : Int64)))]) [(.lmul, 1), (.aload_n 0, 1)] (by decide +kernel) rfl ?_
  refine zV_gi (by decide +kernel) zfl_RX12_205 (by decide) rfl (Or.inl rfl) h (fun v42 _ h => ?_)
  refine zV_b (pc' := 210) (lv' := [(1, .inr (.inl ((l1_40 * (31 : Int64)) + (v42.toInt64)))), (0, .inr (.inr l0))]) (st' := [.inr (.inl ((l1_40 * (31 : Int64)) + (v42.toInt64)))]) [(.i2l, 1), (.ladd, 1), (.lstore_n 1, 1), (.lload_n 1, 1)] (by decide +kernel) rfl ?_
  refine zV_ldc2 (by decide +kernel) zw_2043 ?_
  refine zV_b (pc' := 215) (lv' := [(1, .inr (.inl ((l1_40 * (31 : Int64)) + (v42.toInt64)))), (0, .inr (.inr l0))]) (st' := [.inr (.inr l0), .inr (.inl (((l1_40 * (31 : Int64)) + (v42.toInt64)) * (31 : Int64)))]) [(.lmul, 1), (.aload_n 0, 1)] (by decide +kernel) rfl ?_
  refine zV_gi (by decide +kernel) zfl_RX12_189 (by decide) rfl (Or.inl rfl) h (fun v44 _ h => ?_)
  refine zV_b (pc' := 220) (lv' := [(1, .inr (.inl ((l1_40 * (31 : Int64)) + (v42.toInt64)))), (0, .inr (.inr l0))]) (st' := [.inr (.inl ((((l1_40 * (31 : Int64)) + (v42.toInt64)) * (31 : Int64)) + (v44.toInt64)))]) [(.i2l, 1), (.ladd, 1)] (by decide +kernel) rfl ?_
  exact zend_j h hR (by decide +kernel)
theorem zc_X12_digest {M M' : Zm} {l0 : Option Nat} {x : Int64} (h : zf_X12_digest M l0 = some (M', x)) (l : Launch) (D : va_G) (cy : Nat → ClassId) : zMet l yX12_digest zC_X12_digest (some .long) D cy [.inr (.inr l0)] M M' (some (.inr (.inl x))) :=
  zM_j (by decide) rfl (fun h => by cases h) (Nat.le_of_ble_eq_true rfl) (fun X hR => zt_X12_digest h hR)
-- BlendCellarModel.drain(IJI)J
def zC_X12_drain : Zc := (cX12_drain, 6, RX12, 3, 81, false)
theorem zcl_X12_drain {C : Zc} (h1 : zC_X12_drain.2.2.2.1 + 1 ≤ C.2.2.2.1) (h2 : 8 + (zC_X12_drain.2.1 + 11) + zC_X12_drain.2.2.2.2.1 ≤ C.2.2.2.2.1) : zCl C yX12_drain zC_X12_drain (some .long) 3 := ⟨zw_1865, zw_114, ⟨by decide, by decide⟩, by decide +kernel, h1, h2⟩
noncomputable def zf_X12_drain_J24 (M : Zm) (l0 : Option Nat) : Option (Zm × Int64) :=
  zb1 (zo_rc M l0 13) (fun _ => zbd (zf_X12_no M l0 (1 : Int32)) (fun M3 v3 =>
  some (M3, v3)))
noncomputable def zf_X12_drain (M : Zm) (l0 : Option Nat) (l1 : Int32) (l2 : Int64) (l4 : Int32) : Option (Zm × Int64) :=
  zb1 (zo_rc M l0 13) (fun _ => zbd (zf_X12_begin M l0) (fun M1 _ =>
  (if l4 < (1 : Int32) then
  zf_X12_drain_J24 M1 l0
  else
  (if (2 : Int32) < l4 then
  zf_X12_drain_J24 M1 l0
  else
  zb1 (zo_rc M1 l0 13) (fun _ => zbd (zf_X12_isAmount M1 l0 l2) (fun M6 v6 =>
  (if v6 = 0 then
  zf_X12_drain_J24 M6 l0
  else
  zb1 (zo_rc M6 l0 13) (fun _ => zbd (zf_X12_lookedVessel M6 l0 l1) (fun M8 v8 =>
  (if v8 ≤ 0 then
  zb1 (zo_rc M8 l0 13) (fun _ => zbd (zf_X12_isInCask M8 l0 l1) (fun M10 v10 =>
  (if v10 = 0 then
  zb1 (zo_gr M10 l0 13 8) (fun v12 =>
  zb1 (zo_ai M10 v12 l1) (fun v13 =>
  (if v13 = 0 then
  zb1 (zo_rc M10 l0 13) (fun _ => zbd (zf_X12_no M10 l0 (2 : Int32)) (fun M15 v15 =>
  some (M15, v15)))
  else
  zb1 (zo_rc M10 l0 13) (fun _ => zbd (zf_X12_inVessel M10 l0 l1) (fun M17 v17 =>
  (if l2 ≤ v17 then
  zb1 (zo_rc M17 l0 13) (fun _ => zbd (zf_X12_keep M17 l0) (fun M19 _ =>
  zb1 (zo_rc M19 l0 13) (fun _ => zbd (zf_X12_take M19 l0 l1 l2 (l4 + (1 : Int32))) (fun M20 _ =>
  zb1 (zo_rc M20 l0 13) (fun _ => zbd (zf_X12_enter M20 l0 (l4 + (6 : Int32)) l1 (-1 : Int32) l2) (fun M21 _ =>
  zb1 (zo_rc M21 l0 13) (fun _ => zbd (zf_X12_inVessel M21 l0 l1) (fun M22 v22 =>
  some (M22, v22)))))))))
  else
  zb1 (zo_rc M17 l0 13) (fun _ => zbd (zf_X12_no M17 l0 (10 : Int32)) (fun M24 v24 =>
  some (M24, v24)))))))))
  else
  zb1 (zo_rc M10 l0 13) (fun _ => zbd (zf_X12_no M10 l0 (9 : Int32)) (fun M26 v26 =>
  some (M26, v26))))))
  else
  zb1 (zo_rc M8 l0 13) (fun _ => zbd (zf_X12_no M8 l0 v8) (fun M28 v28 =>
  some (M28, v28)))))))))))))
set_option maxRecDepth 100000 in
theorem zt_X12_drain_J24 {X : Zx} {M : Zm} {l0 : Option Nat} {z : Zm × Int64} (h : zf_X12_drain_J24 M l0 = some z) (hR : zRj X zC_X12_drain z.1 z.2) : zV X zC_X12_drain M 24 [(0, .inr (.inr l0))] [] := by
  unfold zf_X12_drain_J24 at h
  refine zV_b (pc' := 26) (lv' := [(0, .inr (.inr l0))]) (st' := [.inl (1 : Int32), .inr (.inr l0)]) [(.aload_n 0, 1), (.iconst 1, 1)] (by decide +kernel) rfl ?_
  refine zV_cvj (As := [.inl (1 : Int32)]) (st := []) (c := 13) (by decide +kernel) (zcl_X12_no (by decide) (by decide)) ⟨zw_1677, zw_1679, zw_59⟩ ⟨⟨_, _, rfl⟩, by decide⟩ rfl rfl (Nat.le_of_ble_eq_true rfl) h (fun _ _ e => zc_X12_no e) (fun M3 v3 _ h => ?_)
  exact zend_j h hR (by decide +kernel)
set_option maxRecDepth 100000 in
theorem zt_X12_drain {X : Zx} {M : Zm} {l0 : Option Nat} {l1 : Int32} {l2 : Int64} {l4 : Int32} {z : Zm × Int64} (h : zf_X12_drain M l0 l1 l2 l4 = some z) (hR : zRj X zC_X12_drain z.1 z.2) : zV X zC_X12_drain M 0 [(0, .inr (.inr l0)), (1, .inl l1), (2, .inr (.inl l2)), (4, .inl l4)] [] := by
  unfold zf_X12_drain at h
  refine zV_b (pc' := 1) (lv' := [(0, .inr (.inr l0)), (1, .inl l1), (2, .inr (.inl l2)), (4, .inl l4)]) (st' := [.inr (.inr l0)]) [(.aload_n 0, 1)] (by decide +kernel) rfl ?_
  refine zV_cvv (As := []) (st := []) (c := 13) (by decide +kernel) (zcl_X12_begin (by decide) (by decide)) ⟨zw_1673, zw_1675, zw_58⟩ ⟨⟨_, _, rfl⟩, by decide⟩ rfl rfl (Nat.le_of_ble_eq_true rfl) h (fun _ _ e => zc_X12_begin e) (fun M1 _ _ h => ?_)
  refine zV_b (pc' := 7) (lv' := [(0, .inr (.inr l0)), (1, .inl l1), (2, .inr (.inl l2)), (4, .inl l4)]) (st' := [.inl (1 : Int32), .inl l4]) [(.iload 4, 2), (.iconst 1, 1)] (by decide +kernel) rfl ?_
  refine zV_icmp_lt (off := 17) (tgt := 24) (by decide +kernel) (by decide) h (fun c2 h => ?_) (fun c2 h => ?_)
  · exact zV_lv (lv' := [(0, .inr (.inr l0))]) [0] rfl (zt_X12_drain_J24 h hR)
  · refine zV_b (pc' := 13) (lv' := [(0, .inr (.inr l0)), (1, .inl l1), (2, .inr (.inl l2)), (4, .inl l4)]) (st' := [.inl (2 : Int32), .inl l4]) [(.iload 4, 2), (.iconst 2, 1)] (by decide +kernel) rfl ?_
    refine zV_icmp_gt (off := 11) (tgt := 24) (by decide +kernel) (by decide) h (fun c5 h => ?_) (fun c5 h => ?_)
    · exact zV_lv (lv' := [(0, .inr (.inr l0))]) [0] rfl (zt_X12_drain_J24 h hR)
    · refine zV_b (pc' := 18) (lv' := [(0, .inr (.inr l0)), (1, .inl l1), (2, .inr (.inl l2)), (4, .inl l4)]) (st' := [.inr (.inl l2), .inr (.inr l0)]) [(.aload_n 0, 1), (.lload_n 2, 1)] (by decide +kernel) rfl ?_
      refine zV_cvi (As := [.inr (.inl l2)]) (st := []) (c := 13) (by decide +kernel) (zcl_X12_isAmount (by decide) (by decide)) ⟨zw_1734, zw_1736, zw_65⟩ ⟨⟨_, _, rfl⟩, by decide⟩ rfl rfl (Nat.le_of_ble_eq_true rfl) h (fun _ _ e => zc_X12_isAmount e) (fun M6 v6 _ h => ?_)
      refine zV_if_ne (off := 9) (tgt := 30) (by decide +kernel) (by decide) h (fun c7 h => ?_) (fun c7 h => ?_)
      · exact zV_lv (lv' := [(0, .inr (.inr l0))]) [0] rfl (zt_X12_drain_J24 h hR)
      · refine zV_b (pc' := 32) (lv' := [(0, .inr (.inr l0)), (1, .inl l1), (2, .inr (.inl l2)), (4, .inl l4)]) (st' := [.inl l1, .inr (.inr l0)]) [(.aload_n 0, 1), (.iload_n 1, 1)] (by decide +kernel) rfl ?_
        refine zV_cvi (As := [.inl l1]) (st := []) (c := 13) (by decide +kernel) (zcl_X12_lookedVessel (by decide) (by decide)) ⟨zw_1699, zw_1701, zw_62⟩ ⟨⟨_, _, rfl⟩, by decide⟩ rfl rfl (Nat.le_of_ble_eq_true rfl) h (fun _ _ e => zc_X12_lookedVessel e) (fun M8 v8 _ h => ?_)
        refine zV_b (pc' := 39) (lv' := [(5, .inl v8), (0, .inr (.inr l0)), (1, .inl l1), (2, .inr (.inl l2)), (4, .inl l4)]) (st' := [.inl v8]) [(.istore 5, 2), (.iload 5, 2)] (by decide +kernel) rfl ?_
        refine zV_if_le (off := 10) (tgt := 49) (by decide +kernel) (by decide) h (fun c9 h => ?_) (fun c9 h => ?_)
        · refine zV_b (pc' := 51) (lv' := [(5, .inl v8), (0, .inr (.inr l0)), (1, .inl l1), (2, .inr (.inl l2)), (4, .inl l4)]) (st' := [.inl l1, .inr (.inr l0)]) [(.aload_n 0, 1), (.iload_n 1, 1)] (by decide +kernel) rfl ?_
          refine zV_cvi (As := [.inl l1]) (st := []) (c := 13) (by decide +kernel) (zcl_X12_isInCask (by decide) (by decide)) ⟨zw_1739, zw_1741, zw_66⟩ ⟨⟨_, _, rfl⟩, by decide⟩ rfl rfl (Nat.le_of_ble_eq_true rfl) h (fun _ _ e => zc_X12_isInCask e) (fun M10 v10 _ h => ?_)
          refine zV_if_eq (off := 10) (tgt := 64) (by decide +kernel) (by decide) h (fun c11 h => ?_) (fun c11 h => ?_)
          · refine zV_b (pc' := 65) (lv' := [(5, .inl v8), (0, .inr (.inr l0)), (1, .inl l1), (2, .inr (.inl l2)), (4, .inl l4)]) (st' := [.inr (.inr l0)]) [(.aload_n 0, 1)] (by decide +kernel) rfl ?_
            refine zV_gr (by decide +kernel) zfl_RX12_28 (by decide) rfl h (fun v12 _ h => ?_)
            refine zV_b (pc' := 69) (lv' := [(5, .inl v8), (0, .inr (.inr l0)), (1, .inl l1), (2, .inr (.inl l2)), (4, .inl l4)]) (st' := [.inl l1, .inr (.inr v12)]) [(.iload_n 1, 1)] (by decide +kernel) rfl ?_
            refine zV_ai (by decide +kernel) h (fun v13 _ h => ?_)
            refine zV_if_ne (off := 9) (tgt := 79) (by decide +kernel) (by decide) h (fun c14 h => ?_) (fun c14 h => ?_)
            · refine zV_b (pc' := 75) (lv' := [(5, .inl v8), (0, .inr (.inr l0)), (1, .inl l1), (2, .inr (.inl l2)), (4, .inl l4)]) (st' := [.inl (2 : Int32), .inr (.inr l0)]) [(.aload_n 0, 1), (.iconst 2, 1)] (by decide +kernel) rfl ?_
              refine zV_cvj (As := [.inl (2 : Int32)]) (st := []) (c := 13) (by decide +kernel) (zcl_X12_no (by decide) (by decide)) ⟨zw_1677, zw_1679, zw_59⟩ ⟨⟨_, _, rfl⟩, by decide⟩ rfl rfl (Nat.le_of_ble_eq_true rfl) h (fun _ _ e => zc_X12_no e) (fun M15 v15 _ h => ?_)
              exact zend_j h hR (by decide +kernel)
            · refine zV_b (pc' := 82) (lv' := [(5, .inl v8), (0, .inr (.inr l0)), (1, .inl l1), (2, .inr (.inl l2)), (4, .inl l4)]) (st' := [.inl l1, .inr (.inr l0), .inr (.inl l2)]) [(.lload_n 2, 1), (.aload_n 0, 1), (.iload_n 1, 1)] (by decide +kernel) rfl ?_
              refine zV_cvj (As := [.inl l1]) (st := [.inr (.inl l2)]) (c := 13) (by decide +kernel) (zcl_X12_inVessel (by decide) (by decide)) ⟨zw_1759, zw_1761, zw_70⟩ ⟨⟨_, _, rfl⟩, by decide⟩ rfl rfl (Nat.le_of_ble_eq_true rfl) h (fun _ _ e => zc_X12_inVessel e) (fun M17 v17 _ h => ?_)
              refine zV_lcmp_le (off := 10) (tgt := 96) (by decide +kernel) (by decide +kernel) (by decide) h (fun c18 h => ?_) (fun c18 h => ?_)
              · refine zV_b (pc' := 97) (lv' := [(5, .inl v8), (0, .inr (.inr l0)), (1, .inl l1), (2, .inr (.inl l2)), (4, .inl l4)]) (st' := [.inr (.inr l0)]) [(.aload_n 0, 1)] (by decide +kernel) rfl ?_
                refine zV_cvv (As := []) (st := []) (c := 13) (by decide +kernel) (zcl_X12_keep (by decide) (by decide)) ⟨zw_1681, zw_1683, zw_60⟩ ⟨⟨_, _, rfl⟩, by decide⟩ rfl rfl (Nat.le_of_ble_eq_true rfl) h (fun _ _ e => zc_X12_keep e) (fun M19 _ _ h => ?_)
                refine zV_b (pc' := 107) (lv' := [(5, .inl v8), (0, .inr (.inr l0)), (1, .inl l1), (2, .inr (.inl l2)), (4, .inl l4)]) (st' := [.inl (l4 + (1 : Int32)), .inr (.inl l2), .inl l1, .inr (.inr l0)]) [(.aload_n 0, 1), (.iload_n 1, 1), (.lload_n 2, 1), (.iload 4, 2), (.iconst 1, 1), (.iadd, 1)] (by decide +kernel) rfl ?_
                refine zV_cvv (As := [.inl l1, .inr (.inl l2), .inl (l4 + (1 : Int32))]) (st := []) (c := 13) (by decide +kernel) (zcl_X12_take (by decide) (by decide)) ⟨zw_1815, zw_1817, zw_83⟩ ⟨⟨_, _, rfl⟩, by decide⟩ rfl rfl (Nat.le_of_ble_eq_true rfl) h (fun _ _ e => zc_X12_take e) (fun M20 _ _ h => ?_)
                refine zV_b (pc' := 119) (lv' := [(5, .inl v8), (0, .inr (.inr l0)), (1, .inl l1), (2, .inr (.inl l2)), (4, .inl l4)]) (st' := [.inr (.inl l2), .inl (-1 : Int32), .inl l1, .inl (l4 + (6 : Int32)), .inr (.inr l0)]) [(.aload_n 0, 1), (.iload 4, 2), (.bipush 6, 2), (.iadd, 1), (.iload_n 1, 1), (.iconst (-1), 1), (.lload_n 2, 1)] (by decide +kernel) rfl ?_
                refine zV_cvv (As := [.inl (l4 + (6 : Int32)), .inl l1, .inl (-1 : Int32), .inr (.inl l2)]) (st := []) (c := 13) (by decide +kernel) (zcl_X12_enter (by decide) (by decide)) ⟨zw_1787, zw_1789, zw_77⟩ ⟨⟨_, _, rfl⟩, by decide⟩ rfl rfl (Nat.le_of_ble_eq_true rfl) h (fun _ _ e => zc_X12_enter e) (fun M21 _ _ h => ?_)
                refine zV_b (pc' := 124) (lv' := [(5, .inl v8), (0, .inr (.inr l0)), (1, .inl l1), (2, .inr (.inl l2)), (4, .inl l4)]) (st' := [.inl l1, .inr (.inr l0)]) [(.aload_n 0, 1), (.iload_n 1, 1)] (by decide +kernel) rfl ?_
                refine zV_cvj (As := [.inl l1]) (st := []) (c := 13) (by decide +kernel) (zcl_X12_inVessel (by decide) (by decide)) ⟨zw_1759, zw_1761, zw_70⟩ ⟨⟨_, _, rfl⟩, by decide⟩ rfl rfl (Nat.le_of_ble_eq_true rfl) h (fun _ _ e => zc_X12_inVessel e) (fun M22 v22 _ h => ?_)
                exact zend_j h hR (by decide +kernel)
              · refine zV_b (pc' := 92) (lv' := [(5, .inl v8), (0, .inr (.inr l0)), (1, .inl l1), (2, .inr (.inl l2)), (4, .inl l4)]) (st' := [.inl (10 : Int32), .inr (.inr l0)]) [(.aload_n 0, 1), (.bipush 10, 2)] (by decide +kernel) rfl ?_
                refine zV_cvj (As := [.inl (10 : Int32)]) (st := []) (c := 13) (by decide +kernel) (zcl_X12_no (by decide) (by decide)) ⟨zw_1677, zw_1679, zw_59⟩ ⟨⟨_, _, rfl⟩, by decide⟩ rfl rfl (Nat.le_of_ble_eq_true rfl) h (fun _ _ e => zc_X12_no e) (fun M24 v24 _ h => ?_)
                exact zend_j h hR (by decide +kernel)
          · refine zV_b (pc' := 60) (lv' := [(5, .inl v8), (0, .inr (.inr l0)), (1, .inl l1), (2, .inr (.inl l2)), (4, .inl l4)]) (st' := [.inl (9 : Int32), .inr (.inr l0)]) [(.aload_n 0, 1), (.bipush 9, 2)] (by decide +kernel) rfl ?_
            refine zV_cvj (As := [.inl (9 : Int32)]) (st := []) (c := 13) (by decide +kernel) (zcl_X12_no (by decide) (by decide)) ⟨zw_1677, zw_1679, zw_59⟩ ⟨⟨_, _, rfl⟩, by decide⟩ rfl rfl (Nat.le_of_ble_eq_true rfl) h (fun _ _ e => zc_X12_no e) (fun M26 v26 _ h => ?_)
            exact zend_j h hR (by decide +kernel)
        · refine zV_b (pc' := 45) (lv' := [(5, .inl v8), (0, .inr (.inr l0)), (1, .inl l1), (2, .inr (.inl l2)), (4, .inl l4)]) (st' := [.inl v8, .inr (.inr l0)]) [(.aload_n 0, 1), (.iload 5, 2)] (by decide +kernel) rfl ?_
          refine zV_cvj (As := [.inl v8]) (st := []) (c := 13) (by decide +kernel) (zcl_X12_no (by decide) (by decide)) ⟨zw_1677, zw_1679, zw_59⟩ ⟨⟨_, _, rfl⟩, by decide⟩ rfl rfl (Nat.le_of_ble_eq_true rfl) h (fun _ _ e => zc_X12_no e) (fun M28 v28 _ h => ?_)
          exact zend_j h hR (by decide +kernel)
theorem zc_X12_drain {M M' : Zm} {l0 : Option Nat} {l1 : Int32} {l2 : Int64} {l4 : Int32} {x : Int64} (h : zf_X12_drain M l0 l1 l2 l4 = some (M', x)) (l : Launch) (D : va_G) (cy : Nat → ClassId) : zMet l yX12_drain zC_X12_drain (some .long) D cy [.inr (.inr l0), .inl l1, .inr (.inl l2), .inl l4] M M' (some (.inr (.inl x))) :=
  zM_j (by decide) rfl (fun h => by cases h) (Nat.le_of_ble_eq_true rfl) (fun X hR => zt_X12_drain h hR)
-- BlendCellarModel.entries()I
def zC_X12_entries : Zc := (cX12_entries, 1, RX12, 0, 0, false)
theorem zcl_X12_entries {C : Zc} (h1 : zC_X12_entries.2.2.2.1 + 1 ≤ C.2.2.2.1) (h2 : 8 + (zC_X12_entries.2.1 + 11) + zC_X12_entries.2.2.2.2.1 ≤ C.2.2.2.2.1) : zCl C yX12_entries zC_X12_entries (some .int) 0 := ⟨zw_2005, zw_114, ⟨by decide, by decide⟩, by decide +kernel, h1, h2⟩
noncomputable def zf_X12_entries (M : Zm) (l0 : Option Nat) : Option (Zm × Int32) :=
  zb1 (zo_gi M l0 13 19) (fun v1 =>
  some (M, v1))
set_option maxRecDepth 100000 in
theorem zt_X12_entries {X : Zx} {M : Zm} {l0 : Option Nat} {z : Zm × Int32} (h : zf_X12_entries M l0 = some z) (hR : zRi X zC_X12_entries z.1 z.2) : zV X zC_X12_entries M 0 [(0, .inr (.inr l0))] [] := by
  unfold zf_X12_entries at h
  refine zV_b (pc' := 1) (lv' := [(0, .inr (.inr l0))]) (st' := [.inr (.inr l0)]) [(.aload_n 0, 1)] (by decide +kernel) rfl ?_
  refine zV_gi (by decide +kernel) zfl_RX12_189 (by decide) rfl (Or.inl rfl) h (fun v1 _ h => ?_)
  exact zend_i h hR (by decide +kernel)
theorem zc_X12_entries {M M' : Zm} {l0 : Option Nat} {x : Int32} (h : zf_X12_entries M l0 = some (M', x)) (l : Launch) (D : va_G) (cy : Nat → ClassId) : zMet l yX12_entries zC_X12_entries (some .int) D cy [.inr (.inr l0)] M M' (some (.inl x)) :=
  zM_i (by decide) rfl (fun h => by cases h) (Nat.le_of_ble_eq_true rfl) (fun X hR => zt_X12_entries h hR)
-- BlendCellarModel.entry(II)J
def zC_X12_entry : Zc := (cX12_entry, 3, RX12, 0, 0, false)
theorem zcl_X12_entry {C : Zc} (h1 : zC_X12_entry.2.2.2.1 + 1 ≤ C.2.2.2.1) (h2 : 8 + (zC_X12_entry.2.1 + 11) + zC_X12_entry.2.2.2.2.1 ≤ C.2.2.2.2.1) : zCl C yX12_entry zC_X12_entry (some .long) 2 := ⟨zw_2009, zw_114, ⟨by decide, by decide⟩, by decide +kernel, h1, h2⟩
noncomputable def zf_X12_entry_J21 (M : Zm)  : Option (Zm × Int64) :=
  some (M, (-1 : Int64))
noncomputable def zf_X12_entry (M : Zm) (l0 : Option Nat) (l1 : Int32) (l2 : Int32) : Option (Zm × Int64) :=
  (if l1 < 0 then
  zf_X12_entry_J21 M
  else
  zb1 (zo_gi M l0 13 19) (fun v5 =>
  (if v5 ≤ l1 then
  zf_X12_entry_J21 M
  else
  (if l2 < 0 then
  zf_X12_entry_J21 M
  else
  (if l2 ≤ (3 : Int32) then
  zb1 (zo_gr M l0 13 20) (fun v9 =>
  zb1 (zo_aj M v9 (((4 : Int32) * l1) + l2)) (fun v10 =>
  some (M, v10)))
  else
  zf_X12_entry_J21 M)))))
set_option maxRecDepth 100000 in
theorem zt_X12_entry_J21 {X : Zx} {M : Zm}  {z : Zm × Int64} (h : zf_X12_entry_J21 M  = some z) (hR : zRj X zC_X12_entry z.1 z.2) : zV X zC_X12_entry M 21 [] [] := by
  unfold zf_X12_entry_J21 at h
  refine zV_ldc2 (by decide +kernel) zw_1933 ?_
  refine zV_goto (off := 13) (tgt := 37) (by decide +kernel) (by decide) ?_
  exact zend_j h hR (by decide +kernel)
set_option maxRecDepth 100000 in
theorem zt_X12_entry {X : Zx} {M : Zm} {l0 : Option Nat} {l1 : Int32} {l2 : Int32} {z : Zm × Int64} (h : zf_X12_entry M l0 l1 l2 = some z) (hR : zRj X zC_X12_entry z.1 z.2) : zV X zC_X12_entry M 0 [(0, .inr (.inr l0)), (1, .inl l1), (2, .inl l2)] [] := by
  unfold zf_X12_entry at h
  refine zV_b (pc' := 1) (lv' := [(0, .inr (.inr l0)), (1, .inl l1), (2, .inl l2)]) (st' := [.inl l1]) [(.iload_n 1, 1)] (by decide +kernel) rfl ?_
  refine zV_if_lt (off := 20) (tgt := 21) (by decide +kernel) (by decide) h (fun c1 h => ?_) (fun c1 h => ?_)
  · exact zV_lv (lv' := []) [] rfl (zt_X12_entry_J21 h hR)
  · refine zV_b (pc' := 6) (lv' := [(0, .inr (.inr l0)), (1, .inl l1), (2, .inl l2)]) (st' := [.inr (.inr l0), .inl l1]) [(.iload_n 1, 1), (.aload_n 0, 1)] (by decide +kernel) rfl ?_
    refine zV_gi (by decide +kernel) zfl_RX12_189 (by decide) rfl (Or.inl rfl) h (fun v5 _ h => ?_)
    refine zV_icmp_ge (off := 12) (tgt := 21) (by decide +kernel) (by decide) h (fun c6 h => ?_) (fun c6 h => ?_)
    · exact zV_lv (lv' := []) [] rfl (zt_X12_entry_J21 h hR)
    · refine zV_b (pc' := 13) (lv' := [(0, .inr (.inr l0)), (1, .inl l1), (2, .inl l2)]) (st' := [.inl l2]) [(.iload_n 2, 1)] (by decide +kernel) rfl ?_
      refine zV_if_lt (off := 8) (tgt := 21) (by decide +kernel) (by decide) h (fun c7 h => ?_) (fun c7 h => ?_)
      · exact zV_lv (lv' := []) [] rfl (zt_X12_entry_J21 h hR)
      · refine zV_b (pc' := 18) (lv' := [(0, .inr (.inr l0)), (1, .inl l1), (2, .inl l2)]) (st' := [.inl (3 : Int32), .inl l2]) [(.iload_n 2, 1), (.iconst 3, 1)] (by decide +kernel) rfl ?_
        refine zV_icmp_le (off := 9) (tgt := 27) (by decide +kernel) (by decide) h (fun c8 h => ?_) (fun c8 h => ?_)
        · refine zV_b (pc' := 28) (lv' := [(0, .inr (.inr l0)), (1, .inl l1), (2, .inl l2)]) (st' := [.inr (.inr l0)]) [(.aload_n 0, 1)] (by decide +kernel) rfl ?_
          refine zV_gr (by decide +kernel) zfl_RX12_57 (by decide) rfl h (fun v9 _ h => ?_)
          refine zV_b (pc' := 36) (lv' := [(0, .inr (.inr l0)), (1, .inl l1), (2, .inl l2)]) (st' := [.inl (((4 : Int32) * l1) + l2), .inr (.inr v9)]) [(.iconst 4, 1), (.iload_n 1, 1), (.imul, 1), (.iload_n 2, 1), (.iadd, 1)] (by decide +kernel) rfl ?_
          refine zV_aj (by decide +kernel) h (fun v10 _ h => ?_)
          exact zend_j h hR (by decide +kernel)
        · exact zV_lv (lv' := []) [] rfl (zt_X12_entry_J21 h hR)
theorem zc_X12_entry {M M' : Zm} {l0 : Option Nat} {l1 : Int32} {l2 : Int32} {x : Int64} (h : zf_X12_entry M l0 l1 l2 = some (M', x)) (l : Launch) (D : va_G) (cy : Nat → ClassId) : zMet l yX12_entry zC_X12_entry (some .long) D cy [.inr (.inr l0), .inl l1, .inl l2] M M' (some (.inr (.inl x))) :=
  zM_j (by decide) rfl (fun h => by cases h) (Nat.le_of_ble_eq_true rfl) (fun X hR => zt_X12_entry h hR)
-- BlendCellarModel.fill(IIJ)J
def zC_X12_fill : Zc := (cX12_fill, 9, RX12, 4, 97, false)
theorem zcl_X12_fill {C : Zc} (h1 : zC_X12_fill.2.2.2.1 + 1 ≤ C.2.2.2.1) (h2 : 8 + (zC_X12_fill.2.1 + 11) + zC_X12_fill.2.2.2.2.1 ≤ C.2.2.2.2.1) : zCl C yX12_fill zC_X12_fill (some .long) 3 := ⟨zw_1733, zw_114, ⟨by decide, by decide⟩, by decide +kernel, h1, h2⟩
noncomputable def zf_X12_fill_J23 (M : Zm) (l0 : Option Nat) : Option (Zm × Int64) :=
  zb1 (zo_rc M l0 13) (fun _ => zbd (zf_X12_no M l0 (1 : Int32)) (fun M3 v3 =>
  some (M3, v3)))
noncomputable def zf_X12_fill_J122 (M : Zm) (l0 : Option Nat) : Option (Zm × Int64) :=
  zb1 (zo_rc M l0 13) (fun _ => zbd (zf_X12_no M l0 (12 : Int32)) (fun M19 v19 =>
  some (M19, v19)))
noncomputable def zf_X12_fill (M : Zm) (l0 : Option Nat) (l1 : Int32) (l2 : Int32) (l3 : Int64) : Option (Zm × Int64) :=
  zb1 (zo_rc M l0 13) (fun _ => zbd (zf_X12_begin M l0) (fun M1 _ =>
  (if l2 < 0 then
  zf_X12_fill_J23 M1 l0
  else
  (if (4096 : Int32) ≤ l2 then
  zf_X12_fill_J23 M1 l0
  else
  zb1 (zo_rc M1 l0 13) (fun _ => zbd (zf_X12_isAmount M1 l0 l3) (fun M6 v6 =>
  (if v6 = 0 then
  zf_X12_fill_J23 M6 l0
  else
  zb1 (zo_rc M6 l0 13) (fun _ => zbd (zf_X12_lookedVessel M6 l0 l1) (fun M8 v8 =>
  (if v8 ≤ 0 then
  zb1 (zo_rc M8 l0 13) (fun _ => zbd (zf_X12_isInCask M8 l0 l1) (fun M10 v10 =>
  (if v10 = 0 then
  zb1 (zo_rc M10 l0 13) (fun _ => zbd (zf_X12_most M10 l0 l1) (fun M12 v12 =>
  zb1 (zo_rc M12 l0 13) (fun _ => zbd (zf_X12_inVessel M12 l0 l1) (fun M13 v13 =>
  (if (v13 + l3) ≤ v12 then
  zb1 (zo_pi M13 l0 13 60 (0 : Int32)) (fun M15 =>
  zb1 (zo_rc M15 l0 13) (fun _ => zbd (zf_X12_mixInto M15 l0 l1) (fun M16 v16 =>
  zb1 (zo_rc M16 l0 13) (fun _ => zbd (zf_X12_mix M16 l0 l2 l3) (fun M17 _ =>
  (if v16 = 0 then
  zf_X12_fill_J122 M17 l0
  else
  zb1 (zo_gi M17 l0 13 64) (fun v21 =>
  (if v21 ≤ (60 : Int32) then
  zb1 (zo_rc M17 l0 13) (fun _ => zbd (zf_X12_keep M17 l0) (fun M23 _ =>
  zb1 (zo_rc M23 l0 13) (fun _ => zbd (zf_X12_become M23 l0 l1) (fun M24 _ =>
  zb1 (zo_rc M24 l0 13) (fun _ => zbd (zf_X12_account M24 l0 l2 (0 : Int32) l3) (fun M25 _ =>
  zb1 (zo_rc M25 l0 13) (fun _ => zbd (zf_X12_enter M25 l0 (1 : Int32) (-1 : Int32) l1 l3) (fun M26 _ =>
  zb1 (zo_rc M26 l0 13) (fun _ => zbd (zf_X12_inVessel M26 l0 l1) (fun M27 v27 =>
  some (M27, v27)))))))))))
  else
  zf_X12_fill_J122 M17 l0))))))))
  else
  zb1 (zo_rc M13 l0 13) (fun _ => zbd (zf_X12_no M13 l0 (11 : Int32)) (fun M29 v29 =>
  some (M29, v29))))))))
  else
  zb1 (zo_rc M10 l0 13) (fun _ => zbd (zf_X12_no M10 l0 (9 : Int32)) (fun M31 v31 =>
  some (M31, v31))))))
  else
  zb1 (zo_rc M8 l0 13) (fun _ => zbd (zf_X12_no M8 l0 v8) (fun M33 v33 =>
  some (M33, v33)))))))))))))
set_option maxRecDepth 100000 in
theorem zt_X12_fill_J23 {X : Zx} {M : Zm} {l0 : Option Nat} {z : Zm × Int64} (h : zf_X12_fill_J23 M l0 = some z) (hR : zRj X zC_X12_fill z.1 z.2) : zV X zC_X12_fill M 23 [(0, .inr (.inr l0))] [] := by
  unfold zf_X12_fill_J23 at h
  refine zV_b (pc' := 25) (lv' := [(0, .inr (.inr l0))]) (st' := [.inl (1 : Int32), .inr (.inr l0)]) [(.aload_n 0, 1), (.iconst 1, 1)] (by decide +kernel) rfl ?_
  refine zV_cvj (As := [.inl (1 : Int32)]) (st := []) (c := 13) (by decide +kernel) (zcl_X12_no (by decide) (by decide)) ⟨zw_1677, zw_1679, zw_59⟩ ⟨⟨_, _, rfl⟩, by decide⟩ rfl rfl (Nat.le_of_ble_eq_true rfl) h (fun _ _ e => zc_X12_no e) (fun M3 v3 _ h => ?_)
  exact zend_j h hR (by decide +kernel)
set_option maxRecDepth 100000 in
theorem zt_X12_fill_J122 {X : Zx} {M : Zm} {l0 : Option Nat} {z : Zm × Int64} (h : zf_X12_fill_J122 M l0 = some z) (hR : zRj X zC_X12_fill z.1 z.2) : zV X zC_X12_fill M 122 [(0, .inr (.inr l0))] [] := by
  unfold zf_X12_fill_J122 at h
  refine zV_b (pc' := 125) (lv' := [(0, .inr (.inr l0))]) (st' := [.inl (12 : Int32), .inr (.inr l0)]) [(.aload_n 0, 1), (.bipush 12, 2)] (by decide +kernel) rfl ?_
  refine zV_cvj (As := [.inl (12 : Int32)]) (st := []) (c := 13) (by decide +kernel) (zcl_X12_no (by decide) (by decide)) ⟨zw_1677, zw_1679, zw_59⟩ ⟨⟨_, _, rfl⟩, by decide⟩ rfl rfl (Nat.le_of_ble_eq_true rfl) h (fun _ _ e => zc_X12_no e) (fun M19 v19 _ h => ?_)
  exact zend_j h hR (by decide +kernel)
set_option maxRecDepth 100000 in
theorem zt_X12_fill {X : Zx} {M : Zm} {l0 : Option Nat} {l1 : Int32} {l2 : Int32} {l3 : Int64} {z : Zm × Int64} (h : zf_X12_fill M l0 l1 l2 l3 = some z) (hR : zRj X zC_X12_fill z.1 z.2) : zV X zC_X12_fill M 0 [(0, .inr (.inr l0)), (1, .inl l1), (2, .inl l2), (3, .inr (.inl l3))] [] := by
  unfold zf_X12_fill at h
  refine zV_b (pc' := 1) (lv' := [(0, .inr (.inr l0)), (1, .inl l1), (2, .inl l2), (3, .inr (.inl l3))]) (st' := [.inr (.inr l0)]) [(.aload_n 0, 1)] (by decide +kernel) rfl ?_
  refine zV_cvv (As := []) (st := []) (c := 13) (by decide +kernel) (zcl_X12_begin (by decide) (by decide)) ⟨zw_1673, zw_1675, zw_58⟩ ⟨⟨_, _, rfl⟩, by decide⟩ rfl rfl (Nat.le_of_ble_eq_true rfl) h (fun _ _ e => zc_X12_begin e) (fun M1 _ _ h => ?_)
  refine zV_b (pc' := 5) (lv' := [(0, .inr (.inr l0)), (1, .inl l1), (2, .inl l2), (3, .inr (.inl l3))]) (st' := [.inl l2]) [(.iload_n 2, 1)] (by decide +kernel) rfl ?_
  refine zV_if_lt (off := 18) (tgt := 23) (by decide +kernel) (by decide) h (fun c2 h => ?_) (fun c2 h => ?_)
  · exact zV_lv (lv' := [(0, .inr (.inr l0))]) [0] rfl (zt_X12_fill_J23 h hR)
  · refine zV_b (pc' := 12) (lv' := [(0, .inr (.inr l0)), (1, .inl l1), (2, .inl l2), (3, .inr (.inl l3))]) (st' := [.inl (4096 : Int32), .inl l2]) [(.iload_n 2, 1), (.sipush 4096, 3)] (by decide +kernel) rfl ?_
    refine zV_icmp_ge (off := 11) (tgt := 23) (by decide +kernel) (by decide) h (fun c5 h => ?_) (fun c5 h => ?_)
    · exact zV_lv (lv' := [(0, .inr (.inr l0))]) [0] rfl (zt_X12_fill_J23 h hR)
    · refine zV_b (pc' := 17) (lv' := [(0, .inr (.inr l0)), (1, .inl l1), (2, .inl l2), (3, .inr (.inl l3))]) (st' := [.inr (.inl l3), .inr (.inr l0)]) [(.aload_n 0, 1), (.lload_n 3, 1)] (by decide +kernel) rfl ?_
      refine zV_cvi (As := [.inr (.inl l3)]) (st := []) (c := 13) (by decide +kernel) (zcl_X12_isAmount (by decide) (by decide)) ⟨zw_1734, zw_1736, zw_65⟩ ⟨⟨_, _, rfl⟩, by decide⟩ rfl rfl (Nat.le_of_ble_eq_true rfl) h (fun _ _ e => zc_X12_isAmount e) (fun M6 v6 _ h => ?_)
      refine zV_if_ne (off := 9) (tgt := 29) (by decide +kernel) (by decide) h (fun c7 h => ?_) (fun c7 h => ?_)
      · exact zV_lv (lv' := [(0, .inr (.inr l0))]) [0] rfl (zt_X12_fill_J23 h hR)
      · refine zV_b (pc' := 31) (lv' := [(0, .inr (.inr l0)), (1, .inl l1), (2, .inl l2), (3, .inr (.inl l3))]) (st' := [.inl l1, .inr (.inr l0)]) [(.aload_n 0, 1), (.iload_n 1, 1)] (by decide +kernel) rfl ?_
        refine zV_cvi (As := [.inl l1]) (st := []) (c := 13) (by decide +kernel) (zcl_X12_lookedVessel (by decide) (by decide)) ⟨zw_1699, zw_1701, zw_62⟩ ⟨⟨_, _, rfl⟩, by decide⟩ rfl rfl (Nat.le_of_ble_eq_true rfl) h (fun _ _ e => zc_X12_lookedVessel e) (fun M8 v8 _ h => ?_)
        refine zV_b (pc' := 38) (lv' := [(5, .inl v8), (0, .inr (.inr l0)), (1, .inl l1), (2, .inl l2), (3, .inr (.inl l3))]) (st' := [.inl v8]) [(.istore 5, 2), (.iload 5, 2)] (by decide +kernel) rfl ?_
        refine zV_if_le (off := 10) (tgt := 48) (by decide +kernel) (by decide) h (fun c9 h => ?_) (fun c9 h => ?_)
        · refine zV_b (pc' := 50) (lv' := [(5, .inl v8), (0, .inr (.inr l0)), (1, .inl l1), (2, .inl l2), (3, .inr (.inl l3))]) (st' := [.inl l1, .inr (.inr l0)]) [(.aload_n 0, 1), (.iload_n 1, 1)] (by decide +kernel) rfl ?_
          refine zV_cvi (As := [.inl l1]) (st := []) (c := 13) (by decide +kernel) (zcl_X12_isInCask (by decide) (by decide)) ⟨zw_1739, zw_1741, zw_66⟩ ⟨⟨_, _, rfl⟩, by decide⟩ rfl rfl (Nat.le_of_ble_eq_true rfl) h (fun _ _ e => zc_X12_isInCask e) (fun M10 v10 _ h => ?_)
          refine zV_if_eq (off := 10) (tgt := 63) (by decide +kernel) (by decide) h (fun c11 h => ?_) (fun c11 h => ?_)
          · refine zV_b (pc' := 65) (lv' := [(5, .inl v8), (0, .inr (.inr l0)), (1, .inl l1), (2, .inl l2), (3, .inr (.inl l3))]) (st' := [.inl l1, .inr (.inr l0)]) [(.aload_n 0, 1), (.iload_n 1, 1)] (by decide +kernel) rfl ?_
            refine zV_cvj (As := [.inl l1]) (st := []) (c := 13) (by decide +kernel) (zcl_X12_most (by decide) (by decide)) ⟨zw_1743, zw_1745, zw_67⟩ ⟨⟨_, _, rfl⟩, by decide⟩ rfl rfl (Nat.le_of_ble_eq_true rfl) h (fun _ _ e => zc_X12_most e) (fun M12 v12 _ h => ?_)
            refine zV_b (pc' := 72) (lv' := [(6, .inr (.inl v12)), (5, .inl v8), (0, .inr (.inr l0)), (1, .inl l1), (2, .inl l2), (3, .inr (.inl l3))]) (st' := [.inl l1, .inr (.inr l0)]) [(.lstore 6, 2), (.aload_n 0, 1), (.iload_n 1, 1)] (by decide +kernel) rfl ?_
            refine zV_cvj (As := [.inl l1]) (st := []) (c := 13) (by decide +kernel) (zcl_X12_inVessel (by decide) (by decide)) ⟨zw_1759, zw_1761, zw_70⟩ ⟨⟨_, _, rfl⟩, by decide⟩ rfl rfl (Nat.le_of_ble_eq_true rfl) h (fun _ _ e => zc_X12_inVessel e) (fun M13 v13 _ h => ?_)
            refine zV_b (pc' := 79) (lv' := [(6, .inr (.inl v12)), (5, .inl v8), (0, .inr (.inr l0)), (1, .inl l1), (2, .inl l2), (3, .inr (.inl l3))]) (st' := [.inr (.inl v12), .inr (.inl (v13 + l3))]) [(.lload_n 3, 1), (.ladd, 1), (.lload 6, 2)] (by decide +kernel) rfl ?_
            refine zV_lcmp_le (off := 10) (tgt := 90) (by decide +kernel) (by decide +kernel) (by decide) h (fun c14 h => ?_) (fun c14 h => ?_)
            · refine zV_b (pc' := 92) (lv' := [(6, .inr (.inl v12)), (5, .inl v8), (0, .inr (.inr l0)), (1, .inl l1), (2, .inl l2), (3, .inr (.inl l3))]) (st' := [.inl (0 : Int32), .inr (.inr l0)]) [(.aload_n 0, 1), (.iconst 0, 1)] (by decide +kernel) rfl ?_
              refine zV_pi (by decide +kernel) zfp_RX12_247 (by decide) rfl h (fun M15 _ h => ?_)
              refine zV_b (pc' := 97) (lv' := [(6, .inr (.inl v12)), (5, .inl v8), (0, .inr (.inr l0)), (1, .inl l1), (2, .inl l2), (3, .inr (.inl l3))]) (st' := [.inl l1, .inr (.inr l0)]) [(.aload_n 0, 1), (.iload_n 1, 1)] (by decide +kernel) rfl ?_
              refine zV_cvi (As := [.inl l1]) (st := []) (c := 13) (by decide +kernel) (zcl_X12_mixInto (by decide) (by decide)) ⟨zw_1763, zw_1765, zw_71⟩ ⟨⟨_, _, rfl⟩, by decide⟩ rfl rfl (Nat.le_of_ble_eq_true rfl) h (fun _ _ e => zc_X12_mixInto e) (fun M16 v16 _ h => ?_)
              refine zV_b (pc' := 105) (lv' := [(8, .inl v16), (6, .inr (.inl v12)), (5, .inl v8), (0, .inr (.inr l0)), (1, .inl l1), (2, .inl l2), (3, .inr (.inl l3))]) (st' := [.inr (.inl l3), .inl l2, .inr (.inr l0)]) [(.istore 8, 2), (.aload_n 0, 1), (.iload_n 2, 1), (.lload_n 3, 1)] (by decide +kernel) rfl ?_
              refine zV_cvv (As := [.inl l2, .inr (.inl l3)]) (st := []) (c := 13) (by decide +kernel) (zcl_X12_mix (by decide) (by decide)) ⟨zw_1767, zw_1769, zw_72⟩ ⟨⟨_, _, rfl⟩, by decide⟩ rfl rfl (Nat.le_of_ble_eq_true rfl) h (fun _ _ e => zc_X12_mix e) (fun M17 _ _ h => ?_)
              refine zV_b (pc' := 110) (lv' := [(8, .inl v16), (6, .inr (.inl v12)), (5, .inl v8), (0, .inr (.inr l0)), (1, .inl l1), (2, .inl l2), (3, .inr (.inl l3))]) (st' := [.inl v16]) [(.iload 8, 2)] (by decide +kernel) rfl ?_
              refine zV_if_eq (off := 12) (tgt := 122) (by decide +kernel) (by decide) h (fun c18 h => ?_) (fun c18 h => ?_)
              · exact zV_lv (lv' := [(0, .inr (.inr l0))]) [3] rfl (zt_X12_fill_J122 h hR)
              · refine zV_b (pc' := 114) (lv' := [(8, .inl v16), (6, .inr (.inl v12)), (5, .inl v8), (0, .inr (.inr l0)), (1, .inl l1), (2, .inl l2), (3, .inr (.inl l3))]) (st' := [.inr (.inr l0)]) [(.aload_n 0, 1)] (by decide +kernel) rfl ?_
                refine zV_gi (by decide +kernel) zfl_RX12_254 (by decide) rfl (Or.inl rfl) h (fun v21 _ h => ?_)
                refine zV_b (pc' := 119) (lv' := [(8, .inl v16), (6, .inr (.inl v12)), (5, .inl v8), (0, .inr (.inr l0)), (1, .inl l1), (2, .inl l2), (3, .inr (.inl l3))]) (st' := [.inl (60 : Int32), .inl v21]) [(.bipush 60, 2)] (by decide +kernel) rfl ?_
                refine zV_icmp_le (off := 10) (tgt := 129) (by decide +kernel) (by decide) h (fun c22 h => ?_) (fun c22 h => ?_)
                · refine zV_b (pc' := 130) (lv' := [(8, .inl v16), (6, .inr (.inl v12)), (5, .inl v8), (0, .inr (.inr l0)), (1, .inl l1), (2, .inl l2), (3, .inr (.inl l3))]) (st' := [.inr (.inr l0)]) [(.aload_n 0, 1)] (by decide +kernel) rfl ?_
                  refine zV_cvv (As := []) (st := []) (c := 13) (by decide +kernel) (zcl_X12_keep (by decide) (by decide)) ⟨zw_1681, zw_1683, zw_60⟩ ⟨⟨_, _, rfl⟩, by decide⟩ rfl rfl (Nat.le_of_ble_eq_true rfl) h (fun _ _ e => zc_X12_keep e) (fun M23 _ _ h => ?_)
                  refine zV_b (pc' := 135) (lv' := [(8, .inl v16), (6, .inr (.inl v12)), (5, .inl v8), (0, .inr (.inr l0)), (1, .inl l1), (2, .inl l2), (3, .inr (.inl l3))]) (st' := [.inl l1, .inr (.inr l0)]) [(.aload_n 0, 1), (.iload_n 1, 1)] (by decide +kernel) rfl ?_
                  refine zV_cvv (As := [.inl l1]) (st := []) (c := 13) (by decide +kernel) (zcl_X12_become (by decide) (by decide)) ⟨zw_1779, zw_1781, zw_75⟩ ⟨⟨_, _, rfl⟩, by decide⟩ rfl rfl (Nat.le_of_ble_eq_true rfl) h (fun _ _ e => zc_X12_become e) (fun M24 _ _ h => ?_)
                  refine zV_b (pc' := 142) (lv' := [(8, .inl v16), (6, .inr (.inl v12)), (5, .inl v8), (0, .inr (.inr l0)), (1, .inl l1), (2, .inl l2), (3, .inr (.inl l3))]) (st' := [.inr (.inl l3), .inl (0 : Int32), .inl l2, .inr (.inr l0)]) [(.aload_n 0, 1), (.iload_n 2, 1), (.iconst 0, 1), (.lload_n 3, 1)] (by decide +kernel) rfl ?_
                  refine zV_cvv (As := [.inl l2, .inl (0 : Int32), .inr (.inl l3)]) (st := []) (c := 13) (by decide +kernel) (zcl_X12_account (by decide) (by decide)) ⟨zw_1783, zw_1785, zw_76⟩ ⟨⟨_, _, rfl⟩, by decide⟩ rfl rfl (Nat.le_of_ble_eq_true rfl) h (fun _ _ e => zc_X12_account e) (fun M25 _ _ h => ?_)
                  refine zV_b (pc' := 150) (lv' := [(8, .inl v16), (6, .inr (.inl v12)), (5, .inl v8), (0, .inr (.inr l0)), (1, .inl l1), (2, .inl l2), (3, .inr (.inl l3))]) (st' := [.inr (.inl l3), .inl l1, .inl (-1 : Int32), .inl (1 : Int32), .inr (.inr l0)]) [(.aload_n 0, 1), (.iconst 1, 1), (.iconst (-1), 1), (.iload_n 1, 1), (.lload_n 3, 1)] (by decide +kernel) rfl ?_
                  refine zV_cvv (As := [.inl (1 : Int32), .inl (-1 : Int32), .inl l1, .inr (.inl l3)]) (st := []) (c := 13) (by decide +kernel) (zcl_X12_enter (by decide) (by decide)) ⟨zw_1787, zw_1789, zw_77⟩ ⟨⟨_, _, rfl⟩, by decide⟩ rfl rfl (Nat.le_of_ble_eq_true rfl) h (fun _ _ e => zc_X12_enter e) (fun M26 _ _ h => ?_)
                  refine zV_b (pc' := 155) (lv' := [(8, .inl v16), (6, .inr (.inl v12)), (5, .inl v8), (0, .inr (.inr l0)), (1, .inl l1), (2, .inl l2), (3, .inr (.inl l3))]) (st' := [.inl l1, .inr (.inr l0)]) [(.aload_n 0, 1), (.iload_n 1, 1)] (by decide +kernel) rfl ?_
                  refine zV_cvj (As := [.inl l1]) (st := []) (c := 13) (by decide +kernel) (zcl_X12_inVessel (by decide) (by decide)) ⟨zw_1759, zw_1761, zw_70⟩ ⟨⟨_, _, rfl⟩, by decide⟩ rfl rfl (Nat.le_of_ble_eq_true rfl) h (fun _ _ e => zc_X12_inVessel e) (fun M27 v27 _ h => ?_)
                  exact zend_j h hR (by decide +kernel)
                · exact zV_lv (lv' := [(0, .inr (.inr l0))]) [3] rfl (zt_X12_fill_J122 h hR)
            · refine zV_b (pc' := 86) (lv' := [(6, .inr (.inl v12)), (5, .inl v8), (0, .inr (.inr l0)), (1, .inl l1), (2, .inl l2), (3, .inr (.inl l3))]) (st' := [.inl (11 : Int32), .inr (.inr l0)]) [(.aload_n 0, 1), (.bipush 11, 2)] (by decide +kernel) rfl ?_
              refine zV_cvj (As := [.inl (11 : Int32)]) (st := []) (c := 13) (by decide +kernel) (zcl_X12_no (by decide) (by decide)) ⟨zw_1677, zw_1679, zw_59⟩ ⟨⟨_, _, rfl⟩, by decide⟩ rfl rfl (Nat.le_of_ble_eq_true rfl) h (fun _ _ e => zc_X12_no e) (fun M29 v29 _ h => ?_)
              exact zend_j h hR (by decide +kernel)
          · refine zV_b (pc' := 59) (lv' := [(5, .inl v8), (0, .inr (.inr l0)), (1, .inl l1), (2, .inl l2), (3, .inr (.inl l3))]) (st' := [.inl (9 : Int32), .inr (.inr l0)]) [(.aload_n 0, 1), (.bipush 9, 2)] (by decide +kernel) rfl ?_
            refine zV_cvj (As := [.inl (9 : Int32)]) (st := []) (c := 13) (by decide +kernel) (zcl_X12_no (by decide) (by decide)) ⟨zw_1677, zw_1679, zw_59⟩ ⟨⟨_, _, rfl⟩, by decide⟩ rfl rfl (Nat.le_of_ble_eq_true rfl) h (fun _ _ e => zc_X12_no e) (fun M31 v31 _ h => ?_)
            exact zend_j h hR (by decide +kernel)
        · refine zV_b (pc' := 44) (lv' := [(5, .inl v8), (0, .inr (.inr l0)), (1, .inl l1), (2, .inl l2), (3, .inr (.inl l3))]) (st' := [.inl v8, .inr (.inr l0)]) [(.aload_n 0, 1), (.iload 5, 2)] (by decide +kernel) rfl ?_
          refine zV_cvj (As := [.inl v8]) (st := []) (c := 13) (by decide +kernel) (zcl_X12_no (by decide) (by decide)) ⟨zw_1677, zw_1679, zw_59⟩ ⟨⟨_, _, rfl⟩, by decide⟩ rfl rfl (Nat.le_of_ble_eq_true rfl) h (fun _ _ e => zc_X12_no e) (fun M33 v33 _ h => ?_)
          exact zend_j h hR (by decide +kernel)
theorem zc_X12_fill {M M' : Zm} {l0 : Option Nat} {l1 : Int32} {l2 : Int32} {l3 : Int64} {x : Int64} (h : zf_X12_fill M l0 l1 l2 l3 = some (M', x)) (l : Launch) (D : va_G) (cy : Nat → ClassId) : zMet l yX12_fill zC_X12_fill (some .long) D cy [.inr (.inr l0), .inl l1, .inl l2, .inr (.inl l3)] M M' (some (.inr (.inl x))) :=
  zM_j (by decide) rfl (fun h => by cases h) (Nat.le_of_ble_eq_true rfl) (fun X hR => zt_X12_fill h hR)
-- BlendCellarModel.forget()J
def zC_X12_forget : Zc := (cX12_forget, 2, RX12, 1, 20, false)
theorem zcl_X12_forget {C : Zc} (h1 : zC_X12_forget.2.2.2.1 + 1 ≤ C.2.2.2.1) (h2 : 8 + (zC_X12_forget.2.1 + 11) + zC_X12_forget.2.2.2.2.1 ≤ C.2.2.2.2.1) : zCl C yX12_forget zC_X12_forget (some .long) 0 := ⟨zw_1834, zw_114, ⟨by decide, by decide⟩, by decide +kernel, h1, h2⟩
noncomputable def zf_X12_forget (M : Zm) (l0 : Option Nat) : Option (Zm × Int64) :=
  zb1 (zo_rc M l0 13) (fun _ => zbd (zf_X12_begin M l0) (fun M1 _ =>
  zb1 (zo_gi M1 l0 13 33) (fun v2 =>
  zb1 (zo_pi M1 l0 13 33 (0 : Int32)) (fun M3 =>
  some (M3, (v2.toInt64))))))
set_option maxRecDepth 100000 in
theorem zt_X12_forget {X : Zx} {M : Zm} {l0 : Option Nat} {z : Zm × Int64} (h : zf_X12_forget M l0 = some z) (hR : zRj X zC_X12_forget z.1 z.2) : zV X zC_X12_forget M 0 [(0, .inr (.inr l0))] [] := by
  unfold zf_X12_forget at h
  refine zV_b (pc' := 1) (lv' := [(0, .inr (.inr l0))]) (st' := [.inr (.inr l0)]) [(.aload_n 0, 1)] (by decide +kernel) rfl ?_
  refine zV_cvv (As := []) (st := []) (c := 13) (by decide +kernel) (zcl_X12_begin (by decide) (by decide)) ⟨zw_1673, zw_1675, zw_58⟩ ⟨⟨_, _, rfl⟩, by decide⟩ rfl rfl (Nat.le_of_ble_eq_true rfl) h (fun _ _ e => zc_X12_begin e) (fun M1 _ _ h => ?_)
  refine zV_b (pc' := 5) (lv' := [(0, .inr (.inr l0))]) (st' := [.inr (.inr l0)]) [(.aload_n 0, 1)] (by decide +kernel) rfl ?_
  refine zV_gi (by decide +kernel) zfl_RX12_334 (by decide) rfl (Or.inl rfl) h (fun v2 _ h => ?_)
  refine zV_b (pc' := 11) (lv' := [(1, .inl v2), (0, .inr (.inr l0))]) (st' := [.inl (0 : Int32), .inr (.inr l0)]) [(.istore_n 1, 1), (.aload_n 0, 1), (.iconst 0, 1)] (by decide +kernel) rfl ?_
  refine zV_pi (by decide +kernel) zfp_RX12_334 (by decide) rfl h (fun M3 _ h => ?_)
  refine zV_b (pc' := 16) (lv' := [(1, .inl v2), (0, .inr (.inr l0))]) (st' := [.inr (.inl (v2.toInt64))]) [(.iload_n 1, 1), (.i2l, 1)] (by decide +kernel) rfl ?_
  exact zend_j h hR (by decide +kernel)
theorem zc_X12_forget {M M' : Zm} {l0 : Option Nat} {x : Int64} (h : zf_X12_forget M l0 = some (M', x)) (l : Launch) (D : va_G) (cy : Nat → ClassId) : zMet l yX12_forget zC_X12_forget (some .long) D cy [.inr (.inr l0)] M M' (some (.inr (.inl x))) :=
  zM_j (by decide) rfl (fun h => by cases h) (Nat.le_of_ble_eq_true rfl) (fun X hR => zt_X12_forget h hR)
