/-! What the bytecode does, as functions of the memory, and the walks (written by wip/gen.py). -/
-- BlendCellarModel.<init>()V
def zC_X12_init : Zc := (cX12_init, 2, RX12, 1, 12, true)
theorem zcl_X12_init {C : Zc} (h1 : zC_X12_init.2.2.2.1 + 1 ≤ C.2.2.2.1) (h2 : 8 + (zC_X12_init.2.1 + 11) + zC_X12_init.2.2.2.2.1 ≤ C.2.2.2.2.1) : zCl C yX12_init zC_X12_init none 0 := ⟨zw_1437, zw_114, ⟨by decide, by decide⟩, by decide +kernel, h1, h2⟩
noncomputable def zf_X12_init_L458 (p0 : Option Nat) (x : Zm × Int32) : Option ((Zm × Int32) ⊕ (Zm × Int32)) := match x with
  | (M, l1) =>
  (if (20 : Int32) ≤ l1 then
  some (.inr (M, l1))
  else
  zb1 (zo_gr M p0 13 11) (fun v112 =>
  zb1 (zo_si M v112 l1 (-1 : Int32)) (fun M113 =>
  some (.inl (M113, (l1 + 1))))))
def zP_X12_init_L458 (X : Zx) (p0 : Option Nat) (x : Zm × Int32) : Prop := match x with
  | (M, l1) => zV X zC_X12_init M 458 [(0, .inr (.inr p0)), (1, .inl l1)] []
def zK_X12_init_L458 (X : Zx) (p0 : Option Nat) (y : Zm × Int32) : Prop := match y with
  | (M, l1) => zV X zC_X12_init M 477 [(0, .inr (.inr p0))] []
noncomputable def zf_X12_init_L479 (p0 : Option Nat) (x : Zm × Int32) : Option ((Zm × Int32) ⊕ (Zm × Int32)) := match x with
  | (M, l1) =>
  (if (1200 : Int32) ≤ l1 then
  some (.inr (M, l1))
  else
  zb1 (zo_gr M p0 13 13) (fun v117 =>
  zb1 (zo_si M v117 l1 (-1 : Int32)) (fun M118 =>
  some (.inl (M118, (l1 + 1))))))
def zP_X12_init_L479 (X : Zx) (p0 : Option Nat) (x : Zm × Int32) : Prop := match x with
  | (M, l1) => zV X zC_X12_init M 479 [(0, .inr (.inr p0)), (1, .inl l1)] []
def zK_X12_init_L479 (X : Zx) (p0 : Option Nat) (y : Zm × Int32) : Prop := match y with
  | (M, l1) => zV X zC_X12_init M 499 [] []
noncomputable def zf_X12_init (M : Zm) (l0 : Option Nat) : Option (Zm × Unit) :=
  zb1 (zo_rc M l0 13) (fun _ =>
  zb1 (zo_na M 14 (1000 : Int32)) (fun M2 =>
  zb1 (zo_pr M2 l0 13 2 (zm_nx M)) (fun M3 =>
  zb1 (zo_na M3 14 (1000 : Int32)) (fun M4 =>
  zb1 (zo_pr M4 l0 13 3 (zm_nx M3)) (fun M5 =>
  zb1 (zo_na M5 14 (1000 : Int32)) (fun M6 =>
  zb1 (zo_pr M6 l0 13 4 (zm_nx M5)) (fun M7 =>
  zb1 (zo_na M7 14 (1000 : Int32)) (fun M8 =>
  zb1 (zo_pr M8 l0 13 5 (zm_nx M7)) (fun M9 =>
  zb1 (zo_na M9 14 (1000 : Int32)) (fun M10 =>
  zb1 (zo_pr M10 l0 13 6 (zm_nx M9)) (fun M11 =>
  zb1 (zo_na M11 14 (4000 : Int32)) (fun M12 =>
  zb1 (zo_pr M12 l0 13 7 (zm_nx M11)) (fun M13 =>
  zb1 (zo_na M13 14 (1000 : Int32)) (fun M14 =>
  zb1 (zo_pr M14 l0 13 8 (zm_nx M13)) (fun M15 =>
  zb1 (zo_na M15 14 (60000 : Int32)) (fun M17 =>
  zb1 (zo_pr M17 l0 13 9 (zm_nx M15)) (fun M18 =>
  zb1 (zo_na M18 15 (60000 : Int32)) (fun M20 =>
  zb1 (zo_pr M20 l0 13 10 (zm_nx M18)) (fun M21 =>
  zb1 (zo_na M21 14 (20 : Int32)) (fun M22 =>
  zb1 (zo_pr M22 l0 13 11 (zm_nx M21)) (fun M23 =>
  zb1 (zo_na M23 14 (20 : Int32)) (fun M24 =>
  zb1 (zo_pr M24 l0 13 12 (zm_nx M23)) (fun M25 =>
  zb1 (zo_na M25 14 (1200 : Int32)) (fun M26 =>
  zb1 (zo_pr M26 l0 13 13 (zm_nx M25)) (fun M27 =>
  zb1 (zo_na M27 14 (4096 : Int32)) (fun M28 =>
  zb1 (zo_pr M28 l0 13 15 (zm_nx M27)) (fun M29 =>
  zb1 (zo_na M29 14 (4096 : Int32)) (fun M30 =>
  zb1 (zo_pr M30 l0 13 16 (zm_nx M29)) (fun M31 =>
  zb1 (zo_na M31 15 (20480 : Int32)) (fun M32 =>
  zb1 (zo_pr M32 l0 13 17 (zm_nx M31)) (fun M33 =>
  zb1 (zo_na M33 15 (1024 : Int32)) (fun M34 =>
  zb1 (zo_pr M34 l0 13 20 (zm_nx M33)) (fun M35 =>
  zb1 (zo_na M35 15 (256 : Int32)) (fun M36 =>
  zb1 (zo_pr M36 l0 13 22 (zm_nx M35)) (fun M37 =>
  zb1 (zo_na M37 14 (40 : Int32)) (fun M38 =>
  zb1 (zo_pr M38 l0 13 24 (zm_nx M37)) (fun M39 =>
  zb1 (zo_na M39 14 (40 : Int32)) (fun M40 =>
  zb1 (zo_pr M40 l0 13 25 (zm_nx M39)) (fun M41 =>
  zb1 (zo_na M41 14 (800 : Int32)) (fun M42 =>
  zb1 (zo_pr M42 l0 13 26 (zm_nx M41)) (fun M43 =>
  zb1 (zo_na M43 14 (800 : Int32)) (fun M44 =>
  zb1 (zo_pr M44 l0 13 27 (zm_nx M43)) (fun M45 =>
  zb1 (zo_na M45 14 (800 : Int32)) (fun M46 =>
  zb1 (zo_pr M46 l0 13 28 (zm_nx M45)) (fun M47 =>
  zb1 (zo_na M47 14 (800 : Int32)) (fun M48 =>
  zb1 (zo_pr M48 l0 13 29 (zm_nx M47)) (fun M49 =>
  zb1 (zo_na M49 14 (800 : Int32)) (fun M50 =>
  zb1 (zo_pr M50 l0 13 30 (zm_nx M49)) (fun M51 =>
  zb1 (zo_na M51 14 (800 : Int32)) (fun M52 =>
  zb1 (zo_pr M52 l0 13 31 (zm_nx M51)) (fun M53 =>
  zb1 (zo_na M53 14 (800 : Int32)) (fun M54 =>
  zb1 (zo_pr M54 l0 13 32 (zm_nx M53)) (fun M55 =>
  zb1 (zo_na M55 14 (8 : Int32)) (fun M56 =>
  zb1 (zo_pr M56 l0 13 34 (zm_nx M55)) (fun M57 =>
  zb1 (zo_na M57 15 (8 : Int32)) (fun M58 =>
  zb1 (zo_pr M58 l0 13 35 (zm_nx M57)) (fun M59 =>
  zb1 (zo_na M59 15 (8 : Int32)) (fun M60 =>
  zb1 (zo_pr M60 l0 13 37 (zm_nx M59)) (fun M61 =>
  zb1 (zo_pi M61 l0 13 40 (-1 : Int32)) (fun M62 =>
  zb1 (zo_na M62 14 (200 : Int32)) (fun M63 =>
  zb1 (zo_pr M63 l0 13 42 (zm_nx M62)) (fun M64 =>
  zb1 (zo_na M64 14 (1000 : Int32)) (fun M65 =>
  zb1 (zo_pr M65 l0 13 49 (zm_nx M64)) (fun M66 =>
  zb1 (zo_na M66 14 (1000 : Int32)) (fun M67 =>
  zb1 (zo_pr M67 l0 13 50 (zm_nx M66)) (fun M68 =>
  zb1 (zo_na M68 14 (1000 : Int32)) (fun M69 =>
  zb1 (zo_pr M69 l0 13 51 (zm_nx M68)) (fun M70 =>
  zb1 (zo_na M70 14 (4000 : Int32)) (fun M71 =>
  zb1 (zo_pr M71 l0 13 52 (zm_nx M70)) (fun M72 =>
  zb1 (zo_na M72 14 (1000 : Int32)) (fun M73 =>
  zb1 (zo_pr M73 l0 13 53 (zm_nx M72)) (fun M74 =>
  zb1 (zo_na M74 14 (60000 : Int32)) (fun M76 =>
  zb1 (zo_pr M76 l0 13 54 (zm_nx M74)) (fun M77 =>
  zb1 (zo_na M77 15 (60000 : Int32)) (fun M79 =>
  zb1 (zo_pr M79 l0 13 55 (zm_nx M77)) (fun M80 =>
  zb1 (zo_na M80 14 (20 : Int32)) (fun M81 =>
  zb1 (zo_pr M81 l0 13 56 (zm_nx M80)) (fun M82 =>
  zb1 (zo_na M82 14 (20 : Int32)) (fun M83 =>
  zb1 (zo_pr M83 l0 13 57 (zm_nx M82)) (fun M84 =>
  zb1 (zo_na M84 14 (1200 : Int32)) (fun M85 =>
  zb1 (zo_pr M85 l0 13 58 (zm_nx M84)) (fun M86 =>
  zb1 (zo_na M86 15 (20480 : Int32)) (fun M87 =>
  zb1 (zo_pr M87 l0 13 59 (zm_nx M86)) (fun M88 =>
  zb1 (zo_na M88 14 (32 : Int32)) (fun M89 =>
  zb1 (zo_pr M89 l0 13 61 (zm_nx M88)) (fun M90 =>
  zb1 (zo_na M90 15 (32 : Int32)) (fun M91 =>
  zb1 (zo_pr M91 l0 13 62 (zm_nx M90)) (fun M92 =>
  zb1 (zo_na M92 15 (60 : Int32)) (fun M93 =>
  zb1 (zo_pr M93 l0 13 63 (zm_nx M92)) (fun M94 =>
  zb1 (zo_na M94 14 (1980 : Int32)) (fun M95 =>
  zb1 (zo_pr M95 l0 13 65 (zm_nx M94)) (fun M96 =>
  zb1 (zo_na M96 15 (1980 : Int32)) (fun M97 =>
  zb1 (zo_pr M97 l0 13 66 (zm_nx M96)) (fun M98 =>
  zb1 (zo_na M98 15 (48 : Int32)) (fun M99 =>
  zb1 (zo_pr M99 l0 13 68 (zm_nx M98)) (fun M100 =>
  zb1 (zo_na M100 15 (3744 : Int32)) (fun M101 =>
  zb1 (zo_pr M101 l0 13 70 (zm_nx M100)) (fun M102 =>
  zb1 (zo_na M102 15 (78 : Int32)) (fun M103 =>
  zb1 (zo_pr M103 l0 13 71 (zm_nx M102)) (fun M104 =>
  zb1 (zo_na M104 14 (6 : Int32)) (fun M105 =>
  zb1 (zo_pr M105 l0 13 72 (zm_nx M104)) (fun M106 =>
  zb1 (zo_na M106 14 (6 : Int32)) (fun M107 =>
  zb1 (zo_pr M107 l0 13 73 (zm_nx M106)) (fun M108 =>
  zb1 (zo_na M108 14 (6 : Int32)) (fun M109 =>
  zb1 (zo_pr M109 l0 13 74 (zm_nx M108)) (fun M110 =>
  zb1 (zwhile (zf_X12_init_L458 l0) (M110, (0 : Int32))) (fun y115 => match y115 with
  | (M458_115, l1_115) =>
  zb1 (zwhile (zf_X12_init_L479 l0) (M458_115, (0 : Int32))) (fun y120 => match y120 with
  | (M479_120, l1_120) =>
  some (M479_120, ())))))))))))))))))))))))))))))))))))))))))))))))))))))))))))))))))))))))))))))))))))))))))))))))))))))))))))))
set_option maxRecDepth 100000 in
theorem zt_X12_init_L458 {X : Zx} {p0 : Option Nat} {x : Zm × Int32} {y : Zm × Int32} (h : zwhile (zf_X12_init_L458 p0) x = some y) (hy : zK_X12_init_L458 X p0 y) : zP_X12_init_L458 X p0 x := by
  refine zwhile_ind (P := zP_X12_init_L458 X p0) (K := zK_X12_init_L458 X p0) ?_ h hy
  intro x z hf k1 k2
  obtain ⟨M, l1⟩ := x
  have h : zf_X12_init_L458 p0 (M, l1) = some z := hf
  unfold zf_X12_init_L458 at h
  show zV X zC_X12_init M 458 [(0, .inr (.inr p0)), (1, .inl l1)] []
  refine zV_b (pc' := 461) (lv' := [(0, .inr (.inr p0)), (1, .inl l1)]) (st' := [.inl (20 : Int32), .inl l1]) [(.iload_n 1, 1), (.bipush 20, 2)] (by decide +kernel) rfl ?_
  refine zV_icmp_ge (off := 16) (tgt := 477) (by decide +kernel) (by decide) h (fun c111 h => ?_) (fun c111 h => ?_)
  · exact zV_lv (lv' := [(0, .inr (.inr p0))]) [0] rfl (k2 _ (Option.some.inj h).symm)
  · refine zV_b (pc' := 465) (lv' := [(0, .inr (.inr p0)), (1, .inl l1)]) (st' := [.inr (.inr p0)]) [(.aload_n 0, 1)] (by decide +kernel) rfl ?_
    refine zV_gr (by decide +kernel) zfl_RX12_39 (by decide) rfl h (fun v112 _ h => ?_)
    refine zV_b (pc' := 470) (lv' := [(0, .inr (.inr p0)), (1, .inl l1)]) (st' := [.inl (-1 : Int32), .inl l1, .inr (.inr v112)]) [(.iload_n 1, 1), (.iconst (-1), 1)] (by decide +kernel) rfl ?_
    refine zV_si (by decide +kernel) h (fun M113 _ h => ?_)
    refine zV_b (pc' := 474) (lv' := [(1, .inl (l1 + 1)), (0, .inr (.inr p0))]) (st' := []) [(.iinc 1 1, 3)] (by decide +kernel) rfl ?_
    refine zV_goto (off := (-16)) (tgt := 458) (by decide +kernel) (by decide) ?_
    exact zV_lv (lv' := [(0, .inr (.inr p0)), (1, .inl (l1 + 1))]) [1, 0] rfl (k1 _ (Option.some.inj h).symm)
set_option maxRecDepth 100000 in
theorem zt_X12_init_L479 {X : Zx} {p0 : Option Nat} {x : Zm × Int32} {y : Zm × Int32} (h : zwhile (zf_X12_init_L479 p0) x = some y) (hy : zK_X12_init_L479 X p0 y) : zP_X12_init_L479 X p0 x := by
  refine zwhile_ind (P := zP_X12_init_L479 X p0) (K := zK_X12_init_L479 X p0) ?_ h hy
  intro x z hf k1 k2
  obtain ⟨M, l1⟩ := x
  have h : zf_X12_init_L479 p0 (M, l1) = some z := hf
  unfold zf_X12_init_L479 at h
  show zV X zC_X12_init M 479 [(0, .inr (.inr p0)), (1, .inl l1)] []
  refine zV_b (pc' := 483) (lv' := [(0, .inr (.inr p0)), (1, .inl l1)]) (st' := [.inl (1200 : Int32), .inl l1]) [(.iload_n 1, 1), (.sipush 1200, 3)] (by decide +kernel) rfl ?_
  refine zV_icmp_ge (off := 16) (tgt := 499) (by decide +kernel) (by decide) h (fun c116 h => ?_) (fun c116 h => ?_)
  · exact zV_lv (lv' := []) [] rfl (k2 _ (Option.some.inj h).symm)
  · refine zV_b (pc' := 487) (lv' := [(0, .inr (.inr p0)), (1, .inl l1)]) (st' := [.inr (.inr p0)]) [(.aload_n 0, 1)] (by decide +kernel) rfl ?_
    refine zV_gr (by decide +kernel) zfl_RX12_45 (by decide) rfl h (fun v117 _ h => ?_)
    refine zV_b (pc' := 492) (lv' := [(0, .inr (.inr p0)), (1, .inl l1)]) (st' := [.inl (-1 : Int32), .inl l1, .inr (.inr v117)]) [(.iload_n 1, 1), (.iconst (-1), 1)] (by decide +kernel) rfl ?_
    refine zV_si (by decide +kernel) h (fun M118 _ h => ?_)
    refine zV_b (pc' := 496) (lv' := [(1, .inl (l1 + 1)), (0, .inr (.inr p0))]) (st' := []) [(.iinc 1 1, 3)] (by decide +kernel) rfl ?_
    refine zV_goto (off := (-17)) (tgt := 479) (by decide +kernel) (by decide) ?_
    exact zV_lv (lv' := [(0, .inr (.inr p0)), (1, .inl (l1 + 1))]) [1, 0] rfl (k1 _ (Option.some.inj h).symm)
set_option maxRecDepth 100000 in
theorem zt_X12_init {X : Zx} {M : Zm} {l0 : Option Nat} {z : Zm × Unit} (h : zf_X12_init M l0 = some z) (hR : zRv X zC_X12_init z.1) : zV X zC_X12_init M 0 [(0, .inr (.inr l0))] [] := by
  unfold zf_X12_init at h
  refine zV_b (pc' := 1) (lv' := [(0, .inr (.inr l0))]) (st' := [.inr (.inr l0)]) [(.aload_n 0, 1)] (by decide +kernel) rfl ?_
  refine zV_oo (by decide +kernel) zw_1438 (by decide) (by decide) h (fun _ _ h => ?_)
  refine zV_b (pc' := 8) (lv' := [(0, .inr (.inr l0))]) (st' := [.inl (1000 : Int32), .inr (.inr l0)]) [(.aload_n 0, 1), (.sipush 1000, 3)] (by decide +kernel) rfl ?_
  refine zV_na (by decide +kernel) (Or.inl ⟨rfl, rfl⟩) h (fun M2 _ h => ?_)
  refine zV_pr (by decide +kernel) zfp_RX12_9_i (Or.inr ⟨_, rfl⟩) (by decide) rfl h (fun M3 _ h => ?_)
  refine zV_b (pc' := 17) (lv' := [(0, .inr (.inr l0))]) (st' := [.inl (1000 : Int32), .inr (.inr l0)]) [(.aload_n 0, 1), (.sipush 1000, 3)] (by decide +kernel) rfl ?_
  refine zV_na (by decide +kernel) (Or.inl ⟨rfl, rfl⟩) h (fun M4 _ h => ?_)
  refine zV_pr (by decide +kernel) zfp_RX12_13_i (Or.inr ⟨_, rfl⟩) (by decide) rfl h (fun M5 _ h => ?_)
  refine zV_b (pc' := 26) (lv' := [(0, .inr (.inr l0))]) (st' := [.inl (1000 : Int32), .inr (.inr l0)]) [(.aload_n 0, 1), (.sipush 1000, 3)] (by decide +kernel) rfl ?_
  refine zV_na (by decide +kernel) (Or.inl ⟨rfl, rfl⟩) h (fun M6 _ h => ?_)
  refine zV_pr (by decide +kernel) zfp_RX12_16_i (Or.inr ⟨_, rfl⟩) (by decide) rfl h (fun M7 _ h => ?_)
  refine zV_b (pc' := 35) (lv' := [(0, .inr (.inr l0))]) (st' := [.inl (1000 : Int32), .inr (.inr l0)]) [(.aload_n 0, 1), (.sipush 1000, 3)] (by decide +kernel) rfl ?_
  refine zV_na (by decide +kernel) (Or.inl ⟨rfl, rfl⟩) h (fun M8 _ h => ?_)
  refine zV_pr (by decide +kernel) zfp_RX12_19_i (Or.inr ⟨_, rfl⟩) (by decide) rfl h (fun M9 _ h => ?_)
  refine zV_b (pc' := 44) (lv' := [(0, .inr (.inr l0))]) (st' := [.inl (1000 : Int32), .inr (.inr l0)]) [(.aload_n 0, 1), (.sipush 1000, 3)] (by decide +kernel) rfl ?_
  refine zV_na (by decide +kernel) (Or.inl ⟨rfl, rfl⟩) h (fun M10 _ h => ?_)
  refine zV_pr (by decide +kernel) zfp_RX12_22_i (Or.inr ⟨_, rfl⟩) (by decide) rfl h (fun M11 _ h => ?_)
  refine zV_b (pc' := 53) (lv' := [(0, .inr (.inr l0))]) (st' := [.inl (4000 : Int32), .inr (.inr l0)]) [(.aload_n 0, 1), (.sipush 4000, 3)] (by decide +kernel) rfl ?_
  refine zV_na (by decide +kernel) (Or.inl ⟨rfl, rfl⟩) h (fun M12 _ h => ?_)
  refine zV_pr (by decide +kernel) zfp_RX12_25_i (Or.inr ⟨_, rfl⟩) (by decide) rfl h (fun M13 _ h => ?_)
  refine zV_b (pc' := 62) (lv' := [(0, .inr (.inr l0))]) (st' := [.inl (1000 : Int32), .inr (.inr l0)]) [(.aload_n 0, 1), (.sipush 1000, 3)] (by decide +kernel) rfl ?_
  refine zV_na (by decide +kernel) (Or.inl ⟨rfl, rfl⟩) h (fun M14 _ h => ?_)
  refine zV_pr (by decide +kernel) zfp_RX12_28_i (Or.inr ⟨_, rfl⟩) (by decide) rfl h (fun M15 _ h => ?_)
  refine zV_b (pc' := 68) (lv' := [(0, .inr (.inr l0))]) (st' := [.inr (.inr l0)]) [(.aload_n 0, 1)] (by decide +kernel) rfl ?_
  refine zV_ldc (by decide +kernel) zw_1439 ?_
  refine zV_na (by decide +kernel) (Or.inl ⟨rfl, rfl⟩) h (fun M17 _ h => ?_)
  refine zV_pr (by decide +kernel) zfp_RX12_32_i (Or.inr ⟨_, rfl⟩) (by decide) rfl h (fun M18 _ h => ?_)
  refine zV_b (pc' := 76) (lv' := [(0, .inr (.inr l0))]) (st' := [.inr (.inr l0)]) [(.aload_n 0, 1)] (by decide +kernel) rfl ?_
  refine zV_ldc (by decide +kernel) zw_1439 ?_
  refine zV_na (by decide +kernel) (Or.inr ⟨rfl, rfl⟩) h (fun M20 _ h => ?_)
  refine zV_pr (by decide +kernel) zfp_RX12_35_i (Or.inr ⟨_, rfl⟩) (by decide) rfl h (fun M21 _ h => ?_)
  refine zV_b (pc' := 86) (lv' := [(0, .inr (.inr l0))]) (st' := [.inl (20 : Int32), .inr (.inr l0)]) [(.aload_n 0, 1), (.bipush 20, 2)] (by decide +kernel) rfl ?_
  refine zV_na (by decide +kernel) (Or.inl ⟨rfl, rfl⟩) h (fun M22 _ h => ?_)
  refine zV_pr (by decide +kernel) zfp_RX12_39_i (Or.inr ⟨_, rfl⟩) (by decide) rfl h (fun M23 _ h => ?_)
  refine zV_b (pc' := 94) (lv' := [(0, .inr (.inr l0))]) (st' := [.inl (20 : Int32), .inr (.inr l0)]) [(.aload_n 0, 1), (.bipush 20, 2)] (by decide +kernel) rfl ?_
  refine zV_na (by decide +kernel) (Or.inl ⟨rfl, rfl⟩) h (fun M24 _ h => ?_)
  refine zV_pr (by decide +kernel) zfp_RX12_42_i (Or.inr ⟨_, rfl⟩) (by decide) rfl h (fun M25 _ h => ?_)
  refine zV_b (pc' := 103) (lv' := [(0, .inr (.inr l0))]) (st' := [.inl (1200 : Int32), .inr (.inr l0)]) [(.aload_n 0, 1), (.sipush 1200, 3)] (by decide +kernel) rfl ?_
  refine zV_na (by decide +kernel) (Or.inl ⟨rfl, rfl⟩) h (fun M26 _ h => ?_)
  refine zV_pr (by decide +kernel) zfp_RX12_45_i (Or.inr ⟨_, rfl⟩) (by decide) rfl h (fun M27 _ h => ?_)
  refine zV_b (pc' := 112) (lv' := [(0, .inr (.inr l0))]) (st' := [.inl (4096 : Int32), .inr (.inr l0)]) [(.aload_n 0, 1), (.sipush 4096, 3)] (by decide +kernel) rfl ?_
  refine zV_na (by decide +kernel) (Or.inl ⟨rfl, rfl⟩) h (fun M28 _ h => ?_)
  refine zV_pr (by decide +kernel) zfp_RX12_48_i (Or.inr ⟨_, rfl⟩) (by decide) rfl h (fun M29 _ h => ?_)
  refine zV_b (pc' := 121) (lv' := [(0, .inr (.inr l0))]) (st' := [.inl (4096 : Int32), .inr (.inr l0)]) [(.aload_n 0, 1), (.sipush 4096, 3)] (by decide +kernel) rfl ?_
  refine zV_na (by decide +kernel) (Or.inl ⟨rfl, rfl⟩) h (fun M30 _ h => ?_)
  refine zV_pr (by decide +kernel) zfp_RX12_51_i (Or.inr ⟨_, rfl⟩) (by decide) rfl h (fun M31 _ h => ?_)
  refine zV_b (pc' := 130) (lv' := [(0, .inr (.inr l0))]) (st' := [.inl (20480 : Int32), .inr (.inr l0)]) [(.aload_n 0, 1), (.sipush 20480, 3)] (by decide +kernel) rfl ?_
  refine zV_na (by decide +kernel) (Or.inr ⟨rfl, rfl⟩) h (fun M32 _ h => ?_)
  refine zV_pr (by decide +kernel) zfp_RX12_54_i (Or.inr ⟨_, rfl⟩) (by decide) rfl h (fun M33 _ h => ?_)
  refine zV_b (pc' := 139) (lv' := [(0, .inr (.inr l0))]) (st' := [.inl (1024 : Int32), .inr (.inr l0)]) [(.aload_n 0, 1), (.sipush 1024, 3)] (by decide +kernel) rfl ?_
  refine zV_na (by decide +kernel) (Or.inr ⟨rfl, rfl⟩) h (fun M34 _ h => ?_)
  refine zV_pr (by decide +kernel) zfp_RX12_57_i (Or.inr ⟨_, rfl⟩) (by decide) rfl h (fun M35 _ h => ?_)
  refine zV_b (pc' := 148) (lv' := [(0, .inr (.inr l0))]) (st' := [.inl (256 : Int32), .inr (.inr l0)]) [(.aload_n 0, 1), (.sipush 256, 3)] (by decide +kernel) rfl ?_
  refine zV_na (by decide +kernel) (Or.inr ⟨rfl, rfl⟩) h (fun M36 _ h => ?_)
  refine zV_pr (by decide +kernel) zfp_RX12_60_i (Or.inr ⟨_, rfl⟩) (by decide) rfl h (fun M37 _ h => ?_)
  refine zV_b (pc' := 156) (lv' := [(0, .inr (.inr l0))]) (st' := [.inl (40 : Int32), .inr (.inr l0)]) [(.aload_n 0, 1), (.bipush 40, 2)] (by decide +kernel) rfl ?_
  refine zV_na (by decide +kernel) (Or.inl ⟨rfl, rfl⟩) h (fun M38 _ h => ?_)
  refine zV_pr (by decide +kernel) zfp_RX12_63_i (Or.inr ⟨_, rfl⟩) (by decide) rfl h (fun M39 _ h => ?_)
  refine zV_b (pc' := 164) (lv' := [(0, .inr (.inr l0))]) (st' := [.inl (40 : Int32), .inr (.inr l0)]) [(.aload_n 0, 1), (.bipush 40, 2)] (by decide +kernel) rfl ?_
  refine zV_na (by decide +kernel) (Or.inl ⟨rfl, rfl⟩) h (fun M40 _ h => ?_)
  refine zV_pr (by decide +kernel) zfp_RX12_66_i (Or.inr ⟨_, rfl⟩) (by decide) rfl h (fun M41 _ h => ?_)
  refine zV_b (pc' := 173) (lv' := [(0, .inr (.inr l0))]) (st' := [.inl (800 : Int32), .inr (.inr l0)]) [(.aload_n 0, 1), (.sipush 800, 3)] (by decide +kernel) rfl ?_
  refine zV_na (by decide +kernel) (Or.inl ⟨rfl, rfl⟩) h (fun M42 _ h => ?_)
  refine zV_pr (by decide +kernel) zfp_RX12_69_i (Or.inr ⟨_, rfl⟩) (by decide) rfl h (fun M43 _ h => ?_)
  refine zV_b (pc' := 182) (lv' := [(0, .inr (.inr l0))]) (st' := [.inl (800 : Int32), .inr (.inr l0)]) [(.aload_n 0, 1), (.sipush 800, 3)] (by decide +kernel) rfl ?_
  refine zV_na (by decide +kernel) (Or.inl ⟨rfl, rfl⟩) h (fun M44 _ h => ?_)
  refine zV_pr (by decide +kernel) zfp_RX12_72_i (Or.inr ⟨_, rfl⟩) (by decide) rfl h (fun M45 _ h => ?_)
  refine zV_b (pc' := 191) (lv' := [(0, .inr (.inr l0))]) (st' := [.inl (800 : Int32), .inr (.inr l0)]) [(.aload_n 0, 1), (.sipush 800, 3)] (by decide +kernel) rfl ?_
  refine zV_na (by decide +kernel) (Or.inl ⟨rfl, rfl⟩) h (fun M46 _ h => ?_)
  refine zV_pr (by decide +kernel) zfp_RX12_75_i (Or.inr ⟨_, rfl⟩) (by decide) rfl h (fun M47 _ h => ?_)
  refine zV_b (pc' := 200) (lv' := [(0, .inr (.inr l0))]) (st' := [.inl (800 : Int32), .inr (.inr l0)]) [(.aload_n 0, 1), (.sipush 800, 3)] (by decide +kernel) rfl ?_
  refine zV_na (by decide +kernel) (Or.inl ⟨rfl, rfl⟩) h (fun M48 _ h => ?_)
  refine zV_pr (by decide +kernel) zfp_RX12_78_i (Or.inr ⟨_, rfl⟩) (by decide) rfl h (fun M49 _ h => ?_)
  refine zV_b (pc' := 209) (lv' := [(0, .inr (.inr l0))]) (st' := [.inl (800 : Int32), .inr (.inr l0)]) [(.aload_n 0, 1), (.sipush 800, 3)] (by decide +kernel) rfl ?_
  refine zV_na (by decide +kernel) (Or.inl ⟨rfl, rfl⟩) h (fun M50 _ h => ?_)
  refine zV_pr (by decide +kernel) zfp_RX12_81_i (Or.inr ⟨_, rfl⟩) (by decide) rfl h (fun M51 _ h => ?_)
  refine zV_b (pc' := 218) (lv' := [(0, .inr (.inr l0))]) (st' := [.inl (800 : Int32), .inr (.inr l0)]) [(.aload_n 0, 1), (.sipush 800, 3)] (by decide +kernel) rfl ?_
  refine zV_na (by decide +kernel) (Or.inl ⟨rfl, rfl⟩) h (fun M52 _ h => ?_)
  refine zV_pr (by decide +kernel) zfp_RX12_84_i (Or.inr ⟨_, rfl⟩) (by decide) rfl h (fun M53 _ h => ?_)
  refine zV_b (pc' := 227) (lv' := [(0, .inr (.inr l0))]) (st' := [.inl (800 : Int32), .inr (.inr l0)]) [(.aload_n 0, 1), (.sipush 800, 3)] (by decide +kernel) rfl ?_
  refine zV_na (by decide +kernel) (Or.inl ⟨rfl, rfl⟩) h (fun M54 _ h => ?_)
  refine zV_pr (by decide +kernel) zfp_RX12_87_i (Or.inr ⟨_, rfl⟩) (by decide) rfl h (fun M55 _ h => ?_)
  refine zV_b (pc' := 235) (lv' := [(0, .inr (.inr l0))]) (st' := [.inl (8 : Int32), .inr (.inr l0)]) [(.aload_n 0, 1), (.bipush 8, 2)] (by decide +kernel) rfl ?_
  refine zV_na (by decide +kernel) (Or.inl ⟨rfl, rfl⟩) h (fun M56 _ h => ?_)
  refine zV_pr (by decide +kernel) zfp_RX12_90_i (Or.inr ⟨_, rfl⟩) (by decide) rfl h (fun M57 _ h => ?_)
  refine zV_b (pc' := 243) (lv' := [(0, .inr (.inr l0))]) (st' := [.inl (8 : Int32), .inr (.inr l0)]) [(.aload_n 0, 1), (.bipush 8, 2)] (by decide +kernel) rfl ?_
  refine zV_na (by decide +kernel) (Or.inr ⟨rfl, rfl⟩) h (fun M58 _ h => ?_)
  refine zV_pr (by decide +kernel) zfp_RX12_93_i (Or.inr ⟨_, rfl⟩) (by decide) rfl h (fun M59 _ h => ?_)
  refine zV_b (pc' := 251) (lv' := [(0, .inr (.inr l0))]) (st' := [.inl (8 : Int32), .inr (.inr l0)]) [(.aload_n 0, 1), (.bipush 8, 2)] (by decide +kernel) rfl ?_
  refine zV_na (by decide +kernel) (Or.inr ⟨rfl, rfl⟩) h (fun M60 _ h => ?_)
  refine zV_pr (by decide +kernel) zfp_RX12_96_i (Or.inr ⟨_, rfl⟩) (by decide) rfl h (fun M61 _ h => ?_)
  refine zV_b (pc' := 258) (lv' := [(0, .inr (.inr l0))]) (st' := [.inl (-1 : Int32), .inr (.inr l0)]) [(.aload_n 0, 1), (.iconst (-1), 1)] (by decide +kernel) rfl ?_
  refine zV_pi (by decide +kernel) zfp_RX12_99_i (by decide) rfl h (fun M62 _ h => ?_)
  refine zV_b (pc' := 265) (lv' := [(0, .inr (.inr l0))]) (st' := [.inl (200 : Int32), .inr (.inr l0)]) [(.aload_n 0, 1), (.sipush 200, 3)] (by decide +kernel) rfl ?_
  refine zV_na (by decide +kernel) (Or.inl ⟨rfl, rfl⟩) h (fun M63 _ h => ?_)
  refine zV_pr (by decide +kernel) zfp_RX12_103_i (Or.inr ⟨_, rfl⟩) (by decide) rfl h (fun M64 _ h => ?_)
  refine zV_b (pc' := 274) (lv' := [(0, .inr (.inr l0))]) (st' := [.inl (1000 : Int32), .inr (.inr l0)]) [(.aload_n 0, 1), (.sipush 1000, 3)] (by decide +kernel) rfl ?_
  refine zV_na (by decide +kernel) (Or.inl ⟨rfl, rfl⟩) h (fun M65 _ h => ?_)
  refine zV_pr (by decide +kernel) zfp_RX12_106_i (Or.inr ⟨_, rfl⟩) (by decide) rfl h (fun M66 _ h => ?_)
  refine zV_b (pc' := 283) (lv' := [(0, .inr (.inr l0))]) (st' := [.inl (1000 : Int32), .inr (.inr l0)]) [(.aload_n 0, 1), (.sipush 1000, 3)] (by decide +kernel) rfl ?_
  refine zV_na (by decide +kernel) (Or.inl ⟨rfl, rfl⟩) h (fun M67 _ h => ?_)
  refine zV_pr (by decide +kernel) zfp_RX12_109_i (Or.inr ⟨_, rfl⟩) (by decide) rfl h (fun M68 _ h => ?_)
  refine zV_b (pc' := 292) (lv' := [(0, .inr (.inr l0))]) (st' := [.inl (1000 : Int32), .inr (.inr l0)]) [(.aload_n 0, 1), (.sipush 1000, 3)] (by decide +kernel) rfl ?_
  refine zV_na (by decide +kernel) (Or.inl ⟨rfl, rfl⟩) h (fun M69 _ h => ?_)
  refine zV_pr (by decide +kernel) zfp_RX12_112_i (Or.inr ⟨_, rfl⟩) (by decide) rfl h (fun M70 _ h => ?_)
  refine zV_b (pc' := 301) (lv' := [(0, .inr (.inr l0))]) (st' := [.inl (4000 : Int32), .inr (.inr l0)]) [(.aload_n 0, 1), (.sipush 4000, 3)] (by decide +kernel) rfl ?_
  refine zV_na (by decide +kernel) (Or.inl ⟨rfl, rfl⟩) h (fun M71 _ h => ?_)
  refine zV_pr (by decide +kernel) zfp_RX12_115_i (Or.inr ⟨_, rfl⟩) (by decide) rfl h (fun M72 _ h => ?_)
  refine zV_b (pc' := 310) (lv' := [(0, .inr (.inr l0))]) (st' := [.inl (1000 : Int32), .inr (.inr l0)]) [(.aload_n 0, 1), (.sipush 1000, 3)] (by decide +kernel) rfl ?_
  refine zV_na (by decide +kernel) (Or.inl ⟨rfl, rfl⟩) h (fun M73 _ h => ?_)
  refine zV_pr (by decide +kernel) zfp_RX12_118_i (Or.inr ⟨_, rfl⟩) (by decide) rfl h (fun M74 _ h => ?_)
  refine zV_b (pc' := 316) (lv' := [(0, .inr (.inr l0))]) (st' := [.inr (.inr l0)]) [(.aload_n 0, 1)] (by decide +kernel) rfl ?_
  refine zV_ldc (by decide +kernel) zw_1439 ?_
  refine zV_na (by decide +kernel) (Or.inl ⟨rfl, rfl⟩) h (fun M76 _ h => ?_)
  refine zV_pr (by decide +kernel) zfp_RX12_121_i (Or.inr ⟨_, rfl⟩) (by decide) rfl h (fun M77 _ h => ?_)
  refine zV_b (pc' := 324) (lv' := [(0, .inr (.inr l0))]) (st' := [.inr (.inr l0)]) [(.aload_n 0, 1)] (by decide +kernel) rfl ?_
  refine zV_ldc (by decide +kernel) zw_1439 ?_
  refine zV_na (by decide +kernel) (Or.inr ⟨rfl, rfl⟩) h (fun M79 _ h => ?_)
  refine zV_pr (by decide +kernel) zfp_RX12_124_i (Or.inr ⟨_, rfl⟩) (by decide) rfl h (fun M80 _ h => ?_)
  refine zV_b (pc' := 334) (lv' := [(0, .inr (.inr l0))]) (st' := [.inl (20 : Int32), .inr (.inr l0)]) [(.aload_n 0, 1), (.bipush 20, 2)] (by decide +kernel) rfl ?_
  refine zV_na (by decide +kernel) (Or.inl ⟨rfl, rfl⟩) h (fun M81 _ h => ?_)
  refine zV_pr (by decide +kernel) zfp_RX12_127_i (Or.inr ⟨_, rfl⟩) (by decide) rfl h (fun M82 _ h => ?_)
  refine zV_b (pc' := 342) (lv' := [(0, .inr (.inr l0))]) (st' := [.inl (20 : Int32), .inr (.inr l0)]) [(.aload_n 0, 1), (.bipush 20, 2)] (by decide +kernel) rfl ?_
  refine zV_na (by decide +kernel) (Or.inl ⟨rfl, rfl⟩) h (fun M83 _ h => ?_)
  refine zV_pr (by decide +kernel) zfp_RX12_130_i (Or.inr ⟨_, rfl⟩) (by decide) rfl h (fun M84 _ h => ?_)
  refine zV_b (pc' := 351) (lv' := [(0, .inr (.inr l0))]) (st' := [.inl (1200 : Int32), .inr (.inr l0)]) [(.aload_n 0, 1), (.sipush 1200, 3)] (by decide +kernel) rfl ?_
  refine zV_na (by decide +kernel) (Or.inl ⟨rfl, rfl⟩) h (fun M85 _ h => ?_)
  refine zV_pr (by decide +kernel) zfp_RX12_133_i (Or.inr ⟨_, rfl⟩) (by decide) rfl h (fun M86 _ h => ?_)
  refine zV_b (pc' := 360) (lv' := [(0, .inr (.inr l0))]) (st' := [.inl (20480 : Int32), .inr (.inr l0)]) [(.aload_n 0, 1), (.sipush 20480, 3)] (by decide +kernel) rfl ?_
  refine zV_na (by decide +kernel) (Or.inr ⟨rfl, rfl⟩) h (fun M87 _ h => ?_)
  refine zV_pr (by decide +kernel) zfp_RX12_136_i (Or.inr ⟨_, rfl⟩) (by decide) rfl h (fun M88 _ h => ?_)
  refine zV_b (pc' := 368) (lv' := [(0, .inr (.inr l0))]) (st' := [.inl (32 : Int32), .inr (.inr l0)]) [(.aload_n 0, 1), (.bipush 32, 2)] (by decide +kernel) rfl ?_
  refine zV_na (by decide +kernel) (Or.inl ⟨rfl, rfl⟩) h (fun M89 _ h => ?_)
  refine zV_pr (by decide +kernel) zfp_RX12_139_i (Or.inr ⟨_, rfl⟩) (by decide) rfl h (fun M90 _ h => ?_)
  refine zV_b (pc' := 376) (lv' := [(0, .inr (.inr l0))]) (st' := [.inl (32 : Int32), .inr (.inr l0)]) [(.aload_n 0, 1), (.bipush 32, 2)] (by decide +kernel) rfl ?_
  refine zV_na (by decide +kernel) (Or.inr ⟨rfl, rfl⟩) h (fun M91 _ h => ?_)
  refine zV_pr (by decide +kernel) zfp_RX12_142_i (Or.inr ⟨_, rfl⟩) (by decide) rfl h (fun M92 _ h => ?_)
  refine zV_b (pc' := 384) (lv' := [(0, .inr (.inr l0))]) (st' := [.inl (60 : Int32), .inr (.inr l0)]) [(.aload_n 0, 1), (.bipush 60, 2)] (by decide +kernel) rfl ?_
  refine zV_na (by decide +kernel) (Or.inr ⟨rfl, rfl⟩) h (fun M93 _ h => ?_)
  refine zV_pr (by decide +kernel) zfp_RX12_145_i (Or.inr ⟨_, rfl⟩) (by decide) rfl h (fun M94 _ h => ?_)
  refine zV_b (pc' := 393) (lv' := [(0, .inr (.inr l0))]) (st' := [.inl (1980 : Int32), .inr (.inr l0)]) [(.aload_n 0, 1), (.sipush 1980, 3)] (by decide +kernel) rfl ?_
  refine zV_na (by decide +kernel) (Or.inl ⟨rfl, rfl⟩) h (fun M95 _ h => ?_)
  refine zV_pr (by decide +kernel) zfp_RX12_148_i (Or.inr ⟨_, rfl⟩) (by decide) rfl h (fun M96 _ h => ?_)
  refine zV_b (pc' := 402) (lv' := [(0, .inr (.inr l0))]) (st' := [.inl (1980 : Int32), .inr (.inr l0)]) [(.aload_n 0, 1), (.sipush 1980, 3)] (by decide +kernel) rfl ?_
  refine zV_na (by decide +kernel) (Or.inr ⟨rfl, rfl⟩) h (fun M97 _ h => ?_)
  refine zV_pr (by decide +kernel) zfp_RX12_151_i (Or.inr ⟨_, rfl⟩) (by decide) rfl h (fun M98 _ h => ?_)
  refine zV_b (pc' := 410) (lv' := [(0, .inr (.inr l0))]) (st' := [.inl (48 : Int32), .inr (.inr l0)]) [(.aload_n 0, 1), (.bipush 48, 2)] (by decide +kernel) rfl ?_
  refine zV_na (by decide +kernel) (Or.inr ⟨rfl, rfl⟩) h (fun M99 _ h => ?_)
  refine zV_pr (by decide +kernel) zfp_RX12_154_i (Or.inr ⟨_, rfl⟩) (by decide) rfl h (fun M100 _ h => ?_)
  refine zV_b (pc' := 419) (lv' := [(0, .inr (.inr l0))]) (st' := [.inl (3744 : Int32), .inr (.inr l0)]) [(.aload_n 0, 1), (.sipush 3744, 3)] (by decide +kernel) rfl ?_
  refine zV_na (by decide +kernel) (Or.inr ⟨rfl, rfl⟩) h (fun M101 _ h => ?_)
  refine zV_pr (by decide +kernel) zfp_RX12_157_i (Or.inr ⟨_, rfl⟩) (by decide) rfl h (fun M102 _ h => ?_)
  refine zV_b (pc' := 427) (lv' := [(0, .inr (.inr l0))]) (st' := [.inl (78 : Int32), .inr (.inr l0)]) [(.aload_n 0, 1), (.bipush 78, 2)] (by decide +kernel) rfl ?_
  refine zV_na (by decide +kernel) (Or.inr ⟨rfl, rfl⟩) h (fun M103 _ h => ?_)
  refine zV_pr (by decide +kernel) zfp_RX12_160_i (Or.inr ⟨_, rfl⟩) (by decide) rfl h (fun M104 _ h => ?_)
  refine zV_b (pc' := 435) (lv' := [(0, .inr (.inr l0))]) (st' := [.inl (6 : Int32), .inr (.inr l0)]) [(.aload_n 0, 1), (.bipush 6, 2)] (by decide +kernel) rfl ?_
  refine zV_na (by decide +kernel) (Or.inl ⟨rfl, rfl⟩) h (fun M105 _ h => ?_)
  refine zV_pr (by decide +kernel) zfp_RX12_163_i (Or.inr ⟨_, rfl⟩) (by decide) rfl h (fun M106 _ h => ?_)
  refine zV_b (pc' := 443) (lv' := [(0, .inr (.inr l0))]) (st' := [.inl (6 : Int32), .inr (.inr l0)]) [(.aload_n 0, 1), (.bipush 6, 2)] (by decide +kernel) rfl ?_
  refine zV_na (by decide +kernel) (Or.inl ⟨rfl, rfl⟩) h (fun M107 _ h => ?_)
  refine zV_pr (by decide +kernel) zfp_RX12_166_i (Or.inr ⟨_, rfl⟩) (by decide) rfl h (fun M108 _ h => ?_)
  refine zV_b (pc' := 451) (lv' := [(0, .inr (.inr l0))]) (st' := [.inl (6 : Int32), .inr (.inr l0)]) [(.aload_n 0, 1), (.bipush 6, 2)] (by decide +kernel) rfl ?_
  refine zV_na (by decide +kernel) (Or.inl ⟨rfl, rfl⟩) h (fun M109 _ h => ?_)
  refine zV_pr (by decide +kernel) zfp_RX12_169_i (Or.inr ⟨_, rfl⟩) (by decide) rfl h (fun M110 _ h => ?_)
  refine zV_b (pc' := 458) (lv' := [(1, .inl (0 : Int32)), (0, .inr (.inr l0))]) (st' := []) [(.iconst 0, 1), (.istore_n 1, 1)] (by decide +kernel) rfl ?_
  obtain ⟨y115, e115, h⟩ := zb1_inv h
  refine zV_lv (lv' := [(0, .inr (.inr l0)), (1, .inl (0 : Int32))]) [1, 0] rfl (zt_X12_init_L458 e115 ?_)
  obtain ⟨M458_115, l1_115⟩ := y115
  show zV X zC_X12_init M458_115 477 [(0, .inr (.inr l0))] []
  refine zV_b (pc' := 479) (lv' := [(1, .inl (0 : Int32)), (0, .inr (.inr l0))]) (st' := []) [(.iconst 0, 1), (.istore_n 1, 1)] (by decide +kernel) rfl ?_
  obtain ⟨y120, e120, h⟩ := zb1_inv h
  refine zV_lv (lv' := [(0, .inr (.inr l0)), (1, .inl (0 : Int32))]) [1, 0] rfl (zt_X12_init_L479 e120 ?_)
  obtain ⟨M479_120, l1_120⟩ := y120
  show zV X zC_X12_init M479_120 499 [] []
  exact zend_v h hR (by decide +kernel)
theorem zc_X12_init {M M' : Zm} {l0 : Option Nat} {x : Unit} (h : zf_X12_init M l0 = some (M', x)) (l : Launch) (D : va_G) (cy : Nat → ClassId) : zMet l yX12_init zC_X12_init none D cy [.inr (.inr l0)] M M' none :=
  zM_v (by decide) rfl (fun _ => rfl) (Nat.le_of_ble_eq_true rfl) (fun X hR => zt_X12_init h hR)
-- BlendCellarModel.account(II)J
def zC_X12_account_ : Zc := (cX12_account_, 4, RX12, 0, 0, false)
theorem zcl_X12_account_ {C : Zc} (h1 : zC_X12_account_.2.2.2.1 + 1 ≤ C.2.2.2.1) (h2 : 8 + (zC_X12_account_.2.1 + 11) + zC_X12_account_.2.2.2.2.1 ≤ C.2.2.2.2.1) : zCl C yX12_account_ zC_X12_account_ (some .long) 2 := ⟨zw_1981, zw_114, ⟨by decide, by decide⟩, by decide +kernel, h1, h2⟩
noncomputable def zf_X12_account__J34 (M : Zm) (l0 : Option Nat) (l1 : Int32) (l2 : Int32) (s0 : Int32) : Option (Zm × Int64) :=
  (if s0 = 0 then
  some (M, (0 : Int64))
  else
  zb1 (zo_gr M l0 13 17) (fun v4 =>
  zb1 (zo_gr M l0 13 15) (fun v5 =>
  zb1 (zo_ai M v5 l1) (fun v6 =>
  zb1 (zo_aj M v4 (((5 : Int32) * (v6 - (1 : Int32))) + l2)) (fun v7 =>
  some (M, v7))))))
noncomputable def zf_X12_account__J33 (M : Zm) (l0 : Option Nat) (l1 : Int32) (l2 : Int32) : Option (Zm × Int64) :=
  zf_X12_account__J34 M l0 l1 l2 (0 : Int32)
noncomputable def zf_X12_account_ (M : Zm) (l0 : Option Nat) (l1 : Int32) (l2 : Int32) : Option (Zm × Int64) :=
  (if l1 < 0 then
  zf_X12_account__J33 M l0 l1 l2
  else
  (if (4096 : Int32) ≤ l1 then
  zf_X12_account__J33 M l0 l1 l2
  else
  (if l2 < 0 then
  zf_X12_account__J33 M l0 l1 l2
  else
  (if (4 : Int32) < l2 then
  zf_X12_account__J33 M l0 l1 l2
  else
  zb1 (zo_gr M l0 13 15) (fun v13 =>
  zb1 (zo_ai M v13 l1) (fun v14 =>
  (if v14 ≤ 0 then
  zf_X12_account__J33 M l0 l1 l2
  else
  zf_X12_account__J34 M l0 l1 l2 (1 : Int32))))))))
set_option maxRecDepth 100000 in
theorem zt_X12_account__J34 {X : Zx} {M : Zm} {l0 : Option Nat} {l1 : Int32} {l2 : Int32} {s0 : Int32} {z : Zm × Int64} (h : zf_X12_account__J34 M l0 l1 l2 s0 = some z) (hR : zRj X zC_X12_account_ z.1 z.2) : zV X zC_X12_account_ M 34 [(0, .inr (.inr l0)), (1, .inl l1), (2, .inl l2)] [.inl s0] := by
  unfold zf_X12_account__J34 at h
  refine zV_b (pc' := 36) (lv' := [(3, .inl s0), (0, .inr (.inr l0)), (1, .inl l1), (2, .inl l2)]) (st' := [.inl s0]) [(.istore_n 3, 1), (.iload_n 3, 1)] (by decide +kernel) rfl ?_
  refine zV_if_eq (off := 23) (tgt := 59) (by decide +kernel) (by decide) h (fun c2 h => ?_) (fun c2 h => ?_)
  · refine zV_b (pc' := 60) (lv' := [(3, .inl s0), (0, .inr (.inr l0)), (1, .inl l1), (2, .inl l2)]) (st' := [.inr (.inl (0 : Int64))]) [(.lconst 0, 1)] (by decide +kernel) rfl ?_
    exact zend_j h hR (by decide +kernel)
  · refine zV_b (pc' := 40) (lv' := [(3, .inl s0), (0, .inr (.inr l0)), (1, .inl l1), (2, .inl l2)]) (st' := [.inr (.inr l0)]) [(.aload_n 0, 1)] (by decide +kernel) rfl ?_
    refine zV_gr (by decide +kernel) zfl_RX12_54 (by decide) rfl h (fun v4 _ h => ?_)
    refine zV_b (pc' := 45) (lv' := [(3, .inl s0), (0, .inr (.inr l0)), (1, .inl l1), (2, .inl l2)]) (st' := [.inr (.inr l0), .inl (5 : Int32), .inr (.inr v4)]) [(.iconst 5, 1), (.aload_n 0, 1)] (by decide +kernel) rfl ?_
    refine zV_gr (by decide +kernel) zfl_RX12_48 (by decide) rfl h (fun v5 _ h => ?_)
    refine zV_b (pc' := 49) (lv' := [(3, .inl s0), (0, .inr (.inr l0)), (1, .inl l1), (2, .inl l2)]) (st' := [.inl l1, .inr (.inr v5), .inl (5 : Int32), .inr (.inr v4)]) [(.iload_n 1, 1)] (by decide +kernel) rfl ?_
    refine zV_ai (by decide +kernel) h (fun v6 _ h => ?_)
    refine zV_b (pc' := 55) (lv' := [(3, .inl s0), (0, .inr (.inr l0)), (1, .inl l1), (2, .inl l2)]) (st' := [.inl (((5 : Int32) * (v6 - (1 : Int32))) + l2), .inr (.inr v4)]) [(.iconst 1, 1), (.isub, 1), (.imul, 1), (.iload_n 2, 1), (.iadd, 1)] (by decide +kernel) rfl ?_
    refine zV_aj (by decide +kernel) h (fun v7 _ h => ?_)
    refine zV_goto (off := 4) (tgt := 60) (by decide +kernel) (by decide) ?_
    exact zend_j h hR (by decide +kernel)
set_option maxRecDepth 100000 in
theorem zt_X12_account__J33 {X : Zx} {M : Zm} {l0 : Option Nat} {l1 : Int32} {l2 : Int32} {z : Zm × Int64} (h : zf_X12_account__J33 M l0 l1 l2 = some z) (hR : zRj X zC_X12_account_ z.1 z.2) : zV X zC_X12_account_ M 33 [(0, .inr (.inr l0)), (1, .inl l1), (2, .inl l2)] [] := by
  unfold zf_X12_account__J33 at h
  refine zV_b (pc' := 34) (lv' := [(0, .inr (.inr l0)), (1, .inl l1), (2, .inl l2)]) (st' := [.inl (0 : Int32)]) [(.iconst 0, 1)] (by decide +kernel) rfl ?_
  exact zV_lv (lv' := [(0, .inr (.inr l0)), (1, .inl l1), (2, .inl l2)]) [0, 1, 2] rfl (zt_X12_account__J34 h hR)
set_option maxRecDepth 100000 in
theorem zt_X12_account_ {X : Zx} {M : Zm} {l0 : Option Nat} {l1 : Int32} {l2 : Int32} {z : Zm × Int64} (h : zf_X12_account_ M l0 l1 l2 = some z) (hR : zRj X zC_X12_account_ z.1 z.2) : zV X zC_X12_account_ M 0 [(0, .inr (.inr l0)), (1, .inl l1), (2, .inl l2)] [] := by
  unfold zf_X12_account_ at h
  refine zV_b (pc' := 1) (lv' := [(0, .inr (.inr l0)), (1, .inl l1), (2, .inl l2)]) (st' := [.inl l1]) [(.iload_n 1, 1)] (by decide +kernel) rfl ?_
  refine zV_if_lt (off := 32) (tgt := 33) (by decide +kernel) (by decide) h (fun c1 h => ?_) (fun c1 h => ?_)
  · exact zV_lv (lv' := [(0, .inr (.inr l0)), (1, .inl l1), (2, .inl l2)]) [0, 1, 2] rfl (zt_X12_account__J33 h hR)
  · refine zV_b (pc' := 8) (lv' := [(0, .inr (.inr l0)), (1, .inl l1), (2, .inl l2)]) (st' := [.inl (4096 : Int32), .inl l1]) [(.iload_n 1, 1), (.sipush 4096, 3)] (by decide +kernel) rfl ?_
    refine zV_icmp_ge (off := 25) (tgt := 33) (by decide +kernel) (by decide) h (fun c10 h => ?_) (fun c10 h => ?_)
    · exact zV_lv (lv' := [(0, .inr (.inr l0)), (1, .inl l1), (2, .inl l2)]) [0, 1, 2] rfl (zt_X12_account__J33 h hR)
    · refine zV_b (pc' := 12) (lv' := [(0, .inr (.inr l0)), (1, .inl l1), (2, .inl l2)]) (st' := [.inl l2]) [(.iload_n 2, 1)] (by decide +kernel) rfl ?_
      refine zV_if_lt (off := 21) (tgt := 33) (by decide +kernel) (by decide) h (fun c11 h => ?_) (fun c11 h => ?_)
      · exact zV_lv (lv' := [(0, .inr (.inr l0)), (1, .inl l1), (2, .inl l2)]) [0, 1, 2] rfl (zt_X12_account__J33 h hR)
      · refine zV_b (pc' := 17) (lv' := [(0, .inr (.inr l0)), (1, .inl l1), (2, .inl l2)]) (st' := [.inl (4 : Int32), .inl l2]) [(.iload_n 2, 1), (.iconst 4, 1)] (by decide +kernel) rfl ?_
        refine zV_icmp_gt (off := 16) (tgt := 33) (by decide +kernel) (by decide) h (fun c12 h => ?_) (fun c12 h => ?_)
        · exact zV_lv (lv' := [(0, .inr (.inr l0)), (1, .inl l1), (2, .inl l2)]) [0, 1, 2] rfl (zt_X12_account__J33 h hR)
        · refine zV_b (pc' := 21) (lv' := [(0, .inr (.inr l0)), (1, .inl l1), (2, .inl l2)]) (st' := [.inr (.inr l0)]) [(.aload_n 0, 1)] (by decide +kernel) rfl ?_
          refine zV_gr (by decide +kernel) zfl_RX12_48 (by decide) rfl h (fun v13 _ h => ?_)
          refine zV_b (pc' := 25) (lv' := [(0, .inr (.inr l0)), (1, .inl l1), (2, .inl l2)]) (st' := [.inl l1, .inr (.inr v13)]) [(.iload_n 1, 1)] (by decide +kernel) rfl ?_
          refine zV_ai (by decide +kernel) h (fun v14 _ h => ?_)
          refine zV_if_le (off := 7) (tgt := 33) (by decide +kernel) (by decide) h (fun c15 h => ?_) (fun c15 h => ?_)
          · exact zV_lv (lv' := [(0, .inr (.inr l0)), (1, .inl l1), (2, .inl l2)]) [0, 1, 2] rfl (zt_X12_account__J33 h hR)
          · refine zV_b (pc' := 30) (lv' := [(0, .inr (.inr l0)), (1, .inl l1), (2, .inl l2)]) (st' := [.inl (1 : Int32)]) [(.iconst 1, 1)] (by decide +kernel) rfl ?_
            refine zV_goto (off := 4) (tgt := 34) (by decide +kernel) (by decide) ?_
            exact zV_lv (lv' := [(0, .inr (.inr l0)), (1, .inl l1), (2, .inl l2)]) [0, 1, 2] rfl (zt_X12_account__J34 h hR)
theorem zc_X12_account_ {M M' : Zm} {l0 : Option Nat} {l1 : Int32} {l2 : Int32} {x : Int64} (h : zf_X12_account_ M l0 l1 l2 = some (M', x)) (l : Launch) (D : va_G) (cy : Nat → ClassId) : zMet l yX12_account_ zC_X12_account_ (some .long) D cy [.inr (.inr l0), .inl l1, .inl l2] M M' (some (.inr (.inl x))) :=
  zM_j (by decide) rfl (fun h => by cases h) (Nat.le_of_ble_eq_true rfl) (fun X hR => zt_X12_account_ h hR)
-- BlendCellarModel.account(IIJ)V
def zC_X12_account : Zc := (cX12_account, 6, RX12, 0, 0, false)
theorem zcl_X12_account {C : Zc} (h1 : zC_X12_account.2.2.2.1 + 1 ≤ C.2.2.2.1) (h2 : 8 + (zC_X12_account.2.1 + 11) + zC_X12_account.2.2.2.2.1 ≤ C.2.2.2.2.1) : zCl C yX12_account zC_X12_account none 3 := ⟨zw_1786, zw_114, ⟨by decide, by decide⟩, by decide +kernel, h1, h2⟩
noncomputable def zf_X12_account_J46 (M : Zm) (l0 : Option Nat) (l1 : Int32) (l2 : Int32) (l3 : Int64) : Option (Zm × Unit) :=
  zb1 (zo_gr M l0 13 15) (fun v14 =>
  zb1 (zo_ai M v14 l1) (fun v15 =>
  zb1 (zo_gr M l0 13 17) (fun v16 =>
  zb1 (zo_gr M l0 13 17) (fun v17 =>
  zb1 (zo_aj M v17 (((5 : Int32) * (v15 - (1 : Int32))) + l2)) (fun v18 =>
  zb1 (zo_sj M v16 (((5 : Int32) * (v15 - (1 : Int32))) + l2) (v18 + l3)) (fun M19 =>
  some (M19, ())))))))
noncomputable def zf_X12_account (M : Zm) (l0 : Option Nat) (l1 : Int32) (l2 : Int32) (l3 : Int64) : Option (Zm × Unit) :=
  (if l3 = (0 : Int64) then
  some (M, ())
  else
  zb1 (zo_gr M l0 13 15) (fun v3 =>
  zb1 (zo_ai M v3 l1) (fun v4 =>
  (if v4 = 0 then
  zb1 (zo_gr M l0 13 16) (fun v6 =>
  zb1 (zo_gi M l0 13 14) (fun v7 =>
  zb1 (zo_si M v6 v7 l1) (fun M8 =>
  zb1 (zo_gi M8 l0 13 14) (fun v9 =>
  zb1 (zo_pi M8 l0 13 14 (v9 + (1 : Int32))) (fun M10 =>
  zb1 (zo_gr M10 l0 13 15) (fun v11 =>
  zb1 (zo_gi M10 l0 13 14) (fun v12 =>
  zb1 (zo_si M10 v11 l1 v12) (fun M13 =>
  zf_X12_account_J46 M13 l0 l1 l2 l3))))))))
  else
  zf_X12_account_J46 M l0 l1 l2 l3))))
set_option maxRecDepth 100000 in
theorem zt_X12_account_J46 {X : Zx} {M : Zm} {l0 : Option Nat} {l1 : Int32} {l2 : Int32} {l3 : Int64} {z : Zm × Unit} (h : zf_X12_account_J46 M l0 l1 l2 l3 = some z) (hR : zRv X zC_X12_account z.1) : zV X zC_X12_account M 46 [(0, .inr (.inr l0)), (1, .inl l1), (2, .inl l2), (3, .inr (.inl l3))] [] := by
  unfold zf_X12_account_J46 at h
  refine zV_b (pc' := 48) (lv' := [(0, .inr (.inr l0)), (1, .inl l1), (2, .inl l2), (3, .inr (.inl l3))]) (st' := [.inr (.inr l0), .inl (5 : Int32)]) [(.iconst 5, 1), (.aload_n 0, 1)] (by decide +kernel) rfl ?_
  refine zV_gr (by decide +kernel) zfl_RX12_48 (by decide) rfl h (fun v14 _ h => ?_)
  refine zV_b (pc' := 52) (lv' := [(0, .inr (.inr l0)), (1, .inl l1), (2, .inl l2), (3, .inr (.inl l3))]) (st' := [.inl l1, .inr (.inr v14), .inl (5 : Int32)]) [(.iload_n 1, 1)] (by decide +kernel) rfl ?_
  refine zV_ai (by decide +kernel) h (fun v15 _ h => ?_)
  refine zV_b (pc' := 61) (lv' := [(5, .inl (((5 : Int32) * (v15 - (1 : Int32))) + l2)), (0, .inr (.inr l0)), (1, .inl l1), (2, .inl l2), (3, .inr (.inl l3))]) (st' := [.inr (.inr l0)]) [(.iconst 1, 1), (.isub, 1), (.imul, 1), (.iload_n 2, 1), (.iadd, 1), (.istore 5, 2), (.aload_n 0, 1)] (by decide +kernel) rfl ?_
  refine zV_gr (by decide +kernel) zfl_RX12_54 (by decide) rfl h (fun v16 _ h => ?_)
  refine zV_b (pc' := 67) (lv' := [(5, .inl (((5 : Int32) * (v15 - (1 : Int32))) + l2)), (0, .inr (.inr l0)), (1, .inl l1), (2, .inl l2), (3, .inr (.inl l3))]) (st' := [.inr (.inr l0), .inl (((5 : Int32) * (v15 - (1 : Int32))) + l2), .inr (.inr v16)]) [(.iload 5, 2), (.aload_n 0, 1)] (by decide +kernel) rfl ?_
  refine zV_gr (by decide +kernel) zfl_RX12_54 (by decide) rfl h (fun v17 _ h => ?_)
  refine zV_b (pc' := 72) (lv' := [(5, .inl (((5 : Int32) * (v15 - (1 : Int32))) + l2)), (0, .inr (.inr l0)), (1, .inl l1), (2, .inl l2), (3, .inr (.inl l3))]) (st' := [.inl (((5 : Int32) * (v15 - (1 : Int32))) + l2), .inr (.inr v17), .inl (((5 : Int32) * (v15 - (1 : Int32))) + l2), .inr (.inr v16)]) [(.iload 5, 2)] (by decide +kernel) rfl ?_
  refine zV_aj (by decide +kernel) h (fun v18 _ h => ?_)
  refine zV_b (pc' := 75) (lv' := [(5, .inl (((5 : Int32) * (v15 - (1 : Int32))) + l2)), (0, .inr (.inr l0)), (1, .inl l1), (2, .inl l2), (3, .inr (.inl l3))]) (st' := [.inr (.inl (v18 + l3)), .inl (((5 : Int32) * (v15 - (1 : Int32))) + l2), .inr (.inr v16)]) [(.lload_n 3, 1), (.ladd, 1)] (by decide +kernel) rfl ?_
  refine zV_sj (by decide +kernel) h (fun M19 _ h => ?_)
  exact zend_v h hR (by decide +kernel)
set_option maxRecDepth 100000 in
theorem zt_X12_account {X : Zx} {M : Zm} {l0 : Option Nat} {l1 : Int32} {l2 : Int32} {l3 : Int64} {z : Zm × Unit} (h : zf_X12_account M l0 l1 l2 l3 = some z) (hR : zRv X zC_X12_account z.1) : zV X zC_X12_account M 0 [(0, .inr (.inr l0)), (1, .inl l1), (2, .inl l2), (3, .inr (.inl l3))] [] := by
  unfold zf_X12_account at h
  refine zV_b (pc' := 2) (lv' := [(0, .inr (.inr l0)), (1, .inl l1), (2, .inl l2), (3, .inr (.inl l3))]) (st' := [.inr (.inl (0 : Int64)), .inr (.inl l3)]) [(.lload_n 3, 1), (.lconst 0, 1)] (by decide +kernel) rfl ?_
  refine zV_lcmp_ne (off := 4) (tgt := 7) (by decide +kernel) (by decide +kernel) (by decide) h (fun c1 h => ?_) (fun c1 h => ?_)
  · exact zend_v h hR (by decide +kernel)
  · refine zV_b (pc' := 8) (lv' := [(0, .inr (.inr l0)), (1, .inl l1), (2, .inl l2), (3, .inr (.inl l3))]) (st' := [.inr (.inr l0)]) [(.aload_n 0, 1)] (by decide +kernel) rfl ?_
    refine zV_gr (by decide +kernel) zfl_RX12_48 (by decide) rfl h (fun v3 _ h => ?_)
    refine zV_b (pc' := 12) (lv' := [(0, .inr (.inr l0)), (1, .inl l1), (2, .inl l2), (3, .inr (.inl l3))]) (st' := [.inl l1, .inr (.inr v3)]) [(.iload_n 1, 1)] (by decide +kernel) rfl ?_
    refine zV_ai (by decide +kernel) h (fun v4 _ h => ?_)
    refine zV_if_ne (off := 33) (tgt := 46) (by decide +kernel) (by decide) h (fun c5 h => ?_) (fun c5 h => ?_)
    · refine zV_b (pc' := 17) (lv' := [(0, .inr (.inr l0)), (1, .inl l1), (2, .inl l2), (3, .inr (.inl l3))]) (st' := [.inr (.inr l0)]) [(.aload_n 0, 1)] (by decide +kernel) rfl ?_
      refine zV_gr (by decide +kernel) zfl_RX12_51 (by decide) rfl h (fun v6 _ h => ?_)
      refine zV_b (pc' := 21) (lv' := [(0, .inr (.inr l0)), (1, .inl l1), (2, .inl l2), (3, .inr (.inl l3))]) (st' := [.inr (.inr l0), .inr (.inr v6)]) [(.aload_n 0, 1)] (by decide +kernel) rfl ?_
      refine zV_gi (by decide +kernel) zfl_RX12_199 (by decide) rfl (Or.inl rfl) h (fun v7 _ h => ?_)
      refine zV_b (pc' := 25) (lv' := [(0, .inr (.inr l0)), (1, .inl l1), (2, .inl l2), (3, .inr (.inl l3))]) (st' := [.inl l1, .inl v7, .inr (.inr v6)]) [(.iload_n 1, 1)] (by decide +kernel) rfl ?_
      refine zV_si (by decide +kernel) h (fun M8 _ h => ?_)
      refine zV_b (pc' := 28) (lv' := [(0, .inr (.inr l0)), (1, .inl l1), (2, .inl l2), (3, .inr (.inl l3))]) (st' := [.inr (.inr l0), .inr (.inr l0)]) [(.aload_n 0, 1), (.dup, 1)] (by decide +kernel) rfl ?_
      refine zV_gi (by decide +kernel) zfl_RX12_199 (by decide) rfl (Or.inl rfl) h (fun v9 _ h => ?_)
      refine zV_b (pc' := 33) (lv' := [(0, .inr (.inr l0)), (1, .inl l1), (2, .inl l2), (3, .inr (.inl l3))]) (st' := [.inl (v9 + (1 : Int32)), .inr (.inr l0)]) [(.iconst 1, 1), (.iadd, 1)] (by decide +kernel) rfl ?_
      refine zV_pi (by decide +kernel) zfp_RX12_199 (by decide) rfl h (fun M10 _ h => ?_)
      refine zV_b (pc' := 37) (lv' := [(0, .inr (.inr l0)), (1, .inl l1), (2, .inl l2), (3, .inr (.inl l3))]) (st' := [.inr (.inr l0)]) [(.aload_n 0, 1)] (by decide +kernel) rfl ?_
      refine zV_gr (by decide +kernel) zfl_RX12_48 (by decide) rfl h (fun v11 _ h => ?_)
      refine zV_b (pc' := 42) (lv' := [(0, .inr (.inr l0)), (1, .inl l1), (2, .inl l2), (3, .inr (.inl l3))]) (st' := [.inr (.inr l0), .inl l1, .inr (.inr v11)]) [(.iload_n 1, 1), (.aload_n 0, 1)] (by decide +kernel) rfl ?_
      refine zV_gi (by decide +kernel) zfl_RX12_199 (by decide) rfl (Or.inl rfl) h (fun v12 _ h => ?_)
      refine zV_si (by decide +kernel) h (fun M13 _ h => ?_)
      exact zV_lv (lv' := [(0, .inr (.inr l0)), (1, .inl l1), (2, .inl l2), (3, .inr (.inl l3))]) [0, 1, 2, 3] rfl (zt_X12_account_J46 h hR)
    · exact zV_lv (lv' := [(0, .inr (.inr l0)), (1, .inl l1), (2, .inl l2), (3, .inr (.inl l3))]) [0, 1, 2, 3] rfl (zt_X12_account_J46 h hR)
theorem zc_X12_account {M M' : Zm} {l0 : Option Nat} {l1 : Int32} {l2 : Int32} {l3 : Int64} {x : Unit} (h : zf_X12_account M l0 l1 l2 l3 = some (M', x)) (l : Launch) (D : va_G) (cy : Nat → ClassId) : zMet l yX12_account zC_X12_account none D cy [.inr (.inr l0), .inl l1, .inl l2, .inr (.inl l3)] M M' none :=
  zM_v (by decide) rfl (fun h => by cases h) (Nat.le_of_ble_eq_true rfl) (fun X hR => zt_X12_account h hR)
-- BlendCellarModel.addDraw(IJ)V
def zC_X12_addDraw : Zc := (cX12_addDraw, 4, RX12, 0, 0, false)
theorem zcl_X12_addDraw {C : Zc} (h1 : zC_X12_addDraw.2.2.2.1 + 1 ≤ C.2.2.2.1) (h2 : 8 + (zC_X12_addDraw.2.1 + 11) + zC_X12_addDraw.2.2.2.2.1 ≤ C.2.2.2.2.1) : zCl C yX12_addDraw zC_X12_addDraw none 2 := ⟨zw_1810, zw_114, ⟨by decide, by decide⟩, by decide +kernel, h1, h2⟩
noncomputable def zf_X12_addDraw (M : Zm) (l0 : Option Nat) (l1 : Int32) (l2 : Int64) : Option (Zm × Unit) :=
  zb1 (zo_gr M l0 13 61) (fun v1 =>
  zb1 (zo_gi M l0 13 60) (fun v2 =>
  zb1 (zo_si M v1 v2 l1) (fun M3 =>
  zb1 (zo_gr M3 l0 13 62) (fun v4 =>
  zb1 (zo_gi M3 l0 13 60) (fun v5 =>
  zb1 (zo_sj M3 v4 v5 l2) (fun M6 =>
  zb1 (zo_gi M6 l0 13 60) (fun v7 =>
  zb1 (zo_pi M6 l0 13 60 (v7 + (1 : Int32))) (fun M8 =>
  some (M8, ())))))))))
set_option maxRecDepth 100000 in
theorem zt_X12_addDraw {X : Zx} {M : Zm} {l0 : Option Nat} {l1 : Int32} {l2 : Int64} {z : Zm × Unit} (h : zf_X12_addDraw M l0 l1 l2 = some z) (hR : zRv X zC_X12_addDraw z.1) : zV X zC_X12_addDraw M 0 [(0, .inr (.inr l0)), (1, .inl l1), (2, .inr (.inl l2))] [] := by
  unfold zf_X12_addDraw at h
  refine zV_b (pc' := 1) (lv' := [(0, .inr (.inr l0)), (1, .inl l1), (2, .inr (.inl l2))]) (st' := [.inr (.inr l0)]) [(.aload_n 0, 1)] (by decide +kernel) rfl ?_
  refine zV_gr (by decide +kernel) zfl_RX12_139 (by decide) rfl h (fun v1 _ h => ?_)
  refine zV_b (pc' := 5) (lv' := [(0, .inr (.inr l0)), (1, .inl l1), (2, .inr (.inl l2))]) (st' := [.inr (.inr l0), .inr (.inr v1)]) [(.aload_n 0, 1)] (by decide +kernel) rfl ?_
  refine zV_gi (by decide +kernel) zfl_RX12_247 (by decide) rfl (Or.inl rfl) h (fun v2 _ h => ?_)
  refine zV_b (pc' := 9) (lv' := [(0, .inr (.inr l0)), (1, .inl l1), (2, .inr (.inl l2))]) (st' := [.inl l1, .inl v2, .inr (.inr v1)]) [(.iload_n 1, 1)] (by decide +kernel) rfl ?_
  refine zV_si (by decide +kernel) h (fun M3 _ h => ?_)
  refine zV_b (pc' := 11) (lv' := [(0, .inr (.inr l0)), (1, .inl l1), (2, .inr (.inl l2))]) (st' := [.inr (.inr l0)]) [(.aload_n 0, 1)] (by decide +kernel) rfl ?_
  refine zV_gr (by decide +kernel) zfl_RX12_142 (by decide) rfl h (fun v4 _ h => ?_)
  refine zV_b (pc' := 15) (lv' := [(0, .inr (.inr l0)), (1, .inl l1), (2, .inr (.inl l2))]) (st' := [.inr (.inr l0), .inr (.inr v4)]) [(.aload_n 0, 1)] (by decide +kernel) rfl ?_
  refine zV_gi (by decide +kernel) zfl_RX12_247 (by decide) rfl (Or.inl rfl) h (fun v5 _ h => ?_)
  refine zV_b (pc' := 19) (lv' := [(0, .inr (.inr l0)), (1, .inl l1), (2, .inr (.inl l2))]) (st' := [.inr (.inl l2), .inl v5, .inr (.inr v4)]) [(.lload_n 2, 1)] (by decide +kernel) rfl ?_
  refine zV_sj (by decide +kernel) h (fun M6 _ h => ?_)
  refine zV_b (pc' := 22) (lv' := [(0, .inr (.inr l0)), (1, .inl l1), (2, .inr (.inl l2))]) (st' := [.inr (.inr l0), .inr (.inr l0)]) [(.aload_n 0, 1), (.dup, 1)] (by decide +kernel) rfl ?_
  refine zV_gi (by decide +kernel) zfl_RX12_247 (by decide) rfl (Or.inl rfl) h (fun v7 _ h => ?_)
  refine zV_b (pc' := 27) (lv' := [(0, .inr (.inr l0)), (1, .inl l1), (2, .inr (.inl l2))]) (st' := [.inl (v7 + (1 : Int32)), .inr (.inr l0)]) [(.iconst 1, 1), (.iadd, 1)] (by decide +kernel) rfl ?_
  refine zV_pi (by decide +kernel) zfp_RX12_247 (by decide) rfl h (fun M8 _ h => ?_)
  exact zend_v h hR (by decide +kernel)
theorem zc_X12_addDraw {M M' : Zm} {l0 : Option Nat} {l1 : Int32} {l2 : Int64} {x : Unit} (h : zf_X12_addDraw M l0 l1 l2 = some (M', x)) (l : Launch) (D : va_G) (cy : Nat → ClassId) : zMet l yX12_addDraw zC_X12_addDraw none D cy [.inr (.inr l0), .inl l1, .inr (.inl l2)] M M' none :=
  zM_v (by decide) rfl (fun h => by cases h) (Nat.le_of_ble_eq_true rfl) (fun X hR => zt_X12_addDraw h hR)
-- BlendCellarModel.inVessel(I)J
def zC_X12_inVessel : Zc := (cX12_inVessel, 5, RX12, 0, 0, false)
theorem zcl_X12_inVessel {C : Zc} (h1 : zC_X12_inVessel.2.2.2.1 + 1 ≤ C.2.2.2.1) (h2 : 8 + (zC_X12_inVessel.2.1 + 11) + zC_X12_inVessel.2.2.2.2.1 ≤ C.2.2.2.2.1) : zCl C yX12_inVessel zC_X12_inVessel (some .long) 1 := ⟨zw_1762, zw_114, ⟨by decide, by decide⟩, by decide +kernel, h1, h2⟩
noncomputable def zf_X12_inVessel_L8 (p0 : Option Nat) (p1 : Int32) (x : Zm × Int64 × Int32) : Option ((Zm × Int64 × Int32) ⊕ (Zm × Int64 × Int32)) := match x with
  | (M, l2, l4) =>
  zb1 (zo_gr M p0 13 8) (fun v1 =>
  zb1 (zo_ai M v1 p1) (fun v2 =>
  (if (((60 : Int32) * p1) + v2) ≤ l4 then
  some (.inr (M, l2, l4))
  else
  zb1 (zo_gr M p0 13 10) (fun v4 =>
  zb1 (zo_aj M v4 l4) (fun v5 =>
  some (.inl (M, (l2 + v5), (l4 + 1))))))))
def zP_X12_inVessel_L8 (X : Zx) (p0 : Option Nat) (p1 : Int32) (x : Zm × Int64 × Int32) : Prop := match x with
  | (M, l2, l4) => zV X zC_X12_inVessel M 8 [(0, .inr (.inr p0)), (1, .inl p1), (2, .inr (.inl l2)), (4, .inl l4)] []
def zK_X12_inVessel_L8 (X : Zx) (p0 : Option Nat) (p1 : Int32) (y : Zm × Int64 × Int32) : Prop := match y with
  | (M, l2, l4) => zV X zC_X12_inVessel M 40 [(2, .inr (.inl l2))] []
noncomputable def zf_X12_inVessel (M : Zm) (l0 : Option Nat) (l1 : Int32) : Option (Zm × Int64) :=
  zb1 (zwhile (zf_X12_inVessel_L8 l0 l1) (M, (0 : Int64), ((60 : Int32) * l1))) (fun y7 => match y7 with
  | (M8_7, l2_7, l4_7) =>
  some (M8_7, l2_7))
set_option maxRecDepth 100000 in
theorem zt_X12_inVessel_L8 {X : Zx} {p0 : Option Nat} {p1 : Int32} {x : Zm × Int64 × Int32} {y : Zm × Int64 × Int32} (h : zwhile (zf_X12_inVessel_L8 p0 p1) x = some y) (hy : zK_X12_inVessel_L8 X p0 p1 y) : zP_X12_inVessel_L8 X p0 p1 x := by
  refine zwhile_ind (P := zP_X12_inVessel_L8 X p0 p1) (K := zK_X12_inVessel_L8 X p0 p1) ?_ h hy
  intro x z hf k1 k2
  obtain ⟨M, l2, l4⟩ := x
  have h : zf_X12_inVessel_L8 p0 p1 (M, l2, l4) = some z := hf
  unfold zf_X12_inVessel_L8 at h
  show zV X zC_X12_inVessel M 8 [(0, .inr (.inr p0)), (1, .inl p1), (2, .inr (.inl l2)), (4, .inl l4)] []
  refine zV_b (pc' := 15) (lv' := [(0, .inr (.inr p0)), (1, .inl p1), (2, .inr (.inl l2)), (4, .inl l4)]) (st' := [.inr (.inr p0), .inl ((60 : Int32) * p1), .inl l4]) [(.iload 4, 2), (.bipush 60, 2), (.iload_n 1, 1), (.imul, 1), (.aload_n 0, 1)] (by decide +kernel) rfl ?_
  refine zV_gr (by decide +kernel) zfl_RX12_28 (by decide) rfl h (fun v1 _ h => ?_)
  refine zV_b (pc' := 19) (lv' := [(0, .inr (.inr p0)), (1, .inl p1), (2, .inr (.inl l2)), (4, .inl l4)]) (st' := [.inl p1, .inr (.inr v1), .inl ((60 : Int32) * p1), .inl l4]) [(.iload_n 1, 1)] (by decide +kernel) rfl ?_
  refine zV_ai (by decide +kernel) h (fun v2 _ h => ?_)
  refine zV_b (pc' := 21) (lv' := [(0, .inr (.inr p0)), (1, .inl p1), (2, .inr (.inl l2)), (4, .inl l4)]) (st' := [.inl (((60 : Int32) * p1) + v2), .inl l4]) [(.iadd, 1)] (by decide +kernel) rfl ?_
  refine zV_icmp_ge (off := 19) (tgt := 40) (by decide +kernel) (by decide) h (fun c3 h => ?_) (fun c3 h => ?_)
  · exact zV_lv (lv' := [(2, .inr (.inl l2))]) [2] rfl (k2 _ (Option.some.inj h).symm)
  · refine zV_b (pc' := 26) (lv' := [(0, .inr (.inr p0)), (1, .inl p1), (2, .inr (.inl l2)), (4, .inl l4)]) (st' := [.inr (.inr p0), .inr (.inl l2)]) [(.lload_n 2, 1), (.aload_n 0, 1)] (by decide +kernel) rfl ?_
    refine zV_gr (by decide +kernel) zfl_RX12_35 (by decide) rfl h (fun v4 _ h => ?_)
    refine zV_b (pc' := 31) (lv' := [(0, .inr (.inr p0)), (1, .inl p1), (2, .inr (.inl l2)), (4, .inl l4)]) (st' := [.inl l4, .inr (.inr v4), .inr (.inl l2)]) [(.iload 4, 2)] (by decide +kernel) rfl ?_
    refine zV_aj (by decide +kernel) h (fun v5 _ h => ?_)
    refine zV_b (pc' := 37) (lv' := [(4, .inl (l4 + 1)), (2, .inr (.inl (l2 + v5))), (0, .inr (.inr p0)), (1, .inl p1)]) (st' := []) [(.ladd, 1), (.lstore_n 2, 1), (.iinc 4 1, 3)] (by decide +kernel) rfl ?_
    refine zV_goto (off := (-29)) (tgt := 8) (by decide +kernel) (by decide) ?_
    exact zV_lv (lv' := [(0, .inr (.inr p0)), (1, .inl p1), (2, .inr (.inl (l2 + v5))), (4, .inl (l4 + 1))]) [2, 3, 1, 0] rfl (k1 _ (Option.some.inj h).symm)
set_option maxRecDepth 100000 in
theorem zt_X12_inVessel {X : Zx} {M : Zm} {l0 : Option Nat} {l1 : Int32} {z : Zm × Int64} (h : zf_X12_inVessel M l0 l1 = some z) (hR : zRj X zC_X12_inVessel z.1 z.2) : zV X zC_X12_inVessel M 0 [(0, .inr (.inr l0)), (1, .inl l1)] [] := by
  unfold zf_X12_inVessel at h
  refine zV_b (pc' := 8) (lv' := [(4, .inl ((60 : Int32) * l1)), (2, .inr (.inl (0 : Int64))), (0, .inr (.inr l0)), (1, .inl l1)]) (st' := []) [(.lconst 0, 1), (.lstore_n 2, 1), (.bipush 60, 2), (.iload_n 1, 1), (.imul, 1), (.istore 4, 2)] (by decide +kernel) rfl ?_
  obtain ⟨y7, e7, h⟩ := zb1_inv h
  refine zV_lv (lv' := [(0, .inr (.inr l0)), (1, .inl l1), (2, .inr (.inl (0 : Int64))), (4, .inl ((60 : Int32) * l1))]) [2, 3, 1, 0] rfl (zt_X12_inVessel_L8 e7 ?_)
  obtain ⟨M8_7, l2_7, l4_7⟩ := y7
  show zV X zC_X12_inVessel M8_7 40 [(2, .inr (.inl l2_7))] []
  refine zV_b (pc' := 41) (lv' := [(2, .inr (.inl l2_7))]) (st' := [.inr (.inl l2_7)]) [(.lload_n 2, 1)] (by decide +kernel) rfl ?_
  exact zend_j h hR (by decide +kernel)
theorem zc_X12_inVessel {M M' : Zm} {l0 : Option Nat} {l1 : Int32} {x : Int64} (h : zf_X12_inVessel M l0 l1 = some (M', x)) (l : Launch) (D : va_G) (cy : Nat → ClassId) : zMet l yX12_inVessel zC_X12_inVessel (some .long) D cy [.inr (.inr l0), .inl l1] M M' (some (.inr (.inl x))) :=
  zM_j (by decide) rfl (fun h => by cases h) (Nat.le_of_ble_eq_true rfl) (fun X hR => zt_X12_inVessel h hR)
-- BlendCellarModel.inAll(I)J
def zC_X12_inAll : Zc := (cX12_inAll, 5, RX12, 1, 24, false)
theorem zcl_X12_inAll {C : Zc} (h1 : zC_X12_inAll.2.2.2.1 + 1 ≤ C.2.2.2.1) (h2 : 8 + (zC_X12_inAll.2.1 + 11) + zC_X12_inAll.2.2.2.2.1 ≤ C.2.2.2.2.1) : zCl C yX12_inAll zC_X12_inAll (some .long) 1 := ⟨zw_1889, zw_114, ⟨by decide, by decide⟩, by decide +kernel, h1, h2⟩
noncomputable def zf_X12_inAll_L21 (p0 : Option Nat) (p1 : Int32) (x : Zm × Int64 × Int32) : Option ((Zm × Int64 × Int32) ⊕ (Zm × Int64 × Int32)) := match x with
  | (M, l2, l4) =>
  zb1 (zo_gr M p0 13 6) (fun v4 =>
  zb1 (zo_ai M v4 p1) (fun v5 =>
  (if v5 ≤ l4 then
  some (.inr (M, l2, l4))
  else
  zb1 (zo_gr M p0 13 7) (fun v7 =>
  zb1 (zo_ai M v7 (((4 : Int32) * p1) + l4)) (fun v8 =>
  zb1 (zo_rc M p0 13) (fun _ => zbd (zf_X12_inVessel M p0 v8) (fun M9 v9 =>
  some (.inl (M9, (l2 + v9), (l4 + 1))))))))))
def zP_X12_inAll_L21 (X : Zx) (p0 : Option Nat) (p1 : Int32) (x : Zm × Int64 × Int32) : Prop := match x with
  | (M, l2, l4) => zV X zC_X12_inAll M 21 [(0, .inr (.inr p0)), (1, .inl p1), (2, .inr (.inl l2)), (4, .inl l4)] []
def zK_X12_inAll_L21 (X : Zx) (p0 : Option Nat) (p1 : Int32) (y : Zm × Int64 × Int32) : Prop := match y with
  | (M, l2, l4) => zV X zC_X12_inAll M 56 [(2, .inr (.inl l2))] []
noncomputable def zf_X12_inAll (M : Zm) (l0 : Option Nat) (l1 : Int32) : Option (Zm × Int64) :=
  zb1 (zo_gr M l0 13 2) (fun v1 =>
  zb1 (zo_ai M v1 l1) (fun v2 =>
  (if v2 = (5 : Int32) then
  zb1 (zwhile (zf_X12_inAll_L21 l0 l1) (M, (0 : Int64), (0 : Int32))) (fun y11 => match y11 with
  | (M21_11, l2_11, l4_11) =>
  some (M21_11, l2_11))
  else
  zb1 (zo_rc M l0 13) (fun _ => zbd (zf_X12_inVessel M l0 l1) (fun M13 v13 =>
  some (M13, v13))))))
set_option maxRecDepth 100000 in
theorem zt_X12_inAll_L21 {X : Zx} {p0 : Option Nat} {p1 : Int32} {x : Zm × Int64 × Int32} {y : Zm × Int64 × Int32} (h : zwhile (zf_X12_inAll_L21 p0 p1) x = some y) (hy : zK_X12_inAll_L21 X p0 p1 y) : zP_X12_inAll_L21 X p0 p1 x := by
  refine zwhile_ind (P := zP_X12_inAll_L21 X p0 p1) (K := zK_X12_inAll_L21 X p0 p1) ?_ h hy
  intro x z hf k1 k2
  obtain ⟨M, l2, l4⟩ := x
  have h : zf_X12_inAll_L21 p0 p1 (M, l2, l4) = some z := hf
  unfold zf_X12_inAll_L21 at h
  show zV X zC_X12_inAll M 21 [(0, .inr (.inr p0)), (1, .inl p1), (2, .inr (.inl l2)), (4, .inl l4)] []
  refine zV_b (pc' := 24) (lv' := [(0, .inr (.inr p0)), (1, .inl p1), (2, .inr (.inl l2)), (4, .inl l4)]) (st' := [.inr (.inr p0), .inl l4]) [(.iload 4, 2), (.aload_n 0, 1)] (by decide +kernel) rfl ?_
  refine zV_gr (by decide +kernel) zfl_RX12_22 (by decide) rfl h (fun v4 _ h => ?_)
  refine zV_b (pc' := 28) (lv' := [(0, .inr (.inr p0)), (1, .inl p1), (2, .inr (.inl l2)), (4, .inl l4)]) (st' := [.inl p1, .inr (.inr v4), .inl l4]) [(.iload_n 1, 1)] (by decide +kernel) rfl ?_
  refine zV_ai (by decide +kernel) h (fun v5 _ h => ?_)
  refine zV_icmp_ge (off := 27) (tgt := 56) (by decide +kernel) (by decide) h (fun c6 h => ?_) (fun c6 h => ?_)
  · exact zV_lv (lv' := [(2, .inr (.inl l2))]) [2] rfl (k2 _ (Option.some.inj h).symm)
  · refine zV_b (pc' := 35) (lv' := [(0, .inr (.inr p0)), (1, .inl p1), (2, .inr (.inl l2)), (4, .inl l4)]) (st' := [.inr (.inr p0), .inr (.inr p0), .inr (.inl l2)]) [(.lload_n 2, 1), (.aload_n 0, 1), (.aload_n 0, 1)] (by decide +kernel) rfl ?_
    refine zV_gr (by decide +kernel) zfl_RX12_25 (by decide) rfl h (fun v7 _ h => ?_)
    refine zV_b (pc' := 44) (lv' := [(0, .inr (.inr p0)), (1, .inl p1), (2, .inr (.inl l2)), (4, .inl l4)]) (st' := [.inl (((4 : Int32) * p1) + l4), .inr (.inr v7), .inr (.inr p0), .inr (.inl l2)]) [(.iconst 4, 1), (.iload_n 1, 1), (.imul, 1), (.iload 4, 2), (.iadd, 1)] (by decide +kernel) rfl ?_
    refine zV_ai (by decide +kernel) h (fun v8 _ h => ?_)
    refine zV_cvj (As := [.inl v8]) (st := [.inr (.inl l2)]) (c := 13) (by decide +kernel) (zcl_X12_inVessel (by decide) (by decide)) ⟨zw_1759, zw_1761, zw_70⟩ ⟨⟨_, _, rfl⟩, by decide⟩ rfl rfl (Nat.le_of_ble_eq_true rfl) h (fun _ _ e => zc_X12_inVessel e) (fun M9 v9 _ h => ?_)
    refine zV_b (pc' := 53) (lv' := [(4, .inl (l4 + 1)), (2, .inr (.inl (l2 + v9))), (0, .inr (.inr p0)), (1, .inl p1)]) (st' := []) [(.ladd, 1), (.lstore_n 2, 1), (.iinc 4 1, 3)] (by decide +kernel) rfl ?_
    refine zV_goto (off := (-32)) (tgt := 21) (by decide +kernel) (by decide) ?_
    exact zV_lv (lv' := [(0, .inr (.inr p0)), (1, .inl p1), (2, .inr (.inl (l2 + v9))), (4, .inl (l4 + 1))]) [2, 3, 1, 0] rfl (k1 _ (Option.some.inj h).symm)
set_option maxRecDepth 100000 in
theorem zt_X12_inAll {X : Zx} {M : Zm} {l0 : Option Nat} {l1 : Int32} {z : Zm × Int64} (h : zf_X12_inAll M l0 l1 = some z) (hR : zRj X zC_X12_inAll z.1 z.2) : zV X zC_X12_inAll M 0 [(0, .inr (.inr l0)), (1, .inl l1)] [] := by
  unfold zf_X12_inAll at h
  refine zV_b (pc' := 1) (lv' := [(0, .inr (.inr l0)), (1, .inl l1)]) (st' := [.inr (.inr l0)]) [(.aload_n 0, 1)] (by decide +kernel) rfl ?_
  refine zV_gr (by decide +kernel) zfl_RX12_9 (by decide) rfl h (fun v1 _ h => ?_)
  refine zV_b (pc' := 5) (lv' := [(0, .inr (.inr l0)), (1, .inl l1)]) (st' := [.inl l1, .inr (.inr v1)]) [(.iload_n 1, 1)] (by decide +kernel) rfl ?_
  refine zV_ai (by decide +kernel) h (fun v2 _ h => ?_)
  refine zV_b (pc' := 7) (lv' := [(0, .inr (.inr l0)), (1, .inl l1)]) (st' := [.inl (5 : Int32), .inl v2]) [(.iconst 5, 1)] (by decide +kernel) rfl ?_
  refine zV_icmp_eq (off := 9) (tgt := 16) (by decide +kernel) (by decide) h (fun c3 h => ?_) (fun c3 h => ?_)
  · refine zV_b (pc' := 21) (lv' := [(4, .inl (0 : Int32)), (2, .inr (.inl (0 : Int64))), (0, .inr (.inr l0)), (1, .inl l1)]) (st' := []) [(.lconst 0, 1), (.lstore_n 2, 1), (.iconst 0, 1), (.istore 4, 2)] (by decide +kernel) rfl ?_
    obtain ⟨y11, e11, h⟩ := zb1_inv h
    refine zV_lv (lv' := [(0, .inr (.inr l0)), (1, .inl l1), (2, .inr (.inl (0 : Int64))), (4, .inl (0 : Int32))]) [2, 3, 1, 0] rfl (zt_X12_inAll_L21 e11 ?_)
    obtain ⟨M21_11, l2_11, l4_11⟩ := y11
    show zV X zC_X12_inAll M21_11 56 [(2, .inr (.inl l2_11))] []
    refine zV_b (pc' := 57) (lv' := [(2, .inr (.inl l2_11))]) (st' := [.inr (.inl l2_11)]) [(.lload_n 2, 1)] (by decide +kernel) rfl ?_
    exact zend_j h hR (by decide +kernel)
  · refine zV_b (pc' := 12) (lv' := [(0, .inr (.inr l0)), (1, .inl l1)]) (st' := [.inl l1, .inr (.inr l0)]) [(.aload_n 0, 1), (.iload_n 1, 1)] (by decide +kernel) rfl ?_
    refine zV_cvj (As := [.inl l1]) (st := []) (c := 13) (by decide +kernel) (zcl_X12_inVessel (by decide) (by decide)) ⟨zw_1759, zw_1761, zw_70⟩ ⟨⟨_, _, rfl⟩, by decide⟩ rfl rfl (Nat.le_of_ble_eq_true rfl) h (fun _ _ e => zc_X12_inVessel e) (fun M13 v13 _ h => ?_)
    exact zend_j h hR (by decide +kernel)
theorem zc_X12_inAll {M M' : Zm} {l0 : Option Nat} {l1 : Int32} {x : Int64} (h : zf_X12_inAll M l0 l1 = some (M', x)) (l : Launch) (D : va_G) (cy : Nat → ClassId) : zMet l yX12_inAll zC_X12_inAll (some .long) D cy [.inr (.inr l0), .inl l1] M M' (some (.inr (.inl x))) :=
  zM_j (by decide) rfl (fun h => by cases h) (Nat.le_of_ble_eq_true rfl) (fun X hR => zt_X12_inAll h hR)
-- BlendCellarModel.isBarrel(I)Z
def zC_X12_isBarrel : Zc := (cX12_isBarrel, 2, RX12, 0, 0, false)
theorem zcl_X12_isBarrel {C : Zc} (h1 : zC_X12_isBarrel.2.2.2.1 + 1 ≤ C.2.2.2.1) (h2 : 8 + (zC_X12_isBarrel.2.1 + 11) + zC_X12_isBarrel.2.2.2.2.1 ≤ C.2.2.2.2.1) : zCl C yX12_isBarrel zC_X12_isBarrel (some .boolean) 1 := ⟨zw_1953, zw_114, ⟨by decide, by decide⟩, by decide +kernel, h1, h2⟩
noncomputable def zf_X12_isBarrel (M : Zm) (l0 : Option Nat) (l1 : Int32) : Option (Zm × Int32) :=
  (if l1 < 0 then
  zb1 (zo_b (0 : Int32)) (fun w => some (M, w))
  else
  zb1 (zo_gi M l0 13 1) (fun v3 =>
  (if v3 ≤ l1 then
  zb1 (zo_b (0 : Int32)) (fun w => some (M, w))
  else
  zb1 (zo_b (1 : Int32)) (fun w => some (M, w)))))
set_option maxRecDepth 100000 in
theorem zt_X12_isBarrel {X : Zx} {M : Zm} {l0 : Option Nat} {l1 : Int32} {z : Zm × Int32} (h : zf_X12_isBarrel M l0 l1 = some z) (hR : zRz X zC_X12_isBarrel z.1 z.2) : zV X zC_X12_isBarrel M 0 [(0, .inr (.inr l0)), (1, .inl l1)] [] := by
  unfold zf_X12_isBarrel at h
  refine zV_b (pc' := 1) (lv' := [(0, .inr (.inr l0)), (1, .inl l1)]) (st' := [.inl l1]) [(.iload_n 1, 1)] (by decide +kernel) rfl ?_
  refine zV_if_lt (off := 15) (tgt := 16) (by decide +kernel) (by decide) h (fun c1 h => ?_) (fun c1 h => ?_)
  · refine zV_b (pc' := 17) (lv' := [(0, .inr (.inr l0)), (1, .inl l1)]) (st' := [.inl (0 : Int32)]) [(.iconst 0, 1)] (by decide +kernel) rfl ?_
    exact zend_z h hR (by decide +kernel)
  · refine zV_b (pc' := 6) (lv' := [(0, .inr (.inr l0)), (1, .inl l1)]) (st' := [.inr (.inr l0), .inl l1]) [(.iload_n 1, 1), (.aload_n 0, 1)] (by decide +kernel) rfl ?_
    refine zV_gi (by decide +kernel) zfl_RX12_181 (by decide) rfl (Or.inl rfl) h (fun v3 _ h => ?_)
    refine zV_icmp_ge (off := 7) (tgt := 16) (by decide +kernel) (by decide) h (fun c4 h => ?_) (fun c4 h => ?_)
    · refine zV_b (pc' := 17) (lv' := [(0, .inr (.inr l0)), (1, .inl l1)]) (st' := [.inl (0 : Int32)]) [(.iconst 0, 1)] (by decide +kernel) rfl ?_
      exact zend_z h hR (by decide +kernel)
    · refine zV_b (pc' := 13) (lv' := [(0, .inr (.inr l0)), (1, .inl l1)]) (st' := [.inl (1 : Int32)]) [(.iconst 1, 1)] (by decide +kernel) rfl ?_
      refine zV_goto (off := 4) (tgt := 17) (by decide +kernel) (by decide) ?_
      exact zend_z h hR (by decide +kernel)
theorem zc_X12_isBarrel {M M' : Zm} {l0 : Option Nat} {l1 : Int32} {x : Int32} (h : zf_X12_isBarrel M l0 l1 = some (M', x)) (l : Launch) (D : va_G) (cy : Nat → ClassId) : zMet l yX12_isBarrel zC_X12_isBarrel (some .boolean) D cy [.inr (.inr l0), .inl l1] M M' (some (.inl x)) :=
  zM_b (by decide) rfl (fun h => by cases h) (Nat.le_of_ble_eq_true rfl) (fun X hR => zt_X12_isBarrel h hR)
-- BlendCellarModel.amount(I)J
def zC_X12_amount : Zc := (cX12_amount, 2, RX12, 2, 48, false)
theorem zcl_X12_amount {C : Zc} (h1 : zC_X12_amount.2.2.2.1 + 1 ≤ C.2.2.2.1) (h2 : 8 + (zC_X12_amount.2.1 + 11) + zC_X12_amount.2.2.2.2.1 ≤ C.2.2.2.2.1) : zCl C yX12_amount zC_X12_amount (some .long) 1 := ⟨zw_1965, zw_114, ⟨by decide, by decide⟩, by decide +kernel, h1, h2⟩
noncomputable def zf_X12_amount (M : Zm) (l0 : Option Nat) (l1 : Int32) : Option (Zm × Int64) :=
  zb1 (zo_rc M l0 13) (fun _ => zbd (zf_X12_isBarrel M l0 l1) (fun M1 v1 =>
  (if v1 = 0 then
  some (M1, (0 : Int64))
  else
  zb1 (zo_rc M1 l0 13) (fun _ => zbd (zf_X12_inAll M1 l0 l1) (fun M4 v4 =>
  some (M4, v4))))))
set_option maxRecDepth 100000 in
theorem zt_X12_amount {X : Zx} {M : Zm} {l0 : Option Nat} {l1 : Int32} {z : Zm × Int64} (h : zf_X12_amount M l0 l1 = some z) (hR : zRj X zC_X12_amount z.1 z.2) : zV X zC_X12_amount M 0 [(0, .inr (.inr l0)), (1, .inl l1)] [] := by
  unfold zf_X12_amount at h
  refine zV_b (pc' := 2) (lv' := [(0, .inr (.inr l0)), (1, .inl l1)]) (st' := [.inl l1, .inr (.inr l0)]) [(.aload_n 0, 1), (.iload_n 1, 1)] (by decide +kernel) rfl ?_
  refine zV_cvi (As := [.inl l1]) (st := []) (c := 13) (by decide +kernel) (zcl_X12_isBarrel (by decide) (by decide)) ⟨zw_1950, zw_1952, zw_98⟩ ⟨⟨_, _, rfl⟩, by decide⟩ rfl rfl (Nat.le_of_ble_eq_true rfl) h (fun _ _ e => zc_X12_isBarrel e) (fun M1 v1 _ h => ?_)
  refine zV_if_eq (off := 11) (tgt := 16) (by decide +kernel) (by decide) h (fun c2 h => ?_) (fun c2 h => ?_)
  · refine zV_b (pc' := 17) (lv' := [(0, .inr (.inr l0)), (1, .inl l1)]) (st' := [.inr (.inl (0 : Int64))]) [(.lconst 0, 1)] (by decide +kernel) rfl ?_
    exact zend_j h hR (by decide +kernel)
  · refine zV_b (pc' := 10) (lv' := [(0, .inr (.inr l0)), (1, .inl l1)]) (st' := [.inl l1, .inr (.inr l0)]) [(.aload_n 0, 1), (.iload_n 1, 1)] (by decide +kernel) rfl ?_
    refine zV_cvj (As := [.inl l1]) (st := []) (c := 13) (by decide +kernel) (zcl_X12_inAll (by decide) (by decide)) ⟨zw_1886, zw_1888, zw_89⟩ ⟨⟨_, _, rfl⟩, by decide⟩ rfl rfl (Nat.le_of_ble_eq_true rfl) h (fun _ _ e => zc_X12_inAll e) (fun M4 v4 _ h => ?_)
    refine zV_goto (off := 4) (tgt := 17) (by decide +kernel) (by decide) ?_
    exact zend_j h hR (by decide +kernel)
theorem zc_X12_amount {M M' : Zm} {l0 : Option Nat} {l1 : Int32} {x : Int64} (h : zf_X12_amount M l0 l1 = some (M', x)) (l : Launch) (D : va_G) (cy : Nat → ClassId) : zMet l yX12_amount zC_X12_amount (some .long) D cy [.inr (.inr l0), .inl l1] M M' (some (.inr (.inl x))) :=
  zM_j (by decide) rfl (fun h => by cases h) (Nat.le_of_ble_eq_true rfl) (fun X hR => zt_X12_amount h hR)
-- BlendCellarModel.begin()V
def zC_X12_begin : Zc := (cX12_begin, 1, RX12, 0, 0, false)
theorem zcl_X12_begin {C : Zc} (h1 : zC_X12_begin.2.2.2.1 + 1 ≤ C.2.2.2.1) (h2 : 8 + (zC_X12_begin.2.1 + 11) + zC_X12_begin.2.2.2.2.1 ≤ C.2.2.2.2.1) : zCl C yX12_begin zC_X12_begin none 0 := ⟨zw_1676, zw_114, ⟨by decide, by decide⟩, by decide +kernel, h1, h2⟩
noncomputable def zf_X12_begin (M : Zm) (l0 : Option Nat) : Option (Zm × Unit) :=
  zb1 (zo_gi M l0 13 38) (fun v1 =>
  zb1 (zo_pi M l0 13 38 (v1 + (1 : Int32))) (fun M2 =>
  zb1 (zo_pi M2 l0 13 41 (0 : Int32)) (fun M3 =>
  zb1 (zo_pi M3 l0 13 39 (0 : Int32)) (fun M4 =>
  some (M4, ())))))
set_option maxRecDepth 100000 in
theorem zt_X12_begin {X : Zx} {M : Zm} {l0 : Option Nat} {z : Zm × Unit} (h : zf_X12_begin M l0 = some z) (hR : zRv X zC_X12_begin z.1) : zV X zC_X12_begin M 0 [(0, .inr (.inr l0))] [] := by
  unfold zf_X12_begin at h
  refine zV_b (pc' := 2) (lv' := [(0, .inr (.inr l0))]) (st' := [.inr (.inr l0), .inr (.inr l0)]) [(.aload_n 0, 1), (.dup, 1)] (by decide +kernel) rfl ?_
  refine zV_gi (by decide +kernel) zfl_RX12_172 (by decide) rfl (Or.inl rfl) h (fun v1 _ h => ?_)
  refine zV_b (pc' := 7) (lv' := [(0, .inr (.inr l0))]) (st' := [.inl (v1 + (1 : Int32)), .inr (.inr l0)]) [(.iconst 1, 1), (.iadd, 1)] (by decide +kernel) rfl ?_
  refine zV_pi (by decide +kernel) zfp_RX12_172 (by decide) rfl h (fun M2 _ h => ?_)
  refine zV_b (pc' := 12) (lv' := [(0, .inr (.inr l0))]) (st' := [.inl (0 : Int32), .inr (.inr l0)]) [(.aload_n 0, 1), (.iconst 0, 1)] (by decide +kernel) rfl ?_
  refine zV_pi (by decide +kernel) zfp_RX12_175 (by decide) rfl h (fun M3 _ h => ?_)
  refine zV_b (pc' := 17) (lv' := [(0, .inr (.inr l0))]) (st' := [.inl (0 : Int32), .inr (.inr l0)]) [(.aload_n 0, 1), (.iconst 0, 1)] (by decide +kernel) rfl ?_
  refine zV_pi (by decide +kernel) zfp_RX12_178 (by decide) rfl h (fun M4 _ h => ?_)
  exact zend_v h hR (by decide +kernel)
theorem zc_X12_begin {M M' : Zm} {l0 : Option Nat} {x : Unit} (h : zf_X12_begin M l0 = some (M', x)) (l : Launch) (D : va_G) (cy : Nat → ClassId) : zMet l yX12_begin zC_X12_begin none D cy [.inr (.inr l0)] M M' none :=
  zM_v (by decide) rfl (fun h => by cases h) (Nat.le_of_ble_eq_true rfl) (fun X hR => zt_X12_begin h hR)
-- BlendCellarModel.lookedVessel(I)I
def zC_X12_lookedVessel : Zc := (cX12_lookedVessel, 2, RX12, 0, 0, false)
theorem zcl_X12_lookedVessel {C : Zc} (h1 : zC_X12_lookedVessel.2.2.2.1 + 1 ≤ C.2.2.2.1) (h2 : 8 + (zC_X12_lookedVessel.2.1 + 11) + zC_X12_lookedVessel.2.2.2.2.1 ≤ C.2.2.2.2.1) : zCl C yX12_lookedVessel zC_X12_lookedVessel (some .int) 1 := ⟨zw_1702, zw_114, ⟨by decide, by decide⟩, by decide +kernel, h1, h2⟩
noncomputable def zf_X12_lookedVessel (M : Zm) (l0 : Option Nat) (l1 : Int32) : Option (Zm × Int32) :=
  (if l1 < 0 then
  some (M, (3 : Int32))
  else
  (if l1 < (1000 : Int32) then
  zb1 (zo_gi M l0 13 1) (fun v4 =>
  (if l1 < v4 then
  zb1 (zo_gr M l0 13 2) (fun v6 =>
  zb1 (zo_ai M v6 l1) (fun v7 =>
  (if v7 = (5 : Int32) then
  some (M, (4 : Int32))
  else
  some (M, (0 : Int32)))))
  else
  some (M, (2 : Int32))))
  else
  some (M, (3 : Int32))))
set_option maxRecDepth 100000 in
theorem zt_X12_lookedVessel {X : Zx} {M : Zm} {l0 : Option Nat} {l1 : Int32} {z : Zm × Int32} (h : zf_X12_lookedVessel M l0 l1 = some z) (hR : zRi X zC_X12_lookedVessel z.1 z.2) : zV X zC_X12_lookedVessel M 0 [(0, .inr (.inr l0)), (1, .inl l1)] [] := by
  unfold zf_X12_lookedVessel at h
  refine zV_b (pc' := 1) (lv' := [(0, .inr (.inr l0)), (1, .inl l1)]) (st' := [.inl l1]) [(.iload_n 1, 1)] (by decide +kernel) rfl ?_
  refine zV_if_lt (off := 10) (tgt := 11) (by decide +kernel) (by decide) h (fun c1 h => ?_) (fun c1 h => ?_)
  · refine zV_b (pc' := 12) (lv' := [(0, .inr (.inr l0)), (1, .inl l1)]) (st' := [.inl (3 : Int32)]) [(.iconst 3, 1)] (by decide +kernel) rfl ?_
    exact zend_i h hR (by decide +kernel)
  · refine zV_b (pc' := 8) (lv' := [(0, .inr (.inr l0)), (1, .inl l1)]) (st' := [.inl (1000 : Int32), .inl l1]) [(.iload_n 1, 1), (.sipush 1000, 3)] (by decide +kernel) rfl ?_
    refine zV_icmp_lt (off := 5) (tgt := 13) (by decide +kernel) (by decide) h (fun c3 h => ?_) (fun c3 h => ?_)
    · refine zV_b (pc' := 15) (lv' := [(0, .inr (.inr l0)), (1, .inl l1)]) (st' := [.inr (.inr l0), .inl l1]) [(.iload_n 1, 1), (.aload_n 0, 1)] (by decide +kernel) rfl ?_
      refine zV_gi (by decide +kernel) zfl_RX12_181 (by decide) rfl (Or.inl rfl) h (fun v4 _ h => ?_)
      refine zV_icmp_lt (off := 5) (tgt := 23) (by decide +kernel) (by decide) h (fun c5 h => ?_) (fun c5 h => ?_)
      · refine zV_b (pc' := 24) (lv' := [(0, .inr (.inr l0)), (1, .inl l1)]) (st' := [.inr (.inr l0)]) [(.aload_n 0, 1)] (by decide +kernel) rfl ?_
        refine zV_gr (by decide +kernel) zfl_RX12_9 (by decide) rfl h (fun v6 _ h => ?_)
        refine zV_b (pc' := 28) (lv' := [(0, .inr (.inr l0)), (1, .inl l1)]) (st' := [.inl l1, .inr (.inr v6)]) [(.iload_n 1, 1)] (by decide +kernel) rfl ?_
        refine zV_ai (by decide +kernel) h (fun v7 _ h => ?_)
        refine zV_b (pc' := 30) (lv' := [(0, .inr (.inr l0)), (1, .inl l1)]) (st' := [.inl (5 : Int32), .inl v7]) [(.iconst 5, 1)] (by decide +kernel) rfl ?_
        refine zV_icmp_ne (off := 7) (tgt := 37) (by decide +kernel) (by decide) h (fun c8 h => ?_) (fun c8 h => ?_)
        · refine zV_b (pc' := 34) (lv' := [(0, .inr (.inr l0)), (1, .inl l1)]) (st' := [.inl (4 : Int32)]) [(.iconst 4, 1)] (by decide +kernel) rfl ?_
          refine zV_goto (off := 4) (tgt := 38) (by decide +kernel) (by decide) ?_
          exact zend_i h hR (by decide +kernel)
        · refine zV_b (pc' := 38) (lv' := [(0, .inr (.inr l0)), (1, .inl l1)]) (st' := [.inl (0 : Int32)]) [(.iconst 0, 1)] (by decide +kernel) rfl ?_
          exact zend_i h hR (by decide +kernel)
      · refine zV_b (pc' := 22) (lv' := [(0, .inr (.inr l0)), (1, .inl l1)]) (st' := [.inl (2 : Int32)]) [(.iconst 2, 1)] (by decide +kernel) rfl ?_
        exact zend_i h hR (by decide +kernel)
    · refine zV_b (pc' := 12) (lv' := [(0, .inr (.inr l0)), (1, .inl l1)]) (st' := [.inl (3 : Int32)]) [(.iconst 3, 1)] (by decide +kernel) rfl ?_
      exact zend_i h hR (by decide +kernel)
theorem zc_X12_lookedVessel {M M' : Zm} {l0 : Option Nat} {l1 : Int32} {x : Int32} (h : zf_X12_lookedVessel M l0 l1 = some (M', x)) (l : Launch) (D : va_G) (cy : Nat → ClassId) : zMet l yX12_lookedVessel zC_X12_lookedVessel (some .int) D cy [.inr (.inr l0), .inl l1] M M' (some (.inl x)) :=
  zM_i (by decide) rfl (fun h => by cases h) (Nat.le_of_ble_eq_true rfl) (fun X hR => zt_X12_lookedVessel h hR)
-- BlendCellarModel.lookedPart(II)I
def zC_X12_lookedPart : Zc := (cX12_lookedPart, 4, RX12, 1, 21, false)
theorem zcl_X12_lookedPart {C : Zc} (h1 : zC_X12_lookedPart.2.2.2.1 + 1 ≤ C.2.2.2.1) (h2 : 8 + (zC_X12_lookedPart.2.1 + 11) + zC_X12_lookedPart.2.2.2.2.1 ≤ C.2.2.2.2.1) : zCl C yX12_lookedPart zC_X12_lookedPart (some .int) 2 := ⟨zw_1877, zw_114, ⟨by decide, by decide⟩, by decide +kernel, h1, h2⟩
noncomputable def zf_X12_lookedPart_J37 (M : Zm)  : Option (Zm × Int32) :=
  some (M, (3 : Int32))
noncomputable def zf_X12_lookedPart (M : Zm) (l0 : Option Nat) (l1 : Int32) (l2 : Int32) : Option (Zm × Int32) :=
  zb1 (zo_rc M l0 13) (fun _ => zbd (zf_X12_lookedVessel M l0 l1) (fun M1 v1 =>
  (if v1 ≤ 0 then
  zb1 (zo_gr M1 l0 13 8) (fun v3 =>
  zb1 (zo_ai M1 v3 l1) (fun v4 =>
  (if v4 = 0 then
  some (M1, (2 : Int32))
  else
  (if l2 < 0 then
  zf_X12_lookedPart_J37 M1
  else
  zb1 (zo_gr M1 l0 13 8) (fun v10 =>
  zb1 (zo_ai M1 v10 l1) (fun v11 =>
  (if l2 < v11 then
  some (M1, (0 : Int32))
  else
  zf_X12_lookedPart_J37 M1)))))))
  else
  some (M1, v1))))
set_option maxRecDepth 100000 in
theorem zt_X12_lookedPart_J37 {X : Zx} {M : Zm}  {z : Zm × Int32} (h : zf_X12_lookedPart_J37 M  = some z) (hR : zRi X zC_X12_lookedPart z.1 z.2) : zV X zC_X12_lookedPart M 37 [] [] := by
  unfold zf_X12_lookedPart_J37 at h
  refine zV_b (pc' := 38) (lv' := []) (st' := [.inl (3 : Int32)]) [(.iconst 3, 1)] (by decide +kernel) rfl ?_
  refine zV_goto (off := 4) (tgt := 42) (by decide +kernel) (by decide) ?_
  exact zend_i h hR (by decide +kernel)
set_option maxRecDepth 100000 in
theorem zt_X12_lookedPart {X : Zx} {M : Zm} {l0 : Option Nat} {l1 : Int32} {l2 : Int32} {z : Zm × Int32} (h : zf_X12_lookedPart M l0 l1 l2 = some z) (hR : zRi X zC_X12_lookedPart z.1 z.2) : zV X zC_X12_lookedPart M 0 [(0, .inr (.inr l0)), (1, .inl l1), (2, .inl l2)] [] := by
  unfold zf_X12_lookedPart at h
  refine zV_b (pc' := 2) (lv' := [(0, .inr (.inr l0)), (1, .inl l1), (2, .inl l2)]) (st' := [.inl l1, .inr (.inr l0)]) [(.aload_n 0, 1), (.iload_n 1, 1)] (by decide +kernel) rfl ?_
  refine zV_cvi (As := [.inl l1]) (st := []) (c := 13) (by decide +kernel) (zcl_X12_lookedVessel (by decide) (by decide)) ⟨zw_1699, zw_1701, zw_62⟩ ⟨⟨_, _, rfl⟩, by decide⟩ rfl rfl (Nat.le_of_ble_eq_true rfl) h (fun _ _ e => zc_X12_lookedVessel e) (fun M1 v1 _ h => ?_)
  refine zV_b (pc' := 7) (lv' := [(3, .inl v1), (0, .inr (.inr l0)), (1, .inl l1), (2, .inl l2)]) (st' := [.inl v1]) [(.istore_n 3, 1), (.iload_n 3, 1)] (by decide +kernel) rfl ?_
  refine zV_if_le (off := 5) (tgt := 12) (by decide +kernel) (by decide) h (fun c2 h => ?_) (fun c2 h => ?_)
  · refine zV_b (pc' := 13) (lv' := [(3, .inl v1), (0, .inr (.inr l0)), (1, .inl l1), (2, .inl l2)]) (st' := [.inr (.inr l0)]) [(.aload_n 0, 1)] (by decide +kernel) rfl ?_
    refine zV_gr (by decide +kernel) zfl_RX12_28 (by decide) rfl h (fun v3 _ h => ?_)
    refine zV_b (pc' := 17) (lv' := [(3, .inl v1), (0, .inr (.inr l0)), (1, .inl l1), (2, .inl l2)]) (st' := [.inl l1, .inr (.inr v3)]) [(.iload_n 1, 1)] (by decide +kernel) rfl ?_
    refine zV_ai (by decide +kernel) h (fun v4 _ h => ?_)
    refine zV_if_ne (off := 5) (tgt := 23) (by decide +kernel) (by decide) h (fun c5 h => ?_) (fun c5 h => ?_)
    · refine zV_b (pc' := 22) (lv' := [(3, .inl v1), (0, .inr (.inr l0)), (1, .inl l1), (2, .inl l2)]) (st' := [.inl (2 : Int32)]) [(.iconst 2, 1)] (by decide +kernel) rfl ?_
      exact zend_i h hR (by decide +kernel)
    · refine zV_b (pc' := 24) (lv' := [(3, .inl v1), (0, .inr (.inr l0)), (1, .inl l1), (2, .inl l2)]) (st' := [.inl l2]) [(.iload_n 2, 1)] (by decide +kernel) rfl ?_
      refine zV_if_lt (off := 13) (tgt := 37) (by decide +kernel) (by decide) h (fun c7 h => ?_) (fun c7 h => ?_)
      · exact zV_lv (lv' := []) [] rfl (zt_X12_lookedPart_J37 h hR)
      · refine zV_b (pc' := 29) (lv' := [(3, .inl v1), (0, .inr (.inr l0)), (1, .inl l1), (2, .inl l2)]) (st' := [.inr (.inr l0), .inl l2]) [(.iload_n 2, 1), (.aload_n 0, 1)] (by decide +kernel) rfl ?_
        refine zV_gr (by decide +kernel) zfl_RX12_28 (by decide) rfl h (fun v10 _ h => ?_)
        refine zV_b (pc' := 33) (lv' := [(3, .inl v1), (0, .inr (.inr l0)), (1, .inl l1), (2, .inl l2)]) (st' := [.inl l1, .inr (.inr v10), .inl l2]) [(.iload_n 1, 1)] (by decide +kernel) rfl ?_
        refine zV_ai (by decide +kernel) h (fun v11 _ h => ?_)
        refine zV_icmp_lt (off := 7) (tgt := 41) (by decide +kernel) (by decide) h (fun c12 h => ?_) (fun c12 h => ?_)
        · refine zV_b (pc' := 42) (lv' := [(3, .inl v1), (0, .inr (.inr l0)), (1, .inl l1), (2, .inl l2)]) (st' := [.inl (0 : Int32)]) [(.iconst 0, 1)] (by decide +kernel) rfl ?_
          exact zend_i h hR (by decide +kernel)
        · exact zV_lv (lv' := []) [] rfl (zt_X12_lookedPart_J37 h hR)
  · refine zV_b (pc' := 11) (lv' := [(3, .inl v1), (0, .inr (.inr l0)), (1, .inl l1), (2, .inl l2)]) (st' := [.inl v1]) [(.iload_n 3, 1)] (by decide +kernel) rfl ?_
    exact zend_i h hR (by decide +kernel)
theorem zc_X12_lookedPart {M M' : Zm} {l0 : Option Nat} {l1 : Int32} {l2 : Int32} {x : Int32} (h : zf_X12_lookedPart M l0 l1 l2 = some (M', x)) (l : Launch) (D : va_G) (cy : Nat → ClassId) : zMet l yX12_lookedPart zC_X12_lookedPart (some .int) D cy [.inr (.inr l0), .inl l1, .inl l2] M M' (some (.inl x)) :=
  zM_i (by decide) rfl (fun h => by cases h) (Nat.le_of_ble_eq_true rfl) (fun X hR => zt_X12_lookedPart h hR)
-- BlendCellarModel.no(I)J
def zC_X12_no : Zc := (cX12_no, 2, RX12, 0, 0, false)
theorem zcl_X12_no {C : Zc} (h1 : zC_X12_no.2.2.2.1 + 1 ≤ C.2.2.2.1) (h2 : 8 + (zC_X12_no.2.1 + 11) + zC_X12_no.2.2.2.2.1 ≤ C.2.2.2.2.1) : zCl C yX12_no zC_X12_no (some .long) 1 := ⟨zw_1680, zw_114, ⟨by decide, by decide⟩, by decide +kernel, h1, h2⟩
noncomputable def zf_X12_no (M : Zm) (l0 : Option Nat) (l1 : Int32) : Option (Zm × Int64) :=
  zb1 (zo_pi M l0 13 39 l1) (fun M1 =>
  some (M1, (((-l1)).toInt64)))
set_option maxRecDepth 100000 in
theorem zt_X12_no {X : Zx} {M : Zm} {l0 : Option Nat} {l1 : Int32} {z : Zm × Int64} (h : zf_X12_no M l0 l1 = some z) (hR : zRj X zC_X12_no z.1 z.2) : zV X zC_X12_no M 0 [(0, .inr (.inr l0)), (1, .inl l1)] [] := by
  unfold zf_X12_no at h
  refine zV_b (pc' := 2) (lv' := [(0, .inr (.inr l0)), (1, .inl l1)]) (st' := [.inl l1, .inr (.inr l0)]) [(.aload_n 0, 1), (.iload_n 1, 1)] (by decide +kernel) rfl ?_
  refine zV_pi (by decide +kernel) zfp_RX12_178 (by decide) rfl h (fun M1 _ h => ?_)
  refine zV_b (pc' := 8) (lv' := [(0, .inr (.inr l0)), (1, .inl l1)]) (st' := [.inr (.inl (((-l1)).toInt64))]) [(.iload_n 1, 1), (.ineg, 1), (.i2l, 1)] (by decide +kernel) rfl ?_
  exact zend_j h hR (by decide +kernel)
theorem zc_X12_no {M M' : Zm} {l0 : Option Nat} {l1 : Int32} {x : Int64} (h : zf_X12_no M l0 l1 = some (M', x)) (l : Launch) (D : va_G) (cy : Nat → ClassId) : zMet l yX12_no zC_X12_no (some .long) D cy [.inr (.inr l0), .inl l1] M M' (some (.inr (.inl x))) :=
  zM_j (by decide) rfl (fun h => by cases h) (Nat.le_of_ble_eq_true rfl) (fun X hR => zt_X12_no h hR)
-- BlendCellarModel.amountAt(II)J
def zC_X12_amountAt : Zc := (cX12_amountAt, 4, RX12, 2, 44, false)
theorem zcl_X12_amountAt {C : Zc} (h1 : zC_X12_amountAt.2.2.2.1 + 1 ≤ C.2.2.2.1) (h2 : 8 + (zC_X12_amountAt.2.1 + 11) + zC_X12_amountAt.2.2.2.2.1 ≤ C.2.2.2.2.1) : zCl C yX12_amountAt zC_X12_amountAt (some .long) 2 := ⟨zw_1881, zw_114, ⟨by decide, by decide⟩, by decide +kernel, h1, h2⟩
noncomputable def zf_X12_amountAt (M : Zm) (l0 : Option Nat) (l1 : Int32) (l2 : Int32) : Option (Zm × Int64) :=
  zb1 (zo_rc M l0 13) (fun _ => zbd (zf_X12_begin M l0) (fun M1 _ =>
  zb1 (zo_rc M1 l0 13) (fun _ => zbd (zf_X12_lookedPart M1 l0 l1 l2) (fun M2 v2 =>
  (if v2 ≤ 0 then
  zb1 (zo_gr M2 l0 13 10) (fun v4 =>
  zb1 (zo_aj M2 v4 (((60 : Int32) * l1) + l2)) (fun v5 =>
  some (M2, v5)))
  else
  zb1 (zo_rc M2 l0 13) (fun _ => zbd (zf_X12_no M2 l0 v2) (fun M7 v7 =>
  some (M7, v7))))))))
set_option maxRecDepth 100000 in
theorem zt_X12_amountAt {X : Zx} {M : Zm} {l0 : Option Nat} {l1 : Int32} {l2 : Int32} {z : Zm × Int64} (h : zf_X12_amountAt M l0 l1 l2 = some z) (hR : zRj X zC_X12_amountAt z.1 z.2) : zV X zC_X12_amountAt M 0 [(0, .inr (.inr l0)), (1, .inl l1), (2, .inl l2)] [] := by
  unfold zf_X12_amountAt at h
  refine zV_b (pc' := 1) (lv' := [(0, .inr (.inr l0)), (1, .inl l1), (2, .inl l2)]) (st' := [.inr (.inr l0)]) [(.aload_n 0, 1)] (by decide +kernel) rfl ?_
  refine zV_cvv (As := []) (st := []) (c := 13) (by decide +kernel) (zcl_X12_begin (by decide) (by decide)) ⟨zw_1673, zw_1675, zw_58⟩ ⟨⟨_, _, rfl⟩, by decide⟩ rfl rfl (Nat.le_of_ble_eq_true rfl) h (fun _ _ e => zc_X12_begin e) (fun M1 _ _ h => ?_)
  refine zV_b (pc' := 7) (lv' := [(0, .inr (.inr l0)), (1, .inl l1), (2, .inl l2)]) (st' := [.inl l2, .inl l1, .inr (.inr l0)]) [(.aload_n 0, 1), (.iload_n 1, 1), (.iload_n 2, 1)] (by decide +kernel) rfl ?_
  refine zV_cvi (As := [.inl l1, .inl l2]) (st := []) (c := 13) (by decide +kernel) (zcl_X12_lookedPart (by decide) (by decide)) ⟨zw_1874, zw_1876, zw_88⟩ ⟨⟨_, _, rfl⟩, by decide⟩ rfl rfl (Nat.le_of_ble_eq_true rfl) h (fun _ _ e => zc_X12_lookedPart e) (fun M2 v2 _ h => ?_)
  refine zV_b (pc' := 12) (lv' := [(3, .inl v2), (0, .inr (.inr l0)), (1, .inl l1), (2, .inl l2)]) (st' := [.inl v2]) [(.istore_n 3, 1), (.iload_n 3, 1)] (by decide +kernel) rfl ?_
  refine zV_if_le (off := 11) (tgt := 23) (by decide +kernel) (by decide) h (fun c3 h => ?_) (fun c3 h => ?_)
  · refine zV_b (pc' := 24) (lv' := [(3, .inl v2), (0, .inr (.inr l0)), (1, .inl l1), (2, .inl l2)]) (st' := [.inr (.inr l0)]) [(.aload_n 0, 1)] (by decide +kernel) rfl ?_
    refine zV_gr (by decide +kernel) zfl_RX12_35 (by decide) rfl h (fun v4 _ h => ?_)
    refine zV_b (pc' := 33) (lv' := [(3, .inl v2), (0, .inr (.inr l0)), (1, .inl l1), (2, .inl l2)]) (st' := [.inl (((60 : Int32) * l1) + l2), .inr (.inr v4)]) [(.bipush 60, 2), (.iload_n 1, 1), (.imul, 1), (.iload_n 2, 1), (.iadd, 1)] (by decide +kernel) rfl ?_
    refine zV_aj (by decide +kernel) h (fun v5 _ h => ?_)
    exact zend_j h hR (by decide +kernel)
  · refine zV_b (pc' := 17) (lv' := [(3, .inl v2), (0, .inr (.inr l0)), (1, .inl l1), (2, .inl l2)]) (st' := [.inl v2, .inr (.inr l0)]) [(.aload_n 0, 1), (.iload_n 3, 1)] (by decide +kernel) rfl ?_
    refine zV_cvj (As := [.inl v2]) (st := []) (c := 13) (by decide +kernel) (zcl_X12_no (by decide) (by decide)) ⟨zw_1677, zw_1679, zw_59⟩ ⟨⟨_, _, rfl⟩, by decide⟩ rfl rfl (Nat.le_of_ble_eq_true rfl) h (fun _ _ e => zc_X12_no e) (fun M7 v7 _ h => ?_)
    refine zV_goto (off := 14) (tgt := 34) (by decide +kernel) (by decide) ?_
    exact zend_j h hR (by decide +kernel)
theorem zc_X12_amountAt {M M' : Zm} {l0 : Option Nat} {l1 : Int32} {l2 : Int32} {x : Int64} (h : zf_X12_amountAt M l0 l1 l2 = some (M', x)) (l : Launch) (D : va_G) (cy : Nat → ClassId) : zMet l yX12_amountAt zC_X12_amountAt (some .long) D cy [.inr (.inr l0), .inl l1, .inl l2] M M' (some (.inr (.inl x))) :=
  zM_j (by decide) rfl (fun h => by cases h) (Nat.le_of_ble_eq_true rfl) (fun X hR => zt_X12_amountAt h hR)
