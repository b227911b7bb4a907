/-! What the bytecode does, as functions of the memory, and the walks (written by wip/gen.py). -/
-- BlendCellar.<init>()V
def zC_X11_init : Zc := (cX11_init, 2, RX11, 5, 92, true)
theorem zcl_X11_init {C : Zc} (h1 : zC_X11_init.2.2.2.1 + 1 ≤ C.2.2.2.1) (h2 : 8 + (zC_X11_init.2.1 + 11) + zC_X11_init.2.2.2.2.1 ≤ C.2.2.2.2.1) : zCl C yX11_init zC_X11_init none 0 := ⟨zw_127, zw_101, ⟨by decide, by decide⟩, by decide +kernel, h1, h2⟩
noncomputable def zf_X11_init_L190 (p0 : Option Nat) (x : Zm × Int32) : Option ((Zm × Int32) ⊕ (Zm × Int32)) := match x with
  | (M, l1) =>
  (if (5 : Int32) ≤ l1 then
  some (.inr (M, l1))
  else
  zb1 (zo_gr M p0 12 6) (fun v49 =>
  zb1 (zo_n M 11 4) (fun M50 =>
  zb1 (zo_rc M50 (zm_nx M) 11) (fun _ => zbd (zf_X10_init M50 (zm_nx M)) (fun M51 _ =>
  zb1 (zo_sr M51 18 11 v49 l1 (zm_nx M)) (fun M52 =>
  some (.inl (M52, (l1 + 1)))))))))
def zP_X11_init_L190 (X : Zx) (p0 : Option Nat) (x : Zm × Int32) : Prop := match x with
  | (M, l1) => zV X zC_X11_init M 190 [(0, .inr (.inr p0)), (1, .inl l1)] []
def zK_X11_init_L190 (X : Zx) (p0 : Option Nat) (y : Zm × Int32) : Prop := match y with
  | (M, l1) => zV X zC_X11_init M 214 [] []
noncomputable def zf_X11_init (M : Zm) (l0 : Option Nat) : Option (Zm × Unit) :=
  zb1 (zo_rc M l0 12) (fun _ =>
  zb1 (zo_n M 0 3) (fun M2 =>
  zb1 (zo_rc M2 (zm_nx M) 0) (fun _ => zbd (zf_Jx4a65c_init_da8c8 M2 (zm_nx M)) (fun M3 _ =>
  zb1 (zo_pr M3 l0 12 0 (zm_nx M)) (fun M4 =>
  zb1 (zo_na M4 17 (20 : Int32)) (fun M5 =>
  zb1 (zo_pr M5 l0 12 1 (zm_nx M4)) (fun M6 =>
  zb1 (zo_n M6 0 3) (fun M7 =>
  zb1 (zo_rc M7 (zm_nx M6) 0) (fun _ => zbd (zf_Jx4a65c_init_da8c8 M7 (zm_nx M6)) (fun M8 _ =>
  zb1 (zo_pr M8 l0 12 2 (zm_nx M6)) (fun M9 =>
  zb1 (zo_n M9 6 3) (fun M10 =>
  zb1 (zo_rc M10 (zm_nx M9) 6) (fun _ => zbd (zf_X5_init M10 (zm_nx M9)) (fun M11 _ =>
  zb1 (zo_pr M11 l0 12 3 (zm_nx M9)) (fun M12 =>
  zb1 (zo_n M12 9 4) (fun M13 =>
  zb1 (zo_rc M13 (zm_nx M12) 9) (fun _ => zbd (zf_X8_init M13 (zm_nx M12) (1 : Int32)) (fun M14 _ =>
  zb1 (zo_pr M14 l0 12 4 (zm_nx M12)) (fun M15 =>
  zb1 (zo_n M15 7 10) (fun M16 =>
  zb1 (zo_rc M16 (zm_nx M15) 7) (fun _ => zbd (zf_X6_init M16 (zm_nx M15)) (fun M17 _ =>
  zb1 (zo_pr M17 l0 12 5 (zm_nx M15)) (fun M18 =>
  zb1 (zo_na M18 18 (5 : Int32)) (fun M19 =>
  zb1 (zo_pr M19 l0 12 6 (zm_nx M18)) (fun M20 =>
  zb1 (zo_n M20 11 4) (fun M21 =>
  zb1 (zo_rc M21 (zm_nx M20) 11) (fun _ => zbd (zf_X10_init M21 (zm_nx M20)) (fun M22 _ =>
  zb1 (zo_pr M22 l0 12 7 (zm_nx M20)) (fun M23 =>
  zb1 (zo_n M23 5 2) (fun M24 =>
  zb1 (zo_rc M24 (zm_nx M23) 5) (fun _ => zbd (zf_X4_init M24 (zm_nx M23)) (fun M25 _ =>
  zb1 (zo_pr M25 l0 12 8 (zm_nx M23)) (fun M26 =>
  zb1 (zo_n M26 5 2) (fun M27 =>
  zb1 (zo_rc M27 (zm_nx M26) 5) (fun _ => zbd (zf_X4_init M27 (zm_nx M26)) (fun M28 _ =>
  zb1 (zo_pr M28 l0 12 9 (zm_nx M26)) (fun M29 =>
  zb1 (zo_n M29 3 5) (fun M30 =>
  zb1 (zo_rc M30 (zm_nx M29) 3) (fun _ => zbd (zf_X2_init M30 (zm_nx M29)) (fun M31 _ =>
  zb1 (zo_pr M31 l0 12 10 (zm_nx M29)) (fun M32 =>
  zb1 (zo_n M32 2 11) (fun M33 =>
  zb1 (zo_rc M33 (zm_nx M32) 2) (fun _ => zbd (zf_X1_init M33 (zm_nx M32)) (fun M34 _ =>
  zb1 (zo_pr M34 l0 12 11 (zm_nx M32)) (fun M35 =>
  zb1 (zo_n M35 10 2) (fun M36 =>
  zb1 (zo_rc M36 (zm_nx M35) 10) (fun _ => zbd (zf_X9_init M36 (zm_nx M35) (200 : Int32)) (fun M37 _ =>
  zb1 (zo_pr M37 l0 12 12 (zm_nx M35)) (fun M38 =>
  zb1 (zo_n M38 10 2) (fun M39 =>
  zb1 (zo_rc M39 (zm_nx M38) 10) (fun _ => zbd (zf_X9_init M39 (zm_nx M38) (0 : Int32)) (fun M40 _ =>
  zb1 (zo_pr M40 l0 12 13 (zm_nx M38)) (fun M41 =>
  zb1 (zo_pi M41 l0 12 14 (0 : Int32)) (fun M42 =>
  zb1 (zo_pj M42 l0 12 15 (0 : Int64)) (fun M43 =>
  zb1 (zo_pi M43 l0 12 16 (0 : Int32)) (fun M44 =>
  zb1 (zo_pz M44 l0 12 17 (0 : Int32)) (fun M45 =>
  zb1 (zo_pi M45 l0 12 18 (0 : Int32)) (fun M46 =>
  zb1 (zo_pi M46 l0 12 19 (-1 : Int32)) (fun M47 =>
  zb1 (zwhile (zf_X11_init_L190 l0) (M47, (0 : Int32))) (fun y54 => match y54 with
  | (M190_54, l1_54) =>
  some (M190_54, ())))))))))))))))))))))))))))))))))))))))))))))))))))))))))))))
set_option maxRecDepth 100000 in
theorem zt_X11_init_L190 {X : Zx} {p0 : Option Nat} {x : Zm × Int32} {y : Zm × Int32} (h : zwhile (zf_X11_init_L190 p0) x = some y) (hy : zK_X11_init_L190 X p0 y) : zP_X11_init_L190 X p0 x := by
  refine zwhile_ind (P := zP_X11_init_L190 X p0) (K := zK_X11_init_L190 X p0) ?_ h hy
  intro x z hf k1 k2
  obtain ⟨M, l1⟩ := x
  have h : zf_X11_init_L190 p0 (M, l1) = some z := hf
  unfold zf_X11_init_L190 at h
  show zV X zC_X11_init M 190 [(0, .inr (.inr p0)), (1, .inl l1)] []
  refine zV_b (pc' := 192) (lv' := [(0, .inr (.inr p0)), (1, .inl l1)]) (st' := [.inl (5 : Int32), .inl l1]) [(.iload_n 1, 1), (.iconst 5, 1)] (by decide +kernel) rfl ?_
  refine zV_icmp_ge (off := 22) (tgt := 214) (by decide +kernel) (by decide) h (fun c48 h => ?_) (fun c48 h => ?_)
  · exact zV_lv (lv' := []) [] rfl (k2 _ (Option.some.inj h).symm)
  · refine zV_b (pc' := 196) (lv' := [(0, .inr (.inr p0)), (1, .inl l1)]) (st' := [.inr (.inr p0)]) [(.aload_n 0, 1)] (by decide +kernel) rfl ?_
    refine zV_gr (by decide +kernel) zfl_RX11_50 (by decide) rfl h (fun v49 _ h => ?_)
    refine zV_b (pc' := 200) (lv' := [(0, .inr (.inr p0)), (1, .inl l1)]) (st' := [.inl l1, .inr (.inr v49)]) [(.iload_n 1, 1)] (by decide +kernel) rfl ?_
    refine zV_n (by decide +kernel) znw_RX11_48 h (fun M50 _ h => ?_)
    refine zV_b (pc' := 204) (lv' := [(0, .inr (.inr p0)), (1, .inl l1)]) (st' := [.inr (.inr (zm_nx M)), .inr (.inr (zm_nx M)), .inl l1, .inr (.inr v49)]) [(.dup, 1)] (by decide +kernel) rfl ?_
    refine zV_cin (As := []) (st := [.inr (.inr (zm_nx M)), .inl l1, .inr (.inr v49)]) (c := 11) (by decide +kernel) (zcl_X10_init (by decide) (by decide)) ⟨⟨_, zw_248⟩, rfl, zw_249⟩ rfl rfl (Nat.le_of_ble_eq_true rfl) h (fun _ _ e => zc_X10_init e) (fun M51 _ _ h => ?_)
    refine zV_sr (by decide +kernel) (by decide) (by decide) (Or.inr ⟨_, _, rfl, by decide⟩) h (fun M52 _ h => ?_)
    refine zV_b (pc' := 211) (lv' := [(1, .inl (l1 + 1)), (0, .inr (.inr p0))]) (st' := []) [(.iinc 1 1, 3)] (by decide +kernel) rfl ?_
    refine zV_goto (off := (-21)) (tgt := 190) (by decide +kernel) (by decide) ?_
    exact zV_lv (lv' := [(0, .inr (.inr p0)), (1, .inl (l1 + 1))]) [1, 0] rfl (k1 _ (Option.some.inj h).symm)
set_option maxRecDepth 100000 in
theorem zt_X11_init {X : Zx} {M : Zm} {l0 : Option Nat} {z : Zm × Unit} (h : zf_X11_init M l0 = some z) (hR : zRv X zC_X11_init z.1) : zV X zC_X11_init M 0 [(0, .inr (.inr l0))] [] := by
  unfold zf_X11_init at h
  refine zV_b (pc' := 1) (lv' := [(0, .inr (.inr l0))]) (st' := [.inr (.inr l0)]) [(.aload_n 0, 1)] (by decide +kernel) rfl ?_
  refine zV_oo (by decide +kernel) zw_128 (by decide) (by decide) h (fun _ _ h => ?_)
  refine zV_b (pc' := 5) (lv' := [(0, .inr (.inr l0))]) (st' := [.inr (.inr l0)]) [(.aload_n 0, 1)] (by decide +kernel) rfl ?_
  refine zV_n (by decide +kernel) znw_RX11_9 h (fun M2 _ h => ?_)
  refine zV_b (pc' := 9) (lv' := [(0, .inr (.inr l0))]) (st' := [.inr (.inr (zm_nx M)), .inr (.inr (zm_nx M)), .inr (.inr l0)]) [(.dup, 1)] (by decide +kernel) rfl ?_
  refine zV_cii (As := []) (st := [.inr (.inr (zm_nx M)), .inr (.inr l0)]) (c := 0) (by decide +kernel) (zcl_Jx4a65c_init_da8c8 (by decide) (by decide)) ⟨zw_133, rfl, zw_134⟩ rfl rfl (Nat.le_of_ble_eq_true rfl) h (fun _ _ e => zc_Jx4a65c_init_da8c8 e) (fun M3 _ _ h => ?_)
  refine zV_pr (by decide +kernel) zfp_RX11_12_i (Or.inl ⟨_, rfl⟩) (by decide) rfl h (fun M4 _ h => ?_)
  refine zV_b (pc' := 18) (lv' := [(0, .inr (.inr l0))]) (st' := [.inl (20 : Int32), .inr (.inr l0)]) [(.aload_n 0, 1), (.bipush 20, 2)] (by decide +kernel) rfl ?_
  refine zV_nr (k := 17) (by decide +kernel) (by decide) (by decide) zw_157 h (fun M5 _ h => ?_)
  refine zV_pr (by decide +kernel) zfp_RX11_18_i (Or.inr ⟨_, rfl⟩) (by decide) rfl h (fun M6 _ h => ?_)
  refine zV_b (pc' := 25) (lv' := [(0, .inr (.inr l0))]) (st' := [.inr (.inr l0)]) [(.aload_n 0, 1)] (by decide +kernel) rfl ?_
  refine zV_n (by decide +kernel) znw_RX11_9 h (fun M7 _ h => ?_)
  refine zV_b (pc' := 29) (lv' := [(0, .inr (.inr l0))]) (st' := [.inr (.inr (zm_nx M6)), .inr (.inr (zm_nx M6)), .inr (.inr l0)]) [(.dup, 1)] (by decide +kernel) rfl ?_
  refine zV_cii (As := []) (st := [.inr (.inr (zm_nx M6)), .inr (.inr l0)]) (c := 0) (by decide +kernel) (zcl_Jx4a65c_init_da8c8 (by decide) (by decide)) ⟨zw_133, rfl, zw_134⟩ rfl rfl (Nat.le_of_ble_eq_true rfl) h (fun _ _ e => zc_Jx4a65c_init_da8c8 e) (fun M8 _ _ h => ?_)
  refine zV_pr (by decide +kernel) zfp_RX11_22_i (Or.inl ⟨_, rfl⟩) (by decide) rfl h (fun M9 _ h => ?_)
  refine zV_b (pc' := 36) (lv' := [(0, .inr (.inr l0))]) (st' := [.inr (.inr l0)]) [(.aload_n 0, 1)] (by decide +kernel) rfl ?_
  refine zV_n (by decide +kernel) znw_RX11_25 h (fun M10 _ h => ?_)
  refine zV_b (pc' := 40) (lv' := [(0, .inr (.inr l0))]) (st' := [.inr (.inr (zm_nx M9)), .inr (.inr (zm_nx M9)), .inr (.inr l0)]) [(.dup, 1)] (by decide +kernel) rfl ?_
  refine zV_cin (As := []) (st := [.inr (.inr (zm_nx M9)), .inr (.inr l0)]) (c := 6) (by decide +kernel) (zcl_X5_init (by decide) (by decide)) ⟨⟨_, zw_161⟩, rfl, zw_162⟩ rfl rfl (Nat.le_of_ble_eq_true rfl) h (fun _ _ e => zc_X5_init e) (fun M11 _ _ h => ?_)
  refine zV_pr (by decide +kernel) zfp_RX11_28_i (Or.inl ⟨_, rfl⟩) (by decide) rfl h (fun M12 _ h => ?_)
  refine zV_b (pc' := 47) (lv' := [(0, .inr (.inr l0))]) (st' := [.inr (.inr l0)]) [(.aload_n 0, 1)] (by decide +kernel) rfl ?_
  refine zV_n (by decide +kernel) znw_RX11_32 h (fun M13 _ h => ?_)
  refine zV_b (pc' := 52) (lv' := [(0, .inr (.inr l0))]) (st' := [.inl (1 : Int32), .inr (.inr (zm_nx M12)), .inr (.inr (zm_nx M12)), .inr (.inr l0)]) [(.dup, 1), (.iconst 1, 1)] (by decide +kernel) rfl ?_
  refine zV_cii (As := [.inl (1 : Int32)]) (st := [.inr (.inr (zm_nx M12)), .inr (.inr l0)]) (c := 9) (by decide +kernel) (zcl_X8_init (by decide) (by decide)) ⟨zw_183, rfl, zw_184⟩ rfl rfl (Nat.le_of_ble_eq_true rfl) h (fun _ _ e => zc_X8_init e) (fun M14 _ _ h => ?_)
  refine zV_pr (by decide +kernel) zfp_RX11_37_i (Or.inl ⟨_, rfl⟩) (by decide) rfl h (fun M15 _ h => ?_)
  refine zV_b (pc' := 59) (lv' := [(0, .inr (.inr l0))]) (st' := [.inr (.inr l0)]) [(.aload_n 0, 1)] (by decide +kernel) rfl ?_
  refine zV_n (by decide +kernel) znw_RX11_41 h (fun M16 _ h => ?_)
  refine zV_b (pc' := 63) (lv' := [(0, .inr (.inr l0))]) (st' := [.inr (.inr (zm_nx M15)), .inr (.inr (zm_nx M15)), .inr (.inr l0)]) [(.dup, 1)] (by decide +kernel) rfl ?_
  refine zV_cin (As := []) (st := [.inr (.inr (zm_nx M15)), .inr (.inr l0)]) (c := 7) (by decide +kernel) (zcl_X6_init (by decide) (by decide)) ⟨⟨_, zw_207⟩, rfl, zw_208⟩ rfl rfl (Nat.le_of_ble_eq_true rfl) h (fun _ _ e => zc_X6_init e) (fun M17 _ _ h => ?_)
  refine zV_pr (by decide +kernel) zfp_RX11_44_i (Or.inl ⟨_, rfl⟩) (by decide) rfl h (fun M18 _ h => ?_)
  refine zV_b (pc' := 71) (lv' := [(0, .inr (.inr l0))]) (st' := [.inl (5 : Int32), .inr (.inr l0)]) [(.aload_n 0, 1), (.iconst 5, 1)] (by decide +kernel) rfl ?_
  refine zV_nr (k := 18) (by decide +kernel) (by decide) (by decide) zw_245 h (fun M19 _ h => ?_)
  refine zV_pr (by decide +kernel) zfp_RX11_50_i (Or.inr ⟨_, rfl⟩) (by decide) rfl h (fun M20 _ h => ?_)
  refine zV_b (pc' := 78) (lv' := [(0, .inr (.inr l0))]) (st' := [.inr (.inr l0)]) [(.aload_n 0, 1)] (by decide +kernel) rfl ?_
  refine zV_n (by decide +kernel) znw_RX11_48 h (fun M21 _ h => ?_)
  refine zV_b (pc' := 82) (lv' := [(0, .inr (.inr l0))]) (st' := [.inr (.inr (zm_nx M20)), .inr (.inr (zm_nx M20)), .inr (.inr l0)]) [(.dup, 1)] (by decide +kernel) rfl ?_
  refine zV_cin (As := []) (st := [.inr (.inr (zm_nx M20)), .inr (.inr l0)]) (c := 11) (by decide +kernel) (zcl_X10_init (by decide) (by decide)) ⟨⟨_, zw_248⟩, rfl, zw_249⟩ rfl rfl (Nat.le_of_ble_eq_true rfl) h (fun _ _ e => zc_X10_init e) (fun M22 _ _ h => ?_)
  refine zV_pr (by decide +kernel) zfp_RX11_55_i (Or.inl ⟨_, rfl⟩) (by decide) rfl h (fun M23 _ h => ?_)
  refine zV_b (pc' := 89) (lv' := [(0, .inr (.inr l0))]) (st' := [.inr (.inr l0)]) [(.aload_n 0, 1)] (by decide +kernel) rfl ?_
  refine zV_n (by decide +kernel) znw_RX11_59 h (fun M24 _ h => ?_)
  refine zV_b (pc' := 93) (lv' := [(0, .inr (.inr l0))]) (st' := [.inr (.inr (zm_nx M23)), .inr (.inr (zm_nx M23)), .inr (.inr l0)]) [(.dup, 1)] (by decide +kernel) rfl ?_
  refine zV_cin (As := []) (st := [.inr (.inr (zm_nx M23)), .inr (.inr l0)]) (c := 5) (by decide +kernel) (zcl_X4_init (by decide) (by decide)) ⟨⟨_, zw_282⟩, rfl, zw_283⟩ rfl rfl (Nat.le_of_ble_eq_true rfl) h (fun _ _ e => zc_X4_init e) (fun M25 _ _ h => ?_)
  refine zV_pr (by decide +kernel) zfp_RX11_62_i (Or.inl ⟨_, rfl⟩) (by decide) rfl h (fun M26 _ h => ?_)
  refine zV_b (pc' := 100) (lv' := [(0, .inr (.inr l0))]) (st' := [.inr (.inr l0)]) [(.aload_n 0, 1)] (by decide +kernel) rfl ?_
  refine zV_n (by decide +kernel) znw_RX11_59 h (fun M27 _ h => ?_)
  refine zV_b (pc' := 104) (lv' := [(0, .inr (.inr l0))]) (st' := [.inr (.inr (zm_nx M26)), .inr (.inr (zm_nx M26)), .inr (.inr l0)]) [(.dup, 1)] (by decide +kernel) rfl ?_
  refine zV_cin (As := []) (st := [.inr (.inr (zm_nx M26)), .inr (.inr l0)]) (c := 5) (by decide +kernel) (zcl_X4_init (by decide) (by decide)) ⟨⟨_, zw_282⟩, rfl, zw_283⟩ rfl rfl (Nat.le_of_ble_eq_true rfl) h (fun _ _ e => zc_X4_init e) (fun M28 _ _ h => ?_)
  refine zV_pr (by decide +kernel) zfp_RX11_66_i (Or.inl ⟨_, rfl⟩) (by decide) rfl h (fun M29 _ h => ?_)
  refine zV_b (pc' := 111) (lv' := [(0, .inr (.inr l0))]) (st' := [.inr (.inr l0)]) [(.aload_n 0, 1)] (by decide +kernel) rfl ?_
  refine zV_n (by decide +kernel) znw_RX11_69 h (fun M30 _ h => ?_)
  refine zV_b (pc' := 115) (lv' := [(0, .inr (.inr l0))]) (st' := [.inr (.inr (zm_nx M29)), .inr (.inr (zm_nx M29)), .inr (.inr l0)]) [(.dup, 1)] (by decide +kernel) rfl ?_
  refine zV_cin (As := []) (st := [.inr (.inr (zm_nx M29)), .inr (.inr l0)]) (c := 3) (by decide +kernel) (zcl_X2_init (by decide) (by decide)) ⟨⟨_, zw_296⟩, rfl, zw_297⟩ rfl rfl (Nat.le_of_ble_eq_true rfl) h (fun _ _ e => zc_X2_init e) (fun M31 _ _ h => ?_)
  refine zV_pr (by decide +kernel) zfp_RX11_72_i (Or.inl ⟨_, rfl⟩) (by decide) rfl h (fun M32 _ h => ?_)
  refine zV_b (pc' := 122) (lv' := [(0, .inr (.inr l0))]) (st' := [.inr (.inr l0)]) [(.aload_n 0, 1)] (by decide +kernel) rfl ?_
  refine zV_n (by decide +kernel) znw_RX11_76 h (fun M33 _ h => ?_)
  refine zV_b (pc' := 126) (lv' := [(0, .inr (.inr l0))]) (st' := [.inr (.inr (zm_nx M32)), .inr (.inr (zm_nx M32)), .inr (.inr l0)]) [(.dup, 1)] (by decide +kernel) rfl ?_
  refine zV_cin (As := []) (st := [.inr (.inr (zm_nx M32)), .inr (.inr l0)]) (c := 2) (by decide +kernel) (zcl_X1_init (by decide) (by decide)) ⟨⟨_, zw_322⟩, rfl, zw_323⟩ rfl rfl (Nat.le_of_ble_eq_true rfl) h (fun _ _ e => zc_X1_init e) (fun M34 _ _ h => ?_)
  refine zV_pr (by decide +kernel) zfp_RX11_79_i (Or.inl ⟨_, rfl⟩) (by decide) rfl h (fun M35 _ h => ?_)
  refine zV_b (pc' := 133) (lv' := [(0, .inr (.inr l0))]) (st' := [.inr (.inr l0)]) [(.aload_n 0, 1)] (by decide +kernel) rfl ?_
  refine zV_n (by decide +kernel) znw_RX11_83 h (fun M36 _ h => ?_)
  refine zV_b (pc' := 140) (lv' := [(0, .inr (.inr l0))]) (st' := [.inl (200 : Int32), .inr (.inr (zm_nx M35)), .inr (.inr (zm_nx M35)), .inr (.inr l0)]) [(.dup, 1), (.sipush 200, 3)] (by decide +kernel) rfl ?_
  refine zV_cii (As := [.inl (200 : Int32)]) (st := [.inr (.inr (zm_nx M35)), .inr (.inr l0)]) (c := 10) (by decide +kernel) (zcl_X9_init (by decide) (by decide)) ⟨zw_376, rfl, zw_377⟩ rfl rfl (Nat.le_of_ble_eq_true rfl) h (fun _ _ e => zc_X9_init e) (fun M37 _ _ h => ?_)
  refine zV_pr (by decide +kernel) zfp_RX11_86_i (Or.inl ⟨_, rfl⟩) (by decide) rfl h (fun M38 _ h => ?_)
  refine zV_b (pc' := 147) (lv' := [(0, .inr (.inr l0))]) (st' := [.inr (.inr l0)]) [(.aload_n 0, 1)] (by decide +kernel) rfl ?_
  refine zV_n (by decide +kernel) znw_RX11_83 h (fun M39 _ h => ?_)
  refine zV_b (pc' := 152) (lv' := [(0, .inr (.inr l0))]) (st' := [.inl (0 : Int32), .inr (.inr (zm_nx M38)), .inr (.inr (zm_nx M38)), .inr (.inr l0)]) [(.dup, 1), (.iconst 0, 1)] (by decide +kernel) rfl ?_
  refine zV_cii (As := [.inl (0 : Int32)]) (st := [.inr (.inr (zm_nx M38)), .inr (.inr l0)]) (c := 10) (by decide +kernel) (zcl_X9_init (by decide) (by decide)) ⟨zw_376, rfl, zw_377⟩ rfl rfl (Nat.le_of_ble_eq_true rfl) h (fun _ _ e => zc_X9_init e) (fun M40 _ _ h => ?_)
  refine zV_pr (by decide +kernel) zfp_RX11_90_i (Or.inl ⟨_, rfl⟩) (by decide) rfl h (fun M41 _ h => ?_)
  refine zV_b (pc' := 160) (lv' := [(0, .inr (.inr l0))]) (st' := [.inl (0 : Int32), .inr (.inr l0)]) [(.aload_n 0, 1), (.iconst 0, 1)] (by decide +kernel) rfl ?_
  refine zV_pi (by decide +kernel) zfp_RX11_93_i (by decide) rfl h (fun M42 _ h => ?_)
  refine zV_b (pc' := 165) (lv' := [(0, .inr (.inr l0))]) (st' := [.inr (.inl (0 : Int64)), .inr (.inr l0)]) [(.aload_n 0, 1), (.lconst 0, 1)] (by decide +kernel) rfl ?_
  refine zV_pj (by decide +kernel) zfp_RX11_97_i (by decide) rfl h (fun M43 _ h => ?_)
  refine zV_b (pc' := 170) (lv' := [(0, .inr (.inr l0))]) (st' := [.inl (0 : Int32), .inr (.inr l0)]) [(.aload_n 0, 1), (.iconst 0, 1)] (by decide +kernel) rfl ?_
  refine zV_pi (by decide +kernel) zfp_RX11_101_i (by decide) rfl h (fun M44 _ h => ?_)
  refine zV_b (pc' := 175) (lv' := [(0, .inr (.inr l0))]) (st' := [.inl (0 : Int32), .inr (.inr l0)]) [(.aload_n 0, 1), (.iconst 0, 1)] (by decide +kernel) rfl ?_
  refine zV_pz (by decide +kernel) zfp_RX11_104_i (by decide) rfl h (fun M45 _ h => ?_)
  refine zV_b (pc' := 180) (lv' := [(0, .inr (.inr l0))]) (st' := [.inl (0 : Int32), .inr (.inr l0)]) [(.aload_n 0, 1), (.iconst 0, 1)] (by decide +kernel) rfl ?_
  refine zV_pi (by decide +kernel) zfp_RX11_108_i (by decide) rfl h (fun M46 _ h => ?_)
  refine zV_b (pc' := 185) (lv' := [(0, .inr (.inr l0))]) (st' := [.inl (-1 : Int32), .inr (.inr l0)]) [(.aload_n 0, 1), (.iconst (-1), 1)] (by decide +kernel) rfl ?_
  refine zV_pi (by decide +kernel) zfp_RX11_111_i (by decide) rfl h (fun M47 _ h => ?_)
  refine zV_b (pc' := 190) (lv' := [(1, .inl (0 : Int32)), (0, .inr (.inr l0))]) (st' := []) [(.iconst 0, 1), (.istore_n 1, 1)] (by decide +kernel) rfl ?_
  obtain ⟨y54, e54, h⟩ := zb1_inv h
  refine zV_lv (lv' := [(0, .inr (.inr l0)), (1, .inl (0 : Int32))]) [1, 0] rfl (zt_X11_init_L190 e54 ?_)
  obtain ⟨M190_54, l1_54⟩ := y54
  show zV X zC_X11_init M190_54 214 [] []
  exact zend_v h hR (by decide +kernel)
theorem zc_X11_init {M M' : Zm} {l0 : Option Nat} {x : Unit} (h : zf_X11_init M l0 = some (M', x)) (l : Launch) (D : va_G) (cy : Nat → ClassId) : zMet l yX11_init zC_X11_init none D cy [.inr (.inr l0)] M M' none :=
  zM_v (by decide) rfl (fun _ => rfl) (Nat.le_of_ble_eq_true rfl) (fun X hR => zt_X11_init h hR)
-- BlendCellar.account(II)J
def zC_X11_account : Zc := (cX11_account, 3, RX11, 2, 46, false)
theorem zcl_X11_account {C : Zc} (h1 : zC_X11_account.2.2.2.1 + 1 ≤ C.2.2.2.1) (h2 : 8 + (zC_X11_account.2.1 + 11) + zC_X11_account.2.2.2.2.1 ≤ C.2.2.2.2.1) : zCl C yX11_account zC_X11_account (some .long) 2 := ⟨zw_1322, zw_101, ⟨by decide, by decide⟩, by decide +kernel, h1, h2⟩
noncomputable def zf_X11_account_J9 (M : Zm)  : Option (Zm × Int64) :=
  some (M, (0 : Int64))
noncomputable def zf_X11_account (M : Zm) (l0 : Option Nat) (l1 : Int32) (l2 : Int32) : Option (Zm × Int64) :=
  (if l2 < 0 then
  zf_X11_account_J9 M
  else
  (if l2 < (5 : Int32) then
  zb1 (zo_gr M l0 12 6) (fun v5 =>
  zb1 (zo_ar M 18 v5 l2) (fun v6 =>
  zb1 (zo_rc M v6 11) (fun _ => zbd (zf_X10_amountOf M v6 l1) (fun M7 v7 =>
  some (M7, v7)))))
  else
  zf_X11_account_J9 M))
set_option maxRecDepth 100000 in
theorem zt_X11_account_J9 {X : Zx} {M : Zm}  {z : Zm × Int64} (h : zf_X11_account_J9 M  = some z) (hR : zRj X zC_X11_account z.1 z.2) : zV X zC_X11_account M 9 [] [] := by
  unfold zf_X11_account_J9 at h
  refine zV_b (pc' := 10) (lv' := []) (st' := [.inr (.inl (0 : Int64))]) [(.lconst 0, 1)] (by decide +kernel) rfl ?_
  refine zV_goto (off := 13) (tgt := 23) (by decide +kernel) (by decide) ?_
  exact zend_j h hR (by decide +kernel)
set_option maxRecDepth 100000 in
theorem zt_X11_account {X : Zx} {M : Zm} {l0 : Option Nat} {l1 : Int32} {l2 : Int32} {z : Zm × Int64} (h : zf_X11_account M l0 l1 l2 = some z) (hR : zRj X zC_X11_account z.1 z.2) : zV X zC_X11_account M 0 [(0, .inr (.inr l0)), (1, .inl l1), (2, .inl l2)] [] := by
  unfold zf_X11_account at h
  refine zV_b (pc' := 1) (lv' := [(0, .inr (.inr l0)), (1, .inl l1), (2, .inl l2)]) (st' := [.inl l2]) [(.iload_n 2, 1)] (by decide +kernel) rfl ?_
  refine zV_if_lt (off := 8) (tgt := 9) (by decide +kernel) (by decide) h (fun c1 h => ?_) (fun c1 h => ?_)
  · exact zV_lv (lv' := []) [] rfl (zt_X11_account_J9 h hR)
  · refine zV_b (pc' := 6) (lv' := [(0, .inr (.inr l0)), (1, .inl l1), (2, .inl l2)]) (st' := [.inl (5 : Int32), .inl l2]) [(.iload_n 2, 1), (.iconst 5, 1)] (by decide +kernel) rfl ?_
    refine zV_icmp_lt (off := 7) (tgt := 13) (by decide +kernel) (by decide) h (fun c4 h => ?_) (fun c4 h => ?_)
    · refine zV_b (pc' := 14) (lv' := [(0, .inr (.inr l0)), (1, .inl l1), (2, .inl l2)]) (st' := [.inr (.inr l0)]) [(.aload_n 0, 1)] (by decide +kernel) rfl ?_
      refine zV_gr (by decide +kernel) zfl_RX11_50 (by decide) rfl h (fun v5 _ h => ?_)
      refine zV_b (pc' := 18) (lv' := [(0, .inr (.inr l0)), (1, .inl l1), (2, .inl l2)]) (st' := [.inl l2, .inr (.inr v5)]) [(.iload_n 2, 1)] (by decide +kernel) rfl ?_
      refine zV_ar (by decide +kernel) (by decide) (by decide) h (fun v6 _ h => ?_)
      refine zV_b (pc' := 20) (lv' := [(0, .inr (.inr l0)), (1, .inl l1), (2, .inl l2)]) (st' := [.inl l1, .inr (.inr v6)]) [(.iload_n 1, 1)] (by decide +kernel) rfl ?_
      refine zV_cvj (As := [.inl l1]) (st := []) (c := 11) (by decide +kernel) (zcl_X10_amountOf (by decide) (by decide)) ⟨zw_805, zw_806, zw_807⟩ ⟨⟨_, _, rfl⟩, by decide⟩ rfl rfl (Nat.le_of_ble_eq_true rfl) h (fun _ _ e => zc_X10_amountOf e) (fun M7 v7 _ h => ?_)
      exact zend_j h hR (by decide +kernel)
    · exact zV_lv (lv' := []) [] rfl (zt_X11_account_J9 h hR)
theorem zc_X11_account {M M' : Zm} {l0 : Option Nat} {l1 : Int32} {l2 : Int32} {x : Int64} (h : zf_X11_account M l0 l1 l2 = some (M', x)) (l : Launch) (D : va_G) (cy : Nat → ClassId) : zMet l yX11_account zC_X11_account (some .long) D cy [.inr (.inr l0), .inl l1, .inl l2] M M' (some (.inr (.inl x))) :=
  zM_j (by decide) rfl (fun h => by cases h) (Nat.le_of_ble_eq_true rfl) (fun X hR => zt_X11_account h hR)
-- BlendCellar.find(I)LBlendCellar$Barrel;
def zC_X11_find : Zc := (cX11_find, 2, RX11, 3, 64, false)
theorem zcl_X11_find {C : Zc} (h1 : zC_X11_find.2.2.2.1 + 1 ≤ C.2.2.2.1) (h2 : 8 + (zC_X11_find.2.1 + 11) + zC_X11_find.2.2.2.2.1 ≤ C.2.2.2.2.1) : zCl C yX11_find zC_X11_find (some (.object "BlendCellar$Barrel")) 1 := ⟨zw_754, zw_101, ⟨by decide, by decide⟩, by decide +kernel, h1, h2⟩
noncomputable def zf_X11_find_J15 (M : Zm)  : Option (Zm × Option Nat) :=
  some (M, none)
noncomputable def zf_X11_find (M : Zm) (l0 : Option Nat) (l1 : Int32) : Option (Zm × Option Nat) :=
  (if l1 < 0 then
  zf_X11_find_J15 M
  else
  zb1 (zo_gr M l0 12 0) (fun v4 =>
  zb1 (zo_rc M v4 0) (fun _ => zbd (zf_Jx4a65c_size_8abf5 M v4) (fun M5 v5 =>
  (if l1 < v5 then
  zb1 (zo_gr M5 l0 12 0) (fun v7 =>
  zb1 (zo_rc M5 v7 0) (fun _ => zbd (zf_Jx4a65c_get_915e3 M5 v7 l1) (fun M8 v8 =>
  zb1 (zo_cc M8 v8 1) (fun _ =>
  some (M8, v8)))))
  else
  zf_X11_find_J15 M5)))))
set_option maxRecDepth 100000 in
theorem zt_X11_find_J15 {X : Zx} {M : Zm}  {z : Zm × Option Nat} (h : zf_X11_find_J15 M  = some z) (hR : zRr X zC_X11_find z.1 z.2) : zV X zC_X11_find M 15 [] [] := by
  unfold zf_X11_find_J15 at h
  refine zV_b (pc' := 16) (lv' := []) (st' := [.inr (.inr none)]) [(.aconst_null, 1)] (by decide +kernel) rfl ?_
  refine zV_goto (off := 14) (tgt := 30) (by decide +kernel) (by decide) ?_
  exact zend_r h hR (by decide +kernel)
set_option maxRecDepth 100000 in
theorem zt_X11_find {X : Zx} {M : Zm} {l0 : Option Nat} {l1 : Int32} {z : Zm × Option Nat} (h : zf_X11_find M l0 l1 = some z) (hR : zRr X zC_X11_find z.1 z.2) : zV X zC_X11_find M 0 [(0, .inr (.inr l0)), (1, .inl l1)] [] := by
  unfold zf_X11_find at h
  refine zV_b (pc' := 1) (lv' := [(0, .inr (.inr l0)), (1, .inl l1)]) (st' := [.inl l1]) [(.iload_n 1, 1)] (by decide +kernel) rfl ?_
  refine zV_if_lt (off := 14) (tgt := 15) (by decide +kernel) (by decide) h (fun c1 h => ?_) (fun c1 h => ?_)
  · exact zV_lv (lv' := []) [] rfl (zt_X11_find_J15 h hR)
  · refine zV_b (pc' := 6) (lv' := [(0, .inr (.inr l0)), (1, .inl l1)]) (st' := [.inr (.inr l0), .inl l1]) [(.iload_n 1, 1), (.aload_n 0, 1)] (by decide +kernel) rfl ?_
    refine zV_gr (by decide +kernel) zfl_RX11_12 (by decide) rfl h (fun v4 _ h => ?_)
    refine zV_cvi (As := []) (st := [.inl l1]) (c := 0) (by decide +kernel) (zcl_Jx4a65c_size_8abf5 (by decide) (by decide)) ⟨zw_473, zw_474, zw_475⟩ ⟨⟨_, _, rfl⟩, by decide⟩ rfl rfl (Nat.le_of_ble_eq_true rfl) h (fun _ _ e => zc_Jx4a65c_size_8abf5 e) (fun M5 v5 _ h => ?_)
    refine zV_icmp_lt (off := 7) (tgt := 19) (by decide +kernel) (by decide) h (fun c6 h => ?_) (fun c6 h => ?_)
    · refine zV_b (pc' := 20) (lv' := [(0, .inr (.inr l0)), (1, .inl l1)]) (st' := [.inr (.inr l0)]) [(.aload_n 0, 1)] (by decide +kernel) rfl ?_
      refine zV_gr (by decide +kernel) zfl_RX11_12 (by decide) rfl h (fun v7 _ h => ?_)
      refine zV_b (pc' := 24) (lv' := [(0, .inr (.inr l0)), (1, .inl l1)]) (st' := [.inl l1, .inr (.inr v7)]) [(.iload_n 1, 1)] (by decide +kernel) rfl ?_
      refine zV_cvr (As := [.inl l1]) (st := []) (c := 0) (by decide +kernel) (zcl_Jx4a65c_get_915e3 (by decide) (by decide)) ⟨zw_670, zw_671, zw_672⟩ ⟨⟨_, _, rfl⟩, by decide⟩ rfl rfl (Nat.le_of_ble_eq_true rfl) h (fun _ _ e => zc_Jx4a65c_get_915e3 e) (fun M8 v8 _ h => ?_)
      refine zV_cc (by decide +kernel) zck_RX11_156 h (fun _ _ h => ?_)
      exact zend_r h hR (by decide +kernel)
    · exact zV_lv (lv' := []) [] rfl (zt_X11_find_J15 h hR)
theorem zc_X11_find {M M' : Zm} {l0 : Option Nat} {l1 : Int32} {x : Option Nat} (h : zf_X11_find M l0 l1 = some (M', x)) (l : Launch) (D : va_G) (cy : Nat → ClassId) : zMet l yX11_find zC_X11_find (some (.object "BlendCellar$Barrel")) D cy [.inr (.inr l0), .inl l1] M M' (some (.inr (.inr x))) :=
  zM_r (Or.inl ⟨_, rfl⟩) (by decide) rfl (fun h => by cases h) (Nat.le_of_ble_eq_true rfl) (fun X hR => zt_X11_find h hR)
-- BlendCellar.amount(I)J
def zC_X11_amount : Zc := (cX11_amount, 3, RX11, 4, 85, false)
theorem zcl_X11_amount {C : Zc} (h1 : zC_X11_amount.2.2.2.1 + 1 ≤ C.2.2.2.1) (h2 : 8 + (zC_X11_amount.2.1 + 11) + zC_X11_amount.2.2.2.2.1 ≤ C.2.2.2.2.1) : zCl C yX11_amount zC_X11_amount (some .long) 1 := ⟨zw_1301, zw_101, ⟨by decide, by decide⟩, by decide +kernel, h1, h2⟩
noncomputable def zf_X11_amount (M : Zm) (l0 : Option Nat) (l1 : Int32) : Option (Zm × Int64) :=
  zb1 (zo_rc M l0 12) (fun _ => zbd (zf_X11_find M l0 l1) (fun M1 v1 =>
  (if v1 = none then
  some (M1, (0 : Int64))
  else
  zb1 (zo_rc M1 v1 1) (fun _ => zbd (zf_X0_has M1 v1) (fun M5 v5 =>
  some (M5, v5))))))
set_option maxRecDepth 100000 in
theorem zt_X11_amount {X : Zx} {M : Zm} {l0 : Option Nat} {l1 : Int32} {z : Zm × Int64} (h : zf_X11_amount M l0 l1 = some z) (hR : zRj X zC_X11_amount z.1 z.2) : zV X zC_X11_amount M 0 [(0, .inr (.inr l0)), (1, .inl l1)] [] := by
  unfold zf_X11_amount at h
  refine zV_b (pc' := 2) (lv' := [(0, .inr (.inr l0)), (1, .inl l1)]) (st' := [.inl l1, .inr (.inr l0)]) [(.aload_n 0, 1), (.iload_n 1, 1)] (by decide +kernel) rfl ?_
  refine zV_cvr (As := [.inl l1]) (st := []) (c := 12) (by decide +kernel) (zcl_X11_find (by decide) (by decide)) ⟨zw_751, zw_753, zw_16⟩ ⟨⟨_, _, rfl⟩, by decide⟩ rfl rfl (Nat.le_of_ble_eq_true rfl) h (fun _ _ e => zc_X11_find e) (fun M1 v1 _ h => ?_)
  refine zV_b (pc' := 7) (lv' := [(2, .inr (.inr v1)), (0, .inr (.inr l0)), (1, .inl l1)]) (st' := [.inr (.inr v1)]) [(.astore_n 2, 1), (.aload_n 2, 1)] (by decide +kernel) rfl ?_
  refine zV_ifnonnull (off := 7) (tgt := 14) (by decide +kernel) (by decide) h (fun c2 h => ?_) (fun c2 h => ?_)
  · refine zV_b (pc' := 11) (lv' := [(2, .inr (.inr v1)), (0, .inr (.inr l0)), (1, .inl l1)]) (st' := [.inr (.inl (0 : Int64))]) [(.lconst 0, 1)] (by decide +kernel) rfl ?_
    refine zV_goto (off := 7) (tgt := 18) (by decide +kernel) (by decide) ?_
    exact zend_j h hR (by decide +kernel)
  · refine zV_b (pc' := 15) (lv' := [(2, .inr (.inr v1)), (0, .inr (.inr l0)), (1, .inl l1)]) (st' := [.inr (.inr v1)]) [(.aload_n 2, 1)] (by decide +kernel) rfl ?_
    refine zV_cvj (As := []) (st := []) (c := 1) (by decide +kernel) (zcl_X0_has (by decide) (by decide)) ⟨zw_1068, zw_1069, zw_1070⟩ ⟨⟨_, _, rfl⟩, by decide⟩ rfl rfl (Nat.le_of_ble_eq_true rfl) h (fun _ _ e => zc_X0_has e) (fun M5 v5 _ h => ?_)
    exact zend_j h hR (by decide +kernel)
theorem zc_X11_amount {M M' : Zm} {l0 : Option Nat} {l1 : Int32} {x : Int64} (h : zf_X11_amount M l0 l1 = some (M', x)) (l : Launch) (D : va_G) (cy : Nat → ClassId) : zMet l yX11_amount zC_X11_amount (some .long) D cy [.inr (.inr l0), .inl l1] M M' (some (.inr (.inl x))) :=
  zM_j (by decide) rfl (fun h => by cases h) (Nat.le_of_ble_eq_true rfl) (fun X hR => zt_X11_amount h hR)
-- BlendCellar.closeTap(J)J
def zC_X11_closeTap : Zc := (cX11_closeTap, 3, RX11, 0, 0, false)
theorem zcl_X11_closeTap {C : Zc} (h1 : zC_X11_closeTap.2.2.2.1 + 1 ≤ C.2.2.2.1) (h2 : 8 + (zC_X11_closeTap.2.1 + 11) + zC_X11_closeTap.2.2.2.2.1 ≤ C.2.2.2.2.1) : zCl C yX11_closeTap zC_X11_closeTap (some .long) 1 := ⟨zw_513, zw_101, ⟨by decide, by decide⟩, by decide +kernel, h1, h2⟩
noncomputable def zf_X11_closeTap_J14 (M : Zm) (l0 : Option Nat) (l1 : Int64) (s0 : Int32) (s1 : Option Nat) : Option (Zm × Int64) :=
  zb1 (zo_pi M s1 12 18 s0) (fun M2 =>
  zb1 (zo_pz M2 l0 12 17 (0 : Int32)) (fun M3 =>
  some (M3, l1)))
noncomputable def zf_X11_closeTap (M : Zm) (l0 : Option Nat) (l1 : Int64) : Option (Zm × Int64) :=
  (if (0 : Int64) ≤ l1 then
  zf_X11_closeTap_J14 M l0 l1 (0 : Int32) l0
  else
  zf_X11_closeTap_J14 M l0 l1 (((-l1)).toInt32) l0)
set_option maxRecDepth 100000 in
theorem zt_X11_closeTap_J14 {X : Zx} {M : Zm} {l0 : Option Nat} {l1 : Int64} {s0 : Int32} {s1 : Option Nat} {z : Zm × Int64} (h : zf_X11_closeTap_J14 M l0 l1 s0 s1 = some z) (hR : zRj X zC_X11_closeTap z.1 z.2) : zV X zC_X11_closeTap M 14 [(0, .inr (.inr l0)), (1, .inr (.inl l1))] [.inl s0, .inr (.inr s1)] := by
  unfold zf_X11_closeTap_J14 at h
  refine zV_pi (by decide +kernel) zfp_RX11_108 (by decide) rfl h (fun M2 _ h => ?_)
  refine zV_b (pc' := 19) (lv' := [(0, .inr (.inr l0)), (1, .inr (.inl l1))]) (st' := [.inl (0 : Int32), .inr (.inr l0)]) [(.aload_n 0, 1), (.iconst 0, 1)] (by decide +kernel) rfl ?_
  refine zV_pz (by decide +kernel) zfp_RX11_104 (by decide) rfl h (fun M3 _ h => ?_)
  refine zV_b (pc' := 23) (lv' := [(0, .inr (.inr l0)), (1, .inr (.inl l1))]) (st' := [.inr (.inl l1)]) [(.lload_n 1, 1)] (by decide +kernel) rfl ?_
  exact zend_j h hR (by decide +kernel)
set_option maxRecDepth 100000 in
theorem zt_X11_closeTap {X : Zx} {M : Zm} {l0 : Option Nat} {l1 : Int64} {z : Zm × Int64} (h : zf_X11_closeTap M l0 l1 = some z) (hR : zRj X zC_X11_closeTap z.1 z.2) : zV X zC_X11_closeTap M 0 [(0, .inr (.inr l0)), (1, .inr (.inl l1))] [] := by
  unfold zf_X11_closeTap at h
  refine zV_b (pc' := 3) (lv' := [(0, .inr (.inr l0)), (1, .inr (.inl l1))]) (st' := [.inr (.inl (0 : Int64)), .inr (.inl l1), .inr (.inr l0)]) [(.aload_n 0, 1), (.lload_n 1, 1), (.lconst 0, 1)] (by decide +kernel) rfl ?_
  refine zV_lcmp_ge (off := 9) (tgt := 13) (by decide +kernel) (by decide +kernel) (by decide) h (fun c1 h => ?_) (fun c1 h => ?_)
  · refine zV_b (pc' := 14) (lv' := [(0, .inr (.inr l0)), (1, .inr (.inl l1))]) (st' := [.inl (0 : Int32), .inr (.inr l0)]) [(.iconst 0, 1)] (by decide +kernel) rfl ?_
    exact zV_lv (lv' := [(0, .inr (.inr l0)), (1, .inr (.inl l1))]) [0, 1] rfl (zt_X11_closeTap_J14 h hR)
  · refine zV_b (pc' := 10) (lv' := [(0, .inr (.inr l0)), (1, .inr (.inl l1))]) (st' := [.inl (((-l1)).toInt32), .inr (.inr l0)]) [(.lload_n 1, 1), (.lneg, 1), (.l2i, 1)] (by decide +kernel) rfl ?_
    refine zV_goto (off := 4) (tgt := 14) (by decide +kernel) (by decide) ?_
    exact zV_lv (lv' := [(0, .inr (.inr l0)), (1, .inr (.inl l1))]) [0, 1] rfl (zt_X11_closeTap_J14 h hR)
theorem zc_X11_closeTap {M M' : Zm} {l0 : Option Nat} {l1 : Int64} {x : Int64} (h : zf_X11_closeTap M l0 l1 = some (M', x)) (l : Launch) (D : va_G) (cy : Nat → ClassId) : zMet l yX11_closeTap zC_X11_closeTap (some .long) D cy [.inr (.inr l0), .inr (.inl l1)] M M' (some (.inr (.inl x))) :=
  zM_j (by decide) rfl (fun h => by cases h) (Nat.le_of_ble_eq_true rfl) (fun X hR => zt_X11_closeTap h hR)
-- BlendCellar.lookUp(I)I
def zC_X11_lookUp : Zc := (cX11_lookUp, 2, RX11, 1, 20, false)
theorem zcl_X11_lookUp {C : Zc} (h1 : zC_X11_lookUp.2.2.2.1 + 1 ≤ C.2.2.2.1) (h2 : 8 + (zC_X11_lookUp.2.1 + 11) + zC_X11_lookUp.2.2.2.2.1 ≤ C.2.2.2.2.1) : zCl C yX11_lookUp zC_X11_lookUp (some .int) 1 := ⟨zw_669, zw_101, ⟨by decide, by decide⟩, by decide +kernel, h1, h2⟩
noncomputable def zf_X11_lookUp (M : Zm) (l0 : Option Nat) (l1 : Int32) : Option (Zm × Int32) :=
  (if l1 < 0 then
  some (M, (3 : Int32))
  else
  (if l1 < (1000 : Int32) then
  zb1 (zo_gr M l0 12 0) (fun v4 =>
  zb1 (zo_rc M v4 0) (fun _ => zbd (zf_Jx4a65c_size_8abf5 M v4) (fun M5 v5 =>
  (if l1 < v5 then
  some (M5, (0 : Int32))
  else
  some (M5, (2 : Int32))))))
  else
  some (M, (3 : Int32))))
set_option maxRecDepth 100000 in
theorem zt_X11_lookUp {X : Zx} {M : Zm} {l0 : Option Nat} {l1 : Int32} {z : Zm × Int32} (h : zf_X11_lookUp M l0 l1 = some z) (hR : zRi X zC_X11_lookUp z.1 z.2) : zV X zC_X11_lookUp M 0 [(0, .inr (.inr l0)), (1, .inl l1)] [] := by
  unfold zf_X11_lookUp at h
  refine zV_b (pc' := 1) (lv' := [(0, .inr (.inr l0)), (1, .inl l1)]) (st' := [.inl l1]) [(.iload_n 1, 1)] (by decide +kernel) rfl ?_
  refine zV_if_lt (off := 10) (tgt := 11) (by decide +kernel) (by decide) h (fun c1 h => ?_) (fun c1 h => ?_)
  · refine zV_b (pc' := 12) (lv' := [(0, .inr (.inr l0)), (1, .inl l1)]) (st' := [.inl (3 : Int32)]) [(.iconst 3, 1)] (by decide +kernel) rfl ?_
    exact zend_i h hR (by decide +kernel)
  · refine zV_b (pc' := 8) (lv' := [(0, .inr (.inr l0)), (1, .inl l1)]) (st' := [.inl (1000 : Int32), .inl l1]) [(.iload_n 1, 1), (.sipush 1000, 3)] (by decide +kernel) rfl ?_
    refine zV_icmp_lt (off := 5) (tgt := 13) (by decide +kernel) (by decide) h (fun c3 h => ?_) (fun c3 h => ?_)
    · refine zV_b (pc' := 15) (lv' := [(0, .inr (.inr l0)), (1, .inl l1)]) (st' := [.inr (.inr l0), .inl l1]) [(.iload_n 1, 1), (.aload_n 0, 1)] (by decide +kernel) rfl ?_
      refine zV_gr (by decide +kernel) zfl_RX11_12 (by decide) rfl h (fun v4 _ h => ?_)
      refine zV_cvi (As := []) (st := [.inl l1]) (c := 0) (by decide +kernel) (zcl_Jx4a65c_size_8abf5 (by decide) (by decide)) ⟨zw_473, zw_474, zw_475⟩ ⟨⟨_, _, rfl⟩, by decide⟩ rfl rfl (Nat.le_of_ble_eq_true rfl) h (fun _ _ e => zc_Jx4a65c_size_8abf5 e) (fun M5 v5 _ h => ?_)
      refine zV_icmp_lt (off := 7) (tgt := 28) (by decide +kernel) (by decide) h (fun c6 h => ?_) (fun c6 h => ?_)
      · refine zV_b (pc' := 29) (lv' := [(0, .inr (.inr l0)), (1, .inl l1)]) (st' := [.inl (0 : Int32)]) [(.iconst 0, 1)] (by decide +kernel) rfl ?_
        exact zend_i h hR (by decide +kernel)
      · refine zV_b (pc' := 25) (lv' := [(0, .inr (.inr l0)), (1, .inl l1)]) (st' := [.inl (2 : Int32)]) [(.iconst 2, 1)] (by decide +kernel) rfl ?_
        refine zV_goto (off := 4) (tgt := 29) (by decide +kernel) (by decide) ?_
        exact zend_i h hR (by decide +kernel)
    · refine zV_b (pc' := 12) (lv' := [(0, .inr (.inr l0)), (1, .inl l1)]) (st' := [.inl (3 : Int32)]) [(.iconst 3, 1)] (by decide +kernel) rfl ?_
      exact zend_i h hR (by decide +kernel)
theorem zc_X11_lookUp {M M' : Zm} {l0 : Option Nat} {l1 : Int32} {x : Int32} (h : zf_X11_lookUp M l0 l1 = some (M', x)) (l : Launch) (D : va_G) (cy : Nat → ClassId) : zMet l yX11_lookUp zC_X11_lookUp (some .int) D cy [.inr (.inr l0), .inl l1] M M' (some (.inl x)) :=
  zM_i (by decide) rfl (fun h => by cases h) (Nat.le_of_ble_eq_true rfl) (fun X hR => zt_X11_lookUp h hR)
-- BlendCellar.lookUpVessel(I)I
def zC_X11_lookUpVessel : Zc := (cX11_lookUpVessel, 3, RX11, 3, 64, false)
theorem zcl_X11_lookUpVessel {C : Zc} (h1 : zC_X11_lookUpVessel.2.2.2.1 + 1 ≤ C.2.2.2.1) (h2 : 8 + (zC_X11_lookUpVessel.2.1 + 11) + zC_X11_lookUpVessel.2.2.2.2.1 ≤ C.2.2.2.2.1) : zCl C yX11_lookUpVessel zC_X11_lookUpVessel (some .int) 1 := ⟨zw_687, zw_101, ⟨by decide, by decide⟩, by decide +kernel, h1, h2⟩
noncomputable def zf_X11_lookUpVessel (M : Zm) (l0 : Option Nat) (l1 : Int32) : Option (Zm × Int32) :=
  zb1 (zo_rc M l0 12) (fun _ => zbd (zf_X11_lookUp M l0 l1) (fun M1 v1 =>
  (if v1 = 0 then
  zb1 (zo_gr M1 l0 12 0) (fun v3 =>
  zb1 (zo_rc M1 v3 0) (fun _ => zbd (zf_Jx4a65c_get_915e3 M1 v3 l1) (fun M4 v4 =>
  zb1 (zo_cc M4 v4 1) (fun _ =>
  zb1 (zo_gi M4 v4 1 1) (fun v6 =>
  (if v6 = (5 : Int32) then
  some (M4, (4 : Int32))
  else
  some (M4, v1)))))))
  else
  some (M1, v1))))
set_option maxRecDepth 100000 in
theorem zt_X11_lookUpVessel {X : Zx} {M : Zm} {l0 : Option Nat} {l1 : Int32} {z : Zm × Int32} (h : zf_X11_lookUpVessel M l0 l1 = some z) (hR : zRi X zC_X11_lookUpVessel z.1 z.2) : zV X zC_X11_lookUpVessel M 0 [(0, .inr (.inr l0)), (1, .inl l1)] [] := by
  unfold zf_X11_lookUpVessel at h
  refine zV_b (pc' := 2) (lv' := [(0, .inr (.inr l0)), (1, .inl l1)]) (st' := [.inl l1, .inr (.inr l0)]) [(.aload_n 0, 1), (.iload_n 1, 1)] (by decide +kernel) rfl ?_
  refine zV_cvi (As := [.inl l1]) (st := []) (c := 12) (by decide +kernel) (zcl_X11_lookUp (by decide) (by decide)) ⟨zw_666, zw_668, zw_10⟩ ⟨⟨_, _, rfl⟩, by decide⟩ rfl rfl (Nat.le_of_ble_eq_true rfl) h (fun _ _ e => zc_X11_lookUp e) (fun M1 v1 _ h => ?_)
  refine zV_b (pc' := 7) (lv' := [(2, .inl v1), (0, .inr (.inr l0)), (1, .inl l1)]) (st' := [.inl v1]) [(.istore_n 2, 1), (.iload_n 2, 1)] (by decide +kernel) rfl ?_
  refine zV_if_ne (off := 25) (tgt := 32) (by decide +kernel) (by decide) h (fun c2 h => ?_) (fun c2 h => ?_)
  · refine zV_b (pc' := 11) (lv' := [(2, .inl v1), (0, .inr (.inr l0)), (1, .inl l1)]) (st' := [.inr (.inr l0)]) [(.aload_n 0, 1)] (by decide +kernel) rfl ?_
    refine zV_gr (by decide +kernel) zfl_RX11_12 (by decide) rfl h (fun v3 _ h => ?_)
    refine zV_b (pc' := 15) (lv' := [(2, .inl v1), (0, .inr (.inr l0)), (1, .inl l1)]) (st' := [.inl l1, .inr (.inr v3)]) [(.iload_n 1, 1)] (by decide +kernel) rfl ?_
    refine zV_cvr (As := [.inl l1]) (st := []) (c := 0) (by decide +kernel) (zcl_Jx4a65c_get_915e3 (by decide) (by decide)) ⟨zw_670, zw_671, zw_672⟩ ⟨⟨_, _, rfl⟩, by decide⟩ rfl rfl (Nat.le_of_ble_eq_true rfl) h (fun _ _ e => zc_Jx4a65c_get_915e3 e) (fun M4 v4 _ h => ?_)
    refine zV_cc (by decide +kernel) zck_RX11_156 h (fun _ _ h => ?_)
    refine zV_gi (by decide +kernel) zfl_RX11_227 (by decide) rfl (Or.inl rfl) h (fun v6 _ h => ?_)
    refine zV_b (pc' := 25) (lv' := [(2, .inl v1), (0, .inr (.inr l0)), (1, .inl l1)]) (st' := [.inl (5 : Int32), .inl v6]) [(.iconst 5, 1)] (by decide +kernel) rfl ?_
    refine zV_icmp_ne (off := 7) (tgt := 32) (by decide +kernel) (by decide) h (fun c7 h => ?_) (fun c7 h => ?_)
    · refine zV_b (pc' := 29) (lv' := [(2, .inl v1), (0, .inr (.inr l0)), (1, .inl l1)]) (st' := [.inl (4 : Int32)]) [(.iconst 4, 1)] (by decide +kernel) rfl ?_
      refine zV_goto (off := 4) (tgt := 33) (by decide +kernel) (by decide) ?_
      exact zend_i h hR (by decide +kernel)
    · refine zV_b (pc' := 33) (lv' := [(2, .inl v1), (0, .inr (.inr l0)), (1, .inl l1)]) (st' := [.inl v1]) [(.iload_n 2, 1)] (by decide +kernel) rfl ?_
      exact zend_i h hR (by decide +kernel)
  · refine zV_b (pc' := 33) (lv' := [(2, .inl v1), (0, .inr (.inr l0)), (1, .inl l1)]) (st' := [.inl v1]) [(.iload_n 2, 1)] (by decide +kernel) rfl ?_
    exact zend_i h hR (by decide +kernel)
theorem zc_X11_lookUpVessel {M M' : Zm} {l0 : Option Nat} {l1 : Int32} {x : Int32} (h : zf_X11_lookUpVessel M l0 l1 = some (M', x)) (l : Launch) (D : va_G) (cy : Nat → ClassId) : zMet l yX11_lookUpVessel zC_X11_lookUpVessel (some .int) D cy [.inr (.inr l0), .inl l1] M M' (some (.inl x)) :=
  zM_i (by decide) rfl (fun h => by cases h) (Nat.le_of_ble_eq_true rfl) (fun X hR => zt_X11_lookUpVessel h hR)
-- BlendCellar.lookUpPart(II)I
def zC_X11_lookUpPart : Zc := (cX11_lookUpPart, 5, RX11, 4, 86, false)
theorem zcl_X11_lookUpPart {C : Zc} (h1 : zC_X11_lookUpPart.2.2.2.1 + 1 ≤ C.2.2.2.1) (h2 : 8 + (zC_X11_lookUpPart.2.1 + 11) + zC_X11_lookUpPart.2.2.2.2.1 ≤ C.2.2.2.2.1) : zCl C yX11_lookUpPart zC_X11_lookUpPart (some .int) 2 := ⟨zw_1055, zw_101, ⟨by decide, by decide⟩, by decide +kernel, h1, h2⟩
noncomputable def zf_X11_lookUpPart_J48 (M : Zm)  : Option (Zm × Int32) :=
  some (M, (3 : Int32))
noncomputable def zf_X11_lookUpPart (M : Zm) (l0 : Option Nat) (l1 : Int32) (l2 : Int32) : Option (Zm × Int32) :=
  zb1 (zo_rc M l0 12) (fun _ => zbd (zf_X11_lookUpVessel M l0 l1) (fun M1 v1 =>
  (if v1 = 0 then
  zb1 (zo_gr M1 l0 12 0) (fun v3 =>
  zb1 (zo_rc M1 v3 0) (fun _ => zbd (zf_Jx4a65c_get_915e3 M1 v3 l1) (fun M4 v4 =>
  zb1 (zo_cc M4 v4 1) (fun _ =>
  zb1 (zo_gr M4 v4 1 5) (fun v6 =>
  zb1 (zo_gi M4 v6 11 2) (fun v7 =>
  (if v7 = 0 then
  some (M4, (2 : Int32))
  else
  (if l2 < 0 then
  zf_X11_lookUpPart_J48 M4
  else
  (if l2 < v7 then
  some (M4, (0 : Int32))
  else
  zf_X11_lookUpPart_J48 M4)))))))))
  else
  some (M1, v1))))
set_option maxRecDepth 100000 in
theorem zt_X11_lookUpPart_J48 {X : Zx} {M : Zm}  {z : Zm × Int32} (h : zf_X11_lookUpPart_J48 M  = some z) (hR : zRi X zC_X11_lookUpPart z.1 z.2) : zV X zC_X11_lookUpPart M 48 [] [] := by
  unfold zf_X11_lookUpPart_J48 at h
  refine zV_b (pc' := 49) (lv' := []) (st' := [.inl (3 : Int32)]) [(.iconst 3, 1)] (by decide +kernel) rfl ?_
  refine zV_goto (off := 4) (tgt := 53) (by decide +kernel) (by decide) ?_
  exact zend_i h hR (by decide +kernel)
set_option maxRecDepth 100000 in
theorem zt_X11_lookUpPart {X : Zx} {M : Zm} {l0 : Option Nat} {l1 : Int32} {l2 : Int32} {z : Zm × Int32} (h : zf_X11_lookUpPart M l0 l1 l2 = some z) (hR : zRi X zC_X11_lookUpPart z.1 z.2) : zV X zC_X11_lookUpPart M 0 [(0, .inr (.inr l0)), (1, .inl l1), (2, .inl l2)] [] := by
  unfold zf_X11_lookUpPart at h
  refine zV_b (pc' := 2) (lv' := [(0, .inr (.inr l0)), (1, .inl l1), (2, .inl l2)]) (st' := [.inl l1, .inr (.inr l0)]) [(.aload_n 0, 1), (.iload_n 1, 1)] (by decide +kernel) rfl ?_
  refine zV_cvi (As := [.inl l1]) (st := []) (c := 12) (by decide +kernel) (zcl_X11_lookUpVessel (by decide) (by decide)) ⟨zw_684, zw_686, zw_11⟩ ⟨⟨_, _, rfl⟩, by decide⟩ rfl rfl (Nat.le_of_ble_eq_true rfl) h (fun _ _ e => zc_X11_lookUpVessel e) (fun M1 v1 _ h => ?_)
  refine zV_b (pc' := 7) (lv' := [(3, .inl v1), (0, .inr (.inr l0)), (1, .inl l1), (2, .inl l2)]) (st' := [.inl v1]) [(.istore_n 3, 1), (.iload_n 3, 1)] (by decide +kernel) rfl ?_
  refine zV_if_eq (off := 5) (tgt := 12) (by decide +kernel) (by decide) h (fun c2 h => ?_) (fun c2 h => ?_)
  · refine zV_b (pc' := 13) (lv' := [(3, .inl v1), (0, .inr (.inr l0)), (1, .inl l1), (2, .inl l2)]) (st' := [.inr (.inr l0)]) [(.aload_n 0, 1)] (by decide +kernel) rfl ?_
    refine zV_gr (by decide +kernel) zfl_RX11_12 (by decide) rfl h (fun v3 _ h => ?_)
    refine zV_b (pc' := 17) (lv' := [(3, .inl v1), (0, .inr (.inr l0)), (1, .inl l1), (2, .inl l2)]) (st' := [.inl l1, .inr (.inr v3)]) [(.iload_n 1, 1)] (by decide +kernel) rfl ?_
    refine zV_cvr (As := [.inl l1]) (st := []) (c := 0) (by decide +kernel) (zcl_Jx4a65c_get_915e3 (by decide) (by decide)) ⟨zw_670, zw_671, zw_672⟩ ⟨⟨_, _, rfl⟩, by decide⟩ rfl rfl (Nat.le_of_ble_eq_true rfl) h (fun _ _ e => zc_Jx4a65c_get_915e3 e) (fun M4 v4 _ h => ?_)
    refine zV_cc (by decide +kernel) zck_RX11_156 h (fun _ _ h => ?_)
    refine zV_gr (by decide +kernel) zfl_RX11_268 (by decide) rfl h (fun v6 _ h => ?_)
    refine zV_gi (by decide +kernel) zfl_RX11_280 (by decide) rfl (Or.inl rfl) h (fun v7 _ h => ?_)
    refine zV_b (pc' := 33) (lv' := [(4, .inl v7), (3, .inl v1), (0, .inr (.inr l0)), (1, .inl l1), (2, .inl l2)]) (st' := [.inl v7]) [(.istore 4, 2), (.iload 4, 2)] (by decide +kernel) rfl ?_
    refine zV_if_ne (off := 5) (tgt := 38) (by decide +kernel) (by decide) h (fun c8 h => ?_) (fun c8 h => ?_)
    · refine zV_b (pc' := 37) (lv' := [(4, .inl v7), (3, .inl v1), (0, .inr (.inr l0)), (1, .inl l1), (2, .inl l2)]) (st' := [.inl (2 : Int32)]) [(.iconst 2, 1)] (by decide +kernel) rfl ?_
      exact zend_i h hR (by decide +kernel)
    · refine zV_b (pc' := 39) (lv' := [(4, .inl v7), (3, .inl v1), (0, .inr (.inr l0)), (1, .inl l1), (2, .inl l2)]) (st' := [.inl l2]) [(.iload_n 2, 1)] (by decide +kernel) rfl ?_
      refine zV_if_lt (off := 9) (tgt := 48) (by decide +kernel) (by decide) h (fun c10 h => ?_) (fun c10 h => ?_)
      · exact zV_lv (lv' := []) [] rfl (zt_X11_lookUpPart_J48 h hR)
      · refine zV_b (pc' := 45) (lv' := [(4, .inl v7), (3, .inl v1), (0, .inr (.inr l0)), (1, .inl l1), (2, .inl l2)]) (st' := [.inl v7, .inl l2]) [(.iload_n 2, 1), (.iload 4, 2)] (by decide +kernel) rfl ?_
        refine zV_icmp_lt (off := 7) (tgt := 52) (by decide +kernel) (by decide) h (fun c13 h => ?_) (fun c13 h => ?_)
        · refine zV_b (pc' := 53) (lv' := [(4, .inl v7), (3, .inl v1), (0, .inr (.inr l0)), (1, .inl l1), (2, .inl l2)]) (st' := [.inl (0 : Int32)]) [(.iconst 0, 1)] (by decide +kernel) rfl ?_
          exact zend_i h hR (by decide +kernel)
        · exact zV_lv (lv' := []) [] rfl (zt_X11_lookUpPart_J48 h hR)
  · refine zV_b (pc' := 11) (lv' := [(3, .inl v1), (0, .inr (.inr l0)), (1, .inl l1), (2, .inl l2)]) (st' := [.inl v1]) [(.iload_n 3, 1)] (by decide +kernel) rfl ?_
    exact zend_i h hR (by decide +kernel)
theorem zc_X11_lookUpPart {M M' : Zm} {l0 : Option Nat} {l1 : Int32} {l2 : Int32} {x : Int32} (h : zf_X11_lookUpPart M l0 l1 l2 = some (M', x)) (l : Launch) (D : va_G) (cy : Nat → ClassId) : zMet l yX11_lookUpPart zC_X11_lookUpPart (some .int) D cy [.inr (.inr l0), .inl l1, .inl l2] M M' (some (.inl x)) :=
  zM_i (by decide) rfl (fun h => by cases h) (Nat.le_of_ble_eq_true rfl) (fun X hR => zt_X11_lookUpPart h hR)
-- BlendCellar.openTap()V
def zC_X11_openTap : Zc := (cX11_openTap, 1, RX11, 1, 20, false)
theorem zcl_X11_openTap {C : Zc} (h1 : zC_X11_openTap.2.2.2.1 + 1 ≤ C.2.2.2.1) (h2 : 8 + (zC_X11_openTap.2.1 + 11) + zC_X11_openTap.2.2.2.2.1 ≤ C.2.2.2.2.1) : zCl C yX11_openTap zC_X11_openTap none 0 := ⟨zw_456, zw_101, ⟨by decide, by decide⟩, by decide +kernel, h1, h2⟩
noncomputable def zf_X11_openTap (M : Zm) (l0 : Option Nat) : Option (Zm × Unit) :=
  zb1 (zo_pz M l0 12 17 (1 : Int32)) (fun M1 =>
  zb1 (zo_gi M1 l0 12 16) (fun v2 =>
  zb1 (zo_pi M1 l0 12 16 (v2 + (1 : Int32))) (fun M3 =>
  zb1 (zo_gr M3 l0 12 12) (fun v4 =>
  zb1 (zo_rc M3 v4 10) (fun _ => zbd (zf_X9_clear M3 v4) (fun M5 _ =>
  some (M5, ())))))))
set_option maxRecDepth 100000 in
theorem zt_X11_openTap {X : Zx} {M : Zm} {l0 : Option Nat} {z : Zm × Unit} (h : zf_X11_openTap M l0 = some z) (hR : zRv X zC_X11_openTap z.1) : zV X zC_X11_openTap M 0 [(0, .inr (.inr l0))] [] := by
  unfold zf_X11_openTap at h
  refine zV_b (pc' := 2) (lv' := [(0, .inr (.inr l0))]) (st' := [.inl (1 : Int32), .inr (.inr l0)]) [(.aload_n 0, 1), (.iconst 1, 1)] (by decide +kernel) rfl ?_
  refine zV_pz (by decide +kernel) zfp_RX11_104 (by decide) rfl h (fun M1 _ h => ?_)
  refine zV_b (pc' := 7) (lv' := [(0, .inr (.inr l0))]) (st' := [.inr (.inr l0), .inr (.inr l0)]) [(.aload_n 0, 1), (.dup, 1)] (by decide +kernel) rfl ?_
  refine zV_gi (by decide +kernel) zfl_RX11_101 (by decide) rfl (Or.inl rfl) h (fun v2 _ h => ?_)
  refine zV_b (pc' := 12) (lv' := [(0, .inr (.inr l0))]) (st' := [.inl (v2 + (1 : Int32)), .inr (.inr l0)]) [(.iconst 1, 1), (.iadd, 1)] (by decide +kernel) rfl ?_
  refine zV_pi (by decide +kernel) zfp_RX11_101 (by decide) rfl h (fun M3 _ h => ?_)
  refine zV_b (pc' := 16) (lv' := [(0, .inr (.inr l0))]) (st' := [.inr (.inr l0)]) [(.aload_n 0, 1)] (by decide +kernel) rfl ?_
  refine zV_gr (by decide +kernel) zfl_RX11_86 (by decide) rfl h (fun v4 _ h => ?_)
  refine zV_cvv (As := []) (st := []) (c := 10) (by decide +kernel) (zcl_X9_clear (by decide) (by decide)) ⟨zw_457, zw_458, zw_459⟩ ⟨⟨_, _, rfl⟩, by decide⟩ rfl rfl (Nat.le_of_ble_eq_true rfl) h (fun _ _ e => zc_X9_clear e) (fun M5 _ _ h => ?_)
  exact zend_v h hR (by decide +kernel)
theorem zc_X11_openTap {M M' : Zm} {l0 : Option Nat} {x : Unit} (h : zf_X11_openTap M l0 = some (M', x)) (l : Launch) (D : va_G) (cy : Nat → ClassId) : zMet l yX11_openTap zC_X11_openTap none D cy [.inr (.inr l0)] M M' none :=
  zM_v (by decide) rfl (fun h => by cases h) (Nat.le_of_ble_eq_true rfl) (fun X hR => zt_X11_openTap h hR)
-- BlendCellar.amountAt(II)J
def zC_X11_amountAt : Zc := (cX11_amountAt, 4, RX11, 5, 110, false)
theorem zcl_X11_amountAt {C : Zc} (h1 : zC_X11_amountAt.2.2.2.1 + 1 ≤ C.2.2.2.1) (h2 : 8 + (zC_X11_amountAt.2.1 + 11) + zC_X11_amountAt.2.2.2.2.1 ≤ C.2.2.2.2.1) : zCl C yX11_amountAt zC_X11_amountAt (some .long) 2 := ⟨zw_1059, zw_101, ⟨by decide, by decide⟩, by decide +kernel, h1, h2⟩
noncomputable def zf_X11_amountAt_J41 (M : Zm) (s0 : Int64) (s1 : Option Nat) : Option (Zm × Int64) :=
  zb1 (zo_rc M s1 12) (fun _ => zbd (zf_X11_closeTap M s1 s0) (fun M10 v10 =>
  some (M10, v10)))
noncomputable def zf_X11_amountAt (M : Zm) (l0 : Option Nat) (l1 : Int32) (l2 : Int32) : Option (Zm × Int64) :=
  zb1 (zo_rc M l0 12) (fun _ => zbd (zf_X11_openTap M l0) (fun M1 _ =>
  zb1 (zo_rc M1 l0 12) (fun _ => zbd (zf_X11_lookUpPart M1 l0 l1 l2) (fun M2 v2 =>
  (if v2 = 0 then
  zb1 (zo_gr M2 l0 12 0) (fun v4 =>
  zb1 (zo_rc M2 v4 0) (fun _ => zbd (zf_Jx4a65c_get_915e3 M2 v4 l1) (fun M5 v5 =>
  zb1 (zo_cc M5 v5 1) (fun _ =>
  zb1 (zo_gr M5 v5 1 5) (fun v7 =>
  zb1 (zo_gr M5 v7 11 1) (fun v8 =>
  zb1 (zo_aj M5 v8 l2) (fun v9 =>
  zf_X11_amountAt_J41 M5 v9 l0)))))))
  else
  zf_X11_amountAt_J41 M2 (((-v2)).toInt64) l0)))))
set_option maxRecDepth 100000 in
theorem zt_X11_amountAt_J41 {X : Zx} {M : Zm} {s0 : Int64} {s1 : Option Nat} {z : Zm × Int64} (h : zf_X11_amountAt_J41 M s0 s1 = some z) (hR : zRj X zC_X11_amountAt z.1 z.2) : zV X zC_X11_amountAt M 41 [] [.inr (.inl s0), .inr (.inr s1)] := by
  unfold zf_X11_amountAt_J41 at h
  refine zV_cvj (As := [.inr (.inl s0)]) (st := []) (c := 12) (by decide +kernel) (zcl_X11_closeTap (by decide) (by decide)) ⟨zw_510, zw_512, zw_3⟩ ⟨⟨_, _, rfl⟩, by decide⟩ rfl rfl (Nat.le_of_ble_eq_true rfl) h (fun _ _ e => zc_X11_closeTap e) (fun M10 v10 _ h => ?_)
  exact zend_j h hR (by decide +kernel)
set_option maxRecDepth 100000 in
theorem zt_X11_amountAt {X : Zx} {M : Zm} {l0 : Option Nat} {l1 : Int32} {l2 : Int32} {z : Zm × Int64} (h : zf_X11_amountAt M l0 l1 l2 = some z) (hR : zRj X zC_X11_amountAt z.1 z.2) : zV X zC_X11_amountAt M 0 [(0, .inr (.inr l0)), (1, .inl l1), (2, .inl l2)] [] := by
  unfold zf_X11_amountAt at h
  refine zV_b (pc' := 1) (lv' := [(0, .inr (.inr l0)), (1, .inl l1), (2, .inl l2)]) (st' := [.inr (.inr l0)]) [(.aload_n 0, 1)] (by decide +kernel) rfl ?_
  refine zV_cvv (As := []) (st := []) (c := 12) (by decide +kernel) (zcl_X11_openTap (by decide) (by decide)) ⟨zw_453, zw_455, zw_0⟩ ⟨⟨_, _, rfl⟩, by decide⟩ rfl rfl (Nat.le_of_ble_eq_true rfl) h (fun _ _ e => zc_X11_openTap e) (fun M1 _ _ h => ?_)
  refine zV_b (pc' := 7) (lv' := [(0, .inr (.inr l0)), (1, .inl l1), (2, .inl l2)]) (st' := [.inl l2, .inl l1, .inr (.inr l0)]) [(.aload_n 0, 1), (.iload_n 1, 1), (.iload_n 2, 1)] (by decide +kernel) rfl ?_
  refine zV_cvi (As := [.inl l1, .inl l2]) (st := []) (c := 12) (by decide +kernel) (zcl_X11_lookUpPart (by decide) (by decide)) ⟨zw_1052, zw_1054, zw_43⟩ ⟨⟨_, _, rfl⟩, by decide⟩ rfl rfl (Nat.le_of_ble_eq_true rfl) h (fun _ _ e => zc_X11_lookUpPart e) (fun M2 v2 _ h => ?_)
  refine zV_b (pc' := 13) (lv' := [(3, .inl v2), (0, .inr (.inr l0)), (1, .inl l1), (2, .inl l2)]) (st' := [.inl v2, .inr (.inr l0)]) [(.istore_n 3, 1), (.aload_n 0, 1), (.iload_n 3, 1)] (by decide +kernel) rfl ?_
  refine zV_if_eq (off := 9) (tgt := 22) (by decide +kernel) (by decide) h (fun c3 h => ?_) (fun c3 h => ?_)
  · refine zV_b (pc' := 23) (lv' := [(3, .inl v2), (0, .inr (.inr l0)), (1, .inl l1), (2, .inl l2)]) (st' := [.inr (.inr l0), .inr (.inr l0)]) [(.aload_n 0, 1)] (by decide +kernel) rfl ?_
    refine zV_gr (by decide +kernel) zfl_RX11_12 (by decide) rfl h (fun v4 _ h => ?_)
    refine zV_b (pc' := 27) (lv' := [(3, .inl v2), (0, .inr (.inr l0)), (1, .inl l1), (2, .inl l2)]) (st' := [.inl l1, .inr (.inr v4), .inr (.inr l0)]) [(.iload_n 1, 1)] (by decide +kernel) rfl ?_
    refine zV_cvr (As := [.inl l1]) (st := [.inr (.inr l0)]) (c := 0) (by decide +kernel) (zcl_Jx4a65c_get_915e3 (by decide) (by decide)) ⟨zw_670, zw_671, zw_672⟩ ⟨⟨_, _, rfl⟩, by decide⟩ rfl rfl (Nat.le_of_ble_eq_true rfl) h (fun _ _ e => zc_Jx4a65c_get_915e3 e) (fun M5 v5 _ h => ?_)
    refine zV_cc (by decide +kernel) zck_RX11_156 h (fun _ _ h => ?_)
    refine zV_gr (by decide +kernel) zfl_RX11_268 (by decide) rfl h (fun v7 _ h => ?_)
    refine zV_gr (by decide +kernel) zfl_RX11_425 (by decide) rfl h (fun v8 _ h => ?_)
    refine zV_b (pc' := 40) (lv' := [(3, .inl v2), (0, .inr (.inr l0)), (1, .inl l1), (2, .inl l2)]) (st' := [.inl l2, .inr (.inr v8), .inr (.inr l0)]) [(.iload_n 2, 1)] (by decide +kernel) rfl ?_
    refine zV_aj (by decide +kernel) h (fun v9 _ h => ?_)
    exact zV_lv (lv' := []) [] rfl (zt_X11_amountAt_J41 h hR)
  · refine zV_b (pc' := 19) (lv' := [(3, .inl v2), (0, .inr (.inr l0)), (1, .inl l1), (2, .inl l2)]) (st' := [.inr (.inl (((-v2)).toInt64)), .inr (.inr l0)]) [(.iload_n 3, 1), (.ineg, 1), (.i2l, 1)] (by decide +kernel) rfl ?_
    refine zV_goto (off := 22) (tgt := 41) (by decide +kernel) (by decide) ?_
    exact zV_lv (lv' := []) [] rfl (zt_X11_amountAt_J41 h hR)
theorem zc_X11_amountAt {M M' : Zm} {l0 : Option Nat} {l1 : Int32} {l2 : Int32} {x : Int64} (h : zf_X11_amountAt M l0 l1 l2 = some (M', x)) (l : Launch) (D : va_G) (cy : Nat → ClassId) : zMet l yX11_amountAt zC_X11_amountAt (some .long) D cy [.inr (.inr l0), .inl l1, .inl l2] M M' (some (.inr (.inl x))) :=
  zM_j (by decide) rfl (fun h => by cases h) (Nat.le_of_ble_eq_true rfl) (fun X hR => zt_X11_amountAt h hR)
-- BlendCellar.askForPlan(IJI)V
def zC_X11_askForPlan : Zc := (cX11_askForPlan, 9, RX11, 6, 148, false)
theorem zcl_X11_askForPlan {C : Zc} (h1 : zC_X11_askForPlan.2.2.2.1 + 1 ≤ C.2.2.2.1) (h2 : 8 + (zC_X11_askForPlan.2.1 + 11) + zC_X11_askForPlan.2.2.2.2.1 ≤ C.2.2.2.2.1) : zCl C yX11_askForPlan zC_X11_askForPlan none 3 := ⟨zw_1213, zw_101, ⟨by decide, by decide⟩, by decide +kernel, h1, h2⟩
noncomputable def zf_X11_askForPlan_L25 (p0 : Option Nat) (p1 : Int32) (p2 : Int64) (p4 : Int32) (p5 : Option Nat) (p6 : Int64) (x : Zm × Int32) : Option ((Zm × Int32) ⊕ (Zm × Int32)) := match x with
  | (M, l8) =>
  (if p4 < l8 then
  some (.inr (M, l8))
  else
  zb1 (zo_gr M p0 12 5) (fun v7 =>
  zb1 (zo_gr M p0 12 12) (fun v8 =>
  zb1 (zo_rc M p5 1) (fun _ => zbd (zf_X0_isDear M p5 ((l8.toInt64) * p2) v8) (fun M9 v9 =>
  zb1 (zo_rc M9 v7 7) (fun _ => zbd (zf_X6_setDear M9 v7 p1 l8 v9) (fun M10 _ =>
  some (.inl (M10, (l8 + 1))))))))))
def zP_X11_askForPlan_L25 (X : Zx) (p0 : Option Nat) (p1 : Int32) (p2 : Int64) (p4 : Int32) (p5 : Option Nat) (p6 : Int64) (x : Zm × Int32) : Prop := match x with
  | (M, l8) => zV X zC_X11_askForPlan M 25 [(0, .inr (.inr p0)), (1, .inl p1), (2, .inr (.inl p2)), (4, .inl p4), (5, .inr (.inr p5)), (6, .inr (.inl p6)), (8, .inl l8)] []
def zK_X11_askForPlan_L25 (X : Zx) (p0 : Option Nat) (p1 : Int32) (p2 : Int64) (p4 : Int32) (p5 : Option Nat) (p6 : Int64) (y : Zm × Int32) : Prop := match y with
  | (M, l8) => zV X zC_X11_askForPlan M 62 [(0, .inr (.inr p0)), (1, .inl p1), (2, .inr (.inl p2)), (4, .inl p4), (5, .inr (.inr p5)), (6, .inr (.inl p6))] []
noncomputable def zf_X11_askForPlan_L65 (p0 : Option Nat) (p1 : Int32) (p2 : Int64) (p4 : Int32) (p5 : Option Nat) (p6 : Int64) (x : Zm × Int32) : Option ((Zm × Int32) ⊕ (Zm × Int32)) := match x with
  | (M, l8) =>
  (if p4 < l8 then
  some (.inr (M, l8))
  else
  (if p6 < ((l8.toInt64) * p2) then
  some (.inr (M, l8))
  else
  zb1 (zo_gr M p0 12 10) (fun v15 =>
  zb1 (zo_rc M v15 3) (fun _ => zbd (zf_X2_clear M v15) (fun M16 _ =>
  zb1 (zo_gr M16 p0 12 10) (fun v17 =>
  zb1 (zo_gr M16 p0 12 13) (fun v18 =>
  zb1 (zo_rc M16 v17 3) (fun _ => zbd (zf_X2_drawFrom M16 v17 p5 ((l8.toInt64) * p2) v18) (fun M19 _ =>
  zb1 (zo_gr M19 p0 12 5) (fun v20 =>
  zb1 (zo_gr M19 p0 12 10) (fun v21 =>
  zb1 (zo_gr M19 v21 3 4) (fun v22 =>
  zb1 (zo_rc M19 v20 7) (fun _ => zbd (zf_X6_offer M19 v20 p1 l8 v22) (fun M23 _ =>
  some (.inl (M23, (l8 + 1)))))))))))))))))
def zP_X11_askForPlan_L65 (X : Zx) (p0 : Option Nat) (p1 : Int32) (p2 : Int64) (p4 : Int32) (p5 : Option Nat) (p6 : Int64) (x : Zm × Int32) : Prop := match x with
  | (M, l8) => zV X zC_X11_askForPlan M 65 [(0, .inr (.inr p0)), (1, .inl p1), (2, .inr (.inl p2)), (4, .inl p4), (5, .inr (.inr p5)), (6, .inr (.inl p6)), (8, .inl l8)] []
def zK_X11_askForPlan_L65 (X : Zx) (p0 : Option Nat) (p1 : Int32) (p2 : Int64) (p4 : Int32) (p5 : Option Nat) (p6 : Int64) (y : Zm × Int32) : Prop := match y with
  | (M, l8) => zV X zC_X11_askForPlan M 131 [] []
noncomputable def zf_X11_askForPlan (M : Zm) (l0 : Option Nat) (l1 : Int32) (l2 : Int64) (l4 : Int32) : Option (Zm × Unit) :=
  zb1 (zo_gr M l0 12 3) (fun v1 =>
  zb1 (zo_gr M v1 6 0) (fun v2 =>
  zb1 (zo_ar M 16 v2 l1) (fun v3 =>
  zb1 (zo_gr M l0 12 12) (fun v4 =>
  zb1 (zo_rc M v3 1) (fun _ => zbd (zf_X0_maySpare M v3 v4) (fun M5 v5 =>
  zb1 (zwhile (zf_X11_askForPlan_L25 l0 l1 l2 l4 v3 v5) (M5, (1 : Int32))) (fun y12 => match y12 with
  | (M25_12, l8_12) =>
  zb1 (zwhile (zf_X11_askForPlan_L65 l0 l1 l2 l4 v3 v5) (M25_12, (1 : Int32))) (fun y25 => match y25 with
  | (M65_25, l8_25) =>
  some (M65_25, ())))))))))
set_option maxRecDepth 100000 in
theorem zt_X11_askForPlan_L25 {X : Zx} {p0 : Option Nat} {p1 : Int32} {p2 : Int64} {p4 : Int32} {p5 : Option Nat} {p6 : Int64} {x : Zm × Int32} {y : Zm × Int32} (h : zwhile (zf_X11_askForPlan_L25 p0 p1 p2 p4 p5 p6) x = some y) (hy : zK_X11_askForPlan_L25 X p0 p1 p2 p4 p5 p6 y) : zP_X11_askForPlan_L25 X p0 p1 p2 p4 p5 p6 x := by
  refine zwhile_ind (P := zP_X11_askForPlan_L25 X p0 p1 p2 p4 p5 p6) (K := zK_X11_askForPlan_L25 X p0 p1 p2 p4 p5 p6) ?_ h hy
  intro x z hf k1 k2
  obtain ⟨M, l8⟩ := x
  have h : zf_X11_askForPlan_L25 p0 p1 p2 p4 p5 p6 (M, l8) = some z := hf
  unfold zf_X11_askForPlan_L25 at h
  show zV X zC_X11_askForPlan M 25 [(0, .inr (.inr p0)), (1, .inl p1), (2, .inr (.inl p2)), (4, .inl p4), (5, .inr (.inr p5)), (6, .inr (.inl p6)), (8, .inl l8)] []
  refine zV_b (pc' := 29) (lv' := [(0, .inr (.inr p0)), (1, .inl p1), (2, .inr (.inl p2)), (4, .inl p4), (5, .inr (.inr p5)), (6, .inr (.inl p6)), (8, .inl l8)]) (st' := [.inl p4, .inl l8]) [(.iload 8, 2), (.iload 4, 2)] (by decide +kernel) rfl ?_
  refine zV_icmp_gt (off := 33) (tgt := 62) (by decide +kernel) (by decide) h (fun c6 h => ?_) (fun c6 h => ?_)
  · exact zV_lv (lv' := [(0, .inr (.inr p0)), (1, .inl p1), (2, .inr (.inl p2)), (4, .inl p4), (5, .inr (.inr p5)), (6, .inr (.inl p6))]) [0, 1, 2, 3, 4, 5] rfl (k2 _ (Option.some.inj h).symm)
  · refine zV_b (pc' := 33) (lv' := [(0, .inr (.inr p0)), (1, .inl p1), (2, .inr (.inl p2)), (4, .inl p4), (5, .inr (.inr p5)), (6, .inr (.inl p6)), (8, .inl l8)]) (st' := [.inr (.inr p0)]) [(.aload_n 0, 1)] (by decide +kernel) rfl ?_
    refine zV_gr (by decide +kernel) zfl_RX11_44 (by decide) rfl h (fun v7 _ h => ?_)
    refine zV_b (pc' := 47) (lv' := [(0, .inr (.inr p0)), (1, .inl p1), (2, .inr (.inl p2)), (4, .inl p4), (5, .inr (.inr p5)), (6, .inr (.inl p6)), (8, .inl l8)]) (st' := [.inr (.inr p0), .inr (.inl ((l8.toInt64) * p2)), .inr (.inr p5), .inl l8, .inl p1, .inr (.inr v7)]) [(.iload_n 1, 1), (.iload 8, 2), (.aload 5, 2), (.iload 8, 2), (.i2l, 1), (.lload_n 2, 1), (.lmul, 1), (.aload_n 0, 1)] (by decide +kernel) rfl ?_
    refine zV_gr (by decide +kernel) zfl_RX11_86 (by decide) rfl h (fun v8 _ h => ?_)
    refine zV_cvj (As := [.inr (.inl ((l8.toInt64) * p2)), .inr (.inr v8)]) (st := [.inl l8, .inl p1, .inr (.inr v7)]) (c := 1) (by decide +kernel) (zcl_X0_isDear (by decide) (by decide)) ⟨zw_1214, zw_1215, zw_1216⟩ ⟨⟨_, _, rfl⟩, by decide⟩ rfl rfl (Nat.le_of_ble_eq_true rfl) h (fun _ _ e => zc_X0_isDear e) (fun M9 v9 _ h => ?_)
    refine zV_cvv (As := [.inl p1, .inl l8, .inr (.inl v9)]) (st := []) (c := 7) (by decide +kernel) (zcl_X6_setDear (by decide) (by decide)) ⟨zw_1219, zw_1220, zw_1221⟩ ⟨⟨_, _, rfl⟩, by decide⟩ rfl rfl (Nat.le_of_ble_eq_true rfl) h (fun _ _ e => zc_X6_setDear e) (fun M10 _ _ h => ?_)
    refine zV_b (pc' := 59) (lv' := [(8, .inl (l8 + 1)), (0, .inr (.inr p0)), (1, .inl p1), (2, .inr (.inl p2)), (4, .inl p4), (5, .inr (.inr p5)), (6, .inr (.inl p6))]) (st' := []) [(.iinc 8 1, 3)] (by decide +kernel) rfl ?_
    refine zV_goto (off := (-34)) (tgt := 25) (by decide +kernel) (by decide) ?_
    exact zV_lv (lv' := [(0, .inr (.inr p0)), (1, .inl p1), (2, .inr (.inl p2)), (4, .inl p4), (5, .inr (.inr p5)), (6, .inr (.inl p6)), (8, .inl (l8 + 1))]) [1, 2, 3, 4, 5, 6, 0] rfl (k1 _ (Option.some.inj h).symm)
set_option maxRecDepth 100000 in
theorem zt_X11_askForPlan_L65 {X : Zx} {p0 : Option Nat} {p1 : Int32} {p2 : Int64} {p4 : Int32} {p5 : Option Nat} {p6 : Int64} {x : Zm × Int32} {y : Zm × Int32} (h : zwhile (zf_X11_askForPlan_L65 p0 p1 p2 p4 p5 p6) x = some y) (hy : zK_X11_askForPlan_L65 X p0 p1 p2 p4 p5 p6 y) : zP_X11_askForPlan_L65 X p0 p1 p2 p4 p5 p6 x := by
  refine zwhile_ind (P := zP_X11_askForPlan_L65 X p0 p1 p2 p4 p5 p6) (K := zK_X11_askForPlan_L65 X p0 p1 p2 p4 p5 p6) ?_ h hy
  intro x z hf k1 k2
  obtain ⟨M, l8⟩ := x
  have h : zf_X11_askForPlan_L65 p0 p1 p2 p4 p5 p6 (M, l8) = some z := hf
  unfold zf_X11_askForPlan_L65 at h
  show zV X zC_X11_askForPlan M 65 [(0, .inr (.inr p0)), (1, .inl p1), (2, .inr (.inl p2)), (4, .inl p4), (5, .inr (.inr p5)), (6, .inr (.inl p6)), (8, .inl l8)] []
  refine zV_b (pc' := 69) (lv' := [(0, .inr (.inr p0)), (1, .inl p1), (2, .inr (.inl p2)), (4, .inl p4), (5, .inr (.inr p5)), (6, .inr (.inl p6)), (8, .inl l8)]) (st' := [.inl p4, .inl l8]) [(.iload 8, 2), (.iload 4, 2)] (by decide +kernel) rfl ?_
  refine zV_icmp_gt (off := 62) (tgt := 131) (by decide +kernel) (by decide) h (fun c13 h => ?_) (fun c13 h => ?_)
  · exact zV_lv (lv' := []) [] rfl (k2 _ (Option.some.inj h).symm)
  · refine zV_b (pc' := 79) (lv' := [(0, .inr (.inr p0)), (1, .inl p1), (2, .inr (.inl p2)), (4, .inl p4), (5, .inr (.inr p5)), (6, .inr (.inl p6)), (8, .inl l8)]) (st' := [.inr (.inl p6), .inr (.inl ((l8.toInt64) * p2))]) [(.iload 8, 2), (.i2l, 1), (.lload_n 2, 1), (.lmul, 1), (.lload 6, 2)] (by decide +kernel) rfl ?_
    refine zV_lcmp_gt (off := 51) (tgt := 131) (by decide +kernel) (by decide +kernel) (by decide) h (fun c14 h => ?_) (fun c14 h => ?_)
    · exact zV_lv (lv' := []) [] rfl (k2 _ (Option.some.inj h).symm)
    · refine zV_b (pc' := 84) (lv' := [(0, .inr (.inr p0)), (1, .inl p1), (2, .inr (.inl p2)), (4, .inl p4), (5, .inr (.inr p5)), (6, .inr (.inl p6)), (8, .inl l8)]) (st' := [.inr (.inr p0)]) [(.aload_n 0, 1)] (by decide +kernel) rfl ?_
      refine zV_gr (by decide +kernel) zfl_RX11_72 (by decide) rfl h (fun v15 _ h => ?_)
      refine zV_cvv (As := []) (st := []) (c := 3) (by decide +kernel) (zcl_X2_clear (by decide) (by decide)) ⟨zw_874, zw_875, zw_876⟩ ⟨⟨_, _, rfl⟩, by decide⟩ rfl rfl (Nat.le_of_ble_eq_true rfl) h (fun _ _ e => zc_X2_clear e) (fun M16 _ _ h => ?_)
      refine zV_b (pc' := 91) (lv' := [(0, .inr (.inr p0)), (1, .inl p1), (2, .inr (.inl p2)), (4, .inl p4), (5, .inr (.inr p5)), (6, .inr (.inl p6)), (8, .inl l8)]) (st' := [.inr (.inr p0)]) [(.aload_n 0, 1)] (by decide +kernel) rfl ?_
      refine zV_gr (by decide +kernel) zfl_RX11_72 (by decide) rfl h (fun v17 _ h => ?_)
      refine zV_b (pc' := 102) (lv' := [(0, .inr (.inr p0)), (1, .inl p1), (2, .inr (.inl p2)), (4, .inl p4), (5, .inr (.inr p5)), (6, .inr (.inl p6)), (8, .inl l8)]) (st' := [.inr (.inr p0), .inr (.inl ((l8.toInt64) * p2)), .inr (.inr p5), .inr (.inr v17)]) [(.aload 5, 2), (.iload 8, 2), (.i2l, 1), (.lload_n 2, 1), (.lmul, 1), (.aload_n 0, 1)] (by decide +kernel) rfl ?_
      refine zV_gr (by decide +kernel) zfl_RX11_90 (by decide) rfl h (fun v18 _ h => ?_)
      refine zV_cvv (As := [.inr (.inr p5), .inr (.inl ((l8.toInt64) * p2)), .inr (.inr v18)]) (st := []) (c := 3) (by decide +kernel) (zcl_X2_drawFrom (by decide) (by decide)) ⟨zw_882, zw_883, zw_884⟩ ⟨⟨_, _, rfl⟩, by decide⟩ rfl rfl (Nat.le_of_ble_eq_true rfl) h (fun _ _ e => zc_X2_drawFrom e) (fun M19 _ _ h => ?_)
      refine zV_b (pc' := 109) (lv' := [(0, .inr (.inr p0)), (1, .inl p1), (2, .inr (.inl p2)), (4, .inl p4), (5, .inr (.inr p5)), (6, .inr (.inl p6)), (8, .inl l8)]) (st' := [.inr (.inr p0)]) [(.aload_n 0, 1)] (by decide +kernel) rfl ?_
      refine zV_gr (by decide +kernel) zfl_RX11_44 (by decide) rfl h (fun v20 _ h => ?_)
      refine zV_b (pc' := 116) (lv' := [(0, .inr (.inr p0)), (1, .inl p1), (2, .inr (.inl p2)), (4, .inl p4), (5, .inr (.inr p5)), (6, .inr (.inl p6)), (8, .inl l8)]) (st' := [.inr (.inr p0), .inl l8, .inl p1, .inr (.inr v20)]) [(.iload_n 1, 1), (.iload 8, 2), (.aload_n 0, 1)] (by decide +kernel) rfl ?_
      refine zV_gr (by decide +kernel) zfl_RX11_72 (by decide) rfl h (fun v21 _ h => ?_)
      refine zV_gr (by decide +kernel) zfl_RX11_512 (by decide) rfl h (fun v22 _ h => ?_)
      refine zV_cvv (As := [.inl p1, .inl l8, .inr (.inr v22)]) (st := []) (c := 7) (by decide +kernel) (zcl_X6_offer (by decide) (by decide)) ⟨zw_1226, zw_1227, zw_1228⟩ ⟨⟨_, _, rfl⟩, by decide⟩ rfl rfl (Nat.le_of_ble_eq_true rfl) h (fun _ _ e => zc_X6_offer e) (fun M23 _ _ h => ?_)
      refine zV_b (pc' := 128) (lv' := [(8, .inl (l8 + 1)), (0, .inr (.inr p0)), (1, .inl p1), (2, .inr (.inl p2)), (4, .inl p4), (5, .inr (.inr p5)), (6, .inr (.inl p6))]) (st' := []) [(.iinc 8 1, 3)] (by decide +kernel) rfl ?_
      refine zV_goto (off := (-63)) (tgt := 65) (by decide +kernel) (by decide) ?_
      exact zV_lv (lv' := [(0, .inr (.inr p0)), (1, .inl p1), (2, .inr (.inl p2)), (4, .inl p4), (5, .inr (.inr p5)), (6, .inr (.inl p6)), (8, .inl (l8 + 1))]) [1, 2, 3, 4, 5, 6, 0] rfl (k1 _ (Option.some.inj h).symm)
set_option maxRecDepth 100000 in
theorem zt_X11_askForPlan {X : Zx} {M : Zm} {l0 : Option Nat} {l1 : Int32} {l2 : Int64} {l4 : Int32} {z : Zm × Unit} (h : zf_X11_askForPlan M l0 l1 l2 l4 = some z) (hR : zRv X zC_X11_askForPlan z.1) : zV X zC_X11_askForPlan M 0 [(0, .inr (.inr l0)), (1, .inl l1), (2, .inr (.inl l2)), (4, .inl l4)] [] := by
  unfold zf_X11_askForPlan at h
  refine zV_b (pc' := 1) (lv' := [(0, .inr (.inr l0)), (1, .inl l1), (2, .inr (.inl l2)), (4, .inl l4)]) (st' := [.inr (.inr l0)]) [(.aload_n 0, 1)] (by decide +kernel) rfl ?_
  refine zV_gr (by decide +kernel) zfl_RX11_28 (by decide) rfl h (fun v1 _ h => ?_)
  refine zV_gr (by decide +kernel) zfl_RX11_370 (by decide) rfl h (fun v2 _ h => ?_)
  refine zV_b (pc' := 8) (lv' := [(0, .inr (.inr l0)), (1, .inl l1), (2, .inr (.inl l2)), (4, .inl l4)]) (st' := [.inl l1, .inr (.inr v2)]) [(.iload_n 1, 1)] (by decide +kernel) rfl ?_
  refine zV_ar (by decide +kernel) (by decide) (by decide) h (fun v3 _ h => ?_)
  refine zV_b (pc' := 14) (lv' := [(5, .inr (.inr v3)), (0, .inr (.inr l0)), (1, .inl l1), (2, .inr (.inl l2)), (4, .inl l4)]) (st' := [.inr (.inr l0), .inr (.inr v3)]) [(.astore 5, 2), (.aload 5, 2), (.aload_n 0, 1)] (by decide +kernel) rfl ?_
  refine zV_gr (by decide +kernel) zfl_RX11_86 (by decide) rfl h (fun v4 _ h => ?_)
  refine zV_cvj (As := [.inr (.inr v4)]) (st := []) (c := 1) (by decide +kernel) (zcl_X0_maySpare (by decide) (by decide)) ⟨zw_861, zw_862, zw_863⟩ ⟨⟨_, _, rfl⟩, by decide⟩ rfl rfl (Nat.le_of_ble_eq_true rfl) h (fun _ _ e => zc_X0_maySpare e) (fun M5 v5 _ h => ?_)
  refine zV_b (pc' := 25) (lv' := [(8, .inl (1 : Int32)), (6, .inr (.inl v5)), (5, .inr (.inr v3)), (0, .inr (.inr l0)), (1, .inl l1), (2, .inr (.inl l2)), (4, .inl l4)]) (st' := []) [(.lstore 6, 2), (.iconst 1, 1), (.istore 8, 2)] (by decide +kernel) rfl ?_
  obtain ⟨y12, e12, h⟩ := zb1_inv h
  refine zV_lv (lv' := [(0, .inr (.inr l0)), (1, .inl l1), (2, .inr (.inl l2)), (4, .inl l4), (5, .inr (.inr v3)), (6, .inr (.inl v5)), (8, .inl (1 : Int32))]) [3, 4, 5, 6, 2, 1, 0] rfl (zt_X11_askForPlan_L25 e12 ?_)
  obtain ⟨M25_12, l8_12⟩ := y12
  show zV X zC_X11_askForPlan M25_12 62 [(0, .inr (.inr l0)), (1, .inl l1), (2, .inr (.inl l2)), (4, .inl l4), (5, .inr (.inr v3)), (6, .inr (.inl v5))] []
  refine zV_b (pc' := 65) (lv' := [(8, .inl (1 : Int32)), (0, .inr (.inr l0)), (1, .inl l1), (2, .inr (.inl l2)), (4, .inl l4), (5, .inr (.inr v3)), (6, .inr (.inl v5))]) (st' := []) [(.iconst 1, 1), (.istore 8, 2)] (by decide +kernel) rfl ?_
  obtain ⟨y25, e25, h⟩ := zb1_inv h
  refine zV_lv (lv' := [(0, .inr (.inr l0)), (1, .inl l1), (2, .inr (.inl l2)), (4, .inl l4), (5, .inr (.inr v3)), (6, .inr (.inl v5)), (8, .inl (1 : Int32))]) [1, 2, 3, 4, 5, 6, 0] rfl (zt_X11_askForPlan_L65 e25 ?_)
  obtain ⟨M65_25, l8_25⟩ := y25
  show zV X zC_X11_askForPlan M65_25 131 [] []
  exact zend_v h hR (by decide +kernel)
theorem zc_X11_askForPlan {M M' : Zm} {l0 : Option Nat} {l1 : Int32} {l2 : Int64} {l4 : Int32} {x : Unit} (h : zf_X11_askForPlan M l0 l1 l2 l4 = some (M', x)) (l : Launch) (D : va_G) (cy : Nat → ClassId) : zMet l yX11_askForPlan zC_X11_askForPlan none D cy [.inr (.inr l0), .inl l1, .inr (.inl l2), .inl l4] M M' none :=
  zM_v (by decide) rfl (fun h => by cases h) (Nat.le_of_ble_eq_true rfl) (fun X hR => zt_X11_askForPlan h hR)
-- BlendCellar.readPlace(II)I
def zC_X11_readPlace : Zc := (cX11_readPlace, 3, RX11, 0, 0, false)
theorem zcl_X11_readPlace {C : Zc} (h1 : zC_X11_readPlace.2.2.2.1 + 1 ≤ C.2.2.2.1) (h2 : 8 + (zC_X11_readPlace.2.1 + 11) + zC_X11_readPlace.2.2.2.2.1 ≤ C.2.2.2.2.1) : zCl C yX11_readPlace zC_X11_readPlace (some .int) 2 := ⟨zw_733, zw_101, ⟨by decide, by decide⟩, by decide +kernel, h1, h2⟩
noncomputable def zf_X11_readPlace_J42 (M : Zm)  : Option (Zm × Int32) :=
  some (M, (3 : Int32))
noncomputable def zf_X11_readPlace (M : Zm) (l0 : Option Nat) (l1 : Int32) (l2 : Int32) : Option (Zm × Int32) :=
  (if l1 < 0 then
  some (M, (3 : Int32))
  else
  (if l1 < (20 : Int32) then
  zb1 (zo_gr M l0 12 1) (fun v4 =>
  zb1 (zo_ar M 17 v4 l1) (fun v5 =>
  (if v5 = none then
  some (M, (6 : Int32))
  else
  (if l2 < 0 then
  zf_X11_readPlace_J42 M
  else
  zb1 (zo_gr M l0 12 1) (fun v11 =>
  zb1 (zo_ar M 17 v11 l1) (fun v12 =>
  zb1 (zo_gr M v12 8 1) (fun v13 =>
  zb1 (zo_al M v13) (fun v14 =>
  (if l2 < v14 then
  some (M, (0 : Int32))
  else
  zf_X11_readPlace_J42 M)))))))))
  else
  some (M, (3 : Int32))))
set_option maxRecDepth 100000 in
theorem zt_X11_readPlace_J42 {X : Zx} {M : Zm}  {z : Zm × Int32} (h : zf_X11_readPlace_J42 M  = some z) (hR : zRi X zC_X11_readPlace z.1 z.2) : zV X zC_X11_readPlace M 42 [] [] := by
  unfold zf_X11_readPlace_J42 at h
  refine zV_b (pc' := 43) (lv' := []) (st' := [.inl (3 : Int32)]) [(.iconst 3, 1)] (by decide +kernel) rfl ?_
  refine zV_goto (off := 4) (tgt := 47) (by decide +kernel) (by decide) ?_
  exact zend_i h hR (by decide +kernel)
set_option maxRecDepth 100000 in
theorem zt_X11_readPlace {X : Zx} {M : Zm} {l0 : Option Nat} {l1 : Int32} {l2 : Int32} {z : Zm × Int32} (h : zf_X11_readPlace M l0 l1 l2 = some z) (hR : zRi X zC_X11_readPlace z.1 z.2) : zV X zC_X11_readPlace M 0 [(0, .inr (.inr l0)), (1, .inl l1), (2, .inl l2)] [] := by
  unfold zf_X11_readPlace at h
  refine zV_b (pc' := 1) (lv' := [(0, .inr (.inr l0)), (1, .inl l1), (2, .inl l2)]) (st' := [.inl l1]) [(.iload_n 1, 1)] (by decide +kernel) rfl ?_
  refine zV_if_lt (off := 9) (tgt := 10) (by decide +kernel) (by decide) h (fun c1 h => ?_) (fun c1 h => ?_)
  · refine zV_b (pc' := 11) (lv' := [(0, .inr (.inr l0)), (1, .inl l1), (2, .inl l2)]) (st' := [.inl (3 : Int32)]) [(.iconst 3, 1)] (by decide +kernel) rfl ?_
    exact zend_i h hR (by decide +kernel)
  · refine zV_b (pc' := 7) (lv' := [(0, .inr (.inr l0)), (1, .inl l1), (2, .inl l2)]) (st' := [.inl (20 : Int32), .inl l1]) [(.iload_n 1, 1), (.bipush 20, 2)] (by decide +kernel) rfl ?_
    refine zV_icmp_lt (off := 5) (tgt := 12) (by decide +kernel) (by decide) h (fun c3 h => ?_) (fun c3 h => ?_)
    · refine zV_b (pc' := 13) (lv' := [(0, .inr (.inr l0)), (1, .inl l1), (2, .inl l2)]) (st' := [.inr (.inr l0)]) [(.aload_n 0, 1)] (by decide +kernel) rfl ?_
      refine zV_gr (by decide +kernel) zfl_RX11_18 (by decide) rfl h (fun v4 _ h => ?_)
      refine zV_b (pc' := 17) (lv' := [(0, .inr (.inr l0)), (1, .inl l1), (2, .inl l2)]) (st' := [.inl l1, .inr (.inr v4)]) [(.iload_n 1, 1)] (by decide +kernel) rfl ?_
      refine zV_ar (by decide +kernel) (by decide) (by decide) h (fun v5 _ h => ?_)
      refine zV_ifnonnull (off := 6) (tgt := 24) (by decide +kernel) (by decide) h (fun c6 h => ?_) (fun c6 h => ?_)
      · refine zV_b (pc' := 23) (lv' := [(0, .inr (.inr l0)), (1, .inl l1), (2, .inl l2)]) (st' := [.inl (6 : Int32)]) [(.bipush 6, 2)] (by decide +kernel) rfl ?_
        exact zend_i h hR (by decide +kernel)
      · refine zV_b (pc' := 25) (lv' := [(0, .inr (.inr l0)), (1, .inl l1), (2, .inl l2)]) (st' := [.inl l2]) [(.iload_n 2, 1)] (by decide +kernel) rfl ?_
        refine zV_if_lt (off := 17) (tgt := 42) (by decide +kernel) (by decide) h (fun c8 h => ?_) (fun c8 h => ?_)
        · exact zV_lv (lv' := []) [] rfl (zt_X11_readPlace_J42 h hR)
        · refine zV_b (pc' := 30) (lv' := [(0, .inr (.inr l0)), (1, .inl l1), (2, .inl l2)]) (st' := [.inr (.inr l0), .inl l2]) [(.iload_n 2, 1), (.aload_n 0, 1)] (by decide +kernel) rfl ?_
          refine zV_gr (by decide +kernel) zfl_RX11_18 (by decide) rfl h (fun v11 _ h => ?_)
          refine zV_b (pc' := 34) (lv' := [(0, .inr (.inr l0)), (1, .inl l1), (2, .inl l2)]) (st' := [.inl l1, .inr (.inr v11), .inl l2]) [(.iload_n 1, 1)] (by decide +kernel) rfl ?_
          refine zV_ar (by decide +kernel) (by decide) (by decide) h (fun v12 _ h => ?_)
          refine zV_gr (by decide +kernel) zfl_RX11_223 (by decide) rfl h (fun v13 _ h => ?_)
          refine zV_al (by decide +kernel) h (fun v14 _ h => ?_)
          refine zV_icmp_lt (off := 7) (tgt := 46) (by decide +kernel) (by decide) h (fun c15 h => ?_) (fun c15 h => ?_)
          · refine zV_b (pc' := 47) (lv' := [(0, .inr (.inr l0)), (1, .inl l1), (2, .inl l2)]) (st' := [.inl (0 : Int32)]) [(.iconst 0, 1)] (by decide +kernel) rfl ?_
            exact zend_i h hR (by decide +kernel)
          · exact zV_lv (lv' := []) [] rfl (zt_X11_readPlace_J42 h hR)
    · refine zV_b (pc' := 11) (lv' := [(0, .inr (.inr l0)), (1, .inl l1), (2, .inl l2)]) (st' := [.inl (3 : Int32)]) [(.iconst 3, 1)] (by decide +kernel) rfl ?_
      exact zend_i h hR (by decide +kernel)
theorem zc_X11_readPlace {M M' : Zm} {l0 : Option Nat} {l1 : Int32} {l2 : Int32} {x : Int32} (h : zf_X11_readPlace M l0 l1 l2 = some (M', x)) (l : Launch) (D : va_G) (cy : Nat → ClassId) : zMet l yX11_readPlace zC_X11_readPlace (some .int) D cy [.inr (.inr l0), .inl l1, .inl l2] M M' (some (.inl x)) :=
  zM_i (by decide) rfl (fun h => by cases h) (Nat.le_of_ble_eq_true rfl) (fun X hR => zt_X11_readPlace h hR)
-- BlendCellar.at(II)I
def zC_X11_at : Zc := (cX11_at, 3, RX11, 1, 22, false)
theorem zcl_X11_at {C : Zc} (h1 : zC_X11_at.2.2.2.1 + 1 ≤ C.2.2.2.1) (h2 : 8 + (zC_X11_at.2.1 + 11) + zC_X11_at.2.2.2.2.1 ≤ C.2.2.2.2.1) : zCl C yX11_at zC_X11_at (some .int) 2 := ⟨zw_1297, zw_101, ⟨by decide, by decide⟩, by decide +kernel, h1, h2⟩
noncomputable def zf_X11_at (M : Zm) (l0 : Option Nat) (l1 : Int32) (l2 : Int32) : Option (Zm × Int32) :=
  zb1 (zo_rc M l0 12) (fun _ => zbd (zf_X11_readPlace M l0 l1 l2) (fun M1 v1 =>
  (if v1 = 0 then
  zb1 (zo_gr M1 l0 12 1) (fun v3 =>
  zb1 (zo_ar M1 17 v3 l1) (fun v4 =>
  zb1 (zo_gr M1 v4 8 1) (fun v5 =>
  zb1 (zo_ai M1 v5 l2) (fun v6 =>
  some (M1, v6)))))
  else
  some (M1, (-1 : Int32)))))
set_option maxRecDepth 100000 in
theorem zt_X11_at {X : Zx} {M : Zm} {l0 : Option Nat} {l1 : Int32} {l2 : Int32} {z : Zm × Int32} (h : zf_X11_at M l0 l1 l2 = some z) (hR : zRi X zC_X11_at z.1 z.2) : zV X zC_X11_at M 0 [(0, .inr (.inr l0)), (1, .inl l1), (2, .inl l2)] [] := by
  unfold zf_X11_at at h
  refine zV_b (pc' := 3) (lv' := [(0, .inr (.inr l0)), (1, .inl l1), (2, .inl l2)]) (st' := [.inl l2, .inl l1, .inr (.inr l0)]) [(.aload_n 0, 1), (.iload_n 1, 1), (.iload_n 2, 1)] (by decide +kernel) rfl ?_
  refine zV_cvi (As := [.inl l1, .inl l2]) (st := []) (c := 12) (by decide +kernel) (zcl_X11_readPlace (by decide) (by decide)) ⟨zw_730, zw_732, zw_14⟩ ⟨⟨_, _, rfl⟩, by decide⟩ rfl rfl (Nat.le_of_ble_eq_true rfl) h (fun _ _ e => zc_X11_readPlace e) (fun M1 v1 _ h => ?_)
  refine zV_if_eq (off := 7) (tgt := 13) (by decide +kernel) (by decide) h (fun c2 h => ?_) (fun c2 h => ?_)
  · refine zV_b (pc' := 14) (lv' := [(0, .inr (.inr l0)), (1, .inl l1), (2, .inl l2)]) (st' := [.inr (.inr l0)]) [(.aload_n 0, 1)] (by decide +kernel) rfl ?_
    refine zV_gr (by decide +kernel) zfl_RX11_18 (by decide) rfl h (fun v3 _ h => ?_)
    refine zV_b (pc' := 18) (lv' := [(0, .inr (.inr l0)), (1, .inl l1), (2, .inl l2)]) (st' := [.inl l1, .inr (.inr v3)]) [(.iload_n 1, 1)] (by decide +kernel) rfl ?_
    refine zV_ar (by decide +kernel) (by decide) (by decide) h (fun v4 _ h => ?_)
    refine zV_gr (by decide +kernel) zfl_RX11_223 (by decide) rfl h (fun v5 _ h => ?_)
    refine zV_b (pc' := 23) (lv' := [(0, .inr (.inr l0)), (1, .inl l1), (2, .inl l2)]) (st' := [.inl l2, .inr (.inr v5)]) [(.iload_n 2, 1)] (by decide +kernel) rfl ?_
    refine zV_ai (by decide +kernel) h (fun v6 _ h => ?_)
    exact zend_i h hR (by decide +kernel)
  · refine zV_b (pc' := 10) (lv' := [(0, .inr (.inr l0)), (1, .inl l1), (2, .inl l2)]) (st' := [.inl (-1 : Int32)]) [(.iconst (-1), 1)] (by decide +kernel) rfl ?_
    refine zV_goto (off := 14) (tgt := 24) (by decide +kernel) (by decide) ?_
    exact zend_i h hR (by decide +kernel)
theorem zc_X11_at {M M' : Zm} {l0 : Option Nat} {l1 : Int32} {l2 : Int32} {x : Int32} (h : zf_X11_at M l0 l1 l2 = some (M', x)) (l : Launch) (D : va_G) (cy : Nat → ClassId) : zMet l yX11_at zC_X11_at (some .int) D cy [.inr (.inr l0), .inl l1, .inl l2] M M' (some (.inl x)) :=
  zM_i (by decide) rfl (fun h => by cases h) (Nat.le_of_ble_eq_true rfl) (fun X hR => zt_X11_at h hR)
-- BlendCellar.isCents(I)Z
def zC_X11_isCents : Zc := (cX11_isCents, 1, RX11, 0, 0, false)
theorem zcl_X11_isCents {C : Zc} (h1 : zC_X11_isCents.2.2.2.1 + 1 ≤ C.2.2.2.1) (h2 : 8 + (zC_X11_isCents.2.1 + 11) + zC_X11_isCents.2.2.2.2.1 ≤ C.2.2.2.2.1) : zCl C yX11_isCents zC_X11_isCents (some .boolean) 1 := ⟨zw_524, zw_101, ⟨by decide, by decide⟩, by decide +kernel, h1, h2⟩
noncomputable def zf_X11_isCents (M : Zm) (l0 : Int32) : Option (Zm × Int32) :=
  (if l0 < 0 then
  zb1 (zo_b (0 : Int32)) (fun w => some (M, w))
  else
  (if (1000000 : Int32) < l0 then
  zb1 (zo_b (0 : Int32)) (fun w => some (M, w))
  else
  zb1 (zo_b (1 : Int32)) (fun w => some (M, w))))
set_option maxRecDepth 100000 in
theorem zt_X11_isCents {X : Zx} {M : Zm} {l0 : Int32} {z : Zm × Int32} (h : zf_X11_isCents M l0 = some z) (hR : zRz X zC_X11_isCents z.1 z.2) : zV X zC_X11_isCents M 0 [(0, .inl l0)] [] := by
  unfold zf_X11_isCents at h
  refine zV_b (pc' := 1) (lv' := [(0, .inl l0)]) (st' := [.inl l0]) [(.iload_n 0, 1)] (by decide +kernel) rfl ?_
  refine zV_if_lt (off := 14) (tgt := 15) (by decide +kernel) (by decide) h (fun c1 h => ?_) (fun c1 h => ?_)
  · refine zV_b (pc' := 16) (lv' := [(0, .inl l0)]) (st' := [.inl (0 : Int32)]) [(.iconst 0, 1)] (by decide +kernel) rfl ?_
    exact zend_z h hR (by decide +kernel)
  · refine zV_b (pc' := 5) (lv' := [(0, .inl l0)]) (st' := [.inl l0]) [(.iload_n 0, 1)] (by decide +kernel) rfl ?_
    refine zV_ldcw (by decide +kernel) zw_525 ?_
    refine zV_icmp_gt (off := 7) (tgt := 15) (by decide +kernel) (by decide) h (fun c4 h => ?_) (fun c4 h => ?_)
    · refine zV_b (pc' := 16) (lv' := [(0, .inl l0)]) (st' := [.inl (0 : Int32)]) [(.iconst 0, 1)] (by decide +kernel) rfl ?_
      exact zend_z h hR (by decide +kernel)
    · refine zV_b (pc' := 12) (lv' := [(0, .inl l0)]) (st' := [.inl (1 : Int32)]) [(.iconst 1, 1)] (by decide +kernel) rfl ?_
      refine zV_goto (off := 4) (tgt := 16) (by decide +kernel) (by decide) ?_
      exact zend_z h hR (by decide +kernel)
theorem zc_X11_isCents {M M' : Zm} {l0 : Int32} {x : Int32} (h : zf_X11_isCents M l0 = some (M', x)) (l : Launch) (D : va_G) (cy : Nat → ClassId) : zMet l yX11_isCents zC_X11_isCents (some .boolean) D cy [.inl l0] M M' (some (.inl x)) :=
  zM_b (by decide) rfl (fun h => by cases h) (Nat.le_of_ble_eq_true rfl) (fun X hR => zt_X11_isCents h hR)
-- BlendCellar.remember()V
def zC_X11_remember : Zc := (cX11_remember, 1, RX11, 2, 47, false)
theorem zcl_X11_remember {C : Zc} (h1 : zC_X11_remember.2.2.2.1 + 1 ≤ C.2.2.2.1) (h2 : 8 + (zC_X11_remember.2.1 + 11) + zC_X11_remember.2.2.2.2.1 ≤ C.2.2.2.2.1) : zCl C yX11_remember zC_X11_remember none 0 := ⟨zw_472, zw_101, ⟨by decide, by decide⟩, by decide +kernel, h1, h2⟩
noncomputable def zf_X11_remember (M : Zm) (l0 : Option Nat) : Option (Zm × Unit) :=
  zb1 (zo_gr M l0 12 11) (fun v1 =>
  zb1 (zo_gr M l0 12 0) (fun v2 =>
  zb1 (zo_rc M v2 0) (fun _ => zbd (zf_Jx4a65c_size_8abf5 M v2) (fun M3 v3 =>
  zb1 (zo_gi M3 l0 12 14) (fun v4 =>
  zb1 (zo_gr M3 l0 12 8) (fun v5 =>
  zb1 (zo_gi M3 v5 5 1) (fun v6 =>
  zb1 (zo_gr M3 l0 12 9) (fun v7 =>
  zb1 (zo_gi M3 v7 5 1) (fun v8 =>
  zb1 (zo_rc M3 v1 2) (fun _ => zbd (zf_X1_begin M3 v1 v3 v4 v6 v8) (fun M9 _ =>
  some (M9, ()))))))))))))
set_option maxRecDepth 100000 in
theorem zt_X11_remember {X : Zx} {M : Zm} {l0 : Option Nat} {z : Zm × Unit} (h : zf_X11_remember M l0 = some z) (hR : zRv X zC_X11_remember z.1) : zV X zC_X11_remember M 0 [(0, .inr (.inr l0))] [] := by
  unfold zf_X11_remember at h
  refine zV_b (pc' := 1) (lv' := [(0, .inr (.inr l0))]) (st' := [.inr (.inr l0)]) [(.aload_n 0, 1)] (by decide +kernel) rfl ?_
  refine zV_gr (by decide +kernel) zfl_RX11_79 (by decide) rfl h (fun v1 _ h => ?_)
  refine zV_b (pc' := 5) (lv' := [(0, .inr (.inr l0))]) (st' := [.inr (.inr l0), .inr (.inr v1)]) [(.aload_n 0, 1)] (by decide +kernel) rfl ?_
  refine zV_gr (by decide +kernel) zfl_RX11_12 (by decide) rfl h (fun v2 _ h => ?_)
  refine zV_cvi (As := []) (st := [.inr (.inr v1)]) (c := 0) (by decide +kernel) (zcl_Jx4a65c_size_8abf5 (by decide) (by decide)) ⟨zw_473, zw_474, zw_475⟩ ⟨⟨_, _, rfl⟩, by decide⟩ rfl rfl (Nat.le_of_ble_eq_true rfl) h (fun _ _ e => zc_Jx4a65c_size_8abf5 e) (fun M3 v3 _ h => ?_)
  refine zV_b (pc' := 12) (lv' := [(0, .inr (.inr l0))]) (st' := [.inr (.inr l0), .inl v3, .inr (.inr v1)]) [(.aload_n 0, 1)] (by decide +kernel) rfl ?_
  refine zV_gi (by decide +kernel) zfl_RX11_93 (by decide) rfl (Or.inl rfl) h (fun v4 _ h => ?_)
  refine zV_b (pc' := 16) (lv' := [(0, .inr (.inr l0))]) (st' := [.inr (.inr l0), .inl v4, .inl v3, .inr (.inr v1)]) [(.aload_n 0, 1)] (by decide +kernel) rfl ?_
  refine zV_gr (by decide +kernel) zfl_RX11_62 (by decide) rfl h (fun v5 _ h => ?_)
  refine zV_gi (by decide +kernel) zfl_RX11_591 (by decide) rfl (Or.inl rfl) h (fun v6 _ h => ?_)
  refine zV_b (pc' := 23) (lv' := [(0, .inr (.inr l0))]) (st' := [.inr (.inr l0), .inl v6, .inl v4, .inl v3, .inr (.inr v1)]) [(.aload_n 0, 1)] (by decide +kernel) rfl ?_
  refine zV_gr (by decide +kernel) zfl_RX11_66 (by decide) rfl h (fun v7 _ h => ?_)
  refine zV_gi (by decide +kernel) zfl_RX11_591 (by decide) rfl (Or.inl rfl) h (fun v8 _ h => ?_)
  refine zV_cvv (As := [.inl v3, .inl v4, .inl v6, .inl v8]) (st := []) (c := 2) (by decide +kernel) (zcl_X1_begin (by decide) (by decide)) ⟨zw_477, zw_478, zw_479⟩ ⟨⟨_, _, rfl⟩, by decide⟩ rfl rfl (Nat.le_of_ble_eq_true rfl) h (fun _ _ e => zc_X1_begin e) (fun M9 _ _ h => ?_)
  exact zend_v h hR (by decide +kernel)
theorem zc_X11_remember {M M' : Zm} {l0 : Option Nat} {x : Unit} (h : zf_X11_remember M l0 = some (M', x)) (l : Launch) (D : va_G) (cy : Nat → ClassId) : zMet l yX11_remember zC_X11_remember none D cy [.inr (.inr l0)] M M' none :=
  zM_v (by decide) rfl (fun h => by cases h) (Nat.le_of_ble_eq_true rfl) (fun X hR => zt_X11_remember h hR)
