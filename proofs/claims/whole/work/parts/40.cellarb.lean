/-! What the bytecode does, as functions of the memory, and the walks (written by wip/gen.py). -/
-- BlendCellar.makeBarrel(III)J
def zC_X11_makeBarrel : Zc := (cX11_makeBarrel, 5, RX11, 7, 157, false)
theorem zcl_X11_makeBarrel {C : Zc} (h1 : zC_X11_makeBarrel.2.2.2.1 + 1 ≤ C.2.2.2.1) (h2 : 8 + (zC_X11_makeBarrel.2.1 + 11) + zC_X11_makeBarrel.2.2.2.2.1 ≤ C.2.2.2.2.1) : zCl C yX11_makeBarrel zC_X11_makeBarrel (some .long) 3 := ⟨zw_521, zw_101, ⟨by decide, by decide⟩, by decide +kernel, h1, h2⟩
noncomputable def zf_X11_makeBarrel_J17 (M : Zm)  : Option (Zm × Int64) :=
  some (M, (-1 : Int64))
noncomputable def zf_X11_makeBarrel_J87 (M : Zm) (l3 : Int32) (l4 : Int32) (s0 : Int32) (s1 : Int32) (s2 : Int32) (s3 : Option Nat) (s4 : Option Nat) (s5 : Option Nat) : Option (Zm × Int64) :=
  zb1 (zo_rc M s3 1) (fun _ => zbd (zf_X0_init M s3 s2 s1 s0 l3) (fun M16 _ =>
  zb1 (zo_rc M16 s5 0) (fun _ => zbd (zf_Jx4a65c_add_9ea2d M16 s5 s4) (fun M17 v17 =>
  some (M17, (l4.toInt64))))))
noncomputable def zf_X11_makeBarrel_J41 (M : Zm) (l0 : Option Nat) (l1 : Int32) (l2 : Int32) (l3 : Int32) : Option (Zm × Int64) :=
  zb1 (zo_gr M l0 12 0) (fun v8 =>
  zb1 (zo_rc M v8 0) (fun _ => zbd (zf_Jx4a65c_size_8abf5 M v8) (fun M9 v9 =>
  (if v9 < (1000 : Int32) then
  zb1 (zo_rc M9 l0 12) (fun _ => zbd (zf_X11_remember M9 l0) (fun M11 _ =>
  zb1 (zo_gr M11 l0 12 0) (fun v12 =>
  zb1 (zo_n M11 1 14) (fun M13 =>
  (if l1 = (5 : Int32) then
  zf_X11_makeBarrel_J87 M13 l3 v9 (0 : Int32) l1 v9 (zm_nx M11) (zm_nx M11) v12
  else
  zf_X11_makeBarrel_J87 M13 l3 v9 l2 l1 v9 (zm_nx M11) (zm_nx M11) v12)))))
  else
  some (M9, (-12 : Int64))))))
noncomputable def zf_X11_makeBarrel_J37 (M : Zm)  : Option (Zm × Int64) :=
  some (M, (-1 : Int64))
noncomputable def zf_X11_makeBarrel (M : Zm) (l0 : Option Nat) (l1 : Int32) (l2 : Int32) (l3 : Int32) : Option (Zm × Int64) :=
  (if l1 < (1 : Int32) then
  zf_X11_makeBarrel_J17 M
  else
  (if (5 : Int32) < l1 then
  zf_X11_makeBarrel_J17 M
  else
  zbd (zf_X11_isCents M l3) (fun M5 v5 =>
  (if v5 = 0 then
  zf_X11_makeBarrel_J17 M5
  else
  (if l1 = (5 : Int32) then
  zf_X11_makeBarrel_J41 M5 l0 l1 l2 l3
  else
  (if l2 < (1 : Int32) then
  zf_X11_makeBarrel_J37 M5
  else
  (if l2 ≤ (1000000000 : Int32) then
  zf_X11_makeBarrel_J41 M5 l0 l1 l2 l3
  else
  zf_X11_makeBarrel_J37 M5)))))))
set_option maxRecDepth 100000 in
theorem zt_X11_makeBarrel_J17 {X : Zx} {M : Zm}  {z : Zm × Int64} (h : zf_X11_makeBarrel_J17 M  = some z) (hR : zRj X zC_X11_makeBarrel z.1 z.2) : zV X zC_X11_makeBarrel M 17 [] [] := by
  unfold zf_X11_makeBarrel_J17 at h
  refine zV_ldc2 (by decide +kernel) zw_465 ?_
  exact zend_j h hR (by decide +kernel)
set_option maxRecDepth 100000 in
theorem zt_X11_makeBarrel_J87 {X : Zx} {M : Zm} {l3 : Int32} {l4 : Int32} {s0 : Int32} {s1 : Int32} {s2 : Int32} {s3 : Option Nat} {s4 : Option Nat} {s5 : Option Nat} {z : Zm × Int64} (h : zf_X11_makeBarrel_J87 M l3 l4 s0 s1 s2 s3 s4 s5 = some z) (hR : zRj X zC_X11_makeBarrel z.1 z.2) : zV X zC_X11_makeBarrel M 87 [(3, .inl l3), (4, .inl l4)] [.inl s0, .inl s1, .inl s2, .inr (.inr s3), .inr (.inr s4), .inr (.inr s5)] := by
  unfold zf_X11_makeBarrel_J87 at h
  refine zV_b (pc' := 88) (lv' := [(3, .inl l3), (4, .inl l4)]) (st' := [.inl l3, .inl s0, .inl s1, .inl s2, .inr (.inr s3), .inr (.inr s4), .inr (.inr s5)]) [(.iload_n 3, 1)] (by decide +kernel) rfl ?_
  refine zV_cii (As := [.inl s2, .inl s1, .inl s0, .inl l3]) (st := [.inr (.inr s4), .inr (.inr s5)]) (c := 1) (by decide +kernel) (zcl_X0_init (by decide) (by decide)) ⟨zw_530, rfl, zw_531⟩ rfl rfl (Nat.le_of_ble_eq_true rfl) h (fun _ _ e => zc_X0_init e) (fun M16 _ _ h => ?_)
  refine zV_cvi (As := [.inr (.inr s4)]) (st := []) (c := 0) (by decide +kernel) (zcl_Jx4a65c_add_9ea2d (by decide) (by decide)) ⟨zw_595, zw_596, zw_597⟩ ⟨⟨_, _, rfl⟩, by decide⟩ rfl rfl (Nat.le_of_ble_eq_true rfl) h (fun _ _ e => zc_Jx4a65c_add_9ea2d e) (fun M17 v17 _ h => ?_)
  refine zV_b (pc' := 98) (lv' := [(3, .inl l3), (4, .inl l4)]) (st' := [.inr (.inl (l4.toInt64))]) [(.pop, 1), (.iload 4, 2), (.i2l, 1)] (by decide +kernel) rfl ?_
  exact zend_j h hR (by decide +kernel)
set_option maxRecDepth 100000 in
theorem zt_X11_makeBarrel_J41 {X : Zx} {M : Zm} {l0 : Option Nat} {l1 : Int32} {l2 : Int32} {l3 : Int32} {z : Zm × Int64} (h : zf_X11_makeBarrel_J41 M l0 l1 l2 l3 = some z) (hR : zRj X zC_X11_makeBarrel z.1 z.2) : zV X zC_X11_makeBarrel M 41 [(0, .inr (.inr l0)), (1, .inl l1), (2, .inl l2), (3, .inl l3)] [] := by
  unfold zf_X11_makeBarrel_J41 at h
  refine zV_b (pc' := 42) (lv' := [(0, .inr (.inr l0)), (1, .inl l1), (2, .inl l2), (3, .inl l3)]) (st' := [.inr (.inr l0)]) [(.aload_n 0, 1)] (by decide +kernel) rfl ?_
  refine zV_gr (by decide +kernel) zfl_RX11_12 (by decide) rfl h (fun v8 _ h => ?_)
  refine zV_cvi (As := []) (st := []) (c := 0) (by decide +kernel) (zcl_Jx4a65c_size_8abf5 (by decide) (by decide)) ⟨zw_473, zw_474, zw_475⟩ ⟨⟨_, _, rfl⟩, by decide⟩ rfl rfl (Nat.le_of_ble_eq_true rfl) h (fun _ _ e => zc_Jx4a65c_size_8abf5 e) (fun M9 v9 _ h => ?_)
  refine zV_b (pc' := 55) (lv' := [(4, .inl v9), (0, .inr (.inr l0)), (1, .inl l1), (2, .inl l2), (3, .inl l3)]) (st' := [.inl (1000 : Int32), .inl v9]) [(.istore 4, 2), (.iload 4, 2), (.sipush 1000, 3)] (by decide +kernel) rfl ?_
  refine zV_icmp_lt (off := 7) (tgt := 62) (by decide +kernel) (by decide) h (fun c10 h => ?_) (fun c10 h => ?_)
  · refine zV_b (pc' := 63) (lv' := [(4, .inl v9), (0, .inr (.inr l0)), (1, .inl l1), (2, .inl l2), (3, .inl l3)]) (st' := [.inr (.inr l0)]) [(.aload_n 0, 1)] (by decide +kernel) rfl ?_
    refine zV_cvv (As := []) (st := []) (c := 12) (by decide +kernel) (zcl_X11_remember (by decide) (by decide)) ⟨zw_469, zw_471, zw_2⟩ ⟨⟨_, _, rfl⟩, by decide⟩ rfl rfl (Nat.le_of_ble_eq_true rfl) h (fun _ _ e => zc_X11_remember e) (fun M11 _ _ h => ?_)
    refine zV_b (pc' := 67) (lv' := [(4, .inl v9), (0, .inr (.inr l0)), (1, .inl l1), (2, .inl l2), (3, .inl l3)]) (st' := [.inr (.inr l0)]) [(.aload_n 0, 1)] (by decide +kernel) rfl ?_
    refine zV_gr (by decide +kernel) zfl_RX11_12 (by decide) rfl h (fun v12 _ h => ?_)
    refine zV_n (by decide +kernel) znw_RX11_156 h (fun M13 _ h => ?_)
    refine zV_b (pc' := 79) (lv' := [(4, .inl v9), (0, .inr (.inr l0)), (1, .inl l1), (2, .inl l2), (3, .inl l3)]) (st' := [.inl (5 : Int32), .inl l1, .inl l1, .inl v9, .inr (.inr (zm_nx M11)), .inr (.inr (zm_nx M11)), .inr (.inr v12)]) [(.dup, 1), (.iload 4, 2), (.iload_n 1, 1), (.iload_n 1, 1), (.iconst 5, 1)] (by decide +kernel) rfl ?_
    refine zV_icmp_ne (off := 7) (tgt := 86) (by decide +kernel) (by decide) h (fun c14 h => ?_) (fun c14 h => ?_)
    · refine zV_b (pc' := 83) (lv' := [(4, .inl v9), (0, .inr (.inr l0)), (1, .inl l1), (2, .inl l2), (3, .inl l3)]) (st' := [.inl (0 : Int32), .inl l1, .inl v9, .inr (.inr (zm_nx M11)), .inr (.inr (zm_nx M11)), .inr (.inr v12)]) [(.iconst 0, 1)] (by decide +kernel) rfl ?_
      refine zV_goto (off := 4) (tgt := 87) (by decide +kernel) (by decide) ?_
      exact zV_lv (lv' := [(3, .inl l3), (4, .inl v9)]) [4, 0] rfl (zt_X11_makeBarrel_J87 h hR)
    · refine zV_b (pc' := 87) (lv' := [(4, .inl v9), (0, .inr (.inr l0)), (1, .inl l1), (2, .inl l2), (3, .inl l3)]) (st' := [.inl l2, .inl l1, .inl v9, .inr (.inr (zm_nx M11)), .inr (.inr (zm_nx M11)), .inr (.inr v12)]) [(.iload_n 2, 1)] (by decide +kernel) rfl ?_
      exact zV_lv (lv' := [(3, .inl l3), (4, .inl v9)]) [4, 0] rfl (zt_X11_makeBarrel_J87 h hR)
  · refine zV_ldc2 (by decide +kernel) zw_527 ?_
    exact zend_j h hR (by decide +kernel)
set_option maxRecDepth 100000 in
theorem zt_X11_makeBarrel_J37 {X : Zx} {M : Zm}  {z : Zm × Int64} (h : zf_X11_makeBarrel_J37 M  = some z) (hR : zRj X zC_X11_makeBarrel z.1 z.2) : zV X zC_X11_makeBarrel M 37 [] [] := by
  unfold zf_X11_makeBarrel_J37 at h
  refine zV_ldc2 (by decide +kernel) zw_465 ?_
  exact zend_j h hR (by decide +kernel)
set_option maxRecDepth 100000 in
theorem zt_X11_makeBarrel {X : Zx} {M : Zm} {l0 : Option Nat} {l1 : Int32} {l2 : Int32} {l3 : Int32} {z : Zm × Int64} (h : zf_X11_makeBarrel M l0 l1 l2 l3 = some z) (hR : zRj X zC_X11_makeBarrel z.1 z.2) : zV X zC_X11_makeBarrel M 0 [(0, .inr (.inr l0)), (1, .inl l1), (2, .inl l2), (3, .inl l3)] [] := by
  unfold zf_X11_makeBarrel at h
  refine zV_b (pc' := 2) (lv' := [(0, .inr (.inr l0)), (1, .inl l1), (2, .inl l2), (3, .inl l3)]) (st' := [.inl (1 : Int32), .inl l1]) [(.iload_n 1, 1), (.iconst 1, 1)] (by decide +kernel) rfl ?_
  refine zV_icmp_lt (off := 15) (tgt := 17) (by decide +kernel) (by decide) h (fun c1 h => ?_) (fun c1 h => ?_)
  · exact zV_lv (lv' := []) [] rfl (zt_X11_makeBarrel_J17 h hR)
  · refine zV_b (pc' := 7) (lv' := [(0, .inr (.inr l0)), (1, .inl l1), (2, .inl l2), (3, .inl l3)]) (st' := [.inl (5 : Int32), .inl l1]) [(.iload_n 1, 1), (.iconst 5, 1)] (by decide +kernel) rfl ?_
    refine zV_icmp_gt (off := 10) (tgt := 17) (by decide +kernel) (by decide) h (fun c4 h => ?_) (fun c4 h => ?_)
    · exact zV_lv (lv' := []) [] rfl (zt_X11_makeBarrel_J17 h hR)
    · refine zV_b (pc' := 11) (lv' := [(0, .inr (.inr l0)), (1, .inl l1), (2, .inl l2), (3, .inl l3)]) (st' := [.inl l3]) [(.iload_n 3, 1)] (by decide +kernel) rfl ?_
      refine zV_csi (As := [.inl l3]) (st := []) (by decide +kernel) (zcl_X11_isCents (by decide) (by decide)) ⟨zw_522, zw_523⟩ rfl rfl (Nat.le_of_ble_eq_true rfl) h (fun _ _ e => zc_X11_isCents e) (fun M5 v5 _ h => ?_)
      refine zV_if_ne (off := 7) (tgt := 21) (by decide +kernel) (by decide) h (fun c6 h => ?_) (fun c6 h => ?_)
      · exact zV_lv (lv' := []) [] rfl (zt_X11_makeBarrel_J17 h hR)
      · refine zV_b (pc' := 23) (lv' := [(0, .inr (.inr l0)), (1, .inl l1), (2, .inl l2), (3, .inl l3)]) (st' := [.inl (5 : Int32), .inl l1]) [(.iload_n 1, 1), (.iconst 5, 1)] (by decide +kernel) rfl ?_
        refine zV_icmp_eq (off := 18) (tgt := 41) (by decide +kernel) (by decide) h (fun c7 h => ?_) (fun c7 h => ?_)
        · exact zV_lv (lv' := [(0, .inr (.inr l0)), (1, .inl l1), (2, .inl l2), (3, .inl l3)]) [0, 1, 2, 3] rfl (zt_X11_makeBarrel_J41 h hR)
        · refine zV_b (pc' := 28) (lv' := [(0, .inr (.inr l0)), (1, .inl l1), (2, .inl l2), (3, .inl l3)]) (st' := [.inl (1 : Int32), .inl l2]) [(.iload_n 2, 1), (.iconst 1, 1)] (by decide +kernel) rfl ?_
          refine zV_icmp_lt (off := 9) (tgt := 37) (by decide +kernel) (by decide) h (fun c21 h => ?_) (fun c21 h => ?_)
          · exact zV_lv (lv' := []) [] rfl (zt_X11_makeBarrel_J37 h hR)
          · refine zV_b (pc' := 32) (lv' := [(0, .inr (.inr l0)), (1, .inl l1), (2, .inl l2), (3, .inl l3)]) (st' := [.inl l2]) [(.iload_n 2, 1)] (by decide +kernel) rfl ?_
            refine zV_ldc (by decide +kernel) zw_526 ?_
            refine zV_icmp_le (off := 7) (tgt := 41) (by decide +kernel) (by decide) h (fun c25 h => ?_) (fun c25 h => ?_)
            · exact zV_lv (lv' := [(0, .inr (.inr l0)), (1, .inl l1), (2, .inl l2), (3, .inl l3)]) [0, 1, 2, 3] rfl (zt_X11_makeBarrel_J41 h hR)
            · exact zV_lv (lv' := []) [] rfl (zt_X11_makeBarrel_J37 h hR)
theorem zc_X11_makeBarrel {M M' : Zm} {l0 : Option Nat} {l1 : Int32} {l2 : Int32} {l3 : Int32} {x : Int64} (h : zf_X11_makeBarrel M l0 l1 l2 l3 = some (M', x)) (l : Launch) (D : va_G) (cy : Nat → ClassId) : zMet l yX11_makeBarrel zC_X11_makeBarrel (some .long) D cy [.inr (.inr l0), .inl l1, .inl l2, .inl l3] M M' (some (.inr (.inl x))) :=
  zM_j (by decide) rfl (fun h => by cases h) (Nat.le_of_ble_eq_true rfl) (fun X hR => zt_X11_makeBarrel h hR)
-- BlendCellar.barrel(III)J
def zC_X11_barrel : Zc := (cX11_barrel, 4, RX11, 8, 181, false)
theorem zcl_X11_barrel {C : Zc} (h1 : zC_X11_barrel.2.2.2.1 + 1 ≤ C.2.2.2.1) (h2 : 8 + (zC_X11_barrel.2.1 + 11) + zC_X11_barrel.2.2.2.2.1 ≤ C.2.2.2.2.1) : zCl C yX11_barrel zC_X11_barrel (some .long) 3 := ⟨zw_517, zw_101, ⟨by decide, by decide⟩, by decide +kernel, h1, h2⟩
noncomputable def zf_X11_barrel (M : Zm) (l0 : Option Nat) (l1 : Int32) (l2 : Int32) (l3 : Int32) : Option (Zm × Int64) :=
  zb1 (zo_rc M l0 12) (fun _ => zbd (zf_X11_openTap M l0) (fun M1 _ =>
  zb1 (zo_rc M1 l0 12) (fun _ => zbd (zf_X11_makeBarrel M1 l0 l1 l2 l3) (fun M2 v2 =>
  zb1 (zo_rc M2 l0 12) (fun _ => zbd (zf_X11_closeTap M2 l0 v2) (fun M3 v3 =>
  some (M3, v3)))))))
set_option maxRecDepth 100000 in
theorem zt_X11_barrel {X : Zx} {M : Zm} {l0 : Option Nat} {l1 : Int32} {l2 : Int32} {l3 : Int32} {z : Zm × Int64} (h : zf_X11_barrel M l0 l1 l2 l3 = some z) (hR : zRj X zC_X11_barrel z.1 z.2) : zV X zC_X11_barrel M 0 [(0, .inr (.inr l0)), (1, .inl l1), (2, .inl l2), (3, .inl l3)] [] := by
  unfold zf_X11_barrel at h
  refine zV_b (pc' := 1) (lv' := [(0, .inr (.inr l0)), (1, .inl l1), (2, .inl l2), (3, .inl l3)]) (st' := [.inr (.inr l0)]) [(.aload_n 0, 1)] (by decide +kernel) rfl ?_
  refine zV_cvv (As := []) (st := []) (c := 12) (by decide +kernel) (zcl_X11_openTap (by decide) (by decide)) ⟨zw_453, zw_455, zw_0⟩ ⟨⟨_, _, rfl⟩, by decide⟩ rfl rfl (Nat.le_of_ble_eq_true rfl) h (fun _ _ e => zc_X11_openTap e) (fun M1 _ _ h => ?_)
  refine zV_b (pc' := 9) (lv' := [(0, .inr (.inr l0)), (1, .inl l1), (2, .inl l2), (3, .inl l3)]) (st' := [.inl l3, .inl l2, .inl l1, .inr (.inr l0), .inr (.inr l0)]) [(.aload_n 0, 1), (.aload_n 0, 1), (.iload_n 1, 1), (.iload_n 2, 1), (.iload_n 3, 1)] (by decide +kernel) rfl ?_
  refine zV_cvj (As := [.inl l1, .inl l2, .inl l3]) (st := [.inr (.inr l0)]) (c := 12) (by decide +kernel) (zcl_X11_makeBarrel (by decide) (by decide)) ⟨zw_518, zw_520, zw_4⟩ ⟨⟨_, _, rfl⟩, by decide⟩ rfl rfl (Nat.le_of_ble_eq_true rfl) h (fun _ _ e => zc_X11_makeBarrel e) (fun M2 v2 _ h => ?_)
  refine zV_cvj (As := [.inr (.inl v2)]) (st := []) (c := 12) (by decide +kernel) (zcl_X11_closeTap (by decide) (by decide)) ⟨zw_510, zw_512, zw_3⟩ ⟨⟨_, _, rfl⟩, by decide⟩ rfl rfl (Nat.le_of_ble_eq_true rfl) h (fun _ _ e => zc_X11_closeTap e) (fun M3 v3 _ h => ?_)
  exact zend_j h hR (by decide +kernel)
theorem zc_X11_barrel {M M' : Zm} {l0 : Option Nat} {l1 : Int32} {l2 : Int32} {l3 : Int32} {x : Int64} (h : zf_X11_barrel M l0 l1 l2 l3 = some (M', x)) (l : Launch) (D : va_G) (cy : Nat → ClassId) : zMet l yX11_barrel zC_X11_barrel (some .long) D cy [.inr (.inr l0), .inl l1, .inl l2, .inl l3] M M' (some (.inr (.inl x))) :=
  zM_j (by decide) rfl (fun h => by cases h) (Nat.le_of_ble_eq_true rfl) (fun X hR => zt_X11_barrel h hR)
-- BlendCellar.drawPicked()V
def zC_X11_drawPicked : Zc := (cX11_drawPicked, 2, RX11, 6, 148, false)
theorem zcl_X11_drawPicked {C : Zc} (h1 : zC_X11_drawPicked.2.2.2.1 + 1 ≤ C.2.2.2.1) (h2 : 8 + (zC_X11_drawPicked.2.1 + 11) + zC_X11_drawPicked.2.2.2.2.1 ≤ C.2.2.2.2.1) : zCl C yX11_drawPicked zC_X11_drawPicked none 0 := ⟨zw_989, zw_101, ⟨by decide, by decide⟩, by decide +kernel, h1, h2⟩
noncomputable def zf_X11_drawPicked_L9 (p0 : Option Nat) (x : Zm × Int32) : Option ((Zm × Int32) ⊕ (Zm × Int32)) := match x with
  | (M, l1) =>
  zb1 (zo_gr M p0 12 3) (fun v3 =>
  zb1 (zo_gi M v3 6 2) (fun v4 =>
  (if v4 ≤ l1 then
  some (.inr (M, l1))
  else
  zb1 (zo_gr M p0 12 10) (fun v6 =>
  zb1 (zo_gr M p0 12 3) (fun v7 =>
  zb1 (zo_gr M v7 6 0) (fun v8 =>
  zb1 (zo_ar M 16 v8 l1) (fun v9 =>
  zb1 (zo_gr M p0 12 3) (fun v10 =>
  zb1 (zo_gr M v10 6 1) (fun v11 =>
  zb1 (zo_aj M v11 l1) (fun v12 =>
  zb1 (zo_gr M p0 12 12) (fun v13 =>
  zb1 (zo_rc M v6 3) (fun _ => zbd (zf_X2_drawFrom M v6 v9 v12 v13) (fun M14 _ =>
  some (.inl (M14, (l1 + 1))))))))))))))))
def zP_X11_drawPicked_L9 (X : Zx) (p0 : Option Nat) (x : Zm × Int32) : Prop := match x with
  | (M, l1) => zV X zC_X11_drawPicked M 9 [(0, .inr (.inr p0)), (1, .inl l1)] []
def zK_X11_drawPicked_L9 (X : Zx) (p0 : Option Nat) (y : Zm × Int32) : Prop := match y with
  | (M, l1) => zV X zC_X11_drawPicked M 55 [] []
noncomputable def zf_X11_drawPicked (M : Zm) (l0 : Option Nat) : Option (Zm × Unit) :=
  zb1 (zo_gr M l0 12 10) (fun v1 =>
  zb1 (zo_rc M v1 3) (fun _ => zbd (zf_X2_clear M v1) (fun M2 _ =>
  zb1 (zwhile (zf_X11_drawPicked_L9 l0) (M2, (0 : Int32))) (fun y16 => match y16 with
  | (M9_16, l1_16) =>
  some (M9_16, ())))))
set_option maxRecDepth 100000 in
theorem zt_X11_drawPicked_L9 {X : Zx} {p0 : Option Nat} {x : Zm × Int32} {y : Zm × Int32} (h : zwhile (zf_X11_drawPicked_L9 p0) x = some y) (hy : zK_X11_drawPicked_L9 X p0 y) : zP_X11_drawPicked_L9 X p0 x := by
  refine zwhile_ind (P := zP_X11_drawPicked_L9 X p0) (K := zK_X11_drawPicked_L9 X p0) ?_ h hy
  intro x z hf k1 k2
  obtain ⟨M, l1⟩ := x
  have h : zf_X11_drawPicked_L9 p0 (M, l1) = some z := hf
  unfold zf_X11_drawPicked_L9 at h
  show zV X zC_X11_drawPicked M 9 [(0, .inr (.inr p0)), (1, .inl l1)] []
  refine zV_b (pc' := 11) (lv' := [(0, .inr (.inr p0)), (1, .inl l1)]) (st' := [.inr (.inr p0), .inl l1]) [(.iload_n 1, 1), (.aload_n 0, 1)] (by decide +kernel) rfl ?_
  refine zV_gr (by decide +kernel) zfl_RX11_28 (by decide) rfl h (fun v3 _ h => ?_)
  refine zV_gi (by decide +kernel) zfl_RX11_343 (by decide) rfl (Or.inl rfl) h (fun v4 _ h => ?_)
  refine zV_icmp_ge (off := 38) (tgt := 55) (by decide +kernel) (by decide) h (fun c5 h => ?_) (fun c5 h => ?_)
  · exact zV_lv (lv' := []) [] rfl (k2 _ (Option.some.inj h).symm)
  · refine zV_b (pc' := 21) (lv' := [(0, .inr (.inr p0)), (1, .inl l1)]) (st' := [.inr (.inr p0)]) [(.aload_n 0, 1)] (by decide +kernel) rfl ?_
    refine zV_gr (by decide +kernel) zfl_RX11_72 (by decide) rfl h (fun v6 _ h => ?_)
    refine zV_b (pc' := 25) (lv' := [(0, .inr (.inr p0)), (1, .inl l1)]) (st' := [.inr (.inr p0), .inr (.inr v6)]) [(.aload_n 0, 1)] (by decide +kernel) rfl ?_
    refine zV_gr (by decide +kernel) zfl_RX11_28 (by decide) rfl h (fun v7 _ h => ?_)
    refine zV_gr (by decide +kernel) zfl_RX11_370 (by decide) rfl h (fun v8 _ h => ?_)
    refine zV_b (pc' := 32) (lv' := [(0, .inr (.inr p0)), (1, .inl l1)]) (st' := [.inl l1, .inr (.inr v8), .inr (.inr v6)]) [(.iload_n 1, 1)] (by decide +kernel) rfl ?_
    refine zV_ar (by decide +kernel) (by decide) (by decide) h (fun v9 _ h => ?_)
    refine zV_b (pc' := 34) (lv' := [(0, .inr (.inr p0)), (1, .inl l1)]) (st' := [.inr (.inr p0), .inr (.inr v9), .inr (.inr v6)]) [(.aload_n 0, 1)] (by decide +kernel) rfl ?_
    refine zV_gr (by decide +kernel) zfl_RX11_28 (by decide) rfl h (fun v10 _ h => ?_)
    refine zV_gr (by decide +kernel) zfl_RX11_372 (by decide) rfl h (fun v11 _ h => ?_)
    refine zV_b (pc' := 41) (lv' := [(0, .inr (.inr p0)), (1, .inl l1)]) (st' := [.inl l1, .inr (.inr v11), .inr (.inr v9), .inr (.inr v6)]) [(.iload_n 1, 1)] (by decide +kernel) rfl ?_
    refine zV_aj (by decide +kernel) h (fun v12 _ h => ?_)
    refine zV_b (pc' := 43) (lv' := [(0, .inr (.inr p0)), (1, .inl l1)]) (st' := [.inr (.inr p0), .inr (.inl v12), .inr (.inr v9), .inr (.inr v6)]) [(.aload_n 0, 1)] (by decide +kernel) rfl ?_
    refine zV_gr (by decide +kernel) zfl_RX11_86 (by decide) rfl h (fun v13 _ h => ?_)
    refine zV_cvv (As := [.inr (.inr v9), .inr (.inl v12), .inr (.inr v13)]) (st := []) (c := 3) (by decide +kernel) (zcl_X2_drawFrom (by decide) (by decide)) ⟨zw_882, zw_883, zw_884⟩ ⟨⟨_, _, rfl⟩, by decide⟩ rfl rfl (Nat.le_of_ble_eq_true rfl) h (fun _ _ e => zc_X2_drawFrom e) (fun M14 _ _ h => ?_)
    refine zV_b (pc' := 52) (lv' := [(1, .inl (l1 + 1)), (0, .inr (.inr p0))]) (st' := []) [(.iinc 1 1, 3)] (by decide +kernel) rfl ?_
    refine zV_goto (off := (-43)) (tgt := 9) (by decide +kernel) (by decide) ?_
    exact zV_lv (lv' := [(0, .inr (.inr p0)), (1, .inl (l1 + 1))]) [1, 0] rfl (k1 _ (Option.some.inj h).symm)
set_option maxRecDepth 100000 in
theorem zt_X11_drawPicked {X : Zx} {M : Zm} {l0 : Option Nat} {z : Zm × Unit} (h : zf_X11_drawPicked M l0 = some z) (hR : zRv X zC_X11_drawPicked z.1) : zV X zC_X11_drawPicked M 0 [(0, .inr (.inr l0))] [] := by
  unfold zf_X11_drawPicked at h
  refine zV_b (pc' := 1) (lv' := [(0, .inr (.inr l0))]) (st' := [.inr (.inr l0)]) [(.aload_n 0, 1)] (by decide +kernel) rfl ?_
  refine zV_gr (by decide +kernel) zfl_RX11_72 (by decide) rfl h (fun v1 _ h => ?_)
  refine zV_cvv (As := []) (st := []) (c := 3) (by decide +kernel) (zcl_X2_clear (by decide) (by decide)) ⟨zw_874, zw_875, zw_876⟩ ⟨⟨_, _, rfl⟩, by decide⟩ rfl rfl (Nat.le_of_ble_eq_true rfl) h (fun _ _ e => zc_X2_clear e) (fun M2 _ _ h => ?_)
  refine zV_b (pc' := 9) (lv' := [(1, .inl (0 : Int32)), (0, .inr (.inr l0))]) (st' := []) [(.iconst 0, 1), (.istore_n 1, 1)] (by decide +kernel) rfl ?_
  obtain ⟨y16, e16, h⟩ := zb1_inv h
  refine zV_lv (lv' := [(0, .inr (.inr l0)), (1, .inl (0 : Int32))]) [1, 0] rfl (zt_X11_drawPicked_L9 e16 ?_)
  obtain ⟨M9_16, l1_16⟩ := y16
  show zV X zC_X11_drawPicked M9_16 55 [] []
  exact zend_v h hR (by decide +kernel)
theorem zc_X11_drawPicked {M M' : Zm} {l0 : Option Nat} {x : Unit} (h : zf_X11_drawPicked M l0 = some (M', x)) (l : Launch) (D : va_G) (cy : Nat → ClassId) : zMet l yX11_drawPicked zC_X11_drawPicked none D cy [.inr (.inr l0)] M M' none :=
  zM_v (by decide) rfl (fun h => by cases h) (Nat.le_of_ble_eq_true rfl) (fun X hR => zt_X11_drawPicked h hR)
-- BlendCellar.hasTooManyPartsFor(LBlendCellar$Barrel;)Z
def zC_X11_hasTooManyPartsFor : Zc := (cX11_hasTooManyPartsFor, 2, RX11, 2, 47, false)
theorem zcl_X11_hasTooManyPartsFor {C : Zc} (h1 : zC_X11_hasTooManyPartsFor.2.2.2.1 + 1 ≤ C.2.2.2.1) (h2 : 8 + (zC_X11_hasTooManyPartsFor.2.1 + 11) + zC_X11_hasTooManyPartsFor.2.2.2.2.1 ≤ C.2.2.2.2.1) : zCl C yX11_hasTooManyPartsFor zC_X11_hasTooManyPartsFor (some .boolean) 1 := ⟨zw_906, zw_101, ⟨by decide, by decide⟩, by decide +kernel, h1, h2⟩
noncomputable def zf_X11_hasTooManyPartsFor (M : Zm) (l0 : Option Nat) (l1 : Option Nat) : Option (Zm × Int32) :=
  zb1 (zo_gr M l1 1 5) (fun v1 =>
  zb1 (zo_gr M l0 12 10) (fun v2 =>
  zb1 (zo_gr M v2 3 4) (fun v3 =>
  zb1 (zo_rc M v1 11) (fun _ => zbd (zf_X10_countWith M v1 v3) (fun M4 v4 =>
  (if v4 ≤ (60 : Int32) then
  zb1 (zo_b (0 : Int32)) (fun w => some (M4, w))
  else
  zb1 (zo_b (1 : Int32)) (fun w => some (M4, w))))))))
set_option maxRecDepth 100000 in
theorem zt_X11_hasTooManyPartsFor {X : Zx} {M : Zm} {l0 : Option Nat} {l1 : Option Nat} {z : Zm × Int32} (h : zf_X11_hasTooManyPartsFor M l0 l1 = some z) (hR : zRz X zC_X11_hasTooManyPartsFor z.1 z.2) : zV X zC_X11_hasTooManyPartsFor M 0 [(0, .inr (.inr l0)), (1, .inr (.inr l1))] [] := by
  unfold zf_X11_hasTooManyPartsFor at h
  refine zV_b (pc' := 1) (lv' := [(0, .inr (.inr l0)), (1, .inr (.inr l1))]) (st' := [.inr (.inr l1)]) [(.aload_n 1, 1)] (by decide +kernel) rfl ?_
  refine zV_gr (by decide +kernel) zfl_RX11_268 (by decide) rfl h (fun v1 _ h => ?_)
  refine zV_b (pc' := 5) (lv' := [(0, .inr (.inr l0)), (1, .inr (.inr l1))]) (st' := [.inr (.inr l0), .inr (.inr v1)]) [(.aload_n 0, 1)] (by decide +kernel) rfl ?_
  refine zV_gr (by decide +kernel) zfl_RX11_72 (by decide) rfl h (fun v2 _ h => ?_)
  refine zV_gr (by decide +kernel) zfl_RX11_512 (by decide) rfl h (fun v3 _ h => ?_)
  refine zV_cvi (As := [.inr (.inr v3)]) (st := []) (c := 11) (by decide +kernel) (zcl_X10_countWith (by decide) (by decide)) ⟨zw_907, zw_908, zw_909⟩ ⟨⟨_, _, rfl⟩, by decide⟩ rfl rfl (Nat.le_of_ble_eq_true rfl) h (fun _ _ e => zc_X10_countWith e) (fun M4 v4 _ h => ?_)
  refine zV_b (pc' := 16) (lv' := [(0, .inr (.inr l0)), (1, .inr (.inr l1))]) (st' := [.inl (60 : Int32), .inl v4]) [(.bipush 60, 2)] (by decide +kernel) rfl ?_
  refine zV_icmp_le (off := 7) (tgt := 23) (by decide +kernel) (by decide) h (fun c5 h => ?_) (fun c5 h => ?_)
  · refine zV_b (pc' := 24) (lv' := [(0, .inr (.inr l0)), (1, .inr (.inr l1))]) (st' := [.inl (0 : Int32)]) [(.iconst 0, 1)] (by decide +kernel) rfl ?_
    exact zend_z h hR (by decide +kernel)
  · refine zV_b (pc' := 20) (lv' := [(0, .inr (.inr l0)), (1, .inr (.inr l1))]) (st' := [.inl (1 : Int32)]) [(.iconst 1, 1)] (by decide +kernel) rfl ?_
    refine zV_goto (off := 4) (tgt := 24) (by decide +kernel) (by decide) ?_
    exact zend_z h hR (by decide +kernel)
theorem zc_X11_hasTooManyPartsFor {M M' : Zm} {l0 : Option Nat} {l1 : Option Nat} {x : Int32} (h : zf_X11_hasTooManyPartsFor M l0 l1 = some (M', x)) (l : Launch) (D : va_G) (cy : Nat → ClassId) : zMet l yX11_hasTooManyPartsFor zC_X11_hasTooManyPartsFor (some .boolean) D cy [.inr (.inr l0), .inr (.inr l1)] M M' (some (.inl x)) :=
  zM_b (by decide) rfl (fun h => by cases h) (Nat.le_of_ble_eq_true rfl) (fun X hR => zt_X11_hasTooManyPartsFor h hR)
-- BlendCellar.pourInto(LBlendCellar$Barrel;)V
def zC_X11_pourInto : Zc := (cX11_pourInto, 2, RX11, 9, 201, false)
theorem zcl_X11_pourInto {C : Zc} (h1 : zC_X11_pourInto.2.2.2.1 + 1 ≤ C.2.2.2.1) (h2 : 8 + (zC_X11_pourInto.2.1 + 11) + zC_X11_pourInto.2.2.2.2.1 ≤ C.2.2.2.2.1) : zCl C yX11_pourInto zC_X11_pourInto none 1 := ⟨zw_914, zw_101, ⟨by decide, by decide⟩, by decide +kernel, h1, h2⟩
noncomputable def zf_X11_pourInto (M : Zm) (l0 : Option Nat) (l1 : Option Nat) : Option (Zm × Unit) :=
  zb1 (zo_gr M l0 12 11) (fun v1 =>
  zb1 (zo_rc M v1 2) (fun _ => zbd (zf_X1_keepBarrel M v1 l1) (fun M2 _ =>
  zb1 (zo_gr M2 l0 12 10) (fun v3 =>
  zb1 (zo_gr M2 l0 12 11) (fun v4 =>
  zb1 (zo_gr M2 l1 1 5) (fun v5 =>
  zb1 (zo_rc M2 v3 3) (fun _ => zbd (zf_X2_carryOut M2 v3 v4 v5) (fun M6 _ =>
  some (M6, ())))))))))
set_option maxRecDepth 100000 in
theorem zt_X11_pourInto {X : Zx} {M : Zm} {l0 : Option Nat} {l1 : Option Nat} {z : Zm × Unit} (h : zf_X11_pourInto M l0 l1 = some z) (hR : zRv X zC_X11_pourInto z.1) : zV X zC_X11_pourInto M 0 [(0, .inr (.inr l0)), (1, .inr (.inr l1))] [] := by
  unfold zf_X11_pourInto at h
  refine zV_b (pc' := 1) (lv' := [(0, .inr (.inr l0)), (1, .inr (.inr l1))]) (st' := [.inr (.inr l0)]) [(.aload_n 0, 1)] (by decide +kernel) rfl ?_
  refine zV_gr (by decide +kernel) zfl_RX11_79 (by decide) rfl h (fun v1 _ h => ?_)
  refine zV_b (pc' := 5) (lv' := [(0, .inr (.inr l0)), (1, .inr (.inr l1))]) (st' := [.inr (.inr l1), .inr (.inr v1)]) [(.aload_n 1, 1)] (by decide +kernel) rfl ?_
  refine zV_cvv (As := [.inr (.inr l1)]) (st := []) (c := 2) (by decide +kernel) (zcl_X1_keepBarrel (by decide) (by decide)) ⟨zw_696, zw_697, zw_698⟩ ⟨⟨_, _, rfl⟩, by decide⟩ rfl rfl (Nat.le_of_ble_eq_true rfl) h (fun _ _ e => zc_X1_keepBarrel e) (fun M2 _ _ h => ?_)
  refine zV_b (pc' := 9) (lv' := [(0, .inr (.inr l0)), (1, .inr (.inr l1))]) (st' := [.inr (.inr l0)]) [(.aload_n 0, 1)] (by decide +kernel) rfl ?_
  refine zV_gr (by decide +kernel) zfl_RX11_72 (by decide) rfl h (fun v3 _ h => ?_)
  refine zV_b (pc' := 13) (lv' := [(0, .inr (.inr l0)), (1, .inr (.inr l1))]) (st' := [.inr (.inr l0), .inr (.inr v3)]) [(.aload_n 0, 1)] (by decide +kernel) rfl ?_
  refine zV_gr (by decide +kernel) zfl_RX11_79 (by decide) rfl h (fun v4 _ h => ?_)
  refine zV_b (pc' := 17) (lv' := [(0, .inr (.inr l0)), (1, .inr (.inr l1))]) (st' := [.inr (.inr l1), .inr (.inr v4), .inr (.inr v3)]) [(.aload_n 1, 1)] (by decide +kernel) rfl ?_
  refine zV_gr (by decide +kernel) zfl_RX11_268 (by decide) rfl h (fun v5 _ h => ?_)
  refine zV_cvv (As := [.inr (.inr v4), .inr (.inr v5)]) (st := []) (c := 3) (by decide +kernel) (zcl_X2_carryOut (by decide) (by decide)) ⟨zw_915, zw_916, zw_917⟩ ⟨⟨_, _, rfl⟩, by decide⟩ rfl rfl (Nat.le_of_ble_eq_true rfl) h (fun _ _ e => zc_X2_carryOut e) (fun M6 _ _ h => ?_)
  exact zend_v h hR (by decide +kernel)
theorem zc_X11_pourInto {M M' : Zm} {l0 : Option Nat} {l1 : Option Nat} {x : Unit} (h : zf_X11_pourInto M l0 l1 = some (M', x)) (l : Launch) (D : va_G) (cy : Nat → ClassId) : zMet l yX11_pourInto zC_X11_pourInto none D cy [.inr (.inr l0), .inr (.inr l1)] M M' none :=
  zM_v (by decide) rfl (fun h => by cases h) (Nat.le_of_ble_eq_true rfl) (fun X hR => zt_X11_pourInto h hR)
-- BlendCellar.blendInto(I)J
def zC_X11_blendInto : Zc := (cX11_blendInto, 7, RX11, 10, 222, false)
theorem zcl_X11_blendInto {C : Zc} (h1 : zC_X11_blendInto.2.2.2.1 + 1 ≤ C.2.2.2.1) (h2 : 8 + (zC_X11_blendInto.2.1 + 11) + zC_X11_blendInto.2.2.2.2.1 ≤ C.2.2.2.2.1) : zCl C yX11_blendInto zC_X11_blendInto (some .long) 1 := ⟨zw_971, zw_101, ⟨by decide, by decide⟩, by decide +kernel, h1, h2⟩
noncomputable def zf_X11_blendInto_L157 (p0 : Option Nat) (p1 : Int32) (p4 : Int64) (x : Zm × Int32) : Option ((Zm × Int32) ⊕ (Zm × Int32)) := match x with
  | (M, l6) =>
  zb1 (zo_gr M p0 12 3) (fun v37 =>
  zb1 (zo_gi M v37 6 2) (fun v38 =>
  (if v38 ≤ l6 then
  some (.inr (M, l6))
  else
  zb1 (zo_gr M p0 12 8) (fun v40 =>
  zb1 (zo_gr M p0 12 3) (fun v42 =>
  zb1 (zo_gr M v42 6 0) (fun v43 =>
  zb1 (zo_ar M 16 v43 l6) (fun v44 =>
  zb1 (zo_gi M v44 1 0) (fun v45 =>
  zb1 (zo_gr M p0 12 3) (fun v46 =>
  zb1 (zo_gr M v46 6 1) (fun v47 =>
  zb1 (zo_aj M v47 l6) (fun v48 =>
  zb1 (zo_rc M v40 5) (fun _ => zbd (zf_X4_add M v40 (4 : Int64) (v45.toInt64) (p1.toInt64) v48) (fun M49 _ =>
  some (.inl (M49, (l6 + 1))))))))))))))))
def zP_X11_blendInto_L157 (X : Zx) (p0 : Option Nat) (p1 : Int32) (p4 : Int64) (x : Zm × Int32) : Prop := match x with
  | (M, l6) => zV X zC_X11_blendInto M 157 [(0, .inr (.inr p0)), (1, .inl p1), (4, .inr (.inl p4)), (6, .inl l6)] []
def zK_X11_blendInto_L157 (X : Zx) (p0 : Option Nat) (p1 : Int32) (p4 : Int64) (y : Zm × Int32) : Prop := match y with
  | (M, l6) => zV X zC_X11_blendInto M 211 [(0, .inr (.inr p0)), (4, .inr (.inl p4))] []
noncomputable def zf_X11_blendInto_J72 (M : Zm)  : Option (Zm × Int64) :=
  some (M, (-9 : Int64))
noncomputable def zf_X11_blendInto (M : Zm) (l0 : Option Nat) (l1 : Int32) : Option (Zm × Int64) :=
  zb1 (zo_gr M l0 12 3) (fun v1 =>
  zb1 (zo_gi M v1 6 2) (fun v2 =>
  (if v2 = 0 then
  some (M, (-10 : Int64))
  else
  zb1 (zo_rc M l0 12) (fun _ => zbd (zf_X11_lookUpVessel M l0 l1) (fun M6 v6 =>
  (if v6 = 0 then
  zb1 (zo_gr M6 l0 12 3) (fun v8 =>
  zb1 (zo_rc M6 v8 6) (fun _ => zbd (zf_X5_has M6 v8 l1) (fun M9 v9 =>
  (if v9 = 0 then
  zb1 (zo_gr M9 l0 12 0) (fun v11 =>
  zb1 (zo_rc M9 v11 0) (fun _ => zbd (zf_Jx4a65c_get_915e3 M9 v11 l1) (fun M12 v12 =>
  zb1 (zo_cc M12 v12 1) (fun _ =>
  zb1 (zo_rc M12 v12 1) (fun _ => zbd (zf_X0_inCask M12 v12) (fun M14 v14 =>
  (if v14 = 0 then
  zb1 (zo_gr M14 l0 12 3) (fun v16 =>
  zb1 (zo_rc M14 v16 6) (fun _ => zbd (zf_X5_anyInCask M14 v16) (fun M17 v17 =>
  (if v17 = 0 then
  zb1 (zo_gr M17 l0 12 3) (fun v19 =>
  zb1 (zo_gr M17 l0 12 12) (fun v20 =>
  zb1 (zo_rc M17 v19 6) (fun _ => zbd (zf_X5_allSpared M17 v19 v20) (fun M21 v21 =>
  (if v21 = 0 then
  some (M21, (-10 : Int64))
  else
  zb1 (zo_gr M21 l0 12 3) (fun v25 =>
  zb1 (zo_rc M21 v25 6) (fun _ => zbd (zf_X5_sum M21 v25) (fun M26 v26 =>
  zb1 (zo_gr M26 v12 1 5) (fun v27 =>
  zb1 (zo_gj M26 v27 11 3) (fun v28 =>
  zb1 (zo_gr M26 l0 12 12) (fun v29 =>
  zb1 (zo_rc M26 v12 1) (fun _ => zbd (zf_X0_takesInAll M26 v12 v29) (fun M30 v30 =>
  (if (v28 + v26) ≤ v30 then
  zb1 (zo_rc M30 l0 12) (fun _ => zbd (zf_X11_drawPicked M30 l0) (fun M32 _ =>
  zb1 (zo_rc M32 l0 12) (fun _ => zbd (zf_X11_hasTooManyPartsFor M32 l0 v12) (fun M33 v33 =>
  (if v33 = 0 then
  zb1 (zo_rc M33 l0 12) (fun _ => zbd (zf_X11_remember M33 l0) (fun M35 _ =>
  zb1 (zo_rc M35 l0 12) (fun _ => zbd (zf_X11_pourInto M35 l0 v12) (fun M36 _ =>
  zb1 (zwhile (zf_X11_blendInto_L157 l0 l1 v26) (M36, (0 : Int32))) (fun y51 => match y51 with
  | (M157_51, l6_51) =>
  zb1 (zo_gr M157_51 l0 12 3) (fun v52 =>
  zb1 (zo_rc M157_51 v52 6) (fun _ => zbd (zf_X5_clear M157_51 v52) (fun M53 _ =>
  some (M53, v26)))))))))
  else
  some (M33, (-12 : Int64)))))))
  else
  some (M30, (-11 : Int64))))))))))))))))
  else
  zf_X11_blendInto_J72 M17))))
  else
  zf_X11_blendInto_J72 M14)))))))
  else
  some (M9, (-13 : Int64))))))
  else
  some (M6, (((-v6)).toInt64))))))))
set_option maxRecDepth 100000 in
theorem zt_X11_blendInto_L157 {X : Zx} {p0 : Option Nat} {p1 : Int32} {p4 : Int64} {x : Zm × Int32} {y : Zm × Int32} (h : zwhile (zf_X11_blendInto_L157 p0 p1 p4) x = some y) (hy : zK_X11_blendInto_L157 X p0 p1 p4 y) : zP_X11_blendInto_L157 X p0 p1 p4 x := by
  refine zwhile_ind (P := zP_X11_blendInto_L157 X p0 p1 p4) (K := zK_X11_blendInto_L157 X p0 p1 p4) ?_ h hy
  intro x z hf k1 k2
  obtain ⟨M, l6⟩ := x
  have h : zf_X11_blendInto_L157 p0 p1 p4 (M, l6) = some z := hf
  unfold zf_X11_blendInto_L157 at h
  show zV X zC_X11_blendInto M 157 [(0, .inr (.inr p0)), (1, .inl p1), (4, .inr (.inl p4)), (6, .inl l6)] []
  refine zV_b (pc' := 160) (lv' := [(0, .inr (.inr p0)), (1, .inl p1), (4, .inr (.inl p4)), (6, .inl l6)]) (st' := [.inr (.inr p0), .inl l6]) [(.iload 6, 2), (.aload_n 0, 1)] (by decide +kernel) rfl ?_
  refine zV_gr (by decide +kernel) zfl_RX11_28 (by decide) rfl h (fun v37 _ h => ?_)
  refine zV_gi (by decide +kernel) zfl_RX11_343 (by decide) rfl (Or.inl rfl) h (fun v38 _ h => ?_)
  refine zV_icmp_ge (off := 45) (tgt := 211) (by decide +kernel) (by decide) h (fun c39 h => ?_) (fun c39 h => ?_)
  · exact zV_lv (lv' := [(0, .inr (.inr p0)), (4, .inr (.inl p4))]) [0, 2] rfl (k2 _ (Option.some.inj h).symm)
  · refine zV_b (pc' := 170) (lv' := [(0, .inr (.inr p0)), (1, .inl p1), (4, .inr (.inl p4)), (6, .inl l6)]) (st' := [.inr (.inr p0)]) [(.aload_n 0, 1)] (by decide +kernel) rfl ?_
    refine zV_gr (by decide +kernel) zfl_RX11_62 (by decide) rfl h (fun v40 _ h => ?_)
    refine zV_ldc2 (by decide +kernel) zw_990 ?_
    refine zV_b (pc' := 177) (lv' := [(0, .inr (.inr p0)), (1, .inl p1), (4, .inr (.inl p4)), (6, .inl l6)]) (st' := [.inr (.inr p0), .inr (.inl (4 : Int64)), .inr (.inr v40)]) [(.aload_n 0, 1)] (by decide +kernel) rfl ?_
    refine zV_gr (by decide +kernel) zfl_RX11_28 (by decide) rfl h (fun v42 _ h => ?_)
    refine zV_gr (by decide +kernel) zfl_RX11_370 (by decide) rfl h (fun v43 _ h => ?_)
    refine zV_b (pc' := 185) (lv' := [(0, .inr (.inr p0)), (1, .inl p1), (4, .inr (.inl p4)), (6, .inl l6)]) (st' := [.inl l6, .inr (.inr v43), .inr (.inl (4 : Int64)), .inr (.inr v40)]) [(.iload 6, 2)] (by decide +kernel) rfl ?_
    refine zV_ar (by decide +kernel) (by decide) (by decide) h (fun v44 _ h => ?_)
    refine zV_gi (by decide +kernel) zfl_RX11_211 (by decide) rfl (Or.inl rfl) h (fun v45 _ h => ?_)
    refine zV_b (pc' := 193) (lv' := [(0, .inr (.inr p0)), (1, .inl p1), (4, .inr (.inl p4)), (6, .inl l6)]) (st' := [.inr (.inr p0), .inr (.inl (p1.toInt64)), .inr (.inl (v45.toInt64)), .inr (.inl (4 : Int64)), .inr (.inr v40)]) [(.i2l, 1), (.iload_n 1, 1), (.i2l, 1), (.aload_n 0, 1)] (by decide +kernel) rfl ?_
    refine zV_gr (by decide +kernel) zfl_RX11_28 (by decide) rfl h (fun v46 _ h => ?_)
    refine zV_gr (by decide +kernel) zfl_RX11_372 (by decide) rfl h (fun v47 _ h => ?_)
    refine zV_b (pc' := 201) (lv' := [(0, .inr (.inr p0)), (1, .inl p1), (4, .inr (.inl p4)), (6, .inl l6)]) (st' := [.inl l6, .inr (.inr v47), .inr (.inl (p1.toInt64)), .inr (.inl (v45.toInt64)), .inr (.inl (4 : Int64)), .inr (.inr v40)]) [(.iload 6, 2)] (by decide +kernel) rfl ?_
    refine zV_aj (by decide +kernel) h (fun v48 _ h => ?_)
    refine zV_cvv (As := [.inr (.inl (4 : Int64)), .inr (.inl (v45.toInt64)), .inr (.inl (p1.toInt64)), .inr (.inl v48)]) (st := []) (c := 5) (by decide +kernel) (zcl_X4_add (by decide) (by decide)) ⟨zw_844, zw_845, zw_846⟩ ⟨⟨_, _, rfl⟩, by decide⟩ rfl rfl (Nat.le_of_ble_eq_true rfl) h (fun _ _ e => zc_X4_add e) (fun M49 _ _ h => ?_)
    refine zV_b (pc' := 208) (lv' := [(6, .inl (l6 + 1)), (0, .inr (.inr p0)), (1, .inl p1), (4, .inr (.inl p4))]) (st' := []) [(.iinc 6 1, 3)] (by decide +kernel) rfl ?_
    refine zV_goto (off := (-51)) (tgt := 157) (by decide +kernel) (by decide) ?_
    exact zV_lv (lv' := [(0, .inr (.inr p0)), (1, .inl p1), (4, .inr (.inl p4)), (6, .inl (l6 + 1))]) [1, 2, 3, 0] rfl (k1 _ (Option.some.inj h).symm)
set_option maxRecDepth 100000 in
theorem zt_X11_blendInto_J72 {X : Zx} {M : Zm}  {z : Zm × Int64} (h : zf_X11_blendInto_J72 M  = some z) (hR : zRj X zC_X11_blendInto z.1 z.2) : zV X zC_X11_blendInto M 72 [] [] := by
  unfold zf_X11_blendInto_J72 at h
  refine zV_ldc2 (by decide +kernel) zw_695 ?_
  exact zend_j h hR (by decide +kernel)
set_option maxRecDepth 100000 in
theorem zt_X11_blendInto {X : Zx} {M : Zm} {l0 : Option Nat} {l1 : Int32} {z : Zm × Int64} (h : zf_X11_blendInto M l0 l1 = some z) (hR : zRj X zC_X11_blendInto z.1 z.2) : zV X zC_X11_blendInto M 0 [(0, .inr (.inr l0)), (1, .inl l1)] [] := by
  unfold zf_X11_blendInto at h
  refine zV_b (pc' := 1) (lv' := [(0, .inr (.inr l0)), (1, .inl l1)]) (st' := [.inr (.inr l0)]) [(.aload_n 0, 1)] (by decide +kernel) rfl ?_
  refine zV_gr (by decide +kernel) zfl_RX11_28 (by decide) rfl h (fun v1 _ h => ?_)
  refine zV_gi (by decide +kernel) zfl_RX11_343 (by decide) rfl (Or.inl rfl) h (fun v2 _ h => ?_)
  refine zV_if_ne (off := 7) (tgt := 14) (by decide +kernel) (by decide) h (fun c3 h => ?_) (fun c3 h => ?_)
  · refine zV_ldc2 (by decide +kernel) zw_873 ?_
    exact zend_j h hR (by decide +kernel)
  · refine zV_b (pc' := 16) (lv' := [(0, .inr (.inr l0)), (1, .inl l1)]) (st' := [.inl l1, .inr (.inr l0)]) [(.aload_n 0, 1), (.iload_n 1, 1)] (by decide +kernel) rfl ?_
    refine zV_cvi (As := [.inl l1]) (st := []) (c := 12) (by decide +kernel) (zcl_X11_lookUpVessel (by decide) (by decide)) ⟨zw_684, zw_686, zw_11⟩ ⟨⟨_, _, rfl⟩, by decide⟩ rfl rfl (Nat.le_of_ble_eq_true rfl) h (fun _ _ e => zc_X11_lookUpVessel e) (fun M6 v6 _ h => ?_)
    refine zV_b (pc' := 21) (lv' := [(2, .inl v6), (0, .inr (.inr l0)), (1, .inl l1)]) (st' := [.inl v6]) [(.istore_n 2, 1), (.iload_n 2, 1)] (by decide +kernel) rfl ?_
    refine zV_if_eq (off := 7) (tgt := 28) (by decide +kernel) (by decide) h (fun c7 h => ?_) (fun c7 h => ?_)
    · refine zV_b (pc' := 29) (lv' := [(2, .inl v6), (0, .inr (.inr l0)), (1, .inl l1)]) (st' := [.inr (.inr l0)]) [(.aload_n 0, 1)] (by decide +kernel) rfl ?_
      refine zV_gr (by decide +kernel) zfl_RX11_28 (by decide) rfl h (fun v8 _ h => ?_)
      refine zV_b (pc' := 33) (lv' := [(2, .inl v6), (0, .inr (.inr l0)), (1, .inl l1)]) (st' := [.inl l1, .inr (.inr v8)]) [(.iload_n 1, 1)] (by decide +kernel) rfl ?_
      refine zV_cvi (As := [.inl l1]) (st := []) (c := 6) (by decide +kernel) (zcl_X5_has (by decide) (by decide)) ⟨zw_947, zw_948, zw_949⟩ ⟨⟨_, _, rfl⟩, by decide⟩ rfl rfl (Nat.le_of_ble_eq_true rfl) h (fun _ _ e => zc_X5_has e) (fun M9 v9 _ h => ?_)
      refine zV_if_eq (off := 7) (tgt := 43) (by decide +kernel) (by decide) h (fun c10 h => ?_) (fun c10 h => ?_)
      · refine zV_b (pc' := 44) (lv' := [(2, .inl v6), (0, .inr (.inr l0)), (1, .inl l1)]) (st' := [.inr (.inr l0)]) [(.aload_n 0, 1)] (by decide +kernel) rfl ?_
        refine zV_gr (by decide +kernel) zfl_RX11_12 (by decide) rfl h (fun v11 _ h => ?_)
        refine zV_b (pc' := 48) (lv' := [(2, .inl v6), (0, .inr (.inr l0)), (1, .inl l1)]) (st' := [.inl l1, .inr (.inr v11)]) [(.iload_n 1, 1)] (by decide +kernel) rfl ?_
        refine zV_cvr (As := [.inl l1]) (st := []) (c := 0) (by decide +kernel) (zcl_Jx4a65c_get_915e3 (by decide) (by decide)) ⟨zw_670, zw_671, zw_672⟩ ⟨⟨_, _, rfl⟩, by decide⟩ rfl rfl (Nat.le_of_ble_eq_true rfl) h (fun _ _ e => zc_Jx4a65c_get_915e3 e) (fun M12 v12 _ h => ?_)
        refine zV_cc (by decide +kernel) zck_RX11_156 h (fun _ _ h => ?_)
        refine zV_b (pc' := 56) (lv' := [(3, .inr (.inr v12)), (2, .inl v6), (0, .inr (.inr l0)), (1, .inl l1)]) (st' := [.inr (.inr v12)]) [(.astore_n 3, 1), (.aload_n 3, 1)] (by decide +kernel) rfl ?_
        refine zV_cvi (As := []) (st := []) (c := 1) (by decide +kernel) (zcl_X0_inCask (by decide) (by decide)) ⟨zw_780, zw_781, zw_782⟩ ⟨⟨_, _, rfl⟩, by decide⟩ rfl rfl (Nat.le_of_ble_eq_true rfl) h (fun _ _ e => zc_X0_inCask e) (fun M14 v14 _ h => ?_)
        refine zV_if_ne (off := 13) (tgt := 72) (by decide +kernel) (by decide) h (fun c15 h => ?_) (fun c15 h => ?_)
        · refine zV_b (pc' := 63) (lv' := [(3, .inr (.inr v12)), (2, .inl v6), (0, .inr (.inr l0)), (1, .inl l1)]) (st' := [.inr (.inr l0)]) [(.aload_n 0, 1)] (by decide +kernel) rfl ?_
          refine zV_gr (by decide +kernel) zfl_RX11_28 (by decide) rfl h (fun v16 _ h => ?_)
          refine zV_cvi (As := []) (st := []) (c := 6) (by decide +kernel) (zcl_X5_anyInCask (by decide) (by decide)) ⟨zw_972, zw_973, zw_974⟩ ⟨⟨_, _, rfl⟩, by decide⟩ rfl rfl (Nat.le_of_ble_eq_true rfl) h (fun _ _ e => zc_X5_anyInCask e) (fun M17 v17 _ h => ?_)
          refine zV_if_eq (off := 7) (tgt := 76) (by decide +kernel) (by decide) h (fun c18 h => ?_) (fun c18 h => ?_)
          · refine zV_b (pc' := 77) (lv' := [(3, .inr (.inr v12)), (2, .inl v6), (0, .inr (.inr l0)), (1, .inl l1)]) (st' := [.inr (.inr l0)]) [(.aload_n 0, 1)] (by decide +kernel) rfl ?_
            refine zV_gr (by decide +kernel) zfl_RX11_28 (by decide) rfl h (fun v19 _ h => ?_)
            refine zV_b (pc' := 81) (lv' := [(3, .inr (.inr v12)), (2, .inl v6), (0, .inr (.inr l0)), (1, .inl l1)]) (st' := [.inr (.inr l0), .inr (.inr v19)]) [(.aload_n 0, 1)] (by decide +kernel) rfl ?_
            refine zV_gr (by decide +kernel) zfl_RX11_86 (by decide) rfl h (fun v20 _ h => ?_)
            refine zV_cvi (As := [.inr (.inr v20)]) (st := []) (c := 6) (by decide +kernel) (zcl_X5_allSpared (by decide) (by decide)) ⟨zw_977, zw_978, zw_979⟩ ⟨⟨_, _, rfl⟩, by decide⟩ rfl rfl (Nat.le_of_ble_eq_true rfl) h (fun _ _ e => zc_X5_allSpared e) (fun M21 v21 _ h => ?_)
            refine zV_if_ne (off := 7) (tgt := 94) (by decide +kernel) (by decide) h (fun c22 h => ?_) (fun c22 h => ?_)
            · refine zV_ldc2 (by decide +kernel) zw_873 ?_
              exact zend_j h hR (by decide +kernel)
            · refine zV_b (pc' := 95) (lv' := [(3, .inr (.inr v12)), (2, .inl v6), (0, .inr (.inr l0)), (1, .inl l1)]) (st' := [.inr (.inr l0)]) [(.aload_n 0, 1)] (by decide +kernel) rfl ?_
              refine zV_gr (by decide +kernel) zfl_RX11_28 (by decide) rfl h (fun v25 _ h => ?_)
              refine zV_cvj (As := []) (st := []) (c := 6) (by decide +kernel) (zcl_X5_sum (by decide) (by decide)) ⟨zw_982, zw_983, zw_984⟩ ⟨⟨_, _, rfl⟩, by decide⟩ rfl rfl (Nat.le_of_ble_eq_true rfl) h (fun _ _ e => zc_X5_sum e) (fun M26 v26 _ h => ?_)
              refine zV_b (pc' := 104) (lv' := [(4, .inr (.inl v26)), (3, .inr (.inr v12)), (2, .inl v6), (0, .inr (.inr l0)), (1, .inl l1)]) (st' := [.inr (.inr v12)]) [(.lstore 4, 2), (.aload_n 3, 1)] (by decide +kernel) rfl ?_
              refine zV_gr (by decide +kernel) zfl_RX11_268 (by decide) rfl h (fun v27 _ h => ?_)
              refine zV_gj (by decide +kernel) zfl_RX11_271 (by decide) rfl h (fun v28 _ h => ?_)
              refine zV_b (pc' := 115) (lv' := [(4, .inr (.inl v26)), (3, .inr (.inr v12)), (2, .inl v6), (0, .inr (.inr l0)), (1, .inl l1)]) (st' := [.inr (.inr l0), .inr (.inr v12), .inr (.inl (v28 + v26))]) [(.lload 4, 2), (.ladd, 1), (.aload_n 3, 1), (.aload_n 0, 1)] (by decide +kernel) rfl ?_
              refine zV_gr (by decide +kernel) zfl_RX11_86 (by decide) rfl h (fun v29 _ h => ?_)
              refine zV_cvj (As := [.inr (.inr v29)]) (st := [.inr (.inl (v28 + v26))]) (c := 1) (by decide +kernel) (zcl_X0_takesInAll (by decide) (by decide)) ⟨zw_784, zw_785, zw_786⟩ ⟨⟨_, _, rfl⟩, by decide⟩ rfl rfl (Nat.le_of_ble_eq_true rfl) h (fun _ _ e => zc_X0_takesInAll e) (fun M30 v30 _ h => ?_)
              refine zV_lcmp_le (off := 7) (tgt := 129) (by decide +kernel) (by decide +kernel) (by decide) h (fun c31 h => ?_) (fun c31 h => ?_)
              · refine zV_b (pc' := 130) (lv' := [(4, .inr (.inl v26)), (3, .inr (.inr v12)), (2, .inl v6), (0, .inr (.inr l0)), (1, .inl l1)]) (st' := [.inr (.inr l0)]) [(.aload_n 0, 1)] (by decide +kernel) rfl ?_
                refine zV_cvv (As := []) (st := []) (c := 12) (by decide +kernel) (zcl_X11_drawPicked (by decide) (by decide)) ⟨zw_986, zw_988, zw_36⟩ ⟨⟨_, _, rfl⟩, by decide⟩ rfl rfl (Nat.le_of_ble_eq_true rfl) h (fun _ _ e => zc_X11_drawPicked e) (fun M32 _ _ h => ?_)
                refine zV_b (pc' := 135) (lv' := [(4, .inr (.inl v26)), (3, .inr (.inr v12)), (2, .inl v6), (0, .inr (.inr l0)), (1, .inl l1)]) (st' := [.inr (.inr v12), .inr (.inr l0)]) [(.aload_n 0, 1), (.aload_n 3, 1)] (by decide +kernel) rfl ?_
                refine zV_cvi (As := [.inr (.inr v12)]) (st := []) (c := 12) (by decide +kernel) (zcl_X11_hasTooManyPartsFor (by decide) (by decide)) ⟨zw_903, zw_905, zw_31⟩ ⟨⟨_, _, rfl⟩, by decide⟩ rfl rfl (Nat.le_of_ble_eq_true rfl) h (fun _ _ e => zc_X11_hasTooManyPartsFor e) (fun M33 v33 _ h => ?_)
                refine zV_if_eq (off := 7) (tgt := 145) (by decide +kernel) (by decide) h (fun c34 h => ?_) (fun c34 h => ?_)
                · refine zV_b (pc' := 146) (lv' := [(4, .inr (.inl v26)), (3, .inr (.inr v12)), (2, .inl v6), (0, .inr (.inr l0)), (1, .inl l1)]) (st' := [.inr (.inr l0)]) [(.aload_n 0, 1)] (by decide +kernel) rfl ?_
                  refine zV_cvv (As := []) (st := []) (c := 12) (by decide +kernel) (zcl_X11_remember (by decide) (by decide)) ⟨zw_469, zw_471, zw_2⟩ ⟨⟨_, _, rfl⟩, by decide⟩ rfl rfl (Nat.le_of_ble_eq_true rfl) h (fun _ _ e => zc_X11_remember e) (fun M35 _ _ h => ?_)
                  refine zV_b (pc' := 151) (lv' := [(4, .inr (.inl v26)), (3, .inr (.inr v12)), (2, .inl v6), (0, .inr (.inr l0)), (1, .inl l1)]) (st' := [.inr (.inr v12), .inr (.inr l0)]) [(.aload_n 0, 1), (.aload_n 3, 1)] (by decide +kernel) rfl ?_
                  refine zV_cvv (As := [.inr (.inr v12)]) (st := []) (c := 12) (by decide +kernel) (zcl_X11_pourInto (by decide) (by decide)) ⟨zw_911, zw_913, zw_32⟩ ⟨⟨_, _, rfl⟩, by decide⟩ rfl rfl (Nat.le_of_ble_eq_true rfl) h (fun _ _ e => zc_X11_pourInto e) (fun M36 _ _ h => ?_)
                  refine zV_b (pc' := 157) (lv' := [(6, .inl (0 : Int32)), (4, .inr (.inl v26)), (3, .inr (.inr v12)), (2, .inl v6), (0, .inr (.inr l0)), (1, .inl l1)]) (st' := []) [(.iconst 0, 1), (.istore 6, 2)] (by decide +kernel) rfl ?_
                  obtain ⟨y51, e51, h⟩ := zb1_inv h
                  refine zV_lv (lv' := [(0, .inr (.inr l0)), (1, .inl l1), (4, .inr (.inl v26)), (6, .inl (0 : Int32))]) [4, 5, 1, 0] rfl (zt_X11_blendInto_L157 e51 ?_)
                  obtain ⟨M157_51, l6_51⟩ := y51
                  show zV X zC_X11_blendInto M157_51 211 [(0, .inr (.inr l0)), (4, .inr (.inl v26))] []
                  refine zV_b (pc' := 212) (lv' := [(0, .inr (.inr l0)), (4, .inr (.inl v26))]) (st' := [.inr (.inr l0)]) [(.aload_n 0, 1)] (by decide +kernel) rfl ?_
                  refine zV_gr (by decide +kernel) zfl_RX11_28 (by decide) rfl h (fun v52 _ h => ?_)
                  refine zV_cvv (As := []) (st := []) (c := 6) (by decide +kernel) (zcl_X5_clear (by decide) (by decide)) ⟨zw_960, zw_961, zw_962⟩ ⟨⟨_, _, rfl⟩, by decide⟩ rfl rfl (Nat.le_of_ble_eq_true rfl) h (fun _ _ e => zc_X5_clear e) (fun M53 _ _ h => ?_)
                  refine zV_b (pc' := 220) (lv' := [(0, .inr (.inr l0)), (4, .inr (.inl v26))]) (st' := [.inr (.inl v26)]) [(.lload 4, 2)] (by decide +kernel) rfl ?_
                  exact zend_j h hR (by decide +kernel)
                · refine zV_ldc2 (by decide +kernel) zw_527 ?_
                  exact zend_j h hR (by decide +kernel)
              · refine zV_ldc2 (by decide +kernel) zw_804 ?_
                exact zend_j h hR (by decide +kernel)
          · exact zV_lv (lv' := []) [] rfl (zt_X11_blendInto_J72 h hR)
        · exact zV_lv (lv' := []) [] rfl (zt_X11_blendInto_J72 h hR)
      · refine zV_ldc2 (by decide +kernel) zw_951 ?_
        exact zend_j h hR (by decide +kernel)
    · refine zV_b (pc' := 27) (lv' := [(2, .inl v6), (0, .inr (.inr l0)), (1, .inl l1)]) (st' := [.inr (.inl (((-v6)).toInt64))]) [(.iload_n 2, 1), (.ineg, 1), (.i2l, 1)] (by decide +kernel) rfl ?_
      exact zend_j h hR (by decide +kernel)
theorem zc_X11_blendInto {M M' : Zm} {l0 : Option Nat} {l1 : Int32} {x : Int64} (h : zf_X11_blendInto M l0 l1 = some (M', x)) (l : Launch) (D : va_G) (cy : Nat → ClassId) : zMet l yX11_blendInto zC_X11_blendInto (some .long) D cy [.inr (.inr l0), .inl l1] M M' (some (.inr (.inl x))) :=
  zM_j (by decide) rfl (fun h => by cases h) (Nat.le_of_ble_eq_true rfl) (fun X hR => zt_X11_blendInto h hR)
-- BlendCellar.blend(I)J
def zC_X11_blend : Zc := (cX11_blend, 2, RX11, 11, 248, false)
theorem zcl_X11_blend {C : Zc} (h1 : zC_X11_blend.2.2.2.1 + 1 ≤ C.2.2.2.1) (h2 : 8 + (zC_X11_blend.2.1 + 11) + zC_X11_blend.2.2.2.2.1 ≤ C.2.2.2.2.1) : zCl C yX11_blend zC_X11_blend (some .long) 1 := ⟨zw_967, zw_101, ⟨by decide, by decide⟩, by decide +kernel, h1, h2⟩
noncomputable def zf_X11_blend (M : Zm) (l0 : Option Nat) (l1 : Int32) : Option (Zm × Int64) :=
  zb1 (zo_rc M l0 12) (fun _ => zbd (zf_X11_openTap M l0) (fun M1 _ =>
  zb1 (zo_rc M1 l0 12) (fun _ => zbd (zf_X11_blendInto M1 l0 l1) (fun M2 v2 =>
  zb1 (zo_rc M2 l0 12) (fun _ => zbd (zf_X11_closeTap M2 l0 v2) (fun M3 v3 =>
  some (M3, v3)))))))
set_option maxRecDepth 100000 in
theorem zt_X11_blend {X : Zx} {M : Zm} {l0 : Option Nat} {l1 : Int32} {z : Zm × Int64} (h : zf_X11_blend M l0 l1 = some z) (hR : zRj X zC_X11_blend z.1 z.2) : zV X zC_X11_blend M 0 [(0, .inr (.inr l0)), (1, .inl l1)] [] := by
  unfold zf_X11_blend at h
  refine zV_b (pc' := 1) (lv' := [(0, .inr (.inr l0)), (1, .inl l1)]) (st' := [.inr (.inr l0)]) [(.aload_n 0, 1)] (by decide +kernel) rfl ?_
  refine zV_cvv (As := []) (st := []) (c := 12) (by decide +kernel) (zcl_X11_openTap (by decide) (by decide)) ⟨zw_453, zw_455, zw_0⟩ ⟨⟨_, _, rfl⟩, by decide⟩ rfl rfl (Nat.le_of_ble_eq_true rfl) h (fun _ _ e => zc_X11_openTap e) (fun M1 _ _ h => ?_)
  refine zV_b (pc' := 7) (lv' := [(0, .inr (.inr l0)), (1, .inl l1)]) (st' := [.inl l1, .inr (.inr l0), .inr (.inr l0)]) [(.aload_n 0, 1), (.aload_n 0, 1), (.iload_n 1, 1)] (by decide +kernel) rfl ?_
  refine zV_cvj (As := [.inl l1]) (st := [.inr (.inr l0)]) (c := 12) (by decide +kernel) (zcl_X11_blendInto (by decide) (by decide)) ⟨zw_968, zw_970, zw_35⟩ ⟨⟨_, _, rfl⟩, by decide⟩ rfl rfl (Nat.le_of_ble_eq_true rfl) h (fun _ _ e => zc_X11_blendInto e) (fun M2 v2 _ h => ?_)
  refine zV_cvj (As := [.inr (.inl v2)]) (st := []) (c := 12) (by decide +kernel) (zcl_X11_closeTap (by decide) (by decide)) ⟨zw_510, zw_512, zw_3⟩ ⟨⟨_, _, rfl⟩, by decide⟩ rfl rfl (Nat.le_of_ble_eq_true rfl) h (fun _ _ e => zc_X11_closeTap e) (fun M3 v3 _ h => ?_)
  exact zend_j h hR (by decide +kernel)
theorem zc_X11_blend {M M' : Zm} {l0 : Option Nat} {l1 : Int32} {x : Int64} (h : zf_X11_blend M l0 l1 = some (M', x)) (l : Launch) (D : va_G) (cy : Nat → ClassId) : zMet l yX11_blend zC_X11_blend (some .long) D cy [.inr (.inr l0), .inl l1] M M' (some (.inr (.inl x))) :=
  zM_j (by decide) rfl (fun h => by cases h) (Nat.le_of_ble_eq_true rfl) (fun X hR => zt_X11_blend h hR)
-- BlendCellar.drawOff(LBlendCellar$Barrel;JI)V
def zC_X11_drawOff : Zc := (cX11_drawOff, 5, RX11, 9, 201, false)
theorem zcl_X11_drawOff {C : Zc} (h1 : zC_X11_drawOff.2.2.2.1 + 1 ≤ C.2.2.2.1) (h2 : 8 + (zC_X11_drawOff.2.1 + 11) + zC_X11_drawOff.2.2.2.2.1 ≤ C.2.2.2.2.1) : zCl C yX11_drawOff zC_X11_drawOff none 3 := ⟨zw_1027, zw_101, ⟨by decide, by decide⟩, by decide +kernel, h1, h2⟩
noncomputable def zf_X11_drawOff (M : Zm) (l0 : Option Nat) (l1 : Option Nat) (l2 : Int64) (l4 : Int32) : Option (Zm × Unit) :=
  zb1 (zo_gr M l0 12 10) (fun v1 =>
  zb1 (zo_rc M v1 3) (fun _ => zbd (zf_X2_clear M v1) (fun M2 _ =>
  zb1 (zo_gr M2 l0 12 10) (fun v3 =>
  zb1 (zo_gr M2 l0 12 12) (fun v4 =>
  zb1 (zo_rc M2 v3 3) (fun _ => zbd (zf_X2_drawFrom M2 v3 l1 l2 v4) (fun M5 _ =>
  zb1 (zo_rc M5 l0 12) (fun _ => zbd (zf_X11_remember M5 l0) (fun M6 _ =>
  zb1 (zo_gr M6 l0 12 11) (fun v7 =>
  zb1 (zo_gr M6 l0 12 6) (fun v8 =>
  zb1 (zo_ar M6 18 v8 l4) (fun v9 =>
  zb1 (zo_rc M6 v7 2) (fun _ => zbd (zf_X1_keepAccount M6 v7 l4 v9) (fun M10 _ =>
  zb1 (zo_gr M10 l0 12 10) (fun v11 =>
  zb1 (zo_gr M10 l0 12 11) (fun v12 =>
  zb1 (zo_gr M10 l0 12 6) (fun v13 =>
  zb1 (zo_ar M10 18 v13 l4) (fun v14 =>
  zb1 (zo_rc M10 v11 3) (fun _ => zbd (zf_X2_carryOut M10 v11 v12 v14) (fun M15 _ =>
  some (M15, ())))))))))))))))))))))
set_option maxRecDepth 100000 in
theorem zt_X11_drawOff {X : Zx} {M : Zm} {l0 : Option Nat} {l1 : Option Nat} {l2 : Int64} {l4 : Int32} {z : Zm × Unit} (h : zf_X11_drawOff M l0 l1 l2 l4 = some z) (hR : zRv X zC_X11_drawOff z.1) : zV X zC_X11_drawOff M 0 [(0, .inr (.inr l0)), (1, .inr (.inr l1)), (2, .inr (.inl l2)), (4, .inl l4)] [] := by
  unfold zf_X11_drawOff at h
  refine zV_b (pc' := 1) (lv' := [(0, .inr (.inr l0)), (1, .inr (.inr l1)), (2, .inr (.inl l2)), (4, .inl l4)]) (st' := [.inr (.inr l0)]) [(.aload_n 0, 1)] (by decide +kernel) rfl ?_
  refine zV_gr (by decide +kernel) zfl_RX11_72 (by decide) rfl h (fun v1 _ h => ?_)
  refine zV_cvv (As := []) (st := []) (c := 3) (by decide +kernel) (zcl_X2_clear (by decide) (by decide)) ⟨zw_874, zw_875, zw_876⟩ ⟨⟨_, _, rfl⟩, by decide⟩ rfl rfl (Nat.le_of_ble_eq_true rfl) h (fun _ _ e => zc_X2_clear e) (fun M2 _ _ h => ?_)
  refine zV_b (pc' := 8) (lv' := [(0, .inr (.inr l0)), (1, .inr (.inr l1)), (2, .inr (.inl l2)), (4, .inl l4)]) (st' := [.inr (.inr l0)]) [(.aload_n 0, 1)] (by decide +kernel) rfl ?_
  refine zV_gr (by decide +kernel) zfl_RX11_72 (by decide) rfl h (fun v3 _ h => ?_)
  refine zV_b (pc' := 14) (lv' := [(0, .inr (.inr l0)), (1, .inr (.inr l1)), (2, .inr (.inl l2)), (4, .inl l4)]) (st' := [.inr (.inr l0), .inr (.inl l2), .inr (.inr l1), .inr (.inr v3)]) [(.aload_n 1, 1), (.lload_n 2, 1), (.aload_n 0, 1)] (by decide +kernel) rfl ?_
  refine zV_gr (by decide +kernel) zfl_RX11_86 (by decide) rfl h (fun v4 _ h => ?_)
  refine zV_cvv (As := [.inr (.inr l1), .inr (.inl l2), .inr (.inr v4)]) (st := []) (c := 3) (by decide +kernel) (zcl_X2_drawFrom (by decide) (by decide)) ⟨zw_882, zw_883, zw_884⟩ ⟨⟨_, _, rfl⟩, by decide⟩ rfl rfl (Nat.le_of_ble_eq_true rfl) h (fun _ _ e => zc_X2_drawFrom e) (fun M5 _ _ h => ?_)
  refine zV_b (pc' := 21) (lv' := [(0, .inr (.inr l0)), (1, .inr (.inr l1)), (2, .inr (.inl l2)), (4, .inl l4)]) (st' := [.inr (.inr l0)]) [(.aload_n 0, 1)] (by decide +kernel) rfl ?_
  refine zV_cvv (As := []) (st := []) (c := 12) (by decide +kernel) (zcl_X11_remember (by decide) (by decide)) ⟨zw_469, zw_471, zw_2⟩ ⟨⟨_, _, rfl⟩, by decide⟩ rfl rfl (Nat.le_of_ble_eq_true rfl) h (fun _ _ e => zc_X11_remember e) (fun M6 _ _ h => ?_)
  refine zV_b (pc' := 25) (lv' := [(0, .inr (.inr l0)), (1, .inr (.inr l1)), (2, .inr (.inl l2)), (4, .inl l4)]) (st' := [.inr (.inr l0)]) [(.aload_n 0, 1)] (by decide +kernel) rfl ?_
  refine zV_gr (by decide +kernel) zfl_RX11_79 (by decide) rfl h (fun v7 _ h => ?_)
  refine zV_b (pc' := 31) (lv' := [(0, .inr (.inr l0)), (1, .inr (.inr l1)), (2, .inr (.inl l2)), (4, .inl l4)]) (st' := [.inr (.inr l0), .inl l4, .inr (.inr v7)]) [(.iload 4, 2), (.aload_n 0, 1)] (by decide +kernel) rfl ?_
  refine zV_gr (by decide +kernel) zfl_RX11_50 (by decide) rfl h (fun v8 _ h => ?_)
  refine zV_b (pc' := 36) (lv' := [(0, .inr (.inr l0)), (1, .inr (.inr l1)), (2, .inr (.inl l2)), (4, .inl l4)]) (st' := [.inl l4, .inr (.inr v8), .inl l4, .inr (.inr v7)]) [(.iload 4, 2)] (by decide +kernel) rfl ?_
  refine zV_ar (by decide +kernel) (by decide) (by decide) h (fun v9 _ h => ?_)
  refine zV_cvv (As := [.inl l4, .inr (.inr v9)]) (st := []) (c := 2) (by decide +kernel) (zcl_X1_keepAccount (by decide) (by decide)) ⟨zw_817, zw_818, zw_819⟩ ⟨⟨_, _, rfl⟩, by decide⟩ rfl rfl (Nat.le_of_ble_eq_true rfl) h (fun _ _ e => zc_X1_keepAccount e) (fun M10 _ _ h => ?_)
  refine zV_b (pc' := 41) (lv' := [(0, .inr (.inr l0)), (1, .inr (.inr l1)), (2, .inr (.inl l2)), (4, .inl l4)]) (st' := [.inr (.inr l0)]) [(.aload_n 0, 1)] (by decide +kernel) rfl ?_
  refine zV_gr (by decide +kernel) zfl_RX11_72 (by decide) rfl h (fun v11 _ h => ?_)
  refine zV_b (pc' := 45) (lv' := [(0, .inr (.inr l0)), (1, .inr (.inr l1)), (2, .inr (.inl l2)), (4, .inl l4)]) (st' := [.inr (.inr l0), .inr (.inr v11)]) [(.aload_n 0, 1)] (by decide +kernel) rfl ?_
  refine zV_gr (by decide +kernel) zfl_RX11_79 (by decide) rfl h (fun v12 _ h => ?_)
  refine zV_b (pc' := 49) (lv' := [(0, .inr (.inr l0)), (1, .inr (.inr l1)), (2, .inr (.inl l2)), (4, .inl l4)]) (st' := [.inr (.inr l0), .inr (.inr v12), .inr (.inr v11)]) [(.aload_n 0, 1)] (by decide +kernel) rfl ?_
  refine zV_gr (by decide +kernel) zfl_RX11_50 (by decide) rfl h (fun v13 _ h => ?_)
  refine zV_b (pc' := 54) (lv' := [(0, .inr (.inr l0)), (1, .inr (.inr l1)), (2, .inr (.inl l2)), (4, .inl l4)]) (st' := [.inl l4, .inr (.inr v13), .inr (.inr v12), .inr (.inr v11)]) [(.iload 4, 2)] (by decide +kernel) rfl ?_
  refine zV_ar (by decide +kernel) (by decide) (by decide) h (fun v14 _ h => ?_)
  refine zV_cvv (As := [.inr (.inr v12), .inr (.inr v14)]) (st := []) (c := 3) (by decide +kernel) (zcl_X2_carryOut (by decide) (by decide)) ⟨zw_915, zw_916, zw_917⟩ ⟨⟨_, _, rfl⟩, by decide⟩ rfl rfl (Nat.le_of_ble_eq_true rfl) h (fun _ _ e => zc_X2_carryOut e) (fun M15 _ _ h => ?_)
  exact zend_v h hR (by decide +kernel)
theorem zc_X11_drawOff {M M' : Zm} {l0 : Option Nat} {l1 : Option Nat} {l2 : Int64} {l4 : Int32} {x : Unit} (h : zf_X11_drawOff M l0 l1 l2 l4 = some (M', x)) (l : Launch) (D : va_G) (cy : Nat → ClassId) : zMet l yX11_drawOff zC_X11_drawOff none D cy [.inr (.inr l0), .inr (.inr l1), .inr (.inl l2), .inl l4] M M' none :=
  zM_v (by decide) rfl (fun h => by cases h) (Nat.le_of_ble_eq_true rfl) (fun X hR => zt_X11_drawOff h hR)
-- BlendCellar.isMl(J)Z
def zC_X11_isMl : Zc := (cX11_isMl, 2, RX11, 0, 0, false)
theorem zcl_X11_isMl {C : Zc} (h1 : zC_X11_isMl.2.2.2.1 + 1 ≤ C.2.2.2.1) (h2 : 8 + (zC_X11_isMl.2.1 + 11) + zC_X11_isMl.2.2.2.2.1 ≤ C.2.2.2.2.1) : zCl C yX11_isMl zC_X11_isMl (some .boolean) 1 := ⟨zw_774, zw_101, ⟨by decide, by decide⟩, by decide +kernel, h1, h2⟩
noncomputable def zf_X11_isMl (M : Zm) (l0 : Int64) : Option (Zm × Int32) :=
  (if l0 < (1 : Int64) then
  zb1 (zo_b (0 : Int32)) (fun w => some (M, w))
  else
  (if (1000000000 : Int64) < l0 then
  zb1 (zo_b (0 : Int32)) (fun w => some (M, w))
  else
  zb1 (zo_b (1 : Int32)) (fun w => some (M, w))))
set_option maxRecDepth 100000 in
theorem zt_X11_isMl {X : Zx} {M : Zm} {l0 : Int64} {z : Zm × Int32} (h : zf_X11_isMl M l0 = some z) (hR : zRz X zC_X11_isMl z.1 z.2) : zV X zC_X11_isMl M 0 [(0, .inr (.inl l0))] [] := by
  unfold zf_X11_isMl at h
  refine zV_b (pc' := 2) (lv' := [(0, .inr (.inl l0))]) (st' := [.inr (.inl (1 : Int64)), .inr (.inl l0)]) [(.lload_n 0, 1), (.lconst 1, 1)] (by decide +kernel) rfl ?_
  refine zV_lcmp_lt (off := 15) (tgt := 18) (by decide +kernel) (by decide +kernel) (by decide) h (fun c1 h => ?_) (fun c1 h => ?_)
  · refine zV_b (pc' := 19) (lv' := [(0, .inr (.inl l0))]) (st' := [.inl (0 : Int32)]) [(.iconst 0, 1)] (by decide +kernel) rfl ?_
    exact zend_z h hR (by decide +kernel)
  · refine zV_b (pc' := 7) (lv' := [(0, .inr (.inl l0))]) (st' := [.inr (.inl l0)]) [(.lload_n 0, 1)] (by decide +kernel) rfl ?_
    refine zV_ldc2 (by decide +kernel) zw_775 ?_
    refine zV_lcmp_gt (off := 7) (tgt := 18) (by decide +kernel) (by decide +kernel) (by decide) h (fun c4 h => ?_) (fun c4 h => ?_)
    · refine zV_b (pc' := 19) (lv' := [(0, .inr (.inl l0))]) (st' := [.inl (0 : Int32)]) [(.iconst 0, 1)] (by decide +kernel) rfl ?_
      exact zend_z h hR (by decide +kernel)
    · refine zV_b (pc' := 15) (lv' := [(0, .inr (.inl l0))]) (st' := [.inl (1 : Int32)]) [(.iconst 1, 1)] (by decide +kernel) rfl ?_
      refine zV_goto (off := 4) (tgt := 19) (by decide +kernel) (by decide) ?_
      exact zend_z h hR (by decide +kernel)
theorem zc_X11_isMl {M M' : Zm} {l0 : Int64} {x : Int32} (h : zf_X11_isMl M l0 = some (M', x)) (l : Launch) (D : va_G) (cy : Nat → ClassId) : zMet l yX11_isMl zC_X11_isMl (some .boolean) D cy [.inr (.inl l0)] M M' (some (.inl x)) :=
  zM_b (by decide) rfl (fun h => by cases h) (Nat.le_of_ble_eq_true rfl) (fun X hR => zt_X11_isMl h hR)
-- BlendCellar.fillBottles(IIJ)J
def zC_X11_fillBottles : Zc := (cX11_fillBottles, 9, RX11, 10, 225, false)
theorem zcl_X11_fillBottles {C : Zc} (h1 : zC_X11_fillBottles.2.2.2.1 + 1 ≤ C.2.2.2.1) (h2 : 8 + (zC_X11_fillBottles.2.1 + 11) + zC_X11_fillBottles.2.2.2.2.1 ≤ C.2.2.2.2.1) : zCl C yX11_fillBottles zC_X11_fillBottles (some .long) 3 := ⟨zw_1022, zw_101, ⟨by decide, by decide⟩, by decide +kernel, h1, h2⟩
noncomputable def zf_X11_fillBottles_J18 (M : Zm)  : Option (Zm × Int64) :=
  some (M, (-1 : Int64))
noncomputable def zf_X11_fillBottles (M : Zm) (l0 : Option Nat) (l1 : Int32) (l2 : Int32) (l3 : Int64) : Option (Zm × Int64) :=
  (if l2 < 0 then
  zf_X11_fillBottles_J18 M
  else
  (if (1000000 : Int32) < l2 then
  zf_X11_fillBottles_J18 M
  else
  zbd (zf_X11_isMl M l3) (fun M6 v6 =>
  (if v6 = 0 then
  zf_X11_fillBottles_J18 M6
  else
  zb1 (zo_rc M6 l0 12) (fun _ => zbd (zf_X11_lookUp M6 l0 l1) (fun M8 v8 =>
  (if v8 = 0 then
  zb1 (zo_gr M8 l0 12 0) (fun v10 =>
  zb1 (zo_rc M8 v10 0) (fun _ => zbd (zf_Jx4a65c_get_915e3 M8 v10 l1) (fun M11 v11 =>
  zb1 (zo_cc M11 v11 1) (fun _ =>
  zb1 (zo_rc M11 v11 1) (fun _ => zbd (zf_X0_inCask M11 v11) (fun M13 v13 =>
  (if v13 = 0 then
  zb1 (zo_gr M13 l0 12 12) (fun v15 =>
  zb1 (zo_rc M13 v11 1) (fun _ => zbd (zf_X0_maySpare M13 v11 v15) (fun M16 v16 =>
  (if l3 ≤ v16 then
  (if l2 = 0 then
  some (M16, (-5 : Int64))
  else
  zb1 (zo_ld l3 (l2.toInt64)) (fun v21 =>
  (if v21 = (0 : Int64) then
  some (M16, (-10 : Int64))
  else
  zb1 (zo_rc M16 l0 12) (fun _ => zbd (zf_X11_drawOff M16 l0 v11 (v21 * (l2.toInt64)) (4 : Int32)) (fun M25 _ =>
  zb1 (zo_gj M25 l0 12 15) (fun v26 =>
  zb1 (zo_pj M25 l0 12 15 (v26 + (1 : Int64))) (fun M27 =>
  zb1 (zo_gr M27 l0 12 9) (fun v28 =>
  zb1 (zo_gj M27 l0 12 15) (fun v29 =>
  zb1 (zo_rc M27 v28 5) (fun _ => zbd (zf_X4_add M27 v28 v29 (l1.toInt64) (l2.toInt64) v21) (fun M30 _ =>
  zb1 (zo_gr M30 l0 12 8) (fun v31 =>
  zb1 (zo_rc M30 v31 5) (fun _ => zbd (zf_X4_add M30 v31 (6 : Int64) (l1.toInt64) (-1 : Int64) (v21 * (l2.toInt64))) (fun M34 _ =>
  zb1 (zo_gj M34 l0 12 15) (fun v35 =>
  some (M34, v35))))))))))))))))
  else
  some (M16, (-10 : Int64))))))
  else
  some (M13, (-9 : Int64)))))))))
  else
  some (M8, (((-v8)).toInt64)))))))))
set_option maxRecDepth 100000 in
theorem zt_X11_fillBottles_J18 {X : Zx} {M : Zm}  {z : Zm × Int64} (h : zf_X11_fillBottles_J18 M  = some z) (hR : zRj X zC_X11_fillBottles z.1 z.2) : zV X zC_X11_fillBottles M 18 [] [] := by
  unfold zf_X11_fillBottles_J18 at h
  refine zV_ldc2 (by decide +kernel) zw_465 ?_
  exact zend_j h hR (by decide +kernel)
set_option maxRecDepth 100000 in
theorem zt_X11_fillBottles {X : Zx} {M : Zm} {l0 : Option Nat} {l1 : Int32} {l2 : Int32} {l3 : Int64} {z : Zm × Int64} (h : zf_X11_fillBottles M l0 l1 l2 l3 = some z) (hR : zRj X zC_X11_fillBottles z.1 z.2) : zV X zC_X11_fillBottles M 0 [(0, .inr (.inr l0)), (1, .inl l1), (2, .inl l2), (3, .inr (.inl l3))] [] := by
  unfold zf_X11_fillBottles at h
  refine zV_b (pc' := 1) (lv' := [(0, .inr (.inr l0)), (1, .inl l1), (2, .inl l2), (3, .inr (.inl l3))]) (st' := [.inl l2]) [(.iload_n 2, 1)] (by decide +kernel) rfl ?_
  refine zV_if_lt (off := 17) (tgt := 18) (by decide +kernel) (by decide) h (fun c1 h => ?_) (fun c1 h => ?_)
  · exact zV_lv (lv' := []) [] rfl (zt_X11_fillBottles_J18 h hR)
  · refine zV_b (pc' := 5) (lv' := [(0, .inr (.inr l0)), (1, .inl l1), (2, .inl l2), (3, .inr (.inl l3))]) (st' := [.inl l2]) [(.iload_n 2, 1)] (by decide +kernel) rfl ?_
    refine zV_ldcw (by decide +kernel) zw_525 ?_
    refine zV_icmp_gt (off := 10) (tgt := 18) (by decide +kernel) (by decide) h (fun c5 h => ?_) (fun c5 h => ?_)
    · exact zV_lv (lv' := []) [] rfl (zt_X11_fillBottles_J18 h hR)
    · refine zV_b (pc' := 12) (lv' := [(0, .inr (.inr l0)), (1, .inl l1), (2, .inl l2), (3, .inr (.inl l3))]) (st' := [.inr (.inl l3)]) [(.lload_n 3, 1)] (by decide +kernel) rfl ?_
      refine zV_csi (As := [.inr (.inl l3)]) (st := []) (by decide +kernel) (zcl_X11_isMl (by decide) (by decide)) ⟨zw_772, zw_773⟩ rfl rfl (Nat.le_of_ble_eq_true rfl) h (fun _ _ e => zc_X11_isMl e) (fun M6 v6 _ h => ?_)
      refine zV_if_ne (off := 7) (tgt := 22) (by decide +kernel) (by decide) h (fun c7 h => ?_) (fun c7 h => ?_)
      · exact zV_lv (lv' := []) [] rfl (zt_X11_fillBottles_J18 h hR)
      · refine zV_b (pc' := 24) (lv' := [(0, .inr (.inr l0)), (1, .inl l1), (2, .inl l2), (3, .inr (.inl l3))]) (st' := [.inl l1, .inr (.inr l0)]) [(.aload_n 0, 1), (.iload_n 1, 1)] (by decide +kernel) rfl ?_
        refine zV_cvi (As := [.inl l1]) (st := []) (c := 12) (by decide +kernel) (zcl_X11_lookUp (by decide) (by decide)) ⟨zw_666, zw_668, zw_10⟩ ⟨⟨_, _, rfl⟩, by decide⟩ rfl rfl (Nat.le_of_ble_eq_true rfl) h (fun _ _ e => zc_X11_lookUp e) (fun M8 v8 _ h => ?_)
        refine zV_b (pc' := 31) (lv' := [(5, .inl v8), (0, .inr (.inr l0)), (1, .inl l1), (2, .inl l2), (3, .inr (.inl l3))]) (st' := [.inl v8]) [(.istore 5, 2), (.iload 5, 2)] (by decide +kernel) rfl ?_
        refine zV_if_eq (off := 8) (tgt := 39) (by decide +kernel) (by decide) h (fun c9 h => ?_) (fun c9 h => ?_)
        · refine zV_b (pc' := 40) (lv' := [(5, .inl v8), (0, .inr (.inr l0)), (1, .inl l1), (2, .inl l2), (3, .inr (.inl l3))]) (st' := [.inr (.inr l0)]) [(.aload_n 0, 1)] (by decide +kernel) rfl ?_
          refine zV_gr (by decide +kernel) zfl_RX11_12 (by decide) rfl h (fun v10 _ h => ?_)
          refine zV_b (pc' := 44) (lv' := [(5, .inl v8), (0, .inr (.inr l0)), (1, .inl l1), (2, .inl l2), (3, .inr (.inl l3))]) (st' := [.inl l1, .inr (.inr v10)]) [(.iload_n 1, 1)] (by decide +kernel) rfl ?_
          refine zV_cvr (As := [.inl l1]) (st := []) (c := 0) (by decide +kernel) (zcl_Jx4a65c_get_915e3 (by decide) (by decide)) ⟨zw_670, zw_671, zw_672⟩ ⟨⟨_, _, rfl⟩, by decide⟩ rfl rfl (Nat.le_of_ble_eq_true rfl) h (fun _ _ e => zc_Jx4a65c_get_915e3 e) (fun M11 v11 _ h => ?_)
          refine zV_cc (by decide +kernel) zck_RX11_156 h (fun _ _ h => ?_)
          refine zV_b (pc' := 54) (lv' := [(6, .inr (.inr v11)), (5, .inl v8), (0, .inr (.inr l0)), (1, .inl l1), (2, .inl l2), (3, .inr (.inl l3))]) (st' := [.inr (.inr v11)]) [(.astore 6, 2), (.aload 6, 2)] (by decide +kernel) rfl ?_
          refine zV_cvi (As := []) (st := []) (c := 1) (by decide +kernel) (zcl_X0_inCask (by decide) (by decide)) ⟨zw_780, zw_781, zw_782⟩ ⟨⟨_, _, rfl⟩, by decide⟩ rfl rfl (Nat.le_of_ble_eq_true rfl) h (fun _ _ e => zc_X0_inCask e) (fun M13 v13 _ h => ?_)
          refine zV_if_eq (off := 7) (tgt := 64) (by decide +kernel) (by decide) h (fun c14 h => ?_) (fun c14 h => ?_)
          · refine zV_b (pc' := 68) (lv' := [(6, .inr (.inr v11)), (5, .inl v8), (0, .inr (.inr l0)), (1, .inl l1), (2, .inl l2), (3, .inr (.inl l3))]) (st' := [.inr (.inr l0), .inr (.inr v11), .inr (.inl l3)]) [(.lload_n 3, 1), (.aload 6, 2), (.aload_n 0, 1)] (by decide +kernel) rfl ?_
            refine zV_gr (by decide +kernel) zfl_RX11_86 (by decide) rfl h (fun v15 _ h => ?_)
            refine zV_cvj (As := [.inr (.inr v15)]) (st := [.inr (.inl l3)]) (c := 1) (by decide +kernel) (zcl_X0_maySpare (by decide) (by decide)) ⟨zw_861, zw_862, zw_863⟩ ⟨⟨_, _, rfl⟩, by decide⟩ rfl rfl (Nat.le_of_ble_eq_true rfl) h (fun _ _ e => zc_X0_maySpare e) (fun M16 v16 _ h => ?_)
            refine zV_lcmp_le (off := 7) (tgt := 82) (by decide +kernel) (by decide +kernel) (by decide) h (fun c17 h => ?_) (fun c17 h => ?_)
            · refine zV_b (pc' := 83) (lv' := [(6, .inr (.inr v11)), (5, .inl v8), (0, .inr (.inr l0)), (1, .inl l1), (2, .inl l2), (3, .inr (.inl l3))]) (st' := [.inl l2]) [(.iload_n 2, 1)] (by decide +kernel) rfl ?_
              refine zV_if_ne (off := 7) (tgt := 90) (by decide +kernel) (by decide) h (fun c18 h => ?_) (fun c18 h => ?_)
              · refine zV_ldc2 (by decide +kernel) zw_1023 ?_
                exact zend_j h hR (by decide +kernel)
              · refine zV_b (pc' := 93) (lv' := [(6, .inr (.inr v11)), (5, .inl v8), (0, .inr (.inr l0)), (1, .inl l1), (2, .inl l2), (3, .inr (.inl l3))]) (st' := [.inr (.inl (l2.toInt64)), .inr (.inl l3)]) [(.lload_n 3, 1), (.iload_n 2, 1), (.i2l, 1)] (by decide +kernel) rfl ?_
                refine zV_ld (by decide +kernel) h (fun v21 _ h => ?_)
                refine zV_b (pc' := 99) (lv' := [(7, .inr (.inl v21)), (6, .inr (.inr v11)), (5, .inl v8), (0, .inr (.inr l0)), (1, .inl l1), (2, .inl l2), (3, .inr (.inl l3))]) (st' := [.inr (.inl (0 : Int64)), .inr (.inl v21)]) [(.lstore 7, 2), (.lload 7, 2), (.lconst 0, 1)] (by decide +kernel) rfl ?_
                refine zV_lcmp_ne (off := 7) (tgt := 107) (by decide +kernel) (by decide +kernel) (by decide) h (fun c22 h => ?_) (fun c22 h => ?_)
                · refine zV_ldc2 (by decide +kernel) zw_873 ?_
                  exact zend_j h hR (by decide +kernel)
                · refine zV_b (pc' := 116) (lv' := [(7, .inr (.inl v21)), (6, .inr (.inr v11)), (5, .inl v8), (0, .inr (.inr l0)), (1, .inl l1), (2, .inl l2), (3, .inr (.inl l3))]) (st' := [.inl (4 : Int32), .inr (.inl (v21 * (l2.toInt64))), .inr (.inr v11), .inr (.inr l0)]) [(.aload_n 0, 1), (.aload 6, 2), (.lload 7, 2), (.iload_n 2, 1), (.i2l, 1), (.lmul, 1), (.iconst 4, 1)] (by decide +kernel) rfl ?_
                  refine zV_cvv (As := [.inr (.inr v11), .inr (.inl (v21 * (l2.toInt64))), .inl (4 : Int32)]) (st := []) (c := 12) (by decide +kernel) (zcl_X11_drawOff (by decide) (by decide)) ⟨zw_1024, zw_1026, zw_40⟩ ⟨⟨_, _, rfl⟩, by decide⟩ rfl rfl (Nat.le_of_ble_eq_true rfl) h (fun _ _ e => zc_X11_drawOff e) (fun M25 _ _ h => ?_)
                  refine zV_b (pc' := 121) (lv' := [(7, .inr (.inl v21)), (6, .inr (.inr v11)), (5, .inl v8), (0, .inr (.inr l0)), (1, .inl l1), (2, .inl l2), (3, .inr (.inl l3))]) (st' := [.inr (.inr l0), .inr (.inr l0)]) [(.aload_n 0, 1), (.dup, 1)] (by decide +kernel) rfl ?_
                  refine zV_gj (by decide +kernel) zfl_RX11_97 (by decide) rfl h (fun v26 _ h => ?_)
                  refine zV_b (pc' := 126) (lv' := [(7, .inr (.inl v21)), (6, .inr (.inr v11)), (5, .inl v8), (0, .inr (.inr l0)), (1, .inl l1), (2, .inl l2), (3, .inr (.inl l3))]) (st' := [.inr (.inl (v26 + (1 : Int64))), .inr (.inr l0)]) [(.lconst 1, 1), (.ladd, 1)] (by decide +kernel) rfl ?_
                  refine zV_pj (by decide +kernel) zfp_RX11_97 (by decide) rfl h (fun M27 _ h => ?_)
                  refine zV_b (pc' := 130) (lv' := [(7, .inr (.inl v21)), (6, .inr (.inr v11)), (5, .inl v8), (0, .inr (.inr l0)), (1, .inl l1), (2, .inl l2), (3, .inr (.inl l3))]) (st' := [.inr (.inr l0)]) [(.aload_n 0, 1)] (by decide +kernel) rfl ?_
                  refine zV_gr (by decide +kernel) zfl_RX11_66 (by decide) rfl h (fun v28 _ h => ?_)
                  refine zV_b (pc' := 134) (lv' := [(7, .inr (.inl v21)), (6, .inr (.inr v11)), (5, .inl v8), (0, .inr (.inr l0)), (1, .inl l1), (2, .inl l2), (3, .inr (.inl l3))]) (st' := [.inr (.inr l0), .inr (.inr v28)]) [(.aload_n 0, 1)] (by decide +kernel) rfl ?_
                  refine zV_gj (by decide +kernel) zfl_RX11_97 (by decide) rfl h (fun v29 _ h => ?_)
                  refine zV_b (pc' := 143) (lv' := [(7, .inr (.inl v21)), (6, .inr (.inr v11)), (5, .inl v8), (0, .inr (.inr l0)), (1, .inl l1), (2, .inl l2), (3, .inr (.inl l3))]) (st' := [.inr (.inl v21), .inr (.inl (l2.toInt64)), .inr (.inl (l1.toInt64)), .inr (.inl v29), .inr (.inr v28)]) [(.iload_n 1, 1), (.i2l, 1), (.iload_n 2, 1), (.i2l, 1), (.lload 7, 2)] (by decide +kernel) rfl ?_
                  refine zV_cvv (As := [.inr (.inl v29), .inr (.inl (l1.toInt64)), .inr (.inl (l2.toInt64)), .inr (.inl v21)]) (st := []) (c := 5) (by decide +kernel) (zcl_X4_add (by decide) (by decide)) ⟨zw_844, zw_845, zw_846⟩ ⟨⟨_, _, rfl⟩, by decide⟩ rfl rfl (Nat.le_of_ble_eq_true rfl) h (fun _ _ e => zc_X4_add e) (fun M30 _ _ h => ?_)
                  refine zV_b (pc' := 147) (lv' := [(7, .inr (.inl v21)), (6, .inr (.inr v11)), (5, .inl v8), (0, .inr (.inr l0)), (1, .inl l1), (2, .inl l2), (3, .inr (.inl l3))]) (st' := [.inr (.inr l0)]) [(.aload_n 0, 1)] (by decide +kernel) rfl ?_
                  refine zV_gr (by decide +kernel) zfl_RX11_62 (by decide) rfl h (fun v31 _ h => ?_)
                  refine zV_ldc2 (by decide +kernel) zw_1028 ?_
                  refine zV_b (pc' := 155) (lv' := [(7, .inr (.inl v21)), (6, .inr (.inr v11)), (5, .inl v8), (0, .inr (.inr l0)), (1, .inl l1), (2, .inl l2), (3, .inr (.inl l3))]) (st' := [.inr (.inl (l1.toInt64)), .inr (.inl (6 : Int64)), .inr (.inr v31)]) [(.iload_n 1, 1), (.i2l, 1)] (by decide +kernel) rfl ?_
                  refine zV_ldc2 (by decide +kernel) zw_465 ?_
                  refine zV_b (pc' := 163) (lv' := [(7, .inr (.inl v21)), (6, .inr (.inr v11)), (5, .inl v8), (0, .inr (.inr l0)), (1, .inl l1), (2, .inl l2), (3, .inr (.inl l3))]) (st' := [.inr (.inl (v21 * (l2.toInt64))), .inr (.inl (-1 : Int64)), .inr (.inl (l1.toInt64)), .inr (.inl (6 : Int64)), .inr (.inr v31)]) [(.lload 7, 2), (.iload_n 2, 1), (.i2l, 1), (.lmul, 1)] (by decide +kernel) rfl ?_
                  refine zV_cvv (As := [.inr (.inl (6 : Int64)), .inr (.inl (l1.toInt64)), .inr (.inl (-1 : Int64)), .inr (.inl (v21 * (l2.toInt64)))]) (st := []) (c := 5) (by decide +kernel) (zcl_X4_add (by decide) (by decide)) ⟨zw_844, zw_845, zw_846⟩ ⟨⟨_, _, rfl⟩, by decide⟩ rfl rfl (Nat.le_of_ble_eq_true rfl) h (fun _ _ e => zc_X4_add e) (fun M34 _ _ h => ?_)
                  refine zV_b (pc' := 167) (lv' := [(7, .inr (.inl v21)), (6, .inr (.inr v11)), (5, .inl v8), (0, .inr (.inr l0)), (1, .inl l1), (2, .inl l2), (3, .inr (.inl l3))]) (st' := [.inr (.inr l0)]) [(.aload_n 0, 1)] (by decide +kernel) rfl ?_
                  refine zV_gj (by decide +kernel) zfl_RX11_97 (by decide) rfl h (fun v35 _ h => ?_)
                  exact zend_j h hR (by decide +kernel)
            · refine zV_ldc2 (by decide +kernel) zw_873 ?_
              exact zend_j h hR (by decide +kernel)
          · refine zV_ldc2 (by decide +kernel) zw_695 ?_
            exact zend_j h hR (by decide +kernel)
        · refine zV_b (pc' := 38) (lv' := [(5, .inl v8), (0, .inr (.inr l0)), (1, .inl l1), (2, .inl l2), (3, .inr (.inl l3))]) (st' := [.inr (.inl (((-v8)).toInt64))]) [(.iload 5, 2), (.ineg, 1), (.i2l, 1)] (by decide +kernel) rfl ?_
          exact zend_j h hR (by decide +kernel)
theorem zc_X11_fillBottles {M M' : Zm} {l0 : Option Nat} {l1 : Int32} {l2 : Int32} {l3 : Int64} {x : Int64} (h : zf_X11_fillBottles M l0 l1 l2 l3 = some (M', x)) (l : Launch) (D : va_G) (cy : Nat → ClassId) : zMet l yX11_fillBottles zC_X11_fillBottles (some .long) D cy [.inr (.inr l0), .inl l1, .inl l2, .inr (.inl l3)] M M' (some (.inr (.inl x))) :=
  zM_j (by decide) rfl (fun h => by cases h) (Nat.le_of_ble_eq_true rfl) (fun X hR => zt_X11_fillBottles h hR)
-- BlendCellar.bottle(IIJ)J
def zC_X11_bottle : Zc := (cX11_bottle, 5, RX11, 11, 253, false)
theorem zcl_X11_bottle {C : Zc} (h1 : zC_X11_bottle.2.2.2.1 + 1 ≤ C.2.2.2.1) (h2 : 8 + (zC_X11_bottle.2.1 + 11) + zC_X11_bottle.2.2.2.2.1 ≤ C.2.2.2.2.1) : zCl C yX11_bottle zC_X11_bottle (some .long) 3 := ⟨zw_1018, zw_101, ⟨by decide, by decide⟩, by decide +kernel, h1, h2⟩
noncomputable def zf_X11_bottle (M : Zm) (l0 : Option Nat) (l1 : Int32) (l2 : Int32) (l3 : Int64) : Option (Zm × Int64) :=
  zb1 (zo_rc M l0 12) (fun _ => zbd (zf_X11_openTap M l0) (fun M1 _ =>
  zb1 (zo_rc M1 l0 12) (fun _ => zbd (zf_X11_fillBottles M1 l0 l1 l2 l3) (fun M2 v2 =>
  zb1 (zo_rc M2 l0 12) (fun _ => zbd (zf_X11_closeTap M2 l0 v2) (fun M3 v3 =>
  some (M3, v3)))))))
set_option maxRecDepth 100000 in
theorem zt_X11_bottle {X : Zx} {M : Zm} {l0 : Option Nat} {l1 : Int32} {l2 : Int32} {l3 : Int64} {z : Zm × Int64} (h : zf_X11_bottle M l0 l1 l2 l3 = some z) (hR : zRj X zC_X11_bottle z.1 z.2) : zV X zC_X11_bottle M 0 [(0, .inr (.inr l0)), (1, .inl l1), (2, .inl l2), (3, .inr (.inl l3))] [] := by
  unfold zf_X11_bottle at h
  refine zV_b (pc' := 1) (lv' := [(0, .inr (.inr l0)), (1, .inl l1), (2, .inl l2), (3, .inr (.inl l3))]) (st' := [.inr (.inr l0)]) [(.aload_n 0, 1)] (by decide +kernel) rfl ?_
  refine zV_cvv (As := []) (st := []) (c := 12) (by decide +kernel) (zcl_X11_openTap (by decide) (by decide)) ⟨zw_453, zw_455, zw_0⟩ ⟨⟨_, _, rfl⟩, by decide⟩ rfl rfl (Nat.le_of_ble_eq_true rfl) h (fun _ _ e => zc_X11_openTap e) (fun M1 _ _ h => ?_)
  refine zV_b (pc' := 9) (lv' := [(0, .inr (.inr l0)), (1, .inl l1), (2, .inl l2), (3, .inr (.inl l3))]) (st' := [.inr (.inl l3), .inl l2, .inl l1, .inr (.inr l0), .inr (.inr l0)]) [(.aload_n 0, 1), (.aload_n 0, 1), (.iload_n 1, 1), (.iload_n 2, 1), (.lload_n 3, 1)] (by decide +kernel) rfl ?_
  refine zV_cvj (As := [.inl l1, .inl l2, .inr (.inl l3)]) (st := [.inr (.inr l0)]) (c := 12) (by decide +kernel) (zcl_X11_fillBottles (by decide) (by decide)) ⟨zw_1019, zw_1021, zw_39⟩ ⟨⟨_, _, rfl⟩, by decide⟩ rfl rfl (Nat.le_of_ble_eq_true rfl) h (fun _ _ e => zc_X11_fillBottles e) (fun M2 v2 _ h => ?_)
  refine zV_cvj (As := [.inr (.inl v2)]) (st := []) (c := 12) (by decide +kernel) (zcl_X11_closeTap (by decide) (by decide)) ⟨zw_510, zw_512, zw_3⟩ ⟨⟨_, _, rfl⟩, by decide⟩ rfl rfl (Nat.le_of_ble_eq_true rfl) h (fun _ _ e => zc_X11_closeTap e) (fun M3 v3 _ h => ?_)
  exact zend_j h hR (by decide +kernel)
theorem zc_X11_bottle {M M' : Zm} {l0 : Option Nat} {l1 : Int32} {l2 : Int32} {l3 : Int64} {x : Int64} (h : zf_X11_bottle M l0 l1 l2 l3 = some (M', x)) (l : Launch) (D : va_G) (cy : Nat → ClassId) : zMet l yX11_bottle zC_X11_bottle (some .long) D cy [.inr (.inr l0), .inl l1, .inl l2, .inr (.inl l3)] M M' (some (.inr (.inl x))) :=
  zM_j (by decide) rfl (fun h => by cases h) (Nat.le_of_ble_eq_true rfl) (fun X hR => zt_X11_bottle h hR)
-- BlendCellar.bottling(II)J
def zC_X11_bottling : Zc := (cX11_bottling, 3, RX11, 1, 22, false)
theorem zcl_X11_bottling {C : Zc} (h1 : zC_X11_bottling.2.2.2.1 + 1 ≤ C.2.2.2.1) (h2 : 8 + (zC_X11_bottling.2.1 + 11) + zC_X11_bottling.2.2.2.2.1 ≤ C.2.2.2.2.1) : zCl C yX11_bottling zC_X11_bottling (some .long) 2 := ⟨zw_1372, zw_101, ⟨by decide, by decide⟩, by decide +kernel, h1, h2⟩
noncomputable def zf_X11_bottling (M : Zm) (l0 : Option Nat) (l1 : Int32) (l2 : Int32) : Option (Zm × Int64) :=
  zb1 (zo_gr M l0 12 9) (fun v1 =>
  zb1 (zo_rc M v1 5) (fun _ => zbd (zf_X4_read M v1 l1 l2) (fun M2 v2 =>
  some (M2, v2))))
set_option maxRecDepth 100000 in
theorem zt_X11_bottling {X : Zx} {M : Zm} {l0 : Option Nat} {l1 : Int32} {l2 : Int32} {z : Zm × Int64} (h : zf_X11_bottling M l0 l1 l2 = some z) (hR : zRj X zC_X11_bottling z.1 z.2) : zV X zC_X11_bottling M 0 [(0, .inr (.inr l0)), (1, .inl l1), (2, .inl l2)] [] := by
  unfold zf_X11_bottling at h
  refine zV_b (pc' := 1) (lv' := [(0, .inr (.inr l0)), (1, .inl l1), (2, .inl l2)]) (st' := [.inr (.inr l0)]) [(.aload_n 0, 1)] (by decide +kernel) rfl ?_
  refine zV_gr (by decide +kernel) zfl_RX11_66 (by decide) rfl h (fun v1 _ h => ?_)
  refine zV_b (pc' := 6) (lv' := [(0, .inr (.inr l0)), (1, .inl l1), (2, .inl l2)]) (st' := [.inl l2, .inl l1, .inr (.inr v1)]) [(.iload_n 1, 1), (.iload_n 2, 1)] (by decide +kernel) rfl ?_
  refine zV_cvj (As := [.inl l1, .inl l2]) (st := []) (c := 5) (by decide +kernel) (zcl_X4_read (by decide) (by decide)) ⟨zw_1373, zw_1374, zw_1375⟩ ⟨⟨_, _, rfl⟩, by decide⟩ rfl rfl (Nat.le_of_ble_eq_true rfl) h (fun _ _ e => zc_X4_read e) (fun M2 v2 _ h => ?_)
  exact zend_j h hR (by decide +kernel)
theorem zc_X11_bottling {M M' : Zm} {l0 : Option Nat} {l1 : Int32} {l2 : Int32} {x : Int64} (h : zf_X11_bottling M l0 l1 l2 = some (M', x)) (l : Launch) (D : va_G) (cy : Nat → ClassId) : zMet l yX11_bottling zC_X11_bottling (some .long) D cy [.inr (.inr l0), .inl l1, .inl l2] M M' (some (.inr (.inl x))) :=
  zM_j (by decide) rfl (fun h => by cases h) (Nat.le_of_ble_eq_true rfl) (fun X hR => zt_X11_bottling h hR)
-- BlendCellar.bottlings()I
def zC_X11_bottlings : Zc := (cX11_bottlings, 1, RX11, 0, 0, false)
theorem zcl_X11_bottlings {C : Zc} (h1 : zC_X11_bottlings.2.2.2.1 + 1 ≤ C.2.2.2.1) (h2 : 8 + (zC_X11_bottlings.2.1 + 11) + zC_X11_bottlings.2.2.2.2.1 ≤ C.2.2.2.2.1) : zCl C yX11_bottlings zC_X11_bottlings (some .int) 0 := ⟨zw_1368, zw_101, ⟨by decide, by decide⟩, by decide +kernel, h1, h2⟩
noncomputable def zf_X11_bottlings (M : Zm) (l0 : Option Nat) : Option (Zm × Int32) :=
  zb1 (zo_gr M l0 12 9) (fun v1 =>
  zb1 (zo_gi M v1 5 1) (fun v2 =>
  some (M, v2)))
set_option maxRecDepth 100000 in
theorem zt_X11_bottlings {X : Zx} {M : Zm} {l0 : Option Nat} {z : Zm × Int32} (h : zf_X11_bottlings M l0 = some z) (hR : zRi X zC_X11_bottlings z.1 z.2) : zV X zC_X11_bottlings M 0 [(0, .inr (.inr l0))] [] := by
  unfold zf_X11_bottlings at h
  refine zV_b (pc' := 1) (lv' := [(0, .inr (.inr l0))]) (st' := [.inr (.inr l0)]) [(.aload_n 0, 1)] (by decide +kernel) rfl ?_
  refine zV_gr (by decide +kernel) zfl_RX11_66 (by decide) rfl h (fun v1 _ h => ?_)
  refine zV_gi (by decide +kernel) zfl_RX11_591 (by decide) rfl (Or.inl rfl) h (fun v2 _ h => ?_)
  exact zend_i h hR (by decide +kernel)
theorem zc_X11_bottlings {M M' : Zm} {l0 : Option Nat} {x : Int32} (h : zf_X11_bottlings M l0 = some (M', x)) (l : Launch) (D : va_G) (cy : Nat → ClassId) : zMet l yX11_bottlings zC_X11_bottlings (some .int) D cy [.inr (.inr l0)] M M' (some (.inl x)) :=
  zM_i (by decide) rfl (fun h => by cases h) (Nat.le_of_ble_eq_true rfl) (fun X hR => zt_X11_bottlings h hR)
-- BlendCellar.breatheAway(LBlendCellar$Barrel;JI)J
def zC_X11_breatheAway : Zc := (cX11_breatheAway, 10, RX11, 8, 178, false)
theorem zcl_X11_breatheAway {C : Zc} (h1 : zC_X11_breatheAway.2.2.2.1 + 1 ≤ C.2.2.2.1) (h2 : 8 + (zC_X11_breatheAway.2.1 + 11) + zC_X11_breatheAway.2.2.2.2.1 ≤ C.2.2.2.2.1) : zCl C yX11_breatheAway zC_X11_breatheAway (some .long) 3 := ⟨zw_1011, zw_101, ⟨by decide, by decide⟩, by decide +kernel, h1, h2⟩
noncomputable def zf_X11_breatheAway_L14 (p0 : Option Nat) (p1 : Option Nat) (p2 : Int64) (p4 : Int32) (x : Zm × Int64 × Int32) : Option ((Zm × Int64 × Int32) ⊕ (Zm × Int64 × Int32)) := match x with
  | (M, l5, l7) =>
  (if p4 ≤ l7 then
  some (.inr (M, l5, l7))
  else
  zb1 (zo_gr M p1 1 5) (fun v4 =>
  zb1 (zo_gj M v4 11 3) (fun v5 =>
  zb1 (zo_ld (v5 * p2) (10000 : Int64)) (fun v7 =>
  zb1 (zo_gr M p0 12 10) (fun v8 =>
  zb1 (zo_gr M p1 1 5) (fun v9 =>
  zb1 (zo_gr M p0 12 6) (fun v10 =>
  zb1 (zo_ar M 18 v10 (1 : Int32)) (fun v11 =>
  zb1 (zo_rc M v8 3) (fun _ => zbd (zf_X2_takeOut M v8 v9 v7 v11) (fun M12 _ =>
  some (.inl (M12, (l5 + v7), (l7 + 1)))))))))))))
def zP_X11_breatheAway_L14 (X : Zx) (p0 : Option Nat) (p1 : Option Nat) (p2 : Int64) (p4 : Int32) (x : Zm × Int64 × Int32) : Prop := match x with
  | (M, l5, l7) => zV X zC_X11_breatheAway M 14 [(0, .inr (.inr p0)), (1, .inr (.inr p1)), (2, .inr (.inl p2)), (4, .inl p4), (5, .inr (.inl l5)), (7, .inl l7)] []
def zK_X11_breatheAway_L14 (X : Zx) (p0 : Option Nat) (p1 : Option Nat) (p2 : Int64) (p4 : Int32) (y : Zm × Int64 × Int32) : Prop := match y with
  | (M, l5, l7) => zV X zC_X11_breatheAway M 68 [(5, .inr (.inl l5))] []
noncomputable def zf_X11_breatheAway (M : Zm) (l0 : Option Nat) (l1 : Option Nat) (l2 : Int64) (l4 : Int32) : Option (Zm × Int64) :=
  zb1 (zo_gr M l0 12 11) (fun v1 =>
  zb1 (zo_rc M v1 2) (fun _ => zbd (zf_X1_keepBarrel M v1 l1) (fun M2 _ =>
  zb1 (zwhile (zf_X11_breatheAway_L14 l0 l1 l2 l4) (M2, (0 : Int64), (0 : Int32))) (fun y14 => match y14 with
  | (M14_14, l5_14, l7_14) =>
  some (M14_14, l5_14)))))
set_option maxRecDepth 100000 in
theorem zt_X11_breatheAway_L14 {X : Zx} {p0 : Option Nat} {p1 : Option Nat} {p2 : Int64} {p4 : Int32} {x : Zm × Int64 × Int32} {y : Zm × Int64 × Int32} (h : zwhile (zf_X11_breatheAway_L14 p0 p1 p2 p4) x = some y) (hy : zK_X11_breatheAway_L14 X p0 p1 p2 p4 y) : zP_X11_breatheAway_L14 X p0 p1 p2 p4 x := by
  refine zwhile_ind (P := zP_X11_breatheAway_L14 X p0 p1 p2 p4) (K := zK_X11_breatheAway_L14 X p0 p1 p2 p4) ?_ h hy
  intro x z hf k1 k2
  obtain ⟨M, l5, l7⟩ := x
  have h : zf_X11_breatheAway_L14 p0 p1 p2 p4 (M, l5, l7) = some z := hf
  unfold zf_X11_breatheAway_L14 at h
  show zV X zC_X11_breatheAway M 14 [(0, .inr (.inr p0)), (1, .inr (.inr p1)), (2, .inr (.inl p2)), (4, .inl p4), (5, .inr (.inl l5)), (7, .inl l7)] []
  refine zV_b (pc' := 18) (lv' := [(0, .inr (.inr p0)), (1, .inr (.inr p1)), (2, .inr (.inl p2)), (4, .inl p4), (5, .inr (.inl l5)), (7, .inl l7)]) (st' := [.inl p4, .inl l7]) [(.iload 7, 2), (.iload 4, 2)] (by decide +kernel) rfl ?_
  refine zV_icmp_ge (off := 50) (tgt := 68) (by decide +kernel) (by decide) h (fun c3 h => ?_) (fun c3 h => ?_)
  · exact zV_lv (lv' := [(5, .inr (.inl l5))]) [4] rfl (k2 _ (Option.some.inj h).symm)
  · refine zV_b (pc' := 22) (lv' := [(0, .inr (.inr p0)), (1, .inr (.inr p1)), (2, .inr (.inl p2)), (4, .inl p4), (5, .inr (.inl l5)), (7, .inl l7)]) (st' := [.inr (.inr p1)]) [(.aload_n 1, 1)] (by decide +kernel) rfl ?_
    refine zV_gr (by decide +kernel) zfl_RX11_268 (by decide) rfl h (fun v4 _ h => ?_)
    refine zV_gj (by decide +kernel) zfl_RX11_271 (by decide) rfl h (fun v5 _ h => ?_)
    refine zV_b (pc' := 30) (lv' := [(0, .inr (.inr p0)), (1, .inr (.inr p1)), (2, .inr (.inl p2)), (4, .inl p4), (5, .inr (.inl l5)), (7, .inl l7)]) (st' := [.inr (.inl (v5 * p2))]) [(.lload_n 2, 1), (.lmul, 1)] (by decide +kernel) rfl ?_
    refine zV_ldc2 (by decide +kernel) zw_1012 ?_
    refine zV_ld (by decide +kernel) h (fun v7 _ h => ?_)
    refine zV_b (pc' := 37) (lv' := [(8, .inr (.inl v7)), (0, .inr (.inr p0)), (1, .inr (.inr p1)), (2, .inr (.inl p2)), (4, .inl p4), (5, .inr (.inl l5)), (7, .inl l7)]) (st' := [.inr (.inr p0)]) [(.lstore 8, 2), (.aload_n 0, 1)] (by decide +kernel) rfl ?_
    refine zV_gr (by decide +kernel) zfl_RX11_72 (by decide) rfl h (fun v8 _ h => ?_)
    refine zV_b (pc' := 41) (lv' := [(8, .inr (.inl v7)), (0, .inr (.inr p0)), (1, .inr (.inr p1)), (2, .inr (.inl p2)), (4, .inl p4), (5, .inr (.inl l5)), (7, .inl l7)]) (st' := [.inr (.inr p1), .inr (.inr v8)]) [(.aload_n 1, 1)] (by decide +kernel) rfl ?_
    refine zV_gr (by decide +kernel) zfl_RX11_268 (by decide) rfl h (fun v9 _ h => ?_)
    refine zV_b (pc' := 47) (lv' := [(8, .inr (.inl v7)), (0, .inr (.inr p0)), (1, .inr (.inr p1)), (2, .inr (.inl p2)), (4, .inl p4), (5, .inr (.inl l5)), (7, .inl l7)]) (st' := [.inr (.inr p0), .inr (.inl v7), .inr (.inr v9), .inr (.inr v8)]) [(.lload 8, 2), (.aload_n 0, 1)] (by decide +kernel) rfl ?_
    refine zV_gr (by decide +kernel) zfl_RX11_50 (by decide) rfl h (fun v10 _ h => ?_)
    refine zV_b (pc' := 51) (lv' := [(8, .inr (.inl v7)), (0, .inr (.inr p0)), (1, .inr (.inr p1)), (2, .inr (.inl p2)), (4, .inl p4), (5, .inr (.inl l5)), (7, .inl l7)]) (st' := [.inl (1 : Int32), .inr (.inr v10), .inr (.inl v7), .inr (.inr v9), .inr (.inr v8)]) [(.iconst 1, 1)] (by decide +kernel) rfl ?_
    refine zV_ar (by decide +kernel) (by decide) (by decide) h (fun v11 _ h => ?_)
    refine zV_cvv (As := [.inr (.inr v9), .inr (.inl v7), .inr (.inr v11)]) (st := []) (c := 3) (by decide +kernel) (zcl_X2_takeOut (by decide) (by decide)) ⟨zw_1013, zw_921, zw_922⟩ ⟨⟨_, _, rfl⟩, by decide⟩ rfl rfl (Nat.le_of_ble_eq_true rfl) h (fun _ _ e => zc_X2_takeOut e) (fun M12 _ _ h => ?_)
    refine zV_b (pc' := 65) (lv' := [(7, .inl (l7 + 1)), (5, .inr (.inl (l5 + v7))), (8, .inr (.inl v7)), (0, .inr (.inr p0)), (1, .inr (.inr p1)), (2, .inr (.inl p2)), (4, .inl p4)]) (st' := []) [(.lload 5, 2), (.lload 8, 2), (.ladd, 1), (.lstore 5, 2), (.iinc 7 1, 3)] (by decide +kernel) rfl ?_
    refine zV_goto (off := (-51)) (tgt := 14) (by decide +kernel) (by decide) ?_
    exact zV_lv (lv' := [(0, .inr (.inr p0)), (1, .inr (.inr p1)), (2, .inr (.inl p2)), (4, .inl p4), (5, .inr (.inl (l5 + v7))), (7, .inl (l7 + 1))]) [3, 4, 5, 6, 1, 0] rfl (k1 _ (Option.some.inj h).symm)
set_option maxRecDepth 100000 in
theorem zt_X11_breatheAway {X : Zx} {M : Zm} {l0 : Option Nat} {l1 : Option Nat} {l2 : Int64} {l4 : Int32} {z : Zm × Int64} (h : zf_X11_breatheAway M l0 l1 l2 l4 = some z) (hR : zRj X zC_X11_breatheAway z.1 z.2) : zV X zC_X11_breatheAway M 0 [(0, .inr (.inr l0)), (1, .inr (.inr l1)), (2, .inr (.inl l2)), (4, .inl l4)] [] := by
  unfold zf_X11_breatheAway at h
  refine zV_b (pc' := 1) (lv' := [(0, .inr (.inr l0)), (1, .inr (.inr l1)), (2, .inr (.inl l2)), (4, .inl l4)]) (st' := [.inr (.inr l0)]) [(.aload_n 0, 1)] (by decide +kernel) rfl ?_
  refine zV_gr (by decide +kernel) zfl_RX11_79 (by decide) rfl h (fun v1 _ h => ?_)
  refine zV_b (pc' := 5) (lv' := [(0, .inr (.inr l0)), (1, .inr (.inr l1)), (2, .inr (.inl l2)), (4, .inl l4)]) (st' := [.inr (.inr l1), .inr (.inr v1)]) [(.aload_n 1, 1)] (by decide +kernel) rfl ?_
  refine zV_cvv (As := [.inr (.inr l1)]) (st := []) (c := 2) (by decide +kernel) (zcl_X1_keepBarrel (by decide) (by decide)) ⟨zw_696, zw_697, zw_698⟩ ⟨⟨_, _, rfl⟩, by decide⟩ rfl rfl (Nat.le_of_ble_eq_true rfl) h (fun _ _ e => zc_X1_keepBarrel e) (fun M2 _ _ h => ?_)
  refine zV_b (pc' := 14) (lv' := [(7, .inl (0 : Int32)), (5, .inr (.inl (0 : Int64))), (0, .inr (.inr l0)), (1, .inr (.inr l1)), (2, .inr (.inl l2)), (4, .inl l4)]) (st' := []) [(.lconst 0, 1), (.lstore 5, 2), (.iconst 0, 1), (.istore 7, 2)] (by decide +kernel) rfl ?_
  obtain ⟨y14, e14, h⟩ := zb1_inv h
  refine zV_lv (lv' := [(0, .inr (.inr l0)), (1, .inr (.inr l1)), (2, .inr (.inl l2)), (4, .inl l4), (5, .inr (.inl (0 : Int64))), (7, .inl (0 : Int32))]) [2, 3, 4, 5, 1, 0] rfl (zt_X11_breatheAway_L14 e14 ?_)
  obtain ⟨M14_14, l5_14, l7_14⟩ := y14
  show zV X zC_X11_breatheAway M14_14 68 [(5, .inr (.inl l5_14))] []
  refine zV_b (pc' := 70) (lv' := [(5, .inr (.inl l5_14))]) (st' := [.inr (.inl l5_14)]) [(.lload 5, 2)] (by decide +kernel) rfl ?_
  exact zend_j h hR (by decide +kernel)
theorem zc_X11_breatheAway {M M' : Zm} {l0 : Option Nat} {l1 : Option Nat} {l2 : Int64} {l4 : Int32} {x : Int64} (h : zf_X11_breatheAway M l0 l1 l2 l4 = some (M', x)) (l : Launch) (D : va_G) (cy : Nat → ClassId) : zMet l yX11_breatheAway zC_X11_breatheAway (some .long) D cy [.inr (.inr l0), .inr (.inr l1), .inr (.inl l2), .inl l4] M M' (some (.inr (.inl x))) :=
  zM_j (by decide) rfl (fun h => by cases h) (Nat.le_of_ble_eq_true rfl) (fun X hR => zt_X11_breatheAway h hR)
