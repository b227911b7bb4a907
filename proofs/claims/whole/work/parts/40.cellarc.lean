/-! What the bytecode does, as functions of the memory, and the walks (written by wip/gen.py). -/
-- BlendCellar.letMonthsGoBy(I)J
def zC_X11_letMonthsGoBy : Zc := (cX11_letMonthsGoBy, 8, RX11, 9, 207, false)
theorem zcl_X11_letMonthsGoBy {C : Zc} (h1 : zC_X11_letMonthsGoBy.2.2.2.1 + 1 ≤ C.2.2.2.1) (h2 : 8 + (zC_X11_letMonthsGoBy.2.1 + 11) + zC_X11_letMonthsGoBy.2.2.2.2.1 ≤ C.2.2.2.2.1) : zCl C yX11_letMonthsGoBy zC_X11_letMonthsGoBy (some .long) 1 := ⟨zw_998, zw_101, ⟨by decide, by decide⟩, by decide +kernel, h1, h2⟩
noncomputable def zf_X11_letMonthsGoBy_J11 (M : Zm)  : Option (Zm × Int64) :=
  some (M, (-1 : Int64))
noncomputable def zf_X11_letMonthsGoBy_J107 (M : Zm) (p0 : Option Nat) (p1 : Int32) (l2 : Int64) (l4 : Int32) : Option ((Zm × Int64 × Int32) ⊕ (Zm × Int64 × Int32)) :=
  some (.inl (M, l2, (l4 + 1)))
noncomputable def zf_X11_letMonthsGoBy_L38 (p0 : Option Nat) (p1 : Int32) (x : Zm × Int64 × Int32) : Option ((Zm × Int64 × Int32) ⊕ (Zm × Int64 × Int32)) := match x with
  | (M, l2, l4) =>
  zb1 (zo_gr M p0 12 0) (fun v10 =>
  zb1 (zo_rc M v10 0) (fun _ => zbd (zf_Jx4a65c_size_8abf5 M v10) (fun M11 v11 =>
  (if v11 ≤ l4 then
  some (.inr (M11, l2, l4))
  else
  zb1 (zo_gr M11 p0 12 0) (fun v13 =>
  zb1 (zo_rc M11 v13 0) (fun _ => zbd (zf_Jx4a65c_get_915e3 M11 v13 l4) (fun M14 v14 =>
  zb1 (zo_cc M14 v14 1) (fun _ =>
  zb1 (zo_gr M14 p0 12 12) (fun v16 =>
  zb1 (zo_rc M14 v14 1) (fun _ => zbd (zf_X0_breathes M14 v14 v16) (fun M17 v17 =>
  (if v17 ≤ (0 : Int64) then
  zf_X11_letMonthsGoBy_J107 M17 p0 p1 l2 l4
  else
  zb1 (zo_gr M17 v14 1 5) (fun v20 =>
  zb1 (zo_gj M17 v20 11 3) (fun v21 =>
  (if v21 ≤ (0 : Int64) then
  zf_X11_letMonthsGoBy_J107 M17 p0 p1 l2 l4
  else
  zb1 (zo_rc M17 p0 12) (fun _ => zbd (zf_X11_breatheAway M17 p0 v14 v17 p1) (fun M23 v23 =>
  zf_X11_letMonthsGoBy_J107 M23 p0 p1 (l2 + v23) l4)))))))))))))))))
def zP_X11_letMonthsGoBy_L38 (X : Zx) (p0 : Option Nat) (p1 : Int32) (x : Zm × Int64 × Int32) : Prop := match x with
  | (M, l2, l4) => zV X zC_X11_letMonthsGoBy M 38 [(0, .inr (.inr p0)), (1, .inl p1), (2, .inr (.inl l2)), (4, .inl l4)] []
def zK_X11_letMonthsGoBy_L38 (X : Zx) (p0 : Option Nat) (p1 : Int32) (y : Zm × Int64 × Int32) : Prop := match y with
  | (M, l2, l4) => zV X zC_X11_letMonthsGoBy M 113 [(0, .inr (.inr p0)), (1, .inl p1), (2, .inr (.inl l2))] []
noncomputable def zf_X11_letMonthsGoBy (M : Zm) (l0 : Option Nat) (l1 : Int32) : Option (Zm × Int64) :=
  (if l1 < (1 : Int32) then
  zf_X11_letMonthsGoBy_J11 M
  else
  (if l1 ≤ (12 : Int32) then
  zb1 (zo_rc M l0 12) (fun _ => zbd (zf_X11_remember M l0) (fun M5 _ =>
  zb1 (zo_gr M5 l0 12 11) (fun v6 =>
  zb1 (zo_gr M5 l0 12 6) (fun v7 =>
  zb1 (zo_ar M5 18 v7 (1 : Int32)) (fun v8 =>
  zb1 (zo_rc M5 v6 2) (fun _ => zbd (zf_X1_keepAccount M5 v6 (1 : Int32) v8) (fun M9 _ =>
  zb1 (zwhile (zf_X11_letMonthsGoBy_L38 l0 l1) (M9, (0 : Int64), (0 : Int32))) (fun y24 => match y24 with
  | (M38_24, l2_24, l4_24) =>
  zb1 (zo_gi M38_24 l0 12 14) (fun v25 =>
  zb1 (zo_pi M38_24 l0 12 14 (v25 + l1)) (fun M26 =>
  zb1 (zo_gr M26 l0 12 8) (fun v27 =>
  zb1 (zo_rc M26 v27 5) (fun _ => zbd (zf_X4_add M26 v27 (5 : Int64) (-1 : Int64) (-1 : Int64) l2_24) (fun M31 _ =>
  some (M31, l2_24))))))))))))))
  else
  zf_X11_letMonthsGoBy_J11 M))
set_option maxRecDepth 100000 in
theorem zt_X11_letMonthsGoBy_J11 {X : Zx} {M : Zm}  {z : Zm × Int64} (h : zf_X11_letMonthsGoBy_J11 M  = some z) (hR : zRj X zC_X11_letMonthsGoBy z.1 z.2) : zV X zC_X11_letMonthsGoBy M 11 [] [] := by
  unfold zf_X11_letMonthsGoBy_J11 at h
  refine zV_ldc2 (by decide +kernel) zw_465 ?_
  exact zend_j h hR (by decide +kernel)
set_option maxRecDepth 100000 in
theorem zt_X11_letMonthsGoBy_J107 {X : Zx} {M : Zm} {p0 : Option Nat} {p1 : Int32} {l2 : Int64} {l4 : Int32} {z : (Zm × Int64 × Int32) ⊕ (Zm × Int64 × Int32)} (h : zf_X11_letMonthsGoBy_J107 M p0 p1 l2 l4 = some z) (k1 : ∀ x' : Zm × Int64 × Int32, z = .inl x' → zP_X11_letMonthsGoBy_L38 X p0 p1 x') (k2 : ∀ y : Zm × Int64 × Int32, z = .inr y → zK_X11_letMonthsGoBy_L38 X p0 p1 y) : zV X zC_X11_letMonthsGoBy M 107 [(0, .inr (.inr p0)), (1, .inl p1), (2, .inr (.inl l2)), (4, .inl l4)] [] := by
  unfold zf_X11_letMonthsGoBy_J107 at h
  refine zV_b (pc' := 110) (lv' := [(4, .inl (l4 + 1)), (0, .inr (.inr p0)), (1, .inl p1), (2, .inr (.inl l2))]) (st' := []) [(.iinc 4 1, 3)] (by decide +kernel) rfl ?_
  refine zV_goto (off := (-72)) (tgt := 38) (by decide +kernel) (by decide) ?_
  exact zV_lv (lv' := [(0, .inr (.inr p0)), (1, .inl p1), (2, .inr (.inl l2)), (4, .inl (l4 + 1))]) [1, 2, 3, 0] rfl (k1 _ (Option.some.inj h).symm)
set_option maxRecDepth 100000 in
theorem zt_X11_letMonthsGoBy_L38 {X : Zx} {p0 : Option Nat} {p1 : Int32} {x : Zm × Int64 × Int32} {y : Zm × Int64 × Int32} (h : zwhile (zf_X11_letMonthsGoBy_L38 p0 p1) x = some y) (hy : zK_X11_letMonthsGoBy_L38 X p0 p1 y) : zP_X11_letMonthsGoBy_L38 X p0 p1 x := by
  refine zwhile_ind (P := zP_X11_letMonthsGoBy_L38 X p0 p1) (K := zK_X11_letMonthsGoBy_L38 X p0 p1) ?_ h hy
  intro x z hf k1 k2
  obtain ⟨M, l2, l4⟩ := x
  have h : zf_X11_letMonthsGoBy_L38 p0 p1 (M, l2, l4) = some z := hf
  unfold zf_X11_letMonthsGoBy_L38 at h
  show zV X zC_X11_letMonthsGoBy M 38 [(0, .inr (.inr p0)), (1, .inl p1), (2, .inr (.inl l2)), (4, .inl l4)] []
  refine zV_b (pc' := 41) (lv' := [(0, .inr (.inr p0)), (1, .inl p1), (2, .inr (.inl l2)), (4, .inl l4)]) (st' := [.inr (.inr p0), .inl l4]) [(.iload 4, 2), (.aload_n 0, 1)] (by decide +kernel) rfl ?_
  refine zV_gr (by decide +kernel) zfl_RX11_12 (by decide) rfl h (fun v10 _ h => ?_)
  refine zV_cvi (As := []) (st := [.inl l4]) (c := 0) (by decide +kernel) (zcl_Jx4a65c_size_8abf5 (by decide) (by decide)) ⟨zw_473, zw_474, zw_475⟩ ⟨⟨_, _, rfl⟩, by decide⟩ rfl rfl (Nat.le_of_ble_eq_true rfl) h (fun _ _ e => zc_Jx4a65c_size_8abf5 e) (fun M11 v11 _ h => ?_)
  refine zV_icmp_ge (off := 66) (tgt := 113) (by decide +kernel) (by decide) h (fun c12 h => ?_) (fun c12 h => ?_)
  · exact zV_lv (lv' := [(0, .inr (.inr p0)), (1, .inl p1), (2, .inr (.inl l2))]) [0, 1, 2] rfl (k2 _ (Option.some.inj h).symm)
  · refine zV_b (pc' := 51) (lv' := [(0, .inr (.inr p0)), (1, .inl p1), (2, .inr (.inl l2)), (4, .inl l4)]) (st' := [.inr (.inr p0)]) [(.aload_n 0, 1)] (by decide +kernel) rfl ?_
    refine zV_gr (by decide +kernel) zfl_RX11_12 (by decide) rfl h (fun v13 _ h => ?_)
    refine zV_b (pc' := 56) (lv' := [(0, .inr (.inr p0)), (1, .inl p1), (2, .inr (.inl l2)), (4, .inl l4)]) (st' := [.inl l4, .inr (.inr v13)]) [(.iload 4, 2)] (by decide +kernel) rfl ?_
    refine zV_cvr (As := [.inl l4]) (st := []) (c := 0) (by decide +kernel) (zcl_Jx4a65c_get_915e3 (by decide) (by decide)) ⟨zw_670, zw_671, zw_672⟩ ⟨⟨_, _, rfl⟩, by decide⟩ rfl rfl (Nat.le_of_ble_eq_true rfl) h (fun _ _ e => zc_Jx4a65c_get_915e3 e) (fun M14 v14 _ h => ?_)
    refine zV_cc (by decide +kernel) zck_RX11_156 h (fun _ _ h => ?_)
    refine zV_b (pc' := 67) (lv' := [(5, .inr (.inr v14)), (0, .inr (.inr p0)), (1, .inl p1), (2, .inr (.inl l2)), (4, .inl l4)]) (st' := [.inr (.inr p0), .inr (.inr v14)]) [(.astore 5, 2), (.aload 5, 2), (.aload_n 0, 1)] (by decide +kernel) rfl ?_
    refine zV_gr (by decide +kernel) zfl_RX11_86 (by decide) rfl h (fun v16 _ h => ?_)
    refine zV_cvj (As := [.inr (.inr v16)]) (st := []) (c := 1) (by decide +kernel) (zcl_X0_breathes (by decide) (by decide)) ⟨zw_999, zw_1000, zw_1001⟩ ⟨⟨_, _, rfl⟩, by decide⟩ rfl rfl (Nat.le_of_ble_eq_true rfl) h (fun _ _ e => zc_X0_breathes e) (fun M17 v17 _ h => ?_)
    refine zV_b (pc' := 78) (lv' := [(6, .inr (.inl v17)), (5, .inr (.inr v14)), (0, .inr (.inr p0)), (1, .inl p1), (2, .inr (.inl l2)), (4, .inl l4)]) (st' := [.inr (.inl (0 : Int64)), .inr (.inl v17)]) [(.lstore 6, 2), (.lload 6, 2), (.lconst 0, 1)] (by decide +kernel) rfl ?_
    refine zV_lcmp_le (off := 28) (tgt := 107) (by decide +kernel) (by decide +kernel) (by decide) h (fun c18 h => ?_) (fun c18 h => ?_)
    · exact zV_lv (lv' := [(0, .inr (.inr p0)), (1, .inl p1), (2, .inr (.inl l2)), (4, .inl l4)]) [2, 3, 4, 5] rfl (zt_X11_letMonthsGoBy_J107 h k1 k2)
    · refine zV_b (pc' := 84) (lv' := [(6, .inr (.inl v17)), (5, .inr (.inr v14)), (0, .inr (.inr p0)), (1, .inl p1), (2, .inr (.inl l2)), (4, .inl l4)]) (st' := [.inr (.inr v14)]) [(.aload 5, 2)] (by decide +kernel) rfl ?_
      refine zV_gr (by decide +kernel) zfl_RX11_268 (by decide) rfl h (fun v20 _ h => ?_)
      refine zV_gj (by decide +kernel) zfl_RX11_271 (by decide) rfl h (fun v21 _ h => ?_)
      refine zV_b (pc' := 91) (lv' := [(6, .inr (.inl v17)), (5, .inr (.inr v14)), (0, .inr (.inr p0)), (1, .inl p1), (2, .inr (.inl l2)), (4, .inl l4)]) (st' := [.inr (.inl (0 : Int64)), .inr (.inl v21)]) [(.lconst 0, 1)] (by decide +kernel) rfl ?_
      refine zV_lcmp_le (off := 15) (tgt := 107) (by decide +kernel) (by decide +kernel) (by decide) h (fun c22 h => ?_) (fun c22 h => ?_)
      · exact zV_lv (lv' := [(0, .inr (.inr p0)), (1, .inl p1), (2, .inr (.inl l2)), (4, .inl l4)]) [2, 3, 4, 5] rfl (zt_X11_letMonthsGoBy_J107 h k1 k2)
      · refine zV_b (pc' := 102) (lv' := [(6, .inr (.inl v17)), (5, .inr (.inr v14)), (0, .inr (.inr p0)), (1, .inl p1), (2, .inr (.inl l2)), (4, .inl l4)]) (st' := [.inl p1, .inr (.inl v17), .inr (.inr v14), .inr (.inr p0), .inr (.inl l2)]) [(.lload_n 2, 1), (.aload_n 0, 1), (.aload 5, 2), (.lload 6, 2), (.iload_n 1, 1)] (by decide +kernel) rfl ?_
        refine zV_cvj (As := [.inr (.inr v14), .inr (.inl v17), .inl p1]) (st := [.inr (.inl l2)]) (c := 12) (by decide +kernel) (zcl_X11_breatheAway (by decide) (by decide)) ⟨zw_1008, zw_1010, zw_38⟩ ⟨⟨_, _, rfl⟩, by decide⟩ rfl rfl (Nat.le_of_ble_eq_true rfl) h (fun _ _ e => zc_X11_breatheAway e) (fun M23 v23 _ h => ?_)
        refine zV_b (pc' := 107) (lv' := [(2, .inr (.inl (l2 + v23))), (6, .inr (.inl v17)), (5, .inr (.inr v14)), (0, .inr (.inr p0)), (1, .inl p1), (4, .inl l4)]) (st' := []) [(.ladd, 1), (.lstore_n 2, 1)] (by decide +kernel) rfl ?_
        exact zV_lv (lv' := [(0, .inr (.inr p0)), (1, .inl p1), (2, .inr (.inl (l2 + v23))), (4, .inl l4)]) [3, 4, 0, 5] rfl (zt_X11_letMonthsGoBy_J107 h k1 k2)
set_option maxRecDepth 100000 in
theorem zt_X11_letMonthsGoBy {X : Zx} {M : Zm} {l0 : Option Nat} {l1 : Int32} {z : Zm × Int64} (h : zf_X11_letMonthsGoBy M l0 l1 = some z) (hR : zRj X zC_X11_letMonthsGoBy z.1 z.2) : zV X zC_X11_letMonthsGoBy M 0 [(0, .inr (.inr l0)), (1, .inl l1)] [] := by
  unfold zf_X11_letMonthsGoBy at h
  refine zV_b (pc' := 2) (lv' := [(0, .inr (.inr l0)), (1, .inl l1)]) (st' := [.inl (1 : Int32), .inl l1]) [(.iload_n 1, 1), (.iconst 1, 1)] (by decide +kernel) rfl ?_
  refine zV_icmp_lt (off := 9) (tgt := 11) (by decide +kernel) (by decide) h (fun c1 h => ?_) (fun c1 h => ?_)
  · exact zV_lv (lv' := []) [] rfl (zt_X11_letMonthsGoBy_J11 h hR)
  · refine zV_b (pc' := 8) (lv' := [(0, .inr (.inr l0)), (1, .inl l1)]) (st' := [.inl (12 : Int32), .inl l1]) [(.iload_n 1, 1), (.bipush 12, 2)] (by decide +kernel) rfl ?_
    refine zV_icmp_le (off := 7) (tgt := 15) (by decide +kernel) (by decide) h (fun c4 h => ?_) (fun c4 h => ?_)
    · refine zV_b (pc' := 16) (lv' := [(0, .inr (.inr l0)), (1, .inl l1)]) (st' := [.inr (.inr l0)]) [(.aload_n 0, 1)] (by decide +kernel) rfl ?_
      refine zV_cvv (As := []) (st := []) (c := 12) (by decide +kernel) (zcl_X11_remember (by decide) (by decide)) ⟨zw_469, zw_471, zw_2⟩ ⟨⟨_, _, rfl⟩, by decide⟩ rfl rfl (Nat.le_of_ble_eq_true rfl) h (fun _ _ e => zc_X11_remember e) (fun M5 _ _ h => ?_)
      refine zV_b (pc' := 20) (lv' := [(0, .inr (.inr l0)), (1, .inl l1)]) (st' := [.inr (.inr l0)]) [(.aload_n 0, 1)] (by decide +kernel) rfl ?_
      refine zV_gr (by decide +kernel) zfl_RX11_79 (by decide) rfl h (fun v6 _ h => ?_)
      refine zV_b (pc' := 25) (lv' := [(0, .inr (.inr l0)), (1, .inl l1)]) (st' := [.inr (.inr l0), .inl (1 : Int32), .inr (.inr v6)]) [(.iconst 1, 1), (.aload_n 0, 1)] (by decide +kernel) rfl ?_
      refine zV_gr (by decide +kernel) zfl_RX11_50 (by decide) rfl h (fun v7 _ h => ?_)
      refine zV_b (pc' := 29) (lv' := [(0, .inr (.inr l0)), (1, .inl l1)]) (st' := [.inl (1 : Int32), .inr (.inr v7), .inl (1 : Int32), .inr (.inr v6)]) [(.iconst 1, 1)] (by decide +kernel) rfl ?_
      refine zV_ar (by decide +kernel) (by decide) (by decide) h (fun v8 _ h => ?_)
      refine zV_cvv (As := [.inl (1 : Int32), .inr (.inr v8)]) (st := []) (c := 2) (by decide +kernel) (zcl_X1_keepAccount (by decide) (by decide)) ⟨zw_817, zw_818, zw_819⟩ ⟨⟨_, _, rfl⟩, by decide⟩ rfl rfl (Nat.le_of_ble_eq_true rfl) h (fun _ _ e => zc_X1_keepAccount e) (fun M9 _ _ h => ?_)
      refine zV_b (pc' := 38) (lv' := [(4, .inl (0 : Int32)), (2, .inr (.inl (0 : Int64))), (0, .inr (.inr l0)), (1, .inl l1)]) (st' := []) [(.lconst 0, 1), (.lstore_n 2, 1), (.iconst 0, 1), (.istore 4, 2)] (by decide +kernel) rfl ?_
      obtain ⟨y24, e24, h⟩ := zb1_inv h
      refine zV_lv (lv' := [(0, .inr (.inr l0)), (1, .inl l1), (2, .inr (.inl (0 : Int64))), (4, .inl (0 : Int32))]) [2, 3, 1, 0] rfl (zt_X11_letMonthsGoBy_L38 e24 ?_)
      obtain ⟨M38_24, l2_24, l4_24⟩ := y24
      show zV X zC_X11_letMonthsGoBy M38_24 113 [(0, .inr (.inr l0)), (1, .inl l1), (2, .inr (.inl l2_24))] []
      refine zV_b (pc' := 115) (lv' := [(0, .inr (.inr l0)), (1, .inl l1), (2, .inr (.inl l2_24))]) (st' := [.inr (.inr l0), .inr (.inr l0)]) [(.aload_n 0, 1), (.dup, 1)] (by decide +kernel) rfl ?_
      refine zV_gi (by decide +kernel) zfl_RX11_93 (by decide) rfl (Or.inl rfl) h (fun v25 _ h => ?_)
      refine zV_b (pc' := 120) (lv' := [(0, .inr (.inr l0)), (1, .inl l1), (2, .inr (.inl l2_24))]) (st' := [.inl (v25 + l1), .inr (.inr l0)]) [(.iload_n 1, 1), (.iadd, 1)] (by decide +kernel) rfl ?_
      refine zV_pi (by decide +kernel) zfp_RX11_93 (by decide) rfl h (fun M26 _ h => ?_)
      refine zV_b (pc' := 124) (lv' := [(0, .inr (.inr l0)), (1, .inl l1), (2, .inr (.inl l2_24))]) (st' := [.inr (.inr l0)]) [(.aload_n 0, 1)] (by decide +kernel) rfl ?_
      refine zV_gr (by decide +kernel) zfl_RX11_62 (by decide) rfl h (fun v27 _ h => ?_)
      refine zV_ldc2 (by decide +kernel) zw_1014 ?_
      refine zV_ldc2 (by decide +kernel) zw_465 ?_
      refine zV_ldc2 (by decide +kernel) zw_465 ?_
      refine zV_b (pc' := 137) (lv' := [(0, .inr (.inr l0)), (1, .inl l1), (2, .inr (.inl l2_24))]) (st' := [.inr (.inl l2_24), .inr (.inl (-1 : Int64)), .inr (.inl (-1 : Int64)), .inr (.inl (5 : Int64)), .inr (.inr v27)]) [(.lload_n 2, 1)] (by decide +kernel) rfl ?_
      refine zV_cvv (As := [.inr (.inl (5 : Int64)), .inr (.inl (-1 : Int64)), .inr (.inl (-1 : Int64)), .inr (.inl l2_24)]) (st := []) (c := 5) (by decide +kernel) (zcl_X4_add (by decide) (by decide)) ⟨zw_844, zw_845, zw_846⟩ ⟨⟨_, _, rfl⟩, by decide⟩ rfl rfl (Nat.le_of_ble_eq_true rfl) h (fun _ _ e => zc_X4_add e) (fun M31 _ _ h => ?_)
      refine zV_b (pc' := 141) (lv' := [(0, .inr (.inr l0)), (1, .inl l1), (2, .inr (.inl l2_24))]) (st' := [.inr (.inl l2_24)]) [(.lload_n 2, 1)] (by decide +kernel) rfl ?_
      exact zend_j h hR (by decide +kernel)
    · exact zV_lv (lv' := []) [] rfl (zt_X11_letMonthsGoBy_J11 h hR)
theorem zc_X11_letMonthsGoBy {M M' : Zm} {l0 : Option Nat} {l1 : Int32} {x : Int64} (h : zf_X11_letMonthsGoBy M l0 l1 = some (M', x)) (l : Launch) (D : va_G) (cy : Nat → ClassId) : zMet l yX11_letMonthsGoBy zC_X11_letMonthsGoBy (some .long) D cy [.inr (.inr l0), .inl l1] M M' (some (.inr (.inl x))) :=
  zM_j (by decide) rfl (fun h => by cases h) (Nat.le_of_ble_eq_true rfl) (fun X hR => zt_X11_letMonthsGoBy h hR)
-- BlendCellar.breathe(I)J
def zC_X11_breathe : Zc := (cX11_breathe, 2, RX11, 10, 234, false)
theorem zcl_X11_breathe {C : Zc} (h1 : zC_X11_breathe.2.2.2.1 + 1 ≤ C.2.2.2.1) (h2 : 8 + (zC_X11_breathe.2.1 + 11) + zC_X11_breathe.2.2.2.2.1 ≤ C.2.2.2.2.1) : zCl C yX11_breathe zC_X11_breathe (some .long) 1 := ⟨zw_994, zw_101, ⟨by decide, by decide⟩, by decide +kernel, h1, h2⟩
noncomputable def zf_X11_breathe (M : Zm) (l0 : Option Nat) (l1 : Int32) : Option (Zm × Int64) :=
  zb1 (zo_rc M l0 12) (fun _ => zbd (zf_X11_openTap M l0) (fun M1 _ =>
  zb1 (zo_rc M1 l0 12) (fun _ => zbd (zf_X11_letMonthsGoBy M1 l0 l1) (fun M2 v2 =>
  zb1 (zo_rc M2 l0 12) (fun _ => zbd (zf_X11_closeTap M2 l0 v2) (fun M3 v3 =>
  some (M3, v3)))))))
set_option maxRecDepth 100000 in
theorem zt_X11_breathe {X : Zx} {M : Zm} {l0 : Option Nat} {l1 : Int32} {z : Zm × Int64} (h : zf_X11_breathe M l0 l1 = some z) (hR : zRj X zC_X11_breathe z.1 z.2) : zV X zC_X11_breathe M 0 [(0, .inr (.inr l0)), (1, .inl l1)] [] := by
  unfold zf_X11_breathe at h
  refine zV_b (pc' := 1) (lv' := [(0, .inr (.inr l0)), (1, .inl l1)]) (st' := [.inr (.inr l0)]) [(.aload_n 0, 1)] (by decide +kernel) rfl ?_
  refine zV_cvv (As := []) (st := []) (c := 12) (by decide +kernel) (zcl_X11_openTap (by decide) (by decide)) ⟨zw_453, zw_455, zw_0⟩ ⟨⟨_, _, rfl⟩, by decide⟩ rfl rfl (Nat.le_of_ble_eq_true rfl) h (fun _ _ e => zc_X11_openTap e) (fun M1 _ _ h => ?_)
  refine zV_b (pc' := 7) (lv' := [(0, .inr (.inr l0)), (1, .inl l1)]) (st' := [.inl l1, .inr (.inr l0), .inr (.inr l0)]) [(.aload_n 0, 1), (.aload_n 0, 1), (.iload_n 1, 1)] (by decide +kernel) rfl ?_
  refine zV_cvj (As := [.inl l1]) (st := [.inr (.inr l0)]) (c := 12) (by decide +kernel) (zcl_X11_letMonthsGoBy (by decide) (by decide)) ⟨zw_995, zw_997, zw_37⟩ ⟨⟨_, _, rfl⟩, by decide⟩ rfl rfl (Nat.le_of_ble_eq_true rfl) h (fun _ _ e => zc_X11_letMonthsGoBy e) (fun M2 v2 _ h => ?_)
  refine zV_cvj (As := [.inr (.inl v2)]) (st := []) (c := 12) (by decide +kernel) (zcl_X11_closeTap (by decide) (by decide)) ⟨zw_510, zw_512, zw_3⟩ ⟨⟨_, _, rfl⟩, by decide⟩ rfl rfl (Nat.le_of_ble_eq_true rfl) h (fun _ _ e => zc_X11_closeTap e) (fun M3 v3 _ h => ?_)
  exact zend_j h hR (by decide +kernel)
theorem zc_X11_breathe {M M' : Zm} {l0 : Option Nat} {l1 : Int32} {x : Int64} (h : zf_X11_breathe M l0 l1 = some (M', x)) (l : Launch) (D : va_G) (cy : Nat → ClassId) : zMet l yX11_breathe zC_X11_breathe (some .long) D cy [.inr (.inr l0), .inl l1] M M' (some (.inr (.inl x))) :=
  zM_j (by decide) rfl (fun h => by cases h) (Nat.le_of_ble_eq_true rfl) (fun X hR => zt_X11_breathe h hR)
-- BlendCellar.buildRow(III)J
def zC_X11_buildRow : Zc := (cX11_buildRow, 4, RX11, 3, 67, false)
theorem zcl_X11_buildRow {C : Zc} (h1 : zC_X11_buildRow.2.2.2.1 + 1 ≤ C.2.2.2.1) (h2 : 8 + (zC_X11_buildRow.2.1 + 11) + zC_X11_buildRow.2.2.2.2.1 ≤ C.2.2.2.2.1) : zCl C yX11_buildRow zC_X11_buildRow (some .long) 3 := ⟨zw_464, zw_101, ⟨by decide, by decide⟩, by decide +kernel, h1, h2⟩
noncomputable def zf_X11_buildRow_J16 (M : Zm)  : Option (Zm × Int64) :=
  some (M, (-1 : Int64))
noncomputable def zf_X11_buildRow_J30 (M : Zm)  : Option (Zm × Int64) :=
  some (M, (-3 : Int64))
noncomputable def zf_X11_buildRow (M : Zm) (l0 : Option Nat) (l1 : Int32) (l2 : Int32) (l3 : Int32) : Option (Zm × Int64) :=
  (if l2 < 0 then
  zf_X11_buildRow_J16 M
  else
  (if (6 : Int32) < l2 then
  zf_X11_buildRow_J16 M
  else
  (if l3 ≤ (60 : Int32) then
  (if l1 < 0 then
  zf_X11_buildRow_J30 M
  else
  (if l1 < (20 : Int32) then
  zb1 (zo_gr M l0 12 1) (fun v10 =>
  zb1 (zo_ar M 17 v10 l1) (fun v11 =>
  (if v11 = none then
  (if 0 ≤ l3 then
  zb1 (zo_rc M l0 12) (fun _ => zbd (zf_X11_remember M l0) (fun M14 _ =>
  zb1 (zo_gr M14 l0 12 11) (fun v15 =>
  zb1 (zo_rc M14 v15 2) (fun _ => zbd (zf_X1_keepRow M14 v15 l1) (fun M16 _ =>
  zb1 (zo_gr M16 l0 12 1) (fun v17 =>
  zb1 (zo_n M16 8 2) (fun M18 =>
  zb1 (zo_rc M18 (zm_nx M16) 8) (fun _ => zbd (zf_X7_init M18 (zm_nx M16) l2 l3) (fun M19 _ =>
  zb1 (zo_sr M19 17 8 v17 l1 (zm_nx M16)) (fun M20 =>
  some (M20, (l3.toInt64))))))))))))
  else
  some (M, (-7 : Int64)))
  else
  some (M, (-8 : Int64)))))
  else
  zf_X11_buildRow_J30 M))
  else
  zf_X11_buildRow_J16 M)))
set_option maxRecDepth 100000 in
theorem zt_X11_buildRow_J16 {X : Zx} {M : Zm}  {z : Zm × Int64} (h : zf_X11_buildRow_J16 M  = some z) (hR : zRj X zC_X11_buildRow z.1 z.2) : zV X zC_X11_buildRow M 16 [] [] := by
  unfold zf_X11_buildRow_J16 at h
  refine zV_ldc2 (by decide +kernel) zw_465 ?_
  exact zend_j h hR (by decide +kernel)
set_option maxRecDepth 100000 in
theorem zt_X11_buildRow_J30 {X : Zx} {M : Zm}  {z : Zm × Int64} (h : zf_X11_buildRow_J30 M  = some z) (hR : zRj X zC_X11_buildRow z.1 z.2) : zV X zC_X11_buildRow M 30 [] [] := by
  unfold zf_X11_buildRow_J30 at h
  refine zV_ldc2 (by decide +kernel) zw_466 ?_
  exact zend_j h hR (by decide +kernel)
set_option maxRecDepth 100000 in
theorem zt_X11_buildRow {X : Zx} {M : Zm} {l0 : Option Nat} {l1 : Int32} {l2 : Int32} {l3 : Int32} {z : Zm × Int64} (h : zf_X11_buildRow M l0 l1 l2 l3 = some z) (hR : zRj X zC_X11_buildRow z.1 z.2) : zV X zC_X11_buildRow M 0 [(0, .inr (.inr l0)), (1, .inl l1), (2, .inl l2), (3, .inl l3)] [] := by
  unfold zf_X11_buildRow at h
  refine zV_b (pc' := 1) (lv' := [(0, .inr (.inr l0)), (1, .inl l1), (2, .inl l2), (3, .inl l3)]) (st' := [.inl l2]) [(.iload_n 2, 1)] (by decide +kernel) rfl ?_
  refine zV_if_lt (off := 15) (tgt := 16) (by decide +kernel) (by decide) h (fun c1 h => ?_) (fun c1 h => ?_)
  · exact zV_lv (lv' := []) [] rfl (zt_X11_buildRow_J16 h hR)
  · refine zV_b (pc' := 7) (lv' := [(0, .inr (.inr l0)), (1, .inl l1), (2, .inl l2), (3, .inl l3)]) (st' := [.inl (6 : Int32), .inl l2]) [(.iload_n 2, 1), (.bipush 6, 2)] (by decide +kernel) rfl ?_
    refine zV_icmp_gt (off := 9) (tgt := 16) (by decide +kernel) (by decide) h (fun c4 h => ?_) (fun c4 h => ?_)
    · exact zV_lv (lv' := []) [] rfl (zt_X11_buildRow_J16 h hR)
    · refine zV_b (pc' := 13) (lv' := [(0, .inr (.inr l0)), (1, .inl l1), (2, .inl l2), (3, .inl l3)]) (st' := [.inl (60 : Int32), .inl l3]) [(.iload_n 3, 1), (.bipush 60, 2)] (by decide +kernel) rfl ?_
      refine zV_icmp_le (off := 7) (tgt := 20) (by decide +kernel) (by decide) h (fun c5 h => ?_) (fun c5 h => ?_)
      · refine zV_b (pc' := 21) (lv' := [(0, .inr (.inr l0)), (1, .inl l1), (2, .inl l2), (3, .inl l3)]) (st' := [.inl l1]) [(.iload_n 1, 1)] (by decide +kernel) rfl ?_
        refine zV_if_lt (off := 9) (tgt := 30) (by decide +kernel) (by decide) h (fun c6 h => ?_) (fun c6 h => ?_)
        · exact zV_lv (lv' := []) [] rfl (zt_X11_buildRow_J30 h hR)
        · refine zV_b (pc' := 27) (lv' := [(0, .inr (.inr l0)), (1, .inl l1), (2, .inl l2), (3, .inl l3)]) (st' := [.inl (20 : Int32), .inl l1]) [(.iload_n 1, 1), (.bipush 20, 2)] (by decide +kernel) rfl ?_
          refine zV_icmp_lt (off := 7) (tgt := 34) (by decide +kernel) (by decide) h (fun c9 h => ?_) (fun c9 h => ?_)
          · refine zV_b (pc' := 35) (lv' := [(0, .inr (.inr l0)), (1, .inl l1), (2, .inl l2), (3, .inl l3)]) (st' := [.inr (.inr l0)]) [(.aload_n 0, 1)] (by decide +kernel) rfl ?_
            refine zV_gr (by decide +kernel) zfl_RX11_18 (by decide) rfl h (fun v10 _ h => ?_)
            refine zV_b (pc' := 39) (lv' := [(0, .inr (.inr l0)), (1, .inl l1), (2, .inl l2), (3, .inl l3)]) (st' := [.inl l1, .inr (.inr v10)]) [(.iload_n 1, 1)] (by decide +kernel) rfl ?_
            refine zV_ar (by decide +kernel) (by decide) (by decide) h (fun v11 _ h => ?_)
            refine zV_ifnull (off := 7) (tgt := 47) (by decide +kernel) (by decide) h (fun c12 h => ?_) (fun c12 h => ?_)
            · refine zV_b (pc' := 48) (lv' := [(0, .inr (.inr l0)), (1, .inl l1), (2, .inl l2), (3, .inl l3)]) (st' := [.inl l3]) [(.iload_n 3, 1)] (by decide +kernel) rfl ?_
              refine zV_if_ge (off := 7) (tgt := 55) (by decide +kernel) (by decide) h (fun c13 h => ?_) (fun c13 h => ?_)
              · refine zV_b (pc' := 56) (lv' := [(0, .inr (.inr l0)), (1, .inl l1), (2, .inl l2), (3, .inl l3)]) (st' := [.inr (.inr l0)]) [(.aload_n 0, 1)] (by decide +kernel) rfl ?_
                refine zV_cvv (As := []) (st := []) (c := 12) (by decide +kernel) (zcl_X11_remember (by decide) (by decide)) ⟨zw_469, zw_471, zw_2⟩ ⟨⟨_, _, rfl⟩, by decide⟩ rfl rfl (Nat.le_of_ble_eq_true rfl) h (fun _ _ e => zc_X11_remember e) (fun M14 _ _ h => ?_)
                refine zV_b (pc' := 60) (lv' := [(0, .inr (.inr l0)), (1, .inl l1), (2, .inl l2), (3, .inl l3)]) (st' := [.inr (.inr l0)]) [(.aload_n 0, 1)] (by decide +kernel) rfl ?_
                refine zV_gr (by decide +kernel) zfl_RX11_79 (by decide) rfl h (fun v15 _ h => ?_)
                refine zV_b (pc' := 64) (lv' := [(0, .inr (.inr l0)), (1, .inl l1), (2, .inl l2), (3, .inl l3)]) (st' := [.inl l1, .inr (.inr v15)]) [(.iload_n 1, 1)] (by decide +kernel) rfl ?_
                refine zV_cvv (As := [.inl l1]) (st := []) (c := 2) (by decide +kernel) (zcl_X1_keepRow (by decide) (by decide)) ⟨zw_485, zw_486, zw_487⟩ ⟨⟨_, _, rfl⟩, by decide⟩ rfl rfl (Nat.le_of_ble_eq_true rfl) h (fun _ _ e => zc_X1_keepRow e) (fun M16 _ _ h => ?_)
                refine zV_b (pc' := 68) (lv' := [(0, .inr (.inr l0)), (1, .inl l1), (2, .inl l2), (3, .inl l3)]) (st' := [.inr (.inr l0)]) [(.aload_n 0, 1)] (by decide +kernel) rfl ?_
                refine zV_gr (by decide +kernel) zfl_RX11_18 (by decide) rfl h (fun v17 _ h => ?_)
                refine zV_b (pc' := 72) (lv' := [(0, .inr (.inr l0)), (1, .inl l1), (2, .inl l2), (3, .inl l3)]) (st' := [.inl l1, .inr (.inr v17)]) [(.iload_n 1, 1)] (by decide +kernel) rfl ?_
                refine zV_n (by decide +kernel) znw_RX11_16 h (fun M18 _ h => ?_)
                refine zV_b (pc' := 78) (lv' := [(0, .inr (.inr l0)), (1, .inl l1), (2, .inl l2), (3, .inl l3)]) (st' := [.inl l3, .inl l2, .inr (.inr (zm_nx M16)), .inr (.inr (zm_nx M16)), .inl l1, .inr (.inr v17)]) [(.dup, 1), (.iload_n 2, 1), (.iload_n 3, 1)] (by decide +kernel) rfl ?_
                refine zV_cii (As := [.inl l2, .inl l3]) (st := [.inr (.inr (zm_nx M16)), .inl l1, .inr (.inr v17)]) (c := 8) (by decide +kernel) (zcl_X7_init (by decide) (by decide)) ⟨zw_494, rfl, zw_495⟩ rfl rfl (Nat.le_of_ble_eq_true rfl) h (fun _ _ e => zc_X7_init e) (fun M19 _ _ h => ?_)
                refine zV_sr (by decide +kernel) (by decide) (by decide) (Or.inr ⟨_, _, rfl, by decide⟩) h (fun M20 _ h => ?_)
                refine zV_b (pc' := 84) (lv' := [(0, .inr (.inr l0)), (1, .inl l1), (2, .inl l2), (3, .inl l3)]) (st' := [.inr (.inl (l3.toInt64))]) [(.iload_n 3, 1), (.i2l, 1)] (by decide +kernel) rfl ?_
                exact zend_j h hR (by decide +kernel)
              · refine zV_ldc2 (by decide +kernel) zw_468 ?_
                exact zend_j h hR (by decide +kernel)
            · refine zV_ldc2 (by decide +kernel) zw_467 ?_
              exact zend_j h hR (by decide +kernel)
          · exact zV_lv (lv' := []) [] rfl (zt_X11_buildRow_J30 h hR)
      · exact zV_lv (lv' := []) [] rfl (zt_X11_buildRow_J16 h hR)
theorem zc_X11_buildRow {M M' : Zm} {l0 : Option Nat} {l1 : Int32} {l2 : Int32} {l3 : Int32} {x : Int64} (h : zf_X11_buildRow M l0 l1 l2 l3 = some (M', x)) (l : Launch) (D : va_G) (cy : Nat → ClassId) : zMet l yX11_buildRow zC_X11_buildRow (some .long) D cy [.inr (.inr l0), .inl l1, .inl l2, .inl l3] M M' (some (.inr (.inl x))) :=
  zM_j (by decide) rfl (fun h => by cases h) (Nat.le_of_ble_eq_true rfl) (fun X hR => zt_X11_buildRow h hR)
-- BlendCellar.checkPair(II)I
def zC_X11_checkPair : Zc := (cX11_checkPair, 3, RX11, 3, 64, false)
theorem zcl_X11_checkPair {C : Zc} (h1 : zC_X11_checkPair.2.2.2.1 + 1 ≤ C.2.2.2.1) (h2 : 8 + (zC_X11_checkPair.2.1 + 11) + zC_X11_checkPair.2.2.2.2.1 ≤ C.2.2.2.2.1) : zCl C yX11_checkPair zC_X11_checkPair (some .int) 2 := ⟨zw_860, zw_101, ⟨by decide, by decide⟩, by decide +kernel, h1, h2⟩
noncomputable def zf_X11_checkPair_J42 (M : Zm)  : Option (Zm × Int32) :=
  some (M, (9 : Int32))
noncomputable def zf_X11_checkPair (M : Zm) (l0 : Option Nat) (l1 : Int32) (l2 : Int32) : Option (Zm × Int32) :=
  (if l1 = l2 then
  some (M, (13 : Int32))
  else
  zb1 (zo_gr M l0 12 0) (fun v3 =>
  zb1 (zo_rc M v3 0) (fun _ => zbd (zf_Jx4a65c_get_915e3 M v3 l1) (fun M4 v4 =>
  zb1 (zo_cc M4 v4 1) (fun _ =>
  zb1 (zo_rc M4 v4 1) (fun _ => zbd (zf_X0_inCask M4 v4) (fun M6 v6 =>
  (if v6 = 0 then
  zb1 (zo_gr M6 l0 12 0) (fun v8 =>
  zb1 (zo_rc M6 v8 0) (fun _ => zbd (zf_Jx4a65c_get_915e3 M6 v8 l2) (fun M9 v9 =>
  zb1 (zo_cc M9 v9 1) (fun _ =>
  zb1 (zo_rc M9 v9 1) (fun _ => zbd (zf_X0_inCask M9 v9) (fun M11 v11 =>
  (if v11 = 0 then
  some (M11, (0 : Int32))
  else
  zf_X11_checkPair_J42 M11)))))))
  else
  zf_X11_checkPair_J42 M6))))))))
set_option maxRecDepth 100000 in
theorem zt_X11_checkPair_J42 {X : Zx} {M : Zm}  {z : Zm × Int32} (h : zf_X11_checkPair_J42 M  = some z) (hR : zRi X zC_X11_checkPair z.1 z.2) : zV X zC_X11_checkPair M 42 [] [] := by
  unfold zf_X11_checkPair_J42 at h
  refine zV_b (pc' := 44) (lv' := []) (st' := [.inl (9 : Int32)]) [(.bipush 9, 2)] (by decide +kernel) rfl ?_
  refine zV_goto (off := 4) (tgt := 48) (by decide +kernel) (by decide) ?_
  exact zend_i h hR (by decide +kernel)
set_option maxRecDepth 100000 in
theorem zt_X11_checkPair {X : Zx} {M : Zm} {l0 : Option Nat} {l1 : Int32} {l2 : Int32} {z : Zm × Int32} (h : zf_X11_checkPair M l0 l1 l2 = some z) (hR : zRi X zC_X11_checkPair z.1 z.2) : zV X zC_X11_checkPair M 0 [(0, .inr (.inr l0)), (1, .inl l1), (2, .inl l2)] [] := by
  unfold zf_X11_checkPair at h
  refine zV_b (pc' := 2) (lv' := [(0, .inr (.inr l0)), (1, .inl l1), (2, .inl l2)]) (st' := [.inl l2, .inl l1]) [(.iload_n 1, 1), (.iload_n 2, 1)] (by decide +kernel) rfl ?_
  refine zV_icmp_ne (off := 6) (tgt := 8) (by decide +kernel) (by decide) h (fun c1 h => ?_) (fun c1 h => ?_)
  · refine zV_b (pc' := 7) (lv' := [(0, .inr (.inr l0)), (1, .inl l1), (2, .inl l2)]) (st' := [.inl (13 : Int32)]) [(.bipush 13, 2)] (by decide +kernel) rfl ?_
    exact zend_i h hR (by decide +kernel)
  · refine zV_b (pc' := 9) (lv' := [(0, .inr (.inr l0)), (1, .inl l1), (2, .inl l2)]) (st' := [.inr (.inr l0)]) [(.aload_n 0, 1)] (by decide +kernel) rfl ?_
    refine zV_gr (by decide +kernel) zfl_RX11_12 (by decide) rfl h (fun v3 _ h => ?_)
    refine zV_b (pc' := 13) (lv' := [(0, .inr (.inr l0)), (1, .inl l1), (2, .inl l2)]) (st' := [.inl l1, .inr (.inr v3)]) [(.iload_n 1, 1)] (by decide +kernel) rfl ?_
    refine zV_cvr (As := [.inl l1]) (st := []) (c := 0) (by decide +kernel) (zcl_Jx4a65c_get_915e3 (by decide) (by decide)) ⟨zw_670, zw_671, zw_672⟩ ⟨⟨_, _, rfl⟩, by decide⟩ rfl rfl (Nat.le_of_ble_eq_true rfl) h (fun _ _ e => zc_Jx4a65c_get_915e3 e) (fun M4 v4 _ h => ?_)
    refine zV_cc (by decide +kernel) zck_RX11_156 h (fun _ _ h => ?_)
    refine zV_cvi (As := []) (st := []) (c := 1) (by decide +kernel) (zcl_X0_inCask (by decide) (by decide)) ⟨zw_780, zw_781, zw_782⟩ ⟨⟨_, _, rfl⟩, by decide⟩ rfl rfl (Nat.le_of_ble_eq_true rfl) h (fun _ _ e => zc_X0_inCask e) (fun M6 v6 _ h => ?_)
    refine zV_if_ne (off := 20) (tgt := 42) (by decide +kernel) (by decide) h (fun c7 h => ?_) (fun c7 h => ?_)
    · refine zV_b (pc' := 26) (lv' := [(0, .inr (.inr l0)), (1, .inl l1), (2, .inl l2)]) (st' := [.inr (.inr l0)]) [(.aload_n 0, 1)] (by decide +kernel) rfl ?_
      refine zV_gr (by decide +kernel) zfl_RX11_12 (by decide) rfl h (fun v8 _ h => ?_)
      refine zV_b (pc' := 30) (lv' := [(0, .inr (.inr l0)), (1, .inl l1), (2, .inl l2)]) (st' := [.inl l2, .inr (.inr v8)]) [(.iload_n 2, 1)] (by decide +kernel) rfl ?_
      refine zV_cvr (As := [.inl l2]) (st := []) (c := 0) (by decide +kernel) (zcl_Jx4a65c_get_915e3 (by decide) (by decide)) ⟨zw_670, zw_671, zw_672⟩ ⟨⟨_, _, rfl⟩, by decide⟩ rfl rfl (Nat.le_of_ble_eq_true rfl) h (fun _ _ e => zc_Jx4a65c_get_915e3 e) (fun M9 v9 _ h => ?_)
      refine zV_cc (by decide +kernel) zck_RX11_156 h (fun _ _ h => ?_)
      refine zV_cvi (As := []) (st := []) (c := 1) (by decide +kernel) (zcl_X0_inCask (by decide) (by decide)) ⟨zw_780, zw_781, zw_782⟩ ⟨⟨_, _, rfl⟩, by decide⟩ rfl rfl (Nat.le_of_ble_eq_true rfl) h (fun _ _ e => zc_X0_inCask e) (fun M11 v11 _ h => ?_)
      refine zV_if_eq (off := 8) (tgt := 47) (by decide +kernel) (by decide) h (fun c12 h => ?_) (fun c12 h => ?_)
      · refine zV_b (pc' := 48) (lv' := [(0, .inr (.inr l0)), (1, .inl l1), (2, .inl l2)]) (st' := [.inl (0 : Int32)]) [(.iconst 0, 1)] (by decide +kernel) rfl ?_
        exact zend_i h hR (by decide +kernel)
      · exact zV_lv (lv' := []) [] rfl (zt_X11_checkPair_J42 h hR)
    · exact zV_lv (lv' := []) [] rfl (zt_X11_checkPair_J42 h hR)
theorem zc_X11_checkPair {M M' : Zm} {l0 : Option Nat} {l1 : Int32} {l2 : Int32} {x : Int32} (h : zf_X11_checkPair M l0 l1 l2 = some (M', x)) (l : Launch) (D : va_G) (cy : Nat → ClassId) : zMet l yX11_checkPair zC_X11_checkPair (some .int) D cy [.inr (.inr l0), .inl l1, .inl l2] M M' (some (.inl x)) :=
  zM_i (by decide) rfl (fun h => by cases h) (Nat.le_of_ble_eq_true rfl) (fun X hR => zt_X11_checkPair h hR)
-- BlendCellar.checkPicksForPlan()I
def zC_X11_checkPicksForPlan : Zc := (cX11_checkPicksForPlan, 1, RX11, 2, 41, false)
theorem zcl_X11_checkPicksForPlan {C : Zc} (h1 : zC_X11_checkPicksForPlan.2.2.2.1 + 1 ≤ C.2.2.2.1) (h2 : 8 + (zC_X11_checkPicksForPlan.2.1 + 11) + zC_X11_checkPicksForPlan.2.2.2.2.1 ≤ C.2.2.2.2.1) : zCl C yX11_checkPicksForPlan zC_X11_checkPicksForPlan (some .int) 0 := ⟨zw_1202, zw_101, ⟨by decide, by decide⟩, by decide +kernel, h1, h2⟩
noncomputable def zf_X11_checkPicksForPlan (M : Zm) (l0 : Option Nat) : Option (Zm × Int32) :=
  zb1 (zo_gr M l0 12 3) (fun v1 =>
  zb1 (zo_gi M v1 6 2) (fun v2 =>
  (if v2 = 0 then
  some (M, (10 : Int32))
  else
  zb1 (zo_gr M l0 12 3) (fun v5 =>
  zb1 (zo_gi M v5 6 2) (fun v6 =>
  (if v6 ≤ (6 : Int32) then
  zb1 (zo_gr M l0 12 3) (fun v8 =>
  zb1 (zo_rc M v8 6) (fun _ => zbd (zf_X5_anyInCask M v8) (fun M9 v9 =>
  (if v9 = 0 then
  some (M9, (0 : Int32))
  else
  some (M9, (9 : Int32))))))
  else
  some (M, (12 : Int32))))))))
set_option maxRecDepth 100000 in
theorem zt_X11_checkPicksForPlan {X : Zx} {M : Zm} {l0 : Option Nat} {z : Zm × Int32} (h : zf_X11_checkPicksForPlan M l0 = some z) (hR : zRi X zC_X11_checkPicksForPlan z.1 z.2) : zV X zC_X11_checkPicksForPlan M 0 [(0, .inr (.inr l0))] [] := by
  unfold zf_X11_checkPicksForPlan at h
  refine zV_b (pc' := 1) (lv' := [(0, .inr (.inr l0))]) (st' := [.inr (.inr l0)]) [(.aload_n 0, 1)] (by decide +kernel) rfl ?_
  refine zV_gr (by decide +kernel) zfl_RX11_28 (by decide) rfl h (fun v1 _ h => ?_)
  refine zV_gi (by decide +kernel) zfl_RX11_343 (by decide) rfl (Or.inl rfl) h (fun v2 _ h => ?_)
  refine zV_if_ne (off := 6) (tgt := 13) (by decide +kernel) (by decide) h (fun c3 h => ?_) (fun c3 h => ?_)
  · refine zV_b (pc' := 12) (lv' := [(0, .inr (.inr l0))]) (st' := [.inl (10 : Int32)]) [(.bipush 10, 2)] (by decide +kernel) rfl ?_
    exact zend_i h hR (by decide +kernel)
  · refine zV_b (pc' := 14) (lv' := [(0, .inr (.inr l0))]) (st' := [.inr (.inr l0)]) [(.aload_n 0, 1)] (by decide +kernel) rfl ?_
    refine zV_gr (by decide +kernel) zfl_RX11_28 (by decide) rfl h (fun v5 _ h => ?_)
    refine zV_gi (by decide +kernel) zfl_RX11_343 (by decide) rfl (Or.inl rfl) h (fun v6 _ h => ?_)
    refine zV_b (pc' := 22) (lv' := [(0, .inr (.inr l0))]) (st' := [.inl (6 : Int32), .inl v6]) [(.bipush 6, 2)] (by decide +kernel) rfl ?_
    refine zV_icmp_le (off := 6) (tgt := 28) (by decide +kernel) (by decide) h (fun c7 h => ?_) (fun c7 h => ?_)
    · refine zV_b (pc' := 29) (lv' := [(0, .inr (.inr l0))]) (st' := [.inr (.inr l0)]) [(.aload_n 0, 1)] (by decide +kernel) rfl ?_
      refine zV_gr (by decide +kernel) zfl_RX11_28 (by decide) rfl h (fun v8 _ h => ?_)
      refine zV_cvi (As := []) (st := []) (c := 6) (by decide +kernel) (zcl_X5_anyInCask (by decide) (by decide)) ⟨zw_972, zw_973, zw_974⟩ ⟨⟨_, _, rfl⟩, by decide⟩ rfl rfl (Nat.le_of_ble_eq_true rfl) h (fun _ _ e => zc_X5_anyInCask e) (fun M9 v9 _ h => ?_)
      refine zV_if_eq (off := 8) (tgt := 43) (by decide +kernel) (by decide) h (fun c10 h => ?_) (fun c10 h => ?_)
      · refine zV_b (pc' := 44) (lv' := [(0, .inr (.inr l0))]) (st' := [.inl (0 : Int32)]) [(.iconst 0, 1)] (by decide +kernel) rfl ?_
        exact zend_i h hR (by decide +kernel)
      · refine zV_b (pc' := 40) (lv' := [(0, .inr (.inr l0))]) (st' := [.inl (9 : Int32)]) [(.bipush 9, 2)] (by decide +kernel) rfl ?_
        refine zV_goto (off := 4) (tgt := 44) (by decide +kernel) (by decide) ?_
        exact zend_i h hR (by decide +kernel)
    · refine zV_b (pc' := 27) (lv' := [(0, .inr (.inr l0))]) (st' := [.inl (12 : Int32)]) [(.bipush 12, 2)] (by decide +kernel) rfl ?_
      exact zend_i h hR (by decide +kernel)
theorem zc_X11_checkPicksForPlan {M M' : Zm} {l0 : Option Nat} {x : Int32} (h : zf_X11_checkPicksForPlan M l0 = some (M', x)) (l : Launch) (D : va_G) (cy : Nat → ClassId) : zMet l yX11_checkPicksForPlan zC_X11_checkPicksForPlan (some .int) D cy [.inr (.inr l0)] M M' (some (.inl x)) :=
  zM_i (by decide) rfl (fun h => by cases h) (Nat.le_of_ble_eq_true rfl) (fun X hR => zt_X11_checkPicksForPlan h hR)
-- BlendCellar.checkSteps(JI)I
def zC_X11_checkSteps : Zc := (cX11_checkSteps, 3, RX11, 1, 21, false)
theorem zcl_X11_checkSteps {C : Zc} (h1 : zC_X11_checkSteps.2.2.2.1 + 1 ≤ C.2.2.2.1) (h2 : 8 + (zC_X11_checkSteps.2.1 + 11) + zC_X11_checkSteps.2.2.2.2.1 ≤ C.2.2.2.2.1) : zCl C yX11_checkSteps zC_X11_checkSteps (some .int) 2 := ⟨zw_1197, zw_101, ⟨by decide, by decide⟩, by decide +kernel, h1, h2⟩
noncomputable def zf_X11_checkSteps_J39 (M : Zm)  : Option (Zm × Int32) :=
  some (M, (1 : Int32))
noncomputable def zf_X11_checkSteps (M : Zm) (l0 : Int64) (l2 : Int32) : Option (Zm × Int32) :=
  zbd (zf_X11_isMl M l0) (fun M1 v1 =>
  (if v1 = 0 then
  some (M1, (1 : Int32))
  else
  (if 0 ≤ l2 then
  (if l2 = 0 then
  some (M1, (5 : Int32))
  else
  zb1 (zo_lm l0 (l2.toInt64)) (fun v7 =>
  (if v7 = (0 : Int64) then
  zb1 (zo_ld l0 (l2.toInt64)) (fun v9 =>
  (if v9 ≤ (12 : Int64) then
  some (M1, (0 : Int32))
  else
  zf_X11_checkSteps_J39 M1))
  else
  zf_X11_checkSteps_J39 M1)))
  else
  some (M1, (1 : Int32)))))
set_option maxRecDepth 100000 in
theorem zt_X11_checkSteps_J39 {X : Zx} {M : Zm}  {z : Zm × Int32} (h : zf_X11_checkSteps_J39 M  = some z) (hR : zRi X zC_X11_checkSteps z.1 z.2) : zV X zC_X11_checkSteps M 39 [] [] := by
  unfold zf_X11_checkSteps_J39 at h
  refine zV_b (pc' := 40) (lv' := []) (st' := [.inl (1 : Int32)]) [(.iconst 1, 1)] (by decide +kernel) rfl ?_
  refine zV_goto (off := 4) (tgt := 44) (by decide +kernel) (by decide) ?_
  exact zend_i h hR (by decide +kernel)
set_option maxRecDepth 100000 in
theorem zt_X11_checkSteps {X : Zx} {M : Zm} {l0 : Int64} {l2 : Int32} {z : Zm × Int32} (h : zf_X11_checkSteps M l0 l2 = some z) (hR : zRi X zC_X11_checkSteps z.1 z.2) : zV X zC_X11_checkSteps M 0 [(0, .inr (.inl l0)), (2, .inl l2)] [] := by
  unfold zf_X11_checkSteps at h
  refine zV_b (pc' := 1) (lv' := [(0, .inr (.inl l0)), (2, .inl l2)]) (st' := [.inr (.inl l0)]) [(.lload_n 0, 1)] (by decide +kernel) rfl ?_
  refine zV_csi (As := [.inr (.inl l0)]) (st := []) (by decide +kernel) (zcl_X11_isMl (by decide) (by decide)) ⟨zw_772, zw_773⟩ rfl rfl (Nat.le_of_ble_eq_true rfl) h (fun _ _ e => zc_X11_isMl e) (fun M1 v1 _ h => ?_)
  refine zV_if_eq (off := 7) (tgt := 11) (by decide +kernel) (by decide) h (fun c2 h => ?_) (fun c2 h => ?_)
  · refine zV_b (pc' := 12) (lv' := [(0, .inr (.inl l0)), (2, .inl l2)]) (st' := [.inl (1 : Int32)]) [(.iconst 1, 1)] (by decide +kernel) rfl ?_
    exact zend_i h hR (by decide +kernel)
  · refine zV_b (pc' := 8) (lv' := [(0, .inr (.inl l0)), (2, .inl l2)]) (st' := [.inl l2]) [(.iload_n 2, 1)] (by decide +kernel) rfl ?_
    refine zV_if_ge (off := 5) (tgt := 13) (by decide +kernel) (by decide) h (fun c4 h => ?_) (fun c4 h => ?_)
    · refine zV_b (pc' := 14) (lv' := [(0, .inr (.inl l0)), (2, .inl l2)]) (st' := [.inl l2]) [(.iload_n 2, 1)] (by decide +kernel) rfl ?_
      refine zV_if_ne (off := 5) (tgt := 19) (by decide +kernel) (by decide) h (fun c5 h => ?_) (fun c5 h => ?_)
      · refine zV_b (pc' := 18) (lv' := [(0, .inr (.inl l0)), (2, .inl l2)]) (st' := [.inl (5 : Int32)]) [(.iconst 5, 1)] (by decide +kernel) rfl ?_
        exact zend_i h hR (by decide +kernel)
      · refine zV_b (pc' := 22) (lv' := [(0, .inr (.inl l0)), (2, .inl l2)]) (st' := [.inr (.inl (l2.toInt64)), .inr (.inl l0)]) [(.lload_n 0, 1), (.iload_n 2, 1), (.i2l, 1)] (by decide +kernel) rfl ?_
        refine zV_lm (by decide +kernel) h (fun v7 _ h => ?_)
        refine zV_b (pc' := 24) (lv' := [(0, .inr (.inl l0)), (2, .inl l2)]) (st' := [.inr (.inl (0 : Int64)), .inr (.inl v7)]) [(.lconst 0, 1)] (by decide +kernel) rfl ?_
        refine zV_lcmp_ne (off := 14) (tgt := 39) (by decide +kernel) (by decide +kernel) (by decide) h (fun c8 h => ?_) (fun c8 h => ?_)
        · refine zV_b (pc' := 31) (lv' := [(0, .inr (.inl l0)), (2, .inl l2)]) (st' := [.inr (.inl (l2.toInt64)), .inr (.inl l0)]) [(.lload_n 0, 1), (.iload_n 2, 1), (.i2l, 1)] (by decide +kernel) rfl ?_
          refine zV_ld (by decide +kernel) h (fun v9 _ h => ?_)
          refine zV_ldc2 (by decide +kernel) zw_1198 ?_
          refine zV_lcmp_le (off := 7) (tgt := 43) (by decide +kernel) (by decide +kernel) (by decide) h (fun c11 h => ?_) (fun c11 h => ?_)
          · refine zV_b (pc' := 44) (lv' := [(0, .inr (.inl l0)), (2, .inl l2)]) (st' := [.inl (0 : Int32)]) [(.iconst 0, 1)] (by decide +kernel) rfl ?_
            exact zend_i h hR (by decide +kernel)
          · exact zV_lv (lv' := []) [] rfl (zt_X11_checkSteps_J39 h hR)
        · exact zV_lv (lv' := []) [] rfl (zt_X11_checkSteps_J39 h hR)
    · refine zV_b (pc' := 12) (lv' := [(0, .inr (.inl l0)), (2, .inl l2)]) (st' := [.inl (1 : Int32)]) [(.iconst 1, 1)] (by decide +kernel) rfl ?_
      exact zend_i h hR (by decide +kernel)
theorem zc_X11_checkSteps {M M' : Zm} {l0 : Int64} {l2 : Int32} {x : Int32} (h : zf_X11_checkSteps M l0 l2 = some (M', x)) (l : Launch) (D : va_G) (cy : Nat → ClassId) : zMet l yX11_checkSteps zC_X11_checkSteps (some .int) D cy [.inr (.inl l0), .inl l2] M M' (some (.inl x)) :=
  zM_i (by decide) rfl (fun h => by cases h) (Nat.le_of_ble_eq_true rfl) (fun X hR => zt_X11_checkSteps h hR)
-- BlendCellar.closed()I
def zC_X11_closed : Zc := (cX11_closed, 1, RX11, 0, 0, false)
theorem zcl_X11_closed {C : Zc} (h1 : zC_X11_closed.2.2.2.1 + 1 ≤ C.2.2.2.1) (h2 : 8 + (zC_X11_closed.2.1 + 11) + zC_X11_closed.2.2.2.2.1 ≤ C.2.2.2.2.1) : zCl C yX11_closed zC_X11_closed (some .int) 0 := ⟨zw_1393, zw_101, ⟨by decide, by decide⟩, by decide +kernel, h1, h2⟩
noncomputable def zf_X11_closed (M : Zm) (l0 : Option Nat) : Option (Zm × Int32) :=
  zb1 (zo_gi M l0 12 17) (fun v1 =>
  (if v1 = 0 then
  some (M, (1 : Int32))
  else
  some (M, (0 : Int32))))
set_option maxRecDepth 100000 in
theorem zt_X11_closed {X : Zx} {M : Zm} {l0 : Option Nat} {z : Zm × Int32} (h : zf_X11_closed M l0 = some z) (hR : zRi X zC_X11_closed z.1 z.2) : zV X zC_X11_closed M 0 [(0, .inr (.inr l0))] [] := by
  unfold zf_X11_closed at h
  refine zV_b (pc' := 1) (lv' := [(0, .inr (.inr l0))]) (st' := [.inr (.inr l0)]) [(.aload_n 0, 1)] (by decide +kernel) rfl ?_
  refine zV_gi (by decide +kernel) zfl_RX11_104 (by decide) rfl (Or.inr rfl) h (fun v1 _ h => ?_)
  refine zV_if_eq (off := 7) (tgt := 11) (by decide +kernel) (by decide) h (fun c2 h => ?_) (fun c2 h => ?_)
  · refine zV_b (pc' := 12) (lv' := [(0, .inr (.inr l0))]) (st' := [.inl (1 : Int32)]) [(.iconst 1, 1)] (by decide +kernel) rfl ?_
    exact zend_i h hR (by decide +kernel)
  · refine zV_b (pc' := 8) (lv' := [(0, .inr (.inr l0))]) (st' := [.inl (0 : Int32)]) [(.iconst 0, 1)] (by decide +kernel) rfl ?_
    refine zV_goto (off := 4) (tgt := 12) (by decide +kernel) (by decide) ?_
    exact zend_i h hR (by decide +kernel)
theorem zc_X11_closed {M M' : Zm} {l0 : Option Nat} {x : Int32} (h : zf_X11_closed M l0 = some (M', x)) (l : Launch) (D : va_G) (cy : Nat → ClassId) : zMet l yX11_closed zC_X11_closed (some .int) D cy [.inr (.inr l0)] M M' (some (.inl x)) :=
  zM_i (by decide) rfl (fun h => by cases h) (Nat.le_of_ble_eq_true rfl) (fun X hR => zt_X11_closed h hR)
-- BlendCellar.digest()J
def zC_X11_digest : Zc := (cX11_digest, 4, RX11, 3, 64, false)
theorem zcl_X11_digest {C : Zc} (h1 : zC_X11_digest.2.2.2.1 + 1 ≤ C.2.2.2.1) (h2 : 8 + (zC_X11_digest.2.1 + 11) + zC_X11_digest.2.2.2.2.1 ≤ C.2.2.2.2.1) : zCl C yX11_digest zC_X11_digest (some .long) 0 := ⟨zw_1425, zw_101, ⟨by decide, by decide⟩, by decide +kernel, h1, h2⟩
noncomputable def zf_X11_digest_L15 (p0 : Option Nat) (x : Zm × Int64 × Int32) : Option ((Zm × Int64 × Int32) ⊕ (Zm × Int64 × Int32)) := match x with
  | (M, l1, l3) =>
  zb1 (zo_gr M p0 12 0) (fun v3 =>
  zb1 (zo_rc M v3 0) (fun _ => zbd (zf_Jx4a65c_size_8abf5 M v3) (fun M4 v4 =>
  (if v4 ≤ l3 then
  some (.inr (M4, l1, l3))
  else
  zb1 (zo_gr M4 p0 12 0) (fun v6 =>
  zb1 (zo_rc M4 v6 0) (fun _ => zbd (zf_Jx4a65c_get_915e3 M4 v6 l3) (fun M7 v7 =>
  zb1 (zo_cc M7 v7 1) (fun _ =>
  zb1 (zo_rc M7 v7 1) (fun _ => zbd (zf_X0_digestOnto M7 v7 l1) (fun M9 v9 =>
  some (.inl (M9, v9, (l3 + 1)))))))))))))
def zP_X11_digest_L15 (X : Zx) (p0 : Option Nat) (x : Zm × Int64 × Int32) : Prop := match x with
  | (M, l1, l3) => zV X zC_X11_digest M 15 [(0, .inr (.inr p0)), (1, .inr (.inl l1)), (3, .inl l3)] []
def zK_X11_digest_L15 (X : Zx) (p0 : Option Nat) (y : Zm × Int64 × Int32) : Prop := match y with
  | (M, l1, l3) => zV X zC_X11_digest M 48 [(0, .inr (.inr p0)), (1, .inr (.inl l1))] []
noncomputable def zf_X11_digest (M : Zm) (l0 : Option Nat) : Option (Zm × Int64) :=
  zb1 (zo_gr M l0 12 0) (fun v1 =>
  zb1 (zo_rc M v1 0) (fun _ => zbd (zf_Jx4a65c_size_8abf5 M v1) (fun M2 v2 =>
  zb1 (zwhile (zf_X11_digest_L15 l0) (M2, ((((217 : Int32) + v2)).toInt64), (0 : Int32))) (fun y11 => match y11 with
  | (M15_11, l1_11, l3_11) =>
  zb1 (zo_gi M15_11 l0 12 14) (fun v13 =>
  zb1 (zo_gr M15_11 l0 12 8) (fun v15 =>
  zb1 (zo_gi M15_11 v15 5 1) (fun v16 =>
  some (M15_11, ((((l1_11 * (31 : Int64)) + (v13.toInt64)) * (31 : Int64)) + (v16.toInt64))))))))))
set_option maxRecDepth 100000 in
theorem zt_X11_digest_L15 {X : Zx} {p0 : Option Nat} {x : Zm × Int64 × Int32} {y : Zm × Int64 × Int32} (h : zwhile (zf_X11_digest_L15 p0) x = some y) (hy : zK_X11_digest_L15 X p0 y) : zP_X11_digest_L15 X p0 x := by
  refine zwhile_ind (P := zP_X11_digest_L15 X p0) (K := zK_X11_digest_L15 X p0) ?_ h hy
  intro x z hf k1 k2
  obtain ⟨M, l1, l3⟩ := x
  have h : zf_X11_digest_L15 p0 (M, l1, l3) = some z := hf
  unfold zf_X11_digest_L15 at h
  show zV X zC_X11_digest M 15 [(0, .inr (.inr p0)), (1, .inr (.inl l1)), (3, .inl l3)] []
  refine zV_b (pc' := 17) (lv' := [(0, .inr (.inr p0)), (1, .inr (.inl l1)), (3, .inl l3)]) (st' := [.inr (.inr p0), .inl l3]) [(.iload_n 3, 1), (.aload_n 0, 1)] (by decide +kernel) rfl ?_
  refine zV_gr (by decide +kernel) zfl_RX11_12 (by decide) rfl h (fun v3 _ h => ?_)
  refine zV_cvi (As := []) (st := [.inl l3]) (c := 0) (by decide +kernel) (zcl_Jx4a65c_size_8abf5 (by decide) (by decide)) ⟨zw_473, zw_474, zw_475⟩ ⟨⟨_, _, rfl⟩, by decide⟩ rfl rfl (Nat.le_of_ble_eq_true rfl) h (fun _ _ e => zc_Jx4a65c_size_8abf5 e) (fun M4 v4 _ h => ?_)
  refine zV_icmp_ge (off := 25) (tgt := 48) (by decide +kernel) (by decide) h (fun c5 h => ?_) (fun c5 h => ?_)
  · exact zV_lv (lv' := [(0, .inr (.inr p0)), (1, .inr (.inl l1))]) [0, 1] rfl (k2 _ (Option.some.inj h).symm)
  · refine zV_b (pc' := 27) (lv' := [(0, .inr (.inr p0)), (1, .inr (.inl l1)), (3, .inl l3)]) (st' := [.inr (.inr p0)]) [(.aload_n 0, 1)] (by decide +kernel) rfl ?_
    refine zV_gr (by decide +kernel) zfl_RX11_12 (by decide) rfl h (fun v6 _ h => ?_)
    refine zV_b (pc' := 31) (lv' := [(0, .inr (.inr p0)), (1, .inr (.inl l1)), (3, .inl l3)]) (st' := [.inl l3, .inr (.inr v6)]) [(.iload_n 3, 1)] (by decide +kernel) rfl ?_
    refine zV_cvr (As := [.inl l3]) (st := []) (c := 0) (by decide +kernel) (zcl_Jx4a65c_get_915e3 (by decide) (by decide)) ⟨zw_670, zw_671, zw_672⟩ ⟨⟨_, _, rfl⟩, by decide⟩ rfl rfl (Nat.le_of_ble_eq_true rfl) h (fun _ _ e => zc_Jx4a65c_get_915e3 e) (fun M7 v7 _ h => ?_)
    refine zV_cc (by decide +kernel) zck_RX11_156 h (fun _ _ h => ?_)
    refine zV_b (pc' := 38) (lv' := [(0, .inr (.inr p0)), (1, .inr (.inl l1)), (3, .inl l3)]) (st' := [.inr (.inl l1), .inr (.inr v7)]) [(.lload_n 1, 1)] (by decide +kernel) rfl ?_
    refine zV_cvj (As := [.inr (.inl l1)]) (st := []) (c := 1) (by decide +kernel) (zcl_X0_digestOnto (by decide) (by decide)) ⟨zw_1426, zw_1427, zw_1428⟩ ⟨⟨_, _, rfl⟩, by decide⟩ rfl rfl (Nat.le_of_ble_eq_true rfl) h (fun _ _ e => zc_X0_digestOnto e) (fun M9 v9 _ h => ?_)
    refine zV_b (pc' := 45) (lv' := [(3, .inl (l3 + 1)), (1, .inr (.inl v9)), (0, .inr (.inr p0))]) (st' := []) [(.lstore_n 1, 1), (.iinc 3 1, 3)] (by decide +kernel) rfl ?_
    refine zV_goto (off := (-30)) (tgt := 15) (by decide +kernel) (by decide) ?_
    exact zV_lv (lv' := [(0, .inr (.inr p0)), (1, .inr (.inl v9)), (3, .inl (l3 + 1))]) [2, 1, 0] rfl (k1 _ (Option.some.inj h).symm)
set_option maxRecDepth 100000 in
theorem zt_X11_digest {X : Zx} {M : Zm} {l0 : Option Nat} {z : Zm × Int64} (h : zf_X11_digest M l0 = some z) (hR : zRj X zC_X11_digest z.1 z.2) : zV X zC_X11_digest M 0 [(0, .inr (.inr l0))] [] := by
  unfold zf_X11_digest at h
  refine zV_b (pc' := 4) (lv' := [(0, .inr (.inr l0))]) (st' := [.inr (.inr l0), .inl (217 : Int32)]) [(.sipush 217, 3), (.aload_n 0, 1)] (by decide +kernel) rfl ?_
  refine zV_gr (by decide +kernel) zfl_RX11_12 (by decide) rfl h (fun v1 _ h => ?_)
  refine zV_cvi (As := []) (st := [.inl (217 : Int32)]) (c := 0) (by decide +kernel) (zcl_Jx4a65c_size_8abf5 (by decide) (by decide)) ⟨zw_473, zw_474, zw_475⟩ ⟨⟨_, _, rfl⟩, by decide⟩ rfl rfl (Nat.le_of_ble_eq_true rfl) h (fun _ _ e => zc_Jx4a65c_size_8abf5 e) (fun M2 v2 _ h => ?_)
  refine zV_b (pc' := 15) (lv' := [(3, .inl (0 : Int32)), (1, .inr (.inl ((((217 : Int32) + v2)).toInt64))), (0, .inr (.inr l0))]) (st' := []) [(.iadd, 1), (.i2l, 1), (.lstore_n 1, 1), (.iconst 0, 1), (.istore_n 3, 1)] (by decide +kernel) rfl ?_
  obtain ⟨y11, e11, h⟩ := zb1_inv h
  refine zV_lv (lv' := [(0, .inr (.inr l0)), (1, .inr (.inl ((((217 : Int32) + v2)).toInt64))), (3, .inl (0 : Int32))]) [2, 1, 0] rfl (zt_X11_digest_L15 e11 ?_)
  obtain ⟨M15_11, l1_11, l3_11⟩ := y11
  show zV X zC_X11_digest M15_11 48 [(0, .inr (.inr l0)), (1, .inr (.inl l1_11))] []
  refine zV_b (pc' := 49) (lv' := [(0, .inr (.inr l0)), (1, .inr (.inl l1_11))]) (st' := [.inr (.inl l1_11)]) [(.lload_n 1, 1)] (by decide +kernel) rfl ?_
  refine zV_ldc2 (by decide +kernel) zw_1432 ?_
  refine zV_b (pc' := 54) (lv' := [(0, .inr (.inr l0)), (1, .inr (.inl l1_11))]) (st' := [.inr (.inr l0), .inr (.inl (l1_11 * (31 : Int64)))]) [(.lmul, 1), (.aload_n 0, 1)] (by decide +kernel) rfl ?_
  refine zV_gi (by decide +kernel) zfl_RX11_93 (by decide) rfl (Or.inl rfl) h (fun v13 _ h => ?_)
  refine zV_b (pc' := 61) (lv' := [(1, .inr (.inl ((l1_11 * (31 : Int64)) + (v13.toInt64)))), (0, .inr (.inr l0))]) (st' := [.inr (.inl ((l1_11 * (31 : Int64)) + (v13.toInt64)))]) [(.i2l, 1), (.ladd, 1), (.lstore_n 1, 1), (.lload_n 1, 1)] (by decide +kernel) rfl ?_
  refine zV_ldc2 (by decide +kernel) zw_1432 ?_
  refine zV_b (pc' := 66) (lv' := [(1, .inr (.inl ((l1_11 * (31 : Int64)) + (v13.toInt64)))), (0, .inr (.inr l0))]) (st' := [.inr (.inr l0), .inr (.inl (((l1_11 * (31 : Int64)) + (v13.toInt64)) * (31 : Int64)))]) [(.lmul, 1), (.aload_n 0, 1)] (by decide +kernel) rfl ?_
  refine zV_gr (by decide +kernel) zfl_RX11_62 (by decide) rfl h (fun v15 _ h => ?_)
  refine zV_gi (by decide +kernel) zfl_RX11_591 (by decide) rfl (Or.inl rfl) h (fun v16 _ h => ?_)
  refine zV_b (pc' := 74) (lv' := [(1, .inr (.inl ((l1_11 * (31 : Int64)) + (v13.toInt64)))), (0, .inr (.inr l0))]) (st' := [.inr (.inl ((((l1_11 * (31 : Int64)) + (v13.toInt64)) * (31 : Int64)) + (v16.toInt64)))]) [(.i2l, 1), (.ladd, 1)] (by decide +kernel) rfl ?_
  exact zend_j h hR (by decide +kernel)
theorem zc_X11_digest {M M' : Zm} {l0 : Option Nat} {x : Int64} (h : zf_X11_digest M l0 = some (M', x)) (l : Launch) (D : va_G) (cy : Nat → ClassId) : zMet l yX11_digest zC_X11_digest (some .long) D cy [.inr (.inr l0)] M M' (some (.inr (.inl x))) :=
  zM_j (by decide) rfl (fun h => by cases h) (Nat.le_of_ble_eq_true rfl) (fun X hR => zt_X11_digest h hR)
-- BlendCellar.lookUpFreeVessel(I)I
def zC_X11_lookUpFreeVessel : Zc := (cX11_lookUpFreeVessel, 3, RX11, 4, 86, false)
theorem zcl_X11_lookUpFreeVessel {C : Zc} (h1 : zC_X11_lookUpFreeVessel.2.2.2.1 + 1 ≤ C.2.2.2.1) (h2 : 8 + (zC_X11_lookUpFreeVessel.2.1 + 11) + zC_X11_lookUpFreeVessel.2.2.2.2.1 ≤ C.2.2.2.2.1) : zCl C yX11_lookUpFreeVessel zC_X11_lookUpFreeVessel (some .int) 1 := ⟨zw_779, zw_101, ⟨by decide, by decide⟩, by decide +kernel, h1, h2⟩
noncomputable def zf_X11_lookUpFreeVessel (M : Zm) (l0 : Option Nat) (l1 : Int32) : Option (Zm × Int32) :=
  zb1 (zo_rc M l0 12) (fun _ => zbd (zf_X11_lookUpVessel M l0 l1) (fun M1 v1 =>
  (if v1 = 0 then
  zb1 (zo_gr M1 l0 12 0) (fun v3 =>
  zb1 (zo_rc M1 v3 0) (fun _ => zbd (zf_Jx4a65c_get_915e3 M1 v3 l1) (fun M4 v4 =>
  zb1 (zo_cc M4 v4 1) (fun _ =>
  zb1 (zo_rc M4 v4 1) (fun _ => zbd (zf_X0_inCask M4 v4) (fun M6 v6 =>
  (if v6 = 0 then
  some (M6, v1)
  else
  some (M6, (9 : Int32)))))))))
  else
  some (M1, v1))))
set_option maxRecDepth 100000 in
theorem zt_X11_lookUpFreeVessel {X : Zx} {M : Zm} {l0 : Option Nat} {l1 : Int32} {z : Zm × Int32} (h : zf_X11_lookUpFreeVessel M l0 l1 = some z) (hR : zRi X zC_X11_lookUpFreeVessel z.1 z.2) : zV X zC_X11_lookUpFreeVessel M 0 [(0, .inr (.inr l0)), (1, .inl l1)] [] := by
  unfold zf_X11_lookUpFreeVessel at h
  refine zV_b (pc' := 2) (lv' := [(0, .inr (.inr l0)), (1, .inl l1)]) (st' := [.inl l1, .inr (.inr l0)]) [(.aload_n 0, 1), (.iload_n 1, 1)] (by decide +kernel) rfl ?_
  refine zV_cvi (As := [.inl l1]) (st := []) (c := 12) (by decide +kernel) (zcl_X11_lookUpVessel (by decide) (by decide)) ⟨zw_684, zw_686, zw_11⟩ ⟨⟨_, _, rfl⟩, by decide⟩ rfl rfl (Nat.le_of_ble_eq_true rfl) h (fun _ _ e => zc_X11_lookUpVessel e) (fun M1 v1 _ h => ?_)
  refine zV_b (pc' := 7) (lv' := [(2, .inl v1), (0, .inr (.inr l0)), (1, .inl l1)]) (st' := [.inl v1]) [(.istore_n 2, 1), (.iload_n 2, 1)] (by decide +kernel) rfl ?_
  refine zV_if_ne (off := 25) (tgt := 32) (by decide +kernel) (by decide) h (fun c2 h => ?_) (fun c2 h => ?_)
  · refine zV_b (pc' := 11) (lv' := [(2, .inl v1), (0, .inr (.inr l0)), (1, .inl l1)]) (st' := [.inr (.inr l0)]) [(.aload_n 0, 1)] (by decide +kernel) rfl ?_
    refine zV_gr (by decide +kernel) zfl_RX11_12 (by decide) rfl h (fun v3 _ h => ?_)
    refine zV_b (pc' := 15) (lv' := [(2, .inl v1), (0, .inr (.inr l0)), (1, .inl l1)]) (st' := [.inl l1, .inr (.inr v3)]) [(.iload_n 1, 1)] (by decide +kernel) rfl ?_
    refine zV_cvr (As := [.inl l1]) (st := []) (c := 0) (by decide +kernel) (zcl_Jx4a65c_get_915e3 (by decide) (by decide)) ⟨zw_670, zw_671, zw_672⟩ ⟨⟨_, _, rfl⟩, by decide⟩ rfl rfl (Nat.le_of_ble_eq_true rfl) h (fun _ _ e => zc_Jx4a65c_get_915e3 e) (fun M4 v4 _ h => ?_)
    refine zV_cc (by decide +kernel) zck_RX11_156 h (fun _ _ h => ?_)
    refine zV_cvi (As := []) (st := []) (c := 1) (by decide +kernel) (zcl_X0_inCask (by decide) (by decide)) ⟨zw_780, zw_781, zw_782⟩ ⟨⟨_, _, rfl⟩, by decide⟩ rfl rfl (Nat.le_of_ble_eq_true rfl) h (fun _ _ e => zc_X0_inCask e) (fun M6 v6 _ h => ?_)
    refine zV_if_eq (off := 8) (tgt := 32) (by decide +kernel) (by decide) h (fun c7 h => ?_) (fun c7 h => ?_)
    · refine zV_b (pc' := 33) (lv' := [(2, .inl v1), (0, .inr (.inr l0)), (1, .inl l1)]) (st' := [.inl v1]) [(.iload_n 2, 1)] (by decide +kernel) rfl ?_
      exact zend_i h hR (by decide +kernel)
    · refine zV_b (pc' := 29) (lv' := [(2, .inl v1), (0, .inr (.inr l0)), (1, .inl l1)]) (st' := [.inl (9 : Int32)]) [(.bipush 9, 2)] (by decide +kernel) rfl ?_
      refine zV_goto (off := 4) (tgt := 33) (by decide +kernel) (by decide) ?_
      exact zend_i h hR (by decide +kernel)
  · refine zV_b (pc' := 33) (lv' := [(2, .inl v1), (0, .inr (.inr l0)), (1, .inl l1)]) (st' := [.inl v1]) [(.iload_n 2, 1)] (by decide +kernel) rfl ?_
    exact zend_i h hR (by decide +kernel)
theorem zc_X11_lookUpFreeVessel {M M' : Zm} {l0 : Option Nat} {l1 : Int32} {x : Int32} (h : zf_X11_lookUpFreeVessel M l0 l1 = some (M', x)) (l : Launch) (D : va_G) (cy : Nat → ClassId) : zMet l yX11_lookUpFreeVessel zC_X11_lookUpFreeVessel (some .int) D cy [.inr (.inr l0), .inl l1] M M' (some (.inl x)) :=
  zM_i (by decide) rfl (fun h => by cases h) (Nat.le_of_ble_eq_true rfl) (fun X hR => zt_X11_lookUpFreeVessel h hR)
-- BlendCellar.drainVessel(IJI)J
def zC_X11_drainVessel : Zc := (cX11_drainVessel, 7, RX11, 10, 225, false)
theorem zcl_X11_drainVessel {C : Zc} (h1 : zC_X11_drainVessel.2.2.2.1 + 1 ≤ C.2.2.2.1) (h2 : 8 + (zC_X11_drainVessel.2.1 + 11) + zC_X11_drainVessel.2.2.2.2.1 ≤ C.2.2.2.2.1) : zCl C yX11_drainVessel zC_X11_drainVessel (some .long) 3 := ⟨zw_1036, zw_101, ⟨by decide, by decide⟩, by decide +kernel, h1, h2⟩
noncomputable def zf_X11_drainVessel_J19 (M : Zm)  : Option (Zm × Int64) :=
  some (M, (-1 : Int64))
noncomputable def zf_X11_drainVessel_J124 (M : Zm) (l1 : Int32) (l2 : Int64) (l6 : Option Nat) (s0 : Int64) (s1 : Option Nat) : Option (Zm × Int64) :=
  zb1 (zo_rc M s1 5) (fun _ => zbd (zf_X4_add M s1 s0 (l1.toInt64) (-1 : Int64) l2) (fun M28 _ =>
  zb1 (zo_gr M28 l6 1 5) (fun v29 =>
  zb1 (zo_gj M28 v29 11 3) (fun v30 =>
  some (M28, v30)))))
noncomputable def zf_X11_drainVessel_J102 (M : Zm) (l0 : Option Nat) (l1 : Int32) (l2 : Int64) (l4 : Int32) (l6 : Option Nat) (s0 : Int32) (s1 : Int64) (s2 : Option Nat) (s3 : Option Nat) : Option (Zm × Int64) :=
  zb1 (zo_rc M s3 12) (fun _ => zbd (zf_X11_drawOff M s3 s2 s1 s0) (fun M22 _ =>
  zb1 (zo_gr M22 l0 12 8) (fun v23 =>
  (if l4 = (1 : Int32) then
  zf_X11_drainVessel_J124 M22 l1 l2 l6 (7 : Int64) v23
  else
  zf_X11_drainVessel_J124 M22 l1 l2 l6 (8 : Int64) v23))))
noncomputable def zf_X11_drainVessel (M : Zm) (l0 : Option Nat) (l1 : Int32) (l2 : Int64) (l4 : Int32) : Option (Zm × Int64) :=
  (if l4 < (1 : Int32) then
  zf_X11_drainVessel_J19 M
  else
  (if (2 : Int32) < l4 then
  zf_X11_drainVessel_J19 M
  else
  zbd (zf_X11_isMl M l2) (fun M5 v5 =>
  (if v5 = 0 then
  zf_X11_drainVessel_J19 M5
  else
  zb1 (zo_rc M5 l0 12) (fun _ => zbd (zf_X11_lookUpFreeVessel M5 l0 l1) (fun M7 v7 =>
  (if v7 = 0 then
  zb1 (zo_gr M7 l0 12 0) (fun v9 =>
  zb1 (zo_rc M7 v9 0) (fun _ => zbd (zf_Jx4a65c_get_915e3 M7 v9 l1) (fun M10 v10 =>
  zb1 (zo_cc M10 v10 1) (fun _ =>
  zb1 (zo_gr M10 v10 1 5) (fun v12 =>
  zb1 (zo_gj M10 v12 11 3) (fun v13 =>
  (if v13 = (0 : Int64) then
  some (M10, (-2 : Int64))
  else
  zb1 (zo_gr M10 v10 1 5) (fun v17 =>
  zb1 (zo_gj M10 v17 11 3) (fun v18 =>
  (if l2 ≤ v18 then
  (if l4 = (1 : Int32) then
  zf_X11_drainVessel_J102 M10 l0 l1 l2 l4 v10 (2 : Int32) l2 v10 l0
  else
  zf_X11_drainVessel_J102 M10 l0 l1 l2 l4 v10 (3 : Int32) l2 v10 l0)
  else
  some (M10, (-10 : Int64))))))))))))
  else
  some (M7, (((-v7)).toInt64)))))))))
set_option maxRecDepth 100000 in
theorem zt_X11_drainVessel_J19 {X : Zx} {M : Zm}  {z : Zm × Int64} (h : zf_X11_drainVessel_J19 M  = some z) (hR : zRj X zC_X11_drainVessel z.1 z.2) : zV X zC_X11_drainVessel M 19 [] [] := by
  unfold zf_X11_drainVessel_J19 at h
  refine zV_ldc2 (by decide +kernel) zw_465 ?_
  exact zend_j h hR (by decide +kernel)
set_option maxRecDepth 100000 in
theorem zt_X11_drainVessel_J124 {X : Zx} {M : Zm} {l1 : Int32} {l2 : Int64} {l6 : Option Nat} {s0 : Int64} {s1 : Option Nat} {z : Zm × Int64} (h : zf_X11_drainVessel_J124 M l1 l2 l6 s0 s1 = some z) (hR : zRj X zC_X11_drainVessel z.1 z.2) : zV X zC_X11_drainVessel M 124 [(1, .inl l1), (2, .inr (.inl l2)), (6, .inr (.inr l6))] [.inr (.inl s0), .inr (.inr s1)] := by
  unfold zf_X11_drainVessel_J124 at h
  refine zV_b (pc' := 126) (lv' := [(1, .inl l1), (2, .inr (.inl l2)), (6, .inr (.inr l6))]) (st' := [.inr (.inl (l1.toInt64)), .inr (.inl s0), .inr (.inr s1)]) [(.iload_n 1, 1), (.i2l, 1)] (by decide +kernel) rfl ?_
  refine zV_ldc2 (by decide +kernel) zw_465 ?_
  refine zV_b (pc' := 130) (lv' := [(1, .inl l1), (2, .inr (.inl l2)), (6, .inr (.inr l6))]) (st' := [.inr (.inl l2), .inr (.inl (-1 : Int64)), .inr (.inl (l1.toInt64)), .inr (.inl s0), .inr (.inr s1)]) [(.lload_n 2, 1)] (by decide +kernel) rfl ?_
  refine zV_cvv (As := [.inr (.inl s0), .inr (.inl (l1.toInt64)), .inr (.inl (-1 : Int64)), .inr (.inl l2)]) (st := []) (c := 5) (by decide +kernel) (zcl_X4_add (by decide) (by decide)) ⟨zw_844, zw_845, zw_846⟩ ⟨⟨_, _, rfl⟩, by decide⟩ rfl rfl (Nat.le_of_ble_eq_true rfl) h (fun _ _ e => zc_X4_add e) (fun M28 _ _ h => ?_)
  refine zV_b (pc' := 135) (lv' := [(1, .inl l1), (2, .inr (.inl l2)), (6, .inr (.inr l6))]) (st' := [.inr (.inr l6)]) [(.aload 6, 2)] (by decide +kernel) rfl ?_
  refine zV_gr (by decide +kernel) zfl_RX11_268 (by decide) rfl h (fun v29 _ h => ?_)
  refine zV_gj (by decide +kernel) zfl_RX11_271 (by decide) rfl h (fun v30 _ h => ?_)
  exact zend_j h hR (by decide +kernel)
set_option maxRecDepth 100000 in
theorem zt_X11_drainVessel_J102 {X : Zx} {M : Zm} {l0 : Option Nat} {l1 : Int32} {l2 : Int64} {l4 : Int32} {l6 : Option Nat} {s0 : Int32} {s1 : Int64} {s2 : Option Nat} {s3 : Option Nat} {z : Zm × Int64} (h : zf_X11_drainVessel_J102 M l0 l1 l2 l4 l6 s0 s1 s2 s3 = some z) (hR : zRj X zC_X11_drainVessel z.1 z.2) : zV X zC_X11_drainVessel M 102 [(0, .inr (.inr l0)), (1, .inl l1), (2, .inr (.inl l2)), (4, .inl l4), (6, .inr (.inr l6))] [.inl s0, .inr (.inl s1), .inr (.inr s2), .inr (.inr s3)] := by
  unfold zf_X11_drainVessel_J102 at h
  refine zV_cvv (As := [.inr (.inr s2), .inr (.inl s1), .inl s0]) (st := []) (c := 12) (by decide +kernel) (zcl_X11_drawOff (by decide) (by decide)) ⟨zw_1024, zw_1026, zw_40⟩ ⟨⟨_, _, rfl⟩, by decide⟩ rfl rfl (Nat.le_of_ble_eq_true rfl) h (fun _ _ e => zc_X11_drawOff e) (fun M22 _ _ h => ?_)
  refine zV_b (pc' := 106) (lv' := [(0, .inr (.inr l0)), (1, .inl l1), (2, .inr (.inl l2)), (4, .inl l4), (6, .inr (.inr l6))]) (st' := [.inr (.inr l0)]) [(.aload_n 0, 1)] (by decide +kernel) rfl ?_
  refine zV_gr (by decide +kernel) zfl_RX11_62 (by decide) rfl h (fun v23 _ h => ?_)
  refine zV_b (pc' := 112) (lv' := [(0, .inr (.inr l0)), (1, .inl l1), (2, .inr (.inl l2)), (4, .inl l4), (6, .inr (.inr l6))]) (st' := [.inl (1 : Int32), .inl l4, .inr (.inr v23)]) [(.iload 4, 2), (.iconst 1, 1)] (by decide +kernel) rfl ?_
  refine zV_icmp_ne (off := 9) (tgt := 121) (by decide +kernel) (by decide) h (fun c24 h => ?_) (fun c24 h => ?_)
  · refine zV_ldc2 (by decide +kernel) zw_1037 ?_
    refine zV_goto (off := 6) (tgt := 124) (by decide +kernel) (by decide) ?_
    exact zV_lv (lv' := [(1, .inl l1), (2, .inr (.inl l2)), (6, .inr (.inr l6))]) [1, 2, 4] rfl (zt_X11_drainVessel_J124 h hR)
  · refine zV_ldc2 (by decide +kernel) zw_1038 ?_
    exact zV_lv (lv' := [(1, .inl l1), (2, .inr (.inl l2)), (6, .inr (.inr l6))]) [1, 2, 4] rfl (zt_X11_drainVessel_J124 h hR)
set_option maxRecDepth 100000 in
theorem zt_X11_drainVessel {X : Zx} {M : Zm} {l0 : Option Nat} {l1 : Int32} {l2 : Int64} {l4 : Int32} {z : Zm × Int64} (h : zf_X11_drainVessel M l0 l1 l2 l4 = some z) (hR : zRj X zC_X11_drainVessel z.1 z.2) : zV X zC_X11_drainVessel M 0 [(0, .inr (.inr l0)), (1, .inl l1), (2, .inr (.inl l2)), (4, .inl l4)] [] := by
  unfold zf_X11_drainVessel at h
  refine zV_b (pc' := 3) (lv' := [(0, .inr (.inr l0)), (1, .inl l1), (2, .inr (.inl l2)), (4, .inl l4)]) (st' := [.inl (1 : Int32), .inl l4]) [(.iload 4, 2), (.iconst 1, 1)] (by decide +kernel) rfl ?_
  refine zV_icmp_lt (off := 16) (tgt := 19) (by decide +kernel) (by decide) h (fun c1 h => ?_) (fun c1 h => ?_)
  · exact zV_lv (lv' := []) [] rfl (zt_X11_drainVessel_J19 h hR)
  · refine zV_b (pc' := 9) (lv' := [(0, .inr (.inr l0)), (1, .inl l1), (2, .inr (.inl l2)), (4, .inl l4)]) (st' := [.inl (2 : Int32), .inl l4]) [(.iload 4, 2), (.iconst 2, 1)] (by decide +kernel) rfl ?_
    refine zV_icmp_gt (off := 10) (tgt := 19) (by decide +kernel) (by decide) h (fun c4 h => ?_) (fun c4 h => ?_)
    · exact zV_lv (lv' := []) [] rfl (zt_X11_drainVessel_J19 h hR)
    · refine zV_b (pc' := 13) (lv' := [(0, .inr (.inr l0)), (1, .inl l1), (2, .inr (.inl l2)), (4, .inl l4)]) (st' := [.inr (.inl l2)]) [(.lload_n 2, 1)] (by decide +kernel) rfl ?_
      refine zV_csi (As := [.inr (.inl l2)]) (st := []) (by decide +kernel) (zcl_X11_isMl (by decide) (by decide)) ⟨zw_772, zw_773⟩ rfl rfl (Nat.le_of_ble_eq_true rfl) h (fun _ _ e => zc_X11_isMl e) (fun M5 v5 _ h => ?_)
      refine zV_if_ne (off := 7) (tgt := 23) (by decide +kernel) (by decide) h (fun c6 h => ?_) (fun c6 h => ?_)
      · exact zV_lv (lv' := []) [] rfl (zt_X11_drainVessel_J19 h hR)
      · refine zV_b (pc' := 25) (lv' := [(0, .inr (.inr l0)), (1, .inl l1), (2, .inr (.inl l2)), (4, .inl l4)]) (st' := [.inl l1, .inr (.inr l0)]) [(.aload_n 0, 1), (.iload_n 1, 1)] (by decide +kernel) rfl ?_
        refine zV_cvi (As := [.inl l1]) (st := []) (c := 12) (by decide +kernel) (zcl_X11_lookUpFreeVessel (by decide) (by decide)) ⟨zw_776, zw_778, zw_19⟩ ⟨⟨_, _, rfl⟩, by decide⟩ rfl rfl (Nat.le_of_ble_eq_true rfl) h (fun _ _ e => zc_X11_lookUpFreeVessel e) (fun M7 v7 _ h => ?_)
        refine zV_b (pc' := 32) (lv' := [(5, .inl v7), (0, .inr (.inr l0)), (1, .inl l1), (2, .inr (.inl l2)), (4, .inl l4)]) (st' := [.inl v7]) [(.istore 5, 2), (.iload 5, 2)] (by decide +kernel) rfl ?_
        refine zV_if_eq (off := 8) (tgt := 40) (by decide +kernel) (by decide) h (fun c8 h => ?_) (fun c8 h => ?_)
        · refine zV_b (pc' := 41) (lv' := [(5, .inl v7), (0, .inr (.inr l0)), (1, .inl l1), (2, .inr (.inl l2)), (4, .inl l4)]) (st' := [.inr (.inr l0)]) [(.aload_n 0, 1)] (by decide +kernel) rfl ?_
          refine zV_gr (by decide +kernel) zfl_RX11_12 (by decide) rfl h (fun v9 _ h => ?_)
          refine zV_b (pc' := 45) (lv' := [(5, .inl v7), (0, .inr (.inr l0)), (1, .inl l1), (2, .inr (.inl l2)), (4, .inl l4)]) (st' := [.inl l1, .inr (.inr v9)]) [(.iload_n 1, 1)] (by decide +kernel) rfl ?_
          refine zV_cvr (As := [.inl l1]) (st := []) (c := 0) (by decide +kernel) (zcl_Jx4a65c_get_915e3 (by decide) (by decide)) ⟨zw_670, zw_671, zw_672⟩ ⟨⟨_, _, rfl⟩, by decide⟩ rfl rfl (Nat.le_of_ble_eq_true rfl) h (fun _ _ e => zc_Jx4a65c_get_915e3 e) (fun M10 v10 _ h => ?_)
          refine zV_cc (by decide +kernel) zck_RX11_156 h (fun _ _ h => ?_)
          refine zV_b (pc' := 55) (lv' := [(6, .inr (.inr v10)), (5, .inl v7), (0, .inr (.inr l0)), (1, .inl l1), (2, .inr (.inl l2)), (4, .inl l4)]) (st' := [.inr (.inr v10)]) [(.astore 6, 2), (.aload 6, 2)] (by decide +kernel) rfl ?_
          refine zV_gr (by decide +kernel) zfl_RX11_268 (by decide) rfl h (fun v12 _ h => ?_)
          refine zV_gj (by decide +kernel) zfl_RX11_271 (by decide) rfl h (fun v13 _ h => ?_)
          refine zV_b (pc' := 62) (lv' := [(6, .inr (.inr v10)), (5, .inl v7), (0, .inr (.inr l0)), (1, .inl l1), (2, .inr (.inl l2)), (4, .inl l4)]) (st' := [.inr (.inl (0 : Int64)), .inr (.inl v13)]) [(.lconst 0, 1)] (by decide +kernel) rfl ?_
          refine zV_lcmp_ne (off := 7) (tgt := 70) (by decide +kernel) (by decide +kernel) (by decide) h (fun c14 h => ?_) (fun c14 h => ?_)
          · refine zV_ldc2 (by decide +kernel) zw_755 ?_
            exact zend_j h hR (by decide +kernel)
          · refine zV_b (pc' := 72) (lv' := [(6, .inr (.inr v10)), (5, .inl v7), (0, .inr (.inr l0)), (1, .inl l1), (2, .inr (.inl l2)), (4, .inl l4)]) (st' := [.inr (.inr v10)]) [(.aload 6, 2)] (by decide +kernel) rfl ?_
            refine zV_gr (by decide +kernel) zfl_RX11_268 (by decide) rfl h (fun v17 _ h => ?_)
            refine zV_gj (by decide +kernel) zfl_RX11_271 (by decide) rfl h (fun v18 _ h => ?_)
            refine zV_b (pc' := 79) (lv' := [(6, .inr (.inr v10)), (5, .inl v7), (0, .inr (.inr l0)), (1, .inl l1), (2, .inr (.inl l2)), (4, .inl l4)]) (st' := [.inr (.inl l2), .inr (.inl v18)]) [(.lload_n 2, 1)] (by decide +kernel) rfl ?_
            refine zV_lcmp_ge (off := 7) (tgt := 87) (by decide +kernel) (by decide +kernel) (by decide) h (fun c19 h => ?_) (fun c19 h => ?_)
            · refine zV_b (pc' := 94) (lv' := [(6, .inr (.inr v10)), (5, .inl v7), (0, .inr (.inr l0)), (1, .inl l1), (2, .inr (.inl l2)), (4, .inl l4)]) (st' := [.inl (1 : Int32), .inl l4, .inr (.inl l2), .inr (.inr v10), .inr (.inr l0)]) [(.aload_n 0, 1), (.aload 6, 2), (.lload_n 2, 1), (.iload 4, 2), (.iconst 1, 1)] (by decide +kernel) rfl ?_
              refine zV_icmp_ne (off := 7) (tgt := 101) (by decide +kernel) (by decide) h (fun c20 h => ?_) (fun c20 h => ?_)
              · refine zV_b (pc' := 98) (lv' := [(6, .inr (.inr v10)), (5, .inl v7), (0, .inr (.inr l0)), (1, .inl l1), (2, .inr (.inl l2)), (4, .inl l4)]) (st' := [.inl (2 : Int32), .inr (.inl l2), .inr (.inr v10), .inr (.inr l0)]) [(.iconst 2, 1)] (by decide +kernel) rfl ?_
                refine zV_goto (off := 4) (tgt := 102) (by decide +kernel) (by decide) ?_
                exact zV_lv (lv' := [(0, .inr (.inr l0)), (1, .inl l1), (2, .inr (.inl l2)), (4, .inl l4), (6, .inr (.inr v10))]) [2, 3, 4, 5, 0] rfl (zt_X11_drainVessel_J102 h hR)
              · refine zV_b (pc' := 102) (lv' := [(6, .inr (.inr v10)), (5, .inl v7), (0, .inr (.inr l0)), (1, .inl l1), (2, .inr (.inl l2)), (4, .inl l4)]) (st' := [.inl (3 : Int32), .inr (.inl l2), .inr (.inr v10), .inr (.inr l0)]) [(.iconst 3, 1)] (by decide +kernel) rfl ?_
                exact zV_lv (lv' := [(0, .inr (.inr l0)), (1, .inl l1), (2, .inr (.inl l2)), (4, .inl l4), (6, .inr (.inr v10))]) [2, 3, 4, 5, 0] rfl (zt_X11_drainVessel_J102 h hR)
            · refine zV_ldc2 (by decide +kernel) zw_873 ?_
              exact zend_j h hR (by decide +kernel)
        · refine zV_b (pc' := 39) (lv' := [(5, .inl v7), (0, .inr (.inr l0)), (1, .inl l1), (2, .inr (.inl l2)), (4, .inl l4)]) (st' := [.inr (.inl (((-v7)).toInt64))]) [(.iload 5, 2), (.ineg, 1), (.i2l, 1)] (by decide +kernel) rfl ?_
          exact zend_j h hR (by decide +kernel)
theorem zc_X11_drainVessel {M M' : Zm} {l0 : Option Nat} {l1 : Int32} {l2 : Int64} {l4 : Int32} {x : Int64} (h : zf_X11_drainVessel M l0 l1 l2 l4 = some (M', x)) (l : Launch) (D : va_G) (cy : Nat → ClassId) : zMet l yX11_drainVessel zC_X11_drainVessel (some .long) D cy [.inr (.inr l0), .inl l1, .inr (.inl l2), .inl l4] M M' (some (.inr (.inl x))) :=
  zM_j (by decide) rfl (fun h => by cases h) (Nat.le_of_ble_eq_true rfl) (fun X hR => zt_X11_drainVessel h hR)
-- BlendCellar.drain(IJI)J
def zC_X11_drain : Zc := (cX11_drain, 5, RX11, 11, 251, false)
theorem zcl_X11_drain {C : Zc} (h1 : zC_X11_drain.2.2.2.1 + 1 ≤ C.2.2.2.1) (h2 : 8 + (zC_X11_drain.2.1 + 11) + zC_X11_drain.2.2.2.2.1 ≤ C.2.2.2.2.1) : zCl C yX11_drain zC_X11_drain (some .long) 3 := ⟨zw_1032, zw_101, ⟨by decide, by decide⟩, by decide +kernel, h1, h2⟩
noncomputable def zf_X11_drain (M : Zm) (l0 : Option Nat) (l1 : Int32) (l2 : Int64) (l4 : Int32) : Option (Zm × Int64) :=
  zb1 (zo_rc M l0 12) (fun _ => zbd (zf_X11_openTap M l0) (fun M1 _ =>
  zb1 (zo_rc M1 l0 12) (fun _ => zbd (zf_X11_drainVessel M1 l0 l1 l2 l4) (fun M2 v2 =>
  zb1 (zo_rc M2 l0 12) (fun _ => zbd (zf_X11_closeTap M2 l0 v2) (fun M3 v3 =>
  some (M3, v3)))))))
set_option maxRecDepth 100000 in
theorem zt_X11_drain {X : Zx} {M : Zm} {l0 : Option Nat} {l1 : Int32} {l2 : Int64} {l4 : Int32} {z : Zm × Int64} (h : zf_X11_drain M l0 l1 l2 l4 = some z) (hR : zRj X zC_X11_drain z.1 z.2) : zV X zC_X11_drain M 0 [(0, .inr (.inr l0)), (1, .inl l1), (2, .inr (.inl l2)), (4, .inl l4)] [] := by
  unfold zf_X11_drain at h
  refine zV_b (pc' := 1) (lv' := [(0, .inr (.inr l0)), (1, .inl l1), (2, .inr (.inl l2)), (4, .inl l4)]) (st' := [.inr (.inr l0)]) [(.aload_n 0, 1)] (by decide +kernel) rfl ?_
  refine zV_cvv (As := []) (st := []) (c := 12) (by decide +kernel) (zcl_X11_openTap (by decide) (by decide)) ⟨zw_453, zw_455, zw_0⟩ ⟨⟨_, _, rfl⟩, by decide⟩ rfl rfl (Nat.le_of_ble_eq_true rfl) h (fun _ _ e => zc_X11_openTap e) (fun M1 _ _ h => ?_)
  refine zV_b (pc' := 10) (lv' := [(0, .inr (.inr l0)), (1, .inl l1), (2, .inr (.inl l2)), (4, .inl l4)]) (st' := [.inl l4, .inr (.inl l2), .inl l1, .inr (.inr l0), .inr (.inr l0)]) [(.aload_n 0, 1), (.aload_n 0, 1), (.iload_n 1, 1), (.lload_n 2, 1), (.iload 4, 2)] (by decide +kernel) rfl ?_
  refine zV_cvj (As := [.inl l1, .inr (.inl l2), .inl l4]) (st := [.inr (.inr l0)]) (c := 12) (by decide +kernel) (zcl_X11_drainVessel (by decide) (by decide)) ⟨zw_1033, zw_1035, zw_41⟩ ⟨⟨_, _, rfl⟩, by decide⟩ rfl rfl (Nat.le_of_ble_eq_true rfl) h (fun _ _ e => zc_X11_drainVessel e) (fun M2 v2 _ h => ?_)
  refine zV_cvj (As := [.inr (.inl v2)]) (st := []) (c := 12) (by decide +kernel) (zcl_X11_closeTap (by decide) (by decide)) ⟨zw_510, zw_512, zw_3⟩ ⟨⟨_, _, rfl⟩, by decide⟩ rfl rfl (Nat.le_of_ble_eq_true rfl) h (fun _ _ e => zc_X11_closeTap e) (fun M3 v3 _ h => ?_)
  exact zend_j h hR (by decide +kernel)
theorem zc_X11_drain {M M' : Zm} {l0 : Option Nat} {l1 : Int32} {l2 : Int64} {l4 : Int32} {x : Int64} (h : zf_X11_drain M l0 l1 l2 l4 = some (M', x)) (l : Launch) (D : va_G) (cy : Nat → ClassId) : zMet l yX11_drain zC_X11_drain (some .long) D cy [.inr (.inr l0), .inl l1, .inr (.inl l2), .inl l4] M M' (some (.inr (.inl x))) :=
  zM_j (by decide) rfl (fun h => by cases h) (Nat.le_of_ble_eq_true rfl) (fun X hR => zt_X11_drain h hR)
-- BlendCellar.entries()I
def zC_X11_entries : Zc := (cX11_entries, 1, RX11, 0, 0, false)
theorem zcl_X11_entries {C : Zc} (h1 : zC_X11_entries.2.2.2.1 + 1 ≤ C.2.2.2.1) (h2 : 8 + (zC_X11_entries.2.1 + 11) + zC_X11_entries.2.2.2.2.1 ≤ C.2.2.2.2.1) : zCl C yX11_entries zC_X11_entries (some .int) 0 := ⟨zw_1381, zw_101, ⟨by decide, by decide⟩, by decide +kernel, h1, h2⟩
noncomputable def zf_X11_entries (M : Zm) (l0 : Option Nat) : Option (Zm × Int32) :=
  zb1 (zo_gr M l0 12 8) (fun v1 =>
  zb1 (zo_gi M v1 5 1) (fun v2 =>
  some (M, v2)))
set_option maxRecDepth 100000 in
theorem zt_X11_entries {X : Zx} {M : Zm} {l0 : Option Nat} {z : Zm × Int32} (h : zf_X11_entries M l0 = some z) (hR : zRi X zC_X11_entries z.1 z.2) : zV X zC_X11_entries M 0 [(0, .inr (.inr l0))] [] := by
  unfold zf_X11_entries at h
  refine zV_b (pc' := 1) (lv' := [(0, .inr (.inr l0))]) (st' := [.inr (.inr l0)]) [(.aload_n 0, 1)] (by decide +kernel) rfl ?_
  refine zV_gr (by decide +kernel) zfl_RX11_62 (by decide) rfl h (fun v1 _ h => ?_)
  refine zV_gi (by decide +kernel) zfl_RX11_591 (by decide) rfl (Or.inl rfl) h (fun v2 _ h => ?_)
  exact zend_i h hR (by decide +kernel)
theorem zc_X11_entries {M M' : Zm} {l0 : Option Nat} {x : Int32} (h : zf_X11_entries M l0 = some (M', x)) (l : Launch) (D : va_G) (cy : Nat → ClassId) : zMet l yX11_entries zC_X11_entries (some .int) D cy [.inr (.inr l0)] M M' (some (.inl x)) :=
  zM_i (by decide) rfl (fun h => by cases h) (Nat.le_of_ble_eq_true rfl) (fun X hR => zt_X11_entries h hR)
-- BlendCellar.entry(II)J
def zC_X11_entry : Zc := (cX11_entry, 3, RX11, 1, 22, false)
theorem zcl_X11_entry {C : Zc} (h1 : zC_X11_entry.2.2.2.1 + 1 ≤ C.2.2.2.1) (h2 : 8 + (zC_X11_entry.2.1 + 11) + zC_X11_entry.2.2.2.2.1 ≤ C.2.2.2.2.1) : zCl C yX11_entry zC_X11_entry (some .long) 2 := ⟨zw_1385, zw_101, ⟨by decide, by decide⟩, by decide +kernel, h1, h2⟩
noncomputable def zf_X11_entry (M : Zm) (l0 : Option Nat) (l1 : Int32) (l2 : Int32) : Option (Zm × Int64) :=
  zb1 (zo_gr M l0 12 8) (fun v1 =>
  zb1 (zo_rc M v1 5) (fun _ => zbd (zf_X4_read M v1 l1 l2) (fun M2 v2 =>
  some (M2, v2))))
set_option maxRecDepth 100000 in
theorem zt_X11_entry {X : Zx} {M : Zm} {l0 : Option Nat} {l1 : Int32} {l2 : Int32} {z : Zm × Int64} (h : zf_X11_entry M l0 l1 l2 = some z) (hR : zRj X zC_X11_entry z.1 z.2) : zV X zC_X11_entry M 0 [(0, .inr (.inr l0)), (1, .inl l1), (2, .inl l2)] [] := by
  unfold zf_X11_entry at h
  refine zV_b (pc' := 1) (lv' := [(0, .inr (.inr l0)), (1, .inl l1), (2, .inl l2)]) (st' := [.inr (.inr l0)]) [(.aload_n 0, 1)] (by decide +kernel) rfl ?_
  refine zV_gr (by decide +kernel) zfl_RX11_62 (by decide) rfl h (fun v1 _ h => ?_)
  refine zV_b (pc' := 6) (lv' := [(0, .inr (.inr l0)), (1, .inl l1), (2, .inl l2)]) (st' := [.inl l2, .inl l1, .inr (.inr v1)]) [(.iload_n 1, 1), (.iload_n 2, 1)] (by decide +kernel) rfl ?_
  refine zV_cvj (As := [.inl l1, .inl l2]) (st := []) (c := 5) (by decide +kernel) (zcl_X4_read (by decide) (by decide)) ⟨zw_1373, zw_1374, zw_1375⟩ ⟨⟨_, _, rfl⟩, by decide⟩ rfl rfl (Nat.le_of_ble_eq_true rfl) h (fun _ _ e => zc_X4_read e) (fun M2 v2 _ h => ?_)
  exact zend_j h hR (by decide +kernel)
theorem zc_X11_entry {M M' : Zm} {l0 : Option Nat} {l1 : Int32} {l2 : Int32} {x : Int64} (h : zf_X11_entry M l0 l1 l2 = some (M', x)) (l : Launch) (D : va_G) (cy : Nat → ClassId) : zMet l yX11_entry zC_X11_entry (some .long) D cy [.inr (.inr l0), .inl l1, .inl l2] M M' (some (.inr (.inl x))) :=
  zM_j (by decide) rfl (fun h => by cases h) (Nat.le_of_ble_eq_true rfl) (fun X hR => zt_X11_entry h hR)
