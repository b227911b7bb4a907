/-! What the bytecode does, as functions of the memory, and the walks (written by wip/gen.py). -/
-- BlendCellarModel.looked(I)I
def zC_X12_looked : Zc := (cX12_looked, 2, RX12, 0, 0, false)
theorem zcl_X12_looked {C : Zc} (h1 : zC_X12_looked.2.2.2.1 + 1 ≤ C.2.2.2.1) (h2 : 8 + (zC_X12_looked.2.1 + 11) + zC_X12_looked.2.2.2.2.1 ≤ C.2.2.2.2.1) : zCl C yX12_looked zC_X12_looked (some .int) 1 := ⟨zw_1714, zw_114, ⟨by decide, by decide⟩, by decide +kernel, h1, h2⟩
noncomputable def zf_X12_looked (M : Zm) (l0 : Option Nat) (l1 : Int32) : Option (Zm × Int32) :=
  (if l1 < 0 then
  some (M, (3 : Int32))
  else
  (if l1 < (1000 : Int32) then
  zb1 (zo_gi M l0 13 1) (fun v4 =>
  (if v4 ≤ l1 then
  some (M, (2 : Int32))
  else
  some (M, (0 : Int32))))
  else
  some (M, (3 : Int32))))
set_option maxRecDepth 100000 in
theorem zt_X12_looked {X : Zx} {M : Zm} {l0 : Option Nat} {l1 : Int32} {z : Zm × Int32} (h : zf_X12_looked M l0 l1 = some z) (hR : zRi X zC_X12_looked z.1 z.2) : zV X zC_X12_looked M 0 [(0, .inr (.inr l0)), (1, .inl l1)] [] := by
  unfold zf_X12_looked at h
  refine zV_b (pc' := 1) (lv' := [(0, .inr (.inr l0)), (1, .inl l1)]) (st' := [.inl l1]) [(.iload_n 1, 1)] (by decide +kernel) rfl ?_
  refine zV_if_lt (off := 10) (tgt := 11) (by decide +kernel) (by decide) h (fun c1 h => ?_) (fun c1 h => ?_)
  · refine zV_b (pc' := 12) (lv' := [(0, .inr (.inr l0)), (1, .inl l1)]) (st' := [.inl (3 : Int32)]) [(.iconst 3, 1)] (by decide +kernel) rfl ?_
    exact zend_i h hR (by decide +kernel)
  · refine zV_b (pc' := 8) (lv' := [(0, .inr (.inr l0)), (1, .inl l1)]) (st' := [.inl (1000 : Int32), .inl l1]) [(.iload_n 1, 1), (.sipush 1000, 3)] (by decide +kernel) rfl ?_
    refine zV_icmp_lt (off := 5) (tgt := 13) (by decide +kernel) (by decide) h (fun c3 h => ?_) (fun c3 h => ?_)
    · refine zV_b (pc' := 15) (lv' := [(0, .inr (.inr l0)), (1, .inl l1)]) (st' := [.inr (.inr l0), .inl l1]) [(.iload_n 1, 1), (.aload_n 0, 1)] (by decide +kernel) rfl ?_
      refine zV_gi (by decide +kernel) zfl_RX12_181 (by decide) rfl (Or.inl rfl) h (fun v4 _ h => ?_)
      refine zV_icmp_ge (off := 7) (tgt := 25) (by decide +kernel) (by decide) h (fun c5 h => ?_) (fun c5 h => ?_)
      · refine zV_b (pc' := 26) (lv' := [(0, .inr (.inr l0)), (1, .inl l1)]) (st' := [.inl (2 : Int32)]) [(.iconst 2, 1)] (by decide +kernel) rfl ?_
        exact zend_i h hR (by decide +kernel)
      · refine zV_b (pc' := 22) (lv' := [(0, .inr (.inr l0)), (1, .inl l1)]) (st' := [.inl (0 : Int32)]) [(.iconst 0, 1)] (by decide +kernel) rfl ?_
        refine zV_goto (off := 4) (tgt := 26) (by decide +kernel) (by decide) ?_
        exact zend_i h hR (by decide +kernel)
    · refine zV_b (pc' := 12) (lv' := [(0, .inr (.inr l0)), (1, .inl l1)]) (st' := [.inl (3 : Int32)]) [(.iconst 3, 1)] (by decide +kernel) rfl ?_
      exact zend_i h hR (by decide +kernel)
theorem zc_X12_looked {M M' : Zm} {l0 : Option Nat} {l1 : Int32} {x : Int32} (h : zf_X12_looked M l0 l1 = some (M', x)) (l : Launch) (D : va_G) (cy : Nat → ClassId) : zMet l yX12_looked zC_X12_looked (some .int) D cy [.inr (.inr l0), .inl l1] M M' (some (.inl x)) :=
  zM_i (by decide) rfl (fun h => by cases h) (Nat.le_of_ble_eq_true rfl) (fun X hR => zt_X12_looked h hR)
-- BlendCellarModel.bottle(IIJ)J
def zC_X12_bottle : Zc := (cX12_bottle, 12, RX12, 4, 103, false)
theorem zcl_X12_bottle {C : Zc} (h1 : zC_X12_bottle.2.2.2.1 + 1 ≤ C.2.2.2.1) (h2 : 8 + (zC_X12_bottle.2.1 + 11) + zC_X12_bottle.2.2.2.2.1 ≤ C.2.2.2.2.1) : zCl C yX12_bottle zC_X12_bottle (some .long) 3 := ⟨zw_1861, zw_114, ⟨by decide, by decide⟩, by decide +kernel, h1, h2⟩
noncomputable def zf_X12_bottle_J23 (M : Zm) (l0 : Option Nat) : Option (Zm × Int64) :=
  zb1 (zo_rc M l0 13) (fun _ => zbd (zf_X12_no M l0 (1 : Int32)) (fun M3 v3 =>
  some (M3, v3)))
noncomputable def zf_X12_bottle_L177 (p0 : Option Nat) (p1 : Int32) (p2 : Int32) (p8 : Int64) (p10 : Option Nat) (x : Zm × Int32) : Option ((Zm × Int32) ⊕ (Zm × Int32)) := match x with
  | (M, l11) =>
  zb1 (zo_gr M p0 13 22) (fun v35 =>
  zb1 (zo_al M v35) (fun v36 =>
  (if v36 ≤ l11 then
  some (.inr (M, l11))
  else
  zb1 (zo_gr M p0 13 22) (fun v38 =>
  zb1 (zo_aj M v38 l11) (fun v39 =>
  zb1 (zo_sj M p10 l11 v39) (fun M40 =>
  some (.inl (M40, (l11 + 1)))))))))
def zP_X12_bottle_L177 (X : Zx) (p0 : Option Nat) (p1 : Int32) (p2 : Int32) (p8 : Int64) (p10 : Option Nat) (x : Zm × Int32) : Prop := match x with
  | (M, l11) => zV X zC_X12_bottle M 177 [(0, .inr (.inr p0)), (1, .inl p1), (2, .inl p2), (8, .inr (.inl p8)), (10, .inr (.inr p10)), (11, .inl l11)] []
def zK_X12_bottle_L177 (X : Zx) (p0 : Option Nat) (p1 : Int32) (p2 : Int32) (p8 : Int64) (p10 : Option Nat) (y : Zm × Int32) : Prop := match y with
  | (M, l11) => zV X zC_X12_bottle M 205 [(0, .inr (.inr p0)), (1, .inl p1), (2, .inl p2), (8, .inr (.inl p8)), (10, .inr (.inr p10))] []
noncomputable def zf_X12_bottle_J211 (M : Zm) (l0 : Option Nat) (l1 : Int32) (l2 : Int32) (l8 : Int64) : Option (Zm × Int64) :=
  zb1 (zo_gr M l0 13 22) (fun v44 =>
  zb1 (zo_gi M l0 13 21) (fun v45 =>
  zb1 (zo_gi M l0 13 0) (fun v46 =>
  zb1 (zo_sj M v44 ((4 : Int32) * v45) (v46.toInt64)) (fun M47 =>
  zb1 (zo_gr M47 l0 13 22) (fun v48 =>
  zb1 (zo_gi M47 l0 13 21) (fun v49 =>
  zb1 (zo_sj M47 v48 (((4 : Int32) * v49) + (1 : Int32)) (l1.toInt64)) (fun M50 =>
  zb1 (zo_gr M50 l0 13 22) (fun v51 =>
  zb1 (zo_gi M50 l0 13 21) (fun v52 =>
  zb1 (zo_sj M50 v51 (((4 : Int32) * v52) + (2 : Int32)) (l2.toInt64)) (fun M53 =>
  zb1 (zo_gr M53 l0 13 22) (fun v54 =>
  zb1 (zo_gi M53 l0 13 21) (fun v55 =>
  zb1 (zo_sj M53 v54 (((4 : Int32) * v55) + (3 : Int32)) l8) (fun M56 =>
  zb1 (zo_gi M56 l0 13 21) (fun v57 =>
  zb1 (zo_pi M56 l0 13 21 (v57 + (1 : Int32))) (fun M58 =>
  zb1 (zo_rc M58 l0 13) (fun _ => zbd (zf_X12_enter M58 l0 (6 : Int32) l1 (-1 : Int32) ((l2.toInt64) * l8)) (fun M59 _ =>
  zb1 (zo_gi M59 l0 13 0) (fun v60 =>
  some (M59, (v60.toInt64))))))))))))))))))))
noncomputable def zf_X12_bottle (M : Zm) (l0 : Option Nat) (l1 : Int32) (l2 : Int32) (l3 : Int64) : Option (Zm × Int64) :=
  zb1 (zo_rc M l0 13) (fun _ => zbd (zf_X12_begin M l0) (fun M1 _ =>
  (if l2 < 0 then
  zf_X12_bottle_J23 M1 l0
  else
  (if (1000000 : Int32) < l2 then
  zf_X12_bottle_J23 M1 l0
  else
  zb1 (zo_rc M1 l0 13) (fun _ => zbd (zf_X12_isAmount M1 l0 l3) (fun M7 v7 =>
  (if v7 = 0 then
  zf_X12_bottle_J23 M7 l0
  else
  zb1 (zo_rc M7 l0 13) (fun _ => zbd (zf_X12_looked M7 l0 l1) (fun M9 v9 =>
  (if v9 ≤ 0 then
  zb1 (zo_rc M9 l0 13) (fun _ => zbd (zf_X12_isInCask M9 l0 l1) (fun M11 v11 =>
  (if v11 = 0 then
  zb1 (zo_rc M11 l0 13) (fun _ => zbd (zf_X12_spare M11 l0 l1) (fun M13 v13 =>
  (if l3 ≤ v13 then
  (if l2 = 0 then
  zb1 (zo_rc M13 l0 13) (fun _ => zbd (zf_X12_no M13 l0 (5 : Int32)) (fun M16 v16 =>
  some (M16, v16)))
  else
  zb1 (zo_ld l3 (l2.toInt64)) (fun v18 =>
  (if v18 = (0 : Int64) then
  zb1 (zo_rc M13 l0 13) (fun _ => zbd (zf_X12_no M13 l0 (10 : Int32)) (fun M20 v20 =>
  some (M20, v20)))
  else
  zb1 (zo_rc M13 l0 13) (fun _ => zbd (zf_X12_keep M13 l0) (fun M22 _ =>
  zb1 (zo_pi M22 l0 13 60 (0 : Int32)) (fun M23 =>
  zb1 (zo_rc M23 l0 13) (fun _ => zbd (zf_X12_drawFrom M23 l0 l1 ((l2.toInt64) * v18) (1 : Int32)) (fun M24 _ =>
  zb1 (zo_rc M24 l0 13) (fun _ => zbd (zf_X12_takeDraws M24 l0 (4 : Int32)) (fun M25 _ =>
  zb1 (zo_gi M25 l0 13 0) (fun v26 =>
  zb1 (zo_pi M25 l0 13 0 (v26 + (1 : Int32))) (fun M27 =>
  zb1 (zo_gi M27 l0 13 21) (fun v28 =>
  zb1 (zo_gr M27 l0 13 22) (fun v29 =>
  zb1 (zo_al M27 v29) (fun v30 =>
  (if ((4 : Int32) * v28) = v30 then
  zb1 (zo_gr M27 l0 13 22) (fun v32 =>
  zb1 (zo_al M27 v32) (fun v33 =>
  zb1 (zo_na M27 15 ((2 : Int32) * v33)) (fun M34 =>
  zb1 (zwhile (zf_X12_bottle_L177 l0 l1 l2 v18 (zm_nx M27)) (M34, (0 : Int32))) (fun y42 => match y42 with
  | (M177_42, l11_42) =>
  zb1 (zo_pr M177_42 l0 13 22 (zm_nx M27)) (fun M43 =>
  zf_X12_bottle_J211 M43 l0 l1 l2 v18)))))
  else
  zf_X12_bottle_J211 M27 l0 l1 l2 v18))))))))))))))))
  else
  zb1 (zo_rc M13 l0 13) (fun _ => zbd (zf_X12_no M13 l0 (10 : Int32)) (fun M62 v62 =>
  some (M62, v62))))))
  else
  zb1 (zo_rc M11 l0 13) (fun _ => zbd (zf_X12_no M11 l0 (9 : Int32)) (fun M64 v64 =>
  some (M64, v64))))))
  else
  zb1 (zo_rc M9 l0 13) (fun _ => zbd (zf_X12_no M9 l0 v9) (fun M66 v66 =>
  some (M66, v66)))))))))))))
set_option maxRecDepth 100000 in
theorem zt_X12_bottle_J23 {X : Zx} {M : Zm} {l0 : Option Nat} {z : Zm × Int64} (h : zf_X12_bottle_J23 M l0 = some z) (hR : zRj X zC_X12_bottle z.1 z.2) : zV X zC_X12_bottle M 23 [(0, .inr (.inr l0))] [] := by
  unfold zf_X12_bottle_J23 at h
  refine zV_b (pc' := 25) (lv' := [(0, .inr (.inr l0))]) (st' := [.inl (1 : Int32), .inr (.inr l0)]) [(.aload_n 0, 1), (.iconst 1, 1)] (by decide +kernel) rfl ?_
  refine zV_cvj (As := [.inl (1 : Int32)]) (st := []) (c := 13) (by decide +kernel) (zcl_X12_no (by decide) (by decide)) ⟨zw_1677, zw_1679, zw_59⟩ ⟨⟨_, _, rfl⟩, by decide⟩ rfl rfl (Nat.le_of_ble_eq_true rfl) h (fun _ _ e => zc_X12_no e) (fun M3 v3 _ h => ?_)
  exact zend_j h hR (by decide +kernel)
set_option maxRecDepth 100000 in
theorem zt_X12_bottle_L177 {X : Zx} {p0 : Option Nat} {p1 : Int32} {p2 : Int32} {p8 : Int64} {p10 : Option Nat} {x : Zm × Int32} {y : Zm × Int32} (h : zwhile (zf_X12_bottle_L177 p0 p1 p2 p8 p10) x = some y) (hy : zK_X12_bottle_L177 X p0 p1 p2 p8 p10 y) : zP_X12_bottle_L177 X p0 p1 p2 p8 p10 x := by
  refine zwhile_ind (P := zP_X12_bottle_L177 X p0 p1 p2 p8 p10) (K := zK_X12_bottle_L177 X p0 p1 p2 p8 p10) ?_ h hy
  intro x z hf k1 k2
  obtain ⟨M, l11⟩ := x
  have h : zf_X12_bottle_L177 p0 p1 p2 p8 p10 (M, l11) = some z := hf
  unfold zf_X12_bottle_L177 at h
  show zV X zC_X12_bottle M 177 [(0, .inr (.inr p0)), (1, .inl p1), (2, .inl p2), (8, .inr (.inl p8)), (10, .inr (.inr p10)), (11, .inl l11)] []
  refine zV_b (pc' := 180) (lv' := [(0, .inr (.inr p0)), (1, .inl p1), (2, .inl p2), (8, .inr (.inl p8)), (10, .inr (.inr p10)), (11, .inl l11)]) (st' := [.inr (.inr p0), .inl l11]) [(.iload 11, 2), (.aload_n 0, 1)] (by decide +kernel) rfl ?_
  refine zV_gr (by decide +kernel) zfl_RX12_60 (by decide) rfl h (fun v35 _ h => ?_)
  refine zV_al (by decide +kernel) h (fun v36 _ h => ?_)
  refine zV_icmp_ge (off := 21) (tgt := 205) (by decide +kernel) (by decide) h (fun c37 h => ?_) (fun c37 h => ?_)
  · exact zV_lv (lv' := [(0, .inr (.inr p0)), (1, .inl p1), (2, .inl p2), (8, .inr (.inl p8)), (10, .inr (.inr p10))]) [0, 1, 2, 3, 4] rfl (k2 _ (Option.some.inj h).symm)
  · refine zV_b (pc' := 192) (lv' := [(0, .inr (.inr p0)), (1, .inl p1), (2, .inl p2), (8, .inr (.inl p8)), (10, .inr (.inr p10)), (11, .inl l11)]) (st' := [.inr (.inr p0), .inl l11, .inr (.inr p10)]) [(.aload 10, 2), (.iload 11, 2), (.aload_n 0, 1)] (by decide +kernel) rfl ?_
    refine zV_gr (by decide +kernel) zfl_RX12_60 (by decide) rfl h (fun v38 _ h => ?_)
    refine zV_b (pc' := 197) (lv' := [(0, .inr (.inr p0)), (1, .inl p1), (2, .inl p2), (8, .inr (.inl p8)), (10, .inr (.inr p10)), (11, .inl l11)]) (st' := [.inl l11, .inr (.inr v38), .inl l11, .inr (.inr p10)]) [(.iload 11, 2)] (by decide +kernel) rfl ?_
    refine zV_aj (by decide +kernel) h (fun v39 _ h => ?_)
    refine zV_sj (by decide +kernel) h (fun M40 _ h => ?_)
    refine zV_b (pc' := 202) (lv' := [(11, .inl (l11 + 1)), (0, .inr (.inr p0)), (1, .inl p1), (2, .inl p2), (8, .inr (.inl p8)), (10, .inr (.inr p10))]) (st' := []) [(.iinc 11 1, 3)] (by decide +kernel) rfl ?_
    refine zV_goto (off := (-25)) (tgt := 177) (by decide +kernel) (by decide) ?_
    exact zV_lv (lv' := [(0, .inr (.inr p0)), (1, .inl p1), (2, .inl p2), (8, .inr (.inl p8)), (10, .inr (.inr p10)), (11, .inl (l11 + 1))]) [1, 2, 3, 4, 5, 0] rfl (k1 _ (Option.some.inj h).symm)
set_option maxRecDepth 100000 in
theorem zt_X12_bottle_J211 {X : Zx} {M : Zm} {l0 : Option Nat} {l1 : Int32} {l2 : Int32} {l8 : Int64} {z : Zm × Int64} (h : zf_X12_bottle_J211 M l0 l1 l2 l8 = some z) (hR : zRj X zC_X12_bottle z.1 z.2) : zV X zC_X12_bottle M 211 [(0, .inr (.inr l0)), (1, .inl l1), (2, .inl l2), (8, .inr (.inl l8))] [] := by
  unfold zf_X12_bottle_J211 at h
  refine zV_b (pc' := 212) (lv' := [(0, .inr (.inr l0)), (1, .inl l1), (2, .inl l2), (8, .inr (.inl l8))]) (st' := [.inr (.inr l0)]) [(.aload_n 0, 1)] (by decide +kernel) rfl ?_
  refine zV_gr (by decide +kernel) zfl_RX12_60 (by decide) rfl h (fun v44 _ h => ?_)
  refine zV_b (pc' := 217) (lv' := [(0, .inr (.inr l0)), (1, .inl l1), (2, .inl l2), (8, .inr (.inl l8))]) (st' := [.inr (.inr l0), .inl (4 : Int32), .inr (.inr v44)]) [(.iconst 4, 1), (.aload_n 0, 1)] (by decide +kernel) rfl ?_
  refine zV_gi (by decide +kernel) zfl_RX12_214 (by decide) rfl (Or.inl rfl) h (fun v45 _ h => ?_)
  refine zV_b (pc' := 222) (lv' := [(0, .inr (.inr l0)), (1, .inl l1), (2, .inl l2), (8, .inr (.inl l8))]) (st' := [.inr (.inr l0), .inl ((4 : Int32) * v45), .inr (.inr v44)]) [(.imul, 1), (.aload_n 0, 1)] (by decide +kernel) rfl ?_
  refine zV_gi (by decide +kernel) zfl_RX12_352 (by decide) rfl (Or.inl rfl) h (fun v46 _ h => ?_)
  refine zV_b (pc' := 226) (lv' := [(0, .inr (.inr l0)), (1, .inl l1), (2, .inl l2), (8, .inr (.inl l8))]) (st' := [.inr (.inl (v46.toInt64)), .inl ((4 : Int32) * v45), .inr (.inr v44)]) [(.i2l, 1)] (by decide +kernel) rfl ?_
  refine zV_sj (by decide +kernel) h (fun M47 _ h => ?_)
  refine zV_b (pc' := 228) (lv' := [(0, .inr (.inr l0)), (1, .inl l1), (2, .inl l2), (8, .inr (.inl l8))]) (st' := [.inr (.inr l0)]) [(.aload_n 0, 1)] (by decide +kernel) rfl ?_
  refine zV_gr (by decide +kernel) zfl_RX12_60 (by decide) rfl h (fun v48 _ h => ?_)
  refine zV_b (pc' := 233) (lv' := [(0, .inr (.inr l0)), (1, .inl l1), (2, .inl l2), (8, .inr (.inl l8))]) (st' := [.inr (.inr l0), .inl (4 : Int32), .inr (.inr v48)]) [(.iconst 4, 1), (.aload_n 0, 1)] (by decide +kernel) rfl ?_
  refine zV_gi (by decide +kernel) zfl_RX12_214 (by decide) rfl (Or.inl rfl) h (fun v49 _ h => ?_)
  refine zV_b (pc' := 241) (lv' := [(0, .inr (.inr l0)), (1, .inl l1), (2, .inl l2), (8, .inr (.inl l8))]) (st' := [.inr (.inl (l1.toInt64)), .inl (((4 : Int32) * v49) + (1 : Int32)), .inr (.inr v48)]) [(.imul, 1), (.iconst 1, 1), (.iadd, 1), (.iload_n 1, 1), (.i2l, 1)] (by decide +kernel) rfl ?_
  refine zV_sj (by decide +kernel) h (fun M50 _ h => ?_)
  refine zV_b (pc' := 243) (lv' := [(0, .inr (.inr l0)), (1, .inl l1), (2, .inl l2), (8, .inr (.inl l8))]) (st' := [.inr (.inr l0)]) [(.aload_n 0, 1)] (by decide +kernel) rfl ?_
  refine zV_gr (by decide +kernel) zfl_RX12_60 (by decide) rfl h (fun v51 _ h => ?_)
  refine zV_b (pc' := 248) (lv' := [(0, .inr (.inr l0)), (1, .inl l1), (2, .inl l2), (8, .inr (.inl l8))]) (st' := [.inr (.inr l0), .inl (4 : Int32), .inr (.inr v51)]) [(.iconst 4, 1), (.aload_n 0, 1)] (by decide +kernel) rfl ?_
  refine zV_gi (by decide +kernel) zfl_RX12_214 (by decide) rfl (Or.inl rfl) h (fun v52 _ h => ?_)
  refine zV_b (pc' := 256) (lv' := [(0, .inr (.inr l0)), (1, .inl l1), (2, .inl l2), (8, .inr (.inl l8))]) (st' := [.inr (.inl (l2.toInt64)), .inl (((4 : Int32) * v52) + (2 : Int32)), .inr (.inr v51)]) [(.imul, 1), (.iconst 2, 1), (.iadd, 1), (.iload_n 2, 1), (.i2l, 1)] (by decide +kernel) rfl ?_
  refine zV_sj (by decide +kernel) h (fun M53 _ h => ?_)
  refine zV_b (pc' := 258) (lv' := [(0, .inr (.inr l0)), (1, .inl l1), (2, .inl l2), (8, .inr (.inl l8))]) (st' := [.inr (.inr l0)]) [(.aload_n 0, 1)] (by decide +kernel) rfl ?_
  refine zV_gr (by decide +kernel) zfl_RX12_60 (by decide) rfl h (fun v54 _ h => ?_)
  refine zV_b (pc' := 263) (lv' := [(0, .inr (.inr l0)), (1, .inl l1), (2, .inl l2), (8, .inr (.inl l8))]) (st' := [.inr (.inr l0), .inl (4 : Int32), .inr (.inr v54)]) [(.iconst 4, 1), (.aload_n 0, 1)] (by decide +kernel) rfl ?_
  refine zV_gi (by decide +kernel) zfl_RX12_214 (by decide) rfl (Or.inl rfl) h (fun v55 _ h => ?_)
  refine zV_b (pc' := 271) (lv' := [(0, .inr (.inr l0)), (1, .inl l1), (2, .inl l2), (8, .inr (.inl l8))]) (st' := [.inr (.inl l8), .inl (((4 : Int32) * v55) + (3 : Int32)), .inr (.inr v54)]) [(.imul, 1), (.iconst 3, 1), (.iadd, 1), (.lload 8, 2)] (by decide +kernel) rfl ?_
  refine zV_sj (by decide +kernel) h (fun M56 _ h => ?_)
  refine zV_b (pc' := 274) (lv' := [(0, .inr (.inr l0)), (1, .inl l1), (2, .inl l2), (8, .inr (.inl l8))]) (st' := [.inr (.inr l0), .inr (.inr l0)]) [(.aload_n 0, 1), (.dup, 1)] (by decide +kernel) rfl ?_
  refine zV_gi (by decide +kernel) zfl_RX12_214 (by decide) rfl (Or.inl rfl) h (fun v57 _ h => ?_)
  refine zV_b (pc' := 279) (lv' := [(0, .inr (.inr l0)), (1, .inl l1), (2, .inl l2), (8, .inr (.inl l8))]) (st' := [.inl (v57 + (1 : Int32)), .inr (.inr l0)]) [(.iconst 1, 1), (.iadd, 1)] (by decide +kernel) rfl ?_
  refine zV_pi (by decide +kernel) zfp_RX12_214 (by decide) rfl h (fun M58 _ h => ?_)
  refine zV_b (pc' := 292) (lv' := [(0, .inr (.inr l0)), (1, .inl l1), (2, .inl l2), (8, .inr (.inl l8))]) (st' := [.inr (.inl ((l2.toInt64) * l8)), .inl (-1 : Int32), .inl l1, .inl (6 : Int32), .inr (.inr l0)]) [(.aload_n 0, 1), (.bipush 6, 2), (.iload_n 1, 1), (.iconst (-1), 1), (.iload_n 2, 1), (.i2l, 1), (.lload 8, 2), (.lmul, 1)] (by decide +kernel) rfl ?_
  refine zV_cvv (As := [.inl (6 : Int32), .inl l1, .inl (-1 : Int32), .inr (.inl ((l2.toInt64) * l8))]) (st := []) (c := 13) (by decide +kernel) (zcl_X12_enter (by decide) (by decide)) ⟨zw_1787, zw_1789, zw_77⟩ ⟨⟨_, _, rfl⟩, by decide⟩ rfl rfl (Nat.le_of_ble_eq_true rfl) h (fun _ _ e => zc_X12_enter e) (fun M59 _ _ h => ?_)
  refine zV_b (pc' := 296) (lv' := [(0, .inr (.inr l0)), (1, .inl l1), (2, .inl l2), (8, .inr (.inl l8))]) (st' := [.inr (.inr l0)]) [(.aload_n 0, 1)] (by decide +kernel) rfl ?_
  refine zV_gi (by decide +kernel) zfl_RX12_352 (by decide) rfl (Or.inl rfl) h (fun v60 _ h => ?_)
  refine zV_b (pc' := 300) (lv' := [(0, .inr (.inr l0)), (1, .inl l1), (2, .inl l2), (8, .inr (.inl l8))]) (st' := [.inr (.inl (v60.toInt64))]) [(.i2l, 1)] (by decide +kernel) rfl ?_
  exact zend_j h hR (by decide +kernel)
set_option maxRecDepth 100000 in
theorem zt_X12_bottle {X : Zx} {M : Zm} {l0 : Option Nat} {l1 : Int32} {l2 : Int32} {l3 : Int64} {z : Zm × Int64} (h : zf_X12_bottle M l0 l1 l2 l3 = some z) (hR : zRj X zC_X12_bottle z.1 z.2) : zV X zC_X12_bottle M 0 [(0, .inr (.inr l0)), (1, .inl l1), (2, .inl l2), (3, .inr (.inl l3))] [] := by
  unfold zf_X12_bottle at h
  refine zV_b (pc' := 1) (lv' := [(0, .inr (.inr l0)), (1, .inl l1), (2, .inl l2), (3, .inr (.inl l3))]) (st' := [.inr (.inr l0)]) [(.aload_n 0, 1)] (by decide +kernel) rfl ?_
  refine zV_cvv (As := []) (st := []) (c := 13) (by decide +kernel) (zcl_X12_begin (by decide) (by decide)) ⟨zw_1673, zw_1675, zw_58⟩ ⟨⟨_, _, rfl⟩, by decide⟩ rfl rfl (Nat.le_of_ble_eq_true rfl) h (fun _ _ e => zc_X12_begin e) (fun M1 _ _ h => ?_)
  refine zV_b (pc' := 5) (lv' := [(0, .inr (.inr l0)), (1, .inl l1), (2, .inl l2), (3, .inr (.inl l3))]) (st' := [.inl l2]) [(.iload_n 2, 1)] (by decide +kernel) rfl ?_
  refine zV_if_lt (off := 18) (tgt := 23) (by decide +kernel) (by decide) h (fun c2 h => ?_) (fun c2 h => ?_)
  · exact zV_lv (lv' := [(0, .inr (.inr l0))]) [0] rfl (zt_X12_bottle_J23 h hR)
  · refine zV_b (pc' := 9) (lv' := [(0, .inr (.inr l0)), (1, .inl l1), (2, .inl l2), (3, .inr (.inl l3))]) (st' := [.inl l2]) [(.iload_n 2, 1)] (by decide +kernel) rfl ?_
    refine zV_ldcw (by decide +kernel) zw_1690 ?_
    refine zV_icmp_gt (off := 11) (tgt := 23) (by decide +kernel) (by decide) h (fun c6 h => ?_) (fun c6 h => ?_)
    · exact zV_lv (lv' := [(0, .inr (.inr l0))]) [0] rfl (zt_X12_bottle_J23 h hR)
    · refine zV_b (pc' := 17) (lv' := [(0, .inr (.inr l0)), (1, .inl l1), (2, .inl l2), (3, .inr (.inl l3))]) (st' := [.inr (.inl l3), .inr (.inr l0)]) [(.aload_n 0, 1), (.lload_n 3, 1)] (by decide +kernel) rfl ?_
      refine zV_cvi (As := [.inr (.inl l3)]) (st := []) (c := 13) (by decide +kernel) (zcl_X12_isAmount (by decide) (by decide)) ⟨zw_1734, zw_1736, zw_65⟩ ⟨⟨_, _, rfl⟩, by decide⟩ rfl rfl (Nat.le_of_ble_eq_true rfl) h (fun _ _ e => zc_X12_isAmount e) (fun M7 v7 _ h => ?_)
      refine zV_if_ne (off := 9) (tgt := 29) (by decide +kernel) (by decide) h (fun c8 h => ?_) (fun c8 h => ?_)
      · exact zV_lv (lv' := [(0, .inr (.inr l0))]) [0] rfl (zt_X12_bottle_J23 h hR)
      · refine zV_b (pc' := 31) (lv' := [(0, .inr (.inr l0)), (1, .inl l1), (2, .inl l2), (3, .inr (.inl l3))]) (st' := [.inl l1, .inr (.inr l0)]) [(.aload_n 0, 1), (.iload_n 1, 1)] (by decide +kernel) rfl ?_
        refine zV_cvi (As := [.inl l1]) (st := []) (c := 13) (by decide +kernel) (zcl_X12_looked (by decide) (by decide)) ⟨zw_1711, zw_1713, zw_63⟩ ⟨⟨_, _, rfl⟩, by decide⟩ rfl rfl (Nat.le_of_ble_eq_true rfl) h (fun _ _ e => zc_X12_looked e) (fun M9 v9 _ h => ?_)
        refine zV_b (pc' := 38) (lv' := [(5, .inl v9), (0, .inr (.inr l0)), (1, .inl l1), (2, .inl l2), (3, .inr (.inl l3))]) (st' := [.inl v9]) [(.istore 5, 2), (.iload 5, 2)] (by decide +kernel) rfl ?_
        refine zV_if_le (off := 10) (tgt := 48) (by decide +kernel) (by decide) h (fun c10 h => ?_) (fun c10 h => ?_)
        · refine zV_b (pc' := 50) (lv' := [(5, .inl v9), (0, .inr (.inr l0)), (1, .inl l1), (2, .inl l2), (3, .inr (.inl l3))]) (st' := [.inl l1, .inr (.inr l0)]) [(.aload_n 0, 1), (.iload_n 1, 1)] (by decide +kernel) rfl ?_
          refine zV_cvi (As := [.inl l1]) (st := []) (c := 13) (by decide +kernel) (zcl_X12_isInCask (by decide) (by decide)) ⟨zw_1739, zw_1741, zw_66⟩ ⟨⟨_, _, rfl⟩, by decide⟩ rfl rfl (Nat.le_of_ble_eq_true rfl) h (fun _ _ e => zc_X12_isInCask e) (fun M11 v11 _ h => ?_)
          refine zV_if_eq (off := 10) (tgt := 63) (by decide +kernel) (by decide) h (fun c12 h => ?_) (fun c12 h => ?_)
          · refine zV_b (pc' := 65) (lv' := [(5, .inl v9), (0, .inr (.inr l0)), (1, .inl l1), (2, .inl l2), (3, .inr (.inl l3))]) (st' := [.inl l1, .inr (.inr l0)]) [(.aload_n 0, 1), (.iload_n 1, 1)] (by decide +kernel) rfl ?_
            refine zV_cvj (As := [.inl l1]) (st := []) (c := 13) (by decide +kernel) (zcl_X12_spare (by decide) (by decide)) ⟨zw_1795, zw_1797, zw_78⟩ ⟨⟨_, _, rfl⟩, by decide⟩ rfl rfl (Nat.le_of_ble_eq_true rfl) h (fun _ _ e => zc_X12_spare e) (fun M13 v13 _ h => ?_)
            refine zV_b (pc' := 73) (lv' := [(6, .inr (.inl v13)), (5, .inl v9), (0, .inr (.inr l0)), (1, .inl l1), (2, .inl l2), (3, .inr (.inl l3))]) (st' := [.inr (.inl v13), .inr (.inl l3)]) [(.lstore 6, 2), (.lload_n 3, 1), (.lload 6, 2)] (by decide +kernel) rfl ?_
            refine zV_lcmp_le (off := 10) (tgt := 84) (by decide +kernel) (by decide +kernel) (by decide) h (fun c14 h => ?_) (fun c14 h => ?_)
            · refine zV_b (pc' := 85) (lv' := [(6, .inr (.inl v13)), (5, .inl v9), (0, .inr (.inr l0)), (1, .inl l1), (2, .inl l2), (3, .inr (.inl l3))]) (st' := [.inl l2]) [(.iload_n 2, 1)] (by decide +kernel) rfl ?_
              refine zV_if_ne (off := 9) (tgt := 94) (by decide +kernel) (by decide) h (fun c15 h => ?_) (fun c15 h => ?_)
              · refine zV_b (pc' := 90) (lv' := [(6, .inr (.inl v13)), (5, .inl v9), (0, .inr (.inr l0)), (1, .inl l1), (2, .inl l2), (3, .inr (.inl l3))]) (st' := [.inl (5 : Int32), .inr (.inr l0)]) [(.aload_n 0, 1), (.iconst 5, 1)] (by decide +kernel) rfl ?_
                refine zV_cvj (As := [.inl (5 : Int32)]) (st := []) (c := 13) (by decide +kernel) (zcl_X12_no (by decide) (by decide)) ⟨zw_1677, zw_1679, zw_59⟩ ⟨⟨_, _, rfl⟩, by decide⟩ rfl rfl (Nat.le_of_ble_eq_true rfl) h (fun _ _ e => zc_X12_no e) (fun M16 v16 _ h => ?_)
                exact zend_j h hR (by decide +kernel)
              · refine zV_b (pc' := 97) (lv' := [(6, .inr (.inl v13)), (5, .inl v9), (0, .inr (.inr l0)), (1, .inl l1), (2, .inl l2), (3, .inr (.inl l3))]) (st' := [.inr (.inl (l2.toInt64)), .inr (.inl l3)]) [(.lload_n 3, 1), (.iload_n 2, 1), (.i2l, 1)] (by decide +kernel) rfl ?_
                refine zV_ld (by decide +kernel) h (fun v18 _ h => ?_)
                refine zV_b (pc' := 103) (lv' := [(8, .inr (.inl v18)), (6, .inr (.inl v13)), (5, .inl v9), (0, .inr (.inr l0)), (1, .inl l1), (2, .inl l2), (3, .inr (.inl l3))]) (st' := [.inr (.inl (0 : Int64)), .inr (.inl v18)]) [(.lstore 8, 2), (.lload 8, 2), (.lconst 0, 1)] (by decide +kernel) rfl ?_
                refine zV_lcmp_ne (off := 10) (tgt := 114) (by decide +kernel) (by decide +kernel) (by decide) h (fun c19 h => ?_) (fun c19 h => ?_)
                · refine zV_b (pc' := 110) (lv' := [(8, .inr (.inl v18)), (6, .inr (.inl v13)), (5, .inl v9), (0, .inr (.inr l0)), (1, .inl l1), (2, .inl l2), (3, .inr (.inl l3))]) (st' := [.inl (10 : Int32), .inr (.inr l0)]) [(.aload_n 0, 1), (.bipush 10, 2)] (by decide +kernel) rfl ?_
                  refine zV_cvj (As := [.inl (10 : Int32)]) (st := []) (c := 13) (by decide +kernel) (zcl_X12_no (by decide) (by decide)) ⟨zw_1677, zw_1679, zw_59⟩ ⟨⟨_, _, rfl⟩, by decide⟩ rfl rfl (Nat.le_of_ble_eq_true rfl) h (fun _ _ e => zc_X12_no e) (fun M20 v20 _ h => ?_)
                  exact zend_j h hR (by decide +kernel)
                · refine zV_b (pc' := 115) (lv' := [(8, .inr (.inl v18)), (6, .inr (.inl v13)), (5, .inl v9), (0, .inr (.inr l0)), (1, .inl l1), (2, .inl l2), (3, .inr (.inl l3))]) (st' := [.inr (.inr l0)]) [(.aload_n 0, 1)] (by decide +kernel) rfl ?_
                  refine zV_cvv (As := []) (st := []) (c := 13) (by decide +kernel) (zcl_X12_keep (by decide) (by decide)) ⟨zw_1681, zw_1683, zw_60⟩ ⟨⟨_, _, rfl⟩, by decide⟩ rfl rfl (Nat.le_of_ble_eq_true rfl) h (fun _ _ e => zc_X12_keep e) (fun M22 _ _ h => ?_)
                  refine zV_b (pc' := 120) (lv' := [(8, .inr (.inl v18)), (6, .inr (.inl v13)), (5, .inl v9), (0, .inr (.inr l0)), (1, .inl l1), (2, .inl l2), (3, .inr (.inl l3))]) (st' := [.inl (0 : Int32), .inr (.inr l0)]) [(.aload_n 0, 1), (.iconst 0, 1)] (by decide +kernel) rfl ?_
                  refine zV_pi (by decide +kernel) zfp_RX12_247 (by decide) rfl h (fun M23 _ h => ?_)
                  refine zV_b (pc' := 131) (lv' := [(8, .inr (.inl v18)), (6, .inr (.inl v13)), (5, .inl v9), (0, .inr (.inr l0)), (1, .inl l1), (2, .inl l2), (3, .inr (.inl l3))]) (st' := [.inl (1 : Int32), .inr (.inl ((l2.toInt64) * v18)), .inl l1, .inr (.inr l0)]) [(.aload_n 0, 1), (.iload_n 1, 1), (.iload_n 2, 1), (.i2l, 1), (.lload 8, 2), (.lmul, 1), (.iconst 1, 1)] (by decide +kernel) rfl ?_
                  refine zV_cvv (As := [.inl l1, .inr (.inl ((l2.toInt64) * v18)), .inl (1 : Int32)]) (st := []) (c := 13) (by decide +kernel) (zcl_X12_drawFrom (by decide) (by decide)) ⟨zw_1803, zw_1805, zw_80⟩ ⟨⟨_, _, rfl⟩, by decide⟩ rfl rfl (Nat.le_of_ble_eq_true rfl) h (fun _ _ e => zc_X12_drawFrom e) (fun M24 _ _ h => ?_)
                  refine zV_b (pc' := 136) (lv' := [(8, .inr (.inl v18)), (6, .inr (.inl v13)), (5, .inl v9), (0, .inr (.inr l0)), (1, .inl l1), (2, .inl l2), (3, .inr (.inl l3))]) (st' := [.inl (4 : Int32), .inr (.inr l0)]) [(.aload_n 0, 1), (.iconst 4, 1)] (by decide +kernel) rfl ?_
                  refine zV_cvv (As := [.inl (4 : Int32)]) (st := []) (c := 13) (by decide +kernel) (zcl_X12_takeDraws (by decide) (by decide)) ⟨zw_1811, zw_1813, zw_82⟩ ⟨⟨_, _, rfl⟩, by decide⟩ rfl rfl (Nat.le_of_ble_eq_true rfl) h (fun _ _ e => zc_X12_takeDraws e) (fun M25 _ _ h => ?_)
                  refine zV_b (pc' := 141) (lv' := [(8, .inr (.inl v18)), (6, .inr (.inl v13)), (5, .inl v9), (0, .inr (.inr l0)), (1, .inl l1), (2, .inl l2), (3, .inr (.inl l3))]) (st' := [.inr (.inr l0), .inr (.inr l0)]) [(.aload_n 0, 1), (.dup, 1)] (by decide +kernel) rfl ?_
                  refine zV_gi (by decide +kernel) zfl_RX12_352 (by decide) rfl (Or.inl rfl) h (fun v26 _ h => ?_)
                  refine zV_b (pc' := 146) (lv' := [(8, .inr (.inl v18)), (6, .inr (.inl v13)), (5, .inl v9), (0, .inr (.inr l0)), (1, .inl l1), (2, .inl l2), (3, .inr (.inl l3))]) (st' := [.inl (v26 + (1 : Int32)), .inr (.inr l0)]) [(.iconst 1, 1), (.iadd, 1)] (by decide +kernel) rfl ?_
                  refine zV_pi (by decide +kernel) zfp_RX12_352 (by decide) rfl h (fun M27 _ h => ?_)
                  refine zV_b (pc' := 151) (lv' := [(8, .inr (.inl v18)), (6, .inr (.inl v13)), (5, .inl v9), (0, .inr (.inr l0)), (1, .inl l1), (2, .inl l2), (3, .inr (.inl l3))]) (st' := [.inr (.inr l0), .inl (4 : Int32)]) [(.iconst 4, 1), (.aload_n 0, 1)] (by decide +kernel) rfl ?_
                  refine zV_gi (by decide +kernel) zfl_RX12_214 (by decide) rfl (Or.inl rfl) h (fun v28 _ h => ?_)
                  refine zV_b (pc' := 156) (lv' := [(8, .inr (.inl v18)), (6, .inr (.inl v13)), (5, .inl v9), (0, .inr (.inr l0)), (1, .inl l1), (2, .inl l2), (3, .inr (.inl l3))]) (st' := [.inr (.inr l0), .inl ((4 : Int32) * v28)]) [(.imul, 1), (.aload_n 0, 1)] (by decide +kernel) rfl ?_
                  refine zV_gr (by decide +kernel) zfl_RX12_60 (by decide) rfl h (fun v29 _ h => ?_)
                  refine zV_al (by decide +kernel) h (fun v30 _ h => ?_)
                  refine zV_icmp_ne (off := 51) (tgt := 211) (by decide +kernel) (by decide) h (fun c31 h => ?_) (fun c31 h => ?_)
                  · refine zV_b (pc' := 165) (lv' := [(8, .inr (.inl v18)), (6, .inr (.inl v13)), (5, .inl v9), (0, .inr (.inr l0)), (1, .inl l1), (2, .inl l2), (3, .inr (.inl l3))]) (st' := [.inr (.inr l0), .inl (2 : Int32)]) [(.iconst 2, 1), (.aload_n 0, 1)] (by decide +kernel) rfl ?_
                    refine zV_gr (by decide +kernel) zfl_RX12_60 (by decide) rfl h (fun v32 _ h => ?_)
                    refine zV_al (by decide +kernel) h (fun v33 _ h => ?_)
                    refine zV_b (pc' := 170) (lv' := [(8, .inr (.inl v18)), (6, .inr (.inl v13)), (5, .inl v9), (0, .inr (.inr l0)), (1, .inl l1), (2, .inl l2), (3, .inr (.inl l3))]) (st' := [.inl ((2 : Int32) * v33)]) [(.imul, 1)] (by decide +kernel) rfl ?_
                    refine zV_na (by decide +kernel) (Or.inr ⟨rfl, rfl⟩) h (fun M34 _ h => ?_)
                    refine zV_b (pc' := 177) (lv' := [(11, .inl (0 : Int32)), (10, .inr (.inr (zm_nx M27))), (8, .inr (.inl v18)), (6, .inr (.inl v13)), (5, .inl v9), (0, .inr (.inr l0)), (1, .inl l1), (2, .inl l2), (3, .inr (.inl l3))]) (st' := []) [(.astore 10, 2), (.iconst 0, 1), (.istore 11, 2)] (by decide +kernel) rfl ?_
                    obtain ⟨y42, e42, h⟩ := zb1_inv h
                    refine zV_lv (lv' := [(0, .inr (.inr l0)), (1, .inl l1), (2, .inl l2), (8, .inr (.inl v18)), (10, .inr (.inr (zm_nx M27))), (11, .inl (0 : Int32))]) [5, 6, 7, 2, 1, 0] rfl (zt_X12_bottle_L177 e42 ?_)
                    obtain ⟨M177_42, l11_42⟩ := y42
                    show zV X zC_X12_bottle M177_42 205 [(0, .inr (.inr l0)), (1, .inl l1), (2, .inl l2), (8, .inr (.inl v18)), (10, .inr (.inr (zm_nx M27)))] []
                    refine zV_b (pc' := 208) (lv' := [(0, .inr (.inr l0)), (1, .inl l1), (2, .inl l2), (8, .inr (.inl v18)), (10, .inr (.inr (zm_nx M27)))]) (st' := [.inr (.inr (zm_nx M27)), .inr (.inr l0)]) [(.aload_n 0, 1), (.aload 10, 2)] (by decide +kernel) rfl ?_
                    refine zV_pr (by decide +kernel) zfp_RX12_60 (Or.inr ⟨_, rfl⟩) (by decide) rfl h (fun M43 _ h => ?_)
                    exact zV_lv (lv' := [(0, .inr (.inr l0)), (1, .inl l1), (2, .inl l2), (8, .inr (.inl v18))]) [0, 1, 2, 3] rfl (zt_X12_bottle_J211 h hR)
                  · exact zV_lv (lv' := [(0, .inr (.inr l0)), (1, .inl l1), (2, .inl l2), (8, .inr (.inl v18))]) [3, 4, 5, 0] rfl (zt_X12_bottle_J211 h hR)
            · refine zV_b (pc' := 80) (lv' := [(6, .inr (.inl v13)), (5, .inl v9), (0, .inr (.inr l0)), (1, .inl l1), (2, .inl l2), (3, .inr (.inl l3))]) (st' := [.inl (10 : Int32), .inr (.inr l0)]) [(.aload_n 0, 1), (.bipush 10, 2)] (by decide +kernel) rfl ?_
              refine zV_cvj (As := [.inl (10 : Int32)]) (st := []) (c := 13) (by decide +kernel) (zcl_X12_no (by decide) (by decide)) ⟨zw_1677, zw_1679, zw_59⟩ ⟨⟨_, _, rfl⟩, by decide⟩ rfl rfl (Nat.le_of_ble_eq_true rfl) h (fun _ _ e => zc_X12_no e) (fun M62 v62 _ h => ?_)
              exact zend_j h hR (by decide +kernel)
          · refine zV_b (pc' := 59) (lv' := [(5, .inl v9), (0, .inr (.inr l0)), (1, .inl l1), (2, .inl l2), (3, .inr (.inl l3))]) (st' := [.inl (9 : Int32), .inr (.inr l0)]) [(.aload_n 0, 1), (.bipush 9, 2)] (by decide +kernel) rfl ?_
            refine zV_cvj (As := [.inl (9 : Int32)]) (st := []) (c := 13) (by decide +kernel) (zcl_X12_no (by decide) (by decide)) ⟨zw_1677, zw_1679, zw_59⟩ ⟨⟨_, _, rfl⟩, by decide⟩ rfl rfl (Nat.le_of_ble_eq_true rfl) h (fun _ _ e => zc_X12_no e) (fun M64 v64 _ h => ?_)
            exact zend_j h hR (by decide +kernel)
        · refine zV_b (pc' := 44) (lv' := [(5, .inl v9), (0, .inr (.inr l0)), (1, .inl l1), (2, .inl l2), (3, .inr (.inl l3))]) (st' := [.inl v9, .inr (.inr l0)]) [(.aload_n 0, 1), (.iload 5, 2)] (by decide +kernel) rfl ?_
          refine zV_cvj (As := [.inl v9]) (st := []) (c := 13) (by decide +kernel) (zcl_X12_no (by decide) (by decide)) ⟨zw_1677, zw_1679, zw_59⟩ ⟨⟨_, _, rfl⟩, by decide⟩ rfl rfl (Nat.le_of_ble_eq_true rfl) h (fun _ _ e => zc_X12_no e) (fun M66 v66 _ h => ?_)
          exact zend_j h hR (by decide +kernel)
theorem zc_X12_bottle {M M' : Zm} {l0 : Option Nat} {l1 : Int32} {l2 : Int32} {l3 : Int64} {x : Int64} (h : zf_X12_bottle M l0 l1 l2 l3 = some (M', x)) (l : Launch) (D : va_G) (cy : Nat → ClassId) : zMet l yX12_bottle zC_X12_bottle (some .long) D cy [.inr (.inr l0), .inl l1, .inl l2, .inr (.inl l3)] M M' (some (.inr (.inl x))) :=
  zM_j (by decide) rfl (fun h => by cases h) (Nat.le_of_ble_eq_true rfl) (fun X hR => zt_X12_bottle h hR)
-- BlendCellarModel.bottling(II)J
def zC_X12_bottling : Zc := (cX12_bottling, 3, RX12, 0, 0, false)
theorem zcl_X12_bottling {C : Zc} (h1 : zC_X12_bottling.2.2.2.1 + 1 ≤ C.2.2.2.1) (h2 : 8 + (zC_X12_bottling.2.1 + 11) + zC_X12_bottling.2.2.2.2.1 ≤ C.2.2.2.2.1) : zCl C yX12_bottling zC_X12_bottling (some .long) 2 := ⟨zw_2001, zw_114, ⟨by decide, by decide⟩, by decide +kernel, h1, h2⟩
noncomputable def zf_X12_bottling_J21 (M : Zm)  : Option (Zm × Int64) :=
  some (M, (-1 : Int64))
noncomputable def zf_X12_bottling (M : Zm) (l0 : Option Nat) (l1 : Int32) (l2 : Int32) : Option (Zm × Int64) :=
  (if l1 < 0 then
  zf_X12_bottling_J21 M
  else
  zb1 (zo_gi M l0 13 21) (fun v5 =>
  (if v5 ≤ l1 then
  zf_X12_bottling_J21 M
  else
  (if l2 < 0 then
  zf_X12_bottling_J21 M
  else
  (if l2 ≤ (3 : Int32) then
  zb1 (zo_gr M l0 13 22) (fun v9 =>
  zb1 (zo_aj M v9 (((4 : Int32) * l1) + l2)) (fun v10 =>
  some (M, v10)))
  else
  zf_X12_bottling_J21 M)))))
set_option maxRecDepth 100000 in
theorem zt_X12_bottling_J21 {X : Zx} {M : Zm}  {z : Zm × Int64} (h : zf_X12_bottling_J21 M  = some z) (hR : zRj X zC_X12_bottling z.1 z.2) : zV X zC_X12_bottling M 21 [] [] := by
  unfold zf_X12_bottling_J21 at h
  refine zV_ldc2 (by decide +kernel) zw_1933 ?_
  refine zV_goto (off := 13) (tgt := 37) (by decide +kernel) (by decide) ?_
  exact zend_j h hR (by decide +kernel)
set_option maxRecDepth 100000 in
theorem zt_X12_bottling {X : Zx} {M : Zm} {l0 : Option Nat} {l1 : Int32} {l2 : Int32} {z : Zm × Int64} (h : zf_X12_bottling M l0 l1 l2 = some z) (hR : zRj X zC_X12_bottling z.1 z.2) : zV X zC_X12_bottling M 0 [(0, .inr (.inr l0)), (1, .inl l1), (2, .inl l2)] [] := by
  unfold zf_X12_bottling at h
  refine zV_b (pc' := 1) (lv' := [(0, .inr (.inr l0)), (1, .inl l1), (2, .inl l2)]) (st' := [.inl l1]) [(.iload_n 1, 1)] (by decide +kernel) rfl ?_
  refine zV_if_lt (off := 20) (tgt := 21) (by decide +kernel) (by decide) h (fun c1 h => ?_) (fun c1 h => ?_)
  · exact zV_lv (lv' := []) [] rfl (zt_X12_bottling_J21 h hR)
  · refine zV_b (pc' := 6) (lv' := [(0, .inr (.inr l0)), (1, .inl l1), (2, .inl l2)]) (st' := [.inr (.inr l0), .inl l1]) [(.iload_n 1, 1), (.aload_n 0, 1)] (by decide +kernel) rfl ?_
    refine zV_gi (by decide +kernel) zfl_RX12_214 (by decide) rfl (Or.inl rfl) h (fun v5 _ h => ?_)
    refine zV_icmp_ge (off := 12) (tgt := 21) (by decide +kernel) (by decide) h (fun c6 h => ?_) (fun c6 h => ?_)
    · exact zV_lv (lv' := []) [] rfl (zt_X12_bottling_J21 h hR)
    · refine zV_b (pc' := 13) (lv' := [(0, .inr (.inr l0)), (1, .inl l1), (2, .inl l2)]) (st' := [.inl l2]) [(.iload_n 2, 1)] (by decide +kernel) rfl ?_
      refine zV_if_lt (off := 8) (tgt := 21) (by decide +kernel) (by decide) h (fun c7 h => ?_) (fun c7 h => ?_)
      · exact zV_lv (lv' := []) [] rfl (zt_X12_bottling_J21 h hR)
      · refine zV_b (pc' := 18) (lv' := [(0, .inr (.inr l0)), (1, .inl l1), (2, .inl l2)]) (st' := [.inl (3 : Int32), .inl l2]) [(.iload_n 2, 1), (.iconst 3, 1)] (by decide +kernel) rfl ?_
        refine zV_icmp_le (off := 9) (tgt := 27) (by decide +kernel) (by decide) h (fun c8 h => ?_) (fun c8 h => ?_)
        · refine zV_b (pc' := 28) (lv' := [(0, .inr (.inr l0)), (1, .inl l1), (2, .inl l2)]) (st' := [.inr (.inr l0)]) [(.aload_n 0, 1)] (by decide +kernel) rfl ?_
          refine zV_gr (by decide +kernel) zfl_RX12_60 (by decide) rfl h (fun v9 _ h => ?_)
          refine zV_b (pc' := 36) (lv' := [(0, .inr (.inr l0)), (1, .inl l1), (2, .inl l2)]) (st' := [.inl (((4 : Int32) * l1) + l2), .inr (.inr v9)]) [(.iconst 4, 1), (.iload_n 1, 1), (.imul, 1), (.iload_n 2, 1), (.iadd, 1)] (by decide +kernel) rfl ?_
          refine zV_aj (by decide +kernel) h (fun v10 _ h => ?_)
          exact zend_j h hR (by decide +kernel)
        · exact zV_lv (lv' := []) [] rfl (zt_X12_bottling_J21 h hR)
theorem zc_X12_bottling {M M' : Zm} {l0 : Option Nat} {l1 : Int32} {l2 : Int32} {x : Int64} (h : zf_X12_bottling M l0 l1 l2 = some (M', x)) (l : Launch) (D : va_G) (cy : Nat → ClassId) : zMet l yX12_bottling zC_X12_bottling (some .long) D cy [.inr (.inr l0), .inl l1, .inl l2] M M' (some (.inr (.inl x))) :=
  zM_j (by decide) rfl (fun h => by cases h) (Nat.le_of_ble_eq_true rfl) (fun X hR => zt_X12_bottling h hR)
-- BlendCellarModel.bottlings()I
def zC_X12_bottlings : Zc := (cX12_bottlings, 1, RX12, 0, 0, false)
theorem zcl_X12_bottlings {C : Zc} (h1 : zC_X12_bottlings.2.2.2.1 + 1 ≤ C.2.2.2.1) (h2 : 8 + (zC_X12_bottlings.2.1 + 11) + zC_X12_bottlings.2.2.2.2.1 ≤ C.2.2.2.2.1) : zCl C yX12_bottlings zC_X12_bottlings (some .int) 0 := ⟨zw_1997, zw_114, ⟨by decide, by decide⟩, by decide +kernel, h1, h2⟩
noncomputable def zf_X12_bottlings (M : Zm) (l0 : Option Nat) : Option (Zm × Int32) :=
  zb1 (zo_gi M l0 13 21) (fun v1 =>
  some (M, v1))
set_option maxRecDepth 100000 in
theorem zt_X12_bottlings {X : Zx} {M : Zm} {l0 : Option Nat} {z : Zm × Int32} (h : zf_X12_bottlings M l0 = some z) (hR : zRi X zC_X12_bottlings z.1 z.2) : zV X zC_X12_bottlings M 0 [(0, .inr (.inr l0))] [] := by
  unfold zf_X12_bottlings at h
  refine zV_b (pc' := 1) (lv' := [(0, .inr (.inr l0))]) (st' := [.inr (.inr l0)]) [(.aload_n 0, 1)] (by decide +kernel) rfl ?_
  refine zV_gi (by decide +kernel) zfl_RX12_214 (by decide) rfl (Or.inl rfl) h (fun v1 _ h => ?_)
  exact zend_i h hR (by decide +kernel)
theorem zc_X12_bottlings {M M' : Zm} {l0 : Option Nat} {x : Int32} (h : zf_X12_bottlings M l0 = some (M', x)) (l : Launch) (D : va_G) (cy : Nat → ClassId) : zMet l yX12_bottlings zC_X12_bottlings (some .int) D cy [.inr (.inr l0)] M M' (some (.inl x)) :=
  zM_i (by decide) rfl (fun h => by cases h) (Nat.le_of_ble_eq_true rfl) (fun X hR => zt_X12_bottlings h hR)
-- BlendCellarModel.rateOf(I)J
def zC_X12_rateOf : Zc := (cX12_rateOf, 2, RX12, 0, 0, false)
theorem zcl_X12_rateOf {C : Zc} (h1 : zC_X12_rateOf.2.2.2.1 + 1 ≤ C.2.2.2.1) (h2 : 8 + (zC_X12_rateOf.2.1 + 11) + zC_X12_rateOf.2.2.2.2.1 ≤ C.2.2.2.2.1) : zCl C yX12_rateOf zC_X12_rateOf (some .long) 1 := ⟨zw_1854, zw_114, ⟨by decide, by decide⟩, by decide +kernel, h1, h2⟩
noncomputable def zf_X12_rateOf (M : Zm) (l0 : Option Nat) (l1 : Int32) : Option (Zm × Int64) :=
  zb1 (zo_gr M l0 13 2) (fun v1 =>
  zb1 (zo_ai M v1 l1) (fun v2 =>
  (if v2 = (1 : Int32) then
  some (M, (20 : Int64))
  else
  zb1 (zo_gr M l0 13 2) (fun v7 =>
  zb1 (zo_ai M v7 l1) (fun v8 =>
  (if v8 = (2 : Int32) then
  some (M, (35 : Int64))
  else
  zb1 (zo_gr M l0 13 2) (fun v13 =>
  zb1 (zo_ai M v13 l1) (fun v14 =>
  (if v14 = (4 : Int32) then
  some (M, (1 : Int64))
  else
  some (M, (0 : Int64)))))))))))
set_option maxRecDepth 100000 in
theorem zt_X12_rateOf {X : Zx} {M : Zm} {l0 : Option Nat} {l1 : Int32} {z : Zm × Int64} (h : zf_X12_rateOf M l0 l1 = some z) (hR : zRj X zC_X12_rateOf z.1 z.2) : zV X zC_X12_rateOf M 0 [(0, .inr (.inr l0)), (1, .inl l1)] [] := by
  unfold zf_X12_rateOf at h
  refine zV_b (pc' := 1) (lv' := [(0, .inr (.inr l0)), (1, .inl l1)]) (st' := [.inr (.inr l0)]) [(.aload_n 0, 1)] (by decide +kernel) rfl ?_
  refine zV_gr (by decide +kernel) zfl_RX12_9 (by decide) rfl h (fun v1 _ h => ?_)
  refine zV_b (pc' := 5) (lv' := [(0, .inr (.inr l0)), (1, .inl l1)]) (st' := [.inl l1, .inr (.inr v1)]) [(.iload_n 1, 1)] (by decide +kernel) rfl ?_
  refine zV_ai (by decide +kernel) h (fun v2 _ h => ?_)
  refine zV_b (pc' := 7) (lv' := [(0, .inr (.inr l0)), (1, .inl l1)]) (st' := [.inl (1 : Int32), .inl v2]) [(.iconst 1, 1)] (by decide +kernel) rfl ?_
  refine zV_icmp_ne (off := 9) (tgt := 16) (by decide +kernel) (by decide) h (fun c3 h => ?_) (fun c3 h => ?_)
  · refine zV_ldc2 (by decide +kernel) zw_1855 ?_
    refine zV_goto (off := 34) (tgt := 47) (by decide +kernel) (by decide) ?_
    exact zend_j h hR (by decide +kernel)
  · refine zV_b (pc' := 17) (lv' := [(0, .inr (.inr l0)), (1, .inl l1)]) (st' := [.inr (.inr l0)]) [(.aload_n 0, 1)] (by decide +kernel) rfl ?_
    refine zV_gr (by decide +kernel) zfl_RX12_9 (by decide) rfl h (fun v7 _ h => ?_)
    refine zV_b (pc' := 21) (lv' := [(0, .inr (.inr l0)), (1, .inl l1)]) (st' := [.inl l1, .inr (.inr v7)]) [(.iload_n 1, 1)] (by decide +kernel) rfl ?_
    refine zV_ai (by decide +kernel) h (fun v8 _ h => ?_)
    refine zV_b (pc' := 23) (lv' := [(0, .inr (.inr l0)), (1, .inl l1)]) (st' := [.inl (2 : Int32), .inl v8]) [(.iconst 2, 1)] (by decide +kernel) rfl ?_
    refine zV_icmp_ne (off := 9) (tgt := 32) (by decide +kernel) (by decide) h (fun c9 h => ?_) (fun c9 h => ?_)
    · refine zV_ldc2 (by decide +kernel) zw_1856 ?_
      refine zV_goto (off := 18) (tgt := 47) (by decide +kernel) (by decide) ?_
      exact zend_j h hR (by decide +kernel)
    · refine zV_b (pc' := 33) (lv' := [(0, .inr (.inr l0)), (1, .inl l1)]) (st' := [.inr (.inr l0)]) [(.aload_n 0, 1)] (by decide +kernel) rfl ?_
      refine zV_gr (by decide +kernel) zfl_RX12_9 (by decide) rfl h (fun v13 _ h => ?_)
      refine zV_b (pc' := 37) (lv' := [(0, .inr (.inr l0)), (1, .inl l1)]) (st' := [.inl l1, .inr (.inr v13)]) [(.iload_n 1, 1)] (by decide +kernel) rfl ?_
      refine zV_ai (by decide +kernel) h (fun v14 _ h => ?_)
      refine zV_b (pc' := 39) (lv' := [(0, .inr (.inr l0)), (1, .inl l1)]) (st' := [.inl (4 : Int32), .inl v14]) [(.iconst 4, 1)] (by decide +kernel) rfl ?_
      refine zV_icmp_ne (off := 7) (tgt := 46) (by decide +kernel) (by decide) h (fun c15 h => ?_) (fun c15 h => ?_)
      · refine zV_b (pc' := 43) (lv' := [(0, .inr (.inr l0)), (1, .inl l1)]) (st' := [.inr (.inl (1 : Int64))]) [(.lconst 1, 1)] (by decide +kernel) rfl ?_
        refine zV_goto (off := 4) (tgt := 47) (by decide +kernel) (by decide) ?_
        exact zend_j h hR (by decide +kernel)
      · refine zV_b (pc' := 47) (lv' := [(0, .inr (.inr l0)), (1, .inl l1)]) (st' := [.inr (.inl (0 : Int64))]) [(.lconst 0, 1)] (by decide +kernel) rfl ?_
        exact zend_j h hR (by decide +kernel)
theorem zc_X12_rateOf {M M' : Zm} {l0 : Option Nat} {l1 : Int32} {x : Int64} (h : zf_X12_rateOf M l0 l1 = some (M', x)) (l : Launch) (D : va_G) (cy : Nat → ClassId) : zMet l yX12_rateOf zC_X12_rateOf (some .long) D cy [.inr (.inr l0), .inl l1] M M' (some (.inr (.inl x))) :=
  zM_j (by decide) rfl (fun h => by cases h) (Nat.le_of_ble_eq_true rfl) (fun X hR => zt_X12_rateOf h hR)
-- BlendCellarModel.tellRate(I)V
def zC_X12_tellRate : Zc := (cX12_tellRate, 2, RX12, 1, 21, false)
theorem zcl_X12_tellRate {C : Zc} (h1 : zC_X12_tellRate.2.2.2.1 + 1 ≤ C.2.2.2.1) (h2 : 8 + (zC_X12_tellRate.2.1 + 11) + zC_X12_tellRate.2.2.2.2.1 ≤ C.2.2.2.2.1) : zCl C yX12_tellRate zC_X12_tellRate none 1 := ⟨zw_1850, zw_114, ⟨by decide, by decide⟩, by decide +kernel, h1, h2⟩
noncomputable def zf_X12_tellRate (M : Zm) (l0 : Option Nat) (l1 : Int32) : Option (Zm × Unit) :=
  zb1 (zo_gr M l0 13 2) (fun v1 =>
  zb1 (zo_ai M v1 l1) (fun v2 =>
  (if v2 = (1 : Int32) then
  zb1 (zo_rc M l0 13) (fun _ => zbd (zf_X12_ran M l0 (10 : Int32)) (fun M4 _ =>
  some (M4, ())))
  else
  zb1 (zo_gr M l0 13 2) (fun v7 =>
  zb1 (zo_ai M v7 l1) (fun v8 =>
  (if v8 = (2 : Int32) then
  zb1 (zo_rc M l0 13) (fun _ => zbd (zf_X12_ran M l0 (11 : Int32)) (fun M10 _ =>
  zb1 (zo_rc M10 l0 13) (fun _ => zbd (zf_X12_ran M10 l0 (10 : Int32)) (fun M11 _ =>
  some (M11, ())))))
  else
  zb1 (zo_gr M l0 13 2) (fun v14 =>
  zb1 (zo_ai M v14 l1) (fun v15 =>
  (if v15 = (4 : Int32) then
  zb1 (zo_rc M l0 13) (fun _ => zbd (zf_X12_ran M l0 (12 : Int32)) (fun M17 _ =>
  some (M17, ())))
  else
  zb1 (zo_rc M l0 13) (fun _ => zbd (zf_X12_ran M l0 (9 : Int32)) (fun M20 _ =>
  some (M20, ()))))))))))))
set_option maxRecDepth 100000 in
theorem zt_X12_tellRate {X : Zx} {M : Zm} {l0 : Option Nat} {l1 : Int32} {z : Zm × Unit} (h : zf_X12_tellRate M l0 l1 = some z) (hR : zRv X zC_X12_tellRate z.1) : zV X zC_X12_tellRate M 0 [(0, .inr (.inr l0)), (1, .inl l1)] [] := by
  unfold zf_X12_tellRate at h
  refine zV_b (pc' := 1) (lv' := [(0, .inr (.inr l0)), (1, .inl l1)]) (st' := [.inr (.inr l0)]) [(.aload_n 0, 1)] (by decide +kernel) rfl ?_
  refine zV_gr (by decide +kernel) zfl_RX12_9 (by decide) rfl h (fun v1 _ h => ?_)
  refine zV_b (pc' := 5) (lv' := [(0, .inr (.inr l0)), (1, .inl l1)]) (st' := [.inl l1, .inr (.inr v1)]) [(.iload_n 1, 1)] (by decide +kernel) rfl ?_
  refine zV_ai (by decide +kernel) h (fun v2 _ h => ?_)
  refine zV_b (pc' := 7) (lv' := [(0, .inr (.inr l0)), (1, .inl l1)]) (st' := [.inl (1 : Int32), .inl v2]) [(.iconst 1, 1)] (by decide +kernel) rfl ?_
  refine zV_icmp_ne (off := 12) (tgt := 19) (by decide +kernel) (by decide) h (fun c3 h => ?_) (fun c3 h => ?_)
  · refine zV_b (pc' := 13) (lv' := [(0, .inr (.inr l0)), (1, .inl l1)]) (st' := [.inl (10 : Int32), .inr (.inr l0)]) [(.aload_n 0, 1), (.bipush 10, 2)] (by decide +kernel) rfl ?_
    refine zV_cvv (As := [.inl (10 : Int32)]) (st := []) (c := 13) (by decide +kernel) (zcl_X12_ran (by decide) (by decide)) ⟨zw_1751, zw_1753, zw_69⟩ ⟨⟨_, _, rfl⟩, by decide⟩ rfl rfl (Nat.le_of_ble_eq_true rfl) h (fun _ _ e => zc_X12_ran e) (fun M4 _ _ h => ?_)
    refine zV_goto (off := 53) (tgt := 69) (by decide +kernel) (by decide) ?_
    exact zend_v h hR (by decide +kernel)
  · refine zV_b (pc' := 20) (lv' := [(0, .inr (.inr l0)), (1, .inl l1)]) (st' := [.inr (.inr l0)]) [(.aload_n 0, 1)] (by decide +kernel) rfl ?_
    refine zV_gr (by decide +kernel) zfl_RX12_9 (by decide) rfl h (fun v7 _ h => ?_)
    refine zV_b (pc' := 24) (lv' := [(0, .inr (.inr l0)), (1, .inl l1)]) (st' := [.inl l1, .inr (.inr v7)]) [(.iload_n 1, 1)] (by decide +kernel) rfl ?_
    refine zV_ai (by decide +kernel) h (fun v8 _ h => ?_)
    refine zV_b (pc' := 26) (lv' := [(0, .inr (.inr l0)), (1, .inl l1)]) (st' := [.inl (2 : Int32), .inl v8]) [(.iconst 2, 1)] (by decide +kernel) rfl ?_
    refine zV_icmp_ne (off := 18) (tgt := 44) (by decide +kernel) (by decide) h (fun c9 h => ?_) (fun c9 h => ?_)
    · refine zV_b (pc' := 32) (lv' := [(0, .inr (.inr l0)), (1, .inl l1)]) (st' := [.inl (11 : Int32), .inr (.inr l0)]) [(.aload_n 0, 1), (.bipush 11, 2)] (by decide +kernel) rfl ?_
      refine zV_cvv (As := [.inl (11 : Int32)]) (st := []) (c := 13) (by decide +kernel) (zcl_X12_ran (by decide) (by decide)) ⟨zw_1751, zw_1753, zw_69⟩ ⟨⟨_, _, rfl⟩, by decide⟩ rfl rfl (Nat.le_of_ble_eq_true rfl) h (fun _ _ e => zc_X12_ran e) (fun M10 _ _ h => ?_)
      refine zV_b (pc' := 38) (lv' := [(0, .inr (.inr l0)), (1, .inl l1)]) (st' := [.inl (10 : Int32), .inr (.inr l0)]) [(.aload_n 0, 1), (.bipush 10, 2)] (by decide +kernel) rfl ?_
      refine zV_cvv (As := [.inl (10 : Int32)]) (st := []) (c := 13) (by decide +kernel) (zcl_X12_ran (by decide) (by decide)) ⟨zw_1751, zw_1753, zw_69⟩ ⟨⟨_, _, rfl⟩, by decide⟩ rfl rfl (Nat.le_of_ble_eq_true rfl) h (fun _ _ e => zc_X12_ran e) (fun M11 _ _ h => ?_)
      refine zV_goto (off := 28) (tgt := 69) (by decide +kernel) (by decide) ?_
      exact zend_v h hR (by decide +kernel)
    · refine zV_b (pc' := 45) (lv' := [(0, .inr (.inr l0)), (1, .inl l1)]) (st' := [.inr (.inr l0)]) [(.aload_n 0, 1)] (by decide +kernel) rfl ?_
      refine zV_gr (by decide +kernel) zfl_RX12_9 (by decide) rfl h (fun v14 _ h => ?_)
      refine zV_b (pc' := 49) (lv' := [(0, .inr (.inr l0)), (1, .inl l1)]) (st' := [.inl l1, .inr (.inr v14)]) [(.iload_n 1, 1)] (by decide +kernel) rfl ?_
      refine zV_ai (by decide +kernel) h (fun v15 _ h => ?_)
      refine zV_b (pc' := 51) (lv' := [(0, .inr (.inr l0)), (1, .inl l1)]) (st' := [.inl (4 : Int32), .inl v15]) [(.iconst 4, 1)] (by decide +kernel) rfl ?_
      refine zV_icmp_ne (off := 12) (tgt := 63) (by decide +kernel) (by decide) h (fun c16 h => ?_) (fun c16 h => ?_)
      · refine zV_b (pc' := 57) (lv' := [(0, .inr (.inr l0)), (1, .inl l1)]) (st' := [.inl (12 : Int32), .inr (.inr l0)]) [(.aload_n 0, 1), (.bipush 12, 2)] (by decide +kernel) rfl ?_
        refine zV_cvv (As := [.inl (12 : Int32)]) (st := []) (c := 13) (by decide +kernel) (zcl_X12_ran (by decide) (by decide)) ⟨zw_1751, zw_1753, zw_69⟩ ⟨⟨_, _, rfl⟩, by decide⟩ rfl rfl (Nat.le_of_ble_eq_true rfl) h (fun _ _ e => zc_X12_ran e) (fun M17 _ _ h => ?_)
        refine zV_goto (off := 9) (tgt := 69) (by decide +kernel) (by decide) ?_
        exact zend_v h hR (by decide +kernel)
      · refine zV_b (pc' := 66) (lv' := [(0, .inr (.inr l0)), (1, .inl l1)]) (st' := [.inl (9 : Int32), .inr (.inr l0)]) [(.aload_n 0, 1), (.bipush 9, 2)] (by decide +kernel) rfl ?_
        refine zV_cvv (As := [.inl (9 : Int32)]) (st := []) (c := 13) (by decide +kernel) (zcl_X12_ran (by decide) (by decide)) ⟨zw_1751, zw_1753, zw_69⟩ ⟨⟨_, _, rfl⟩, by decide⟩ rfl rfl (Nat.le_of_ble_eq_true rfl) h (fun _ _ e => zc_X12_ran e) (fun M20 _ _ h => ?_)
        exact zend_v h hR (by decide +kernel)
theorem zc_X12_tellRate {M M' : Zm} {l0 : Option Nat} {l1 : Int32} {x : Unit} (h : zf_X12_tellRate M l0 l1 = some (M', x)) (l : Launch) (D : va_G) (cy : Nat → ClassId) : zMet l yX12_tellRate zC_X12_tellRate none D cy [.inr (.inr l0), .inl l1] M M' none :=
  zM_v (by decide) rfl (fun h => by cases h) (Nat.le_of_ble_eq_true rfl) (fun X hR => zt_X12_tellRate h hR)
-- BlendCellarModel.breathe(I)J
def zC_X12_breathe : Zc := (cX12_breathe, 8, RX12, 3, 81, false)
theorem zcl_X12_breathe {C : Zc} (h1 : zC_X12_breathe.2.2.2.1 + 1 ≤ C.2.2.2.1) (h2 : 8 + (zC_X12_breathe.2.1 + 11) + zC_X12_breathe.2.2.2.2.1 ≤ C.2.2.2.2.1) : zCl C yX12_breathe zC_X12_breathe (some .long) 1 := ⟨zw_1846, zw_114, ⟨by decide, by decide⟩, by decide +kernel, h1, h2⟩
noncomputable def zf_X12_breathe_J15 (M : Zm) (l0 : Option Nat) : Option (Zm × Int64) :=
  zb1 (zo_rc M l0 13) (fun _ => zbd (zf_X12_no M l0 (1 : Int32)) (fun M3 v3 =>
  some (M3, v3)))
noncomputable def zf_X12_breathe_L27 (p0 : Option Nat) (p1 : Int32) (x : Zm × Int32) : Option ((Zm × Int32) ⊕ (Zm × Int32)) := match x with
  | (M, l2) =>
  zb1 (zo_gi M p0 13 1) (fun v7 =>
  (if v7 ≤ l2 then
  some (.inr (M, l2))
  else
  zb1 (zo_rc M p0 13) (fun _ => zbd (zf_X12_tellRate M p0 l2) (fun M9 _ =>
  some (.inl (M9, (l2 + 1)))))))
def zP_X12_breathe_L27 (X : Zx) (p0 : Option Nat) (p1 : Int32) (x : Zm × Int32) : Prop := match x with
  | (M, l2) => zV X zC_X12_breathe M 27 [(0, .inr (.inr p0)), (1, .inl p1), (2, .inl l2)] []
def zK_X12_breathe_L27 (X : Zx) (p0 : Option Nat) (p1 : Int32) (y : Zm × Int32) : Prop := match y with
  | (M, l2) => zV X zC_X12_breathe M 46 [(0, .inr (.inr p0)), (1, .inl p1)] []
noncomputable def zf_X12_breathe_J132 (M : Zm) (p0 : Option Nat) (p1 : Int32) (l2 : Int64) (l4 : Int32) : Option ((Zm × Int64 × Int32) ⊕ (Zm × Int64 × Int32)) :=
  some (.inl (M, l2, (l4 + 1)))
noncomputable def zf_X12_breathe_J126 (M : Zm) (p0 : Option Nat) (p1 : Int32) (l2 : Int64) (p4 : Int32) (l5 : Int32) : Option ((Zm × Int64 × Int32) ⊕ (Zm × Int64 × Int32)) :=
  some (.inl (M, l2, (l5 + 1)))
noncomputable def zf_X12_breathe_L77 (p0 : Option Nat) (p1 : Int32) (p4 : Int32) (x : Zm × Int64 × Int32) : Option ((Zm × Int64 × Int32) ⊕ (Zm × Int64 × Int32)) := match x with
  | (M, l2, l5) =>
  (if p1 ≤ l5 then
  some (.inr (M, l2, l5))
  else
  zb1 (zo_rc M p0 13) (fun _ => zbd (zf_X12_inVessel M p0 p4) (fun M20 v20 =>
  zb1 (zo_rc M20 p0 13) (fun _ => zbd (zf_X12_rateOf M20 p0 p4) (fun M21 v21 =>
  zb1 (zo_ld (v20 * v21) (10000 : Int64)) (fun v23 =>
  (if v23 = (0 : Int64) then
  zf_X12_breathe_J126 M21 p0 p1 l2 p4 l5
  else
  zb1 (zo_rc M21 p0 13) (fun _ => zbd (zf_X12_take M21 p0 p4 v23 (1 : Int32)) (fun M27 _ =>
  zf_X12_breathe_J126 M27 p0 p1 (l2 + v23) p4 l5)))))))))
def zP_X12_breathe_L77 (X : Zx) (p0 : Option Nat) (p1 : Int32) (p4 : Int32) (x : Zm × Int64 × Int32) : Prop := match x with
  | (M, l2, l5) => zV X zC_X12_breathe M 77 [(0, .inr (.inr p0)), (1, .inl p1), (2, .inr (.inl l2)), (4, .inl p4), (5, .inl l5)] []
def zK_X12_breathe_L77 (X : Zx) (p0 : Option Nat) (p1 : Int32) (p4 : Int32) (y : Zm × Int64 × Int32) : Prop := match y with
  | (M, l2, l5) => zV X zC_X12_breathe M 132 [(0, .inr (.inr p0)), (1, .inl p1), (2, .inr (.inl l2)), (4, .inl p4)] []
noncomputable def zf_X12_breathe_L51 (p0 : Option Nat) (p1 : Int32) (x : Zm × Int64 × Int32) : Option ((Zm × Int64 × Int32) ⊕ (Zm × Int64 × Int32)) := match x with
  | (M, l2, l4) =>
  zb1 (zo_gi M p0 13 1) (fun v12 =>
  (if v12 ≤ l4 then
  some (.inr (M, l2, l4))
  else
  zb1 (zo_gr M p0 13 2) (fun v14 =>
  zb1 (zo_ai M v14 l4) (fun v15 =>
  (if v15 = (5 : Int32) then
  zf_X12_breathe_J132 M p0 p1 l2 l4
  else
  zb1 (zwhile (zf_X12_breathe_L77 p0 p1 l4) (M, l2, (0 : Int32))) (fun y28 => match y28 with
  | (M77_28, l2_28, l5_28) =>
  zf_X12_breathe_J132 M77_28 p0 p1 l2_28 l4))))))
def zP_X12_breathe_L51 (X : Zx) (p0 : Option Nat) (p1 : Int32) (x : Zm × Int64 × Int32) : Prop := match x with
  | (M, l2, l4) => zV X zC_X12_breathe M 51 [(0, .inr (.inr p0)), (1, .inl p1), (2, .inr (.inl l2)), (4, .inl l4)] []
def zK_X12_breathe_L51 (X : Zx) (p0 : Option Nat) (p1 : Int32) (y : Zm × Int64 × Int32) : Prop := match y with
  | (M, l2, l4) => zV X zC_X12_breathe M 138 [(0, .inr (.inr p0)), (1, .inl p1), (2, .inr (.inl l2))] []
noncomputable def zf_X12_breathe (M : Zm) (l0 : Option Nat) (l1 : Int32) : Option (Zm × Int64) :=
  zb1 (zo_rc M l0 13) (fun _ => zbd (zf_X12_begin M l0) (fun M1 _ =>
  (if l1 < (1 : Int32) then
  zf_X12_breathe_J15 M1 l0
  else
  (if l1 ≤ (12 : Int32) then
  zb1 (zo_rc M1 l0 13) (fun _ => zbd (zf_X12_keep M1 l0) (fun M6 _ =>
  zb1 (zwhile (zf_X12_breathe_L27 l0 l1) (M6, (0 : Int32))) (fun y11 => match y11 with
  | (M27_11, l2_11) =>
  zb1 (zwhile (zf_X12_breathe_L51 l0 l1) (M27_11, (0 : Int64), (0 : Int32))) (fun y29 => match y29 with
  | (M51_29, l2_29, l4_29) =>
  zb1 (zo_gi M51_29 l0 13 18) (fun v30 =>
  zb1 (zo_pi M51_29 l0 13 18 (v30 + l1)) (fun M31 =>
  zb1 (zo_rc M31 l0 13) (fun _ => zbd (zf_X12_enter M31 l0 (5 : Int32) (-1 : Int32) (-1 : Int32) l2_29) (fun M32 _ =>
  some (M32, l2_29)))))))))
  else
  zf_X12_breathe_J15 M1 l0))))
set_option maxRecDepth 100000 in
theorem zt_X12_breathe_J15 {X : Zx} {M : Zm} {l0 : Option Nat} {z : Zm × Int64} (h : zf_X12_breathe_J15 M l0 = some z) (hR : zRj X zC_X12_breathe z.1 z.2) : zV X zC_X12_breathe M 15 [(0, .inr (.inr l0))] [] := by
  unfold zf_X12_breathe_J15 at h
  refine zV_b (pc' := 17) (lv' := [(0, .inr (.inr l0))]) (st' := [.inl (1 : Int32), .inr (.inr l0)]) [(.aload_n 0, 1), (.iconst 1, 1)] (by decide +kernel) rfl ?_
  refine zV_cvj (As := [.inl (1 : Int32)]) (st := []) (c := 13) (by decide +kernel) (zcl_X12_no (by decide) (by decide)) ⟨zw_1677, zw_1679, zw_59⟩ ⟨⟨_, _, rfl⟩, by decide⟩ rfl rfl (Nat.le_of_ble_eq_true rfl) h (fun _ _ e => zc_X12_no e) (fun M3 v3 _ h => ?_)
  exact zend_j h hR (by decide +kernel)
set_option maxRecDepth 100000 in
theorem zt_X12_breathe_L27 {X : Zx} {p0 : Option Nat} {p1 : Int32} {x : Zm × Int32} {y : Zm × Int32} (h : zwhile (zf_X12_breathe_L27 p0 p1) x = some y) (hy : zK_X12_breathe_L27 X p0 p1 y) : zP_X12_breathe_L27 X p0 p1 x := by
  refine zwhile_ind (P := zP_X12_breathe_L27 X p0 p1) (K := zK_X12_breathe_L27 X p0 p1) ?_ h hy
  intro x z hf k1 k2
  obtain ⟨M, l2⟩ := x
  have h : zf_X12_breathe_L27 p0 p1 (M, l2) = some z := hf
  unfold zf_X12_breathe_L27 at h
  show zV X zC_X12_breathe M 27 [(0, .inr (.inr p0)), (1, .inl p1), (2, .inl l2)] []
  refine zV_b (pc' := 29) (lv' := [(0, .inr (.inr p0)), (1, .inl p1), (2, .inl l2)]) (st' := [.inr (.inr p0), .inl l2]) [(.iload_n 2, 1), (.aload_n 0, 1)] (by decide +kernel) rfl ?_
  refine zV_gi (by decide +kernel) zfl_RX12_181 (by decide) rfl (Or.inl rfl) h (fun v7 _ h => ?_)
  refine zV_icmp_ge (off := 14) (tgt := 46) (by decide +kernel) (by decide) h (fun c8 h => ?_) (fun c8 h => ?_)
  · exact zV_lv (lv' := [(0, .inr (.inr p0)), (1, .inl p1)]) [0, 1] rfl (k2 _ (Option.some.inj h).symm)
  · refine zV_b (pc' := 37) (lv' := [(0, .inr (.inr p0)), (1, .inl p1), (2, .inl l2)]) (st' := [.inl l2, .inr (.inr p0)]) [(.aload_n 0, 1), (.iload_n 2, 1)] (by decide +kernel) rfl ?_
    refine zV_cvv (As := [.inl l2]) (st := []) (c := 13) (by decide +kernel) (zcl_X12_tellRate (by decide) (by decide)) ⟨zw_1847, zw_1849, zw_86⟩ ⟨⟨_, _, rfl⟩, by decide⟩ rfl rfl (Nat.le_of_ble_eq_true rfl) h (fun _ _ e => zc_X12_tellRate e) (fun M9 _ _ h => ?_)
    refine zV_b (pc' := 43) (lv' := [(2, .inl (l2 + 1)), (0, .inr (.inr p0)), (1, .inl p1)]) (st' := []) [(.iinc 2 1, 3)] (by decide +kernel) rfl ?_
    refine zV_goto (off := (-16)) (tgt := 27) (by decide +kernel) (by decide) ?_
    exact zV_lv (lv' := [(0, .inr (.inr p0)), (1, .inl p1), (2, .inl (l2 + 1))]) [1, 2, 0] rfl (k1 _ (Option.some.inj h).symm)
set_option maxRecDepth 100000 in
theorem zt_X12_breathe_J132 {X : Zx} {M : Zm} {p0 : Option Nat} {p1 : Int32} {l2 : Int64} {l4 : Int32} {z : (Zm × Int64 × Int32) ⊕ (Zm × Int64 × Int32)} (h : zf_X12_breathe_J132 M p0 p1 l2 l4 = some z) (k1 : ∀ x' : Zm × Int64 × Int32, z = .inl x' → zP_X12_breathe_L51 X p0 p1 x') (k2 : ∀ y : Zm × Int64 × Int32, z = .inr y → zK_X12_breathe_L51 X p0 p1 y) : zV X zC_X12_breathe M 132 [(0, .inr (.inr p0)), (1, .inl p1), (2, .inr (.inl l2)), (4, .inl l4)] [] := by
  unfold zf_X12_breathe_J132 at h
  refine zV_b (pc' := 135) (lv' := [(4, .inl (l4 + 1)), (0, .inr (.inr p0)), (1, .inl p1), (2, .inr (.inl l2))]) (st' := []) [(.iinc 4 1, 3)] (by decide +kernel) rfl ?_
  refine zV_goto (off := (-84)) (tgt := 51) (by decide +kernel) (by decide) ?_
  exact zV_lv (lv' := [(0, .inr (.inr p0)), (1, .inl p1), (2, .inr (.inl l2)), (4, .inl (l4 + 1))]) [1, 2, 3, 0] rfl (k1 _ (Option.some.inj h).symm)
set_option maxRecDepth 100000 in
theorem zt_X12_breathe_J126 {X : Zx} {M : Zm} {p0 : Option Nat} {p1 : Int32} {l2 : Int64} {p4 : Int32} {l5 : Int32} {z : (Zm × Int64 × Int32) ⊕ (Zm × Int64 × Int32)} (h : zf_X12_breathe_J126 M p0 p1 l2 p4 l5 = some z) (k1 : ∀ x' : Zm × Int64 × Int32, z = .inl x' → zP_X12_breathe_L77 X p0 p1 p4 x') (k2 : ∀ y : Zm × Int64 × Int32, z = .inr y → zK_X12_breathe_L77 X p0 p1 p4 y) : zV X zC_X12_breathe M 126 [(0, .inr (.inr p0)), (1, .inl p1), (2, .inr (.inl l2)), (4, .inl p4), (5, .inl l5)] [] := by
  unfold zf_X12_breathe_J126 at h
  refine zV_b (pc' := 129) (lv' := [(5, .inl (l5 + 1)), (0, .inr (.inr p0)), (1, .inl p1), (2, .inr (.inl l2)), (4, .inl p4)]) (st' := []) [(.iinc 5 1, 3)] (by decide +kernel) rfl ?_
  refine zV_goto (off := (-52)) (tgt := 77) (by decide +kernel) (by decide) ?_
  exact zV_lv (lv' := [(0, .inr (.inr p0)), (1, .inl p1), (2, .inr (.inl l2)), (4, .inl p4), (5, .inl (l5 + 1))]) [1, 2, 3, 4, 0] rfl (k1 _ (Option.some.inj h).symm)
set_option maxRecDepth 100000 in
theorem zt_X12_breathe_L77 {X : Zx} {p0 : Option Nat} {p1 : Int32} {p4 : Int32} {x : Zm × Int64 × Int32} {y : Zm × Int64 × Int32} (h : zwhile (zf_X12_breathe_L77 p0 p1 p4) x = some y) (hy : zK_X12_breathe_L77 X p0 p1 p4 y) : zP_X12_breathe_L77 X p0 p1 p4 x := by
  refine zwhile_ind (P := zP_X12_breathe_L77 X p0 p1 p4) (K := zK_X12_breathe_L77 X p0 p1 p4) ?_ h hy
  intro x z hf k1 k2
  obtain ⟨M, l2, l5⟩ := x
  have h : zf_X12_breathe_L77 p0 p1 p4 (M, l2, l5) = some z := hf
  unfold zf_X12_breathe_L77 at h
  show zV X zC_X12_breathe M 77 [(0, .inr (.inr p0)), (1, .inl p1), (2, .inr (.inl l2)), (4, .inl p4), (5, .inl l5)] []
  refine zV_b (pc' := 80) (lv' := [(0, .inr (.inr p0)), (1, .inl p1), (2, .inr (.inl l2)), (4, .inl p4), (5, .inl l5)]) (st' := [.inl p1, .inl l5]) [(.iload 5, 2), (.iload_n 1, 1)] (by decide +kernel) rfl ?_
  refine zV_icmp_ge (off := 52) (tgt := 132) (by decide +kernel) (by decide) h (fun c19 h => ?_) (fun c19 h => ?_)
  · exact zV_lv (lv' := [(0, .inr (.inr p0)), (1, .inl p1), (2, .inr (.inl l2)), (4, .inl p4)]) [0, 1, 2, 3] rfl (k2 _ (Option.some.inj h).symm)
  · refine zV_b (pc' := 86) (lv' := [(0, .inr (.inr p0)), (1, .inl p1), (2, .inr (.inl l2)), (4, .inl p4), (5, .inl l5)]) (st' := [.inl p4, .inr (.inr p0)]) [(.aload_n 0, 1), (.iload 4, 2)] (by decide +kernel) rfl ?_
    refine zV_cvj (As := [.inl p4]) (st := []) (c := 13) (by decide +kernel) (zcl_X12_inVessel (by decide) (by decide)) ⟨zw_1759, zw_1761, zw_70⟩ ⟨⟨_, _, rfl⟩, by decide⟩ rfl rfl (Nat.le_of_ble_eq_true rfl) h (fun _ _ e => zc_X12_inVessel e) (fun M20 v20 _ h => ?_)
    refine zV_b (pc' := 92) (lv' := [(0, .inr (.inr p0)), (1, .inl p1), (2, .inr (.inl l2)), (4, .inl p4), (5, .inl l5)]) (st' := [.inl p4, .inr (.inr p0), .inr (.inl v20)]) [(.aload_n 0, 1), (.iload 4, 2)] (by decide +kernel) rfl ?_
    refine zV_cvj (As := [.inl p4]) (st := [.inr (.inl v20)]) (c := 13) (by decide +kernel) (zcl_X12_rateOf (by decide) (by decide)) ⟨zw_1851, zw_1853, zw_87⟩ ⟨⟨_, _, rfl⟩, by decide⟩ rfl rfl (Nat.le_of_ble_eq_true rfl) h (fun _ _ e => zc_X12_rateOf e) (fun M21 v21 _ h => ?_)
    refine zV_b (pc' := 96) (lv' := [(0, .inr (.inr p0)), (1, .inl p1), (2, .inr (.inl l2)), (4, .inl p4), (5, .inl l5)]) (st' := [.inr (.inl (v20 * v21))]) [(.lmul, 1)] (by decide +kernel) rfl ?_
    refine zV_ldc2 (by decide +kernel) zw_1857 ?_
    refine zV_ld (by decide +kernel) h (fun v23 _ h => ?_)
    refine zV_b (pc' := 105) (lv' := [(6, .inr (.inl v23)), (0, .inr (.inr p0)), (1, .inl p1), (2, .inr (.inl l2)), (4, .inl p4), (5, .inl l5)]) (st' := [.inr (.inl (0 : Int64)), .inr (.inl v23)]) [(.lstore 6, 2), (.lload 6, 2), (.lconst 0, 1)] (by decide +kernel) rfl ?_
    refine zV_lcmp_ne (off := 6) (tgt := 112) (by decide +kernel) (by decide +kernel) (by decide) h (fun c24 h => ?_) (fun c24 h => ?_)
    · refine zV_goto (off := 17) (tgt := 126) (by decide +kernel) (by decide) ?_
      exact zV_lv (lv' := [(0, .inr (.inr p0)), (1, .inl p1), (2, .inr (.inl l2)), (4, .inl p4), (5, .inl l5)]) [1, 2, 3, 4, 5] rfl (zt_X12_breathe_J126 h k1 k2)
    · refine zV_b (pc' := 118) (lv' := [(6, .inr (.inl v23)), (0, .inr (.inr p0)), (1, .inl p1), (2, .inr (.inl l2)), (4, .inl p4), (5, .inl l5)]) (st' := [.inl (1 : Int32), .inr (.inl v23), .inl p4, .inr (.inr p0)]) [(.aload_n 0, 1), (.iload 4, 2), (.lload 6, 2), (.iconst 1, 1)] (by decide +kernel) rfl ?_
      refine zV_cvv (As := [.inl p4, .inr (.inl v23), .inl (1 : Int32)]) (st := []) (c := 13) (by decide +kernel) (zcl_X12_take (by decide) (by decide)) ⟨zw_1815, zw_1817, zw_83⟩ ⟨⟨_, _, rfl⟩, by decide⟩ rfl rfl (Nat.le_of_ble_eq_true rfl) h (fun _ _ e => zc_X12_take e) (fun M27 _ _ h => ?_)
      refine zV_b (pc' := 126) (lv' := [(2, .inr (.inl (l2 + v23))), (6, .inr (.inl v23)), (0, .inr (.inr p0)), (1, .inl p1), (4, .inl p4), (5, .inl l5)]) (st' := []) [(.lload_n 2, 1), (.lload 6, 2), (.ladd, 1), (.lstore_n 2, 1)] (by decide +kernel) rfl ?_
      exact zV_lv (lv' := [(0, .inr (.inr p0)), (1, .inl p1), (2, .inr (.inl (l2 + v23))), (4, .inl p4), (5, .inl l5)]) [2, 3, 0, 4, 5] rfl (zt_X12_breathe_J126 h k1 k2)
set_option maxRecDepth 100000 in
theorem zt_X12_breathe_L51 {X : Zx} {p0 : Option Nat} {p1 : Int32} {x : Zm × Int64 × Int32} {y : Zm × Int64 × Int32} (h : zwhile (zf_X12_breathe_L51 p0 p1) x = some y) (hy : zK_X12_breathe_L51 X p0 p1 y) : zP_X12_breathe_L51 X p0 p1 x := by
  refine zwhile_ind (P := zP_X12_breathe_L51 X p0 p1) (K := zK_X12_breathe_L51 X p0 p1) ?_ h hy
  intro x z hf k1 k2
  obtain ⟨M, l2, l4⟩ := x
  have h : zf_X12_breathe_L51 p0 p1 (M, l2, l4) = some z := hf
  unfold zf_X12_breathe_L51 at h
  show zV X zC_X12_breathe M 51 [(0, .inr (.inr p0)), (1, .inl p1), (2, .inr (.inl l2)), (4, .inl l4)] []
  refine zV_b (pc' := 54) (lv' := [(0, .inr (.inr p0)), (1, .inl p1), (2, .inr (.inl l2)), (4, .inl l4)]) (st' := [.inr (.inr p0), .inl l4]) [(.iload 4, 2), (.aload_n 0, 1)] (by decide +kernel) rfl ?_
  refine zV_gi (by decide +kernel) zfl_RX12_181 (by decide) rfl (Or.inl rfl) h (fun v12 _ h => ?_)
  refine zV_icmp_ge (off := 81) (tgt := 138) (by decide +kernel) (by decide) h (fun c13 h => ?_) (fun c13 h => ?_)
  · exact zV_lv (lv' := [(0, .inr (.inr p0)), (1, .inl p1), (2, .inr (.inl l2))]) [0, 1, 2] rfl (k2 _ (Option.some.inj h).symm)
  · refine zV_b (pc' := 61) (lv' := [(0, .inr (.inr p0)), (1, .inl p1), (2, .inr (.inl l2)), (4, .inl l4)]) (st' := [.inr (.inr p0)]) [(.aload_n 0, 1)] (by decide +kernel) rfl ?_
    refine zV_gr (by decide +kernel) zfl_RX12_9 (by decide) rfl h (fun v14 _ h => ?_)
    refine zV_b (pc' := 66) (lv' := [(0, .inr (.inr p0)), (1, .inl p1), (2, .inr (.inl l2)), (4, .inl l4)]) (st' := [.inl l4, .inr (.inr v14)]) [(.iload 4, 2)] (by decide +kernel) rfl ?_
    refine zV_ai (by decide +kernel) h (fun v15 _ h => ?_)
    refine zV_b (pc' := 68) (lv' := [(0, .inr (.inr p0)), (1, .inl p1), (2, .inr (.inl l2)), (4, .inl l4)]) (st' := [.inl (5 : Int32), .inl v15]) [(.iconst 5, 1)] (by decide +kernel) rfl ?_
    refine zV_icmp_ne (off := 6) (tgt := 74) (by decide +kernel) (by decide) h (fun c16 h => ?_) (fun c16 h => ?_)
    · refine zV_goto (off := 61) (tgt := 132) (by decide +kernel) (by decide) ?_
      exact zV_lv (lv' := [(0, .inr (.inr p0)), (1, .inl p1), (2, .inr (.inl l2)), (4, .inl l4)]) [0, 1, 2, 3] rfl (zt_X12_breathe_J132 h k1 k2)
    · refine zV_b (pc' := 77) (lv' := [(5, .inl (0 : Int32)), (0, .inr (.inr p0)), (1, .inl p1), (2, .inr (.inl l2)), (4, .inl l4)]) (st' := []) [(.iconst 0, 1), (.istore 5, 2)] (by decide +kernel) rfl ?_
      obtain ⟨y28, e28, h⟩ := zb1_inv h
      refine zV_lv (lv' := [(0, .inr (.inr p0)), (1, .inl p1), (2, .inr (.inl l2)), (4, .inl l4), (5, .inl (0 : Int32))]) [1, 2, 3, 4, 0] rfl (zt_X12_breathe_L77 e28 ?_)
      obtain ⟨M77_28, l2_28, l5_28⟩ := y28
      show zV X zC_X12_breathe M77_28 132 [(0, .inr (.inr p0)), (1, .inl p1), (2, .inr (.inl l2_28)), (4, .inl l4)] []
      exact zV_lv (lv' := [(0, .inr (.inr p0)), (1, .inl p1), (2, .inr (.inl l2_28)), (4, .inl l4)]) [0, 1, 2, 3] rfl (zt_X12_breathe_J132 h k1 k2)
set_option maxRecDepth 100000 in
theorem zt_X12_breathe {X : Zx} {M : Zm} {l0 : Option Nat} {l1 : Int32} {z : Zm × Int64} (h : zf_X12_breathe M l0 l1 = some z) (hR : zRj X zC_X12_breathe z.1 z.2) : zV X zC_X12_breathe M 0 [(0, .inr (.inr l0)), (1, .inl l1)] [] := by
  unfold zf_X12_breathe at h
  refine zV_b (pc' := 1) (lv' := [(0, .inr (.inr l0)), (1, .inl l1)]) (st' := [.inr (.inr l0)]) [(.aload_n 0, 1)] (by decide +kernel) rfl ?_
  refine zV_cvv (As := []) (st := []) (c := 13) (by decide +kernel) (zcl_X12_begin (by decide) (by decide)) ⟨zw_1673, zw_1675, zw_58⟩ ⟨⟨_, _, rfl⟩, by decide⟩ rfl rfl (Nat.le_of_ble_eq_true rfl) h (fun _ _ e => zc_X12_begin e) (fun M1 _ _ h => ?_)
  refine zV_b (pc' := 6) (lv' := [(0, .inr (.inr l0)), (1, .inl l1)]) (st' := [.inl (1 : Int32), .inl l1]) [(.iload_n 1, 1), (.iconst 1, 1)] (by decide +kernel) rfl ?_
  refine zV_icmp_lt (off := 9) (tgt := 15) (by decide +kernel) (by decide) h (fun c2 h => ?_) (fun c2 h => ?_)
  · exact zV_lv (lv' := [(0, .inr (.inr l0))]) [0] rfl (zt_X12_breathe_J15 h hR)
  · refine zV_b (pc' := 12) (lv' := [(0, .inr (.inr l0)), (1, .inl l1)]) (st' := [.inl (12 : Int32), .inl l1]) [(.iload_n 1, 1), (.bipush 12, 2)] (by decide +kernel) rfl ?_
    refine zV_icmp_le (off := 9) (tgt := 21) (by decide +kernel) (by decide) h (fun c5 h => ?_) (fun c5 h => ?_)
    · refine zV_b (pc' := 22) (lv' := [(0, .inr (.inr l0)), (1, .inl l1)]) (st' := [.inr (.inr l0)]) [(.aload_n 0, 1)] (by decide +kernel) rfl ?_
      refine zV_cvv (As := []) (st := []) (c := 13) (by decide +kernel) (zcl_X12_keep (by decide) (by decide)) ⟨zw_1681, zw_1683, zw_60⟩ ⟨⟨_, _, rfl⟩, by decide⟩ rfl rfl (Nat.le_of_ble_eq_true rfl) h (fun _ _ e => zc_X12_keep e) (fun M6 _ _ h => ?_)
      refine zV_b (pc' := 27) (lv' := [(2, .inl (0 : Int32)), (0, .inr (.inr l0)), (1, .inl l1)]) (st' := []) [(.iconst 0, 1), (.istore_n 2, 1)] (by decide +kernel) rfl ?_
      obtain ⟨y11, e11, h⟩ := zb1_inv h
      refine zV_lv (lv' := [(0, .inr (.inr l0)), (1, .inl l1), (2, .inl (0 : Int32))]) [1, 2, 0] rfl (zt_X12_breathe_L27 e11 ?_)
      obtain ⟨M27_11, l2_11⟩ := y11
      show zV X zC_X12_breathe M27_11 46 [(0, .inr (.inr l0)), (1, .inl l1)] []
      refine zV_b (pc' := 51) (lv' := [(4, .inl (0 : Int32)), (2, .inr (.inl (0 : Int64))), (0, .inr (.inr l0)), (1, .inl l1)]) (st' := []) [(.lconst 0, 1), (.lstore_n 2, 1), (.iconst 0, 1), (.istore 4, 2)] (by decide +kernel) rfl ?_
      obtain ⟨y29, e29, h⟩ := zb1_inv h
      refine zV_lv (lv' := [(0, .inr (.inr l0)), (1, .inl l1), (2, .inr (.inl (0 : Int64))), (4, .inl (0 : Int32))]) [2, 3, 1, 0] rfl (zt_X12_breathe_L51 e29 ?_)
      obtain ⟨M51_29, l2_29, l4_29⟩ := y29
      show zV X zC_X12_breathe M51_29 138 [(0, .inr (.inr l0)), (1, .inl l1), (2, .inr (.inl l2_29))] []
      refine zV_b (pc' := 140) (lv' := [(0, .inr (.inr l0)), (1, .inl l1), (2, .inr (.inl l2_29))]) (st' := [.inr (.inr l0), .inr (.inr l0)]) [(.aload_n 0, 1), (.aload_n 0, 1)] (by decide +kernel) rfl ?_
      refine zV_gi (by decide +kernel) zfl_RX12_205 (by decide) rfl (Or.inl rfl) h (fun v30 _ h => ?_)
      refine zV_b (pc' := 145) (lv' := [(0, .inr (.inr l0)), (1, .inl l1), (2, .inr (.inl l2_29))]) (st' := [.inl (v30 + l1), .inr (.inr l0)]) [(.iload_n 1, 1), (.iadd, 1)] (by decide +kernel) rfl ?_
      refine zV_pi (by decide +kernel) zfp_RX12_205 (by decide) rfl h (fun M31 _ h => ?_)
      refine zV_b (pc' := 153) (lv' := [(0, .inr (.inr l0)), (1, .inl l1), (2, .inr (.inl l2_29))]) (st' := [.inr (.inl l2_29), .inl (-1 : Int32), .inl (-1 : Int32), .inl (5 : Int32), .inr (.inr l0)]) [(.aload_n 0, 1), (.iconst 5, 1), (.iconst (-1), 1), (.iconst (-1), 1), (.lload_n 2, 1)] (by decide +kernel) rfl ?_
      refine zV_cvv (As := [.inl (5 : Int32), .inl (-1 : Int32), .inl (-1 : Int32), .inr (.inl l2_29)]) (st := []) (c := 13) (by decide +kernel) (zcl_X12_enter (by decide) (by decide)) ⟨zw_1787, zw_1789, zw_77⟩ ⟨⟨_, _, rfl⟩, by decide⟩ rfl rfl (Nat.le_of_ble_eq_true rfl) h (fun _ _ e => zc_X12_enter e) (fun M32 _ _ h => ?_)
      refine zV_b (pc' := 157) (lv' := [(0, .inr (.inr l0)), (1, .inl l1), (2, .inr (.inl l2_29))]) (st' := [.inr (.inl l2_29)]) [(.lload_n 2, 1)] (by decide +kernel) rfl ?_
      exact zend_j h hR (by decide +kernel)
    · exact zV_lv (lv' := [(0, .inr (.inr l0))]) [0] rfl (zt_X12_breathe_J15 h hR)
theorem zc_X12_breathe {M M' : Zm} {l0 : Option Nat} {l1 : Int32} {x : Int64} (h : zf_X12_breathe M l0 l1 = some (M', x)) (l : Launch) (D : va_G) (cy : Nat → ClassId) : zMet l yX12_breathe zC_X12_breathe (some .long) D cy [.inr (.inr l0), .inl l1] M M' (some (.inr (.inl x))) :=
  zM_j (by decide) rfl (fun h => by cases h) (Nat.le_of_ble_eq_true rfl) (fun X hR => zt_X12_breathe h hR)
-- BlendCellarModel.closed()I
def zC_X12_closed : Zc := (cX12_closed, 1, RX12, 0, 0, false)
theorem zcl_X12_closed {C : Zc} (h1 : zC_X12_closed.2.2.2.1 + 1 ≤ C.2.2.2.1) (h2 : 8 + (zC_X12_closed.2.1 + 11) + zC_X12_closed.2.2.2.2.1 ≤ C.2.2.2.2.1) : zCl C yX12_closed zC_X12_closed (some .int) 0 := ⟨zw_2017, zw_114, ⟨by decide, by decide⟩, by decide +kernel, h1, h2⟩
noncomputable def zf_X12_closed (M : Zm) (l0 : Option Nat) : Option (Zm × Int32) :=
  some (M, (1 : Int32))
set_option maxRecDepth 100000 in
theorem zt_X12_closed {X : Zx} {M : Zm} {l0 : Option Nat} {z : Zm × Int32} (h : zf_X12_closed M l0 = some z) (hR : zRi X zC_X12_closed z.1 z.2) : zV X zC_X12_closed M 0 [(0, .inr (.inr l0))] [] := by
  unfold zf_X12_closed at h
  refine zV_b (pc' := 1) (lv' := [(0, .inr (.inr l0))]) (st' := [.inl (1 : Int32)]) [(.iconst 1, 1)] (by decide +kernel) rfl ?_
  exact zend_i h hR (by decide +kernel)
theorem zc_X12_closed {M M' : Zm} {l0 : Option Nat} {x : Int32} (h : zf_X12_closed M l0 = some (M', x)) (l : Launch) (D : va_G) (cy : Nat → ClassId) : zMet l yX12_closed zC_X12_closed (some .int) D cy [.inr (.inr l0)] M M' (some (.inl x)) :=
  zM_i (by decide) rfl (fun h => by cases h) (Nat.le_of_ble_eq_true rfl) (fun X hR => zt_X12_closed h hR)
-- BlendCellarModel.dear(IJ)J
def zC_X12_dear : Zc := (cX12_dear, 6, RX12, 1, 21, false)
theorem zcl_X12_dear {C : Zc} (h1 : zC_X12_dear.2.2.2.1 + 1 ≤ C.2.2.2.1) (h2 : 8 + (zC_X12_dear.2.1 + 11) + zC_X12_dear.2.2.2.2.1 ≤ C.2.2.2.2.1) : zCl C yX12_dear zC_X12_dear (some .long) 2 := ⟨zw_1931, zw_114, ⟨by decide, by decide⟩, by decide +kernel, h1, h2⟩
noncomputable def zf_X12_dear_J44 (M : Zm) (l0 : Option Nat) (l1 : Int32) (l4 : Int64) (s0 : Int32) (s1 : Option Nat) : Option (Zm × Int64) :=
  zb1 (zo_rc M s1 13) (fun _ => zbd (zf_X12_ran M s1 s0) (fun M7 _ =>
  zb1 (zo_gr M7 l0 13 2) (fun v8 =>
  zb1 (zo_ai M7 v8 l1) (fun v9 =>
  (if v9 = (2 : Int32) then
  zb1 (zo_ld l4 (10 : Int64)) (fun v12 =>
  some (M7, (l4 + v12)))
  else
  zb1 (zo_gr M7 l0 13 2) (fun v15 =>
  zb1 (zo_ai M7 v15 l1) (fun v16 =>
  (if v16 = (5 : Int32) then
  some (M7, ((2 : Int64) * l4))
  else
  some (M7, l4)))))))))
noncomputable def zf_X12_dear (M : Zm) (l0 : Option Nat) (l1 : Int32) (l2 : Int64) : Option (Zm × Int64) :=
  zb1 (zo_gr M l0 13 4) (fun v1 =>
  zb1 (zo_ai M v1 l1) (fun v2 =>
  zb1 (zo_gr M l0 13 2) (fun v3 =>
  zb1 (zo_ai M v3 l1) (fun v4 =>
  (if v4 = (2 : Int32) then
  zf_X12_dear_J44 M l0 l1 ((v2.toInt64) * l2) (14 : Int32) l0
  else
  zb1 (zo_gr M l0 13 2) (fun v22 =>
  zb1 (zo_ai M v22 l1) (fun v23 =>
  (if v23 = (5 : Int32) then
  zf_X12_dear_J44 M l0 l1 ((v2.toInt64) * l2) (15 : Int32) l0
  else
  zf_X12_dear_J44 M l0 l1 ((v2.toInt64) * l2) (13 : Int32) l0))))))))
set_option maxRecDepth 100000 in
theorem zt_X12_dear_J44 {X : Zx} {M : Zm} {l0 : Option Nat} {l1 : Int32} {l4 : Int64} {s0 : Int32} {s1 : Option Nat} {z : Zm × Int64} (h : zf_X12_dear_J44 M l0 l1 l4 s0 s1 = some z) (hR : zRj X zC_X12_dear z.1 z.2) : zV X zC_X12_dear M 44 [(0, .inr (.inr l0)), (1, .inl l1), (4, .inr (.inl l4))] [.inl s0, .inr (.inr s1)] := by
  unfold zf_X12_dear_J44 at h
  refine zV_cvv (As := [.inl s0]) (st := []) (c := 13) (by decide +kernel) (zcl_X12_ran (by decide) (by decide)) ⟨zw_1751, zw_1753, zw_69⟩ ⟨⟨_, _, rfl⟩, by decide⟩ rfl rfl (Nat.le_of_ble_eq_true rfl) h (fun _ _ e => zc_X12_ran e) (fun M7 _ _ h => ?_)
  refine zV_b (pc' := 48) (lv' := [(0, .inr (.inr l0)), (1, .inl l1), (4, .inr (.inl l4))]) (st' := [.inr (.inr l0)]) [(.aload_n 0, 1)] (by decide +kernel) rfl ?_
  refine zV_gr (by decide +kernel) zfl_RX12_9 (by decide) rfl h (fun v8 _ h => ?_)
  refine zV_b (pc' := 52) (lv' := [(0, .inr (.inr l0)), (1, .inl l1), (4, .inr (.inl l4))]) (st' := [.inl l1, .inr (.inr v8)]) [(.iload_n 1, 1)] (by decide +kernel) rfl ?_
  refine zV_ai (by decide +kernel) h (fun v9 _ h => ?_)
  refine zV_b (pc' := 54) (lv' := [(0, .inr (.inr l0)), (1, .inl l1), (4, .inr (.inl l4))]) (st' := [.inl (2 : Int32), .inl v9]) [(.iconst 2, 1)] (by decide +kernel) rfl ?_
  refine zV_icmp_ne (off := 15) (tgt := 69) (by decide +kernel) (by decide) h (fun c10 h => ?_) (fun c10 h => ?_)
  · refine zV_b (pc' := 61) (lv' := [(0, .inr (.inr l0)), (1, .inl l1), (4, .inr (.inl l4))]) (st' := [.inr (.inl l4), .inr (.inl l4)]) [(.lload 4, 2), (.lload 4, 2)] (by decide +kernel) rfl ?_
    refine zV_ldc2 (by decide +kernel) zw_1755 ?_
    refine zV_ld (by decide +kernel) h (fun v12 _ h => ?_)
    refine zV_b (pc' := 66) (lv' := [(0, .inr (.inr l0)), (1, .inl l1), (4, .inr (.inl l4))]) (st' := [.inr (.inl (l4 + v12))]) [(.ladd, 1)] (by decide +kernel) rfl ?_
    refine zV_goto (off := 24) (tgt := 90) (by decide +kernel) (by decide) ?_
    exact zend_j h hR (by decide +kernel)
  · refine zV_b (pc' := 70) (lv' := [(0, .inr (.inr l0)), (1, .inl l1), (4, .inr (.inl l4))]) (st' := [.inr (.inr l0)]) [(.aload_n 0, 1)] (by decide +kernel) rfl ?_
    refine zV_gr (by decide +kernel) zfl_RX12_9 (by decide) rfl h (fun v15 _ h => ?_)
    refine zV_b (pc' := 74) (lv' := [(0, .inr (.inr l0)), (1, .inl l1), (4, .inr (.inl l4))]) (st' := [.inl l1, .inr (.inr v15)]) [(.iload_n 1, 1)] (by decide +kernel) rfl ?_
    refine zV_ai (by decide +kernel) h (fun v16 _ h => ?_)
    refine zV_b (pc' := 76) (lv' := [(0, .inr (.inr l0)), (1, .inl l1), (4, .inr (.inl l4))]) (st' := [.inl (5 : Int32), .inl v16]) [(.iconst 5, 1)] (by decide +kernel) rfl ?_
    refine zV_icmp_ne (off := 12) (tgt := 88) (by decide +kernel) (by decide) h (fun c17 h => ?_) (fun c17 h => ?_)
    · refine zV_ldc2 (by decide +kernel) zw_1932 ?_
      refine zV_b (pc' := 85) (lv' := [(0, .inr (.inr l0)), (1, .inl l1), (4, .inr (.inl l4))]) (st' := [.inr (.inl ((2 : Int64) * l4))]) [(.lload 4, 2), (.lmul, 1)] (by decide +kernel) rfl ?_
      refine zV_goto (off := 5) (tgt := 90) (by decide +kernel) (by decide) ?_
      exact zend_j h hR (by decide +kernel)
    · refine zV_b (pc' := 90) (lv' := [(0, .inr (.inr l0)), (1, .inl l1), (4, .inr (.inl l4))]) (st' := [.inr (.inl l4)]) [(.lload 4, 2)] (by decide +kernel) rfl ?_
      exact zend_j h hR (by decide +kernel)
set_option maxRecDepth 100000 in
theorem zt_X12_dear {X : Zx} {M : Zm} {l0 : Option Nat} {l1 : Int32} {l2 : Int64} {z : Zm × Int64} (h : zf_X12_dear M l0 l1 l2 = some z) (hR : zRj X zC_X12_dear z.1 z.2) : zV X zC_X12_dear M 0 [(0, .inr (.inr l0)), (1, .inl l1), (2, .inr (.inl l2))] [] := by
  unfold zf_X12_dear at h
  refine zV_b (pc' := 1) (lv' := [(0, .inr (.inr l0)), (1, .inl l1), (2, .inr (.inl l2))]) (st' := [.inr (.inr l0)]) [(.aload_n 0, 1)] (by decide +kernel) rfl ?_
  refine zV_gr (by decide +kernel) zfl_RX12_16 (by decide) rfl h (fun v1 _ h => ?_)
  refine zV_b (pc' := 5) (lv' := [(0, .inr (.inr l0)), (1, .inl l1), (2, .inr (.inl l2))]) (st' := [.inl l1, .inr (.inr v1)]) [(.iload_n 1, 1)] (by decide +kernel) rfl ?_
  refine zV_ai (by decide +kernel) h (fun v2 _ h => ?_)
  refine zV_b (pc' := 13) (lv' := [(4, .inr (.inl ((v2.toInt64) * l2))), (0, .inr (.inr l0)), (1, .inl l1), (2, .inr (.inl l2))]) (st' := [.inr (.inr l0), .inr (.inr l0)]) [(.i2l, 1), (.lload_n 2, 1), (.lmul, 1), (.lstore 4, 2), (.aload_n 0, 1), (.aload_n 0, 1)] (by decide +kernel) rfl ?_
  refine zV_gr (by decide +kernel) zfl_RX12_9 (by decide) rfl h (fun v3 _ h => ?_)
  refine zV_b (pc' := 17) (lv' := [(4, .inr (.inl ((v2.toInt64) * l2))), (0, .inr (.inr l0)), (1, .inl l1), (2, .inr (.inl l2))]) (st' := [.inl l1, .inr (.inr v3), .inr (.inr l0)]) [(.iload_n 1, 1)] (by decide +kernel) rfl ?_
  refine zV_ai (by decide +kernel) h (fun v4 _ h => ?_)
  refine zV_b (pc' := 19) (lv' := [(4, .inr (.inl ((v2.toInt64) * l2))), (0, .inr (.inr l0)), (1, .inl l1), (2, .inr (.inl l2))]) (st' := [.inl (2 : Int32), .inl v4, .inr (.inr l0)]) [(.iconst 2, 1)] (by decide +kernel) rfl ?_
  refine zV_icmp_ne (off := 8) (tgt := 27) (by decide +kernel) (by decide) h (fun c5 h => ?_) (fun c5 h => ?_)
  · refine zV_b (pc' := 24) (lv' := [(4, .inr (.inl ((v2.toInt64) * l2))), (0, .inr (.inr l0)), (1, .inl l1), (2, .inr (.inl l2))]) (st' := [.inl (14 : Int32), .inr (.inr l0)]) [(.bipush 14, 2)] (by decide +kernel) rfl ?_
    refine zV_goto (off := 20) (tgt := 44) (by decide +kernel) (by decide) ?_
    exact zV_lv (lv' := [(0, .inr (.inr l0)), (1, .inl l1), (4, .inr (.inl ((v2.toInt64) * l2)))]) [1, 2, 0] rfl (zt_X12_dear_J44 h hR)
  · refine zV_b (pc' := 28) (lv' := [(4, .inr (.inl ((v2.toInt64) * l2))), (0, .inr (.inr l0)), (1, .inl l1), (2, .inr (.inl l2))]) (st' := [.inr (.inr l0), .inr (.inr l0)]) [(.aload_n 0, 1)] (by decide +kernel) rfl ?_
    refine zV_gr (by decide +kernel) zfl_RX12_9 (by decide) rfl h (fun v22 _ h => ?_)
    refine zV_b (pc' := 32) (lv' := [(4, .inr (.inl ((v2.toInt64) * l2))), (0, .inr (.inr l0)), (1, .inl l1), (2, .inr (.inl l2))]) (st' := [.inl l1, .inr (.inr v22), .inr (.inr l0)]) [(.iload_n 1, 1)] (by decide +kernel) rfl ?_
    refine zV_ai (by decide +kernel) h (fun v23 _ h => ?_)
    refine zV_b (pc' := 34) (lv' := [(4, .inr (.inl ((v2.toInt64) * l2))), (0, .inr (.inr l0)), (1, .inl l1), (2, .inr (.inl l2))]) (st' := [.inl (5 : Int32), .inl v23, .inr (.inr l0)]) [(.iconst 5, 1)] (by decide +kernel) rfl ?_
    refine zV_icmp_ne (off := 8) (tgt := 42) (by decide +kernel) (by decide) h (fun c24 h => ?_) (fun c24 h => ?_)
    · refine zV_b (pc' := 39) (lv' := [(4, .inr (.inl ((v2.toInt64) * l2))), (0, .inr (.inr l0)), (1, .inl l1), (2, .inr (.inl l2))]) (st' := [.inl (15 : Int32), .inr (.inr l0)]) [(.bipush 15, 2)] (by decide +kernel) rfl ?_
      refine zV_goto (off := 5) (tgt := 44) (by decide +kernel) (by decide) ?_
      exact zV_lv (lv' := [(0, .inr (.inr l0)), (1, .inl l1), (4, .inr (.inl ((v2.toInt64) * l2)))]) [1, 2, 0] rfl (zt_X12_dear_J44 h hR)
    · refine zV_b (pc' := 44) (lv' := [(4, .inr (.inl ((v2.toInt64) * l2))), (0, .inr (.inr l0)), (1, .inl l1), (2, .inr (.inl l2))]) (st' := [.inl (13 : Int32), .inr (.inr l0)]) [(.bipush 13, 2)] (by decide +kernel) rfl ?_
      exact zV_lv (lv' := [(0, .inr (.inr l0)), (1, .inl l1), (4, .inr (.inl ((v2.toInt64) * l2)))]) [1, 2, 0] rfl (zt_X12_dear_J44 h hR)
theorem zc_X12_dear {M M' : Zm} {l0 : Option Nat} {l1 : Int32} {l2 : Int64} {x : Int64} (h : zf_X12_dear M l0 l1 l2 = some (M', x)) (l : Launch) (D : va_G) (cy : Nat → ClassId) : zMet l yX12_dear zC_X12_dear (some .long) D cy [.inr (.inr l0), .inl l1, .inr (.inl l2)] M M' (some (.inr (.inl x))) :=
  zM_j (by decide) rfl (fun h => by cases h) (Nat.le_of_ble_eq_true rfl) (fun X hR => zt_X12_dear h hR)
-- BlendCellarModel.parts(I)I
def zC_X12_parts : Zc := (cX12_parts, 2, RX12, 1, 21, false)
theorem zcl_X12_parts {C : Zc} (h1 : zC_X12_parts.2.2.2.1 + 1 ≤ C.2.2.2.1) (h2 : 8 + (zC_X12_parts.2.1 + 11) + zC_X12_parts.2.2.2.2.1 ≤ C.2.2.2.2.1) : zCl C yX12_parts zC_X12_parts (some .int) 1 := ⟨zw_1977, zw_114, ⟨by decide, by decide⟩, by decide +kernel, h1, h2⟩
noncomputable def zf_X12_parts (M : Zm) (l0 : Option Nat) (l1 : Int32) : Option (Zm × Int32) :=
  zb1 (zo_rc M l0 13) (fun _ => zbd (zf_X12_isBarrel M l0 l1) (fun M1 v1 =>
  (if v1 = 0 then
  some (M1, (0 : Int32))
  else
  zb1 (zo_gr M1 l0 13 2) (fun v4 =>
  zb1 (zo_ai M1 v4 l1) (fun v5 =>
  (if v5 = (5 : Int32) then
  zb1 (zo_gr M1 l0 13 6) (fun v7 =>
  zb1 (zo_ai M1 v7 l1) (fun v8 =>
  some (M1, v8)))
  else
  zb1 (zo_gr M1 l0 13 8) (fun v11 =>
  zb1 (zo_ai M1 v11 l1) (fun v12 =>
  some (M1, v12)))))))))
set_option maxRecDepth 100000 in
theorem zt_X12_parts {X : Zx} {M : Zm} {l0 : Option Nat} {l1 : Int32} {z : Zm × Int32} (h : zf_X12_parts M l0 l1 = some z) (hR : zRi X zC_X12_parts z.1 z.2) : zV X zC_X12_parts M 0 [(0, .inr (.inr l0)), (1, .inl l1)] [] := by
  unfold zf_X12_parts at h
  refine zV_b (pc' := 2) (lv' := [(0, .inr (.inr l0)), (1, .inl l1)]) (st' := [.inl l1, .inr (.inr l0)]) [(.aload_n 0, 1), (.iload_n 1, 1)] (by decide +kernel) rfl ?_
  refine zV_cvi (As := [.inl l1]) (st := []) (c := 13) (by decide +kernel) (zcl_X12_isBarrel (by decide) (by decide)) ⟨zw_1950, zw_1952, zw_98⟩ ⟨⟨_, _, rfl⟩, by decide⟩ rfl rfl (Nat.le_of_ble_eq_true rfl) h (fun _ _ e => zc_X12_isBarrel e) (fun M1 v1 _ h => ?_)
  refine zV_if_ne (off := 5) (tgt := 10) (by decide +kernel) (by decide) h (fun c2 h => ?_) (fun c2 h => ?_)
  · refine zV_b (pc' := 9) (lv' := [(0, .inr (.inr l0)), (1, .inl l1)]) (st' := [.inl (0 : Int32)]) [(.iconst 0, 1)] (by decide +kernel) rfl ?_
    exact zend_i h hR (by decide +kernel)
  · refine zV_b (pc' := 11) (lv' := [(0, .inr (.inr l0)), (1, .inl l1)]) (st' := [.inr (.inr l0)]) [(.aload_n 0, 1)] (by decide +kernel) rfl ?_
    refine zV_gr (by decide +kernel) zfl_RX12_9 (by decide) rfl h (fun v4 _ h => ?_)
    refine zV_b (pc' := 15) (lv' := [(0, .inr (.inr l0)), (1, .inl l1)]) (st' := [.inl l1, .inr (.inr v4)]) [(.iload_n 1, 1)] (by decide +kernel) rfl ?_
    refine zV_ai (by decide +kernel) h (fun v5 _ h => ?_)
    refine zV_b (pc' := 17) (lv' := [(0, .inr (.inr l0)), (1, .inl l1)]) (st' := [.inl (5 : Int32), .inl v5]) [(.iconst 5, 1)] (by decide +kernel) rfl ?_
    refine zV_icmp_ne (off := 12) (tgt := 29) (by decide +kernel) (by decide) h (fun c6 h => ?_) (fun c6 h => ?_)
    · refine zV_b (pc' := 21) (lv' := [(0, .inr (.inr l0)), (1, .inl l1)]) (st' := [.inr (.inr l0)]) [(.aload_n 0, 1)] (by decide +kernel) rfl ?_
      refine zV_gr (by decide +kernel) zfl_RX12_22 (by decide) rfl h (fun v7 _ h => ?_)
      refine zV_b (pc' := 25) (lv' := [(0, .inr (.inr l0)), (1, .inl l1)]) (st' := [.inl l1, .inr (.inr v7)]) [(.iload_n 1, 1)] (by decide +kernel) rfl ?_
      refine zV_ai (by decide +kernel) h (fun v8 _ h => ?_)
      refine zV_goto (off := 9) (tgt := 35) (by decide +kernel) (by decide) ?_
      exact zend_i h hR (by decide +kernel)
    · refine zV_b (pc' := 30) (lv' := [(0, .inr (.inr l0)), (1, .inl l1)]) (st' := [.inr (.inr l0)]) [(.aload_n 0, 1)] (by decide +kernel) rfl ?_
      refine zV_gr (by decide +kernel) zfl_RX12_28 (by decide) rfl h (fun v11 _ h => ?_)
      refine zV_b (pc' := 34) (lv' := [(0, .inr (.inr l0)), (1, .inl l1)]) (st' := [.inl l1, .inr (.inr v11)]) [(.iload_n 1, 1)] (by decide +kernel) rfl ?_
      refine zV_ai (by decide +kernel) h (fun v12 _ h => ?_)
      exact zend_i h hR (by decide +kernel)
theorem zc_X12_parts {M M' : Zm} {l0 : Option Nat} {l1 : Int32} {x : Int32} (h : zf_X12_parts M l0 l1 = some (M', x)) (l : Launch) (D : va_G) (cy : Nat → ClassId) : zMet l yX12_parts zC_X12_parts (some .int) D cy [.inr (.inr l0), .inl l1] M M' (some (.inl x)) :=
  zM_i (by decide) rfl (fun h => by cases h) (Nat.le_of_ble_eq_true rfl) (fun X hR => zt_X12_parts h hR)
