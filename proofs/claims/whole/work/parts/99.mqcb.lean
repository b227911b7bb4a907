/-! The reference over the value, 2. -/
noncomputable def mf_take_L20 (p1 : Int32) (p4 : Int32) (p6 : Int32) (x : Mq × Int32 × Int32) : Option ((Mq × Int32 × Int32) ⊕ (Mq × Int32 × Int32)) := match x with
  | (Q, l5, l7) =>
  (if p6 ≤ l7 then
  some (.inr (Q, l5, l7))
  else
  (if p4 < 0 then
  mf_take_J70 Q p1 p4 l5 p6 l7 (((60 : Int32) * p1) + l7) (((60 : Int32) * p1) + l5)
  else
  zb1 (mo_ai Q 9 (((60 : Int32) * p1) + l7)) (fun u1 =>
  zb1 (mo_aj Q 63 l7) (fun u2 =>
  mbd (mf_account Q u1 p4 u2) (fun Q3 _ =>
  mf_take_J70 Q3 p1 p4 l5 p6 l7 (((60 : Int32) * p1) + l7) (((60 : Int32) * p1) + l5))))))
theorem ms_take_L20 {X : Xq} (p1 : Int32) (p4 : Int32) (p6 : Int32) : ∀ (x : Zm × Int32 × Int32) (y : Mq × Int32 × Int32), mP X x y → zG (mU (mP X) (mP X)) (zf_X12_take_L20 (some X.2.2.1) p1 p4 p6 x) (mf_take_L20 p1 p4 p6 y) := by
  rintro ⟨M, l5', l7'⟩ ⟨Q, l5, l7⟩ ⟨h, e⟩
  dsimp only at h e
  cases e
  unfold zf_X12_take_L20 mf_take_L20
  dsimp only
  refine zG_ite ?_ ?_
  · exact zG_some (show mP X _ _ from ⟨h, rfl⟩)
  · refine zG_ite ?_ ?_
    · exact ms_take_J70 h _ _ _ _ _ _ _
    · refine zG_gr h (by decide) ?_
      refine zG_ai h rfl (fun u1 => ?_)
      refine zG_gr h (by decide) ?_
      refine zG_aj h rfl (fun u2 => ?_)
      refine zG_rc h ?_
      refine zG_bd (ms_account h _ _ _) (fun M5 Q3 _ h4 => ?_)
      exact ms_take_J70 h4 _ _ _ _ _ _ _
noncomputable def mf_take (Q : Mq) (l1 : Int32) (l2 : Int64) (l4 : Int32) : Option (Mq × Unit) :=
  mbd (mf_shares Q l1 l2) (fun Q1 _ =>
  zb1 (mo_ai Q1 8 l1) (fun u4 =>
  zb1 (zwhile (mf_take_L20 l1 l4 u4) (Q1, (0 : Int32), (0 : Int32))) (fun y13 => match y13 with
  | (Q5, u8, u9) =>
  zb1 (mo_si Q5 8 l1 u8) (fun Q10 =>
  some (Q10, ())))))
theorem ms_take {X : Xq} {M : Zm} {Q : Mq} (h : mR X M Q) (l1 : Int32) (l2 : Int64) (l4 : Int32) : zG (mP X) (zf_X12_take M (some X.2.2.1) l1 l2 l4) (mf_take Q l1 l2 l4) := by
  unfold zf_X12_take mf_take
  refine zG_rc h ?_
  refine zG_bd (ms_shares h _ _) (fun M3 Q1 _ h2 => ?_)
  refine zG_gr h2 (by decide) ?_
  refine zG_ai h2 rfl (fun u4 => ?_)
  refine zG_b1 (S := mP X) (zG_wh (R := mP X) (ms_take_L20 _ _ _) ⟨h2, rfl⟩) ?_
  rintro ⟨M7, u8', u9'⟩ ⟨Q5, u8, u9⟩ ⟨h6, eh6⟩
  dsimp only at h6 eh6
  cases eh6
  dsimp only
  refine zG_gr h6 (by decide) ?_
  refine zG_si h6 rfl (fun M12 Q10 h11 => ?_)
  exact zG_some ⟨h11, rfl⟩
noncomputable def mf_takeDraws_L2 (p1 : Int32) (x : Mq × Int32) : Option ((Mq × Int32) ⊕ (Mq × Int32)) := match x with
  | (Q, l2) =>
  (if (Q.1 60 0) ≤ l2 then
  some (.inr (Q, l2))
  else
  zb1 (mo_ai Q 61 l2) (fun u1 =>
  zb1 (mo_aj Q 62 l2) (fun u2 =>
  mbd (mf_take Q u1 u2 p1) (fun Q3 _ =>
  some (.inl (Q3, (l2 + 1)))))))
theorem ms_takeDraws_L2 {X : Xq} (p1 : Int32) : ∀ (x : Zm × Int32) (y : Mq × Int32), mP X x y → zG (mU (mP X) (mP X)) (zf_X12_takeDraws_L2 (some X.2.2.1) p1 x) (mf_takeDraws_L2 p1 y) := by
  rintro ⟨M, l2'⟩ ⟨Q, l2⟩ ⟨h, e⟩
  dsimp only at h e
  cases e
  unfold zf_X12_takeDraws_L2 mf_takeDraws_L2
  dsimp only
  refine zG_gi h rfl ?_
  refine zG_ite ?_ ?_
  · exact zG_some (show mP X _ _ from ⟨h, rfl⟩)
  · refine zG_gr h (by decide) ?_
    refine zG_ai h rfl (fun u1 => ?_)
    refine zG_gr h (by decide) ?_
    refine zG_aj h rfl (fun u2 => ?_)
    refine zG_rc h ?_
    refine zG_bd (ms_take h _ _ _) (fun M5 Q3 _ h4 => ?_)
    exact zG_some (show mP X _ _ from ⟨h4, rfl⟩)
noncomputable def mf_takeDraws (Q : Mq) (l1 : Int32) : Option (Mq × Unit) :=
  zb1 (zwhile (mf_takeDraws_L2 l1) (Q, (0 : Int32))) (fun y5 => match y5 with
  | (Q1, u4) =>
  some (Q1, ()))
theorem ms_takeDraws {X : Xq} {M : Zm} {Q : Mq} (h : mR X M Q) (l1 : Int32) : zG (mP X) (zf_X12_takeDraws M (some X.2.2.1) l1) (mf_takeDraws Q l1) := by
  unfold zf_X12_takeDraws mf_takeDraws
  refine zG_b1 (S := mP X) (zG_wh (R := mP X) (ms_takeDraws_L2 _) ⟨h, rfl⟩) ?_
  rintro ⟨M3, u4'⟩ ⟨Q1, u4⟩ ⟨h2, eh2⟩
  dsimp only at h2 eh2
  cases eh2
  dsimp only
  exact zG_some ⟨h2, rfl⟩
noncomputable def mf_blend_L76 (p1 : Int32) (x : Mq × Int64 × Int32) : Option ((Mq × Int64 × Int32) ⊕ ((Mq × Int64 × Int32) ⊕ (Mq × Int64))) := match x with
  | (Q, l3, l5) =>
  (if (Q.1 33 0) ≤ l5 then
  some (.inr (.inl (Q, l3, l5)))
  else
  zb1 (mo_ai Q 34 l5) (fun u1 =>
  mbd (mf_spare Q u1) (fun Q2 u5 =>
  zb1 (mo_aj Q2 35 l5) (fun u6 =>
  (if u6 ≤ u5 then
  zb1 (mo_aj Q2 35 l5) (fun u7 =>
  some (.inl (Q2, (l3 + u7), (l5 + 1))))
  else
  mbd (mf_no Q2 (10 : Int32)) (fun Q8 u11 =>
  some (.inr (.inr (Q8, u11)))))))))
theorem ms_blend_L76 {X : Xq} (p1 : Int32) : ∀ (x : Zm × Int64 × Int32) (y : Mq × Int64 × Int32), mP X x y → zG (mU (mP X) (mU (mP X) (mP X))) (zf_X12_blend_L76 (some X.2.2.1) p1 x) (mf_blend_L76 p1 y) := by
  rintro ⟨M, l3', l5'⟩ ⟨Q, l3, l5⟩ ⟨h, e⟩
  dsimp only at h e
  cases e
  unfold zf_X12_blend_L76 mf_blend_L76
  dsimp only
  refine zG_gi h rfl ?_
  refine zG_ite ?_ ?_
  · exact zG_some (show mP X _ _ from ⟨h, rfl⟩)
  · refine zG_gr h (by decide) ?_
    refine zG_ai h rfl (fun u1 => ?_)
    refine zG_rc h ?_
    refine zG_bd (ms_spare h _) (fun M4 Q2 u5 h3 => ?_)
    refine zG_gr h3 (by decide) ?_
    refine zG_aj h3 rfl (fun u6 => ?_)
    refine zG_ite ?_ ?_
    · refine zG_gr h3 (by decide) ?_
      refine zG_aj h3 rfl (fun u7 => ?_)
      exact zG_some (show mP X _ _ from ⟨h3, rfl⟩)
    · refine zG_rc h3 ?_
      refine zG_bd (ms_no h3 _) (fun M10 Q8 u11 h9 => ?_)
      exact zG_some (show mP X _ _ from ⟨h9, rfl⟩)
noncomputable def mf_blend_L169 (p1 : Int32) (p3 : Int64) (x : Mq × Int32) : Option ((Mq × Int32) ⊕ (Mq × Int32)) := match x with
  | (Q, l7) =>
  (if (Q.1 33 0) ≤ l7 then
  some (.inr (Q, l7))
  else
  zb1 (mo_ai Q 34 l7) (fun u1 =>
  zb1 (mo_aj Q 35 l7) (fun u2 =>
  mbd (mf_drawFrom Q u1 u2 (1 : Int32)) (fun Q3 _ =>
  some (.inl (Q3, (l7 + 1)))))))
theorem ms_blend_L169 {X : Xq} (p1 : Int32) (p3 : Int64) : ∀ (x : Zm × Int32) (y : Mq × Int32), mP X x y → zG (mU (mP X) (mP X)) (zf_X12_blend_L169 (some X.2.2.1) p1 p3 x) (mf_blend_L169 p1 p3 y) := by
  rintro ⟨M, l7'⟩ ⟨Q, l7⟩ ⟨h, e⟩
  dsimp only at h e
  cases e
  unfold zf_X12_blend_L169 mf_blend_L169
  dsimp only
  refine zG_gi h rfl ?_
  refine zG_ite ?_ ?_
  · exact zG_some (show mP X _ _ from ⟨h, rfl⟩)
  · refine zG_gr h (by decide) ?_
    refine zG_ai h rfl (fun u1 => ?_)
    refine zG_gr h (by decide) ?_
    refine zG_aj h rfl (fun u2 => ?_)
    refine zG_rc h ?_
    refine zG_bd (ms_drawFrom h _ _ _) (fun M5 Q3 _ h4 => ?_)
    exact zG_some (show mP X _ _ from ⟨h4, rfl⟩)
noncomputable def mf_blend_L235 (p1 : Int32) (p3 : Int64) (x : Mq × Int32) : Option ((Mq × Int32) ⊕ (Mq × Int32)) := match x with
  | (Q, l7) =>
  (if (Q.1 33 0) ≤ l7 then
  some (.inr (Q, l7))
  else
  zb1 (mo_ai Q 34 l7) (fun u1 =>
  zb1 (mo_aj Q 35 l7) (fun u2 =>
  mbd (mf_enter Q (4 : Int32) u1 p1 u2) (fun Q3 _ =>
  some (.inl (Q3, (l7 + 1)))))))
theorem ms_blend_L235 {X : Xq} (p1 : Int32) (p3 : Int64) : ∀ (x : Zm × Int32) (y : Mq × Int32), mP X x y → zG (mU (mP X) (mP X)) (zf_X12_blend_L235 (some X.2.2.1) p1 p3 x) (mf_blend_L235 p1 p3 y) := by
  rintro ⟨M, l7'⟩ ⟨Q, l7⟩ ⟨h, e⟩
  dsimp only at h e
  cases e
  unfold zf_X12_blend_L235 mf_blend_L235
  dsimp only
  refine zG_gi h rfl ?_
  refine zG_ite ?_ ?_
  · exact zG_some (show mP X _ _ from ⟨h, rfl⟩)
  · refine zG_gr h (by decide) ?_
    refine zG_ai h rfl (fun u1 => ?_)
    refine zG_gr h (by decide) ?_
    refine zG_aj h rfl (fun u2 => ?_)
    refine zG_rc h ?_
    refine zG_bd (ms_enter h _ _ _ _) (fun M5 Q3 _ h4 => ?_)
    exact zG_some (show mP X _ _ from ⟨h4, rfl⟩)
noncomputable def mf_blend_J64 (Q : Mq) : Option (Mq × Int64) :=
  mbd (mf_no Q (9 : Int32)) (fun Q1 u4 =>
  some (Q1, u4))
theorem ms_blend_J64 {X : Xq} {M : Zm} {Q : Mq} (h : mR X M Q)  : zG (mP X) (zf_X12_blend_J64 M (some X.2.2.1)) (mf_blend_J64 Q) := by
  unfold zf_X12_blend_J64 mf_blend_J64
  refine zG_rc h ?_
  refine zG_bd (ms_no h _) (fun M3 Q1 u4 h2 => ?_)
  exact zG_some ⟨h2, rfl⟩
noncomputable def mf_blend (Q : Mq) (l1 : Int32) : Option (Mq × Int64) :=
  mbd (mf_begin Q) (fun Q1 _ =>
  (if (Q1.1 33 0) = 0 then
  mbd (mf_no Q1 (10 : Int32)) (fun Q4 u7 =>
  some (Q4, u7))
  else
  mbd (mf_lookedVessel Q1 l1) (fun Q8 u11 =>
  (if u11 ≤ 0 then
  mbd (mf_isPicked Q8 l1) (fun Q12 u15 =>
  (if u15 = 0 then
  mbd (mf_isInCask Q12 l1) (fun Q16 u19 =>
  (if u19 = 0 then
  mbd (mf_isOneInCask Q16) (fun Q20 u23 =>
  (if u23 = 0 then
  zb1 (zwhile (mf_blend_L76 l1) (Q20, (0 : Int64), (0 : Int32))) (fun y74 => match y74 with
  | .inl (Q24, u27, u28) =>
  mbd (mf_most Q24 l1) (fun Q29 u32 =>
  mbd (mf_inVessel Q29 l1) (fun Q33 u36 =>
  (if (u36 + u27) ≤ u32 then
  zb1 (some (qi Q33 60 0 (0 : Int32))) (fun Q37 =>
  zb1 (zwhile (mf_blend_L169 l1 u27) (Q37, (0 : Int32))) (fun y69 => match y69 with
  | (Q40, u43) =>
  mbd (mf_mixInto Q40 l1) (fun Q44 u47 =>
  (if u47 = 0 then
  mbd (mf_no Q44 (12 : Int32)) (fun Q48 u51 =>
  some (Q48, u51))
  else
  mbd (mf_keep Q44) (fun Q52 _ =>
  mbd (mf_takeDraws Q52 (-1 : Int32)) (fun Q55 _ =>
  mbd (mf_become Q55 l1) (fun Q58 _ =>
  zb1 (zwhile (mf_blend_L235 l1 u27) (Q58, (0 : Int32))) (fun y68 => match y68 with
  | (Q61, u64) =>
  zb1 (some (qi Q61 33 0 (0 : Int32))) (fun Q65 =>
  some (Q65, u27))))))))))
  else
  mbd (mf_no Q33 (11 : Int32)) (fun Q70 u73 =>
  some (Q70, u73)))))
  | .inr q => some q)
  else
  mf_blend_J64 Q20))
  else
  mf_blend_J64 Q16))
  else
  mbd (mf_no Q12 (13 : Int32)) (fun Q75 u78 =>
  some (Q75, u78))))
  else
  mbd (mf_no Q8 u11) (fun Q79 u82 =>
  some (Q79, u82))))))
theorem ms_blend {X : Xq} {M : Zm} {Q : Mq} (h : mR X M Q) (l1 : Int32) : zG (mP X) (zf_X12_blend M (some X.2.2.1) l1) (mf_blend Q l1) := by
  unfold zf_X12_blend mf_blend
  refine zG_rc h ?_
  refine zG_bd (ms_begin h) (fun M3 Q1 _ h2 => ?_)
  refine zG_gi h2 rfl ?_
  refine zG_ite ?_ ?_
  · refine zG_rc h2 ?_
    refine zG_bd (ms_no h2 _) (fun M6 Q4 u7 h5 => ?_)
    exact zG_some ⟨h5, rfl⟩
  · refine zG_rc h2 ?_
    refine zG_bd (ms_lookedVessel h2 _) (fun M10 Q8 u11 h9 => ?_)
    refine zG_ite ?_ ?_
    · refine zG_rc h9 ?_
      refine zG_bd (ms_isPicked h9 _) (fun M14 Q12 u15 h13 => ?_)
      refine zG_ite ?_ ?_
      · refine zG_rc h13 ?_
        refine zG_bd (ms_isInCask h13 _) (fun M18 Q16 u19 h17 => ?_)
        refine zG_ite ?_ ?_
        · refine zG_rc h17 ?_
          refine zG_bd (ms_isOneInCask h17) (fun M22 Q20 u23 h21 => ?_)
          refine zG_ite ?_ ?_
          · refine zG_b1 (S := mU (mP X) (mP X)) (zG_wh (R := mP X) (ms_blend_L76 _) ⟨h21, rfl⟩) ?_
            rintro (⟨M26, u27', u28'⟩ | z1) (⟨Q24, u27, u28⟩ | z2) hz
            · obtain ⟨h25, eh25⟩ := (show mP X _ _ from hz)
              dsimp only at h25 eh25
              cases eh25
              dsimp only
              refine zG_rc h25 ?_
              refine zG_bd (ms_most h25 _) (fun M31 Q29 u32 h30 => ?_)
              refine zG_rc h30 ?_
              refine zG_bd (ms_inVessel h30 _) (fun M35 Q33 u36 h34 => ?_)
              refine zG_ite ?_ ?_
              · refine zG_pi h34 rfl (by decide) (fun M39 Q37 h38 => ?_)
                refine zG_b1 (S := mP X) (zG_wh (R := mP X) (ms_blend_L169 _ _) ⟨h38, rfl⟩) ?_
                rintro ⟨M42, u43'⟩ ⟨Q40, u43⟩ ⟨h41, eh41⟩
                dsimp only at h41 eh41
                cases eh41
                dsimp only
                refine zG_rc h41 ?_
                refine zG_bd (ms_mixInto h41 _) (fun M46 Q44 u47 h45 => ?_)
                refine zG_ite ?_ ?_
                · refine zG_rc h45 ?_
                  refine zG_bd (ms_no h45 _) (fun M50 Q48 u51 h49 => ?_)
                  exact zG_some ⟨h49, rfl⟩
                · refine zG_rc h45 ?_
                  refine zG_bd (ms_keep h45) (fun M54 Q52 _ h53 => ?_)
                  refine zG_rc h53 ?_
                  refine zG_bd (ms_takeDraws h53 _) (fun M57 Q55 _ h56 => ?_)
                  refine zG_rc h56 ?_
                  refine zG_bd (ms_become h56 _) (fun M60 Q58 _ h59 => ?_)
                  refine zG_b1 (S := mP X) (zG_wh (R := mP X) (ms_blend_L235 _ _) ⟨h59, rfl⟩) ?_
                  rintro ⟨M63, u64'⟩ ⟨Q61, u64⟩ ⟨h62, eh62⟩
                  dsimp only at h62 eh62
                  cases eh62
                  dsimp only
                  refine zG_pi h62 rfl (by decide) (fun M67 Q65 h66 => ?_)
                  exact zG_some ⟨h66, rfl⟩
              · refine zG_rc h34 ?_
                refine zG_bd (ms_no h34 _) (fun M72 Q70 u73 h71 => ?_)
                exact zG_some ⟨h71, rfl⟩
            · exact hz.elim
            · exact hz.elim
            · exact zG_some (show mP X _ _ from hz)
          · exact ms_blend_J64 h21
        · exact ms_blend_J64 h17
      · refine zG_rc h13 ?_
        refine zG_bd (ms_no h13 _) (fun M77 Q75 u78 h76 => ?_)
        exact zG_some ⟨h76, rfl⟩
    · refine zG_rc h9 ?_
      refine zG_bd (ms_no h9 _) (fun M81 Q79 u82 h80 => ?_)
      exact zG_some ⟨h80, rfl⟩
noncomputable def mf_isAmount (Q : Mq) (l1 : Int64) : Option (Mq × Int32) :=
  (if l1 < (1 : Int64) then
  zb1 (zo_b (0 : Int32)) (fun u1 =>
  some (Q, u1))
  else
  (if (1000000000 : Int64) < l1 then
  zb1 (zo_b (0 : Int32)) (fun u2 =>
  some (Q, u2))
  else
  zb1 (zo_b (1 : Int32)) (fun u3 =>
  some (Q, u3))))
theorem ms_isAmount {X : Xq} {M : Zm} {Q : Mq} (h : mR X M Q) (l1 : Int64) : zG (mP X) (zf_X12_isAmount M (some X.2.2.1) l1) (mf_isAmount Q l1) := by
  unfold zf_X12_isAmount mf_isAmount
  refine zG_ite ?_ ?_
  · refine zG_op (fun u1 => ?_)
    exact zG_some ⟨h, rfl⟩
  · refine zG_ite ?_ ?_
    · refine zG_op (fun u2 => ?_)
      exact zG_some ⟨h, rfl⟩
    · refine zG_op (fun u3 => ?_)
      exact zG_some ⟨h, rfl⟩
noncomputable def mf_looked (Q : Mq) (l1 : Int32) : Option (Mq × Int32) :=
  (if l1 < 0 then
  some (Q, (3 : Int32))
  else
  (if l1 < (1000 : Int32) then
  (if (Q.1 1 0) ≤ l1 then
  some (Q, (2 : Int32))
  else
  some (Q, (0 : Int32)))
  else
  some (Q, (3 : Int32))))
theorem ms_looked {X : Xq} {M : Zm} {Q : Mq} (h : mR X M Q) (l1 : Int32) : zG (mP X) (zf_X12_looked M (some X.2.2.1) l1) (mf_looked Q l1) := by
  unfold zf_X12_looked mf_looked
  refine zG_ite ?_ ?_
  · exact zG_some ⟨h, rfl⟩
  · refine zG_ite ?_ ?_
    · refine zG_gi h rfl ?_
      refine zG_ite ?_ ?_
      · exact zG_some ⟨h, rfl⟩
      · exact zG_some ⟨h, rfl⟩
    · exact zG_some ⟨h, rfl⟩
noncomputable def mf_bottle_J23 (Q : Mq) : Option (Mq × Int64) :=
  mbd (mf_no Q (1 : Int32)) (fun Q1 u4 =>
  some (Q1, u4))
theorem ms_bottle_J23 {X : Xq} {M : Zm} {Q : Mq} (h : mR X M Q)  : zG (mP X) (zf_X12_bottle_J23 M (some X.2.2.1)) (mf_bottle_J23 Q) := by
  unfold zf_X12_bottle_J23 mf_bottle_J23
  refine zG_rc h ?_
  refine zG_bd (ms_no h _) (fun M3 Q1 u4 h2 => ?_)
  exact zG_some ⟨h2, rfl⟩
noncomputable def mf_bottle (Q : Mq) (l1 : Int32) (l2 : Int32) (l3 : Int64) : Option (Mq × Int64) :=
  mbd (mf_begin Q) (fun Q1 _ =>
  (if l2 < 0 then
  mf_bottle_J23 Q1
  else
  (if (1000000 : Int32) < l2 then
  mf_bottle_J23 Q1
  else
  mbd (mf_isAmount Q1 l3) (fun Q4 u7 =>
  (if u7 = 0 then
  mf_bottle_J23 Q4
  else
  mbd (mf_looked Q4 l1) (fun Q8 u11 =>
  (if u11 ≤ 0 then
  mbd (mf_isInCask Q8 l1) (fun Q12 u15 =>
  (if u15 = 0 then
  mbd (mf_spare Q12 l1) (fun Q16 u19 =>
  (if l3 ≤ u19 then
  (if l2 = 0 then
  mbd (mf_no Q16 (5 : Int32)) (fun Q20 u23 =>
  some (Q20, u23))
  else
  zb1 (zo_ld l3 (l2.toInt64)) (fun u24 =>
  (if u24 = (0 : Int64) then
  mbd (mf_no Q16 (10 : Int32)) (fun Q25 u28 =>
  some (Q25, u28))
  else
  mbd (mf_keep Q16) (fun Q29 _ =>
  zb1 (some (qi Q29 60 0 (0 : Int32))) (fun Q32 =>
  mbd (mf_drawFrom Q32 l1 ((l2.toInt64) * u24) (1 : Int32)) (fun Q35 _ =>
  mbd (mf_takeDraws Q35 (4 : Int32)) (fun Q38 _ =>
  zb1 (some (qi Q38 0 0 ((Q38.1 0 0) + (1 : Int32)))) (fun Q41 =>
  mf_botTail Q41 l1 l2 u24))))))))
  else
  mbd (mf_no Q16 (10 : Int32)) (fun Q44 u47 =>
  some (Q44, u47))))
  else
  mbd (mf_no Q12 (9 : Int32)) (fun Q48 u51 =>
  some (Q48, u51))))
  else
  mbd (mf_no Q8 u11) (fun Q52 u55 =>
  some (Q52, u55)))))))))
theorem ms_bottle {X : Xq} {M : Zm} {Q : Mq} (h : mR X M Q) (l1 : Int32) (l2 : Int32) (l3 : Int64) : zG (mP X) (zf_X12_bottle M (some X.2.2.1) l1 l2 l3) (mf_bottle Q l1 l2 l3) := by
  unfold zf_X12_bottle mf_bottle
  refine zG_rc h ?_
  refine zG_bd (ms_begin h) (fun M3 Q1 _ h2 => ?_)
  refine zG_ite ?_ ?_
  · exact ms_bottle_J23 h2
  · refine zG_ite ?_ ?_
    · exact ms_bottle_J23 h2
    · refine zG_rc h2 ?_
      refine zG_bd (ms_isAmount h2 _) (fun M6 Q4 u7 h5 => ?_)
      refine zG_ite ?_ ?_
      · exact ms_bottle_J23 h5
      · refine zG_rc h5 ?_
        refine zG_bd (ms_looked h5 _) (fun M10 Q8 u11 h9 => ?_)
        refine zG_ite ?_ ?_
        · refine zG_rc h9 ?_
          refine zG_bd (ms_isInCask h9 _) (fun M14 Q12 u15 h13 => ?_)
          refine zG_ite ?_ ?_
          · refine zG_rc h13 ?_
            refine zG_bd (ms_spare h13 _) (fun M18 Q16 u19 h17 => ?_)
            refine zG_ite ?_ ?_
            · refine zG_ite ?_ ?_
              · refine zG_rc h17 ?_
                refine zG_bd (ms_no h17 _) (fun M22 Q20 u23 h21 => ?_)
                exact zG_some ⟨h21, rfl⟩
              · refine zG_op (fun u24 => ?_)
                refine zG_ite ?_ ?_
                · refine zG_rc h17 ?_
                  refine zG_bd (ms_no h17 _) (fun M27 Q25 u28 h26 => ?_)
                  exact zG_some ⟨h26, rfl⟩
                · refine zG_rc h17 ?_
                  refine zG_bd (ms_keep h17) (fun M31 Q29 _ h30 => ?_)
                  refine zG_pi h30 rfl (by decide) (fun M34 Q32 h33 => ?_)
                  refine zG_rc h33 ?_
                  refine zG_bd (ms_drawFrom h33 _ _ _) (fun M37 Q35 _ h36 => ?_)
                  refine zG_rc h36 ?_
                  refine zG_bd (ms_takeDraws h36 _) (fun M40 Q38 _ h39 => ?_)
                  refine zG_gi h39 rfl ?_
                  refine zG_pi h39 rfl (by decide) (fun M43 Q41 h42 => ?_)
                  exact ms_botTail h42 l1 l2 u24
            · refine zG_rc h17 ?_
              refine zG_bd (ms_no h17 _) (fun M46 Q44 u47 h45 => ?_)
              exact zG_some ⟨h45, rfl⟩
          · refine zG_rc h13 ?_
            refine zG_bd (ms_no h13 _) (fun M50 Q48 u51 h49 => ?_)
            exact zG_some ⟨h49, rfl⟩
        · refine zG_rc h9 ?_
          refine zG_bd (ms_no h9 _) (fun M54 Q52 u55 h53 => ?_)
          exact zG_some ⟨h53, rfl⟩
noncomputable def mf_bottling_J21 (Q : Mq) : Option (Mq × Int64) :=
  some (Q, (-1 : Int64))
theorem ms_bottling_J21 {X : Xq} {M : Zm} {Q : Mq} (h : mR X M Q)  : zG (mP X) (zf_X12_bottling_J21 M) (mf_bottling_J21 Q) := by
  unfold zf_X12_bottling_J21 mf_bottling_J21
  exact zG_some ⟨h, rfl⟩
noncomputable def mf_bottling (Q : Mq) (l1 : Int32) (l2 : Int32) : Option (Mq × Int64) :=
  (if l1 < 0 then
  mf_bottling_J21 Q
  else
  (if (Q.1 21 0) ≤ l1 then
  mf_bottling_J21 Q
  else
  (if l2 < 0 then
  mf_bottling_J21 Q
  else
  (if l2 ≤ (3 : Int32) then
  zb1 (mo_jr Q 22 21 (((4 : Int32) * l1) + l2)) (fun u1 =>
  some (Q, u1))
  else
  mf_bottling_J21 Q))))
theorem ms_bottling {X : Xq} {M : Zm} {Q : Mq} (h : mR X M Q) (l1 : Int32) (l2 : Int32) : zG (mP X) (zf_X12_bottling M (some X.2.2.1) l1 l2) (mf_bottling Q l1 l2) := by
  unfold zf_X12_bottling mf_bottling
  refine zG_ite ?_ ?_
  · exact ms_bottling_J21 h
  · refine zG_gi h rfl ?_
    refine zG_ite ?_ ?_
    · exact ms_bottling_J21 h
    · refine zG_ite ?_ ?_
      · exact ms_bottling_J21 h
      · refine zG_ite ?_ ?_
        · refine zG_jr h (by decide) (fun u1 => ?_)
          exact zG_some ⟨h, rfl⟩
        · exact ms_bottling_J21 h
noncomputable def mf_bottlings (Q : Mq) : Option (Mq × Int32) :=
  some (Q, (Q.1 21 0))
theorem ms_bottlings {X : Xq} {M : Zm} {Q : Mq} (h : mR X M Q)  : zG (mP X) (zf_X12_bottlings M (some X.2.2.1)) (mf_bottlings Q) := by
  unfold zf_X12_bottlings mf_bottlings
  refine zG_gi h rfl ?_
  exact zG_some ⟨h, rfl⟩
noncomputable def mf_rateOf (Q : Mq) (l1 : Int32) : Option (Mq × Int64) :=
  zb1 (mo_ai Q 2 l1) (fun u1 =>
  (if u1 = (1 : Int32) then
  some (Q, (20 : Int64))
  else
  zb1 (mo_ai Q 2 l1) (fun u2 =>
  (if u2 = (2 : Int32) then
  some (Q, (35 : Int64))
  else
  zb1 (mo_ai Q 2 l1) (fun u3 =>
  (if u3 = (4 : Int32) then
  some (Q, (1 : Int64))
  else
  some (Q, (0 : Int64))))))))
theorem ms_rateOf {X : Xq} {M : Zm} {Q : Mq} (h : mR X M Q) (l1 : Int32) : zG (mP X) (zf_X12_rateOf M (some X.2.2.1) l1) (mf_rateOf Q l1) := by
  unfold zf_X12_rateOf mf_rateOf
  refine zG_gr h (by decide) ?_
  refine zG_ai h rfl (fun u1 => ?_)
  refine zG_ite ?_ ?_
  · exact zG_some ⟨h, rfl⟩
  · refine zG_gr h (by decide) ?_
    refine zG_ai h rfl (fun u2 => ?_)
    refine zG_ite ?_ ?_
    · exact zG_some ⟨h, rfl⟩
    · refine zG_gr h (by decide) ?_
      refine zG_ai h rfl (fun u3 => ?_)
      refine zG_ite ?_ ?_
      · exact zG_some ⟨h, rfl⟩
      · exact zG_some ⟨h, rfl⟩
noncomputable def mf_tellRate (Q : Mq) (l1 : Int32) : Option (Mq × Unit) :=
  zb1 (mo_ai Q 2 l1) (fun u1 =>
  (if u1 = (1 : Int32) then
  mbd (mf_ran Q (10 : Int32)) (fun Q2 _ =>
  some (Q2, ()))
  else
  zb1 (mo_ai Q 2 l1) (fun u5 =>
  (if u5 = (2 : Int32) then
  mbd (mf_ran Q (11 : Int32)) (fun Q6 _ =>
  mbd (mf_ran Q6 (10 : Int32)) (fun Q9 _ =>
  some (Q9, ())))
  else
  zb1 (mo_ai Q 2 l1) (fun u12 =>
  (if u12 = (4 : Int32) then
  mbd (mf_ran Q (12 : Int32)) (fun Q13 _ =>
  some (Q13, ()))
  else
  mbd (mf_ran Q (9 : Int32)) (fun Q16 _ =>
  some (Q16, ()))))))))
theorem ms_tellRate {X : Xq} {M : Zm} {Q : Mq} (h : mR X M Q) (l1 : Int32) : zG (mP X) (zf_X12_tellRate M (some X.2.2.1) l1) (mf_tellRate Q l1) := by
  unfold zf_X12_tellRate mf_tellRate
  refine zG_gr h (by decide) ?_
  refine zG_ai h rfl (fun u1 => ?_)
  refine zG_ite ?_ ?_
  · refine zG_rc h ?_
    refine zG_bd (ms_ran h _) (fun M4 Q2 _ h3 => ?_)
    exact zG_some ⟨h3, rfl⟩
  · refine zG_gr h (by decide) ?_
    refine zG_ai h rfl (fun u5 => ?_)
    refine zG_ite ?_ ?_
    · refine zG_rc h ?_
      refine zG_bd (ms_ran h _) (fun M8 Q6 _ h7 => ?_)
      refine zG_rc h7 ?_
      refine zG_bd (ms_ran h7 _) (fun M11 Q9 _ h10 => ?_)
      exact zG_some ⟨h10, rfl⟩
    · refine zG_gr h (by decide) ?_
      refine zG_ai h rfl (fun u12 => ?_)
      refine zG_ite ?_ ?_
      · refine zG_rc h ?_
        refine zG_bd (ms_ran h _) (fun M15 Q13 _ h14 => ?_)
        exact zG_some ⟨h14, rfl⟩
      · refine zG_rc h ?_
        refine zG_bd (ms_ran h _) (fun M18 Q16 _ h17 => ?_)
        exact zG_some ⟨h17, rfl⟩
noncomputable def mf_breathe_J15 (Q : Mq) : Option (Mq × Int64) :=
  mbd (mf_no Q (1 : Int32)) (fun Q1 u4 =>
  some (Q1, u4))
theorem ms_breathe_J15 {X : Xq} {M : Zm} {Q : Mq} (h : mR X M Q)  : zG (mP X) (zf_X12_breathe_J15 M (some X.2.2.1)) (mf_breathe_J15 Q) := by
  unfold zf_X12_breathe_J15 mf_breathe_J15
  refine zG_rc h ?_
  refine zG_bd (ms_no h _) (fun M3 Q1 u4 h2 => ?_)
  exact zG_some ⟨h2, rfl⟩
noncomputable def mf_breathe_L27 (p1 : Int32) (x : Mq × Int32) : Option ((Mq × Int32) ⊕ (Mq × Int32)) := match x with
  | (Q, l2) =>
  (if (Q.1 1 0) ≤ l2 then
  some (.inr (Q, l2))
  else
  mbd (mf_tellRate Q l2) (fun Q1 _ =>
  some (.inl (Q1, (l2 + 1)))))
theorem ms_breathe_L27 {X : Xq} (p1 : Int32) : ∀ (x : Zm × Int32) (y : Mq × Int32), mP X x y → zG (mU (mP X) (mP X)) (zf_X12_breathe_L27 (some X.2.2.1) p1 x) (mf_breathe_L27 p1 y) := by
  rintro ⟨M, l2'⟩ ⟨Q, l2⟩ ⟨h, e⟩
  dsimp only at h e
  cases e
  unfold zf_X12_breathe_L27 mf_breathe_L27
  dsimp only
  refine zG_gi h rfl ?_
  refine zG_ite ?_ ?_
  · exact zG_some (show mP X _ _ from ⟨h, rfl⟩)
  · refine zG_rc h ?_
    refine zG_bd (ms_tellRate h _) (fun M3 Q1 _ h2 => ?_)
    exact zG_some (show mP X _ _ from ⟨h2, rfl⟩)
noncomputable def mf_breathe_J132 (Q : Mq) (p1 : Int32) (l2 : Int64) (l4 : Int32) : Option ((Mq × Int64 × Int32) ⊕ (Mq × Int64 × Int32)) :=
  some (.inl (Q, l2, (l4 + 1)))
theorem ms_breathe_J132 {X : Xq} {M : Zm} {Q : Mq} (h : mR X M Q) (p1 : Int32) (l2 : Int64) (l4 : Int32) : zG (mU (mP X) (mP X)) (zf_X12_breathe_J132 M (some X.2.2.1) p1 l2 l4) (mf_breathe_J132 Q p1 l2 l4) := by
  unfold zf_X12_breathe_J132 mf_breathe_J132
  exact zG_some (show mP X _ _ from ⟨h, rfl⟩)
noncomputable def mf_breathe_J126 (Q : Mq) (p1 : Int32) (l2 : Int64) (p4 : Int32) (l5 : Int32) : Option ((Mq × Int64 × Int32) ⊕ (Mq × Int64 × Int32)) :=
  some (.inl (Q, l2, (l5 + 1)))
theorem ms_breathe_J126 {X : Xq} {M : Zm} {Q : Mq} (h : mR X M Q) (p1 : Int32) (l2 : Int64) (p4 : Int32) (l5 : Int32) : zG (mU (mP X) (mP X)) (zf_X12_breathe_J126 M (some X.2.2.1) p1 l2 p4 l5) (mf_breathe_J126 Q p1 l2 p4 l5) := by
  unfold zf_X12_breathe_J126 mf_breathe_J126
  exact zG_some (show mP X _ _ from ⟨h, rfl⟩)
noncomputable def mf_breathe_L77 (p1 : Int32) (p4 : Int32) (x : Mq × Int64 × Int32) : Option ((Mq × Int64 × Int32) ⊕ (Mq × Int64 × Int32)) := match x with
  | (Q, l2, l5) =>
  (if p1 ≤ l5 then
  some (.inr (Q, l2, l5))
  else
  mbd (mf_inVessel Q p4) (fun Q1 u4 =>
  mbd (mf_rateOf Q1 p4) (fun Q5 u8 =>
  zb1 (zo_ld (u4 * u8) (10000 : Int64)) (fun u9 =>
  (if u9 = (0 : Int64) then
  mf_breathe_J126 Q5 p1 l2 p4 l5
  else
  mbd (mf_take Q5 p4 u9 (1 : Int32)) (fun Q10 _ =>
  mf_breathe_J126 Q10 p1 (l2 + u9) p4 l5))))))
theorem ms_breathe_L77 {X : Xq} (p1 : Int32) (p4 : Int32) : ∀ (x : Zm × Int64 × Int32) (y : Mq × Int64 × Int32), mP X x y → zG (mU (mP X) (mP X)) (zf_X12_breathe_L77 (some X.2.2.1) p1 p4 x) (mf_breathe_L77 p1 p4 y) := by
  rintro ⟨M, l2', l5'⟩ ⟨Q, l2, l5⟩ ⟨h, e⟩
  dsimp only at h e
  cases e
  unfold zf_X12_breathe_L77 mf_breathe_L77
  dsimp only
  refine zG_ite ?_ ?_
  · exact zG_some (show mP X _ _ from ⟨h, rfl⟩)
  · refine zG_rc h ?_
    refine zG_bd (ms_inVessel h _) (fun M3 Q1 u4 h2 => ?_)
    refine zG_rc h2 ?_
    refine zG_bd (ms_rateOf h2 _) (fun M7 Q5 u8 h6 => ?_)
    refine zG_op (fun u9 => ?_)
    refine zG_ite ?_ ?_
    · exact ms_breathe_J126 h6 _ _ _ _
    · refine zG_rc h6 ?_
      refine zG_bd (ms_take h6 _ _ _) (fun M12 Q10 _ h11 => ?_)
      exact ms_breathe_J126 h11 _ _ _ _
noncomputable def mf_breathe_L51 (p1 : Int32) (x : Mq × Int64 × Int32) : Option ((Mq × Int64 × Int32) ⊕ (Mq × Int64 × Int32)) := match x with
  | (Q, l2, l4) =>
  (if (Q.1 1 0) ≤ l4 then
  some (.inr (Q, l2, l4))
  else
  zb1 (mo_ai Q 2 l4) (fun u1 =>
  (if u1 = (5 : Int32) then
  mf_breathe_J132 Q p1 l2 l4
  else
  zb1 (zwhile (mf_breathe_L77 p1 l4) (Q, l2, (0 : Int32))) (fun y7 => match y7 with
  | (Q2, u5, u6) =>
  mf_breathe_J132 Q2 p1 u5 l4))))
theorem ms_breathe_L51 {X : Xq} (p1 : Int32) : ∀ (x : Zm × Int64 × Int32) (y : Mq × Int64 × Int32), mP X x y → zG (mU (mP X) (mP X)) (zf_X12_breathe_L51 (some X.2.2.1) p1 x) (mf_breathe_L51 p1 y) := by
  rintro ⟨M, l2', l4'⟩ ⟨Q, l2, l4⟩ ⟨h, e⟩
  dsimp only at h e
  cases e
  unfold zf_X12_breathe_L51 mf_breathe_L51
  dsimp only
  refine zG_gi h rfl ?_
  refine zG_ite ?_ ?_
  · exact zG_some (show mP X _ _ from ⟨h, rfl⟩)
  · refine zG_gr h (by decide) ?_
    refine zG_ai h rfl (fun u1 => ?_)
    refine zG_ite ?_ ?_
    · exact ms_breathe_J132 h _ _ _
    · refine zG_b1 (S := mP X) (zG_wh (R := mP X) (ms_breathe_L77 _ _) ⟨h, rfl⟩) ?_
      rintro ⟨M4, u5', u6'⟩ ⟨Q2, u5, u6⟩ ⟨h3, eh3⟩
      dsimp only at h3 eh3
      cases eh3
      dsimp only
      exact ms_breathe_J132 h3 _ _ _
noncomputable def mf_breathe (Q : Mq) (l1 : Int32) : Option (Mq × Int64) :=
  mbd (mf_begin Q) (fun Q1 _ =>
  (if l1 < (1 : Int32) then
  mf_breathe_J15 Q1
  else
  (if l1 ≤ (12 : Int32) then
  mbd (mf_keep Q1) (fun Q4 _ =>
  zb1 (zwhile (mf_breathe_L27 l1) (Q4, (0 : Int32))) (fun y23 => match y23 with
  | (Q7, u10) =>
  zb1 (zwhile (mf_breathe_L51 l1) (Q7, (0 : Int64), (0 : Int32))) (fun y22 => match y22 with
  | (Q11, u14, u15) =>
  zb1 (some (qi Q11 18 0 ((Q11.1 18 0) + l1))) (fun Q16 =>
  mbd (mf_enter Q16 (5 : Int32) (-1 : Int32) (-1 : Int32) u14) (fun Q19 _ =>
  some (Q19, u14))))))
  else
  mf_breathe_J15 Q1)))
theorem ms_breathe {X : Xq} {M : Zm} {Q : Mq} (h : mR X M Q) (l1 : Int32) : zG (mP X) (zf_X12_breathe M (some X.2.2.1) l1) (mf_breathe Q l1) := by
  unfold zf_X12_breathe mf_breathe
  refine zG_rc h ?_
  refine zG_bd (ms_begin h) (fun M3 Q1 _ h2 => ?_)
  refine zG_ite ?_ ?_
  · exact ms_breathe_J15 h2
  · refine zG_ite ?_ ?_
    · refine zG_rc h2 ?_
      refine zG_bd (ms_keep h2) (fun M6 Q4 _ h5 => ?_)
      refine zG_b1 (S := mP X) (zG_wh (R := mP X) (ms_breathe_L27 _) ⟨h5, rfl⟩) ?_
      rintro ⟨M9, u10'⟩ ⟨Q7, u10⟩ ⟨h8, eh8⟩
      dsimp only at h8 eh8
      cases eh8
      dsimp only
      refine zG_b1 (S := mP X) (zG_wh (R := mP X) (ms_breathe_L51 _) ⟨h8, rfl⟩) ?_
      rintro ⟨M13, u14', u15'⟩ ⟨Q11, u14, u15⟩ ⟨h12, eh12⟩
      dsimp only at h12 eh12
      cases eh12
      dsimp only
      refine zG_gi h12 rfl ?_
      refine zG_pi h12 rfl (by decide) (fun M18 Q16 h17 => ?_)
      refine zG_rc h17 ?_
      refine zG_bd (ms_enter h17 _ _ _ _) (fun M21 Q19 _ h20 => ?_)
      exact zG_some ⟨h20, rfl⟩
    · exact ms_breathe_J15 h2
noncomputable def mf_closed (Q : Mq) : Option (Mq × Int32) :=
  some (Q, (1 : Int32))
theorem ms_closed {X : Xq} {M : Zm} {Q : Mq} (h : mR X M Q)  : zG (mP X) (zf_X12_closed M (some X.2.2.1)) (mf_closed Q) := by
  unfold zf_X12_closed mf_closed
  exact zG_some ⟨h, rfl⟩
noncomputable def mf_dear_J44 (Q : Mq) (l1 : Int32) (l4 : Int64) (s0 : Int32) : Option (Mq × Int64) :=
  mbd (mf_ran Q s0) (fun Q1 _ =>
  zb1 (mo_ai Q1 2 l1) (fun u4 =>
  (if u4 = (2 : Int32) then
  zb1 (zo_ld l4 (10 : Int64)) (fun u5 =>
  some (Q1, (l4 + u5)))
  else
  zb1 (mo_ai Q1 2 l1) (fun u6 =>
  (if u6 = (5 : Int32) then
  some (Q1, ((2 : Int64) * l4))
  else
  some (Q1, l4))))))
theorem ms_dear_J44 {X : Xq} {M : Zm} {Q : Mq} (h : mR X M Q) (l1 : Int32) (l4 : Int64) (s0 : Int32) : zG (mP X) (zf_X12_dear_J44 M (some X.2.2.1) l1 l4 s0 (some X.2.2.1)) (mf_dear_J44 Q l1 l4 s0) := by
  unfold zf_X12_dear_J44 mf_dear_J44
  refine zG_rc h ?_
  refine zG_bd (ms_ran h _) (fun M3 Q1 _ h2 => ?_)
  refine zG_gr h2 (by decide) ?_
  refine zG_ai h2 rfl (fun u4 => ?_)
  refine zG_ite ?_ ?_
  · refine zG_op (fun u5 => ?_)
    exact zG_some ⟨h2, rfl⟩
  · refine zG_gr h2 (by decide) ?_
    refine zG_ai h2 rfl (fun u6 => ?_)
    refine zG_ite ?_ ?_
    · exact zG_some ⟨h2, rfl⟩
    · exact zG_some ⟨h2, rfl⟩
noncomputable def mf_dear (Q : Mq) (l1 : Int32) (l2 : Int64) : Option (Mq × Int64) :=
  zb1 (mo_ai Q 4 l1) (fun u1 =>
  zb1 (mo_ai Q 2 l1) (fun u2 =>
  (if u2 = (2 : Int32) then
  mf_dear_J44 Q l1 ((u1.toInt64) * l2) (14 : Int32)
  else
  zb1 (mo_ai Q 2 l1) (fun u3 =>
  (if u3 = (5 : Int32) then
  mf_dear_J44 Q l1 ((u1.toInt64) * l2) (15 : Int32)
  else
  mf_dear_J44 Q l1 ((u1.toInt64) * l2) (13 : Int32))))))
theorem ms_dear {X : Xq} {M : Zm} {Q : Mq} (h : mR X M Q) (l1 : Int32) (l2 : Int64) : zG (mP X) (zf_X12_dear M (some X.2.2.1) l1 l2) (mf_dear Q l1 l2) := by
  unfold zf_X12_dear mf_dear
  refine zG_gr h (by decide) ?_
  refine zG_ai h rfl (fun u1 => ?_)
  refine zG_gr h (by decide) ?_
  refine zG_ai h rfl (fun u2 => ?_)
  refine zG_ite ?_ ?_
  · exact ms_dear_J44 h _ _ _
  · refine zG_gr h (by decide) ?_
    refine zG_ai h rfl (fun u3 => ?_)
    refine zG_ite ?_ ?_
    · exact ms_dear_J44 h _ _ _
    · exact ms_dear_J44 h _ _ _
noncomputable def mf_parts (Q : Mq) (l1 : Int32) : Option (Mq × Int32) :=
  mbd (mf_isBarrel Q l1) (fun Q1 u4 =>
  (if u4 = 0 then
  some (Q1, (0 : Int32))
  else
  zb1 (mo_ai Q1 2 l1) (fun u5 =>
  (if u5 = (5 : Int32) then
  zb1 (mo_ai Q1 6 l1) (fun u6 =>
  some (Q1, u6))
  else
  zb1 (mo_ai Q1 8 l1) (fun u7 =>
  some (Q1, u7))))))
theorem ms_parts {X : Xq} {M : Zm} {Q : Mq} (h : mR X M Q) (l1 : Int32) : zG (mP X) (zf_X12_parts M (some X.2.2.1) l1) (mf_parts Q l1) := by
  unfold zf_X12_parts mf_parts
  refine zG_rc h ?_
  refine zG_bd (ms_isBarrel h _) (fun M3 Q1 u4 h2 => ?_)
  refine zG_ite ?_ ?_
  · exact zG_some ⟨h2, rfl⟩
  · refine zG_gr h2 (by decide) ?_
    refine zG_ai h2 rfl (fun u5 => ?_)
    refine zG_ite ?_ ?_
    · refine zG_gr h2 (by decide) ?_
      refine zG_ai h2 rfl (fun u6 => ?_)
      exact zG_some ⟨h2, rfl⟩
    · refine zG_gr h2 (by decide) ?_
      refine zG_ai h2 rfl (fun u7 => ?_)
      exact zG_some ⟨h2, rfl⟩
noncomputable def mf_digest_L101 (p3 : Int32) (x : Mq × Int64 × Int32) : Option ((Mq × Int64 × Int32) ⊕ (Mq × Int64 × Int32)) := match x with
  | (Q, l1, l4) =>
  zb1 (mo_ai Q 8 p3) (fun u1 =>
  (if (((60 : Int32) * p3) + u1) ≤ l4 then
  some (.inr (Q, l1, l4))
  else
  zb1 (mo_ai Q 9 l4) (fun u2 =>
  zb1 (mo_aj Q 10 l4) (fun u3 =>
  some (.inl (Q, ((((l1 * (31 : Int64)) + (u2.toInt64)) * (31 : Int64)) + u3), (l4 + 1)))))))
theorem ms_digest_L101 {X : Xq} (p3 : Int32) : ∀ (x : Zm × Int64 × Int32) (y : Mq × Int64 × Int32), mP X x y → zG (mU (mP X) (mP X)) (zf_X12_digest_L101 (some X.2.2.1) p3 x) (mf_digest_L101 p3 y) := by
  rintro ⟨M, l1', l4'⟩ ⟨Q, l1, l4⟩ ⟨h, e⟩
  dsimp only at h e
  cases e
  unfold zf_X12_digest_L101 mf_digest_L101
  dsimp only
  refine zG_gr h (by decide) ?_
  refine zG_ai h rfl (fun u1 => ?_)
  refine zG_ite ?_ ?_
  · exact zG_some (show mP X _ _ from ⟨h, rfl⟩)
  · refine zG_gr h (by decide) ?_
    refine zG_ai h rfl (fun u2 => ?_)
    refine zG_gr h (by decide) ?_
    refine zG_aj h rfl (fun u3 => ?_)
    exact zG_some (show mP X _ _ from ⟨h, rfl⟩)
noncomputable def mf_digest_L155 (p3 : Int32) (x : Mq × Int64 × Int32) : Option ((Mq × Int64 × Int32) ⊕ (Mq × Int64 × Int32)) := match x with
  | (Q, l1, l4) =>
  zb1 (mo_ai Q 6 p3) (fun u1 =>
  (if u1 ≤ l4 then
  some (.inr (Q, l1, l4))
  else
  zb1 (mo_ai Q 7 (((4 : Int32) * p3) + l4)) (fun u2 =>
  some (.inl (Q, ((l1 * (31 : Int64)) + (u2.toInt64)), (l4 + 1))))))
theorem ms_digest_L155 {X : Xq} (p3 : Int32) : ∀ (x : Zm × Int64 × Int32) (y : Mq × Int64 × Int32), mP X x y → zG (mU (mP X) (mP X)) (zf_X12_digest_L155 (some X.2.2.1) p3 x) (mf_digest_L155 p3 y) := by
  rintro ⟨M, l1', l4'⟩ ⟨Q, l1, l4⟩ ⟨h, e⟩
  dsimp only at h e
  cases e
  unfold zf_X12_digest_L155 mf_digest_L155
  dsimp only
  refine zG_gr h (by decide) ?_
  refine zG_ai h rfl (fun u1 => ?_)
  refine zG_ite ?_ ?_
  · exact zG_some (show mP X _ _ from ⟨h, rfl⟩)
  · refine zG_gr h (by decide) ?_
    refine zG_ai h rfl (fun u2 => ?_)
    exact zG_some (show mP X _ _ from ⟨h, rfl⟩)
noncomputable def mf_digest_L18 (x : Mq × Int64 × Int32) : Option ((Mq × Int64 × Int32) ⊕ (Mq × Int64 × Int32)) := match x with
  | (Q, l1, l3) =>
  (if (Q.1 1 0) ≤ l3 then
  some (.inr (Q, l1, l3))
  else
  zb1 (mo_ai Q 2 l3) (fun u1 =>
  zb1 (mo_ai Q 3 l3) (fun u2 =>
  zb1 (mo_ai Q 4 l3) (fun u3 =>
  zb1 (mo_ai Q 5 l3) (fun u4 =>
  mbd (mf_parts Q l3) (fun Q5 u8 =>
  zb1 (zwhile (mf_digest_L101 l3) (Q5, ((((((((((l1 * (31 : Int64)) + (u1.toInt64)) * (31 : Int64)) + (u2.toInt64)) * (31 : Int64)) + (u3.toInt64)) * (31 : Int64)) + (u4.toInt64)) * (31 : Int64)) + (u8.toInt64)), ((60 : Int32) * l3))) (fun y20 => match y20 with
  | (Q9, u12, u13) =>
  zb1 (zwhile (mf_digest_L155 l3) (Q9, u12, (0 : Int32))) (fun y19 => match y19 with
  | (Q14, u17, u18) =>
  some (.inl (Q14, u17, (l3 + 1)))))))))))
theorem ms_digest_L18 {X : Xq}  : ∀ (x : Zm × Int64 × Int32) (y : Mq × Int64 × Int32), mP X x y → zG (mU (mP X) (mP X)) (zf_X12_digest_L18 (some X.2.2.1) x) (mf_digest_L18  y) := by
  rintro ⟨M, l1', l3'⟩ ⟨Q, l1, l3⟩ ⟨h, e⟩
  dsimp only at h e
  cases e
  unfold zf_X12_digest_L18 mf_digest_L18
  dsimp only
  refine zG_gi h rfl ?_
  refine zG_ite ?_ ?_
  · exact zG_some (show mP X _ _ from ⟨h, rfl⟩)
  · refine zG_gr h (by decide) ?_
    refine zG_ai h rfl (fun u1 => ?_)
    refine zG_gr h (by decide) ?_
    refine zG_ai h rfl (fun u2 => ?_)
    refine zG_gr h (by decide) ?_
    refine zG_ai h rfl (fun u3 => ?_)
    refine zG_gr h (by decide) ?_
    refine zG_ai h rfl (fun u4 => ?_)
    refine zG_rc h ?_
    refine zG_bd (ms_parts h _) (fun M7 Q5 u8 h6 => ?_)
    refine zG_b1 (S := mP X) (zG_wh (R := mP X) (ms_digest_L101 _) ⟨h6, rfl⟩) ?_
    rintro ⟨M11, u12', u13'⟩ ⟨Q9, u12, u13⟩ ⟨h10, eh10⟩
    dsimp only at h10 eh10
    cases eh10
    dsimp only
    refine zG_b1 (S := mP X) (zG_wh (R := mP X) (ms_digest_L155 _) ⟨h10, rfl⟩) ?_
    rintro ⟨M16, u17', u18'⟩ ⟨Q14, u17, u18⟩ ⟨h15, eh15⟩
    dsimp only at h15 eh15
    cases eh15
    dsimp only
    exact zG_some (show mP X _ _ from ⟨h15, rfl⟩)
noncomputable def mf_digest (Q : Mq) : Option (Mq × Int64) :=
  zb1 (zwhile (mf_digest_L18 ) (Q, (((7 : Int64) * (31 : Int64)) + ((Q.1 1 0).toInt64)), (0 : Int32))) (fun y6 => match y6 with
  | (Q1, u4, u5) =>
  some (Q1, ((((u4 * (31 : Int64)) + ((Q1.1 18 0).toInt64)) * (31 : Int64)) + ((Q1.1 19 0).toInt64))))
theorem ms_digest {X : Xq} {M : Zm} {Q : Mq} (h : mR X M Q)  : zG (mP X) (zf_X12_digest M (some X.2.2.1)) (mf_digest Q) := by
  unfold zf_X12_digest mf_digest
  refine zG_gi h rfl ?_
  refine zG_b1 (S := mP X) (zG_wh (R := mP X) (ms_digest_L18 ) ⟨h, rfl⟩) ?_
  rintro ⟨M3, u4', u5'⟩ ⟨Q1, u4, u5⟩ ⟨h2, eh2⟩
  dsimp only at h2 eh2
  cases eh2
  dsimp only
  refine zG_gi h2 rfl ?_
  refine zG_gi h2 rfl ?_
  exact zG_some ⟨h2, rfl⟩
noncomputable def mf_drain_J24 (Q : Mq) : Option (Mq × Int64) :=
  mbd (mf_no Q (1 : Int32)) (fun Q1 u4 =>
  some (Q1, u4))
theorem ms_drain_J24 {X : Xq} {M : Zm} {Q : Mq} (h : mR X M Q)  : zG (mP X) (zf_X12_drain_J24 M (some X.2.2.1)) (mf_drain_J24 Q) := by
  unfold zf_X12_drain_J24 mf_drain_J24
  refine zG_rc h ?_
  refine zG_bd (ms_no h _) (fun M3 Q1 u4 h2 => ?_)
  exact zG_some ⟨h2, rfl⟩
noncomputable def mf_drain (Q : Mq) (l1 : Int32) (l2 : Int64) (l4 : Int32) : Option (Mq × Int64) :=
  mbd (mf_begin Q) (fun Q1 _ =>
  (if l4 < (1 : Int32) then
  mf_drain_J24 Q1
  else
  (if (2 : Int32) < l4 then
  mf_drain_J24 Q1
  else
  mbd (mf_isAmount Q1 l2) (fun Q4 u7 =>
  (if u7 = 0 then
  mf_drain_J24 Q4
  else
  mbd (mf_lookedVessel Q4 l1) (fun Q8 u11 =>
  (if u11 ≤ 0 then
  mbd (mf_isInCask Q8 l1) (fun Q12 u15 =>
  (if u15 = 0 then
  zb1 (mo_ai Q12 8 l1) (fun u16 =>
  (if u16 = 0 then
  mbd (mf_no Q12 (2 : Int32)) (fun Q17 u20 =>
  some (Q17, u20))
  else
  mbd (mf_inVessel Q12 l1) (fun Q21 u24 =>
  (if l2 ≤ u24 then
  mbd (mf_keep Q21) (fun Q25 _ =>
  mbd (mf_take Q25 l1 l2 (l4 + (1 : Int32))) (fun Q28 _ =>
  mbd (mf_enter Q28 (l4 + (6 : Int32)) l1 (-1 : Int32) l2) (fun Q31 _ =>
  mbd (mf_inVessel Q31 l1) (fun Q34 u37 =>
  some (Q34, u37)))))
  else
  mbd (mf_no Q21 (10 : Int32)) (fun Q38 u41 =>
  some (Q38, u41))))))
  else
  mbd (mf_no Q12 (9 : Int32)) (fun Q42 u45 =>
  some (Q42, u45))))
  else
  mbd (mf_no Q8 u11) (fun Q46 u49 =>
  some (Q46, u49)))))))))
theorem ms_drain {X : Xq} {M : Zm} {Q : Mq} (h : mR X M Q) (l1 : Int32) (l2 : Int64) (l4 : Int32) : zG (mP X) (zf_X12_drain M (some X.2.2.1) l1 l2 l4) (mf_drain Q l1 l2 l4) := by
  unfold zf_X12_drain mf_drain
  refine zG_rc h ?_
  refine zG_bd (ms_begin h) (fun M3 Q1 _ h2 => ?_)
  refine zG_ite ?_ ?_
  · exact ms_drain_J24 h2
  · refine zG_ite ?_ ?_
    · exact ms_drain_J24 h2
    · refine zG_rc h2 ?_
      refine zG_bd (ms_isAmount h2 _) (fun M6 Q4 u7 h5 => ?_)
      refine zG_ite ?_ ?_
      · exact ms_drain_J24 h5
      · refine zG_rc h5 ?_
        refine zG_bd (ms_lookedVessel h5 _) (fun M10 Q8 u11 h9 => ?_)
        refine zG_ite ?_ ?_
        · refine zG_rc h9 ?_
          refine zG_bd (ms_isInCask h9 _) (fun M14 Q12 u15 h13 => ?_)
          refine zG_ite ?_ ?_
          · refine zG_gr h13 (by decide) ?_
            refine zG_ai h13 rfl (fun u16 => ?_)
            refine zG_ite ?_ ?_
            · refine zG_rc h13 ?_
              refine zG_bd (ms_no h13 _) (fun M19 Q17 u20 h18 => ?_)
              exact zG_some ⟨h18, rfl⟩
            · refine zG_rc h13 ?_
              refine zG_bd (ms_inVessel h13 _) (fun M23 Q21 u24 h22 => ?_)
              refine zG_ite ?_ ?_
              · refine zG_rc h22 ?_
                refine zG_bd (ms_keep h22) (fun M27 Q25 _ h26 => ?_)
                refine zG_rc h26 ?_
                refine zG_bd (ms_take h26 _ _ _) (fun M30 Q28 _ h29 => ?_)
                refine zG_rc h29 ?_
                refine zG_bd (ms_enter h29 _ _ _ _) (fun M33 Q31 _ h32 => ?_)
                refine zG_rc h32 ?_
                refine zG_bd (ms_inVessel h32 _) (fun M36 Q34 u37 h35 => ?_)
                exact zG_some ⟨h35, rfl⟩
              · refine zG_rc h22 ?_
                refine zG_bd (ms_no h22 _) (fun M40 Q38 u41 h39 => ?_)
                exact zG_some ⟨h39, rfl⟩
          · refine zG_rc h13 ?_
            refine zG_bd (ms_no h13 _) (fun M44 Q42 u45 h43 => ?_)
            exact zG_some ⟨h43, rfl⟩
        · refine zG_rc h9 ?_
          refine zG_bd (ms_no h9 _) (fun M48 Q46 u49 h47 => ?_)
          exact zG_some ⟨h47, rfl⟩
noncomputable def mf_entries (Q : Mq) : Option (Mq × Int32) :=
  some (Q, (Q.1 19 0))
theorem ms_entries {X : Xq} {M : Zm} {Q : Mq} (h : mR X M Q)  : zG (mP X) (zf_X12_entries M (some X.2.2.1)) (mf_entries Q) := by
  unfold zf_X12_entries mf_entries
  refine zG_gi h rfl ?_
  exact zG_some ⟨h, rfl⟩
noncomputable def mf_entry_J21 (Q : Mq) : Option (Mq × Int64) :=
  some (Q, (-1 : Int64))
theorem ms_entry_J21 {X : Xq} {M : Zm} {Q : Mq} (h : mR X M Q)  : zG (mP X) (zf_X12_entry_J21 M) (mf_entry_J21 Q) := by
  unfold zf_X12_entry_J21 mf_entry_J21
  exact zG_some ⟨h, rfl⟩
noncomputable def mf_entry (Q : Mq) (l1 : Int32) (l2 : Int32) : Option (Mq × Int64) :=
  (if l1 < 0 then
  mf_entry_J21 Q
  else
  (if (Q.1 19 0) ≤ l1 then
  mf_entry_J21 Q
  else
  (if l2 < 0 then
  mf_entry_J21 Q
  else
  (if l2 ≤ (3 : Int32) then
  zb1 (mo_jr Q 20 19 (((4 : Int32) * l1) + l2)) (fun u1 =>
  some (Q, u1))
  else
  mf_entry_J21 Q))))
theorem ms_entry {X : Xq} {M : Zm} {Q : Mq} (h : mR X M Q) (l1 : Int32) (l2 : Int32) : zG (mP X) (zf_X12_entry M (some X.2.2.1) l1 l2) (mf_entry Q l1 l2) := by
  unfold zf_X12_entry mf_entry
  refine zG_ite ?_ ?_
  · exact ms_entry_J21 h
  · refine zG_gi h rfl ?_
    refine zG_ite ?_ ?_
    · exact ms_entry_J21 h
    · refine zG_ite ?_ ?_
      · exact ms_entry_J21 h
      · refine zG_ite ?_ ?_
        · refine zG_jr h (by decide) (fun u1 => ?_)
          exact zG_some ⟨h, rfl⟩
        · exact ms_entry_J21 h
noncomputable def mf_fill_J23 (Q : Mq) : Option (Mq × Int64) :=
  mbd (mf_no Q (1 : Int32)) (fun Q1 u4 =>
  some (Q1, u4))
theorem ms_fill_J23 {X : Xq} {M : Zm} {Q : Mq} (h : mR X M Q)  : zG (mP X) (zf_X12_fill_J23 M (some X.2.2.1)) (mf_fill_J23 Q) := by
  unfold zf_X12_fill_J23 mf_fill_J23
  refine zG_rc h ?_
  refine zG_bd (ms_no h _) (fun M3 Q1 u4 h2 => ?_)
  exact zG_some ⟨h2, rfl⟩
noncomputable def mf_fill_J122 (Q : Mq) : Option (Mq × Int64) :=
  mbd (mf_no Q (12 : Int32)) (fun Q1 u4 =>
  some (Q1, u4))
theorem ms_fill_J122 {X : Xq} {M : Zm} {Q : Mq} (h : mR X M Q)  : zG (mP X) (zf_X12_fill_J122 M (some X.2.2.1)) (mf_fill_J122 Q) := by
  unfold zf_X12_fill_J122 mf_fill_J122
  refine zG_rc h ?_
  refine zG_bd (ms_no h _) (fun M3 Q1 u4 h2 => ?_)
  exact zG_some ⟨h2, rfl⟩
noncomputable def mf_fill (Q : Mq) (l1 : Int32) (l2 : Int32) (l3 : Int64) : Option (Mq × Int64) :=
  mbd (mf_begin Q) (fun Q1 _ =>
  (if l2 < 0 then
  mf_fill_J23 Q1
  else
  (if (4096 : Int32) ≤ l2 then
  mf_fill_J23 Q1
  else
  mbd (mf_isAmount Q1 l3) (fun Q4 u7 =>
  (if u7 = 0 then
  mf_fill_J23 Q4
  else
  mbd (mf_lookedVessel Q4 l1) (fun Q8 u11 =>
  (if u11 ≤ 0 then
  mbd (mf_isInCask Q8 l1) (fun Q12 u15 =>
  (if u15 = 0 then
  mbd (mf_most Q12 l1) (fun Q16 u19 =>
  mbd (mf_inVessel Q16 l1) (fun Q20 u23 =>
  (if (u23 + l3) ≤ u19 then
  zb1 (some (qi Q20 60 0 (0 : Int32))) (fun Q24 =>
  mbd (mf_mixInto Q24 l1) (fun Q27 u30 =>
  mbd (mf_mix Q27 l2 l3) (fun Q31 _ =>
  (if u30 = 0 then
  mf_fill_J122 Q31
  else
  (if (Q31.1 64 0) ≤ (60 : Int32) then
  mbd (mf_keep Q31) (fun Q34 _ =>
  mbd (mf_become Q34 l1) (fun Q37 _ =>
  mbd (mf_account Q37 l2 (0 : Int32) l3) (fun Q40 _ =>
  mbd (mf_enter Q40 (1 : Int32) (-1 : Int32) l1 l3) (fun Q43 _ =>
  mbd (mf_inVessel Q43 l1) (fun Q46 u49 =>
  some (Q46, u49))))))
  else
  mf_fill_J122 Q31)))))
  else
  mbd (mf_no Q20 (11 : Int32)) (fun Q50 u53 =>
  some (Q50, u53)))))
  else
  mbd (mf_no Q12 (9 : Int32)) (fun Q54 u57 =>
  some (Q54, u57))))
  else
  mbd (mf_no Q8 u11) (fun Q58 u61 =>
  some (Q58, u61)))))))))
theorem ms_fill {X : Xq} {M : Zm} {Q : Mq} (h : mR X M Q) (l1 : Int32) (l2 : Int32) (l3 : Int64) : zG (mP X) (zf_X12_fill M (some X.2.2.1) l1 l2 l3) (mf_fill Q l1 l2 l3) := by
  unfold zf_X12_fill mf_fill
  refine zG_rc h ?_
  refine zG_bd (ms_begin h) (fun M3 Q1 _ h2 => ?_)
  refine zG_ite ?_ ?_
  · exact ms_fill_J23 h2
  · refine zG_ite ?_ ?_
    · exact ms_fill_J23 h2
    · refine zG_rc h2 ?_
      refine zG_bd (ms_isAmount h2 _) (fun M6 Q4 u7 h5 => ?_)
      refine zG_ite ?_ ?_
      · exact ms_fill_J23 h5
      · refine zG_rc h5 ?_
        refine zG_bd (ms_lookedVessel h5 _) (fun M10 Q8 u11 h9 => ?_)
        refine zG_ite ?_ ?_
        · refine zG_rc h9 ?_
          refine zG_bd (ms_isInCask h9 _) (fun M14 Q12 u15 h13 => ?_)
          refine zG_ite ?_ ?_
          · refine zG_rc h13 ?_
            refine zG_bd (ms_most h13 _) (fun M18 Q16 u19 h17 => ?_)
            refine zG_rc h17 ?_
            refine zG_bd (ms_inVessel h17 _) (fun M22 Q20 u23 h21 => ?_)
            refine zG_ite ?_ ?_
            · refine zG_pi h21 rfl (by decide) (fun M26 Q24 h25 => ?_)
              refine zG_rc h25 ?_
              refine zG_bd (ms_mixInto h25 _) (fun M29 Q27 u30 h28 => ?_)
              refine zG_rc h28 ?_
              refine zG_bd (ms_mix h28 _ _) (fun M33 Q31 _ h32 => ?_)
              refine zG_ite ?_ ?_
              · exact ms_fill_J122 h32
              · refine zG_gi h32 rfl ?_
                refine zG_ite ?_ ?_
                · refine zG_rc h32 ?_
                  refine zG_bd (ms_keep h32) (fun M36 Q34 _ h35 => ?_)
                  refine zG_rc h35 ?_
                  refine zG_bd (ms_become h35 _) (fun M39 Q37 _ h38 => ?_)
                  refine zG_rc h38 ?_
                  refine zG_bd (ms_account h38 _ _ _) (fun M42 Q40 _ h41 => ?_)
                  refine zG_rc h41 ?_
                  refine zG_bd (ms_enter h41 _ _ _ _) (fun M45 Q43 _ h44 => ?_)
                  refine zG_rc h44 ?_
                  refine zG_bd (ms_inVessel h44 _) (fun M48 Q46 u49 h47 => ?_)
                  exact zG_some ⟨h47, rfl⟩
                · exact ms_fill_J122 h32
            · refine zG_rc h21 ?_
              refine zG_bd (ms_no h21 _) (fun M52 Q50 u53 h51 => ?_)
              exact zG_some ⟨h51, rfl⟩
          · refine zG_rc h13 ?_
            refine zG_bd (ms_no h13 _) (fun M56 Q54 u57 h55 => ?_)
            exact zG_some ⟨h55, rfl⟩
        · refine zG_rc h9 ?_
          refine zG_bd (ms_no h9 _) (fun M60 Q58 u61 h59 => ?_)
          exact zG_some ⟨h59, rfl⟩
noncomputable def mf_forget (Q : Mq) : Option (Mq × Int64) :=
  mbd (mf_begin Q) (fun Q1 _ =>
  zb1 (some (qi Q1 33 0 (0 : Int32))) (fun Q4 =>
  some (Q4, ((Q1.1 33 0).toInt64))))
theorem ms_forget {X : Xq} {M : Zm} {Q : Mq} (h : mR X M Q)  : zG (mP X) (zf_X12_forget M (some X.2.2.1)) (mf_forget Q) := by
  unfold zf_X12_forget mf_forget
  refine zG_rc h ?_
  refine zG_bd (ms_begin h) (fun M3 Q1 _ h2 => ?_)
  refine zG_gi h2 rfl ?_
  refine zG_pi h2 rfl (by decide) (fun M6 Q4 h5 => ?_)
  exact zG_some ⟨h5, rfl⟩
noncomputable def mf_holds_J246 (rec : Mq → Int32 → Option (Mq × Int32)) (Q : Mq) (l4 : Int32) : Option (Mq × Int32) :=
  (if l4 = 0 then
  some (Q, (0 : Int32))
  else
  some (Q, (1 : Int32)))
theorem ms_holds_J246 {X : Xq} {M : Zm} {Q : Mq} {rec0 : Zm → Option Nat → Int32 → Option (Zm × Int32)} {rec : Mq → Int32 → Option (Mq × Int32)} (hrec : ∀ (M : Zm) (Q : Mq) (_ : mR X M Q) (a0 : Int32), zG (mP X) (rec0 M (some X.2.2.1) a0) (rec Q a0)) (h : mR X M Q) (l4 : Int32) : zG (mP X) (zf_X12_holds_J246 rec0 M l4) (mf_holds_J246 rec Q l4) := by
  unfold zf_X12_holds_J246 mf_holds_J246
  refine zG_ite ?_ ?_
  · exact zG_some ⟨h, rfl⟩
  · exact zG_some ⟨h, rfl⟩
noncomputable def mf_holds_J125 (rec : Mq → Int32 → Option (Mq × Int32)) (Q : Mq) (s0 : Int32) : Option (Mq × Int32) :=
  mf_holds_J246 rec Q s0
theorem ms_holds_J125 {X : Xq} {M : Zm} {Q : Mq} {rec0 : Zm → Option Nat → Int32 → Option (Zm × Int32)} {rec : Mq → Int32 → Option (Mq × Int32)} (hrec : ∀ (M : Zm) (Q : Mq) (_ : mR X M Q) (a0 : Int32), zG (mP X) (rec0 M (some X.2.2.1) a0) (rec Q a0)) (h : mR X M Q) (s0 : Int32) : zG (mP X) (zf_X12_holds_J125 rec0 M s0) (mf_holds_J125 rec Q s0) := by
  unfold zf_X12_holds_J125 mf_holds_J125
  exact ms_holds_J246 hrec h _
noncomputable def mf_holds_J173 (rec : Mq → Int32 → Option (Mq × Int32)) (Q : Mq) (s0 : Int32) : Option (Mq × Int32) :=
  mf_holds_J246 rec Q s0
theorem ms_holds_J173 {X : Xq} {M : Zm} {Q : Mq} {rec0 : Zm → Option Nat → Int32 → Option (Zm × Int32)} {rec : Mq → Int32 → Option (Mq × Int32)} (hrec : ∀ (M : Zm) (Q : Mq) (_ : mR X M Q) (a0 : Int32), zG (mP X) (rec0 M (some X.2.2.1) a0) (rec Q a0)) (h : mR X M Q) (s0 : Int32) : zG (mP X) (zf_X12_holds_J173 rec0 M s0) (mf_holds_J173 rec Q s0) := by
  unfold zf_X12_holds_J173 mf_holds_J173
  exact ms_holds_J246 hrec h _
noncomputable def mf_holds_J202 (rec : Mq → Int32 → Option (Mq × Int32)) (Q : Mq) (s0 : Int32) : Option (Mq × Int32) :=
  mf_holds_J246 rec Q s0
theorem ms_holds_J202 {X : Xq} {M : Zm} {Q : Mq} {rec0 : Zm → Option Nat → Int32 → Option (Zm × Int32)} {rec : Mq → Int32 → Option (Mq × Int32)} (hrec : ∀ (M : Zm) (Q : Mq) (_ : mR X M Q) (a0 : Int32), zG (mP X) (rec0 M (some X.2.2.1) a0) (rec Q a0)) (h : mR X M Q) (s0 : Int32) : zG (mP X) (zf_X12_holds_J202 rec0 M s0) (mf_holds_J202 rec Q s0) := by
  unfold zf_X12_holds_J202 mf_holds_J202
  exact ms_holds_J246 hrec h _
noncomputable def mf_holds_J228 (rec : Mq → Int32 → Option (Mq × Int32)) (Q : Mq) (s0 : Int32) : Option (Mq × Int32) :=
  mf_holds_J246 rec Q s0
theorem ms_holds_J228 {X : Xq} {M : Zm} {Q : Mq} {rec0 : Zm → Option Nat → Int32 → Option (Zm × Int32)} {rec : Mq → Int32 → Option (Mq × Int32)} (hrec : ∀ (M : Zm) (Q : Mq) (_ : mR X M Q) (a0 : Int32), zG (mP X) (rec0 M (some X.2.2.1) a0) (rec Q a0)) (h : mR X M Q) (s0 : Int32) : zG (mP X) (zf_X12_holds_J228 rec0 M s0) (mf_holds_J228 rec Q s0) := by
  unfold zf_X12_holds_J228 mf_holds_J228
  exact ms_holds_J246 hrec h _
noncomputable def mf_holds_J244 (rec : Mq → Int32 → Option (Mq × Int32)) (Q : Mq) (s0 : Int32) : Option (Mq × Int32) :=
  mf_holds_J246 rec Q s0
theorem ms_holds_J244 {X : Xq} {M : Zm} {Q : Mq} {rec0 : Zm → Option Nat → Int32 → Option (Zm × Int32)} {rec : Mq → Int32 → Option (Mq × Int32)} (hrec : ∀ (M : Zm) (Q : Mq) (_ : mR X M Q) (a0 : Int32), zG (mP X) (rec0 M (some X.2.2.1) a0) (rec Q a0)) (h : mR X M Q) (s0 : Int32) : zG (mP X) (zf_X12_holds_J244 rec0 M s0) (mf_holds_J244 rec Q s0) := by
  unfold zf_X12_holds_J244 mf_holds_J244
  exact ms_holds_J246 hrec h _
noncomputable def mf_holds_J86 (rec : Mq → Int32 → Option (Mq × Int32)) (Q : Mq) (l1 : Int32) (l2 : Int64) : Option (Mq × Int32) :=
  zb1 (mo_ai Q 27 l1) (fun u1 =>
  (if u1 = (1 : Int32) then
  zb1 (zo_ld (l2 * (100 : Int64)) (Q.2 67 0)) (fun u2 =>
  zb1 (mo_ai Q 30 l1) (fun u3 =>
  (if u2 < (u3.toInt64) then
  mf_holds_J125 rec Q (0 : Int32)
  else
  mf_holds_J125 rec Q (1 : Int32))))
  else
  zb1 (mo_ai Q 27 l1) (fun u4 =>
  (if u4 = (2 : Int32) then
  zb1 (zo_ld (((l2 * (100 : Int64)) + (Q.2 67 0)) - (1 : Int64)) (Q.2 67 0)) (fun u5 =>
  zb1 (mo_ai Q 30 l1) (fun u6 =>
  (if (u6.toInt64) < u5 then
  mf_holds_J173 rec Q (0 : Int32)
  else
  mf_holds_J173 rec Q (1 : Int32))))
  else
  zb1 (mo_ai Q 27 l1) (fun u7 =>
  (if u7 = (3 : Int32) then
  (if l2 = (Q.2 67 0) then
  mf_holds_J202 rec Q (1 : Int32)
  else
  mf_holds_J202 rec Q (0 : Int32))
  else
  zb1 (mo_ai Q 27 l1) (fun u8 =>
  (if u8 = (4 : Int32) then
  (if l2 ≤ (0 : Int64) then
  mf_holds_J228 rec Q (0 : Int32)
  else
  mf_holds_J228 rec Q (1 : Int32))
  else
  (if l2 = (0 : Int64) then
  mf_holds_J244 rec Q (1 : Int32)
  else
  mf_holds_J244 rec Q (0 : Int32))))))))))
theorem ms_holds_J86 {X : Xq} {M : Zm} {Q : Mq} {rec0 : Zm → Option Nat → Int32 → Option (Zm × Int32)} {rec : Mq → Int32 → Option (Mq × Int32)} (hrec : ∀ (M : Zm) (Q : Mq) (_ : mR X M Q) (a0 : Int32), zG (mP X) (rec0 M (some X.2.2.1) a0) (rec Q a0)) (h : mR X M Q) (l1 : Int32) (l2 : Int64) : zG (mP X) (zf_X12_holds_J86 rec0 M (some X.2.2.1) l1 l2) (mf_holds_J86 rec Q l1 l2) := by
  unfold zf_X12_holds_J86 mf_holds_J86
  refine zG_gr h (by decide) ?_
  refine zG_ai h rfl (fun u1 => ?_)
  refine zG_ite ?_ ?_
  · refine zG_gj h rfl ?_
    refine zG_op (fun u2 => ?_)
    refine zG_gr h (by decide) ?_
    refine zG_ai h rfl (fun u3 => ?_)
    refine zG_ite ?_ ?_
    · exact ms_holds_J125 hrec h _
    · exact ms_holds_J125 hrec h _
  · refine zG_gr h (by decide) ?_
    refine zG_ai h rfl (fun u4 => ?_)
    refine zG_ite ?_ ?_
    · refine zG_gj h rfl ?_
      refine zG_gj h rfl ?_
      refine zG_op (fun u5 => ?_)
      refine zG_gr h (by decide) ?_
      refine zG_ai h rfl (fun u6 => ?_)
      refine zG_ite ?_ ?_
      · exact ms_holds_J173 hrec h _
      · exact ms_holds_J173 hrec h _
    · refine zG_gr h (by decide) ?_
      refine zG_ai h rfl (fun u7 => ?_)
      refine zG_ite ?_ ?_
      · refine zG_gj h rfl ?_
        refine zG_ite ?_ ?_
        · exact ms_holds_J202 hrec h _
        · exact ms_holds_J202 hrec h _
      · refine zG_gr h (by decide) ?_
        refine zG_ai h rfl (fun u8 => ?_)
        refine zG_ite ?_ ?_
        · refine zG_ite ?_ ?_
          · exact ms_holds_J228 hrec h _
          · exact ms_holds_J228 hrec h _
        · refine zG_ite ?_ ?_
          · exact ms_holds_J244 hrec h _
          · exact ms_holds_J244 hrec h _
noncomputable def mf_holdsbody (rec : Mq → Int32 → Option (Mq × Int32)) (Q : Mq) (l1 : Int32) : Option (Mq × Int32) :=
  zb1 (mo_ai Q 27 l1) (fun u1 =>
  (if u1 = (6 : Int32) then
  zb1 (mo_ai Q 31 l1) (fun u2 =>
  mbd (rec Q u2) (fun Q3 u6 =>
  (if u6 = 0 then
  zb1 (mo_ai Q3 32 l1) (fun u7 =>
  mbd (rec Q3 u7) (fun Q8 u11 =>
  some (Q8, u11)))
  else
  some (Q3, u6))))
  else
  zb1 (mo_ai Q 28 l1) (fun u12 =>
  zb1 (mo_ai Q 29 l1) (fun u13 =>
  zb1 (mo_aj Q 68 (((16 : Int32) * (u12 - (1 : Int32))) + u13)) (fun u14 =>
  zb1 (mo_ai Q 27 l1) (fun u15 =>
  (if (2 : Int32) < u15 then
  mf_holds_J86 rec Q l1 u14
  else
  (if (Q.2 67 0) = (0 : Int64) then
  some (Q, (-1 : Int32))
  else
  mf_holds_J86 rec Q l1 u14))))))))
theorem ms_holdsbody {X : Xq} {M : Zm} {Q : Mq} {rec0 : Zm → Option Nat → Int32 → Option (Zm × Int32)} {rec : Mq → Int32 → Option (Mq × Int32)} (hrec : ∀ (M : Zm) (Q : Mq) (_ : mR X M Q) (a0 : Int32), zG (mP X) (rec0 M (some X.2.2.1) a0) (rec Q a0)) (h : mR X M Q) (l1 : Int32) : zG (mP X) (zf_X12_holdsbody rec0 M (some X.2.2.1) l1) (mf_holdsbody rec Q l1) := by
  unfold zf_X12_holdsbody mf_holdsbody
  refine zG_gr h (by decide) ?_
  refine zG_ai h rfl (fun u1 => ?_)
  refine zG_ite ?_ ?_
  · refine zG_gr h (by decide) ?_
    refine zG_ai h rfl (fun u2 => ?_)
    refine zG_rc h ?_
    refine zG_bd (hrec _ _ h _) (fun M5 Q3 u6 h4 => ?_)
    refine zG_ite ?_ ?_
    · refine zG_gr h4 (by decide) ?_
      refine zG_ai h4 rfl (fun u7 => ?_)
      refine zG_rc h4 ?_
      refine zG_bd (hrec _ _ h4 _) (fun M10 Q8 u11 h9 => ?_)
      exact zG_some ⟨h9, rfl⟩
    · exact zG_some ⟨h4, rfl⟩
  · refine zG_gr h (by decide) ?_
    refine zG_gr h (by decide) ?_
    refine zG_ai h rfl (fun u12 => ?_)
    refine zG_gr h (by decide) ?_
    refine zG_ai h rfl (fun u13 => ?_)
    refine zG_aj h rfl (fun u14 => ?_)
    refine zG_gr h (by decide) ?_
    refine zG_ai h rfl (fun u15 => ?_)
    refine zG_ite ?_ ?_
    · exact ms_holds_J86 hrec h _ _
    · refine zG_gj h rfl ?_
      refine zG_ite ?_ ?_
      · exact zG_some ⟨h, rfl⟩
      · exact ms_holds_J86 hrec h _ _
noncomputable def mf_holds : Nat → Mq → Int32 → Option (Mq × Int32)
  | 0 => fun _ _ => none
  | d + 1 => mf_holdsbody (mf_holds d)
theorem ms_holds {X : Xq} : ∀ (d : Nat) (M : Zm) (Q : Mq) (_ : mR X M Q) (a0 : Int32), zG (mP X) (zf_X12_holds d M (some X.2.2.1) a0) (mf_holds d Q a0)
  | 0 => fun _ _ _ _ => fun _ e => (by cases e)
  | d + 1 => fun M Q h a0 => ms_holdsbody (ms_holds d) h _
noncomputable def mf_holdsAll_L7 (p1 : Int32) (x : Mq × Int32) : Option ((Mq × Int32) ⊕ ((Mq × Int32) ⊕ (Mq × Int32))) := match x with
  | (Q, l2) =>
  zb1 (mo_ai Q 25 p1) (fun u1 =>
  (if u1 ≤ l2 then
  some (.inr (.inl (Q, l2)))
  else
  zb1 (mo_ai Q 26 (((20 : Int32) * p1) + l2)) (fun u2 =>
  mbd (mf_holds 32 Q u2) (fun Q3 u6 =>
  (if u6 = (1 : Int32) then
  some (.inl (Q3, (l2 + 1)))
  else
  zb1 (some (qi Q3 69 0 l2)) (fun Q7 =>
  some (.inr (.inr (Q7, u6)))))))))
theorem ms_holdsAll_L7 {X : Xq} (p1 : Int32) : ∀ (x : Zm × Int32) (y : Mq × Int32), mP X x y → zG (mU (mP X) (mU (mP X) (mP X))) (zf_X12_holdsAll_L7 (some X.2.2.1) p1 x) (mf_holdsAll_L7 p1 y) := by
  rintro ⟨M, l2'⟩ ⟨Q, l2⟩ ⟨h, e⟩
  dsimp only at h e
  cases e
  unfold zf_X12_holdsAll_L7 mf_holdsAll_L7
  dsimp only
  refine zG_gr h (by decide) ?_
  refine zG_ai h rfl (fun u1 => ?_)
  refine zG_ite ?_ ?_
  · exact zG_some (show mP X _ _ from ⟨h, rfl⟩)
  · refine zG_gr h (by decide) ?_
    refine zG_ai h rfl (fun u2 => ?_)
    refine zG_rc h ?_
    refine zG_bd (ms_holds 32 _ _ h _) (fun M5 Q3 u6 h4 => ?_)
    refine zG_ite ?_ ?_
    · exact zG_some (show mP X _ _ from ⟨h4, rfl⟩)
    · refine zG_pi h4 rfl (by decide) (fun M9 Q7 h8 => ?_)
      exact zG_some (show mP X _ _ from ⟨h8, rfl⟩)
noncomputable def mf_holdsAll (Q : Mq) (l1 : Int32) : Option (Mq × Int32) :=
  zb1 (some (qi Q 69 0 (-1 : Int32))) (fun Q1 =>
  zb1 (zwhile (mf_holdsAll_L7 l1) (Q1, (0 : Int32))) (fun y8 => match y8 with
  | .inl (Q4, u7) =>
  some (Q4, (1 : Int32))
  | .inr q => some q))
theorem ms_holdsAll {X : Xq} {M : Zm} {Q : Mq} (h : mR X M Q) (l1 : Int32) : zG (mP X) (zf_X12_holdsAll M (some X.2.2.1) l1) (mf_holdsAll Q l1) := by
  unfold zf_X12_holdsAll mf_holdsAll
  refine zG_pi h rfl (by decide) (fun M3 Q1 h2 => ?_)
  refine zG_b1 (S := mU (mP X) (mP X)) (zG_wh (R := mP X) (ms_holdsAll_L7 _) ⟨h2, rfl⟩) ?_
  rintro (⟨M6, u7'⟩ | z1) (⟨Q4, u7⟩ | z2) hz
  · obtain ⟨h5, eh5⟩ := (show mP X _ _ from hz)
    dsimp only at h5 eh5
    cases eh5
    dsimp only
    exact zG_some ⟨h5, rfl⟩
  · exact hz.elim
  · exact hz.elim
  · exact zG_some (show mP X _ _ from hz)
noncomputable def mf_lookedCask (Q : Mq) (l1 : Int32) : Option (Mq × Int32) :=
  (if l1 < 0 then
  some (Q, (3 : Int32))
  else
  (if l1 < (1000 : Int32) then
  (if l1 < (Q.1 1 0) then
  zb1 (mo_ai Q 2 l1) (fun u1 =>
  (if u1 = (5 : Int32) then
  some (Q, (0 : Int32))
  else
  some (Q, (4 : Int32))))
  else
  some (Q, (2 : Int32)))
  else
  some (Q, (3 : Int32))))
theorem ms_lookedCask {X : Xq} {M : Zm} {Q : Mq} (h : mR X M Q) (l1 : Int32) : zG (mP X) (zf_X12_lookedCask M (some X.2.2.1) l1) (mf_lookedCask Q l1) := by
  unfold zf_X12_lookedCask mf_lookedCask
  refine zG_ite ?_ ?_
  · exact zG_some ⟨h, rfl⟩
  · refine zG_ite ?_ ?_
    · refine zG_gi h rfl ?_
      refine zG_ite ?_ ?_
      · refine zG_gr h (by decide) ?_
        refine zG_ai h rfl (fun u1 => ?_)
        refine zG_ite ?_ ?_
        · exact zG_some ⟨h, rfl⟩
        · exact zG_some ⟨h, rfl⟩
      · exact zG_some ⟨h, rfl⟩
    · exact zG_some ⟨h, rfl⟩
noncomputable def mf_join_J20 (Q : Mq) (l1 : Int32) (l2 : Int32) (l3 : Int32) : Option (Mq × Int64) :=
  (if l3 ≤ 0 then
  zb1 (mo_ai Q 5 l2) (fun u1 =>
  (if u1 = 0 then
  zb1 (mo_ai Q 6 l1) (fun u2 =>
  (if u2 = (4 : Int32) then
  mbd (mf_no Q (12 : Int32)) (fun Q3 u6 =>
  some (Q3, u6))
  else
  mbd (mf_keep Q) (fun Q7 _ =>
  zb1 (mo_ai Q7 6 l1) (fun u10 =>
  zb1 (mo_si Q7 7 (((4 : Int32) * l1) + u10) l2) (fun Q11 =>
  zb1 (mo_ai Q11 6 l1) (fun u14 =>
  zb1 (mo_si Q11 6 l1 (u14 + (1 : Int32))) (fun Q15 =>
  zb1 (mo_si Q15 5 l2 ((10000 : Int32) + l1)) (fun Q18 =>
  zb1 (mo_ai Q18 6 l1) (fun u21 =>
  some (Q18, (u21.toInt64)))))))))))
  else
  mbd (mf_no Q (9 : Int32)) (fun Q22 u25 =>
  some (Q22, u25))))
  else
  mbd (mf_no Q l3) (fun Q26 u29 =>
  some (Q26, u29)))
theorem ms_join_J20 {X : Xq} {M : Zm} {Q : Mq} (h : mR X M Q) (l1 : Int32) (l2 : Int32) (l3 : Int32) : zG (mP X) (zf_X12_join_J20 M (some X.2.2.1) l1 l2 l3) (mf_join_J20 Q l1 l2 l3) := by
  unfold zf_X12_join_J20 mf_join_J20
  refine zG_ite ?_ ?_
  · refine zG_gr h (by decide) ?_
    refine zG_ai h rfl (fun u1 => ?_)
    refine zG_ite ?_ ?_
    · refine zG_gr h (by decide) ?_
      refine zG_ai h rfl (fun u2 => ?_)
      refine zG_ite ?_ ?_
      · refine zG_rc h ?_
        refine zG_bd (ms_no h _) (fun M5 Q3 u6 h4 => ?_)
        exact zG_some ⟨h4, rfl⟩
      · refine zG_rc h ?_
        refine zG_bd (ms_keep h) (fun M9 Q7 _ h8 => ?_)
        refine zG_gr h8 (by decide) ?_
        refine zG_gr h8 (by decide) ?_
        refine zG_ai h8 rfl (fun u10 => ?_)
        refine zG_si h8 rfl (fun M13 Q11 h12 => ?_)
        refine zG_gr h12 (by decide) ?_
        refine zG_ai h12 rfl (fun u14 => ?_)
        refine zG_si h12 rfl (fun M17 Q15 h16 => ?_)
        refine zG_gr h16 (by decide) ?_
        refine zG_si h16 rfl (fun M20 Q18 h19 => ?_)
        refine zG_gr h19 (by decide) ?_
        refine zG_ai h19 rfl (fun u21 => ?_)
        exact zG_some ⟨h19, rfl⟩
    · refine zG_rc h ?_
      refine zG_bd (ms_no h _) (fun M24 Q22 u25 h23 => ?_)
      exact zG_some ⟨h23, rfl⟩
  · refine zG_rc h ?_
    refine zG_bd (ms_no h _) (fun M28 Q26 u29 h27 => ?_)
    exact zG_some ⟨h27, rfl⟩
noncomputable def mf_join (Q : Mq) (l1 : Int32) (l2 : Int32) : Option (Mq × Int64) :=
  mbd (mf_begin Q) (fun Q1 _ =>
  mbd (mf_lookedCask Q1 l1) (fun Q4 u7 =>
  (if u7 = 0 then
  mbd (mf_lookedVessel Q4 l2) (fun Q8 u11 =>
  mf_join_J20 Q8 l1 l2 u11)
  else
  mf_join_J20 Q4 l1 l2 u7)))
theorem ms_join {X : Xq} {M : Zm} {Q : Mq} (h : mR X M Q) (l1 : Int32) (l2 : Int32) : zG (mP X) (zf_X12_join M (some X.2.2.1) l1 l2) (mf_join Q l1 l2) := by
  unfold zf_X12_join mf_join
  refine zG_rc h ?_
  refine zG_bd (ms_begin h) (fun M3 Q1 _ h2 => ?_)
  refine zG_rc h2 ?_
  refine zG_bd (ms_lookedCask h2 _) (fun M6 Q4 u7 h5 => ?_)
  refine zG_ite ?_ ?_
  · refine zG_rc h5 ?_
    refine zG_bd (ms_lookedVessel h5 _) (fun M10 Q8 u11 h9 => ?_)
    exact ms_join_J20 h9 _ _ _
  · exact ms_join_J20 h5 _ _ _
noncomputable def mf_lookedLabel (Q : Mq) (l1 : Int32) : Option (Mq × Int32) :=
  (if l1 < 0 then
  some (Q, (3 : Int32))
  else
  (if l1 < (40 : Int32) then
  (if (Q.1 23 0) ≤ l1 then
  some (Q, (2 : Int32))
  else
  some (Q, (0 : Int32)))
  else
  some (Q, (3 : Int32))))
theorem ms_lookedLabel {X : Xq} {M : Zm} {Q : Mq} (h : mR X M Q) (l1 : Int32) : zG (mP X) (zf_X12_lookedLabel M (some X.2.2.1) l1) (mf_lookedLabel Q l1) := by
  unfold zf_X12_lookedLabel mf_lookedLabel
  refine zG_ite ?_ ?_
  · exact zG_some ⟨h, rfl⟩
  · refine zG_ite ?_ ?_
    · refine zG_gi h rfl ?_
      refine zG_ite ?_ ?_
      · exact zG_some ⟨h, rfl⟩
      · exact zG_some ⟨h, rfl⟩
    · exact zG_some ⟨h, rfl⟩
noncomputable def mf_mixVessel_L5 (p1 : Int32) (x : Mq × Int32) : Option ((Mq × Int32) ⊕ (Mq × Int32)) := match x with
  | (Q, l2) =>
  zb1 (mo_ai Q 8 p1) (fun u1 =>
  (if (((60 : Int32) * p1) + u1) ≤ l2 then
  some (.inr (Q, l2))
  else
  zb1 (mo_ai Q 9 l2) (fun u2 =>
  zb1 (mo_aj Q 10 l2) (fun u3 =>
  mbd (mf_mix Q u2 u3) (fun Q4 _ =>
  some (.inl (Q4, (l2 + 1))))))))
theorem ms_mixVessel_L5 {X : Xq} (p1 : Int32) : ∀ (x : Zm × Int32) (y : Mq × Int32), mP X x y → zG (mU (mP X) (mP X)) (zf_X12_mixVessel_L5 (some X.2.2.1) p1 x) (mf_mixVessel_L5 p1 y) := by
  rintro ⟨M, l2'⟩ ⟨Q, l2⟩ ⟨h, e⟩
  dsimp only at h e
  cases e
  unfold zf_X12_mixVessel_L5 mf_mixVessel_L5
  dsimp only
  refine zG_gr h (by decide) ?_
  refine zG_ai h rfl (fun u1 => ?_)
  refine zG_ite ?_ ?_
  · exact zG_some (show mP X _ _ from ⟨h, rfl⟩)
  · refine zG_gr h (by decide) ?_
    refine zG_ai h rfl (fun u2 => ?_)
    refine zG_gr h (by decide) ?_
    refine zG_aj h rfl (fun u3 => ?_)
    refine zG_rc h ?_
    refine zG_bd (ms_mix h _ _) (fun M6 Q4 _ h5 => ?_)
    exact zG_some (show mP X _ _ from ⟨h5, rfl⟩)
noncomputable def mf_mixVessel (Q : Mq) (l1 : Int32) : Option (Mq × Unit) :=
  zb1 (zwhile (mf_mixVessel_L5 l1) (Q, ((60 : Int32) * l1))) (fun y5 => match y5 with
  | (Q1, u4) =>
  some (Q1, ()))
theorem ms_mixVessel {X : Xq} {M : Zm} {Q : Mq} (h : mR X M Q) (l1 : Int32) : zG (mP X) (zf_X12_mixVessel M (some X.2.2.1) l1) (mf_mixVessel Q l1) := by
  unfold zf_X12_mixVessel mf_mixVessel
  refine zG_b1 (S := mP X) (zG_wh (R := mP X) (ms_mixVessel_L5 _) ⟨h, rfl⟩) ?_
  rintro ⟨M3, u4'⟩ ⟨Q1, u4⟩ ⟨h2, eh2⟩
  dsimp only at h2 eh2
  cases eh2
  dsimp only
  exact zG_some ⟨h2, rfl⟩
noncomputable def mf_sharesOfMix_L2 (p1 : Nat) (p2 : Int32) (x : Mq × Int32) : Option ((Mq × Int32) ⊕ (Mq × Int32)) := match x with
  | (Q, l3) =>
  (if (48 : Int32) ≤ l3 then
  some (.inr (Q, l3))
  else
  zb1 (mo_sj Q p1 (p2 + l3) (0 : Int64)) (fun Q1 =>
  some (.inl (Q1, (l3 + 1)))))
theorem ms_sharesOfMix_L2 {X : Xq} (p1 : Nat) (hf_p1 : mty p1 = 3) (p2 : Int32) : ∀ (x : Zm × Int32) (y : Mq × Int32), mP X x y → zG (mU (mP X) (mP X)) (zf_X12_sharesOfMix_L2 (some X.2.2.1) (some (X.2.2.2.1 p1)) p2 x) (mf_sharesOfMix_L2 p1 p2 y) := by
  rintro ⟨M, l3'⟩ ⟨Q, l3⟩ ⟨h, e⟩
  dsimp only at h e
  cases e
  unfold zf_X12_sharesOfMix_L2 mf_sharesOfMix_L2
  dsimp only
  refine zG_ite ?_ ?_
  · exact zG_some (show mP X _ _ from ⟨h, rfl⟩)
  · refine zG_sj h hf_p1 (fun M3 Q1 h2 => ?_)
    exact zG_some (show mP X _ _ from ⟨h2, rfl⟩)
noncomputable def mf_sharesOfMix_L22 (p1 : Nat) (p2 : Int32) (x : Mq × Int32) : Option ((Mq × Int32) ⊕ (Mq × Int32)) := match x with
  | (Q, l3) =>
  (if (Q.1 64 0) ≤ l3 then
  some (.inr (Q, l3))
  else
  zb1 (mo_ai Q 65 l3) (fun u1 =>
  zb1 (zo_id u1 (256 : Int32)) (fun u2 =>
  zb1 (mo_ai Q 65 l3) (fun u3 =>
  zb1 (zo_id u3 (16 : Int32)) (fun u4 =>
  zb1 (zo_im u4 (16 : Int32)) (fun u5 =>
  zb1 (mo_ai Q 65 l3) (fun u6 =>
  zb1 (zo_im u6 (16 : Int32)) (fun u7 =>
  zb1 (mo_aj Q p1 (p2 + u2)) (fun u8 =>
  zb1 (mo_aj Q 66 l3) (fun u9 =>
  zb1 (mo_sj Q p1 (p2 + u2) (u8 + u9)) (fun Q10 =>
  zb1 (mo_aj Q10 p1 ((p2 + (16 : Int32)) + u5)) (fun u13 =>
  zb1 (mo_aj Q10 66 l3) (fun u14 =>
  zb1 (mo_sj Q10 p1 ((p2 + (16 : Int32)) + u5) (u13 + u14)) (fun Q15 =>
  zb1 (mo_aj Q15 p1 ((p2 + (32 : Int32)) + u7)) (fun u18 =>
  zb1 (mo_aj Q15 66 l3) (fun u19 =>
  zb1 (mo_sj Q15 p1 ((p2 + (32 : Int32)) + u7) (u18 + u19)) (fun Q20 =>
  some (.inl (Q20, (l3 + 1))))))))))))))))))))
theorem ms_sharesOfMix_L22 {X : Xq} (p1 : Nat) (hf_p1 : mty p1 = 3) (p2 : Int32) : ∀ (x : Zm × Int32) (y : Mq × Int32), mP X x y → zG (mU (mP X) (mP X)) (zf_X12_sharesOfMix_L22 (some X.2.2.1) (some (X.2.2.2.1 p1)) p2 x) (mf_sharesOfMix_L22 p1 p2 y) := by
  rintro ⟨M, l3'⟩ ⟨Q, l3⟩ ⟨h, e⟩
  dsimp only at h e
  cases e
  unfold zf_X12_sharesOfMix_L22 mf_sharesOfMix_L22
  dsimp only
  refine zG_gi h rfl ?_
  refine zG_ite ?_ ?_
  · exact zG_some (show mP X _ _ from ⟨h, rfl⟩)
  · refine zG_gr h (by decide) ?_
    refine zG_ai h rfl (fun u1 => ?_)
    refine zG_op (fun u2 => ?_)
    refine zG_gr h (by decide) ?_
    refine zG_ai h rfl (fun u3 => ?_)
    refine zG_op (fun u4 => ?_)
    refine zG_op (fun u5 => ?_)
    refine zG_gr h (by decide) ?_
    refine zG_ai h rfl (fun u6 => ?_)
    refine zG_op (fun u7 => ?_)
    refine zG_aj h hf_p1 (fun u8 => ?_)
    refine zG_gr h (by decide) ?_
    refine zG_aj h rfl (fun u9 => ?_)
    refine zG_sj h hf_p1 (fun M12 Q10 h11 => ?_)
    refine zG_aj h11 hf_p1 (fun u13 => ?_)
    refine zG_gr h11 (by decide) ?_
    refine zG_aj h11 rfl (fun u14 => ?_)
    refine zG_sj h11 hf_p1 (fun M17 Q15 h16 => ?_)
    refine zG_aj h16 hf_p1 (fun u18 => ?_)
    refine zG_gr h16 (by decide) ?_
    refine zG_aj h16 rfl (fun u19 => ?_)
    refine zG_sj h16 hf_p1 (fun M22 Q20 h21 => ?_)
    exact zG_some (show mP X _ _ from ⟨h21, rfl⟩)
noncomputable def mf_sharesOfMix (Q : Mq) (l1 : Nat) (l2 : Int32) : Option (Mq × Unit) :=
  zb1 (zwhile (mf_sharesOfMix_L2 l1 l2) (Q, (0 : Int32))) (fun y10 => match y10 with
  | (Q1, u4) =>
  zb1 (zwhile (mf_sharesOfMix_L22 l1 l2) (Q1, (0 : Int32))) (fun y9 => match y9 with
  | (Q5, u8) =>
  some (Q5, ())))
theorem ms_sharesOfMix {X : Xq} {M : Zm} {Q : Mq} (h : mR X M Q) (l1 : Nat) (hf_l1 : mty l1 = 3) (l2 : Int32) : zG (mP X) (zf_X12_sharesOfMix M (some X.2.2.1) (some (X.2.2.2.1 l1)) l2) (mf_sharesOfMix Q l1 l2) := by
  unfold zf_X12_sharesOfMix mf_sharesOfMix
  refine zG_b1 (S := mP X) (zG_wh (R := mP X) (ms_sharesOfMix_L2 _ hf_l1 _) ⟨h, rfl⟩) ?_
  rintro ⟨M3, u4'⟩ ⟨Q1, u4⟩ ⟨h2, eh2⟩
  dsimp only at h2 eh2
  cases eh2
  dsimp only
  refine zG_b1 (S := mP X) (zG_wh (R := mP X) (ms_sharesOfMix_L22 _ hf_l1 _) ⟨h2, rfl⟩) ?_
  rintro ⟨M7, u8'⟩ ⟨Q5, u8⟩ ⟨h6, eh6⟩
  dsimp only at h6 eh6
  cases eh6
  dsimp only
  exact zG_some ⟨h6, rfl⟩
noncomputable def mf_judge_L58 (p1 : Int32) (p2 : Int32) (x : Mq × Int32) : Option ((Mq × Int32) ⊕ (Mq × Int32)) := match x with
  | (Q, l4) =>
  zb1 (mo_ai Q 6 p1) (fun u1 =>
  (if u1 ≤ l4 then
  some (.inr (Q, l4))
  else
  zb1 (mo_ai Q 7 (((4 : Int32) * p1) + l4)) (fun u2 =>
  mbd (mf_mixVessel Q u2) (fun Q3 _ =>
  some (.inl (Q3, (l4 + 1)))))))
theorem ms_judge_L58 {X : Xq} (p1 : Int32) (p2 : Int32) : ∀ (x : Zm × Int32) (y : Mq × Int32), mP X x y → zG (mU (mP X) (mP X)) (zf_X12_judge_L58 (some X.2.2.1) p1 p2 x) (mf_judge_L58 p1 p2 y) := by
  rintro ⟨M, l4'⟩ ⟨Q, l4⟩ ⟨h, e⟩
  dsimp only at h e
  cases e
  unfold zf_X12_judge_L58 mf_judge_L58
  dsimp only
  refine zG_gr h (by decide) ?_
  refine zG_ai h rfl (fun u1 => ?_)
  refine zG_ite ?_ ?_
  · exact zG_some (show mP X _ _ from ⟨h, rfl⟩)
  · refine zG_gr h (by decide) ?_
    refine zG_ai h rfl (fun u2 => ?_)
    refine zG_rc h ?_
    refine zG_bd (ms_mixVessel h _) (fun M5 Q3 _ h4 => ?_)
    exact zG_some (show mP X _ _ from ⟨h4, rfl⟩)
noncomputable def mf_judge_J55 (Q : Mq) (l1 : Int32) (l2 : Int32) : Option (Mq × Int64) :=
  zb1 (zwhile (mf_judge_L58 l1 l2) (Q, (0 : Int32))) (fun y26 => match y26 with
  | (Q1, u4) =>
  mbd (mf_sharesOfMix Q1 68 (0 : Int32)) (fun Q5 _ =>
  mbd (mf_inAll Q5 l1) (fun Q8 u11 =>
  zb1 (some (qj Q8 67 0 u11)) (fun Q12 =>
  mbd (mf_holdsAll Q12 l2) (fun Q15 u18 =>
  zb1 (some (qi Q15 40 0 (Q15.1 69 0))) (fun Q19 =>
  (if 0 ≤ u18 then
  some (Q19, (u18.toInt64))
  else
  mbd (mf_no Q19 (5 : Int32)) (fun Q22 u25 =>
  some (Q22, u25)))))))))
theorem ms_judge_J55 {X : Xq} {M : Zm} {Q : Mq} (h : mR X M Q) (l1 : Int32) (l2 : Int32) : zG (mP X) (zf_X12_judge_J55 M (some X.2.2.1) l1 l2) (mf_judge_J55 Q l1 l2) := by
  unfold zf_X12_judge_J55 mf_judge_J55
  refine zG_b1 (S := mP X) (zG_wh (R := mP X) (ms_judge_L58 _ _) ⟨h, rfl⟩) ?_
  rintro ⟨M3, u4'⟩ ⟨Q1, u4⟩ ⟨h2, eh2⟩
  dsimp only at h2 eh2
  cases eh2
  dsimp only
  refine zG_gr h2 (by decide) ?_
  refine zG_rc h2 ?_
  refine zG_bd (ms_sharesOfMix h2 _ rfl _) (fun M7 Q5 _ h6 => ?_)
  refine zG_rc h6 ?_
  refine zG_bd (ms_inAll h6 _) (fun M10 Q8 u11 h9 => ?_)
  refine zG_pj h9 rfl (fun M14 Q12 h13 => ?_)
  refine zG_rc h13 ?_
  refine zG_bd (ms_holdsAll h13 _) (fun M17 Q15 u18 h16 => ?_)
  refine zG_gi h16 rfl ?_
  refine zG_pi h16 rfl (by decide) (fun M21 Q19 h20 => ?_)
  refine zG_ite ?_ ?_
  · exact zG_some ⟨h20, rfl⟩
  · refine zG_rc h20 ?_
    refine zG_bd (ms_no h20 _) (fun M24 Q22 u25 h23 => ?_)
    exact zG_some ⟨h23, rfl⟩
