/-! The reference over the value, 3. -/
noncomputable def mf_judge_J25 (Q : Mq) (l1 : Int32) (l2 : Int32) (l3 : Int32) : Option (Mq × Int64) :=
  (if l3 ≤ 0 then
  zb1 (some (qi Q 64 0 (0 : Int32))) (fun Q1 =>
  zb1 (mo_ai Q1 2 l1) (fun u4 =>
  (if u4 = (5 : Int32) then
  mf_judge_J55 Q1 l1 l2
  else
  mbd (mf_mixVessel Q1 l1) (fun Q5 _ =>
  mf_judge_J55 Q5 l1 l2))))
  else
  mbd (mf_no Q l3) (fun Q8 u11 =>
  some (Q8, u11)))
theorem ms_judge_J25 {X : Xq} {M : Zm} {Q : Mq} (h : mR X M Q) (l1 : Int32) (l2 : Int32) (l3 : Int32) : zG (mP X) (zf_X12_judge_J25 M (some X.2.2.1) l1 l2 l3) (mf_judge_J25 Q l1 l2 l3) := by
  unfold zf_X12_judge_J25 mf_judge_J25
  refine zG_ite ?_ ?_
  · refine zG_pi h rfl (by decide) (fun M3 Q1 h2 => ?_)
    refine zG_gr h2 (by decide) ?_
    refine zG_ai h2 rfl (fun u4 => ?_)
    refine zG_ite ?_ ?_
    · exact ms_judge_J55 h2 _ _
    · refine zG_rc h2 ?_
      refine zG_bd (ms_mixVessel h2 _) (fun M7 Q5 _ h6 => ?_)
      exact ms_judge_J55 h6 _ _
  · refine zG_rc h ?_
    refine zG_bd (ms_no h _) (fun M10 Q8 u11 h9 => ?_)
    exact zG_some ⟨h9, rfl⟩
noncomputable def mf_judge (Q : Mq) (l1 : Int32) (l2 : Int32) : Option (Mq × Int64) :=
  mbd (mf_begin Q) (fun Q1 _ =>
  zb1 (some (qi Q1 40 0 (-1 : Int32))) (fun Q4 =>
  mbd (mf_looked Q4 l1) (fun Q7 u10 =>
  (if u10 = 0 then
  mbd (mf_lookedLabel Q7 l2) (fun Q11 u14 =>
  mf_judge_J25 Q11 l1 l2 u14)
  else
  mf_judge_J25 Q7 l1 l2 u10))))
theorem ms_judge {X : Xq} {M : Zm} {Q : Mq} (h : mR X M Q) (l1 : Int32) (l2 : Int32) : zG (mP X) (zf_X12_judge M (some X.2.2.1) l1 l2) (mf_judge Q l1 l2) := by
  unfold zf_X12_judge mf_judge
  refine zG_rc h ?_
  refine zG_bd (ms_begin h) (fun M3 Q1 _ h2 => ?_)
  refine zG_pi h2 rfl (by decide) (fun M6 Q4 h5 => ?_)
  refine zG_rc h5 ?_
  refine zG_bd (ms_looked h5 _) (fun M9 Q7 u10 h8 => ?_)
  refine zG_ite ?_ ?_
  · refine zG_rc h8 ?_
    refine zG_bd (ms_lookedLabel h8 _) (fun M13 Q11 u14 h12 => ?_)
    exact ms_judge_J25 h12 _ _ _
  · exact ms_judge_J25 h8 _ _ _
noncomputable def mf_kindOf (Q : Mq) (l1 : Int32) : Option (Mq × Int32) :=
  mbd (mf_isBarrel Q l1) (fun Q1 u4 =>
  (if u4 = 0 then
  some (Q1, (0 : Int32))
  else
  zb1 (mo_ai Q1 2 l1) (fun u5 =>
  some (Q1, u5))))
theorem ms_kindOf {X : Xq} {M : Zm} {Q : Mq} (h : mR X M Q) (l1 : Int32) : zG (mP X) (zf_X12_kindOf M (some X.2.2.1) l1) (mf_kindOf Q l1) := by
  unfold zf_X12_kindOf mf_kindOf
  refine zG_rc h ?_
  refine zG_bd (ms_isBarrel h _) (fun M3 Q1 u4 h2 => ?_)
  refine zG_ite ?_ ?_
  · exact zG_some ⟨h2, rfl⟩
  · refine zG_gr h2 (by decide) ?_
    refine zG_ai h2 rfl (fun u5 => ?_)
    exact zG_some ⟨h2, rfl⟩
noncomputable def mf_label (Q : Mq) : Option (Mq × Int64) :=
  mbd (mf_begin Q) (fun Q1 _ =>
  (if (Q1.1 23 0) = (40 : Int32) then
  mbd (mf_no Q1 (12 : Int32)) (fun Q4 u7 =>
  some (Q4, u7))
  else
  zb1 (mo_si Q1 24 (Q1.1 23 0) (0 : Int32)) (fun Q8 =>
  zb1 (mo_si Q8 25 (Q8.1 23 0) (0 : Int32)) (fun Q11 =>
  zb1 (some (qi Q11 23 0 ((Q11.1 23 0) + (1 : Int32)))) (fun Q14 =>
  some (Q14, ((((Q14.1 23 0) - (1 : Int32))).toInt64)))))))
theorem ms_label {X : Xq} {M : Zm} {Q : Mq} (h : mR X M Q)  : zG (mP X) (zf_X12_label M (some X.2.2.1)) (mf_label Q) := by
  unfold zf_X12_label mf_label
  refine zG_rc h ?_
  refine zG_bd (ms_begin h) (fun M3 Q1 _ h2 => ?_)
  refine zG_gi h2 rfl ?_
  refine zG_ite ?_ ?_
  · refine zG_rc h2 ?_
    refine zG_bd (ms_no h2 _) (fun M6 Q4 u7 h5 => ?_)
    exact zG_some ⟨h5, rfl⟩
  · refine zG_gr h2 (by decide) ?_
    refine zG_gi h2 rfl ?_
    refine zG_si h2 rfl (fun M10 Q8 h9 => ?_)
    refine zG_gr h9 (by decide) ?_
    refine zG_gi h9 rfl ?_
    refine zG_si h9 rfl (fun M13 Q11 h12 => ?_)
    refine zG_gi h12 rfl ?_
    refine zG_pi h12 rfl (by decide) (fun M16 Q14 h15 => ?_)
    refine zG_gi h15 rfl ?_
    exact zG_some ⟨h15, rfl⟩
noncomputable def mf_takes_J21 (Q : Mq) : Option (Mq × Int32) :=
  zb1 (zo_b (1 : Int32)) (fun u1 =>
  some (Q, u1))
theorem ms_takes_J21 {X : Xq} {M : Zm} {Q : Mq} (h : mR X M Q)  : zG (mP X) (zf_X12_takes_J21 M) (mf_takes_J21 Q) := by
  unfold zf_X12_takes_J21 mf_takes_J21
  refine zG_op (fun u1 => ?_)
  exact zG_some ⟨h, rfl⟩
noncomputable def mf_takes_J42 (Q : Mq) : Option (Mq × Int32) :=
  zb1 (zo_b (1 : Int32)) (fun u1 =>
  some (Q, u1))
theorem ms_takes_J42 {X : Xq} {M : Zm} {Q : Mq} (h : mR X M Q)  : zG (mP X) (zf_X12_takes_J42 M) (mf_takes_J42 Q) := by
  unfold zf_X12_takes_J42 mf_takes_J42
  refine zG_op (fun u1 => ?_)
  exact zG_some ⟨h, rfl⟩
noncomputable def mf_takes (Q : Mq) (l0 : Int32) (l1 : Int32) : Option (Mq × Int32) :=
  (if l0 = 0 then
  zb1 (zo_b (1 : Int32)) (fun u1 =>
  some (Q, u1))
  else
  (if l0 = (1 : Int32) then
  (if l1 = (1 : Int32) then
  mf_takes_J21 Q
  else
  (if l1 = (2 : Int32) then
  mf_takes_J21 Q
  else
  zb1 (zo_b (0 : Int32)) (fun u2 =>
  some (Q, u2))))
  else
  (if l0 = (3 : Int32) then
  (if l1 = (3 : Int32) then
  mf_takes_J42 Q
  else
  (if l1 = (4 : Int32) then
  mf_takes_J42 Q
  else
  zb1 (zo_b (0 : Int32)) (fun u3 =>
  some (Q, u3))))
  else
  (if l0 = (6 : Int32) then
  (if l1 = (5 : Int32) then
  zb1 (zo_b (0 : Int32)) (fun u4 =>
  some (Q, u4))
  else
  zb1 (zo_b (1 : Int32)) (fun u5 =>
  some (Q, u5)))
  else
  (if l0 = l1 then
  zb1 (zo_b (1 : Int32)) (fun u6 =>
  some (Q, u6))
  else
  zb1 (zo_b (0 : Int32)) (fun u7 =>
  some (Q, u7)))))))
theorem ms_takes {X : Xq} {M : Zm} {Q : Mq} (h : mR X M Q) (l0 : Int32) (l1 : Int32) : zG (mP X) (zf_X12_takes M l0 l1) (mf_takes Q l0 l1) := by
  unfold zf_X12_takes mf_takes
  refine zG_ite ?_ ?_
  · refine zG_op (fun u1 => ?_)
    exact zG_some ⟨h, rfl⟩
  · refine zG_ite ?_ ?_
    · refine zG_ite ?_ ?_
      · exact ms_takes_J21 h
      · refine zG_ite ?_ ?_
        · exact ms_takes_J21 h
        · refine zG_op (fun u2 => ?_)
          exact zG_some ⟨h, rfl⟩
    · refine zG_ite ?_ ?_
      · refine zG_ite ?_ ?_
        · exact ms_takes_J42 h
        · refine zG_ite ?_ ?_
          · exact ms_takes_J42 h
          · refine zG_op (fun u3 => ?_)
            exact zG_some ⟨h, rfl⟩
      · refine zG_ite ?_ ?_
        · refine zG_ite ?_ ?_
          · refine zG_op (fun u4 => ?_)
            exact zG_some ⟨h, rfl⟩
          · refine zG_op (fun u5 => ?_)
            exact zG_some ⟨h, rfl⟩
        · refine zG_ite ?_ ?_
          · refine zG_op (fun u6 => ?_)
            exact zG_some ⟨h, rfl⟩
          · refine zG_op (fun u7 => ?_)
            exact zG_some ⟨h, rfl⟩
noncomputable def mf_lay (Q : Mq) (l1 : Int32) (l2 : Int32) (l3 : Int32) : Option (Mq × Int64) :=
  mbd (mf_begin Q) (fun Q1 _ =>
  mbd (mf_looked Q1 l1) (fun Q4 u7 =>
  (if u7 ≤ 0 then
  zb1 (mo_ai Q4 5 l1) (fun u8 =>
  (if u8 = 0 then
  mbd (mf_readPlace Q4 l2 l3) (fun Q9 u12 =>
  (if u12 ≤ 0 then
  zb1 (mo_ai Q9 13 (((60 : Int32) * l2) + l3)) (fun u13 =>
  (if u13 < 0 then
  zb1 (mo_ai Q9 11 l2) (fun u14 =>
  zb1 (mo_ai Q9 2 l1) (fun u15 =>
  mbd (mf_takes Q9 u14 u15) (fun Q16 u19 =>
  (if u19 = 0 then
  mbd (mf_no Q16 (4 : Int32)) (fun Q20 u23 =>
  some (Q20, u23))
  else
  mbd (mf_keep Q16) (fun Q24 _ =>
  zb1 (mo_si Q24 13 (((60 : Int32) * l2) + l3) l1) (fun Q27 =>
  zb1 (mo_si Q27 5 l1 (((1 : Int32) + ((100 : Int32) * l2)) + l3)) (fun Q30 =>
  some (Q30, (l1.toInt64)))))))))
  else
  mbd (mf_no Q9 (8 : Int32)) (fun Q33 u36 =>
  some (Q33, u36))))
  else
  mbd (mf_no Q9 u12) (fun Q37 u40 =>
  some (Q37, u40))))
  else
  mbd (mf_no Q4 (9 : Int32)) (fun Q41 u44 =>
  some (Q41, u44))))
  else
  mbd (mf_no Q4 u7) (fun Q45 u48 =>
  some (Q45, u48)))))
theorem ms_lay {X : Xq} {M : Zm} {Q : Mq} (h : mR X M Q) (l1 : Int32) (l2 : Int32) (l3 : Int32) : zG (mP X) (zf_X12_lay M (some X.2.2.1) l1 l2 l3) (mf_lay Q l1 l2 l3) := by
  unfold zf_X12_lay mf_lay
  refine zG_rc h ?_
  refine zG_bd (ms_begin h) (fun M3 Q1 _ h2 => ?_)
  refine zG_rc h2 ?_
  refine zG_bd (ms_looked h2 _) (fun M6 Q4 u7 h5 => ?_)
  refine zG_ite ?_ ?_
  · refine zG_gr h5 (by decide) ?_
    refine zG_ai h5 rfl (fun u8 => ?_)
    refine zG_ite ?_ ?_
    · refine zG_rc h5 ?_
      refine zG_bd (ms_readPlace h5 _ _) (fun M11 Q9 u12 h10 => ?_)
      refine zG_ite ?_ ?_
      · refine zG_gr h10 (by decide) ?_
        refine zG_ai h10 rfl (fun u13 => ?_)
        refine zG_ite ?_ ?_
        · refine zG_gr h10 (by decide) ?_
          refine zG_ai h10 rfl (fun u14 => ?_)
          refine zG_gr h10 (by decide) ?_
          refine zG_ai h10 rfl (fun u15 => ?_)
          refine zG_bd (ms_takes h10 _ _) (fun M18 Q16 u19 h17 => ?_)
          refine zG_ite ?_ ?_
          · refine zG_rc h17 ?_
            refine zG_bd (ms_no h17 _) (fun M22 Q20 u23 h21 => ?_)
            exact zG_some ⟨h21, rfl⟩
          · refine zG_rc h17 ?_
            refine zG_bd (ms_keep h17) (fun M26 Q24 _ h25 => ?_)
            refine zG_gr h25 (by decide) ?_
            refine zG_si h25 rfl (fun M29 Q27 h28 => ?_)
            refine zG_gr h28 (by decide) ?_
            refine zG_si h28 rfl (fun M32 Q30 h31 => ?_)
            exact zG_some ⟨h31, rfl⟩
        · refine zG_rc h10 ?_
          refine zG_bd (ms_no h10 _) (fun M35 Q33 u36 h34 => ?_)
          exact zG_some ⟨h34, rfl⟩
      · refine zG_rc h10 ?_
        refine zG_bd (ms_no h10 _) (fun M39 Q37 u40 h38 => ?_)
        exact zG_some ⟨h38, rfl⟩
    · refine zG_rc h5 ?_
      refine zG_bd (ms_no h5 _) (fun M43 Q41 u44 h42 => ?_)
      exact zG_some ⟨h42, rfl⟩
  · refine zG_rc h5 ?_
    refine zG_bd (ms_no h5 _) (fun M47 Q45 u48 h46 => ?_)
    exact zG_some ⟨h46, rfl⟩
noncomputable def mf_leave (Q : Mq) (l1 : Int32) : Option (Mq × Int64) :=
  mbd (mf_begin Q) (fun Q1 _ =>
  mbd (mf_lookedCask Q1 l1) (fun Q4 u7 =>
  (if u7 ≤ 0 then
  zb1 (mo_ai Q4 6 l1) (fun u8 =>
  (if u8 = 0 then
  mbd (mf_no Q4 (3 : Int32)) (fun Q9 u12 =>
  some (Q9, u12))
  else
  mbd (mf_keep Q4) (fun Q13 _ =>
  zb1 (mo_ai Q13 6 l1) (fun u16 =>
  zb1 (mo_si Q13 6 l1 (u16 - (1 : Int32))) (fun Q17 =>
  zb1 (mo_ai Q17 6 l1) (fun u20 =>
  zb1 (mo_ai Q17 7 (((4 : Int32) * l1) + u20)) (fun u21 =>
  zb1 (mo_si Q17 5 u21 (0 : Int32)) (fun Q22 =>
  some (Q22, (u21.toInt64))))))))))
  else
  mbd (mf_no Q4 u7) (fun Q25 u28 =>
  some (Q25, u28)))))
theorem ms_leave {X : Xq} {M : Zm} {Q : Mq} (h : mR X M Q) (l1 : Int32) : zG (mP X) (zf_X12_leave M (some X.2.2.1) l1) (mf_leave Q l1) := by
  unfold zf_X12_leave mf_leave
  refine zG_rc h ?_
  refine zG_bd (ms_begin h) (fun M3 Q1 _ h2 => ?_)
  refine zG_rc h2 ?_
  refine zG_bd (ms_lookedCask h2 _) (fun M6 Q4 u7 h5 => ?_)
  refine zG_ite ?_ ?_
  · refine zG_gr h5 (by decide) ?_
    refine zG_ai h5 rfl (fun u8 => ?_)
    refine zG_ite ?_ ?_
    · refine zG_rc h5 ?_
      refine zG_bd (ms_no h5 _) (fun M11 Q9 u12 h10 => ?_)
      exact zG_some ⟨h10, rfl⟩
    · refine zG_rc h5 ?_
      refine zG_bd (ms_keep h5) (fun M15 Q13 _ h14 => ?_)
      refine zG_gr h14 (by decide) ?_
      refine zG_ai h14 rfl (fun u16 => ?_)
      refine zG_si h14 rfl (fun M19 Q17 h18 => ?_)
      refine zG_gr h18 (by decide) ?_
      refine zG_gr h18 (by decide) ?_
      refine zG_ai h18 rfl (fun u20 => ?_)
      refine zG_ai h18 rfl (fun u21 => ?_)
      refine zG_gr h18 (by decide) ?_
      refine zG_si h18 rfl (fun M24 Q22 h23 => ?_)
      exact zG_some ⟨h23, rfl⟩
  · refine zG_rc h5 ?_
    refine zG_bd (ms_no h5 _) (fun M27 Q25 u28 h26 => ?_)
    exact zG_some ⟨h26, rfl⟩
noncomputable def mf_lift (Q : Mq) (l1 : Int32) (l2 : Int32) : Option (Mq × Int64) :=
  mbd (mf_begin Q) (fun Q1 _ =>
  mbd (mf_readPlace Q1 l1 l2) (fun Q4 u7 =>
  (if u7 ≤ 0 then
  zb1 (mo_ai Q4 13 (((60 : Int32) * l1) + l2)) (fun u8 =>
  (if 0 ≤ u8 then
  mbd (mf_keep Q4) (fun Q9 _ =>
  zb1 (mo_si Q9 13 (((60 : Int32) * l1) + l2) (-1 : Int32)) (fun Q12 =>
  zb1 (mo_si Q12 5 u8 (0 : Int32)) (fun Q15 =>
  some (Q15, (u8.toInt64)))))
  else
  mbd (mf_no Q4 (2 : Int32)) (fun Q18 u21 =>
  some (Q18, u21))))
  else
  mbd (mf_no Q4 u7) (fun Q22 u25 =>
  some (Q22, u25)))))
theorem ms_lift {X : Xq} {M : Zm} {Q : Mq} (h : mR X M Q) (l1 : Int32) (l2 : Int32) : zG (mP X) (zf_X12_lift M (some X.2.2.1) l1 l2) (mf_lift Q l1 l2) := by
  unfold zf_X12_lift mf_lift
  refine zG_rc h ?_
  refine zG_bd (ms_begin h) (fun M3 Q1 _ h2 => ?_)
  refine zG_rc h2 ?_
  refine zG_bd (ms_readPlace h2 _ _) (fun M6 Q4 u7 h5 => ?_)
  refine zG_ite ?_ ?_
  · refine zG_gr h5 (by decide) ?_
    refine zG_ai h5 rfl (fun u8 => ?_)
    refine zG_ite ?_ ?_
    · refine zG_rc h5 ?_
      refine zG_bd (ms_keep h5) (fun M11 Q9 _ h10 => ?_)
      refine zG_gr h10 (by decide) ?_
      refine zG_si h10 rfl (fun M14 Q12 h13 => ?_)
      refine zG_gr h13 (by decide) ?_
      refine zG_si h13 rfl (fun M17 Q15 h16 => ?_)
      exact zG_some ⟨h16, rfl⟩
    · refine zG_rc h5 ?_
      refine zG_bd (ms_no h5 _) (fun M20 Q18 u21 h19 => ?_)
      exact zG_some ⟨h19, rfl⟩
  · refine zG_rc h5 ?_
    refine zG_bd (ms_no h5 _) (fun M24 Q22 u25 h23 => ?_)
    exact zG_some ⟨h23, rfl⟩
noncomputable def mf_month (Q : Mq) : Option (Mq × Int32) :=
  some (Q, (Q.1 18 0))
theorem ms_month {X : Xq} {M : Zm} {Q : Mq} (h : mR X M Q)  : zG (mP X) (zf_X12_month M (some X.2.2.1)) (mf_month Q) := by
  unfold zf_X12_month mf_month
  refine zG_gi h rfl ?_
  exact zG_some ⟨h, rfl⟩
noncomputable def mf_ofPart_J45 (Q : Mq) (p1 : Int32) (p2 : Int32) (l3 : Int64) (l5 : Int32) : Option ((Mq × Int64 × Int32) ⊕ (Mq × Int64 × Int32)) :=
  some (.inl (Q, l3, (l5 + 1)))
theorem ms_ofPart_J45 {X : Xq} {M : Zm} {Q : Mq} (h : mR X M Q) (p1 : Int32) (p2 : Int32) (l3 : Int64) (l5 : Int32) : zG (mU (mP X) (mP X)) (zf_X12_ofPart_J45 M (some X.2.2.1) p1 p2 l3 l5) (mf_ofPart_J45 Q p1 p2 l3 l5) := by
  unfold zf_X12_ofPart_J45 mf_ofPart_J45
  exact zG_some (show mP X _ _ from ⟨h, rfl⟩)
noncomputable def mf_ofPart_L8 (p1 : Int32) (p2 : Int32) (x : Mq × Int64 × Int32) : Option ((Mq × Int64 × Int32) ⊕ (Mq × Int64 × Int32)) := match x with
  | (Q, l3, l5) =>
  zb1 (mo_ai Q 8 p1) (fun u1 =>
  (if (((60 : Int32) * p1) + u1) ≤ l5 then
  some (.inr (Q, l3, l5))
  else
  zb1 (mo_ai Q 9 l5) (fun u2 =>
  (if u2 = p2 then
  zb1 (mo_aj Q 10 l5) (fun u3 =>
  mf_ofPart_J45 Q p1 p2 (l3 + u3) l5)
  else
  mf_ofPart_J45 Q p1 p2 l3 l5))))
theorem ms_ofPart_L8 {X : Xq} (p1 : Int32) (p2 : Int32) : ∀ (x : Zm × Int64 × Int32) (y : Mq × Int64 × Int32), mP X x y → zG (mU (mP X) (mP X)) (zf_X12_ofPart_L8 (some X.2.2.1) p1 p2 x) (mf_ofPart_L8 p1 p2 y) := by
  rintro ⟨M, l3', l5'⟩ ⟨Q, l3, l5⟩ ⟨h, e⟩
  dsimp only at h e
  cases e
  unfold zf_X12_ofPart_L8 mf_ofPart_L8
  dsimp only
  refine zG_gr h (by decide) ?_
  refine zG_ai h rfl (fun u1 => ?_)
  refine zG_ite ?_ ?_
  · exact zG_some (show mP X _ _ from ⟨h, rfl⟩)
  · refine zG_gr h (by decide) ?_
    refine zG_ai h rfl (fun u2 => ?_)
    refine zG_ite ?_ ?_
    · refine zG_gr h (by decide) ?_
      refine zG_aj h rfl (fun u3 => ?_)
      exact ms_ofPart_J45 h _ _ _ _
    · exact ms_ofPart_J45 h _ _ _ _
noncomputable def mf_ofPart (Q : Mq) (l1 : Int32) (l2 : Int32) : Option (Mq × Int64) :=
  zb1 (zwhile (mf_ofPart_L8 l1 l2) (Q, (0 : Int64), ((60 : Int32) * l1))) (fun y6 => match y6 with
  | (Q1, u4, u5) =>
  some (Q1, u4))
theorem ms_ofPart {X : Xq} {M : Zm} {Q : Mq} (h : mR X M Q) (l1 : Int32) (l2 : Int32) : zG (mP X) (zf_X12_ofPart M (some X.2.2.1) l1 l2) (mf_ofPart Q l1 l2) := by
  unfold zf_X12_ofPart mf_ofPart
  refine zG_b1 (S := mP X) (zG_wh (R := mP X) (ms_ofPart_L8 _ _) ⟨h, rfl⟩) ?_
  rintro ⟨M3, u4', u5'⟩ ⟨Q1, u4, u5⟩ ⟨h2, eh2⟩
  dsimp only at h2 eh2
  cases eh2
  dsimp only
  exact zG_some ⟨h2, rfl⟩
noncomputable def mf_odd_L24 (p1 : Int32) (p2 : Int32) (x : Mq × Int64 × Int32) : Option ((Mq × Int64 × Int32) ⊕ (Mq × Int64 × Int32)) := match x with
  | (Q, l3, l5) =>
  (if (4 : Int32) < l5 then
  some (.inr (Q, l3, l5))
  else
  zb1 (mo_aj Q 17 (((5 : Int32) * p2) + l5)) (fun u1 =>
  some (.inl (Q, (l3 - u1), (l5 + 1)))))
theorem ms_odd_L24 {X : Xq} (p1 : Int32) (p2 : Int32) : ∀ (x : Zm × Int64 × Int32) (y : Mq × Int64 × Int32), mP X x y → zG (mU (mP X) (mP X)) (zf_X12_odd_L24 (some X.2.2.1) p1 p2 x) (mf_odd_L24 p1 p2 y) := by
  rintro ⟨M, l3', l5'⟩ ⟨Q, l3, l5⟩ ⟨h, e⟩
  dsimp only at h e
  cases e
  unfold zf_X12_odd_L24 mf_odd_L24
  dsimp only
  refine zG_ite ?_ ?_
  · exact zG_some (show mP X _ _ from ⟨h, rfl⟩)
  · refine zG_gr h (by decide) ?_
    refine zG_aj h rfl (fun u1 => ?_)
    exact zG_some (show mP X _ _ from ⟨h, rfl⟩)
noncomputable def mf_odd_L53 (p1 : Int32) (p2 : Int32) (x : Mq × Int64 × Int32) : Option ((Mq × Int64 × Int32) ⊕ (Mq × Int64 × Int32)) := match x with
  | (Q, l3, l5) =>
  (if (Q.1 1 0) ≤ l5 then
  some (.inr (Q, l3, l5))
  else
  zb1 (mo_ai Q 16 p2) (fun u1 =>
  mbd (mf_ofPart Q l5 u1) (fun Q2 u5 =>
  some (.inl (Q2, (l3 - u5), (l5 + 1))))))
theorem ms_odd_L53 {X : Xq} (p1 : Int32) (p2 : Int32) : ∀ (x : Zm × Int64 × Int32) (y : Mq × Int64 × Int32), mP X x y → zG (mU (mP X) (mP X)) (zf_X12_odd_L53 (some X.2.2.1) p1 p2 x) (mf_odd_L53 p1 p2 y) := by
  rintro ⟨M, l3', l5'⟩ ⟨Q, l3, l5⟩ ⟨h, e⟩
  dsimp only at h e
  cases e
  unfold zf_X12_odd_L53 mf_odd_L53
  dsimp only
  refine zG_gi h rfl ?_
  refine zG_ite ?_ ?_
  · exact zG_some (show mP X _ _ from ⟨h, rfl⟩)
  · refine zG_gr h (by decide) ?_
    refine zG_ai h rfl (fun u1 => ?_)
    refine zG_rc h ?_
    refine zG_bd (ms_ofPart h _ _) (fun M4 Q2 u5 h3 => ?_)
    exact zG_some (show mP X _ _ from ⟨h3, rfl⟩)
noncomputable def mf_odd_J95 (Q : Mq) (l2 : Int32) (s0 : Int32) (s1 : Int32) : Option ((Mq × Int32 × Int32) ⊕ (Mq × Int32 × Int32)) :=
  some (.inl (Q, (s1 + s0), (l2 + 1)))
theorem ms_odd_J95 {X : Xq} {M : Zm} {Q : Mq} (h : mR X M Q) (l2 : Int32) (s0 : Int32) (s1 : Int32) : zG (mU (mP X) (mP X)) (zf_X12_odd_J95 M (some X.2.2.1) l2 s0 s1) (mf_odd_J95 Q l2 s0 s1) := by
  unfold zf_X12_odd_J95 mf_odd_J95
  exact zG_some (show mP X _ _ from ⟨h, rfl⟩)
noncomputable def mf_odd_L4 (x : Mq × Int32 × Int32) : Option ((Mq × Int32 × Int32) ⊕ (Mq × Int32 × Int32)) := match x with
  | (Q, l1, l2) =>
  (if (Q.1 14 0) ≤ l2 then
  some (.inr (Q, l1, l2))
  else
  zb1 (mo_aj Q 17 ((5 : Int32) * l2)) (fun u1 =>
  zb1 (zwhile (mf_odd_L24 l1 l2) (Q, u1, (1 : Int32))) (fun y13 => match y13 with
  | (Q2, u5, u6) =>
  zb1 (zwhile (mf_odd_L53 l1 l2) (Q2, u5, (0 : Int32))) (fun y12 => match y12 with
  | (Q7, u10, u11) =>
  (if u10 = (0 : Int64) then
  mf_odd_J95 Q7 l2 (0 : Int32) l1
  else
  mf_odd_J95 Q7 l2 (1 : Int32) l1)))))
theorem ms_odd_L4 {X : Xq}  : ∀ (x : Zm × Int32 × Int32) (y : Mq × Int32 × Int32), mP X x y → zG (mU (mP X) (mP X)) (zf_X12_odd_L4 (some X.2.2.1) x) (mf_odd_L4  y) := by
  rintro ⟨M, l1', l2'⟩ ⟨Q, l1, l2⟩ ⟨h, e⟩
  dsimp only at h e
  cases e
  unfold zf_X12_odd_L4 mf_odd_L4
  dsimp only
  refine zG_gi h rfl ?_
  refine zG_ite ?_ ?_
  · exact zG_some (show mP X _ _ from ⟨h, rfl⟩)
  · refine zG_gr h (by decide) ?_
    refine zG_aj h rfl (fun u1 => ?_)
    refine zG_b1 (S := mP X) (zG_wh (R := mP X) (ms_odd_L24 _ _) ⟨h, rfl⟩) ?_
    rintro ⟨M4, u5', u6'⟩ ⟨Q2, u5, u6⟩ ⟨h3, eh3⟩
    dsimp only at h3 eh3
    cases eh3
    dsimp only
    refine zG_b1 (S := mP X) (zG_wh (R := mP X) (ms_odd_L53 _ _) ⟨h3, rfl⟩) ?_
    rintro ⟨M9, u10', u11'⟩ ⟨Q7, u10, u11⟩ ⟨h8, eh8⟩
    dsimp only at h8 eh8
    cases eh8
    dsimp only
    refine zG_ite ?_ ?_
    · exact ms_odd_J95 h8 _ _ _
    · exact ms_odd_J95 h8 _ _ _
noncomputable def mf_odd (Q : Mq) : Option (Mq × Int32) :=
  zb1 (zwhile (mf_odd_L4 ) (Q, (0 : Int32), (0 : Int32))) (fun y6 => match y6 with
  | (Q1, u4, u5) =>
  some (Q1, u4))
theorem ms_odd {X : Xq} {M : Zm} {Q : Mq} (h : mR X M Q)  : zG (mP X) (zf_X12_odd M (some X.2.2.1)) (mf_odd Q) := by
  unfold zf_X12_odd mf_odd
  refine zG_b1 (S := mP X) (zG_wh (R := mP X) (ms_odd_L4 ) ⟨h, rfl⟩) ?_
  rintro ⟨M3, u4', u5'⟩ ⟨Q1, u4, u5⟩ ⟨h2, eh2⟩
  dsimp only at h2 eh2
  cases eh2
  dsimp only
  exact zG_some ⟨h2, rfl⟩
noncomputable def mf_part_L20 (p1 : Int32) (p2 : Int32) (x : Mq × Int64 × Int32) : Option ((Mq × Int64 × Int32) ⊕ (Mq × Int64 × Int32)) := match x with
  | (Q, l3, l5) =>
  zb1 (mo_ai Q 6 p1) (fun u1 =>
  (if u1 ≤ l5 then
  some (.inr (Q, l3, l5))
  else
  zb1 (mo_ai Q 7 (((4 : Int32) * p1) + l5)) (fun u2 =>
  mbd (mf_ofPart Q u2 p2) (fun Q3 u6 =>
  some (.inl (Q3, (l3 + u6), (l5 + 1)))))))
theorem ms_part_L20 {X : Xq} (p1 : Int32) (p2 : Int32) : ∀ (x : Zm × Int64 × Int32) (y : Mq × Int64 × Int32), mP X x y → zG (mU (mP X) (mP X)) (zf_X12_part_L20 (some X.2.2.1) p1 p2 x) (mf_part_L20 p1 p2 y) := by
  rintro ⟨M, l3', l5'⟩ ⟨Q, l3, l5⟩ ⟨h, e⟩
  dsimp only at h e
  cases e
  unfold zf_X12_part_L20 mf_part_L20
  dsimp only
  refine zG_gr h (by decide) ?_
  refine zG_ai h rfl (fun u1 => ?_)
  refine zG_ite ?_ ?_
  · exact zG_some (show mP X _ _ from ⟨h, rfl⟩)
  · refine zG_gr h (by decide) ?_
    refine zG_ai h rfl (fun u2 => ?_)
    refine zG_rc h ?_
    refine zG_bd (ms_ofPart h _ _) (fun M5 Q3 u6 h4 => ?_)
    exact zG_some (show mP X _ _ from ⟨h4, rfl⟩)
noncomputable def mf_part (Q : Mq) (l1 : Int32) (l2 : Int32) : Option (Mq × Int64) :=
  mbd (mf_isBarrel Q l1) (fun Q1 u4 =>
  (if u4 = 0 then
  some (Q1, (0 : Int64))
  else
  mbd (mf_ofPart Q1 l1 l2) (fun Q5 u8 =>
  zb1 (zwhile (mf_part_L20 l1 l2) (Q5, u8, (0 : Int32))) (fun y14 => match y14 with
  | (Q9, u12, u13) =>
  some (Q9, u12)))))
theorem ms_part {X : Xq} {M : Zm} {Q : Mq} (h : mR X M Q) (l1 : Int32) (l2 : Int32) : zG (mP X) (zf_X12_part M (some X.2.2.1) l1 l2) (mf_part Q l1 l2) := by
  unfold zf_X12_part mf_part
  refine zG_rc h ?_
  refine zG_bd (ms_isBarrel h _) (fun M3 Q1 u4 h2 => ?_)
  refine zG_ite ?_ ?_
  · exact zG_some ⟨h2, rfl⟩
  · refine zG_rc h2 ?_
    refine zG_bd (ms_ofPart h2 _ _) (fun M7 Q5 u8 h6 => ?_)
    refine zG_b1 (S := mP X) (zG_wh (R := mP X) (ms_part_L20 _ _) ⟨h6, rfl⟩) ?_
    rintro ⟨M11, u12', u13'⟩ ⟨Q9, u12, u13⟩ ⟨h10, eh10⟩
    dsimp only at h10 eh10
    cases eh10
    dsimp only
    exact zG_some ⟨h10, rfl⟩
noncomputable def mf_partAt (Q : Mq) (l1 : Int32) (l2 : Int32) : Option (Mq × Int64) :=
  mbd (mf_begin Q) (fun Q1 _ =>
  mbd (mf_lookedPart Q1 l1 l2) (fun Q4 u7 =>
  (if u7 ≤ 0 then
  zb1 (mo_ai Q4 9 (((60 : Int32) * l1) + l2)) (fun u8 =>
  some (Q4, (u8.toInt64)))
  else
  mbd (mf_no Q4 u7) (fun Q9 u12 =>
  some (Q9, u12)))))
theorem ms_partAt {X : Xq} {M : Zm} {Q : Mq} (h : mR X M Q) (l1 : Int32) (l2 : Int32) : zG (mP X) (zf_X12_partAt M (some X.2.2.1) l1 l2) (mf_partAt Q l1 l2) := by
  unfold zf_X12_partAt mf_partAt
  refine zG_rc h ?_
  refine zG_bd (ms_begin h) (fun M3 Q1 _ h2 => ?_)
  refine zG_rc h2 ?_
  refine zG_bd (ms_lookedPart h2 _ _) (fun M6 Q4 u7 h5 => ?_)
  refine zG_ite ?_ ?_
  · refine zG_gr h5 (by decide) ?_
    refine zG_ai h5 rfl (fun u8 => ?_)
    exact zG_some ⟨h5, rfl⟩
  · refine zG_rc h5 ?_
    refine zG_bd (ms_no h5 _) (fun M11 Q9 u12 h10 => ?_)
    exact zG_some ⟨h10, rfl⟩
noncomputable def mf_pick (Q : Mq) (l1 : Int32) (l2 : Int64) : Option (Mq × Int64) :=
  mbd (mf_begin Q) (fun Q1 _ =>
  mbd (mf_isAmount Q1 l2) (fun Q4 u7 =>
  (if u7 = 0 then
  mbd (mf_no Q4 (1 : Int32)) (fun Q8 u11 =>
  some (Q8, u11))
  else
  mbd (mf_looked Q4 l1) (fun Q12 u15 =>
  (if u15 ≤ 0 then
  mbd (mf_isPicked Q12 l1) (fun Q16 u19 =>
  (if u19 = 0 then
  (if (Q16.1 33 0) = (8 : Int32) then
  mbd (mf_no Q16 (12 : Int32)) (fun Q20 u23 =>
  some (Q20, u23))
  else
  zb1 (mo_si Q16 34 (Q16.1 33 0) l1) (fun Q24 =>
  zb1 (mo_sj Q24 35 (Q24.1 33 0) l2) (fun Q27 =>
  zb1 (some (qi Q27 33 0 ((Q27.1 33 0) + (1 : Int32)))) (fun Q30 =>
  some (Q30, ((Q30.1 33 0).toInt64))))))
  else
  mbd (mf_no Q16 (13 : Int32)) (fun Q33 u36 =>
  some (Q33, u36))))
  else
  mbd (mf_no Q12 u15) (fun Q37 u40 =>
  some (Q37, u40)))))))
theorem ms_pick {X : Xq} {M : Zm} {Q : Mq} (h : mR X M Q) (l1 : Int32) (l2 : Int64) : zG (mP X) (zf_X12_pick M (some X.2.2.1) l1 l2) (mf_pick Q l1 l2) := by
  unfold zf_X12_pick mf_pick
  refine zG_rc h ?_
  refine zG_bd (ms_begin h) (fun M3 Q1 _ h2 => ?_)
  refine zG_rc h2 ?_
  refine zG_bd (ms_isAmount h2 _) (fun M6 Q4 u7 h5 => ?_)
  refine zG_ite ?_ ?_
  · refine zG_rc h5 ?_
    refine zG_bd (ms_no h5 _) (fun M10 Q8 u11 h9 => ?_)
    exact zG_some ⟨h9, rfl⟩
  · refine zG_rc h5 ?_
    refine zG_bd (ms_looked h5 _) (fun M14 Q12 u15 h13 => ?_)
    refine zG_ite ?_ ?_
    · refine zG_rc h13 ?_
      refine zG_bd (ms_isPicked h13 _) (fun M18 Q16 u19 h17 => ?_)
      refine zG_ite ?_ ?_
      · refine zG_gi h17 rfl ?_
        refine zG_ite ?_ ?_
        · refine zG_rc h17 ?_
          refine zG_bd (ms_no h17 _) (fun M22 Q20 u23 h21 => ?_)
          exact zG_some ⟨h21, rfl⟩
        · refine zG_gr h17 (by decide) ?_
          refine zG_gi h17 rfl ?_
          refine zG_si h17 rfl (fun M26 Q24 h25 => ?_)
          refine zG_gr h25 (by decide) ?_
          refine zG_gi h25 rfl ?_
          refine zG_sj h25 rfl (fun M29 Q27 h28 => ?_)
          refine zG_gi h28 rfl ?_
          refine zG_pi h28 rfl (by decide) (fun M32 Q30 h31 => ?_)
          refine zG_gi h31 rfl ?_
          exact zG_some ⟨h31, rfl⟩
      · refine zG_rc h17 ?_
        refine zG_bd (ms_no h17 _) (fun M35 Q33 u36 h34 => ?_)
        exact zG_some ⟨h34, rfl⟩
    · refine zG_rc h13 ?_
      refine zG_bd (ms_no h13 _) (fun M39 Q37 u40 h38 => ?_)
      exact zG_some ⟨h38, rfl⟩
noncomputable def mf_picked (Q : Mq) : Option (Mq × Int32) :=
  some (Q, (Q.1 33 0))
theorem ms_picked {X : Xq} {M : Zm} {Q : Mq} (h : mR X M Q)  : zG (mP X) (zf_X12_picked M (some X.2.2.1)) (mf_picked Q) := by
  unfold zf_X12_picked mf_picked
  refine zG_gi h rfl ?_
  exact zG_some ⟨h, rfl⟩
noncomputable def mf_search_L85 (rec : Mq → Int32 → Int32 → Int32 → Int64 → Option (Mq × Unit)) (p1 : Int32) (p6 : Int64) (p8 : Int32) (x : Mq × Int32) : Option ((Mq × Int32) ⊕ (Mq × Int32)) := match x with
  | (Q, l9) =>
  (if (Q.1 33 0) ≤ l9 then
  some (.inr (Q, l9))
  else
  zb1 (mo_aj Q 68 p8) (fun u1 =>
  zb1 (mo_ai Q 73 l9) (fun u2 =>
  zb1 (mo_aj Q 70 (((((13 : Int32) * l9) + u2) * (48 : Int32)) + p8)) (fun u3 =>
  zb1 (mo_sj Q 68 p8 (u1 + u3)) (fun Q4 =>
  some (.inl (Q4, (l9 + 1))))))))
theorem ms_search_L85 {X : Xq} {rec0 : Zm → Option Nat → Int32 → Int32 → Int32 → Int64 → Option (Zm × Unit)} {rec : Mq → Int32 → Int32 → Int32 → Int64 → Option (Mq × Unit)} (hrec : ∀ (M : Zm) (Q : Mq) (_ : mR X M Q) (a0 : Int32) (a1 : Int32) (a2 : Int32) (a3 : Int64), zG (mP X) (rec0 M (some X.2.2.1) a0 a1 a2 a3) (rec Q a0 a1 a2 a3)) (p1 : Int32) (p6 : Int64) (p8 : Int32) : ∀ (x : Zm × Int32) (y : Mq × Int32), mP X x y → zG (mU (mP X) (mP X)) (zf_X12_search_L85 rec0 (some X.2.2.1) p1 p6 p8 x) (mf_search_L85 rec p1 p6 p8 y) := by
  rintro ⟨M, l9'⟩ ⟨Q, l9⟩ ⟨h, e⟩
  dsimp only at h e
  cases e
  unfold zf_X12_search_L85 mf_search_L85
  dsimp only
  refine zG_gi h rfl ?_
  refine zG_ite ?_ ?_
  · exact zG_some (show mP X _ _ from ⟨h, rfl⟩)
  · refine zG_gr h (by decide) ?_
    refine zG_gr h (by decide) ?_
    refine zG_aj h rfl (fun u1 => ?_)
    refine zG_gr h (by decide) ?_
    refine zG_gr h (by decide) ?_
    refine zG_ai h rfl (fun u2 => ?_)
    refine zG_aj h rfl (fun u3 => ?_)
    refine zG_sj h rfl (fun M6 Q4 h5 => ?_)
    exact zG_some (show mP X _ _ from ⟨h5, rfl⟩)
noncomputable def mf_search_L67 (rec : Mq → Int32 → Int32 → Int32 → Int64 → Option (Mq × Unit)) (p1 : Int32) (p6 : Int64) (x : Mq × Int32) : Option ((Mq × Int32) ⊕ (Mq × Int32)) := match x with
  | (Q, l8) =>
  (if (48 : Int32) ≤ l8 then
  some (.inr (Q, l8))
  else
  zb1 (mo_sj Q 68 l8 (0 : Int64)) (fun Q1 =>
  zb1 (zwhile (mf_search_L85 rec p1 p6 l8) (Q1, (0 : Int32))) (fun y8 => match y8 with
  | (Q4, u7) =>
  some (.inl (Q4, (l8 + 1))))))
theorem ms_search_L67 {X : Xq} {rec0 : Zm → Option Nat → Int32 → Int32 → Int32 → Int64 → Option (Zm × Unit)} {rec : Mq → Int32 → Int32 → Int32 → Int64 → Option (Mq × Unit)} (hrec : ∀ (M : Zm) (Q : Mq) (_ : mR X M Q) (a0 : Int32) (a1 : Int32) (a2 : Int32) (a3 : Int64), zG (mP X) (rec0 M (some X.2.2.1) a0 a1 a2 a3) (rec Q a0 a1 a2 a3)) (p1 : Int32) (p6 : Int64) : ∀ (x : Zm × Int32) (y : Mq × Int32), mP X x y → zG (mU (mP X) (mP X)) (zf_X12_search_L67 rec0 (some X.2.2.1) p1 p6 x) (mf_search_L67 rec p1 p6 y) := by
  rintro ⟨M, l8'⟩ ⟨Q, l8⟩ ⟨h, e⟩
  dsimp only at h e
  cases e
  unfold zf_X12_search_L67 mf_search_L67
  dsimp only
  refine zG_ite ?_ ?_
  · exact zG_some (show mP X _ _ from ⟨h, rfl⟩)
  · refine zG_gr h (by decide) ?_
    refine zG_sj h rfl (fun M3 Q1 h2 => ?_)
    refine zG_b1 (S := mP X) (zG_wh (R := mP X) (ms_search_L85 hrec _ _ _) ⟨h2, rfl⟩) ?_
    rintro ⟨M6, u7'⟩ ⟨Q4, u7⟩ ⟨h5, eh5⟩
    dsimp only at h5 eh5
    cases eh5
    dsimp only
    exact zG_some (show mP X _ _ from ⟨h5, rfl⟩)
noncomputable def mf_search_L164 (rec : Mq → Int32 → Int32 → Int32 → Int64 → Option (Mq × Unit)) (x : Mq × Int32) : Option ((Mq × Int32) ⊕ (Mq × Int32)) := match x with
  | (Q, l8) =>
  (if (Q.1 33 0) ≤ l8 then
  some (.inr (Q, l8))
  else
  zb1 (mo_ai Q 73 l8) (fun u1 =>
  zb1 (mo_si Q 74 l8 u1) (fun Q2 =>
  some (.inl (Q2, (l8 + 1))))))
theorem ms_search_L164 {X : Xq} {rec0 : Zm → Option Nat → Int32 → Int32 → Int32 → Int64 → Option (Zm × Unit)} {rec : Mq → Int32 → Int32 → Int32 → Int64 → Option (Mq × Unit)} (hrec : ∀ (M : Zm) (Q : Mq) (_ : mR X M Q) (a0 : Int32) (a1 : Int32) (a2 : Int32) (a3 : Int64), zG (mP X) (rec0 M (some X.2.2.1) a0 a1 a2 a3) (rec Q a0 a1 a2 a3))  : ∀ (x : Zm × Int32) (y : Mq × Int32), mP X x y → zG (mU (mP X) (mP X)) (zf_X12_search_L164 rec0 (some X.2.2.1) x) (mf_search_L164 rec y) := by
  rintro ⟨M, l8'⟩ ⟨Q, l8⟩ ⟨h, e⟩
  dsimp only at h e
  cases e
  unfold zf_X12_search_L164 mf_search_L164
  dsimp only
  refine zG_gi h rfl ?_
  refine zG_ite ?_ ?_
  · exact zG_some (show mP X _ _ from ⟨h, rfl⟩)
  · refine zG_gr h (by decide) ?_
    refine zG_gr h (by decide) ?_
    refine zG_ai h rfl (fun u1 => ?_)
    refine zG_si h rfl (fun M4 Q2 h3 => ?_)
    exact zG_some (show mP X _ _ from ⟨h3, rfl⟩)
noncomputable def mf_search_J64 (rec : Mq → Int32 → Int32 → Int32 → Int64 → Option (Mq × Unit)) (Q : Mq) (l1 : Int32) (l6 : Int64) : Option (Mq × Unit) :=
  zb1 (zwhile (mf_search_L67 rec l1 l6) (Q, (0 : Int32))) (fun y17 => match y17 with
  | (Q1, u4) =>
  mbd (mf_holdsAll Q1 l1) (fun Q5 u8 =>
  (if u8 = (1 : Int32) then
  zb1 (some (qj Q5 75 0 l6)) (fun Q9 =>
  zb1 (zwhile (mf_search_L164 rec) (Q9, (0 : Int32))) (fun y16 => match y16 with
  | (Q12, u15) =>
  some (Q12, ())))
  else
  some (Q5, ()))))
theorem ms_search_J64 {X : Xq} {M : Zm} {Q : Mq} {rec0 : Zm → Option Nat → Int32 → Int32 → Int32 → Int64 → Option (Zm × Unit)} {rec : Mq → Int32 → Int32 → Int32 → Int64 → Option (Mq × Unit)} (hrec : ∀ (M : Zm) (Q : Mq) (_ : mR X M Q) (a0 : Int32) (a1 : Int32) (a2 : Int32) (a3 : Int64), zG (mP X) (rec0 M (some X.2.2.1) a0 a1 a2 a3) (rec Q a0 a1 a2 a3)) (h : mR X M Q) (l1 : Int32) (l6 : Int64) : zG (mP X) (zf_X12_search_J64 rec0 M (some X.2.2.1) l1 l6) (mf_search_J64 rec Q l1 l6) := by
  unfold zf_X12_search_J64 mf_search_J64
  refine zG_b1 (S := mP X) (zG_wh (R := mP X) (ms_search_L67 hrec _ _) ⟨h, rfl⟩) ?_
  rintro ⟨M3, u4'⟩ ⟨Q1, u4⟩ ⟨h2, eh2⟩
  dsimp only at h2 eh2
  cases eh2
  dsimp only
  refine zG_rc h2 ?_
  refine zG_bd (ms_holdsAll h2 _) (fun M7 Q5 u8 h6 => ?_)
  refine zG_ite ?_ ?_
  · refine zG_pj h6 rfl (fun M11 Q9 h10 => ?_)
    refine zG_b1 (S := mP X) (zG_wh (R := mP X) (ms_search_L164 hrec) ⟨h10, rfl⟩) ?_
    rintro ⟨M14, u15'⟩ ⟨Q12, u15⟩ ⟨h13, eh13⟩
    dsimp only at h13 eh13
    cases eh13
    dsimp only
    exact zG_some ⟨h13, rfl⟩
  · exact zG_some ⟨h6, rfl⟩
noncomputable def mf_search_L197 (rec : Mq → Int32 → Int32 → Int32 → Int64 → Option (Mq × Unit)) (p1 : Int32) (p2 : Int32) (p3 : Int32) (p4 : Int64) (x : Mq × Int32) : Option ((Mq × Int32) ⊕ (Mq × Int32)) := match x with
  | (Q, l6) =>
  (if p3 < l6 then
  some (.inr (Q, l6))
  else
  zb1 (mo_ai Q 72 p2) (fun u1 =>
  (if u1 < l6 then
  some (.inr (Q, l6))
  else
  zb1 (mo_si Q 73 p2 l6) (fun Q2 =>
  zb1 (mo_aj Q2 71 (((13 : Int32) * p2) + l6)) (fun u5 =>
  mbd (rec Q2 p1 (p2 + (1 : Int32)) (p3 - l6) (p4 + u5)) (fun Q6 _ =>
  some (.inl (Q6, (l6 + 1)))))))))
theorem ms_search_L197 {X : Xq} {rec0 : Zm → Option Nat → Int32 → Int32 → Int32 → Int64 → Option (Zm × Unit)} {rec : Mq → Int32 → Int32 → Int32 → Int64 → Option (Mq × Unit)} (hrec : ∀ (M : Zm) (Q : Mq) (_ : mR X M Q) (a0 : Int32) (a1 : Int32) (a2 : Int32) (a3 : Int64), zG (mP X) (rec0 M (some X.2.2.1) a0 a1 a2 a3) (rec Q a0 a1 a2 a3)) (p1 : Int32) (p2 : Int32) (p3 : Int32) (p4 : Int64) : ∀ (x : Zm × Int32) (y : Mq × Int32), mP X x y → zG (mU (mP X) (mP X)) (zf_X12_search_L197 rec0 (some X.2.2.1) p1 p2 p3 p4 x) (mf_search_L197 rec p1 p2 p3 p4 y) := by
  rintro ⟨M, l6'⟩ ⟨Q, l6⟩ ⟨h, e⟩
  dsimp only at h e
  cases e
  unfold zf_X12_search_L197 mf_search_L197
  dsimp only
  refine zG_ite ?_ ?_
  · exact zG_some (show mP X _ _ from ⟨h, rfl⟩)
  · refine zG_gr h (by decide) ?_
    refine zG_ai h rfl (fun u1 => ?_)
    refine zG_ite ?_ ?_
    · exact zG_some (show mP X _ _ from ⟨h, rfl⟩)
    · refine zG_gr h (by decide) ?_
      refine zG_si h rfl (fun M4 Q2 h3 => ?_)
      refine zG_gr h3 (by decide) ?_
      refine zG_aj h3 rfl (fun u5 => ?_)
      refine zG_rc h3 ?_
      refine zG_bd (hrec _ _ h3 _ _ _ _) (fun M8 Q6 _ h7 => ?_)
      exact zG_some (show mP X _ _ from ⟨h7, rfl⟩)
noncomputable def mf_searchbody (rec : Mq → Int32 → Int32 → Int32 → Int64 → Option (Mq × Unit)) (Q : Mq) (l1 : Int32) (l2 : Int32) (l3 : Int32) (l4 : Int64) : Option (Mq × Unit) :=
  (if l2 = ((Q.1 33 0) - (1 : Int32)) then
  zb1 (mo_ai Q 72 l2) (fun u1 =>
  (if l3 ≤ u1 then
  zb1 (mo_si Q 73 l2 l3) (fun Q2 =>
  zb1 (mo_aj Q2 71 (((13 : Int32) * l2) + l3)) (fun u5 =>
  (if (Q2.2 75 0) < (0 : Int64) then
  mf_search_J64 rec Q2 l1 (l4 + u5)
  else
  (if (l4 + u5) < (Q2.2 75 0) then
  mf_search_J64 rec Q2 l1 (l4 + u5)
  else
  some (Q2, ())))))
  else
  some (Q, ())))
  else
  zb1 (zwhile (mf_search_L197 rec l1 l2 l3 l4) (Q, (0 : Int32))) (fun y10 => match y10 with
  | (Q6, u9) =>
  some (Q6, ())))
theorem ms_searchbody {X : Xq} {M : Zm} {Q : Mq} {rec0 : Zm → Option Nat → Int32 → Int32 → Int32 → Int64 → Option (Zm × Unit)} {rec : Mq → Int32 → Int32 → Int32 → Int64 → Option (Mq × Unit)} (hrec : ∀ (M : Zm) (Q : Mq) (_ : mR X M Q) (a0 : Int32) (a1 : Int32) (a2 : Int32) (a3 : Int64), zG (mP X) (rec0 M (some X.2.2.1) a0 a1 a2 a3) (rec Q a0 a1 a2 a3)) (h : mR X M Q) (l1 : Int32) (l2 : Int32) (l3 : Int32) (l4 : Int64) : zG (mP X) (zf_X12_searchbody rec0 M (some X.2.2.1) l1 l2 l3 l4) (mf_searchbody rec Q l1 l2 l3 l4) := by
  unfold zf_X12_searchbody mf_searchbody
  refine zG_gi h rfl ?_
  refine zG_ite ?_ ?_
  · refine zG_gr h (by decide) ?_
    refine zG_ai h rfl (fun u1 => ?_)
    refine zG_ite ?_ ?_
    · refine zG_gr h (by decide) ?_
      refine zG_si h rfl (fun M4 Q2 h3 => ?_)
      refine zG_gr h3 (by decide) ?_
      refine zG_aj h3 rfl (fun u5 => ?_)
      refine zG_gj h3 rfl ?_
      refine zG_ite ?_ ?_
      · exact ms_search_J64 hrec h3 _ _
      · refine zG_gj h3 rfl ?_
        refine zG_ite ?_ ?_
        · exact ms_search_J64 hrec h3 _ _
        · exact zG_some ⟨h3, rfl⟩
    · exact zG_some ⟨h, rfl⟩
  · refine zG_b1 (S := mP X) (zG_wh (R := mP X) (ms_search_L197 hrec _ _ _ _) ⟨h, rfl⟩) ?_
    rintro ⟨M8, u9'⟩ ⟨Q6, u9⟩ ⟨h7, eh7⟩
    dsimp only at h7 eh7
    cases eh7
    dsimp only
    exact zG_some ⟨h7, rfl⟩
noncomputable def mf_search : Nat → Mq → Int32 → Int32 → Int32 → Int64 → Option (Mq × Unit)
  | 0 => fun _ _ _ _ _ => none
  | d + 1 => mf_searchbody (mf_search d)
theorem ms_search {X : Xq} : ∀ (d : Nat) (M : Zm) (Q : Mq) (_ : mR X M Q) (a0 : Int32) (a1 : Int32) (a2 : Int32) (a3 : Int64), zG (mP X) (zf_X12_search d M (some X.2.2.1) a0 a1 a2 a3) (mf_search d Q a0 a1 a2 a3)
  | 0 => fun _ _ _ _ _ _ _ => fun _ e => (by cases e)
  | d + 1 => fun M Q h a0 a1 a2 a3 => ms_searchbody (ms_search d) h _ _ _ _
noncomputable def mf_plan_J17 (Q : Mq) : Option (Mq × Int64) :=
  mbd (mf_no Q (1 : Int32)) (fun Q1 u4 =>
  some (Q1, u4))
theorem ms_plan_J17 {X : Xq} {M : Zm} {Q : Mq} (h : mR X M Q)  : zG (mP X) (zf_X12_plan_J17 M (some X.2.2.1)) (mf_plan_J17 Q) := by
  unfold zf_X12_plan_J17 mf_plan_J17
  refine zG_rc h ?_
  refine zG_bd (ms_no h _) (fun M3 Q1 u4 h2 => ?_)
  exact zG_some ⟨h2, rfl⟩
noncomputable def mf_plan_L204 (p1 : Int32) (p2 : Int64) (p4 : Int32) (p6 : Int32) (p7 : Int32) (p8 : Int32) (x : Mq × Int32) : Option ((Mq × Int32) ⊕ (Mq × Int32)) := match x with
  | (Q, l11) =>
  (if p6 < l11 then
  some (.inr (Q, l11))
  else
  mbd (mf_dear Q p8 ((l11.toInt64) * (p4.toInt64))) (fun Q1 u4 =>
  zb1 (mo_sj Q1 71 (((13 : Int32) * p7) + l11) u4) (fun Q5 =>
  some (.inl (Q5, (l11 + 1))))))
theorem ms_plan_L204 {X : Xq} (p1 : Int32) (p2 : Int64) (p4 : Int32) (p6 : Int32) (p7 : Int32) (p8 : Int32) : ∀ (x : Zm × Int32) (y : Mq × Int32), mP X x y → zG (mU (mP X) (mP X)) (zf_X12_plan_L204 (some X.2.2.1) p1 p2 p4 p6 p7 p8 x) (mf_plan_L204 p1 p2 p4 p6 p7 p8 y) := by
  rintro ⟨M, l11'⟩ ⟨Q, l11⟩ ⟨h, e⟩
  dsimp only at h e
  cases e
  unfold zf_X12_plan_L204 mf_plan_L204
  dsimp only
  refine zG_ite ?_ ?_
  · exact zG_some (show mP X _ _ from ⟨h, rfl⟩)
  · refine zG_gr h (by decide) ?_
    refine zG_rc h ?_
    refine zG_bd (ms_dear h _ _) (fun M3 Q1 u4 h2 => ?_)
    refine zG_sj h2 rfl (fun M7 Q5 h6 => ?_)
    exact zG_some (show mP X _ _ from ⟨h6, rfl⟩)
noncomputable def mf_plan_J282 (Q : Mq) (p1 : Int32) (p2 : Int64) (p4 : Int32) (p6 : Int32) (p7 : Int32) (p8 : Int32) (l11 : Int32) : Option ((Mq × Int32) ⊕ (Mq × Int32)) :=
  zb1 (some (qi Q 64 0 (0 : Int32))) (fun Q1 =>
  mbd (mf_mixDraws Q1) (fun Q4 _ =>
  mbd (mf_sharesOfMix Q4 70 ((((13 : Int32) * p7) + l11) * (48 : Int32))) (fun Q7 _ =>
  some (.inl (Q7, (l11 + 1))))))
theorem ms_plan_J282 {X : Xq} {M : Zm} {Q : Mq} (h : mR X M Q) (p1 : Int32) (p2 : Int64) (p4 : Int32) (p6 : Int32) (p7 : Int32) (p8 : Int32) (l11 : Int32) : zG (mU (mP X) (mP X)) (zf_X12_plan_J282 M (some X.2.2.1) p1 p2 p4 p6 p7 p8 l11) (mf_plan_J282 Q p1 p2 p4 p6 p7 p8 l11) := by
  unfold zf_X12_plan_J282 mf_plan_J282
  refine zG_pi h rfl (by decide) (fun M3 Q1 h2 => ?_)
  refine zG_rc h2 ?_
  refine zG_bd (ms_mixDraws h2) (fun M6 Q4 _ h5 => ?_)
  refine zG_gr h5 (by decide) ?_
  refine zG_rc h5 ?_
  refine zG_bd (ms_sharesOfMix h5 _ rfl _) (fun M9 Q7 _ h8 => ?_)
  exact zG_some (show mP X _ _ from ⟨h8, rfl⟩)
noncomputable def mf_plan_L246 (p1 : Int32) (p2 : Int64) (p4 : Int32) (p6 : Int32) (p7 : Int32) (p8 : Int32) (x : Mq × Int32) : Option ((Mq × Int32) ⊕ (Mq × Int32)) := match x with
  | (Q, l11) =>
  zb1 (mo_ai Q 72 p7) (fun u1 =>
  (if u1 < l11 then
  some (.inr (Q, l11))
  else
  zb1 (some (qi Q 60 0 (0 : Int32))) (fun Q2 =>
  (if l11 ≤ 0 then
  mf_plan_J282 Q2 p1 p2 p4 p6 p7 p8 l11
  else
  mbd (mf_drawFrom Q2 p8 ((l11.toInt64) * (p4.toInt64)) (0 : Int32)) (fun Q5 _ =>
  mf_plan_J282 Q5 p1 p2 p4 p6 p7 p8 l11)))))
theorem ms_plan_L246 {X : Xq} (p1 : Int32) (p2 : Int64) (p4 : Int32) (p6 : Int32) (p7 : Int32) (p8 : Int32) : ∀ (x : Zm × Int32) (y : Mq × Int32), mP X x y → zG (mU (mP X) (mP X)) (zf_X12_plan_L246 (some X.2.2.1) p1 p2 p4 p6 p7 p8 x) (mf_plan_L246 p1 p2 p4 p6 p7 p8 y) := by
  rintro ⟨M, l11'⟩ ⟨Q, l11⟩ ⟨h, e⟩
  dsimp only at h e
  cases e
  unfold zf_X12_plan_L246 mf_plan_L246
  dsimp only
  refine zG_gr h (by decide) ?_
  refine zG_ai h rfl (fun u1 => ?_)
  refine zG_ite ?_ ?_
  · exact zG_some (show mP X _ _ from ⟨h, rfl⟩)
  · refine zG_pi h rfl (by decide) (fun M4 Q2 h3 => ?_)
    refine zG_ite ?_ ?_
    · exact ms_plan_J282 h3 _ _ _ _ _ _ _
    · refine zG_rc h3 ?_
      refine zG_bd (ms_drawFrom h3 _ _ _) (fun M7 Q5 _ h6 => ?_)
      exact ms_plan_J282 h6 _ _ _ _ _ _ _
noncomputable def mf_plan_J189 (Q : Mq) (p1 : Int32) (p2 : Int64) (p4 : Int32) (p6 : Int32) (l7 : Int32) (l8 : Int32) (s0 : Int32) (s1 : Int32) (s2 : Nat) : Option ((Mq × Int32) ⊕ (Mq × Int32)) :=
  zb1 (mo_si Q s2 s1 s0) (fun Q1 =>
  zb1 (mo_sj Q1 71 ((13 : Int32) * l7) (0 : Int64)) (fun Q4 =>
  zb1 (zwhile (mf_plan_L204 p1 p2 p4 p6 l7 l8) (Q4, (1 : Int32))) (fun y16 => match y16 with
  | (Q7, u10) =>
  zb1 (zwhile (mf_plan_L246 p1 p2 p4 p6 l7 l8) (Q7, (0 : Int32))) (fun y15 => match y15 with
  | (Q11, u14) =>
  some (.inl (Q11, (l7 + 1)))))))
theorem ms_plan_J189 {X : Xq} {M : Zm} {Q : Mq} (h : mR X M Q) (p1 : Int32) (p2 : Int64) (p4 : Int32) (p6 : Int32) (l7 : Int32) (l8 : Int32) (s0 : Int32) (s1 : Int32) (s2 : Nat) (hf_s2 : mty s2 = 2) : zG (mU (mP X) (mP X)) (zf_X12_plan_J189 M (some X.2.2.1) p1 p2 p4 p6 l7 l8 s0 s1 (some (X.2.2.2.1 s2))) (mf_plan_J189 Q p1 p2 p4 p6 l7 l8 s0 s1 s2) := by
  unfold zf_X12_plan_J189 mf_plan_J189
  refine zG_si h hf_s2 (fun M3 Q1 h2 => ?_)
  refine zG_gr h2 (by decide) ?_
  refine zG_sj h2 rfl (fun M6 Q4 h5 => ?_)
  refine zG_b1 (S := mP X) (zG_wh (R := mP X) (ms_plan_L204 _ _ _ _ _ _) ⟨h5, rfl⟩) ?_
  rintro ⟨M9, u10'⟩ ⟨Q7, u10⟩ ⟨h8, eh8⟩
  dsimp only at h8 eh8
  cases eh8
  dsimp only
  refine zG_b1 (S := mP X) (zG_wh (R := mP X) (ms_plan_L246 _ _ _ _ _ _) ⟨h8, rfl⟩) ?_
  rintro ⟨M13, u14'⟩ ⟨Q11, u14⟩ ⟨h12, eh12⟩
  dsimp only at h12 eh12
  cases eh12
  dsimp only
  exact zG_some (show mP X _ _ from ⟨h12, rfl⟩)
noncomputable def mf_plan_L136 (p1 : Int32) (p2 : Int64) (p4 : Int32) (p6 : Int32) (x : Mq × Int32) : Option ((Mq × Int32) ⊕ (Mq × Int32)) := match x with
  | (Q, l7) =>
  (if (Q.1 33 0) ≤ l7 then
  some (.inr (Q, l7))
  else
  zb1 (mo_ai Q 34 l7) (fun u1 =>
  mbd (mf_spare Q u1) (fun Q2 u5 =>
  zb1 (zo_ld u5 (p4.toInt64)) (fun u6 =>
  (if (p6.toInt64) ≤ u6 then
  mf_plan_J189 Q2 p1 p2 p4 p6 l7 u1 p6 l7 72
  else
  mf_plan_J189 Q2 p1 p2 p4 p6 l7 u1 (u6.toInt32) l7 72)))))
theorem ms_plan_L136 {X : Xq} (p1 : Int32) (p2 : Int64) (p4 : Int32) (p6 : Int32) : ∀ (x : Zm × Int32) (y : Mq × Int32), mP X x y → zG (mU (mP X) (mP X)) (zf_X12_plan_L136 (some X.2.2.1) p1 p2 p4 p6 x) (mf_plan_L136 p1 p2 p4 p6 y) := by
  rintro ⟨M, l7'⟩ ⟨Q, l7⟩ ⟨h, e⟩
  dsimp only at h e
  cases e
  unfold zf_X12_plan_L136 mf_plan_L136
  dsimp only
  refine zG_gi h rfl ?_
  refine zG_ite ?_ ?_
  · exact zG_some (show mP X _ _ from ⟨h, rfl⟩)
  · refine zG_gr h (by decide) ?_
    refine zG_ai h rfl (fun u1 => ?_)
    refine zG_rc h ?_
    refine zG_bd (ms_spare h _) (fun M4 Q2 u5 h3 => ?_)
    refine zG_op (fun u6 => ?_)
    refine zG_gr h3 (by decide) ?_
    refine zG_ite ?_ ?_
    · exact ms_plan_J189 h3 _ _ _ _ _ _ _ _ _ rfl
    · exact ms_plan_J189 h3 _ _ _ _ _ _ _ _ _ rfl
noncomputable def mf_plan_L370 (p4 : Int32) (x : Mq × Int32) : Option ((Mq × Int32) ⊕ (Mq × Int32)) := match x with
  | (Q, l7) =>
  (if (Q.1 33 0) ≤ l7 then
  some (.inr (Q, l7))
  else
  zb1 (mo_ai Q 74 l7) (fun u1 =>
  zb1 (mo_sj Q 37 l7 ((u1.toInt64) * (p4.toInt64))) (fun Q2 =>
  some (.inl (Q2, (l7 + 1))))))
theorem ms_plan_L370 {X : Xq} (p4 : Int32) : ∀ (x : Zm × Int32) (y : Mq × Int32), mP X x y → zG (mU (mP X) (mP X)) (zf_X12_plan_L370 (some X.2.2.1) p4 x) (mf_plan_L370 p4 y) := by
  rintro ⟨M, l7'⟩ ⟨Q, l7⟩ ⟨h, e⟩
  dsimp only at h e
  cases e
  unfold zf_X12_plan_L370 mf_plan_L370
  dsimp only
  refine zG_gi h rfl ?_
  refine zG_ite ?_ ?_
  · exact zG_some (show mP X _ _ from ⟨h, rfl⟩)
  · refine zG_gr h (by decide) ?_
    refine zG_gr h (by decide) ?_
    refine zG_ai h rfl (fun u1 => ?_)
    refine zG_sj h rfl (fun M4 Q2 h3 => ?_)
    exact zG_some (show mP X _ _ from ⟨h3, rfl⟩)
noncomputable def mf_plan_J56 (Q : Mq) : Option (Mq × Int64) :=
  mbd (mf_no Q (1 : Int32)) (fun Q1 u4 =>
  some (Q1, u4))
theorem ms_plan_J56 {X : Xq} {M : Zm} {Q : Mq} (h : mR X M Q)  : zG (mP X) (zf_X12_plan_J56 M (some X.2.2.1)) (mf_plan_J56 Q) := by
  unfold zf_X12_plan_J56 mf_plan_J56
  refine zG_rc h ?_
  refine zG_bd (ms_no h _) (fun M3 Q1 u4 h2 => ?_)
  exact zG_some ⟨h2, rfl⟩
noncomputable def mf_plan (Q : Mq) (l1 : Int32) (l2 : Int64) (l4 : Int32) : Option (Mq × Int64) :=
  mbd (mf_begin Q) (fun Q1 _ =>
  mbd (mf_isAmount Q1 l2) (fun Q4 u7 =>
  (if u7 = 0 then
  mf_plan_J17 Q4
  else
  (if 0 ≤ l4 then
  (if l4 = 0 then
  mbd (mf_no Q4 (5 : Int32)) (fun Q8 u11 =>
  some (Q8, u11))
  else
  zb1 (zo_lm l2 (l4.toInt64)) (fun u12 =>
  (if u12 = (0 : Int64) then
  zb1 (zo_ld l2 (l4.toInt64)) (fun u13 =>
  (if u13 ≤ (12 : Int64) then
  mbd (mf_lookedLabel Q4 l1) (fun Q14 u17 =>
  (if u17 ≤ 0 then
  (if (Q14.1 33 0) = 0 then
  mbd (mf_no Q14 (10 : Int32)) (fun Q18 u21 =>
  some (Q18, u21))
  else
  (if (Q14.1 33 0) ≤ (6 : Int32) then
  mbd (mf_isOneInCask Q14) (fun Q22 u25 =>
  (if u25 = 0 then
  zb1 (zo_ld l2 (l4.toInt64)) (fun u26 =>
  zb1 (zwhile (mf_plan_L136 l1 l2 l4 (u26.toInt32)) (Q22, (0 : Int32))) (fun y52 => match y52 with
  | (Q27, u30) =>
  zb1 (some (qj Q27 67 0 l2)) (fun Q31 =>
  zb1 (some (qj Q31 75 0 (-1 : Int64))) (fun Q34 =>
  mbd (mf_search 32 Q34 l1 (0 : Int32) (u26.toInt32) (0 : Int64)) (fun Q37 _ =>
  (if (0 : Int64) ≤ (Q37.2 75 0) then
  zb1 (some (qi Q37 36 0 (Q37.1 33 0))) (fun Q40 =>
  zb1 (zwhile (mf_plan_L370 l4) (Q40, (0 : Int32))) (fun y47 => match y47 with
  | (Q43, u46) =>
  some (Q43, (Q43.2 75 0))))
  else
  mbd (mf_no Q37 (14 : Int32)) (fun Q48 u51 =>
  some (Q48, u51))))))))
  else
  mbd (mf_no Q22 (9 : Int32)) (fun Q53 u56 =>
  some (Q53, u56))))
  else
  mbd (mf_no Q14 (12 : Int32)) (fun Q57 u60 =>
  some (Q57, u60))))
  else
  mbd (mf_no Q14 u17) (fun Q61 u64 =>
  some (Q61, u64))))
  else
  mf_plan_J56 Q4))
  else
  mf_plan_J56 Q4)))
  else
  mf_plan_J17 Q4))))
theorem ms_plan {X : Xq} {M : Zm} {Q : Mq} (h : mR X M Q) (l1 : Int32) (l2 : Int64) (l4 : Int32) : zG (mP X) (zf_X12_plan M (some X.2.2.1) l1 l2 l4) (mf_plan Q l1 l2 l4) := by
  unfold zf_X12_plan mf_plan
  refine zG_rc h ?_
  refine zG_bd (ms_begin h) (fun M3 Q1 _ h2 => ?_)
  refine zG_rc h2 ?_
  refine zG_bd (ms_isAmount h2 _) (fun M6 Q4 u7 h5 => ?_)
  refine zG_ite ?_ ?_
  · exact ms_plan_J17 h5
  · refine zG_ite ?_ ?_
    · refine zG_ite ?_ ?_
      · refine zG_rc h5 ?_
        refine zG_bd (ms_no h5 _) (fun M10 Q8 u11 h9 => ?_)
        exact zG_some ⟨h9, rfl⟩
      · refine zG_op (fun u12 => ?_)
        refine zG_ite ?_ ?_
        · refine zG_op (fun u13 => ?_)
          refine zG_ite ?_ ?_
          · refine zG_rc h5 ?_
            refine zG_bd (ms_lookedLabel h5 _) (fun M16 Q14 u17 h15 => ?_)
            refine zG_ite ?_ ?_
            · refine zG_gi h15 rfl ?_
              refine zG_ite ?_ ?_
              · refine zG_rc h15 ?_
                refine zG_bd (ms_no h15 _) (fun M20 Q18 u21 h19 => ?_)
                exact zG_some ⟨h19, rfl⟩
              · refine zG_gi h15 rfl ?_
                refine zG_ite ?_ ?_
                · refine zG_rc h15 ?_
                  refine zG_bd (ms_isOneInCask h15) (fun M24 Q22 u25 h23 => ?_)
                  refine zG_ite ?_ ?_
                  · refine zG_op (fun u26 => ?_)
                    refine zG_b1 (S := mP X) (zG_wh (R := mP X) (ms_plan_L136 _ _ _ _) ⟨h23, rfl⟩) ?_
                    rintro ⟨M29, u30'⟩ ⟨Q27, u30⟩ ⟨h28, eh28⟩
                    dsimp only at h28 eh28
                    cases eh28
                    dsimp only
                    refine zG_pj h28 rfl (fun M33 Q31 h32 => ?_)
                    refine zG_pj h32 rfl (fun M36 Q34 h35 => ?_)
                    refine zG_rc h35 ?_
                    refine zG_bd (ms_search 32 _ _ h35 _ _ _ _) (fun M39 Q37 _ h38 => ?_)
                    refine zG_gj h38 rfl ?_
                    refine zG_ite ?_ ?_
                    · refine zG_gi h38 rfl ?_
                      refine zG_pi h38 rfl (by decide) (fun M42 Q40 h41 => ?_)
                      refine zG_b1 (S := mP X) (zG_wh (R := mP X) (ms_plan_L370 _) ⟨h41, rfl⟩) ?_
                      rintro ⟨M45, u46'⟩ ⟨Q43, u46⟩ ⟨h44, eh44⟩
                      dsimp only at h44 eh44
                      cases eh44
                      dsimp only
                      refine zG_gj h44 rfl ?_
                      exact zG_some ⟨h44, rfl⟩
                    · refine zG_rc h38 ?_
                      refine zG_bd (ms_no h38 _) (fun M50 Q48 u51 h49 => ?_)
                      exact zG_some ⟨h49, rfl⟩
                  · refine zG_rc h23 ?_
                    refine zG_bd (ms_no h23 _) (fun M55 Q53 u56 h54 => ?_)
                    exact zG_some ⟨h54, rfl⟩
                · refine zG_rc h15 ?_
                  refine zG_bd (ms_no h15 _) (fun M59 Q57 u60 h58 => ?_)
                  exact zG_some ⟨h58, rfl⟩
            · refine zG_rc h15 ?_
              refine zG_bd (ms_no h15 _) (fun M63 Q61 u64 h62 => ?_)
              exact zG_some ⟨h62, rfl⟩
          · exact ms_plan_J56 h5
        · exact ms_plan_J56 h5
    · exact ms_plan_J17 h5
noncomputable def mf_planned_J12 (Q : Mq) : Option (Mq × Int64) :=
  some (Q, (0 : Int64))
theorem ms_planned_J12 {X : Xq} {M : Zm} {Q : Mq} (h : mR X M Q)  : zG (mP X) (zf_X12_planned_J12 M) (mf_planned_J12 Q) := by
  unfold zf_X12_planned_J12 mf_planned_J12
  exact zG_some ⟨h, rfl⟩
noncomputable def mf_planned (Q : Mq) (l1 : Int32) : Option (Mq × Int64) :=
  (if l1 < 0 then
  mf_planned_J12 Q
  else
  (if l1 < (Q.1 36 0) then
  zb1 (mo_aj Q 37 l1) (fun u1 =>
  some (Q, u1))
  else
  mf_planned_J12 Q))
theorem ms_planned {X : Xq} {M : Zm} {Q : Mq} (h : mR X M Q) (l1 : Int32) : zG (mP X) (zf_X12_planned M (some X.2.2.1) l1) (mf_planned Q l1) := by
  unfold zf_X12_planned mf_planned
  refine zG_ite ?_ ?_
  · exact ms_planned_J12 h
  · refine zG_gi h rfl ?_
    refine zG_ite ?_ ?_
    · refine zG_gr h (by decide) ?_
      refine zG_aj h rfl (fun u1 => ?_)
      exact zG_some ⟨h, rfl⟩
    · exact ms_planned_J12 h
noncomputable def mf_rack_J77 (Q : Mq) : Option (Mq × Int64) :=
  mbd (mf_no Q (9 : Int32)) (fun Q1 u4 =>
  some (Q1, u4))
theorem ms_rack_J77 {X : Xq} {M : Zm} {Q : Mq} (h : mR X M Q)  : zG (mP X) (zf_X12_rack_J77 M (some X.2.2.1)) (mf_rack_J77 Q) := by
  unfold zf_X12_rack_J77 mf_rack_J77
  refine zG_rc h ?_
  refine zG_bd (ms_no h _) (fun M3 Q1 u4 h2 => ?_)
  exact zG_some ⟨h2, rfl⟩
noncomputable def mf_rack_J37 (Q : Mq) (l1 : Int32) (l2 : Int32) (l3 : Int64) (l5 : Int32) : Option (Mq × Int64) :=
  (if l5 ≤ 0 then
  (if l1 = l2 then
  mbd (mf_no Q (13 : Int32)) (fun Q1 u4 =>
  some (Q1, u4))
  else
  mbd (mf_isInCask Q l1) (fun Q5 u8 =>
  (if u8 = 0 then
  mbd (mf_isInCask Q5 l2) (fun Q9 u12 =>
  (if u12 = 0 then
  mbd (mf_spare Q9 l1) (fun Q13 u16 =>
  (if l3 ≤ u16 then
  mbd (mf_most Q13 l2) (fun Q17 u20 =>
  mbd (mf_inVessel Q17 l2) (fun Q21 u24 =>
  (if (u24 + l3) ≤ u20 then
  zb1 (some (qi Q21 60 0 (0 : Int32))) (fun Q25 =>
  mbd (mf_drawFrom Q25 l1 l3 (1 : Int32)) (fun Q28 _ =>
  mbd (mf_mixInto Q28 l2) (fun Q31 u34 =>
  (if u34 = 0 then
  mbd (mf_no Q31 (12 : Int32)) (fun Q35 u38 =>
  some (Q35, u38))
  else
  mbd (mf_keep Q31) (fun Q39 _ =>
  mbd (mf_takeDraws Q39 (-1 : Int32)) (fun Q42 _ =>
  mbd (mf_become Q42 l2) (fun Q45 _ =>
  mbd (mf_enter Q45 (2 : Int32) l1 l2 l3) (fun Q48 _ =>
  mbd (mf_inVessel Q48 l2) (fun Q51 u54 =>
  some (Q51, u54))))))))))
  else
  mbd (mf_no Q21 (11 : Int32)) (fun Q55 u58 =>
  some (Q55, u58)))))
  else
  mbd (mf_no Q13 (10 : Int32)) (fun Q59 u62 =>
  some (Q59, u62))))
  else
  mf_rack_J77 Q9))
  else
  mf_rack_J77 Q5)))
  else
  mbd (mf_no Q l5) (fun Q63 u66 =>
  some (Q63, u66)))
theorem ms_rack_J37 {X : Xq} {M : Zm} {Q : Mq} (h : mR X M Q) (l1 : Int32) (l2 : Int32) (l3 : Int64) (l5 : Int32) : zG (mP X) (zf_X12_rack_J37 M (some X.2.2.1) l1 l2 l3 l5) (mf_rack_J37 Q l1 l2 l3 l5) := by
  unfold zf_X12_rack_J37 mf_rack_J37
  refine zG_ite ?_ ?_
  · refine zG_ite ?_ ?_
    · refine zG_rc h ?_
      refine zG_bd (ms_no h _) (fun M3 Q1 u4 h2 => ?_)
      exact zG_some ⟨h2, rfl⟩
    · refine zG_rc h ?_
      refine zG_bd (ms_isInCask h _) (fun M7 Q5 u8 h6 => ?_)
      refine zG_ite ?_ ?_
      · refine zG_rc h6 ?_
        refine zG_bd (ms_isInCask h6 _) (fun M11 Q9 u12 h10 => ?_)
        refine zG_ite ?_ ?_
        · refine zG_rc h10 ?_
          refine zG_bd (ms_spare h10 _) (fun M15 Q13 u16 h14 => ?_)
          refine zG_ite ?_ ?_
          · refine zG_rc h14 ?_
            refine zG_bd (ms_most h14 _) (fun M19 Q17 u20 h18 => ?_)
            refine zG_rc h18 ?_
            refine zG_bd (ms_inVessel h18 _) (fun M23 Q21 u24 h22 => ?_)
            refine zG_ite ?_ ?_
            · refine zG_pi h22 rfl (by decide) (fun M27 Q25 h26 => ?_)
              refine zG_rc h26 ?_
              refine zG_bd (ms_drawFrom h26 _ _ _) (fun M30 Q28 _ h29 => ?_)
              refine zG_rc h29 ?_
              refine zG_bd (ms_mixInto h29 _) (fun M33 Q31 u34 h32 => ?_)
              refine zG_ite ?_ ?_
              · refine zG_rc h32 ?_
                refine zG_bd (ms_no h32 _) (fun M37 Q35 u38 h36 => ?_)
                exact zG_some ⟨h36, rfl⟩
              · refine zG_rc h32 ?_
                refine zG_bd (ms_keep h32) (fun M41 Q39 _ h40 => ?_)
                refine zG_rc h40 ?_
                refine zG_bd (ms_takeDraws h40 _) (fun M44 Q42 _ h43 => ?_)
                refine zG_rc h43 ?_
                refine zG_bd (ms_become h43 _) (fun M47 Q45 _ h46 => ?_)
                refine zG_rc h46 ?_
                refine zG_bd (ms_enter h46 _ _ _ _) (fun M50 Q48 _ h49 => ?_)
                refine zG_rc h49 ?_
                refine zG_bd (ms_inVessel h49 _) (fun M53 Q51 u54 h52 => ?_)
                exact zG_some ⟨h52, rfl⟩
            · refine zG_rc h22 ?_
              refine zG_bd (ms_no h22 _) (fun M57 Q55 u58 h56 => ?_)
              exact zG_some ⟨h56, rfl⟩
          · refine zG_rc h14 ?_
            refine zG_bd (ms_no h14 _) (fun M61 Q59 u62 h60 => ?_)
            exact zG_some ⟨h60, rfl⟩
        · exact ms_rack_J77 h10
      · exact ms_rack_J77 h6
  · refine zG_rc h ?_
    refine zG_bd (ms_no h _) (fun M65 Q63 u66 h64 => ?_)
    exact zG_some ⟨h64, rfl⟩
noncomputable def mf_rack (Q : Mq) (l1 : Int32) (l2 : Int32) (l3 : Int64) : Option (Mq × Int64) :=
  mbd (mf_begin Q) (fun Q1 _ =>
  mbd (mf_isAmount Q1 l3) (fun Q4 u7 =>
  (if u7 = 0 then
  mbd (mf_no Q4 (1 : Int32)) (fun Q8 u11 =>
  some (Q8, u11))
  else
  mbd (mf_looked Q4 l1) (fun Q12 u15 =>
  (if u15 = 0 then
  mbd (mf_lookedVessel Q12 l2) (fun Q16 u19 =>
  mf_rack_J37 Q16 l1 l2 l3 u19)
  else
  mf_rack_J37 Q12 l1 l2 l3 u15)))))
theorem ms_rack {X : Xq} {M : Zm} {Q : Mq} (h : mR X M Q) (l1 : Int32) (l2 : Int32) (l3 : Int64) : zG (mP X) (zf_X12_rack M (some X.2.2.1) l1 l2 l3) (mf_rack Q l1 l2 l3) := by
  unfold zf_X12_rack mf_rack
  refine zG_rc h ?_
  refine zG_bd (ms_begin h) (fun M3 Q1 _ h2 => ?_)
  refine zG_rc h2 ?_
  refine zG_bd (ms_isAmount h2 _) (fun M6 Q4 u7 h5 => ?_)
  refine zG_ite ?_ ?_
  · refine zG_rc h5 ?_
    refine zG_bd (ms_no h5 _) (fun M10 Q8 u11 h9 => ?_)
    exact zG_some ⟨h9, rfl⟩
  · refine zG_rc h5 ?_
    refine zG_bd (ms_looked h5 _) (fun M14 Q12 u15 h13 => ?_)
    refine zG_ite ?_ ?_
    · refine zG_rc h13 ?_
      refine zG_bd (ms_lookedVessel h13 _) (fun M18 Q16 u19 h17 => ?_)
      exact ms_rack_J37 h17 _ _ _ _
    · exact ms_rack_J37 h13 _ _ _ _
noncomputable def mf_room (Q : Mq) (l1 : Int32) : Option (Mq × Int64) :=
  mbd (mf_begin Q) (fun Q1 _ =>
  mbd (mf_looked Q1 l1) (fun Q4 u7 =>
  (if u7 ≤ 0 then
  mbd (mf_most Q4 l1) (fun Q8 u11 =>
  mbd (mf_inAll Q8 l1) (fun Q12 u15 =>
  some (Q12, (u11 - u15))))
  else
  mbd (mf_no Q4 u7) (fun Q16 u19 =>
  some (Q16, u19)))))
theorem ms_room {X : Xq} {M : Zm} {Q : Mq} (h : mR X M Q) (l1 : Int32) : zG (mP X) (zf_X12_room M (some X.2.2.1) l1) (mf_room Q l1) := by
  unfold zf_X12_room mf_room
  refine zG_rc h ?_
  refine zG_bd (ms_begin h) (fun M3 Q1 _ h2 => ?_)
  refine zG_rc h2 ?_
  refine zG_bd (ms_looked h2 _) (fun M6 Q4 u7 h5 => ?_)
  refine zG_ite ?_ ?_
  · refine zG_rc h5 ?_
    refine zG_bd (ms_most h5 _) (fun M10 Q8 u11 h9 => ?_)
    refine zG_rc h9 ?_
    refine zG_bd (ms_inAll h9 _) (fun M14 Q12 u15 h13 => ?_)
    exact zG_some ⟨h13, rfl⟩
  · refine zG_rc h5 ?_
    refine zG_bd (ms_no h5 _) (fun M18 Q16 u19 h17 => ?_)
    exact zG_some ⟨h17, rfl⟩
noncomputable def mf_row_J20 (Q : Mq) : Option (Mq × Int64) :=
  mbd (mf_no Q (1 : Int32)) (fun Q1 u4 =>
  some (Q1, u4))
theorem ms_row_J20 {X : Xq} {M : Zm} {Q : Mq} (h : mR X M Q)  : zG (mP X) (zf_X12_row_J20 M (some X.2.2.1)) (mf_row_J20 Q) := by
  unfold zf_X12_row_J20 mf_row_J20
  refine zG_rc h ?_
  refine zG_bd (ms_no h _) (fun M3 Q1 u4 h2 => ?_)
  exact zG_some ⟨h2, rfl⟩
noncomputable def mf_row_J36 (Q : Mq) : Option (Mq × Int64) :=
  mbd (mf_no Q (3 : Int32)) (fun Q1 u4 =>
  some (Q1, u4))
theorem ms_row_J36 {X : Xq} {M : Zm} {Q : Mq} (h : mR X M Q)  : zG (mP X) (zf_X12_row_J36 M (some X.2.2.1)) (mf_row_J36 Q) := by
  unfold zf_X12_row_J36 mf_row_J36
  refine zG_rc h ?_
  refine zG_bd (ms_no h _) (fun M3 Q1 u4 h2 => ?_)
  exact zG_some ⟨h2, rfl⟩
noncomputable def mf_row (Q : Mq) (l1 : Int32) (l2 : Int32) (l3 : Int32) : Option (Mq × Int64) :=
  mbd (mf_begin Q) (fun Q1 _ =>
  (if l2 < 0 then
  mf_row_J20 Q1
  else
  (if (6 : Int32) < l2 then
  mf_row_J20 Q1
  else
  (if l3 ≤ (60 : Int32) then
  (if l1 < 0 then
  mf_row_J36 Q1
  else
  (if l1 < (20 : Int32) then
  zb1 (mo_ai Q1 11 l1) (fun u4 =>
  (if u4 < 0 then
  (if 0 ≤ l3 then
  mbd (mf_keep Q1) (fun Q5 _ =>
  zb1 (mo_si Q5 11 l1 l2) (fun Q8 =>
  zb1 (mo_si Q8 12 l1 l3) (fun Q11 =>
  some (Q11, (l3.toInt64)))))
  else
  mbd (mf_no Q1 (7 : Int32)) (fun Q14 u17 =>
  some (Q14, u17)))
  else
  mbd (mf_no Q1 (8 : Int32)) (fun Q18 u21 =>
  some (Q18, u21))))
  else
  mf_row_J36 Q1))
  else
  mf_row_J20 Q1))))
theorem ms_row {X : Xq} {M : Zm} {Q : Mq} (h : mR X M Q) (l1 : Int32) (l2 : Int32) (l3 : Int32) : zG (mP X) (zf_X12_row M (some X.2.2.1) l1 l2 l3) (mf_row Q l1 l2 l3) := by
  unfold zf_X12_row mf_row
  refine zG_rc h ?_
  refine zG_bd (ms_begin h) (fun M3 Q1 _ h2 => ?_)
  refine zG_ite ?_ ?_
  · exact ms_row_J20 h2
  · refine zG_ite ?_ ?_
    · exact ms_row_J20 h2
    · refine zG_ite ?_ ?_
      · refine zG_ite ?_ ?_
        · exact ms_row_J36 h2
        · refine zG_ite ?_ ?_
          · refine zG_gr h2 (by decide) ?_
            refine zG_ai h2 rfl (fun u4 => ?_)
            refine zG_ite ?_ ?_
            · refine zG_ite ?_ ?_
              · refine zG_rc h2 ?_
                refine zG_bd (ms_keep h2) (fun M7 Q5 _ h6 => ?_)
                refine zG_gr h6 (by decide) ?_
                refine zG_si h6 rfl (fun M10 Q8 h9 => ?_)
                refine zG_gr h9 (by decide) ?_
                refine zG_si h9 rfl (fun M13 Q11 h12 => ?_)
                exact zG_some ⟨h12, rfl⟩
              · refine zG_rc h2 ?_
                refine zG_bd (ms_no h2 _) (fun M16 Q14 u17 h15 => ?_)
                exact zG_some ⟨h15, rfl⟩
            · refine zG_rc h2 ?_
              refine zG_bd (ms_no h2 _) (fun M20 Q18 u21 h19 => ?_)
              exact zG_some ⟨h19, rfl⟩
          · exact ms_row_J36 h2
      · exact ms_row_J20 h2
noncomputable def mf_rule_J257 (Q : Mq) (l1 : Int32) (l8 : Int32) : Option (Mq × Int64) :=
  zb1 (mo_ai Q 25 l1) (fun u1 =>
  zb1 (mo_si Q 26 (((20 : Int32) * l1) + u1) l8) (fun Q2 =>
  zb1 (mo_ai Q2 25 l1) (fun u5 =>
  zb1 (mo_si Q2 25 l1 (u5 + (1 : Int32))) (fun Q6 =>
  zb1 (mo_ai Q6 25 l1) (fun u9 =>
  some (Q6, (u9.toInt64)))))))
theorem ms_rule_J257 {X : Xq} {M : Zm} {Q : Mq} (h : mR X M Q) (l1 : Int32) (l8 : Int32) : zG (mP X) (zf_X12_rule_J257 M (some X.2.2.1) l1 l8) (mf_rule_J257 Q l1 l8) := by
  unfold zf_X12_rule_J257 mf_rule_J257
  refine zG_gr h (by decide) ?_
  refine zG_gr h (by decide) ?_
  refine zG_ai h rfl (fun u1 => ?_)
  refine zG_si h rfl (fun M4 Q2 h3 => ?_)
  refine zG_gr h3 (by decide) ?_
  refine zG_ai h3 rfl (fun u5 => ?_)
  refine zG_si h3 rfl (fun M8 Q6 h7 => ?_)
  refine zG_gr h7 (by decide) ?_
  refine zG_ai h7 rfl (fun u9 => ?_)
  exact zG_some ⟨h7, rfl⟩
noncomputable def mf_rule_J132 (Q : Mq) (l1 : Int32) (l2 : Int32) (l3 : Int32) (l4 : Int32) (l5 : Int32) : Option (Mq × Int64) :=
  zb1 (mo_ai Q 24 l1) (fun u1 =>
  zb1 (mo_ai Q 24 l1) (fun u2 =>
  zb1 (mo_si Q 24 l1 (u2 + (1 : Int32))) (fun Q3 =>
  zb1 (mo_si Q3 27 (((20 : Int32) * l1) + u1) l2) (fun Q6 =>
  zb1 (mo_si Q6 28 (((20 : Int32) * l1) + u1) l3) (fun Q9 =>
  zb1 (mo_si Q9 29 (((20 : Int32) * l1) + u1) l4) (fun Q12 =>
  zb1 (mo_si Q12 30 (((20 : Int32) * l1) + u1) l5) (fun Q15 =>
  (if l2 = (6 : Int32) then
  zb1 (mo_ai Q15 25 l1) (fun u18 =>
  zb1 (mo_si Q15 25 l1 (u18 - (2 : Int32))) (fun Q19 =>
  zb1 (mo_ai Q19 25 l1) (fun u22 =>
  zb1 (mo_ai Q19 26 (((20 : Int32) * l1) + u22)) (fun u23 =>
  zb1 (mo_si Q19 31 (((20 : Int32) * l1) + u1) u23) (fun Q24 =>
  zb1 (mo_ai Q24 25 l1) (fun u27 =>
  zb1 (mo_ai Q24 26 ((((20 : Int32) * l1) + u27) + (1 : Int32))) (fun u28 =>
  zb1 (mo_si Q24 32 (((20 : Int32) * l1) + u1) u28) (fun Q29 =>
  mf_rule_J257 Q29 l1 (((20 : Int32) * l1) + u1)))))))))
  else
  mf_rule_J257 Q15 l1 (((20 : Int32) * l1) + u1)))))))))
theorem ms_rule_J132 {X : Xq} {M : Zm} {Q : Mq} (h : mR X M Q) (l1 : Int32) (l2 : Int32) (l3 : Int32) (l4 : Int32) (l5 : Int32) : zG (mP X) (zf_X12_rule_J132 M (some X.2.2.1) l1 l2 l3 l4 l5) (mf_rule_J132 Q l1 l2 l3 l4 l5) := by
  unfold zf_X12_rule_J132 mf_rule_J132
  refine zG_gr h (by decide) ?_
  refine zG_ai h rfl (fun u1 => ?_)
  refine zG_gr h (by decide) ?_
  refine zG_ai h rfl (fun u2 => ?_)
  refine zG_si h rfl (fun M5 Q3 h4 => ?_)
  refine zG_gr h4 (by decide) ?_
  refine zG_si h4 rfl (fun M8 Q6 h7 => ?_)
  refine zG_gr h7 (by decide) ?_
  refine zG_si h7 rfl (fun M11 Q9 h10 => ?_)
  refine zG_gr h10 (by decide) ?_
  refine zG_si h10 rfl (fun M14 Q12 h13 => ?_)
  refine zG_gr h13 (by decide) ?_
  refine zG_si h13 rfl (fun M17 Q15 h16 => ?_)
  refine zG_ite ?_ ?_
  · refine zG_gr h16 (by decide) ?_
    refine zG_gr h16 (by decide) ?_
    refine zG_ai h16 rfl (fun u18 => ?_)
    refine zG_si h16 rfl (fun M21 Q19 h20 => ?_)
    refine zG_gr h20 (by decide) ?_
    refine zG_gr h20 (by decide) ?_
    refine zG_gr h20 (by decide) ?_
    refine zG_ai h20 rfl (fun u22 => ?_)
    refine zG_ai h20 rfl (fun u23 => ?_)
    refine zG_si h20 rfl (fun M26 Q24 h25 => ?_)
    refine zG_gr h25 (by decide) ?_
    refine zG_gr h25 (by decide) ?_
    refine zG_gr h25 (by decide) ?_
    refine zG_ai h25 rfl (fun u27 => ?_)
    refine zG_ai h25 rfl (fun u28 => ?_)
    refine zG_si h25 rfl (fun M31 Q29 h30 => ?_)
    exact ms_rule_J257 h30 _ _
  · exact ms_rule_J257 h16 _ _
noncomputable def mf_rule_J59 (Q : Mq) (l1 : Int32) (l2 : Int32) (l3 : Int32) (l4 : Int32) (l5 : Int32) (s0 : Int32) : Option (Mq × Int64) :=
  (if s0 = 0 then
  mbd (mf_no Q (1 : Int32)) (fun Q1 u4 =>
  some (Q1, u4))
  else
  mbd (mf_lookedLabel Q l1) (fun Q5 u8 =>
  (if u8 ≤ 0 then
  zb1 (mo_ai Q5 24 l1) (fun u9 =>
  (if u9 = (20 : Int32) then
  mbd (mf_no Q5 (12 : Int32)) (fun Q10 u13 =>
  some (Q10, u13))
  else
  (if l2 = (6 : Int32) then
  zb1 (mo_ai Q5 25 l1) (fun u14 =>
  (if (2 : Int32) ≤ u14 then
  mf_rule_J132 Q5 l1 l2 l3 l4 l5
  else
  mbd (mf_no Q5 (10 : Int32)) (fun Q15 u18 =>
  some (Q15, u18))))
  else
  mf_rule_J132 Q5 l1 l2 l3 l4 l5)))
  else
  mbd (mf_no Q5 u8) (fun Q19 u22 =>
  some (Q19, u22)))))
theorem ms_rule_J59 {X : Xq} {M : Zm} {Q : Mq} (h : mR X M Q) (l1 : Int32) (l2 : Int32) (l3 : Int32) (l4 : Int32) (l5 : Int32) (s0 : Int32) : zG (mP X) (zf_X12_rule_J59 M (some X.2.2.1) l1 l2 l3 l4 l5 s0) (mf_rule_J59 Q l1 l2 l3 l4 l5 s0) := by
  unfold zf_X12_rule_J59 mf_rule_J59
  refine zG_ite ?_ ?_
  · refine zG_rc h ?_
    refine zG_bd (ms_no h _) (fun M3 Q1 u4 h2 => ?_)
    exact zG_some ⟨h2, rfl⟩
  · refine zG_rc h ?_
    refine zG_bd (ms_lookedLabel h _) (fun M7 Q5 u8 h6 => ?_)
    refine zG_ite ?_ ?_
    · refine zG_gr h6 (by decide) ?_
      refine zG_ai h6 rfl (fun u9 => ?_)
      refine zG_ite ?_ ?_
      · refine zG_rc h6 ?_
        refine zG_bd (ms_no h6 _) (fun M12 Q10 u13 h11 => ?_)
        exact zG_some ⟨h11, rfl⟩
      · refine zG_ite ?_ ?_
        · refine zG_gr h6 (by decide) ?_
          refine zG_ai h6 rfl (fun u14 => ?_)
          refine zG_ite ?_ ?_
          · exact ms_rule_J132 h6 _ _ _ _ _
          · refine zG_rc h6 ?_
            refine zG_bd (ms_no h6 _) (fun M17 Q15 u18 h16 => ?_)
            exact zG_some ⟨h16, rfl⟩
        · exact ms_rule_J132 h6 _ _ _ _ _
    · refine zG_rc h6 ?_
      refine zG_bd (ms_no h6 _) (fun M21 Q19 u22 h20 => ?_)
      exact zG_some ⟨h20, rfl⟩
noncomputable def mf_rule_J54 (Q : Mq) (l1 : Int32) (l2 : Int32) (l3 : Int32) (l4 : Int32) (l5 : Int32) : Option (Mq × Int64) :=
  mf_rule_J59 Q l1 l2 l3 l4 l5 (1 : Int32)
theorem ms_rule_J54 {X : Xq} {M : Zm} {Q : Mq} (h : mR X M Q) (l1 : Int32) (l2 : Int32) (l3 : Int32) (l4 : Int32) (l5 : Int32) : zG (mP X) (zf_X12_rule_J54 M (some X.2.2.1) l1 l2 l3 l4 l5) (mf_rule_J54 Q l1 l2 l3 l4 l5) := by
  unfold zf_X12_rule_J54 mf_rule_J54
  exact ms_rule_J59 h _ _ _ _ _ _
noncomputable def mf_rule_J58 (Q : Mq) (l1 : Int32) (l2 : Int32) (l3 : Int32) (l4 : Int32) (l5 : Int32) : Option (Mq × Int64) :=
  mf_rule_J59 Q l1 l2 l3 l4 l5 (0 : Int32)
theorem ms_rule_J58 {X : Xq} {M : Zm} {Q : Mq} (h : mR X M Q) (l1 : Int32) (l2 : Int32) (l3 : Int32) (l4 : Int32) (l5 : Int32) : zG (mP X) (zf_X12_rule_J58 M (some X.2.2.1) l1 l2 l3 l4 l5) (mf_rule_J58 Q l1 l2 l3 l4 l5) := by
  unfold zf_X12_rule_J58 mf_rule_J58
  exact ms_rule_J59 h _ _ _ _ _ _
noncomputable def mf_rule (Q : Mq) (l1 : Int32) (l2 : Int32) (l3 : Int32) (l4 : Int32) (l5 : Int32) : Option (Mq × Int64) :=
  mbd (mf_begin Q) (fun Q1 _ =>
  (if l2 = (6 : Int32) then
  mf_rule_J54 Q1 l1 l2 l3 l4 l5
  else
  (if l2 < (1 : Int32) then
  mf_rule_J58 Q1 l1 l2 l3 l4 l5
  else
  (if (5 : Int32) < l2 then
  mf_rule_J58 Q1 l1 l2 l3 l4 l5
  else
  (if l3 < (1 : Int32) then
  mf_rule_J58 Q1 l1 l2 l3 l4 l5
  else
  (if (3 : Int32) < l3 then
  mf_rule_J58 Q1 l1 l2 l3 l4 l5
  else
  (if l4 < 0 then
  mf_rule_J58 Q1 l1 l2 l3 l4 l5
  else
  (if (15 : Int32) < l4 then
  mf_rule_J58 Q1 l1 l2 l3 l4 l5
  else
  (if l5 < 0 then
  mf_rule_J58 Q1 l1 l2 l3 l4 l5
  else
  (if (100 : Int32) < l5 then
  mf_rule_J58 Q1 l1 l2 l3 l4 l5
  else
  mf_rule_J54 Q1 l1 l2 l3 l4 l5))))))))))
theorem ms_rule {X : Xq} {M : Zm} {Q : Mq} (h : mR X M Q) (l1 : Int32) (l2 : Int32) (l3 : Int32) (l4 : Int32) (l5 : Int32) : zG (mP X) (zf_X12_rule M (some X.2.2.1) l1 l2 l3 l4 l5) (mf_rule Q l1 l2 l3 l4 l5) := by
  unfold zf_X12_rule mf_rule
  refine zG_rc h ?_
  refine zG_bd (ms_begin h) (fun M3 Q1 _ h2 => ?_)
  refine zG_ite ?_ ?_
  · exact ms_rule_J54 h2 _ _ _ _ _
  · refine zG_ite ?_ ?_
    · exact ms_rule_J58 h2 _ _ _ _ _
    · refine zG_ite ?_ ?_
      · exact ms_rule_J58 h2 _ _ _ _ _
      · refine zG_ite ?_ ?_
        · exact ms_rule_J58 h2 _ _ _ _ _
        · refine zG_ite ?_ ?_
          · exact ms_rule_J58 h2 _ _ _ _ _
          · refine zG_ite ?_ ?_
            · exact ms_rule_J58 h2 _ _ _ _ _
            · refine zG_ite ?_ ?_
              · exact ms_rule_J58 h2 _ _ _ _ _
              · refine zG_ite ?_ ?_
                · exact ms_rule_J58 h2 _ _ _ _ _
                · refine zG_ite ?_ ?_
                  · exact ms_rule_J58 h2 _ _ _ _ _
                  · exact ms_rule_J54 h2 _ _ _ _ _
noncomputable def mf_strays_J63 (Q : Mq) (p1 : Int32) (p2 : Int32) (l3 : Int32) (l4 : Int32) (l5 : Int32) : Option ((Mq × Int32 × Int32 × Int32) ⊕ (Mq × Int32 × Int32 × Int32)) :=
  some (.inl (Q, l3, l4, (l5 + 1)))
theorem ms_strays_J63 {X : Xq} {M : Zm} {Q : Mq} (h : mR X M Q) (p1 : Int32) (p2 : Int32) (l3 : Int32) (l4 : Int32) (l5 : Int32) : zG (mU (mP X) (mP X)) (zf_X12_strays_J63 M (some X.2.2.1) p1 p2 l3 l4 l5) (mf_strays_J63 Q p1 p2 l3 l4 l5) := by
  unfold zf_X12_strays_J63 mf_strays_J63
  exact zG_some (show mP X _ _ from ⟨h, rfl⟩)
noncomputable def mf_strays_L20 (p1 : Int32) (p2 : Int32) (x : Mq × Int32 × Int32 × Int32) : Option ((Mq × Int32 × Int32 × Int32) ⊕ (Mq × Int32 × Int32 × Int32)) := match x with
  | (Q, l3, l4, l5) =>
  (if (1200 : Int32) ≤ l5 then
  some (.inr (Q, l3, l4, l5))
  else
  zb1 (mo_ai Q 13 l5) (fun u1 =>
  (if u1 = p2 then
  zb1 (zo_id l5 (60 : Int32)) (fun u2 =>
  zb1 (zo_im l5 (60 : Int32)) (fun u3 =>
  mf_strays_J63 Q p1 p2 (l3 + 1) (((1 : Int32) + ((100 : Int32) * u2)) + u3) l5))
  else
  mf_strays_J63 Q p1 p2 l3 l4 l5)))
theorem ms_strays_L20 {X : Xq} (p1 : Int32) (p2 : Int32) : ∀ (x : Zm × Int32 × Int32 × Int32) (y : Mq × Int32 × Int32 × Int32), mP X x y → zG (mU (mP X) (mP X)) (zf_X12_strays_L20 (some X.2.2.1) p1 p2 x) (mf_strays_L20 p1 p2 y) := by
  rintro ⟨M, l3', l4', l5'⟩ ⟨Q, l3, l4, l5⟩ ⟨h, e⟩
  dsimp only at h e
  cases e
  unfold zf_X12_strays_L20 mf_strays_L20
  dsimp only
  refine zG_ite ?_ ?_
  · exact zG_some (show mP X _ _ from ⟨h, rfl⟩)
  · refine zG_gr h (by decide) ?_
    refine zG_ai h rfl (fun u1 => ?_)
    refine zG_ite ?_ ?_
    · refine zG_op (fun u2 => ?_)
      refine zG_op (fun u3 => ?_)
      exact ms_strays_J63 h _ _ _ _ _
    · exact ms_strays_J63 h _ _ _ _ _
noncomputable def mf_strays_J126 (Q : Mq) (p1 : Int32) (p2 : Int32) (l3 : Int32) (l4 : Int32) (p5 : Int32) (l6 : Int32) : Option ((Mq × Int32 × Int32 × Int32) ⊕ (Mq × Int32 × Int32 × Int32)) :=
  some (.inl (Q, l3, l4, (l6 + 1)))
theorem ms_strays_J126 {X : Xq} {M : Zm} {Q : Mq} (h : mR X M Q) (p1 : Int32) (p2 : Int32) (l3 : Int32) (l4 : Int32) (p5 : Int32) (l6 : Int32) : zG (mU (mP X) (mP X)) (zf_X12_strays_J126 M (some X.2.2.1) p1 p2 l3 l4 p5 l6) (mf_strays_J126 Q p1 p2 l3 l4 p5 l6) := by
  unfold zf_X12_strays_J126 mf_strays_J126
  exact zG_some (show mP X _ _ from ⟨h, rfl⟩)
noncomputable def mf_strays_L84 (p1 : Int32) (p2 : Int32) (p5 : Int32) (x : Mq × Int32 × Int32 × Int32) : Option ((Mq × Int32 × Int32 × Int32) ⊕ (Mq × Int32 × Int32 × Int32)) := match x with
  | (Q, l3, l4, l6) =>
  zb1 (mo_ai Q 6 p5) (fun u1 =>
  (if u1 ≤ l6 then
  some (.inr (Q, l3, l4, l6))
  else
  zb1 (mo_ai Q 7 (((4 : Int32) * p5) + l6)) (fun u2 =>
  (if u2 = p2 then
  mf_strays_J126 Q p1 p2 (l3 + 1) ((10000 : Int32) + p5) p5 l6
  else
  mf_strays_J126 Q p1 p2 l3 l4 p5 l6))))
theorem ms_strays_L84 {X : Xq} (p1 : Int32) (p2 : Int32) (p5 : Int32) : ∀ (x : Zm × Int32 × Int32 × Int32) (y : Mq × Int32 × Int32 × Int32), mP X x y → zG (mU (mP X) (mP X)) (zf_X12_strays_L84 (some X.2.2.1) p1 p2 p5 x) (mf_strays_L84 p1 p2 p5 y) := by
  rintro ⟨M, l3', l4', l6'⟩ ⟨Q, l3, l4, l6⟩ ⟨h, e⟩
  dsimp only at h e
  cases e
  unfold zf_X12_strays_L84 mf_strays_L84
  dsimp only
  refine zG_gr h (by decide) ?_
  refine zG_ai h rfl (fun u1 => ?_)
  refine zG_ite ?_ ?_
  · exact zG_some (show mP X _ _ from ⟨h, rfl⟩)
  · refine zG_gr h (by decide) ?_
    refine zG_ai h rfl (fun u2 => ?_)
    refine zG_ite ?_ ?_
    · exact ms_strays_J126 h _ _ _ _ _ _
    · exact ms_strays_J126 h _ _ _ _ _ _
noncomputable def mf_strays_L72 (p1 : Int32) (p2 : Int32) (x : Mq × Int32 × Int32 × Int32) : Option ((Mq × Int32 × Int32 × Int32) ⊕ (Mq × Int32 × Int32 × Int32)) := match x with
  | (Q, l3, l4, l5) =>
  (if (Q.1 1 0) ≤ l5 then
  some (.inr (Q, l3, l4, l5))
  else
  zb1 (zwhile (mf_strays_L84 p1 p2 l5) (Q, l3, l4, (0 : Int32))) (fun y7 => match y7 with
  | (Q1, u4, u5, u6) =>
  some (.inl (Q1, u4, u5, (l5 + 1)))))
theorem ms_strays_L72 {X : Xq} (p1 : Int32) (p2 : Int32) : ∀ (x : Zm × Int32 × Int32 × Int32) (y : Mq × Int32 × Int32 × Int32), mP X x y → zG (mU (mP X) (mP X)) (zf_X12_strays_L72 (some X.2.2.1) p1 p2 x) (mf_strays_L72 p1 p2 y) := by
  rintro ⟨M, l3', l4', l5'⟩ ⟨Q, l3, l4, l5⟩ ⟨h, e⟩
  dsimp only at h e
  cases e
  unfold zf_X12_strays_L72 mf_strays_L72
  dsimp only
  refine zG_gi h rfl ?_
  refine zG_ite ?_ ?_
  · exact zG_some (show mP X _ _ from ⟨h, rfl⟩)
  · refine zG_b1 (S := mP X) (zG_wh (R := mP X) (ms_strays_L84 _ _ _) ⟨h, rfl⟩) ?_
    rintro ⟨M3, u4', u5', u6'⟩ ⟨Q1, u4, u5, u6⟩ ⟨h2, eh2⟩
    dsimp only at h2 eh2
    cases eh2
    dsimp only
    exact zG_some (show mP X _ _ from ⟨h2, rfl⟩)
