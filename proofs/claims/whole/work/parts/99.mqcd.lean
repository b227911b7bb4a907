/-! The reference over the value, 4. -/
noncomputable def mf_strays_J157 (Q : Mq) (l1 : Int32) (l2 : Int32) : Option ((Mq × Int32 × Int32) ⊕ (Mq × Int32 × Int32)) :=
  some (.inl (Q, l1, (l2 + 1)))
theorem ms_strays_J157 {X : Xq} {M : Zm} {Q : Mq} (h : mR X M Q) (l1 : Int32) (l2 : Int32) : zG (mU (mP X) (mP X)) (zf_X12_strays_J157 M (some X.2.2.1) l1 l2) (mf_strays_J157 Q l1 l2) := by
  unfold zf_X12_strays_J157 mf_strays_J157
  exact zG_some (show mP X _ _ from ⟨h, rfl⟩)
noncomputable def mf_strays_J154 (Q : Mq) (l1 : Int32) (l2 : Int32) : Option ((Mq × Int32 × Int32) ⊕ (Mq × Int32 × Int32)) :=
  mf_strays_J157 Q (l1 + 1) l2
theorem ms_strays_J154 {X : Xq} {M : Zm} {Q : Mq} (h : mR X M Q) (l1 : Int32) (l2 : Int32) : zG (mU (mP X) (mP X)) (zf_X12_strays_J154 M (some X.2.2.1) l1 l2) (mf_strays_J154 Q l1 l2) := by
  unfold zf_X12_strays_J154 mf_strays_J154
  exact ms_strays_J157 h _ _
noncomputable def mf_strays_L4 (x : Mq × Int32 × Int32) : Option ((Mq × Int32 × Int32) ⊕ (Mq × Int32 × Int32)) := match x with
  | (Q, l1, l2) =>
  (if (Q.1 1 0) ≤ l2 then
  some (.inr (Q, l1, l2))
  else
  zb1 (zwhile (mf_strays_L20 l1 l2) (Q, (0 : Int32), (0 : Int32), (0 : Int32))) (fun y15 => match y15 with
  | (Q1, u4, u5, u6) =>
  zb1 (zwhile (mf_strays_L72 l1 l2) (Q1, u4, u5, (0 : Int32))) (fun y14 => match y14 with
  | (Q7, u10, u11, u12) =>
  (if (1 : Int32) < u10 then
  mf_strays_J154 Q7 l1 l2
  else
  zb1 (mo_ai Q7 5 l2) (fun u13 =>
  (if u11 = u13 then
  mf_strays_J157 Q7 l1 l2
  else
  mf_strays_J154 Q7 l1 l2))))))
theorem ms_strays_L4 {X : Xq}  : ∀ (x : Zm × Int32 × Int32) (y : Mq × Int32 × Int32), mP X x y → zG (mU (mP X) (mP X)) (zf_X12_strays_L4 (some X.2.2.1) x) (mf_strays_L4  y) := by
  rintro ⟨M, l1', l2'⟩ ⟨Q, l1, l2⟩ ⟨h, e⟩
  dsimp only at h e
  cases e
  unfold zf_X12_strays_L4 mf_strays_L4
  dsimp only
  refine zG_gi h rfl ?_
  refine zG_ite ?_ ?_
  · exact zG_some (show mP X _ _ from ⟨h, rfl⟩)
  · refine zG_b1 (S := mP X) (zG_wh (R := mP X) (ms_strays_L20 _ _) ⟨h, rfl⟩) ?_
    rintro ⟨M3, u4', u5', u6'⟩ ⟨Q1, u4, u5, u6⟩ ⟨h2, eh2⟩
    dsimp only at h2 eh2
    cases eh2
    dsimp only
    refine zG_b1 (S := mP X) (zG_wh (R := mP X) (ms_strays_L72 _ _) ⟨h2, rfl⟩) ?_
    rintro ⟨M9, u10', u11', u12'⟩ ⟨Q7, u10, u11, u12⟩ ⟨h8, eh8⟩
    dsimp only at h8 eh8
    cases eh8
    dsimp only
    refine zG_ite ?_ ?_
    · exact ms_strays_J154 h8 _ _
    · refine zG_gr h8 (by decide) ?_
      refine zG_ai h8 rfl (fun u13 => ?_)
      refine zG_ite ?_ ?_
      · exact ms_strays_J157 h8 _ _
      · exact ms_strays_J154 h8 _ _
noncomputable def mf_strays (Q : Mq) : Option (Mq × Int32) :=
  zb1 (zwhile (mf_strays_L4 ) (Q, (0 : Int32), (0 : Int32))) (fun y6 => match y6 with
  | (Q1, u4, u5) =>
  some (Q1, u4))
theorem ms_strays {X : Xq} {M : Zm} {Q : Mq} (h : mR X M Q)  : zG (mP X) (zf_X12_strays M (some X.2.2.1)) (mf_strays Q) := by
  unfold zf_X12_strays mf_strays
  refine zG_b1 (S := mP X) (zG_wh (R := mP X) (ms_strays_L4 ) ⟨h, rfl⟩) ?_
  rintro ⟨M3, u4', u5'⟩ ⟨Q1, u4, u5⟩ ⟨h2, eh2⟩
  dsimp only at h2 eh2
  cases eh2
  dsimp only
  exact zG_some ⟨h2, rfl⟩
noncomputable def mf_takeBack_L80 (p1 : Int32) (x : Mq × Int32) : Option ((Mq × Int32) ⊕ (Mq × Int32)) := match x with
  | (Q, l2) =>
  zb1 (mo_ai Q 6 p1) (fun u1 =>
  (if u1 ≤ l2 then
  some (.inr (Q, l2))
  else
  zb1 (mo_ai Q 52 (((4 : Int32) * p1) + l2)) (fun u2 =>
  zb1 (mo_si Q 7 (((4 : Int32) * p1) + l2) u2) (fun Q3 =>
  some (.inl (Q3, (l2 + 1)))))))
theorem ms_takeBack_L80 {X : Xq} (p1 : Int32) : ∀ (x : Zm × Int32) (y : Mq × Int32), mP X x y → zG (mU (mP X) (mP X)) (zf_X12_takeBack_L80 (some X.2.2.1) p1 x) (mf_takeBack_L80 p1 y) := by
  rintro ⟨M, l2'⟩ ⟨Q, l2⟩ ⟨h, e⟩
  dsimp only at h e
  cases e
  unfold zf_X12_takeBack_L80 mf_takeBack_L80
  dsimp only
  refine zG_gr h (by decide) ?_
  refine zG_ai h rfl (fun u1 => ?_)
  refine zG_ite ?_ ?_
  · exact zG_some (show mP X _ _ from ⟨h, rfl⟩)
  · refine zG_gr h (by decide) ?_
    refine zG_gr h (by decide) ?_
    refine zG_ai h rfl (fun u2 => ?_)
    refine zG_si h rfl (fun M5 Q3 h4 => ?_)
    exact zG_some (show mP X _ _ from ⟨h4, rfl⟩)
noncomputable def mf_takeBack_L133 (p1 : Int32) (x : Mq × Int32) : Option ((Mq × Int32) ⊕ (Mq × Int32)) := match x with
  | (Q, l2) =>
  zb1 (mo_ai Q 8 p1) (fun u1 =>
  (if (((60 : Int32) * p1) + u1) ≤ l2 then
  some (.inr (Q, l2))
  else
  zb1 (mo_ai Q 54 l2) (fun u2 =>
  zb1 (mo_si Q 9 l2 u2) (fun Q3 =>
  zb1 (mo_aj Q3 55 l2) (fun u6 =>
  zb1 (mo_sj Q3 10 l2 u6) (fun Q7 =>
  some (.inl (Q7, (l2 + 1)))))))))
theorem ms_takeBack_L133 {X : Xq} (p1 : Int32) : ∀ (x : Zm × Int32) (y : Mq × Int32), mP X x y → zG (mU (mP X) (mP X)) (zf_X12_takeBack_L133 (some X.2.2.1) p1 x) (mf_takeBack_L133 p1 y) := by
  rintro ⟨M, l2'⟩ ⟨Q, l2⟩ ⟨h, e⟩
  dsimp only at h e
  cases e
  unfold zf_X12_takeBack_L133 mf_takeBack_L133
  dsimp only
  refine zG_gr h (by decide) ?_
  refine zG_ai h rfl (fun u1 => ?_)
  refine zG_ite ?_ ?_
  · exact zG_some (show mP X _ _ from ⟨h, rfl⟩)
  · refine zG_gr h (by decide) ?_
    refine zG_gr h (by decide) ?_
    refine zG_ai h rfl (fun u2 => ?_)
    refine zG_si h rfl (fun M5 Q3 h4 => ?_)
    refine zG_gr h4 (by decide) ?_
    refine zG_gr h4 (by decide) ?_
    refine zG_aj h4 rfl (fun u6 => ?_)
    refine zG_sj h4 rfl (fun M9 Q7 h8 => ?_)
    exact zG_some (show mP X _ _ from ⟨h8, rfl⟩)
noncomputable def mf_takeBack_L34 (x : Mq × Int32) : Option ((Mq × Int32) ⊕ (Mq × Int32)) := match x with
  | (Q, l1) =>
  (if (Q.1 1 0) ≤ l1 then
  some (.inr (Q, l1))
  else
  zb1 (mo_ai Q 49 l1) (fun u1 =>
  zb1 (mo_si Q 4 l1 u1) (fun Q2 =>
  zb1 (mo_ai Q2 50 l1) (fun u5 =>
  zb1 (mo_si Q2 5 l1 u5) (fun Q6 =>
  zb1 (mo_ai Q6 51 l1) (fun u9 =>
  zb1 (mo_si Q6 6 l1 u9) (fun Q10 =>
  zb1 (zwhile (mf_takeBack_L80 l1) (Q10, (0 : Int32))) (fun y26 => match y26 with
  | (Q13, u16) =>
  zb1 (mo_ai Q13 53 l1) (fun u17 =>
  zb1 (mo_si Q13 8 l1 u17) (fun Q18 =>
  zb1 (zwhile (mf_takeBack_L133 l1) (Q18, ((60 : Int32) * l1))) (fun y25 => match y25 with
  | (Q21, u24) =>
  some (.inl (Q21, (l1 + 1))))))))))))))
theorem ms_takeBack_L34 {X : Xq}  : ∀ (x : Zm × Int32) (y : Mq × Int32), mP X x y → zG (mU (mP X) (mP X)) (zf_X12_takeBack_L34 (some X.2.2.1) x) (mf_takeBack_L34  y) := by
  rintro ⟨M, l1'⟩ ⟨Q, l1⟩ ⟨h, e⟩
  dsimp only at h e
  cases e
  unfold zf_X12_takeBack_L34 mf_takeBack_L34
  dsimp only
  refine zG_gi h rfl ?_
  refine zG_ite ?_ ?_
  · exact zG_some (show mP X _ _ from ⟨h, rfl⟩)
  · refine zG_gr h (by decide) ?_
    refine zG_gr h (by decide) ?_
    refine zG_ai h rfl (fun u1 => ?_)
    refine zG_si h rfl (fun M4 Q2 h3 => ?_)
    refine zG_gr h3 (by decide) ?_
    refine zG_gr h3 (by decide) ?_
    refine zG_ai h3 rfl (fun u5 => ?_)
    refine zG_si h3 rfl (fun M8 Q6 h7 => ?_)
    refine zG_gr h7 (by decide) ?_
    refine zG_gr h7 (by decide) ?_
    refine zG_ai h7 rfl (fun u9 => ?_)
    refine zG_si h7 rfl (fun M12 Q10 h11 => ?_)
    refine zG_b1 (S := mP X) (zG_wh (R := mP X) (ms_takeBack_L80 _) ⟨h11, rfl⟩) ?_
    rintro ⟨M15, u16'⟩ ⟨Q13, u16⟩ ⟨h14, eh14⟩
    dsimp only at h14 eh14
    cases eh14
    dsimp only
    refine zG_gr h14 (by decide) ?_
    refine zG_gr h14 (by decide) ?_
    refine zG_ai h14 rfl (fun u17 => ?_)
    refine zG_si h14 rfl (fun M20 Q18 h19 => ?_)
    refine zG_b1 (S := mP X) (zG_wh (R := mP X) (ms_takeBack_L133 _) ⟨h19, rfl⟩) ?_
    rintro ⟨M23, u24'⟩ ⟨Q21, u24⟩ ⟨h22, eh22⟩
    dsimp only at h22 eh22
    cases eh22
    dsimp only
    exact zG_some (show mP X _ _ from ⟨h22, rfl⟩)
noncomputable def mf_takeBack_L186 (x : Mq × Int32) : Option ((Mq × Int32) ⊕ (Mq × Int32)) := match x with
  | (Q, l1) =>
  (if (20 : Int32) ≤ l1 then
  some (.inr (Q, l1))
  else
  zb1 (mo_ai Q 56 l1) (fun u1 =>
  zb1 (mo_si Q 11 l1 u1) (fun Q2 =>
  zb1 (mo_ai Q2 57 l1) (fun u5 =>
  zb1 (mo_si Q2 12 l1 u5) (fun Q6 =>
  some (.inl (Q6, (l1 + 1))))))))
theorem ms_takeBack_L186 {X : Xq}  : ∀ (x : Zm × Int32) (y : Mq × Int32), mP X x y → zG (mU (mP X) (mP X)) (zf_X12_takeBack_L186 (some X.2.2.1) x) (mf_takeBack_L186  y) := by
  rintro ⟨M, l1'⟩ ⟨Q, l1⟩ ⟨h, e⟩
  dsimp only at h e
  cases e
  unfold zf_X12_takeBack_L186 mf_takeBack_L186
  dsimp only
  refine zG_ite ?_ ?_
  · exact zG_some (show mP X _ _ from ⟨h, rfl⟩)
  · refine zG_gr h (by decide) ?_
    refine zG_gr h (by decide) ?_
    refine zG_ai h rfl (fun u1 => ?_)
    refine zG_si h rfl (fun M4 Q2 h3 => ?_)
    refine zG_gr h3 (by decide) ?_
    refine zG_gr h3 (by decide) ?_
    refine zG_ai h3 rfl (fun u5 => ?_)
    refine zG_si h3 rfl (fun M8 Q6 h7 => ?_)
    exact zG_some (show mP X _ _ from ⟨h7, rfl⟩)
noncomputable def mf_takeBack_L224 (x : Mq × Int32) : Option ((Mq × Int32) ⊕ (Mq × Int32)) := match x with
  | (Q, l1) =>
  (if (1200 : Int32) ≤ l1 then
  some (.inr (Q, l1))
  else
  zb1 (mo_ai Q 58 l1) (fun u1 =>
  zb1 (mo_si Q 13 l1 u1) (fun Q2 =>
  some (.inl (Q2, (l1 + 1))))))
theorem ms_takeBack_L224 {X : Xq}  : ∀ (x : Zm × Int32) (y : Mq × Int32), mP X x y → zG (mU (mP X) (mP X)) (zf_X12_takeBack_L224 (some X.2.2.1) x) (mf_takeBack_L224  y) := by
  rintro ⟨M, l1'⟩ ⟨Q, l1⟩ ⟨h, e⟩
  dsimp only at h e
  cases e
  unfold zf_X12_takeBack_L224 mf_takeBack_L224
  dsimp only
  refine zG_ite ?_ ?_
  · exact zG_some (show mP X _ _ from ⟨h, rfl⟩)
  · refine zG_gr h (by decide) ?_
    refine zG_gr h (by decide) ?_
    refine zG_ai h rfl (fun u1 => ?_)
    refine zG_si h rfl (fun M4 Q2 h3 => ?_)
    exact zG_some (show mP X _ _ from ⟨h3, rfl⟩)
noncomputable def mf_takeBack_J286 (Q : Mq) (l1 : Int32) (s0 : Int64) (s1 : Int32) (s2 : Nat) : Option ((Mq × Int32) ⊕ (Mq × Int32)) :=
  zb1 (mo_sj Q s2 s1 s0) (fun Q1 =>
  some (.inl (Q1, (l1 + 1))))
theorem ms_takeBack_J286 {X : Xq} {M : Zm} {Q : Mq} (h : mR X M Q) (l1 : Int32) (s0 : Int64) (s1 : Int32) (s2 : Nat) (hf_s2 : mty s2 = 3) : zG (mU (mP X) (mP X)) (zf_X12_takeBack_J286 M (some X.2.2.1) l1 s0 s1 (some (X.2.2.2.1 s2))) (mf_takeBack_J286 Q l1 s0 s1 s2) := by
  unfold zf_X12_takeBack_J286 mf_takeBack_J286
  refine zG_sj h hf_s2 (fun M3 Q1 h2 => ?_)
  exact zG_some (show mP X _ _ from ⟨h2, rfl⟩)
noncomputable def mf_takeBack_L251 (x : Mq × Int32) : Option ((Mq × Int32) ⊕ (Mq × Int32)) := match x with
  | (Q, l1) =>
  (if ((5 : Int32) * (Q.1 14 0)) ≤ l1 then
  some (.inr (Q, l1))
  else
  (if ((5 : Int32) * (Q.1 45 0)) ≤ l1 then
  mf_takeBack_J286 Q l1 (0 : Int64) l1 17
  else
  zb1 (mo_aj Q 59 l1) (fun u1 =>
  mf_takeBack_J286 Q l1 u1 l1 17)))
theorem ms_takeBack_L251 {X : Xq}  : ∀ (x : Zm × Int32) (y : Mq × Int32), mP X x y → zG (mU (mP X) (mP X)) (zf_X12_takeBack_L251 (some X.2.2.1) x) (mf_takeBack_L251  y) := by
  rintro ⟨M, l1'⟩ ⟨Q, l1⟩ ⟨h, e⟩
  dsimp only at h e
  cases e
  unfold zf_X12_takeBack_L251 mf_takeBack_L251
  dsimp only
  refine zG_gi h rfl ?_
  refine zG_ite ?_ ?_
  · exact zG_some (show mP X _ _ from ⟨h, rfl⟩)
  · refine zG_gr h (by decide) ?_
    refine zG_gi h rfl ?_
    refine zG_ite ?_ ?_
    · exact ms_takeBack_J286 h _ _ _ _ rfl
    · refine zG_gr h (by decide) ?_
      refine zG_aj h rfl (fun u1 => ?_)
      exact ms_takeBack_J286 h _ _ _ _ rfl
noncomputable def mf_takeBack (Q : Mq) : Option (Mq × Unit) :=
  zb1 (some (qi Q 1 0 (Q.1 44 0))) (fun Q1 =>
  zb1 (some (qi Q1 18 0 (Q1.1 46 0))) (fun Q4 =>
  zb1 (mo_pd Q4 19 (Q4.1 47 0)) (fun Q7 =>
  zb1 (mo_pd Q7 21 (Q7.1 48 0)) (fun Q10 =>
  zb1 (zwhile (mf_takeBack_L34 ) (Q10, (0 : Int32))) (fun y32 => match y32 with
  | (Q13, u16) =>
  zb1 (zwhile (mf_takeBack_L186 ) (Q13, (0 : Int32))) (fun y31 => match y31 with
  | (Q17, u20) =>
  zb1 (zwhile (mf_takeBack_L224 ) (Q17, (0 : Int32))) (fun y30 => match y30 with
  | (Q21, u24) =>
  zb1 (zwhile (mf_takeBack_L251 ) (Q21, (0 : Int32))) (fun y29 => match y29 with
  | (Q25, u28) =>
  some (Q25, ())))))))))
theorem ms_takeBack {X : Xq} {M : Zm} {Q : Mq} (h : mR X M Q)  : zG (mP X) (zf_X12_takeBack M (some X.2.2.1)) (mf_takeBack Q) := by
  unfold zf_X12_takeBack mf_takeBack
  refine zG_gi h rfl ?_
  refine zG_pi h rfl (by decide) (fun M3 Q1 h2 => ?_)
  refine zG_gi h2 rfl ?_
  refine zG_pi h2 rfl (by decide) (fun M6 Q4 h5 => ?_)
  refine zG_gi h5 rfl ?_
  refine zG_pd h5 rfl (fun M9 Q7 h8 => ?_)
  refine zG_gi h8 rfl ?_
  refine zG_pd h8 rfl (fun M12 Q10 h11 => ?_)
  refine zG_b1 (S := mP X) (zG_wh (R := mP X) (ms_takeBack_L34 ) ⟨h11, rfl⟩) ?_
  rintro ⟨M15, u16'⟩ ⟨Q13, u16⟩ ⟨h14, eh14⟩
  dsimp only at h14 eh14
  cases eh14
  dsimp only
  refine zG_b1 (S := mP X) (zG_wh (R := mP X) (ms_takeBack_L186 ) ⟨h14, rfl⟩) ?_
  rintro ⟨M19, u20'⟩ ⟨Q17, u20⟩ ⟨h18, eh18⟩
  dsimp only at h18 eh18
  cases eh18
  dsimp only
  refine zG_b1 (S := mP X) (zG_wh (R := mP X) (ms_takeBack_L224 ) ⟨h18, rfl⟩) ?_
  rintro ⟨M23, u24'⟩ ⟨Q21, u24⟩ ⟨h22, eh22⟩
  dsimp only at h22 eh22
  cases eh22
  dsimp only
  refine zG_b1 (S := mP X) (zG_wh (R := mP X) (ms_takeBack_L251 ) ⟨h22, rfl⟩) ?_
  rintro ⟨M27, u28'⟩ ⟨Q25, u28⟩ ⟨h26, eh26⟩
  dsimp only at h26 eh26
  cases eh26
  dsimp only
  exact zG_some ⟨h26, rfl⟩
noncomputable def mf_topUp_J128 (Q : Mq) (l1 : Int32) (l2 : Int32) (s0 : Int64) : Option (Mq × Int64) :=
  zb1 (some (qi Q 60 0 (0 : Int32))) (fun Q1 =>
  mbd (mf_drawFrom Q1 l2 s0 (1 : Int32)) (fun Q4 _ =>
  mbd (mf_mixInto Q4 l1) (fun Q7 u10 =>
  (if u10 = 0 then
  mbd (mf_no Q7 (12 : Int32)) (fun Q11 u14 =>
  some (Q11, u14))
  else
  mbd (mf_keep Q7) (fun Q15 _ =>
  mbd (mf_takeDraws Q15 (-1 : Int32)) (fun Q18 _ =>
  mbd (mf_become Q18 l1) (fun Q21 _ =>
  mbd (mf_enter Q21 (3 : Int32) l2 l1 s0) (fun Q24 _ =>
  some (Q24, s0)))))))))
theorem ms_topUp_J128 {X : Xq} {M : Zm} {Q : Mq} (h : mR X M Q) (l1 : Int32) (l2 : Int32) (s0 : Int64) : zG (mP X) (zf_X12_topUp_J128 M (some X.2.2.1) l1 l2 s0) (mf_topUp_J128 Q l1 l2 s0) := by
  unfold zf_X12_topUp_J128 mf_topUp_J128
  refine zG_pi h rfl (by decide) (fun M3 Q1 h2 => ?_)
  refine zG_rc h2 ?_
  refine zG_bd (ms_drawFrom h2 _ _ _) (fun M6 Q4 _ h5 => ?_)
  refine zG_rc h5 ?_
  refine zG_bd (ms_mixInto h5 _) (fun M9 Q7 u10 h8 => ?_)
  refine zG_ite ?_ ?_
  · refine zG_rc h8 ?_
    refine zG_bd (ms_no h8 _) (fun M13 Q11 u14 h12 => ?_)
    exact zG_some ⟨h12, rfl⟩
  · refine zG_rc h8 ?_
    refine zG_bd (ms_keep h8) (fun M17 Q15 _ h16 => ?_)
    refine zG_rc h16 ?_
    refine zG_bd (ms_takeDraws h16 _) (fun M20 Q18 _ h19 => ?_)
    refine zG_rc h19 ?_
    refine zG_bd (ms_become h19 _) (fun M23 Q21 _ h22 => ?_)
    refine zG_rc h22 ?_
    refine zG_bd (ms_enter h22 _ _ _ _) (fun M26 Q24 _ h25 => ?_)
    exact zG_some ⟨h25, rfl⟩
noncomputable def mf_topUp_J58 (Q : Mq) : Option (Mq × Int64) :=
  mbd (mf_no Q (9 : Int32)) (fun Q1 u4 =>
  some (Q1, u4))
theorem ms_topUp_J58 {X : Xq} {M : Zm} {Q : Mq} (h : mR X M Q)  : zG (mP X) (zf_X12_topUp_J58 M (some X.2.2.1)) (mf_topUp_J58 Q) := by
  unfold zf_X12_topUp_J58 mf_topUp_J58
  refine zG_rc h ?_
  refine zG_bd (ms_no h _) (fun M3 Q1 u4 h2 => ?_)
  exact zG_some ⟨h2, rfl⟩
noncomputable def mf_topUp_J20 (Q : Mq) (l1 : Int32) (l2 : Int32) (l3 : Int32) : Option (Mq × Int64) :=
  (if l3 ≤ 0 then
  (if l2 = l1 then
  mbd (mf_no Q (13 : Int32)) (fun Q1 u4 =>
  some (Q1, u4))
  else
  mbd (mf_isInCask Q l2) (fun Q5 u8 =>
  (if u8 = 0 then
  mbd (mf_isInCask Q5 l1) (fun Q9 u12 =>
  (if u12 = 0 then
  mbd (mf_most Q9 l1) (fun Q13 u16 =>
  mbd (mf_inVessel Q13 l1) (fun Q17 u20 =>
  mbd (mf_spare Q17 l2) (fun Q21 u24 =>
  (if (0 : Int64) < (u16 - u20) then
  (if u24 = (0 : Int64) then
  mbd (mf_no Q21 (10 : Int32)) (fun Q25 u28 =>
  some (Q25, u28))
  else
  (if (u16 - u20) ≤ u24 then
  mf_topUp_J128 Q21 l1 l2 (u16 - u20)
  else
  mf_topUp_J128 Q21 l1 l2 u24))
  else
  mbd (mf_no Q21 (11 : Int32)) (fun Q29 u32 =>
  some (Q29, u32))))))
  else
  mf_topUp_J58 Q9))
  else
  mf_topUp_J58 Q5)))
  else
  mbd (mf_no Q l3) (fun Q33 u36 =>
  some (Q33, u36)))
theorem ms_topUp_J20 {X : Xq} {M : Zm} {Q : Mq} (h : mR X M Q) (l1 : Int32) (l2 : Int32) (l3 : Int32) : zG (mP X) (zf_X12_topUp_J20 M (some X.2.2.1) l1 l2 l3) (mf_topUp_J20 Q l1 l2 l3) := by
  unfold zf_X12_topUp_J20 mf_topUp_J20
  refine zG_ite ?_ ?_
  · refine zG_ite ?_ ?_
    · refine zG_rc h ?_
      refine zG_bd (ms_no h _) (fun M3 Q1 u4 h2 => ?_)
      exact zG_some ⟨h2, rfl⟩
    · refine zG_rc h ?_
      refine zG_bd (ms_isInCask h _) (fun M7 Q5 u8 h6 => ?_)
      refine zG_ite ?_ ?_
      · refine zG_rc h6 ?_
        refine zG_bd (ms_isInCask h6 _) (fun M11 Q9 u12 h10 => ?_)
        refine zG_ite ?_ ?_
        · refine zG_rc h10 ?_
          refine zG_bd (ms_most h10 _) (fun M15 Q13 u16 h14 => ?_)
          refine zG_rc h14 ?_
          refine zG_bd (ms_inVessel h14 _) (fun M19 Q17 u20 h18 => ?_)
          refine zG_rc h18 ?_
          refine zG_bd (ms_spare h18 _) (fun M23 Q21 u24 h22 => ?_)
          refine zG_ite ?_ ?_
          · refine zG_ite ?_ ?_
            · refine zG_rc h22 ?_
              refine zG_bd (ms_no h22 _) (fun M27 Q25 u28 h26 => ?_)
              exact zG_some ⟨h26, rfl⟩
            · refine zG_ite ?_ ?_
              · exact ms_topUp_J128 h22 _ _ _
              · exact ms_topUp_J128 h22 _ _ _
          · refine zG_rc h22 ?_
            refine zG_bd (ms_no h22 _) (fun M31 Q29 u32 h30 => ?_)
            exact zG_some ⟨h30, rfl⟩
        · exact ms_topUp_J58 h10
      · exact ms_topUp_J58 h6
  · refine zG_rc h ?_
    refine zG_bd (ms_no h _) (fun M35 Q33 u36 h34 => ?_)
    exact zG_some ⟨h34, rfl⟩
noncomputable def mf_topUp (Q : Mq) (l1 : Int32) (l2 : Int32) : Option (Mq × Int64) :=
  mbd (mf_begin Q) (fun Q1 _ =>
  mbd (mf_lookedVessel Q1 l1) (fun Q4 u7 =>
  (if u7 = 0 then
  mbd (mf_looked Q4 l2) (fun Q8 u11 =>
  mf_topUp_J20 Q8 l1 l2 u11)
  else
  mf_topUp_J20 Q4 l1 l2 u7)))
theorem ms_topUp {X : Xq} {M : Zm} {Q : Mq} (h : mR X M Q) (l1 : Int32) (l2 : Int32) : zG (mP X) (zf_X12_topUp M (some X.2.2.1) l1 l2) (mf_topUp Q l1 l2) := by
  unfold zf_X12_topUp mf_topUp
  refine zG_rc h ?_
  refine zG_bd (ms_begin h) (fun M3 Q1 _ h2 => ?_)
  refine zG_rc h2 ?_
  refine zG_bd (ms_lookedVessel h2 _) (fun M6 Q4 u7 h5 => ?_)
  refine zG_ite ?_ ?_
  · refine zG_rc h5 ?_
    refine zG_bd (ms_looked h5 _) (fun M10 Q8 u11 h9 => ?_)
    exact ms_topUp_J20 h9 _ _ _
  · exact ms_topUp_J20 h5 _ _ _
noncomputable def mf_trace_J12 (Q : Mq) : Option (Mq × Int32) :=
  some (Q, (0 : Int32))
theorem ms_trace_J12 {X : Xq} {M : Zm} {Q : Mq} (h : mR X M Q)  : zG (mP X) (zf_X12_trace_J12 M) (mf_trace_J12 Q) := by
  unfold zf_X12_trace_J12 mf_trace_J12
  exact zG_some ⟨h, rfl⟩
noncomputable def mf_trace (Q : Mq) (l1 : Int32) : Option (Mq × Int32) :=
  (if l1 < 0 then
  mf_trace_J12 Q
  else
  (if l1 < (Q.1 41 0) then
  zb1 (mo_ai Q 42 l1) (fun u1 =>
  some (Q, u1))
  else
  mf_trace_J12 Q))
theorem ms_trace {X : Xq} {M : Zm} {Q : Mq} (h : mR X M Q) (l1 : Int32) : zG (mP X) (zf_X12_trace M (some X.2.2.1) l1) (mf_trace Q l1) := by
  unfold zf_X12_trace mf_trace
  refine zG_ite ?_ ?_
  · exact ms_trace_J12 h
  · refine zG_gi h rfl ?_
    refine zG_ite ?_ ?_
    · refine zG_gr h (by decide) ?_
      refine zG_ai h rfl (fun u1 => ?_)
      exact zG_some ⟨h, rfl⟩
    · exact ms_trace_J12 h
noncomputable def mf_tries (Q : Mq) : Option (Mq × Int32) :=
  some (Q, (Q.1 38 0))
theorem ms_tries {X : Xq} {M : Zm} {Q : Mq} (h : mR X M Q)  : zG (mP X) (zf_X12_tries M (some X.2.2.1)) (mf_tries Q) := by
  unfold zf_X12_tries mf_tries
  refine zG_gi h rfl ?_
  exact zG_some ⟨h, rfl⟩
noncomputable def mf_undo (Q : Mq) : Option (Mq × Int64) :=
  mbd (mf_begin Q) (fun Q1 _ =>
  (if (Q1.1 43 0) = 0 then
  mbd (mf_no Q1 (14 : Int32)) (fun Q4 u7 =>
  some (Q4, u7))
  else
  zb1 (some (qi Q1 43 0 (0 : Int32))) (fun Q8 =>
  mbd (mf_takeBack Q8) (fun Q11 _ =>
  zb1 (some (qi Q11 33 0 (0 : Int32))) (fun Q14 =>
  some (Q14, (1 : Int64)))))))
theorem ms_undo {X : Xq} {M : Zm} {Q : Mq} (h : mR X M Q)  : zG (mP X) (zf_X12_undo M (some X.2.2.1)) (mf_undo Q) := by
  unfold zf_X12_undo mf_undo
  refine zG_rc h ?_
  refine zG_bd (ms_begin h) (fun M3 Q1 _ h2 => ?_)
  refine zG_gi h2 rfl ?_
  refine zG_ite ?_ ?_
  · refine zG_rc h2 ?_
    refine zG_bd (ms_no h2 _) (fun M6 Q4 u7 h5 => ?_)
    exact zG_some ⟨h5, rfl⟩
  · refine zG_pz h2 rfl (by decide) (by decide) (fun M10 Q8 h9 => ?_)
    refine zG_rc h9 ?_
    refine zG_bd (ms_takeBack h9) (fun M13 Q11 _ h12 => ?_)
    refine zG_pi h12 rfl (by decide) (fun M16 Q14 h15 => ?_)
    exact zG_some ⟨h15, rfl⟩
noncomputable def mf_wash_J58 (Q : Mq) (l1 : Int32) (l3 : Int64) : Option (Mq × Int64) :=
  mbd (mf_enter Q (9 : Int32) l1 (-1 : Int32) l3) (fun Q1 _ =>
  some (Q1, l3))
theorem ms_wash_J58 {X : Xq} {M : Zm} {Q : Mq} (h : mR X M Q) (l1 : Int32) (l3 : Int64) : zG (mP X) (zf_X12_wash_J58 M (some X.2.2.1) l1 l3) (mf_wash_J58 Q l1 l3) := by
  unfold zf_X12_wash_J58 mf_wash_J58
  refine zG_rc h ?_
  refine zG_bd (ms_enter h _ _ _ _) (fun M3 Q1 _ h2 => ?_)
  exact zG_some ⟨h2, rfl⟩
noncomputable def mf_wash (Q : Mq) (l1 : Int32) : Option (Mq × Int64) :=
  mbd (mf_begin Q) (fun Q1 _ =>
  mbd (mf_lookedVessel Q1 l1) (fun Q4 u7 =>
  (if u7 ≤ 0 then
  mbd (mf_isInCask Q4 l1) (fun Q8 u11 =>
  (if u11 = 0 then
  mbd (mf_keep Q8) (fun Q12 _ =>
  mbd (mf_inVessel Q12 l1) (fun Q15 u18 =>
  (if u18 ≤ (0 : Int64) then
  mf_wash_J58 Q15 l1 u18
  else
  mbd (mf_take Q15 l1 u18 (3 : Int32)) (fun Q19 _ =>
  mf_wash_J58 Q19 l1 u18))))
  else
  mbd (mf_no Q8 (9 : Int32)) (fun Q22 u25 =>
  some (Q22, u25))))
  else
  mbd (mf_no Q4 u7) (fun Q26 u29 =>
  some (Q26, u29)))))
theorem ms_wash {X : Xq} {M : Zm} {Q : Mq} (h : mR X M Q) (l1 : Int32) : zG (mP X) (zf_X12_wash M (some X.2.2.1) l1) (mf_wash Q l1) := by
  unfold zf_X12_wash mf_wash
  refine zG_rc h ?_
  refine zG_bd (ms_begin h) (fun M3 Q1 _ h2 => ?_)
  refine zG_rc h2 ?_
  refine zG_bd (ms_lookedVessel h2 _) (fun M6 Q4 u7 h5 => ?_)
  refine zG_ite ?_ ?_
  · refine zG_rc h5 ?_
    refine zG_bd (ms_isInCask h5 _) (fun M10 Q8 u11 h9 => ?_)
    refine zG_ite ?_ ?_
    · refine zG_rc h9 ?_
      refine zG_bd (ms_keep h9) (fun M14 Q12 _ h13 => ?_)
      refine zG_rc h13 ?_
      refine zG_bd (ms_inVessel h13 _) (fun M17 Q15 u18 h16 => ?_)
      refine zG_ite ?_ ?_
      · exact ms_wash_J58 h16 _ _
      · refine zG_rc h16 ?_
        refine zG_bd (ms_take h16 _ _ _) (fun M21 Q19 _ h20 => ?_)
        exact ms_wash_J58 h20 _ _
    · refine zG_rc h9 ?_
      refine zG_bd (ms_no h9 _) (fun M24 Q22 u25 h23 => ?_)
      exact zG_some ⟨h23, rfl⟩
  · refine zG_rc h5 ?_
    refine zG_bd (ms_no h5 _) (fun M28 Q26 u29 h27 => ?_)
    exact zG_some ⟨h27, rfl⟩
noncomputable def mf_where (Q : Mq) (l1 : Int32) : Option (Mq × Int32) :=
  mbd (mf_isBarrel Q l1) (fun Q1 u4 =>
  (if u4 = 0 then
  some (Q1, (-1 : Int32))
  else
  zb1 (mo_ai Q1 5 l1) (fun u5 =>
  some (Q1, u5))))
theorem ms_where {X : Xq} {M : Zm} {Q : Mq} (h : mR X M Q) (l1 : Int32) : zG (mP X) (zf_X12_where M (some X.2.2.1) l1) (mf_where Q l1) := by
  unfold zf_X12_where mf_where
  refine zG_rc h ?_
  refine zG_bd (ms_isBarrel h _) (fun M3 Q1 u4 h2 => ?_)
  refine zG_ite ?_ ?_
  · exact zG_some ⟨h2, rfl⟩
  · refine zG_gr h2 (by decide) ?_
    refine zG_ai h2 rfl (fun u5 => ?_)
    exact zG_some ⟨h2, rfl⟩
noncomputable def mf_which (Q : Mq) : Option (Mq × Int32) :=
  some (Q, (Q.1 40 0))
theorem ms_which {X : Xq} {M : Zm} {Q : Mq} (h : mR X M Q)  : zG (mP X) (zf_X12_which M (some X.2.2.1)) (mf_which Q) := by
  unfold zf_X12_which mf_which
  refine zG_gi h rfl ?_
  exact zG_some ⟨h, rfl⟩
noncomputable def mf_why (Q : Mq) : Option (Mq × Int32) :=
  some (Q, (Q.1 39 0))
theorem ms_why {X : Xq} {M : Zm} {Q : Mq} (h : mR X M Q)  : zG (mP X) (zf_X12_why M (some X.2.2.1)) (mf_why Q) := by
  unfold zf_X12_why mf_why
  refine zG_gi h rfl ?_
  exact zG_some ⟨h, rfl⟩
noncomputable def mf_worth_J15 (Q : Mq) : Option (Mq × Int64) :=
  mbd (mf_no Q (1 : Int32)) (fun Q1 u4 =>
  some (Q1, u4))
theorem ms_worth_J15 {X : Xq} {M : Zm} {Q : Mq} (h : mR X M Q)  : zG (mP X) (zf_X12_worth_J15 M (some X.2.2.1)) (mf_worth_J15 Q) := by
  unfold zf_X12_worth_J15 mf_worth_J15
  refine zG_rc h ?_
  refine zG_bd (ms_no h _) (fun M3 Q1 u4 h2 => ?_)
  exact zG_some ⟨h2, rfl⟩
noncomputable def mf_worth (Q : Mq) (l1 : Int32) (l2 : Int32) : Option (Mq × Int64) :=
  mbd (mf_begin Q) (fun Q1 _ =>
  (if l2 < 0 then
  mf_worth_J15 Q1
  else
  (if l2 ≤ (1000000 : Int32) then
  mbd (mf_looked Q1 l1) (fun Q4 u7 =>
  (if u7 ≤ 0 then
  mbd (mf_keep Q4) (fun Q8 _ =>
  zb1 (mo_ai Q8 4 l1) (fun u11 =>
  zb1 (mo_si Q8 4 l1 l2) (fun Q12 =>
  some (Q12, (u11.toInt64)))))
  else
  mbd (mf_no Q4 u7) (fun Q15 u18 =>
  some (Q15, u18))))
  else
  mf_worth_J15 Q1)))
theorem ms_worth {X : Xq} {M : Zm} {Q : Mq} (h : mR X M Q) (l1 : Int32) (l2 : Int32) : zG (mP X) (zf_X12_worth M (some X.2.2.1) l1 l2) (mf_worth Q l1 l2) := by
  unfold zf_X12_worth mf_worth
  refine zG_rc h ?_
  refine zG_bd (ms_begin h) (fun M3 Q1 _ h2 => ?_)
  refine zG_ite ?_ ?_
  · exact ms_worth_J15 h2
  · refine zG_ite ?_ ?_
    · refine zG_rc h2 ?_
      refine zG_bd (ms_looked h2 _) (fun M6 Q4 u7 h5 => ?_)
      refine zG_ite ?_ ?_
      · refine zG_rc h5 ?_
        refine zG_bd (ms_keep h5) (fun M10 Q8 _ h9 => ?_)
        refine zG_gr h9 (by decide) ?_
        refine zG_ai h9 rfl (fun u11 => ?_)
        refine zG_gr h9 (by decide) ?_
        refine zG_si h9 rfl (fun M14 Q12 h13 => ?_)
        exact zG_some ⟨h13, rfl⟩
      · refine zG_rc h5 ?_
        refine zG_bd (ms_no h5 _) (fun M17 Q15 u18 h16 => ?_)
        exact zG_some ⟨h16, rfl⟩
    · exact ms_worth_J15 h2
