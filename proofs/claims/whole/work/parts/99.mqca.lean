/-! The reference over the value, 1. -/
noncomputable def mf_account__J34 (Q : Mq) (l1 : Int32) (l2 : Int32) (s0 : Int32) : Option (Mq × Int64) :=
  (if s0 = 0 then
  some (Q, (0 : Int64))
  else
  zb1 (mo_ai Q 15 l1) (fun u1 =>
  zb1 (mo_aj Q 17 (((5 : Int32) * (u1 - (1 : Int32))) + l2)) (fun u2 =>
  some (Q, u2))))
theorem ms_account__J34 {X : Xq} {M : Zm} {Q : Mq} (h : mR X M Q) (l1 : Int32) (l2 : Int32) (s0 : Int32) : zG (mP X) (zf_X12_account__J34 M (some X.2.2.1) l1 l2 s0) (mf_account__J34 Q l1 l2 s0) := by
  unfold zf_X12_account__J34 mf_account__J34
  refine zG_ite ?_ ?_
  · exact zG_some ⟨h, rfl⟩
  · refine zG_gr h (by decide) ?_
    refine zG_gr h (by decide) ?_
    refine zG_ai h rfl (fun u1 => ?_)
    refine zG_aj h rfl (fun u2 => ?_)
    exact zG_some ⟨h, rfl⟩
noncomputable def mf_account__J33 (Q : Mq) (l1 : Int32) (l2 : Int32) : Option (Mq × Int64) :=
  mf_account__J34 Q l1 l2 (0 : Int32)
theorem ms_account__J33 {X : Xq} {M : Zm} {Q : Mq} (h : mR X M Q) (l1 : Int32) (l2 : Int32) : zG (mP X) (zf_X12_account__J33 M (some X.2.2.1) l1 l2) (mf_account__J33 Q l1 l2) := by
  unfold zf_X12_account__J33 mf_account__J33
  exact ms_account__J34 h _ _ _
noncomputable def mf_account_ (Q : Mq) (l1 : Int32) (l2 : Int32) : Option (Mq × Int64) :=
  (if l1 < 0 then
  mf_account__J33 Q l1 l2
  else
  (if (4096 : Int32) ≤ l1 then
  mf_account__J33 Q l1 l2
  else
  (if l2 < 0 then
  mf_account__J33 Q l1 l2
  else
  (if (4 : Int32) < l2 then
  mf_account__J33 Q l1 l2
  else
  zb1 (mo_ai Q 15 l1) (fun u1 =>
  (if u1 ≤ 0 then
  mf_account__J33 Q l1 l2
  else
  mf_account__J34 Q l1 l2 (1 : Int32)))))))
theorem ms_account_ {X : Xq} {M : Zm} {Q : Mq} (h : mR X M Q) (l1 : Int32) (l2 : Int32) : zG (mP X) (zf_X12_account_ M (some X.2.2.1) l1 l2) (mf_account_ Q l1 l2) := by
  unfold zf_X12_account_ mf_account_
  refine zG_ite ?_ ?_
  · exact ms_account__J33 h _ _
  · refine zG_ite ?_ ?_
    · exact ms_account__J33 h _ _
    · refine zG_ite ?_ ?_
      · exact ms_account__J33 h _ _
      · refine zG_ite ?_ ?_
        · exact ms_account__J33 h _ _
        · refine zG_gr h (by decide) ?_
          refine zG_ai h rfl (fun u1 => ?_)
          refine zG_ite ?_ ?_
          · exact ms_account__J33 h _ _
          · exact ms_account__J34 h _ _ _
noncomputable def mf_account_J46 (Q : Mq) (l1 : Int32) (l2 : Int32) (l3 : Int64) : Option (Mq × Unit) :=
  zb1 (mo_ai Q 15 l1) (fun u1 =>
  zb1 (mo_aj Q 17 (((5 : Int32) * (u1 - (1 : Int32))) + l2)) (fun u2 =>
  zb1 (mo_sj Q 17 (((5 : Int32) * (u1 - (1 : Int32))) + l2) (u2 + l3)) (fun Q3 =>
  some (Q3, ()))))
theorem ms_account_J46 {X : Xq} {M : Zm} {Q : Mq} (h : mR X M Q) (l1 : Int32) (l2 : Int32) (l3 : Int64) : zG (mP X) (zf_X12_account_J46 M (some X.2.2.1) l1 l2 l3) (mf_account_J46 Q l1 l2 l3) := by
  unfold zf_X12_account_J46 mf_account_J46
  refine zG_gr h (by decide) ?_
  refine zG_ai h rfl (fun u1 => ?_)
  refine zG_gr h (by decide) ?_
  refine zG_gr h (by decide) ?_
  refine zG_aj h rfl (fun u2 => ?_)
  refine zG_sj h rfl (fun M5 Q3 h4 => ?_)
  exact zG_some ⟨h4, rfl⟩
noncomputable def mf_account (Q : Mq) (l1 : Int32) (l2 : Int32) (l3 : Int64) : Option (Mq × Unit) :=
  (if l3 = (0 : Int64) then
  some (Q, ())
  else
  zb1 (mo_ai Q 15 l1) (fun u1 =>
  (if u1 = 0 then
  zb1 (mo_si Q 16 (Q.1 14 0) l1) (fun Q2 =>
  zb1 (some (qi Q2 14 0 ((Q2.1 14 0) + (1 : Int32)))) (fun Q5 =>
  zb1 (mo_si Q5 15 l1 (Q5.1 14 0)) (fun Q8 =>
  mf_account_J46 Q8 l1 l2 l3)))
  else
  mf_account_J46 Q l1 l2 l3)))
theorem ms_account {X : Xq} {M : Zm} {Q : Mq} (h : mR X M Q) (l1 : Int32) (l2 : Int32) (l3 : Int64) : zG (mP X) (zf_X12_account M (some X.2.2.1) l1 l2 l3) (mf_account Q l1 l2 l3) := by
  unfold zf_X12_account mf_account
  refine zG_ite ?_ ?_
  · exact zG_some ⟨h, rfl⟩
  · refine zG_gr h (by decide) ?_
    refine zG_ai h rfl (fun u1 => ?_)
    refine zG_ite ?_ ?_
    · refine zG_gr h (by decide) ?_
      refine zG_gi h rfl ?_
      refine zG_si h rfl (fun M4 Q2 h3 => ?_)
      refine zG_gi h3 rfl ?_
      refine zG_pi h3 rfl (by decide) (fun M7 Q5 h6 => ?_)
      refine zG_gr h6 (by decide) ?_
      refine zG_gi h6 rfl ?_
      refine zG_si h6 rfl (fun M10 Q8 h9 => ?_)
      exact ms_account_J46 h9 _ _ _
    · exact ms_account_J46 h _ _ _
noncomputable def mf_addDraw (Q : Mq) (l1 : Int32) (l2 : Int64) : Option (Mq × Unit) :=
  zb1 (mo_si Q 61 (Q.1 60 0) l1) (fun Q1 =>
  zb1 (mo_sj Q1 62 (Q1.1 60 0) l2) (fun Q4 =>
  zb1 (some (qi Q4 60 0 ((Q4.1 60 0) + (1 : Int32)))) (fun Q7 =>
  some (Q7, ()))))
theorem ms_addDraw {X : Xq} {M : Zm} {Q : Mq} (h : mR X M Q) (l1 : Int32) (l2 : Int64) : zG (mP X) (zf_X12_addDraw M (some X.2.2.1) l1 l2) (mf_addDraw Q l1 l2) := by
  unfold zf_X12_addDraw mf_addDraw
  refine zG_gr h (by decide) ?_
  refine zG_gi h rfl ?_
  refine zG_si h rfl (fun M3 Q1 h2 => ?_)
  refine zG_gr h2 (by decide) ?_
  refine zG_gi h2 rfl ?_
  refine zG_sj h2 rfl (fun M6 Q4 h5 => ?_)
  refine zG_gi h5 rfl ?_
  refine zG_pi h5 rfl (by decide) (fun M9 Q7 h8 => ?_)
  exact zG_some ⟨h8, rfl⟩
noncomputable def mf_inVessel_L8 (p1 : Int32) (x : Mq × Int64 × Int32) : Option ((Mq × Int64 × Int32) ⊕ (Mq × Int64 × Int32)) := match x with
  | (Q, l2, l4) =>
  zb1 (mo_ai Q 8 p1) (fun u1 =>
  (if (((60 : Int32) * p1) + u1) ≤ l4 then
  some (.inr (Q, l2, l4))
  else
  zb1 (mo_aj Q 10 l4) (fun u2 =>
  some (.inl (Q, (l2 + u2), (l4 + 1))))))
theorem ms_inVessel_L8 {X : Xq} (p1 : Int32) : ∀ (x : Zm × Int64 × Int32) (y : Mq × Int64 × Int32), mP X x y → zG (mU (mP X) (mP X)) (zf_X12_inVessel_L8 (some X.2.2.1) p1 x) (mf_inVessel_L8 p1 y) := by
  rintro ⟨M, l2', l4'⟩ ⟨Q, l2, l4⟩ ⟨h, e⟩
  dsimp only at h e
  cases e
  unfold zf_X12_inVessel_L8 mf_inVessel_L8
  dsimp only
  refine zG_gr h (by decide) ?_
  refine zG_ai h rfl (fun u1 => ?_)
  refine zG_ite ?_ ?_
  · exact zG_some (show mP X _ _ from ⟨h, rfl⟩)
  · refine zG_gr h (by decide) ?_
    refine zG_aj h rfl (fun u2 => ?_)
    exact zG_some (show mP X _ _ from ⟨h, rfl⟩)
noncomputable def mf_inVessel (Q : Mq) (l1 : Int32) : Option (Mq × Int64) :=
  zb1 (zwhile (mf_inVessel_L8 l1) (Q, (0 : Int64), ((60 : Int32) * l1))) (fun y6 => match y6 with
  | (Q1, u4, u5) =>
  some (Q1, u4))
theorem ms_inVessel {X : Xq} {M : Zm} {Q : Mq} (h : mR X M Q) (l1 : Int32) : zG (mP X) (zf_X12_inVessel M (some X.2.2.1) l1) (mf_inVessel Q l1) := by
  unfold zf_X12_inVessel mf_inVessel
  refine zG_b1 (S := mP X) (zG_wh (R := mP X) (ms_inVessel_L8 _) ⟨h, rfl⟩) ?_
  rintro ⟨M3, u4', u5'⟩ ⟨Q1, u4, u5⟩ ⟨h2, eh2⟩
  dsimp only at h2 eh2
  cases eh2
  dsimp only
  exact zG_some ⟨h2, rfl⟩
noncomputable def mf_inAll_L21 (p1 : Int32) (x : Mq × Int64 × Int32) : Option ((Mq × Int64 × Int32) ⊕ (Mq × Int64 × Int32)) := match x with
  | (Q, l2, l4) =>
  zb1 (mo_ai Q 6 p1) (fun u1 =>
  (if u1 ≤ l4 then
  some (.inr (Q, l2, l4))
  else
  zb1 (mo_ai Q 7 (((4 : Int32) * p1) + l4)) (fun u2 =>
  mbd (mf_inVessel Q u2) (fun Q3 u6 =>
  some (.inl (Q3, (l2 + u6), (l4 + 1)))))))
theorem ms_inAll_L21 {X : Xq} (p1 : Int32) : ∀ (x : Zm × Int64 × Int32) (y : Mq × Int64 × Int32), mP X x y → zG (mU (mP X) (mP X)) (zf_X12_inAll_L21 (some X.2.2.1) p1 x) (mf_inAll_L21 p1 y) := by
  rintro ⟨M, l2', l4'⟩ ⟨Q, l2, l4⟩ ⟨h, e⟩
  dsimp only at h e
  cases e
  unfold zf_X12_inAll_L21 mf_inAll_L21
  dsimp only
  refine zG_gr h (by decide) ?_
  refine zG_ai h rfl (fun u1 => ?_)
  refine zG_ite ?_ ?_
  · exact zG_some (show mP X _ _ from ⟨h, rfl⟩)
  · refine zG_gr h (by decide) ?_
    refine zG_ai h rfl (fun u2 => ?_)
    refine zG_rc h ?_
    refine zG_bd (ms_inVessel h _) (fun M5 Q3 u6 h4 => ?_)
    exact zG_some (show mP X _ _ from ⟨h4, rfl⟩)
noncomputable def mf_inAll (Q : Mq) (l1 : Int32) : Option (Mq × Int64) :=
  zb1 (mo_ai Q 2 l1) (fun u1 =>
  (if u1 = (5 : Int32) then
  zb1 (zwhile (mf_inAll_L21 l1) (Q, (0 : Int64), (0 : Int32))) (fun y7 => match y7 with
  | (Q2, u5, u6) =>
  some (Q2, u5))
  else
  mbd (mf_inVessel Q l1) (fun Q8 u11 =>
  some (Q8, u11))))
theorem ms_inAll {X : Xq} {M : Zm} {Q : Mq} (h : mR X M Q) (l1 : Int32) : zG (mP X) (zf_X12_inAll M (some X.2.2.1) l1) (mf_inAll Q l1) := by
  unfold zf_X12_inAll mf_inAll
  refine zG_gr h (by decide) ?_
  refine zG_ai h rfl (fun u1 => ?_)
  refine zG_ite ?_ ?_
  · refine zG_b1 (S := mP X) (zG_wh (R := mP X) (ms_inAll_L21 _) ⟨h, rfl⟩) ?_
    rintro ⟨M4, u5', u6'⟩ ⟨Q2, u5, u6⟩ ⟨h3, eh3⟩
    dsimp only at h3 eh3
    cases eh3
    dsimp only
    exact zG_some ⟨h3, rfl⟩
  · refine zG_rc h ?_
    refine zG_bd (ms_inVessel h _) (fun M10 Q8 u11 h9 => ?_)
    exact zG_some ⟨h9, rfl⟩
noncomputable def mf_isBarrel (Q : Mq) (l1 : Int32) : Option (Mq × Int32) :=
  (if l1 < 0 then
  zb1 (zo_b (0 : Int32)) (fun u1 =>
  some (Q, u1))
  else
  (if (Q.1 1 0) ≤ l1 then
  zb1 (zo_b (0 : Int32)) (fun u2 =>
  some (Q, u2))
  else
  zb1 (zo_b (1 : Int32)) (fun u3 =>
  some (Q, u3))))
theorem ms_isBarrel {X : Xq} {M : Zm} {Q : Mq} (h : mR X M Q) (l1 : Int32) : zG (mP X) (zf_X12_isBarrel M (some X.2.2.1) l1) (mf_isBarrel Q l1) := by
  unfold zf_X12_isBarrel mf_isBarrel
  refine zG_ite ?_ ?_
  · refine zG_op (fun u1 => ?_)
    exact zG_some ⟨h, rfl⟩
  · refine zG_gi h rfl ?_
    refine zG_ite ?_ ?_
    · refine zG_op (fun u2 => ?_)
      exact zG_some ⟨h, rfl⟩
    · refine zG_op (fun u3 => ?_)
      exact zG_some ⟨h, rfl⟩
noncomputable def mf_amount (Q : Mq) (l1 : Int32) : Option (Mq × Int64) :=
  mbd (mf_isBarrel Q l1) (fun Q1 u4 =>
  (if u4 = 0 then
  some (Q1, (0 : Int64))
  else
  mbd (mf_inAll Q1 l1) (fun Q5 u8 =>
  some (Q5, u8))))
theorem ms_amount {X : Xq} {M : Zm} {Q : Mq} (h : mR X M Q) (l1 : Int32) : zG (mP X) (zf_X12_amount M (some X.2.2.1) l1) (mf_amount Q l1) := by
  unfold zf_X12_amount mf_amount
  refine zG_rc h ?_
  refine zG_bd (ms_isBarrel h _) (fun M3 Q1 u4 h2 => ?_)
  refine zG_ite ?_ ?_
  · exact zG_some ⟨h2, rfl⟩
  · refine zG_rc h2 ?_
    refine zG_bd (ms_inAll h2 _) (fun M7 Q5 u8 h6 => ?_)
    exact zG_some ⟨h6, rfl⟩
noncomputable def mf_begin (Q : Mq) : Option (Mq × Unit) :=
  zb1 (some (qi Q 38 0 ((Q.1 38 0) + (1 : Int32)))) (fun Q1 =>
  zb1 (some (qi Q1 41 0 (0 : Int32))) (fun Q4 =>
  zb1 (some (qi Q4 39 0 (0 : Int32))) (fun Q7 =>
  some (Q7, ()))))
theorem ms_begin {X : Xq} {M : Zm} {Q : Mq} (h : mR X M Q)  : zG (mP X) (zf_X12_begin M (some X.2.2.1)) (mf_begin Q) := by
  unfold zf_X12_begin mf_begin
  refine zG_gi h rfl ?_
  refine zG_pi h rfl (by decide) (fun M3 Q1 h2 => ?_)
  refine zG_pi h2 rfl (by decide) (fun M6 Q4 h5 => ?_)
  refine zG_pi h5 rfl (by decide) (fun M9 Q7 h8 => ?_)
  exact zG_some ⟨h8, rfl⟩
noncomputable def mf_lookedVessel (Q : Mq) (l1 : Int32) : Option (Mq × Int32) :=
  (if l1 < 0 then
  some (Q, (3 : Int32))
  else
  (if l1 < (1000 : Int32) then
  (if l1 < (Q.1 1 0) then
  zb1 (mo_ai Q 2 l1) (fun u1 =>
  (if u1 = (5 : Int32) then
  some (Q, (4 : Int32))
  else
  some (Q, (0 : Int32))))
  else
  some (Q, (2 : Int32)))
  else
  some (Q, (3 : Int32))))
theorem ms_lookedVessel {X : Xq} {M : Zm} {Q : Mq} (h : mR X M Q) (l1 : Int32) : zG (mP X) (zf_X12_lookedVessel M (some X.2.2.1) l1) (mf_lookedVessel Q l1) := by
  unfold zf_X12_lookedVessel mf_lookedVessel
  refine zG_ite ?_ ?_
  · exact zG_some ⟨h, rfl⟩
  · refine zG_ite ?_ ?_
    · refine zG_gi h rfl ?_
      refine zG_ite ?_ ?_
      · refine zG_gr h (by decide) ?_
        refine zG_ai h rfl (fun u1 => ?_)
        refine zG_ite ?_ ?_
        · exact zG_some ⟨h, rfl⟩
        · exact zG_some ⟨h, rfl⟩
      · exact zG_some ⟨h, rfl⟩
    · exact zG_some ⟨h, rfl⟩
noncomputable def mf_lookedPart_J37 (Q : Mq) : Option (Mq × Int32) :=
  some (Q, (3 : Int32))
theorem ms_lookedPart_J37 {X : Xq} {M : Zm} {Q : Mq} (h : mR X M Q)  : zG (mP X) (zf_X12_lookedPart_J37 M) (mf_lookedPart_J37 Q) := by
  unfold zf_X12_lookedPart_J37 mf_lookedPart_J37
  exact zG_some ⟨h, rfl⟩
noncomputable def mf_lookedPart (Q : Mq) (l1 : Int32) (l2 : Int32) : Option (Mq × Int32) :=
  mbd (mf_lookedVessel Q l1) (fun Q1 u4 =>
  (if u4 ≤ 0 then
  zb1 (mo_ai Q1 8 l1) (fun u5 =>
  (if u5 = 0 then
  some (Q1, (2 : Int32))
  else
  (if l2 < 0 then
  mf_lookedPart_J37 Q1
  else
  zb1 (mo_ai Q1 8 l1) (fun u6 =>
  (if l2 < u6 then
  some (Q1, (0 : Int32))
  else
  mf_lookedPart_J37 Q1)))))
  else
  some (Q1, u4)))
theorem ms_lookedPart {X : Xq} {M : Zm} {Q : Mq} (h : mR X M Q) (l1 : Int32) (l2 : Int32) : zG (mP X) (zf_X12_lookedPart M (some X.2.2.1) l1 l2) (mf_lookedPart Q l1 l2) := by
  unfold zf_X12_lookedPart mf_lookedPart
  refine zG_rc h ?_
  refine zG_bd (ms_lookedVessel h _) (fun M3 Q1 u4 h2 => ?_)
  refine zG_ite ?_ ?_
  · refine zG_gr h2 (by decide) ?_
    refine zG_ai h2 rfl (fun u5 => ?_)
    refine zG_ite ?_ ?_
    · exact zG_some ⟨h2, rfl⟩
    · refine zG_ite ?_ ?_
      · exact ms_lookedPart_J37 h2
      · refine zG_gr h2 (by decide) ?_
        refine zG_ai h2 rfl (fun u6 => ?_)
        refine zG_ite ?_ ?_
        · exact zG_some ⟨h2, rfl⟩
        · exact ms_lookedPart_J37 h2
  · exact zG_some ⟨h2, rfl⟩
noncomputable def mf_no (Q : Mq) (l1 : Int32) : Option (Mq × Int64) :=
  zb1 (some (qi Q 39 0 l1)) (fun Q1 =>
  some (Q1, (((-l1)).toInt64)))
theorem ms_no {X : Xq} {M : Zm} {Q : Mq} (h : mR X M Q) (l1 : Int32) : zG (mP X) (zf_X12_no M (some X.2.2.1) l1) (mf_no Q l1) := by
  unfold zf_X12_no mf_no
  refine zG_pi h rfl (by decide) (fun M3 Q1 h2 => ?_)
  exact zG_some ⟨h2, rfl⟩
noncomputable def mf_amountAt (Q : Mq) (l1 : Int32) (l2 : Int32) : Option (Mq × Int64) :=
  mbd (mf_begin Q) (fun Q1 _ =>
  mbd (mf_lookedPart Q1 l1 l2) (fun Q4 u7 =>
  (if u7 ≤ 0 then
  zb1 (mo_aj Q4 10 (((60 : Int32) * l1) + l2)) (fun u8 =>
  some (Q4, u8))
  else
  mbd (mf_no Q4 u7) (fun Q9 u12 =>
  some (Q9, u12)))))
theorem ms_amountAt {X : Xq} {M : Zm} {Q : Mq} (h : mR X M Q) (l1 : Int32) (l2 : Int32) : zG (mP X) (zf_X12_amountAt M (some X.2.2.1) l1 l2) (mf_amountAt Q l1 l2) := by
  unfold zf_X12_amountAt mf_amountAt
  refine zG_rc h ?_
  refine zG_bd (ms_begin h) (fun M3 Q1 _ h2 => ?_)
  refine zG_rc h2 ?_
  refine zG_bd (ms_lookedPart h2 _ _) (fun M6 Q4 u7 h5 => ?_)
  refine zG_ite ?_ ?_
  · refine zG_gr h5 (by decide) ?_
    refine zG_aj h5 rfl (fun u8 => ?_)
    exact zG_some ⟨h5, rfl⟩
  · refine zG_rc h5 ?_
    refine zG_bd (ms_no h5 _) (fun M11 Q9 u12 h10 => ?_)
    exact zG_some ⟨h10, rfl⟩
noncomputable def mf_readPlace_J38 (Q : Mq) : Option (Mq × Int32) :=
  some (Q, (3 : Int32))
theorem ms_readPlace_J38 {X : Xq} {M : Zm} {Q : Mq} (h : mR X M Q)  : zG (mP X) (zf_X12_readPlace_J38 M) (mf_readPlace_J38 Q) := by
  unfold zf_X12_readPlace_J38 mf_readPlace_J38
  exact zG_some ⟨h, rfl⟩
noncomputable def mf_readPlace (Q : Mq) (l1 : Int32) (l2 : Int32) : Option (Mq × Int32) :=
  (if l1 < 0 then
  some (Q, (3 : Int32))
  else
  (if l1 < (20 : Int32) then
  zb1 (mo_ai Q 11 l1) (fun u1 =>
  (if 0 ≤ u1 then
  (if l2 < 0 then
  mf_readPlace_J38 Q
  else
  zb1 (mo_ai Q 12 l1) (fun u2 =>
  (if l2 < u2 then
  some (Q, (0 : Int32))
  else
  mf_readPlace_J38 Q)))
  else
  some (Q, (6 : Int32))))
  else
  some (Q, (3 : Int32))))
theorem ms_readPlace {X : Xq} {M : Zm} {Q : Mq} (h : mR X M Q) (l1 : Int32) (l2 : Int32) : zG (mP X) (zf_X12_readPlace M (some X.2.2.1) l1 l2) (mf_readPlace Q l1 l2) := by
  unfold zf_X12_readPlace mf_readPlace
  refine zG_ite ?_ ?_
  · exact zG_some ⟨h, rfl⟩
  · refine zG_ite ?_ ?_
    · refine zG_gr h (by decide) ?_
      refine zG_ai h rfl (fun u1 => ?_)
      refine zG_ite ?_ ?_
      · refine zG_ite ?_ ?_
        · exact ms_readPlace_J38 h
        · refine zG_gr h (by decide) ?_
          refine zG_ai h rfl (fun u2 => ?_)
          refine zG_ite ?_ ?_
          · exact zG_some ⟨h, rfl⟩
          · exact ms_readPlace_J38 h
      · exact zG_some ⟨h, rfl⟩
    · exact zG_some ⟨h, rfl⟩
noncomputable def mf_at (Q : Mq) (l1 : Int32) (l2 : Int32) : Option (Mq × Int32) :=
  mbd (mf_readPlace Q l1 l2) (fun Q1 u4 =>
  (if u4 ≤ 0 then
  zb1 (mo_ai Q1 13 (((60 : Int32) * l1) + l2)) (fun u5 =>
  some (Q1, u5))
  else
  some (Q1, (-1 : Int32))))
theorem ms_at {X : Xq} {M : Zm} {Q : Mq} (h : mR X M Q) (l1 : Int32) (l2 : Int32) : zG (mP X) (zf_X12_at M (some X.2.2.1) l1 l2) (mf_at Q l1 l2) := by
  unfold zf_X12_at mf_at
  refine zG_rc h ?_
  refine zG_bd (ms_readPlace h _ _) (fun M3 Q1 u4 h2 => ?_)
  refine zG_ite ?_ ?_
  · refine zG_gr h2 (by decide) ?_
    refine zG_ai h2 rfl (fun u5 => ?_)
    exact zG_some ⟨h2, rfl⟩
  · exact zG_some ⟨h2, rfl⟩
noncomputable def mf_atLeast0 (Q : Mq) (l0 : Int64) : Option (Mq × Int64) :=
  (if (0 : Int64) ≤ l0 then
  some (Q, l0)
  else
  some (Q, (0 : Int64)))
theorem ms_atLeast0 {X : Xq} {M : Zm} {Q : Mq} (h : mR X M Q) (l0 : Int64) : zG (mP X) (zf_X12_atLeast0 M l0) (mf_atLeast0 Q l0) := by
  unfold zf_X12_atLeast0 mf_atLeast0
  refine zG_ite ?_ ?_
  · exact zG_some ⟨h, rfl⟩
  · exact zG_some ⟨h, rfl⟩
noncomputable def mf_keep_L93 (p1 : Int32) (x : Mq × Int32) : Option ((Mq × Int32) ⊕ (Mq × Int32)) := match x with
  | (Q, l2) =>
  zb1 (mo_ai Q 6 p1) (fun u1 =>
  (if u1 ≤ l2 then
  some (.inr (Q, l2))
  else
  zb1 (mo_ai Q 7 (((4 : Int32) * p1) + l2)) (fun u2 =>
  zb1 (mo_si Q 52 (((4 : Int32) * p1) + l2) u2) (fun Q3 =>
  some (.inl (Q3, (l2 + 1)))))))
theorem ms_keep_L93 {X : Xq} (p1 : Int32) : ∀ (x : Zm × Int32) (y : Mq × Int32), mP X x y → zG (mU (mP X) (mP X)) (zf_X12_keep_L93 (some X.2.2.1) p1 x) (mf_keep_L93 p1 y) := by
  rintro ⟨M, l2'⟩ ⟨Q, l2⟩ ⟨h, e⟩
  dsimp only at h e
  cases e
  unfold zf_X12_keep_L93 mf_keep_L93
  dsimp only
  refine zG_gr h (by decide) ?_
  refine zG_ai h rfl (fun u1 => ?_)
  refine zG_ite ?_ ?_
  · exact zG_some (show mP X _ _ from ⟨h, rfl⟩)
  · refine zG_gr h (by decide) ?_
    refine zG_gr h (by decide) ?_
    refine zG_ai h rfl (fun u2 => ?_)
    refine zG_si h rfl (fun M5 Q3 h4 => ?_)
    exact zG_some (show mP X _ _ from ⟨h4, rfl⟩)
noncomputable def mf_keep_L146 (p1 : Int32) (x : Mq × Int32) : Option ((Mq × Int32) ⊕ (Mq × Int32)) := match x with
  | (Q, l2) =>
  zb1 (mo_ai Q 8 p1) (fun u1 =>
  (if (((60 : Int32) * p1) + u1) ≤ l2 then
  some (.inr (Q, l2))
  else
  zb1 (mo_ai Q 9 l2) (fun u2 =>
  zb1 (mo_si Q 54 l2 u2) (fun Q3 =>
  zb1 (mo_aj Q3 10 l2) (fun u6 =>
  zb1 (mo_sj Q3 55 l2 u6) (fun Q7 =>
  some (.inl (Q7, (l2 + 1)))))))))
theorem ms_keep_L146 {X : Xq} (p1 : Int32) : ∀ (x : Zm × Int32) (y : Mq × Int32), mP X x y → zG (mU (mP X) (mP X)) (zf_X12_keep_L146 (some X.2.2.1) p1 x) (mf_keep_L146 p1 y) := by
  rintro ⟨M, l2'⟩ ⟨Q, l2⟩ ⟨h, e⟩
  dsimp only at h e
  cases e
  unfold zf_X12_keep_L146 mf_keep_L146
  dsimp only
  refine zG_gr h (by decide) ?_
  refine zG_ai h rfl (fun u1 => ?_)
  refine zG_ite ?_ ?_
  · exact zG_some (show mP X _ _ from ⟨h, rfl⟩)
  · refine zG_gr h (by decide) ?_
    refine zG_gr h (by decide) ?_
    refine zG_ai h rfl (fun u2 => ?_)
    refine zG_si h rfl (fun M5 Q3 h4 => ?_)
    refine zG_gr h4 (by decide) ?_
    refine zG_gr h4 (by decide) ?_
    refine zG_aj h4 rfl (fun u6 => ?_)
    refine zG_sj h4 rfl (fun M9 Q7 h8 => ?_)
    exact zG_some (show mP X _ _ from ⟨h8, rfl⟩)
noncomputable def mf_keep_L47 (x : Mq × Int32) : Option ((Mq × Int32) ⊕ (Mq × Int32)) := match x with
  | (Q, l1) =>
  (if (Q.1 1 0) ≤ l1 then
  some (.inr (Q, l1))
  else
  zb1 (mo_ai Q 4 l1) (fun u1 =>
  zb1 (mo_si Q 49 l1 u1) (fun Q2 =>
  zb1 (mo_ai Q2 5 l1) (fun u5 =>
  zb1 (mo_si Q2 50 l1 u5) (fun Q6 =>
  zb1 (mo_ai Q6 6 l1) (fun u9 =>
  zb1 (mo_si Q6 51 l1 u9) (fun Q10 =>
  zb1 (zwhile (mf_keep_L93 l1) (Q10, (0 : Int32))) (fun y26 => match y26 with
  | (Q13, u16) =>
  zb1 (mo_ai Q13 8 l1) (fun u17 =>
  zb1 (mo_si Q13 53 l1 u17) (fun Q18 =>
  zb1 (zwhile (mf_keep_L146 l1) (Q18, ((60 : Int32) * l1))) (fun y25 => match y25 with
  | (Q21, u24) =>
  some (.inl (Q21, (l1 + 1))))))))))))))
theorem ms_keep_L47 {X : Xq}  : ∀ (x : Zm × Int32) (y : Mq × Int32), mP X x y → zG (mU (mP X) (mP X)) (zf_X12_keep_L47 (some X.2.2.1) x) (mf_keep_L47  y) := by
  rintro ⟨M, l1'⟩ ⟨Q, l1⟩ ⟨h, e⟩
  dsimp only at h e
  cases e
  unfold zf_X12_keep_L47 mf_keep_L47
  dsimp only
  refine zG_gi h rfl ?_
  refine zG_ite ?_ ?_
  · exact zG_some (show mP X _ _ from ⟨h, rfl⟩)
  · refine zG_gr h (by decide) ?_
    refine zG_gr h (by decide) ?_
    refine zG_ai h rfl (fun u1 => ?_)
    refine zG_si h rfl (fun M4 Q2 h3 => ?_)
    refine zG_gr h3 (by decide) ?_
    refine zG_gr h3 (by decide) ?_
    refine zG_ai h3 rfl (fun u5 => ?_)
    refine zG_si h3 rfl (fun M8 Q6 h7 => ?_)
    refine zG_gr h7 (by decide) ?_
    refine zG_gr h7 (by decide) ?_
    refine zG_ai h7 rfl (fun u9 => ?_)
    refine zG_si h7 rfl (fun M12 Q10 h11 => ?_)
    refine zG_b1 (S := mP X) (zG_wh (R := mP X) (ms_keep_L93 _) ⟨h11, rfl⟩) ?_
    rintro ⟨M15, u16'⟩ ⟨Q13, u16⟩ ⟨h14, eh14⟩
    dsimp only at h14 eh14
    cases eh14
    dsimp only
    refine zG_gr h14 (by decide) ?_
    refine zG_gr h14 (by decide) ?_
    refine zG_ai h14 rfl (fun u17 => ?_)
    refine zG_si h14 rfl (fun M20 Q18 h19 => ?_)
    refine zG_b1 (S := mP X) (zG_wh (R := mP X) (ms_keep_L146 _) ⟨h19, rfl⟩) ?_
    rintro ⟨M23, u24'⟩ ⟨Q21, u24⟩ ⟨h22, eh22⟩
    dsimp only at h22 eh22
    cases eh22
    dsimp only
    exact zG_some (show mP X _ _ from ⟨h22, rfl⟩)
noncomputable def mf_keep_L199 (x : Mq × Int32) : Option ((Mq × Int32) ⊕ (Mq × Int32)) := match x with
  | (Q, l1) =>
  (if (20 : Int32) ≤ l1 then
  some (.inr (Q, l1))
  else
  zb1 (mo_ai Q 11 l1) (fun u1 =>
  zb1 (mo_si Q 56 l1 u1) (fun Q2 =>
  zb1 (mo_ai Q2 12 l1) (fun u5 =>
  zb1 (mo_si Q2 57 l1 u5) (fun Q6 =>
  some (.inl (Q6, (l1 + 1))))))))
theorem ms_keep_L199 {X : Xq}  : ∀ (x : Zm × Int32) (y : Mq × Int32), mP X x y → zG (mU (mP X) (mP X)) (zf_X12_keep_L199 (some X.2.2.1) x) (mf_keep_L199  y) := by
  rintro ⟨M, l1'⟩ ⟨Q, l1⟩ ⟨h, e⟩
  dsimp only at h e
  cases e
  unfold zf_X12_keep_L199 mf_keep_L199
  dsimp only
  refine zG_ite ?_ ?_
  · exact zG_some (show mP X _ _ from ⟨h, rfl⟩)
  · refine zG_gr h (by decide) ?_
    refine zG_gr h (by decide) ?_
    refine zG_ai h rfl (fun u1 => ?_)
    refine zG_si h rfl (fun M4 Q2 h3 => ?_)
    refine zG_gr h3 (by decide) ?_
    refine zG_gr h3 (by decide) ?_
    refine zG_ai h3 rfl (fun u5 => ?_)
    refine zG_si h3 rfl (fun M8 Q6 h7 => ?_)
    exact zG_some (show mP X _ _ from ⟨h7, rfl⟩)
noncomputable def mf_keep_L237 (x : Mq × Int32) : Option ((Mq × Int32) ⊕ (Mq × Int32)) := match x with
  | (Q, l1) =>
  (if (1200 : Int32) ≤ l1 then
  some (.inr (Q, l1))
  else
  zb1 (mo_ai Q 13 l1) (fun u1 =>
  zb1 (mo_si Q 58 l1 u1) (fun Q2 =>
  some (.inl (Q2, (l1 + 1))))))
theorem ms_keep_L237 {X : Xq}  : ∀ (x : Zm × Int32) (y : Mq × Int32), mP X x y → zG (mU (mP X) (mP X)) (zf_X12_keep_L237 (some X.2.2.1) x) (mf_keep_L237  y) := by
  rintro ⟨M, l1'⟩ ⟨Q, l1⟩ ⟨h, e⟩
  dsimp only at h e
  cases e
  unfold zf_X12_keep_L237 mf_keep_L237
  dsimp only
  refine zG_ite ?_ ?_
  · exact zG_some (show mP X _ _ from ⟨h, rfl⟩)
  · refine zG_gr h (by decide) ?_
    refine zG_gr h (by decide) ?_
    refine zG_ai h rfl (fun u1 => ?_)
    refine zG_si h rfl (fun M4 Q2 h3 => ?_)
    exact zG_some (show mP X _ _ from ⟨h3, rfl⟩)
noncomputable def mf_keep_L264 (x : Mq × Int32) : Option ((Mq × Int32) ⊕ (Mq × Int32)) := match x with
  | (Q, l1) =>
  (if ((5 : Int32) * (Q.1 14 0)) ≤ l1 then
  some (.inr (Q, l1))
  else
  zb1 (mo_aj Q 17 l1) (fun u1 =>
  zb1 (mo_sj Q 59 l1 u1) (fun Q2 =>
  some (.inl (Q2, (l1 + 1))))))
theorem ms_keep_L264 {X : Xq}  : ∀ (x : Zm × Int32) (y : Mq × Int32), mP X x y → zG (mU (mP X) (mP X)) (zf_X12_keep_L264 (some X.2.2.1) x) (mf_keep_L264  y) := by
  rintro ⟨M, l1'⟩ ⟨Q, l1⟩ ⟨h, e⟩
  dsimp only at h e
  cases e
  unfold zf_X12_keep_L264 mf_keep_L264
  dsimp only
  refine zG_gi h rfl ?_
  refine zG_ite ?_ ?_
  · exact zG_some (show mP X _ _ from ⟨h, rfl⟩)
  · refine zG_gr h (by decide) ?_
    refine zG_gr h (by decide) ?_
    refine zG_aj h rfl (fun u1 => ?_)
    refine zG_sj h rfl (fun M4 Q2 h3 => ?_)
    exact zG_some (show mP X _ _ from ⟨h3, rfl⟩)
noncomputable def mf_keep (Q : Mq) : Option (Mq × Unit) :=
  zb1 (some (qi Q 43 0 (1 : Int32))) (fun Q1 =>
  zb1 (some (qi Q1 44 0 (Q1.1 1 0))) (fun Q4 =>
  zb1 (some (qi Q4 45 0 (Q4.1 14 0))) (fun Q7 =>
  zb1 (some (qi Q7 46 0 (Q7.1 18 0))) (fun Q10 =>
  zb1 (some (qi Q10 47 0 (Q10.1 19 0))) (fun Q13 =>
  zb1 (some (qi Q13 48 0 (Q13.1 21 0))) (fun Q16 =>
  zb1 (zwhile (mf_keep_L47 ) (Q16, (0 : Int32))) (fun y38 => match y38 with
  | (Q19, u22) =>
  zb1 (zwhile (mf_keep_L199 ) (Q19, (0 : Int32))) (fun y37 => match y37 with
  | (Q23, u26) =>
  zb1 (zwhile (mf_keep_L237 ) (Q23, (0 : Int32))) (fun y36 => match y36 with
  | (Q27, u30) =>
  zb1 (zwhile (mf_keep_L264 ) (Q27, (0 : Int32))) (fun y35 => match y35 with
  | (Q31, u34) =>
  some (Q31, ())))))))))))
theorem ms_keep {X : Xq} {M : Zm} {Q : Mq} (h : mR X M Q)  : zG (mP X) (zf_X12_keep M (some X.2.2.1)) (mf_keep Q) := by
  unfold zf_X12_keep mf_keep
  refine zG_pz h rfl (by decide) (by decide) (fun M3 Q1 h2 => ?_)
  refine zG_gi h2 rfl ?_
  refine zG_pi h2 rfl (by decide) (fun M6 Q4 h5 => ?_)
  refine zG_gi h5 rfl ?_
  refine zG_pi h5 rfl (by decide) (fun M9 Q7 h8 => ?_)
  refine zG_gi h8 rfl ?_
  refine zG_pi h8 rfl (by decide) (fun M12 Q10 h11 => ?_)
  refine zG_gi h11 rfl ?_
  refine zG_pi h11 rfl (by decide) (fun M15 Q13 h14 => ?_)
  refine zG_gi h14 rfl ?_
  refine zG_pi h14 rfl (by decide) (fun M18 Q16 h17 => ?_)
  refine zG_b1 (S := mP X) (zG_wh (R := mP X) (ms_keep_L47 ) ⟨h17, rfl⟩) ?_
  rintro ⟨M21, u22'⟩ ⟨Q19, u22⟩ ⟨h20, eh20⟩
  dsimp only at h20 eh20
  cases eh20
  dsimp only
  refine zG_b1 (S := mP X) (zG_wh (R := mP X) (ms_keep_L199 ) ⟨h20, rfl⟩) ?_
  rintro ⟨M25, u26'⟩ ⟨Q23, u26⟩ ⟨h24, eh24⟩
  dsimp only at h24 eh24
  cases eh24
  dsimp only
  refine zG_b1 (S := mP X) (zG_wh (R := mP X) (ms_keep_L237 ) ⟨h24, rfl⟩) ?_
  rintro ⟨M29, u30'⟩ ⟨Q27, u30⟩ ⟨h28, eh28⟩
  dsimp only at h28 eh28
  cases eh28
  dsimp only
  refine zG_b1 (S := mP X) (zG_wh (R := mP X) (ms_keep_L264 ) ⟨h28, rfl⟩) ?_
  rintro ⟨M33, u34'⟩ ⟨Q31, u34⟩ ⟨h32, eh32⟩
  dsimp only at h32 eh32
  cases eh32
  dsimp only
  exact zG_some ⟨h32, rfl⟩
noncomputable def mf_barrel_J121 (Q : Mq) (l3 : Int32) (l5 : Int32) (s0 : Int32) (s1 : Int32) (s2 : Nat) : Option (Mq × Int64) :=
  zb1 (mo_si Q s2 s1 s0) (fun Q1 =>
  zb1 (mo_si Q1 4 l5 l3) (fun Q4 =>
  zb1 (mo_si Q4 5 l5 (0 : Int32)) (fun Q7 =>
  zb1 (mo_si Q7 6 l5 (0 : Int32)) (fun Q10 =>
  zb1 (mo_si Q10 8 l5 (0 : Int32)) (fun Q13 =>
  some (Q13, (l5.toInt64)))))))
theorem ms_barrel_J121 {X : Xq} {M : Zm} {Q : Mq} (h : mR X M Q) (l3 : Int32) (l5 : Int32) (s0 : Int32) (s1 : Int32) (s2 : Nat) (hf_s2 : mty s2 = 2) : zG (mP X) (zf_X12_barrel_J121 M (some X.2.2.1) l3 l5 s0 s1 (some (X.2.2.2.1 s2))) (mf_barrel_J121 Q l3 l5 s0 s1 s2) := by
  unfold zf_X12_barrel_J121 mf_barrel_J121
  refine zG_si h hf_s2 (fun M3 Q1 h2 => ?_)
  refine zG_gr h2 (by decide) ?_
  refine zG_si h2 rfl (fun M6 Q4 h5 => ?_)
  refine zG_gr h5 (by decide) ?_
  refine zG_si h5 rfl (fun M9 Q7 h8 => ?_)
  refine zG_gr h8 (by decide) ?_
  refine zG_si h8 rfl (fun M12 Q10 h11 => ?_)
  refine zG_gr h11 (by decide) ?_
  refine zG_si h11 rfl (fun M15 Q13 h14 => ?_)
  exact zG_some ⟨h14, rfl⟩
noncomputable def mf_barrel_J47 (Q : Mq) (l1 : Int32) (l2 : Int32) (l3 : Int32) (s0 : Int32) : Option (Mq × Int64) :=
  (if s0 = 0 then
  mbd (mf_no Q (1 : Int32)) (fun Q1 u4 =>
  some (Q1, u4))
  else
  (if (Q.1 1 0) = (1000 : Int32) then
  mbd (mf_no Q (12 : Int32)) (fun Q5 u8 =>
  some (Q5, u8))
  else
  mbd (mf_keep Q) (fun Q9 _ =>
  zb1 (some (qi Q9 1 0 ((Q9.1 1 0) + (1 : Int32)))) (fun Q12 =>
  zb1 (mo_si Q12 2 (Q9.1 1 0) l1) (fun Q15 =>
  (if l1 = (5 : Int32) then
  mf_barrel_J121 Q15 l3 (Q9.1 1 0) (0 : Int32) (Q9.1 1 0) 3
  else
  mf_barrel_J121 Q15 l3 (Q9.1 1 0) l2 (Q9.1 1 0) 3))))))
theorem ms_barrel_J47 {X : Xq} {M : Zm} {Q : Mq} (h : mR X M Q) (l1 : Int32) (l2 : Int32) (l3 : Int32) (s0 : Int32) : zG (mP X) (zf_X12_barrel_J47 M (some X.2.2.1) l1 l2 l3 s0) (mf_barrel_J47 Q l1 l2 l3 s0) := by
  unfold zf_X12_barrel_J47 mf_barrel_J47
  refine zG_ite ?_ ?_
  · refine zG_rc h ?_
    refine zG_bd (ms_no h _) (fun M3 Q1 u4 h2 => ?_)
    exact zG_some ⟨h2, rfl⟩
  · refine zG_gi h rfl ?_
    refine zG_ite ?_ ?_
    · refine zG_rc h ?_
      refine zG_bd (ms_no h _) (fun M7 Q5 u8 h6 => ?_)
      exact zG_some ⟨h6, rfl⟩
    · refine zG_rc h ?_
      refine zG_bd (ms_keep h) (fun M11 Q9 _ h10 => ?_)
      refine zG_gi h10 rfl ?_
      refine zG_gi h10 rfl ?_
      refine zG_pi h10 rfl (by decide) (fun M14 Q12 h13 => ?_)
      refine zG_gr h13 (by decide) ?_
      refine zG_si h13 rfl (fun M17 Q15 h16 => ?_)
      refine zG_gr h16 (by decide) ?_
      refine zG_ite ?_ ?_
      · exact ms_barrel_J121 h16 _ _ _ _ _ rfl
      · exact ms_barrel_J121 h16 _ _ _ _ _ rfl
noncomputable def mf_barrel_J46 (Q : Mq) (l1 : Int32) (l2 : Int32) (l3 : Int32) : Option (Mq × Int64) :=
  mf_barrel_J47 Q l1 l2 l3 (0 : Int32)
theorem ms_barrel_J46 {X : Xq} {M : Zm} {Q : Mq} (h : mR X M Q) (l1 : Int32) (l2 : Int32) (l3 : Int32) : zG (mP X) (zf_X12_barrel_J46 M (some X.2.2.1) l1 l2 l3) (mf_barrel_J46 Q l1 l2 l3) := by
  unfold zf_X12_barrel_J46 mf_barrel_J46
  exact ms_barrel_J47 h _ _ _ _
noncomputable def mf_barrel_J31 (Q : Mq) (l1 : Int32) (l2 : Int32) (l3 : Int32) : Option (Mq × Int64) :=
  (if l3 < 0 then
  mf_barrel_J46 Q l1 l2 l3
  else
  (if (1000000 : Int32) < l3 then
  mf_barrel_J46 Q l1 l2 l3
  else
  mf_barrel_J47 Q l1 l2 l3 (1 : Int32)))
theorem ms_barrel_J31 {X : Xq} {M : Zm} {Q : Mq} (h : mR X M Q) (l1 : Int32) (l2 : Int32) (l3 : Int32) : zG (mP X) (zf_X12_barrel_J31 M (some X.2.2.1) l1 l2 l3) (mf_barrel_J31 Q l1 l2 l3) := by
  unfold zf_X12_barrel_J31 mf_barrel_J31
  refine zG_ite ?_ ?_
  · exact ms_barrel_J46 h _ _ _
  · refine zG_ite ?_ ?_
    · exact ms_barrel_J46 h _ _ _
    · exact ms_barrel_J47 h _ _ _ _
noncomputable def mf_barrel (Q : Mq) (l1 : Int32) (l2 : Int32) (l3 : Int32) : Option (Mq × Int64) :=
  mbd (mf_begin Q) (fun Q1 _ =>
  (if l1 < (1 : Int32) then
  mf_barrel_J46 Q1 l1 l2 l3
  else
  (if (5 : Int32) < l1 then
  mf_barrel_J46 Q1 l1 l2 l3
  else
  (if l1 = (5 : Int32) then
  mf_barrel_J31 Q1 l1 l2 l3
  else
  (if l2 < (1 : Int32) then
  mf_barrel_J46 Q1 l1 l2 l3
  else
  (if (1000000000 : Int32) < l2 then
  mf_barrel_J46 Q1 l1 l2 l3
  else
  mf_barrel_J31 Q1 l1 l2 l3))))))
theorem ms_barrel {X : Xq} {M : Zm} {Q : Mq} (h : mR X M Q) (l1 : Int32) (l2 : Int32) (l3 : Int32) : zG (mP X) (zf_X12_barrel M (some X.2.2.1) l1 l2 l3) (mf_barrel Q l1 l2 l3) := by
  unfold zf_X12_barrel mf_barrel
  refine zG_rc h ?_
  refine zG_bd (ms_begin h) (fun M3 Q1 _ h2 => ?_)
  refine zG_ite ?_ ?_
  · exact ms_barrel_J46 h2 _ _ _
  · refine zG_ite ?_ ?_
    · exact ms_barrel_J46 h2 _ _ _
    · refine zG_ite ?_ ?_
      · exact ms_barrel_J31 h2 _ _ _
      · refine zG_ite ?_ ?_
        · exact ms_barrel_J46 h2 _ _ _
        · refine zG_ite ?_ ?_
          · exact ms_barrel_J46 h2 _ _ _
          · exact ms_barrel_J31 h2 _ _ _
noncomputable def mf_become_L12 (p1 : Int32) (x : Mq × Int32) : Option ((Mq × Int32) ⊕ (Mq × Int32)) := match x with
  | (Q, l2) =>
  (if (Q.1 64 0) ≤ l2 then
  some (.inr (Q, l2))
  else
  zb1 (mo_ai Q 65 l2) (fun u1 =>
  zb1 (mo_si Q 9 (((60 : Int32) * p1) + l2) u1) (fun Q2 =>
  zb1 (mo_aj Q2 66 l2) (fun u5 =>
  zb1 (mo_sj Q2 10 (((60 : Int32) * p1) + l2) u5) (fun Q6 =>
  some (.inl (Q6, (l2 + 1))))))))
theorem ms_become_L12 {X : Xq} (p1 : Int32) : ∀ (x : Zm × Int32) (y : Mq × Int32), mP X x y → zG (mU (mP X) (mP X)) (zf_X12_become_L12 (some X.2.2.1) p1 x) (mf_become_L12 p1 y) := by
  rintro ⟨M, l2'⟩ ⟨Q, l2⟩ ⟨h, e⟩
  dsimp only at h e
  cases e
  unfold zf_X12_become_L12 mf_become_L12
  dsimp only
  refine zG_gi h rfl ?_
  refine zG_ite ?_ ?_
  · exact zG_some (show mP X _ _ from ⟨h, rfl⟩)
  · refine zG_gr h (by decide) ?_
    refine zG_gr h (by decide) ?_
    refine zG_ai h rfl (fun u1 => ?_)
    refine zG_si h rfl (fun M4 Q2 h3 => ?_)
    refine zG_gr h3 (by decide) ?_
    refine zG_gr h3 (by decide) ?_
    refine zG_aj h3 rfl (fun u5 => ?_)
    refine zG_sj h3 rfl (fun M8 Q6 h7 => ?_)
    exact zG_some (show mP X _ _ from ⟨h7, rfl⟩)
noncomputable def mf_become (Q : Mq) (l1 : Int32) : Option (Mq × Unit) :=
  zb1 (mo_si Q 8 l1 (Q.1 64 0)) (fun Q1 =>
  zb1 (zwhile (mf_become_L12 l1) (Q1, (0 : Int32))) (fun y8 => match y8 with
  | (Q4, u7) =>
  some (Q4, ())))
theorem ms_become {X : Xq} {M : Zm} {Q : Mq} (h : mR X M Q) (l1 : Int32) : zG (mP X) (zf_X12_become M (some X.2.2.1) l1) (mf_become Q l1) := by
  unfold zf_X12_become mf_become
  refine zG_gr h (by decide) ?_
  refine zG_gi h rfl ?_
  refine zG_si h rfl (fun M3 Q1 h2 => ?_)
  refine zG_b1 (S := mP X) (zG_wh (R := mP X) (ms_become_L12 _) ⟨h2, rfl⟩) ?_
  rintro ⟨M6, u7'⟩ ⟨Q4, u7⟩ ⟨h5, eh5⟩
  dsimp only at h5 eh5
  cases eh5
  dsimp only
  exact zG_some ⟨h5, rfl⟩
noncomputable def mf_ran (Q : Mq) (l1 : Int32) : Option (Mq × Unit) :=
  (if (Q.1 41 0) = (200 : Int32) then
  some (Q, ())
  else
  zb1 (mo_si Q 42 (Q.1 41 0) l1) (fun Q1 =>
  zb1 (some (qi Q1 41 0 ((Q1.1 41 0) + (1 : Int32)))) (fun Q4 =>
  some (Q4, ()))))
theorem ms_ran {X : Xq} {M : Zm} {Q : Mq} (h : mR X M Q) (l1 : Int32) : zG (mP X) (zf_X12_ran M (some X.2.2.1) l1) (mf_ran Q l1) := by
  unfold zf_X12_ran mf_ran
  refine zG_gi h rfl ?_
  refine zG_ite ?_ ?_
  · exact zG_some ⟨h, rfl⟩
  · refine zG_gr h (by decide) ?_
    refine zG_gi h rfl ?_
    refine zG_si h rfl (fun M3 Q1 h2 => ?_)
    refine zG_gi h2 rfl ?_
    refine zG_pi h2 rfl (by decide) (fun M6 Q4 h5 => ?_)
    exact zG_some ⟨h5, rfl⟩
noncomputable def mf_spareOfVessel_J26 (Q : Mq) (l2 : Int32) (l3 : Int64) : Option (Mq × Int64) :=
  (if l2 = 0 then
  some (Q, l3)
  else
  mbd (mf_ran Q (7 : Int32)) (fun Q1 _ =>
  some (Q1, l3)))
theorem ms_spareOfVessel_J26 {X : Xq} {M : Zm} {Q : Mq} (h : mR X M Q) (l2 : Int32) (l3 : Int64) : zG (mP X) (zf_X12_spareOfVessel_J26 M (some X.2.2.1) l2 l3) (mf_spareOfVessel_J26 Q l2 l3) := by
  unfold zf_X12_spareOfVessel_J26 mf_spareOfVessel_J26
  refine zG_ite ?_ ?_
  · exact zG_some ⟨h, rfl⟩
  · refine zG_rc h ?_
    refine zG_bd (ms_ran h _) (fun M3 Q1 _ h2 => ?_)
    exact zG_some ⟨h2, rfl⟩
noncomputable def mf_spareOfVessel_J67 (Q : Mq) (l1 : Int32) (l3 : Int64) : Option (Mq × Int64) :=
  zb1 (mo_ai Q 3 l1) (fun u1 =>
  zb1 (zo_id u1 (1000 : Int32)) (fun u2 =>
  mbd (mf_atLeast0 Q (l3 - (u2.toInt64))) (fun Q3 u6 =>
  zb1 (mo_ai Q3 2 l1) (fun u7 =>
  (if u7 = (2 : Int32) then
  zb1 (mo_ai Q3 3 l1) (fun u8 =>
  zb1 (zo_id u8 (2000 : Int32)) (fun u9 =>
  mbd (mf_atLeast0 Q3 (u6 - (u9.toInt64))) (fun Q10 u13 =>
  some (Q10, u13))))
  else
  some (Q3, u6))))))
theorem ms_spareOfVessel_J67 {X : Xq} {M : Zm} {Q : Mq} (h : mR X M Q) (l1 : Int32) (l3 : Int64) : zG (mP X) (zf_X12_spareOfVessel_J67 M (some X.2.2.1) l1 l3) (mf_spareOfVessel_J67 Q l1 l3) := by
  unfold zf_X12_spareOfVessel_J67 mf_spareOfVessel_J67
  refine zG_gr h (by decide) ?_
  refine zG_ai h rfl (fun u1 => ?_)
  refine zG_op (fun u2 => ?_)
  refine zG_bd (ms_atLeast0 h _) (fun M5 Q3 u6 h4 => ?_)
  refine zG_gr h4 (by decide) ?_
  refine zG_ai h4 rfl (fun u7 => ?_)
  refine zG_ite ?_ ?_
  · refine zG_gr h4 (by decide) ?_
    refine zG_ai h4 rfl (fun u8 => ?_)
    refine zG_op (fun u9 => ?_)
    refine zG_bd (ms_atLeast0 h4 _) (fun M12 Q10 u13 h11 => ?_)
    exact zG_some ⟨h11, rfl⟩
  · exact zG_some ⟨h4, rfl⟩
noncomputable def mf_spareOfVessel_J58 (Q : Mq) (l1 : Int32) (l2 : Int32) (l3 : Int64) : Option (Mq × Int64) :=
  (if l2 = 0 then
  mf_spareOfVessel_J67 Q l1 l3
  else
  mbd (mf_ran Q (5 : Int32)) (fun Q1 _ =>
  mf_spareOfVessel_J67 Q1 l1 l3))
theorem ms_spareOfVessel_J58 {X : Xq} {M : Zm} {Q : Mq} (h : mR X M Q) (l1 : Int32) (l2 : Int32) (l3 : Int64) : zG (mP X) (zf_X12_spareOfVessel_J58 M (some X.2.2.1) l1 l2 l3) (mf_spareOfVessel_J58 Q l1 l2 l3) := by
  unfold zf_X12_spareOfVessel_J58 mf_spareOfVessel_J58
  refine zG_ite ?_ ?_
  · exact ms_spareOfVessel_J67 h _ _
  · refine zG_rc h ?_
    refine zG_bd (ms_ran h _) (fun M3 Q1 _ h2 => ?_)
    exact ms_spareOfVessel_J67 h2 _ _
noncomputable def mf_spareOfVessel (Q : Mq) (l1 : Int32) (l2 : Int32) : Option (Mq × Int64) :=
  mbd (mf_inVessel Q l1) (fun Q1 u4 =>
  zb1 (mo_ai Q1 2 l1) (fun u5 =>
  (if u5 = (3 : Int32) then
  mf_spareOfVessel_J26 Q1 l2 u4
  else
  zb1 (mo_ai Q1 2 l1) (fun u6 =>
  (if u6 = (4 : Int32) then
  mf_spareOfVessel_J26 Q1 l2 u4
  else
  (if l2 = 0 then
  mf_spareOfVessel_J58 Q1 l1 l2 u4
  else
  zb1 (mo_ai Q1 2 l1) (fun u7 =>
  (if u7 = (2 : Int32) then
  mbd (mf_ran Q1 (6 : Int32)) (fun Q8 _ =>
  mf_spareOfVessel_J58 Q8 l1 l2 u4)
  else
  mf_spareOfVessel_J58 Q1 l1 l2 u4))))))))
theorem ms_spareOfVessel {X : Xq} {M : Zm} {Q : Mq} (h : mR X M Q) (l1 : Int32) (l2 : Int32) : zG (mP X) (zf_X12_spareOfVessel M (some X.2.2.1) l1 l2) (mf_spareOfVessel Q l1 l2) := by
  unfold zf_X12_spareOfVessel mf_spareOfVessel
  refine zG_rc h ?_
  refine zG_bd (ms_inVessel h _) (fun M3 Q1 u4 h2 => ?_)
  refine zG_gr h2 (by decide) ?_
  refine zG_ai h2 rfl (fun u5 => ?_)
  refine zG_ite ?_ ?_
  · exact ms_spareOfVessel_J26 h2 _ _
  · refine zG_gr h2 (by decide) ?_
    refine zG_ai h2 rfl (fun u6 => ?_)
    refine zG_ite ?_ ?_
    · exact ms_spareOfVessel_J26 h2 _ _
    · refine zG_ite ?_ ?_
      · exact ms_spareOfVessel_J58 h2 _ _ _
      · refine zG_gr h2 (by decide) ?_
        refine zG_ai h2 rfl (fun u7 => ?_)
        refine zG_ite ?_ ?_
        · refine zG_rc h2 ?_
          refine zG_bd (ms_ran h2 _) (fun M10 Q8 _ h9 => ?_)
          exact ms_spareOfVessel_J58 h9 _ _ _
        · exact ms_spareOfVessel_J58 h2 _ _ _
noncomputable def mf_drawFrom_J96 (Q : Mq) (p1 : Int32) (p4 : Int32) (l5 : Int64) (l7 : Int32) (l11 : Int64) : Option ((Mq × Int64 × Int32) ⊕ (Mq × Int64 × Int32)) :=
  some (.inl (Q, (l5 - l11), (l7 + 1)))
theorem ms_drawFrom_J96 {X : Xq} {M : Zm} {Q : Mq} (h : mR X M Q) (p1 : Int32) (p4 : Int32) (l5 : Int64) (l7 : Int32) (l11 : Int64) : zG (mU (mP X) (mP X)) (zf_X12_drawFrom_J96 M (some X.2.2.1) p1 p4 l5 l7 l11) (mf_drawFrom_J96 Q p1 p4 l5 l7 l11) := by
  unfold zf_X12_drawFrom_J96 mf_drawFrom_J96
  exact zG_some (show mP X _ _ from ⟨h, rfl⟩)
noncomputable def mf_drawFrom_J79 (Q : Mq) (p1 : Int32) (p4 : Int32) (l5 : Int64) (l7 : Int32) (l8 : Int32) (s0 : Int64) : Option ((Mq × Int64 × Int32) ⊕ (Mq × Int64 × Int32)) :=
  (if s0 ≤ (0 : Int64) then
  mf_drawFrom_J96 Q p1 p4 l5 l7 s0
  else
  mbd (mf_addDraw Q l8 s0) (fun Q1 _ =>
  mf_drawFrom_J96 Q1 p1 p4 l5 l7 s0))
theorem ms_drawFrom_J79 {X : Xq} {M : Zm} {Q : Mq} (h : mR X M Q) (p1 : Int32) (p4 : Int32) (l5 : Int64) (l7 : Int32) (l8 : Int32) (s0 : Int64) : zG (mU (mP X) (mP X)) (zf_X12_drawFrom_J79 M (some X.2.2.1) p1 p4 l5 l7 l8 s0) (mf_drawFrom_J79 Q p1 p4 l5 l7 l8 s0) := by
  unfold zf_X12_drawFrom_J79 mf_drawFrom_J79
  refine zG_ite ?_ ?_
  · exact ms_drawFrom_J96 h _ _ _ _ _
  · refine zG_rc h ?_
    refine zG_bd (ms_addDraw h _ _) (fun M3 Q1 _ h2 => ?_)
    exact ms_drawFrom_J96 h2 _ _ _ _ _
noncomputable def mf_drawFrom_L23 (p1 : Int32) (p4 : Int32) (x : Mq × Int64 × Int32) : Option ((Mq × Int64 × Int32) ⊕ (Mq × Int64 × Int32)) := match x with
  | (Q, l5, l7) =>
  zb1 (mo_ai Q 6 p1) (fun u1 =>
  (if u1 ≤ l7 then
  some (.inr (Q, l5, l7))
  else
  (if l5 ≤ (0 : Int64) then
  some (.inr (Q, l5, l7))
  else
  zb1 (mo_ai Q 7 (((4 : Int32) * p1) + l7)) (fun u2 =>
  mbd (mf_spareOfVessel Q u2 p4) (fun Q3 u6 =>
  (if l5 ≤ u6 then
  mf_drawFrom_J79 Q3 p1 p4 l5 l7 u2 l5
  else
  mf_drawFrom_J79 Q3 p1 p4 l5 l7 u2 u6))))))
theorem ms_drawFrom_L23 {X : Xq} (p1 : Int32) (p4 : Int32) : ∀ (x : Zm × Int64 × Int32) (y : Mq × Int64 × Int32), mP X x y → zG (mU (mP X) (mP X)) (zf_X12_drawFrom_L23 (some X.2.2.1) p1 p4 x) (mf_drawFrom_L23 p1 p4 y) := by
  rintro ⟨M, l5', l7'⟩ ⟨Q, l5, l7⟩ ⟨h, e⟩
  dsimp only at h e
  cases e
  unfold zf_X12_drawFrom_L23 mf_drawFrom_L23
  dsimp only
  refine zG_gr h (by decide) ?_
  refine zG_ai h rfl (fun u1 => ?_)
  refine zG_ite ?_ ?_
  · exact zG_some (show mP X _ _ from ⟨h, rfl⟩)
  · refine zG_ite ?_ ?_
    · exact zG_some (show mP X _ _ from ⟨h, rfl⟩)
    · refine zG_gr h (by decide) ?_
      refine zG_ai h rfl (fun u2 => ?_)
      refine zG_rc h ?_
      refine zG_bd (ms_spareOfVessel h _ _) (fun M5 Q3 u6 h4 => ?_)
      refine zG_ite ?_ ?_
      · exact ms_drawFrom_J79 h4 _ _ _ _ _ _
      · exact ms_drawFrom_J79 h4 _ _ _ _ _ _
noncomputable def mf_drawFrom (Q : Mq) (l1 : Int32) (l2 : Int64) (l4 : Int32) : Option (Mq × Unit) :=
  zb1 (mo_ai Q 2 l1) (fun u1 =>
  (if u1 = (5 : Int32) then
  zb1 (zwhile (mf_drawFrom_L23 l1 l4) (Q, l2, (0 : Int32))) (fun y7 => match y7 with
  | (Q2, u5, u6) =>
  some (Q2, ()))
  else
  mbd (mf_addDraw Q l1 l2) (fun Q8 _ =>
  some (Q8, ()))))
theorem ms_drawFrom {X : Xq} {M : Zm} {Q : Mq} (h : mR X M Q) (l1 : Int32) (l2 : Int64) (l4 : Int32) : zG (mP X) (zf_X12_drawFrom M (some X.2.2.1) l1 l2 l4) (mf_drawFrom Q l1 l2 l4) := by
  unfold zf_X12_drawFrom mf_drawFrom
  refine zG_gr h (by decide) ?_
  refine zG_ai h rfl (fun u1 => ?_)
  refine zG_ite ?_ ?_
  · refine zG_b1 (S := mP X) (zG_wh (R := mP X) (ms_drawFrom_L23 _ _) ⟨h, rfl⟩) ?_
    rintro ⟨M4, u5', u6'⟩ ⟨Q2, u5, u6⟩ ⟨h3, eh3⟩
    dsimp only at h3 eh3
    cases eh3
    dsimp only
    exact zG_some ⟨h3, rfl⟩
  · refine zG_rc h ?_
    refine zG_bd (ms_addDraw h _ _) (fun M10 Q8 _ h9 => ?_)
    exact zG_some ⟨h9, rfl⟩
noncomputable def mf_isInCask (Q : Mq) (l1 : Int32) : Option (Mq × Int32) :=
  zb1 (mo_ai Q 5 l1) (fun u1 =>
  (if u1 < (10000 : Int32) then
  zb1 (zo_b (0 : Int32)) (fun u2 =>
  some (Q, u2))
  else
  zb1 (zo_b (1 : Int32)) (fun u3 =>
  some (Q, u3))))
theorem ms_isInCask {X : Xq} {M : Zm} {Q : Mq} (h : mR X M Q) (l1 : Int32) : zG (mP X) (zf_X12_isInCask M (some X.2.2.1) l1) (mf_isInCask Q l1) := by
  unfold zf_X12_isInCask mf_isInCask
  refine zG_gr h (by decide) ?_
  refine zG_ai h rfl (fun u1 => ?_)
  refine zG_ite ?_ ?_
  · refine zG_op (fun u2 => ?_)
    exact zG_some ⟨h, rfl⟩
  · refine zG_op (fun u3 => ?_)
    exact zG_some ⟨h, rfl⟩
noncomputable def mf_isOneInCask_J34 (Q : Mq) (l2 : Int32) (s0 : Int32) : Option ((Mq × Int32 × Int32) ⊕ (Mq × Int32 × Int32)) :=
  some (.inl (Q, s0, (l2 + 1)))
theorem ms_isOneInCask_J34 {X : Xq} {M : Zm} {Q : Mq} (h : mR X M Q) (l2 : Int32) (s0 : Int32) : zG (mU (mP X) (mP X)) (zf_X12_isOneInCask_J34 M (some X.2.2.1) l2 s0) (mf_isOneInCask_J34 Q l2 s0) := by
  unfold zf_X12_isOneInCask_J34 mf_isOneInCask_J34
  exact zG_some (show mP X _ _ from ⟨h, rfl⟩)
noncomputable def mf_isOneInCask_J29 (Q : Mq) (l2 : Int32) : Option ((Mq × Int32 × Int32) ⊕ (Mq × Int32 × Int32)) :=
  mf_isOneInCask_J34 Q l2 (1 : Int32)
theorem ms_isOneInCask_J29 {X : Xq} {M : Zm} {Q : Mq} (h : mR X M Q) (l2 : Int32) : zG (mU (mP X) (mP X)) (zf_X12_isOneInCask_J29 M (some X.2.2.1) l2) (mf_isOneInCask_J29 Q l2) := by
  unfold zf_X12_isOneInCask_J29 mf_isOneInCask_J29
  exact ms_isOneInCask_J34 h _ _
noncomputable def mf_isOneInCask_L4 (x : Mq × Int32 × Int32) : Option ((Mq × Int32 × Int32) ⊕ (Mq × Int32 × Int32)) := match x with
  | (Q, l1, l2) =>
  (if (Q.1 33 0) ≤ l2 then
  some (.inr (Q, l1, l2))
  else
  (if l1 = 0 then
  zb1 (mo_ai Q 34 l2) (fun u1 =>
  mbd (mf_isInCask Q u1) (fun Q2 u5 =>
  (if u5 = 0 then
  mf_isOneInCask_J34 Q2 l2 (0 : Int32)
  else
  mf_isOneInCask_J29 Q2 l2)))
  else
  mf_isOneInCask_J29 Q l2))
theorem ms_isOneInCask_L4 {X : Xq}  : ∀ (x : Zm × Int32 × Int32) (y : Mq × Int32 × Int32), mP X x y → zG (mU (mP X) (mP X)) (zf_X12_isOneInCask_L4 (some X.2.2.1) x) (mf_isOneInCask_L4  y) := by
  rintro ⟨M, l1', l2'⟩ ⟨Q, l1, l2⟩ ⟨h, e⟩
  dsimp only at h e
  cases e
  unfold zf_X12_isOneInCask_L4 mf_isOneInCask_L4
  dsimp only
  refine zG_gi h rfl ?_
  refine zG_ite ?_ ?_
  · exact zG_some (show mP X _ _ from ⟨h, rfl⟩)
  · refine zG_ite ?_ ?_
    · refine zG_gr h (by decide) ?_
      refine zG_ai h rfl (fun u1 => ?_)
      refine zG_rc h ?_
      refine zG_bd (ms_isInCask h _) (fun M4 Q2 u5 h3 => ?_)
      refine zG_ite ?_ ?_
      · exact ms_isOneInCask_J34 h3 _ _
      · exact ms_isOneInCask_J29 h3 _
    · exact ms_isOneInCask_J29 h _
noncomputable def mf_isOneInCask (Q : Mq) : Option (Mq × Int32) :=
  zb1 (zwhile (mf_isOneInCask_L4 ) (Q, (0 : Int32), (0 : Int32))) (fun y7 => match y7 with
  | (Q1, u4, u5) =>
  zb1 (zo_b u4) (fun u6 =>
  some (Q1, u6)))
theorem ms_isOneInCask {X : Xq} {M : Zm} {Q : Mq} (h : mR X M Q)  : zG (mP X) (zf_X12_isOneInCask M (some X.2.2.1)) (mf_isOneInCask Q) := by
  unfold zf_X12_isOneInCask mf_isOneInCask
  refine zG_b1 (S := mP X) (zG_wh (R := mP X) (ms_isOneInCask_L4 ) ⟨h, rfl⟩) ?_
  rintro ⟨M3, u4', u5'⟩ ⟨Q1, u4, u5⟩ ⟨h2, eh2⟩
  dsimp only at h2 eh2
  cases eh2
  dsimp only
  refine zG_op (fun u6 => ?_)
  exact zG_some ⟨h2, rfl⟩
noncomputable def mf_isPicked_J31 (Q : Mq) (p1 : Int32) (l3 : Int32) (s0 : Int32) : Option ((Mq × Int32 × Int32) ⊕ (Mq × Int32 × Int32)) :=
  some (.inl (Q, s0, (l3 + 1)))
theorem ms_isPicked_J31 {X : Xq} {M : Zm} {Q : Mq} (h : mR X M Q) (p1 : Int32) (l3 : Int32) (s0 : Int32) : zG (mU (mP X) (mP X)) (zf_X12_isPicked_J31 M (some X.2.2.1) p1 l3 s0) (mf_isPicked_J31 Q p1 l3 s0) := by
  unfold zf_X12_isPicked_J31 mf_isPicked_J31
  exact zG_some (show mP X _ _ from ⟨h, rfl⟩)
noncomputable def mf_isPicked_J26 (Q : Mq) (p1 : Int32) (l3 : Int32) : Option ((Mq × Int32 × Int32) ⊕ (Mq × Int32 × Int32)) :=
  mf_isPicked_J31 Q p1 l3 (1 : Int32)
theorem ms_isPicked_J26 {X : Xq} {M : Zm} {Q : Mq} (h : mR X M Q) (p1 : Int32) (l3 : Int32) : zG (mU (mP X) (mP X)) (zf_X12_isPicked_J26 M (some X.2.2.1) p1 l3) (mf_isPicked_J26 Q p1 l3) := by
  unfold zf_X12_isPicked_J26 mf_isPicked_J26
  exact ms_isPicked_J31 h _ _ _
noncomputable def mf_isPicked_L4 (p1 : Int32) (x : Mq × Int32 × Int32) : Option ((Mq × Int32 × Int32) ⊕ (Mq × Int32 × Int32)) := match x with
  | (Q, l2, l3) =>
  (if (Q.1 33 0) ≤ l3 then
  some (.inr (Q, l2, l3))
  else
  (if l2 = 0 then
  zb1 (mo_ai Q 34 l3) (fun u1 =>
  (if u1 = p1 then
  mf_isPicked_J26 Q p1 l3
  else
  mf_isPicked_J31 Q p1 l3 (0 : Int32)))
  else
  mf_isPicked_J26 Q p1 l3))
theorem ms_isPicked_L4 {X : Xq} (p1 : Int32) : ∀ (x : Zm × Int32 × Int32) (y : Mq × Int32 × Int32), mP X x y → zG (mU (mP X) (mP X)) (zf_X12_isPicked_L4 (some X.2.2.1) p1 x) (mf_isPicked_L4 p1 y) := by
  rintro ⟨M, l2', l3'⟩ ⟨Q, l2, l3⟩ ⟨h, e⟩
  dsimp only at h e
  cases e
  unfold zf_X12_isPicked_L4 mf_isPicked_L4
  dsimp only
  refine zG_gi h rfl ?_
  refine zG_ite ?_ ?_
  · exact zG_some (show mP X _ _ from ⟨h, rfl⟩)
  · refine zG_ite ?_ ?_
    · refine zG_gr h (by decide) ?_
      refine zG_ai h rfl (fun u1 => ?_)
      refine zG_ite ?_ ?_
      · exact ms_isPicked_J26 h _ _
      · exact ms_isPicked_J31 h _ _ _
    · exact ms_isPicked_J26 h _ _
noncomputable def mf_isPicked (Q : Mq) (l1 : Int32) : Option (Mq × Int32) :=
  zb1 (zwhile (mf_isPicked_L4 l1) (Q, (0 : Int32), (0 : Int32))) (fun y7 => match y7 with
  | (Q1, u4, u5) =>
  zb1 (zo_b u4) (fun u6 =>
  some (Q1, u6)))
theorem ms_isPicked {X : Xq} {M : Zm} {Q : Mq} (h : mR X M Q) (l1 : Int32) : zG (mP X) (zf_X12_isPicked M (some X.2.2.1) l1) (mf_isPicked Q l1) := by
  unfold zf_X12_isPicked mf_isPicked
  refine zG_b1 (S := mP X) (zG_wh (R := mP X) (ms_isPicked_L4 _) ⟨h, rfl⟩) ?_
  rintro ⟨M3, u4', u5'⟩ ⟨Q1, u4, u5⟩ ⟨h2, eh2⟩
  dsimp only at h2 eh2
  cases eh2
  dsimp only
  refine zG_op (fun u6 => ?_)
  exact zG_some ⟨h2, rfl⟩
noncomputable def mf_mix_L3 (p1 : Int32) (p2 : Int64) (x : Mq × Int32) : Option ((Mq × Int32) ⊕ (Mq × Int32)) := match x with
  | (Q, l4) =>
  (if (Q.1 64 0) ≤ l4 then
  some (.inr (Q, l4))
  else
  zb1 (mo_ai Q 65 l4) (fun u1 =>
  (if p1 ≤ u1 then
  some (.inr (Q, l4))
  else
  some (.inl (Q, (l4 + 1))))))
theorem ms_mix_L3 {X : Xq} (p1 : Int32) (p2 : Int64) : ∀ (x : Zm × Int32) (y : Mq × Int32), mP X x y → zG (mU (mP X) (mP X)) (zf_X12_mix_L3 (some X.2.2.1) p1 p2 x) (mf_mix_L3 p1 p2 y) := by
  rintro ⟨M, l4'⟩ ⟨Q, l4⟩ ⟨h, e⟩
  dsimp only at h e
  cases e
  unfold zf_X12_mix_L3 mf_mix_L3
  dsimp only
  refine zG_gi h rfl ?_
  refine zG_ite ?_ ?_
  · exact zG_some (show mP X _ _ from ⟨h, rfl⟩)
  · refine zG_gr h (by decide) ?_
    refine zG_ai h rfl (fun u1 => ?_)
    refine zG_ite ?_ ?_
    · exact zG_some (show mP X _ _ from ⟨h, rfl⟩)
    · exact zG_some (show mP X _ _ from ⟨h, rfl⟩)
noncomputable def mf_mix_L72 (p1 : Int32) (p2 : Int64) (p4 : Int32) (x : Mq × Int32) : Option ((Mq × Int32) ⊕ (Mq × Int32)) := match x with
  | (Q, l5) =>
  (if l5 ≤ p4 then
  some (.inr (Q, l5))
  else
  zb1 (mo_ai Q 65 (l5 - (1 : Int32))) (fun u1 =>
  zb1 (mo_si Q 65 l5 u1) (fun Q2 =>
  zb1 (mo_aj Q2 66 (l5 - (1 : Int32))) (fun u5 =>
  zb1 (mo_sj Q2 66 l5 u5) (fun Q6 =>
  some (.inl (Q6, (l5 + (-1)))))))))
theorem ms_mix_L72 {X : Xq} (p1 : Int32) (p2 : Int64) (p4 : Int32) : ∀ (x : Zm × Int32) (y : Mq × Int32), mP X x y → zG (mU (mP X) (mP X)) (zf_X12_mix_L72 (some X.2.2.1) p1 p2 p4 x) (mf_mix_L72 p1 p2 p4 y) := by
  rintro ⟨M, l5'⟩ ⟨Q, l5⟩ ⟨h, e⟩
  dsimp only at h e
  cases e
  unfold zf_X12_mix_L72 mf_mix_L72
  dsimp only
  refine zG_ite ?_ ?_
  · exact zG_some (show mP X _ _ from ⟨h, rfl⟩)
  · refine zG_gr h (by decide) ?_
    refine zG_gr h (by decide) ?_
    refine zG_ai h rfl (fun u1 => ?_)
    refine zG_si h rfl (fun M4 Q2 h3 => ?_)
    refine zG_gr h3 (by decide) ?_
    refine zG_gr h3 (by decide) ?_
    refine zG_aj h3 rfl (fun u5 => ?_)
    refine zG_sj h3 rfl (fun M8 Q6 h7 => ?_)
    exact zG_some (show mP X _ _ from ⟨h7, rfl⟩)
noncomputable def mf_mix_J66 (Q : Mq) (l1 : Int32) (l2 : Int64) (l4 : Int32) : Option (Mq × Unit) :=
  zb1 (zwhile (mf_mix_L72 l1 l2 l4) (Q, (Q.1 64 0))) (fun y14 => match y14 with
  | (Q1, u4) =>
  zb1 (mo_si Q1 65 l4 l1) (fun Q5 =>
  zb1 (mo_sj Q5 66 l4 l2) (fun Q8 =>
  zb1 (some (qi Q8 64 0 ((Q8.1 64 0) + (1 : Int32)))) (fun Q11 =>
  some (Q11, ())))))
theorem ms_mix_J66 {X : Xq} {M : Zm} {Q : Mq} (h : mR X M Q) (l1 : Int32) (l2 : Int64) (l4 : Int32) : zG (mP X) (zf_X12_mix_J66 M (some X.2.2.1) l1 l2 l4) (mf_mix_J66 Q l1 l2 l4) := by
  unfold zf_X12_mix_J66 mf_mix_J66
  refine zG_gi h rfl ?_
  refine zG_b1 (S := mP X) (zG_wh (R := mP X) (ms_mix_L72 _ _ _) ⟨h, rfl⟩) ?_
  rintro ⟨M3, u4'⟩ ⟨Q1, u4⟩ ⟨h2, eh2⟩
  dsimp only at h2 eh2
  cases eh2
  dsimp only
  refine zG_gr h2 (by decide) ?_
  refine zG_si h2 rfl (fun M7 Q5 h6 => ?_)
  refine zG_gr h6 (by decide) ?_
  refine zG_sj h6 rfl (fun M10 Q8 h9 => ?_)
  refine zG_gi h9 rfl ?_
  refine zG_pi h9 rfl (by decide) (fun M13 Q11 h12 => ?_)
  exact zG_some ⟨h12, rfl⟩
noncomputable def mf_mix (Q : Mq) (l1 : Int32) (l2 : Int64) : Option (Mq × Unit) :=
  zb1 (zwhile (mf_mix_L3 l1 l2) (Q, (0 : Int32))) (fun y10 => match y10 with
  | (Q1, u4) =>
  (if (Q1.1 64 0) ≤ u4 then
  mf_mix_J66 Q1 l1 l2 u4
  else
  zb1 (mo_ai Q1 65 u4) (fun u5 =>
  (if u5 = l1 then
  zb1 (mo_aj Q1 66 u4) (fun u6 =>
  zb1 (mo_sj Q1 66 u4 (u6 + l2)) (fun Q7 =>
  some (Q7, ())))
  else
  mf_mix_J66 Q1 l1 l2 u4))))
theorem ms_mix {X : Xq} {M : Zm} {Q : Mq} (h : mR X M Q) (l1 : Int32) (l2 : Int64) : zG (mP X) (zf_X12_mix M (some X.2.2.1) l1 l2) (mf_mix Q l1 l2) := by
  unfold zf_X12_mix mf_mix
  refine zG_b1 (S := mP X) (zG_wh (R := mP X) (ms_mix_L3 _ _) ⟨h, rfl⟩) ?_
  rintro ⟨M3, u4'⟩ ⟨Q1, u4⟩ ⟨h2, eh2⟩
  dsimp only at h2 eh2
  cases eh2
  dsimp only
  refine zG_gi h2 rfl ?_
  refine zG_ite ?_ ?_
  · exact ms_mix_J66 h2 _ _ _
  · refine zG_gr h2 (by decide) ?_
    refine zG_ai h2 rfl (fun u5 => ?_)
    refine zG_ite ?_ ?_
    · refine zG_gr h2 (by decide) ?_
      refine zG_gr h2 (by decide) ?_
      refine zG_aj h2 rfl (fun u6 => ?_)
      refine zG_sj h2 rfl (fun M9 Q7 h8 => ?_)
      exact zG_some ⟨h8, rfl⟩
    · exact ms_mix_J66 h2 _ _ _
noncomputable def mf_shares_L13 (p1 : Int32) (p2 : Int64) (p4 : Int64) (x : Mq × Int64 × Int32) : Option ((Mq × Int64 × Int32) ⊕ (Mq × Int64 × Int32)) := match x with
  | (Q, l6, l8) =>
  zb1 (mo_ai Q 8 p1) (fun u1 =>
  (if u1 ≤ l8 then
  some (.inr (Q, l6, l8))
  else
  zb1 (mo_aj Q 10 (((60 : Int32) * p1) + l8)) (fun u2 =>
  zb1 (zo_ld (p2 * u2) p4) (fun u3 =>
  zb1 (mo_sj Q 63 l8 u3) (fun Q4 =>
  zb1 (mo_aj Q4 63 l8) (fun u7 =>
  some (.inl (Q4, (l6 - u7), (l8 + 1)))))))))
theorem ms_shares_L13 {X : Xq} (p1 : Int32) (p2 : Int64) (p4 : Int64) : ∀ (x : Zm × Int64 × Int32) (y : Mq × Int64 × Int32), mP X x y → zG (mU (mP X) (mP X)) (zf_X12_shares_L13 (some X.2.2.1) p1 p2 p4 x) (mf_shares_L13 p1 p2 p4 y) := by
  rintro ⟨M, l6', l8'⟩ ⟨Q, l6, l8⟩ ⟨h, e⟩
  dsimp only at h e
  cases e
  unfold zf_X12_shares_L13 mf_shares_L13
  dsimp only
  refine zG_gr h (by decide) ?_
  refine zG_ai h rfl (fun u1 => ?_)
  refine zG_ite ?_ ?_
  · exact zG_some (show mP X _ _ from ⟨h, rfl⟩)
  · refine zG_gr h (by decide) ?_
    refine zG_gr h (by decide) ?_
    refine zG_aj h rfl (fun u2 => ?_)
    refine zG_op (fun u3 => ?_)
    refine zG_sj h rfl (fun M6 Q4 h5 => ?_)
    refine zG_gr h5 (by decide) ?_
    refine zG_aj h5 rfl (fun u7 => ?_)
    exact zG_some (show mP X _ _ from ⟨h5, rfl⟩)
noncomputable def mf_shares_J134 (Q : Mq) (p1 : Int32) (p2 : Int64) (p4 : Int64) (l6 : Int64) (l8 : Int32) : Option ((Mq × Int64 × Int32) ⊕ (Mq × Int64 × Int32)) :=
  some (.inl (Q, l6, (l8 + 1)))
theorem ms_shares_J134 {X : Xq} {M : Zm} {Q : Mq} (h : mR X M Q) (p1 : Int32) (p2 : Int64) (p4 : Int64) (l6 : Int64) (l8 : Int32) : zG (mU (mP X) (mP X)) (zf_X12_shares_J134 M (some X.2.2.1) p1 p2 p4 l6 l8) (mf_shares_J134 Q p1 p2 p4 l6 l8) := by
  unfold zf_X12_shares_J134 mf_shares_J134
  exact zG_some (show mP X _ _ from ⟨h, rfl⟩)
noncomputable def mf_shares_L69 (p1 : Int32) (p2 : Int64) (p4 : Int64) (x : Mq × Int64 × Int32) : Option ((Mq × Int64 × Int32) ⊕ (Mq × Int64 × Int32)) := match x with
  | (Q, l6, l8) =>
  zb1 (mo_ai Q 8 p1) (fun u1 =>
  (if u1 ≤ l8 then
  some (.inr (Q, l6, l8))
  else
  (if l6 ≤ (0 : Int64) then
  some (.inr (Q, l6, l8))
  else
  zb1 (mo_aj Q 10 (((60 : Int32) * p1) + l8)) (fun u2 =>
  zb1 (zo_lm (p2 * u2) p4) (fun u3 =>
  (if u3 = (0 : Int64) then
  mf_shares_J134 Q p1 p2 p4 l6 l8
  else
  zb1 (mo_aj Q 63 l8) (fun u4 =>
  zb1 (mo_sj Q 63 l8 (u4 + (1 : Int64))) (fun Q5 =>
  mf_shares_J134 Q5 p1 p2 p4 (l6 - (1 : Int64)) l8))))))))
theorem ms_shares_L69 {X : Xq} (p1 : Int32) (p2 : Int64) (p4 : Int64) : ∀ (x : Zm × Int64 × Int32) (y : Mq × Int64 × Int32), mP X x y → zG (mU (mP X) (mP X)) (zf_X12_shares_L69 (some X.2.2.1) p1 p2 p4 x) (mf_shares_L69 p1 p2 p4 y) := by
  rintro ⟨M, l6', l8'⟩ ⟨Q, l6, l8⟩ ⟨h, e⟩
  dsimp only at h e
  cases e
  unfold zf_X12_shares_L69 mf_shares_L69
  dsimp only
  refine zG_gr h (by decide) ?_
  refine zG_ai h rfl (fun u1 => ?_)
  refine zG_ite ?_ ?_
  · exact zG_some (show mP X _ _ from ⟨h, rfl⟩)
  · refine zG_ite ?_ ?_
    · exact zG_some (show mP X _ _ from ⟨h, rfl⟩)
    · refine zG_gr h (by decide) ?_
      refine zG_aj h rfl (fun u2 => ?_)
      refine zG_op (fun u3 => ?_)
      refine zG_ite ?_ ?_
      · exact ms_shares_J134 h _ _ _ _ _
      · refine zG_gr h (by decide) ?_
        refine zG_gr h (by decide) ?_
        refine zG_aj h rfl (fun u4 => ?_)
        refine zG_sj h rfl (fun M7 Q5 h6 => ?_)
        exact ms_shares_J134 h6 _ _ _ _ _
noncomputable def mf_shares (Q : Mq) (l1 : Int32) (l2 : Int64) : Option (Mq × Unit) :=
  mbd (mf_inVessel Q l1) (fun Q1 u4 =>
  zb1 (zwhile (mf_shares_L13 l1 l2 u4) (Q1, l2, (0 : Int32))) (fun y16 => match y16 with
  | (Q5, u8, u9) =>
  zb1 (zwhile (mf_shares_L69 l1 l2 u4) (Q5, u8, (0 : Int32))) (fun y15 => match y15 with
  | (Q10, u13, u14) =>
  some (Q10, ()))))
theorem ms_shares {X : Xq} {M : Zm} {Q : Mq} (h : mR X M Q) (l1 : Int32) (l2 : Int64) : zG (mP X) (zf_X12_shares M (some X.2.2.1) l1 l2) (mf_shares Q l1 l2) := by
  unfold zf_X12_shares mf_shares
  refine zG_rc h ?_
  refine zG_bd (ms_inVessel h _) (fun M3 Q1 u4 h2 => ?_)
  refine zG_b1 (S := mP X) (zG_wh (R := mP X) (ms_shares_L13 _ _ _) ⟨h2, rfl⟩) ?_
  rintro ⟨M7, u8', u9'⟩ ⟨Q5, u8, u9⟩ ⟨h6, eh6⟩
  dsimp only at h6 eh6
  cases eh6
  dsimp only
  refine zG_b1 (S := mP X) (zG_wh (R := mP X) (ms_shares_L69 _ _ _) ⟨h6, rfl⟩) ?_
  rintro ⟨M12, u13', u14'⟩ ⟨Q10, u13, u14⟩ ⟨h11, eh11⟩
  dsimp only at h11 eh11
  cases eh11
  dsimp only
  exact zG_some ⟨h11, rfl⟩
noncomputable def mf_mixDraws_J72 (Q : Mq) (p1 : Int32) (p2 : Int32) (l3 : Int32) : Option ((Mq × Int32) ⊕ (Mq × Int32)) :=
  some (.inl (Q, (l3 + 1)))
theorem ms_mixDraws_J72 {X : Xq} {M : Zm} {Q : Mq} (h : mR X M Q) (p1 : Int32) (p2 : Int32) (l3 : Int32) : zG (mU (mP X) (mP X)) (zf_X12_mixDraws_J72 M (some X.2.2.1) p1 p2 l3) (mf_mixDraws_J72 Q p1 p2 l3) := by
  unfold zf_X12_mixDraws_J72 mf_mixDraws_J72
  exact zG_some (show mP X _ _ from ⟨h, rfl⟩)
noncomputable def mf_mixDraws_L30 (p1 : Int32) (p2 : Int32) (x : Mq × Int32) : Option ((Mq × Int32) ⊕ (Mq × Int32)) := match x with
  | (Q, l3) =>
  zb1 (mo_ai Q 8 p2) (fun u1 =>
  (if u1 ≤ l3 then
  some (.inr (Q, l3))
  else
  zb1 (mo_aj Q 63 l3) (fun u2 =>
  (if u2 ≤ (0 : Int64) then
  mf_mixDraws_J72 Q p1 p2 l3
  else
  zb1 (mo_ai Q 9 (((60 : Int32) * p2) + l3)) (fun u3 =>
  zb1 (mo_aj Q 63 l3) (fun u4 =>
  mbd (mf_mix Q u3 u4) (fun Q5 _ =>
  mf_mixDraws_J72 Q5 p1 p2 l3)))))))
theorem ms_mixDraws_L30 {X : Xq} (p1 : Int32) (p2 : Int32) : ∀ (x : Zm × Int32) (y : Mq × Int32), mP X x y → zG (mU (mP X) (mP X)) (zf_X12_mixDraws_L30 (some X.2.2.1) p1 p2 x) (mf_mixDraws_L30 p1 p2 y) := by
  rintro ⟨M, l3'⟩ ⟨Q, l3⟩ ⟨h, e⟩
  dsimp only at h e
  cases e
  unfold zf_X12_mixDraws_L30 mf_mixDraws_L30
  dsimp only
  refine zG_gr h (by decide) ?_
  refine zG_ai h rfl (fun u1 => ?_)
  refine zG_ite ?_ ?_
  · exact zG_some (show mP X _ _ from ⟨h, rfl⟩)
  · refine zG_gr h (by decide) ?_
    refine zG_aj h rfl (fun u2 => ?_)
    refine zG_ite ?_ ?_
    · exact ms_mixDraws_J72 h _ _ _
    · refine zG_gr h (by decide) ?_
      refine zG_ai h rfl (fun u3 => ?_)
      refine zG_gr h (by decide) ?_
      refine zG_aj h rfl (fun u4 => ?_)
      refine zG_rc h ?_
      refine zG_bd (ms_mix h _ _) (fun M7 Q5 _ h6 => ?_)
      exact ms_mixDraws_J72 h6 _ _ _
noncomputable def mf_mixDraws_L2 (x : Mq × Int32) : Option ((Mq × Int32) ⊕ (Mq × Int32)) := match x with
  | (Q, l1) =>
  (if (Q.1 60 0) ≤ l1 then
  some (.inr (Q, l1))
  else
  zb1 (mo_ai Q 61 l1) (fun u1 =>
  zb1 (mo_aj Q 62 l1) (fun u2 =>
  mbd (mf_shares Q u1 u2) (fun Q3 _ =>
  zb1 (zwhile (mf_mixDraws_L30 l1 u1) (Q3, (0 : Int32))) (fun y10 => match y10 with
  | (Q6, u9) =>
  some (.inl (Q6, (l1 + 1))))))))
theorem ms_mixDraws_L2 {X : Xq}  : ∀ (x : Zm × Int32) (y : Mq × Int32), mP X x y → zG (mU (mP X) (mP X)) (zf_X12_mixDraws_L2 (some X.2.2.1) x) (mf_mixDraws_L2  y) := by
  rintro ⟨M, l1'⟩ ⟨Q, l1⟩ ⟨h, e⟩
  dsimp only at h e
  cases e
  unfold zf_X12_mixDraws_L2 mf_mixDraws_L2
  dsimp only
  refine zG_gi h rfl ?_
  refine zG_ite ?_ ?_
  · exact zG_some (show mP X _ _ from ⟨h, rfl⟩)
  · refine zG_gr h (by decide) ?_
    refine zG_ai h rfl (fun u1 => ?_)
    refine zG_gr h (by decide) ?_
    refine zG_aj h rfl (fun u2 => ?_)
    refine zG_rc h ?_
    refine zG_bd (ms_shares h _ _) (fun M5 Q3 _ h4 => ?_)
    refine zG_b1 (S := mP X) (zG_wh (R := mP X) (ms_mixDraws_L30 _ _) ⟨h4, rfl⟩) ?_
    rintro ⟨M8, u9'⟩ ⟨Q6, u9⟩ ⟨h7, eh7⟩
    dsimp only at h7 eh7
    cases eh7
    dsimp only
    exact zG_some (show mP X _ _ from ⟨h7, rfl⟩)
noncomputable def mf_mixDraws (Q : Mq) : Option (Mq × Unit) :=
  zb1 (zwhile (mf_mixDraws_L2 ) (Q, (0 : Int32))) (fun y5 => match y5 with
  | (Q1, u4) =>
  some (Q1, ()))
theorem ms_mixDraws {X : Xq} {M : Zm} {Q : Mq} (h : mR X M Q)  : zG (mP X) (zf_X12_mixDraws M (some X.2.2.1)) (mf_mixDraws Q) := by
  unfold zf_X12_mixDraws mf_mixDraws
  refine zG_b1 (S := mP X) (zG_wh (R := mP X) (ms_mixDraws_L2 ) ⟨h, rfl⟩) ?_
  rintro ⟨M3, u4'⟩ ⟨Q1, u4⟩ ⟨h2, eh2⟩
  dsimp only at h2 eh2
  cases eh2
  dsimp only
  exact zG_some ⟨h2, rfl⟩
noncomputable def mf_mixInto_L7 (p1 : Int32) (x : Mq × Int32) : Option ((Mq × Int32) ⊕ (Mq × Int32)) := match x with
  | (Q, l2) =>
  zb1 (mo_ai Q 8 p1) (fun u1 =>
  (if u1 ≤ l2 then
  some (.inr (Q, l2))
  else
  zb1 (mo_ai Q 9 (((60 : Int32) * p1) + l2)) (fun u2 =>
  zb1 (mo_aj Q 10 (((60 : Int32) * p1) + l2)) (fun u3 =>
  mbd (mf_mix Q u2 u3) (fun Q4 _ =>
  some (.inl (Q4, (l2 + 1))))))))
theorem ms_mixInto_L7 {X : Xq} (p1 : Int32) : ∀ (x : Zm × Int32) (y : Mq × Int32), mP X x y → zG (mU (mP X) (mP X)) (zf_X12_mixInto_L7 (some X.2.2.1) p1 x) (mf_mixInto_L7 p1 y) := by
  rintro ⟨M, l2'⟩ ⟨Q, l2⟩ ⟨h, e⟩
  dsimp only at h e
  cases e
  unfold zf_X12_mixInto_L7 mf_mixInto_L7
  dsimp only
  refine zG_gr h (by decide) ?_
  refine zG_ai h rfl (fun u1 => ?_)
  refine zG_ite ?_ ?_
  · exact zG_some (show mP X _ _ from ⟨h, rfl⟩)
  · refine zG_gr h (by decide) ?_
    refine zG_ai h rfl (fun u2 => ?_)
    refine zG_gr h (by decide) ?_
    refine zG_aj h rfl (fun u3 => ?_)
    refine zG_rc h ?_
    refine zG_bd (ms_mix h _ _) (fun M6 Q4 _ h5 => ?_)
    exact zG_some (show mP X _ _ from ⟨h5, rfl⟩)
noncomputable def mf_mixInto (Q : Mq) (l1 : Int32) : Option (Mq × Int32) :=
  zb1 (some (qi Q 64 0 (0 : Int32))) (fun Q1 =>
  zb1 (zwhile (mf_mixInto_L7 l1) (Q1, (0 : Int32))) (fun y13 => match y13 with
  | (Q4, u7) =>
  mbd (mf_mixDraws Q4) (fun Q8 _ =>
  (if (60 : Int32) < (Q8.1 64 0) then
  zb1 (zo_b (0 : Int32)) (fun u11 =>
  some (Q8, u11))
  else
  zb1 (zo_b (1 : Int32)) (fun u12 =>
  some (Q8, u12))))))
theorem ms_mixInto {X : Xq} {M : Zm} {Q : Mq} (h : mR X M Q) (l1 : Int32) : zG (mP X) (zf_X12_mixInto M (some X.2.2.1) l1) (mf_mixInto Q l1) := by
  unfold zf_X12_mixInto mf_mixInto
  refine zG_pi h rfl (by decide) (fun M3 Q1 h2 => ?_)
  refine zG_b1 (S := mP X) (zG_wh (R := mP X) (ms_mixInto_L7 _) ⟨h2, rfl⟩) ?_
  rintro ⟨M6, u7'⟩ ⟨Q4, u7⟩ ⟨h5, eh5⟩
  dsimp only at h5 eh5
  cases eh5
  dsimp only
  refine zG_rc h5 ?_
  refine zG_bd (ms_mixDraws h5) (fun M10 Q8 _ h9 => ?_)
  refine zG_gi h9 rfl ?_
  refine zG_ite ?_ ?_
  · refine zG_op (fun u11 => ?_)
    exact zG_some ⟨h9, rfl⟩
  · refine zG_op (fun u12 => ?_)
    exact zG_some ⟨h9, rfl⟩
noncomputable def mf_mostOfVessel_J20 (Q : Mq) (l1 : Int32) : Option (Mq × Int64) :=
  mbd (mf_ran Q (1 : Int32)) (fun Q1 _ =>
  zb1 (mo_ai Q1 3 l1) (fun u4 =>
  some (Q1, (u4.toInt64))))
theorem ms_mostOfVessel_J20 {X : Xq} {M : Zm} {Q : Mq} (h : mR X M Q) (l1 : Int32) : zG (mP X) (zf_X12_mostOfVessel_J20 M (some X.2.2.1) l1) (mf_mostOfVessel_J20 Q l1) := by
  unfold zf_X12_mostOfVessel_J20 mf_mostOfVessel_J20
  refine zG_rc h ?_
  refine zG_bd (ms_ran h _) (fun M3 Q1 _ h2 => ?_)
  refine zG_gr h2 (by decide) ?_
  refine zG_ai h2 rfl (fun u4 => ?_)
  exact zG_some ⟨h2, rfl⟩
noncomputable def mf_mostOfVessel_J48 (Q : Mq) (l1 : Int32) : Option (Mq × Int64) :=
  mbd (mf_ran Q (2 : Int32)) (fun Q1 _ =>
  zb1 (mo_ai Q1 3 l1) (fun u4 =>
  zb1 (mo_ai Q1 3 l1) (fun u5 =>
  zb1 (zo_id u5 (50 : Int32)) (fun u6 =>
  zb1 (mo_ai Q1 2 l1) (fun u7 =>
  (if u7 = (4 : Int32) then
  mbd (mf_atLeast0 Q1 ((((u4 - u6)).toInt64) - (10 : Int64))) (fun Q8 u11 =>
  some (Q8, u11))
  else
  some (Q1, (((u4 - u6)).toInt64))))))))
theorem ms_mostOfVessel_J48 {X : Xq} {M : Zm} {Q : Mq} (h : mR X M Q) (l1 : Int32) : zG (mP X) (zf_X12_mostOfVessel_J48 M (some X.2.2.1) l1) (mf_mostOfVessel_J48 Q l1) := by
  unfold zf_X12_mostOfVessel_J48 mf_mostOfVessel_J48
  refine zG_rc h ?_
  refine zG_bd (ms_ran h _) (fun M3 Q1 _ h2 => ?_)
  refine zG_gr h2 (by decide) ?_
  refine zG_ai h2 rfl (fun u4 => ?_)
  refine zG_gr h2 (by decide) ?_
  refine zG_ai h2 rfl (fun u5 => ?_)
  refine zG_op (fun u6 => ?_)
  refine zG_gr h2 (by decide) ?_
  refine zG_ai h2 rfl (fun u7 => ?_)
  refine zG_ite ?_ ?_
  · refine zG_bd (ms_atLeast0 h2 _) (fun M10 Q8 u11 h9 => ?_)
    exact zG_some ⟨h9, rfl⟩
  · exact zG_some ⟨h2, rfl⟩
noncomputable def mf_mostOfVessel (Q : Mq) (l1 : Int32) : Option (Mq × Int64) :=
  zb1 (mo_ai Q 2 l1) (fun u1 =>
  (if u1 = (1 : Int32) then
  mf_mostOfVessel_J20 Q l1
  else
  zb1 (mo_ai Q 2 l1) (fun u2 =>
  (if u2 = (2 : Int32) then
  mf_mostOfVessel_J20 Q l1
  else
  zb1 (mo_ai Q 2 l1) (fun u3 =>
  (if u3 = (4 : Int32) then
  mbd (mf_ran Q (3 : Int32)) (fun Q4 _ =>
  mf_mostOfVessel_J48 Q4 l1)
  else
  mf_mostOfVessel_J48 Q l1))))))
theorem ms_mostOfVessel {X : Xq} {M : Zm} {Q : Mq} (h : mR X M Q) (l1 : Int32) : zG (mP X) (zf_X12_mostOfVessel M (some X.2.2.1) l1) (mf_mostOfVessel Q l1) := by
  unfold zf_X12_mostOfVessel mf_mostOfVessel
  refine zG_gr h (by decide) ?_
  refine zG_ai h rfl (fun u1 => ?_)
  refine zG_ite ?_ ?_
  · exact ms_mostOfVessel_J20 h _
  · refine zG_gr h (by decide) ?_
    refine zG_ai h rfl (fun u2 => ?_)
    refine zG_ite ?_ ?_
    · exact ms_mostOfVessel_J20 h _
    · refine zG_gr h (by decide) ?_
      refine zG_ai h rfl (fun u3 => ?_)
      refine zG_ite ?_ ?_
      · refine zG_rc h ?_
        refine zG_bd (ms_ran h _) (fun M6 Q4 _ h5 => ?_)
        exact ms_mostOfVessel_J48 h5 _
      · exact ms_mostOfVessel_J48 h _
noncomputable def mf_most_L26 (p1 : Int32) (x : Mq × Int64 × Int32) : Option ((Mq × Int64 × Int32) ⊕ (Mq × Int64 × Int32)) := match x with
  | (Q, l2, l4) =>
  zb1 (mo_ai Q 6 p1) (fun u1 =>
  (if u1 ≤ l4 then
  some (.inr (Q, l2, l4))
  else
  zb1 (mo_ai Q 7 (((4 : Int32) * p1) + l4)) (fun u2 =>
  mbd (mf_mostOfVessel Q u2) (fun Q3 u6 =>
  some (.inl (Q3, (l2 + u6), (l4 + 1)))))))
theorem ms_most_L26 {X : Xq} (p1 : Int32) : ∀ (x : Zm × Int64 × Int32) (y : Mq × Int64 × Int32), mP X x y → zG (mU (mP X) (mP X)) (zf_X12_most_L26 (some X.2.2.1) p1 x) (mf_most_L26 p1 y) := by
  rintro ⟨M, l2', l4'⟩ ⟨Q, l2, l4⟩ ⟨h, e⟩
  dsimp only at h e
  cases e
  unfold zf_X12_most_L26 mf_most_L26
  dsimp only
  refine zG_gr h (by decide) ?_
  refine zG_ai h rfl (fun u1 => ?_)
  refine zG_ite ?_ ?_
  · exact zG_some (show mP X _ _ from ⟨h, rfl⟩)
  · refine zG_gr h (by decide) ?_
    refine zG_ai h rfl (fun u2 => ?_)
    refine zG_rc h ?_
    refine zG_bd (ms_mostOfVessel h _) (fun M5 Q3 u6 h4 => ?_)
    exact zG_some (show mP X _ _ from ⟨h4, rfl⟩)
noncomputable def mf_most (Q : Mq) (l1 : Int32) : Option (Mq × Int64) :=
  zb1 (mo_ai Q 2 l1) (fun u1 =>
  (if u1 = (5 : Int32) then
  mbd (mf_ran Q (4 : Int32)) (fun Q2 _ =>
  zb1 (zwhile (mf_most_L26 l1) (Q2, (0 : Int64), (0 : Int32))) (fun y10 => match y10 with
  | (Q5, u8, u9) =>
  some (Q5, u8)))
  else
  mbd (mf_mostOfVessel Q l1) (fun Q11 u14 =>
  some (Q11, u14))))
theorem ms_most {X : Xq} {M : Zm} {Q : Mq} (h : mR X M Q) (l1 : Int32) : zG (mP X) (zf_X12_most M (some X.2.2.1) l1) (mf_most Q l1) := by
  unfold zf_X12_most mf_most
  refine zG_gr h (by decide) ?_
  refine zG_ai h rfl (fun u1 => ?_)
  refine zG_ite ?_ ?_
  · refine zG_rc h ?_
    refine zG_bd (ms_ran h _) (fun M4 Q2 _ h3 => ?_)
    refine zG_b1 (S := mP X) (zG_wh (R := mP X) (ms_most_L26 _) ⟨h3, rfl⟩) ?_
    rintro ⟨M7, u8', u9'⟩ ⟨Q5, u8, u9⟩ ⟨h6, eh6⟩
    dsimp only at h6 eh6
    cases eh6
    dsimp only
    exact zG_some ⟨h6, rfl⟩
  · refine zG_rc h ?_
    refine zG_bd (ms_mostOfVessel h _) (fun M13 Q11 u14 h12 => ?_)
    exact zG_some ⟨h12, rfl⟩
noncomputable def mf_spare_L28 (p1 : Int32) (x : Mq × Int64 × Int32) : Option ((Mq × Int64 × Int32) ⊕ (Mq × Int64 × Int32)) := match x with
  | (Q, l2, l4) =>
  zb1 (mo_ai Q 6 p1) (fun u1 =>
  (if u1 ≤ l4 then
  some (.inr (Q, l2, l4))
  else
  zb1 (mo_ai Q 7 (((4 : Int32) * p1) + l4)) (fun u2 =>
  mbd (mf_spareOfVessel Q u2 (1 : Int32)) (fun Q3 u6 =>
  some (.inl (Q3, (l2 + u6), (l4 + 1)))))))
theorem ms_spare_L28 {X : Xq} (p1 : Int32) : ∀ (x : Zm × Int64 × Int32) (y : Mq × Int64 × Int32), mP X x y → zG (mU (mP X) (mP X)) (zf_X12_spare_L28 (some X.2.2.1) p1 x) (mf_spare_L28 p1 y) := by
  rintro ⟨M, l2', l4'⟩ ⟨Q, l2, l4⟩ ⟨h, e⟩
  dsimp only at h e
  cases e
  unfold zf_X12_spare_L28 mf_spare_L28
  dsimp only
  refine zG_gr h (by decide) ?_
  refine zG_ai h rfl (fun u1 => ?_)
  refine zG_ite ?_ ?_
  · exact zG_some (show mP X _ _ from ⟨h, rfl⟩)
  · refine zG_gr h (by decide) ?_
    refine zG_ai h rfl (fun u2 => ?_)
    refine zG_rc h ?_
    refine zG_bd (ms_spareOfVessel h _ _) (fun M5 Q3 u6 h4 => ?_)
    exact zG_some (show mP X _ _ from ⟨h4, rfl⟩)
noncomputable def mf_spare (Q : Mq) (l1 : Int32) : Option (Mq × Int64) :=
  zb1 (mo_ai Q 2 l1) (fun u1 =>
  (if u1 = (5 : Int32) then
  mbd (mf_ran Q (8 : Int32)) (fun Q2 _ =>
  zb1 (zwhile (mf_spare_L28 l1) (Q2, (0 : Int64), (0 : Int32))) (fun y10 => match y10 with
  | (Q5, u8, u9) =>
  some (Q5, u8)))
  else
  mbd (mf_spareOfVessel Q l1 (1 : Int32)) (fun Q11 u14 =>
  some (Q11, u14))))
theorem ms_spare {X : Xq} {M : Zm} {Q : Mq} (h : mR X M Q) (l1 : Int32) : zG (mP X) (zf_X12_spare M (some X.2.2.1) l1) (mf_spare Q l1) := by
  unfold zf_X12_spare mf_spare
  refine zG_gr h (by decide) ?_
  refine zG_ai h rfl (fun u1 => ?_)
  refine zG_ite ?_ ?_
  · refine zG_rc h ?_
    refine zG_bd (ms_ran h _) (fun M4 Q2 _ h3 => ?_)
    refine zG_b1 (S := mP X) (zG_wh (R := mP X) (ms_spare_L28 _) ⟨h3, rfl⟩) ?_
    rintro ⟨M7, u8', u9'⟩ ⟨Q5, u8, u9⟩ ⟨h6, eh6⟩
    dsimp only at h6 eh6
    cases eh6
    dsimp only
    exact zG_some ⟨h6, rfl⟩
  · refine zG_rc h ?_
    refine zG_bd (ms_spareOfVessel h _ _) (fun M13 Q11 u14 h12 => ?_)
    exact zG_some ⟨h12, rfl⟩
noncomputable def mf_take_J121 (Q : Mq) (p1 : Int32) (p4 : Int32) (l5 : Int32) (p6 : Int32) (l7 : Int32) : Option ((Mq × Int32 × Int32) ⊕ (Mq × Int32 × Int32)) :=
  some (.inl (Q, l5, (l7 + 1)))
theorem ms_take_J121 {X : Xq} {M : Zm} {Q : Mq} (h : mR X M Q) (p1 : Int32) (p4 : Int32) (l5 : Int32) (p6 : Int32) (l7 : Int32) : zG (mU (mP X) (mP X)) (zf_X12_take_J121 M (some X.2.2.1) p1 p4 l5 p6 l7) (mf_take_J121 Q p1 p4 l5 p6 l7) := by
  unfold zf_X12_take_J121 mf_take_J121
  exact zG_some (show mP X _ _ from ⟨h, rfl⟩)
noncomputable def mf_take_J70 (Q : Mq) (p1 : Int32) (p4 : Int32) (l5 : Int32) (p6 : Int32) (l7 : Int32) (l8 : Int32) (l9 : Int32) : Option ((Mq × Int32 × Int32) ⊕ (Mq × Int32 × Int32)) :=
  zb1 (mo_ai Q 9 l8) (fun u1 =>
  zb1 (mo_si Q 9 l9 u1) (fun Q2 =>
  zb1 (mo_aj Q2 10 l8) (fun u5 =>
  zb1 (mo_aj Q2 63 l7) (fun u6 =>
  zb1 (mo_sj Q2 10 l9 (u5 - u6)) (fun Q7 =>
  zb1 (mo_aj Q7 10 l9) (fun u10 =>
  (if u10 ≤ (0 : Int64) then
  mf_take_J121 Q7 p1 p4 l5 p6 l7
  else
  mf_take_J121 Q7 p1 p4 (l5 + 1) p6 l7)))))))
theorem ms_take_J70 {X : Xq} {M : Zm} {Q : Mq} (h : mR X M Q) (p1 : Int32) (p4 : Int32) (l5 : Int32) (p6 : Int32) (l7 : Int32) (l8 : Int32) (l9 : Int32) : zG (mU (mP X) (mP X)) (zf_X12_take_J70 M (some X.2.2.1) p1 p4 l5 p6 l7 l8 l9) (mf_take_J70 Q p1 p4 l5 p6 l7 l8 l9) := by
  unfold zf_X12_take_J70 mf_take_J70
  refine zG_gr h (by decide) ?_
  refine zG_gr h (by decide) ?_
  refine zG_ai h rfl (fun u1 => ?_)
  refine zG_si h rfl (fun M4 Q2 h3 => ?_)
  refine zG_gr h3 (by decide) ?_
  refine zG_gr h3 (by decide) ?_
  refine zG_aj h3 rfl (fun u5 => ?_)
  refine zG_gr h3 (by decide) ?_
  refine zG_aj h3 rfl (fun u6 => ?_)
  refine zG_sj h3 rfl (fun M9 Q7 h8 => ?_)
  refine zG_gr h8 (by decide) ?_
  refine zG_aj h8 rfl (fun u10 => ?_)
  refine zG_ite ?_ ?_
  · exact ms_take_J121 h8 _ _ _ _ _
  · exact ms_take_J121 h8 _ _ _ _ _
