/-! The reference's acts: worth, pick, forget, row. -/
def kok (x X : Bv) : Prop := X.1 = x.1 ∧ X.2.2.1 = x.2.1 ∧ X.2.2.2.take x.2.1.2.2.1 = bms x
theorem sres_ok {bs bs' : Nat → Bv} {bc : List Nat} {b : Nat} (h1 : b ∈ bc → kok (bs b) (bs' b)) (h2 : b ∉ bc → (bs' b).1 = (bs b).1 ∧ (bs' b).2.1 = (bs b).2.1 ∧ bms (bs' b) = bms (bs b)) : (sres bs' bc b).1 = (bs b).1 ∧ (sres bs' bc b).2.1 = (bs b).2.1 ∧ bms (sres bs' bc b) = bms (bs b) := by
  unfold sres
  by_cases hb : b ∈ bc
  · rw [if_pos hb]
    obtain ⟨e1, e2, e3⟩ := h1 hb
    refine ⟨e1, e2, ?_⟩
    show (bs' b).2.2.2.take (bs' b).2.2.1.2.2.1 = _
    rw [e2]; exact e3
  · rw [if_neg hb]; exact h2 hb
theorem sres1 {bs : Nat → Bv} {n : Nat} {X : Bv} (hX : kok (bs n) X) (b : Nat) : (sres (bup bs n X) [n] b).1 = (bs b).1 ∧ (sres (bup bs n X) [n] b).2.1 = (bs b).2.1 ∧ bms (sres (bup bs n X) [n] b) = bms (bs b) := by
  refine sres_ok (fun hb => ?_) (fun hb => ?_)
  · rw [List.mem_singleton] at hb
    rw [hb, bup_self]; exact hX
  · rw [bup_ne bs X (fun e => hb (List.mem_singleton.mpr e))]
    exact ⟨rfl, rfl, rfl⟩
theorem Ira_sres {nb : Nat} {bs : Nat → Bv} {bc : List Nat} (h : Ira nb bs) : Ira nb (sres bs bc) := by
  intro b hb m hm
  unfold sres at hm
  split at hm
  · exact h b hb m hm
  · exact h b hb m hm
theorem mSn.ceq {Q : Mq} {kc : List Int32} {nb nb' : Nat} {bs bs' : Nat → Bv} {ro ro' : Nat → Rw} {ac ac' : Nat → Wn} {mo mo' : Int32} {jl bl jl' bl' : Nat} (h : mSn Q kc nb bs ro ac mo jl bl) (U : Ceq nb bs ro ac nb' bs' ro' ac') (e5 : mo' = mo) (e6 : jl' = jl) (e7 : bl' = bl) : mSn Q kc nb' bs' ro' ac' mo' jl' bl' := h.cong U.1 (fun b hb => (U.2.1 b hb).2) U.2.2.1 U.2.2.2 e5 e6 e7
theorem K_keep {nb : Nat} {bs : Nat → Bv} {ro : Nat → Rw} {lb : List Lb} {ps : List (Nat × Int64)} {ac : Nat → Wn} {jr bo : List Ln} {mo : Int32} {gi : Int64} {tr tp wy wh : Int32} {tc : List Int32} {st : List Int64} {ds : List (Nat × Int64)} {dw : Wn} {bf : Nat → Int32} {ba : Wn} {bc : List Nat} {Q : Mq} {kc : List Int32} (h : R0 (nb, bs, ro, lb, ps, ac, jr, bo, mo, gi, tr, tp, wy, wh, tc, st, ds, dw, bf, ba, bc) Q kc) (hI : Ic nb bs ro ac) : zev (mf_keep Q) (fun y => mSn y.1 kc nb bs ro ac mo jr.length bo.length ∧ y.1.1 43 0 = 1 ∧ qfr Q y.1 [43, 44, 45, 46, 47, 48, 49, 50, 51, 52, 53, 54, 55, 56, 57, 58, 59]) := by
  obtain ⟨rB, rR, rK, rA, rC, rJ, rO, rG, rM, rL, rP, rN, rT, rW, rX, rF, rS⟩ := h
  exact m_keep rB rR rK rA rC hI.1 hI.i60 hI.ml rM rJ.1 rO.1
theorem bfB_1 {bf : Nat → Int32} {nb : Nat} {mo : Int32} {jl bl : Nat} (h : nb < 2 ^ 31) : (bfB bf nb mo jl bl 1).toNatClampNeg = nb := nI_clamp h
theorem bfB_3 {bf : Nat → Int32} {nb : Nat} {mo : Int32} {jl bl : Nat} (h : jl < 2 ^ 31) : (bfB bf nb mo jl bl 3).toNatClampNeg = jl := nI_clamp h
theorem bfB_4 {bf : Nat → Int32} {nb : Nat} {mo : Int32} {jl bl : Nat} (h : bl < 2 ^ 31) : (bfB bf nb mo jl bl 4).toNatClampNeg = bl := nI_clamp h
/-- one number of a barrel is another -/
theorem mBs.w4 {Q : Mq} {nb n : Nat} {bs : Nat → Bv} {v : Int32} (h : mBs Q nb bs) : mBs (qi Q 4 n v) nb (bup bs n (bcts (bkeep (bs n)) v)) := by
  have f : qfr Q (qi Q 4 n v) [4] := qfr.qi (by decide)
  refine ⟨by rw [f.i 1 (by decide)]; exact h.1, fun b hb => ?_⟩
  obtain ⟨p1, p2, p3, p4, p5, p6, p7, p8⟩ := h.2 b hb
  rw [f.i 2 (by decide), f.i 3 (by decide)]
  unfold mV
  rw [f.i 5 (by decide), f.i 6 (by decide), f.i 7 (by decide), f.i 8 (by decide), f.i 9 (by decide), f.j 10 (by decide), qi_1]
  by_cases e : b = n
  · subst e
    rw [bup_self, if_pos ⟨rfl, rfl⟩]
    exact ⟨p1, p2, rfl, p4, p5, p6, p7, p8⟩
  · rw [bup_ne _ _ e, if_neg (fun z => e z.2)]
    exact ⟨p1, p2, p3, p4, p5, p6, p7, p8⟩
theorem mBs.w5 {Q : Mq} {nb n : Nat} {bs : Nat → Bv} {v : Int32} (h : mBs Q nb bs) : mBs (qi Q 5 n v) nb (bup bs n (bplc (bkeep (bs n)) v)) := by
  have f : qfr Q (qi Q 5 n v) [5] := qfr.qi (by decide)
  refine ⟨by rw [f.i 1 (by decide)]; exact h.1, fun b hb => ?_⟩
  obtain ⟨p1, p2, p3, p4, p5, p6, p7, p8⟩ := h.2 b hb
  rw [f.i 2 (by decide), f.i 3 (by decide)]
  unfold mV
  rw [f.i 4 (by decide), f.i 6 (by decide), f.i 7 (by decide), f.i 8 (by decide), f.i 9 (by decide), f.j 10 (by decide), qi_1]
  by_cases e : b = n
  · subst e
    rw [bup_self, if_pos ⟨rfl, rfl⟩]
    exact ⟨p1, p2, p3, rfl, p5, p6, p7, p8⟩
  · rw [bup_ne _ _ e, if_neg (fun z => e z.2)]
    exact ⟨p1, p2, p3, p4, p5, p6, p7, p8⟩
theorem i64_nn {v : Int32} (h : 0 ≤ v.toInt) : 0 ≤ v.toInt64 := by
  rw [Int64.le_iff_toInt_le, Int32.toInt_toInt64]; exact h
theorem i32_lt {a b : Int32} : a < b ↔ a.toInt < b.toInt := Int32.lt_iff_toInt_lt
theorem UokB {nb : Nat} {ro : Nat → Rw} {bf : Nat → Int32} {mo : Int32} {jl bl : Nat} {bc : List Nat} (hj : jl < 2 ^ 31) (hl : bl < 2 ^ 31) (hc : ∀ c, c ∈ bc → c < nb) : Uok nb ro (bfB bf nb mo jl bl) bc := ⟨⟨nb, Nat.le_refl _, rfl⟩, ⟨jl, hj, rfl⟩, ⟨bl, hl, rfl⟩, Or.inl rfl, Or.inl rfl, hc⟩
theorem U_worth {nb n : Nat} {bs : Nat → Bv} {ro : Nat → Rw} {ac : Nat → Wn} {bf : Nat → Int32} {mo ct : Int32} {jl bl : Nat} {ba : Wn} (hn : nb ≤ 1000) : Ceq nb bs ro ac (bfB bf nb mo jl bl 1).toNatClampNeg (sres (bup bs n (bcts (bkeep (bs n)) ct)) [n]) (sresR ro (bfB bf nb mo jl bl)) (sresA ac (bfB bf nb mo jl bl) ba) := ⟨bfB_1 (by omega), fun b _ => sres1 (X := bcts (bkeep (bs n)) ct) ⟨rfl, rfl, rfl⟩ b, fun _ _ => rfl, fun _ _ => rfl⟩
theorem N_worth {c : Cs} {Q : Mq} {kc : List Int32} {t : Nat} (hJ : Jc t c) (ht : t ≤ 600) (h : R0 c Q kc) (b ct : Int32) : zev (mf_worth Q b ct) (Post (sWorth b ct (sOpen c))) ∧ Jc (t + 1) (sWorth b ct (sOpen c)).2 := by
  obtain ⟨nb, bs, ro, lb, ps, ac, jr, bo, mo, gi, tr, tp, wy, wh, tc, st, ds, dw, bf, ba, bc⟩ := c
  have hJ' := (hJ.mono (Nat.le_succ t)).opn
  obtain ⟨jI, jR, jP, jJ, jB, jG, jF, jU⟩ := hJ
  have hN := jI.1
  have h1 := h.opn
  have q39 : (qi (qi (qi Q 38 0 (Q.1 38 0 + 1)) 41 0 0) 39 0 0).1 39 0 = 0 := rfl
  unfold mf_worth mf_worth_J15 sWorth sOpen
  rw [zev_mbd, zev_eq m_begin]
  dsimp only
  generalize qi (qi (qi Q 38 0 (Q.1 38 0 + 1)) 41 0 0) 39 0 0 = Q1 at h1 q39 ⊢
  have hc : ¬ iscents ct → (ct < 0 ∨ 1000000 < ct) := fun z => by
    by_cases h2 : ct < 0
    · exact Or.inl h2
    · exact Or.inr (by by_cases h3 : 1000000 < ct; exact h3; exact absurd ⟨h2, h3⟩ z)
  by_cases c1 : iscents ct
  · rw [if_pos c1, if_neg c1.1]
    have e2 : ct ≤ 1000000 := Int32.not_lt.mp c1.2
    simp only [if_neg c1.2, if_pos e2, zev_mbd, zev_eq (m_looked h1.1 b)]
    by_cases c2 : lk nb b = 0
    · rw [if_pos c2, c2]
      obtain ⟨n, hn, rfl⟩ := lk_0 hN c2
      rw [nI_clamp (by omega)]
      have jC := (jI.2.1 n hn).2.2.1
      refine ⟨?_, ?_⟩
      · rw [if_pos (show (0 : Int32) ≤ 0 by decide), zev_mbd]
        refine zev_mono (K_keep h1 jI) ?_
        rintro ⟨Q2, u⟩ ⟨s2, k2, f2⟩
        dsimp only at s2 k2 f2 ⊢
        obtain ⟨rB, rR, rK, rA, rC, rJ, rO, rG, rM, rL, rP, rN, rT, rW, rX, rF, rS⟩ := h1
        have b2 := rB.fr f2 (by decide)
        simp only [zev_b1, zev_mbd, zev_some, zev_b0, zev_bo, true_and, and_true, mev_ai (show n < 2 ^ 31 by omega), mev_si (show n < 2 ^ 31 by omega), mln_2, mln_3, mln_4, mln_5, mln_6, mln_7, mln_8, mln_9, mln_10, mln_11, mln_12, mln_13, mln_15, mln_16, mln_17, mln_24, mln_25, mln_26, mln_27, mln_28, mln_29, mln_30, mln_31, mln_32, mln_34, mln_35, mln_37, mln_42, mln_49, mln_50, mln_51, mln_52, mln_53, mln_54, mln_55, mln_56, mln_57, mln_58, mln_59, mln_61, mln_62, mln_63, mln_65, mln_66, mln_68, mln_70, mln_71, mln_72, mln_73, mln_74, show n < 1000 by omega, b2.ct hn]
        have f3 : qfr Q2 (qi Q2 4 n ct) [4] := qfr.qi (by decide)
        have F : qfr Q1 (qi Q2 4 n ct) [4, 43, 44, 45, 46, 47, 48, 49, 50, 51, 52, 53, 54, 55, 56, 57, 58, 59] := (f2.mono (by decide)).tr0 (f3.mono (by decide))
        have b3 := b2.w4 (n := n) (v := ct)
        refine ⟨rfl, kc, ?_, ?_⟩
        · exact ⟨b3, rR.fr F (by decide), rK.fr F (by decide), rA.fr F (by decide), ⟨rC.1, fun b' hb' q hq => rC.2 b' hb' q (by revert hq; unfold bup; split <;> (rename_i e; first | (subst e; exact id) | exact id))⟩, rJ.fr F (by decide) (by decide), rO.fr F (by decide) (by decide), (by rw [F.i 0 (by decide)]; exact rG), (by rw [F.i 18 (by decide)]; exact rM), rL.fr F (by decide), rP.fr F (by decide), rN.fr F (by decide), (by rw [F.i 38 (by decide)]; exact rT), (by rw [F.i 40 (by decide)]; exact rW), rX.fr F (by decide), (by rw [f3.i 43 (by decide)]; exact k2), fun _ => (s2.fr f3 (by decide)).ceq (U_worth hN) rfl (bfB_3 (by omega)) (bfB_4 (by omega))⟩
        · dsimp only
          rw [F.i 39 (by decide), q39, cwy_pos (i64_nn jC.1)]
      · have hct : 0 ≤ ct.toInt ∧ ct.toInt ≤ 1000000 := by
          have z1 := c1.1
          have z2 := c1.2
          rw [i32_lt] at z1 z2
          have e0 : (0 : Int32).toInt = 0 := rfl
          have e1 : (1000000 : Int32).toInt = 1000000 := rfl
          omega
        obtain ⟨-, -, -, j1, j2, j3, -, -⟩ := hJ'
        have R' : Ira nb (bup bs n (bcts (bkeep (bs n)) ct)) := fun b' hb' m hm => jR b' hb' m (by revert hm; unfold bup; split <;> (rename_i e; first | (subst e; exact id) | exact id))
        refine ⟨jI.win (fun b' hb' => ?_) jI.2.2.2, R', jP, j1, j2, j3, Or.inr rfl, fun _ => ⟨UokB (by omega) (by omega) (fun c' hc' => by rw [List.mem_singleton] at hc'; rw [hc']; exact hn), by rw [bfB_3 (by omega)]; exact Nat.le_refl _, by rw [bfB_4 (by omega)]; exact Nat.le_refl _, jI.cong (U_worth hN), by rw [bfB_1 (by omega)]; exact Ira_sres R'⟩⟩
        have hw := jI.w hb'
        unfold bup
        by_cases e : b' = n
        · subst e; rw [if_pos rfl]; exact ⟨rfl, Or.inr hct, rfl, rfl, rfl, hw⟩
        · rw [if_neg e]; exact ⟨rfl, Or.inl rfl, rfl, rfl, rfl, hw⟩
    · rw [if_neg c2]
      obtain ⟨p1, p2⟩ := P_lk (a := (-(lk nb b)).toInt64) h1 c2 rfl
      rw [if_neg p1]
      exact ⟨p2, hJ'⟩
  · rw [if_neg c1]
    refine ⟨?_, hJ'⟩
    rcases hc c1 with z | z
    · rw [if_pos z]
      exact P_no h1 1 rfl (by decide) (by decide) rfl
    · by_cases z0 : ct < 0
      · rw [if_pos z0]
        exact P_no h1 1 rfl (by decide) (by decide) rfl
      · simp only [if_neg z0, if_pos z, if_neg (Int32.not_le.mpr z)]
        exact P_no h1 1 rfl (by decide) (by decide) rfl
/-! pick, forget -/
theorem phas_snoc (b : Int32) (l : List (Nat × Int64)) (q : Nat × Int64) : phas b (l ++ [q]) = if phas b l = 0 then (if nI q.1 = b then 1 else 0) else 1 := by
  unfold phas
  rw [List.any_append]
  by_cases h1 : l.any (fun q => decide (nI q.1 = b)) = true
  · simp [h1]
  · have h2 : l.any (fun q => decide (nI q.1 = b)) = false := by simpa using h1
    rw [h2]
    by_cases h3 : nI q.1 = b
    · simp [h3]
    · simp [h3]
theorem phas_01 (b : Int32) (l : List (Nat × Int64)) : phas b l = 0 ∨ phas b l = 1 := by
  unfold phas; split
  · exact Or.inr rfl
  · exact Or.inl rfl
theorem m_isPicked {Q : Mq} {ps : List (Nat × Int64)} (h : mPk Q ps) (b : Int32) : mf_isPicked Q b = some (Q, phas b ps) := by
  refine zev_of ?_
  obtain ⟨h1, h2, h3⟩ := h
  unfold mf_isPicked
  rw [zev_b1]
  refine zev_up (τ := Mq × Int32 × Int32) (fun i (z : Mq × Int32 × Int32) => z = (Q, phas b (ps.take i), nI i)) ps.length (Nat.zero_le _) rfl ?_ ?_
  · rintro i z hi rfl
    obtain ⟨q, hq⟩ := getElem?_lt hi
    unfold mf_isPicked_L4 mf_isPicked_J26 mf_isPicked_J31
    simp only [h1, if_neg (nI_ge hi (show ps.length < 2 ^ 31 by omega)), zev_b1, zev_mbd, zev_some, zev_b0, zev_bo, true_and, and_true, mev_ai (show i < 2 ^ 31 by omega), mln_2, mln_3, mln_4, mln_5, mln_6, mln_7, mln_8, mln_9, mln_10, mln_11, mln_12, mln_13, mln_15, mln_16, mln_17, mln_24, mln_25, mln_26, mln_27, mln_28, mln_29, mln_30, mln_31, mln_32, mln_34, mln_35, mln_37, mln_42, mln_49, mln_50, mln_51, mln_52, mln_53, mln_54, mln_55, mln_56, mln_57, mln_58, mln_59, mln_61, mln_62, mln_63, mln_65, mln_66, mln_68, mln_70, mln_71, mln_72, mln_73, mln_74, show i < 8 by omega, (h3 i q hq).1]
    rw [take_snoc hq, phas_snoc]
    by_cases e : phas b (ps.take i) = 0
    · rw [if_pos e, if_pos e]
      simp only [zev_b1, zev_mbd, zev_some, zev_b0, zev_bo, true_and, and_true, mev_ai (show i < 2 ^ 31 by omega), mln_2, mln_3, mln_4, mln_5, mln_6, mln_7, mln_8, mln_9, mln_10, mln_11, mln_12, mln_13, mln_15, mln_16, mln_17, mln_24, mln_25, mln_26, mln_27, mln_28, mln_29, mln_30, mln_31, mln_32, mln_34, mln_35, mln_37, mln_42, mln_49, mln_50, mln_51, mln_52, mln_53, mln_54, mln_55, mln_56, mln_57, mln_58, mln_59, mln_61, mln_62, mln_63, mln_65, mln_66, mln_68, mln_70, mln_71, mln_72, mln_73, mln_74, show i < 8 by omega, (h3 i q hq).1]
      by_cases e2 : nI q.1 = b
      · simp only [if_pos e2, zev_b1, zev_mbd, zev_some, zev_b0, zev_bo, true_and, and_true]; exact ⟨_, rfl, by rw [← nI_1]⟩
      · simp only [if_neg e2, zev_b1, zev_mbd, zev_some, zev_b0, zev_bo, true_and, and_true]; exact ⟨_, rfl, by rw [← nI_1]⟩
    · rw [if_neg e, if_neg e]
      simp only [zev_b1, zev_mbd, zev_some, zev_b0, zev_bo, true_and, and_true]; exact ⟨_, rfl, by rw [← nI_1]⟩
  · rintro z rfl
    unfold mf_isPicked_L4
    simp only [h1, if_pos (nI_le (Nat.le_refl ps.length) (show ps.length < 2 ^ 31 by omega)), zev_b1, zev_mbd, zev_some, zev_b0, zev_bo, true_and, and_true]
    refine ⟨_, rfl, ?_⟩
    dsimp only
    rw [List.take_of_length_le (Nat.le_refl _)]
    rcases phas_01 b ps with e | e <;> rw [e] <;> simp only [zev_b1, zev_mbd, zev_some, zev_b0, zev_bo, true_and, and_true]
theorem N_pick {c : Cs} {Q : Mq} {kc : List Int32} {t : Nat} (hJ : Jc t c) (h : R0 c Q kc) (b : Int32) (v : Int64) : zev (mf_pick Q b v) (Post (sPick b v (sOpen c))) ∧ Jc (t + 1) (sPick b v (sOpen c)).2 := by
  obtain ⟨nb, bs, ro, lb, ps, ac, jr, bo, mo, gi, tr, tp, wy, wh, tc, st, ds, dw, bf, ba, bc⟩ := c
  have hJ' := (hJ.mono (Nat.le_succ t)).opn
  obtain ⟨jI, jR, jP, jJ, jB, jG, jF, jU⟩ := hJ
  have hN := jI.1
  have h1 := h.opn
  have q39 : (qi (qi (qi Q 38 0 (Q.1 38 0 + 1)) 41 0 0) 39 0 0).1 39 0 = 0 := rfl
  unfold mf_pick sPick sOpen
  rw [zev_mbd, zev_eq m_begin]
  dsimp only
  generalize qi (qi (qi Q 38 0 (Q.1 38 0 + 1)) 41 0 0) 39 0 0 = Q1 at h1 q39 ⊢
  rw [zev_mbd, zev_eq (m_isAmount v)]
  dsimp only
  by_cases c1 : isml v
  · rw [if_pos c1, if_pos c1, if_neg z10, zev_mbd, zev_eq (m_looked h1.1 b)]
    dsimp only
    by_cases c2 : lk nb b = 0
    · rw [if_pos c2, c2, if_pos (show (0 : Int32) ≤ 0 by decide)]
      obtain ⟨n, hn, rfl⟩ := lk_0 hN c2
      rw [nI_clamp (by omega)]
      have hP : mPk Q1 ps := by obtain ⟨rB, rR, rK, rA, rC, rJ, rO, rG, rM, rL, rP, rN, rT, rW, rX, rF, rS⟩ := h1; exact rP
      rw [zev_mbd, zev_eq (m_isPicked hP _)]
      dsimp only
      have hp8 := hP.2.1
      by_cases c3 : phas (nI n) ps = 0
      · rw [if_pos c3, if_pos c3, hP.1]
        by_cases c4 : ps.length < 8
        · rw [if_pos (show nI ps.length < 8 from nI_lt (b := 8) c4 (by decide)), if_neg (show ¬ nI ps.length = 8 from fun z => by have := (nI_eq (b := 8) (by omega) (by decide)).mp z; omega)]
          refine ⟨?_, ?_⟩
          · simp only [zev_b1, zev_mbd, zev_some, zev_b0, zev_bo, true_and, and_true, mev_si (show ps.length < 2 ^ 31 by omega), mev_sj (show ps.length < 2 ^ 31 by omega), mln_2, mln_3, mln_4, mln_5, mln_6, mln_7, mln_8, mln_9, mln_10, mln_11, mln_12, mln_13, mln_15, mln_16, mln_17, mln_24, mln_25, mln_26, mln_27, mln_28, mln_29, mln_30, mln_31, mln_32, mln_34, mln_35, mln_37, mln_42, mln_49, mln_50, mln_51, mln_52, mln_53, mln_54, mln_55, mln_56, mln_57, mln_58, mln_59, mln_61, mln_62, mln_63, mln_65, mln_66, mln_68, mln_70, mln_71, mln_72, mln_73, mln_74, c4, qi_1, qj_1, show ¬ (33 = 34) by decide, false_and, if_false, hP.1, and_self, if_true, nI_1]
            have F : qfr Q1 (qi (qj (qi Q1 34 ps.length (nI n)) 35 ps.length v) 33 0 (nI (ps.length + 1))) [33, 34, 35] := ((qfr.qi (by decide)).tr0 (qfr.qj (by decide))).tr0 (qfr.qi (by decide))
            have P2 : mPk (qi (qj (qi Q1 34 ps.length (nI n)) 35 ps.length v) 33 0 (nI (ps.length + 1))) (ps ++ [(n, v)]) := by
              refine ⟨?_, by rw [List.length_append]; simp; omega, fun i q hq => ?_⟩
              · rw [qi_1, if_pos ⟨rfl, rfl⟩, List.length_append]; rfl
              · rw [qi_1, if_neg (by omega), qj_1, qi_1, qi_2, qj_2, qi_2]
                by_cases hi : i < ps.length
                · rw [if_neg (by omega), if_neg (by omega)]
                  rw [List.getElem?_append_left hi] at hq
                  exact hP.2.2 i q hq
                · rw [List.getElem?_append_right (by omega)] at hq
                  have hi2 := (List.getElem?_eq_some_iff.mp hq).1
                  simp only [List.length_cons, List.length_nil] at hi2
                  obtain rfl : i = ps.length := by omega
                  rw [Nat.sub_self] at hq
                  cases hq
                  rw [if_pos ⟨rfl, rfl⟩, if_pos ⟨rfl, rfl⟩]
                  exact ⟨rfl, rfl⟩
            generalize qi (qj (qi Q1 34 ps.length (nI n)) 35 ps.length v) 33 0 (nI (ps.length + 1)) = Q2 at F P2 ⊢
            obtain ⟨rB, rR, rK, rA, rC, rJ, rO, rG, rM, rL, rP, rN, rT, rW, rX, rF, rS⟩ := h1
            refine ⟨rfl, kc, ⟨rB.fr F (by decide), rR.fr F (by decide), rK.fr F (by decide), rA.fr F (by decide), rC, rJ.fr F (by decide) (by decide), rO.fr F (by decide) (by decide), (by rw [F.i 0 (by decide)]; exact rG), (by rw [F.i 18 (by decide)]; exact rM), rL.fr F (by decide), P2, rN.fr F (by decide), (by rw [F.i 38 (by decide)]; exact rT), (by rw [F.i 40 (by decide)]; exact rW), rX.fr F (by decide), (by rw [F.i 43 (by decide)]; exact rF), fun z => (rS z).fr F (by decide)⟩, ?_⟩
            dsimp only
            rw [F.i 39 (by decide), q39, cwy_pos (i64_nn (by rw [nI_toInt (by omega)]; omega))]
          · obtain ⟨a1, a2, -, a4, a5, a6, a7, a8⟩ := hJ'
            refine ⟨a1, a2, ⟨fun q hq => ?_, fun i j q r hi hj hne => ?_, by rw [List.length_append]; simp; omega⟩, a4, a5, a6, a7, a8⟩
            · rcases List.mem_append.mp hq with hq | hq
              · exact jP.1 q hq
              · rw [List.mem_singleton] at hq; subst hq; exact ⟨hn, c1⟩
            · have hno : ∀ q, q ∈ ps → q.1 ≠ n := fun q hq e => by
                unfold phas at c3
                rw [if_pos (List.any_eq_true.mpr ⟨q, hq, by rw [e]; simp⟩)] at c3
                exact absurd c3 (by decide)
              have at_ : ∀ i q, (ps ++ [(n, v)])[i]? = some q → (i < ps.length ∧ ps[i]? = some q) ∨ (i = ps.length ∧ q = (n, v)) := fun i q hq => by
                by_cases hi : i < ps.length
                · rw [List.getElem?_append_left hi] at hq; exact Or.inl ⟨hi, hq⟩
                · rw [List.getElem?_append_right (by omega)] at hq
                  have hi2 := (List.getElem?_eq_some_iff.mp hq).1
                  simp only [List.length_cons, List.length_nil] at hi2
                  obtain rfl : i = ps.length := by omega
                  rw [Nat.sub_self] at hq
                  cases hq
                  exact Or.inr ⟨rfl, rfl⟩
              rcases at_ i q hi with ⟨x1, x2⟩ | ⟨x1, x2⟩ <;> rcases at_ j r hj with ⟨y1, y2⟩ | ⟨y1, y2⟩
              · exact jP.2.1 i j q r x2 y2 hne
              · rw [y2]; exact hno q (List.mem_of_getElem? x2)
              · rw [x2]; exact fun e => hno r (List.mem_of_getElem? y2) e.symm
              · omega
        · rw [if_neg (show ¬ nI ps.length < 8 from nI_nlt (b := 8) (by omega) (by omega)), if_pos (show nI ps.length = 8 from by rw [show ps.length = 8 by omega]; rfl)]
          exact ⟨P_no h1 12 rfl (by decide) (by decide) rfl, hJ'⟩
      · rw [if_neg c3, if_neg c3]
        exact ⟨P_no h1 13 rfl (by decide) (by decide) rfl, hJ'⟩
    · rw [if_neg c2]
      obtain ⟨p1, p2⟩ := P_lk (a := (-(lk nb b)).toInt64) h1 c2 rfl
      rw [if_neg p1]
      exact ⟨p2, hJ'⟩
  · rw [if_neg c1, if_neg c1, if_pos rfl]
    exact ⟨P_no h1 1 rfl (by decide) (by decide) rfl, hJ'⟩
theorem N_forget {c : Cs} {Q : Mq} {kc : List Int32} {t : Nat} (hJ : Jc t c) (h : R0 c Q kc) : zev (mf_forget Q) (Post (sForget (sOpen c))) ∧ Jc (t + 1) (sForget (sOpen c)).2 := by
  obtain ⟨nb, bs, ro, lb, ps, ac, jr, bo, mo, gi, tr, tp, wy, wh, tc, st, ds, dw, bf, ba, bc⟩ := c
  have hJ' := (hJ.mono (Nat.le_succ t)).opn
  have h1 := h.opn
  have q39 : (qi (qi (qi Q 38 0 (Q.1 38 0 + 1)) 41 0 0) 39 0 0).1 39 0 = 0 := rfl
  unfold mf_forget sForget sOpen
  rw [zev_mbd, zev_eq m_begin]
  dsimp only
  generalize qi (qi (qi Q 38 0 (Q.1 38 0 + 1)) 41 0 0) 39 0 0 = Q1 at h1 q39 ⊢
  obtain ⟨rB, rR, rK, rA, rC, rJ, rO, rG, rM, rL, rP, rN, rT, rW, rX, rF, rS⟩ := h1
  have F : qfr Q1 (qi Q1 33 0 0) [33] := qfr.qi (by decide)
  have hp8 := rP.2.1
  refine ⟨?_, ?_⟩
  · simp only [zev_b1, zev_mbd, zev_some, zev_b0, zev_bo, true_and, and_true, rP.1]
    refine ⟨rfl, kc, ⟨rB.fr F (by decide), rR.fr F (by decide), rK.fr F (by decide), rA.fr F (by decide), rC, rJ.fr F (by decide) (by decide), rO.fr F (by decide) (by decide), (by rw [F.i 0 (by decide)]; exact rG), (by rw [F.i 18 (by decide)]; exact rM), rL.fr F (by decide), ⟨by rw [qi_1, if_pos ⟨rfl, rfl⟩]; rfl, by decide, fun i q hq => by simp at hq⟩, rN.fr F (by decide), (by rw [F.i 38 (by decide)]; exact rT), (by rw [F.i 40 (by decide)]; exact rW), rX.fr F (by decide), (by rw [F.i 43 (by decide)]; exact rF), fun z => (rS z).fr F (by decide)⟩, ?_⟩
    dsimp only
    rw [F.i 39 (by decide), q39, cwy_pos (i64_nn (by rw [nI_toInt (by omega)]; omega))]
  · obtain ⟨a1, a2, -, a4, a5, a6, a7, a8⟩ := hJ'
    exact ⟨a1, a2, ⟨fun q hq => by simp at hq, fun i j q r hi => by simp at hi, by decide⟩, a4, a5, a6, a7, a8⟩
