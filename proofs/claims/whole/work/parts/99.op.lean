/-! The reference's acts: rule. -/
theorem m_rule132u {Q : Mq} {lb : List Lb} {l : Nat} {q : Lb} (h : mLs Q lb) (hq : lb[l]? = some q) (h20 : q.2 < 20) (d v hd : Int32) (h2 : 2 ≤ q.1.length) : zev (mf_rule_J132 Q (nI l) 6 d v hd) (fun y => y.2 = (nI (runi q.1).length).toInt64 ∧ mLs y.1 (lb.set l (runi q.1, q.2 + 1)) ∧ qfr Q y.1 [23, 24, 25, 26, 27, 28, 29, 30, 31, 32]) := by
  have hl := (List.getElem?_eq_some_iff.mp hq).1
  have hl40 := h.2.1
  obtain ⟨a1, a2, a3, a4, a5⟩ := h.2.2 l q hq
  obtain ⟨pre, xa, xb, er, eu⟩ := runi_split q.1 h2
  have hlen : q.1.length = pre.length + 2 := by rw [er, List.length_append]; rfl
  obtain ⟨t1, r1, T1⟩ := a5 pre.length xa (by rw [er, List.getElem?_append_right (Nat.le_refl _), Nat.sub_self]; rfl)
  obtain ⟨t2, r2, T2⟩ := a5 (pre.length + 1) xb (by rw [er, List.getElem?_append_right (by omega), Nat.add_sub_cancel_left]; rfl)
  have hsub : nI (pre.length + 2) - 2 = nI pre.length := by
    rw [← nI_add pre.length 2]; exact Int32.add_sub_cancel _ _
  unfold mf_rule_J132
  simp only [zev_b1, zev_mbd, zev_some, zev_b0, zev_bo, true_and, and_true, mev_ai (show l < 2 ^ 31 by omega), mev_si (show l < 2 ^ 31 by omega), mln_2, mln_3, mln_4, mln_5, mln_6, mln_7, mln_8, mln_9, mln_10, mln_11, mln_12, mln_13, mln_15, mln_16, mln_17, mln_24, mln_25, mln_26, mln_27, mln_28, mln_29, mln_30, mln_31, mln_32, mln_34, mln_35, mln_37, mln_42, mln_49, mln_50, mln_51, mln_52, mln_53, mln_54, mln_55, mln_56, mln_57, mln_58, mln_59, mln_61, mln_62, mln_63, mln_65, mln_66, mln_68, mln_70, mln_71, mln_72, mln_73, mln_74, show l < 40 by omega, a1, nI_x4, nI_x5, nI_x13, nI_x16, nI_x20, nI_x60, nI_x100, nI_x48r, nI_add, nI_1, mev_si (show 20 * l + q.2 < 2 ^ 31 by omega), show 20 * l + q.2 < 800 by omega]
  have hF : qfr Q (qi (qi (qi (qi (qi Q 24 l (nI (q.2 + 1))) 27 (20 * l + q.2) 6) 28 (20 * l + q.2) d) 29 (20 * l + q.2) v) 30 (20 * l + q.2) hd) [23, 24, 25, 26, 27, 28, 29, 30, 31, 32] := ((((qfr.qi (by decide)).tr0 (qfr.qi (by decide))).tr0 (qfr.qi (by decide))).tr0 (qfr.qi (by decide))).tr0 (qfr.qi (by decide))
  have g24 : ∀ k, (qi (qi (qi (qi (qi Q 24 l (nI (q.2 + 1))) 27 (20 * l + q.2) 6) 28 (20 * l + q.2) d) 29 (20 * l + q.2) v) 30 (20 * l + q.2) hd).1 24 k = if k = l then nI (q.2 + 1) else Q.1 24 k := fun k => by simp [qi_1]
  have g25 : ∀ k, (qi (qi (qi (qi (qi Q 24 l (nI (q.2 + 1))) 27 (20 * l + q.2) 6) 28 (20 * l + q.2) d) 29 (20 * l + q.2) v) 30 (20 * l + q.2) hd).1 25 k = Q.1 25 k := fun k => by simp [qi_1]
  have g26 : ∀ k, (qi (qi (qi (qi (qi Q 24 l (nI (q.2 + 1))) 27 (20 * l + q.2) 6) 28 (20 * l + q.2) d) 29 (20 * l + q.2) v) 30 (20 * l + q.2) hd).1 26 k = Q.1 26 k := fun k => by simp [qi_1]
  have g23 : (qi (qi (qi (qi (qi Q 24 l (nI (q.2 + 1))) 27 (20 * l + q.2) 6) 28 (20 * l + q.2) d) 29 (20 * l + q.2) v) 30 (20 * l + q.2) hd).1 23 0 = Q.1 23 0 := by simp [qi_1]
  have g27 : ∀ f, f ∈ [27, 28, 29, 30, 31, 32] → ∀ k, k ≠ 20 * l + q.2 → (qi (qi (qi (qi (qi Q 24 l (nI (q.2 + 1))) 27 (20 * l + q.2) 6) 28 (20 * l + q.2) d) 29 (20 * l + q.2) v) 30 (20 * l + q.2) hd).1 f k = Q.1 f k := fun f hf k hk => by
    have : f ≠ 24 := by revert hf; simp; omega
    rw [qi_1, if_neg (fun z => hk z.2), qi_1, if_neg (fun z => hk z.2), qi_1, if_neg (fun z => hk z.2), qi_1, if_neg (fun z => hk z.2), qi_1, if_neg (fun z => this z.1)]
  have t27 : (qi (qi (qi (qi (qi Q 24 l (nI (q.2 + 1))) 27 (20 * l + q.2) 6) 28 (20 * l + q.2) d) 29 (20 * l + q.2) v) 30 (20 * l + q.2) hd).1 27 (20 * l + q.2) = 6 := by simp [qi_1]
  generalize qi (qi (qi (qi (qi Q 24 l (nI (q.2 + 1))) 27 (20 * l + q.2) 6) 28 (20 * l + q.2) d) 29 (20 * l + q.2) v) 30 (20 * l + q.2) hd = Q1 at hF g24 g25 g26 g23 g27 t27 ⊢
  have z25 : Q1.1 25 l = nI (pre.length + 2) := by rw [g25, a2, hlen]
  have z26 : Q1.1 26 (20 * l + pre.length) = nI t1 := by rw [g26]; exact r1
  have z26' : Q1.1 26 (20 * l + pre.length + 1) = nI t2 := by rw [g26]; exact r2
  rw [if_true]
  simp only [zev_b1, zev_mbd, zev_some, zev_b0, zev_bo, true_and, and_true, mev_ai (show l < 2 ^ 31 by omega), mev_si (show l < 2 ^ 31 by omega), mln_2, mln_3, mln_4, mln_5, mln_6, mln_7, mln_8, mln_9, mln_10, mln_11, mln_12, mln_13, mln_15, mln_16, mln_17, mln_24, mln_25, mln_26, mln_27, mln_28, mln_29, mln_30, mln_31, mln_32, mln_34, mln_35, mln_37, mln_42, mln_49, mln_50, mln_51, mln_52, mln_53, mln_54, mln_55, mln_56, mln_57, mln_58, mln_59, mln_61, mln_62, mln_63, mln_65, mln_66, mln_68, mln_70, mln_71, mln_72, mln_73, mln_74, show l < 40 by omega, z25, hsub, nI_x4, nI_x5, nI_x13, nI_x16, nI_x20, nI_x60, nI_x100, nI_x48r, nI_add, nI_1, mev_si (show 20 * l + q.2 < 2 ^ 31 by omega), show 20 * l + q.2 < 800 by omega, mev_ai (show 20 * l + pre.length < 2 ^ 31 by omega), show 20 * l + pre.length < 800 by omega, mev_ai (show 20 * l + pre.length + 1 < 2 ^ 31 by omega), show 20 * l + pre.length + 1 < 800 by omega, qi_1, show ¬ (25 = 31) by decide, show ¬ (26 = 25) by decide, show ¬ (26 = 31) by decide, false_and, if_false, and_self, if_true, z26, z26']
  have k25 : (qi (qi (qi Q1 25 l (nI pre.length)) 31 (20 * l + q.2) (nI t1)) 32 (20 * l + q.2) (nI t2)).1 25 l = nI pre.length := by simp [qi_1]
  rw [zev_eq (m_rule257 (show l < 40 by omega) (show pre.length < 20 by omega) k25 _)]
  rw [eu]
  refine ⟨by rw [List.length_append]; rfl, ?_, ((((hF.tr0 (qfr.qi (by decide))).tr0 (qfr.qi (by decide))).tr0 (qfr.qi (by decide))).tr0 (qfr.qi (by decide))).tr0 (qfr.qi (by decide))⟩
  have hg : ∀ f, f ∈ [27, 28, 29, 30, 31, 32] → ∀ k, k ≠ 20 * l + q.2 → (qi (qi (qi (qi (qi Q1 25 l (nI pre.length)) 31 (20 * l + q.2) (nI t1)) 32 (20 * l + q.2) (nI t2)) 26 (20 * l + pre.length) (nI (20 * l + q.2))) 25 l (nI (pre.length + 1))).1 f k = Q.1 f k := fun f hf k hk => by
    have : f ≠ 25 ∧ f ≠ 26 := by revert hf; simp; omega
    rw [qi_1, if_neg (fun z => this.1 z.1), qi_1, if_neg (fun z => this.2 z.1), qi_1, if_neg (fun z => hk z.2), qi_1, if_neg (fun z => hk z.2), qi_1, if_neg (fun z => this.1 z.1)]
    exact g27 f hf k hk
  refine mLs_put (tt := 20 * l + q.2) h hq h20 rfl ?_ (fun k => ?_) (fun k => ?_) (fun k => ?_) hg (fun i y hy => ?_) (by omega) ?_
  · simp [qi_1, g23]
  · simp [qi_1, g24]
  · rw [qi_1]
    by_cases e : k = l
    · rw [if_pos ⟨rfl, e⟩, if_pos e]
    · rw [if_neg (fun z => e z.2), if_neg e]; simp [qi_1, g25, e]
  · simp [qi_1, g26]
  · rw [er, List.getElem?_append_left (List.getElem?_eq_some_iff.mp hy).1]; exact hy
  · refine ⟨⟨by omega, by omega⟩, Or.inr ⟨t1, t2, xa, xb, rfl, ?_, ?_, ?_, ?_, ?_⟩⟩
    · simp [qi_1, t27]
    · simp [qi_1]
    · simp [qi_1]
    · exact mTr.mono (by omega) (fun g hgg t g1 g2 => hg g hgg t (by omega)) _ _ _ _ (Nat.le_refl _) T1
    · exact mTr.mono (by omega) (fun g hgg t g1 g2 => hg g hgg t (by omega)) _ _ _ _ (Nat.le_refl _) T2
theorem lkl_n {n : Nat} {l : Int32} (h : lkl n l ≠ 0) : lkl n l = 2 ∨ lkl n l = 3 := by
  unfold lkl at h ⊢
  by_cases h1 : l < 0
  · rw [if_pos h1]; exact Or.inr rfl
  · rw [if_neg h1] at h ⊢
    by_cases h2 : l < 40
    · rw [if_pos h2] at h ⊢
      by_cases h3 : l < nI n
      · rw [if_pos h3] at h; exact absurd rfl h
      · rw [if_neg h3]; exact Or.inl rfl
    · rw [if_neg h2]; exact Or.inr rfl
theorem N_rule59 {nb : Nat} {bs : Nat → Bv} {ro : Nat → Rw} {lb : List Lb} {ps : List (Nat × Int64)} {ac : Nat → Wn} {jr bo : List Ln} {mo : Int32} {gi : Int64} {tr tp wy wh : Int32} {tc : List Int32} {st : List Int64} {ds : List (Nat × Int64)} {dw : Wn} {bf : Nat → Int32} {ba : Wn} {bc : List Nat} {Q1 : Mq} {kc : List Int32} {t : Nat} (hJ : Jc t (nb, bs, ro, lb, ps, ac, jr, bo, mo, gi, tr, tp, wy, wh, tc, st, ds, dw, bf, ba, bc)) (h1 : R0 (nb, bs, ro, lb, ps, ac, jr, bo, mo, gi, tr, tp, wy, wh, tc, st, ds, dw, bf, ba, bc) Q1 kc) (q39 : Q1.1 39 0 = 0) (l op d v hd : Int32) (hok : op = 6 ∨ (op ≠ 6 ∧ ∃ x : Lf, lfok x ∧ op = nI x.1 ∧ d = nI x.2.1 ∧ v = nI x.2.2.1 ∧ hd = nI x.2.2.2)) : zev (mf_rule_J59 Q1 l op d v hd 1) (Post (sRule32 l op d v hd (nb, bs, ro, lb, ps, ac, jr, bo, mo, gi, tr, tp, wy, wh, tc, st, ds, dw, bf, ba, bc))) ∧ Jc t (sRule32 l op d v hd (nb, bs, ro, lb, ps, ac, jr, bo, mo, gi, tr, tp, wy, wh, tc, st, ds, dw, bf, ba, bc)).2 := by
  have hL : mLs Q1 lb := by obtain ⟨rB, rR, rK, rA, rC, rJ, rO, rG, rM, rL, rP, rN, rT, rW, rX, rF, rS⟩ := h1; exact rL
  unfold mf_rule_J59 sRule32
  dsimp only
  rw [if_neg z10, zev_mbd, zev_eq (m_lookedL hL l)]
  dsimp only
  by_cases c1 : lkl lb.length l = 0
  · obtain ⟨i, hi, rfl⟩ := lkl_0 hL.2.1 c1
    have hl40 := hL.2.1
    obtain ⟨q, hq⟩ := getElem?_lt hi
    obtain ⟨a1, a2, a3, a4, a5⟩ := hL.2.2 i q hq
    rw [c1, if_pos (show (0 : Int32) ≤ 0 by decide), if_pos rfl, nI_clamp (show i < 2 ^ 31 by omega), hq]
    simp only [Option.getD_some]
    simp only [zev_b1, zev_mbd, zev_some, zev_b0, zev_bo, true_and, and_true, mev_ai (show i < 2 ^ 31 by omega), mln_2, mln_3, mln_4, mln_5, mln_6, mln_7, mln_8, mln_9, mln_10, mln_11, mln_12, mln_13, mln_15, mln_16, mln_17, mln_24, mln_25, mln_26, mln_27, mln_28, mln_29, mln_30, mln_31, mln_32, mln_34, mln_35, mln_37, mln_42, mln_49, mln_50, mln_51, mln_52, mln_53, mln_54, mln_55, mln_56, mln_57, mln_58, mln_59, mln_61, mln_62, mln_63, mln_65, mln_66, mln_68, mln_70, mln_71, mln_72, mln_73, mln_74, show i < 40 by omega, a1]
    by_cases c2 : q.2 < 20
    · rw [if_neg (fun z => by have := (nI_eq (show q.2 < 2 ^ 31 by omega) (show 20 < 2 ^ 31 by decide)).mp z; omega), if_pos (show nI q.2 < 20 from nI_lt (b := 20) c2 (by decide))]
      rcases hok with rfl | ⟨h6, x, hx, x1, x2, x3, x4⟩
      · rw [if_pos rfl, if_pos rfl]
        simp only [zev_b1, zev_mbd, zev_some, zev_b0, zev_bo, true_and, and_true, mev_ai (show i < 2 ^ 31 by omega), mln_2, mln_3, mln_4, mln_5, mln_6, mln_7, mln_8, mln_9, mln_10, mln_11, mln_12, mln_13, mln_15, mln_16, mln_17, mln_24, mln_25, mln_26, mln_27, mln_28, mln_29, mln_30, mln_31, mln_32, mln_34, mln_35, mln_37, mln_42, mln_49, mln_50, mln_51, mln_52, mln_53, mln_54, mln_55, mln_56, mln_57, mln_58, mln_59, mln_61, mln_62, mln_63, mln_65, mln_66, mln_68, mln_70, mln_71, mln_72, mln_73, mln_74, show i < 40 by omega, a2]
        by_cases c3 : 2 ≤ q.1.length
        · have c3' : (2 : Int32) ≤ nI q.1.length := nI_le (a := 2) c3 (by omega)
          rw [if_pos c3', if_pos c3']
          refine ⟨zev_mono (m_rule132u hL hq c2 d v hd c3) ?_, Jc.any hJ⟩
          rintro ⟨Q2, u⟩ ⟨e2, l2, f2⟩
          dsimp only at e2 l2 f2
          refine ⟨e2, kc, R0.lbl h1 l2 f2, ?_⟩
          show Q2.1 39 0 = cwy (nI (runi q.1).length).toInt64
          have : (runi q.1).length < 2 ^ 31 := by
            obtain ⟨pre, xa, xb, er, eu⟩ := runi_split q.1 c3
            have := congrArg List.length er
            rw [eu]
            simp at this ⊢
            omega
          rw [f2.i 39 (by decide), q39, cwy_pos (i64_nn (by rw [nI_toInt this]; omega))]
        · have c3' : ¬ (2 : Int32) ≤ nI q.1.length := fun z => c3 ((nI_leI (show 2 < 2 ^ 31 by decide) (by omega)).mp z)
          rw [if_neg c3', if_neg c3']
          exact ⟨P_no h1 10 rfl (by decide) (by decide) rfl, hJ⟩
      · rw [if_neg h6, if_neg h6]
        obtain ⟨⟨o1, o2⟩, ⟨o3, o4⟩, o5, o6⟩ := hx
        have ex : (op.toNatClampNeg, d.toNatClampNeg, v.toNatClampNeg, hd.toNatClampNeg) = x := by
          rw [x1, x2, x3, x4, nI_clamp (by omega), nI_clamp (by omega), nI_clamp (by omega), nI_clamp (by omega)]
        rw [ex]
        refine ⟨zev_mono (m_rule132 hL hq c2 op d v hd h6 ⟨⟨o1, o2⟩, ⟨o3, o4⟩, o5, o6⟩ x1 x2 x3 x4) ?_, Jc.any hJ⟩
        rintro ⟨Q2, u⟩ ⟨e2, l2, f2⟩
        dsimp only at e2 l2 f2
        refine ⟨e2, kc, R0.lbl h1 l2 f2, ?_⟩
        show Q2.1 39 0 = cwy (nI (q.1.length + 1)).toInt64
        rw [f2.i 39 (by decide), q39, cwy_pos (i64_nn (by rw [nI_toInt (by omega)]; omega))]
    · have e : q.2 = 20 := by omega
      rw [e, if_pos (show nI 20 = 20 from rfl), if_neg (by decide)]
      exact ⟨P_no h1 12 rfl (by decide) (by decide) rfl, hJ⟩
  · rw [if_neg c1]
    obtain ⟨p1, p2⟩ := P_rs (a := (-(lkl lb.length l)).toInt64) h1 (by rcases lkl_n c1 with e | e <;> simp only [e] <;> decide) rfl
    rw [if_neg p1]
    exact ⟨p2, hJ⟩
theorem N_rule {c : Cs} {Q : Mq} {kc : List Int32} {t : Nat} (hJ : Jc t c) (h : R0 c Q kc) (l op d v hd : Int32) : zev (mf_rule Q l op d v hd) (Post (sRule l op d v hd (sOpen c))) ∧ Jc (t + 1) (sRule l op d v hd (sOpen c)).2 := by
  obtain ⟨nb, bs, ro, lb, ps, ac, jr, bo, mo, gi, tr, tp, wy, wh, tc, st, ds, dw, bf, ba, bc⟩ := c
  have hJ0 := hJ.mono (Nat.le_succ t)
  have hJ' := hJ0.opn
  have h1 := h.opn
  have q39 : (qi (qi (qi Q 38 0 (Q.1 38 0 + 1)) 41 0 0) 39 0 0).1 39 0 = 0 := rfl
  unfold mf_rule mf_rule_J54 mf_rule_J58 sRule
  rw [zev_mbd, zev_eq m_begin]
  dsimp only
  generalize qi (qi (qi Q 38 0 (Q.1 38 0 + 1)) 41 0 0) 39 0 0 = Q1 at h1 q39 ⊢
  have no : zev (mf_rule_J59 Q1 l op d v hd 0) (Post (-1, sOpen (nb, bs, ro, lb, ps, ac, jr, bo, mo, gi, tr, tp, wy, wh, tc, st, ds, dw, bf, ba, bc))) ∧ Jc (t + 1) (sOpen (nb, bs, ro, lb, ps, ac, jr, bo, mo, gi, tr, tp, wy, wh, tc, st, ds, dw, bf, ba, bc)) := by
    unfold mf_rule_J59
    rw [if_pos rfl]
    exact ⟨P_no h1 1 rfl (by decide) (by decide) rfl, hJ'⟩
  by_cases c6 : op = 6
  · rw [if_pos c6, if_neg (by rw [c6]; decide), if_neg (by rw [c6]; decide), if_pos c6]
    exact N_rule59 hJ' h1 q39 l op d v hd (Or.inl c6)
  rw [if_neg c6]
  by_cases c1 : op < 1
  · rw [if_pos c1, if_pos c1]; exact no
  rw [if_neg c1, if_neg c1]
  by_cases c2 : 5 < op
  · rw [if_pos c2, if_pos (show 6 < op by
      rw [Int32.lt_iff_toInt_lt] at c2 ⊢
      have : op.toInt ≠ 6 := fun z => c6 (Int32.toInt_inj.mp z)
      have e1 : (5 : Int32).toInt = 5 := rfl
      have e2 : (6 : Int32).toInt = 6 := rfl
      omega)]
    exact no
  have c2' : ¬ 6 < op := by
    rw [Int32.lt_iff_toInt_lt] at c2 ⊢
    have e1 : (5 : Int32).toInt = 5 := rfl
    have e2 : (6 : Int32).toInt = 6 := rfl
    omega
  rw [if_neg c2, if_neg c2', if_neg c6]
  by_cases d1 : d < 1
  · rw [if_pos d1, if_neg (fun z => z.1 d1)]; exact no
  rw [if_neg d1]
  by_cases d2 : 3 < d
  · rw [if_pos d2, if_neg (fun z => z.2.1 d2)]; exact no
  rw [if_neg d2]
  by_cases d3 : v < 0
  · rw [if_pos d3, if_neg (fun z => z.2.2.1 d3)]; exact no
  rw [if_neg d3]
  by_cases d4 : 15 < v
  · rw [if_pos d4, if_neg (fun z => z.2.2.2.1 d4)]; exact no
  rw [if_neg d4]
  by_cases d5 : hd < 0
  · rw [if_pos d5, if_neg (fun z => z.2.2.2.2.1 d5)]; exact no
  rw [if_neg d5]
  by_cases d6 : 100 < hd
  · rw [if_pos d6, if_neg (fun z => z.2.2.2.2.2 d6)]; exact no
  rw [if_neg d6, if_pos (show isrule d v hd from ⟨d1, d2, d3, d4, d5, d6⟩)]
  have up : ∀ {x : Int32} {n : Nat}, n < 2 ^ 31 → ¬ x < 1 → ¬ nI n < x → ∃ j, 1 ≤ j ∧ j ≤ n ∧ x = nI j := by
    intro x n hn z1 z2
    have z0 : ¬ x < 0 := fun z => z1 (by rw [Int32.lt_iff_toInt_lt] at z ⊢; have e1 : (1 : Int32).toInt = 1 := rfl; have e2 : (0 : Int32).toInt = 0 := rfl; omega)
    obtain ⟨j, hj, rfl⟩ := nI_rng hn z0 z2
    refine ⟨j, ?_, hj, rfl⟩
    cases j with
    | zero => exact absurd (show nI 0 < 1 by decide) z1
    | succ j => omega
  obtain ⟨x1, y1, z1, e1⟩ := up (n := 5) (by decide) c1 c2
  obtain ⟨x2, y2, z2, e2⟩ := up (n := 3) (by decide) d1 d2
  obtain ⟨x3, z3, e3⟩ := nI_rng (n := 15) (by decide) d3 d4
  obtain ⟨x4, z4, e4⟩ := nI_rng (n := 100) (by decide) d5 d6
  exact N_rule59 hJ' h1 q39 l op d v hd (Or.inr ⟨c6, (x1, x2, x3, x4), ⟨⟨y1, z1⟩, ⟨y2, z2⟩, z3, z4⟩, e1, e2, e3, e4⟩)
