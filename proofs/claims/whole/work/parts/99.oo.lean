/-! The reference's acts: label, rule. -/
def sLabel (c : Cs) : Int64 × Cs := match c with
  | (nb, bs, ro, lb, ps, ac, jr, bo, mo, gi, tr, tp, wy, wh, tc, st, ds, dw, bf, ba, bc) => if lb.length < 40 then ((nI lb.length).toInt64, (nb, bs, ro, lb ++ [([], 0)], ps, ac, jr, bo, mo, gi, tr, tp, wy, wh, tc, st, ds, dw, bf, ba, bc)) else (-12, (nb, bs, ro, lb, ps, ac, jr, bo, mo, gi, tr, tp, wy, wh, tc, st, ds, dw, bf, ba, bc))
theorem R0.lbl {nb : Nat} {bs : Nat → Bv} {ro : Nat → Rw} {lb lb' : List Lb} {ps : List (Nat × Int64)} {ac : Nat → Wn} {jr bo : List Ln} {mo : Int32} {gi : Int64} {tr tp wy wh : Int32} {tc : List Int32} {st : List Int64} {ds : List (Nat × Int64)} {dw : Wn} {bf : Nat → Int32} {ba : Wn} {bc : List Nat} {Q Q2 : Mq} {kc : List Int32} (h : R0 (nb, bs, ro, lb, ps, ac, jr, bo, mo, gi, tr, tp, wy, wh, tc, st, ds, dw, bf, ba, bc) Q kc) (j2 : mLs Q2 lb') (f2 : qfr Q Q2 [23, 24, 25, 26, 27, 28, 29, 30, 31, 32]) : R0 (nb, bs, ro, lb', ps, ac, jr, bo, mo, gi, tr, tp, wy, wh, tc, st, ds, dw, bf, ba, bc) Q2 kc := by
  obtain ⟨rB, rR, rK, rA, rC, rJ, rO, rG, rM, rL, rP, rN, rT, rW, rX, rF, rS⟩ := h
  exact ⟨rB.fr f2 (by decide), rR.fr f2 (by decide), rK.fr f2 (by decide), rA.fr f2 (by decide), rC, rJ.fr f2 (by decide) (by decide), rO.fr f2 (by decide) (by decide), (by rw [f2.i 0 (by decide)]; exact rG), (by rw [f2.i 18 (by decide)]; exact rM), j2, rP.fr f2 (by decide), rN.fr f2 (by decide), (by rw [f2.i 38 (by decide)]; exact rT), (by rw [f2.i 40 (by decide)]; exact rW), rX.fr f2 (by decide), (by rw [f2.i 43 (by decide)]; exact rF), fun z => (rS z).fr f2 (by decide)⟩
theorem N_label {c : Cs} {Q : Mq} {kc : List Int32} {t : Nat} (hJ : Jc t c) (h : R0 c Q kc) : zev (mf_label Q) (Post (sLabel (sOpen c))) ∧ Jc (t + 1) (sLabel (sOpen c)).2 := by
  obtain ⟨nb, bs, ro, lb, ps, ac, jr, bo, mo, gi, tr, tp, wy, wh, tc, st, ds, dw, bf, ba, bc⟩ := c
  have hJ0 := hJ.mono (Nat.le_succ t)
  have hJ' := hJ0.opn
  have h1 := h.opn
  have q39 : (qi (qi (qi Q 38 0 (Q.1 38 0 + 1)) 41 0 0) 39 0 0).1 39 0 = 0 := rfl
  unfold mf_label sLabel sOpen
  rw [zev_mbd, zev_eq m_begin]
  dsimp only
  generalize qi (qi (qi Q 38 0 (Q.1 38 0 + 1)) 41 0 0) 39 0 0 = Q1 at h1 q39 ⊢
  have hL : mLs Q1 lb := by obtain ⟨rB, rR, rK, rA, rC, rJ, rO, rG, rM, rL, rP, rN, rT, rW, rX, rF, rS⟩ := h1; exact rL
  have l1 := hL.1
  have l2 := hL.2.1
  rw [l1]
  by_cases c1 : lb.length < 40
  · rw [if_neg (fun z => by have := (nI_eq (show lb.length < 2 ^ 31 by omega) (show 40 < 2 ^ 31 by decide)).mp z; omega), if_pos c1]
    refine ⟨?_, Jc.any hJ0⟩
    simp only [zev_b1, zev_mbd, zev_some, zev_b0, zev_bo, true_and, and_true, mev_si (show lb.length < 2 ^ 31 by omega), mln_2, mln_3, mln_4, mln_5, mln_6, mln_7, mln_8, mln_9, mln_10, mln_11, mln_12, mln_13, mln_15, mln_16, mln_17, mln_24, mln_25, mln_26, mln_27, mln_28, mln_29, mln_30, mln_31, mln_32, mln_34, mln_35, mln_37, mln_42, mln_49, mln_50, mln_51, mln_52, mln_53, mln_54, mln_55, mln_56, mln_57, mln_58, mln_59, mln_61, mln_62, mln_63, mln_65, mln_66, mln_68, mln_70, mln_71, mln_72, mln_73, mln_74, show lb.length < 40 by omega, qi_1, l1, show ¬ (23 = 24) by decide, show ¬ (23 = 25) by decide, false_and, if_false]
    have hF : qfr Q1 (qi (qi (qi Q1 24 lb.length 0) 25 lb.length 0) 23 0 (nI lb.length + 1)) [23, 24, 25, 26, 27, 28, 29, 30, 31, 32] := ((qfr.qi (by decide)).tr0 (qfr.qi (by decide))).tr0 (qfr.qi (by decide))
    have hL2 : mLs (qi (qi (qi Q1 24 lb.length 0) 25 lb.length 0) 23 0 (nI lb.length + 1)) (lb ++ [([], 0)]) := by
      refine ⟨by rw [qi_1, if_pos ⟨rfl, rfl⟩, List.length_append, nI_1]; rfl, by rw [List.length_append]; simp; omega, fun l q hq => ?_⟩
      by_cases hl : l < lb.length
      · rw [List.getElem?_append_left hl] at hq
        obtain ⟨e1, e2, e3, e4, e5⟩ := hL.2.2 l q hq
        refine ⟨by rw [qi_1, if_neg (by omega), qi_1, if_neg (by omega), qi_1, if_neg (by omega)]; exact e1, by rw [qi_1, if_neg (by omega), qi_1, if_neg (by omega), qi_1, if_neg (by omega)]; exact e2, e3, e4, fun i x hx => ?_⟩
        obtain ⟨t, e6, e7⟩ := e5 i x hx
        refine ⟨t, by rw [qi_1, if_neg (by omega), qi_1, if_neg (by omega), qi_1, if_neg (by omega)]; exact e6, mTr.mono (Nat.le_refl _) (fun g hg t _ _ => ?_) _ _ _ _ (Nat.le_refl _) e7⟩
        have : g ≠ 23 ∧ g ≠ 24 ∧ g ≠ 25 := by revert hg; simp; omega
        rw [qi_1, if_neg (by omega), qi_1, if_neg (by omega), qi_1, if_neg (by omega)]
      · rw [List.getElem?_append_right (by omega)] at hq
        have hi2 := (List.getElem?_eq_some_iff.mp hq).1
        simp only [List.length_cons, List.length_nil] at hi2
        have hie : l = lb.length := by omega
        subst hie
        rw [Nat.sub_self] at hq
        cases hq
        refine ⟨by rw [qi_1, if_neg (by omega), qi_1, if_neg (by omega), qi_1, if_pos ⟨rfl, rfl⟩]; rfl, by rw [qi_1, if_neg (by omega), qi_1, if_pos ⟨rfl, rfl⟩]; rfl, by decide, by decide, fun i x hx => by simp at hx⟩
    refine ⟨?_, kc, R0.lbl h1 hL2 hF, ?_⟩
    · dsimp only
      rw [if_pos trivial]
      congr 1
      exact Int32.add_sub_cancel _ _
    · show (qi (qi (qi Q1 24 lb.length 0) 25 lb.length 0) 23 0 (nI lb.length + 1)).1 39 0 = cwy (nI lb.length).toInt64
      rw [hF.i 39 (by decide), q39, cwy_pos (i64_nn (by rw [nI_toInt (by omega)]; omega))]
  · have e : lb.length = 40 := by omega
    rw [e, if_pos (show nI 40 = 40 from rfl), if_neg (by decide)]
    exact ⟨P_no h1 12 rfl (by decide) (by decide) rfl, hJ'⟩
/-- one label's rules are others -/
theorem mLs_put {Q Q' : Mq} {lb : List Lb} {l tt : Nat} {q : Lb} {ys : List (List Lf)} {x : List Lf} (h : mLs Q lb) (hq : lb[l]? = some q) (h20 : q.2 < 20) (ht : tt = 20 * l + q.2) (e23 : Q'.1 23 0 = Q.1 23 0) (e24 : ∀ k, Q'.1 24 k = if k = l then nI (q.2 + 1) else Q.1 24 k) (e25 : ∀ k, Q'.1 25 k = if k = l then nI (ys.length + 1) else Q.1 25 k) (e26 : ∀ k, Q'.1 26 k = if k = 20 * l + ys.length then nI tt else Q.1 26 k) (e27 : ∀ f, f ∈ [27, 28, 29, 30, 31, 32] → ∀ k, k ≠ tt → Q'.1 f k = Q.1 f k) (hy : ∀ (i : Nat) y, ys[i]? = some y → q.1[i]? = some y) (hyl : ys.length ≤ q.2) (hx : mTr Q' (20 * l) (20 * l + (q.2 + 1)) (q.2 + 1) tt x) : mLs Q' (lb.set l (ys ++ [x], q.2 + 1)) := by
  obtain ⟨h1, h2, h3⟩ := h
  have hl := (List.getElem?_eq_some_iff.mp hq).1
  refine ⟨by rw [e23, List.length_set]; exact h1, by rw [List.length_set]; exact h2, fun l' q' hq' => ?_⟩
  by_cases e : l' = l
  · subst e
    rw [List.getElem?_set_self hl] at hq'
    cases hq'
    obtain ⟨a1, a2, a3, a4, a5⟩ := h3 l' q hq
    refine ⟨by rw [e24, if_pos rfl], by rw [e25, if_pos rfl, List.length_append]; rfl, h20, by rw [List.length_append]; simp; omega, fun i y hy' => ?_⟩
    by_cases hi : i < ys.length
    · rw [List.getElem?_append_left hi] at hy'
      obtain ⟨t, b1, b2⟩ := a5 i y (hy i y hy')
      refine ⟨t, by rw [e26, if_neg (by omega)]; exact b1, mTr.mono (by omega) (fun g hg t g1 g2 => e27 g hg t (by omega)) _ _ _ _ (Nat.le_succ _) b2⟩
    · rw [List.getElem?_append_right (by omega)] at hy'
      have hi2 := (List.getElem?_eq_some_iff.mp hy').1
      simp only [List.length_cons, List.length_nil] at hi2
      have hie : i = ys.length := by omega
      subst hie
      rw [Nat.sub_self] at hy'
      cases hy'
      exact ⟨tt, by rw [e26, if_pos rfl], hx⟩
  · rw [List.getElem?_set_ne (fun z => e z.symm)] at hq'
    obtain ⟨a1, a2, a3, a4, a5⟩ := h3 l' q' hq'
    refine ⟨by rw [e24, if_neg e]; exact a1, by rw [e25, if_neg e]; exact a2, a3, a4, fun i y hy' => ?_⟩
    obtain ⟨t, b1, b2⟩ := a5 i y hy'
    have hi := (List.getElem?_eq_some_iff.mp hy').1
    refine ⟨t, by rw [e26, if_neg (by omega)]; exact b1, mTr.mono (Nat.le_refl _) (fun g hg t g1 g2 => e27 g hg t (by omega)) _ _ _ _ (Nat.le_refl _) b2⟩
theorem m_rule257 {Q : Mq} {l n : Nat} (hl : l < 40) (hn : n < 20) (h25 : Q.1 25 l = nI n) (v : Int32) : mf_rule_J257 Q (nI l) v = some (qi (qi Q 26 (20 * l + n) v) 25 l (nI (n + 1)), (nI (n + 1)).toInt64) := by
  refine zev_of ?_
  unfold mf_rule_J257
  simp only [zev_b1, zev_mbd, zev_some, zev_b0, zev_bo, true_and, and_true, mev_ai (show l < 2 ^ 31 by omega), mev_si (show l < 2 ^ 31 by omega), mln_2, mln_3, mln_4, mln_5, mln_6, mln_7, mln_8, mln_9, mln_10, mln_11, mln_12, mln_13, mln_15, mln_16, mln_17, mln_24, mln_25, mln_26, mln_27, mln_28, mln_29, mln_30, mln_31, mln_32, mln_34, mln_35, mln_37, mln_42, mln_49, mln_50, mln_51, mln_52, mln_53, mln_54, mln_55, mln_56, mln_57, mln_58, mln_59, mln_61, mln_62, mln_63, mln_65, mln_66, mln_68, mln_70, mln_71, mln_72, mln_73, mln_74, show l < 40 by omega, h25, nI_x4, nI_x5, nI_x13, nI_x16, nI_x20, nI_x60, nI_x100, nI_x48r, nI_add, nI_1, mev_si (show 20 * l + n < 2 ^ 31 by omega), show 20 * l + n < 800 by omega, qi_1, show ¬ (25 = 26) by decide, false_and, if_false, and_self, if_true]
theorem m_rule132 {Q : Mq} {lb : List Lb} {l : Nat} {q : Lb} (h : mLs Q lb) (hq : lb[l]? = some q) (h20 : q.2 < 20) (op d v hd : Int32) (h6 : op ≠ 6) {x : Lf} (hx : lfok x) (x1 : op = nI x.1) (x2 : d = nI x.2.1) (x3 : v = nI x.2.2.1) (x4 : hd = nI x.2.2.2) : zev (mf_rule_J132 Q (nI l) op d v hd) (fun y => y.2 = (nI (q.1.length + 1)).toInt64 ∧ mLs y.1 (lb.set l (q.1 ++ [[x]], q.2 + 1)) ∧ qfr Q y.1 [23, 24, 25, 26, 27, 28, 29, 30, 31, 32]) := by
  have hl := (List.getElem?_eq_some_iff.mp hq).1
  have hl40 := h.2.1
  obtain ⟨a1, a2, a3, a4, a5⟩ := h.2.2 l q hq
  unfold mf_rule_J132
  simp only [zev_b1, zev_mbd, zev_some, zev_b0, zev_bo, true_and, and_true, mev_ai (show l < 2 ^ 31 by omega), mev_si (show l < 2 ^ 31 by omega), mln_2, mln_3, mln_4, mln_5, mln_6, mln_7, mln_8, mln_9, mln_10, mln_11, mln_12, mln_13, mln_15, mln_16, mln_17, mln_24, mln_25, mln_26, mln_27, mln_28, mln_29, mln_30, mln_31, mln_32, mln_34, mln_35, mln_37, mln_42, mln_49, mln_50, mln_51, mln_52, mln_53, mln_54, mln_55, mln_56, mln_57, mln_58, mln_59, mln_61, mln_62, mln_63, mln_65, mln_66, mln_68, mln_70, mln_71, mln_72, mln_73, mln_74, show l < 40 by omega, a1, nI_x4, nI_x5, nI_x13, nI_x16, nI_x20, nI_x60, nI_x100, nI_x48r, nI_add, nI_1, mev_si (show 20 * l + q.2 < 2 ^ 31 by omega), show 20 * l + q.2 < 800 by omega, if_neg h6]
  have hF : qfr Q (qi (qi (qi (qi (qi Q 24 l (nI (q.2 + 1))) 27 (20 * l + q.2) op) 28 (20 * l + q.2) d) 29 (20 * l + q.2) v) 30 (20 * l + q.2) hd) [23, 24, 25, 26, 27, 28, 29, 30, 31, 32] := ((((qfr.qi (by decide)).tr0 (qfr.qi (by decide))).tr0 (qfr.qi (by decide))).tr0 (qfr.qi (by decide))).tr0 (qfr.qi (by decide))
  have g24 : ∀ k, (qi (qi (qi (qi (qi Q 24 l (nI (q.2 + 1))) 27 (20 * l + q.2) op) 28 (20 * l + q.2) d) 29 (20 * l + q.2) v) 30 (20 * l + q.2) hd).1 24 k = if k = l then nI (q.2 + 1) else Q.1 24 k := fun k => by simp [qi_1]
  have g25 : ∀ k, (qi (qi (qi (qi (qi Q 24 l (nI (q.2 + 1))) 27 (20 * l + q.2) op) 28 (20 * l + q.2) d) 29 (20 * l + q.2) v) 30 (20 * l + q.2) hd).1 25 k = Q.1 25 k := fun k => by simp [qi_1]
  have g26 : ∀ k, (qi (qi (qi (qi (qi Q 24 l (nI (q.2 + 1))) 27 (20 * l + q.2) op) 28 (20 * l + q.2) d) 29 (20 * l + q.2) v) 30 (20 * l + q.2) hd).1 26 k = Q.1 26 k := fun k => by simp [qi_1]
  have g23 : (qi (qi (qi (qi (qi Q 24 l (nI (q.2 + 1))) 27 (20 * l + q.2) op) 28 (20 * l + q.2) d) 29 (20 * l + q.2) v) 30 (20 * l + q.2) hd).1 23 0 = Q.1 23 0 := by simp [qi_1]
  have g27 : ∀ f, f ∈ [27, 28, 29, 30, 31, 32] → ∀ k, k ≠ 20 * l + q.2 → (qi (qi (qi (qi (qi Q 24 l (nI (q.2 + 1))) 27 (20 * l + q.2) op) 28 (20 * l + q.2) d) 29 (20 * l + q.2) v) 30 (20 * l + q.2) hd).1 f k = Q.1 f k := fun f hf k hk => by
    have : f ≠ 24 := by revert hf; simp; omega
    rw [qi_1, if_neg (fun z => hk z.2), qi_1, if_neg (fun z => hk z.2), qi_1, if_neg (fun z => hk z.2), qi_1, if_neg (fun z => hk z.2), qi_1, if_neg (fun z => this z.1)]
  have t27 : (qi (qi (qi (qi (qi Q 24 l (nI (q.2 + 1))) 27 (20 * l + q.2) op) 28 (20 * l + q.2) d) 29 (20 * l + q.2) v) 30 (20 * l + q.2) hd).1 27 (20 * l + q.2) = op := by simp [qi_1]
  have t28 : (qi (qi (qi (qi (qi Q 24 l (nI (q.2 + 1))) 27 (20 * l + q.2) op) 28 (20 * l + q.2) d) 29 (20 * l + q.2) v) 30 (20 * l + q.2) hd).1 28 (20 * l + q.2) = d := by simp [qi_1]
  have t29 : (qi (qi (qi (qi (qi Q 24 l (nI (q.2 + 1))) 27 (20 * l + q.2) op) 28 (20 * l + q.2) d) 29 (20 * l + q.2) v) 30 (20 * l + q.2) hd).1 29 (20 * l + q.2) = v := by simp [qi_1]
  have t30 : (qi (qi (qi (qi (qi Q 24 l (nI (q.2 + 1))) 27 (20 * l + q.2) op) 28 (20 * l + q.2) d) 29 (20 * l + q.2) v) 30 (20 * l + q.2) hd).1 30 (20 * l + q.2) = hd := by simp [qi_1]
  generalize qi (qi (qi (qi (qi Q 24 l (nI (q.2 + 1))) 27 (20 * l + q.2) op) 28 (20 * l + q.2) d) 29 (20 * l + q.2) v) 30 (20 * l + q.2) hd = Q1 at hF g24 g25 g26 g23 g27 t27 t28 t29 t30 ⊢
  rw [zev_eq (m_rule257 (show l < 40 by omega) (show q.1.length < 20 by omega) ((g25 l).trans a2) _)]
  refine ⟨rfl, ?_, (hF.tr0 (qfr.qi (by decide))).tr0 (qfr.qi (by decide))⟩
  refine mLs_put (tt := 20 * l + q.2) h hq h20 rfl ?_ (fun k => ?_) (fun k => ?_) (fun k => ?_) (fun f hf k hk => ?_) (fun i y hy => hy) a4 ?_
  · simp [qi_1, g23]
  · simp [qi_1, g24]
  · simp [qi_1, g25]
  · simp [qi_1, g26]
  · have : f ≠ 25 ∧ f ≠ 26 := by revert hf; simp; omega
    rw [qi_1, if_neg (fun z => this.1 z.1), qi_1, if_neg (fun z => this.2 z.1)]
    exact g27 f hf k hk
  · refine ⟨⟨by omega, by omega⟩, Or.inl ⟨x, rfl, hx, ?_, ?_, ?_, ?_⟩⟩
    · simp [qi_1, t27, x1]
    · simp [qi_1, t28, x2]
    · simp [qi_1, t29, x3]
    · simp [qi_1, t30, x4]
