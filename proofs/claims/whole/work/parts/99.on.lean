/-! The reference's acts: partAt, amountAt, room, undo. -/
theorem lkp_n {nb : Nat} {bs : Nat → Bv} {b i : Int32} (h : lkp nb bs b i ≠ 0) : lkp nb bs b i = 2 ∨ lkp nb bs b i = 3 ∨ lkp nb bs b i = 4 := by
  unfold lkp at h ⊢
  by_cases h1 : lkv nb bs b = 0
  · rw [if_pos h1] at h ⊢
    by_cases h2 : nI (bs b.toNatClampNeg).2.1.2.2.2.length = 0
    · rw [if_pos h2]; exact Or.inl rfl
    · rw [if_neg h2] at h ⊢
      by_cases h3 : i < 0
      · rw [if_pos h3]; exact Or.inr (Or.inl rfl)
      · rw [if_neg h3] at h ⊢
        by_cases h4 : i < nI (bs b.toNatClampNeg).2.1.2.2.2.length
        · rw [if_pos h4] at h; exact absurd rfl h
        · rw [if_neg h4]; exact Or.inr (Or.inl rfl)
  · rw [if_neg h1]
    exact lkv_n h1
theorem m_lookedPart {Q : Mq} {nb : Nat} {bs : Nat → Bv} (h : mBs Q nb bs) (hn : nb ≤ 1000) (b i : Int32) : mf_lookedPart Q b i = some (Q, lkp nb bs b i) := by
  refine zev_of ?_
  unfold mf_lookedPart mf_lookedPart_J37 lkp
  rw [zev_mbd, zev_eq (m_lookedV h hn b)]
  dsimp only
  by_cases h1 : lkv nb bs b = 0
  · obtain ⟨n, hn1, rfl, h5⟩ := lkv_0 hn h1
    rw [h1, if_pos (show (0 : Int32) ≤ 0 by decide), if_pos rfl, nI_clamp (show n < 2 ^ 31 by omega)]
    simp only [zev_b1, zev_mbd, zev_some, zev_b0, zev_bo, true_and, and_true, mev_ai (show n < 2 ^ 31 by omega), mln_2, mln_3, mln_4, mln_5, mln_6, mln_7, mln_8, mln_9, mln_10, mln_11, mln_12, mln_13, mln_15, mln_16, mln_17, mln_24, mln_25, mln_26, mln_27, mln_28, mln_29, mln_30, mln_31, mln_32, mln_34, mln_35, mln_37, mln_42, mln_49, mln_50, mln_51, mln_52, mln_53, mln_54, mln_55, mln_56, mln_57, mln_58, mln_59, mln_61, mln_62, mln_63, mln_65, mln_66, mln_68, mln_70, mln_71, mln_72, mln_73, mln_74, show n < 1000 by omega, h.ln hn1]
    by_cases h2 : nI (bs n).2.1.2.2.2.length = 0
    · simp only [if_pos h2, zev_b1, zev_mbd, zev_some, zev_b0, zev_bo, true_and, and_true]
    · rw [if_neg h2, if_neg h2]
      by_cases h3 : i < 0
      · simp only [if_pos h3, zev_b1, zev_mbd, zev_some, zev_b0, zev_bo, true_and, and_true]
      · rw [if_neg h3, if_neg h3]
        simp only [zev_b1, zev_mbd, zev_some, zev_b0, zev_bo, true_and, and_true, mev_ai (show n < 2 ^ 31 by omega), mln_2, mln_3, mln_4, mln_5, mln_6, mln_7, mln_8, mln_9, mln_10, mln_11, mln_12, mln_13, mln_15, mln_16, mln_17, mln_24, mln_25, mln_26, mln_27, mln_28, mln_29, mln_30, mln_31, mln_32, mln_34, mln_35, mln_37, mln_42, mln_49, mln_50, mln_51, mln_52, mln_53, mln_54, mln_55, mln_56, mln_57, mln_58, mln_59, mln_61, mln_62, mln_63, mln_65, mln_66, mln_68, mln_70, mln_71, mln_72, mln_73, mln_74, show n < 1000 by omega, h.ln hn1]
        by_cases h4 : i < nI (bs n).2.1.2.2.2.length
        · simp only [if_pos h4, zev_b1, zev_mbd, zev_some, zev_b0, zev_bo, true_and, and_true]
        · simp only [if_neg h4, zev_b1, zev_mbd, zev_some, zev_b0, zev_bo, true_and, and_true]
  · rw [if_neg h1]
    have : ¬ lkv nb bs b ≤ 0 := by rcases lkv_n h1 with e | e | e <;> rw [e] <;> decide
    rw [if_neg this, zev_some]
theorem N_partAt {c : Cs} {Q : Mq} {kc : List Int32} {t : Nat} (hJ : Jc t c) (h : R0 c Q kc) (b i : Int32) : zev (mf_partAt Q b i) (Post (sPartAt b i (sOpen c))) ∧ Jc (t + 1) (sPartAt b i (sOpen c)).2 := by
  obtain ⟨nb, bs, ro, lb, ps, ac, jr, bo, mo, gi, tr, tp, wy, wh, tc, st, ds, dw, bf, ba, bc⟩ := c
  have hJ' := (hJ.mono (Nat.le_succ t)).opn
  obtain ⟨jI, jR, jP, jJ, jB, jG, jF, jU⟩ := hJ
  have hN := jI.1
  have h1 := h.opn
  have q39 : (qi (qi (qi Q 38 0 (Q.1 38 0 + 1)) 41 0 0) 39 0 0).1 39 0 = 0 := rfl
  unfold mf_partAt sPartAt sOpen
  rw [zev_mbd, zev_eq m_begin]
  dsimp only
  generalize qi (qi (qi Q 38 0 (Q.1 38 0 + 1)) 41 0 0) 39 0 0 = Q1 at h1 q39 ⊢
  refine ⟨?_, hJ'⟩
  rw [zev_mbd, zev_eq (m_lookedPart h1.1 hN b i)]
  dsimp only
  by_cases c1 : lkp nb bs b i = 0
  · obtain ⟨n, j, hn, rfl, rfl, hj, hl⟩ := lkp_0 hN c1
    have hw := jI.w hn
    have hl60 := hw.2.2.1
    have hl2 := (nI_ltI hj (show (bs n).2.1.2.2.2.length < 2 ^ 31 by omega)).mp hl
    obtain ⟨q, hq⟩ := getElem?_lt hl2
    rw [c1, if_pos (show (0 : Int32) ≤ 0 by decide), if_pos rfl, nI_clamp (show n < 2 ^ 31 by omega), nI_clamp hj, hq]
    simp only [zev_b1, zev_mbd, zev_some, zev_b0, zev_bo, true_and, and_true, nI_x4, nI_x5, nI_x13, nI_x16, nI_x20, nI_x60, nI_x100, nI_x48r, nI_add, nI_1, mev_ai (show 60 * n + j < 2 ^ 31 by omega), mln_2, mln_3, mln_4, mln_5, mln_6, mln_7, mln_8, mln_9, mln_10, mln_11, mln_12, mln_13, mln_15, mln_16, mln_17, mln_24, mln_25, mln_26, mln_27, mln_28, mln_29, mln_30, mln_31, mln_32, mln_34, mln_35, mln_37, mln_42, mln_49, mln_50, mln_51, mln_52, mln_53, mln_54, mln_55, mln_56, mln_57, mln_58, mln_59, mln_61, mln_62, mln_63, mln_65, mln_66, mln_68, mln_70, mln_71, mln_72, mln_73, mln_74, show 60 * n + j < 60000 by omega, (h1.1.wi hn hq).1]
    refine ⟨rfl, kc, h1, ?_⟩
    have hc := hw.2.1 q (List.mem_of_getElem? hq)
    show Q1.1 39 0 = cwy q.1.toInt64
    rw [q39, cwy_pos (i64_nn hc.1)]
  · rw [if_neg c1]
    obtain ⟨p1, p2⟩ := P_rs (a := (-(lkp nb bs b i)).toInt64) h1 (by rcases lkp_n c1 with e | e | e <;> simp only [e] <;> decide) rfl
    rw [if_neg p1]
    exact p2
theorem N_amountAt {c : Cs} {Q : Mq} {kc : List Int32} {t : Nat} (hJ : Jc t c) (h : R0 c Q kc) (b i : Int32) : zev (mf_amountAt Q b i) (Post (sAmountAt b i (sOpen c))) ∧ Jc (t + 1) (sAmountAt b i (sOpen c)).2 := by
  obtain ⟨nb, bs, ro, lb, ps, ac, jr, bo, mo, gi, tr, tp, wy, wh, tc, st, ds, dw, bf, ba, bc⟩ := c
  have hJ' := (hJ.mono (Nat.le_succ t)).opn
  obtain ⟨jI, jR, jP, jJ, jB, jG, jF, jU⟩ := hJ
  have hN := jI.1
  have h1 := h.opn
  have q39 : (qi (qi (qi Q 38 0 (Q.1 38 0 + 1)) 41 0 0) 39 0 0).1 39 0 = 0 := rfl
  unfold mf_amountAt sAmountAt sOpen
  rw [zev_mbd, zev_eq m_begin]
  dsimp only
  generalize qi (qi (qi Q 38 0 (Q.1 38 0 + 1)) 41 0 0) 39 0 0 = Q1 at h1 q39 ⊢
  refine ⟨?_, hJ'⟩
  rw [zev_mbd, zev_eq (m_lookedPart h1.1 hN b i)]
  dsimp only
  by_cases c1 : lkp nb bs b i = 0
  · obtain ⟨n, j, hn, rfl, rfl, hj, hl⟩ := lkp_0 hN c1
    have hw := jI.w hn
    have hl60 := hw.2.2.1
    have hl2 := (nI_ltI hj (show (bs n).2.1.2.2.2.length < 2 ^ 31 by omega)).mp hl
    obtain ⟨q, hq⟩ := getElem?_lt hl2
    rw [c1, if_pos (show (0 : Int32) ≤ 0 by decide), if_pos rfl, nI_clamp (show n < 2 ^ 31 by omega), nI_clamp hj, hq]
    simp only [zev_b1, zev_mbd, zev_some, zev_b0, zev_bo, true_and, and_true, nI_x4, nI_x5, nI_x13, nI_x16, nI_x20, nI_x60, nI_x100, nI_x48r, nI_add, nI_1, mev_aj (show 60 * n + j < 2 ^ 31 by omega), mln_2, mln_3, mln_4, mln_5, mln_6, mln_7, mln_8, mln_9, mln_10, mln_11, mln_12, mln_13, mln_15, mln_16, mln_17, mln_24, mln_25, mln_26, mln_27, mln_28, mln_29, mln_30, mln_31, mln_32, mln_34, mln_35, mln_37, mln_42, mln_49, mln_50, mln_51, mln_52, mln_53, mln_54, mln_55, mln_56, mln_57, mln_58, mln_59, mln_61, mln_62, mln_63, mln_65, mln_66, mln_68, mln_70, mln_71, mln_72, mln_73, mln_74, show 60 * n + j < 60000 by omega, (h1.1.wi hn hq).2]
    refine ⟨rfl, kc, h1, ?_⟩
    have hc := hw.2.2.2.1 q (List.mem_of_getElem? hq)
    show Q1.1 39 0 = cwy q.2
    rw [q39, cwy_pos (by rw [i64_le]; exact Int.le_of_lt hc)]
  · rw [if_neg c1]
    obtain ⟨p1, p2⟩ := P_rs (a := (-(lkp nb bs b i)).toInt64) h1 (by rcases lkp_n c1 with e | e | e <;> simp only [e] <;> decide) rfl
    rw [if_neg p1]
    exact p2
/-- there is never more in a barrel than it takes -/
theorem Ic.rom {nb n : Nat} {bs : Nat → Bv} {ro : Nat → Rw} {ac : Nat → Wn} (h : Ic nb bs ro ac) (hn : n < nb) : ∃ a b : Nat, b ≤ a ∧ a ≤ 4000000000 ∧ btak bs (bs n) = lN a ∧ bhas bs (bs n) = lN b := by
  have hB := h.2.1 n hn
  by_cases e : (bs n).1.1 = 5
  · have key : ∀ (ms : List Nat) (a b : Nat), (∀ m, m ∈ ms → m < nb ∧ (bs m).1.1 ≠ 5) → b ≤ a → ∃ a' b', b' ≤ a' ∧ a' ≤ a + 1000000000 * ms.length ∧ ms.foldl (fun a m => a + vt (bs m).1) (lN a) = lN a' ∧ ms.foldl (fun a m => a + wsum (bs m).2.1.2.2.2) (lN b) = lN b' := by
      intro ms
      induction ms with
      | nil => intro a b _ hab; exact ⟨a, b, hab, by simp, rfl, rfl⟩
      | cons m r ih =>
        intro a b hm hab
        obtain ⟨m1, m2⟩ := hm m List.mem_cons_self
        obtain ⟨x, x1, x2, x3, x4⟩ := vt_i h m1 m2
        have hv : vt (bs m).1 = lN x := (btak_v m2).symm.trans x2
        obtain ⟨a', b', i1, i2, i3, i4⟩ := ih (a + x) (b + nT (bs m).2.1.2.2.2) (fun z hz => hm z (List.mem_cons_of_mem _ hz)) (by omega)
        refine ⟨a', b', i1, by rw [List.length_cons]; omega, ?_, ?_⟩
        · rw [List.foldl_cons, hv, lN_add]; exact i3
        · rw [List.foldl_cons, h.sum m1, lN_add]; exact i4
    have hml := h.ml n hn
    obtain ⟨a, b, i1, i2, i3, i4⟩ := key (bms (bs n)) 0 0 (h.mem n hn) (Nat.le_refl _)
    refine ⟨a, b, i1, by omega, ?_, ?_⟩
    · unfold btak; rw [if_pos e]; exact i3
    · unfold bhas; rw [hB.2.2.2.1.2.2.2.2.2 e]; exact i4
  · obtain ⟨x, x1, x2, x3, x4⟩ := vt_i h hn e
    refine ⟨x, nT (bs n).2.1.2.2.2, x4, by omega, x2, ?_⟩
    unfold bhas
    rw [hB.2.2.2.2.1 e]
    exact h.sum hn
theorem N_room {c : Cs} {Q : Mq} {kc : List Int32} {t : Nat} (hJ : Jc t c) (h : R0 c Q kc) (b : Int32) : zev (mf_room Q b) (Post (sRoom b (sOpen c))) ∧ Jc (t + 1) (sRoom b (sOpen c)).2 := by
  obtain ⟨nb, bs, ro, lb, ps, ac, jr, bo, mo, gi, tr, tp, wy, wh, tc, st, ds, dw, bf, ba, bc⟩ := c
  have hJ0 := hJ.mono (Nat.le_succ t)
  have hJ' := hJ0.opn
  obtain ⟨jI, jR, jP, jJ, jB, jG, jF, jU⟩ := hJ
  have hN := jI.1
  have h1 := h.opn
  have q39 : (qi (qi (qi Q 38 0 (Q.1 38 0 + 1)) 41 0 0) 39 0 0).1 39 0 = 0 := rfl
  unfold mf_room sRoom sOpen
  rw [zev_mbd, zev_eq m_begin]
  dsimp only
  generalize qi (qi (qi Q 38 0 (Q.1 38 0 + 1)) 41 0 0) 39 0 0 = Q1 at h1 q39 ⊢
  rw [zev_mbd, zev_eq (m_looked h1.1 b)]
  dsimp only
  by_cases c4 : lk nb b = 0
  · obtain ⟨n, hn, rfl⟩ := lk_0 hN c4
    rw [c4, if_pos (show (0 : Int32) ≤ 0 by decide), if_pos rfl, nI_clamp (show n < 2 ^ 31 by omega), zev_mbd]
    have hTc : mTc Q1 [] := by obtain ⟨rB, rR, rK, rA, rC, rJ, rO, rG, rM, rL, rP, rN, rT, rW, rX, rF, rS⟩ := h1; exact rX
    obtain ⟨ra, rb, r1, r2, r3, r4⟩ := jI.rom hn
    have hB := jI.2.1 n hn
    unfold sTc
    dsimp only
    refine ⟨?_, Jc.any hJ0⟩
    refine zev_mono (m_most h1.1 hTc hN hn jI.kd jI.mem (jI.ml n hn).1 (jI.ml n hn).2) ?_
    rintro ⟨Q2, u⟩ ⟨e2, t2, f2⟩
    dsimp only at e2 t2 f2 ⊢
    have rr := R0.tcS (ds' := ds) (dw' := dw) h1 f2 (by decide) t2
    rw [zev_mbd, zev_eq (m_inAll rr.1 hN hn jI.i60 jI.mem (jI.ml n hn).1 (jI.ml n hn).2 hB.2.2.2.1.2.2.2.2.2 hB.2.2.2.2.1)]
    dsimp only
    rw [zev_some, e2]
    refine ⟨rfl, kc, rr, ?_⟩
    show Q2.1 39 0 = cwy (btak bs (bs n) - bhas bs (bs n))
    rw [f2.i 39 (by decide), q39, r3, r4, lN_sub r1, cwy_N (by omega)]
  · rw [if_neg c4]
    obtain ⟨p1, p2⟩ := P_lk (a := (-(lk nb b)).toInt64) h1 c4 rfl
    rw [if_neg p1]
    exact ⟨p2, hJ'⟩
theorem mJl.tk {Q Q' : Mq} {f c : Nat} {ls : List Ln} {n : Nat} (h : mJl Q f c ls) (hn : n ≤ ls.length) (h1 : Q'.1 c 0 = nI n) (h2 : Q'.2 f = Q.2 f) : mJl Q' f c (ls.take n) := by
  refine ⟨by rw [h1, List.length_take, Nat.min_eq_left hn], fun i q hq => ?_⟩
  rw [h2]
  refine h.2 i q ?_
  rw [List.getElem?_take] at hq
  split at hq
  · exact hq
  · cases hq
theorem N_undo {c : Cs} {Q : Mq} {kc : List Int32} {t : Nat} (hJ : Jc t c) (ht : t < 512) (h : R0 c Q kc) : zev (mf_undo Q) (Post (sUndo (sOpen c))) ∧ Jc (t + 1) (sUndo (sOpen c)).2 := by
  obtain ⟨nb, bs, ro, lb, ps, ac, jr, bo, mo, gi, tr, tp, wy, wh, tc, st, ds, dw, bf, ba, bc⟩ := c
  have hJ0 := hJ.mono (Nat.le_succ t)
  have hJ' := hJ0.opn
  obtain ⟨jI, jR, jP, jJ, jB, ⟨gn, jG1, jG2⟩, jF, jU⟩ := hJ
  have hN := jI.1
  have h1 := h.opn
  have q39 : (qi (qi (qi Q 38 0 (Q.1 38 0 + 1)) 41 0 0) 39 0 0).1 39 0 = 0 := rfl
  unfold mf_undo sUndo sOpen
  rw [zev_mbd, zev_eq m_begin]
  dsimp only
  generalize qi (qi (qi Q 38 0 (Q.1 38 0 + 1)) 41 0 0) 39 0 0 = Q1 at h1 q39 ⊢
  have hbf : Q1.1 43 0 = bf 0 := by obtain ⟨rB, rR, rK, rA, rC, rJ, rO, rG, rM, rL, rP, rN, rT, rW, rX, rF, rS⟩ := h1; exact rF
  rw [hbf]
  by_cases c1 : bf 0 = 0
  · rw [if_pos c1, if_pos c1]
    exact ⟨P_no h1 14 rfl (by decide) (by decide) rfl, hJ'⟩
  rw [if_neg c1, if_neg c1]
  obtain ⟨⟨⟨n1, hn1, en1⟩, ⟨j3, hj3, e3⟩, ⟨j4, hj4, e4⟩, -, -, hbc⟩, u3, u4, uI, uR⟩ := jU c1
  refine ⟨?_, uI, uR, ⟨fun q hq => by simp at hq, fun i j q r hi => by simp at hi, by decide⟩, by rw [List.length_take]; omega, by rw [List.length_take]; omega, ⟨gn, by omega, jG2⟩, Or.inl rfl, fun z => absurd rfl z⟩
  have en1' : (bf 1).toNatClampNeg = n1 := by rw [en1, nI_clamp (by omega)]
  obtain ⟨rB, rR, rK, rA, rC, rJ, rO, rG, rM, rL, rP, rN, rT, rW, rX, rF, rS⟩ := h1
  have rS1 := rS c1
  rw [zev_b1, zev_some, zev_mbd]
  have f2 : qfr Q1 (qi Q1 43 0 0) [43] := qfr.qi (by decide)
  have z2 : (qi Q1 43 0 0).1 43 0 = 0 := rfl
  generalize qi Q1 43 0 0 = Q2 at f2 z2 ⊢
  refine zev_mono (m_takeBack (jl1 := jr.length) (bl1 := bo.length) (rB.fr f2 (by decide)) (rK.fr f2 (by decide)) (rA.fr f2 (by decide)) (rS1.fr f2 (by decide)) (by rw [en1']; exact hn1) hN (fun b hb => ?_) uI.i60 uI.ml (by rw [f2.i 19 (by decide)]; exact rJ.1) (by rw [f2.i 21 (by decide)]; exact rO.1) u3 u4 (by omega) (by omega)) ?_
  · unfold sres
    split <;> rfl
  · rintro ⟨Q3, u⟩ ⟨b3, s3, k3, a3, m3, x3, y3, f3⟩
    dsimp only at b3 s3 k3 a3 m3 x3 y3 f3 ⊢
    rw [zev_b1, zev_some, zev_some]
    have f4 : qfr Q3 (qi Q3 33 0 0) [33] := qfr.qi (by decide)
    have z4 : (qi Q3 33 0 0).1 33 0 = 0 := rfl
    generalize qi Q3 33 0 0 = Q4 at f4 z4 ⊢
    have F : qfr Q1 Q4 [43, 1, 4, 5, 6, 7, 8, 9, 10, 11, 12, 13, 17, 18, 19, 21, 33] := ((f2.mono (by decide)).tr0 (f3.mono (by decide))).tr0 (f4.mono (by decide))
    obtain ⟨n, -, hnk, -, sc⟩ := rS1.2.2.2.2.2.2
    refine ⟨rfl, kc, ⟨b3.fr f4 (by decide), s3.fr f4 (by decide), k3.fr f4 (by decide), a3.fr f4 (by decide), ⟨fun h hh q hq => List.mem_of_mem_take (sc.1 h hh q hq), fun b hb q hq => List.mem_of_mem_take (sc.2 b hb q hq)⟩, mJl.tk rJ u3 (by rw [f4.i 19 (by decide)]; exact x3) (F.j 20 (by decide)), mJl.tk rO u4 (by rw [f4.i 21 (by decide)]; exact y3) (F.j 22 (by decide)), by rw [F.i 0 (by decide)]; exact rG, by rw [f4.i 18 (by decide)]; exact m3, rL.fr F (by decide), ⟨z4, by decide, fun i q hq => by simp at hq⟩, rN.fr F (by decide), by rw [F.i 38 (by decide)]; exact rT, by rw [F.i 40 (by decide)]; exact rW, rX.fr F (by decide), by rw [f4.i 43 (by decide), f3.i 43 (by decide)]; exact z2, fun z => absurd rfl z⟩, ?_⟩
    show Q4.1 39 0 = cwy 1
    rw [F.i 39 (by decide), q39]
    rfl
