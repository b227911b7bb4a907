/-! The reference's acts: judge. -/
def jmix (bs : Nat → Bv) (x : Bv) : Wn := (bms x).foldl (fun l m => wmel l (bs m).2.1.2.2.2) (wmel [] x.2.1.2.2.2)
theorem jmix_fold (bs : Nat → Bv) (i : Nat) : ∀ (ms : List Nat) (s : Nat → Int64) (l : Wn), s i = tsm 0 l i → ms.foldl (fun s m => tadd s 0 (bs m).2.1.2.2.2) s i = tsm 0 (ms.foldl (fun l m => wmel l (bs m).2.1.2.2.2) l) i
  | [], _, _, h => h
  | m :: r, s, l, h => by
    rw [List.foldl_cons, List.foldl_cons]
    refine jmix_fold bs i r _ _ ?_
    rw [tadd_s, tsm_wmel, h]
theorem jH_mix (bs : Nat → Bv) (x : Bv) (i : Nat) (hi : i < 48) : jH bs x i = tsm 0 (jmix bs x) i := by
  have e : jH bs x i = 0 + balo bs x (fun _ => 0) (48 * 0 + i) := rfl
  rw [e, Int64.zero_add, Nat.mul_zero, Nat.zero_add]
  unfold balo jmix
  refine jmix_fold bs i _ _ _ ?_
  rw [tadd_s, tsm_wmel]
  unfold tclr
  rw [if_pos (by omega)]
  rfl
theorem jmix_cod {bs : Nat → Bv} : ∀ (ms : List Nat) (l : Wn), wcod l → (∀ m, m ∈ ms → wcod (bs m).2.1.2.2.2) → wcod (ms.foldl (fun l m => wmel l (bs m).2.1.2.2.2) l)
  | [], _, h, _ => h
  | m :: r, l, h, hm => jmix_cod r _ (wmel_cod _ _ h (hm m List.mem_cons_self)) (fun z hz => hm z (List.mem_cons_of_mem _ hz))
theorem jmix_len {bs : Nat → Bv} : ∀ (ms : List Nat) (l : Wn), (∀ m, m ∈ ms → (bs m).2.1.2.2.2.length ≤ 60) → (ms.foldl (fun l m => wmel l (bs m).2.1.2.2.2) l).length ≤ l.length + 60 * ms.length
  | [], _, _ => Nat.le_refl _
  | m :: r, l, hm => by
    have h1 := jmix_len r (wmel l (bs m).2.1.2.2.2) (fun z hz => hm z (List.mem_cons_of_mem _ hz))
    have h2 := wmel_ln (bs m).2.1.2.2.2 l
    have h3 := hm m List.mem_cons_self
    rw [List.foldl_cons, List.length_cons]
    omega
theorem m_judge58 {Q : Mq} {nb b : Nat} {bs : Nat → Bv} {ro : Nat → Rw} {ac : Nat → Wn} {lm : Wn} (l2 : Int32) (h : mBs Q nb bs) (hM : mMx Q lm) (hI : Ic nb bs ro ac) (hb : b < nb) (hl : lm.length ≤ 60) : zev (zwhile (mf_judge_L58 (nI b) l2) (Q, 0)) (fun y => mMx y.1 ((bms (bs b)).foldl (fun l m => wmel l (bs m).2.1.2.2.2) lm) ∧ qfr Q y.1 [64, 65, 66]) := by
  have hN := hI.1
  obtain ⟨hml, hm4⟩ := hI.ml b hb
  refine zev_up (τ := Mq × Int32) (fun i (z : Mq × Int32) => ∃ Q1, z = (Q1, nI i) ∧ mMx Q1 (((bms (bs b)).take i).foldl (fun l m => wmel l (bs m).2.1.2.2.2) lm) ∧ qfr Q Q1 [64, 65, 66]) (bms (bs b)).length (Nat.zero_le _) ⟨Q, rfl, hM, qfr.rf⟩ ?_ ?_
  · rintro i z hi ⟨Q1, rfl, m1, f1⟩
    obtain ⟨m, hm⟩ := getElem?_lt hi
    have hB := h.fr f1 (by decide)
    have hmm := hI.mem b hb m (List.mem_of_getElem? hm)
    have hw := hI.w hmm.1
    have hlen := jmix_len (bs := bs) ((bms (bs b)).take i) lm (fun z hz => (hI.w (hI.mem b hb z (List.mem_of_mem_take hz)).1).2.2.1)
    rw [List.length_take] at hlen
    unfold mf_judge_L58
    simp only [zev_b1, zev_mbd, zev_some, zev_b0, zev_bo, true_and, and_true, mev_ai (show b < 2 ^ 31 by omega), mln_2, mln_3, mln_4, mln_5, mln_6, mln_7, mln_8, mln_9, mln_10, mln_11, mln_12, mln_13, mln_15, mln_16, mln_17, mln_24, mln_25, mln_26, mln_27, mln_28, mln_29, mln_30, mln_31, mln_32, mln_34, mln_35, mln_37, mln_42, mln_49, mln_50, mln_51, mln_52, mln_53, mln_54, mln_55, mln_56, mln_57, mln_58, mln_59, mln_61, mln_62, mln_63, mln_65, mln_66, mln_68, mln_70, mln_71, mln_72, mln_73, mln_74, show b < 1000 by omega, hB.mc hb, ← hml, if_neg (nI_ge hi (by omega)), nI_x4, nI_x5, nI_x13, nI_x16, nI_x20, nI_x60, nI_x100, nI_x48r, nI_add, nI_1, mev_ai (show 4 * b + i < 2 ^ 31 by omega), show 4 * b + i < 4000 by omega, hB.me hb hm]
    refine zev_mono (m_mixVessel hB m1 hN hmm.1 hw.2.2.1 (by omega)) ?_
    rintro ⟨Q2, u⟩ ⟨m2, f2⟩
    dsimp only at m2 f2 ⊢
    refine ⟨_, rfl, Q2, rfl, ?_, f1.tr0 f2⟩
    rw [take_snoc hm, List.foldl_append]
    exact m2
  · rintro z ⟨Q1, rfl, m1, f1⟩
    have hB := h.fr f1 (by decide)
    unfold mf_judge_L58
    simp only [zev_b1, zev_mbd, zev_some, zev_b0, zev_bo, true_and, and_true, mev_ai (show b < 2 ^ 31 by omega), mln_2, mln_3, mln_4, mln_5, mln_6, mln_7, mln_8, mln_9, mln_10, mln_11, mln_12, mln_13, mln_15, mln_16, mln_17, mln_24, mln_25, mln_26, mln_27, mln_28, mln_29, mln_30, mln_31, mln_32, mln_34, mln_35, mln_37, mln_42, mln_49, mln_50, mln_51, mln_52, mln_53, mln_54, mln_55, mln_56, mln_57, mln_58, mln_59, mln_61, mln_62, mln_63, mln_65, mln_66, mln_68, mln_70, mln_71, mln_72, mln_73, mln_74, show b < 1000 by omega, hB.mc hb, ← hml, if_pos (nI_le (Nat.le_refl (bms (bs b)).length) (by omega))]
    rw [List.take_of_length_le (Nat.le_refl _)] at m1
    exact ⟨_, rfl, m1, f1⟩
theorem R0.whS {nb : Nat} {bs : Nat → Bv} {ro : Nat → Rw} {lb : List Lb} {ps : List (Nat × Int64)} {ac : Nat → Wn} {jr bo : List Ln} {mo : Int32} {gi : Int64} {tr tp wy wh v : Int32} {tc : List Int32} {st : List Int64} {ds : List (Nat × Int64)} {dw : Wn} {bf : Nat → Int32} {ba : Wn} {bc : List Nat} {Q : Mq} {kc : List Int32} (h : R0 (nb, bs, ro, lb, ps, ac, jr, bo, mo, gi, tr, tp, wy, wh, tc, st, ds, dw, bf, ba, bc) Q kc) : R0 (nb, bs, ro, lb, ps, ac, jr, bo, mo, gi, tr, tp, wy, v, tc, st, ds, dw, bf, ba, bc) (qi Q 40 0 v) kc := by
  obtain ⟨rB, rR, rK, rA, rC, rJ, rO, rG, rM, rL, rP, rN, rT, rW, rX, rF, rS⟩ := h
  have F : qfr Q (qi Q 40 0 v) [40] := qfr.qi (by decide)
  exact ⟨rB.fr F (by decide), rR.fr F (by decide), rK.fr F (by decide), rA.fr F (by decide), rC, rJ.fr F (by decide) (by decide), rO.fr F (by decide) (by decide), (by rw [F.i 0 (by decide)]; exact rG), (by rw [F.i 18 (by decide)]; exact rM), rL.fr F (by decide), rP.fr F (by decide), rN.fr F (by decide), (by rw [F.i 38 (by decide)]; exact rT), by rw [qi_1, if_pos ⟨rfl, rfl⟩], rX.fr F (by decide), (by rw [F.i 43 (by decide)]; exact rF), fun z => (rS z).fr F (by decide)⟩
theorem N_judge55 {nb n l : Nat} {bs : Nat → Bv} {ro : Nat → Rw} {lb : List Lb} {ps : List (Nat × Int64)} {ac : Nat → Wn} {jr bo : List Ln} {mo : Int32} {gi : Int64} {tr tp wy wh : Int32} {tc : List Int32} {st : List Int64} {ds : List (Nat × Int64)} {dw : Wn} {bf : Nat → Int32} {ba : Wn} {bc : List Nat} {Q1 : Mq} {kc : List Int32} {q : Lb} (hI : Ic nb bs ro ac) (h1 : R0 (nb, bs, ro, lb, ps, ac, jr, bo, mo, gi, tr, tp, wy, wh, tc, st, ds, dw, bf, ba, bc) Q1 kc) (q39 : Q1.1 39 0 = 0) (hn : n < nb) (hq : lb[l]? = some q) (hM : mMx Q1 (wmel [] (bs n).2.1.2.2.2)) : zev (mf_judge_J55 Q1 (nI n) (nI l)) (Post ((if fbrk (lans (jH bs (bs n)) (bhas bs (bs n))) 0 q.1 = -1 then 1 else if rans (lans (jH bs (bs n)) (bhas bs (bs n))) ((q.1[(fbrk (lans (jH bs (bs n)) (bhas bs (bs n))) 0 q.1).toNatClampNeg]?).getD []) = -1 then -5 else 0), (nb, bs, ro, lb, ps, ac, jr, bo, mo, gi, tr, tp, wy, fbrk (lans (jH bs (bs n)) (bhas bs (bs n))) 0 q.1, tc, st, ds, dw, bf, ba, bc))) := by
  have hN := hI.1
  have hB := hI.2.1 n hn
  have hl2 : (wmel [] (bs n).2.1.2.2.2).length ≤ 60 := by
    have := wmel_ln (bs n).2.1.2.2.2 []
    have := (hI.w hn).2.2.1
    simp only [List.length_nil] at *
    omega
  unfold mf_judge_J55
  rw [zev_b1]
  refine zev_mono (m_judge58 (nI l) h1.1 hM hI hn hl2) ?_
  rintro ⟨Q2, u2⟩ ⟨m2, f2⟩
  dsimp only at m2 f2 ⊢
  have r2 := h1.scr f2 (by decide)
  have hcod : wcod (jmix bs (bs n)) := jmix_cod _ _ (wmel_cod _ _ (fun q hq => by cases hq) (hI.w hn).2.1) (fun m hm => (hI.w (hI.mem n hn m hm).1).2.1)
  rw [zev_mbd]
  refine zev_mono (m_sharesOfMix (f := 68) (st := 0) m2 hcod (by decide) (by decide) (by decide)) ?_
  rintro ⟨Q3, u3⟩ ⟨e3, -, f3⟩
  dsimp only at e3 f3 ⊢
  have r3 := r2.scr f3 (by decide)
  rw [zev_mbd, zev_eq (m_inAll r3.1 hN hn hI.i60 hI.mem (hI.ml n hn).1 (hI.ml n hn).2 hB.2.2.2.1.2.2.2.2.2 hB.2.2.2.2.1)]
  dsimp only
  rw [zev_b1, zev_some, zev_mbd]
  have f4 : qfr Q3 (qj Q3 67 0 (bhas bs (bs n))) [67] := qfr.qj (by decide)
  have z4 : (qj Q3 67 0 (bhas bs (bs n))).2 67 0 = bhas bs (bs n) := rfl
  generalize qj Q3 67 0 (bhas bs (bs n)) = Q4 at f4 z4 ⊢
  have r4 := r3.scr f4 (by decide)
  have hL : mLs Q4 lb := by obtain ⟨rB, rR, rK, rA, rC, rJ, rO, rG, rM, rL, rP, rN, rT, rW, rX, rF, rS⟩ := r4; exact rL
  have hH : ∀ off, off < 48 → Q4.2 68 off = jH bs (bs n) off := fun off ho => by
    rw [f4.j 68 (by decide), jH_mix bs (bs n) off ho]
    exact e3 off (Nat.zero_le _) (by omega)
  refine zev_mono (m_holdsAll hL hq hH z4) ?_
  rintro ⟨Q5, u5⟩ ⟨a5, f5, e5⟩
  dsimp only at a5 f5 e5 ⊢
  have r5 := (r4.scr f5 (by decide)).whS (v := fbrk (lans (jH bs (bs n)) (bhas bs (bs n))) 0 q.1)
  rw [zev_b1, zev_some, a5]
  have z6 : (qi Q5 40 0 (fbrk (lans (jH bs (bs n)) (bhas bs (bs n))) 0 q.1)).1 39 0 = 0 := by
    rw [qi_1, if_neg (by decide), f5.i 39 (by decide), f4.i 39 (by decide), f3.i 39 (by decide), f2.i 39 (by decide)]; exact q39
  generalize qi Q5 40 0 (fbrk (lans (jH bs (bs n)) (bhas bs (bs n))) 0 q.1) = Q6 at r5 z6 ⊢
  rcases e5 with ⟨e5, e6⟩ | ⟨r, x, hx, e5, e6, e7⟩
  · rw [e6, if_pos (show (0 : Int32) ≤ 1 by decide), if_pos e5, zev_some]
    exact ⟨rfl, kc, r5, z6⟩
  · have hrl := (List.getElem?_eq_some_iff.mp hx).1
    have hL2 := hL.2.2 l q hq
    have hr31 : r < 2 ^ 31 := by omega
    rw [if_neg (show ¬ fbrk (lans (jH bs (bs n)) (bhas bs (bs n))) 0 q.1 = -1 by rw [e5]; exact nIne hr31), e6]
    have eg : (q.1[(fbrk (lans (jH bs (bs n)) (bhas bs (bs n))) 0 q.1).toNatClampNeg]?).getD [] = x := by
      rw [e5, nI_clamp hr31, hx]; rfl
    rw [eg]
    rcases rans_rng (jH bs (bs n)) (bhas bs (bs n)) x with w | w | w
    · rw [w, if_neg (by decide), if_pos rfl]
      exact P_no r5 5 rfl (by decide) (by decide) rfl
    · rw [w, if_pos (by decide), if_neg (by decide), zev_some]
      exact ⟨rfl, kc, r5, z6⟩
    · exact absurd w e7
theorem N_judge {c : Cs} {Q : Mq} {kc : List Int32} {t : Nat} (hJ : Jc t c) (h : R0 c Q kc) (b l : Int32) : zev (mf_judge Q b l) (Post (sJudge b l (sOpen c))) ∧ Jc (t + 1) (sJudge b l (sOpen c)).2 := by
  obtain ⟨nb, bs, ro, lb, ps, ac, jr, bo, mo, gi, tr, tp, wy, wh, tc, st, ds, dw, bf, ba, bc⟩ := c
  have hJ0 := hJ.mono (Nat.le_succ t)
  have hJ' := hJ0.opn
  obtain ⟨jI, jR, jP, jJ, jB, jG, jF, jU⟩ := hJ
  have hN := jI.1
  have h1 := h.opn
  have q39 : (qi (qi (qi Q 38 0 (Q.1 38 0 + 1)) 41 0 0) 39 0 0).1 39 0 = 0 := rfl
  unfold mf_judge mf_judge_J25 sJudge sOpen sWh
  rw [zev_mbd, zev_eq m_begin]
  dsimp only
  generalize qi (qi (qi Q 38 0 (Q.1 38 0 + 1)) 41 0 0) 39 0 0 = Q0 at h1 q39 ⊢
  replace h1 := h1.whS (v := -1)
  rw [zev_b1, zev_some]
  replace q39 : (qi Q0 40 0 (-1)).1 39 0 = 0 := q39
  generalize qi Q0 40 0 (-1) = Q1 at h1 q39 ⊢
  have hL : mLs Q1 lb := by obtain ⟨rB, rR, rK, rA, rC, rJ, rO, rG, rM, rL, rP, rN, rT, rW, rX, rF, rS⟩ := h1; exact rL
  rw [zev_mbd, zev_eq (m_looked h1.1 b)]
  dsimp only
  by_cases c4 : lk nb b = 0
  · rw [if_pos c4, zev_mbd, zev_eq (m_lookedL hL l)]
    dsimp only
    have hf : fst0 (lk nb b) (lkl lb.length l) = lkl lb.length l := by unfold fst0; rw [if_pos c4]
    rw [hf]
    by_cases c5 : lkl lb.length l = 0
    · obtain ⟨n, hn, rfl⟩ := lk_0 hN c4
      obtain ⟨i, hi, rfl⟩ := lkl_0 hL.2.1 c5
      have hl40 := hL.2.1
      obtain ⟨q, hq⟩ := getElem?_lt hi
      rw [c5, if_pos (show (0 : Int32) ≤ 0 by decide), if_pos rfl, nI_clamp (show n < 2 ^ 31 by omega), nI_clamp (show i < 2 ^ 31 by omega), hq]
      simp only [Option.getD_some]
      refine ⟨?_, Jc.any hJ0⟩
      rw [zev_b1, zev_some]
      have f2 : qfr Q1 (qi Q1 64 0 0) [64] := qfr.qi (by decide)
      have m2 : mMx (qi Q1 64 0 0) [] := ⟨rfl, by decide, fun i q hq => by simp at hq⟩
      generalize qi Q1 64 0 0 = Q2 at f2 m2 ⊢
      have r2 := h1.scr f2 (by decide)
      have z2 : Q2.1 39 0 = 0 := by rw [f2.i 39 (by decide)]; exact q39
      simp only [zev_b1, zev_mbd, zev_some, zev_b0, zev_bo, true_and, and_true, mev_ai (show n < 2 ^ 31 by omega), mln_2, mln_3, mln_4, mln_5, mln_6, mln_7, mln_8, mln_9, mln_10, mln_11, mln_12, mln_13, mln_15, mln_16, mln_17, mln_24, mln_25, mln_26, mln_27, mln_28, mln_29, mln_30, mln_31, mln_32, mln_34, mln_35, mln_37, mln_42, mln_49, mln_50, mln_51, mln_52, mln_53, mln_54, mln_55, mln_56, mln_57, mln_58, mln_59, mln_61, mln_62, mln_63, mln_65, mln_66, mln_68, mln_70, mln_71, mln_72, mln_73, mln_74, show n < 1000 by omega, r2.1.kd hn]
      by_cases c6 : (bs n).1.1 = 5
      · rw [if_pos c6]
        refine N_judge55 jI r2 z2 hn hq ?_
        rw [(jI.w hn).2.2.2.2.2 c6]
        exact m2
      · rw [if_neg c6, zev_mbd]
        refine zev_mono (m_mixVessel r2.1 m2 hN hn (jI.w hn).2.2.1 (by simp)) ?_
        rintro ⟨Q3, u3⟩ ⟨m3, f3⟩
        dsimp only at m3 f3 ⊢
        exact N_judge55 jI (r2.scr f3 (by decide)) (by rw [f3.i 39 (by decide)]; exact z2) hn hq m3
    · rw [if_neg c5]
      obtain ⟨p1, p2⟩ := P_rs (a := (-(lkl lb.length l)).toInt64) h1 (by rcases lkl_n c5 with e | e <;> simp only [e] <;> decide) rfl
      rw [if_neg p1]
      exact ⟨p2, Jc.any hJ0⟩
  · have hf : fst0 (lk nb b) (lkl lb.length l) = lk nb b := by unfold fst0; rw [if_neg c4]
    rw [if_neg c4, hf, if_neg c4]
    obtain ⟨p1, p2⟩ := P_lk (a := (-(lk nb b)).toInt64) h1 c4 rfl
    rw [if_neg p1]
    exact ⟨p2, Jc.any hJ0⟩
