/-! plan of the reference. -/
theorem N_planOk {nb i : Nat} {bs : Nat → Bv} {ro : Nat → Rw} {lb : List Lb} {ps : List (Nat × Int64)} {ac : Nat → Wn} {jr bo : List Ln} {mo : Int32} {gi : Int64} {tr tp wy wh : Int32} {tc : List Int32} {st : List Int64} {ds : List (Nat × Int64)} {dw : Wn} {bf : Nat → Int32} {ba : Wn} {bc : List Nat} {Q : Mq} {kc : List Int32} {ml : Int64} {step : Int32} {q : Lb} (h : R0 (nb, bs, ro, lb, ps, ac, jr, bo, mo, gi, tr, tp, wy, wh, tc, st, ds, dw, bf, ba, bc) Q kc) (q39 : Q.1 39 0 = 0) (jI : Ic nb bs ro ac) (jP : Ips nb ps) (hc : cst ml step = 0) (hi : i < 40) (hq : lb[i]? = some q) (h1 : 1 ≤ ps.length) (h6 : ps.length ≤ 6) : zev (zb1 (zo_ld ml (step.toInt64)) (fun u26 => zb1 (zwhile (mf_plan_L136 (nI i) ml step (u26.toInt32)) (Q, (0 : Int32))) (fun y52 => match y52 with
  | (Q27, u30) =>
  zb1 (some (qj Q27 67 0 ml)) (fun Q31 =>
  zb1 (some (qj Q31 75 0 (-1 : Int64))) (fun Q34 =>
  mbd (mf_search 32 Q34 (nI i) (0 : Int32) (u26.toInt32) (0 : Int64)) (fun Q37 _ =>
  (if (0 : Int64) ≤ (Q37.2 75 0) then
  zb1 (some (qi Q37 36 0 (Q37.1 33 0))) (fun Q40 =>
  zb1 (zwhile (mf_plan_L370 step) (Q40, (0 : Int32))) (fun y47 => match y47 with
  | (Q43, u46) =>
  some (Q43, (Q43.2 75 0))))
  else
  mbd (mf_no Q37 (14 : Int32)) (fun Q48 u51 =>
  some (Q48, u51))))))))) (Post (sPlanOk (nI i) ml step (nb, bs, ro, lb, ps, ac, jr, bo, mo, gi, tr, tp, wy, wh, tc, st, ds, dw, bf, ba, bc))) := by
  obtain ⟨sn, mn, h0, hs, rfl, es, em, b1, b2, hmul, hn12, hn1, ed, e32, -, -, -, hs0, -, -⟩ := cst_0 hc
  have hB : mBs Q nb bs := h.1
  have hT : mTc Q tc := by obtain ⟨rB, rR, rK, rA, rC, rJ, rO, rG, rM, rL, rP, rN, rT, rW, rX, rF, rS⟩ := h; exact rX
  have hL : mLs Q lb := by obtain ⟨rB, rR, rK, rA, rC, rJ, rO, rG, rM, rL, rP, rN, rT, rW, rX, rF, rS⟩ := h; exact rL
  have hP : mPk Q ps := by obtain ⟨rB, rR, rK, rA, rC, rJ, rO, rG, rM, rL, rP, rN, rT, rW, rX, rF, rS⟩ := h; exact rP
  have hps : ∀ p, p ∈ ps → p.1 < nb := fun p hp => (jP.1 p hp).1
  unfold sPlanOk
  dsimp only
  rw [nI_clamp (show i < 2 ^ 31 by omega), hq, Option.getD_some]
  rw [zev_b1, zev_ld, and_iff_right hs0, e32]
  generalize nst ml (nI sn) = n at hmul hn12 hn1 ed e32 ⊢
  rw [zev_b1]
  refine zev_mono (m_asks (nI i) ml hB hT jI hP hps h6 hn12 h0 hs) ?_
  rintro ⟨Q1, u1⟩ ⟨g1, t1, f1⟩
  dsimp only at g1 t1 f1 ⊢
  rw [zev_b1, zev_some, zev_b1, zev_some, zev_mbd]
  have f2 : qfr Q1 (qj (qj Q1 67 0 ml) 75 0 (-1)) [67, 75] := (qfr.qj (by decide)).tr0 (qfr.qj (by decide))
  have a67 : (qj (qj Q1 67 0 ml) 75 0 (-1)).2 67 0 = ml := rfl
  have a75 : (qj (qj Q1 67 0 ml) 75 0 (-1)).2 75 0 = -1 := rfl
  generalize qj (qj Q1 67 0 ml) 75 0 (-1) = Q2 at f2 a67 a75 ⊢
  have f12 : qfr Q Q2 [41, 42, 60, 61, 62, 63, 64, 65, 66, 67, 70, 71, 72, 75] := (f1.mono (by decide)).tr0 (f2.mono (by decide))
  obtain ⟨c, hcl⟩ : ∃ c, ps.length = c + 1 := ⟨ps.length - 1, by omega⟩
  have hse : mSe Q2 Q2 ps.length 0 (fun _ => 0) (-1, fun _ => 0) := ⟨qfr.rf, a75, fun j hj => by omega, fun w => absurd rfl w⟩
  have hDN : ∀ s j, s < ps.length → j ≤ 12 → ∃ v : Nat, v ≤ 100000000000000000 ∧ (fun z => pDv bs (pB ps (z / 13)) (nI sn).toInt64 (z % 13)) (13 * s + j) = lN v := by
    intro s j hs1 hj
    obtain ⟨p, hp⟩ := getElem?_lt hs1
    have hpb : pB ps s = p.1 := by unfold pB; rw [hp]; rfl
    have hpn := hps p (List.mem_of_getElem? hp)
    have hsn : sn ≤ 1000000000 := by
      have := Nat.mul_le_mul_right sn hn1
      omega
    dsimp only
    rw [show (13 * s + j) / 13 = s by omega, show (13 * s + j) % 13 = j by omega, hpb]
    unfold pDv
    by_cases e0 : j = 0
    · rw [if_pos e0]; exact ⟨0, by omega, rfl⟩
    · rw [if_neg e0, pX_N hs (by omega)]
      exact bdea_N (jI.2.1 p.1 hpn).2.2.1 (Nat.le_trans (Nat.mul_le_mul hj hsn) (by decide))
  have hM12 : ∀ s, pMv bs (pB ps s) (nI sn).toInt64 n ≤ 12 := fun s => by unfold pMv; omega
  have hMn : ∀ s, pMv bs (pB ps s) (nI sn).toInt64 n ≤ n := fun s => by unfold pMv; omega
  have srch := m_search (Q0 := Q2) (ml := ml) (Mo := fun i => pMv bs (pB ps i) (nI sn).toInt64 n) (D := fun z => pDv bs (pB ps (z / 13)) (nI sn).toInt64 (z % 13)) (H := pH bs ps (nI sn).toInt64) (hL.fr f12 (by decide)) hq (by rw [f12.i 33 (by decide)]; exact hP.1) h6 a67 (fun s hs1 => ⟨by rw [f2.i 72 (by decide)]; exact (g1 s hs1).1, hM12 s⟩) (fun s j hs1 hj => by
      rw [f2.j 71 (by decide), (g1 s hs1).2.1 j (Nat.le_trans hj (hMn s))]
      have := Nat.le_trans hj (hM12 s)
      rw [show (13 * s + j) / 13 = s by omega, show (13 * s + j) % 13 = j by omega]) hDN (fun tr => fbrk (lans (pH bs ps (nI sn).toInt64 tr) ml) 0 q.1 = -1) (fun tr ht off ho => by
      unfold pH
      refine foldl_cong _ _ (fun s hs1 b => ?_)
      have hs2 := List.mem_range.mp hs1
      rw [f2.j 70 (by decide), (g1 s hs2).2.2 (tr s) off (ht s hs2) ho]) (fun tr => Iff.rfl) c 0 n 31 0 (fun _ => 0) (-1, fun _ => 0) Q2 (by omega) hn12 (by omega) (by omega) (Or.inl rfl) (fun j hj => by omega) hse
  refine zev_mono srch ?_
  rintro ⟨Q3, u3⟩ h3
  dsimp only at h3 ⊢
  rw [← hcl] at h3
  have eR := (ufr_at (Mo := fun i => pMv bs (pB ps i) (nI sn).toInt64 n) (D := fun z => pDv bs (pB ps (z / 13)) (nI sn).toInt64 (z % 13)) (ok := fun tr => fbrk (lans (pH bs ps (nI sn).toInt64 tr) ml) 0 q.1 = -1) h6 hDN ps.length 0 n 0 (fun _ => 0) (-1, fun _ => 0) (by omega) hn12 (by omega) (Or.inl rfl)).2
  have eR2 : cfr ps.length (fun i => pMv bs (pB ps i) (nI sn).toInt64 n) (fun z => pDv bs (pB ps (z / 13)) (nI sn).toInt64 (z % 13)) (fun tr => fbrk (lans (pH bs ps (nI sn).toInt64 tr) ml) 0 q.1 = -1) ps.length 0 n (lN 0) (fun _ => 0) (-1, fun _ => 0) = pR bs ps q.1 ml (nI sn).toInt64 n := rfl
  rw [eR, eR2] at h3
  generalize pR bs ps q.1 ml (nI sn).toInt64 n = R at h3 ⊢
  obtain ⟨f3, k75, -, k74⟩ := h3
  have f03 : qfr Q Q3 [41, 42, 60, 61, 62, 63, 64, 65, 66, 67, 68, 69, 70, 71, 72, 73, 74, 75] := (f12.mono (by decide)).tr0 (f3.mono (by decide))
  have t3 : mTc Q3 (tapp 200 tc (pT bs n ps)) := (t1.fr f2 (by decide)).fr f3 (by decide)
  have r3 := R0.tcS (ds' := (pW bs (nI sn).toInt64 n (ds, dw) ps).1) (dw' := (pW bs (nI sn).toInt64 n (ds, dw) ps).2) h f03 (by decide) t3
  have z39 : Q3.1 39 0 = 0 := by rw [f03.i 39 (by decide)]; exact q39
  have c33 : Q3.1 33 0 = nI ps.length := by rw [f03.i 33 (by decide)]; exact hP.1
  rw [k75]
  by_cases c10 : 0 ≤ R.1
  · rw [if_pos c10, if_pos c10, zev_b1, zev_some, c33, zev_b1]
    have hne : R.1 ≠ -1 := fun w => by rw [w] at c10; exact absurd c10 (by decide)
    refine zev_up (τ := Mq × Int32) (fun k (z : Mq × Int32) => ∃ Q4, z = (Q4, nI k) ∧ qfr Q3 Q4 [36, 37] ∧ Q4.1 36 0 = nI ps.length ∧ ∀ j, j < k → Q4.2 37 j = (nI (R.2 j)).toInt64 * (nI sn).toInt64) ps.length (i := 0) (Nat.zero_le _) ⟨_, rfl, qfr.qi (by decide), by rw [qi_1, if_pos ⟨rfl, rfl⟩], fun j hj => by omega⟩ ?_ ?_
    · rintro k z hk ⟨Q4, rfl, f4, e36, e37⟩
      have d33 : Q4.1 33 0 = nI ps.length := by rw [f4.i 33 (by decide)]; exact c33
      have d74 : Q4.1 74 k = nI (R.2 k) := by rw [f4.i 74 (by decide)]; exact k74 hne k hk
      unfold mf_plan_L370
      dsimp only
      rw [d33, if_neg (nI_ge hk (show ps.length < 2 ^ 31 by omega))]
      simp only [zev_b1, zev_mbd, zev_some, zev_b0, zev_bo, true_and, and_true, mev_ai (show k < 2 ^ 31 by omega), mev_sj (show k < 2 ^ 31 by omega), mln_2, mln_3, mln_4, mln_5, mln_6, mln_7, mln_8, mln_9, mln_10, mln_11, mln_12, mln_13, mln_15, mln_16, mln_17, mln_24, mln_25, mln_26, mln_27, mln_28, mln_29, mln_30, mln_31, mln_32, mln_34, mln_35, mln_37, mln_42, mln_49, mln_50, mln_51, mln_52, mln_53, mln_54, mln_55, mln_56, mln_57, mln_58, mln_59, mln_61, mln_62, mln_63, mln_65, mln_66, mln_68, mln_70, mln_71, mln_72, mln_73, mln_74, show k < 6 by omega, show k < 8 by omega, d74]
      refine ⟨_, rfl, _, by rw [nI_1], f4.tr0 (qfr.qj (by decide)), e36, fun j hj => ?_⟩
      rw [qj_2]
      by_cases e : j = k
      · rw [if_pos ⟨rfl, e⟩, e]
      · rw [if_neg (fun w => e w.2)]; exact e37 j (by omega)
    · rintro z ⟨Q4, rfl, f4, e36, e37⟩
      have d33 : Q4.1 33 0 = nI ps.length := by rw [f4.i 33 (by decide)]; exact c33
      unfold mf_plan_L370
      dsimp only
      rw [d33, if_pos (nI_le (Nat.le_refl ps.length) (show ps.length < 2 ^ 31 by omega)), zev_some]
      refine ⟨_, rfl, ?_⟩
      dsimp only
      rw [zev_some]
      have ls : (pset R.2 ps.length (nI sn).toInt64).length = ps.length := by unfold pset; rw [List.length_map, List.length_range]
      have pn : mPn Q4 (pset R.2 ps.length (nI sn).toInt64) := by
        refine ⟨by rw [ls]; exact e36, by rw [ls]; exact h6, fun j v hv => ?_⟩
        have hj := (List.getElem?_eq_some_iff.mp hv).1
        rw [ls] at hj
        unfold pset at hv
        rw [List.getElem?_map, List.getElem?_range hj] at hv
        rw [e37 j hj]
        exact Option.some.inj hv
      refine ⟨by rw [f4.j 75 (by decide)]; exact k75, kc, ?_, ?_⟩
      · obtain ⟨rB, rR, rK, rA, rC, rJ, rO, rG, rM, rL, rP, rN, rT, rW, rX, rF, rS⟩ := r3
        exact ⟨rB.fr f4 (by decide), rR.fr f4 (by decide), rK.fr f4 (by decide), rA.fr f4 (by decide), rC, rJ.fr f4 (by decide) (by decide), rO.fr f4 (by decide) (by decide), (by rw [f4.i 0 (by decide)]; exact rG), (by rw [f4.i 18 (by decide)]; exact rM), rL.fr f4 (by decide), rP.fr f4 (by decide), pn, (by rw [f4.i 38 (by decide)]; exact rT), (by rw [f4.i 40 (by decide)]; exact rW), rX.fr f4 (by decide), (by rw [f4.i 43 (by decide)]; exact rF), fun z => (rS z).fr f4 (by decide)⟩
      · rw [f4.i 39 (by decide), z39]
        exact (cwy_pos c10).symm
  · rw [if_neg c10, if_neg c10]
    exact P_no r3 14 rfl (by decide) (by decide) rfl
theorem J_planOk {T : Nat} {c : Cs} {l : Int32} {ml : Int64} {step : Int32} (h : Jc T c) : Jc T (sPlanOk l ml step c).2 := by
  obtain ⟨nb, bs, ro, lb, ps, ac, jr, bo, mo, gi, tr, tp, wy, wh, tc, st, ds, dw, bf, ba, bc⟩ := c
  unfold sPlanOk
  dsimp only
  split
  · exact Jc.any h
  · exact Jc.any h
theorem N_plan {c : Cs} {Q : Mq} {kc : List Int32} {t : Nat} (hJ : Jc t c) (h : R0 c Q kc) (l : Int32) (ml : Int64) (step : Int32) : zev (mf_plan Q l ml step) (Post (sPlan l ml step (sOpen c))) ∧ Jc (t + 1) (sPlan l ml step (sOpen c)).2 := by
  obtain ⟨nb, bs, ro, lb, ps, ac, jr, bo, mo, gi, tr, tp, wy, wh, tc, st, ds, dw, bf, ba, bc⟩ := c
  have hJ0 := hJ.mono (Nat.le_succ t)
  obtain ⟨jI, jR, jP, jJ, jB, jG, jF, jU⟩ := hJ
  have hN := jI.1
  have h1 := h.opn
  have q39 : (qi (qi (qi Q 38 0 (Q.1 38 0 + 1)) 41 0 0) 39 0 0).1 39 0 = 0 := rfl
  unfold mf_plan mf_plan_J17 mf_plan_J56 sPlan sOpen
  rw [zev_mbd, zev_eq m_begin]
  dsimp only
  generalize qi (qi (qi Q 38 0 (Q.1 38 0 + 1)) 41 0 0) 39 0 0 = Q0 at h1 q39 ⊢
  unfold sOpen at h1
  dsimp only at h1
  have hL : mLs Q0 lb := by obtain ⟨rB, rR, rK, rA, rC, rJ, rO, rG, rM, rL, rP, rN, rT, rW, rX, rF, rS⟩ := h1; exact rL
  have hP : mPk Q0 ps := by obtain ⟨rB, rR, rK, rA, rC, rJ, rO, rG, rM, rL, rP, rN, rT, rW, rX, rF, rS⟩ := h1; exact rP
  have no1 : ∀ r : Int32, cst ml step = r → r ≠ 0 → fst0 (cst ml step) (lkl lb.length l) = r := fun r hr h0 => by unfold fst0; rw [hr, if_neg h0]
  rw [zev_mbd, zev_eq (m_isAmount ml)]
  dsimp only
  by_cases c1 : isml ml
  · rw [if_pos c1, if_neg z10]
    by_cases c2 : 0 ≤ step
    · rw [if_pos c2]
      by_cases c3 : step = 0
      · have hc : cst ml step = 5 := by unfold cst; rw [if_pos c1, if_pos c2, if_pos c3]
        rw [if_pos c3, no1 5 hc (by decide), if_neg (show ¬ (5 : Int32) = 0 by decide)]
        exact ⟨P_no h1 5 rfl (by decide) (by decide) rfl, Jc.any hJ0⟩
      · have hs0 := i64_0 c3
        rw [if_neg c3, zev_b1, zev_lm, and_iff_right hs0]
        by_cases c4 : ml - ml / step.toInt64 * step.toInt64 = 0
        · rw [if_pos c4, zev_b1, zev_ld, and_iff_right hs0]
          by_cases c5 : ml / step.toInt64 ≤ 12
          · have hc : cst ml step = 0 := by unfold cst; rw [if_pos c1, if_pos c2, if_neg c3, if_pos c4, if_pos c5]
            have hf : fst0 (cst ml step) (lkl lb.length l) = lkl lb.length l := by unfold fst0; rw [if_pos hc]
            rw [if_pos c5, hf, zev_mbd, zev_eq (m_lookedL hL l)]
            dsimp only
            by_cases c6 : lkl lb.length l = 0
            · obtain ⟨i, hi, rfl⟩ := lkl_0 hL.2.1 c6
              have hl40 := hL.2.1
              obtain ⟨q, hq⟩ := getElem?_lt hi
              have h8 := hP.2.1
              rw [c6, if_pos (show (0 : Int32) ≤ 0 by decide), if_pos rfl, hP.1]
              by_cases c7 : nI ps.length = 0
              · rw [if_pos c7, if_pos c7]
                exact ⟨P_no h1 10 rfl (by decide) (by decide) rfl, Jc.any hJ0⟩
              · rw [if_neg c7, if_neg c7]
                by_cases c8 : nI ps.length ≤ 6
                · rw [if_pos c8, if_pos c8, zev_mbd, zev_eq (m_oneInCask h1.1 hN (fun p hp => (jP.1 p hp).1) hP)]
                  dsimp only
                  by_cases c9 : pcsk bs ps = 0
                  · rw [if_pos c9, if_pos c9]
                    have hl1 : 1 ≤ ps.length := by
                      rcases Nat.eq_zero_or_pos ps.length with w | w
                      · exact absurd (by rw [w]; rfl) c7
                      · exact w
                    have hl6 : ps.length ≤ 6 := by
                      have := (nI_leI (a := ps.length) (b := 6) (by omega) (by decide)).mp c8
                      exact this
                    exact ⟨N_planOk h1 q39 jI jP hc (by omega) hq hl1 hl6, J_planOk (Jc.any hJ0)⟩
                  · rw [if_neg c9, if_neg c9]
                    exact ⟨P_no h1 9 rfl (by decide) (by decide) rfl, Jc.any hJ0⟩
                · rw [if_neg c8, if_neg c8]
                  exact ⟨P_no h1 12 rfl (by decide) (by decide) rfl, Jc.any hJ0⟩
            · rw [if_neg c6]
              obtain ⟨p1, p2⟩ := P_rs (a := (-(lkl lb.length l)).toInt64) h1 (by rcases lkl_n c6 with e | e <;> simp only [e] <;> decide) rfl
              rw [if_neg p1]
              exact ⟨p2, Jc.any hJ0⟩
          · have hc : cst ml step = 1 := by unfold cst; rw [if_pos c1, if_pos c2, if_neg c3, if_pos c4, if_neg c5]
            rw [if_neg c5, no1 1 hc (by decide), if_neg z10]
            exact ⟨P_no h1 1 rfl (by decide) (by decide) rfl, Jc.any hJ0⟩
        · have hc : cst ml step = 1 := by unfold cst; rw [if_pos c1, if_pos c2, if_neg c3, if_neg c4]
          rw [if_neg c4, no1 1 hc (by decide), if_neg z10]
          exact ⟨P_no h1 1 rfl (by decide) (by decide) rfl, Jc.any hJ0⟩
    · have hc : cst ml step = 1 := by unfold cst; rw [if_pos c1, if_neg c2]
      rw [if_neg c2, no1 1 hc (by decide), if_neg z10]
      exact ⟨P_no h1 1 rfl (by decide) (by decide) rfl, Jc.any hJ0⟩
  · have hc : cst ml step = 1 := by unfold cst; rw [if_neg c1]
    rw [if_neg c1, if_pos rfl, no1 1 hc (by decide), if_neg z10]
    exact ⟨P_no h1 1 rfl (by decide) (by decide) rfl, Jc.any hJ0⟩
