/-! The reference's acts: breathe. -/
def sBreathe (m : Int32) (c : Cs) : Int64 × Cs := match c with
  | (nb, bs, ro, lb, ps, ac, jr, bo, mo, gi, tr, tp, wy, wh, tc, st, ds, dw, bf, ba, bc) => if m < 1 then (-1, (nb, bs, ro, lb, ps, ac, jr, bo, mo, gi, tr, tp, wy, wh, tc, st, ds, dw, bf, ba, bc)) else if 12 < m then (-1, (nb, bs, ro, lb, ps, ac, jr, bo, mo, gi, tr, tp, wy, wh, tc, st, ds, dw, bf, ba, bc)) else ((bfol m.toNatClampNeg nb bs (ac 1)).2.2.1, (nb, (bfol m.toNatClampNeg nb bs (ac 1)).1, ro, lb, ps, aup ac 1 (bfol m.toNatClampNeg nb bs (ac 1)).2.1, jr ++ [(5, -1, -1, (bfol m.toNatClampNeg nb bs (ac 1)).2.2.1)], bo, mo + m, gi, tr, tp, wy, wh, tapp 200 tc (bratsT nb bs), st, ds, dw, fu (bfB bf nb mo jr.length bo.length) 8 (nI 1), ac 1, (bfol m.toNatClampNeg nb bs (ac 1)).2.2.2))
theorem U_brth {nb m : Nat} {bs : Nat → Bv} {ro : Nat → Rw} {ac : Nat → Wn} {w : Wn} {bf : Nat → Int32} {mo : Int32} {jl bl : Nat} (hn : nb ≤ 1000) : Ceq nb bs ro ac ((fu (bfB bf nb mo jl bl) 8 (nI 1)) 1).toNatClampNeg (sres (bfol m nb bs (ac 1)).1 (bfol m nb bs (ac 1)).2.2.2) (sresR ro (fu (bfB bf nb mo jl bl) 8 (nI 1))) (sresA (aup ac 1 w) (fu (bfB bf nb mo jl bl) 8 (nI 1)) (ac 1)) := by
  obtain ⟨h1, h2, h3⟩ := bfol_p m bs (ac 1) nb
  refine ⟨(show (bfB bf nb mo jl bl 1).toNatClampNeg = nb from bfB_1 (by omega)), fun b _ => sres_ok (fun hb => (h1 b hb).2) (fun hb => by rw [h2 b hb]; exact ⟨rfl, rfl, rfl⟩), fun _ _ => rfl, fun i _ => ?_⟩
  unfold sresA
  rw [if_neg (show ¬ (fu (bfB bf nb mo jl bl) 8 (nI 1)) 8 = -1 from nIne (by omega))]
  show aup (aup ac 1 w) (nI 1).toNatClampNeg (ac 1) i = ac i
  rw [nI_clamp (by omega), aup_aup, aup_self]
set_option maxHeartbeats 1000000 in
theorem N_breathe {c : Cs} {Q : Mq} {kc : List Int32} {t : Nat} (hJ : Jc t c) (ht : t < 512) (h : R0 c Q kc) (m : Int32) : zev (mf_breathe Q m) (Post (sBreathe m (sOpen c))) ∧ Jc (t + 1) (sBreathe m (sOpen c)).2 := by
  obtain ⟨nb, bs, ro, lb, ps, ac, jr, bo, mo, gi, tr, tp, wy, wh, tc, st, ds, dw, bf, ba, bc⟩ := c
  have hJ0 := hJ.mono (Nat.le_succ t)
  have hJ' := hJ0.opn
  obtain ⟨jI, jR, jP, jJ, jB, ⟨gn, jG1, jG2⟩, jF, jU⟩ := hJ
  have hN := jI.1
  have h1 := h.opn
  have q39 : (qi (qi (qi Q 38 0 (Q.1 38 0 + 1)) 41 0 0) 39 0 0).1 39 0 = 0 := rfl
  unfold mf_breathe mf_breathe_J15 sBreathe sOpen
  rw [zev_mbd, zev_eq m_begin]
  dsimp only
  generalize qi (qi (qi Q 38 0 (Q.1 38 0 + 1)) 41 0 0) 39 0 0 = Q1 at h1 q39 ⊢
  by_cases c1 : m < 1
  · rw [if_pos c1, if_pos c1]
    exact ⟨P_no h1 1 rfl (by decide) (by decide) rfl, hJ'⟩
  rw [if_neg c1, if_neg c1]
  by_cases c2 : 12 < m
  · rw [if_neg (Int32.not_le.mpr c2), if_pos c2]
    exact ⟨P_no h1 1 rfl (by decide) (by decide) rfl, hJ'⟩
  rw [if_pos (Int32.not_lt.mp c2), if_neg c2]
  have c0 : ¬ m < 0 := fun z => c1 (by rw [i32_lt] at z ⊢; have e1 : (1 : Int32).toInt = 1 := rfl; have e2 : (0 : Int32).toInt = 0 := rfl; omega)
  obtain ⟨n, hn12, rfl⟩ := nI_rng (n := 12) (by decide) c0 c2
  rw [nI_clamp (show n < 2 ^ 31 by omega)]
  obtain ⟨p1, p2, p3⟩ := bfol_p n bs (ac 1) nb
  have hkey : zev (mf_keep Q1) (fun y => mSn y.1 kc nb bs ro ac mo jr.length bo.length ∧ y.1.1 43 0 = 1 ∧ qfr Q1 y.1 [43, 44, 45, 46, 47, 48, 49, 50, 51, 52, 53, 54, 55, 56, 57, 58, 59] ∧ zev (zwhile (mf_breathe_L27 (nI n)) (y.1, (0 : Int32))) (fun z => ∃ Q3 u3, z = (Q3, u3) ∧ mTc Q3 (tapp 200 [] (bratsT nb bs)) ∧ qfr y.1 Q3 [41, 42] ∧ zev (zwhile (mf_breathe_L51 (nI n)) (Q3, (0 : Int64), (0 : Int32))) (fun w => ∃ Q4 u4 kc' G, w = (Q4, (bfol n nb bs (ac 1)).2.2.1, u4) ∧ (∃ t, kc' = kc ++ t) ∧ mBs Q4 nb (bfol n nb bs (ac 1)).1 ∧ mKn Q4 kc' ∧ mAk Q4 kc' (aup ac 1 (bfol n nb bs (ac 1)).2.1) ∧ mCd kc' nb (bfol n nb bs (ac 1)).1 (aup ac 1 (bfol n nb bs (ac 1)).2.1) ∧ Ic nb (bfol n nb bs (ac 1)).1 ro (aup ac 1 (bfol n nb bs (ac 1)).2.1) ∧ qfr Q3 Q4 [8, 9, 10, 14, 15, 16, 17, 63] ∧ (bfol n nb bs (ac 1)).2.2.1 = lN G ∧ G ≤ 12000000000 * nb))) := by
    refine zev_mono (K_keep h1 jI) ?_
    rintro ⟨Q2, u2⟩ ⟨s2, k2, f2⟩
    refine ⟨s2, k2, f2, ?_⟩
    dsimp only at f2 ⊢
    obtain ⟨rB, rR, rK, rA, rC, rJ, rO, rG, rM, rL, rP, rN, rT, rW, rX, rF, rS⟩ := h1
    refine zev_mono (m_br27 (nI n) (rB.fr f2 (by decide)) (rX.fr f2 (by decide)) hN jI.kd) ?_
    rintro z ⟨Q3, u3, rfl, t3, f3⟩
    exact ⟨Q3, u3, rfl, t3, f3, m_br51 ((rB.fr f2 (by decide)).fr f3 (by decide)) ((rK.fr f2 (by decide)).fr f3 (by decide)) ((rA.fr f2 (by decide)).fr f3 (by decide)) rC jI hn12⟩
  refine ⟨?_, ?_⟩
  · rw [zev_mbd]
    refine zev_mono hkey ?_
    rintro ⟨Q2, u2⟩ ⟨s2, k2, f2, hk3⟩
    dsimp only at s2 k2 f2 hk3 ⊢
    rw [zev_b1]
    refine zev_mono hk3 ?_
    rintro z ⟨Q3, u3, rfl, t3, f3, hk4⟩
    dsimp only
    rw [zev_b1]
    refine zev_mono hk4 ?_
    rintro w ⟨Q4, u4, kc4, G, rfl, ek4, b4, k4, a4, c4, i4, f4, g4, g5⟩
    dsimp only
    rw [zev_b1, zev_some, zev_mbd]
    obtain ⟨rB, rR, rK, rA, rC, rJ, rO, rG, rM, rL, rP, rN, rT, rW, rX, rF, rS⟩ := h1
    have F14 : qfr Q1 Q4 [8, 9, 10, 14, 15, 16, 17, 41, 42, 43, 44, 45, 46, 47, 48, 49, 50, 51, 52, 53, 54, 55, 56, 57, 58, 59, 63] := ((f2.mono (by decide)).tr0 (f3.mono (by decide))).tr0 (f4.mono (by decide))
    have f5 : qfr Q4 (qi Q4 18 0 (Q4.1 18 0 + nI n)) [18] := qfr.qi (by decide)
    have z5 : (qi Q4 18 0 (Q4.1 18 0 + nI n)).1 18 0 = mo + nI n := by rw [qi_1, if_pos ⟨rfl, rfl⟩, F14.i 18 (by decide), rM]
    generalize qi Q4 18 0 (Q4.1 18 0 + nI n) = Q5 at f5 z5 ⊢
    have F15 : qfr Q1 Q5 [8, 9, 10, 14, 15, 16, 17, 18, 41, 42, 43, 44, 45, 46, 47, 48, 49, 50, 51, 52, 53, 54, 55, 56, 57, 58, 59, 63] := (F14.mono (by decide)).tr0 (f5.mono (by decide))
    refine zev_mono (m_enter (rJ.fr F15 (by decide) (by decide)) (by omega) 5 (-1) (-1) (bfol n nb bs (ac 1)).2.2.1) ?_
    rintro ⟨Q6, u6⟩ ⟨j6, f6⟩
    dsimp only at j6 f6 ⊢
    rw [zev_some]
    have F : qfr Q1 Q6 [8, 9, 10, 14, 15, 16, 17, 18, 19, 20, 41, 42, 43, 44, 45, 46, 47, 48, 49, 50, 51, 52, 53, 54, 55, 56, 57, 58, 59, 63] := (F15.mono (by decide)).tr0 (f6.mono (by decide))
    have f46 : qfr Q4 Q6 [18, 19, 20] := (f5.mono (by decide)).tr0 (f6.mono (by decide))
    have f36 : qfr Q3 Q6 [8, 9, 10, 14, 15, 16, 17, 18, 19, 20, 63] := (f4.mono (by decide)).tr0 (f46.mono (by decide))
    have f26 : qfr Q2 Q6 [8, 9, 10, 14, 15, 16, 17, 18, 19, 20, 41, 42, 63] := (f3.mono (by decide)).tr0 (f36.mono (by decide))
    refine ⟨rfl, kc4, ?_, ?_⟩
    · exact ⟨b4.fr f46 (by decide), rR.fr F (by decide), k4.fr f46 (by decide), a4.fr f46 (by decide), c4, j6, rO.fr F (by decide) (by decide), (by rw [F.i 0 (by decide)]; exact rG), (by rw [f6.i 18 (by decide)]; exact z5), rL.fr F (by decide), rP.fr F (by decide), rN.fr F (by decide), (by rw [F.i 38 (by decide)]; exact rT), (by rw [F.i 40 (by decide)]; exact rW), t3.fr f36 (by decide), (by rw [f26.i 43 (by decide)]; exact k2), fun _ => ((s2.fr f26 (by decide)).kc ek4).ceq (U_brth hN) rfl (nI_clamp (n := jr.length) (by omega)) (nI_clamp (n := bo.length) (by omega))⟩
    · show Q6.1 39 0 = cwy (bfol n nb bs (ac 1)).2.2.1
      rw [F.i 39 (by decide), q39, g4, cwy_N (by omega)]
  · obtain ⟨⟨Q2, u2⟩, -, -, -, -, ⟨z, -, Q3, u3, -, -, -, ⟨w, -, Q4, u4, kc4, G, -, -, -, -, -, -, i4, -, -, -⟩⟩⟩ := hkey
    have R' : Ira nb (bfol n nb bs (ac 1)).1 := fun b hb m hm => jR b hb m (by rw [← p3 b]; exact hm)
    refine ⟨i4, R', jP, by rw [List.length_append]; simp only [List.length_cons, List.length_nil]; omega, by omega, ⟨gn, by omega, jG2⟩, Or.inr rfl, fun _ => ⟨⟨⟨nb, Nat.le_refl _, rfl⟩, ⟨jr.length, by omega, rfl⟩, ⟨bo.length, by omega, rfl⟩, Or.inl rfl, Or.inr ⟨1, by decide, rfl⟩, fun c' hc' => (p1 c' hc').1⟩, ?_, ?_, jI.cong (U_brth hN), ?_⟩⟩
    · rw [show (fu (bfB bf nb mo jr.length bo.length) 8 (nI 1)) 3 = bfB bf nb mo jr.length bo.length 3 from rfl, bfB_3 (by omega), List.length_append]
      omega
    · rw [show (fu (bfB bf nb mo jr.length bo.length) 8 (nI 1)) 4 = bfB bf nb mo jr.length bo.length 4 from rfl, bfB_4 (by omega)]
      exact Nat.le_refl _
    · rw [show (fu (bfB bf nb mo jr.length bo.length) 8 (nI 1)) 1 = bfB bf nb mo jr.length bo.length 1 from rfl, bfB_1 (by omega)]
      exact Ira_sres R'
