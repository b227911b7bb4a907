/-! The reference's acts: bottle, rack, topUp. -/
theorem mDr0 {Q : Mq} : mDr (qi Q 60 0 0) [] := ⟨by rw [qi_1, if_pos ⟨rfl, rfl⟩]; rfl, by decide, fun i q hq => by simp at hq⟩
/-- what one barrel gives, told -/
theorem N_draw {nb n : Nat} {bs : Nat → Bv} {ro : Nat → Rw} {ac : Nat → Wn} {tc : List Int32} {dd : List (Nat × Int64)} {Q : Mq} (hB : mBs Q nb bs) (hT : mTc Q tc) (hD : mDr Q dd) (hI : Ic nb bs ro ac) (hn : n < nb) {v : Int64} (h0 : 0 < v.toInt) (h32 : dd.length + 4 ≤ 32) : zev (mf_drawFrom Q (nI n) v 1) (fun y => mDr y.1 (dd ++ dlst bs n v) ∧ mTc y.1 (tapp 200 tc (dlstT bs n v)) ∧ qfr Q y.1 [41, 42, 60, 61, 62]) := by
  have := m_drawFrom (t := 1) hB hT hD hI.1 hn hI.i60 hI.kd hI.mem (hI.ml n hn).1 (hI.ml n hn).2 v (fun z => by have := le0_toInt.mp z; omega) h32 (Or.inl rfl)
  rw [if_pos rfl] at this
  exact this
theorem N_offD {nb n hw : Nat} {bs : Nat → Bv} {ro : Nat → Rw} {lb : List Lb} {ps : List (Nat × Int64)} {ac : Nat → Wn} {jr bo : List Ln} {mo : Int32} {gi : Int64} {tr tp wy wh : Int32} {tc : List Int32} {st : List Int64} {ds : List (Nat × Int64)} {dw : Wn} {bf : Nat → Int32} {ba : Wn} {bc : List Nat} {Q : Mq} {kc : List Int32} {β : Type} {F : Mq → Unit → Option β} {P : β → Prop} (h : R0 (nb, bs, ro, lb, ps, ac, jr, bo, mo, gi, tr, tp, wy, wh, tc, st, ds, dw, bf, ba, bc) Q kc) (hI : Ic nb bs ro ac) (hj : jr.length < 2 ^ 31) (hb : bo.length < 2 ^ 31) (hn : n < nb) (v : Int64) (h0 : 0 < v.toInt) (hv : v ≤ bspa bs (bs n)) (hh : hw < 5) (kF : ∀ Q5 kc5, R0 (sOff n v hw (nb, bs, ro, lb, ps, ac, jr, bo, mo, gi, tr, tp, wy, wh, tc, st, ds, dw, bf, ba, bc)) Q5 kc5 → Q5.1 39 0 = Q.1 39 0 → zev (F Q5 ()) P) : zev (mbd (mf_keep Q) (fun Q29 _ => zb1 (some (qi Q29 60 0 0)) (fun Q32 => mbd (mf_drawFrom Q32 (nI n) v 1) (fun Q35 _ => mbd (mf_takeDraws Q35 (nI hw)) F)))) P := by
  obtain ⟨dg, dn, dsm, dm⟩ := D_lst hI hn h0 hv
  have hdl := dlst_len bs n v (by have := hI.ml n hn; omega)
  rw [zev_mbd]
  refine zev_mono (K_keep h hI) ?_
  rintro ⟨Q2, u2⟩ ⟨s2, k2, f2⟩
  dsimp only at s2 k2 f2 ⊢
  have hO := h
  obtain ⟨rB, rR, rK, rA, rC, rJ, rO, rG, rM, rL, rP, rN, rT, rW, rX, rF, rS⟩ := h
  rw [zev_b1, zev_some, zev_mbd]
  have f3 : qfr Q2 (qi Q2 60 0 0) [60] := qfr.qi (by decide)
  have d3 : mDr (qi Q2 60 0 0) [] := mDr0
  generalize qi Q2 60 0 0 = Q3 at f3 d3 ⊢
  have f13 : qfr Q Q3 [43, 44, 45, 46, 47, 48, 49, 50, 51, 52, 53, 54, 55, 56, 57, 58, 59, 60] := (f2.mono (by decide)).tr0 (f3.mono (by decide))
  refine zev_mono (N_draw (rB.fr f13 (by decide)) (rX.fr f13 (by decide)) d3 hI hn h0 (by decide)) ?_
  rintro ⟨Q4, u4⟩ ⟨d4, t4, f4⟩
  dsimp only at d4 t4 f4 ⊢
  rw [List.nil_append] at d4
  have f14 : qfr Q Q4 [41, 42, 43, 44, 45, 46, 47, 48, 49, 50, 51, 52, 53, 54, 55, 56, 57, 58, 59, 60, 61, 62] := (f13.mono (by decide)).tr0 (f4.mono (by decide))
  rw [zev_mbd]
  refine zev_mono (m_takeDraws (rB.fr f14 (by decide)) d4 (rK.fr f14 (by decide)) (rA.fr f14 (by decide)) rC.1 hI.1 hI.i60 (Dgo.dok hI.wp hI.i60 dg (Nodup_idx dn)).2 (Nodup_idx dn) (some hw) (fun i hi => by cases hi; exact ⟨hh, (hI.2.2.2 hw hh).1⟩)) ?_
  rintro ⟨Q5, u5⟩ ⟨kc5, ek, b5, k5, a5, c5, f5⟩
  dsimp only at b5 k5 a5 c5 f5 ⊢
  have f25 : qfr Q2 Q5 [8, 9, 10, 14, 15, 16, 17, 41, 42, 60, 61, 62, 63] := (f3.mono (by decide)).tr0 ((f4.mono (by decide)).tr0 (f5.mono (by decide)))
  refine kF Q5 kc5 ?_ (by rw [f25.i 39 (by decide), f2.i 39 (by decide)])
  exact R_off hO hI hj hb hh s2 k2 f2 ek b5 k5 a5 c5 (t4.fr f5 (by decide)) f25
theorem m_botTail {Q : Mq} {jr bo : List Ln} (hb : mJl Q 22 21 bo) (hj : mJl Q 20 19 jr) (h1 : bo.length < 1024) (h2 : jr.length < 4096) (b n : Int32) (e : Int64) : zev (mf_botTail Q b n e) (fun y => y.2 = (Q.1 0 0).toInt64 ∧ mJl y.1 22 21 (bo ++ [((Q.1 0 0).toInt64, b.toInt64, n.toInt64, e)]) ∧ mJl y.1 20 19 (jr ++ [(6, b.toInt64, -1, n.toInt64 * e)]) ∧ qfr Q y.1 [19, 20, 21, 22]) := by
  unfold mf_botTail
  rw [zev_mbd]
  refine zev_mono (m_line hb h1 (by decide) _ _ _ _) ?_
  rintro ⟨Q1, u⟩ ⟨a1, a2, a3⟩
  dsimp only at a1 a2 a3 ⊢
  have f1 : qfr Q Q1 [21, 22] := fun f hf => ⟨a2 f (fun e => hf (by rw [e]; decide)), a3 f (fun e => hf (by rw [e]; decide))⟩
  rw [zev_mbd]
  refine zev_mono (m_enter (hj.fr f1 (by decide) (by decide)) h2 6 b (-1) (n.toInt64 * e)) ?_
  rintro ⟨Q2, u2⟩ ⟨j2, f2⟩
  dsimp only at j2 f2 ⊢
  rw [zev_some]
  refine ⟨by dsimp only; rw [f2.i 0 (by decide), f1.i 0 (by decide)], a1.fr f2 (by decide) (by decide), j2, (f1.mono (by decide)).tr0 (f2.mono (by decide))⟩
theorem toInt64_inj {a b : Int32} (h : a.toInt64 = b.toInt64) : a = b := Int32.toInt_inj.mp (by rw [← Int32.toInt_toInt64 a, ← Int32.toInt_toInt64 b, h])
set_option maxHeartbeats 1000000 in
theorem N_bottle {c : Cs} {Q : Mq} {kc : List Int32} {t : Nat} (hJ : Jc t c) (ht : t < 512) (h : R0 c Q kc) (b n0 : Int32) (all : Int64) : zev (mf_bottle Q b n0 all) (Post (sBottle b n0 all (sOpen c))) ∧ Jc (t + 1) (sBottle b n0 all (sOpen c)).2 := by
  obtain ⟨nb, bs, ro, lb, ps, ac, jr, bo, mo, gi, tr, tp, wy, wh, tc, st, ds, dw, bf, ba, bc⟩ := c
  have hJ0 := hJ.mono (Nat.le_succ t)
  have hJ' := hJ0.opn
  have hJs := hJ
  obtain ⟨jI, jR, jP, jJ, jB, jG, jF, jU⟩ := hJ
  have hN := jI.1
  have h1 := h.opn
  have q39 : (qi (qi (qi Q 38 0 (Q.1 38 0 + 1)) 41 0 0) 39 0 0).1 39 0 = 0 := rfl
  unfold mf_bottle mf_bottle_J23 sBottle sOpen
  rw [zev_mbd, zev_eq m_begin]
  dsimp only
  generalize qi (qi (qi Q 38 0 (Q.1 38 0 + 1)) 41 0 0) 39 0 0 = Q1 at h1 q39 ⊢
  by_cases c1 : n0 < 0
  · rw [if_pos c1, if_pos c1]; exact ⟨P_no h1 1 rfl (by decide) (by decide) rfl, hJ'⟩
  rw [if_neg c1, if_neg c1]
  by_cases c2 : 1000000 < n0
  · rw [if_pos c2, if_pos c2]; exact ⟨P_no h1 1 rfl (by decide) (by decide) rfl, hJ'⟩
  rw [if_neg c2, if_neg c2, zev_mbd, zev_eq (m_isAmount all)]
  dsimp only
  by_cases c3 : isml all
  · rw [if_pos c3, if_pos c3, if_neg z10, zev_mbd, zev_eq (m_looked h1.1 b)]
    dsimp only
    obtain ⟨v1, v2⟩ := isml_i c3
    by_cases c4 : lk nb b = 0
    · rw [if_pos c4, c4, if_pos (show (0 : Int32) ≤ 0 by decide)]
      obtain ⟨n, hn, rfl⟩ := lk_0 hN c4
      have hn1 : n < 2 ^ 31 := by omega
      rw [zev_mbd, zev_eq (m_inCask h1.1 hN hn), nI_clamp hn1]
      dsimp only
      by_cases c5 : (bs n).2.1.2.1 < 10000
      · rw [if_pos c5, if_pos rfl, if_pos c5]
        have hTc : mTc Q1 [] := by obtain ⟨rB, rR, rK, rA, rC, rJ, rO, rG, rM, rL, rP, rN, rT, rW, rX, rF, rS⟩ := h1; exact rX
        have hkey : zev (mf_spare Q1 (nI n)) (fun y => y.2 = bspa bs (bs n) ∧ R0 (nb, bs, ro, lb, ps, ac, jr, bo, mo, gi, tr + 1, 1, wy, wh, tapp 200 [] (bspaT bs (bs n)), st, ds, dw, bf, ba, bc) y.1 kc ∧ y.1.1 39 0 = 0) := by
          refine zev_mono (m_spare h1.1 hTc hN hn jI.i60 jI.kd jI.mem (jI.ml n hn).1 (jI.ml n hn).2) ?_
          rintro ⟨Q2, u⟩ ⟨e2, t2, f2⟩
          exact ⟨e2, R0.tcS h1 f2 (by decide) t2, by rw [f2.i 39 (by decide)]; exact q39⟩
        generalize tapp 200 [] (bspaT bs (bs n)) = tc2 at hkey ⊢
        obtain ⟨k, hk, rfl⟩ := nI_rng (x := n0) (n := 1000000) (by decide) c1 c2
        obtain ⟨aN, aN2⟩ := lN_of (show 0 ≤ all.toInt by omega)
        by_cases c6 : all ≤ bspa bs (bs n)
        · rw [if_pos c6]
          by_cases c7 : k = 0
          · rw [if_pos (show nI k = 0 from by rw [c7]; rfl)]
            refine ⟨?_, Jc.any hJ0⟩
            rw [zev_mbd]
            refine zev_mono hkey ?_
            rintro ⟨Q2, u2⟩ ⟨e2, r2, z2⟩
            dsimp only at e2 r2 z2 ⊢
            rw [e2, if_pos c6, if_pos (show nI k = 0 from by rw [c7]; rfl)]
            exact P_no r2 5 rfl (by decide) (by decide) rfl
          · have hk0 : ¬ nI k = 0 := nI_ne0 (by omega) (by omega)
            have hk64 : (nI k).toInt64 = lN k := nI_64 (by omega)
            have hdiv : all / (nI k).toInt64 = lN (all.toInt.toNat / k) := by
              conv => lhs; rw [aN, hk64]
              rw [pk_lDiv aN2 (by omega) (by omega)]
            have hdle : all.toInt.toNat / k * k ≤ all.toInt.toNat := Nat.div_mul_le_self _ _
            have hdl2 : all.toInt.toNat / k ≤ all.toInt.toNat := Nat.div_le_self _ _
            rw [if_neg hk0, hdiv]
            generalize hE : all.toInt.toNat / k = E at hdle hdl2 hdiv ⊢
            by_cases c8 : E = 0
            · rw [if_pos (show lN E = 0 from by rw [c8]; rfl)]
              refine ⟨?_, Jc.any hJ0⟩
              rw [zev_mbd]
              refine zev_mono hkey ?_
              rintro ⟨Q2, u2⟩ ⟨e2, r2, z2⟩
              dsimp only at e2 r2 z2 ⊢
              rw [e2, if_pos c6, if_neg hk0, zev_b1, zev_ld, hdiv, if_pos (show lN E = 0 from by rw [c8]; rfl)]
              exact ⟨i64_0 hk0, P_no r2 10 rfl (by decide) (by decide) rfl⟩
            · have hE0 : ¬ lN E = 0 := fun z => c8 ((pk_lEQ (b := 0) (by omega) (by decide)).mp z)
              rw [if_neg hE0]
              have hmul : lN E * (nI k).toInt64 = lN (E * k) := by rw [hk64, lN_mul]
              have hmul2 : (nI k).toInt64 * lN E = lN (E * k) := by rw [Int64.mul_comm]; exact hmul
              have hEk0 : 0 < E * k := Nat.mul_pos (by omega) (by omega)
              have hEk : (lN (E * k)).toInt = ((E * k : Nat) : Int) := pk_lT (by omega)
              have hve : lN (E * k) ≤ bspa bs (bs n) := Int64.le_trans (by rw [i64_le, hEk]; omega) c6
              obtain ⟨dg, dn, dsm, dm⟩ := D_lst jI hn (v := lN (E * k)) (by rw [hEk]; omega) hve
              obtain ⟨g, hg1, hg2⟩ := jG
              have hg64 : ∀ x : Nat, x ≤ 600 → (nI x).toInt64 = lN x := fun x hx => nI_64 (by omega)
              have hgi : gi + 1 = (nI (g + 1)).toInt64 := by rw [hg2, hg64 g (by omega), hg64 (g + 1) (by omega), lN_1]
              rw [hmul]
              refine ⟨?_, ?_⟩
              · rw [zev_mbd]
                refine zev_mono hkey ?_
                rintro ⟨Q2, u2⟩ ⟨e2, r2, z2⟩
                dsimp only at e2 r2 z2 ⊢
                rw [e2, if_pos c6, if_neg hk0, zev_b1, zev_ld, hdiv, if_neg hE0, hmul2]
                refine ⟨i64_0 hk0, N_offD (hw := 4) r2 jI (by omega) (by omega) hn (lN (E * k)) (by rw [hEk]; omega) hve (by decide) (fun Q5 kc5 r5 z5 => ?_)⟩
                unfold sOff at r5
                dsimp only at r5
                have hg5 : Q5.1 0 0 = nI g := by
                  obtain ⟨rB, rR, rK, rA, rC, rJ, rO, rG, rM, rL, rP, rN, rT, rW, rX, rF, rS⟩ := r5
                  exact toInt64_inj (rG.trans hg2)
                rw [zev_b1, zev_some, hg5, nI_1]
                have f6 : qfr Q5 (qi Q5 0 0 (nI (g + 1))) [0] := qfr.qi (by decide)
                have v6 : (qi Q5 0 0 (nI (g + 1))).1 0 0 = nI (g + 1) := by rw [qi_1, if_pos ⟨rfl, rfl⟩]
                generalize qi Q5 0 0 (nI (g + 1)) = Q6 at f6 v6 ⊢
                obtain ⟨rB, rR, rK, rA, rC, rJ, rO, rG, rM, rL, rP, rN, rT, rW, rX, rF, rS⟩ := r5
                refine zev_mono (m_botTail (rO.fr f6 (by decide) (by decide)) (rJ.fr f6 (by decide) (by decide)) (by omega) (by omega) (nI n) (nI k) (lN E)) ?_
                rintro ⟨Q7, u7⟩ ⟨e7, o7, j7, f7⟩
                dsimp only at e7 o7 j7 f7 ⊢
                rw [v6] at e7 o7
                have F : qfr Q5 Q7 [0, 19, 20, 21, 22] := (f6.mono (by decide)).tr0 (f7.mono (by decide))
                refine ⟨?_, kc5, ?_, ?_⟩
                · show u7 = gi + 1
                  rw [e7, hgi]
                · unfold sBot sOff
                  dsimp only
                  rw [hgi, hmul]
                  rw [hmul2] at j7
                  exact ⟨rB.fr F (by decide), rR.fr F (by decide), rK.fr F (by decide), rA.fr F (by decide), rC, j7, o7, (by rw [f7.i 0 (by decide), v6]), (by rw [F.i 18 (by decide)]; exact rM), rL.fr F (by decide), rP.fr F (by decide), rN.fr F (by decide), (by rw [F.i 38 (by decide)]; exact rT), (by rw [F.i 40 (by decide)]; exact rW), rX.fr F (by decide), (by rw [F.i 43 (by decide)]; exact rF), fun z => (rS z).fr F (by decide)⟩
                · show Q7.1 39 0 = cwy (gi + 1)
                  rw [F.i 39 (by decide), z5, z2, hgi, hg64 (g + 1) (by omega), cwy_N (by omega)]
              · unfold sBot sOff
                dsimp only
                exact J_off hJs ht dg (by decide) (by rw [List.length_append]; omega) (by rw [List.length_append]; simp only [List.length_cons, List.length_nil]; omega) (by rw [List.length_append]; omega) (by rw [List.length_append]; simp only [List.length_cons, List.length_nil]; omega) ⟨g + 1, by omega, hgi⟩
        · rw [if_neg c6]
          refine ⟨?_, Jc.any hJ0⟩
          rw [zev_mbd]
          refine zev_mono hkey ?_
          rintro ⟨Q2, u2⟩ ⟨e2, r2, z2⟩
          dsimp only at e2 r2 z2 ⊢
          rw [e2, if_neg c6]
          exact P_no r2 10 rfl (by decide) (by decide) rfl
      · rw [if_neg c5, if_neg z10, if_neg c5]
        exact ⟨P_no h1 9 rfl (by decide) (by decide) rfl, hJ'⟩
    · rw [if_neg c4]
      obtain ⟨p1, p2⟩ := P_lk (a := (-(lk nb b)).toInt64) h1 c4 rfl
      rw [if_neg p1]
      exact ⟨p2, hJ'⟩
  · rw [if_neg c3, if_neg c3, if_pos rfl]
    exact ⟨P_no h1 1 rfl (by decide) (by decide) rfl, hJ'⟩
/-! pouring -/
theorem N_pour {nb m : Nat} {bs : Nat → Bv} {ro : Nat → Rw} {lb : List Lb} {ps : List (Nat × Int64)} {ac : Nat → Wn} {jr bo : List Ln} {mo : Int32} {gi : Int64} {tr tp wy wh : Int32} {tc : List Int32} {st : List Int64} {ds dd : List (Nat × Int64)} {dw : Wn} {bf : Nat → Int32} {ba : Wn} {bc : List Nat} {Q : Mq} {kc : List Int32} {F : Mq → Unit → Option (Mq × Int64)} {P : Mq × Int64 → Prop} (h : R0 (nb, bs, ro, lb, ps, ac, jr, bo, mo, gi, tr, tp, wy, wh, tc, st, ds, dw, bf, ba, bc) Q kc) (hI : Ic nb bs ro ac) (hj : jr.length < 2 ^ 31) (hb : bo.length < 2 ^ 31) (hD : mDr Q dd) (hd : ∀ q, q ∈ dd → Dgo bs nb q) (hdn : (dd.map (fun q => q.1)).Nodup) (hm : m < nb) (hne : ∀ q, q ∈ dd → q.1 ≠ m) (k12 : ¬ wwith (bs m).2.1.2.2.2 (dmix bs [] dd) ≤ 60 → ∀ Q2, R0 (nb, bs, ro, lb, ps, ac, jr, bo, mo, gi, tr, tp, wy, wh, tc, st, ds, dw, bf, ba, bc) Q2 kc → zev (mbd (mf_no Q2 12) (fun Q v => some (Q, v))) P) (kok : wwith (bs m).2.1.2.2.2 (dmix bs [] dd) ≤ 60 → ∀ Q5 kc5, R0 (nb, spour bs m dd, ro, lb, ps, ac, jr, bo, mo, gi, tr, tp, wy, wh, tc, st, ds, dw, bfB bf nb mo jr.length bo.length, ba, [m] ++ dd.map (fun q => q.1)) Q5 kc5 → Q5.1 39 0 = Q.1 39 0 → zev (F Q5 ()) P) : zev (mbd (mf_mixInto Q (nI m)) (fun Q31 u34 => if u34 = 0 then mbd (mf_no Q31 12) (fun Q35 u38 => some (Q35, u38)) else mbd (mf_keep Q31) (fun Q39 _ => mbd (mf_takeDraws Q39 (-1)) (fun Q42 _ => mbd (mf_become Q42 (nI m)) F)))) P := by
  obtain ⟨w1, w2, w3, w4, w5, w6⟩ := hI.w hm
  obtain ⟨dok, dsk⟩ := Dgo.dok hI.wp hI.i60 hd (Nodup_idx hdn)
  rw [zev_mbd]
  refine zev_mono (m_mixInto h.1 hD hI.1 hm w1 w3 (fun q hq => ⟨(hd q hq).1, (hI.i60 q.1 (hd q hq).1).1, (dsk q hq).2.1⟩)) ?_
  rintro ⟨Q2, u2⟩ ⟨e2, m2, f2⟩
  dsimp only at e2 m2 f2 ⊢
  have r2 := h.scr f2 (by decide)
  have hwl := dmix_with w1 bs dd
  by_cases c : (dmix bs (bs m).2.1.2.2.2 dd).length ≤ 60
  · rw [if_pos c] at e2
    rw [e2, if_neg z10, zev_mbd]
    refine zev_mono (K_keep r2 hI) ?_
    rintro ⟨Q3, u3⟩ ⟨s3, k3, f3⟩
    dsimp only at s3 k3 f3 ⊢
    obtain ⟨rB, rR, rK, rA, rC, rJ, rO, rG, rM, rL, rP, rN, rT, rW, rX, rF, rS⟩ := r2
    rw [zev_mbd]
    refine zev_mono (m_takeDraws (rB.fr f3 (by decide)) ((hD.fr f2 (by decide)).fr f3 (by decide)) (rK.fr f3 (by decide)) (rA.fr f3 (by decide)) rC.1 hI.1 hI.i60 dsk (Nodup_idx hdn) none (fun i hi => by cases hi)) ?_
    rintro ⟨Q4, u4⟩ ⟨kc4, ⟨t4, ek4⟩, b4, k4, a4, c4, f4⟩
    dsimp only at b4 k4 a4 c4 f4 ⊢
    have hsame : scarry bs dd m = bs m := by
      unfold scarry
      cases hf : dfind dd m with
      | none => rfl
      | some q => exact absurd (dfind_mem hf).2 (hne q (dfind_mem hf).1)
    have hc := V_car (ac' := ac) hI hd hI.2.2.2
    rw [zev_mbd]
    refine zev_mono (m_become b4 ((m2.fr f3 (by decide)).fr f4 (by decide)) hI.1 hm c (fun x hx => (hc.i60 x hx).1)) ?_
    rintro ⟨Q5, u5⟩ ⟨b5, f5⟩
    dsimp only at b5 f5 ⊢
    rw [hsame] at b5
    have f35 : qfr Q3 Q5 [8, 9, 10, 14, 15, 16, 17, 63] := f4.tr0 (f5.mono (by decide))
    have F5 : qfr Q2 Q5 [8, 9, 10, 14, 15, 16, 17, 43, 44, 45, 46, 47, 48, 49, 50, 51, 52, 53, 54, 55, 56, 57, 58, 59, 63] := (f3.mono (by decide)).tr0 (f35.mono (by decide))
    have b5' : mBs Q5 nb (spour bs m dd) := b5.cong (fun x hx => by
      unfold spour bup
      by_cases e : x = m
      · rw [if_pos e, if_pos e]; exact ⟨rfl, rfl, rfl⟩
      · rw [if_neg e, if_neg e]; exact ⟨rfl, rfl, rfl⟩)
    have C5 : mCd kc4 nb (spour bs m dd) ac := by
      refine ⟨c4, fun b' hb' q hq => ?_⟩
      have hk4 : ∀ b, b < nb → ∀ q, q ∈ (bs b).2.1.2.2.2 → q.1 ∈ kc4 := fun b hb2 q hq => by rw [ek4]; exact List.mem_append_left _ (rC.2 b hb2 q hq)
      unfold spour bup at hq
      by_cases e : b' = m
      · rw [if_pos e] at hq
        exact dmix_kc hk4 dd _ (fun y hy => (hd y hy).1) (hk4 m hm) q hq
      · rw [if_neg e] at hq
        exact car_kc hk4 b' hb' q hq
    refine kok (by rw [← hwl]; exact c) Q5 kc4 ?_ (by rw [F5.i 39 (by decide), f2.i 39 (by decide)])
    exact ⟨b5', rR.fr F5 (by decide), k4.fr f5 (by decide), a4.fr f5 (by decide), C5, rJ.fr F5 (by decide) (by decide), rO.fr F5 (by decide) (by decide), (by rw [F5.i 0 (by decide)]; exact rG), (by rw [F5.i 18 (by decide)]; exact rM), rL.fr F5 (by decide), rP.fr F5 (by decide), rN.fr F5 (by decide), (by rw [F5.i 38 (by decide)]; exact rT), (by rw [F5.i 40 (by decide)]; exact rW), rX.fr F5 (by decide), (by rw [f35.i 43 (by decide)]; exact k3), fun _ => ((s3.fr f35 (by decide)).kc ⟨t4, ek4⟩).ceq (U_pour hI.1) rfl (bfB_3 hj) (bfB_4 hb)⟩
  · rw [if_neg c] at e2
    rw [e2, if_pos rfl]
    exact k12 (by rw [← hwl]; exact c) Q2 r2
theorem J_pour {t nb m v : Nat} {bs : Nat → Bv} {ro : Nat → Rw} {lb lb' : List Lb} {ps ps' : List (Nat × Int64)} {ac : Nat → Wn} {jr bo jr' : List Ln} {mo : Int32} {gi : Int64} {tr tp wy wh tr' tp' wy' wh' : Int32} {tc tc' : List Int32} {st st' : List Int64} {ds ds' dd : List (Nat × Int64)} {dw dw' : Wn} {bf : Nat → Int32} {ba : Wn} {bc : List Nat} (h : Jc t (nb, bs, ro, lb, ps, ac, jr, bo, mo, gi, tr, tp, wy, wh, tc, st, ds, dw, bf, ba, bc)) (ht : t < 512) (hm : m < nb) (h5 : (bs m).1.1 ≠ 5) (hd : ∀ q, q ∈ dd → Dgo bs nb q) (hs : dsum dd = v) (hv : ((nT (bs m).2.1.2.2.2 + v : Nat) : Int) ≤ (vt (bs m).1).toInt) (hw : wwith (bs m).2.1.2.2.2 (dmix bs [] dd) ≤ 60) (hp : ps' = ps ∨ ps' = []) (e1 : jr.length ≤ jr'.length) (e2 : jr'.length ≤ 8 * (t + 1)) : Jc (t + 1) (nb, spour bs m dd, ro, lb', ps', ac, jr', bo, mo, gi, tr', tp', wy', wh', tc', st', ds', dw', bfB bf nb mo jr.length bo.length, ba, [m] ++ dd.map (fun q => q.1)) := by
  obtain ⟨jI, jR, jP, jJ, jB, ⟨g, g1, g2⟩, jF, jU⟩ := h
  have hN := jI.1
  have R' := Ira_pour (to := m) (ds := dd) jR
  have hwl := dmix_with (jI.w hm).1 bs dd
  have P' : Ips nb ps' := by
    rcases hp with rfl | rfl
    · exact jP
    · exact ⟨fun q hq => by simp at hq, fun i j q r hi => by simp at hi, by decide⟩
  exact ⟨V_pour jI hm hd h5 hs hv (by rw [hwl]; exact hw), R', P', e2, by omega, ⟨g, by omega, g2⟩, Or.inr rfl, fun _ => ⟨UokB (by omega) (by omega) (fun c' hc' => by
    rcases List.mem_append.mp hc' with z | z
    · rw [List.mem_singleton] at z; omega
    · obtain ⟨q, hq, e⟩ := List.mem_map.mp z; rw [← e]; exact (hd q hq).1), by rw [bfB_3 (by omega)]; exact e1, by rw [bfB_4 (by omega)]; exact Nat.le_refl _, jI.cong (U_pour hN), by rw [bfB_1 (by omega)]; exact Ira_sres R'⟩⟩
