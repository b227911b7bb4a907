/-! The reference's acts: rack, topUp. -/
theorem draw_ne {nb n m : Nat} {bs : Nat → Bv} {ro : Nat → Rw} {ac : Nat → Wn} (h : Ic nb bs ro ac) (hn : n < nb) (hnm : n ≠ m) (hpm : (bs m).2.1.2.1 < 10000) {dd : List (Nat × Int64)} (hd : ∀ q, q ∈ dd → (q.1 = n ∧ (bs n).1.1 ≠ 5) ∨ (q.1 ∈ bms (bs n) ∧ (bs n).1.1 = 5)) : ∀ q, q ∈ dd → q.1 ≠ m := by
  intro q hq e
  rcases hd q hq with ⟨z, -⟩ | ⟨z, -⟩
  · exact hnm (z.symm.trans e)
  · have h2 := ((h.2.1 n hn).2.2.2.2.2.2.2 q.1 z).2.2
    have hN := h.1
    rw [e] at h2
    rw [h2, c10000 (by omega)] at hpm
    exact absurd hpm (nI_nlt (b := 10000) (by omega) (by omega))
theorem wsum_spour {nb m v : Nat} {bs : Nat → Bv} {ro : Nat → Rw} {ac : Nat → Wn} {dd : List (Nat × Int64)} (h : Ic nb bs ro ac) (hm : m < nb) (hd : ∀ q, q ∈ dd → Dgo bs nb q) (h5 : (bs m).1.1 ≠ 5) (hs : dsum dd = v) (hv : ((nT (bs m).2.1.2.2.2 + v : Nat) : Int) ≤ (vt (bs m).1).toInt) (hl : wwith (bs m).2.1.2.2.2 (dmix bs [] dd) ≤ 60) : (spour bs m dd m).2.1.2.2.2.length ≤ 60 ∧ ∃ k : Nat, k ≤ 1000000000 ∧ wsum (spour bs m dd m).2.1.2.2.2 = lN k := by
  have hwl := dmix_with (h.w hm).1 bs dd
  have hc := V_pour h hm hd h5 hs hv (by rw [hwl]; exact hl)
  exact ⟨(hc.i60 m hm).1, _, (hc.wp m hm).2, hc.sum hm⟩
/-- the two answers of MOST: as a number -/
theorem vt_i {nb m : Nat} {bs : Nat → Bv} {ro : Nat → Rw} {ac : Nat → Wn} (h : Ic nb bs ro ac) (hm : m < nb) (h5 : (bs m).1.1 ≠ 5) : ∃ x : Nat, x ≤ 1000000000 ∧ btak bs (bs m) = lN x ∧ (vt (bs m).1).toInt = (x : Int) ∧ nT (bs m).2.1.2.2.2 ≤ x := by
  obtain ⟨x, x1, x2⟩ := vt_N h5 ((h.2.1 m hm).2.1 h5)
  have e : (vt (bs m).1).toInt = (x : Int) := by rw [x2, pk_lT (by omega)]
  refine ⟨x, x1, (btak_v h5).trans x2, e, ?_⟩
  have := (h.w hm).2.2.2.2.1 h5
  rw [wtot_nT _ (h.w hm).2.2.2.1, e] at this
  omega
/-- drawn from n, poured into m, entered -/
theorem N_move {t nb n m : Nat} {bs : Nat → Bv} {ro : Nat → Rw} {lb : List Lb} {ps : List (Nat × Int64)} {ac : Nat → Wn} {jr bo : List Ln} {mo : Int32} {gi : Int64} {tr tp wy wh tr0 tp0 wy0 wh0 : Int32} {tc tc0 : List Int32} {st : List Int64} {ds : List (Nat × Int64)} {dw : Wn} {bf : Nat → Int32} {ba : Wn} {bc : List Nat} {Q : Mq} {kc : List Int32} {G : Mq → Option (Mq × Int64)} {ans : Int64} (jc : Int32) (jL : Int64) (hjc : jc.toInt64 = jL) (hJ : Jc t (nb, bs, ro, lb, ps, ac, jr, bo, mo, gi, tr0, tp0, wy0, wh0, tc0, st, ds, dw, bf, ba, bc)) (ht : t < 512) (h : R0 (nb, bs, ro, lb, ps, ac, jr, bo, mo, gi, tr, tp, wy, wh, tc, st, ds, dw, bf, ba, bc) Q kc) (hn : n < nb) (hm : m < nb) (h5 : (bs m).1.1 ≠ 5) (hnm : n ≠ m) (hpm : (bs m).2.1.2.1 < 10000) (v : Int64) (h0 : 0 < v.toInt) (hv : v ≤ bspa bs (bs n)) (hr : ((nT (bs m).2.1.2.2.2 + v.toInt.toNat : Nat) : Int) ≤ (vt (bs m).1).toInt) (z39 : Q.1 39 0 = 0)
    (hG : ∀ Q5 kc5, R0 (nb, spour bs m (dlst bs n v), ro, lb, ps, ac, jr ++ [(jL, (nI n).toInt64, (nI m).toInt64, v)], bo, mo, gi, tr, tp, wy, wh, tapp 200 tc (dlstT bs n v), st, dlst bs n v, dmix bs [] (dlst bs n v), bfB bf nb mo jr.length bo.length, ba, [m] ++ (dlst bs n v).map (fun q => q.1)) Q5 kc5 → Q5.1 39 0 = 0 → wwith (bs m).2.1.2.2.2 (dmix bs [] (dlst bs n v)) ≤ 60 → zev (G Q5) (Post (ans, (nb, spour bs m (dlst bs n v), ro, lb, ps, ac, jr ++ [(jL, (nI n).toInt64, (nI m).toInt64, v)], bo, mo, gi, tr, tp, wy, wh, tapp 200 tc (dlstT bs n v), st, dlst bs n v, dmix bs [] (dlst bs n v), bfB bf nb mo jr.length bo.length, ba, [m] ++ (dlst bs n v).map (fun q => q.1))))) : zev (zb1 (some (qi Q 60 0 0)) (fun Q25 => mbd (mf_drawFrom Q25 (nI n) v 1) (fun Q28 _ => mbd (mf_mixInto Q28 (nI m)) (fun Q31 u34 => if u34 = 0 then mbd (mf_no Q31 12) (fun Q35 u38 => some (Q35, u38)) else mbd (mf_keep Q31) (fun Q39 _ => mbd (mf_takeDraws Q39 (-1)) (fun Q42 _ => mbd (mf_become Q42 (nI m)) (fun Q45 _ => mbd (mf_enter Q45 jc (nI n) (nI m) v) (fun Q48 _ => G Q48)))))))) (Post (if wwith (bs m).2.1.2.2.2 (dmix bs [] (dlst bs n v)) ≤ 60 then (ans, (nb, spour bs m (dlst bs n v), ro, lb, ps, ac, jr ++ [(jL, (nI n).toInt64, (nI m).toInt64, v)], bo, mo, gi, tr, tp, wy, wh, tapp 200 tc (dlstT bs n v), st, dlst bs n v, dmix bs [] (dlst bs n v), bfB bf nb mo jr.length bo.length, ba, [m] ++ (dlst bs n v).map (fun q => q.1))) else (-12, (nb, bs, ro, lb, ps, ac, jr, bo, mo, gi, tr, tp, wy, wh, tapp 200 tc (dlstT bs n v), st, dlst bs n v, dmix bs [] (dlst bs n v), bf, ba, bc)))) ∧ (wwith (bs m).2.1.2.2.2 (dmix bs [] (dlst bs n v)) ≤ 60 → Jc (t + 1) (nb, spour bs m (dlst bs n v), ro, lb, ps, ac, jr ++ [(jL, (nI n).toInt64, (nI m).toInt64, v)], bo, mo, gi, tr, tp, wy, wh, tapp 200 tc (dlstT bs n v), st, dlst bs n v, dmix bs [] (dlst bs n v), bfB bf nb mo jr.length bo.length, ba, [m] ++ (dlst bs n v).map (fun q => q.1))) := by
  have hJs := hJ
  obtain ⟨jI, jR, jP, jJ, jB, jG, jF, jU⟩ := hJ
  obtain ⟨dg, dn, dsm, dm⟩ := D_lst jI hn h0 hv
  have hne := draw_ne jI hn hnm hpm dm
  refine ⟨?_, fun hw => J_pour hJs ht hm h5 dg dsm hr hw (Or.inl rfl) (by rw [List.length_append]; omega) (by rw [List.length_append]; simp only [List.length_cons, List.length_nil]; omega)⟩
  have f1 : qfr Q (qi Q 60 0 0) [60] := qfr.qi (by decide)
  rw [zev_b1, zev_some, zev_mbd]
  have d1 : mDr (qi Q 60 0 0) [] := mDr0
  generalize qi Q 60 0 0 = Q1 at f1 d1 ⊢
  have hh := h
  obtain ⟨rB, rR, rK, rA, rC, rJ, rO, rG, rM, rL, rP, rN, rT, rW, rX, rF, rS⟩ := hh
  refine zev_mono (N_draw (rB.fr f1 (by decide)) (rX.fr f1 (by decide)) d1 jI hn h0 (by decide)) ?_
  rintro ⟨Q2, u2⟩ ⟨d2, t2, f2⟩
  dsimp only at d2 t2 f2 ⊢
  rw [List.nil_append] at d2
  have f02 : qfr Q Q2 [41, 42, 60, 61, 62] := (f1.mono (by decide)).tr0 f2
  have r2 := R0.tcS (ds' := dlst bs n v) (dw' := dmix bs [] (dlst bs n v)) h f02 (by decide) t2
  refine N_pour r2 jI (by omega) (by omega) d2 dg dn hm hne (fun hw Q3 r3 => ?_) (fun hw Q5 kc5 r5 z5 => ?_)
  · rw [if_neg hw]
    exact P_no r3 12 rfl (by decide) (by decide) rfl
  · rw [if_pos hw, zev_mbd]
    have hJl : mJl Q5 20 19 jr := by obtain ⟨rB, rR, rK, rA, rC, rJ, rO, rG, rM, rL, rP, rN, rT, rW, rX, rF, rS⟩ := r5; exact rJ
    refine zev_mono (m_enter hJl (by omega) jc (nI n) (nI m) v) ?_
    rintro ⟨Q6, u6⟩ ⟨j6, f6⟩
    dsimp only at j6 f6 ⊢
    have r6 := R0.jadd r5 j6 f6
    rw [hjc] at r6
    exact hG Q6 kc5 r6 (by rw [f6.i 39 (by decide), z5, f02.i 39 (by decide)]; exact z39) hw
theorem bad2_0 {a b r : Int32} (h : bad2 a b r = 0) : a = 0 ∧ b = 0 ∧ r = 0 := by
  unfold bad2 at h
  by_cases e : fst0 a b = 0
  · rw [if_pos e] at h
    exact ⟨(fst0_0 e).1, (fst0_0 e).2, h⟩
  · rw [if_neg e] at h; exact absurd h e
set_option maxHeartbeats 1000000 in
theorem N_rack {c : Cs} {Q : Mq} {kc : List Int32} {t : Nat} (hJ : Jc t c) (ht : t < 512) (h : R0 c Q kc) (a b : Int32) (v : Int64) : zev (mf_rack Q a b v) (Post (sRack a b v (sOpen c))) ∧ Jc (t + 1) (sRack a b v (sOpen c)).2 := by
  obtain ⟨nb, bs, ro, lb, ps, ac, jr, bo, mo, gi, tr, tp, wy, wh, tc, st, ds, dw, bf, ba, bc⟩ := c
  have hJ0 := hJ.mono (Nat.le_succ t)
  have hJ' := hJ0.opn
  have hJs := hJ
  obtain ⟨jI, jR, jP, jJ, jB, jG, jF, jU⟩ := hJ
  have hN := jI.1
  have h1 := h.opn
  have q39 : (qi (qi (qi Q 38 0 (Q.1 38 0 + 1)) 41 0 0) 39 0 0).1 39 0 = 0 := rfl
  unfold mf_rack mf_rack_J37 mf_rack_J77 sRack sOpen
  rw [zev_mbd, zev_eq m_begin]
  dsimp only
  generalize qi (qi (qi Q 38 0 (Q.1 38 0 + 1)) 41 0 0) 39 0 0 = Q1 at h1 q39 ⊢
  rw [zev_mbd, zev_eq (m_isAmount v)]
  dsimp only
  by_cases c3 : isml v
  · rw [if_pos c3, if_pos c3, if_neg z10, zev_mbd, zev_eq (m_looked h1.1 a)]
    dsimp only
    obtain ⟨v1, v2⟩ := isml_i c3
    by_cases c4 : lk nb a = 0
    · rw [if_pos c4, zev_mbd, zev_eq (m_lookedV h1.1 hN b)]
      dsimp only
      by_cases c5 : lkv nb bs b = 0
      · rw [c5, if_pos (show (0 : Int32) ≤ 0 by decide)]
        have hb2 : bad2 (lk nb a) 0 (cpr bs a b) = cpr bs a b := by unfold bad2 fst0; rw [if_pos c4, if_pos rfl]
        rw [hb2]
        obtain ⟨n, hn, rfl⟩ := lk_0 hN c4
        obtain ⟨m, hm, rfl, hm5⟩ := lkv_0 hN c5
        have hn1 : n < 2 ^ 31 := by omega
        have hm1 : m < 2 ^ 31 := by omega
        unfold cpr
        rw [nI_clamp hn1, nI_clamp hm1]
        by_cases c6 : nI n = nI m
        · rw [if_pos c6, if_pos c6, if_neg (by decide)]
          exact ⟨P_no h1 13 rfl (by decide) (by decide) rfl, hJ'⟩
        · have hnm : n ≠ m := fun e => c6 (by rw [e])
          rw [if_neg c6, if_neg c6, zev_mbd, zev_eq (m_inCask h1.1 hN hn)]
          dsimp only
          by_cases c7 : (bs n).2.1.2.1 < 10000
          · rw [if_pos c7, if_pos rfl, if_pos c7, zev_mbd, zev_eq (m_inCask h1.1 hN hm)]
            dsimp only
            by_cases c8 : (bs m).2.1.2.1 < 10000
            · rw [if_pos c8, if_pos rfl, if_pos c8, if_pos rfl, zev_mbd]
              have hTc : mTc Q1 [] := by obtain ⟨rB, rR, rK, rA, rC, rJ, rO, rG, rM, rL, rP, rN, rT, rW, rX, rF, rS⟩ := h1; exact rX
              have hkey : zev (mf_spare Q1 (nI n)) (fun y => y.2 = bspa bs (bs n) ∧ R0 (nb, bs, ro, lb, ps, ac, jr, bo, mo, gi, tr + 1, 1, wy, wh, tapp 200 [] (bspaT bs (bs n)), st, ds, dw, bf, ba, bc) y.1 kc ∧ y.1.1 39 0 = 0) := by
                refine zev_mono (m_spare h1.1 hTc hN hn jI.i60 jI.kd jI.mem (jI.ml n hn).1 (jI.ml n hn).2) ?_
                rintro ⟨Q2, u⟩ ⟨e2, t2, f2⟩
                exact ⟨e2, R0.tcS h1 f2 (by decide) t2, by rw [f2.i 39 (by decide)]; exact q39⟩
              unfold sTc sDraw sPour sJ
              dsimp only
              generalize tapp 200 [] (bspaT bs (bs n)) = tc2 at hkey ⊢
              obtain ⟨mx, mx1, mx2, mx3, mx4⟩ := vt_i jI hm hm5
              have hw3 := (jI.w hm).2.2.1
              obtain ⟨aN, aN2⟩ := lN_of (show 0 ≤ v.toInt by omega)
              have hadd : wsum (bs m).2.1.2.2.2 + v = lN (nT (bs m).2.1.2.2.2 + v.toInt.toNat) := by
                conv => lhs; rw [jI.sum hm, aN]
                rw [lN_add]
              by_cases c9 : v ≤ bspa bs (bs n)
              · rw [if_pos c9]
                have hkey2 : zev (mf_spare Q1 (nI n)) (fun y => y.2 = bspa bs (bs n) ∧ zev (mf_most y.1 (nI m)) (fun z => z.2 = lN mx ∧ R0 (nb, bs, ro, lb, ps, ac, jr, bo, mo, gi, tr + 1, 1, wy, wh, tapp 200 tc2 (btakT bs (bs m)), st, ds, dw, bf, ba, bc) z.1 kc ∧ z.1.1 39 0 = 0)) := by
                  refine zev_mono hkey ?_
                  rintro ⟨Q2, u2⟩ ⟨e2, r2, z2⟩
                  refine ⟨e2, ?_⟩
                  have hT2 : mTc Q2 tc2 := by obtain ⟨rB, rR, rK, rA, rC, rJ, rO, rG, rM, rL, rP, rN, rT, rW, rX, rF, rS⟩ := r2; exact rX
                  refine zev_mono (m_most r2.1 hT2 hN hm jI.kd jI.mem (jI.ml m hm).1 (jI.ml m hm).2) ?_
                  rintro ⟨Q3, u3⟩ ⟨e3, t3, f3⟩
                  exact ⟨e3.trans mx2, R0.tcS r2 f3 (by decide) t3, by rw [f3.i 39 (by decide)]; exact z2⟩
                generalize tapp 200 tc2 (btakT bs (bs m)) = tc3 at hkey2 ⊢
                rw [mx2]
                by_cases c10 : nT (bs m).2.1.2.2.2 + v.toInt.toNat ≤ mx
                · have c10' : wsum (bs m).2.1.2.2.2 + v ≤ lN mx := by rw [hadd]; exact (pk_lLE (by omega) (by omega)).mpr c10
                  rw [if_pos c10']
                  have hmv : ∀ Q3, R0 (nb, bs, ro, lb, ps, ac, jr, bo, mo, gi, tr + 1, 1, wy, wh, tc3, st, ds, dw, bf, ba, bc) Q3 kc → Q3.1 39 0 = 0 → _ := fun Q3 r3 z3 => N_move (G := fun Q48 => mbd (mf_inVessel Q48 (nI m)) (fun Q51 u54 => some (Q51, u54))) (ans := wsum (spour bs m (dlst bs n v) m).2.1.2.2.2) 2 2 rfl hJs ht r3 hn hm hm5 hnm c8 v (by omega) c9 (by rw [mx3]; omega) z3 (fun Q5 kc5 r5 z5 hw => by
                    obtain ⟨dg, dn, dsm, dm⟩ := D_lst jI hn (show 0 < v.toInt by omega) c9
                    obtain ⟨ol, k9, hk9, os⟩ := wsum_spour jI hm dg hm5 dsm (by rw [mx3]; omega) hw
                    rw [zev_mbd, zev_eq (m_inVessel r5.1 hN hm ol)]
                    dsimp only
                    rw [zev_some]
                    exact ⟨rfl, kc5, r5, by show Q5.1 39 0 = cwy (wsum (spour bs m (dlst bs n v) m).2.1.2.2.2); rw [z5, os, cwy_N (by omega)]⟩)
                  refine ⟨?_, ?_⟩
                  · refine zev_mono hkey2 ?_
                    rintro ⟨Q2, u2⟩ ⟨e2, k2⟩
                    dsimp only at e2 k2 ⊢
                    rw [e2, if_pos c9, zev_mbd]
                    refine zev_mono k2 ?_
                    rintro ⟨Q3, u3⟩ ⟨e3, r3, z3⟩
                    dsimp only at e3 r3 z3 ⊢
                    rw [e3, zev_mbd, zev_eq (m_inVessel r3.1 hN hm hw3)]
                    dsimp only
                    rw [if_pos c10']
                    exact (hmv Q3 r3 z3).1
                  · obtain ⟨⟨Q2, u2⟩, -, -, ⟨⟨Q3, u3⟩, -, -, r3, z3⟩⟩ := hkey2
                    have := (hmv Q3 r3 z3).2
                    by_cases hw : wwith (bs m).2.1.2.2.2 (dmix bs [] (dlst bs n v)) ≤ 60
                    · rw [if_pos hw]; exact this hw
                    · rw [if_neg hw]; exact Jc.any hJ0
                · have c10' : ¬ wsum (bs m).2.1.2.2.2 + v ≤ lN mx := fun z => by rw [hadd] at z; exact c10 ((pk_lLE (by omega) (by omega)).mp z)
                  rw [if_neg c10']
                  refine ⟨?_, Jc.any hJ0⟩
                  refine zev_mono hkey2 ?_
                  rintro ⟨Q2, u2⟩ ⟨e2, k2⟩
                  dsimp only at e2 k2 ⊢
                  rw [e2, if_pos c9, zev_mbd]
                  refine zev_mono k2 ?_
                  rintro ⟨Q3, u3⟩ ⟨e3, r3, z3⟩
                  dsimp only at e3 r3 z3 ⊢
                  rw [e3, zev_mbd, zev_eq (m_inVessel r3.1 hN hm hw3)]
                  dsimp only
                  rw [if_neg c10']
                  exact P_no r3 11 rfl (by decide) (by decide) rfl
              · rw [if_neg c9]
                refine ⟨?_, Jc.any hJ0⟩
                refine zev_mono hkey ?_
                rintro ⟨Q2, u2⟩ ⟨e2, r2, z2⟩
                dsimp only at e2 r2 z2 ⊢
                rw [e2, if_neg c9]
                exact P_no r2 10 rfl (by decide) (by decide) rfl
            · rw [if_neg c8, if_neg z10, if_neg c8, if_neg (by decide)]
              exact ⟨P_no h1 9 rfl (by decide) (by decide) rfl, hJ'⟩
          · rw [if_neg c7, if_neg z10, if_neg c7, if_neg (by decide)]
            exact ⟨P_no h1 9 rfl (by decide) (by decide) rfl, hJ'⟩
      · have hb2 : bad2 (lk nb a) (lkv nb bs b) (cpr bs a b) = lkv nb bs b := by unfold bad2 fst0; rw [if_pos c4, if_neg c5]
        rw [hb2, if_neg c5]
        obtain ⟨p1, p2⟩ := P_rs (a := (-(lkv nb bs b)).toInt64) h1 (by rcases lkv_n c5 with e | e | e <;> simp only [e] <;> decide) rfl
        rw [if_neg p1]
        exact ⟨p2, hJ'⟩
    · have hb2 : bad2 (lk nb a) (lkv nb bs b) (cpr bs a b) = lk nb a := by unfold bad2 fst0; rw [if_neg c4, if_neg c4]
      rw [if_neg c4, hb2, if_neg c4]
      obtain ⟨p1, p2⟩ := P_lk (a := (-(lk nb a)).toInt64) h1 c4 rfl
      rw [if_neg p1]
      exact ⟨p2, hJ'⟩
  · rw [if_neg c3, if_neg c3, if_pos rfl]
    exact ⟨P_no h1 1 rfl (by decide) (by decide) rfl, hJ'⟩
