/-! The reference's acts: drain, wash, bottle. -/
theorem J_off {t nb hw : Nat} {bs : Nat → Bv} {ro : Nat → Rw} {lb lb' : List Lb} {ps : List (Nat × Int64)} {ac : Nat → Wn} {jr bo jr' bo' : List Ln} {mo : Int32} {gi gi' : Int64} {tr tp wy wh tr' tp' wy' wh' : Int32} {tc tc' : List Int32} {st st' : List Int64} {ds ds' ds0 : List (Nat × Int64)} {dw dw' : Wn} {bf : Nat → Int32} {ba : Wn} {bc : List Nat} (h : Jc t (nb, bs, ro, lb, ps, ac, jr, bo, mo, gi, tr, tp, wy, wh, tc, st, ds, dw, bf, ba, bc)) (ht : t < 512) (hd : ∀ q, q ∈ ds0 → Dgo bs nb q) (hh : hw < 5) (e1 : jr.length ≤ jr'.length) (e2 : jr'.length ≤ 8 * (t + 1)) (e3 : bo.length ≤ bo'.length) (e4 : bo'.length ≤ t + 1) (e5 : ∃ n, n ≤ t + 1 ∧ gi' = (nI n).toInt64) : Jc (t + 1) (nb, scarry bs ds0, ro, lb', ps, aup ac hw (dmix bs (ac hw) ds0), jr', bo', mo, gi', tr', tp', wy', wh', tc', st', ds', dw', fu (bfB bf nb mo jr.length bo.length) 8 (nI hw), ac hw, ds0.map (fun q => q.1)) := by
  obtain ⟨jI, jR, jP, jJ, jB, jG, jF, jU⟩ := h
  have hN := jI.1
  have R' := Ira_car (ds := ds0) jR
  have a' := jI.2.2.2 hw hh
  refine ⟨V_car jI hd (Iac_up jI.2.2.2 (wris_dmix bs _ _ a'.1) (wcod_dmix bs _ _ a'.2 (jI.wcds hd))), R', jP, e2, e4, e5, Or.inr rfl, fun _ => ⟨⟨⟨nb, Nat.le_refl _, rfl⟩, ⟨_, by omega, rfl⟩, ⟨_, by omega, rfl⟩, Or.inl rfl, Or.inr ⟨hw, hh, rfl⟩, fun c' hc' => by obtain ⟨q, hq, e⟩ := List.mem_map.mp hc'; rw [← e]; exact (hd q hq).1⟩, by rw [show (fu (bfB bf nb mo jr.length bo.length) 8 (nI hw)) 3 = bfB bf nb mo jr.length bo.length 3 from rfl, bfB_3 (by omega)]; exact e1, by rw [show (fu (bfB bf nb mo jr.length bo.length) 8 (nI hw)) 4 = bfB bf nb mo jr.length bo.length 4 from rfl, bfB_4 (by omega)]; exact e3, jI.cong (U_off hN hh), by rw [show (fu (bfB bf nb mo jr.length bo.length) 8 (nI hw)) 1 = bfB bf nb mo jr.length bo.length 1 from rfl, bfB_1 (by omega)]; exact Ira_sres R'⟩⟩
/-- the value behind keep and the taking of all that is drawn -/
theorem R_off {nb hw : Nat} {bs : Nat → Bv} {ro : Nat → Rw} {lb : List Lb} {ps : List (Nat × Int64)} {ac : Nat → Wn} {jr bo : List Ln} {mo : Int32} {gi : Int64} {tr tp wy wh : Int32} {tc tc' : List Int32} {st : List Int64} {ds ds' ds0 : List (Nat × Int64)} {dw dw' : Wn} {bf : Nat → Int32} {ba : Wn} {bc : List Nat} {Q Q2 Q3 : Mq} {kc kc' : List Int32} (h : R0 (nb, bs, ro, lb, ps, ac, jr, bo, mo, gi, tr, tp, wy, wh, tc, st, ds, dw, bf, ba, bc) Q kc) (hI : Ic nb bs ro ac) (hj : jr.length < 2 ^ 31) (hb : bo.length < 2 ^ 31) (hh : hw < 5) (s2 : mSn Q2 kc nb bs ro ac mo jr.length bo.length) (k2 : Q2.1 43 0 = 1) (f2 : qfr Q Q2 [43, 44, 45, 46, 47, 48, 49, 50, 51, 52, 53, 54, 55, 56, 57, 58, 59]) (ek : ∃ t, kc' = kc ++ t) (b3 : mBs Q3 nb (scarry bs ds0)) (k3 : mKn Q3 kc') (a3 : mAk Q3 kc' (aup ac hw (dmix bs (ac hw) ds0))) (c3 : cdk kc' (aup ac hw (dmix bs (ac hw) ds0))) (x3 : mTc Q3 tc') (f3 : qfr Q2 Q3 [8, 9, 10, 14, 15, 16, 17, 41, 42, 60, 61, 62, 63]) : R0 (nb, scarry bs ds0, ro, lb, ps, aup ac hw (dmix bs (ac hw) ds0), jr, bo, mo, gi, tr, tp, wy, wh, tc', st, ds', dw', fu (bfB bf nb mo jr.length bo.length) 8 (nI hw), ac hw, ds0.map (fun q => q.1)) Q3 kc' := by
  obtain ⟨rB, rR, rK, rA, rC, rJ, rO, rG, rM, rL, rP, rN, rT, rW, rX, rF, rS⟩ := h
  have F : qfr Q Q3 [8, 9, 10, 14, 15, 16, 17, 41, 42, 43, 44, 45, 46, 47, 48, 49, 50, 51, 52, 53, 54, 55, 56, 57, 58, 59, 60, 61, 62, 63] := (f2.mono (by decide)).tr0 (f3.mono (by decide))
  exact ⟨b3, rR.fr F (by decide), k3, a3, ⟨c3, car_kc (fun b' hb' q hq => by obtain ⟨t, e⟩ := ek; rw [e]; exact List.mem_append_left _ (rC.2 b' hb' q hq))⟩, rJ.fr F (by decide) (by decide), rO.fr F (by decide) (by decide), (by rw [F.i 0 (by decide)]; exact rG), (by rw [F.i 18 (by decide)]; exact rM), rL.fr F (by decide), rP.fr F (by decide), rN.fr F (by decide), (by rw [F.i 38 (by decide)]; exact rT), (by rw [F.i 40 (by decide)]; exact rW), x3, (by rw [f3.i 43 (by decide)]; exact k2), fun _ => ((s2.fr f3 (by decide)).kc ek).ceq (U_off hI.1 hh) rfl (nI_clamp (n := jr.length) hj) (nI_clamp (n := bo.length) hb)⟩
theorem R0.jadd {nb : Nat} {bs : Nat → Bv} {ro : Nat → Rw} {lb : List Lb} {ps : List (Nat × Int64)} {ac : Nat → Wn} {jr jr' bo : List Ln} {mo : Int32} {gi : Int64} {tr tp wy wh : Int32} {tc : List Int32} {st : List Int64} {ds : List (Nat × Int64)} {dw : Wn} {bf : Nat → Int32} {ba : Wn} {bc : List Nat} {Q Q2 : Mq} {kc : List Int32} (h : R0 (nb, bs, ro, lb, ps, ac, jr, bo, mo, gi, tr, tp, wy, wh, tc, st, ds, dw, bf, ba, bc) Q kc) (j2 : mJl Q2 20 19 jr') (f2 : qfr Q Q2 [19, 20]) : R0 (nb, bs, ro, lb, ps, ac, jr', bo, mo, gi, tr, tp, wy, wh, tc, st, ds, dw, bf, ba, bc) Q2 kc := by
  obtain ⟨rB, rR, rK, rA, rC, rJ, rO, rG, rM, rL, rP, rN, rT, rW, rX, rF, rS⟩ := h
  exact ⟨rB.fr f2 (by decide), rR.fr f2 (by decide), rK.fr f2 (by decide), rA.fr f2 (by decide), rC, j2, rO.fr f2 (by decide) (by decide), (by rw [f2.i 0 (by decide)]; exact rG), (by rw [f2.i 18 (by decide)]; exact rM), rL.fr f2 (by decide), rP.fr f2 (by decide), rN.fr f2 (by decide), (by rw [f2.i 38 (by decide)]; exact rT), (by rw [f2.i 40 (by decide)]; exact rW), rX.fr f2 (by decide), (by rw [f2.i 43 (by decide)]; exact rF), fun z => (rS z).fr f2 (by decide)⟩
theorem dlst_v {bs : Nat → Bv} {n : Nat} {v : Int64} (h5 : (bs n).1.1 ≠ 5) (h0 : 0 < v.toInt) : dlst bs n v = [(n, v)] ∧ dlstT bs n v = [] := by
  unfold dlst dlstT
  rw [if_neg h5, if_neg h5, if_neg (fun z => by have := le0_toInt.mp z; omega)]
  exact ⟨rfl, rfl⟩
theorem scarry1 {bs : Nat → Bv} {n : Nat} {v : Int64} : ∀ c, (scarry bs [(n, v)] c).1 = (bup bs n (bwin (bs n) (wles (bs n).2.1.2.2.2 (wshr v (bs n).2.1.2.2.2))) c).1 ∧ (scarry bs [(n, v)] c).2.1 = (bup bs n (bwin (bs n) (wles (bs n).2.1.2.2.2 (wshr v (bs n).2.1.2.2.2))) c).2.1 ∧ bms (scarry bs [(n, v)] c) = bms (bup bs n (bwin (bs n) (wles (bs n).2.1.2.2.2 (wshr v (bs n).2.1.2.2.2))) c) := by
  intro c
  unfold scarry bup
  by_cases e : c = n
  · subst e
    have : dfind [(c, v)] c = some (c, v) := by unfold dfind; simp [List.find?]
    rw [this, if_pos rfl]
    exact ⟨rfl, rfl, rfl⟩
  · have : dfind [(n, v)] c = none := by
      unfold dfind
      rw [List.find?_eq_none]
      intro r hr
      rw [List.mem_singleton] at hr
      rw [hr]
      simpa using fun z => e z.symm
    rw [this, if_neg e]
    exact ⟨rfl, rfl, rfl⟩
/-- keep, then take from one vessel -/
theorem N_off1 {nb n hw : Nat} {bs : Nat → Bv} {ro : Nat → Rw} {lb : List Lb} {ps : List (Nat × Int64)} {ac : Nat → Wn} {jr bo : List Ln} {mo : Int32} {gi : Int64} {tr tp wy wh : Int32} {tc : List Int32} {st : List Int64} {ds : List (Nat × Int64)} {dw : Wn} {bf : Nat → Int32} {ba : Wn} {bc : List Nat} {Q Q2 : Mq} {kc : List Int32} (h : R0 (nb, bs, ro, lb, ps, ac, jr, bo, mo, gi, tr, tp, wy, wh, tc, st, ds, dw, bf, ba, bc) Q kc) (hI : Ic nb bs ro ac) (hj : jr.length < 2 ^ 31) (hb : bo.length < 2 ^ 31) (hn : n < nb) (h5 : (bs n).1.1 ≠ 5) (v : Int64) (h0 : 0 < v.toInt) (hv : v.toInt ≤ (nT (bs n).2.1.2.2.2 : Int)) (hh : hw < 5) (s2 : mSn Q2 kc nb bs ro ac mo jr.length bo.length) (k2 : Q2.1 43 0 = 1) (f2 : qfr Q Q2 [43, 44, 45, 46, 47, 48, 49, 50, 51, 52, 53, 54, 55, 56, 57, 58, 59]) : zev (mf_take Q2 (nI n) v (nI hw)) (fun y => ∃ kc', R0 (sOff n v hw (nb, bs, ro, lb, ps, ac, jr, bo, mo, gi, tr, tp, wy, wh, tc, st, ds, dw, bf, ba, bc)) y.1 kc' ∧ y.1.1 39 0 = Q.1 39 0) := by
  have hO := h
  obtain ⟨rB, rR, rK, rA, rC, rJ, rO, rG, rM, rL, rP, rN, rT, rW, rX, rF, rS⟩ := h
  obtain ⟨w1, w2⟩ := hI.wp n hn
  obtain ⟨s1, q2, q3, q4, q5⟩ := wshr_all w1 w2 (Int.le_of_lt h0) hv
  refine zev_mono (m_take (hw := some hw) (rB.fr f2 (by decide)) (rK.fr f2 (by decide)) (rA.fr f2 (by decide)) rC.1 hI.1 hn hI.i60 (fun hne e => ?_) v s1 (fun i hi => by cases hi; exact ⟨hh, (hI.2.2.2 hw hh).1⟩)) ?_
  · rw [hI.sum hn] at e
    have := (pk_lEQ (b := 0) (by omega) (by decide)).mp e
    omega
  · rintro ⟨Q3, u⟩ ⟨kc', ek, b3, k3, a3, c3, f3⟩
    dsimp only at b3 k3 a3 c3 f3 ⊢
    obtain ⟨d1, d2⟩ := dlst_v (v := v) h5 h0
    refine ⟨kc', ?_, by rw [f3.i 39 (by decide), f2.i 39 (by decide)]⟩
    unfold sOff
    dsimp only
    rw [d1, d2, tapp_nil rX.2.1]
    exact R_off hO hI hj hb hh s2 k2 f2 ek (b3.cong (fun c _ => scarry1 c)) k3 a3 c3 ((rX.fr f2 (by decide)).fr f3 (by decide)) (f3.mono (by decide))
theorem cW_off {n hw : Nat} {v : Int64} {nb : Nat} {bs : Nat → Bv} {ro : Nat → Rw} {lb : List Lb} {ps : List (Nat × Int64)} {ac : Nat → Wn} {jr bo : List Ln} {mo : Int32} {gi : Int64} {tr tp wy wh : Int32} {tc : List Int32} {st : List Int64} {ds : List (Nat × Int64)} {dw : Wn} {bf : Nat → Int32} {ba : Wn} {bc : List Nat} : cW n (sOff n v hw (nb, bs, ro, lb, ps, ac, jr, bo, mo, gi, tr, tp, wy, wh, tc, st, ds, dw, bf, ba, bc)) = (scarry bs (dlst bs n v) n).2.1.2.2.2 := rfl
theorem off_len {nb n : Nat} {bs : Nat → Bv} {ro : Nat → Rw} {ac : Nat → Wn} (h : Ic nb bs ro ac) (hn : n < nb) {ds : List (Nat × Int64)} (hd : ∀ q, q ∈ ds → Dgo bs nb q) : (scarry bs ds n).2.1.2.2.2.length ≤ 60 ∧ ∃ k : Nat, k ≤ 1000000000 ∧ wsum (scarry bs ds n).2.1.2.2.2 = lN k := by
  have hc := V_car (ac' := ac) h hd h.2.2.2
  exact ⟨(hc.i60 n hn).1, nT (scarry bs ds n).2.1.2.2.2, (hc.wp n hn).2, hc.sum hn⟩
theorem N_drain {c : Cs} {Q : Mq} {kc : List Int32} {t : Nat} (hJ : Jc t c) (ht : t < 512) (h : R0 c Q kc) (b : Int32) (v : Int64) (how : Int32) : zev (mf_drain Q b v how) (Post (sDrain b v how (sOpen c))) ∧ Jc (t + 1) (sDrain b v how (sOpen c)).2 := by
  obtain ⟨nb, bs, ro, lb, ps, ac, jr, bo, mo, gi, tr, tp, wy, wh, tc, st, ds, dw, bf, ba, bc⟩ := c
  have hJ0 := hJ.mono (Nat.le_succ t)
  have hJ' := hJ0.opn
  have hJs := hJ
  obtain ⟨jI, jR, jP, jJ, jB, jG, jF, jU⟩ := hJ
  have hN := jI.1
  have h1 := h.opn
  have q39 : (qi (qi (qi Q 38 0 (Q.1 38 0 + 1)) 41 0 0) 39 0 0).1 39 0 = 0 := rfl
  unfold mf_drain mf_drain_J24 sDrain sOpen
  rw [zev_mbd, zev_eq m_begin]
  dsimp only
  generalize qi (qi (qi Q 38 0 (Q.1 38 0 + 1)) 41 0 0) 39 0 0 = Q1 at h1 q39 ⊢
  by_cases c1 : how < 1
  · rw [if_pos c1, if_pos c1]; exact ⟨P_no h1 1 rfl (by decide) (by decide) rfl, hJ'⟩
  rw [if_neg c1, if_neg c1]
  by_cases c2 : 2 < how
  · rw [if_pos c2, if_pos c2]; exact ⟨P_no h1 1 rfl (by decide) (by decide) rfl, hJ'⟩
  rw [if_neg c2, if_neg c2, zev_mbd, zev_eq (m_isAmount v)]
  dsimp only
  by_cases c3 : isml v
  · rw [if_pos c3, if_pos c3, if_neg z10, zev_mbd, zev_eq (m_lookedV h1.1 hN b)]
    dsimp only
    obtain ⟨v1, v2⟩ := isml_i c3
    by_cases c4 : lkv nb bs b = 0
    · rw [c4, if_pos (show (0 : Int32) ≤ 0 by decide)]
      obtain ⟨n, hn, rfl, hn5⟩ := lkv_0 hN c4
      have hn1 : n < 2 ^ 31 := by omega
      rw [zev_mbd, zev_eq (m_inCask h1.1 hN hn), nI_clamp hn1]
      dsimp only
      by_cases c5 : (bs n).2.1.2.1 < 10000
      · have hlkf : lkf nb bs (nI n) = 0 := by unfold lkf; rw [if_pos c4, nI_clamp hn1, if_pos c5]
        obtain ⟨w1, w2, w3, w4, w5, w6⟩ := jI.w hn
        have hsum := jI.sum hn
        have hw9 := (jI.wp n hn).2
        rw [if_pos c5, if_pos rfl, hlkf, if_pos rfl, zev_b1, mev_ai hn1, h1.1.ln hn, hsum]
        by_cases c6 : nT (bs n).2.1.2.2.2 = 0
        · have hnil : (bs n).2.1.2.2.2 = [] := by
            cases hl : (bs n).2.1.2.2.2 with
            | nil => rfl
            | cons y r =>
              rw [hl] at w4 c6
              have h2 := w4 y List.mem_cons_self
              have h3 := nT_mem (y :: r) y List.mem_cons_self
              omega
          rw [c6, hnil, if_pos (show nI ([] : Wn).length = 0 from rfl), if_pos (show lN 0 = 0 from rfl)]
          exact ⟨⟨show n < 1000 by omega, P_no h1 2 rfl (by decide) (by decide) rfl⟩, hJ'⟩
        · have hlen : (bs n).2.1.2.2.2.length ≠ 0 := fun z => c6 (by rw [List.length_eq_zero_iff.mp z]; rfl)
          rw [if_neg (nI_ne0 (by omega) (by omega)), if_neg (show ¬ lN (nT (bs n).2.1.2.2.2) = 0 from fun z => c6 ((pk_lEQ (b := 0) (by omega) (by decide)).mp z)), zev_mbd, zev_eq (m_inVessel h1.1 hN hn w3), hsum]
          dsimp only
          by_cases c7 : v ≤ lN (nT (bs n).2.1.2.2.2)
          · have c7' : v.toInt ≤ (nT (bs n).2.1.2.2.2 : Int) := by rw [i64_le, pk_lT (by omega)] at c7; exact c7
            rw [if_pos c7, if_pos c7]
            obtain ⟨d1, d2⟩ := dlst_v (bs := bs) (n := n) (v := v) hn5 (by omega)
            have hdg : ∀ q, q ∈ dlst bs n v → Dgo bs nb q := fun q hq => by
              rw [d1, List.mem_singleton] at hq; subst hq
              exact ⟨hn, by dsimp only; omega, c7'⟩
            obtain ⟨ol, k9, hk9, os⟩ := off_len jI hn hdg
            have main : ∀ (hw : Nat) (jc : Int32) (jcL : Int64), hw < 5 → jc.toInt64 = jcL → (zev (mbd (mf_keep Q1) (fun Q25 _ => mbd (mf_take Q25 (nI n) v (nI hw)) (fun Q28 _ => mbd (mf_enter Q28 jc (nI n) (-1) v) (fun Q31 _ => mbd (mf_inVessel Q31 (nI n)) (fun Q34 u37 => some (Q34, u37)))))) (Post (wsum (cW n (sOff n v hw (nb, bs, ro, lb, ps, ac, jr, bo, mo, gi, tr + 1, 1, wy, wh, [], st, ds, dw, bf, ba, bc))), sJ (jcL, (nI n).toInt64, -1, v) (sOff n v hw (nb, bs, ro, lb, ps, ac, jr, bo, mo, gi, tr + 1, 1, wy, wh, [], st, ds, dw, bf, ba, bc))))) ∧ Jc (t + 1) (sJ (jcL, (nI n).toInt64, -1, v) (sOff n v hw (nb, bs, ro, lb, ps, ac, jr, bo, mo, gi, tr + 1, 1, wy, wh, [], st, ds, dw, bf, ba, bc))) := by
              intro hw jc jcL hh hjc
              refine ⟨?_, ?_⟩
              · rw [zev_mbd]
                refine zev_mono (K_keep h1 jI) ?_
                rintro ⟨Q2, u2⟩ ⟨s2, k2, f2⟩
                dsimp only at s2 k2 f2 ⊢
                rw [zev_mbd]
                refine zev_mono (N_off1 h1 jI (by omega) (by omega) hn hn5 v (by omega) c7' hh s2 k2 f2) ?_
                rintro ⟨Q3, u3⟩ ⟨kc3, r3, z3⟩
                dsimp only at r3 z3 ⊢
                rw [zev_mbd]
                unfold sOff at r3
                dsimp only at r3
                have hJl : mJl Q3 20 19 jr := by obtain ⟨rB, rR, rK, rA, rC, rJ, rO, rG, rM, rL, rP, rN, rT, rW, rX, rF, rS⟩ := r3; exact rJ
                refine zev_mono (m_enter hJl (by omega) jc (nI n) (-1) v) ?_
                rintro ⟨Q4, u4⟩ ⟨j4, f4⟩
                dsimp only at j4 f4 ⊢
                have r4 := R0.jadd r3 j4 f4
                rw [zev_mbd, zev_eq (m_inVessel r4.1 hN hn ol)]
                dsimp only
                rw [zev_some, cW_off]
                rw [hjc] at r4
                refine ⟨rfl, kc3, r4, ?_⟩
                dsimp only
                rw [f4.i 39 (by decide), z3, q39, os, cwy_N (by omega)]
              · unfold sJ sOff
                dsimp only
                exact J_off hJs ht hdg hh (by rw [List.length_append]; omega) (by rw [List.length_append]; simp only [List.length_cons, List.length_nil]; omega) (Nat.le_refl _) (by omega) (by obtain ⟨x, x1, x2⟩ := jG; exact ⟨x, by omega, x2⟩)
            obtain ⟨j, hj, rfl⟩ := nI_rng (x := how) (n := 2) (by decide) (fun z => c1 (Int32.lt_trans z (by decide))) c2
            have hj2 : j = 1 ∨ j = 2 := by
              have : ¬ j = 0 := fun e => c1 (by rw [e]; decide)
              omega
            rcases hj2 with rfl | rfl
            · rw [if_pos (show nI 1 = 1 from rfl)]
              obtain ⟨m1, m2⟩ := main 2 7 7 (by decide) rfl
              exact ⟨⟨show n < 1000 by omega, m1⟩, m2⟩
            · rw [if_neg (show ¬ nI 2 = 1 from by decide)]
              obtain ⟨m1, m2⟩ := main 3 8 8 (by decide) rfl
              exact ⟨⟨show n < 1000 by omega, m1⟩, m2⟩
          · rw [if_neg c7, if_neg c7]
            exact ⟨⟨show n < 1000 by omega, P_no h1 10 rfl (by decide) (by decide) rfl⟩, hJ'⟩
      · have hlkf : lkf nb bs (nI n) = 9 := by unfold lkf; rw [if_pos c4, nI_clamp hn1, if_neg c5]
        rw [if_neg c5, if_neg z10, hlkf, if_neg (by decide)]
        exact ⟨P_no h1 9 rfl (by decide) (by decide) rfl, hJ'⟩
    · rw [lkf_v c4, if_neg c4]
      obtain ⟨p1, p2⟩ := P_rs (a := (-(lkv nb bs b)).toInt64) h1 (by rcases lkv_n c4 with e | e | e <;> simp only [e] <;> decide) rfl
      rw [if_neg p1]
      exact ⟨p2, hJ'⟩
  · rw [if_neg c3, if_neg c3, if_pos rfl]
    exact ⟨P_no h1 1 rfl (by decide) (by decide) rfl, hJ'⟩
theorem N_wash {c : Cs} {Q : Mq} {kc : List Int32} {t : Nat} (hJ : Jc t c) (ht : t < 512) (h : R0 c Q kc) (b : Int32) : zev (mf_wash Q b) (Post (sWash b (sOpen c))) ∧ Jc (t + 1) (sWash b (sOpen c)).2 := by
  obtain ⟨nb, bs, ro, lb, ps, ac, jr, bo, mo, gi, tr, tp, wy, wh, tc, st, ds, dw, bf, ba, bc⟩ := c
  have hJ0 := hJ.mono (Nat.le_succ t)
  have hJ' := hJ0.opn
  have hJs := hJ
  obtain ⟨jI, jR, jP, jJ, jB, jG, jF, jU⟩ := hJ
  have hN := jI.1
  have h1 := h.opn
  have q39 : (qi (qi (qi Q 38 0 (Q.1 38 0 + 1)) 41 0 0) 39 0 0).1 39 0 = 0 := rfl
  unfold mf_wash mf_wash_J58 sWash sOpen
  rw [zev_mbd, zev_eq m_begin]
  dsimp only
  generalize qi (qi (qi Q 38 0 (Q.1 38 0 + 1)) 41 0 0) 39 0 0 = Q1 at h1 q39 ⊢
  rw [zev_mbd, zev_eq (m_lookedV h1.1 hN b)]
  dsimp only
  by_cases c4 : lkv nb bs b = 0
  · rw [c4, if_pos (show (0 : Int32) ≤ 0 by decide)]
    obtain ⟨n, hn, rfl, hn5⟩ := lkv_0 hN c4
    have hn1 : n < 2 ^ 31 := by omega
    rw [zev_mbd, zev_eq (m_inCask h1.1 hN hn), nI_clamp hn1]
    dsimp only
    by_cases c5 : (bs n).2.1.2.1 < 10000
    · have hlkf : lkf nb bs (nI n) = 0 := by unfold lkf; rw [if_pos c4, nI_clamp hn1, if_pos c5]
      obtain ⟨w1, w2, w3, w4, w5, w6⟩ := jI.w hn
      have hsum := jI.sum hn
      have hw9 := (jI.wp n hn).2
      have hX : mTc Q1 [] := by obtain ⟨rB, rR, rK, rA, rC, rJ, rO, rG, rM, rL, rP, rN, rT, rW, rX, rF, rS⟩ := h1; exact rX
      rw [if_pos c5, if_pos rfl, hlkf, if_pos rfl, hsum]
      have hti : (lN (nT (bs n).2.1.2.2.2)).toInt = (nT (bs n).2.1.2.2.2 : Int) := pk_lT (by omega)
      have hdg : ∀ q, q ∈ dlst bs n (lN (nT (bs n).2.1.2.2.2)) → Dgo bs nb q := fun q hq => by
        by_cases c6 : nT (bs n).2.1.2.2.2 = 0
        · unfold dlst at hq
          rw [if_neg hn5, c6, if_pos (show lN 0 ≤ 0 by decide)] at hq
          simp at hq
        · rw [(dlst_v hn5 (by rw [hti]; omega)).1, List.mem_singleton] at hq
          subst hq
          exact ⟨hn, by dsimp only; rw [hti]; omega, by dsimp only; rw [hti]; omega⟩
      refine ⟨?_, ?_⟩
      · rw [zev_mbd]
        refine zev_mono (K_keep h1 jI) ?_
        rintro ⟨Q2, u2⟩ ⟨s2, k2, f2⟩
        dsimp only at s2 k2 f2 ⊢
        have b2 := h1.1.fr f2 (by decide)
        rw [zev_mbd, zev_eq (m_inVessel b2 hN hn w3), hsum]
        dsimp only
        have fin : ∀ Q3 kc3, R0 (sOff n (lN (nT (bs n).2.1.2.2.2)) 3 (nb, bs, ro, lb, ps, ac, jr, bo, mo, gi, tr + 1, 1, wy, wh, [], st, ds, dw, bf, ba, bc)) Q3 kc3 → Q3.1 39 0 = 0 → zev (mbd (mf_enter Q3 9 (nI n) (-1) (lN (nT (bs n).2.1.2.2.2))) (fun Q1 _ => some (Q1, lN (nT (bs n).2.1.2.2.2)))) (Post (lN (nT (bs n).2.1.2.2.2), sJ (9, (nI n).toInt64, -1, lN (nT (bs n).2.1.2.2.2)) (sOff n (lN (nT (bs n).2.1.2.2.2)) 3 (nb, bs, ro, lb, ps, ac, jr, bo, mo, gi, tr + 1, 1, wy, wh, [], st, ds, dw, bf, ba, bc)))) := by
          intro Q3 kc3 r3 z3
          unfold sOff at r3
          dsimp only at r3
          have hJl : mJl Q3 20 19 jr := by obtain ⟨rB, rR, rK, rA, rC, rJ, rO, rG, rM, rL, rP, rN, rT, rW, rX, rF, rS⟩ := r3; exact rJ
          rw [zev_mbd]
          refine zev_mono (m_enter hJl (by omega) 9 (nI n) (-1) (lN (nT (bs n).2.1.2.2.2))) ?_
          rintro ⟨Q4, u4⟩ ⟨j4, f4⟩
          dsimp only at j4 f4 ⊢
          rw [zev_some]
          refine ⟨rfl, kc3, R0.jadd r3 j4 f4, ?_⟩
          dsimp only
          rw [f4.i 39 (by decide), z3, cwy_N (by omega)]
        by_cases c6 : nT (bs n).2.1.2.2.2 = 0
        · rw [if_pos (show lN (nT (bs n).2.1.2.2.2) ≤ 0 from by rw [c6]; decide)]
          have hd0 : dlst bs n (lN (nT (bs n).2.1.2.2.2)) = [] ∧ dlstT bs n (lN (nT (bs n).2.1.2.2.2)) = [] := by
            unfold dlst dlstT
            rw [if_neg hn5, if_neg hn5, c6, if_pos (show lN 0 ≤ 0 by decide)]
            exact ⟨rfl, rfl⟩
          refine fin Q2 kc ?_ (by rw [f2.i 39 (by decide)]; exact q39)
          unfold sOff
          dsimp only
          rw [hd0.1, hd0.2, tapp_nil (by decide)]
          have ea : aup ac 3 (dmix bs (ac 3) []) = ac := aup_self ac 3
          have h1' := h1
          obtain ⟨rB, rR, rK, rA, rC, rJ, rO, rG, rM, rL, rP, rN, rT, rW, rX, rF, rS⟩ := h1'
          exact R_off h1 jI (by omega) (by omega) (by decide) s2 k2 f2 ⟨[], by simp⟩ b2 (rK.fr f2 (by decide)) (by rw [ea]; exact rA.fr f2 (by decide)) (by rw [ea]; exact rC.1) (hX.fr f2 (by decide)) qfr.rf
        · rw [if_neg (show ¬ lN (nT (bs n).2.1.2.2.2) ≤ 0 from fun z => by have := (pk_lLE (b := 0) (by omega) (by decide)).mp z; omega), zev_mbd]
          refine zev_mono (N_off1 (hw := 3) h1 jI (by omega) (by omega) hn hn5 (lN (nT (bs n).2.1.2.2.2)) (by rw [hti]; omega) (by rw [hti]; omega) (by decide) s2 k2 f2) ?_
          rintro ⟨Q3, u3⟩ ⟨kc3, r3, z3⟩
          dsimp only at r3 z3 ⊢
          exact fin Q3 kc3 r3 (z3.trans q39)
      · unfold sJ sOff
        dsimp only
        exact J_off hJs ht hdg (by decide) (by rw [List.length_append]; omega) (by rw [List.length_append]; simp only [List.length_cons, List.length_nil]; omega) (Nat.le_refl _) (by omega) (by obtain ⟨x, x1, x2⟩ := jG; exact ⟨x, by omega, x2⟩)
    · have hlkf : lkf nb bs (nI n) = 9 := by unfold lkf; rw [if_pos c4, nI_clamp hn1, if_neg c5]
      rw [if_neg c5, if_neg z10, hlkf, if_neg (by decide)]
      exact ⟨P_no h1 9 rfl (by decide) (by decide) rfl, hJ'⟩
  · rw [lkf_v c4, if_neg c4]
    obtain ⟨p1, p2⟩ := P_rs (a := (-(lkv nb bs b)).toInt64) h1 (by rcases lkv_n c4 with e | e | e <;> simp only [e] <;> decide) rfl
    rw [if_neg p1]
    exact ⟨p2, hJ'⟩
