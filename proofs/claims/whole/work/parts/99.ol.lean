/-! The reference's acts: topUp. -/
theorem Ic.bsp {nb n : Nat} {bs : Nat → Bv} {ro : Nat → Rw} {ac : Nat → Wn} (h : Ic nb bs ro ac) (hn : n < nb) : ∃ k : Nat, k ≤ 4000000000 ∧ bspa bs (bs n) = lN k := by
  unfold bspa
  by_cases e : (bs n).1.1 = 5
  · rw [if_pos e]
    have hm := fun m hm => h.mem n hn m hm
    have hml := h.ml n hn
    have hb := SV_le h (bms (bs n)) hm
    have hs := SV_sum h (bms (bs n)) 0 hm
    rw [show (0 : Int64) = lN 0 from rfl, hs, Nat.zero_add]
    exact ⟨_, by omega, rfl⟩
  · rw [if_neg e]
    obtain ⟨k, hk, hvs⟩ := h.vs hn e
    have hw9 := (h.wp n hn).2
    exact ⟨k, by omega, hvs⟩
theorem zminl_N {a b : Nat} (ha : a < 2 ^ 62) (hb : b < 2 ^ 62) : zminl (lN a) (lN b) = lN (min a b) := by
  unfold zminl
  by_cases e : b < a
  · rw [if_pos (by rw [Int64.lt_iff_toInt_lt, pk_lT (by omega), pk_lT (by omega)]; omega), Nat.min_eq_right (by omega)]
  · rw [if_neg (by rw [Int64.lt_iff_toInt_lt, pk_lT (by omega), pk_lT (by omega)]; omega), Nat.min_eq_left (by omega)]
set_option maxHeartbeats 1000000 in
theorem N_top {c : Cs} {Q : Mq} {kc : List Int32} {t : Nat} (hJ : Jc t c) (ht : t < 512) (h : R0 c Q kc) (b a : Int32) : zev (mf_topUp Q b a) (Post (sTop b a (sOpen c))) ∧ Jc (t + 1) (sTop b a (sOpen c)).2 := by
  obtain ⟨nb, bs, ro, lb, ps, ac, jr, bo, mo, gi, tr, tp, wy, wh, tc, st, ds, dw, bf, ba, bc⟩ := c
  have hJ0 := hJ.mono (Nat.le_succ t)
  have hJ' := hJ0.opn
  have hJs := hJ
  obtain ⟨jI, jR, jP, jJ, jB, jG, jF, jU⟩ := hJ
  have hN := jI.1
  have h1 := h.opn
  have q39 : (qi (qi (qi Q 38 0 (Q.1 38 0 + 1)) 41 0 0) 39 0 0).1 39 0 = 0 := rfl
  unfold mf_topUp mf_topUp_J20 mf_topUp_J58 sTop sOpen
  rw [zev_mbd, zev_eq m_begin]
  dsimp only
  generalize qi (qi (qi Q 38 0 (Q.1 38 0 + 1)) 41 0 0) 39 0 0 = Q1 at h1 q39 ⊢
  rw [zev_mbd, zev_eq (m_lookedV h1.1 hN b)]
  dsimp only
  by_cases c5 : lkv nb bs b = 0
  · rw [if_pos c5, zev_mbd, zev_eq (m_looked h1.1 a)]
    dsimp only
    by_cases c4 : lk nb a = 0
    · rw [c4, if_pos (show (0 : Int32) ≤ 0 by decide)]
      have hb2 : bad2 (lkv nb bs b) 0 (cpr bs a b) = cpr bs a b := by unfold bad2 fst0; rw [if_pos c5, if_pos rfl]
      rw [hb2]
      obtain ⟨n, hn, rfl⟩ := lk_0 hN c4
      obtain ⟨m, hm, rfl, hm5⟩ := lkv_0 hN c5
      have hn1 : n < 2 ^ 31 := by omega
      have hm1 : m < 2 ^ 31 := by omega
      unfold cpr
      rw [nI_clamp hn1, nI_clamp hm1]
      by_cases c6 : nI n = nI m
      · rw [if_pos c6, if_pos c6, if_neg (by decide)]
        exact ⟨P_no h1 13 rfl (by decide) (by decide) rfl, hJ'⟩
      · have hnm : n ≠ m := fun e => c6 (by rw [e])
        rw [if_neg c6, if_neg c6, zev_mbd, zev_eq (m_inCask h1.1 hN hn)]
        dsimp only
        by_cases c7 : (bs n).2.1.2.1 < 10000
        · rw [if_pos c7, if_pos rfl, if_pos c7, zev_mbd, zev_eq (m_inCask h1.1 hN hm)]
          dsimp only
          by_cases c8 : (bs m).2.1.2.1 < 10000
          · rw [if_pos c8, if_pos rfl, if_pos c8, if_pos rfl, zev_mbd]
            have hTc : mTc Q1 [] := by obtain ⟨rB, rR, rK, rA, rC, rJ, rO, rG, rM, rL, rP, rN, rT, rW, rX, rF, rS⟩ := h1; exact rX
            obtain ⟨mx, mx1, mx2, mx3, mx4⟩ := vt_i jI hm hm5
            obtain ⟨sp, sp1, sp2⟩ := jI.bsp hn
            have hw3 := (jI.w hm).2.2.1
            have hkey : zev (mf_most Q1 (nI m)) (fun y => y.2 = lN mx ∧ R0 (nb, bs, ro, lb, ps, ac, jr, bo, mo, gi, tr + 1, 1, wy, wh, tapp 200 [] (btakT bs (bs m)), st, ds, dw, bf, ba, bc) y.1 kc ∧ y.1.1 39 0 = 0) := by
              refine zev_mono (m_most h1.1 hTc hN hm jI.kd jI.mem (jI.ml m hm).1 (jI.ml m hm).2) ?_
              rintro ⟨Q2, u⟩ ⟨e2, t2, f2⟩
              exact ⟨e2.trans mx2, R0.tcS h1 f2 (by decide) t2, by rw [f2.i 39 (by decide)]; exact q39⟩
            unfold sTc sDraw sPour sJ
            dsimp only
            generalize tapp 200 [] (btakT bs (bs m)) = tc2 at hkey ⊢
            have hkey2 : zev (mf_most Q1 (nI m)) (fun y => y.2 = lN mx ∧ R0 (nb, bs, ro, lb, ps, ac, jr, bo, mo, gi, tr + 1, 1, wy, wh, tc2, st, ds, dw, bf, ba, bc) y.1 kc ∧ zev (mf_spare y.1 (nI n)) (fun z => z.2 = lN sp ∧ R0 (nb, bs, ro, lb, ps, ac, jr, bo, mo, gi, tr + 1, 1, wy, wh, tapp 200 tc2 (bspaT bs (bs n)), st, ds, dw, bf, ba, bc) z.1 kc ∧ z.1.1 39 0 = 0)) := by
              refine zev_mono hkey ?_
              rintro ⟨Q2, u2⟩ ⟨e2, r2, z2⟩
              refine ⟨e2, r2, ?_⟩
              have hT2 : mTc Q2 tc2 := by obtain ⟨rB, rR, rK, rA, rC, rJ, rO, rG, rM, rL, rP, rN, rT, rW, rX, rF, rS⟩ := r2; exact rX
              refine zev_mono (m_spare r2.1 hT2 hN hn jI.i60 jI.kd jI.mem (jI.ml n hn).1 (jI.ml n hn).2) ?_
              rintro ⟨Q3, u3⟩ ⟨e3, t3, f3⟩
              exact ⟨e3.trans sp2, R0.tcS r2 f3 (by decide) t3, by rw [f3.i 39 (by decide)]; exact z2⟩
            generalize tapp 200 tc2 (bspaT bs (bs n)) = tc3 at hkey2 ⊢
            rw [mx2, sp2]
            have hsub : lN mx - wsum (bs m).2.1.2.2.2 = lN (mx - nT (bs m).2.1.2.2.2) := by
              conv => lhs; rw [jI.sum hm]
              rw [lN_sub mx4]
            rw [hsub, zminl_N (by omega) (by omega)]
            have hgo2 : ∀ (F : Mq → Int64 → Int64 → Option (Mq × Int64)) (P : Mq × Int64 → Prop), (∀ Q3, R0 (nb, bs, ro, lb, ps, ac, jr, bo, mo, gi, tr + 1, 1, wy, wh, tc3, st, ds, dw, bf, ba, bc) Q3 kc → Q3.1 39 0 = 0 → zev (F Q3 (lN (mx - nT (bs m).2.1.2.2.2)) (lN sp)) P) → zev (mf_most Q1 (nI m)) (fun y => zev (mbd (mf_inVessel y.1 (nI m)) (fun Q17 u20 => mbd (mf_spare Q17 (nI n)) (fun Q21 u24 => F Q21 (y.2 - u20) u24))) P) := by
              intro F P hF
              refine zev_mono hkey2 ?_
              rintro ⟨Q2, u2⟩ ⟨e2, r2, k2⟩
              dsimp only at e2 r2 k2 ⊢
              rw [zev_mbd, zev_eq (m_inVessel r2.1 hN hm hw3)]
              dsimp only
              rw [zev_mbd]
              refine zev_mono k2 ?_
              rintro ⟨Q3, u3⟩ ⟨e3, r3, z3⟩
              dsimp only at e3 r3 z3 ⊢
              rw [e2, hsub, e3]
              exact hF Q3 r3 z3
            obtain ⟨⟨Qe, ue⟩, -, -, -, ⟨⟨Qf, uf⟩, -, -, rf, zf⟩⟩ := hkey2
            dsimp only at rf zf
            generalize hfr : mx - nT (bs m).2.1.2.2.2 = fr at hgo2 ⊢
            by_cases c9 : fr = 0
            · have c9' : ¬ (0 : Int64) < lN fr := by rw [c9]; decide
              rw [if_neg c9']
              refine ⟨?_, Jc.any hJ0⟩
              refine hgo2 (fun Q21 u u24 => if (0 : Int64) < u then (if u24 = 0 then mbd (mf_no Q21 10) (fun Q25 u28 => some (Q25, u28)) else if u ≤ u24 then mf_topUp_J128 Q21 (nI m) (nI n) u else mf_topUp_J128 Q21 (nI m) (nI n) u24) else mbd (mf_no Q21 11) (fun Q29 u32 => some (Q29, u32))) _ (fun Q3 r3 z3 => ?_)
              rw [if_neg c9']
              exact P_no r3 11 rfl (by decide) (by decide) rfl
            · have c9' : (0 : Int64) < lN fr := by rw [Int64.lt_iff_toInt_lt, pk_lT (by omega)]; show (0 : Int) < _; omega
              rw [if_pos c9']
              by_cases c10 : sp = 0
              · have c10' : lN sp = 0 := by rw [c10]; rfl
                rw [if_pos c10']
                refine ⟨?_, Jc.any hJ0⟩
                refine hgo2 (fun Q21 u u24 => if (0 : Int64) < u then (if u24 = 0 then mbd (mf_no Q21 10) (fun Q25 u28 => some (Q25, u28)) else if u ≤ u24 then mf_topUp_J128 Q21 (nI m) (nI n) u else mf_topUp_J128 Q21 (nI m) (nI n) u24) else mbd (mf_no Q21 11) (fun Q29 u32 => some (Q29, u32))) _ (fun Q3 r3 z3 => ?_)
                rw [if_pos c9', if_pos c10']
                exact P_no r3 10 rfl (by decide) (by decide) rfl
              · have c10' : ¬ lN sp = 0 := fun e => c10 (by have := congrArg Int64.toInt e; rw [pk_lT (by omega)] at this; simpa using this)
                rw [if_neg c10']
                have hmt : (lN (min fr sp)).toInt = ((min fr sp : Nat) : Int) := pk_lT (by omega)
                have hmv : ∀ Q3, R0 (nb, bs, ro, lb, ps, ac, jr, bo, mo, gi, tr + 1, 1, wy, wh, tc3, st, ds, dw, bf, ba, bc) Q3 kc → Q3.1 39 0 = 0 → _ := fun Q3 r3 z3 => N_move (G := fun Q24 => some (Q24, lN (min fr sp))) (ans := lN (min fr sp)) 3 3 rfl hJs ht r3 hn hm hm5 hnm c8 (lN (min fr sp)) (by rw [hmt]; omega) (by rw [sp2]; exact (pk_lLE (by omega) (by omega)).mpr (by omega)) (by rw [mx3, hmt]; omega) z3 (fun Q5 kc5 r5 z5 hw => by
                  rw [zev_some]
                  exact ⟨rfl, kc5, r5, by show Q5.1 39 0 = cwy (lN (min fr sp)); rw [z5, cwy_N (by omega)]⟩)
                refine ⟨?_, ?_⟩
                · refine hgo2 (fun Q21 u u24 => if (0 : Int64) < u then (if u24 = 0 then mbd (mf_no Q21 10) (fun Q25 u28 => some (Q25, u28)) else if u ≤ u24 then mf_topUp_J128 Q21 (nI m) (nI n) u else mf_topUp_J128 Q21 (nI m) (nI n) u24) else mbd (mf_no Q21 11) (fun Q29 u32 => some (Q29, u32))) _ (fun Q3 r3 z3 => ?_)
                  rw [if_pos c9', if_neg c10']
                  have hm3 := (hmv Q3 r3 z3).1
                  by_cases c11 : fr ≤ sp
                  · rw [if_pos ((pk_lLE (by omega) (by omega)).mpr c11)]
                    unfold mf_topUp_J128
                    rw [Nat.min_eq_left c11] at hm3 ⊢
                    exact hm3
                  · rw [if_neg (fun z => c11 ((pk_lLE (by omega) (by omega)).mp z))]
                    unfold mf_topUp_J128
                    rw [Nat.min_eq_right (by omega)] at hm3 ⊢
                    exact hm3
                · have := (hmv Qf rf zf).2
                  by_cases hw : wwith (bs m).2.1.2.2.2 (dmix bs [] (dlst bs n (lN (min fr sp)))) ≤ 60
                  · rw [if_pos hw]; exact this hw
                  · rw [if_neg hw]; exact Jc.any hJ0
          · rw [if_neg c8, if_neg z10, if_neg c8, if_neg (by decide)]
            exact ⟨P_no h1 9 rfl (by decide) (by decide) rfl, hJ'⟩
        · rw [if_neg c7, if_neg z10, if_neg c7, if_neg (by decide)]
          exact ⟨P_no h1 9 rfl (by decide) (by decide) rfl, hJ'⟩
    · have hb2 : bad2 (lkv nb bs b) (lk nb a) (cpr bs a b) = lk nb a := by unfold bad2 fst0; rw [if_pos c5, if_neg c4]
      rw [hb2, if_neg c4]
      obtain ⟨p1, p2⟩ := P_lk (a := (-(lk nb a)).toInt64) h1 c4 rfl
      rw [if_neg p1]
      exact ⟨p2, hJ'⟩
  · have hb2 : bad2 (lkv nb bs b) (lk nb a) (cpr bs a b) = lkv nb bs b := by unfold bad2 fst0; rw [if_neg c5, if_neg c5]
    rw [if_neg c5, hb2, if_neg c5]
    obtain ⟨p1, p2⟩ := P_rs (a := (-(lkv nb bs b)).toInt64) h1 (by rcases lkv_n c5 with e | e | e <;> simp only [e] <;> decide) rfl
    rw [if_neg p1]
    exact ⟨p2, hJ'⟩
