/-! The reference's acts: fill, drain, wash. -/
theorem isml_i {v : Int64} (h : isml v) : 1 ≤ v.toInt ∧ v.toInt ≤ 1000000000 := by
  have h1 := h.1
  have h2 := h.2
  rw [Int64.lt_iff_toInt_lt] at h1 h2
  have e1 : (1 : Int64).toInt = 1 := rfl
  have e2 : (1000000000 : Int64).toInt = 1000000000 := rfl
  omega
theorem i64_le {a b : Int64} : a ≤ b ↔ a.toInt ≤ b.toInt := Int64.le_iff_toInt_le
theorem lN_nn {n : Nat} (h : n < 2 ^ 63) : 0 ≤ lN n := by rw [i64_le, pk_lT h]; exact Int.natCast_nonneg n
theorem cwy_N {n : Nat} (h : n < 2 ^ 63) : cwy (lN n) = 0 := cwy_pos (lN_nn h)
theorem R0.tcS {nb : Nat} {bs : Nat → Bv} {ro : Nat → Rw} {lb : List Lb} {ps : List (Nat × Int64)} {ac : Nat → Wn} {jr bo : List Ln} {mo : Int32} {gi : Int64} {tr tp wy wh : Int32} {tc tc' : List Int32} {st : List Int64} {ds ds' : List (Nat × Int64)} {dw dw' : Wn} {bf : Nat → Int32} {ba : Wn} {bc : List Nat} {Q Q' : Mq} {kc : List Int32} {W : List Nat} (h : R0 (nb, bs, ro, lb, ps, ac, jr, bo, mo, gi, tr, tp, wy, wh, tc, st, ds, dw, bf, ba, bc) Q kc) (f : qfr Q Q' W) (hd : ∀ x, x ∈ W → x = 39 ∨ x = 41 ∨ x = 42 ∨ 60 ≤ x) (ht : mTc Q' tc') : R0 (nb, bs, ro, lb, ps, ac, jr, bo, mo, gi, tr, tp, wy, wh, tc', st, ds', dw', bf, ba, bc) Q' kc := by
  obtain ⟨rB, rR, rK, rA, rC, rJ, rO, rG, rM, rL, rP, rN, rT, rW, rX, rF, rS⟩ := h
  have nm : ∀ x : Nat, x < 60 → x ≠ 39 → x ≠ 41 → x ≠ 42 → x ∉ W := fun x h1 h2 h3 h4 hx => by have := hd x hx; omega
  refine ⟨rB.fr f ?_, rR.fr f ?_, rK.fr f ?_, rA.fr f (nm 17 (by decide) (by decide) (by decide) (by decide)), rC, rJ.fr f (nm 20 (by decide) (by decide) (by decide) (by decide)) (nm 19 (by decide) (by decide) (by decide) (by decide)), rO.fr f (nm 22 (by decide) (by decide) (by decide) (by decide)) (nm 21 (by decide) (by decide) (by decide) (by decide)), by rw [f.i 0 (nm 0 (by decide) (by decide) (by decide) (by decide))]; exact rG, by rw [f.i 18 (nm 18 (by decide) (by decide) (by decide) (by decide))]; exact rM, rL.fr f ?_, rP.fr f ?_, rN.fr f ?_, by rw [f.i 38 (nm 38 (by decide) (by decide) (by decide) (by decide))]; exact rT, by rw [f.i 40 (nm 40 (by decide) (by decide) (by decide) (by decide))]; exact rW, ht, by rw [f.i 43 (nm 43 (by decide) (by decide) (by decide) (by decide))]; exact rF, fun z => (rS z).fr f ?_⟩ <;>
  · intro x hx
    refine nm x ?_ ?_ ?_ ?_ <;> (revert hx; simp; omega)
/-- what the invariant does not speak of -/
theorem Jc.any {t : Nat} {nb : Nat} {bs : Nat → Bv} {ro : Nat → Rw} {lb lb' : List Lb} {ps : List (Nat × Int64)} {ac : Nat → Wn} {jr bo : List Ln} {mo mo' : Int32} {gi : Int64} {tr tp wy wh tr' tp' wy' wh' : Int32} {tc tc' : List Int32} {st st' : List Int64} {ds ds' : List (Nat × Int64)} {dw dw' : Wn} {bf : Nat → Int32} {ba : Wn} {bc : List Nat} (h : Jc t (nb, bs, ro, lb, ps, ac, jr, bo, mo, gi, tr, tp, wy, wh, tc, st, ds, dw, bf, ba, bc)) : Jc t (nb, bs, ro, lb', ps, ac, jr, bo, mo', gi, tr', tp', wy', wh', tc', st', ds', dw', bf, ba, bc) := by
  unfold Jc at h ⊢
  dsimp only at h ⊢
  exact h
theorem lkf_v {nb : Nat} {bs : Nat → Bv} {b : Int32} (h : lkv nb bs b ≠ 0) : lkf nb bs b = lkv nb bs b := by unfold lkf; rw [if_neg h]
theorem U_fill {nb n : Nat} {bs : Nat → Bv} {ro : Nat → Rw} {ac : Nat → Wn} {w l : Wn} {bf : Nat → Int32} {mo : Int32} {jl bl : Nat} (hn : nb ≤ 1000) : Ceq nb bs ro ac ((fu (bfB bf nb mo jl bl) 8 0) 1).toNatClampNeg (sres (bup bs n (bwin (bkeep (bs n)) l)) [n]) (sresR ro (fu (bfB bf nb mo jl bl) 8 0)) (sresA (aup ac 0 w) (fu (bfB bf nb mo jl bl) 8 0) (ac 0)) := by
  refine ⟨(show (bfB bf nb mo jl bl 1).toNatClampNeg = nb from bfB_1 (by omega)), fun b _ => sres1 (X := bwin (bkeep (bs n)) l) ⟨rfl, rfl, rfl⟩ b, fun _ _ => rfl, fun i _ => ?_⟩
  unfold sresA
  rw [if_neg (show ¬ (fu (bfB bf nb mo jl bl) 8 0) 8 = -1 from by show ¬ (0 : Int32) = -1; decide)]
  show aup (aup ac 0 w) (0 : Int32).toNatClampNeg (ac 0) i = ac i
  rw [show (0 : Int32).toNatClampNeg = 0 from rfl, aup_aup, aup_self]
theorem btak_v {bs : Nat → Bv} {x : Bv} (h : x.1.1 ≠ 5) : btak bs x = vt x.1 := by unfold btak; rw [if_neg h]
set_option maxHeartbeats 1000000 in
theorem N_fill {c : Cs} {Q : Mq} {kc : List Int32} {t : Nat} (hJ : Jc t c) (ht : t < 512) (h : R0 c Q kc) (b p : Int32) (v : Int64) : zev (mf_fill Q b p v) (Post (sFill b p v (sOpen c))) ∧ Jc (t + 1) (sFill b p v (sOpen c)).2 := by
  obtain ⟨nb, bs, ro, lb, ps, ac, jr, bo, mo, gi, tr, tp, wy, wh, tc, st, ds, dw, bf, ba, bc⟩ := c
  have hJ0 := hJ.mono (Nat.le_succ t)
  have hJ' := hJ0.opn
  obtain ⟨jI, jR, jP, jJ, jB, jG, jF, jU⟩ := hJ
  have hN := jI.1
  have h1 := h.opn
  have q39 : (qi (qi (qi Q 38 0 (Q.1 38 0 + 1)) 41 0 0) 39 0 0).1 39 0 = 0 := rfl
  unfold mf_fill mf_fill_J23 mf_fill_J122 sFill sOpen
  rw [zev_mbd, zev_eq m_begin]
  dsimp only
  generalize qi (qi (qi Q 38 0 (Q.1 38 0 + 1)) 41 0 0) 39 0 0 = Q1 at h1 q39 ⊢
  by_cases c1 : p < 0
  · rw [if_pos c1, if_pos c1]; exact ⟨P_no h1 1 rfl (by decide) (by decide) rfl, hJ'⟩
  rw [if_neg c1, if_neg c1]
  have h4095 : (4096 ≤ p) ↔ 4095 < p := by
    rw [Int32.le_iff_toInt_le, Int32.lt_iff_toInt_lt]
    have e1 : (4096 : Int32).toInt = 4096 := rfl
    have e2 : (4095 : Int32).toInt = 4095 := rfl
    omega
  by_cases c2 : 4095 < p
  · rw [if_pos (h4095.mpr c2), if_pos c2]; exact ⟨P_no h1 1 rfl (by decide) (by decide) rfl, hJ'⟩
  rw [if_neg (fun z => c2 (h4095.mp z)), if_neg c2]
  obtain ⟨pn, hp31, rfl⟩ := nI_of c1
  have hpn : pn < 4096 := by
    have : ¬ 4096 ≤ nI pn := fun z => c2 (h4095.mp z)
    rw [Int32.le_iff_toInt_le, nI_toInt hp31] at this
    have e1 : (4096 : Int32).toInt = 4096 := rfl
    omega
  rw [zev_mbd, zev_eq (m_isAmount v)]
  dsimp only
  by_cases c3 : isml v
  · rw [if_pos c3, if_pos c3, if_neg z10, zev_mbd, zev_eq (m_lookedV h1.1 hN b)]
    dsimp only
    obtain ⟨v1, v2⟩ := isml_i c3
    by_cases c4 : lkv nb bs b = 0
    · rw [c4, if_pos (show (0 : Int32) ≤ 0 by decide)]
      obtain ⟨n, hn, rfl, hn5⟩ := lkv_0 hN c4
      have hn1 : n < 2 ^ 31 := by omega
      rw [zev_mbd, zev_eq (m_inCask h1.1 hN hn), nI_clamp hn1]
      dsimp only
      by_cases c5 : (bs n).2.1.2.1 < 10000
      · have hlkf : lkf nb bs (nI n) = 0 := by unfold lkf; rw [if_pos c4, nI_clamp hn1, if_pos c5]
        rw [if_pos c5, if_pos rfl, hlkf, if_pos rfl, zev_mbd]
        have hwp := jI.wp n hn
        have hsum := jI.sum hn
        obtain ⟨w1, w2, w3, w4, w5, w6⟩ := jI.w hn
        obtain ⟨mx, mx1, mx2⟩ := vt_N hn5 ((jI.2.1 n hn).2.1 hn5)
        have hbt : btak bs (bs n) = lN mx := (btak_v hn5).trans mx2
        obtain ⟨vN, hvN2⟩ := lN_of (show 0 ≤ v.toInt by omega)
        have hadd : wsum (bs n).2.1.2.2.2 + v = lN (nT (bs n).2.1.2.2.2 + v.toInt.toNat) := by
          conv => lhs; rw [hsum, vN]
          rw [lN_add]
        have hTc : mTc Q1 [] := by obtain ⟨rB, rR, rK, rA, rC, rJ, rO, rG, rM, rL, rP, rN, rT, rW, rX, rF, rS⟩ := h1; exact rX
        have hm := m_most (bs := bs) h1.1 hTc hN hn jI.kd jI.mem (jI.ml n hn).1 (jI.ml n hn).2
        have hsp : ∀ Q2 : Mq, mTc Q2 (tapp 200 [] (btakT bs (bs n))) → qfr Q1 Q2 [41, 42] → R0 (nb, bs, ro, lb, ps, ac, jr, bo, mo, gi, tr + 1, 1, wy, wh, tapp 200 [] (btakT bs (bs n)), st, ds, dw, bf, ba, bc) Q2 kc := fun Q2 t2 f2 => R0.tcS h1 f2 (by decide) t2
        have hkey : zev (mf_most Q1 (nI n)) (fun y => y.2 = lN mx ∧ R0 (nb, bs, ro, lb, ps, ac, jr, bo, mo, gi, tr + 1, 1, wy, wh, tapp 200 [] (btakT bs (bs n)), st, ds, dw, bf, ba, bc) y.1 kc ∧ y.1.1 39 0 = 0) := by
          refine zev_mono hm ?_
          rintro ⟨Q2, u⟩ ⟨e2, t2, f2⟩
          exact ⟨e2.trans hbt, hsp Q2 t2 f2, by rw [f2.i 39 (by decide)]; exact q39⟩
        rw [hbt]
        generalize tapp 200 [] (btakT bs (bs n)) = tc2 at hkey ⊢
        -- what the wine becomes
        have hfit : (wadd (nI pn) v (bs n).2.1.2.2.2).length ≤ 60 ↔ ((bs n).2.1.2.2.2.length < 60 ∨ wlook (nI pn) (bs n).2.1.2.2.2 ≠ 0) := by
          by_cases hin : nI pn ∈ cods (bs n).2.1.2.2.2
          · have hl : (wadd (nI pn) v (bs n).2.1.2.2.2).length = (bs n).2.1.2.2.2.length := by
              have := congrArg List.length (wadd_cin w1 v hin)
              unfold cods at this
              simpa using this
            have hlook : wlook (nI pn) (bs n).2.1.2.2.2 ≠ 0 := by
              obtain ⟨q, hq, e⟩ := cods_mem.mp hin
              rw [wlook_widx _ _ w1, wfind _ _ q w1 hq e]
              dsimp only
              rw [if_pos e]
              intro z
              have := w4 q hq
              rw [z] at this
              exact absurd this (by decide)
            exact ⟨fun _ => Or.inr hlook, fun _ => by rw [hl]; exact w3⟩
          · have hl : (wadd (nI pn) v (bs n).2.1.2.2.2).length = (bs n).2.1.2.2.2.length + 1 := wadd_len _ _ _ (fun q hq e => hin (cods_mem.mpr ⟨q, List.mem_of_getElem? hq, e⟩))
            have hlook : wlook (nI pn) (bs n).2.1.2.2.2 = 0 := wlook_abs _ _ (fun q hq e => hin (cods_mem.mpr ⟨q, hq, e⟩))
            rw [hl]
            constructor
            · intro z; exact Or.inl (by omega)
            · rintro (z | z)
              · omega
              · exact absurd hlook z
        have hspec : ∀ (A B : Int64 × Cs), (if nI (bs n).2.1.2.2.2.length < 60 then A else if wlook (nI pn) (bs n).2.1.2.2.2 = 0 then B else A) = if (wadd (nI pn) v (bs n).2.1.2.2.2).length ≤ 60 then A else B := by
          intro A B
          by_cases c7 : (bs n).2.1.2.2.2.length < 60
          · rw [if_pos (show nI (bs n).2.1.2.2.2.length < 60 from nI_lt (b := 60) c7 (by decide)), if_pos (hfit.mpr (Or.inl c7))]
          · rw [if_neg (show ¬ nI (bs n).2.1.2.2.2.length < 60 from nI_nlt (b := 60) (by omega) (by omega))]
            by_cases c8 : wlook (nI pn) (bs n).2.1.2.2.2 = 0
            · rw [if_pos c8, if_neg (fun z => by
                rcases hfit.mp z with z | z
                · exact c7 z
                · exact z c8)]
            · rw [if_neg c8, if_pos (hfit.mpr (Or.inr c8))]
        rw [hspec]
        have hle1 := wadd_le (nI pn) v (bs n).2.1.2.2.2
        by_cases c6 : nT (bs n).2.1.2.2.2 + v.toInt.toNat ≤ mx
        · have c6' : wsum (bs n).2.1.2.2.2 + v ≤ lN mx := by rw [hadd]; exact (pk_lLE (by omega) (by omega)).mpr c6
          rw [if_pos c6']
          have hadd2 := nT_add (nI pn) v (by omega) (bs n).2.1.2.2.2 w4 (by omega)
          refine ⟨?_, ?_⟩
          · refine zev_mono hkey ?_
            rintro ⟨Q2, u2⟩ ⟨e2, r2, z2⟩
            dsimp only at e2 r2 z2 ⊢
            rw [e2, zev_mbd, zev_eq (m_inVessel r2.1 hN hn w3)]
            dsimp only
            rw [if_pos c6', zev_b1, zev_some, zev_mbd]
            have f3 : qfr Q2 (qi Q2 60 0 0) [60] := qfr.qi (by decide)
            have r3 := r2.scr f3 (by decide)
            have d3 : mDr (qi Q2 60 0 0) [] := ⟨by rw [qi_1, if_pos ⟨rfl, rfl⟩]; rfl, by decide, fun i q hq => by simp at hq⟩
            have z3 : (qi Q2 60 0 0).1 39 0 = 0 := by rw [f3.i 39 (by decide)]; exact z2
            generalize qi Q2 60 0 0 = Q3 at r3 d3 z3 ⊢
            refine zev_mono (m_mixInto r3.1 d3 hN hn w1 w3 (fun q hq => by simp at hq)) ?_
            rintro ⟨Q4, u4⟩ ⟨e4, m4, f4⟩
            dsimp only at e4 m4 f4 ⊢
            have m4' : mMx Q4 (bs n).2.1.2.2.2 := m4
            rw [if_pos (show (dmix bs (bs n).2.1.2.2.2 []).length ≤ 60 from w3)] at e4
            rw [zev_mbd]
            refine zev_mono (m_mix m4' (nI pn) v (by omega)) ?_
            rintro ⟨Q5, u5⟩ ⟨m5, f5⟩
            dsimp only at m5 f5 ⊢
            rw [e4, if_neg z10]
            have r5 := (r3.scr f4 (by decide)).scr f5 (by decide)
            have z5 : Q5.1 39 0 = 0 := by rw [f5.i 39 (by decide), f4.i 39 (by decide)]; exact z3
            by_cases hlen : (wadd (nI pn) v (bs n).2.1.2.2.2).length ≤ 60
            · rw [if_pos hlen]
              unfold sFillOk
              dsimp only
              rw [nI_clamp hn1]
              rw [m5.1, if_pos (show nI (wadd (nI pn) v (bs n).2.1.2.2.2).length ≤ 60 from nI_le (b := 60) hlen (by decide)), zev_mbd]
              refine zev_mono (K_keep r5 jI) ?_
              rintro ⟨Q6, u6⟩ ⟨s6, k6, f6⟩
              dsimp only at s6 k6 f6 ⊢
              obtain ⟨rB, rR, rK, rA, rC, rJ, rO, rG, rM, rL, rP, rN, rT, rW, rX, rF, rS⟩ := r5
              rw [zev_mbd]
              refine zev_mono (m_become (rB.fr f6 (by decide)) (m5.fr f6 (by decide)) hN hn hlen (fun c hc => (jI.i60 c hc).1)) ?_
              rintro ⟨Q7, u7⟩ ⟨b7, f7⟩
              dsimp only at b7 f7 ⊢
              have f57 : qfr Q5 Q7 [8, 9, 10, 43, 44, 45, 46, 47, 48, 49, 50, 51, 52, 53, 54, 55, 56, 57, 58, 59] := (f6.mono (by decide)).tr0 (f7.mono (by decide))
              rw [zev_mbd]
              refine zev_mono (m_account (hw := 0) (rK.fr f57 (by decide)) (rA.fr f57 (by decide)) rC.1 (jI.2.2.2 0 (by decide)).1 (by decide) hpn v (fun e => by rw [e] at v1; exact absurd v1 (by decide))) ?_
              rintro ⟨Q8, u8⟩ ⟨kc8, ⟨t8, ek8⟩, in8, k8, a8, c8, f8⟩
              dsimp only at k8 a8 c8 f8 ⊢
              have f58 : qfr Q5 Q8 [8, 9, 10, 14, 15, 16, 17, 43, 44, 45, 46, 47, 48, 49, 50, 51, 52, 53, 54, 55, 56, 57, 58, 59] := (f57.mono (by decide)).tr0 (f8.mono (by decide))
              rw [zev_mbd]
              refine zev_mono (m_enter (rJ.fr f58 (by decide) (by decide)) (by omega) 1 (-1) (nI n) v) ?_
              rintro ⟨Q9, u9⟩ ⟨j9, f9⟩
              dsimp only at j9 f9 ⊢
              have f79 : qfr Q7 Q9 [14, 15, 16, 17, 19, 20] := (f8.mono (by decide)).tr0 (f9.mono (by decide))
              have F : qfr Q5 Q9 [8, 9, 10, 14, 15, 16, 17, 19, 20, 43, 44, 45, 46, 47, 48, 49, 50, 51, 52, 53, 54, 55, 56, 57, 58, 59] := (f58.mono (by decide)).tr0 (f9.mono (by decide))
              have b9 := (b7.fr f79 (by decide)).cong (bs' := bup bs n (bwin (bkeep (bs n)) (wadd (nI pn) v (bs n).2.1.2.2.2))) (fun c hc => by
                unfold bup
                by_cases e : c = n
                · rw [if_pos e, if_pos e]; exact ⟨rfl, rfl, rfl⟩
                · rw [if_neg e, if_neg e]; exact ⟨rfl, rfl, rfl⟩)
              have hiv := m_inVessel b9 hN hn (by rw [bup_self]; exact hlen)
              rw [bup_self] at hiv
              rw [zev_mbd, zev_eq hiv]
              dsimp only
              rw [zev_some]
              have C9 : mCd kc8 nb (bup bs n (bwin (bkeep (bs n)) (wadd (nI pn) v (bs n).2.1.2.2.2))) (aup ac 0 (wadd (nI pn) v (ac 0))) := by
                refine ⟨c8, fun b' hb' q hq => ?_⟩
                unfold bup at hq
                by_cases e : b' = n
                · rw [if_pos e] at hq
                  rcases wadd_mem _ _ _ _ (show q ∈ wadd (nI pn) v (bs n).2.1.2.2.2 from hq) with e1 | ⟨q', hq', e1⟩
                  · rw [e1]; exact in8
                  · rw [← e1, ek8]; exact List.mem_append_left _ (rC.2 n hn q' hq')
                · rw [if_neg e] at hq
                  rw [ek8]; exact List.mem_append_left _ (rC.2 b' hb' q hq)
              refine ⟨rfl, kc8, ⟨b9, rR.fr F (by decide), k8.fr f9 (by decide), a8.fr f9 (by decide), C9, j9, rO.fr F (by decide) (by decide), (by rw [F.i 0 (by decide)]; exact rG), (by rw [F.i 18 (by decide)]; exact rM), rL.fr F (by decide), rP.fr F (by decide), rN.fr F (by decide), (by rw [F.i 38 (by decide)]; exact rT), (by rw [F.i 40 (by decide)]; exact rW), rX.fr F (by decide), (by rw [f79.i 43 (by decide), f7.i 43 (by decide)]; exact k6), fun _ => (((s6.fr f7 (by decide)).fr f79 (by decide)).kc ⟨t8, ek8⟩).ceq (U_fill hN) rfl (nI_clamp (n := jr.length) (by omega)) (nI_clamp (n := bo.length) (by omega))⟩, ?_⟩
              dsimp only
              rw [F.i 39 (by decide), z5, wsum_lN _ hadd2.1, cwy_N (by rw [hadd2.2]; omega)]
            · rw [if_neg hlen, m5.1, if_neg (show ¬ nI (wadd (nI pn) v (bs n).2.1.2.2.2).length ≤ 60 from nI_ge (a := 60) (by omega) (by omega))]
              exact P_no r5 12 rfl (by decide) (by decide) rfl
          · by_cases hlen : (wadd (nI pn) v (bs n).2.1.2.2.2).length ≤ 60
            · rw [if_pos hlen]
              unfold sFillOk
              dsimp only
              rw [nI_clamp hn1]
              obtain ⟨-, -, -, j1, j2, j3, -, -⟩ := hJ'
              have R' : Ira nb (bup bs n (bwin (bkeep (bs n)) (wadd (nI pn) v (bs n).2.1.2.2.2))) := fun b' hb' m hm => jR b' hb' m (by revert hm; unfold bup; split <;> (rename_i e; first | (subst e; exact id) | exact id))
              have hpc : 0 ≤ (nI pn).toInt ∧ (nI pn).toInt < 4096 := by rw [nI_toInt hp31]; omega
              have W' : Iw (bs n).1 (wadd (nI pn) v (bs n).2.1.2.2.2) := ⟨wris_wadd _ _ _ w1, wcod_wadd _ _ _ w2 hpc, hlen, hadd2.1, fun _ => by rw [wtot_nT _ hadd2.1, hadd2.2, mx2, pk_lT (by omega)]; omega, fun e => absurd e hn5⟩
              refine ⟨jI.win (fun b' hb' => ?_) (Iac_up jI.2.2.2 (wris_wadd _ _ _ (jI.2.2.2 0 (by decide)).1) (wcod_wadd _ _ _ (jI.2.2.2 0 (by decide)).2 hpc)), R', jP, by rw [List.length_append]; simp only [List.length_cons, List.length_nil]; omega, j2, j3, Or.inr rfl, fun _ => ⟨⟨⟨nb, Nat.le_refl _, rfl⟩, ⟨_, by omega, rfl⟩, ⟨_, by omega, rfl⟩, Or.inl rfl, Or.inr ⟨0, by decide, rfl⟩, fun c' hc' => by rw [List.mem_singleton] at hc'; omega⟩, by rw [show (fu (bfB bf nb mo jr.length bo.length) 8 0) 3 = bfB bf nb mo jr.length bo.length 3 from rfl, bfB_3 (by omega), List.length_append]; omega, by rw [show (fu (bfB bf nb mo jr.length bo.length) 8 0) 4 = bfB bf nb mo jr.length bo.length 4 from rfl, bfB_4 (by omega)]; exact Nat.le_refl _, jI.cong (U_fill hN), by rw [show (fu (bfB bf nb mo jr.length bo.length) 8 0) 1 = bfB bf nb mo jr.length bo.length 1 from rfl, bfB_1 (by omega)]; exact Ira_sres R'⟩⟩
              have hw := jI.w hb'
              unfold bup
              by_cases e : b' = n
              · subst e; rw [if_pos rfl]; exact ⟨rfl, Or.inl rfl, rfl, rfl, rfl, W'⟩
              · rw [if_neg e]; exact ⟨rfl, Or.inl rfl, rfl, rfl, rfl, hw⟩
            · rw [if_neg hlen]
              exact Jc.any hJ0
        · have c6' : ¬ wsum (bs n).2.1.2.2.2 + v ≤ lN mx := fun z => by rw [hadd] at z; exact c6 ((pk_lLE (by omega) (by omega)).mp z)
          rw [if_neg c6']
          refine ⟨zev_mono hkey ?_, Jc.any hJ0⟩
          rintro ⟨Q2, u2⟩ ⟨e2, r2, z2⟩
          dsimp only at e2 r2 z2 ⊢
          rw [e2, zev_mbd, zev_eq (m_inVessel r2.1 hN hn w3)]
          dsimp only
          rw [if_neg c6']
          exact P_no r2 11 rfl (by decide) (by decide) rfl
      · have hlkf : lkf nb bs (nI n) = 9 := by unfold lkf; rw [if_pos c4, nI_clamp hn1, if_neg c5]
        rw [if_neg c5, if_neg z10, hlkf, if_neg (by decide)]
        exact ⟨P_no h1 9 rfl (by decide) (by decide) rfl, hJ'⟩
    · rw [lkf_v c4, if_neg c4]
      obtain ⟨p1, p2⟩ := P_rs (a := (-(lkv nb bs b)).toInt64) h1 (by rcases lkv_n c4 with e | e | e <;> simp only [e] <;> decide) rfl
      rw [if_neg p1]
      exact ⟨p2, hJ'⟩
  · rw [if_neg c3, if_neg c3, if_pos rfl]
    exact ⟨P_no h1 1 rfl (by decide) (by decide) rfl, hJ'⟩
