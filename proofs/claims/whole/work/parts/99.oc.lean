/-! The reference's acts: row, join, leave. -/
theorem fu_1 {bf : Nat → Int32} {a b c : Int32} : (fu (fu (fu bf 5 a) 6 b) 7 c) 1 = bf 1 := rfl
theorem sres_nil {bs : Nat → Bv} {b : Nat} : sres bs [] b = bs b := by unfold sres; rw [if_neg (by simp)]
theorem U_row {nb i : Nat} {bs : Nat → Bv} {ro : Nat → Rw} {X : Rw} {ac : Nat → Wn} {bf : Nat → Int32} {mo : Int32} {jl bl : Nat} {ba : Wn} (hn : nb ≤ 1000) (hi : i < 20) (hr : ro i = none) : Ceq nb bs ro ac ((fu (fu (fu (bfB bf nb mo jl bl) 5 (nI i)) 6 (-1)) 7 (-1)) 1).toNatClampNeg (sres bs []) (sresR (rup ro i X) (fu (fu (fu (bfB bf nb mo jl bl) 5 (nI i)) 6 (-1)) 7 (-1))) (sresA ac (fu (fu (fu (bfB bf nb mo jl bl) 5 (nI i)) 6 (-1)) 7 (-1)) ba) := by
  refine ⟨(show (bfB bf nb mo jl bl 1).toNatClampNeg = nb from bfB_1 (by omega)), fun b _ => by rw [sres_nil]; exact ⟨rfl, rfl, rfl⟩, fun r hr2 => ?_, fun _ _ => rfl⟩
  unfold sresR
  rw [if_neg (show ¬ (fu (fu (fu (bfB bf nb mo jl bl) 5 (nI i)) 6 (-1)) 7 (-1)) 5 = -1 from nIne (by omega)), if_pos (show (fu (fu (fu (bfB bf nb mo jl bl) 5 (nI i)) 6 (-1)) 7 (-1)) 6 = -1 from rfl)]
  show rup (rup ro i X) (nI i).toNatClampNeg none r = ro r
  rw [nI_clamp (by omega)]
  unfold rup
  by_cases e : r = i
  · rw [if_pos e, e, hr]
  · rw [if_neg e, if_neg e]
theorem N_row {c : Cs} {Q : Mq} {kc : List Int32} {t : Nat} (hJ : Jc t c) (ht : t ≤ 600) (h : R0 c Q kc) (r kd n : Int32) : zev (mf_row Q r kd n) (Post (sRow r kd n (sOpen c))) ∧ Jc (t + 1) (sRow r kd n (sOpen c)).2 := by
  obtain ⟨nb, bs, ro, lb, ps, ac, jr, bo, mo, gi, tr, tp, wy, wh, tc, st, ds, dw, bf, ba, bc⟩ := c
  have hJ' := (hJ.mono (Nat.le_succ t)).opn
  obtain ⟨jI, jR, jP, jJ, jB, jG, jF, jU⟩ := hJ
  have hN := jI.1
  have h1 := h.opn
  have q39 : (qi (qi (qi Q 38 0 (Q.1 38 0 + 1)) 41 0 0) 39 0 0).1 39 0 = 0 := rfl
  unfold mf_row mf_row_J20 mf_row_J36 sRow sOpen
  rw [zev_mbd, zev_eq m_begin]
  dsimp only
  generalize qi (qi (qi Q 38 0 (Q.1 38 0 + 1)) 41 0 0) 39 0 0 = Q1 at h1 q39 ⊢
  by_cases c1 : kd < 0
  · rw [if_pos c1, if_pos c1]; exact ⟨P_no h1 1 rfl (by decide) (by decide) rfl, hJ'⟩
  rw [if_neg c1, if_neg c1]
  by_cases c2 : 6 < kd
  · rw [if_pos c2, if_pos c2]; exact ⟨P_no h1 1 rfl (by decide) (by decide) rfl, hJ'⟩
  rw [if_neg c2, if_neg c2]
  by_cases c3 : n ≤ 60
  · rw [if_pos c3, if_pos c3]
    by_cases c4 : r < 0
    · rw [if_pos c4, if_pos c4]; exact ⟨P_no h1 3 rfl (by decide) (by decide) rfl, hJ'⟩
    rw [if_neg c4, if_neg c4]
    by_cases c5 : r < 20
    · rw [if_pos c5, if_pos c5]
      obtain ⟨i, hi31, rfl⟩ := nI_of c4
      have hi : i < 20 := (nI_ltI hi31 (show 20 < 2 ^ 31 by decide)).mp c5
      have hR : mRs Q1 11 12 13 ro := by obtain ⟨rB, rR, rK, rA, rC, rJ, rO, rG, rM, rL, rP, rN, rT, rW, rX, rF, rS⟩ := h1; exact rR
      rw [nI_clamp hi31, zev_b1, mev_ai hi31]
      rcases hR i hi with ⟨e1, e2, e3⟩ | ⟨k, pl, e1, e2, e3, e4, e5, e6⟩
      · rw [e1, e2, if_pos (show (-1 : Int32) < 0 by decide), if_neg (show ¬ (Option.isSome (none : Rw)) = true by simp)]
        by_cases c6 : 0 ≤ n
        · rw [if_pos c6, if_pos c6]
          obtain ⟨m, hm31, rfl⟩ := nI_of (x := n) (fun e => absurd c6 (Int32.not_le.mpr e))
          have hm : m ≤ 60 := (nI_leI hm31 (show 60 < 2 ^ 31 by decide)).mp c3
          rw [nI_clamp hm31]
          refine ⟨⟨hi, ?_⟩, ?_⟩
          · rw [zev_mbd]
            refine zev_mono (K_keep h1 jI) ?_
            rintro ⟨Q2, u⟩ ⟨s2, k2, f2⟩
            dsimp only at s2 k2 f2 ⊢
            obtain ⟨rB, rR, rK, rA, rC, rJ, rO, rG, rM, rL, rP, rN, rT, rW, rX, rF, rS⟩ := h1
            have r2 := rR.fr f2 (by decide)
            simp only [zev_b1, zev_mbd, zev_some, zev_b0, zev_bo, true_and, and_true, mev_si hi31, mln_2, mln_3, mln_4, mln_5, mln_6, mln_7, mln_8, mln_9, mln_10, mln_11, mln_12, mln_13, mln_15, mln_16, mln_17, mln_24, mln_25, mln_26, mln_27, mln_28, mln_29, mln_30, mln_31, mln_32, mln_34, mln_35, mln_37, mln_42, mln_49, mln_50, mln_51, mln_52, mln_53, mln_54, mln_55, mln_56, mln_57, mln_58, mln_59, mln_61, mln_62, mln_63, mln_65, mln_66, mln_68, mln_70, mln_71, mln_72, mln_73, mln_74, hi]
            have f3 : qfr Q2 (qi (qi Q2 11 i kd) 12 i (nI m)) [11, 12] := (qfr.qi (by decide)).tr0 (qfr.qi (by decide))
            have v3 : ∀ j, (qi (qi Q2 11 i kd) 12 i (nI m)).1 11 j = (if j = i then kd else Q2.1 11 j) ∧ (qi (qi Q2 11 i kd) 12 i (nI m)).1 12 j = (if j = i then nI m else Q2.1 12 j) := fun j => by simp only [qi_1, show ¬ (11 = 12) by decide, show ¬ (12 = 11) by decide, false_and, if_false, true_and, and_self]
            generalize qi (qi Q2 11 i kd) 12 i (nI m) = Q3 at f3 v3 ⊢
            have F : qfr Q1 Q3 [11, 12, 43, 44, 45, 46, 47, 48, 49, 50, 51, 52, 53, 54, 55, 56, 57, 58, 59] := (f2.mono (by decide)).tr0 (f3.mono (by decide))
            have R3 : mRs Q3 11 12 13 (rup ro i (some (kd, List.replicate m (-1)))) := by
              intro j hj
              rw [(v3 j).1, (v3 j).2, f3.i 13 (by decide)]
              unfold rup
              by_cases e : j = i
              · subst e
                rw [if_pos rfl, if_pos rfl, if_pos rfl]
                refine Or.inr ⟨kd, _, rfl, rfl, ⟨c1, c2⟩, by rw [List.length_replicate], by rw [List.length_replicate]; exact hm, fun p hp => ?_⟩
                rw [f2.i 13 (by decide), e3 p hp, List.getElem?_replicate]
                split <;> rfl
              · rw [if_neg e, if_neg e, if_neg e]
                exact r2 j hj
            refine ⟨rfl, kc, ⟨rB.fr F (by decide), R3, rK.fr F (by decide), rA.fr F (by decide), rC, rJ.fr F (by decide) (by decide), rO.fr F (by decide) (by decide), (by rw [F.i 0 (by decide)]; exact rG), (by rw [F.i 18 (by decide)]; exact rM), rL.fr F (by decide), rP.fr F (by decide), rN.fr F (by decide), (by rw [F.i 38 (by decide)]; exact rT), (by rw [F.i 40 (by decide)]; exact rW), rX.fr F (by decide), (by rw [f3.i 43 (by decide)]; exact k2), fun _ => (s2.fr f3 (by decide)).ceq (U_row hN hi e1) rfl (nI_clamp (n := jr.length) (by omega)) (nI_clamp (n := bo.length) (by omega))⟩, ?_⟩
            dsimp only
            rw [F.i 39 (by decide), q39, cwy_pos (i64_nn (by rw [nI_toInt hm31]; omega))]
          · obtain ⟨-, -, -, j1, j2, j3, -, -⟩ := hJ'
            refine ⟨⟨hN, jI.2.1, fun j k ps hj hro p v hv => ?_, jI.2.2.2⟩, jR, jP, j1, j2, j3, Or.inr rfl, fun _ => ⟨⟨⟨nb, Nat.le_refl _, rfl⟩, ⟨_, by omega, rfl⟩, ⟨_, by omega, rfl⟩, Or.inr ⟨i, hi, rfl, Or.inl rfl⟩, Or.inl rfl, fun c hc => by simp at hc⟩, by rw [show (fu (fu (fu (bfB bf nb mo jr.length bo.length) 5 (nI i)) 6 (-1)) 7 (-1)) 3 = bfB bf nb mo jr.length bo.length 3 from rfl, bfB_3 (by omega)]; exact Nat.le_refl _, by rw [show (fu (fu (fu (bfB bf nb mo jr.length bo.length) 5 (nI i)) 6 (-1)) 7 (-1)) 4 = bfB bf nb mo jr.length bo.length 4 from rfl, bfB_4 (by omega)]; exact Nat.le_refl _, jI.cong (U_row hN hi e1), by rw [fu_1, bfB_1 (by omega)]; exact Ira_sres jR⟩⟩
            unfold rup at hro
            by_cases e : j = i
            · rw [if_pos e] at hro
              cases hro
              rw [List.getElem?_replicate] at hv
              split at hv
              · cases hv; exact ⟨by omega, Or.inl rfl⟩
              · cases hv
            · rw [if_neg e] at hro
              exact jI.2.2.1 j k ps hj hro p v hv
        · rw [if_neg c6, if_neg c6]
          exact ⟨⟨hi, P_no h1 7 rfl (by decide) (by decide) rfl⟩, hJ'⟩
      · rw [e1, e2, if_neg e3.1, if_pos (show (Option.isSome (some (k, pl) : Rw)) = true from rfl)]
        exact ⟨⟨hi, P_no h1 8 rfl (by decide) (by decide) rfl⟩, hJ'⟩
    · rw [if_neg c5, if_neg c5]; exact ⟨P_no h1 3 rfl (by decide) (by decide) rfl, hJ'⟩
  · rw [if_neg c3, if_neg c3]; exact ⟨P_no h1 1 rfl (by decide) (by decide) rfl, hJ'⟩
/-! join -/
theorem lkc_n {nb : Nat} {bs : Nat → Bv} {b : Int32} (h : lkc nb bs b ≠ 0) : lkc nb bs b = 2 ∨ lkc nb bs b = 3 ∨ lkc nb bs b = 4 := by
  unfold lkc at h ⊢
  by_cases h1 : lk nb b = 0
  · rw [if_pos h1] at h ⊢
    by_cases h2 : (bs b.toNatClampNeg).1.1 = 5
    · rw [if_pos h2] at h; exact absurd rfl h
    · rw [if_neg h2]; exact Or.inr (Or.inr rfl)
  · rw [if_neg h1] at h ⊢
    rcases lk_n h with e | e
    · exact Or.inl e
    · exact Or.inr (Or.inl e)
theorem lkv_n {nb : Nat} {bs : Nat → Bv} {b : Int32} (h : lkv nb bs b ≠ 0) : lkv nb bs b = 2 ∨ lkv nb bs b = 3 ∨ lkv nb bs b = 4 := by
  unfold lkv at h ⊢
  by_cases h1 : lk nb b = 0
  · rw [if_pos h1] at h ⊢
    by_cases h2 : (bs b.toNatClampNeg).1.1 = 5
    · rw [if_pos h2]; exact Or.inr (Or.inr rfl)
    · rw [if_neg h2] at h; exact absurd rfl h
  · rw [if_neg h1] at h ⊢
    rcases lk_n h with e | e
    · exact Or.inl e
    · exact Or.inr (Or.inl e)
/-- a look's answer, one of 2, 3, 4 (6, 9, 13) -/
theorem P_rs {c : Cs} {Q : Mq} {kc : List Int32} {r : Int32} {a : Int64} (h : R0 c Q kc) (hr : r = 2 ∨ r = 3 ∨ r = 4 ∨ r = 6 ∨ r = 9 ∨ r = 13) (ha : a = (-r).toInt64) : (¬ r ≤ 0) ∧ zev (mbd (mf_no Q r) (fun Q v => some (Q, v))) (Post (a, c)) := by
  rcases hr with e | e | e | e | e | e <;> subst e
  · exact ⟨by decide, P_no h 2 rfl (by decide) (by decide) ha⟩
  · exact ⟨by decide, P_no h 3 rfl (by decide) (by decide) ha⟩
  · exact ⟨by decide, P_no h 4 rfl (by decide) (by decide) ha⟩
  · exact ⟨by decide, P_no h 6 rfl (by decide) (by decide) ha⟩
  · exact ⟨by decide, P_no h 9 rfl (by decide) (by decide) ha⟩
  · exact ⟨by decide, P_no h 13 rfl (by decide) (by decide) ha⟩
theorem bms_join {x : Bv} {v : Nat} (h : (bms x).length = x.2.1.2.2.1) : bms (bjoin (bkeep x) v) = bms x ++ [v] := by
  show (x.2.2.2.take x.2.1.2.2.1 ++ [v]).take (x.2.1.2.2.1 + 1) = x.2.2.2.take x.2.1.2.2.1 ++ [v]
  rw [List.take_of_length_le]
  have : (x.2.2.2.take x.2.1.2.2.1).length = x.2.1.2.2.1 := h
  rw [List.length_append, this]; simp
theorem mBs.jn {Q : Mq} {nb c n : Nat} {bs : Nat → Bv} (h : mBs Q nb bs) (hm : Iml nb bs) (hc : c < nb) (h4 : (bs c).2.1.2.2.1 < 4) : mBs (qi (qi Q 7 (4 * c + (bs c).2.1.2.2.1) (nI n)) 6 c (nI ((bs c).2.1.2.2.1 + 1))) nb (bup bs c (bjoin (bkeep (bs c)) n)) := by
  have f : qfr Q (qi (qi Q 7 (4 * c + (bs c).2.1.2.2.1) (nI n)) 6 c (nI ((bs c).2.1.2.2.1 + 1))) [6, 7] := (qfr.qi (by decide)).tr0 (qfr.qi (by decide))
  have v6 : ∀ j, (qi (qi Q 7 (4 * c + (bs c).2.1.2.2.1) (nI n)) 6 c (nI ((bs c).2.1.2.2.1 + 1))).1 6 j = if j = c then nI ((bs c).2.1.2.2.1 + 1) else Q.1 6 j := fun j => by simp only [qi_1, show ¬ (6 = 7) by decide, false_and, if_false, true_and]
  have v7 : ∀ j, (qi (qi Q 7 (4 * c + (bs c).2.1.2.2.1) (nI n)) 6 c (nI ((bs c).2.1.2.2.1 + 1))).1 7 j = if j = 4 * c + (bs c).2.1.2.2.1 then nI n else Q.1 7 j := fun j => by simp only [qi_1, show ¬ (7 = 6) by decide, false_and, if_false, true_and]
  generalize qi (qi Q 7 (4 * c + (bs c).2.1.2.2.1) (nI n)) 6 c (nI ((bs c).2.1.2.2.1 + 1)) = Q2 at f v6 v7 ⊢
  refine ⟨by rw [f.i 1 (by decide)]; exact h.1, fun b hb => ?_⟩
  obtain ⟨p1, p2, p3, p4, p5, p6, p7, p8⟩ := h.2 b hb
  have hmb := hm b hb
  have hmc := hm c hc
  rw [f.i 2 (by decide), f.i 3 (by decide)]
  unfold mV
  rw [f.i 4 (by decide), f.i 5 (by decide), f.i 8 (by decide), f.i 9 (by decide), f.j 10 (by decide), v6]
  by_cases e : b = c
  · subst e
    rw [bup_self, if_pos rfl, bms_join hmb.1]
    refine ⟨p1, p2, p3, p4, rfl, p6, fun k m hk => ?_, p8⟩
    rw [v7]
    by_cases hlt : k < (bms (bs b)).length
    · rw [List.getElem?_append_left hlt] at hk
      rw [if_neg (by omega)]; exact p7 k m hk
    · rw [List.getElem?_append_right (by omega)] at hk
      have h2 := (List.getElem?_eq_some_iff.mp hk).1
      simp only [List.length_cons, List.length_nil] at h2
      obtain rfl : k = (bms (bs b)).length := by omega
      rw [Nat.sub_self] at hk
      cases hk
      rw [if_pos (by omega)]
  · rw [bup_ne _ _ e, if_neg e]
    refine ⟨p1, p2, p3, p4, p5, p6, fun k m hk => ?_, p8⟩
    have hkl := (List.getElem?_eq_some_iff.mp hk).1
    rw [v7, if_neg (by omega)]
    exact p7 k m hk
theorem sres2 {bs : Nat → Bv} {n m : Nat} {X Y : Bv} (hnm : n ≠ m) (hX : kok (bs n) X) (hY : kok (bs m) Y) (b : Nat) : (sres (bup (bup bs n X) m Y) [n, m] b).1 = (bs b).1 ∧ (sres (bup (bup bs n X) m Y) [n, m] b).2.1 = (bs b).2.1 ∧ bms (sres (bup (bup bs n X) m Y) [n, m] b) = bms (bs b) := by
  refine sres_ok (fun hb => ?_) (fun hb => ?_)
  · simp only [List.mem_cons, List.not_mem_nil, or_false] at hb
    rcases hb with rfl | rfl
    · rw [bup_ne _ _ hnm, bup_self]; exact hX
    · rw [bup_self]; exact hY
  · simp only [List.mem_cons, List.not_mem_nil, or_false, not_or] at hb
    rw [bup_ne _ _ hb.2, bup_ne _ _ hb.1]
    exact ⟨rfl, rfl, rfl⟩
theorem kok_join {x : Bv} {v : Nat} (h : (bms x).length = x.2.1.2.2.1) : kok x (bjoin (bkeep x) v) := by
  refine ⟨rfl, rfl, ?_⟩
  show (x.2.2.2.take x.2.1.2.2.1 ++ [v]).take x.2.1.2.2.1 = x.2.2.2.take x.2.1.2.2.1
  have h' : (x.2.2.2.take x.2.1.2.2.1).length = x.2.1.2.2.1 := h
  rw [List.take_append_of_le_length (Nat.le_of_eq h'.symm), List.take_of_length_le (Nat.le_of_eq h')]
theorem U_join {nb c n : Nat} {bs : Nat → Bv} {ro : Nat → Rw} {ac : Nat → Wn} {bf : Nat → Int32} {mo v : Int32} {jl bl : Nat} {ba : Wn} (hn : nb ≤ 1000) (hcn : c ≠ n) (hl : (bms (bs c)).length = (bs c).2.1.2.2.1) : Ceq nb bs ro ac (bfB bf nb mo jl bl 1).toNatClampNeg (sres (bup (bup bs c (bjoin (bkeep (bs c)) n)) n (bplc (bkeep (bs n)) v)) [c, n]) (sresR ro (bfB bf nb mo jl bl)) (sresA ac (bfB bf nb mo jl bl) ba) := ⟨bfB_1 (by omega), fun b _ => sres2 (X := bjoin (bkeep (bs c)) n) (Y := bplc (bkeep (bs n)) v) hcn (kok_join hl) ⟨rfl, rfl, rfl⟩ b, fun _ _ => rfl, fun _ _ => rfl⟩
theorem c10000 {b : Nat} (_h : b < 1000) : (10000 : Int32) + nI b = nI (10000 + b) := nI_add 10000 b
theorem V_join {nb c n : Nat} {bs : Nat → Bv} {ro : Nat → Rw} {ac : Nat → Wn} (h : Ic nb bs ro ac) (hc : c < nb) (hn : n < nb) (hc5 : (bs c).1.1 = 5) (hn5 : (bs n).1.1 ≠ 5) (h0 : (bs n).2.1.2.1 = 0) (h4 : (bs c).2.1.2.2.1 < 4) : Ic nb (bup (bup bs c (bjoin (bkeep (bs c)) n)) n (bplc (bkeep (bs n)) (10000 + nI c))) ro ac := by
  obtain ⟨i1, i2, i3, i4⟩ := h
  have hcn : c ≠ n := fun e => hn5 (e ▸ hc5)
  have hpl : ∀ b, b < nb → ∀ m, m ∈ bms (bs b) → m ≠ n := fun b hb m hm e => by
    have := ((i2 b hb).2.2.2.2.2.2.2 m hm).2.2
    rw [e, h0, c10000 (by omega)] at this
    exact absurd this.symm (nI_ne0 (by omega) (by omega))
  have hmc : ∀ b, b < nb → ∀ m, m ∈ bms (bs b) → m ≠ c := fun b hb m hm e => ((i2 b hb).2.2.2.2.2.2.2 m hm).2.1 (e ▸ hc5)
  have at_n : bup (bup bs c (bjoin (bkeep (bs c)) n)) n (bplc (bkeep (bs n)) (10000 + nI c)) n = bplc (bkeep (bs n)) (10000 + nI c) := bup_self _ _ _
  have at_c : bup (bup bs c (bjoin (bkeep (bs c)) n)) n (bplc (bkeep (bs n)) (10000 + nI c)) c = bjoin (bkeep (bs c)) n := by rw [bup_ne _ _ hcn, bup_self]
  have at_o : ∀ b, b ≠ n → b ≠ c → bup (bup bs c (bjoin (bkeep (bs c)) n)) n (bplc (bkeep (bs n)) (10000 + nI c)) b = bs b := fun b e1 e2 => by rw [bup_ne _ _ e1, bup_ne _ _ e2]
  refine ⟨i1, fun b hb => ?_, fun r k ps hr hro p v hv => ?_, i4⟩
  · obtain ⟨q1, q2, q3, q4, q5, q6, q7, q8⟩ := i2 b hb
    by_cases e1 : b = n
    · subst e1
      unfold Ib
      rw [at_n]
      refine ⟨q1, q2, q3, q4, q5, q6, q7, fun m hm => ?_⟩
      have hm' : m ∈ bms (bs b) := hm
      rw [at_o m (hpl b hb m hm') (hmc b hb m hm')]
      exact q8 m hm'
    · by_cases e2 : b = c
      · subst e2
        unfold Ib
        rw [at_c, bms_join q6.1]
        refine ⟨q1, q2, q3, q4, fun e => absurd hc5 e, ⟨by rw [List.length_append, q6.1]; rfl, h4⟩, ?_, fun m hm => ?_⟩
        · rw [List.nodup_append]
          exact ⟨q7, by simp, fun x hx y hy => by rw [List.mem_singleton] at hy; rw [hy]; exact hpl b hb x hx⟩
        · rcases List.mem_append.mp hm with hm | hm
          · rw [at_o m (hpl b hb m hm) (hmc b hb m hm)]
            exact q8 m hm
          · rw [List.mem_singleton] at hm
            rw [hm, at_n]
            exact ⟨hn, hn5, rfl⟩
      · unfold Ib
        rw [at_o b e1 e2]
        refine ⟨q1, q2, q3, q4, q5, q6, q7, fun m hm => ?_⟩
        rw [at_o m (hpl b hb m hm) (hmc b hb m hm)]
        exact q8 m hm
  · obtain ⟨z0, z⟩ := i3 r k ps hr hro p v hv
    refine ⟨z0, ?_⟩
    rcases z with z | ⟨b, hb, z1, z2⟩
    · exact Or.inl z
    · have e1 : b ≠ n := fun e => by
        rw [e, h0] at z2
        exact absurd z2.symm (nI_ne0 (by omega) (by omega))
      refine Or.inr ⟨b, hb, z1, ?_⟩
      by_cases e2 : b = c
      · rw [e2, at_c]; rw [e2] at z2; exact z2
      · rw [at_o b e1 e2]; exact z2
theorem N_join {c : Cs} {Q : Mq} {kc : List Int32} {t : Nat} (hJ : Jc t c) (ht : t ≤ 600) (h : R0 c Q kc) (c0 b : Int32) : zev (mf_join Q c0 b) (Post (sJoin c0 b (sOpen c))) ∧ Jc (t + 1) (sJoin c0 b (sOpen c)).2 := by
  obtain ⟨nb, bs, ro, lb, ps, ac, jr, bo, mo, gi, tr, tp, wy, wh, tc, st, ds, dw, bf, ba, bc⟩ := c
  have hJ' := (hJ.mono (Nat.le_succ t)).opn
  obtain ⟨jI, jR, jP, jJ, jB, jG, jF, jU⟩ := hJ
  have hN := jI.1
  have h1 := h.opn
  have q39 : (qi (qi (qi Q 38 0 (Q.1 38 0 + 1)) 41 0 0) 39 0 0).1 39 0 = 0 := rfl
  unfold mf_join mf_join_J20 sJoin sOpen
  rw [zev_mbd, zev_eq m_begin]
  dsimp only
  generalize qi (qi (qi Q 38 0 (Q.1 38 0 + 1)) 41 0 0) 39 0 0 = Q1 at h1 q39 ⊢
  rw [zev_mbd, zev_eq (m_lookedC h1.1 hN c0)]
  dsimp only
  by_cases c1 : lkc nb bs c0 = 0
  · rw [if_pos c1, zev_mbd, zev_eq (m_lookedV h1.1 hN b)]
    dsimp only
    by_cases c2 : lkv nb bs b = 0
    · rw [show fst0 (lkc nb bs c0) (lkv nb bs b) = 0 from by unfold fst0; rw [if_pos c1]; exact c2, c2, if_pos (show (0 : Int32) ≤ 0 by decide), if_pos rfl]
      obtain ⟨k, hk, rfl, hk5⟩ := lkc_0 hN c1
      obtain ⟨n, hn, rfl, hn5⟩ := lkv_0 hN c2
      have hkn : k ≠ n := fun e => hn5 (e ▸ hk5)
      have hk1 : k < 2 ^ 31 := by omega
      have hn1 : n < 2 ^ 31 := by omega
      have hml := jI.ml k hk
      rw [nI_clamp hk1, nI_clamp hn1, zev_b1, mev_ai hn1, h1.1.pl hn]
      by_cases c3 : (bs n).2.1.2.1 = 0
      · rw [if_pos c3, if_pos c3, zev_b1, mev_ai hk1, h1.1.mc hk]
        by_cases c4 : (bs k).2.1.2.2.1 < 4
        · rw [if_pos (show nI (bs k).2.1.2.2.1 < 4 from nI_lt (b := 4) c4 (by decide)), if_neg (show ¬ nI (bs k).2.1.2.2.1 = 4 from fun z => by have := (nI_eq (b := 4) (by omega) (by decide)).mp z; omega)]
          refine ⟨⟨show n < 1000 by omega, show k < 1000 by omega, ?_⟩, ?_⟩
          · rw [zev_mbd]
            refine zev_mono (K_keep h1 jI) ?_
            rintro ⟨Q2, u⟩ ⟨s2, k2, f2⟩
            dsimp only at s2 k2 f2 ⊢
            obtain ⟨rB, rR, rK, rA, rC, rJ, rO, rG, rM, rL, rP, rN, rT, rW, rX, rF, rS⟩ := h1
            have b2 := rB.fr f2 (by decide)
            simp only [zev_b1, zev_mbd, zev_some, zev_b0, zev_bo, true_and, and_true, mev_ai hk1, mev_si hk1, mev_si hn1, mln_2, mln_3, mln_4, mln_5, mln_6, mln_7, mln_8, mln_9, mln_10, mln_11, mln_12, mln_13, mln_15, mln_16, mln_17, mln_24, mln_25, mln_26, mln_27, mln_28, mln_29, mln_30, mln_31, mln_32, mln_34, mln_35, mln_37, mln_42, mln_49, mln_50, mln_51, mln_52, mln_53, mln_54, mln_55, mln_56, mln_57, mln_58, mln_59, mln_61, mln_62, mln_63, mln_65, mln_66, mln_68, mln_70, mln_71, mln_72, mln_73, mln_74, show n < 1000 by omega, show k < 1000 by omega, b2.mc hk, nI_x4, nI_x5, nI_x13, nI_x16, nI_x20, nI_x60, nI_x100, nI_x48r, nI_add, nI_1, mev_si (show 4 * k + (bs k).2.1.2.2.1 < 2 ^ 31 by omega), show 4 * k + (bs k).2.1.2.2.1 < 4000 by omega, qi_1, show ¬ (6 = 7) by decide, show ¬ (6 = 5) by decide, false_and, if_false, and_self, if_true]
            have f3 : qfr Q2 (qi (qi (qi Q2 7 (4 * k + (bs k).2.1.2.2.1) (nI n)) 6 k (nI ((bs k).2.1.2.2.1 + 1))) 5 n (10000 + nI k)) [5, 6, 7] := ((qfr.qi (by decide)).tr0 (qfr.qi (by decide))).tr0 (qfr.qi (by decide))
            have b3 := (b2.jn (n := n) jI.ml hk c4).w5 (n := n) (v := 10000 + nI k)
            rw [bup_ne _ _ (Ne.symm hkn)] at b3
            generalize qi (qi (qi Q2 7 (4 * k + (bs k).2.1.2.2.1) (nI n)) 6 k (nI ((bs k).2.1.2.2.1 + 1))) 5 n (10000 + nI k) = Q3 at f3 b3 ⊢
            have F : qfr Q1 Q3 [5, 6, 7, 43, 44, 45, 46, 47, 48, 49, 50, 51, 52, 53, 54, 55, 56, 57, 58, 59] := (f2.mono (by decide)).tr0 (f3.mono (by decide))
            refine ⟨rfl, kc, ⟨b3, rR.fr F (by decide), rK.fr F (by decide), rA.fr F (by decide), ⟨rC.1, fun b' hb' q hq => rC.2 b' hb' q (by
              revert hq; unfold bup; split
              · rename_i e; subst e; exact id
              · split
                · rename_i e; subst e; exact id
                · exact id)⟩, rJ.fr F (by decide) (by decide), rO.fr F (by decide) (by decide), (by rw [F.i 0 (by decide)]; exact rG), (by rw [F.i 18 (by decide)]; exact rM), rL.fr F (by decide), rP.fr F (by decide), rN.fr F (by decide), (by rw [F.i 38 (by decide)]; exact rT), (by rw [F.i 40 (by decide)]; exact rW), rX.fr F (by decide), (by rw [f3.i 43 (by decide)]; exact k2), fun _ => (s2.fr f3 (by decide)).ceq (U_join hN hkn hml.1) rfl (bfB_3 (by omega)) (bfB_4 (by omega))⟩, ?_⟩
            dsimp only
            rw [F.i 39 (by decide), q39, cwy_pos (i64_nn (by rw [nI_toInt (by omega)]; omega))]
          · obtain ⟨-, -, -, j1, j2, j3, -, -⟩ := hJ'
            have R' : Ira nb (bup (bup bs k (bjoin (bkeep (bs k)) n)) n (bplc (bkeep (bs n)) (10000 + nI k))) := fun b' hb' m hm => by
              revert hm; unfold bup; split
              · rename_i e; subst e; exact jR b' hb' m
              · split
                · rename_i e; subst e
                  intro hm
                  rcases List.mem_append.mp (show m ∈ (bs b').2.2.2.take (bs b').2.1.2.2.1 ++ [n] from hm) with hm | hm
                  · exact jR b' hb' m (List.mem_of_mem_take hm)
                  · rw [List.mem_singleton] at hm; omega
                · exact jR b' hb' m
            refine ⟨V_join jI hk hn hk5 hn5 c3 c4, R', jP, j1, j2, j3, Or.inr rfl, fun _ => ⟨UokB (by omega) (by omega) (fun c' hc' => by simp only [List.mem_cons, List.not_mem_nil, or_false] at hc'; omega), by rw [bfB_3 (by omega)]; exact Nat.le_refl _, by rw [bfB_4 (by omega)]; exact Nat.le_refl _, jI.cong (U_join hN hkn hml.1), by rw [bfB_1 (by omega)]; exact Ira_sres R'⟩⟩
        · rw [if_neg (show ¬ nI (bs k).2.1.2.2.1 < 4 from nI_nlt (b := 4) (by omega) (by omega)), if_pos (show nI (bs k).2.1.2.2.1 = 4 from by rw [show (bs k).2.1.2.2.1 = 4 by omega]; rfl)]
          exact ⟨⟨show n < 1000 by omega, show k < 1000 by omega, P_no h1 12 rfl (by decide) (by decide) rfl⟩, hJ'⟩
      · rw [if_neg c3, if_neg c3]
        exact ⟨⟨show n < 1000 by omega, P_no h1 9 rfl (by decide) (by decide) rfl⟩, hJ'⟩
    · have ef : fst0 (lkc nb bs c0) (lkv nb bs b) = lkv nb bs b := by unfold fst0; rw [if_pos c1]
      rw [ef, if_neg c2]
      obtain ⟨p1, p2⟩ := P_rs (a := (-(lkv nb bs b)).toInt64) h1 (by rcases lkv_n c2 with e | e | e <;> simp only [e] <;> decide) rfl
      rw [if_neg p1]
      exact ⟨p2, hJ'⟩
  · have ef : fst0 (lkc nb bs c0) (lkv nb bs b) = lkc nb bs c0 := by unfold fst0; rw [if_neg c1]
    rw [if_neg c1, ef, if_neg c1]
    obtain ⟨p1, p2⟩ := P_rs (a := (-(lkc nb bs c0)).toInt64) h1 (by rcases lkc_n c1 with e | e | e <;> simp only [e] <;> decide) rfl
    rw [if_neg p1]
    exact ⟨p2, hJ'⟩
/-! leave -/
theorem mBs.lv {Q : Mq} {nb c k : Nat} {bs : Nat → Bv} (h : mBs Q nb bs) (hk : k ≤ (bs c).2.1.2.2.1) : mBs (qi Q 6 c (nI k)) nb (bup bs c (bmcn (bkeep (bs c)) k)) := by
  have f : qfr Q (qi Q 6 c (nI k)) [6] := qfr.qi (by decide)
  refine ⟨by rw [f.i 1 (by decide)]; exact h.1, fun b hb => ?_⟩
  obtain ⟨p1, p2, p3, p4, p5, p6, p7, p8⟩ := h.2 b hb
  rw [f.i 2 (by decide), f.i 3 (by decide)]
  unfold mV
  rw [f.i 4 (by decide), f.i 5 (by decide), f.i 7 (by decide), f.i 8 (by decide), f.i 9 (by decide), f.j 10 (by decide), qi_1]
  by_cases e : b = c
  · subst e
    rw [bup_self, if_pos ⟨rfl, rfl⟩]
    refine ⟨p1, p2, p3, p4, rfl, p6, fun j m hj => p7 j m ?_, p8⟩
    have hj' : ((bs b).2.2.2.take k)[j]? = some m := hj
    have hjl := (List.getElem?_eq_some_iff.mp hj').1
    rw [List.length_take] at hjl
    rw [List.getElem?_take_of_lt (by omega)] at hj'
    unfold bms
    rw [List.getElem?_take_of_lt (by omega)]
    exact hj'
  · rw [bup_ne _ _ e, if_neg (fun z => e z.2)]
    exact ⟨p1, p2, p3, p4, p5, p6, p7, p8⟩
theorem kok_mcn {x : Bv} {k : Nat} : kok x (bmcn (bkeep x) k) := ⟨rfl, rfl, rfl⟩
theorem U_leave {nb c n k : Nat} {bs : Nat → Bv} {ro : Nat → Rw} {ac : Nat → Wn} {bf : Nat → Int32} {mo v : Int32} {jl bl : Nat} {ba : Wn} (hn : nb ≤ 1000) (hcn : c ≠ n) : Ceq nb bs ro ac (bfB bf nb mo jl bl 1).toNatClampNeg (sres (bup (bup bs c (bmcn (bkeep (bs c)) k)) n (bplc (bkeep (bs n)) v)) [c, n]) (sresR ro (bfB bf nb mo jl bl)) (sresA ac (bfB bf nb mo jl bl) ba) := ⟨bfB_1 (by omega), fun b _ => sres2 (X := bmcn (bkeep (bs c)) k) (Y := bplc (bkeep (bs n)) v) hcn kok_mcn ⟨rfl, rfl, rfl⟩ b, fun _ _ => rfl, fun _ _ => rfl⟩
theorem bms_mcn {x : Bv} {k : Nat} (hk : k ≤ x.2.1.2.2.1) : bms (bmcn (bkeep x) k) = (bms x).take k := by
  show x.2.2.2.take k = (x.2.2.2.take x.2.1.2.2.1).take k
  rw [List.take_take, Nat.min_eq_left hk]
theorem V_leave {nb c n k : Nat} {bs : Nat → Bv} {ro : Nat → Rw} {ac : Nat → Wn} (h : Ic nb bs ro ac) (hc : c < nb) (hk : (bs c).2.1.2.2.1 = k + 1) (hb : (bms (bs c))[k]? = some n) : Ic nb (bup (bup bs c (bmcn (bkeep (bs c)) k)) n (bplc (bkeep (bs n)) 0)) ro ac := by
  obtain ⟨i1, i2, i3, i4⟩ := h
  have hin := List.mem_of_getElem? hb
  obtain ⟨hn, hn5, hnp⟩ := (i2 c hc).2.2.2.2.2.2.2 n hin
  have hc5 : (bs c).1.1 = 5 := by
    by_cases e : (bs c).1.1 = 5
    · exact e
    · have := (i2 c hc).2.2.2.2.1 e
      rw [this] at hb; simp at hb
  have hcn : c ≠ n := fun e => hn5 (e ▸ hc5)
  have hmc : ∀ b, b < nb → ∀ m, m ∈ bms (bs b) → m ≠ c := fun b hb m hm e => ((i2 b hb).2.2.2.2.2.2.2 m hm).2.1 (e ▸ hc5)
  have hmn : ∀ b, b < nb → b ≠ c → ∀ m, m ∈ bms (bs b) → m ≠ n := fun b hb hbc m hm e => by
    have h2 := ((i2 b hb).2.2.2.2.2.2.2 m hm).2.2
    rw [e, hnp, c10000 (by omega), c10000 (by omega)] at h2
    have := (nI_eq (by omega) (by omega)).mp h2
    omega
  have at_n : bup (bup bs c (bmcn (bkeep (bs c)) k)) n (bplc (bkeep (bs n)) 0) n = bplc (bkeep (bs n)) 0 := bup_self _ _ _
  have at_c : bup (bup bs c (bmcn (bkeep (bs c)) k)) n (bplc (bkeep (bs n)) 0) c = bmcn (bkeep (bs c)) k := by rw [bup_ne _ _ hcn, bup_self]
  have at_o : ∀ b, b ≠ n → b ≠ c → bup (bup bs c (bmcn (bkeep (bs c)) k)) n (bplc (bkeep (bs n)) 0) b = bs b := fun b e1 e2 => by rw [bup_ne _ _ e1, bup_ne _ _ e2]
  refine ⟨i1, fun b hb2 => ?_, fun r k ps hr hro p v hv => ?_, i4⟩
  · obtain ⟨q1, q2, q3, q4, q5, q6, q7, q8⟩ := i2 b hb2
    by_cases e1 : b = n
    · subst e1
      unfold Ib
      rw [at_n]
      have hnil : bms (bs b) = [] := q5 hn5
      refine ⟨q1, q2, q3, q4, q5, q6, q7, fun m hm => ?_⟩
      have hm' : m ∈ bms (bs b) := hm
      rw [hnil] at hm'; simp at hm'
    · by_cases e2 : b = c
      · subst e2
        unfold Ib
        rw [at_c, bms_mcn (by omega)]
        refine ⟨q1, q2, q3, q4, fun e => absurd hc5 e, ⟨by rw [List.length_take, q6.1]; show min k _ = k; omega, by show k ≤ 4; omega⟩, q7.sublist (List.take_sublist _ _), fun m hm => ?_⟩
        have hm' := List.mem_of_mem_take hm
        have hne : m ≠ n := fun e => by
          obtain ⟨j, hj⟩ := List.getElem?_of_mem hm
          have hjl := (List.getElem?_eq_some_iff.mp hj).1
          rw [List.length_take] at hjl
          rw [List.getElem?_take_of_lt (by omega)] at hj
          rw [e] at hj
          have := (List.getElem?_inj (List.getElem?_eq_some_iff.mp hj).1 q7).mp (hj.trans hb.symm)
          omega
        rw [at_o m hne (hmc b hb2 m hm')]
        exact q8 m hm'
      · unfold Ib
        rw [at_o b e1 e2]
        refine ⟨q1, q2, q3, q4, q5, q6, q7, fun m hm => ?_⟩
        rw [at_o m (hmn b hb2 e2 m hm) (hmc b hb2 m hm)]
        exact q8 m hm
  · obtain ⟨z0, z⟩ := i3 r k ps hr hro p v hv
    refine ⟨z0, ?_⟩
    rcases z with z | ⟨b, hb2, z1, z2⟩
    · exact Or.inl z
    · have e1 : b ≠ n := fun e => by
        rw [e, hnp, c10000 (by omega)] at z2
        have := (nI_eq (by omega) (by omega)).mp z2
        omega
      refine Or.inr ⟨b, hb2, z1, ?_⟩
      by_cases e2 : b = c
      · rw [e2, at_c]; rw [e2] at z2; exact z2
      · rw [at_o b e1 e2]; exact z2
theorem N_leave {c : Cs} {Q : Mq} {kc : List Int32} {t : Nat} (hJ : Jc t c) (ht : t ≤ 600) (h : R0 c Q kc) (c0 : Int32) : zev (mf_leave Q c0) (Post (sLeave c0 (sOpen c))) ∧ Jc (t + 1) (sLeave c0 (sOpen c)).2 := by
  obtain ⟨nb, bs, ro, lb, ps, ac, jr, bo, mo, gi, tr, tp, wy, wh, tc, st, ds, dw, bf, ba, bc⟩ := c
  have hJ' := (hJ.mono (Nat.le_succ t)).opn
  obtain ⟨jI, jR, jP, jJ, jB, jG, jF, jU⟩ := hJ
  have hN := jI.1
  have h1 := h.opn
  have q39 : (qi (qi (qi Q 38 0 (Q.1 38 0 + 1)) 41 0 0) 39 0 0).1 39 0 = 0 := rfl
  unfold mf_leave sLeave sOpen
  rw [zev_mbd, zev_eq m_begin]
  dsimp only
  generalize qi (qi (qi Q 38 0 (Q.1 38 0 + 1)) 41 0 0) 39 0 0 = Q1 at h1 q39 ⊢
  rw [zev_mbd, zev_eq (m_lookedC h1.1 hN c0)]
  dsimp only
  by_cases c1 : lkc nb bs c0 = 0
  · rw [if_pos c1, c1, if_pos (show (0 : Int32) ≤ 0 by decide)]
    obtain ⟨k, hk, rfl, hk5⟩ := lkc_0 hN c1
    have hk1 : k < 2 ^ 31 := by omega
    have hml := jI.ml k hk
    rw [nI_clamp hk1, zev_b1, mev_ai hk1, h1.1.mc hk]
    by_cases c2 : (bs k).2.1.2.2.1 = 0
    · rw [if_pos (show nI (bs k).2.1.2.2.1 = 0 from by rw [c2]; rfl), if_pos (show nI (bs k).2.1.2.2.1 = 0 from by rw [c2]; rfl)]
      exact ⟨⟨show k < 1000 by omega, P_no h1 3 rfl (by decide) (by decide) rfl⟩, hJ'⟩
    · rw [if_neg (nI_ne0 (by omega) (by omega)), if_neg (nI_ne0 (by omega) (by omega))]
      obtain ⟨j, hj⟩ : ∃ j, (bs k).2.1.2.2.1 = j + 1 := ⟨(bs k).2.1.2.2.1 - 1, by omega⟩
      obtain ⟨n, hn⟩ := getElem?_lt (l := bms (bs k)) (i := j) (by omega)
      have hbl : blast (bs k) = n := by unfold blast; rw [hj, Nat.add_sub_cancel, hn]; rfl
      have hmem := jI.mem k hk n (List.mem_of_getElem? hn)
      have hkn : k ≠ n := fun e => hmem.2 (e ▸ hk5)
      have hn1 : n < 2 ^ 31 := by omega
      rw [hbl, hj, Nat.add_sub_cancel]
      refine ⟨⟨show k < 1000 by omega, ?_⟩, ?_⟩
      · rw [zev_mbd]
        refine zev_mono (K_keep h1 jI) ?_
        rintro ⟨Q2, u⟩ ⟨s2, k2, f2⟩
        dsimp only at s2 k2 f2 ⊢
        obtain ⟨rB, rR, rK, rA, rC, rJ, rO, rG, rM, rL, rP, rN, rT, rW, rX, rF, rS⟩ := h1
        have b2 := rB.fr f2 (by decide)
        have e7 := b2.me hk hn
        have ep : nI (j + 1) - 1 = nI j := nI_pred j
        simp only [zev_b1, zev_mbd, zev_some, zev_b0, zev_bo, true_and, and_true, mev_ai hk1, mev_si hk1, mln_2, mln_3, mln_4, mln_5, mln_6, mln_7, mln_8, mln_9, mln_10, mln_11, mln_12, mln_13, mln_15, mln_16, mln_17, mln_24, mln_25, mln_26, mln_27, mln_28, mln_29, mln_30, mln_31, mln_32, mln_34, mln_35, mln_37, mln_42, mln_49, mln_50, mln_51, mln_52, mln_53, mln_54, mln_55, mln_56, mln_57, mln_58, mln_59, mln_61, mln_62, mln_63, mln_65, mln_66, mln_68, mln_70, mln_71, mln_72, mln_73, mln_74, show n < 1000 by omega, show k < 1000 by omega, b2.mc hk, hj, ep, nI_x4, nI_x5, nI_x13, nI_x16, nI_x20, nI_x60, nI_x100, nI_x48r, nI_add, nI_1, mev_ai (show 4 * k + j < 2 ^ 31 by omega), show 4 * k + j < 4000 by omega, qi_1, show ¬ (7 = 6) by decide, false_and, if_false, and_self, if_true, e7, mev_si hn1]
        have f3 : qfr Q2 (qi (qi Q2 6 k (nI j)) 5 n 0) [5, 6] := (qfr.qi (by decide)).tr0 (qfr.qi (by decide))
        have b3 := (b2.lv (c := k) (k := j) (by omega)).w5 (n := n) (v := 0)
        rw [bup_ne _ _ (Ne.symm hkn)] at b3
        generalize qi (qi Q2 6 k (nI j)) 5 n 0 = Q3 at f3 b3 ⊢
        have F : qfr Q1 Q3 [5, 6, 43, 44, 45, 46, 47, 48, 49, 50, 51, 52, 53, 54, 55, 56, 57, 58, 59] := (f2.mono (by decide)).tr0 (f3.mono (by decide))
        refine ⟨rfl, kc, ⟨b3, rR.fr F (by decide), rK.fr F (by decide), rA.fr F (by decide), ⟨rC.1, fun b' hb' q hq => rC.2 b' hb' q (by
          revert hq; unfold bup; split
          · rename_i e; subst e; exact id
          · split
            · rename_i e; subst e; exact id
            · exact id)⟩, rJ.fr F (by decide) (by decide), rO.fr F (by decide) (by decide), (by rw [F.i 0 (by decide)]; exact rG), (by rw [F.i 18 (by decide)]; exact rM), rL.fr F (by decide), rP.fr F (by decide), rN.fr F (by decide), (by rw [F.i 38 (by decide)]; exact rT), (by rw [F.i 40 (by decide)]; exact rW), rX.fr F (by decide), (by rw [f3.i 43 (by decide)]; exact k2), fun _ => (s2.fr f3 (by decide)).ceq (U_leave hN hkn) rfl (bfB_3 (by omega)) (bfB_4 (by omega))⟩, ?_⟩
        dsimp only
        rw [F.i 39 (by decide), q39, cwy_pos (i64_nn (by rw [nI_toInt (by omega)]; omega))]
      · obtain ⟨-, -, -, j1, j2, j3, -, -⟩ := hJ'
        have R' : Ira nb (bup (bup bs k (bmcn (bkeep (bs k)) j)) n (bplc (bkeep (bs n)) 0)) := fun b' hb' m hm => by
          revert hm; unfold bup; split
          · rename_i e; subst e; exact jR b' hb' m
          · split
            · rename_i e; subst e; exact jR b' hb' m
            · exact jR b' hb' m
        refine ⟨V_leave jI hk hj hn, R', jP, j1, j2, j3, Or.inr rfl, fun _ => ⟨UokB (by omega) (by omega) (fun c' hc' => by simp only [List.mem_cons, List.not_mem_nil, or_false] at hc'; omega), by rw [bfB_3 (by omega)]; exact Nat.le_refl _, by rw [bfB_4 (by omega)]; exact Nat.le_refl _, jI.cong (U_leave hN hkn), by rw [bfB_1 (by omega)]; exact Ira_sres R'⟩⟩
  · rw [if_neg c1]
    obtain ⟨p1, p2⟩ := P_rs (a := (-(lkc nb bs c0)).toInt64) h1 (by rcases lkc_n c1 with e | e | e <;> simp only [e] <;> decide) rfl
    rw [if_neg p1]
    exact ⟨p2, hJ'⟩
