/-! The reference's acts: lay, lift. -/
theorem set_same {α : Type} {l : List α} {j : Nat} {v : α} (h : l[j]? = some v) : l.set j v = l := by
  apply List.ext_getElem?
  intro i
  by_cases e : i = j
  · subst e
    rw [List.getElem?_set_self (List.getElem?_eq_some_iff.mp h).1, h]
  · rw [List.getElem?_set_ne (Ne.symm e)]
theorem m_takes {Q : Mq} {k b : Int32} (hk : ¬ k < 0 ∧ ¬ 6 < k) (hb : b = 1 ∨ b = 2 ∨ b = 3 ∨ b = 4 ∨ b = 5) : mf_takes Q k b = some (Q, rtak k b) := by
  obtain ⟨j, hj, rfl⟩ := nI_rng (n := 6) (by decide) hk.1 hk.2
  have hj2 : j = 0 ∨ j = 1 ∨ j = 2 ∨ j = 3 ∨ j = 4 ∨ j = 5 ∨ j = 6 := by omega
  rcases hj2 with rfl | rfl | rfl | rfl | rfl | rfl | rfl <;> rcases hb with rfl | rfl | rfl | rfl | rfl <;> rfl
theorem mRs.put {Q : Mq} {ro : Nat → Rw} {i j : Nat} {kd v : Int32} {pl : List Int32} (h : mRs Q 11 12 13 ro) (hi : i < 20) (hr : ro i = some (kd, pl)) (hj : j < pl.length) : mRs (qi Q 13 (60 * i + j) v) 11 12 13 (rup ro i (some (kd, pl.set j v))) := by
  have f : qfr Q (qi Q 13 (60 * i + j) v) [13] := qfr.qi (by decide)
  intro r hr2
  rw [f.i 11 (by decide), f.i 12 (by decide)]
  have hpl : pl.length ≤ 60 := by
    rcases h i hi with ⟨e1, -⟩ | ⟨k, ps, e1, -, -, -, e5, -⟩
    · rw [hr] at e1; cases e1
    · rw [hr] at e1; cases e1; exact e5
  unfold rup
  by_cases e : r = i
  · subst e
    rw [if_pos rfl]
    rcases h r hi with ⟨e1, -⟩ | ⟨k, ps, e1, e2, e3, e4, e5, e6⟩
    · rw [hr] at e1; cases e1
    · rw [hr] at e1
      cases e1
      refine Or.inr ⟨_, _, rfl, e2, e3, by rw [List.length_set]; exact e4, by rw [List.length_set]; exact e5, fun p hp => ?_⟩
      rw [qi_1]
      by_cases ep : p = j
      · subst ep
        rw [if_pos ⟨rfl, rfl⟩, List.getElem?_set_self hj]; rfl
      · rw [if_neg (by omega), List.getElem?_set_ne (Ne.symm ep)]
        exact e6 p hp
  · rw [if_neg e]
    rcases h r hr2 with ⟨e1, e2, e3⟩ | ⟨k, ps, e1, e2, e3, e4, e5, e6⟩
    · exact Or.inl ⟨e1, e2, fun p hp => by rw [qi_1, if_neg (by omega)]; exact e3 p hp⟩
    · exact Or.inr ⟨k, ps, e1, e2, e3, e4, e5, fun p hp => by rw [qi_1, if_neg (by omega)]; exact e6 p hp⟩
/-- what the place is given back -/
theorem U_put {nb i j n : Nat} {bs : Nat → Bv} {ro : Nat → Rw} {ac : Nat → Wn} {bf : Nat → Int32} {mo kd v w p : Int32} {pl : List Int32} {jl bl : Nat} {ba : Wn} (hn : nb ≤ 1000) (hi : i < 20) (hj : j < 2 ^ 31) (hr : ro i = some (kd, pl)) (hjl : pl[j]? = some w) : Ceq nb bs ro ac ((fu (fu (fu (bfB bf nb mo jl bl) 5 (nI i)) 6 (nI j)) 7 w) 1).toNatClampNeg (sres (bup bs n (bplc (bkeep (bs n)) p)) [n]) (sresR (rup ro i (some (kd, pl.set j v))) (fu (fu (fu (bfB bf nb mo jl bl) 5 (nI i)) 6 (nI j)) 7 w)) (sresA ac (fu (fu (fu (bfB bf nb mo jl bl) 5 (nI i)) 6 (nI j)) 7 w) ba) := by
  refine ⟨(show (bfB bf nb mo jl bl 1).toNatClampNeg = nb from bfB_1 (by omega)), fun b _ => sres1 (X := bplc (bkeep (bs n)) p) ⟨rfl, rfl, rfl⟩ b, fun r hr2 => ?_, fun _ _ => rfl⟩
  unfold sresR
  rw [if_neg (show ¬ (fu (fu (fu (bfB bf nb mo jl bl) 5 (nI i)) 6 (nI j)) 7 w) 5 = -1 from nIne (by omega)), if_neg (show ¬ (fu (fu (fu (bfB bf nb mo jl bl) 5 (nI i)) 6 (nI j)) 7 w) 6 = -1 from nIne hj)]
  show rput (rup ro i (some (kd, pl.set j v))) (nI i) (nI j) w r = ro r
  unfold rput
  rw [nI_clamp (by omega), nI_clamp hj]
  have e1 : rup ro i (some (kd, pl.set j v)) i = some (kd, pl.set j v) := by unfold rup; rw [if_pos rfl]
  rw [e1]
  dsimp only
  unfold rup
  by_cases e : r = i
  · rw [if_pos e, e, hr, List.set_set, set_same hjl]
  · rw [if_neg e, if_neg e]
theorem Ic.plc {nb n : Nat} {bs : Nat → Bv} {ro ro' : Nat → Rw} {ac : Nat → Wn} {p : Int32} (h : Ic nb bs ro ac) (hn : n < nb) (hm : ∀ b, b < nb → n ∉ bms (bs b)) (hr : Irw nb (bup bs n (bplc (bkeep (bs n)) p)) ro') : Ic nb (bup bs n (bplc (bkeep (bs n)) p)) ro' ac := by
  obtain ⟨i1, i2, i3, i4⟩ := h
  have at_o : ∀ b, b ≠ n → bup bs n (bplc (bkeep (bs n)) p) b = bs b := fun b e => bup_ne _ _ e
  have at_n : bup bs n (bplc (bkeep (bs n)) p) n = bplc (bkeep (bs n)) p := bup_self _ _ _
  refine ⟨i1, fun b hb => ?_, hr, i4⟩
  obtain ⟨q1, q2, q3, q4, q5, q6, q7, q8⟩ := i2 b hb
  have hne : ∀ m, m ∈ bms (bs b) → m ≠ n := fun m hm2 e => hm b hb (e ▸ hm2)
  by_cases e : b = n
  · subst e
    unfold Ib
    rw [at_n]
    refine ⟨q1, q2, q3, q4, q5, q6, q7, fun m hm2 => ?_⟩
    have hm' : m ∈ bms (bs b) := hm2
    rw [at_o m (hne m hm')]
    exact q8 m hm'
  · unfold Ib
    rw [at_o b e]
    refine ⟨q1, q2, q3, q4, q5, q6, q7, fun m hm2 => ?_⟩
    rw [at_o m (hne m hm2)]
    exact q8 m hm2
theorem code_of {r p : Nat} : (1 : Int32) + 100 * nI r + nI p = nI (1 + 100 * r + p) := by
  rw [nI_x100, show (1 : Int32) = nI 1 from rfl, nI_add, nI_add]
theorem rpl_n {ro : Nat → Rw} {r p : Int32} (h : rpl ro r p ≠ 0) : rpl ro r p = 3 ∨ rpl ro r p = 6 := by
  unfold rpl at h ⊢
  by_cases h1 : r < 0
  · rw [if_pos h1]; exact Or.inl rfl
  · rw [if_neg h1] at h ⊢
    by_cases h2 : r < 20
    · rw [if_pos h2] at h ⊢
      cases hro : ro r.toNatClampNeg with
      | none => exact Or.inr rfl
      | some q =>
        rw [hro] at h
        dsimp only at h ⊢
        by_cases h3 : p < 0
        · rw [if_pos h3]; exact Or.inl rfl
        · rw [if_neg h3] at h ⊢
          by_cases h4 : p < nI q.2.length
          · rw [if_pos h4] at h; exact absurd rfl h
          · rw [if_neg h4]; exact Or.inl rfl
    · rw [if_neg h2]; exact Or.inl rfl
theorem mRs.at {Q : Mq} {ro : Nat → Rw} {i : Nat} {kd : Int32} {pl : List Int32} (h : mRs Q 11 12 13 ro) (hi : i < 20) (hr : ro i = some (kd, pl)) : Q.1 11 i = kd ∧ (¬ kd < 0 ∧ ¬ 6 < kd) ∧ pl.length ≤ 60 ∧ ∀ p, p < 60 → Q.1 13 (60 * i + p) = (pl[p]?).getD (-1) := by
  rcases h i hi with ⟨e1, -⟩ | ⟨k, ps, e1, e2, e3, e4, e5, e6⟩
  · rw [hr] at e1; cases e1
  · rw [hr] at e1; cases e1; exact ⟨e2, e3, e5, e6⟩
theorem N_lay {c : Cs} {Q : Mq} {kc : List Int32} {t : Nat} (hJ : Jc t c) (ht : t ≤ 600) (h : R0 c Q kc) (b r p : Int32) : zev (mf_lay Q b r p) (Post (sLay b r p (sOpen c))) ∧ Jc (t + 1) (sLay b r p (sOpen c)).2 := by
  obtain ⟨nb, bs, ro, lb, ps, ac, jr, bo, mo, gi, tr, tp, wy, wh, tc, st, ds, dw, bf, ba, bc⟩ := c
  have hJ' := (hJ.mono (Nat.le_succ t)).opn
  obtain ⟨jI, jR, jP, jJ, jB, jG, jF, jU⟩ := hJ
  have hN := jI.1
  have h1 := h.opn
  have q39 : (qi (qi (qi Q 38 0 (Q.1 38 0 + 1)) 41 0 0) 39 0 0).1 39 0 = 0 := rfl
  unfold mf_lay sLay sOpen
  rw [zev_mbd, zev_eq m_begin]
  dsimp only
  generalize qi (qi (qi Q 38 0 (Q.1 38 0 + 1)) 41 0 0) 39 0 0 = Q1 at h1 q39 ⊢
  have hR : mRs Q1 11 12 13 ro := by obtain ⟨rB, rR, rK, rA, rC, rJ, rO, rG, rM, rL, rP, rN, rT, rW, rX, rF, rS⟩ := h1; exact rR
  rw [zev_mbd, zev_eq (m_looked h1.1 b)]
  dsimp only
  by_cases c1 : lk nb b = 0
  · rw [if_pos c1, c1, if_pos (show (0 : Int32) ≤ 0 by decide)]
    obtain ⟨n, hn, rfl⟩ := lk_0 hN c1
    have hn1 : n < 2 ^ 31 := by omega
    rw [nI_clamp hn1, zev_b1, mev_ai hn1, h1.1.pl hn]
    by_cases c2 : (bs n).2.1.2.1 = 0
    · rw [if_pos c2, if_pos c2, zev_mbd, zev_eq (m_readPlace hR r p)]
      dsimp only
      by_cases c3 : rpl ro r p = 0
      · rw [if_pos c3, c3, if_pos (show (0 : Int32) ≤ 0 by decide)]
        obtain ⟨i, j, kd, pl, rfl, hi, rfl, hro, hj31, hjl0⟩ := rpl_0 c3
        obtain ⟨a1, a2, a3, a4⟩ := hR.at hi hro
        have hjl : j < pl.length := (nI_ltI hj31 (by omega)).mp hjl0
        obtain ⟨w, hw⟩ := getElem?_lt hjl
        have hi31 : i < 2 ^ 31 := by omega
        have hcell : rcell ro (nI i) (nI j) = w := by unfold rcell; rw [nI_clamp hi31, hro]; dsimp only; rw [nI_clamp hj31, hw]; rfl
        have hkd : rkind ro (nI i) = kd := by unfold rkind; rw [nI_clamp hi31, hro]
        have hput : rput ro (nI i) (nI j) (nI n) = rup ro i (some (kd, pl.set j (nI n))) := by unfold rput; rw [nI_clamp hi31, hro]; dsimp only; rw [nI_clamp hj31]
        have hv : Q1.1 13 (60 * i + j) = w := by rw [a4 j (by omega), hw]; rfl
        obtain ⟨hj60, hcw⟩ := jI.2.2.1 i kd pl hi hro j w hw
        have hidx : (60 : Int32) * nI i + nI j = nI (60 * i + j) := by rw [nI_x60, nI_add]
        rw [hcell, hkd, hput, hidx, zev_b1, mev_ai (show 60 * i + j < 2 ^ 31 by omega), hv]
        by_cases c4 : w = -1
        · rw [if_pos c4, if_pos (show w < 0 from by rw [c4]; decide), zev_b1, mev_ai hi31, a1, zev_b1, mev_ai hn1, h1.1.kd hn, zev_mbd, zev_eq (m_takes a2 (jI.kd n hn))]
          dsimp only
          by_cases c5 : rtak kd (bs n).1.1 = 0
          · rw [if_pos c5, if_pos c5]
            exact ⟨⟨show n < 1000 by omega, show 60 * i + j < 1200 by omega, hi, show n < 1000 by omega, P_no h1 4 rfl (by decide) (by decide) rfl⟩, hJ'⟩
          · rw [if_neg c5, if_neg c5, code_of]
            subst c4
            refine ⟨⟨show n < 1000 by omega, show 60 * i + j < 1200 by omega, hi, show n < 1000 by omega, ?_⟩, ?_⟩
            · rw [zev_mbd]
              refine zev_mono (K_keep h1 jI) ?_
              rintro ⟨Q2, u⟩ ⟨s2, k2, f2⟩
              dsimp only at s2 k2 f2 ⊢
              obtain ⟨rB, rR, rK, rA, rC, rJ, rO, rG, rM, rL, rP, rN, rT, rW, rX, rF, rS⟩ := h1
              have b2 := rB.fr f2 (by decide)
              have r2 := rR.fr f2 (by decide)
              simp only [zev_b1, zev_mbd, zev_some, zev_b0, zev_bo, true_and, and_true, mev_si (show 60 * i + j < 2 ^ 31 by omega), mev_si hn1, mln_2, mln_3, mln_4, mln_5, mln_6, mln_7, mln_8, mln_9, mln_10, mln_11, mln_12, mln_13, mln_15, mln_16, mln_17, mln_24, mln_25, mln_26, mln_27, mln_28, mln_29, mln_30, mln_31, mln_32, mln_34, mln_35, mln_37, mln_42, mln_49, mln_50, mln_51, mln_52, mln_53, mln_54, mln_55, mln_56, mln_57, mln_58, mln_59, mln_61, mln_62, mln_63, mln_65, mln_66, mln_68, mln_70, mln_71, mln_72, mln_73, mln_74, show n < 1000 by omega, show 60 * i + j < 1200 by omega]
              have f3 : qfr Q2 (qi (qi Q2 13 (60 * i + j) (nI n)) 5 n (nI (1 + 100 * i + j))) [5, 13] := (qfr.qi (by decide)).tr0 (qfr.qi (by decide))
              have f3a : qfr Q2 (qi Q2 13 (60 * i + j) (nI n)) [13] := qfr.qi (by decide)
              have b3 := (b2.fr f3a (by decide)).w5 (n := n) (v := nI (1 + 100 * i + j))
              have r3 := (r2.put (v := nI n) hi hro hjl).fr (Q' := qi (qi Q2 13 (60 * i + j) (nI n)) 5 n (nI (1 + 100 * i + j))) (W := [5]) (qfr.qi (by decide)) (by decide)
              generalize qi (qi Q2 13 (60 * i + j) (nI n)) 5 n (nI (1 + 100 * i + j)) = Q3 at f3 b3 r3 ⊢
              have F : qfr Q1 Q3 [5, 13, 43, 44, 45, 46, 47, 48, 49, 50, 51, 52, 53, 54, 55, 56, 57, 58, 59] := (f2.mono (by decide)).tr0 (f3.mono (by decide))
              refine ⟨rfl, kc, ⟨b3, r3, rK.fr F (by decide), rA.fr F (by decide), ⟨rC.1, fun b' hb' q hq => rC.2 b' hb' q (by revert hq; unfold bup; split <;> (rename_i e; first | (subst e; exact id) | exact id))⟩, rJ.fr F (by decide) (by decide), rO.fr F (by decide) (by decide), (by rw [F.i 0 (by decide)]; exact rG), (by rw [F.i 18 (by decide)]; exact rM), rL.fr F (by decide), rP.fr F (by decide), rN.fr F (by decide), (by rw [F.i 38 (by decide)]; exact rT), (by rw [F.i 40 (by decide)]; exact rW), rX.fr F (by decide), (by rw [f3.i 43 (by decide)]; exact k2), fun _ => (s2.fr f3 (by decide)).ceq (U_put hN hi hj31 hro hw) rfl (nI_clamp (n := jr.length) (by omega)) (nI_clamp (n := bo.length) (by omega))⟩, ?_⟩
              dsimp only
              rw [F.i 39 (by decide), q39, cwy_pos (i64_nn (by rw [nI_toInt hn1]; omega))]
            · obtain ⟨-, -, -, j1, j2, j3, -, -⟩ := hJ'
              have R' : Ira nb (bup bs n (bplc (bkeep (bs n)) (nI (1 + 100 * i + j)))) := fun b' hb' m hm => jR b' hb' m (by revert hm; unfold bup; split <;> (rename_i e; first | (subst e; exact id) | exact id))
              have nmem : ∀ b, b < nb → n ∉ bms (bs b) := fun b hb hm => by
                have h2 := ((jI.2.1 b hb).2.2.2.2.2.2.2 n hm).2.2
                rw [c2, c10000 (by omega)] at h2
                exact absurd h2.symm (nI_ne0 (by omega) (by omega))
              have W' : Irw nb (bup bs n (bplc (bkeep (bs n)) (nI (1 + 100 * i + j)))) (rup ro i (some (kd, pl.set j (nI n)))) := by
                have keepc : ∀ r k ps, r < 20 → ro r = some (k, ps) → ∀ (p : Nat) (v : Int32), ps[p]? = some v → p < 60 ∧ (v = -1 ∨ ∃ b, b < nb ∧ v = nI b ∧ (bup bs n (bplc (bkeep (bs n)) (nI (1 + 100 * i + j))) b).2.1.2.1 = nI (1 + 100 * r + p)) := by
                  intro r k ps hr hro p v hv
                  obtain ⟨z0, z⟩ := jI.2.2.1 r k ps hr hro p v hv
                  refine ⟨z0, ?_⟩
                  rcases z with z | ⟨b, hb, z1, z2⟩
                  · exact Or.inl z
                  · have e1 : b ≠ n := fun e => by
                      rw [e, c2] at z2
                      exact absurd z2.symm (nI_ne0 (by omega) (by omega))
                    exact Or.inr ⟨b, hb, z1, by rw [bup_ne _ _ e1]; exact z2⟩
                intro r k ps hr hro2 p v hv
                unfold rup at hro2
                by_cases e : r = i
                · rw [if_pos e] at hro2
                  cases hro2
                  by_cases ep : p = j
                  · subst ep
                    rw [List.getElem?_set_self hjl] at hv
                    cases hv
                    exact ⟨hj60, Or.inr ⟨n, hn, rfl, by rw [bup_self, e]; rfl⟩⟩
                  · rw [List.getElem?_set_ne (Ne.symm ep)] at hv
                    rw [e]
                    exact keepc i kd pl hi hro p v hv
                · rw [if_neg e] at hro2
                  exact keepc r k ps hr hro2 p v hv
              refine ⟨jI.plc hn nmem W', R', jP, j1, j2, j3, Or.inr rfl, fun _ => ⟨⟨⟨nb, Nat.le_refl _, rfl⟩, ⟨_, by omega, rfl⟩, ⟨_, by omega, rfl⟩, Or.inr ⟨i, hi, rfl, Or.inr ⟨j, kd, pl.set j (nI n), by unfold rup; rw [if_pos rfl], by rw [List.length_set]; exact hjl, rfl⟩⟩, Or.inl rfl, fun c' hc' => by rw [List.mem_singleton] at hc'; omega⟩, by rw [show (fu (fu (fu (bfB bf nb mo jr.length bo.length) 5 (nI i)) 6 (nI j)) 7 (-1)) 3 = bfB bf nb mo jr.length bo.length 3 from rfl, bfB_3 (by omega)]; exact Nat.le_refl _, by rw [show (fu (fu (fu (bfB bf nb mo jr.length bo.length) 5 (nI i)) 6 (nI j)) 7 (-1)) 4 = bfB bf nb mo jr.length bo.length 4 from rfl, bfB_4 (by omega)]; exact Nat.le_refl _, jI.cong (U_put hN hi hj31 hro hw), by rw [fu_1, bfB_1 (by omega)]; exact Ira_sres R'⟩⟩
        · have hwn : ¬ w < 0 := by
            rcases hcw with z | ⟨b', hb', z1, -⟩
            · exact absurd z c4
            · rw [z1]; exact nI_pos (by omega)
          rw [if_neg c4, if_neg hwn]
          exact ⟨⟨show n < 1000 by omega, show 60 * i + j < 1200 by omega, P_no h1 8 rfl (by decide) (by decide) rfl⟩, hJ'⟩
      · rw [if_neg c3]
        obtain ⟨p1, p2⟩ := P_rs (a := (-(rpl ro r p)).toInt64) h1 (by rcases rpl_n c3 with e | e <;> simp only [e] <;> decide) rfl
        rw [if_neg p1]
        exact ⟨⟨show n < 1000 by omega, p2⟩, hJ'⟩
    · rw [if_neg c2, if_neg c2]
      exact ⟨⟨show n < 1000 by omega, P_no h1 9 rfl (by decide) (by decide) rfl⟩, hJ'⟩
  · rw [if_neg c1]
    obtain ⟨p1, p2⟩ := P_lk (a := (-(lk nb b)).toInt64) h1 c1 rfl
    rw [if_neg p1]
    exact ⟨p2, hJ'⟩
theorem N_lift {c : Cs} {Q : Mq} {kc : List Int32} {t : Nat} (hJ : Jc t c) (ht : t ≤ 600) (h : R0 c Q kc) (r p : Int32) : zev (mf_lift Q r p) (Post (sLift r p (sOpen c))) ∧ Jc (t + 1) (sLift r p (sOpen c)).2 := by
  obtain ⟨nb, bs, ro, lb, ps, ac, jr, bo, mo, gi, tr, tp, wy, wh, tc, st, ds, dw, bf, ba, bc⟩ := c
  have hJ' := (hJ.mono (Nat.le_succ t)).opn
  obtain ⟨jI, jR, jP, jJ, jB, jG, jF, jU⟩ := hJ
  have hN := jI.1
  have h1 := h.opn
  have q39 : (qi (qi (qi Q 38 0 (Q.1 38 0 + 1)) 41 0 0) 39 0 0).1 39 0 = 0 := rfl
  unfold mf_lift sLift sOpen
  rw [zev_mbd, zev_eq m_begin]
  dsimp only
  generalize qi (qi (qi Q 38 0 (Q.1 38 0 + 1)) 41 0 0) 39 0 0 = Q1 at h1 q39 ⊢
  have hR : mRs Q1 11 12 13 ro := by obtain ⟨rB, rR, rK, rA, rC, rJ, rO, rG, rM, rL, rP, rN, rT, rW, rX, rF, rS⟩ := h1; exact rR
  rw [zev_mbd, zev_eq (m_readPlace hR r p)]
  dsimp only
  by_cases c3 : rpl ro r p = 0
  · rw [if_pos c3, c3, if_pos (show (0 : Int32) ≤ 0 by decide)]
    obtain ⟨i, j, kd, pl, rfl, hi, rfl, hro, hj31, hjl0⟩ := rpl_0 c3
    obtain ⟨a1, a2, a3, a4⟩ := hR.at hi hro
    have hjl : j < pl.length := (nI_ltI hj31 (by omega)).mp hjl0
    obtain ⟨w, hw⟩ := getElem?_lt hjl
    have hi31 : i < 2 ^ 31 := by omega
    have hcell : rcell ro (nI i) (nI j) = w := by unfold rcell; rw [nI_clamp hi31, hro]; dsimp only; rw [nI_clamp hj31, hw]; rfl
    have hput : rput ro (nI i) (nI j) (-1) = rup ro i (some (kd, pl.set j (-1))) := by unfold rput; rw [nI_clamp hi31, hro]; dsimp only; rw [nI_clamp hj31]
    have hv : Q1.1 13 (60 * i + j) = w := by rw [a4 j (by omega), hw]; rfl
    obtain ⟨hj60, hcw⟩ := jI.2.2.1 i kd pl hi hro j w hw
    have hidx : (60 : Int32) * nI i + nI j = nI (60 * i + j) := by rw [nI_x60, nI_add]
    rw [hcell, hput, hidx, zev_b1, mev_ai (show 60 * i + j < 2 ^ 31 by omega), hv]
    rcases hcw with c4 | ⟨n, hn, c4, hpn⟩
    · have hf : fnd nb w = none := by unfold fnd; rw [c4, if_pos (by decide)]
      rw [hf, if_neg (show ¬ 0 ≤ w from by rw [c4]; decide)]
      exact ⟨⟨show 60 * i + j < 1200 by omega, P_no h1 2 rfl (by decide) (by decide) rfl⟩, hJ'⟩
    · subst c4
      have hn1 : n < 2 ^ 31 := by omega
      have hf : fnd nb (nI n) = some n := by unfold fnd; rw [if_neg (nI_pos hn1), if_pos (nI_lt hn (by omega)), nI_clamp hn1]
      rw [hf, if_pos (nI_pos' hn1)]
      dsimp only
      refine ⟨⟨show 60 * i + j < 1200 by omega, ?_⟩, ?_⟩
      · rw [zev_mbd]
        refine zev_mono (K_keep h1 jI) ?_
        rintro ⟨Q2, u⟩ ⟨s2, k2, f2⟩
        dsimp only at s2 k2 f2 ⊢
        obtain ⟨rB, rR, rK, rA, rC, rJ, rO, rG, rM, rL, rP, rN, rT, rW, rX, rF, rS⟩ := h1
        have b2 := rB.fr f2 (by decide)
        have r2 := rR.fr f2 (by decide)
        simp only [zev_b1, zev_mbd, zev_some, zev_b0, zev_bo, true_and, and_true, mev_si (show 60 * i + j < 2 ^ 31 by omega), mev_si hn1, mln_2, mln_3, mln_4, mln_5, mln_6, mln_7, mln_8, mln_9, mln_10, mln_11, mln_12, mln_13, mln_15, mln_16, mln_17, mln_24, mln_25, mln_26, mln_27, mln_28, mln_29, mln_30, mln_31, mln_32, mln_34, mln_35, mln_37, mln_42, mln_49, mln_50, mln_51, mln_52, mln_53, mln_54, mln_55, mln_56, mln_57, mln_58, mln_59, mln_61, mln_62, mln_63, mln_65, mln_66, mln_68, mln_70, mln_71, mln_72, mln_73, mln_74, show n < 1000 by omega, show 60 * i + j < 1200 by omega]
        have f3 : qfr Q2 (qi (qi Q2 13 (60 * i + j) (-1)) 5 n 0) [5, 13] := (qfr.qi (by decide)).tr0 (qfr.qi (by decide))
        have f3a : qfr Q2 (qi Q2 13 (60 * i + j) (-1)) [13] := qfr.qi (by decide)
        have b3 := (b2.fr f3a (by decide)).w5 (n := n) (v := 0)
        have r3 := (r2.put (v := -1) hi hro hjl).fr (Q' := qi (qi Q2 13 (60 * i + j) (-1)) 5 n 0) (W := [5]) (qfr.qi (by decide)) (by decide)
        generalize qi (qi Q2 13 (60 * i + j) (-1)) 5 n 0 = Q3 at f3 b3 r3 ⊢
        have F : qfr Q1 Q3 [5, 13, 43, 44, 45, 46, 47, 48, 49, 50, 51, 52, 53, 54, 55, 56, 57, 58, 59] := (f2.mono (by decide)).tr0 (f3.mono (by decide))
        refine ⟨rfl, kc, ⟨b3, r3, rK.fr F (by decide), rA.fr F (by decide), ⟨rC.1, fun b' hb' q hq => rC.2 b' hb' q (by revert hq; unfold bup; split <;> (rename_i e; first | (subst e; exact id) | exact id))⟩, rJ.fr F (by decide) (by decide), rO.fr F (by decide) (by decide), (by rw [F.i 0 (by decide)]; exact rG), (by rw [F.i 18 (by decide)]; exact rM), rL.fr F (by decide), rP.fr F (by decide), rN.fr F (by decide), (by rw [F.i 38 (by decide)]; exact rT), (by rw [F.i 40 (by decide)]; exact rW), rX.fr F (by decide), (by rw [f3.i 43 (by decide)]; exact k2), fun _ => (s2.fr f3 (by decide)).ceq (U_put hN hi hj31 hro hw) rfl (nI_clamp (n := jr.length) (by omega)) (nI_clamp (n := bo.length) (by omega))⟩, ?_⟩
        dsimp only
        rw [F.i 39 (by decide), q39, cwy_pos (i64_nn (by rw [nI_toInt hn1]; omega))]
      · obtain ⟨-, -, -, j1, j2, j3, -, -⟩ := hJ'
        have R' : Ira nb (bup bs n (bplc (bkeep (bs n)) 0)) := fun b' hb' m hm => jR b' hb' m (by revert hm; unfold bup; split <;> (rename_i e; first | (subst e; exact id) | exact id))
        have nmem : ∀ b, b < nb → n ∉ bms (bs b) := fun b hb hm => by
          have h2 := ((jI.2.1 b hb).2.2.2.2.2.2.2 n hm).2.2
          rw [hpn, c10000 (by omega)] at h2
          have := (nI_eq (by omega) (by omega)).mp h2
          omega
        have W' : Irw nb (bup bs n (bplc (bkeep (bs n)) 0)) (rup ro i (some (kd, pl.set j (-1)))) := by
          have keepc : ∀ r k ps, r < 20 → ro r = some (k, ps) → ∀ (p : Nat) (v : Int32), ps[p]? = some v → ¬ (r = i ∧ p = j) → p < 60 ∧ (v = -1 ∨ ∃ b, b < nb ∧ v = nI b ∧ (bup bs n (bplc (bkeep (bs n)) 0) b).2.1.2.1 = nI (1 + 100 * r + p)) := by
            intro r k ps hr hro p v hv hne
            obtain ⟨z0, z⟩ := jI.2.2.1 r k ps hr hro p v hv
            refine ⟨z0, ?_⟩
            rcases z with z | ⟨b, hb, z1, z2⟩
            · exact Or.inl z
            · have e1 : b ≠ n := fun e => by
                rw [e, hpn] at z2
                have := (nI_eq (by omega) (by omega)).mp z2
                omega
              exact Or.inr ⟨b, hb, z1, by rw [bup_ne _ _ e1]; exact z2⟩
          intro r k ps hr hro2 p v hv
          unfold rup at hro2
          by_cases e : r = i
          · rw [if_pos e] at hro2
            cases hro2
            by_cases ep : p = j
            · subst ep
              rw [List.getElem?_set_self hjl] at hv
              cases hv
              exact ⟨hj60, Or.inl rfl⟩
            · rw [List.getElem?_set_ne (Ne.symm ep)] at hv
              rw [e]
              exact keepc i kd pl hi hro p v hv (fun z => ep z.2)
          · rw [if_neg e] at hro2
            exact keepc r k ps hr hro2 p v hv (fun z => e z.1)
        refine ⟨jI.plc hn nmem W', R', jP, j1, j2, j3, Or.inr rfl, fun _ => ⟨⟨⟨nb, Nat.le_refl _, rfl⟩, ⟨_, by omega, rfl⟩, ⟨_, by omega, rfl⟩, Or.inr ⟨i, hi, rfl, Or.inr ⟨j, kd, pl.set j (-1), by unfold rup; rw [if_pos rfl], by rw [List.length_set]; exact hjl, rfl⟩⟩, Or.inl rfl, fun c' hc' => by rw [List.mem_singleton] at hc'; omega⟩, by rw [show (fu (fu (fu (bfB bf nb mo jr.length bo.length) 5 (nI i)) 6 (nI j)) 7 (nI n)) 3 = bfB bf nb mo jr.length bo.length 3 from rfl, bfB_3 (by omega)]; exact Nat.le_refl _, by rw [show (fu (fu (fu (bfB bf nb mo jr.length bo.length) 5 (nI i)) 6 (nI j)) 7 (nI n)) 4 = bfB bf nb mo jr.length bo.length 4 from rfl, bfB_4 (by omega)]; exact Nat.le_refl _, jI.cong (U_put hN hi hj31 hro hw), by rw [fu_1, bfB_1 (by omega)]; exact Ira_sres R'⟩⟩
  · rw [if_neg c3]
    obtain ⟨p1, p2⟩ := P_rs (a := (-(rpl ro r p)).toInt64) h1 (by rcases rpl_n c3 with e | e <;> simp only [e] <;> decide) rfl
    rw [if_neg p1]
    exact ⟨p2, hJ'⟩
