/-! The reference's acts: barrel. -/
def sBarrel (kd sz ct : Int32) (c : Cs) : Int64 × Cs := match c with
  | (nb, bs, ro, lb, ps, ac, jr, bo, mo, gi, tr, tp, wy, wh, tc, st, ds, dw, bf, ba, bc) => if kd < 1 then (-1, (nb, bs, ro, lb, ps, ac, jr, bo, mo, gi, tr, tp, wy, wh, tc, st, ds, dw, bf, ba, bc)) else if 5 < kd then (-1, (nb, bs, ro, lb, ps, ac, jr, bo, mo, gi, tr, tp, wy, wh, tc, st, ds, dw, bf, ba, bc)) else if iscents ct then (if kd = 5 ∨ (¬ sz < 1 ∧ ¬ 1000000000 < sz) then (if nb < 1000 then ((nI nb).toInt64, (nb + 1, bup bs nb (bnew kd (if kd = 5 then 0 else sz) ct), ro, lb, ps, ac, jr, bo, mo, gi, tr, tp, wy, wh, tc, st, ds.map (fun q => (q.1 + 2000, q.2)), dw, bfB bf nb mo jr.length bo.length, ba, [])) else (-12, (nb, bs, ro, lb, ps, ac, jr, bo, mo, gi, tr, tp, wy, wh, tc, st, ds, dw, bf, ba, bc))) else (-1, (nb, bs, ro, lb, ps, ac, jr, bo, mo, gi, tr, tp, wy, wh, tc, st, ds, dw, bf, ba, bc))) else (-1, (nb, bs, ro, lb, ps, ac, jr, bo, mo, gi, tr, tp, wy, wh, tc, st, ds, dw, bf, ba, bc))
theorem V_barrel {nb : Nat} {bs : Nat → Bv} {ro : Nat → Rw} {ac : Nat → Wn} {kd sz ct : Int32} (h : Ic nb bs ro ac) (hn : nb < 1000) (hk : kd = 1 ∨ kd = 2 ∨ kd = 3 ∨ kd = 4 ∨ kd = 5) (hs : kd ≠ 5 → 1 ≤ sz.toInt ∧ sz.toInt ≤ 1000000000) (hc : 0 ≤ ct.toInt ∧ ct.toInt ≤ 1000000) : Ic (nb + 1) (bup bs nb (bnew kd sz ct)) ro ac := by
  obtain ⟨i1, i2, i3, i4⟩ := h
  refine ⟨by omega, fun b hb => ?_, fun r k ps hr hro p v hv => ?_, i4⟩
  · by_cases e : b = nb
    · subst e
      unfold Ib
      rw [bup_self]
      have hW : Iw (kd, sz) [] := by
        refine ⟨trivial, (fun q hq => absurd hq List.not_mem_nil), Nat.zero_le _, (fun q hq => absurd hq List.not_mem_nil), fun h5 => ?_, fun _ => rfl⟩
        obtain ⟨x, x1, x2⟩ := vt_N (x := (kd, sz)) h5 (hs h5)
        show (0 : Int) ≤ (vt (kd, sz)).toInt
        rw [x2, pk_lT (by omega)]
        omega
      exact ⟨hk, hs, hc, hW, fun _ => rfl, ⟨rfl, Nat.zero_le _⟩, List.nodup_nil, fun m hm => absurd hm List.not_mem_nil⟩
    · have hb' : b < nb := by omega
      obtain ⟨a1, a2, a3, a4, a5, a6, a7, a8⟩ := i2 b hb'
      unfold Ib
      rw [bup_ne _ _ e]
      refine ⟨a1, a2, a3, a4, a5, a6, a7, fun m hm => ?_⟩
      obtain ⟨b1, b2, b3⟩ := a8 m hm
      rw [bup_ne _ _ (show m ≠ nb by omega)]
      exact ⟨by omega, b2, b3⟩
  · obtain ⟨p1, p2⟩ := i3 r k ps hr hro p v hv
    refine ⟨p1, p2.imp id ?_⟩
    rintro ⟨b, b1, b2, b3⟩
    exact ⟨b, by omega, b2, by rw [bup_ne _ _ (show b ≠ nb by omega)]; exact b3⟩
theorem U_barrel {nb : Nat} {bs : Nat → Bv} {ro : Nat → Rw} {ac : Nat → Wn} {bf : Nat → Int32} {mo : Int32} {jl bl : Nat} {ba : Wn} {X : Bv} (hn : nb ≤ 1000) : Ceq nb bs ro ac (bfB bf nb mo jl bl 1).toNatClampNeg (sres (bup bs nb X) []) (sresR ro (bfB bf nb mo jl bl)) (sresA ac (bfB bf nb mo jl bl) ba) := by
  refine ⟨bfB_1 (by omega), fun b hb => ?_, fun _ _ => rfl, fun _ _ => rfl⟩
  refine sres_ok (fun z => by cases z) (fun _ => ?_)
  rw [bup_ne _ _ (show b ≠ nb by omega)]
  exact ⟨rfl, rfl, rfl⟩
theorem m_new {Q : Mq} {nb : Nat} {bs : Nat → Bv} {kd sz ct : Int32} (h : mBs Q nb bs) (hn : nb < 1000) : zev (zb1 (some (qi Q 1 0 (Q.1 1 0 + 1))) (fun Q12 => zb1 (mo_si Q12 2 (Q.1 1 0) kd) (fun Q15 => mf_barrel_J121 Q15 ct (Q.1 1 0) sz (Q.1 1 0) 3))) (fun y => y.2 = (nI nb).toInt64 ∧ mBs y.1 (nb + 1) (bup bs nb (bnew kd sz ct)) ∧ qfr Q y.1 [1, 2, 3, 4, 5, 6, 8]) := by
  have e1 := h.1
  have n31 : nb < 2 ^ 31 := by omega
  unfold mf_barrel_J121
  rw [e1]
  simp only [zev_b1, zev_mbd, zev_some, zev_b0, zev_bo, true_and, and_true, mev_si n31, mln_2, mln_3, mln_4, mln_5, mln_6, mln_7, mln_8, mln_9, mln_10, mln_11, mln_12, mln_13, mln_15, mln_16, mln_17, mln_24, mln_25, mln_26, mln_27, mln_28, mln_29, mln_30, mln_31, mln_32, mln_34, mln_35, mln_37, mln_42, mln_49, mln_50, mln_51, mln_52, mln_53, mln_54, mln_55, mln_56, mln_57, mln_58, mln_59, mln_61, mln_62, mln_63, mln_65, mln_66, mln_68, mln_70, mln_71, mln_72, mln_73, mln_74, hn, nI_1]
  have F : qfr Q (qi (qi (qi (qi (qi (qi (qi Q 1 0 (nI (nb + 1))) 2 nb kd) 3 nb sz) 4 nb ct) 5 nb 0) 6 nb 0) 8 nb 0) [1, 2, 3, 4, 5, 6, 8] := ((((((qfr.qi (by decide)).tr0 (qfr.qi (by decide))).tr0 (qfr.qi (by decide))).tr0 (qfr.qi (by decide))).tr0 (qfr.qi (by decide))).tr0 (qfr.qi (by decide))).tr0 (qfr.qi (by decide))
  refine ⟨⟨by simp [qi_1], fun b hb => ?_⟩, F⟩
  by_cases e : b = nb
  · subst e
    rw [bup_self]
    refine ⟨by simp [qi_1, bnew], by simp [qi_1, bnew], by simp [qi_1, bnew], by simp [qi_1, bnew], by simp [qi_1, bnew]; rfl, by simp [qi_1, bnew]; rfl, fun k m hm => by simp [bms, bnew] at hm, fun i q hq => by simp [bnew] at hq⟩
  · rw [bup_ne _ _ e]
    obtain ⟨p1, p2, p3, p4, p5, p6, p7, p8⟩ := h.2 b (by omega)
    refine ⟨by simp [qi_1, e, p1], by simp [qi_1, e, p2], by simp [qi_1, e, p3], by simp [qi_1, e, p4], by simp [qi_1, e, p5], by simp [qi_1, e, p6], fun k m hm => ?_, fun i q hq => ?_⟩
    · rw [F.i 7 (by decide)]; exact p7 k m hm
    · rw [F.i 9 (by decide), F.j 10 (by decide)]; exact p8 i q hq
theorem N_barrel47 {nb : Nat} {bs : Nat → Bv} {ro : Nat → Rw} {lb : List Lb} {ps : List (Nat × Int64)} {ac : Nat → Wn} {jr bo : List Ln} {mo : Int32} {gi : Int64} {tr tp wy wh : Int32} {tc : List Int32} {st : List Int64} {ds : List (Nat × Int64)} {dw : Wn} {bf : Nat → Int32} {ba : Wn} {bc : List Nat} {Q1 : Mq} {kc : List Int32} {t : Nat} (hJ : Jc t (nb, bs, ro, lb, ps, ac, jr, bo, mo, gi, tr, tp, wy, wh, tc, st, ds, dw, bf, ba, bc)) (ht : t ≤ 600) (h1 : R0 (nb, bs, ro, lb, ps, ac, jr, bo, mo, gi, tr, tp, wy, wh, tc, st, ds, dw, bf, ba, bc) Q1 kc) (q39 : Q1.1 39 0 = 0) (kd sz ct : Int32) (hk : kd = 1 ∨ kd = 2 ∨ kd = 3 ∨ kd = 4 ∨ kd = 5) (hs : kd ≠ 5 → 1 ≤ sz.toInt ∧ sz.toInt ≤ 1000000000) (hc : 0 ≤ ct.toInt ∧ ct.toInt ≤ 1000000) : zev (mf_barrel_J47 Q1 kd sz ct 1) (Post (if nb < 1000 then ((nI nb).toInt64, (nb + 1, bup bs nb (bnew kd (if kd = 5 then 0 else sz) ct), ro, lb, ps, ac, jr, bo, mo, gi, tr, tp, wy, wh, tc, st, ds.map (fun q => (q.1 + 2000, q.2)), dw, bfB bf nb mo jr.length bo.length, ba, [])) else (-12, (nb, bs, ro, lb, ps, ac, jr, bo, mo, gi, tr, tp, wy, wh, tc, st, ds, dw, bf, ba, bc)))) ∧ Jc t (if nb < 1000 then ((nI nb).toInt64, (nb + 1, bup bs nb (bnew kd (if kd = 5 then 0 else sz) ct), ro, lb, ps, ac, jr, bo, mo, gi, tr, tp, wy, wh, tc, st, ds.map (fun q => (q.1 + 2000, q.2)), dw, bfB bf nb mo jr.length bo.length, ba, [])) else (-12, (nb, bs, ro, lb, ps, ac, jr, bo, mo, gi, tr, tp, wy, wh, tc, st, ds, dw, bf, ba, bc))).2 := by
  have hJs := hJ
  obtain ⟨jI, jR, jP, jJ, jB, jG, jF, jU⟩ := hJ
  have hN := jI.1
  unfold mf_barrel_J47
  rw [if_neg z10, h1.1.1]
  by_cases c1 : nb < 1000
  · rw [if_neg (fun z => by have := (nI_eq (show nb < 2 ^ 31 by omega) (show 1000 < 2 ^ 31 by decide)).mp z; omega), if_pos c1]
    generalize hz : (if kd = 5 then (0 : Int32) else sz) = sz'
    have hs' : kd ≠ 5 → 1 ≤ sz'.toInt ∧ sz'.toInt ≤ 1000000000 := fun z => by rw [← hz, if_neg z]; exact hs z
    refine ⟨?_, ?_⟩
    · rw [zev_mbd]
      refine zev_mono (K_keep h1 jI) ?_
      rintro ⟨Q2, u⟩ ⟨s2, k2, f2⟩
      dsimp only at s2 k2 f2 ⊢
      obtain ⟨rB, rR, rK, rA, rC, rJ, rO, rG, rM, rL, rP, rN, rT, rW, rX, rF, rS⟩ := h1
      have b2 := rB.fr f2 (by decide)
      have hif : ∀ (Q12 : Mq), zb1 (mo_si Q12 2 (Q2.1 1 0) kd) (fun Q15 => if kd = 5 then mf_barrel_J121 Q15 ct (Q2.1 1 0) 0 (Q2.1 1 0) 3 else mf_barrel_J121 Q15 ct (Q2.1 1 0) sz (Q2.1 1 0) 3) = zb1 (mo_si Q12 2 (Q2.1 1 0) kd) (fun Q15 => mf_barrel_J121 Q15 ct (Q2.1 1 0) sz' (Q2.1 1 0) 3) := fun Q12 => by
        congr 1
        funext Q15
        rw [← hz]
        split <;> rfl
      simp only [hif]
      refine zev_mono (m_new (kd := kd) (sz := sz') (ct := ct) b2 c1) ?_
      rintro ⟨Q3, u3⟩ ⟨e3, b3, f3⟩
      dsimp only at e3 b3 f3
      have F : qfr Q1 Q3 [1, 2, 3, 4, 5, 6, 8, 43, 44, 45, 46, 47, 48, 49, 50, 51, 52, 53, 54, 55, 56, 57, 58, 59] := (f2.mono (by decide)).tr0 (f3.mono (by decide))
      refine ⟨e3, kc, ?_, ?_⟩
      · exact ⟨b3, rR.fr F (by decide), rK.fr F (by decide), rA.fr F (by decide), ⟨rC.1, fun b' hb' q hq => by
          by_cases e : b' = nb
          · rw [e, bup_self] at hq; cases hq
          · rw [bup_ne _ _ e] at hq; exact rC.2 b' (by omega) q hq⟩, rJ.fr F (by decide) (by decide), rO.fr F (by decide) (by decide), (by rw [F.i 0 (by decide)]; exact rG), (by rw [F.i 18 (by decide)]; exact rM), rL.fr F (by decide), rP.fr F (by decide), rN.fr F (by decide), (by rw [F.i 38 (by decide)]; exact rT), (by rw [F.i 40 (by decide)]; exact rW), rX.fr F (by decide), (by rw [f3.i 43 (by decide)]; exact k2), fun _ => (s2.fr f3 (by decide)).ceq (U_barrel hN) rfl (bfB_3 (by omega)) (bfB_4 (by omega))⟩
      · show Q3.1 39 0 = cwy (nI nb).toInt64
        rw [F.i 39 (by decide), q39, cwy_pos (i64_nn (by rw [nI_toInt (by omega)]; omega))]
    · have jI' := V_barrel jI c1 hk hs' hc
      have R' : Ira (nb + 1) (bup bs nb (bnew kd sz' ct)) := fun b' hb' m hm => by
        by_cases e : b' = nb
        · rw [e, bup_self] at hm; cases hm
        · rw [bup_ne _ _ e] at hm
          have := jR b' (by omega) m hm
          omega
      have R2 : Ira nb (sres (bup bs nb (bnew kd sz' ct)) []) := fun b' hb' m hm => by
        have : sres (bup bs nb (bnew kd sz' ct)) [] b' = bs b' := by
          unfold sres
          rw [if_neg (by simp), bup_ne _ _ (show b' ≠ nb by omega)]
        rw [this] at hm
        exact jR b' hb' m hm
      obtain ⟨⟨n0, u1, u2⟩, u3, u4, u5, u6, -⟩ := UokB (nb := nb) (ro := ro) (bf := bf) (mo := mo) (jl := jr.length) (bl := bo.length) (bc := []) (by omega) (by omega) (fun c hc => by cases hc)
      exact ⟨jI', R', ⟨fun q hq => ⟨by have := (jP.1 q hq).1; omega, (jP.1 q hq).2⟩, jP.2⟩, jJ, jB, jG, Or.inr rfl, fun _ => ⟨⟨⟨n0, by omega, u2⟩, u3, u4, u5, u6, fun c hc => by cases hc⟩, by rw [bfB_3 (by omega)]; exact Nat.le_refl _, by rw [bfB_4 (by omega)]; exact Nat.le_refl _, jI.cong (U_barrel hN), by rw [bfB_1 (by omega)]; exact R2⟩⟩
  · have e : nb = 1000 := by omega
    rw [if_pos (show nI nb = 1000 by rw [e]; rfl), if_neg c1]
    exact ⟨P_no h1 12 rfl (by decide) (by decide) rfl, hJs⟩
theorem N_barrel {c : Cs} {Q : Mq} {kc : List Int32} {t : Nat} (hJ : Jc t c) (ht : t < 600) (h : R0 c Q kc) (kd sz ct : Int32) : zev (mf_barrel Q kd sz ct) (Post (sBarrel kd sz ct (sOpen c))) ∧ Jc (t + 1) (sBarrel kd sz ct (sOpen c)).2 := by
  obtain ⟨nb, bs, ro, lb, ps, ac, jr, bo, mo, gi, tr, tp, wy, wh, tc, st, ds, dw, bf, ba, bc⟩ := c
  have hJ0 := hJ.mono (Nat.le_succ t)
  have hJ' := hJ0.opn
  have h1 := h.opn
  have q39 : (qi (qi (qi Q 38 0 (Q.1 38 0 + 1)) 41 0 0) 39 0 0).1 39 0 = 0 := rfl
  unfold mf_barrel mf_barrel_J46 mf_barrel_J31 mf_barrel_J46 sBarrel sOpen
  rw [zev_mbd, zev_eq m_begin]
  dsimp only
  generalize qi (qi (qi Q 38 0 (Q.1 38 0 + 1)) 41 0 0) 39 0 0 = Q1 at h1 q39 ⊢
  have no : zev (mf_barrel_J47 Q1 kd sz ct 0) (Post (-1, sOpen (nb, bs, ro, lb, ps, ac, jr, bo, mo, gi, tr, tp, wy, wh, tc, st, ds, dw, bf, ba, bc))) ∧ Jc (t + 1) (sOpen (nb, bs, ro, lb, ps, ac, jr, bo, mo, gi, tr, tp, wy, wh, tc, st, ds, dw, bf, ba, bc)) := by
    unfold mf_barrel_J47
    rw [if_pos rfl]
    exact ⟨P_no h1 1 rfl (by decide) (by decide) rfl, hJ'⟩
  by_cases c1 : kd < 1
  · rw [if_pos c1, if_pos c1]; exact no
  rw [if_neg c1, if_neg c1]
  by_cases c2 : 5 < kd
  · rw [if_pos c2, if_pos c2]; exact no
  rw [if_neg c2, if_neg c2]
  have i0 : (0 : Int32).toInt = 0 := rfl
  have i1 : (1 : Int32).toInt = 1 := rfl
  have i5 : (5 : Int32).toInt = 5 := rfl
  have i6 : (1000000 : Int32).toInt = 1000000 := rfl
  have i9 : (1000000000 : Int32).toInt = 1000000000 := rfl
  have hk : kd = 1 ∨ kd = 2 ∨ kd = 3 ∨ kd = 4 ∨ kd = 5 := by
    rw [i32_lt] at c1 c2
    have : kd.toInt = 1 ∨ kd.toInt = 2 ∨ kd.toInt = 3 ∨ kd.toInt = 4 ∨ kd.toInt = 5 := by omega
    rcases this with e | e | e | e | e
    · exact Or.inl (Int32.toInt_inj.mp e)
    · exact Or.inr (Or.inl (Int32.toInt_inj.mp e))
    · exact Or.inr (Or.inr (Or.inl (Int32.toInt_inj.mp e)))
    · exact Or.inr (Or.inr (Or.inr (Or.inl (Int32.toInt_inj.mp e))))
    · exact Or.inr (Or.inr (Or.inr (Or.inr (Int32.toInt_inj.mp e))))
  have fin : (kd = 5 ∨ (¬ sz < 1 ∧ ¬ 1000000000 < sz)) → zev (if ct < 0 then mf_barrel_J47 Q1 kd sz ct 0 else if 1000000 < ct then mf_barrel_J47 Q1 kd sz ct 0 else mf_barrel_J47 Q1 kd sz ct 1) (Post (sBarrel kd sz ct (sOpen (nb, bs, ro, lb, ps, ac, jr, bo, mo, gi, tr, tp, wy, wh, tc, st, ds, dw, bf, ba, bc)))) ∧ Jc (t + 1) (sBarrel kd sz ct (sOpen (nb, bs, ro, lb, ps, ac, jr, bo, mo, gi, tr, tp, wy, wh, tc, st, ds, dw, bf, ba, bc))).2 := by
    intro hz
    unfold sBarrel sOpen
    dsimp only
    rw [if_neg c1, if_neg c2, if_pos hz]
    by_cases c3 : ct < 0
    · rw [if_pos c3, if_neg (fun z => z.1 c3)]; exact no
    rw [if_neg c3]
    by_cases c4 : 1000000 < ct
    · rw [if_pos c4, if_neg (fun z => z.2 c4)]; exact no
    rw [if_neg c4, if_pos (show iscents ct from ⟨c3, c4⟩)]
    refine N_barrel47 hJ' (by omega) h1 q39 kd sz ct hk (fun z => ?_) ?_
    · obtain ⟨z1, z2⟩ := hz.resolve_left z
      rw [i32_lt] at z1 z2
      omega
    · rw [i32_lt] at c3 c4
      omega
  have fno : ¬ (kd = 5 ∨ (¬ sz < 1 ∧ ¬ 1000000000 < sz)) → zev (mf_barrel_J47 Q1 kd sz ct 0) (Post (sBarrel kd sz ct (sOpen (nb, bs, ro, lb, ps, ac, jr, bo, mo, gi, tr, tp, wy, wh, tc, st, ds, dw, bf, ba, bc)))) ∧ Jc (t + 1) (sBarrel kd sz ct (sOpen (nb, bs, ro, lb, ps, ac, jr, bo, mo, gi, tr, tp, wy, wh, tc, st, ds, dw, bf, ba, bc))).2 := by
    intro hz
    unfold sBarrel sOpen
    dsimp only
    rw [if_neg c1, if_neg c2, if_neg hz, ite_self]
    exact no
  unfold sBarrel sOpen at fin fno
  dsimp only at fin fno
  rw [if_neg c1, if_neg c2] at fin fno
  by_cases c5 : kd = 5
  · rw [if_pos c5]; exact fin (Or.inl c5)
  rw [if_neg c5]
  by_cases d1 : sz < 1
  · rw [if_pos d1]; exact fno (fun z => by rcases z with z | z; exact c5 z; exact z.1 d1)
  rw [if_neg d1]
  by_cases d2 : 1000000000 < sz
  · rw [if_pos d2]; exact fno (fun z => by rcases z with z | z; exact c5 z; exact z.2 d2)
  rw [if_neg d2]
  exact fin (Or.inr ⟨d1, d2⟩)
