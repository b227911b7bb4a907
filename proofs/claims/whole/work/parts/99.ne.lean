/-! The reference: what is drawn, mixed, taken. -/
def mDr (Q : Mq) (ds : List (Nat × Int64)) : Prop := Q.1 60 0 = nI ds.length ∧ ds.length ≤ 32 ∧ ∀ i q, ds[i]? = some q → Q.1 61 i = nI q.1 ∧ Q.2 62 i = q.2
theorem mDr.fr {Q Q' : Mq} {W : List Nat} {ds : List (Nat × Int64)} (h : mDr Q ds) (f : qfr Q Q' W) (hd : ∀ x, x ∈ [60, 61, 62] → x ∉ W) : mDr Q' ds := by
  unfold mDr
  rw [f.i 60 (hd _ (by decide)), f.i 61 (hd _ (by decide)), f.j 62 (hd _ (by decide))]
  exact h
theorem m_addDraw {Q : Mq} {ds : List (Nat × Int64)} (h : mDr Q ds) (b : Nat) (x : Int64) (hl : ds.length < 32) : zev (mf_addDraw Q (nI b) x) (fun y => mDr y.1 (ds ++ [(b, x)]) ∧ qfr Q y.1 [60, 61, 62]) := by
  obtain ⟨h1, h2, h3⟩ := h
  unfold mf_addDraw
  simp only [h1, zev_b1, zev_mbd, zev_some, zev_b0, zev_bo, true_and, and_true, mev_si (show ds.length < 2 ^ 31 by omega), mev_sj (show ds.length < 2 ^ 31 by omega), mln_2, mln_3, mln_4, mln_5, mln_6, mln_7, mln_8, mln_9, mln_10, mln_11, mln_12, mln_13, mln_15, mln_16, mln_17, mln_24, mln_25, mln_26, mln_27, mln_28, mln_29, mln_30, mln_31, mln_32, mln_34, mln_35, mln_37, mln_42, mln_49, mln_50, mln_51, mln_52, mln_53, mln_54, mln_55, mln_56, mln_57, mln_58, mln_59, mln_61, mln_62, mln_63, mln_65, mln_66, mln_68, mln_70, mln_71, mln_72, mln_73, mln_74, show ds.length < 32 by omega, qi_1, qj_1, show ¬ (60 = 61) by decide, false_and, if_false]
  refine ⟨⟨?_, by rw [List.length_append]; simp; omega, fun i q hq => ?_⟩, ((qfr.qi (by decide)).tr0 (qfr.qj (by decide))).tr0 (qfr.qi (by decide))⟩
  · rw [qi_1, if_pos ⟨rfl, rfl⟩, List.length_append, nI_1]; rfl
  · rw [qi_1, if_neg (by omega), qj_1, qi_1, qi_2, qj_2, qi_2]
    by_cases hi : i < ds.length
    · rw [if_neg (by omega), if_neg (by omega)]
      rw [List.getElem?_append_left hi] at hq
      exact h3 i q hq
    · rw [List.getElem?_append_right (by omega)] at hq
      have hi2 := (List.getElem?_eq_some_iff.mp hq).1
      simp only [List.length_cons, List.length_nil] at hi2
      obtain rfl : i = ds.length := by omega
      rw [Nat.sub_self] at hq
      cases hq
      rw [if_pos ⟨rfl, rfl⟩, if_pos ⟨rfl, rfl⟩]
      exact ⟨rfl, rfl⟩
/-- drawing from a vessel or a cask; told or not -/
theorem m_drawFrom {Q : Mq} {nb b : Nat} {bs : Nat → Bv} {ds : List (Nat × Int64)} {tc : List Int32} (h : mBs Q nb bs) (hT : mTc Q tc) (hD : mDr Q ds) (hn : nb ≤ 1000) (hb : b < nb) (h6 : I60 nb bs) (hk : Ikd nb bs) (hI : Imem nb bs) (hl : (bms (bs b)).length = (bs b).2.1.2.2.1) (h4 : (bs b).2.1.2.2.1 ≤ 4) (x : Int64) (hx : ¬ x ≤ 0) (h32 : ds.length + 4 ≤ 32) (t : Int32) (ht : t = 1 ∨ t = 0) : zev (mf_drawFrom Q (nI b) x t) (fun y => mDr y.1 (ds ++ dlst bs b x) ∧ mTc y.1 (tapp 200 tc (if t = 1 then dlstT bs b x else [])) ∧ qfr Q y.1 [41, 42, 60, 61, 62]) := by
  have hb1 : b < 2 ^ 31 := by omega
  have hb2 : b < 1000 := by omega
  have tnil : tapp 200 tc [] = tc := tapp_nil hT.2.1
  unfold dlst dlstT mf_drawFrom
  simp only [zev_b1, zev_mbd, zev_some, zev_b0, zev_bo, true_and, and_true, mev_ai hb1, mln_2, mln_3, mln_4, mln_5, mln_6, mln_7, mln_8, mln_9, mln_10, mln_11, mln_12, mln_13, mln_15, mln_16, mln_17, mln_24, mln_25, mln_26, mln_27, mln_28, mln_29, mln_30, mln_31, mln_32, mln_34, mln_35, mln_37, mln_42, mln_49, mln_50, mln_51, mln_52, mln_53, mln_54, mln_55, mln_56, mln_57, mln_58, mln_59, mln_61, mln_62, mln_63, mln_65, mln_66, mln_68, mln_70, mln_71, mln_72, mln_73, mln_74, hb2, h.kd hb]
  by_cases e : (bs b).1.1 = 5
  · simp only [if_pos e]
    rw [zev_b1]
    have key := zev_lp (τ := Mq × Int64 × Int32) (f := mf_drawFrom_L23 (nI b) t) (Q := fun y => mDr y.1 (ds ++ ((bms (bs b)).foldl (dstep bs) (x, [], [])).2.1) ∧ mTc y.1 (tapp 200 tc (if t = 1 then ((bms (bs b)).foldl (dstep bs) (x, [], [])).2.2 else [])) ∧ qfr Q y.1 [41, 42, 60, 61, 62]) (x := (Q, x, 0))
      (fun n (z : Mq × Int64 × Int32) => ∃ Q2 i, z = (Q2, (((bms (bs b)).take i).foldl (dstep bs) (x, [], [])).1, nI i) ∧ i ≤ (bs b).2.1.2.2.1 ∧ n = (bs b).2.1.2.2.1 - i ∧ mDr Q2 (ds ++ (((bms (bs b)).take i).foldl (dstep bs) (x, [], [])).2.1) ∧ mTc Q2 (tapp 200 tc (if t = 1 then (((bms (bs b)).take i).foldl (dstep bs) (x, [], [])).2.2 else [])) ∧ qfr Q Q2 [41, 42, 60, 61, 62]) (n := (bs b).2.1.2.2.1) ⟨Q, 0, rfl, Nat.zero_le _, rfl, by simpa using hD, by simp only [List.take_zero, List.foldl_nil, ite_self]; rw [tnil]; exact hT, qfr.rf⟩ ?_
    · refine zev_mono key ?_
      rintro ⟨Q2, v, w⟩ hh
      exact zev_some.mpr hh
    · rintro n z ⟨Q2, i, rfl, hi, rfl, d2, t2, f2⟩
      have h2 := h.fr f2 (by decide)
      unfold mf_drawFrom_L23
      simp only [zev_b1, zev_mbd, zev_some, zev_b0, zev_bo, true_and, and_true, mev_ai hb1, mln_2, mln_3, mln_4, mln_5, mln_6, mln_7, mln_8, mln_9, mln_10, mln_11, mln_12, mln_13, mln_15, mln_16, mln_17, mln_24, mln_25, mln_26, mln_27, mln_28, mln_29, mln_30, mln_31, mln_32, mln_34, mln_35, mln_37, mln_42, mln_49, mln_50, mln_51, mln_52, mln_53, mln_54, mln_55, mln_56, mln_57, mln_58, mln_59, mln_61, mln_62, mln_63, mln_65, mln_66, mln_68, mln_70, mln_71, mln_72, mln_73, mln_74, hb2, h2.mc hb]
      by_cases hi2 : i < (bs b).2.1.2.2.1
      · obtain ⟨m, hm⟩ := getElem?_lt (l := bms (bs b)) (i := i) (by omega)
        have hmn := hI b hb m (List.mem_of_getElem? hm)
        simp only [if_neg (nI_ge hi2 (show (bs b).2.1.2.2.1 < 2 ^ 31 by omega))]
        have hds := dstep_len bs ((bms (bs b)).take i) (x, [], [])
        rw [List.length_take] at hds
        generalize hA : ((bms (bs b)).take i).foldl (dstep bs) (x, [], []) = A at d2 t2 hds ⊢
        have hA1 : ((bms (bs b)).take (i + 1)).foldl (dstep bs) (x, [], []) = dstep bs A m := by rw [take_snoc hm, List.foldl_append, hA]; rfl
        by_cases c : A.1 ≤ 0
        · simp only [if_pos c, zev_b1, zev_mbd, zev_some, zev_b0, zev_bo, true_and, and_true]
          have hfin : (bms (bs b)).foldl (dstep bs) (x, [], []) = A := by
            rw [← List.take_append_drop i (bms (bs b)), List.foldl_append, hA]
            exact dstep_stop bs _ A c
          exact Or.inr ⟨_, rfl, by dsimp only; rw [hfin]; exact ⟨d2, t2, f2⟩⟩
        · simp only [if_neg c, zev_b1, zev_mbd, zev_some, zev_b0, zev_bo, true_and, and_true, nI_x4, nI_x5, nI_x13, nI_x16, nI_x20, nI_x60, nI_x100, nI_x48r, nI_add, nI_1, mln_2, mln_3, mln_4, mln_5, mln_6, mln_7, mln_8, mln_9, mln_10, mln_11, mln_12, mln_13, mln_15, mln_16, mln_17, mln_24, mln_25, mln_26, mln_27, mln_28, mln_29, mln_30, mln_31, mln_32, mln_34, mln_35, mln_37, mln_42, mln_49, mln_50, mln_51, mln_52, mln_53, mln_54, mln_55, mln_56, mln_57, mln_58, mln_59, mln_61, mln_62, mln_63, mln_65, mln_66, mln_68, mln_70, mln_71, mln_72, mln_73, mln_74, mev_ai (show 4 * b + i < 2 ^ 31 by omega), show 4 * b + i < 4000 by omega, h2.me hb hm]
          have hv : zev (mf_spareOfVessel Q2 (nI m) t) (fun y => y.2 = vs (bs m).1 (wsum (bs m).2.1.2.2.2) ∧ mTc y.1 (tapp 200 tc (if t = 1 then A.2.2 ++ vsT (bs m).1 else [])) ∧ qfr Q2 y.1 [41, 42]) := by
            rcases ht with rfl | rfl
            · refine zev_mono (m_spareV h2 t2 hn hmn.1 h6 hk hmn.2) ?_
              rintro ⟨Q3, v⟩ ⟨e3, t3, f3⟩
              simp only [if_true] at t3 ⊢
              rw [tapp1] at t3
              exact ⟨e3, t3, f3⟩
            · rw [zev_eq (m_spareU h2 hn hmn.1 h6 hk hmn.2)]
              simp only [show ¬ (0 : Int32) = 1 by decide, if_false] at t2 ⊢
              exact ⟨trivial, t2, qfr.rf⟩
          refine zev_mono hv ?_
          rintro ⟨Q3, v⟩ ⟨e3, t3, f3⟩
          dsimp only at e3 t3 f3 ⊢
          subst e3
          have hst : dstep bs A m = (A.1 - zminl A.1 (vs (bs m).1 (wsum (bs m).2.1.2.2.2)), (if zminl A.1 (vs (bs m).1 (wsum (bs m).2.1.2.2.2)) ≤ 0 then A.2.1 else A.2.1 ++ [(m, zminl A.1 (vs (bs m).1 (wsum (bs m).2.1.2.2.2)))]), A.2.2 ++ vsT (bs m).1) := by
            unfold dstep; rw [if_neg c]
          have d3 := d2.fr f3 (by decide)
          have jp : ∀ u : Int64, u = zminl A.1 (vs (bs m).1 (wsum (bs m).2.1.2.2.2)) → zev (mf_drawFrom_J79 Q3 (nI b) t A.1 (nI i) (nI m) u) (fun r => (∃ x' k, r = .inl x' ∧ (∃ Q2 i, x' = (Q2, (((bms (bs b)).take i).foldl (dstep bs) (x, [], [])).1, nI i) ∧ i ≤ (bs b).2.1.2.2.1 ∧ k = (bs b).2.1.2.2.1 - i ∧ mDr Q2 (ds ++ (((bms (bs b)).take i).foldl (dstep bs) (x, [], [])).2.1) ∧ mTc Q2 (tapp 200 tc (if t = 1 then (((bms (bs b)).take i).foldl (dstep bs) (x, [], [])).2.2 else [])) ∧ qfr Q Q2 [41, 42, 60, 61, 62]) ∧ k < (bs b).2.1.2.2.1 - i) ∨ (∃ y, r = .inr y ∧ mDr y.1 (ds ++ ((bms (bs b)).foldl (dstep bs) (x, [], [])).2.1) ∧ mTc y.1 (tapp 200 tc (if t = 1 then ((bms (bs b)).foldl (dstep bs) (x, [], [])).2.2 else [])) ∧ qfr Q y.1 [41, 42, 60, 61, 62])) := by
            intro u hu
            unfold mf_drawFrom_J79 mf_drawFrom_J96
            rw [← hu] at hst
            by_cases cu : u ≤ 0
            · simp only [if_pos cu, zev_b1, zev_mbd, zev_some, zev_b0, zev_bo, true_and, and_true]
              rw [if_pos cu] at hst
              refine Or.inl ⟨_, (bs b).2.1.2.2.1 - (i + 1), rfl, ⟨Q3, i + 1, ?_, by omega, rfl, ?_, ?_, f2.tr0 (f3.mono (by decide))⟩, by omega⟩
              · rw [hA1, hst, ← nI_1]
              · rw [hA1, hst]; exact d3
              · rw [hA1, hst]; exact t3
            · simp only [if_neg cu, zev_b1, zev_mbd, zev_some, zev_b0, zev_bo, true_and, and_true]
              rw [if_neg cu] at hst
              refine zev_mono (m_addDraw d3 m u (by rw [List.length_append]; simp only [List.length_nil] at hds; omega)) ?_
              rintro ⟨Q4, _⟩ ⟨d4, f4⟩
              dsimp only at d4 f4 ⊢
              rw [List.append_assoc] at d4
              refine Or.inl ⟨_, (bs b).2.1.2.2.1 - (i + 1), rfl, ⟨Q4, i + 1, ?_, by omega, rfl, ?_, ?_, (f2.tr0 (f3.mono (by decide))).tr0 (f4.mono (by decide))⟩, by omega⟩
              · rw [hA1, hst, ← nI_1]
              · rw [hA1, hst]; exact d4
              · rw [hA1, hst]; exact t3.fr f4 (by decide)
          by_cases cm : A.1 ≤ vs (bs m).1 (wsum (bs m).2.1.2.2.2)
          · rw [if_pos cm]
            exact jp _ (by unfold zminl; rw [if_neg (Int64.not_lt.mpr cm)])
          · rw [if_neg cm]
            exact jp _ (by unfold zminl; rw [if_pos (Int64.not_le.mp cm)])
      · have hie : i = (bs b).2.1.2.2.1 := by omega
        rw [hie, ← hl, List.take_of_length_le (Nat.le_refl _)] at d2 t2
        simp only [if_pos (nI_le (show (bs b).2.1.2.2.1 ≤ i by omega) (show i < 2 ^ 31 by omega)), zev_b1, zev_mbd, zev_some, zev_b0, zev_bo, true_and, and_true]
        exact Or.inr ⟨_, rfl, d2, t2, f2⟩
  · simp only [if_neg e, if_neg hx, ite_self]
    rw [tnil, zev_mbd]
    refine zev_mono (m_addDraw hD b x (by omega)) ?_
    rintro ⟨Q1, u⟩ ⟨d1, f1⟩
    rw [zev_some]
    exact ⟨d1, hT.fr f1 (by decide), f1.mono (by decide)⟩
/-! mixing what is drawn -/
theorem wputs_snoc (acc zs : Wn) (z : Int32 × Int64) : wputs acc (zs ++ [z]) = if z.2 ≤ 0 then wputs acc zs else wadd z.1 z.2 (wputs acc zs) := by
  unfold wputs; rw [List.foldl_append]; rfl
theorem wputs_le : ∀ (zs acc : Wn), (wputs acc zs).length ≤ acc.length + zs.length
  | [], acc => Nat.le_refl _
  | z :: r, acc => by
    show (wputs (if z.2 ≤ 0 then acc else wadd z.1 z.2 acc) r).length ≤ _
    have h1 := wputs_le r (if z.2 ≤ 0 then acc else wadd z.1 z.2 acc)
    have h2 : (if z.2 ≤ 0 then acc else wadd z.1 z.2 acc).length ≤ acc.length + 1 := by
      split
      · omega
      · exact wadd_le _ _ _
    rw [List.length_cons]; omega
theorem wgng_at {l : Wn} {s : List Int64} {i : Nat} {q : Int32 × Int64} {v : Int64} (h1 : l[i]? = some q) (h2 : s[i]? = some v) : (wgng l s)[i]? = some (q.1, v) := by
  unfold wgng
  rw [List.getElem?_zipWith, h1, h2]
theorem wgng_len {l : Wn} {s : List Int64} (h : s.length = l.length) : (wgng l s).length = l.length := by
  unfold wgng
  rw [List.length_zipWith, h, Nat.min_self]
theorem m_mixDraws {Q : Mq} {nb : Nat} {bs : Nat → Bv} {ds : List (Nat × Int64)} {lm : Wn} (h : mBs Q nb bs) (hD : mDr Q ds) (hM : mMx Q lm) (hn : nb ≤ 1000) (hds : ∀ q, q ∈ ds → q.1 < nb ∧ (bs q.1).2.1.2.2.2.length ≤ 60 ∧ ((bs q.1).2.1.2.2.2 ≠ [] → wsum (bs q.1).2.1.2.2.2 ≠ 0)) (hl : lm.length ≤ 60) : zev (mf_mixDraws Q) (fun y => mMx y.1 (dmix bs lm ds) ∧ qfr Q y.1 [63, 64, 65, 66]) := by
  have hd32 := hD.2.1
  unfold mf_mixDraws
  rw [zev_b1]
  refine zev_up (τ := Mq × Int32) (fun i (z : Mq × Int32) => ∃ Q2, z = (Q2, nI i) ∧ mMx Q2 (dmix bs lm (ds.take i)) ∧ (dmix bs lm (ds.take i)).length ≤ 60 + 60 * i ∧ qfr Q Q2 [63, 64, 65, 66]) ds.length (Nat.zero_le _) ⟨Q, rfl, hM, hl, qfr.rf⟩ ?_ ?_
  · rintro i z hi ⟨Q2, rfl, m2, l2, f2⟩
    obtain ⟨q, hq⟩ := getElem?_lt hi
    obtain ⟨hq1, hq2, hq3⟩ := hds q (List.mem_of_getElem? hq)
    have h2 := h.fr f2 (by decide)
    have d2 := hD.fr f2 (by decide)
    unfold mf_mixDraws_L2
    simp only [d2.1, if_neg (nI_ge hi (show ds.length < 2 ^ 31 by omega)), zev_b1, zev_mbd, zev_some, zev_b0, zev_bo, true_and, and_true, mev_ai (show i < 2 ^ 31 by omega), mev_aj (show i < 2 ^ 31 by omega), mln_2, mln_3, mln_4, mln_5, mln_6, mln_7, mln_8, mln_9, mln_10, mln_11, mln_12, mln_13, mln_15, mln_16, mln_17, mln_24, mln_25, mln_26, mln_27, mln_28, mln_29, mln_30, mln_31, mln_32, mln_34, mln_35, mln_37, mln_42, mln_49, mln_50, mln_51, mln_52, mln_53, mln_54, mln_55, mln_56, mln_57, mln_58, mln_59, mln_61, mln_62, mln_63, mln_65, mln_66, mln_68, mln_70, mln_71, mln_72, mln_73, mln_74, show i < 32 by omega, (d2.2.2 i q hq).1, (d2.2.2 i q hq).2]
    refine zev_mono (m_shares h2 hn hq1 hq2 hq3 q.2) ?_
    rintro ⟨Q3, u⟩ ⟨g3, f3⟩
    dsimp only at g3 f3 ⊢
    have h3 := h2.fr f3 (by decide)
    have m3 := m2.fr f3 (by decide)
    rw [take_snoc hq, dmix_snoc]
    have hsl := wshr_len q.2 (bs q.1).2.1.2.2.2
    generalize hs : wshr q.2 (bs q.1).2.1.2.2.2 = s at g3 hsl ⊢
    generalize hlm : dmix bs lm (ds.take i) = lm2 at m3 l2 ⊢
    refine zev_up (τ := Mq × Int32) (fun j (z : Mq × Int32) => ∃ Q4, z = (Q4, nI j) ∧ mMx Q4 (wputs lm2 ((wgng (bs q.1).2.1.2.2.2 s).take j)) ∧ qfr Q3 Q4 [64, 65, 66]) (bs q.1).2.1.2.2.2.length (Nat.zero_le _) ⟨Q3, rfl, m3, qfr.rf⟩ ?_ ?_
    · rintro j z hj ⟨Q4, rfl, m4, f4⟩
      obtain ⟨w, hw⟩ := getElem?_lt hj
      obtain ⟨v, hv⟩ := getElem?_lt (l := s) (i := j) (by omega)
      have h4 := h3.fr f4 (by decide)
      have g4 := g3.fr f4 (by decide)
      unfold mf_mixDraws_L30 mf_mixDraws_J72
      simp only [zev_b1, zev_mbd, zev_some, zev_b0, zev_bo, true_and, and_true, mev_ai (show q.1 < 2 ^ 31 by omega), mln_2, mln_3, mln_4, mln_5, mln_6, mln_7, mln_8, mln_9, mln_10, mln_11, mln_12, mln_13, mln_15, mln_16, mln_17, mln_24, mln_25, mln_26, mln_27, mln_28, mln_29, mln_30, mln_31, mln_32, mln_34, mln_35, mln_37, mln_42, mln_49, mln_50, mln_51, mln_52, mln_53, mln_54, mln_55, mln_56, mln_57, mln_58, mln_59, mln_61, mln_62, mln_63, mln_65, mln_66, mln_68, mln_70, mln_71, mln_72, mln_73, mln_74, show q.1 < 1000 by omega, h4.ln hq1, if_neg (nI_ge hj (show (bs q.1).2.1.2.2.2.length < 2 ^ 31 by omega)), mev_aj (show j < 2 ^ 31 by omega), show j < 60 by omega, g4 j v hv]
      rw [take_snoc (wgng_at hw hv), wputs_snoc]
      by_cases c : v ≤ 0
      · simp only [if_pos c, zev_b1, zev_mbd, zev_some, zev_b0, zev_bo, true_and, and_true]
        exact ⟨_, rfl, Q4, by rw [← nI_1], m4, f4⟩
      · simp only [if_neg c, zev_b1, zev_mbd, zev_some, zev_b0, zev_bo, true_and, and_true, nI_x4, nI_x5, nI_x13, nI_x16, nI_x20, nI_x60, nI_x100, nI_x48r, nI_add, nI_1, mev_ai (show 60 * q.1 + j < 2 ^ 31 by omega), show 60 * q.1 + j < 60000 by omega, (h4.wi hq1 hw).1, mev_aj (show j < 2 ^ 31 by omega), mln_2, mln_3, mln_4, mln_5, mln_6, mln_7, mln_8, mln_9, mln_10, mln_11, mln_12, mln_13, mln_15, mln_16, mln_17, mln_24, mln_25, mln_26, mln_27, mln_28, mln_29, mln_30, mln_31, mln_32, mln_34, mln_35, mln_37, mln_42, mln_49, mln_50, mln_51, mln_52, mln_53, mln_54, mln_55, mln_56, mln_57, mln_58, mln_59, mln_61, mln_62, mln_63, mln_65, mln_66, mln_68, mln_70, mln_71, mln_72, mln_73, mln_74, show j < 60 by omega, g4 j v hv]
        have hle := wputs_le ((wgng (bs q.1).2.1.2.2.2 s).take j) lm2
        rw [List.length_take, wgng_len hsl] at hle
        refine zev_mono (m_mix m4 w.1 v (by omega)) ?_
        rintro ⟨Q5, u⟩ ⟨m5, f5⟩
        dsimp only at m5 f5 ⊢
        exact ⟨_, rfl, Q5, by rw [← nI_1], m5, f4.tr0 f5⟩
    · rintro z ⟨Q4, rfl, m4, f4⟩
      have h4 := h3.fr f4 (by decide)
      unfold mf_mixDraws_L30
      simp only [zev_b1, zev_mbd, zev_some, zev_b0, zev_bo, true_and, and_true, mev_ai (show q.1 < 2 ^ 31 by omega), mln_2, mln_3, mln_4, mln_5, mln_6, mln_7, mln_8, mln_9, mln_10, mln_11, mln_12, mln_13, mln_15, mln_16, mln_17, mln_24, mln_25, mln_26, mln_27, mln_28, mln_29, mln_30, mln_31, mln_32, mln_34, mln_35, mln_37, mln_42, mln_49, mln_50, mln_51, mln_52, mln_53, mln_54, mln_55, mln_56, mln_57, mln_58, mln_59, mln_61, mln_62, mln_63, mln_65, mln_66, mln_68, mln_70, mln_71, mln_72, mln_73, mln_74, show q.1 < 1000 by omega, h4.ln hq1, if_pos (nI_le (Nat.le_refl (bs q.1).2.1.2.2.2.length) (show (bs q.1).2.1.2.2.2.length < 2 ^ 31 by omega))]
      rw [List.take_of_length_le (by rw [wgng_len hsl]; exact Nat.le_refl _)] at m4
      have hle := wputs_le (wgng (bs q.1).2.1.2.2.2 s) lm2
      rw [wgng_len hsl] at hle
      exact ⟨_, rfl, _, rfl, Q4, by rw [← nI_1], m4, by omega, (f2.tr0 (f3.mono (by decide))).tr0 (f4.mono (by decide))⟩
  · rintro z ⟨Q2, rfl, m2, l2, f2⟩
    have d2 := hD.fr f2 (by decide)
    unfold mf_mixDraws_L2
    simp only [d2.1, if_pos (nI_le (Nat.le_refl ds.length) (show ds.length < 2 ^ 31 by omega)), zev_b1, zev_mbd, zev_some, zev_b0, zev_bo, true_and, and_true]
    rw [List.take_of_length_le (Nat.le_refl _)] at m2
    exact ⟨_, rfl, m2, f2⟩
theorem wadd_end (p : Int32) (x : Int64) : ∀ l : Wn, (∀ q, q ∈ l → q.1 < p) → wadd p x l = l ++ [(p, x)]
  | [], _ => rfl
  | q :: r, h => by
    simp only [wadd]
    rw [if_pos (h q List.mem_cons_self), wadd_end p x r (fun z hz => h z (List.mem_cons_of_mem _ hz))]
    rfl
theorem wadd_take {l : Wn} (hr : wris l) {i : Nat} {q : Int32 × Int64} (hq : l[i]? = some q) : wadd q.1 q.2 (l.take i) = l.take (i + 1) := by
  rw [take_snoc hq]
  refine wadd_end q.1 q.2 _ (fun z hz => ?_)
  obtain ⟨j, hj⟩ := List.getElem?_of_mem hz
  have hlt := (List.getElem?_eq_some_iff.mp hj).1
  rw [List.length_take] at hlt
  rw [List.getElem?_take_of_lt (by omega)] at hj
  exact wris_lt l hr j i z q (by omega) hj hq
theorem m_mixInto {Q : Mq} {nb b : Nat} {bs : Nat → Bv} {ds : List (Nat × Int64)} (h : mBs Q nb bs) (hD : mDr Q ds) (hn : nb ≤ 1000) (hb : b < nb) (hr : wris (bs b).2.1.2.2.2) (h6 : (bs b).2.1.2.2.2.length ≤ 60) (hds : ∀ q, q ∈ ds → q.1 < nb ∧ (bs q.1).2.1.2.2.2.length ≤ 60 ∧ ((bs q.1).2.1.2.2.2 ≠ [] → wsum (bs q.1).2.1.2.2.2 ≠ 0)) : zev (mf_mixInto Q (nI b)) (fun y => y.2 = (if (dmix bs (bs b).2.1.2.2.2 ds).length ≤ 60 then 1 else 0) ∧ mMx y.1 (dmix bs (bs b).2.1.2.2.2 ds) ∧ qfr Q y.1 [63, 64, 65, 66]) := by
  have hb1 : b < 2 ^ 31 := by omega
  have hb2 : b < 1000 := by omega
  unfold mf_mixInto
  simp only [zev_b1, zev_some]
  have f0 : qfr Q (qi Q 64 0 0) [63, 64, 65, 66] := qfr.qi (by decide)
  refine zev_up (τ := Mq × Int32) (fun i (z : Mq × Int32) => ∃ Q2, z = (Q2, nI i) ∧ mMx Q2 ((bs b).2.1.2.2.2.take i) ∧ qfr Q Q2 [63, 64, 65, 66]) (bs b).2.1.2.2.2.length (Nat.zero_le _) ⟨_, rfl, ⟨by rw [qi_1, if_pos ⟨rfl, rfl⟩]; rfl, by simp, fun i q hq => by simp at hq⟩, f0⟩ ?_ ?_
  · rintro i z hi ⟨Q2, rfl, m2, f2⟩
    obtain ⟨q, hq⟩ := getElem?_lt hi
    have h2 := h.fr f2 (by decide)
    unfold mf_mixInto_L7
    simp only [zev_b1, zev_mbd, zev_some, zev_b0, zev_bo, true_and, and_true, mev_ai hb1, mln_2, mln_3, mln_4, mln_5, mln_6, mln_7, mln_8, mln_9, mln_10, mln_11, mln_12, mln_13, mln_15, mln_16, mln_17, mln_24, mln_25, mln_26, mln_27, mln_28, mln_29, mln_30, mln_31, mln_32, mln_34, mln_35, mln_37, mln_42, mln_49, mln_50, mln_51, mln_52, mln_53, mln_54, mln_55, mln_56, mln_57, mln_58, mln_59, mln_61, mln_62, mln_63, mln_65, mln_66, mln_68, mln_70, mln_71, mln_72, mln_73, mln_74, hb2, h2.ln hb, if_neg (nI_ge hi (show (bs b).2.1.2.2.2.length < 2 ^ 31 by omega)), nI_x4, nI_x5, nI_x13, nI_x16, nI_x20, nI_x60, nI_x100, nI_x48r, nI_add, nI_1, mev_ai (show 60 * b + i < 2 ^ 31 by omega), mev_aj (show 60 * b + i < 2 ^ 31 by omega), show 60 * b + i < 60000 by omega, (h2.wi hb hq).1, (h2.wi hb hq).2]
    refine zev_mono (m_mix m2 q.1 q.2 (by rw [List.length_take]; omega)) ?_
    rintro ⟨Q3, u⟩ ⟨m3, f3⟩
    dsimp only at m3 f3 ⊢
    rw [wadd_take hr hq] at m3
    exact ⟨_, rfl, Q3, by rw [← nI_1], m3, f2.tr0 (f3.mono (by decide))⟩
  · rintro z ⟨Q2, rfl, m2, f2⟩
    have h2 := h.fr f2 (by decide)
    unfold mf_mixInto_L7
    simp only [zev_b1, zev_mbd, zev_some, zev_b0, zev_bo, true_and, and_true, mev_ai hb1, mln_2, mln_3, mln_4, mln_5, mln_6, mln_7, mln_8, mln_9, mln_10, mln_11, mln_12, mln_13, mln_15, mln_16, mln_17, mln_24, mln_25, mln_26, mln_27, mln_28, mln_29, mln_30, mln_31, mln_32, mln_34, mln_35, mln_37, mln_42, mln_49, mln_50, mln_51, mln_52, mln_53, mln_54, mln_55, mln_56, mln_57, mln_58, mln_59, mln_61, mln_62, mln_63, mln_65, mln_66, mln_68, mln_70, mln_71, mln_72, mln_73, mln_74, hb2, h2.ln hb, if_pos (nI_le (Nat.le_refl (bs b).2.1.2.2.2.length) (show (bs b).2.1.2.2.2.length < 2 ^ 31 by omega))]
    refine ⟨_, rfl, ?_⟩
    dsimp only
    rw [List.take_of_length_le (Nat.le_refl _)] at m2
    refine zev_mono (m_mixDraws h2 (hD.fr f2 (by decide)) m2 hn hds h6) ?_
    rintro ⟨Q3, u⟩ ⟨m3, f3⟩
    dsimp only at m3 f3 ⊢
    have hlen := m3.2.1
    rw [m3.1]
    by_cases c : (dmix bs (bs b).2.1.2.2.2 ds).length ≤ 60
    · rw [if_neg (show ¬ 60 < nI (dmix bs (bs b).2.1.2.2.2 ds).length from nI_nlt (a := 60) c (by decide)), if_pos c]
      simp only [zev_b1, zev_mbd, zev_some, zev_b0, zev_bo, true_and, and_true]
      exact ⟨m3, f2.tr0 f3⟩
    · rw [if_pos (show 60 < nI (dmix bs (bs b).2.1.2.2.2 ds).length from nI_lt (a := 60) (by omega) (by omega)), if_neg c]
      simp only [zev_b1, zev_mbd, zev_some, zev_b0, zev_bo, true_and, and_true]
      exact ⟨m3, f2.tr0 f3⟩
