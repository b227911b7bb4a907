/-! The reference: shares, mixing. -/
def mGo (Q : Mq) (s : List Int64) : Prop := ∀ i v, s[i]? = some v → Q.2 63 i = v
theorem mGo.fr {Q Q' : Mq} {W : List Nat} {s : List Int64} (h : mGo Q s) (f : qfr Q Q' W) (hd : 63 ∉ W) : mGo Q' s := by
  unfold mGo
  rw [f.j 63 hd]
  exact h
theorem lsub_snoc (t : Int64) (s : List Int64) (v : Int64) : lsub t (s ++ [v]) = lsub t s - v := by
  unfold lsub; rw [List.foldl_append]; rfl
theorem wbase_snoc {x tot : Int64} {l : Wn} {i : Nat} {q : Int32 × Int64} (hq : l[i]? = some q) : wbase x tot (l.take (i + 1)) = wbase x tot (l.take i) ++ [gb x tot q.2] := by
  unfold wbase; rw [take_snoc hq, List.map_append]; rfl
theorem wbase_len {x tot : Int64} {l : Wn} : (wbase x tot l).length = l.length := by unfold wbase; rw [List.length_map]
theorem wbase_at {x tot : Int64} {l : Wn} {i : Nat} {v : Int64} (h : (wbase x tot l)[i]? = some v) : ∃ q, l[i]? = some q ∧ v = gb x tot q.2 := by
  unfold wbase at h
  rw [List.getElem?_map] at h
  cases hq : l[i]? with
  | none => rw [hq] at h; cases h
  | some q => rw [hq] at h; cases h; exact ⟨q, rfl, rfl⟩
theorem m_shares {Q : Mq} {nb b : Nat} {bs : Nat → Bv} (h : mBs Q nb bs) (hn : nb ≤ 1000) (hb : b < nb) (h6 : (bs b).2.1.2.2.2.length ≤ 60) (hp : (bs b).2.1.2.2.2 ≠ [] → wsum (bs b).2.1.2.2.2 ≠ 0) (x : Int64) : zev (mf_shares Q (nI b) x) (fun y => mGo y.1 (wshr x (bs b).2.1.2.2.2) ∧ qfr Q y.1 [63]) := by
  have hb1 : b < 2 ^ 31 := by omega
  have hb2 : b < 1000 := by omega
  unfold mf_shares
  simp only [zev_mbd, zev_eq (m_inVessel h hn hb h6)]
  have hw : ∀ i q, (bs b).2.1.2.2.2[i]? = some q → Q.2 10 (60 * b + i) = q.2 := fun i q hq => (h.wi hb hq).2
  have hln := h.ln hb
  generalize hL : (bs b).2.1.2.2.2 = l at h6 hp hw hln ⊢
  have htot : l ≠ [] → wsum l ≠ 0 := hp
  generalize hT : wsum l = tot at htot ⊢
  rw [zev_b1]
  refine zev_up (τ := Mq × Int64 × Int32) (fun i (z : Mq × Int64 × Int32) => ∃ Q2, z = (Q2, lsub x (wbase x tot (l.take i)), nI i) ∧ mGo Q2 (wbase x tot (l.take i)) ∧ qfr Q Q2 [63]) l.length (Nat.zero_le _) ⟨Q, rfl, fun i v hv => by simp [wbase] at hv, qfr.rf⟩ ?_ ?_
  · rintro i z hi ⟨Q2, rfl, g2, f2⟩
    obtain ⟨q, hq⟩ := getElem?_lt hi
    have t0 : tot ≠ 0 := htot (fun e => by rw [e] at hi; exact absurd hi (by simp))
    have hgb : gb x tot q.2 = x * q.2 / tot := by unfold gb; rw [if_neg t0]
    unfold mf_shares_L13
    simp only [zev_b1, zev_mbd, zev_some, zev_b0, zev_bo, true_and, and_true, mev_ai hb1, mln_2, mln_3, mln_4, mln_5, mln_6, mln_7, mln_8, mln_9, mln_10, mln_11, mln_12, mln_13, mln_15, mln_16, mln_17, mln_24, mln_25, mln_26, mln_27, mln_28, mln_29, mln_30, mln_31, mln_32, mln_34, mln_35, mln_37, mln_42, mln_49, mln_50, mln_51, mln_52, mln_53, mln_54, mln_55, mln_56, mln_57, mln_58, mln_59, mln_61, mln_62, mln_63, mln_65, mln_66, mln_68, mln_70, mln_71, mln_72, mln_73, mln_74, hb2, f2.i 8 (by decide), f2.j 10 (by decide), hln, if_neg (nI_ge hi (show l.length < 2 ^ 31 by omega)), nI_x4, nI_x5, nI_x13, nI_x16, nI_x20, nI_x60, nI_x100, nI_x48r, nI_add, nI_1, mev_aj (show 60 * b + i < 2 ^ 31 by omega), show 60 * b + i < 60000 by omega, hw i q hq, zev_ld, mev_sj (show i < 2 ^ 31 by omega), mev_aj (show i < 2 ^ 31 by omega), show i < 60 by omega, qj_2, and_self, if_true]
    refine ⟨t0, _, rfl, _, by rw [wbase_snoc hq, lsub_snoc, hgb], fun j v hv => ?_, f2.tr0 (qfr.qj (by decide))⟩
    rw [wbase_snoc hq] at hv
    rw [qj_2]
    have hlen : (wbase x tot (l.take i)).length = i := by rw [wbase_len, List.length_take]; omega
    by_cases hj : j < i
    · rw [List.getElem?_append_left (by omega)] at hv
      rw [if_neg (by omega)]
      exact g2 j v hv
    · rw [List.getElem?_append_right (by omega), hlen] at hv
      have := (List.getElem?_eq_some_iff.mp hv).1
      simp only [List.length_cons, List.length_nil] at this
      obtain rfl : j = i := by omega
      rw [Nat.sub_self] at hv
      cases hv
      rw [if_pos ⟨rfl, rfl⟩, hgb]
  · rintro z ⟨Q2, rfl, g2, f2⟩
    unfold mf_shares_L13
    simp only [zev_b1, zev_mbd, zev_some, zev_b0, zev_bo, true_and, and_true, mev_ai hb1, mln_2, mln_3, mln_4, mln_5, mln_6, mln_7, mln_8, mln_9, mln_10, mln_11, mln_12, mln_13, mln_15, mln_16, mln_17, mln_24, mln_25, mln_26, mln_27, mln_28, mln_29, mln_30, mln_31, mln_32, mln_34, mln_35, mln_37, mln_42, mln_49, mln_50, mln_51, mln_52, mln_53, mln_54, mln_55, mln_56, mln_57, mln_58, mln_59, mln_61, mln_62, mln_63, mln_65, mln_66, mln_68, mln_70, mln_71, mln_72, mln_73, mln_74, hb2, f2.i 8 (by decide), hln, if_pos (nI_le (Nat.le_refl l.length) (show l.length < 2 ^ 31 by omega))]
    refine ⟨_, rfl, ?_⟩
    dsimp only
    rw [List.take_of_length_le (Nat.le_refl _)] at g2 ⊢
    refine zev_lp (τ := Mq × Int64 × Int32) (fun n (z : Mq × Int64 × Int32) => ∃ Q3 i want s, z = (Q3, want, nI i) ∧ i ≤ l.length ∧ n = l.length - i ∧ mGo Q3 s ∧ s.length = l.length ∧ wbmp x tot l n i want s = wshr x l ∧ qfr Q Q3 [63]) (n := l.length) ⟨Q2, 0, _, _, rfl, Nat.zero_le _, rfl, g2, wbase_len, by unfold wshr; rw [hT], f2⟩ ?_
    rintro n z ⟨Q3, i, want, s, rfl, hi, rfl, g3, hs, hw3, f3⟩
    unfold mf_shares_L69
    by_cases hi2 : i < l.length
    · obtain ⟨q, hq⟩ := getElem?_lt hi2
      have t0 : tot ≠ 0 := htot (fun e => by rw [e] at hi2; exact absurd hi2 (by simp))
      obtain ⟨k, hk⟩ : ∃ k, l.length - i = k + 1 := ⟨l.length - i - 1, by omega⟩
      rw [hk] at hw3 ⊢
      unfold wbmp at hw3
      simp only [zev_b1, zev_mbd, zev_some, zev_b0, zev_bo, true_and, and_true, mev_ai hb1, mln_2, mln_3, mln_4, mln_5, mln_6, mln_7, mln_8, mln_9, mln_10, mln_11, mln_12, mln_13, mln_15, mln_16, mln_17, mln_24, mln_25, mln_26, mln_27, mln_28, mln_29, mln_30, mln_31, mln_32, mln_34, mln_35, mln_37, mln_42, mln_49, mln_50, mln_51, mln_52, mln_53, mln_54, mln_55, mln_56, mln_57, mln_58, mln_59, mln_61, mln_62, mln_63, mln_65, mln_66, mln_68, mln_70, mln_71, mln_72, mln_73, mln_74, hb2, f3.i 8 (by decide), f3.j 10 (by decide), hln, if_neg (nI_ge hi2 (show l.length < 2 ^ 31 by omega))]
      by_cases c1 : want ≤ 0
      · rw [if_pos c1] at hw3
        simp only [if_pos c1, zev_b1, zev_mbd, zev_some, zev_b0, zev_bo, true_and, and_true]
        exact Or.inr ⟨_, rfl, by dsimp only; rw [← hw3]; exact g3, f3⟩
      · rw [if_neg c1] at hw3
        simp only [if_neg c1, zev_b1, zev_mbd, zev_some, zev_b0, zev_bo, true_and, and_true, nI_x4, nI_x5, nI_x13, nI_x16, nI_x20, nI_x60, nI_x100, nI_x48r, nI_add, nI_1, mln_2, mln_3, mln_4, mln_5, mln_6, mln_7, mln_8, mln_9, mln_10, mln_11, mln_12, mln_13, mln_15, mln_16, mln_17, mln_24, mln_25, mln_26, mln_27, mln_28, mln_29, mln_30, mln_31, mln_32, mln_34, mln_35, mln_37, mln_42, mln_49, mln_50, mln_51, mln_52, mln_53, mln_54, mln_55, mln_56, mln_57, mln_58, mln_59, mln_61, mln_62, mln_63, mln_65, mln_66, mln_68, mln_70, mln_71, mln_72, mln_73, mln_74, f3.j 10 (by decide), mev_aj (show 60 * b + i < 2 ^ 31 by omega), show 60 * b + i < 60000 by omega, hw i q hq, zev_lm]
        refine ⟨t0, ?_⟩
        simp only [hq, Option.map_some, Option.getD_some, t0, false_or] at hw3
        by_cases c2 : x * q.2 - x * q.2 / tot * tot = 0
        · rw [if_pos c2] at hw3
          simp only [if_pos c2, mf_shares_J134, zev_b1, zev_mbd, zev_some, zev_b0, zev_bo, true_and, and_true]
          exact Or.inl ⟨_, k, rfl, ⟨Q3, i + 1, want, s, by rw [← nI_1], by omega, by omega, g3, hs, hw3, f3⟩, by omega⟩
        · rw [if_neg c2] at hw3
          obtain ⟨v, hv⟩ := getElem?_lt (l := s) (i := i) (by omega)
          simp only [hv, Option.getD_some] at hw3
          simp only [if_neg c2, mf_shares_J134, zev_b1, zev_mbd, zev_some, zev_b0, zev_bo, true_and, and_true, mev_aj (show i < 2 ^ 31 by omega), mev_sj (show i < 2 ^ 31 by omega), show i < 60 by omega, g3 i v hv, mln_2, mln_3, mln_4, mln_5, mln_6, mln_7, mln_8, mln_9, mln_10, mln_11, mln_12, mln_13, mln_15, mln_16, mln_17, mln_24, mln_25, mln_26, mln_27, mln_28, mln_29, mln_30, mln_31, mln_32, mln_34, mln_35, mln_37, mln_42, mln_49, mln_50, mln_51, mln_52, mln_53, mln_54, mln_55, mln_56, mln_57, mln_58, mln_59, mln_61, mln_62, mln_63, mln_65, mln_66, mln_68, mln_70, mln_71, mln_72, mln_73, mln_74]
          refine Or.inl ⟨_, k, rfl, ⟨_, i + 1, want - 1, s.set i (v + 1), by rw [← nI_1], by omega, by omega, fun j w hj => ?_, by rw [List.length_set]; exact hs, hw3, f3.tr0 (qfr.qj (by decide))⟩, by omega⟩
          rw [qj_2]
          by_cases e : j = i
          · subst e
            rw [List.getElem?_set_self (by omega)] at hj
            cases hj
            rw [if_pos ⟨rfl, rfl⟩]
          · rw [List.getElem?_set_ne (Ne.symm e)] at hj
            rw [if_neg (fun q => e q.2)]
            exact g3 j w hj
    · have hie : i = l.length := by omega
      subst hie
      rw [Nat.sub_self] at hw3
      unfold wbmp at hw3
      simp only [zev_b1, zev_mbd, zev_some, zev_b0, zev_bo, true_and, and_true, mev_ai hb1, mln_2, mln_3, mln_4, mln_5, mln_6, mln_7, mln_8, mln_9, mln_10, mln_11, mln_12, mln_13, mln_15, mln_16, mln_17, mln_24, mln_25, mln_26, mln_27, mln_28, mln_29, mln_30, mln_31, mln_32, mln_34, mln_35, mln_37, mln_42, mln_49, mln_50, mln_51, mln_52, mln_53, mln_54, mln_55, mln_56, mln_57, mln_58, mln_59, mln_61, mln_62, mln_63, mln_65, mln_66, mln_68, mln_70, mln_71, mln_72, mln_73, mln_74, hb2, f3.i 8 (by decide), hln, if_pos (nI_le (Nat.le_refl l.length) (show l.length < 2 ^ 31 by omega))]
      exact Or.inr ⟨_, rfl, by dsimp only; rw [← hw3]; exact g3, f3⟩
/-! mixing -/
def mMx (Q : Mq) (lm : Wn) : Prop := Q.1 64 0 = nI lm.length ∧ lm.length ≤ 1980 ∧ ∀ i q, lm[i]? = some q → Q.1 65 i = q.1 ∧ Q.2 66 i = q.2
theorem mMx.fr {Q Q' : Mq} {W : List Nat} {lm : Wn} (h : mMx Q lm) (f : qfr Q Q' W) (hd : ∀ x, x ∈ [64, 65, 66] → x ∉ W) : mMx Q' lm := by
  unfold mMx
  rw [f.i 64 (hd _ (by decide)), f.i 65 (hd _ (by decide)), f.j 66 (hd _ (by decide))]
  exact h
theorem widx_at (p : Int32) : ∀ (l : Wn) (q : Int32 × Int64), l[widx p l]? = some q → ¬ q.1 < p
  | [], q, h => by simp at h
  | y :: r, q, h => by
    simp only [widx] at h
    by_cases h1 : y.1 < p
    · rw [if_pos h1, List.getElem?_cons_succ] at h
      exact widx_at p r q h
    · rw [if_neg h1, List.getElem?_cons_zero] at h
      cases h
      exact h1
theorem wadd_le (p : Int32) (x : Int64) : ∀ l : Wn, (wadd p x l).length ≤ l.length + 1
  | [] => Nat.le_refl _
  | q :: r => by
    simp only [wadd]
    split
    · simp only [List.length_cons]; have := wadd_le p x r; omega
    · split
      · simp
      · simp
theorem m_mixJ {Q : Mq} {lm : Wn} (h : mMx Q lm) (p : Int32) (x : Int64) (hl : lm.length < 1980) (ha : ∀ q, lm[widx p lm]? = some q → q.1 ≠ p) : zev (mf_mix_J66 Q p x (nI (widx p lm))) (fun y => mMx y.1 (wadd p x lm) ∧ qfr Q y.1 [64, 65, 66]) := by
  obtain ⟨h1, h2, h3⟩ := h
  have hw := widx_le p lm
  rw [wadd_abs p x lm ha]
  generalize widx p lm = w at hw ⊢
  unfold mf_mix_J66
  rw [h1, zev_b1]
  refine zev_lp (τ := Mq × Int32) (fun n (z : Mq × Int32) => ∃ Q2, z = (Q2, nI (w + n)) ∧ w + n ≤ lm.length ∧ (∀ j q, j < w + n → lm[j]? = some q → Q2.1 65 j = q.1 ∧ Q2.2 66 j = q.2) ∧ (∀ j q, w + n ≤ j → lm[j]? = some q → Q2.1 65 (j + 1) = q.1 ∧ Q2.2 66 (j + 1) = q.2) ∧ Q2.1 64 0 = nI lm.length ∧ qfr Q Q2 [64, 65, 66]) (n := lm.length - w) ⟨Q, by rw [show w + (lm.length - w) = lm.length by omega], by omega, fun j q _ hq => h3 j q hq, fun j q hj hq => by have := (List.getElem?_eq_some_iff.mp hq).1; omega, h1, qfr.rf⟩ ?_
  rintro n z ⟨Q2, rfl, hn, g1, g2, g3, f2⟩
  unfold mf_mix_L72
  cases n with
  | zero =>
    simp only [Nat.add_zero, if_pos (nI_le (Nat.le_refl w) (show w < 2 ^ 31 by omega)), zev_b1, zev_mbd, zev_some, zev_b0, zev_bo, true_and, and_true]
    refine Or.inr ⟨_, rfl, ?_⟩
    dsimp only
    simp only [zev_b1, zev_mbd, zev_some, zev_b0, zev_bo, true_and, and_true, mev_si (show w < 2 ^ 31 by omega), mev_sj (show w < 2 ^ 31 by omega), mln_2, mln_3, mln_4, mln_5, mln_6, mln_7, mln_8, mln_9, mln_10, mln_11, mln_12, mln_13, mln_15, mln_16, mln_17, mln_24, mln_25, mln_26, mln_27, mln_28, mln_29, mln_30, mln_31, mln_32, mln_34, mln_35, mln_37, mln_42, mln_49, mln_50, mln_51, mln_52, mln_53, mln_54, mln_55, mln_56, mln_57, mln_58, mln_59, mln_61, mln_62, mln_63, mln_65, mln_66, mln_68, mln_70, mln_71, mln_72, mln_73, mln_74, show w < 1980 by omega, qi_1, qj_1, show ¬ (64 = 65) by decide, false_and, if_false, g3]
    refine ⟨⟨?_, ?_, fun i q hq => ?_⟩, ((f2.tr0 (qfr.qi (by decide))).tr0 (qfr.qj (by decide))).tr0 (qfr.qi (by decide))⟩
    · rw [qi_1, if_pos ⟨rfl, rfl⟩, nI_1]
      congr 1
      simp only [List.length_append, List.length_take, List.length_cons, List.length_drop]; omega
    · simp only [List.length_append, List.length_take, List.length_cons, List.length_drop]; omega
    · rw [qi_1, if_neg (by omega), qi_2, qj_1, qi_1, qj_2, qi_2]
      by_cases hi : i < w
      · rw [if_neg (by omega), if_neg (by omega)]
        rw [List.getElem?_append_left (by rw [List.length_take]; omega), List.getElem?_take_of_lt hi] at hq
        exact g1 i q (by omega) hq
      · rw [List.getElem?_append_right (by rw [List.length_take]; omega), List.length_take, show min w lm.length = w by omega] at hq
        by_cases he : i = w
        · subst he
          rw [Nat.sub_self] at hq
          cases hq
          rw [if_pos ⟨rfl, rfl⟩, if_pos ⟨rfl, rfl⟩]
          exact ⟨rfl, rfl⟩
        · obtain ⟨j, rfl⟩ : ∃ j, i = j + 1 := ⟨i - 1, by omega⟩
          rw [if_neg (by omega), if_neg (by omega)]
          rw [show j + 1 - w = (j - w) + 1 by omega, List.getElem?_cons_succ, List.getElem?_drop, show w + (j - w) = j by omega] at hq
          exact g2 j q (by omega) hq
  | succ n =>
    have hlt : w + n < lm.length := by omega
    obtain ⟨q, hq⟩ := getElem?_lt hlt
    have es : nI (w + (n + 1)) - 1 = nI (w + n) := nI_pred (w + n)
    have em : nI (w + (n + 1)) + (-1) = nI (w + n) := pk_m1 (w + n)
    simp only [if_neg (nI_ge (show w < w + (n + 1) by omega) (show w + (n + 1) < 2 ^ 31 by omega)), es, em, zev_b1, zev_mbd, zev_some, zev_b0, zev_bo, true_and, and_true, mev_ai (show w + n < 2 ^ 31 by omega), mev_aj (show w + n < 2 ^ 31 by omega), mev_si (show w + (n + 1) < 2 ^ 31 by omega), mev_sj (show w + (n + 1) < 2 ^ 31 by omega), mln_2, mln_3, mln_4, mln_5, mln_6, mln_7, mln_8, mln_9, mln_10, mln_11, mln_12, mln_13, mln_15, mln_16, mln_17, mln_24, mln_25, mln_26, mln_27, mln_28, mln_29, mln_30, mln_31, mln_32, mln_34, mln_35, mln_37, mln_42, mln_49, mln_50, mln_51, mln_52, mln_53, mln_54, mln_55, mln_56, mln_57, mln_58, mln_59, mln_61, mln_62, mln_63, mln_65, mln_66, mln_68, mln_70, mln_71, mln_72, mln_73, mln_74, show w + n < 1980 by omega, show w + (n + 1) < 1980 by omega, (g1 (w + n) q (by omega) hq).1, qi_2, (g1 (w + n) q (by omega) hq).2]
    refine Or.inl ⟨_, n, rfl, ⟨_, rfl, by omega, fun j r hj hr => ?_, fun j r hj hr => ?_, ?_, (f2.tr0 (qfr.qi (by decide))).tr0 (qfr.qj (by decide))⟩, by omega⟩
    · rw [qj_1, qi_1, qj_2, qi_2, if_neg (by omega), if_neg (by omega)]
      exact g1 j r (by omega) hr
    · rw [qj_1, qi_1, qj_2, qi_2]
      by_cases he : j = w + n
      · subst he
        rw [if_pos ⟨rfl, rfl⟩, if_pos ⟨rfl, rfl⟩]
        rw [hq] at hr; cases hr
        exact ⟨rfl, rfl⟩
      · rw [if_neg (by omega), if_neg (by omega)]
        exact g2 j r (by omega) hr
    · rw [qj_1, qi_1, if_neg (by omega)]; exact g3
theorem m_mix {Q : Mq} {lm : Wn} (h : mMx Q lm) (p : Int32) (x : Int64) (hl : lm.length < 1980) : zev (mf_mix Q p x) (fun y => mMx y.1 (wadd p x lm) ∧ qfr Q y.1 [64, 65, 66]) := by
  have hh := h
  obtain ⟨h1, h2, h3⟩ := h
  have hw := widx_le p lm
  unfold mf_mix
  rw [zev_b1]
  refine zev_up (τ := Mq × Int32) (fun i (z : Mq × Int32) => z = (Q, nI i)) (widx p lm) (Nat.zero_le _) rfl ?_ ?_
  · rintro i z hi rfl
    obtain ⟨q, hq⟩ := getElem?_lt (l := lm) (i := i) (by omega)
    unfold mf_mix_L3
    have hlt := widx_lt p lm i q hi hq
    simp only [h1, if_neg (nI_ge (show i < lm.length by omega) (show lm.length < 2 ^ 31 by omega)), zev_b1, zev_mbd, zev_some, zev_b0, zev_bo, true_and, and_true, mev_ai (show i < 2 ^ 31 by omega), mln_2, mln_3, mln_4, mln_5, mln_6, mln_7, mln_8, mln_9, mln_10, mln_11, mln_12, mln_13, mln_15, mln_16, mln_17, mln_24, mln_25, mln_26, mln_27, mln_28, mln_29, mln_30, mln_31, mln_32, mln_34, mln_35, mln_37, mln_42, mln_49, mln_50, mln_51, mln_52, mln_53, mln_54, mln_55, mln_56, mln_57, mln_58, mln_59, mln_61, mln_62, mln_63, mln_65, mln_66, mln_68, mln_70, mln_71, mln_72, mln_73, mln_74, show i < 1980 by omega, (h3 i q hq).1, if_neg (Int32.not_le.mpr hlt)]
    exact ⟨_, rfl, by rw [← nI_1]⟩
  · rintro z rfl
    unfold mf_mix_L3
    by_cases hlt : widx p lm < lm.length
    · obtain ⟨q, hq⟩ := getElem?_lt hlt
      have hge := widx_at p lm q hq
      simp only [h1, if_neg (nI_ge hlt (show lm.length < 2 ^ 31 by omega)), zev_b1, zev_mbd, zev_some, zev_b0, zev_bo, true_and, and_true, mev_ai (show widx p lm < 2 ^ 31 by omega), mln_2, mln_3, mln_4, mln_5, mln_6, mln_7, mln_8, mln_9, mln_10, mln_11, mln_12, mln_13, mln_15, mln_16, mln_17, mln_24, mln_25, mln_26, mln_27, mln_28, mln_29, mln_30, mln_31, mln_32, mln_34, mln_35, mln_37, mln_42, mln_49, mln_50, mln_51, mln_52, mln_53, mln_54, mln_55, mln_56, mln_57, mln_58, mln_59, mln_61, mln_62, mln_63, mln_65, mln_66, mln_68, mln_70, mln_71, mln_72, mln_73, mln_74, show widx p lm < 1980 by omega, (h3 _ q hq).1, if_pos (Int32.not_lt.mp hge)]
      refine ⟨_, rfl, ?_⟩
      dsimp only
      simp only [h1, if_neg (nI_ge hlt (show lm.length < 2 ^ 31 by omega)), zev_b1, zev_mbd, zev_some, zev_b0, zev_bo, true_and, and_true, mev_ai (show widx p lm < 2 ^ 31 by omega), mln_2, mln_3, mln_4, mln_5, mln_6, mln_7, mln_8, mln_9, mln_10, mln_11, mln_12, mln_13, mln_15, mln_16, mln_17, mln_24, mln_25, mln_26, mln_27, mln_28, mln_29, mln_30, mln_31, mln_32, mln_34, mln_35, mln_37, mln_42, mln_49, mln_50, mln_51, mln_52, mln_53, mln_54, mln_55, mln_56, mln_57, mln_58, mln_59, mln_61, mln_62, mln_63, mln_65, mln_66, mln_68, mln_70, mln_71, mln_72, mln_73, mln_74, show widx p lm < 1980 by omega, (h3 _ q hq).1]
      by_cases e : q.1 = p
      · simp only [if_pos e, zev_b1, zev_mbd, zev_some, zev_b0, zev_bo, true_and, and_true, mev_aj (show widx p lm < 2 ^ 31 by omega), mev_sj (show widx p lm < 2 ^ 31 by omega), mln_2, mln_3, mln_4, mln_5, mln_6, mln_7, mln_8, mln_9, mln_10, mln_11, mln_12, mln_13, mln_15, mln_16, mln_17, mln_24, mln_25, mln_26, mln_27, mln_28, mln_29, mln_30, mln_31, mln_32, mln_34, mln_35, mln_37, mln_42, mln_49, mln_50, mln_51, mln_52, mln_53, mln_54, mln_55, mln_56, mln_57, mln_58, mln_59, mln_61, mln_62, mln_63, mln_65, mln_66, mln_68, mln_70, mln_71, mln_72, mln_73, mln_74, show widx p lm < 1980 by omega, (h3 _ q hq).2]
        rw [wadd_pre p x lm q hq e]
        refine ⟨⟨by rw [qj_1, List.length_set]; exact h1, by rw [List.length_set]; exact h2, fun i r hr => ?_⟩, qfr.qj (by decide)⟩
        rw [qj_1, qj_2]
        by_cases ei : i = widx p lm
        · subst ei
          rw [List.getElem?_set_self hlt] at hr
          cases hr
          rw [if_pos ⟨rfl, rfl⟩]
          exact ⟨(h3 _ q hq).1, rfl⟩
        · rw [List.getElem?_set_ne (Ne.symm ei)] at hr
          rw [if_neg (fun q => ei q.2)]
          exact h3 i r hr
      · simp only [if_neg e]
        exact m_mixJ hh p x hl (fun r hr => by rw [hq] at hr; cases hr; exact e)
    · have he : widx p lm = lm.length := by omega
      simp only [h1, if_pos (nI_le (show lm.length ≤ widx p lm by omega) (show widx p lm < 2 ^ 31 by omega)), zev_b1, zev_mbd, zev_some, zev_b0, zev_bo, true_and, and_true]
      refine ⟨_, rfl, ?_⟩
      dsimp only
      simp only [h1, if_pos (nI_le (show lm.length ≤ widx p lm by omega) (show widx p lm < 2 ^ 31 by omega))]
      exact m_mixJ hh p x hl (fun r hr => by rw [he, List.getElem?_eq_none (Nat.le_refl _)] at hr; cases hr)
