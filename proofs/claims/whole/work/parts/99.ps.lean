/-! plan: the reference's search. -/
def mSe (Q0 Q : Mq) (cnt s : Nat) (tr : Nat → Nat) (a : Int64 × (Nat → Nat)) : Prop := qfr Q0 Q [68, 69, 73, 74, 75] ∧ Q.2 75 0 = a.1 ∧ (∀ i, i < s → Q.1 73 i = nI (tr i)) ∧ (a.1 ≠ -1 → ∀ i, i < cnt → Q.1 74 i = nI (a.2 i))
/-- the sums of what is tried -/
theorem m_sums {Q0 Q : Mq} {cnt : Nat} {tr : Nat → Nat} (rec : Mq → Int32 → Int32 → Int32 → Int64 → Option (Mq × Unit)) (l1 : Int32) (l6 : Int64) (f0 : qfr Q0 Q [68, 69, 73, 74, 75]) (hc : Q0.1 33 0 = nI cnt) (h6 : cnt ≤ 6) (ht : ∀ i, i < cnt → Q.1 73 i = nI (tr i) ∧ tr i ≤ 12) : zev (zwhile (mf_search_L67 rec l1 l6) (Q, (0 : Int32))) (fun y => (∀ off, off < 48 → y.1.2 68 off = (List.range cnt).foldl (fun a i => a + Q0.2 70 (48 * (13 * i + tr i) + off)) 0) ∧ qfr Q y.1 [68]) := by
  refine zev_up (τ := Mq × Int32) (fun o (z : Mq × Int32) => ∃ Q1, z = (Q1, nI o) ∧ (∀ off, off < o → Q1.2 68 off = (List.range cnt).foldl (fun a i => a + Q0.2 70 (48 * (13 * i + tr i) + off)) 0) ∧ qfr Q Q1 [68]) 48 (Nat.zero_le _) ⟨Q, rfl, fun off ho => by omega, qfr.rf⟩ ?_ ?_
  · rintro o z ho ⟨Q1, rfl, e1, f1⟩
    unfold mf_search_L67
    dsimp only
    rw [if_neg (show ¬ (48 : Int32) ≤ nI o from nI_ge (b := 48) ho (by decide))]
    simp only [zev_b1, zev_mbd, zev_some, zev_b0, zev_bo, true_and, and_true, mev_sj (show o < 2 ^ 31 by omega), mln_2, mln_3, mln_4, mln_5, mln_6, mln_7, mln_8, mln_9, mln_10, mln_11, mln_12, mln_13, mln_15, mln_16, mln_17, mln_24, mln_25, mln_26, mln_27, mln_28, mln_29, mln_30, mln_31, mln_32, mln_34, mln_35, mln_37, mln_42, mln_49, mln_50, mln_51, mln_52, mln_53, mln_54, mln_55, mln_56, mln_57, mln_58, mln_59, mln_61, mln_62, mln_63, mln_65, mln_66, mln_68, mln_70, mln_71, mln_72, mln_73, mln_74, ho]
    refine zev_up (τ := Mq × Int32) (fun i (z : Mq × Int32) => ∃ Q2, z = (Q2, nI i) ∧ (∀ off, off < o → Q2.2 68 off = (List.range cnt).foldl (fun a i => a + Q0.2 70 (48 * (13 * i + tr i) + off)) 0) ∧ Q2.2 68 o = (List.range i).foldl (fun a i => a + Q0.2 70 (48 * (13 * i + tr i) + o)) 0 ∧ qfr Q Q2 [68]) cnt (i := 0) (Nat.zero_le _) ⟨_, rfl, fun off h => by rw [qj_2, if_neg (by omega)]; exact e1 off h, by rw [qj_2, if_pos ⟨rfl, rfl⟩]; rfl, f1.tr0 (qfr.qj (by decide))⟩ ?_ ?_
    · rintro i z hi ⟨Q2, rfl, g1, g2, g3⟩
      have c33 : Q2.1 33 0 = nI cnt := by rw [g3.i 33 (by decide), f0.i 33 (by decide)]; exact hc
      have c73 : Q2.1 73 i = nI (tr i) := by rw [g3.i 73 (by decide)]; exact (ht i hi).1
      have c70 : Q2.2 70 = Q0.2 70 := by rw [g3.j 70 (by decide), f0.j 70 (by decide)]
      have htr := (ht i hi).2
      unfold mf_search_L85
      dsimp only
      rw [c33, if_neg (nI_ge hi (show cnt < 2 ^ 31 by omega))]
      simp only [zev_b1, zev_mbd, zev_some, zev_b0, zev_bo, true_and, and_true, mev_aj (show o < 2 ^ 31 by omega), mev_ai (show i < 2 ^ 31 by omega), mev_sj (show o < 2 ^ 31 by omega), mln_2, mln_3, mln_4, mln_5, mln_6, mln_7, mln_8, mln_9, mln_10, mln_11, mln_12, mln_13, mln_15, mln_16, mln_17, mln_24, mln_25, mln_26, mln_27, mln_28, mln_29, mln_30, mln_31, mln_32, mln_34, mln_35, mln_37, mln_42, mln_49, mln_50, mln_51, mln_52, mln_53, mln_54, mln_55, mln_56, mln_57, mln_58, mln_59, mln_61, mln_62, mln_63, mln_65, mln_66, mln_68, mln_70, mln_71, mln_72, mln_73, mln_74, ho, show i < 6 by omega, c73, nI_x4, nI_x5, nI_x13, nI_x16, nI_x20, nI_x60, nI_x100, nI_x48r, nI_add, nI_1, mev_aj (show (13 * i + tr i) * 48 + o < 2 ^ 31 by omega), show (13 * i + tr i) * 48 + o < 3744 by omega]
      refine ⟨_, rfl, _, rfl, fun off h => ?_, ?_, g3.tr0 (qfr.qj (by decide))⟩
      · rw [qj_2, if_neg (by omega)]; exact g1 off h
      · rw [qj_2, if_pos ⟨rfl, rfl⟩, g2, c70, List.range_succ, List.foldl_append, Nat.mul_comm (13 * i + tr i) 48]
        rfl
    · rintro z ⟨Q2, rfl, g1, g2, g3⟩
      have c33 : Q2.1 33 0 = nI cnt := by rw [g3.i 33 (by decide), f0.i 33 (by decide)]; exact hc
      unfold mf_search_L85
      dsimp only
      rw [c33, if_pos (nI_le (Nat.le_refl cnt) (show cnt < 2 ^ 31 by omega)), zev_some]
      refine ⟨_, rfl, ?_⟩
      dsimp only
      refine ⟨_, rfl, Q2, by rw [nI_1], fun off h => ?_, g3⟩
      by_cases e : off = o
      · rw [e]; exact g2
      · exact g1 off (by omega)
  · rintro z ⟨Q1, rfl, e1, f1⟩
    unfold mf_search_L67
    dsimp only
    rw [if_pos (show (48 : Int32) ≤ nI 48 from nI_le (a := 48) (Nat.le_refl _) (by decide)), zev_some]
    exact ⟨_, rfl, e1, f1⟩
theorem m_pleaf {Q0 Q : Mq} {lb : List Lb} {l cnt : Nat} {q : Lb} {ml : Int64} {tr : Nat → Nat} {a : Int64 × (Nat → Nat)} (rec : Mq → Int32 → Int32 → Int32 → Int64 → Option (Mq × Unit)) (hL : mLs Q0 lb) (hq : lb[l]? = some q) (hc : Q0.1 33 0 = nI cnt) (h6 : cnt ≤ 6) (hA : Q0.2 67 0 = ml) (ok : (Nat → Nat) → Prop) [DecidablePred ok] {H : Nat → Int64} (hH : ∀ off, off < 48 → (List.range cnt).foldl (fun a i => a + Q0.2 70 (48 * (13 * i + tr i) + off)) 0 = H off) (hok : ok tr ↔ fbrk (lans H ml) 0 q.1 = -1) (h : mSe Q0 Q cnt cnt tr a) (ht : ∀ i, i < cnt → tr i ≤ 12) (dear : Int64) : zev (mf_search_J64 rec Q (nI l) dear) (fun y => mSe Q0 y.1 cnt cnt tr (if ok tr then (dear, tr) else a)) := by
  obtain ⟨f0, e75, e73, e74⟩ := h
  unfold mf_search_J64
  rw [zev_b1]
  refine zev_mono (m_sums rec (nI l) dear f0 hc h6 (fun i hi => ⟨e73 i hi, ht i hi⟩)) ?_
  rintro ⟨Q1, u1⟩ ⟨s1, f1⟩
  dsimp only at s1 f1 ⊢
  have f01 : qfr Q0 Q1 [68, 69, 73, 74, 75] := f0.tr0 (f1.mono (by decide))
  rw [zev_mbd]
  refine zev_mono (m_holdsAll (hL.fr f01 (by decide)) hq (H := H) (all := ml) (fun off ho => (s1 off ho).trans (hH off ho)) (by rw [f01.j 67 (by decide)]; exact hA)) ?_
  rintro ⟨Q2, u2⟩ ⟨-, f2, hh⟩
  dsimp only at f2 hh ⊢
  have f02 : qfr Q0 Q2 [68, 69, 73, 74, 75] := f01.tr0 (f2.mono (by decide))
  have k73 : Q2.1 73 = Q.1 73 := by rw [f2.i 73 (by decide), f1.i 73 (by decide)]
  have k74 : Q2.1 74 = Q.1 74 := by rw [f2.i 74 (by decide), f1.i 74 (by decide)]
  have k75 : Q2.2 75 = Q.2 75 := by rw [f2.j 75 (by decide), f1.j 75 (by decide)]
  by_cases ho : ok tr
  · have hf := hok.mp ho
    have hu : u2 = 1 := by
      rcases hh with ⟨-, q2⟩ | ⟨r, x, q1, q2, -⟩
      · exact q2
      · rw [hf] at q2
        have hrl := (List.getElem?_eq_some_iff.mp q1).1
        have := (hL.2.2 l q hq).2.2
        exact absurd q2.symm (by
          intro z
          have z2 := congrArg Int32.toInt z
          rw [nI_toInt (by omega)] at z2
          simp at z2)
    rw [if_pos hu, if_pos ho, zev_b1, zev_some, zev_b1]
    refine zev_up (τ := Mq × Int32) (fun i (z : Mq × Int32) => ∃ Q3, z = (Q3, nI i) ∧ qfr Q2 Q3 [74, 75] ∧ Q3.2 75 0 = dear ∧ ∀ j, j < i → Q3.1 74 j = nI (tr j)) cnt (i := 0) (Nat.zero_le _) ⟨_, rfl, qfr.qj (by decide), by rw [qj_2, if_pos ⟨rfl, rfl⟩], fun j hj => by omega⟩ ?_ ?_
    · rintro i z hi ⟨Q3, rfl, f3, g1, g2⟩
      have c33 : Q3.1 33 0 = nI cnt := by rw [f3.i 33 (by decide), f02.i 33 (by decide)]; exact hc
      have c73 : Q3.1 73 i = nI (tr i) := by rw [f3.i 73 (by decide), k73]; exact e73 i hi
      unfold mf_search_L164
      dsimp only
      rw [c33, if_neg (nI_ge hi (show cnt < 2 ^ 31 by omega))]
      simp only [zev_b1, zev_mbd, zev_some, zev_b0, zev_bo, true_and, and_true, mev_ai (show i < 2 ^ 31 by omega), mev_si (show i < 2 ^ 31 by omega), mln_2, mln_3, mln_4, mln_5, mln_6, mln_7, mln_8, mln_9, mln_10, mln_11, mln_12, mln_13, mln_15, mln_16, mln_17, mln_24, mln_25, mln_26, mln_27, mln_28, mln_29, mln_30, mln_31, mln_32, mln_34, mln_35, mln_37, mln_42, mln_49, mln_50, mln_51, mln_52, mln_53, mln_54, mln_55, mln_56, mln_57, mln_58, mln_59, mln_61, mln_62, mln_63, mln_65, mln_66, mln_68, mln_70, mln_71, mln_72, mln_73, mln_74, show i < 6 by omega, c73]
      refine ⟨_, rfl, _, by rw [nI_1], f3.tr0 (qfr.qi (by decide)), g1, fun j hj => ?_⟩
      rw [qi_1]
      by_cases e : j = i
      · rw [if_pos ⟨rfl, e⟩, e]
      · rw [if_neg (fun w => e w.2)]; exact g2 j (by omega)
    · rintro z ⟨Q3, rfl, f3, g1, g2⟩
      have c33 : Q3.1 33 0 = nI cnt := by rw [f3.i 33 (by decide), f02.i 33 (by decide)]; exact hc
      unfold mf_search_L164
      dsimp only
      rw [c33, if_pos (nI_le (Nat.le_refl cnt) (show cnt < 2 ^ 31 by omega)), zev_some]
      refine ⟨_, rfl, ?_⟩
      dsimp only
      rw [zev_some]
      exact ⟨f02.tr0 (f3.mono (by decide)), g1, fun i hi => by rw [f3.i 73 (by decide), k73]; exact e73 i hi, fun _ i hi => g2 i hi⟩
  · have hu : ¬ u2 = 1 := by
      rcases hh with ⟨q1, -⟩ | ⟨r, x, -, -, q1, q2⟩
      · exact absurd (hok.mpr q1) ho
      · rw [q1]; exact q2
    rw [if_neg hu, if_neg ho, zev_some]
    exact ⟨f02, by rw [k75]; exact e75, fun i hi => by rw [k73]; exact e73 i hi, fun w i hi => by rw [k74]; exact e74 w i hi⟩
theorem m_search {Q0 : Mq} {lb : List Lb} {l cnt : Nat} {q : Lb} {ml : Int64} {Mo : Nat → Nat} {D : Nat → Int64} (hL : mLs Q0 lb) (hq : lb[l]? = some q) (hc : Q0.1 33 0 = nI cnt) (h6 : cnt ≤ 6) (hA : Q0.2 67 0 = ml) (hMo : ∀ i, i < cnt → Q0.1 72 i = nI (Mo i) ∧ Mo i ≤ 12) (hDq : ∀ s j, s < cnt → j ≤ Mo s → Q0.2 71 (13 * s + j) = D (13 * s + j)) (hD : ∀ s j, s < cnt → j ≤ 12 → ∃ v : Nat, v ≤ 100000000000000000 ∧ D (13 * s + j) = lN v) (ok : (Nat → Nat) → Prop) [DecidablePred ok] {H : (Nat → Nat) → Nat → Int64} (hH : ∀ tr : Nat → Nat, (∀ i, i < cnt → tr i ≤ Mo i) → ∀ off, off < 48 → (List.range cnt).foldl (fun a i => a + Q0.2 70 (48 * (13 * i + tr i) + off)) 0 = H tr off) (hok : ∀ tr : Nat → Nat, ok tr ↔ fbrk (lans (H tr) ml) 0 q.1 = -1) : ∀ (n s left d e : Nat) (tr : Nat → Nat) (a : Int64 × (Nat → Nat)) (Q : Mq), s + (n + 1) = cnt → left ≤ 12 → n ≤ d → e ≤ s * 100000000000000000 → (a.1 = -1 ∨ ∃ k : Nat, k < 2 ^ 62 ∧ a.1 = lN k) → (∀ i, i < s → tr i ≤ Mo i) → mSe Q0 Q cnt s tr a → zev (mf_search (d + 1) Q (nI l) (nI s) (nI left) (lN e)) (fun y => mSe Q0 y.1 cnt s tr (ufr cnt Mo D ok (n + 1) s left (lN e) tr a))
  | 0, s, left, d, e, tr, a, Q, hsn, hl, hd, he, ha, htr, h => by
    have hs : s = cnt - 1 := by omega
    have hsc : s < cnt := by omega
    obtain ⟨f0, e75, e73, e74⟩ := id h
    have c33 : Q.1 33 0 = nI cnt := by rw [f0.i 33 (by decide)]; exact hc
    have c72 : Q.1 72 s = nI (Mo s) := by rw [f0.i 72 (by decide)]; exact (hMo s hsc).1
    have hM12 := (hMo s hsc).2
    have eP : nI cnt - 1 = nI (cnt - 1) := pk_sub (b := 1) (by omega)
    unfold mf_search mf_searchbody
    rw [c33, eP, if_pos (by rw [hs])]
    simp only [zev_b1, zev_mbd, zev_some, zev_b0, zev_bo, true_and, and_true, mev_ai (show s < 2 ^ 31 by omega), mln_2, mln_3, mln_4, mln_5, mln_6, mln_7, mln_8, mln_9, mln_10, mln_11, mln_12, mln_13, mln_15, mln_16, mln_17, mln_24, mln_25, mln_26, mln_27, mln_28, mln_29, mln_30, mln_31, mln_32, mln_34, mln_35, mln_37, mln_42, mln_49, mln_50, mln_51, mln_52, mln_53, mln_54, mln_55, mln_56, mln_57, mln_58, mln_59, mln_61, mln_62, mln_63, mln_65, mln_66, mln_68, mln_70, mln_71, mln_72, mln_73, mln_74, show s < 6 by omega, c72]
    unfold ufr
    rw [if_pos hs]
    by_cases hlm : left ≤ Mo s
    · have em : min left (Mo s) + 1 - left = 1 := by rw [Nat.min_eq_left hlm]; omega
      rw [em, if_pos (nI_le hlm (by omega))]
      have el : List.range' left 1 = [left] := rfl
      rw [el, List.foldl_cons, List.foldl_nil, Nat.sub_self]
      simp only [zev_b1, zev_mbd, zev_some, zev_b0, zev_bo, true_and, and_true, mev_si (show s < 2 ^ 31 by omega), mln_2, mln_3, mln_4, mln_5, mln_6, mln_7, mln_8, mln_9, mln_10, mln_11, mln_12, mln_13, mln_15, mln_16, mln_17, mln_24, mln_25, mln_26, mln_27, mln_28, mln_29, mln_30, mln_31, mln_32, mln_34, mln_35, mln_37, mln_42, mln_49, mln_50, mln_51, mln_52, mln_53, mln_54, mln_55, mln_56, mln_57, mln_58, mln_59, mln_61, mln_62, mln_63, mln_65, mln_66, mln_68, mln_70, mln_71, mln_72, mln_73, mln_74, show s < 6 by omega, nI_x4, nI_x5, nI_x13, nI_x16, nI_x20, nI_x60, nI_x100, nI_x48r, nI_add, nI_1, mev_aj (show 13 * s + left < 2 ^ 31 by omega), show 13 * s + left < 78 by omega]
      have f1 : qfr Q (qi Q 73 s (nI left)) [73] := qfr.qi (by decide)
      have c71 : (qi Q 73 s (nI left)).2 71 (13 * s + left) = D (13 * s + left) := by rw [f1.j 71 (by decide), f0.j 71 (by decide)]; exact hDq s left hsc hlm
      have h2 : mSe Q0 (qi Q 73 s (nI left)) cnt cnt (fuN tr s left) a := by
        refine ⟨f0.tr0 (f1.mono (by decide)), e75, fun i hi => ?_, fun w i hi => by rw [f1.i 74 (by decide)]; exact e74 w i hi⟩
        rw [qi_1]
        unfold fuN
        by_cases z : i = s
        · rw [if_pos ⟨rfl, z⟩, if_pos z]
        · rw [if_neg (fun w => z w.2), if_neg z]; exact e73 i (by omega)
      rw [c71]
      generalize qi Q 73 s (nI left) = Q2 at h2 ⊢
      have k75 := h2.2.1
      have ht2 : ∀ i, i < cnt → fuN tr s left i ≤ Mo i := fun i hi => by
        unfold fuN
        by_cases z : i = s
        · rw [if_pos z, z]; exact hlm
        · rw [if_neg z]; exact htr i (by omega)
      have leaf := m_pleaf (a := a) (mf_search d) hL hq hc h6 hA ok (hH (fuN tr s left) ht2) (hok (fuN tr s left)) h2 (fun i hi => Nat.le_trans (ht2 i hi) (hMo i hi).2) (lN e + D (13 * s + left))
      have down : ∀ Q3 b, mSe Q0 Q3 cnt cnt (fuN tr s left) b → mSe Q0 Q3 cnt s tr b := fun Q3 b hb => ⟨hb.1, hb.2.1, fun i hi => by
        rw [hb.2.2.1 i (by omega)]
        unfold fuN
        rw [if_neg (by omega)], hb.2.2.2⟩
      have eu : ufr cnt Mo D ok 0 (s + 1) 0 (lN e + D (13 * s + left)) (fuN tr s left) a = if a.1 ≠ -1 ∧ ¬ lN e + D (13 * s + left) < a.1 then a else if ok (fuN tr s left) then (lN e + D (13 * s + left), fuN tr s left) else a := by
        unfold ufr
        by_cases z : a.1 ≠ -1 ∧ ¬ lN e + D (13 * s + left) < a.1
        · rw [if_pos z, if_pos z]
        · rw [if_neg z, if_neg z]
          by_cases z2 : ok (fuN tr s left)
          · rw [if_pos ⟨rfl, z2⟩, if_pos z2]
          · rw [if_neg (fun w => z2 w.2), if_neg z2]
      rw [eu, k75]
      rcases ha with ha | ⟨k, hk1, hk2⟩
      · rw [if_pos (by rw [ha]; decide), if_neg (fun w => w.1 ha)]
        exact zev_mono leaf (fun y hy => down _ _ hy)
      · have hnn : ¬ a.1 < 0 := by rw [hk2]; exact fun w => absurd ((pk_lLT (b := 0) (by omega) (by omega)).mp w) (by omega)
        have hm1 : a.1 ≠ -1 := by
          intro w
          rw [w] at hnn
          exact hnn (by decide)
        rw [if_neg hnn]
        by_cases z : lN e + D (13 * s + left) < a.1
        · rw [if_pos z, if_neg (fun w => w.2 z)]
          exact zev_mono leaf (fun y hy => down _ _ hy)
        · rw [if_neg z, if_pos ⟨hm1, z⟩, zev_some]
          exact down _ _ h2
    · have em : min left (Mo s) + 1 - left = 0 := by rw [Nat.min_eq_right (by omega)]; omega
      rw [em, if_neg (nI_ge (by omega) (by omega)), zev_some]
      exact h
  | n + 1, s, left, d, e, tr, a, Q, hsn, hl, hd, he, ha, htr, h => by
    have hsc : s < cnt := by omega
    obtain ⟨f0, e75, e73, e74⟩ := id h
    obtain ⟨d, rfl⟩ : ∃ d', d = d' + 1 := ⟨d - 1, by omega⟩
    have c33 : Q.1 33 0 = nI cnt := by rw [f0.i 33 (by decide)]; exact hc
    have hM12 := (hMo s hsc).2
    have eP : nI cnt - 1 = nI (cnt - 1) := pk_sub (b := 1) (by omega)
    have hne : ¬ s = cnt - 1 := by omega
    rw [mf_search, mf_searchbody, c33, eP, if_neg (fun w => hne ((nI_eq (by omega) (by omega)).mp w))]
    unfold ufr
    rw [if_neg hne, Nat.sub_zero, zev_b1]
    refine zev_up (τ := Mq × Int32) (fun i (z : Mq × Int32) => ∃ Q1, z = (Q1, nI i) ∧ mSe Q0 Q1 cnt s tr ((List.range' 0 i).foldl (fun a j => ufr cnt Mo D ok (n + 1) (s + 1) (left - j) (lN e + D (13 * s + j)) (fuN tr s j) a) a) ∧ (((List.range' 0 i).foldl (fun a j => ufr cnt Mo D ok (n + 1) (s + 1) (left - j) (lN e + D (13 * s + j)) (fuN tr s j) a) a).1 = -1 ∨ ∃ k : Nat, k < 2 ^ 62 ∧ ((List.range' 0 i).foldl (fun a j => ufr cnt Mo D ok (n + 1) (s + 1) (left - j) (lN e + D (13 * s + j)) (fuN tr s j) a) a).1 = lN k)) (min left (Mo s) + 1) (i := 0) (Nat.zero_le _) ⟨Q, rfl, h, ha⟩ ?_ ?_
    · rintro i z hi ⟨Q1, rfl, g1, g2⟩
      have hil : i ≤ left := by omega
      have him : i ≤ Mo s := by omega
      obtain ⟨f1, k75, k73, k74⟩ := id g1
      have c72 : Q1.1 72 s = nI (Mo s) := by rw [f1.i 72 (by decide)]; exact (hMo s hsc).1
      have eL : nI left - nI i = nI (left - i) := pk_sub hil
      have e1 : List.range' 0 (i + 1) = List.range' 0 i ++ [i] := by
        have := List.range'_concat (step := 1) (s := 0) (n := i)
        simpa using this
      obtain ⟨v, hv, ev⟩ := hD s i hsc (by omega)
      unfold mf_search_L197
      dsimp only
      rw [if_neg (nI_nlt hil (by omega))]
      simp only [zev_b1, zev_mbd, zev_some, zev_b0, zev_bo, true_and, and_true, mev_ai (show s < 2 ^ 31 by omega), mln_2, mln_3, mln_4, mln_5, mln_6, mln_7, mln_8, mln_9, mln_10, mln_11, mln_12, mln_13, mln_15, mln_16, mln_17, mln_24, mln_25, mln_26, mln_27, mln_28, mln_29, mln_30, mln_31, mln_32, mln_34, mln_35, mln_37, mln_42, mln_49, mln_50, mln_51, mln_52, mln_53, mln_54, mln_55, mln_56, mln_57, mln_58, mln_59, mln_61, mln_62, mln_63, mln_65, mln_66, mln_68, mln_70, mln_71, mln_72, mln_73, mln_74, show s < 6 by omega, c72, if_neg (nI_nlt him (by omega)), mev_si (show s < 2 ^ 31 by omega), nI_x4, nI_x5, nI_x13, nI_x16, nI_x20, nI_x60, nI_x100, nI_x48r, nI_add, nI_1, mev_aj (show 13 * s + i < 2 ^ 31 by omega), show 13 * s + i < 78 by omega, eL]
      have f2 : qfr Q1 (qi Q1 73 s (nI i)) [73] := qfr.qi (by decide)
      have c71 : (qi Q1 73 s (nI i)).2 71 (13 * s + i) = D (13 * s + i) := by rw [f2.j 71 (by decide), f1.j 71 (by decide)]; exact hDq s i hsc him
      obtain ⟨b, hb⟩ : ∃ b, (List.range' 0 i).foldl (fun a j => ufr cnt Mo D ok (n + 1) (s + 1) (left - j) (lN e + D (13 * s + j)) (fuN tr s j) a) a = b := ⟨_, rfl⟩
      rw [hb] at g1 g2 k75 k74
      have h2 : mSe Q0 (qi Q1 73 s (nI i)) cnt (s + 1) (fuN tr s i) b := by
        refine ⟨f1.tr0 (f2.mono (by decide)), k75, fun j hj => ?_, fun w j hj => by rw [f2.i 74 (by decide)]; exact k74 w j hj⟩
        rw [qi_1]
        unfold fuN
        by_cases z : j = s
        · rw [if_pos ⟨rfl, z⟩, if_pos z]
        · rw [if_neg (fun w => z w.2), if_neg z]; exact k73 j (by omega)
      rw [c71, ev, lN_add]
      have ht2 : ∀ j, j < s + 1 → fuN tr s i j ≤ Mo j := fun j hj => by
        unfold fuN
        by_cases z : j = s
        · rw [if_pos z, z]; exact him
        · rw [if_neg z]; exact htr j (by omega)
      refine zev_mono (m_search hL hq hc h6 hA hMo hDq hD ok hH hok n (s + 1) (left - i) d (e + v) (fuN tr s i) b (qi Q1 73 s (nI i)) (by omega) (by omega) (by omega) (by omega) g2 ht2 h2) ?_
      rintro ⟨Q3, u3⟩ h3
      dsimp only at h3 ⊢
      refine ⟨_, rfl, Q3, rfl, ?_⟩
      rw [e1, List.foldl_append, List.foldl_cons, List.foldl_nil, hb, ev, lN_add]
      exact ⟨⟨h3.1, h3.2.1, fun j hj => by
        rw [h3.2.2.1 j (by omega)]
        unfold fuN
        rw [if_neg (by omega)], h3.2.2.2⟩, (ufr_at (Mo := Mo) (ok := ok) h6 hD (n + 1) (s + 1) (left - i) (e + v) (fuN tr s i) b (by omega) (by omega) (by omega) g2).1⟩
    · rintro z ⟨Q1, rfl, g1, g2⟩
      obtain ⟨f1, k75, k73, k74⟩ := id g1
      have c72 : Q1.1 72 s = nI (Mo s) := by rw [f1.i 72 (by decide)]; exact (hMo s hsc).1
      unfold mf_search_L197
      dsimp only
      by_cases z : left < min left (Mo s) + 1
      · rw [if_pos (nI_lt z (by omega)), zev_some]
        refine ⟨_, rfl, ?_⟩
        dsimp only
        rw [zev_some]
        exact g1
      · rw [if_neg (nI_nlt (by omega) (by omega))]
        simp only [zev_b1, zev_mbd, zev_some, zev_b0, zev_bo, true_and, and_true, mev_ai (show s < 2 ^ 31 by omega), mln_2, mln_3, mln_4, mln_5, mln_6, mln_7, mln_8, mln_9, mln_10, mln_11, mln_12, mln_13, mln_15, mln_16, mln_17, mln_24, mln_25, mln_26, mln_27, mln_28, mln_29, mln_30, mln_31, mln_32, mln_34, mln_35, mln_37, mln_42, mln_49, mln_50, mln_51, mln_52, mln_53, mln_54, mln_55, mln_56, mln_57, mln_58, mln_59, mln_61, mln_62, mln_63, mln_65, mln_66, mln_68, mln_70, mln_71, mln_72, mln_73, mln_74, show s < 6 by omega, c72, if_pos (nI_lt (show Mo s < min left (Mo s) + 1 by omega) (by omega))]
        exact ⟨_, rfl, g1⟩
