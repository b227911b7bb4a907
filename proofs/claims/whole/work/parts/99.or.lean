/-! The reference's acts: what a rule answers. -/
theorem rans_app (h : Lf → Int32) : ∀ (a b : List Lf), rans h (a ++ b) = if rans h a = 0 then rans h b else rans h a
  | [], b => by simp [rans]
  | q :: r, b => by
    show (if h q = 0 then rans h (r ++ b) else h q) = if (if h q = 0 then rans h r else h q) = 0 then rans h b else (if h q = 0 then rans h r else h q)
    by_cases e : h q = 0
    · rw [if_pos e, if_pos e, rans_app h r b]
    · rw [if_neg e, if_neg e, if_neg e]
theorem m_leaf {rec : Mq → Int32 → Option (Mq × Int32)} {Q : Mq} {t : Nat} {q : Lf} {H : Nat → Int64} {all : Int64} (ht : t < 800) (hq : lfok q) (e1 : Q.1 27 t = nI q.1) (e2 : Q.1 28 t = nI q.2.1) (e3 : Q.1 29 t = nI q.2.2.1) (e4 : Q.1 30 t = nI q.2.2.2) (hH : ∀ off, off < 48 → Q.2 68 off = H off) (hA : Q.2 67 0 = all) : mf_holdsbody rec Q (nI t) = some (Q, lans H all q) := by
  refine zev_of ?_
  obtain ⟨op, dim, va, hu⟩ := q
  obtain ⟨⟨q1, q2⟩, ⟨q3, q4⟩, q5, q6⟩ := hq
  dsimp only at q1 q2 q3 q4 q5 q6 e1 e2 e3 e4
  obtain ⟨d, rfl⟩ : ∃ d, dim = d + 1 := ⟨dim - 1, by omega⟩
  have t31 : t < 2 ^ 31 := by omega
  have ed : nI (d + 1) - 1 = nI d := by rw [← nI_1]; exact Int32.add_sub_cancel _ _
  unfold mf_holdsbody mf_holds_J86 mf_holds_J125 mf_holds_J173 mf_holds_J202 mf_holds_J228 mf_holds_J244 mf_holds_J246 lans liso
  have h6 : ¬ nI op = 6 := fun z => by have := (nI_eq (show op < 2 ^ 31 by omega) (show 6 < 2 ^ 31 by decide)).mp z; omega
  have hcs : op = 1 ∨ op = 2 ∨ op = 3 ∨ op = 4 ∨ op = 5 := by omega
  have hs := hH (16 * d + va) (by omega)
  generalize hG : H (16 * d + va) = s at hs
  have tv : 16 * d + va < 2 ^ 31 := by omega
  have tw : 16 * d + va < 48 := by omega
  rcases hcs with e | e | e | e | e
  · subst e
    replace e1 : Q.1 27 t = 1 := e1
    by_cases a0 : all = 0
    · simp only [zev_b1, zev_mbd, zev_some, zev_b0, zev_bo, true_and, and_true, mln_2, mln_3, mln_4, mln_5, mln_6, mln_7, mln_8, mln_9, mln_10, mln_11, mln_12, mln_13, mln_15, mln_16, mln_17, mln_24, mln_25, mln_26, mln_27, mln_28, mln_29, mln_30, mln_31, mln_32, mln_34, mln_35, mln_37, mln_42, mln_49, mln_50, mln_51, mln_52, mln_53, mln_54, mln_55, mln_56, mln_57, mln_58, mln_59, mln_61, mln_62, mln_63, mln_65, mln_66, mln_68, mln_70, mln_71, mln_72, mln_73, mln_74, mev_ai t31, ht, e1, e2, e3, e4, ed, nI_x4, nI_x5, nI_x13, nI_x16, nI_x20, nI_x60, nI_x100, nI_x48r, nI_add, nI_1, mev_aj tv, tw, hs, hG, hA, Nat.add_sub_cancel, if_true, if_false, show ¬ (1 : Int32) = 6 by decide, show ¬ (2 : Int32) < 1 by decide, show (1 : Nat) ≤ 2 by decide, show ¬ (1 : Int32) = 0 by decide, a0, and_self, true_and, and_true]
    · by_cases c : s * 100 / all < (nI hu).toInt64
      · simp only [zev_b1, zev_mbd, zev_some, zev_b0, zev_bo, true_and, and_true, mln_2, mln_3, mln_4, mln_5, mln_6, mln_7, mln_8, mln_9, mln_10, mln_11, mln_12, mln_13, mln_15, mln_16, mln_17, mln_24, mln_25, mln_26, mln_27, mln_28, mln_29, mln_30, mln_31, mln_32, mln_34, mln_35, mln_37, mln_42, mln_49, mln_50, mln_51, mln_52, mln_53, mln_54, mln_55, mln_56, mln_57, mln_58, mln_59, mln_61, mln_62, mln_63, mln_65, mln_66, mln_68, mln_70, mln_71, mln_72, mln_73, mln_74, mev_ai t31, ht, e1, e2, e3, e4, ed, nI_x4, nI_x5, nI_x13, nI_x16, nI_x20, nI_x60, nI_x100, nI_x48r, nI_add, nI_1, mev_aj tv, tw, hs, hG, hA, Nat.add_sub_cancel, if_true, if_false, show ¬ (1 : Int32) = 6 by decide, show ¬ (2 : Int32) < 1 by decide, show (1 : Nat) ≤ 2 by decide, show ¬ (1 : Int32) = 0 by decide, a0, false_and, zev_ld, ne_eq, not_false_eq_true, true_and, c]
      · simp only [zev_b1, zev_mbd, zev_some, zev_b0, zev_bo, true_and, and_true, mln_2, mln_3, mln_4, mln_5, mln_6, mln_7, mln_8, mln_9, mln_10, mln_11, mln_12, mln_13, mln_15, mln_16, mln_17, mln_24, mln_25, mln_26, mln_27, mln_28, mln_29, mln_30, mln_31, mln_32, mln_34, mln_35, mln_37, mln_42, mln_49, mln_50, mln_51, mln_52, mln_53, mln_54, mln_55, mln_56, mln_57, mln_58, mln_59, mln_61, mln_62, mln_63, mln_65, mln_66, mln_68, mln_70, mln_71, mln_72, mln_73, mln_74, mev_ai t31, ht, e1, e2, e3, e4, ed, nI_x4, nI_x5, nI_x13, nI_x16, nI_x20, nI_x60, nI_x100, nI_x48r, nI_add, nI_1, mev_aj tv, tw, hs, hG, hA, Nat.add_sub_cancel, if_true, if_false, show ¬ (1 : Int32) = 6 by decide, show ¬ (2 : Int32) < 1 by decide, show (1 : Nat) ≤ 2 by decide, show ¬ (1 : Int32) = 0 by decide, a0, false_and, zev_ld, ne_eq, not_false_eq_true, true_and, c]
  · subst e
    replace e1 : Q.1 27 t = 2 := e1
    by_cases a0 : all = 0
    · simp only [zev_b1, zev_mbd, zev_some, zev_b0, zev_bo, true_and, and_true, mln_2, mln_3, mln_4, mln_5, mln_6, mln_7, mln_8, mln_9, mln_10, mln_11, mln_12, mln_13, mln_15, mln_16, mln_17, mln_24, mln_25, mln_26, mln_27, mln_28, mln_29, mln_30, mln_31, mln_32, mln_34, mln_35, mln_37, mln_42, mln_49, mln_50, mln_51, mln_52, mln_53, mln_54, mln_55, mln_56, mln_57, mln_58, mln_59, mln_61, mln_62, mln_63, mln_65, mln_66, mln_68, mln_70, mln_71, mln_72, mln_73, mln_74, mev_ai t31, ht, e1, e2, e3, e4, ed, nI_x4, nI_x5, nI_x13, nI_x16, nI_x20, nI_x60, nI_x100, nI_x48r, nI_add, nI_1, mev_aj tv, tw, hs, hG, hA, Nat.add_sub_cancel, if_true, if_false, show ¬ (2 : Int32) = 6 by decide, show ¬ (2 : Int32) < 2 by decide, show ¬ (2 : Int32) = 1 by decide, show ¬ (2 : Nat) = 1 by decide, show (2 : Nat) ≤ 2 by decide, show ¬ (1 : Int32) = 0 by decide, a0, and_self, true_and, and_true]
    · by_cases c : (nI hu).toInt64 < (s * 100 + all - 1) / all
      · simp only [zev_b1, zev_mbd, zev_some, zev_b0, zev_bo, true_and, and_true, mln_2, mln_3, mln_4, mln_5, mln_6, mln_7, mln_8, mln_9, mln_10, mln_11, mln_12, mln_13, mln_15, mln_16, mln_17, mln_24, mln_25, mln_26, mln_27, mln_28, mln_29, mln_30, mln_31, mln_32, mln_34, mln_35, mln_37, mln_42, mln_49, mln_50, mln_51, mln_52, mln_53, mln_54, mln_55, mln_56, mln_57, mln_58, mln_59, mln_61, mln_62, mln_63, mln_65, mln_66, mln_68, mln_70, mln_71, mln_72, mln_73, mln_74, mev_ai t31, ht, e1, e2, e3, e4, ed, nI_x4, nI_x5, nI_x13, nI_x16, nI_x20, nI_x60, nI_x100, nI_x48r, nI_add, nI_1, mev_aj tv, tw, hs, hG, hA, Nat.add_sub_cancel, if_true, if_false, show ¬ (2 : Int32) = 6 by decide, show ¬ (2 : Int32) < 2 by decide, show ¬ (2 : Int32) = 1 by decide, show ¬ (2 : Nat) = 1 by decide, show (2 : Nat) ≤ 2 by decide, show ¬ (1 : Int32) = 0 by decide, a0, false_and, zev_ld, ne_eq, not_false_eq_true, true_and, c]
      · simp only [zev_b1, zev_mbd, zev_some, zev_b0, zev_bo, true_and, and_true, mln_2, mln_3, mln_4, mln_5, mln_6, mln_7, mln_8, mln_9, mln_10, mln_11, mln_12, mln_13, mln_15, mln_16, mln_17, mln_24, mln_25, mln_26, mln_27, mln_28, mln_29, mln_30, mln_31, mln_32, mln_34, mln_35, mln_37, mln_42, mln_49, mln_50, mln_51, mln_52, mln_53, mln_54, mln_55, mln_56, mln_57, mln_58, mln_59, mln_61, mln_62, mln_63, mln_65, mln_66, mln_68, mln_70, mln_71, mln_72, mln_73, mln_74, mev_ai t31, ht, e1, e2, e3, e4, ed, nI_x4, nI_x5, nI_x13, nI_x16, nI_x20, nI_x60, nI_x100, nI_x48r, nI_add, nI_1, mev_aj tv, tw, hs, hG, hA, Nat.add_sub_cancel, if_true, if_false, show ¬ (2 : Int32) = 6 by decide, show ¬ (2 : Int32) < 2 by decide, show ¬ (2 : Int32) = 1 by decide, show ¬ (2 : Nat) = 1 by decide, show (2 : Nat) ≤ 2 by decide, show ¬ (1 : Int32) = 0 by decide, a0, false_and, zev_ld, ne_eq, not_false_eq_true, true_and, c]
  · subst e
    replace e1 : Q.1 27 t = 3 := e1
    by_cases c : s = all
    · simp only [zev_b1, zev_mbd, zev_some, zev_b0, zev_bo, true_and, and_true, mln_2, mln_3, mln_4, mln_5, mln_6, mln_7, mln_8, mln_9, mln_10, mln_11, mln_12, mln_13, mln_15, mln_16, mln_17, mln_24, mln_25, mln_26, mln_27, mln_28, mln_29, mln_30, mln_31, mln_32, mln_34, mln_35, mln_37, mln_42, mln_49, mln_50, mln_51, mln_52, mln_53, mln_54, mln_55, mln_56, mln_57, mln_58, mln_59, mln_61, mln_62, mln_63, mln_65, mln_66, mln_68, mln_70, mln_71, mln_72, mln_73, mln_74, mev_ai t31, ht, e1, e2, e3, e4, ed, nI_x4, nI_x5, nI_x13, nI_x16, nI_x20, nI_x60, nI_x100, nI_x48r, nI_add, nI_1, mev_aj tv, tw, hs, hG, hA, Nat.add_sub_cancel, if_true, if_false, show ¬ (3 : Int32) = 6 by decide, show (2 : Int32) < 3 by decide, show ¬ (3 : Int32) = 1 by decide, show ¬ (3 : Nat) = 1 by decide, show ¬ (3 : Int32) = 2 by decide, show ¬ (3 : Nat) = 2 by decide, show ¬ (3 : Nat) ≤ 2 by decide, show ¬ (1 : Int32) = 0 by decide, and_false, c]
    · simp only [zev_b1, zev_mbd, zev_some, zev_b0, zev_bo, true_and, and_true, mln_2, mln_3, mln_4, mln_5, mln_6, mln_7, mln_8, mln_9, mln_10, mln_11, mln_12, mln_13, mln_15, mln_16, mln_17, mln_24, mln_25, mln_26, mln_27, mln_28, mln_29, mln_30, mln_31, mln_32, mln_34, mln_35, mln_37, mln_42, mln_49, mln_50, mln_51, mln_52, mln_53, mln_54, mln_55, mln_56, mln_57, mln_58, mln_59, mln_61, mln_62, mln_63, mln_65, mln_66, mln_68, mln_70, mln_71, mln_72, mln_73, mln_74, mev_ai t31, ht, e1, e2, e3, e4, ed, nI_x4, nI_x5, nI_x13, nI_x16, nI_x20, nI_x60, nI_x100, nI_x48r, nI_add, nI_1, mev_aj tv, tw, hs, hG, hA, Nat.add_sub_cancel, if_true, if_false, show ¬ (3 : Int32) = 6 by decide, show (2 : Int32) < 3 by decide, show ¬ (3 : Int32) = 1 by decide, show ¬ (3 : Nat) = 1 by decide, show ¬ (3 : Int32) = 2 by decide, show ¬ (3 : Nat) = 2 by decide, show ¬ (3 : Nat) ≤ 2 by decide, show ¬ (1 : Int32) = 0 by decide, and_false, c]
  · subst e
    replace e1 : Q.1 27 t = 4 := e1
    by_cases c : s ≤ 0
    · simp only [zev_b1, zev_mbd, zev_some, zev_b0, zev_bo, true_and, and_true, mln_2, mln_3, mln_4, mln_5, mln_6, mln_7, mln_8, mln_9, mln_10, mln_11, mln_12, mln_13, mln_15, mln_16, mln_17, mln_24, mln_25, mln_26, mln_27, mln_28, mln_29, mln_30, mln_31, mln_32, mln_34, mln_35, mln_37, mln_42, mln_49, mln_50, mln_51, mln_52, mln_53, mln_54, mln_55, mln_56, mln_57, mln_58, mln_59, mln_61, mln_62, mln_63, mln_65, mln_66, mln_68, mln_70, mln_71, mln_72, mln_73, mln_74, mev_ai t31, ht, e1, e2, e3, e4, ed, nI_x4, nI_x5, nI_x13, nI_x16, nI_x20, nI_x60, nI_x100, nI_x48r, nI_add, nI_1, mev_aj tv, tw, hs, hG, hA, Nat.add_sub_cancel, if_true, if_false, show ¬ (4 : Int32) = 6 by decide, show (2 : Int32) < 4 by decide, show ¬ (4 : Int32) = 1 by decide, show ¬ (4 : Nat) = 1 by decide, show ¬ (4 : Int32) = 2 by decide, show ¬ (4 : Nat) = 2 by decide, show ¬ (4 : Int32) = 3 by decide, show ¬ (4 : Nat) = 3 by decide, show ¬ (4 : Nat) ≤ 2 by decide, show ¬ (1 : Int32) = 0 by decide, and_false, c]
    · simp only [zev_b1, zev_mbd, zev_some, zev_b0, zev_bo, true_and, and_true, mln_2, mln_3, mln_4, mln_5, mln_6, mln_7, mln_8, mln_9, mln_10, mln_11, mln_12, mln_13, mln_15, mln_16, mln_17, mln_24, mln_25, mln_26, mln_27, mln_28, mln_29, mln_30, mln_31, mln_32, mln_34, mln_35, mln_37, mln_42, mln_49, mln_50, mln_51, mln_52, mln_53, mln_54, mln_55, mln_56, mln_57, mln_58, mln_59, mln_61, mln_62, mln_63, mln_65, mln_66, mln_68, mln_70, mln_71, mln_72, mln_73, mln_74, mev_ai t31, ht, e1, e2, e3, e4, ed, nI_x4, nI_x5, nI_x13, nI_x16, nI_x20, nI_x60, nI_x100, nI_x48r, nI_add, nI_1, mev_aj tv, tw, hs, hG, hA, Nat.add_sub_cancel, if_true, if_false, show ¬ (4 : Int32) = 6 by decide, show (2 : Int32) < 4 by decide, show ¬ (4 : Int32) = 1 by decide, show ¬ (4 : Nat) = 1 by decide, show ¬ (4 : Int32) = 2 by decide, show ¬ (4 : Nat) = 2 by decide, show ¬ (4 : Int32) = 3 by decide, show ¬ (4 : Nat) = 3 by decide, show ¬ (4 : Nat) ≤ 2 by decide, show ¬ (1 : Int32) = 0 by decide, and_false, c]
  · subst e
    replace e1 : Q.1 27 t = 5 := e1
    by_cases c : s = 0
    · simp only [zev_b1, zev_mbd, zev_some, zev_b0, zev_bo, true_and, and_true, mln_2, mln_3, mln_4, mln_5, mln_6, mln_7, mln_8, mln_9, mln_10, mln_11, mln_12, mln_13, mln_15, mln_16, mln_17, mln_24, mln_25, mln_26, mln_27, mln_28, mln_29, mln_30, mln_31, mln_32, mln_34, mln_35, mln_37, mln_42, mln_49, mln_50, mln_51, mln_52, mln_53, mln_54, mln_55, mln_56, mln_57, mln_58, mln_59, mln_61, mln_62, mln_63, mln_65, mln_66, mln_68, mln_70, mln_71, mln_72, mln_73, mln_74, mev_ai t31, ht, e1, e2, e3, e4, ed, nI_x4, nI_x5, nI_x13, nI_x16, nI_x20, nI_x60, nI_x100, nI_x48r, nI_add, nI_1, mev_aj tv, tw, hs, hG, hA, Nat.add_sub_cancel, if_true, if_false, show ¬ (5 : Int32) = 6 by decide, show (2 : Int32) < 5 by decide, show ¬ (5 : Int32) = 1 by decide, show ¬ (5 : Nat) = 1 by decide, show ¬ (5 : Int32) = 2 by decide, show ¬ (5 : Nat) = 2 by decide, show ¬ (5 : Int32) = 3 by decide, show ¬ (5 : Nat) = 3 by decide, show ¬ (5 : Int32) = 4 by decide, show ¬ (5 : Nat) = 4 by decide, show ¬ (5 : Nat) ≤ 2 by decide, show ¬ (1 : Int32) = 0 by decide, and_false, c]
    · simp only [zev_b1, zev_mbd, zev_some, zev_b0, zev_bo, true_and, and_true, mln_2, mln_3, mln_4, mln_5, mln_6, mln_7, mln_8, mln_9, mln_10, mln_11, mln_12, mln_13, mln_15, mln_16, mln_17, mln_24, mln_25, mln_26, mln_27, mln_28, mln_29, mln_30, mln_31, mln_32, mln_34, mln_35, mln_37, mln_42, mln_49, mln_50, mln_51, mln_52, mln_53, mln_54, mln_55, mln_56, mln_57, mln_58, mln_59, mln_61, mln_62, mln_63, mln_65, mln_66, mln_68, mln_70, mln_71, mln_72, mln_73, mln_74, mev_ai t31, ht, e1, e2, e3, e4, ed, nI_x4, nI_x5, nI_x13, nI_x16, nI_x20, nI_x60, nI_x100, nI_x48r, nI_add, nI_1, mev_aj tv, tw, hs, hG, hA, Nat.add_sub_cancel, if_true, if_false, show ¬ (5 : Int32) = 6 by decide, show (2 : Int32) < 5 by decide, show ¬ (5 : Int32) = 1 by decide, show ¬ (5 : Nat) = 1 by decide, show ¬ (5 : Int32) = 2 by decide, show ¬ (5 : Nat) = 2 by decide, show ¬ (5 : Int32) = 3 by decide, show ¬ (5 : Nat) = 3 by decide, show ¬ (5 : Int32) = 4 by decide, show ¬ (5 : Nat) = 4 by decide, show ¬ (5 : Nat) ≤ 2 by decide, show ¬ (1 : Int32) = 0 by decide, and_false, c]
theorem m_holds {Q : Mq} {lo hi : Nat} {H : Nat → Int64} {all : Int64} (h8 : hi ≤ 800) (hH : ∀ off, off < 48 → Q.2 68 off = H off) (hA : Q.2 67 0 = all) : ∀ (d fu t : Nat) (ls : List Lf), d ≤ fu → mTr Q lo hi d t ls → mf_holds fu Q (nI t) = some (Q, rans (lans H all) ls)
  | 0, _, _, _, _, h => h.elim
  | d + 1, 0, _, _, hd, _ => by omega
  | d + 1, fu + 1, t, ls, hd, h => by
    obtain ⟨⟨h1, h2⟩, h3⟩ := h
    show mf_holdsbody (mf_holds fu) Q (nI t) = _
    rcases h3 with ⟨q, e1, e2, e3, e4, e5, e6⟩ | ⟨t1, t2, l1, l2, e1, e2, e3, e4, e5, e6⟩
    · rw [m_leaf (by omega) e2 e3 e4 e5 e6 hH hA, e1]
      unfold rans
      by_cases e : lans H all q = 0
      · rw [if_pos e, e]; rfl
      · rw [if_neg e]
    · have i1 := m_holds h8 hH hA d fu t1 l1 (by omega) e5
      have i2 := m_holds h8 hH hA d fu t2 l2 (by omega) e6
      refine zev_of ?_
      unfold mf_holdsbody
      simp only [zev_b1, zev_mbd, zev_some, zev_b0, zev_bo, true_and, and_true, mln_2, mln_3, mln_4, mln_5, mln_6, mln_7, mln_8, mln_9, mln_10, mln_11, mln_12, mln_13, mln_15, mln_16, mln_17, mln_24, mln_25, mln_26, mln_27, mln_28, mln_29, mln_30, mln_31, mln_32, mln_34, mln_35, mln_37, mln_42, mln_49, mln_50, mln_51, mln_52, mln_53, mln_54, mln_55, mln_56, mln_57, mln_58, mln_59, mln_61, mln_62, mln_63, mln_65, mln_66, mln_68, mln_70, mln_71, mln_72, mln_73, mln_74, mev_ai (show t < 2 ^ 31 by omega), show t < 800 by omega, e2, e3, if_true, zev_eq i1]
      rw [e1, rans_app]
      by_cases e : rans (lans H all) l1 = 0
      · simp only [if_pos e, zev_b1, zev_mbd, zev_some, zev_b0, zev_bo, true_and, and_true, mln_2, mln_3, mln_4, mln_5, mln_6, mln_7, mln_8, mln_9, mln_10, mln_11, mln_12, mln_13, mln_15, mln_16, mln_17, mln_24, mln_25, mln_26, mln_27, mln_28, mln_29, mln_30, mln_31, mln_32, mln_34, mln_35, mln_37, mln_42, mln_49, mln_50, mln_51, mln_52, mln_53, mln_54, mln_55, mln_56, mln_57, mln_58, mln_59, mln_61, mln_62, mln_63, mln_65, mln_66, mln_68, mln_70, mln_71, mln_72, mln_73, mln_74, mev_ai (show t < 2 ^ 31 by omega), show t < 800 by omega, e4, zev_eq i2]
      · simp only [if_neg e, zev_b1, zev_mbd, zev_some, zev_b0, zev_bo, true_and, and_true]
theorem m_holdsAll {Q : Mq} {lb : List Lb} {l : Nat} {q : Lb} {H : Nat → Int64} {all : Int64} (h : mLs Q lb) (hq : lb[l]? = some q) (hH : ∀ off, off < 48 → Q.2 68 off = H off) (hA : Q.2 67 0 = all) : zev (mf_holdsAll Q (nI l)) (fun y => y.1.1 69 0 = fbrk (lans H all) 0 q.1 ∧ qfr Q y.1 [69] ∧ ((fbrk (lans H all) 0 q.1 = -1 ∧ y.2 = 1) ∨ ∃ r x, q.1[r]? = some x ∧ fbrk (lans H all) 0 q.1 = nI r ∧ y.2 = rans (lans H all) x ∧ rans (lans H all) x ≠ 1)) := by
  have hl := (List.getElem?_eq_some_iff.mp hq).1
  have f1 : qfr Q (qi Q 69 0 (-1)) [69] := qfr.qi (by decide)
  have z1 : (qi Q 69 0 (-1)).1 69 0 = -1 := rfl
  unfold mf_holdsAll
  rw [zev_b1, zev_some, zev_b1]
  generalize qi Q 69 0 (-1) = Q1 at f1 z1 ⊢
  have hL := h.fr f1 (by decide)
  have hl40 := h.2.1
  obtain ⟨a1, a2, a3, a4, a5⟩ := hL.2.2 l q hq
  have hH1 : ∀ off, off < 48 → Q1.2 68 off = H off := fun off ho => by rw [f1.j 68 (by decide)]; exact hH off ho
  have hA1 : Q1.2 67 0 = all := by rw [f1.j 67 (by decide)]; exact hA
  refine zev_lp (τ := (Mq × Int32) ⊕ (Mq × Int32)) (fun n (z : Mq × Int32) => ∃ i, z = (Q1, nI i) ∧ i + n = q.1.length ∧ fbrk (lans H all) 0 q.1 = fbrk (lans H all) i (q.1.drop i)) (n := q.1.length) ⟨0, rfl, by omega, rfl⟩ ?_
  rintro n z ⟨i, rfl, hin, ha⟩
  unfold mf_holdsAll_L7
  dsimp only
  simp only [zev_b1, zev_mbd, zev_some, zev_b0, zev_bo, true_and, and_true, mln_2, mln_3, mln_4, mln_5, mln_6, mln_7, mln_8, mln_9, mln_10, mln_11, mln_12, mln_13, mln_15, mln_16, mln_17, mln_24, mln_25, mln_26, mln_27, mln_28, mln_29, mln_30, mln_31, mln_32, mln_34, mln_35, mln_37, mln_42, mln_49, mln_50, mln_51, mln_52, mln_53, mln_54, mln_55, mln_56, mln_57, mln_58, mln_59, mln_61, mln_62, mln_63, mln_65, mln_66, mln_68, mln_70, mln_71, mln_72, mln_73, mln_74, mev_ai (show l < 2 ^ 31 by omega), show l < 40 by omega, a2]
  by_cases hi : i < q.1.length
  · obtain ⟨x, hx⟩ := getElem?_lt hi
    obtain ⟨t, b1, b2⟩ := a5 i x hx
    have hd : q.1.drop i = x :: q.1.drop (i + 1) := drop_cons hx
    rw [if_neg (nI_ge hi (by omega))]
    simp only [zev_b1, zev_mbd, zev_some, zev_b0, zev_bo, true_and, and_true, mln_2, mln_3, mln_4, mln_5, mln_6, mln_7, mln_8, mln_9, mln_10, mln_11, mln_12, mln_13, mln_15, mln_16, mln_17, mln_24, mln_25, mln_26, mln_27, mln_28, mln_29, mln_30, mln_31, mln_32, mln_34, mln_35, mln_37, mln_42, mln_49, mln_50, mln_51, mln_52, mln_53, mln_54, mln_55, mln_56, mln_57, mln_58, mln_59, mln_61, mln_62, mln_63, mln_65, mln_66, mln_68, mln_70, mln_71, mln_72, mln_73, mln_74, nI_x4, nI_x5, nI_x13, nI_x16, nI_x20, nI_x60, nI_x100, nI_x48r, nI_add, nI_1, mev_ai (show 20 * l + i < 2 ^ 31 by omega), show 20 * l + i < 800 by omega, b1, zev_eq (m_holds (show 20 * l + q.2 ≤ 800 by omega) hH1 hA1 q.2 32 t x (by omega) b2)]
    by_cases c : rans (lans H all) x = 1
    · rw [if_pos c, zev_some]
      refine Or.inl ⟨_, n - 1, rfl, ⟨i + 1, rfl, by omega, ?_⟩, by omega⟩
      rw [ha, hd]
      show (if rans (lans H all) x = 1 then _ else _) = _
      rw [if_pos c]
    · have ef : fbrk (lans H all) 0 q.1 = nI i := by
        rw [ha, hd]
        show (if rans (lans H all) x = 1 then _ else _) = _
        rw [if_neg c]
      rw [if_neg c, zev_b1, zev_some, zev_some]
      refine Or.inr ⟨_, rfl, ?_⟩
      dsimp only
      rw [zev_some]
      refine ⟨?_, f1.tr0 (qfr.qi (by decide)), Or.inr ⟨i, x, hx, ef, rfl, c⟩⟩
      dsimp only
      rw [qi_1, if_pos ⟨rfl, rfl⟩, ef]
  · have hi' : i = q.1.length := by omega
    subst hi'
    rw [if_pos (nI_le (Nat.le_refl q.1.length) (by omega)), zev_some]
    rw [List.drop_eq_nil_of_le (Nat.le_refl _)] at ha
    refine Or.inr ⟨_, rfl, ?_⟩
    dsimp only
    rw [zev_some]
    exact ⟨by dsimp only; rw [z1, ha]; rfl, f1, Or.inl ⟨ha, rfl⟩⟩
theorem lans_rng (H : Nat → Int64) (all : Int64) (q : Lf) : lans H all q = -1 ∨ lans H all q = 0 ∨ lans H all q = 1 := by
  unfold lans liso
  repeat' split
  all_goals decide
theorem rans_rng (H : Nat → Int64) (all : Int64) : ∀ l : List Lf, rans (lans H all) l = -1 ∨ rans (lans H all) l = 0 ∨ rans (lans H all) l = 1
  | [] => Or.inr (Or.inl rfl)
  | q :: r => by
    unfold rans
    split
    · exact rans_rng H all r
    · exact lans_rng H all q
