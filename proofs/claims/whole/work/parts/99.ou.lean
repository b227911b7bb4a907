/-! The reference's questions. -/
theorem m_isB {Q : Mq} {nb : Nat} {bs : Nat → Bv} (h : mBs Q nb bs) (b : Int32) : mf_isBarrel Q b = some (Q, match fnd nb b with | none => 0 | some _ => 1) := by
  refine zev_of ?_
  unfold mf_isBarrel fnd
  by_cases h1 : b < 0
  · simp only [if_pos h1, zev_b1, zev_mbd, zev_some, zev_b0, zev_bo, true_and, and_true]
  · rw [if_neg h1, if_neg h1, h.1]
    by_cases h2 : b < nI nb
    · simp only [if_neg (Int32.not_le.mpr h2), if_pos h2, zev_b1, zev_mbd, zev_some, zev_b0, zev_bo, true_and, and_true]
    · simp only [if_pos (Int32.not_lt.mp h2), if_neg h2, zev_b1, zev_mbd, zev_some, zev_b0, zev_bo, true_and, and_true]
theorem m_kindOf {Q : Mq} {nb : Nat} {bs : Nat → Bv} (h : mBs Q nb bs) (hn : nb ≤ 1000) (b : Int32) : mf_kindOf Q b = some (Q, match fnd nb b with | none => 0 | some n => (bs n).1.1) := by
  refine zev_of ?_
  unfold mf_kindOf
  rw [zev_mbd, zev_eq (m_isB h b)]
  cases hf : fnd nb b with
  | none => dsimp only; rw [if_pos rfl, zev_some]
  | some n =>
    obtain ⟨h1, rfl⟩ := fnd_some hn hf
    dsimp only
    rw [if_neg z10]
    simp only [zev_b1, zev_mbd, zev_some, zev_b0, zev_bo, true_and, and_true, mev_ai (show n < 2 ^ 31 by omega), mln_2, mln_3, mln_4, mln_5, mln_6, mln_7, mln_8, mln_9, mln_10, mln_11, mln_12, mln_13, mln_15, mln_16, mln_17, mln_24, mln_25, mln_26, mln_27, mln_28, mln_29, mln_30, mln_31, mln_32, mln_34, mln_35, mln_37, mln_42, mln_49, mln_50, mln_51, mln_52, mln_53, mln_54, mln_55, mln_56, mln_57, mln_58, mln_59, mln_61, mln_62, mln_63, mln_65, mln_66, mln_68, mln_70, mln_71, mln_72, mln_73, mln_74, show n < 1000 by omega, h.kd h1]
theorem m_where {Q : Mq} {nb : Nat} {bs : Nat → Bv} (h : mBs Q nb bs) (hn : nb ≤ 1000) (b : Int32) : mf_where Q b = some (Q, match fnd nb b with | none => -1 | some n => (bs n).2.1.2.1) := by
  refine zev_of ?_
  unfold mf_where
  rw [zev_mbd, zev_eq (m_isB h b)]
  cases hf : fnd nb b with
  | none => dsimp only; rw [if_pos rfl, zev_some]
  | some n =>
    obtain ⟨h1, rfl⟩ := fnd_some hn hf
    dsimp only
    rw [if_neg z10]
    simp only [zev_b1, zev_mbd, zev_some, zev_b0, zev_bo, true_and, and_true, mev_ai (show n < 2 ^ 31 by omega), mln_2, mln_3, mln_4, mln_5, mln_6, mln_7, mln_8, mln_9, mln_10, mln_11, mln_12, mln_13, mln_15, mln_16, mln_17, mln_24, mln_25, mln_26, mln_27, mln_28, mln_29, mln_30, mln_31, mln_32, mln_34, mln_35, mln_37, mln_42, mln_49, mln_50, mln_51, mln_52, mln_53, mln_54, mln_55, mln_56, mln_57, mln_58, mln_59, mln_61, mln_62, mln_63, mln_65, mln_66, mln_68, mln_70, mln_71, mln_72, mln_73, mln_74, show n < 1000 by omega, h.pl h1]
theorem m_parts {Q : Mq} {nb : Nat} {bs : Nat → Bv} (h : mBs Q nb bs) (hn : nb ≤ 1000) (b : Int32) : mf_parts Q b = some (Q, match fnd nb b with | none => 0 | some n => bcin (bs n)) := by
  refine zev_of ?_
  unfold mf_parts
  rw [zev_mbd, zev_eq (m_isB h b)]
  cases hf : fnd nb b with
  | none => dsimp only; rw [if_pos rfl, zev_some]
  | some n =>
    obtain ⟨h1, rfl⟩ := fnd_some hn hf
    dsimp only
    rw [if_neg z10]
    unfold bcin
    simp only [zev_b1, zev_mbd, zev_some, zev_b0, zev_bo, true_and, and_true, mev_ai (show n < 2 ^ 31 by omega), mln_2, mln_3, mln_4, mln_5, mln_6, mln_7, mln_8, mln_9, mln_10, mln_11, mln_12, mln_13, mln_15, mln_16, mln_17, mln_24, mln_25, mln_26, mln_27, mln_28, mln_29, mln_30, mln_31, mln_32, mln_34, mln_35, mln_37, mln_42, mln_49, mln_50, mln_51, mln_52, mln_53, mln_54, mln_55, mln_56, mln_57, mln_58, mln_59, mln_61, mln_62, mln_63, mln_65, mln_66, mln_68, mln_70, mln_71, mln_72, mln_73, mln_74, show n < 1000 by omega, h.kd h1]
    by_cases e : (bs n).1.1 = 5
    · simp only [if_pos e, zev_b1, zev_mbd, zev_some, zev_b0, zev_bo, true_and, and_true, mev_ai (show n < 2 ^ 31 by omega), mln_2, mln_3, mln_4, mln_5, mln_6, mln_7, mln_8, mln_9, mln_10, mln_11, mln_12, mln_13, mln_15, mln_16, mln_17, mln_24, mln_25, mln_26, mln_27, mln_28, mln_29, mln_30, mln_31, mln_32, mln_34, mln_35, mln_37, mln_42, mln_49, mln_50, mln_51, mln_52, mln_53, mln_54, mln_55, mln_56, mln_57, mln_58, mln_59, mln_61, mln_62, mln_63, mln_65, mln_66, mln_68, mln_70, mln_71, mln_72, mln_73, mln_74, show n < 1000 by omega, h.mc h1]
    · simp only [if_neg e, zev_b1, zev_mbd, zev_some, zev_b0, zev_bo, true_and, and_true, mev_ai (show n < 2 ^ 31 by omega), mln_2, mln_3, mln_4, mln_5, mln_6, mln_7, mln_8, mln_9, mln_10, mln_11, mln_12, mln_13, mln_15, mln_16, mln_17, mln_24, mln_25, mln_26, mln_27, mln_28, mln_29, mln_30, mln_31, mln_32, mln_34, mln_35, mln_37, mln_42, mln_49, mln_50, mln_51, mln_52, mln_53, mln_54, mln_55, mln_56, mln_57, mln_58, mln_59, mln_61, mln_62, mln_63, mln_65, mln_66, mln_68, mln_70, mln_71, mln_72, mln_73, mln_74, show n < 1000 by omega, h.ln h1]
theorem m_amount {Q : Mq} {nb : Nat} {bs : Nat → Bv} {ro : Nat → Rw} {ac : Nat → Wn} (h : mBs Q nb bs) (hI : Ic nb bs ro ac) (b : Int32) : mf_amount Q b = some (Q, match fnd nb b with | none => 0 | some n => bhas bs (bs n)) := by
  refine zev_of ?_
  unfold mf_amount
  rw [zev_mbd, zev_eq (m_isB h b)]
  cases hf : fnd nb b with
  | none => dsimp only; rw [if_pos rfl, zev_some]
  | some n =>
    obtain ⟨h1, rfl⟩ := fnd_some hI.1 hf
    have hB := hI.2.1 n h1
    dsimp only
    rw [if_neg z10, zev_mbd, zev_eq (m_inAll h hI.1 h1 hI.i60 hI.mem (hI.ml n h1).1 (hI.ml n h1).2 hB.2.2.2.1.2.2.2.2.2 hB.2.2.2.2.1)]
    dsimp only
    rw [zev_some]
def wof (p : Int32) (l : Wn) (a : Int64) : Int64 := l.foldl (fun a q => if q.1 = p then a + q.2 else a) a
theorem wof_no (p : Int32) : ∀ (l : Wn) (a : Int64), (∀ q, q ∈ l → q.1 ≠ p) → wof p l a = a
  | [], _, _ => rfl
  | q :: r, a, h => by
    show wof p r (if q.1 = p then a + q.2 else a) = a
    rw [if_neg (h q List.mem_cons_self)]
    exact wof_no p r a (fun z hz => h z (List.mem_cons_of_mem _ hz))
theorem wof_look (p : Int32) : ∀ (l : Wn), wris l → wof p l 0 = wlook p l
  | [], _ => rfl
  | q :: r, h => by
    show wof p r (if q.1 = p then 0 + q.2 else 0) = if q.1 = p then q.2 else wlook p r
    by_cases e : q.1 = p
    · rw [if_pos e, if_pos e, Int64.zero_add]
      exact wof_no p r _ (fun z hz e2 => by
        have := h.1 z hz
        rw [e, e2] at this
        exact Int32.lt_irrefl this)
    · rw [if_neg e, if_neg e]
      exact wof_look p r h.2
theorem m_ofPart {Q : Mq} {nb b : Nat} {bs : Nat → Bv} (h : mBs Q nb bs) (hn : nb ≤ 1000) (hb : b < nb) (h6 : (bs b).2.1.2.2.2.length ≤ 60) (hr : wris (bs b).2.1.2.2.2) (p : Int32) : mf_ofPart Q (nI b) p = some (Q, wlook p (bs b).2.1.2.2.2) := by
  refine zev_of ?_
  rw [← wof_look p _ hr]
  unfold mf_ofPart
  rw [zev_b1, nI_x60]
  refine zev_up (τ := Mq × Int64 × Int32) (fun i (z : Mq × Int64 × Int32) => z = (Q, wof p ((bs b).2.1.2.2.2.take i) 0, nI (60 * b + i))) (bs b).2.1.2.2.2.length (Nat.zero_le _) rfl ?_ ?_
  · rintro i z hi rfl
    obtain ⟨q, hq⟩ := getElem?_lt hi
    unfold mf_ofPart_L8 mf_ofPart_J45
    simp only [zev_b1, zev_mbd, zev_some, zev_b0, zev_bo, true_and, and_true, mev_ai (show b < 2 ^ 31 by omega), mln_2, mln_3, mln_4, mln_5, mln_6, mln_7, mln_8, mln_9, mln_10, mln_11, mln_12, mln_13, mln_15, mln_16, mln_17, mln_24, mln_25, mln_26, mln_27, mln_28, mln_29, mln_30, mln_31, mln_32, mln_34, mln_35, mln_37, mln_42, mln_49, mln_50, mln_51, mln_52, mln_53, mln_54, mln_55, mln_56, mln_57, mln_58, mln_59, mln_61, mln_62, mln_63, mln_65, mln_66, mln_68, mln_70, mln_71, mln_72, mln_73, mln_74, show b < 1000 by omega, h.ln hb, nI_x4, nI_x5, nI_x13, nI_x16, nI_x20, nI_x60, nI_x100, nI_x48r, nI_add, nI_1, if_neg (nI_ge (show 60 * b + i < 60 * b + (bs b).2.1.2.2.2.length by omega) (by omega)), mev_ai (show 60 * b + i < 2 ^ 31 by omega), show 60 * b + i < 60000 by omega, (h.wi hb hq).1]
    have et : wof p ((bs b).2.1.2.2.2.take (i + 1)) 0 = if q.1 = p then wof p ((bs b).2.1.2.2.2.take i) 0 + q.2 else wof p ((bs b).2.1.2.2.2.take i) 0 := by
      rw [take_snoc hq]; unfold wof; rw [List.foldl_append]; rfl
    rw [et]
    by_cases e : q.1 = p
    · simp only [if_pos e, zev_b1, zev_mbd, zev_some, zev_b0, zev_bo, true_and, and_true, mln_2, mln_3, mln_4, mln_5, mln_6, mln_7, mln_8, mln_9, mln_10, mln_11, mln_12, mln_13, mln_15, mln_16, mln_17, mln_24, mln_25, mln_26, mln_27, mln_28, mln_29, mln_30, mln_31, mln_32, mln_34, mln_35, mln_37, mln_42, mln_49, mln_50, mln_51, mln_52, mln_53, mln_54, mln_55, mln_56, mln_57, mln_58, mln_59, mln_61, mln_62, mln_63, mln_65, mln_66, mln_68, mln_70, mln_71, mln_72, mln_73, mln_74, mev_aj (show 60 * b + i < 2 ^ 31 by omega), show 60 * b + i < 60000 by omega, (h.wi hb hq).2]
      exact ⟨_, rfl, rfl⟩
    · simp only [if_neg e, zev_b1, zev_mbd, zev_some, zev_b0, zev_bo, true_and, and_true]
      exact ⟨_, rfl, rfl⟩
  · rintro z rfl
    unfold mf_ofPart_L8
    simp only [zev_b1, zev_mbd, zev_some, zev_b0, zev_bo, true_and, and_true, mev_ai (show b < 2 ^ 31 by omega), mln_2, mln_3, mln_4, mln_5, mln_6, mln_7, mln_8, mln_9, mln_10, mln_11, mln_12, mln_13, mln_15, mln_16, mln_17, mln_24, mln_25, mln_26, mln_27, mln_28, mln_29, mln_30, mln_31, mln_32, mln_34, mln_35, mln_37, mln_42, mln_49, mln_50, mln_51, mln_52, mln_53, mln_54, mln_55, mln_56, mln_57, mln_58, mln_59, mln_61, mln_62, mln_63, mln_65, mln_66, mln_68, mln_70, mln_71, mln_72, mln_73, mln_74, show b < 1000 by omega, h.ln hb, nI_x4, nI_x5, nI_x13, nI_x16, nI_x20, nI_x60, nI_x100, nI_x48r, nI_add, nI_1, if_pos (nI_le (Nat.le_refl (60 * b + (bs b).2.1.2.2.2.length)) (by omega))]
    exact ⟨_, rfl, by dsimp only; rw [List.take_of_length_le (Nat.le_refl _)]⟩
theorem m_part {Q : Mq} {nb : Nat} {bs : Nat → Bv} {ro : Nat → Rw} {ac : Nat → Wn} (h : mBs Q nb bs) (hI : Ic nb bs ro ac) (b p : Int32) : mf_part Q b p = some (Q, match fnd nb b with | none => 0 | some n => bof bs (bs n) p) := by
  have hn := hI.1
  refine zev_of ?_
  unfold mf_part
  rw [zev_mbd, zev_eq (m_isB h b)]
  cases hf : fnd nb b with
  | none => dsimp only; rw [if_pos rfl, zev_some]
  | some n =>
    obtain ⟨h1, rfl⟩ := fnd_some hI.1 hf
    have hw := hI.w h1
    obtain ⟨hml, hm4⟩ := hI.ml n h1
    dsimp only
    rw [if_neg z10, zev_mbd, zev_eq (m_ofPart h hn h1 hw.2.2.1 hw.1 p)]
    dsimp only
    rw [zev_b1]
    unfold bof
    refine zev_up (τ := Mq × Int64 × Int32) (fun i (z : Mq × Int64 × Int32) => z = (Q, ((bms (bs n)).take i).foldl (fun a m => a + wlook p (bs m).2.1.2.2.2) (wlook p (bs n).2.1.2.2.2), nI i)) (bms (bs n)).length (Nat.zero_le _) rfl ?_ ?_
    · rintro i z hi rfl
      obtain ⟨m, hm⟩ := getElem?_lt hi
      have hmm := hI.mem n h1 m (List.mem_of_getElem? hm)
      have hw2 := hI.w hmm.1
      unfold mf_part_L20
      simp only [zev_b1, zev_mbd, zev_some, zev_b0, zev_bo, true_and, and_true, mev_ai (show n < 2 ^ 31 by omega), mln_2, mln_3, mln_4, mln_5, mln_6, mln_7, mln_8, mln_9, mln_10, mln_11, mln_12, mln_13, mln_15, mln_16, mln_17, mln_24, mln_25, mln_26, mln_27, mln_28, mln_29, mln_30, mln_31, mln_32, mln_34, mln_35, mln_37, mln_42, mln_49, mln_50, mln_51, mln_52, mln_53, mln_54, mln_55, mln_56, mln_57, mln_58, mln_59, mln_61, mln_62, mln_63, mln_65, mln_66, mln_68, mln_70, mln_71, mln_72, mln_73, mln_74, show n < 1000 by omega, h.mc h1, ← hml, if_neg (nI_ge hi (by omega)), nI_x4, nI_x5, nI_x13, nI_x16, nI_x20, nI_x60, nI_x100, nI_x48r, nI_add, nI_1, mev_ai (show 4 * n + i < 2 ^ 31 by omega), show 4 * n + i < 4000 by omega, h.me h1 hm, zev_eq (m_ofPart h hn hmm.1 hw2.2.2.1 hw2.1 p)]
      exact ⟨_, rfl, by rw [take_snoc hm, List.foldl_append]; rfl⟩
    · rintro z rfl
      unfold mf_part_L20
      simp only [zev_b1, zev_mbd, zev_some, zev_b0, zev_bo, true_and, and_true, mev_ai (show n < 2 ^ 31 by omega), mln_2, mln_3, mln_4, mln_5, mln_6, mln_7, mln_8, mln_9, mln_10, mln_11, mln_12, mln_13, mln_15, mln_16, mln_17, mln_24, mln_25, mln_26, mln_27, mln_28, mln_29, mln_30, mln_31, mln_32, mln_34, mln_35, mln_37, mln_42, mln_49, mln_50, mln_51, mln_52, mln_53, mln_54, mln_55, mln_56, mln_57, mln_58, mln_59, mln_61, mln_62, mln_63, mln_65, mln_66, mln_68, mln_70, mln_71, mln_72, mln_73, mln_74, show n < 1000 by omega, h.mc h1, ← hml, if_pos (nI_le (Nat.le_refl (bms (bs n)).length) (by omega))]
      exact ⟨_, rfl, by dsimp only; rw [List.take_of_length_le (Nat.le_refl _)]⟩
theorem m_at {Q : Mq} {ro : Nat → Rw} (h : mRs Q 11 12 13 ro) (r p : Int32) : mf_at Q r p = some (Q, if rpl ro r p = 0 then rcell ro r p else -1) := by
  refine zev_of ?_
  unfold mf_at
  rw [zev_mbd, zev_eq (m_readPlace h r p)]
  dsimp only
  by_cases e : rpl ro r p = 0
  · rw [e, if_pos (show (0 : Int32) ≤ 0 by decide), if_pos rfl]
    unfold rpl at e
    by_cases h1 : r < 0
    · rw [if_pos h1] at e; exact absurd e (by decide)
    rw [if_neg h1] at e
    by_cases h2 : r < 20
    · obtain ⟨j, hj, rfl⟩ := nI_of h1
      have hj2 : j < 20 := (nI_ltI hj (show 20 < 2 ^ 31 by decide)).mp h2
      rw [if_pos h2, nI_clamp hj] at e
      unfold rcell
      rw [nI_clamp hj]
      rcases h j hj2 with ⟨e1, e2, e3⟩ | ⟨k, ps, e1, e2, e3, e4, e5, e6⟩
      · rw [e1] at e; exact absurd (show (6 : Int32) = 0 from e) (by decide)
      · rw [e1] at e ⊢
        dsimp only at e ⊢
        by_cases h3 : p < 0
        · rw [if_pos h3] at e; exact absurd e (by decide)
        rw [if_neg h3] at e
        obtain ⟨i, hi, rfl⟩ := nI_of h3
        by_cases h4 : nI i < nI ps.length
        · have hi2 := (nI_ltI hi (show ps.length < 2 ^ 31 by omega)).mp h4
          simp only [zev_b1, zev_mbd, zev_some, zev_b0, zev_bo, true_and, and_true, nI_x4, nI_x5, nI_x13, nI_x16, nI_x20, nI_x60, nI_x100, nI_x48r, nI_add, nI_1, mev_ai (show 60 * j + i < 2 ^ 31 by omega), mln_2, mln_3, mln_4, mln_5, mln_6, mln_7, mln_8, mln_9, mln_10, mln_11, mln_12, mln_13, mln_15, mln_16, mln_17, mln_24, mln_25, mln_26, mln_27, mln_28, mln_29, mln_30, mln_31, mln_32, mln_34, mln_35, mln_37, mln_42, mln_49, mln_50, mln_51, mln_52, mln_53, mln_54, mln_55, mln_56, mln_57, mln_58, mln_59, mln_61, mln_62, mln_63, mln_65, mln_66, mln_68, mln_70, mln_71, mln_72, mln_73, mln_74, show 60 * j + i < 1200 by omega, e6 i (by omega), nI_clamp hi]
        · rw [if_neg h4] at e; exact absurd e (by decide)
    · rw [if_neg h2] at e; exact absurd e (by decide)
  · rw [if_neg e]
    have : ¬ rpl ro r p ≤ 0 := by
      unfold rpl at e ⊢
      split
      · decide
      · split
        · split
          · decide
          · split
            · decide
            · split
              · rename_i z1 z2 _ z3 z4 z5
                exact absurd (by simp_all) e
              · decide
        · decide
    rw [if_neg this, zev_some]
theorem m_trace {Q : Mq} {tc : List Int32} (h : mTc Q tc) (i : Int32) : mf_trace Q i = some (Q, trd i tc) := by
  obtain ⟨h1, h2, h3⟩ := h
  refine zev_of ?_
  unfold mf_trace mf_trace_J12 trd
  by_cases c1 : i < 0
  · rw [if_pos c1, if_pos c1, zev_some]
  · obtain ⟨j, hj, rfl⟩ := nI_of c1
    rw [if_neg c1, if_neg c1, h1, nI_clamp hj]
    by_cases c2 : j < tc.length
    · obtain ⟨v, hv⟩ := getElem?_lt c2
      rw [if_pos (nI_lt c2 (by omega)), hv]
      simp only [zev_b1, zev_mbd, zev_some, zev_b0, zev_bo, true_and, and_true, mev_ai hj, mln_2, mln_3, mln_4, mln_5, mln_6, mln_7, mln_8, mln_9, mln_10, mln_11, mln_12, mln_13, mln_15, mln_16, mln_17, mln_24, mln_25, mln_26, mln_27, mln_28, mln_29, mln_30, mln_31, mln_32, mln_34, mln_35, mln_37, mln_42, mln_49, mln_50, mln_51, mln_52, mln_53, mln_54, mln_55, mln_56, mln_57, mln_58, mln_59, mln_61, mln_62, mln_63, mln_65, mln_66, mln_68, mln_70, mln_71, mln_72, mln_73, mln_74, show j < 200 by omega, h3 j v hv, Option.getD_some]
    · rw [if_neg (nI_nlt (by omega) hj), zev_some, List.getElem?_eq_none (by omega)]
      rfl
theorem m_planned {Q : Mq} {st : List Int64} (h : mPn Q st) (i : Int32) : mf_planned Q i = some (Q, prd i st) := by
  obtain ⟨h1, h2, h3⟩ := h
  refine zev_of ?_
  unfold mf_planned mf_planned_J12 prd
  by_cases c1 : i < 0
  · rw [if_pos c1, if_pos c1, zev_some]
  · obtain ⟨j, hj, rfl⟩ := nI_of c1
    rw [if_neg c1, if_neg c1, h1, nI_clamp hj]
    by_cases c2 : j < st.length
    · obtain ⟨v, hv⟩ := getElem?_lt c2
      rw [if_pos (nI_lt c2 (by omega)), hv]
      simp only [zev_b1, zev_mbd, zev_some, zev_b0, zev_bo, true_and, and_true, mev_aj hj, mln_2, mln_3, mln_4, mln_5, mln_6, mln_7, mln_8, mln_9, mln_10, mln_11, mln_12, mln_13, mln_15, mln_16, mln_17, mln_24, mln_25, mln_26, mln_27, mln_28, mln_29, mln_30, mln_31, mln_32, mln_34, mln_35, mln_37, mln_42, mln_49, mln_50, mln_51, mln_52, mln_53, mln_54, mln_55, mln_56, mln_57, mln_58, mln_59, mln_61, mln_62, mln_63, mln_65, mln_66, mln_68, mln_70, mln_71, mln_72, mln_73, mln_74, show j < 8 by omega, h3 j v hv, Option.getD_some]
    · rw [if_neg (nI_nlt (by omega) hj), zev_some, List.getElem?_eq_none (by omega)]
      rfl
