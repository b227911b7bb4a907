/-! The reference's questions: lines, accounts, digest. -/
theorem m_jr {Q : Mq} {f c i : Nat} {n : Nat} {v : Int64} (hc : Q.1 c 0 = nI n) (hn : n < 2 ^ 29) (hi : i < 4 * n) (hv : Q.2 f i = v) : mo_jr Q f c (nI i) = some v := by
  unfold mo_jr
  rw [hc, nI_clamp (show n < 2 ^ 31 by omega), nI_clamp (show i < 2 ^ 31 by omega), if_pos ?_, hv]
  rintro (h | h)
  · exact absurd h (nI_pos (by omega))
  · omega
theorem lrd_of {ls : List Ln} {i w : Nat} {q : Ln} (hi : i < 2 ^ 31) (hq : ls[i]? = some q) (hw : w < 4) : lrd (nI i) (nI w) ls = if w = 0 then q.1 else if w = 1 then q.2.1 else if w = 2 then q.2.2.1 else q.2.2.2 := by
  unfold lrd
  have c1 : ¬ (nI i < 0 ∨ nI w < 0 ∨ ¬ nI w < 4) := by
    rintro (h | h | h)
    · exact absurd h (nI_pos hi)
    · exact absurd h (nI_pos (by omega))
    · exact h (nI_lt (b := 4) hw (by decide))
  rw [if_neg c1, nI_clamp hi, hq]
  show lcol (nI w) q = _
  unfold lcol
  have hcs : w = 0 ∨ w = 1 ∨ w = 2 ∨ w = 3 := by omega
  rcases hcs with rfl | rfl | rfl | rfl <;> rfl
theorem m_rdl {Q : Mq} {f c : Nat} {ls : List Ln} (h : mJl Q f c ls) (hl : ls.length < 2 ^ 29) (i w : Int32) : (if i < 0 then some (Q, (-1 : Int64)) else if Q.1 c 0 ≤ i then some (Q, -1) else if w < 0 then some (Q, -1) else if w ≤ 3 then zb1 (mo_jr Q f c (4 * i + w)) (fun u1 => some (Q, u1)) else some (Q, -1)) = some (Q, lrd i w ls) := by
  obtain ⟨h1, h2⟩ := h
  by_cases c1 : i < 0
  · rw [if_pos c1]; unfold lrd; rw [if_pos (Or.inl c1)]
  rw [if_neg c1]
  obtain ⟨j, hj, rfl⟩ := nI_of c1
  by_cases c3 : w < 0
  · have : lrd (nI j) w ls = -1 := by unfold lrd; rw [if_pos (Or.inr (Or.inl c3))]
    rw [this, if_pos c3, ite_self]
  obtain ⟨v, hv, rfl⟩ := nI_of c3
  rw [if_neg c3, h1]
  by_cases c4 : v ≤ 3
  · rw [if_pos (show nI v ≤ 3 from nI_le (b := 3) c4 (by decide))]
    by_cases c2 : j < ls.length
    · obtain ⟨q, hq⟩ := getElem?_lt c2
      rw [if_neg (nI_ge c2 (by omega)), nI_x4, nI_add, lrd_of hj hq (by omega)]
      obtain ⟨q1, q2, q3, q4⟩ := h2 j q hq
      have hcs : v = 0 ∨ v = 1 ∨ v = 2 ∨ v = 3 := by omega
      rcases hcs with rfl | rfl | rfl | rfl
      · rw [Nat.add_zero, m_jr h1 hl (by omega) q1]; rfl
      · rw [m_jr h1 hl (by omega) q2]; rfl
      · rw [m_jr h1 hl (by omega) q3]; rfl
      · rw [m_jr h1 hl (by omega) q4]; rfl
    · rw [if_pos (nI_le (by omega) hj)]
      have : lrd (nI j) (nI v) ls = -1 := by
        unfold lrd
        split
        · rfl
        · rw [nI_clamp hj, List.getElem?_eq_none (by omega)]; rfl
      rw [this]
  · rw [if_neg (show ¬ nI v ≤ 3 from fun z => c4 ((nI_leI hv (show 3 < 2 ^ 31 by decide)).mp z))]
    have : lrd (nI j) (nI v) ls = -1 := by
      unfold lrd
      rw [if_pos (Or.inr (Or.inr (show ¬ nI v < 4 from nI_nlt (b := 4) (by omega) hv)))]
    rw [this, ite_self]
theorem m_bottling {Q : Mq} {ls : List Ln} (h : mJl Q 22 21 ls) (hl : ls.length < 2 ^ 29) (i w : Int32) : mf_bottling Q i w = some (Q, lrd i w ls) := m_rdl h hl i w
theorem m_entry {Q : Mq} {ls : List Ln} (h : mJl Q 20 19 ls) (hl : ls.length < 2 ^ 29) (i w : Int32) : mf_entry Q i w = some (Q, lrd i w ls) := m_rdl h hl i w
theorem wlook_no (p : Int32) : ∀ (l : Wn), (∀ q, q ∈ l → q.1 ≠ p) → wlook p l = 0
  | [], _ => rfl
  | q :: r, h => by
    show (if q.1 = p then q.2 else wlook p r) = 0
    rw [if_neg (h q List.mem_cons_self)]
    exact wlook_no p r (fun z hz => h z (List.mem_cons_of_mem _ hz))
theorem m_account_ {Q : Mq} {nb : Nat} {bs : Nat → Bv} {kc : List Int32} {ac : Nat → Wn} (hK : mKn Q kc) (hA : mAk Q kc ac) (hC : mCd kc nb bs ac) (hI : Iac ac) (p how : Int32) : mf_account_ Q p how = some (Q, if how < 0 then 0 else if how < 5 then wlook p (ac how.toNatClampNeg) else 0) := by
  refine zev_of ?_
  unfold mf_account_ mf_account__J33 mf_account__J34
  by_cases d1 : how < 0
  · rw [if_pos d1, if_pos d1, if_pos rfl, ite_self, ite_self, zev_some]
  obtain ⟨w, hw, rfl⟩ := nI_of d1
  by_cases d2 : w < 5
  · have e2 : ¬ (4 : Int32) < nI w := nI_nlt (a := 4) (by omega) (by decide)
    rw [if_neg d1, if_neg d1, if_neg e2, if_pos (show nI w < 5 from nI_lt (b := 5) d2 (by decide)), if_pos rfl, nI_clamp hw, if_neg z10]
    by_cases c1 : p < 0
    · rw [if_pos c1, zev_some, wlook_no p _ (fun q hq e => ?_)]
      have := ((hI w d2).2 q hq).1
      rw [e] at this
      rw [Int32.lt_iff_toInt_lt] at c1
      have e0 : (0 : Int32).toInt = 0 := rfl
      omega
    rw [if_neg c1]
    obtain ⟨n, hn, rfl⟩ := nI_of c1
    by_cases c2 : n < 4096
    · rw [if_neg (show ¬ (4096 : Int32) ≤ nI n from nI_ge (b := 4096) c2 (by decide))]
      by_cases c3 : nI n ∈ kc
      · obtain ⟨k, hk⟩ := List.mem_iff_getElem?.mp c3
        have hkl := kc_len hK.2.1 hK.2.2.1
        have hk2 := (List.getElem?_eq_some_iff.mp hk).1
        have e15 := (hK.2.2.2.1 k _ hk).2
        rw [nI_clamp hn] at e15
        have es : nI (k + 1) - 1 = nI k := by rw [← nI_1]; exact Int32.add_sub_cancel _ _
        have e17 := hA.1 k _ hk w d2
        simp only [zev_b1, zev_mbd, zev_some, zev_b0, zev_bo, true_and, and_true, mln_2, mln_3, mln_4, mln_5, mln_6, mln_7, mln_8, mln_9, mln_10, mln_11, mln_12, mln_13, mln_15, mln_16, mln_17, mln_24, mln_25, mln_26, mln_27, mln_28, mln_29, mln_30, mln_31, mln_32, mln_34, mln_35, mln_37, mln_42, mln_49, mln_50, mln_51, mln_52, mln_53, mln_54, mln_55, mln_56, mln_57, mln_58, mln_59, mln_61, mln_62, mln_63, mln_65, mln_66, mln_68, mln_70, mln_71, mln_72, mln_73, mln_74, mev_ai hn, c2, e15]
        rw [if_neg (show ¬ nI (k + 1) ≤ 0 from fun z => by have := (nI_leI (show k + 1 < 2 ^ 31 by omega) (show 0 < 2 ^ 31 by decide)).mp z; omega)]
        simp only [zev_b1, zev_mbd, zev_some, zev_b0, zev_bo, true_and, and_true, mln_2, mln_3, mln_4, mln_5, mln_6, mln_7, mln_8, mln_9, mln_10, mln_11, mln_12, mln_13, mln_15, mln_16, mln_17, mln_24, mln_25, mln_26, mln_27, mln_28, mln_29, mln_30, mln_31, mln_32, mln_34, mln_35, mln_37, mln_42, mln_49, mln_50, mln_51, mln_52, mln_53, mln_54, mln_55, mln_56, mln_57, mln_58, mln_59, mln_61, mln_62, mln_63, mln_65, mln_66, mln_68, mln_70, mln_71, mln_72, mln_73, mln_74, mev_ai hn, c2, e15, es, nI_x4, nI_x5, nI_x13, nI_x16, nI_x20, nI_x60, nI_x100, nI_x48r, nI_add, nI_1, mev_aj (show 5 * k + w < 2 ^ 31 by omega), show 5 * k + w < 20480 by omega, e17]
      · have e15 := hK.2.2.2.2 n c2 c3
        have ew : wlook (nI n) (ac w) = 0 := wlook_no _ _ (fun q hq e => c3 (by rw [← e]; exact hC.1 w d2 q hq))
        simp only [zev_b1, zev_mbd, zev_some, zev_b0, zev_bo, true_and, and_true, mln_2, mln_3, mln_4, mln_5, mln_6, mln_7, mln_8, mln_9, mln_10, mln_11, mln_12, mln_13, mln_15, mln_16, mln_17, mln_24, mln_25, mln_26, mln_27, mln_28, mln_29, mln_30, mln_31, mln_32, mln_34, mln_35, mln_37, mln_42, mln_49, mln_50, mln_51, mln_52, mln_53, mln_54, mln_55, mln_56, mln_57, mln_58, mln_59, mln_61, mln_62, mln_63, mln_65, mln_66, mln_68, mln_70, mln_71, mln_72, mln_73, mln_74, mev_ai hn, c2, e15, ew]
        rw [if_pos (show (0 : Int32) ≤ 0 by decide), zev_some]
    · rw [if_pos (show (4096 : Int32) ≤ nI n from nI_le (a := 4096) (by omega) hn), zev_some, wlook_no _ _ (fun q hq e => ?_)]
      have := ((hI w d2).2 q hq).2
      rw [e, nI_toInt hn] at this
      omega
  · have e2 : (4 : Int32) < nI w := nI_lt (a := 4) (by omega) hw
    rw [if_neg d1, if_neg d1, if_pos e2, if_neg (show ¬ nI w < 5 from nI_nlt (b := 5) (by omega) hw), if_pos rfl, ite_self, ite_self, zev_some]
theorem m_digest {Q : Mq} {nb : Nat} {bs : Nat → Bv} {ro : Nat → Rw} {ac : Nat → Wn} {jr : List Ln} {mo : Int32} (h : mBs Q nb bs) (hI : Ic nb bs ro ac) (hm : Q.1 18 0 = mo) (hj : mJl Q 20 19 jr) : mf_digest Q = some (Q, cdig nb bs mo jr.length) := by
  have hN := hI.1
  refine zev_of ?_
  unfold mf_digest cdig
  have e0 : (7 : Int64) * 31 + (Q.1 1 0).toInt64 = (217 + nI nb : Int32).toInt64 := by
    rw [h.1]
    apply Int64.toInt_inj.mp
    have e1 : (217 : Int32) + nI nb = nI (217 + nb) := nI_add 217 nb
    rw [e1, Int32.toInt_toInt64, nI_toInt (by omega), Int64.toInt_add, Int32.toInt_toInt64, nI_toInt (by omega)]
    have e2 : ((7 : Int64) * 31).toInt = 217 := rfl
    rw [e2, Int.bmod_eq_of_le (by omega) (by omega)]
    omega
  rw [e0, zev_b1]
  refine zev_up (τ := Mq × Int64 × Int32) (fun i (z : Mq × Int64 × Int32) => z = (Q, (List.range i).foldl (fun d b => bdig (bs b) d) (217 + nI nb : Int32).toInt64, nI i)) nb (Nat.zero_le _) rfl ?_ ?_
  · rintro b z hb rfl
    have hw := hI.w hb
    have hl6 := hw.2.2.1
    obtain ⟨hml, hm4⟩ := hI.ml b hb
    rw [range_snoc, List.foldl_append]
    generalize (List.range b).foldl (fun d b => bdig (bs b) d) (217 + nI nb : Int32).toInt64 = d0
    rw [List.foldl_cons, List.foldl_nil]
    have hf : fnd nb (nI b) = some b := by unfold fnd; rw [if_neg (nI_pos (by omega)), if_pos (nI_lt hb (by omega)), nI_clamp (by omega)]
    have hp := m_parts h hN (nI b)
    rw [hf] at hp
    unfold mf_digest_L18 bdig
    dsimp only
    rw [h.1, if_neg (nI_ge hb (by omega))]
    simp only [zev_b1, zev_mbd, zev_some, zev_b0, zev_bo, true_and, and_true, mln_2, mln_3, mln_4, mln_5, mln_6, mln_7, mln_8, mln_9, mln_10, mln_11, mln_12, mln_13, mln_15, mln_16, mln_17, mln_24, mln_25, mln_26, mln_27, mln_28, mln_29, mln_30, mln_31, mln_32, mln_34, mln_35, mln_37, mln_42, mln_49, mln_50, mln_51, mln_52, mln_53, mln_54, mln_55, mln_56, mln_57, mln_58, mln_59, mln_61, mln_62, mln_63, mln_65, mln_66, mln_68, mln_70, mln_71, mln_72, mln_73, mln_74, mev_ai (show b < 2 ^ 31 by omega), show b < 1000 by omega, h.kd hb, h.sz hb, h.ct hb, h.pl hb, zev_eq hp]
    generalize ((((d0 * 31 + (bs b).1.1.toInt64) * 31 + (bs b).1.2.toInt64) * 31 + (bs b).2.1.1.toInt64) * 31 + (bs b).2.1.2.1.toInt64) * 31 + (bcin (bs b)).toInt64 = d1
    rw [nI_x60]
    refine zev_up (τ := Mq × Int64 × Int32) (fun i (z : Mq × Int64 × Int32) => z = (Q, ((bs b).2.1.2.2.2.take i).foldl (fun a q => (a * 31 + q.1.toInt64) * 31 + q.2) d1, nI (60 * b + i))) (bs b).2.1.2.2.2.length (Nat.zero_le _) rfl ?_ ?_
    · rintro i z hi rfl
      obtain ⟨q, hq⟩ := getElem?_lt hi
      unfold mf_digest_L101
      simp only [zev_b1, zev_mbd, zev_some, zev_b0, zev_bo, true_and, and_true, mev_ai (show b < 2 ^ 31 by omega), mln_2, mln_3, mln_4, mln_5, mln_6, mln_7, mln_8, mln_9, mln_10, mln_11, mln_12, mln_13, mln_15, mln_16, mln_17, mln_24, mln_25, mln_26, mln_27, mln_28, mln_29, mln_30, mln_31, mln_32, mln_34, mln_35, mln_37, mln_42, mln_49, mln_50, mln_51, mln_52, mln_53, mln_54, mln_55, mln_56, mln_57, mln_58, mln_59, mln_61, mln_62, mln_63, mln_65, mln_66, mln_68, mln_70, mln_71, mln_72, mln_73, mln_74, show b < 1000 by omega, h.ln hb, nI_x4, nI_x5, nI_x13, nI_x16, nI_x20, nI_x60, nI_x100, nI_x48r, nI_add, nI_1, if_neg (nI_ge (show 60 * b + i < 60 * b + (bs b).2.1.2.2.2.length by omega) (by omega)), mev_ai (show 60 * b + i < 2 ^ 31 by omega), mev_aj (show 60 * b + i < 2 ^ 31 by omega), show 60 * b + i < 60000 by omega, (h.wi hb hq).1, (h.wi hb hq).2]
      exact ⟨_, rfl, by rw [take_snoc hq, List.foldl_append]; rfl⟩
    · rintro z rfl
      unfold mf_digest_L101
      simp only [zev_b1, zev_mbd, zev_some, zev_b0, zev_bo, true_and, and_true, mev_ai (show b < 2 ^ 31 by omega), mln_2, mln_3, mln_4, mln_5, mln_6, mln_7, mln_8, mln_9, mln_10, mln_11, mln_12, mln_13, mln_15, mln_16, mln_17, mln_24, mln_25, mln_26, mln_27, mln_28, mln_29, mln_30, mln_31, mln_32, mln_34, mln_35, mln_37, mln_42, mln_49, mln_50, mln_51, mln_52, mln_53, mln_54, mln_55, mln_56, mln_57, mln_58, mln_59, mln_61, mln_62, mln_63, mln_65, mln_66, mln_68, mln_70, mln_71, mln_72, mln_73, mln_74, show b < 1000 by omega, h.ln hb, nI_x4, nI_x5, nI_x13, nI_x16, nI_x20, nI_x60, nI_x100, nI_x48r, nI_add, nI_1, if_pos (nI_le (Nat.le_refl (60 * b + (bs b).2.1.2.2.2.length)) (by omega))]
      refine ⟨_, rfl, ?_⟩
      dsimp only
      rw [List.take_of_length_le (Nat.le_refl _)]
      generalize (bs b).2.1.2.2.2.foldl (fun a q => (a * 31 + q.1.toInt64) * 31 + q.2) d1 = d2
      refine zev_up (τ := Mq × Int64 × Int32) (fun i (z : Mq × Int64 × Int32) => z = (Q, ((bms (bs b)).take i).foldl (fun a m => a * 31 + (nI m).toInt64) d2, nI i)) (bms (bs b)).length (Nat.zero_le _) rfl ?_ ?_
      · rintro i z hi rfl
        obtain ⟨m, hm⟩ := getElem?_lt hi
        unfold mf_digest_L155
        simp only [zev_b1, zev_mbd, zev_some, zev_b0, zev_bo, true_and, and_true, mev_ai (show b < 2 ^ 31 by omega), mln_2, mln_3, mln_4, mln_5, mln_6, mln_7, mln_8, mln_9, mln_10, mln_11, mln_12, mln_13, mln_15, mln_16, mln_17, mln_24, mln_25, mln_26, mln_27, mln_28, mln_29, mln_30, mln_31, mln_32, mln_34, mln_35, mln_37, mln_42, mln_49, mln_50, mln_51, mln_52, mln_53, mln_54, mln_55, mln_56, mln_57, mln_58, mln_59, mln_61, mln_62, mln_63, mln_65, mln_66, mln_68, mln_70, mln_71, mln_72, mln_73, mln_74, show b < 1000 by omega, h.mc hb, ← hml, if_neg (nI_ge hi (by omega)), nI_x4, nI_x5, nI_x13, nI_x16, nI_x20, nI_x60, nI_x100, nI_x48r, nI_add, nI_1, mev_ai (show 4 * b + i < 2 ^ 31 by omega), show 4 * b + i < 4000 by omega, h.me hb hm]
        exact ⟨_, rfl, by rw [take_snoc hm, List.foldl_append]; rfl⟩
      · rintro z rfl
        unfold mf_digest_L155
        simp only [zev_b1, zev_mbd, zev_some, zev_b0, zev_bo, true_and, and_true, mev_ai (show b < 2 ^ 31 by omega), mln_2, mln_3, mln_4, mln_5, mln_6, mln_7, mln_8, mln_9, mln_10, mln_11, mln_12, mln_13, mln_15, mln_16, mln_17, mln_24, mln_25, mln_26, mln_27, mln_28, mln_29, mln_30, mln_31, mln_32, mln_34, mln_35, mln_37, mln_42, mln_49, mln_50, mln_51, mln_52, mln_53, mln_54, mln_55, mln_56, mln_57, mln_58, mln_59, mln_61, mln_62, mln_63, mln_65, mln_66, mln_68, mln_70, mln_71, mln_72, mln_73, mln_74, show b < 1000 by omega, h.mc hb, ← hml, if_pos (nI_le (Nat.le_refl (bms (bs b)).length) (by omega))]
        refine ⟨_, rfl, ?_⟩
        dsimp only
        rw [List.take_of_length_le (Nat.le_refl _)]
        exact ⟨_, rfl, rfl⟩
  · rintro z rfl
    unfold mf_digest_L18
    dsimp only
    rw [h.1, if_pos (nI_le (Nat.le_refl nb) (by omega)), zev_some]
    refine ⟨_, rfl, ?_⟩
    dsimp only
    rw [zev_some, hm, hj.1]
