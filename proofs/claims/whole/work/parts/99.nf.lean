/-! The reference: accounts, taking, becoming, lines. -/
theorem kc_idx {kc : List Int32} {p : Int32} (h : p ∈ kc) : ∃ k, k < kc.length ∧ kc[k]? = some p := by
  obtain ⟨k, hk⟩ := List.getElem?_of_mem h
  exact ⟨k, (List.getElem?_eq_some_iff.mp hk).1, hk⟩
theorem kc_uniq {kc : List Int32} (hn : kc.Nodup) {i j : Nat} {p : Int32} (hi : kc[i]? = some p) (hj : kc[j]? = some p) : i = j := (List.getElem?_inj (List.getElem?_eq_some_iff.mp hi).1 hn).mp (hi.trans hj.symm)
theorem pig : ∀ (n : Nat) (l : List Nat), l.Nodup → (∀ x, x ∈ l → x < n) → l.length ≤ n
  | 0, [], _, _ => Nat.le_refl _
  | 0, x :: r, _, h => absurd (h x List.mem_cons_self) (by omega)
  | n + 1, l, hn, h => by
    by_cases hm : n ∈ l
    · have h1 := pig n (l.erase n) (hn.erase n) (fun x hx => by
        have := (hn.mem_erase_iff).mp hx
        have := h x this.2
        omega)
      rw [List.length_erase_of_mem hm] at h1
      omega
    · have h1 := pig n l hn (fun x hx => by
        have h2 := h x hx
        have h3 : x ≠ n := fun e => hm (e ▸ hx)
        omega)
      omega
theorem kc_len {kc : List Int32} (hn : kc.Nodup) (hc : ∀ p, p ∈ kc → 0 ≤ p.toInt ∧ p.toInt < 4096) : kc.length ≤ 4096 := by
  have h1 : (kc.map (fun p => p.toInt.toNat)).Nodup := by
    refine List.pairwise_map.mpr (List.Pairwise.imp_of_mem ?_ hn)
    intro a b ha hb hab e
    have h3 := hc a ha
    have h4 := hc b hb
    exact hab (Int32.toInt_inj.mp (by omega))
  have h2 := pig 4096 _ h1 (fun x hx => by
    obtain ⟨p, hp, rfl⟩ := List.mem_map.mp hx
    have := hc p hp
    omega)
  rw [List.length_map] at h2
  exact h2
theorem p_nI {p : Int32} (h : 0 ≤ p.toInt ∧ p.toInt < 4096) : ∃ n, n < 4096 ∧ p = nI n := ⟨p.toInt.toNat, by omega, Int32.toInt_inj.mp (by rw [nI_toInt (by omega)]; omega)⟩
theorem wlook_add (p p' : Int32) (x : Int64) : ∀ l : Wn, wris l → wlook p' (wadd p x l) = if p' = p then wlook p l + x else wlook p' l
  | [], _ => by
    simp only [wadd, wlook]
    by_cases e : p = p'
    · rw [if_pos e, if_pos e.symm, Int64.zero_add]
    · rw [if_neg e, if_neg (fun q => e q.symm)]
  | q :: r, h => by
    have ih := wlook_add p p' x r h.2
    have hnot : ∀ z, z ∈ r → q.1 < z.1 := h.1
    have absent : ∀ t : Int32, t < q.1 ∨ t = q.1 → ∀ l : Wn, (∀ z, z ∈ l → q.1 < z.1) → wlook t l = 0 := by
      intro t ht l
      induction l with
      | nil => intro _; rfl
      | cons z s ihs =>
        intro hz
        simp only [wlook]
        have hz1 := hz z List.mem_cons_self
        rw [if_neg (fun e => by
          rw [e] at hz1
          rcases ht with ht | ht
          · exact absurd (Int32.lt_trans hz1 ht) (Int32.lt_irrefl)
          · rw [ht] at hz1; exact absurd hz1 (Int32.lt_irrefl))]
        exact ihs (fun y hy => hz y (List.mem_cons_of_mem _ hy))
    simp only [wadd]
    by_cases h1 : q.1 < p
    · rw [if_pos h1]
      simp only [wlook]
      have hne : ¬ q.1 = p := fun e => by rw [e] at h1; exact Int32.lt_irrefl h1
      rw [if_neg hne]
      by_cases e : q.1 = p'
      · rw [if_pos e, if_neg (fun z => hne (e.trans z)), if_pos e]
      · rw [if_neg e, ih]
        by_cases e2 : p' = p
        · rw [if_pos e2, if_pos e2]
        · rw [if_neg e2, if_neg e2, if_neg e]
    · rw [if_neg h1]
      by_cases h2 : q.1 = p
      · rw [if_pos h2]
        simp only [wlook]
        by_cases e : q.1 = p'
        · rw [if_pos e, if_pos (e.symm.trans h2), if_pos h2]
        · rw [if_neg e, if_neg (fun z => e (h2.trans z.symm)), if_neg e]
      · rw [if_neg h2]
        have hlt : p < q.1 := by
          rcases Int32.lt_or_eq_of_le (Int32.not_lt.mp h1) with z | z
          · exact z
          · exact absurd z.symm h2
        simp only [wlook]
        by_cases e : p = p'
        · rw [if_pos e, if_pos e.symm, if_neg h2, absent p (Or.inl hlt) r hnot, Int64.zero_add]
        · rw [if_neg e, if_neg (show ¬ p' = p from fun z => e z.symm)]
/-- a code that no account has -/
theorem wlook_abs (p : Int32) : ∀ l : Wn, (∀ q, q ∈ l → q.1 ≠ p) → wlook p l = 0
  | [], _ => rfl
  | q :: r, h => by
    simp only [wlook]
    rw [if_neg (h q List.mem_cons_self)]
    exact wlook_abs p r (fun z hz => h z (List.mem_cons_of_mem _ hz))
/-- accounts, and nothing behind the last known -/
def mAk (Q : Mq) (kc : List Int32) (ac : Nat → Wn) : Prop := mAc Q 17 kc ac ∧ ∀ j, 5 * kc.length ≤ j → j < 20480 → Q.2 17 j = 0
theorem mAk.fr {Q Q' : Mq} {W : List Nat} {kc : List Int32} {ac : Nat → Wn} (h : mAk Q kc ac) (f : qfr Q Q' W) (hd : 17 ∉ W) : mAk Q' kc ac := ⟨h.1.fr f hd, by rw [f.j 17 hd]; exact h.2⟩
theorem m_acc46 {Q : Mq} {kc : List Int32} {ac : Nat → Wn} {n hw k : Nat} (hK : mKn Q kc) (hA : mAk Q kc ac) (hr : wris (ac hw)) (hh : hw < 5) (hn : n < 4096) (hk : kc[k]? = some (nI n)) (x : Int64) : zev (mf_account_J46 Q (nI n) (nI hw) x) (fun y => mKn y.1 kc ∧ mAk y.1 kc (aup ac hw (wadd (nI n) x (ac hw))) ∧ qfr Q y.1 [17]) := by
  have hk4 := kc_len hK.2.1 hK.2.2.1
  have hkl := (List.getElem?_eq_some_iff.mp hk).1
  have i15 : Q.1 15 n = nI (k + 1) := by have := (hK.2.2.2.1 k _ hk).2; rwa [nI_clamp (by omega)] at this
  have e1 : nI (k + 1) - 1 = nI k := nI_pred k
  unfold mf_account_J46
  simp only [zev_b1, zev_mbd, zev_some, zev_b0, zev_bo, true_and, and_true, mev_ai (show n < 2 ^ 31 by omega), mln_2, mln_3, mln_4, mln_5, mln_6, mln_7, mln_8, mln_9, mln_10, mln_11, mln_12, mln_13, mln_15, mln_16, mln_17, mln_24, mln_25, mln_26, mln_27, mln_28, mln_29, mln_30, mln_31, mln_32, mln_34, mln_35, mln_37, mln_42, mln_49, mln_50, mln_51, mln_52, mln_53, mln_54, mln_55, mln_56, mln_57, mln_58, mln_59, mln_61, mln_62, mln_63, mln_65, mln_66, mln_68, mln_70, mln_71, mln_72, mln_73, mln_74, hn, i15, e1, nI_x4, nI_x5, nI_x13, nI_x16, nI_x20, nI_x60, nI_x100, nI_x48r, nI_add, nI_1, mev_aj (show 5 * k + hw < 2 ^ 31 by omega), mev_sj (show 5 * k + hw < 2 ^ 31 by omega), show 5 * k + hw < 20480 by omega]
  have f : qfr Q (qj Q 17 (5 * k + hw) (Q.2 17 (5 * k + hw) + x)) [17] := qfr.qj (by decide)
  refine ⟨hK.fr f (by decide), ⟨fun j p hj i hi => ?_, fun j h1 h2 => by rw [qj_2, if_neg (by omega)]; exact hA.2 j h1 h2⟩, f⟩
  rw [qj_2, aup]
  by_cases e : j = k ∧ i = hw
  · obtain ⟨rfl, rfl⟩ := e
    rw [hk] at hj
    cases hj
    rw [if_pos ⟨rfl, rfl⟩, if_pos rfl, wlook_add _ _ _ _ hr, if_pos rfl, hA.1 j _ hk i hi]
  · rw [if_neg (by omega)]
    by_cases e2 : i = hw
    · subst e2
      rw [if_pos rfl, wlook_add _ _ _ _ hr, if_neg (show ¬ p = nI n from fun z => e ⟨kc_uniq hK.2.1 hj (by rw [z]; exact hk), rfl⟩)]
      exact hA.1 j p hj i hi
    · rw [if_neg e2]
      exact hA.1 j p hj i hi
theorem m_account {Q : Mq} {kc : List Int32} {ac : Nat → Wn} {n hw : Nat} (hK : mKn Q kc) (hA : mAk Q kc ac) (hC : ∀ h, h < 5 → ∀ q, q ∈ ac h → q.1 ∈ kc) (hr : wris (ac hw)) (hh : hw < 5) (hn : n < 4096) (x : Int64) (hx : x ≠ 0) : zev (mf_account Q (nI n) (nI hw) x) (fun y => ∃ kc', (∃ t, kc' = kc ++ t) ∧ nI n ∈ kc' ∧ mKn y.1 kc' ∧ mAk y.1 kc' (aup ac hw (wadd (nI n) x (ac hw))) ∧ (∀ h, h < 5 → ∀ q, q ∈ aup ac hw (wadd (nI n) x (ac hw)) h → q.1 ∈ kc') ∧ qfr Q y.1 [14, 15, 16, 17]) := by
  have hk4 := kc_len hK.2.1 hK.2.2.1
  have hcod : ∀ kc', (∃ t, kc' = kc ++ t) → nI n ∈ kc' → ∀ h, h < 5 → ∀ q, q ∈ aup ac hw (wadd (nI n) x (ac hw)) h → q.1 ∈ kc' := by
    rintro kc' ⟨t, rfl⟩ hin h hlt q hq
    unfold aup at hq
    by_cases e : h = hw
    · rw [if_pos e] at hq
      rcases wadd_mem _ _ _ _ hq with e1 | ⟨q', hq', e1⟩
      · rw [e1]; exact hin
      · rw [← e1]; exact List.mem_append_left _ (hC hw hh q' hq')
    · rw [if_neg e] at hq
      exact List.mem_append_left _ (hC h hlt q hq)
  unfold mf_account
  by_cases hin : nI n ∈ kc
  · obtain ⟨k, hkl, hk⟩ := kc_idx hin
    have i15 : Q.1 15 n = nI (k + 1) := by have := (hK.2.2.2.1 k _ hk).2; rwa [nI_clamp (by omega)] at this
    simp only [if_neg hx, zev_b1, zev_mbd, zev_some, zev_b0, zev_bo, true_and, and_true, mev_ai (show n < 2 ^ 31 by omega), mln_2, mln_3, mln_4, mln_5, mln_6, mln_7, mln_8, mln_9, mln_10, mln_11, mln_12, mln_13, mln_15, mln_16, mln_17, mln_24, mln_25, mln_26, mln_27, mln_28, mln_29, mln_30, mln_31, mln_32, mln_34, mln_35, mln_37, mln_42, mln_49, mln_50, mln_51, mln_52, mln_53, mln_54, mln_55, mln_56, mln_57, mln_58, mln_59, mln_61, mln_62, mln_63, mln_65, mln_66, mln_68, mln_70, mln_71, mln_72, mln_73, mln_74, hn, i15, if_neg (nI_ne0 (show 0 < k + 1 by omega) (by omega))]
    refine zev_mono (m_acc46 hK hA hr hh hn hk x) ?_
    rintro ⟨Q1, u⟩ ⟨k1, a1, f1⟩
    exact ⟨kc, ⟨[], by simp⟩, hin, k1, a1, hcod kc ⟨[], by simp⟩ hin, f1.mono (by decide)⟩
  · have i15 : Q.1 15 n = 0 := hK.2.2.2.2 n hn hin
    have hkl : kc.length < 4096 := by
      have hnd : (nI n :: kc).Nodup := List.nodup_cons.mpr ⟨hin, hK.2.1⟩
      have := kc_len hnd (fun p hp => by
        rcases List.mem_cons.mp hp with rfl | hp
        · rw [nI_toInt (by omega)]; omega
        · exact hK.2.2.1 p hp)
      rw [List.length_cons] at this
      omega
    simp only [if_neg hx, zev_b1, zev_mbd, zev_some, zev_b0, zev_bo, true_and, and_true, mev_ai (show n < 2 ^ 31 by omega), mln_2, mln_3, mln_4, mln_5, mln_6, mln_7, mln_8, mln_9, mln_10, mln_11, mln_12, mln_13, mln_15, mln_16, mln_17, mln_24, mln_25, mln_26, mln_27, mln_28, mln_29, mln_30, mln_31, mln_32, mln_34, mln_35, mln_37, mln_42, mln_49, mln_50, mln_51, mln_52, mln_53, mln_54, mln_55, mln_56, mln_57, mln_58, mln_59, mln_61, mln_62, mln_63, mln_65, mln_66, mln_68, mln_70, mln_71, mln_72, mln_73, mln_74, hn, i15, if_true, hK.1, mev_si (show kc.length < 2 ^ 31 by omega), hkl, mev_si (show n < 2 ^ 31 by omega), qi_1, show ¬ (14 = 16) by decide, false_and, if_false, and_self, nI_1]
    have f : qfr Q (qi (qi (qi Q 16 kc.length (nI n)) 14 0 (nI (kc.length + 1))) 15 n (nI (kc.length + 1))) [14, 15, 16] := ((qfr.qi (by decide)).tr0 (qfr.qi (by decide))).tr0 (qfr.qi (by decide))
    have K1 : mKn (qi (qi (qi Q 16 kc.length (nI n)) 14 0 (nI (kc.length + 1))) 15 n (nI (kc.length + 1))) (kc ++ [nI n]) := by
      refine ⟨?_, ?_, fun p hp => ?_, fun k p hk => ?_, fun c hc hnin => ?_⟩
      · rw [qi_1, if_neg (by omega), qi_1, if_pos ⟨rfl, rfl⟩, List.length_append]; rfl
      · rw [List.nodup_append]
        refine ⟨hK.2.1, by simp, fun a ha b hb => ?_⟩
        rw [List.mem_singleton] at hb
        rw [hb]
        exact fun e => hin (e ▸ ha)
      · rcases List.mem_append.mp hp with hp | hp
        · exact hK.2.2.1 p hp
        · rw [List.mem_singleton] at hp
          rw [hp, nI_toInt (by omega)]; omega
      · by_cases hlt : k < kc.length
        · rw [List.getElem?_append_left hlt] at hk
          have h3 := hK.2.2.2.1 k p hk
          have hpin := List.mem_of_getElem? hk
          have hpc := hK.2.2.1 p hpin
          obtain ⟨m, hm, rfl⟩ := p_nI hpc
          rw [nI_clamp (by omega)] at h3 ⊢
          have hmn : m ≠ n := fun e => hin (e ▸ hpin)
          refine ⟨?_, ?_⟩
          · rw [qi_1, if_neg (by omega), qi_1, if_neg (by omega), qi_1, if_neg (by omega)]; exact h3.1
          · rw [qi_1, if_neg (by omega), qi_1, if_neg (by omega), qi_1, if_neg (by omega)]; exact h3.2
        · rw [List.getElem?_append_right (by omega)] at hk
          have h4 := (List.getElem?_eq_some_iff.mp hk).1
          simp only [List.length_cons, List.length_nil] at h4
          obtain rfl : k = kc.length := by omega
          rw [Nat.sub_self] at hk
          cases hk
          rw [nI_clamp (by omega)]
          refine ⟨?_, ?_⟩
          · rw [qi_1, if_neg (by omega), qi_1, if_neg (by omega), qi_1, if_pos ⟨rfl, rfl⟩]
          · rw [qi_1, if_pos ⟨rfl, rfl⟩]
      · have hcn : c ≠ n := fun e => hnin (List.mem_append_right _ (by rw [e]; exact List.mem_singleton.mpr rfl))
        rw [qi_1, if_neg (by omega), qi_1, if_neg (by omega), qi_1, if_neg (by omega)]
        exact hK.2.2.2.2 c hc (fun e => hnin (List.mem_append_left _ e))
    have A1 : mAk (qi (qi (qi Q 16 kc.length (nI n)) 14 0 (nI (kc.length + 1))) 15 n (nI (kc.length + 1))) (kc ++ [nI n]) ac := by
      refine ⟨fun k p hk i hi => ?_, fun j h1 h2 => ?_⟩
      · show Q.2 17 (5 * k + i) = _
        by_cases hlt : k < kc.length
        · rw [List.getElem?_append_left hlt] at hk
          exact hA.1 k p hk i hi
        · rw [List.getElem?_append_right (by omega)] at hk
          have h4 := (List.getElem?_eq_some_iff.mp hk).1
          simp only [List.length_cons, List.length_nil] at h4
          obtain rfl : k = kc.length := by omega
          rw [Nat.sub_self] at hk
          cases hk
          rw [hA.2 _ (by omega) (by omega), wlook_abs (nI n) (ac i) (fun q hq e => hin (by rw [← e]; exact hC i hi q hq))]
      · show Q.2 17 j = 0
        rw [List.length_append] at h1
        exact hA.2 j (by omega) h2
    have hk1 : (kc ++ [nI n])[kc.length]? = some (nI n) := by rw [List.getElem?_append_right (Nat.le_refl _), Nat.sub_self]; rfl
    generalize qi (qi (qi Q 16 kc.length (nI n)) 14 0 (nI (kc.length + 1))) 15 n (nI (kc.length + 1)) = Q1 at f K1 A1 ⊢
    refine zev_mono (m_acc46 K1 A1 hr hh hn hk1 x) ?_
    rintro ⟨Q2, u⟩ ⟨k2, a2, f2⟩
    exact ⟨kc ++ [nI n], ⟨_, rfl⟩, List.mem_append_right _ (List.mem_singleton.mpr rfl), k2, a2, hcod _ ⟨_, rfl⟩ (List.mem_append_right _ (List.mem_singleton.mpr rfl)), (f.mono (by decide)).tr0 (f2.mono (by decide))⟩
