/-! The question odd, in the reference. -/
theorem wlook_sbt (p : Int32) : ∀ (m l : Wn), wris l → wris m → wlook p (wsbt l m) = wlook p l - wlook p m
  | [], l, _, _ => by show wlook p l = wlook p l - 0; rw [Int64.sub_zero]
  | q :: r, l, hl, hm => by
    show wlook p (wsbt (wadd q.1 (-q.2) l) r) = wlook p l - (if q.1 = p then q.2 else wlook p r)
    rw [wlook_sbt p r _ (wris_wadd _ _ _ hl) hm.2, wlook_add _ _ _ _ hl]
    by_cases e : q.1 = p
    · subst e
      have h0 : wlook q.1 r = 0 := wlook_no _ _ (fun z hz e2 => by
        have := hm.1 z hz
        rw [e2] at this
        exact Int32.lt_irrefl this)
      rw [if_pos rfl, if_pos rfl, h0, Int64.sub_zero, Int64.sub_eq_add_neg]
    · rw [if_neg e, if_neg (fun z => e z.symm)]
theorem oacc_ris {ac : Nat → Wn} (h : Iac ac) : ∀ n, wris (oacc ac n)
  | 0 => (h 0 (by decide)).1
  | n + 1 => by rw [oacc_s]; exact wris_wsbt _ _ (oacc_ris h n)
theorem owin_ris {bs : Nat → Bv} {w : Wn} (hw : wris w) : ∀ n, wris (owin bs w n)
  | 0 => hw
  | n + 1 => by rw [owin_s]; exact wris_wsbt _ _ (owin_ris hw n)
/-- no code comes in but by adding -/
theorem wadd_in (c : Int32) (x : Int64) : ∀ (l : Wn) (q : Int32 × Int64), q ∈ wadd c x l → q.1 = c ∨ ∃ y, y ∈ l ∧ y.1 = q.1
  | [], q, h => by
    have : q = (c, x) := List.mem_singleton.mp h
    rw [this]; exact Or.inl rfl
  | y :: r, q, h => by
    unfold wadd at h
    split at h
    · rcases List.mem_cons.mp h with e | h
      · exact Or.inr ⟨y, List.mem_cons_self, by rw [e]⟩
      · rcases wadd_in c x r q h with e | ⟨z, z1, z2⟩
        · exact Or.inl e
        · exact Or.inr ⟨z, List.mem_cons_of_mem _ z1, z2⟩
    · split at h
      · rcases List.mem_cons.mp h with e | h
        · exact Or.inr ⟨y, List.mem_cons_self, by rw [e]⟩
        · exact Or.inr ⟨q, List.mem_cons_of_mem _ h, rfl⟩
      · rcases List.mem_cons.mp h with e | h
        · rw [e]; exact Or.inl rfl
        · exact Or.inr ⟨q, h, rfl⟩
theorem wsbt_kc {kc : List Int32} : ∀ (m l : Wn), (∀ q, q ∈ l → q.1 ∈ kc) → (∀ q, q ∈ m → q.1 ∈ kc) → ∀ q, q ∈ wsbt l m → q.1 ∈ kc
  | [], _, h, _ => h
  | y :: r, l, h, hm => wsbt_kc r (wadd y.1 (-y.2) l) (fun q hq => by
      rcases wadd_in _ _ _ q hq with e | ⟨z, z1, z2⟩
      · rw [e]; exact hm y List.mem_cons_self
      · rw [← z2]; exact h z z1) (fun q hq => hm q (List.mem_cons_of_mem _ hq))
theorem oacc_kc {kc : List Int32} {ac : Nat → Wn} (h : ∀ h, h < 5 → ∀ q, q ∈ ac h → q.1 ∈ kc) : ∀ n, n < 5 → ∀ q, q ∈ oacc ac n → q.1 ∈ kc
  | 0, _ => h 0 (by decide)
  | n + 1, hn => by rw [oacc_s]; exact wsbt_kc _ _ (oacc_kc h n (by omega)) (h (n + 1) hn)
theorem owin_kc {kc : List Int32} {nb : Nat} {bs : Nat → Bv} {w : Wn} (hw : ∀ q, q ∈ w → q.1 ∈ kc) (h : ∀ b, b < nb → ∀ q, q ∈ (bs b).2.1.2.2.2 → q.1 ∈ kc) : ∀ n, n ≤ nb → ∀ q, q ∈ owin bs w n → q.1 ∈ kc
  | 0, _ => hw
  | n + 1, hn => by rw [owin_s]; exact wsbt_kc _ _ (owin_kc hw h n (by omega)) (h n (by omega))
theorem count_put (c : Int32) (f g : Int32 → Bool) (he : ∀ p, p ≠ c → f p = g p) (hg : g c = false) : ∀ kc : List Int32, kc.Nodup → kc.countP f = kc.countP g + if c ∈ kc then (if f c then 1 else 0) else 0
  | [], _ => rfl
  | p :: r, hn => by
    obtain ⟨h1, h2⟩ := List.nodup_cons.mp hn
    have ih := count_put c f g he hg r h2
    rw [List.countP_cons, List.countP_cons, ih]
    by_cases e : p = c
    · subst e
      rw [if_neg h1, if_pos List.mem_cons_self, hg]
      simp
    · rw [he p e]
      have : (c ∈ p :: r) ↔ c ∈ r := ⟨fun z => (List.mem_cons.mp z).resolve_left (fun w => e w.symm), fun z => List.mem_cons_of_mem _ z⟩
      by_cases e2 : c ∈ r
      · rw [if_pos e2, if_pos (this.mpr e2)]; omega
      · rw [if_neg e2, if_neg (fun z => e2 (this.mp z))]; omega
theorem count_W {kc : List Int32} (hn : kc.Nodup) : ∀ W : Wn, wris W → (∀ q, q ∈ W → q.1 ∈ kc) → kc.countP (fun p => decide (wlook p W ≠ 0)) = W.countP (fun q => decide (q.2 ≠ 0))
  | [], _, _ => by
    show kc.countP (fun p => decide ((0 : Int64) ≠ 0)) = 0
    rw [List.countP_eq_zero]
    intro p _
    simp
  | q :: r, hw, hk => by
    have ih := count_W hn r hw.2 (fun z hz => hk z (List.mem_cons_of_mem _ hz))
    have h0 : wlook q.1 r = 0 := wlook_no _ _ (fun z hz e2 => by
      have := hw.1 z hz
      rw [e2] at this
      exact Int32.lt_irrefl this)
    rw [count_put q.1 (fun p => decide (wlook p (q :: r) ≠ 0)) (fun p => decide (wlook p r ≠ 0)) (fun p hp => by
      have : wlook p (q :: r) = wlook p r := by show (if q.1 = p then q.2 else wlook p r) = _; rw [if_neg (fun e => hp e.symm)]
      rw [this]) (by rw [h0]; decide) kc hn, if_pos (hk q List.mem_cons_self), ih, List.countP_cons]
    have : wlook q.1 (q :: r) = q.2 := by show (if q.1 = q.1 then q.2 else wlook q.1 r) = _; rw [if_pos rfl]
    rw [this]
theorem m_odd {Q : Mq} {nb : Nat} {bs : Nat → Bv} {ro : Nat → Rw} {ac : Nat → Wn} {kc : List Int32} (h : mBs Q nb bs) (hK : mKn Q kc) (hA : mAk Q kc ac) (hC : mCd kc nb bs ac) (hI : Ic nb bs ro ac) : mf_odd Q = some (Q, codd nb bs ac) := by
  have hN := hI.1
  have hkl := kc_len hK.2.1 hK.2.2.1
  have hr4 := oacc_ris hI.2.2.2 4
  have hrW := owin_ris (bs := bs) hr4 nb
  have hkW := owin_kc (nb := nb) (oacc_kc hC.1 4 (by decide)) hC.2 nb (Nat.le_refl _)
  unfold codd
  rw [← count_W hK.2.1 _ hrW hkW]
  refine zev_of ?_
  unfold mf_odd
  rw [zev_b1]
  refine zev_up (τ := Mq × Int32 × Int32) (fun i (z : Mq × Int32 × Int32) => z = (Q, nI ((kc.take i).countP (fun p => decide (wlook p (owin bs (oacc ac 4) nb) ≠ 0))), nI i)) kc.length (Nat.zero_le _) rfl ?_ ?_
  · rintro k z hk rfl
    obtain ⟨p, hp⟩ := getElem?_lt hk
    have hac := hA.1 k p hp
    have h16 := (hK.2.2.2.1 k p hp).1
    have e0 := hac 0 (by decide)
    rw [Nat.add_zero] at e0
    rw [take_snoc hp, List.countP_append]
    generalize (kc.take k).countP (fun p => decide (wlook p (owin bs (oacc ac 4) nb) ≠ 0)) = n0
    unfold mf_odd_L4 mf_odd_J95
    dsimp only
    rw [hK.1, if_neg (nI_ge hk (by omega))]
    simp only [zev_b1, zev_mbd, zev_some, zev_b0, zev_bo, true_and, and_true, mln_2, mln_3, mln_4, mln_5, mln_6, mln_7, mln_8, mln_9, mln_10, mln_11, mln_12, mln_13, mln_15, mln_16, mln_17, mln_24, mln_25, mln_26, mln_27, mln_28, mln_29, mln_30, mln_31, mln_32, mln_34, mln_35, mln_37, mln_42, mln_49, mln_50, mln_51, mln_52, mln_53, mln_54, mln_55, mln_56, mln_57, mln_58, mln_59, mln_61, mln_62, mln_63, mln_65, mln_66, mln_68, mln_70, mln_71, mln_72, mln_73, mln_74, nI_x4, nI_x5, nI_x13, nI_x16, nI_x20, nI_x60, nI_x100, nI_x48r, nI_add, nI_1, mev_aj (show 5 * k < 2 ^ 31 by omega), show 5 * k < 20480 by omega, e0]
    refine zev_up (τ := Mq × Int64 × Int32) (fun i (z : Mq × Int64 × Int32) => ∃ n, i = n + 1 ∧ z = (Q, wlook p (oacc ac n), nI i)) 5 (i := 1) (by decide) ⟨0, rfl, rfl⟩ ?_ ?_
    · rintro i z hi ⟨n, rfl, rfl⟩
      unfold mf_odd_L24
      dsimp only
      rw [if_neg (show ¬ (4 : Int32) < nI (n + 1) from nI_nlt (a := 4) (by omega) (by decide))]
      simp only [zev_b1, zev_mbd, zev_some, zev_b0, zev_bo, true_and, and_true, mln_2, mln_3, mln_4, mln_5, mln_6, mln_7, mln_8, mln_9, mln_10, mln_11, mln_12, mln_13, mln_15, mln_16, mln_17, mln_24, mln_25, mln_26, mln_27, mln_28, mln_29, mln_30, mln_31, mln_32, mln_34, mln_35, mln_37, mln_42, mln_49, mln_50, mln_51, mln_52, mln_53, mln_54, mln_55, mln_56, mln_57, mln_58, mln_59, mln_61, mln_62, mln_63, mln_65, mln_66, mln_68, mln_70, mln_71, mln_72, mln_73, mln_74, nI_x4, nI_x5, nI_x13, nI_x16, nI_x20, nI_x60, nI_x100, nI_x48r, nI_add, nI_1, mev_aj (show 5 * k + (n + 1) < 2 ^ 31 by omega), show 5 * k + (n + 1) < 20480 by omega, hac (n + 1) (by omega)]
      refine ⟨_, rfl, n + 1, rfl, ?_⟩
      rw [oacc_s, wlook_sbt p _ _ (oacc_ris hI.2.2.2 n) (hI.2.2.2 (n + 1) (by omega)).1]
    · rintro z ⟨n, hn, rfl⟩
      have hn4 : n = 4 := by omega
      subst hn4
      unfold mf_odd_L24
      dsimp only
      rw [if_pos (show (4 : Int32) < nI 5 by decide), zev_some]
      refine ⟨_, rfl, ?_⟩
      dsimp only
      refine zev_up (τ := Mq × Int64 × Int32) (fun i (z : Mq × Int64 × Int32) => z = (Q, wlook p (owin bs (oacc ac 4) i), nI i)) nb (Nat.zero_le _) rfl ?_ ?_
      · rintro b z hb rfl
        have hw := hI.w hb
        unfold mf_odd_L53
        dsimp only
        rw [h.1, if_neg (nI_ge hb (by omega))]
        simp only [zev_b1, zev_mbd, zev_some, zev_b0, zev_bo, true_and, and_true, mln_2, mln_3, mln_4, mln_5, mln_6, mln_7, mln_8, mln_9, mln_10, mln_11, mln_12, mln_13, mln_15, mln_16, mln_17, mln_24, mln_25, mln_26, mln_27, mln_28, mln_29, mln_30, mln_31, mln_32, mln_34, mln_35, mln_37, mln_42, mln_49, mln_50, mln_51, mln_52, mln_53, mln_54, mln_55, mln_56, mln_57, mln_58, mln_59, mln_61, mln_62, mln_63, mln_65, mln_66, mln_68, mln_70, mln_71, mln_72, mln_73, mln_74, mev_ai (show k < 2 ^ 31 by omega), show k < 4096 by omega, h16, zev_eq (m_ofPart h hN hb hw.2.2.1 hw.1 p)]
        refine ⟨_, rfl, ?_⟩
        rw [owin_s, wlook_sbt p _ _ (owin_ris hr4 b) hw.1, nI_1]
      · rintro z rfl
        unfold mf_odd_L53
        dsimp only
        rw [h.1, if_pos (nI_le (Nat.le_refl nb) (by omega)), zev_some]
        refine ⟨_, rfl, ?_⟩
        dsimp only
        by_cases e : wlook p (owin bs (oacc ac 4) nb) = 0
        · rw [if_pos e, zev_some]
          refine ⟨_, rfl, ?_⟩
          simp [e, nI_1, nI_add]
        · rw [if_neg e, zev_some]
          refine ⟨_, rfl, ?_⟩
          simp [e, nI_1, nI_add]
  · rintro z rfl
    unfold mf_odd_L4
    dsimp only
    rw [hK.1, if_pos (nI_le (Nat.le_refl kc.length) (by omega)), zev_some]
    refine ⟨_, rfl, ?_⟩
    dsimp only
    rw [List.take_of_length_le (Nat.le_refl _), zev_some]
