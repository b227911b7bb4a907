/-! The reference's acts: what judge counts. -/
def tk (st : Nat) (q : Int32 × Int64) (i : Nat) : Int64 := (if i = st + 32 + (q.1.toNatClampNeg % 16) then q.2 else 0) + (if i = st + 16 + (q.1.toNatClampNeg / 16 % 16) then q.2 else 0) + (if i = st + (q.1.toNatClampNeg / 256 % 16) then q.2 else 0)
def tsm (st : Nat) (l : Wn) (i : Nat) : Int64 := l.foldr (fun q a => tk st q i + a) 0
theorem tone_k (S : Nat → Int64) (st : Nat) (q : Int32 × Int64) (i : Nat) : tone S st q i = tk st q i + S i := rfl
theorem tadd_s (st i : Nat) : ∀ (l : Wn) (S : Nat → Int64), tadd S st l i = tsm st l i + S i
  | [], S => (Int64.zero_add _).symm
  | q :: r, S => by
    show tadd (tone S st q) st r i = (tk st q i + tsm st r i) + S i
    rw [tadd_s st i r (tone S st q), tone_k]
    ac_rfl
theorem ite_add (P : Prop) [Decidable P] (a b : Int64) : (if P then a + b else 0) = (if P then a else 0) + (if P then b else 0) := by
  split
  · rfl
  · exact (Int64.zero_add 0).symm
theorem tk_add (st i : Nat) (p : Int32) (a b : Int64) : tk st (p, a + b) i = tk st (p, a) i + tk st (p, b) i := by
  unfold tk
  dsimp only
  rw [ite_add, ite_add, ite_add]
  ac_rfl
theorem tsm_wadd (st i : Nat) (p : Int32) (x : Int64) : ∀ l : Wn, tsm st (wadd p x l) i = tk st (p, x) i + tsm st l i
  | [] => rfl
  | q :: r => by
    unfold wadd
    by_cases e1 : q.1 < p
    · rw [if_pos e1]
      show tk st q i + tsm st (wadd p x r) i = tk st (p, x) i + (tk st q i + tsm st r i)
      rw [tsm_wadd st i p x r]
      ac_rfl
    · rw [if_neg e1]
      by_cases e2 : q.1 = p
      · rw [if_pos e2]
        show tk st (q.1, q.2 + x) i + tsm st r i = tk st (p, x) i + (tk st q i + tsm st r i)
        rw [tk_add, e2]
        have : tk st (p, q.2) i = tk st q i := by rw [← e2]
        rw [this]
        ac_rfl
      · rw [if_neg e2]; rfl
def wmel (lm w : Wn) : Wn := w.foldl (fun l q => wadd q.1 q.2 l) lm
theorem wmel_snoc (lm w : Wn) (q : Int32 × Int64) : wmel lm (w ++ [q]) = wadd q.1 q.2 (wmel lm w) := by unfold wmel; rw [List.foldl_append]; rfl
theorem wadd_ln (p : Int32) (x : Int64) : ∀ l : Wn, (wadd p x l).length ≤ l.length + 1
  | [] => Nat.le_refl _
  | q :: r => by
    have := wadd_ln p x r
    unfold wadd
    split
    · simp only [List.length_cons]; omega
    · split <;> simp only [List.length_cons] <;> omega
theorem wmel_ln : ∀ (w lm : Wn), (wmel lm w).length ≤ lm.length + w.length
  | [], lm => Nat.le_refl _
  | q :: r, lm => by
    have h1 := wmel_ln r (wadd q.1 q.2 lm)
    have h2 := wadd_ln q.1 q.2 lm
    show (wmel (wadd q.1 q.2 lm) r).length ≤ _
    rw [List.length_cons]
    omega
theorem wmel_cod : ∀ (w lm : Wn), wcod lm → wcod w → wcod (wmel lm w)
  | [], _, h, _ => h
  | q :: r, lm, h, hw => wmel_cod r (wadd q.1 q.2 lm) (wcod_wadd _ _ _ h (hw q List.mem_cons_self)) (fun x hx => hw x (List.mem_cons_of_mem _ hx))
theorem tsm_wmel (st i : Nat) : ∀ (w lm : Wn), tsm st (wmel lm w) i = tsm st w i + tsm st lm i
  | [], lm => (Int64.zero_add _).symm
  | q :: r, lm => by
    show tsm st (wmel (wadd q.1 q.2 lm) r) i = (tk st q i + tsm st r i) + tsm st lm i
    rw [tsm_wmel st i r, tsm_wadd]
    show tsm st r i + (tk st q i + tsm st lm i) = _
    ac_rfl
theorem m_mixVessel {Q : Mq} {nb b : Nat} {bs : Nat → Bv} {lm : Wn} (h : mBs Q nb bs) (hM : mMx Q lm) (hn : nb ≤ 1000) (hb : b < nb) (h6 : (bs b).2.1.2.2.2.length ≤ 60) (hl : lm.length + 60 ≤ 1980) : zev (mf_mixVessel Q (nI b)) (fun y => mMx y.1 (wmel lm (bs b).2.1.2.2.2) ∧ qfr Q y.1 [64, 65, 66]) := by
  unfold mf_mixVessel
  rw [zev_b1, nI_x60]
  refine zev_up (τ := Mq × Int32) (fun i (z : Mq × Int32) => ∃ Q1, z = (Q1, nI (60 * b + i)) ∧ mMx Q1 (wmel lm ((bs b).2.1.2.2.2.take i)) ∧ qfr Q Q1 [64, 65, 66]) (bs b).2.1.2.2.2.length (Nat.zero_le _) ⟨Q, rfl, hM, qfr.rf⟩ ?_ ?_
  · rintro i z hi ⟨Q1, rfl, m1, f1⟩
    obtain ⟨q, hq⟩ := getElem?_lt hi
    have hB := h.fr f1 (by decide)
    have hln := wmel_ln ((bs b).2.1.2.2.2.take i) lm
    rw [List.length_take] at hln
    unfold mf_mixVessel_L5
    simp only [zev_b1, zev_mbd, zev_some, zev_b0, zev_bo, true_and, and_true, mev_ai (show b < 2 ^ 31 by omega), mln_2, mln_3, mln_4, mln_5, mln_6, mln_7, mln_8, mln_9, mln_10, mln_11, mln_12, mln_13, mln_15, mln_16, mln_17, mln_24, mln_25, mln_26, mln_27, mln_28, mln_29, mln_30, mln_31, mln_32, mln_34, mln_35, mln_37, mln_42, mln_49, mln_50, mln_51, mln_52, mln_53, mln_54, mln_55, mln_56, mln_57, mln_58, mln_59, mln_61, mln_62, mln_63, mln_65, mln_66, mln_68, mln_70, mln_71, mln_72, mln_73, mln_74, show b < 1000 by omega, hB.ln hb, nI_x4, nI_x5, nI_x13, nI_x16, nI_x20, nI_x60, nI_x100, nI_x48r, nI_add, nI_1, if_neg (nI_ge (show 60 * b + i < 60 * b + (bs b).2.1.2.2.2.length by omega) (by omega)), mev_ai (show 60 * b + i < 2 ^ 31 by omega), mev_aj (show 60 * b + i < 2 ^ 31 by omega), show 60 * b + i < 60000 by omega, (hB.wi hb hq).1, (hB.wi hb hq).2]
    refine zev_mono (m_mix m1 q.1 q.2 (by omega)) ?_
    rintro ⟨Q2, u⟩ ⟨m2, f2⟩
    dsimp only at m2 f2 ⊢
    refine ⟨_, rfl, Q2, rfl, ?_, f1.tr0 f2⟩
    rw [take_snoc hq, wmel_snoc]
    exact m2
  · rintro z ⟨Q1, rfl, m1, f1⟩
    have hB := h.fr f1 (by decide)
    unfold mf_mixVessel_L5
    simp only [zev_b1, zev_mbd, zev_some, zev_b0, zev_bo, true_and, and_true, mev_ai (show b < 2 ^ 31 by omega), mln_2, mln_3, mln_4, mln_5, mln_6, mln_7, mln_8, mln_9, mln_10, mln_11, mln_12, mln_13, mln_15, mln_16, mln_17, mln_24, mln_25, mln_26, mln_27, mln_28, mln_29, mln_30, mln_31, mln_32, mln_34, mln_35, mln_37, mln_42, mln_49, mln_50, mln_51, mln_52, mln_53, mln_54, mln_55, mln_56, mln_57, mln_58, mln_59, mln_61, mln_62, mln_63, mln_65, mln_66, mln_68, mln_70, mln_71, mln_72, mln_73, mln_74, show b < 1000 by omega, hB.ln hb, nI_x4, nI_x5, nI_x13, nI_x16, nI_x20, nI_x60, nI_x100, nI_x48r, nI_add, nI_1, if_pos (nI_le (Nat.le_refl (60 * b + (bs b).2.1.2.2.2.length)) (by omega))]
    rw [List.take_of_length_le (Nat.le_refl _)] at m1
    exact ⟨_, rfl, m1, f1⟩
theorem m_shClr {Q : Mq} {f st : Nat} (hf : st + 48 ≤ mln f) (h31 : st + 48 < 2 ^ 31) : zev (zwhile (mf_sharesOfMix_L2 f (nI st)) (Q, 0)) (fun y => (∀ j, y.1.2 f j = tclr (Q.2 f) st j) ∧ qfr Q y.1 [f]) := by
  refine zev_up (τ := Mq × Int32) (fun i (z : Mq × Int32) => ∃ Q1, z = (Q1, nI i) ∧ (∀ j, Q1.2 f j = if st ≤ j ∧ j < st + i then 0 else Q.2 f j) ∧ qfr Q Q1 [f]) 48 (Nat.zero_le _) ⟨Q, rfl, fun j => by rw [if_neg (by omega)], qfr.rf⟩ ?_ ?_
  · rintro i z hi ⟨Q1, rfl, e1, f1⟩
    unfold mf_sharesOfMix_L2
    dsimp only
    rw [if_neg (show ¬ (48 : Int32) ≤ nI i from nI_ge (b := 48) hi (by decide))]
    simp only [zev_b1, zev_mbd, zev_some, zev_b0, zev_bo, true_and, and_true, nI_add, mev_sj (show st + i < 2 ^ 31 by omega), show st + i < mln f by omega, true_and]
    refine ⟨_, rfl, _, by rw [nI_1], fun j => ?_, f1.tr0 (qfr.qj (by simp))⟩
    rw [qj_2, e1]
    by_cases e : j = st + i
    · rw [if_pos ⟨rfl, e⟩, if_pos (by omega)]
    · rw [if_neg (fun z => e z.2)]
      by_cases e2 : st ≤ j ∧ j < st + i
      · rw [if_pos e2, if_pos (by omega)]
      · rw [if_neg e2, if_neg (by omega)]
  · rintro z ⟨Q1, rfl, e1, f1⟩
    unfold mf_sharesOfMix_L2
    dsimp only
    rw [if_pos (show (48 : Int32) ≤ nI 48 from nI_le (a := 48) (Nat.le_refl _) (by decide)), zev_some]
    exact ⟨_, rfl, e1, f1⟩
theorem m_shAdd {Q : Mq} {f st : Nat} {lm : Wn} (hM : mMx Q lm) (hcod : wcod lm) (hne : f ∉ [64, 65, 66]) (hf : st + 48 ≤ mln f) (h31 : st + 48 < 2 ^ 31) : zev (zwhile (mf_sharesOfMix_L22 f (nI st)) (Q, 0)) (fun y => (∀ j, y.1.2 f j = tadd (Q.2 f) st lm j) ∧ qfr Q y.1 [f]) := by
  have hne6 : ¬ 66 = f := fun e => hne (by rw [← e]; decide)
  refine zev_up (τ := Mq × Int32) (fun i (z : Mq × Int32) => ∃ Q1, z = (Q1, nI i) ∧ (∀ j, Q1.2 f j = tadd (Q.2 f) st (lm.take i) j) ∧ qfr Q Q1 [f]) lm.length (Nat.zero_le _) ⟨Q, rfl, fun j => rfl, qfr.rf⟩ ?_ ?_
  · rintro i z hi ⟨Q1, rfl, r9, f1⟩
    obtain ⟨q, hq⟩ := getElem?_lt hi
    obtain ⟨m1, m2, m3⟩ := hM.fr f1 (fun x hx hh => hne (by rw [List.mem_singleton] at hh; rw [← hh]; exact hx))
    obtain ⟨m4, m5⟩ := m3 i q hq
    have hcq := hcod q (List.mem_of_getElem? hq)
    obtain ⟨p, hp31, hpe⟩ : ∃ p : Nat, p < 2 ^ 31 ∧ q.1 = nI p := nI_of (fun e => by have := Int32.lt_iff_toInt_lt.mp e; simp at this; omega)
    have hp : p < 4096 := by
      have := hcq.2
      rw [hpe, nI_toInt hp31] at this
      omega
    have e1 : nI p / 256 = nI (p / 256) := pk_div (d := 256) (by omega) (by decide) (by decide)
    have e1m : p / 256 % 16 = p / 256 := Nat.mod_eq_of_lt (by omega)
    have e3 : nI p / 16 = nI (p / 16) := pk_div (d := 16) (by omega) (by decide) (by decide)
    have e4 : nI (p / 16) - nI (p / 16) / 16 * 16 = nI (p / 16 % 16) := pk_rem (d := 16) (by omega) (by decide) (by decide)
    have e5 : nI p - nI (p / 16) * 16 = nI (p % 16) := by rw [← e3]; exact pk_rem (d := 16) (by omega) (by decide) (by decide)
    have e6 : nI st + 16 = nI (st + 16) := nI_add _ 16
    have e7 : nI st + 32 = nI (st + 32) := nI_add _ 32
    have k1 : p / 256 < 16 := by omega
    have k2 : p / 16 % 16 < 16 := Nat.mod_lt _ (by decide)
    have k3 : p % 16 < 16 := Nat.mod_lt _ (by decide)
    have d1 : ¬ st + 16 + p / 16 % 16 = st + p / 256 := by omega
    have d2 : ¬ st + 32 + p % 16 = st + 16 + p / 16 % 16 := by omega
    have d3 : ¬ st + 32 + p % 16 = st + p / 256 := by omega
    unfold mf_sharesOfMix_L22
    dsimp only
    rw [m1, if_neg (nI_ge hi (by omega))]
    simp only [zev_b1, zev_mbd, zev_some, zev_b0, zev_bo, true_and, and_true, mln_2, mln_3, mln_4, mln_5, mln_6, mln_7, mln_8, mln_9, mln_10, mln_11, mln_12, mln_13, mln_15, mln_16, mln_17, mln_24, mln_25, mln_26, mln_27, mln_28, mln_29, mln_30, mln_31, mln_32, mln_34, mln_35, mln_37, mln_42, mln_49, mln_50, mln_51, mln_52, mln_53, mln_54, mln_55, mln_56, mln_57, mln_58, mln_59, mln_61, mln_62, mln_63, mln_65, mln_66, mln_68, mln_70, mln_71, mln_72, mln_73, mln_74, zev_id256, zev_id16, mev_ai (show i < 2 ^ 31 by omega), mev_aj (show i < 2 ^ 31 by omega), show i < 1980 by omega, m4, m5, hpe, e1, e3, zev_im16, e4, e5, nI_add, e6, e7, mev_aj (show st + p / 256 < 2 ^ 31 by omega), mev_sj (show st + p / 256 < 2 ^ 31 by omega), mev_aj (show st + 16 + p / 16 % 16 < 2 ^ 31 by omega), mev_sj (show st + 16 + p / 16 % 16 < 2 ^ 31 by omega), mev_aj (show st + 32 + p % 16 < 2 ^ 31 by omega), mev_sj (show st + 32 + p % 16 < 2 ^ 31 by omega), show st + p / 256 < mln f by omega, show st + 16 + p / 16 % 16 < mln f by omega, show st + 32 + p % 16 < mln f by omega, qj_2, hne6, false_and, if_false, d1, d2, d3, and_false, true_and]
    refine ⟨_, rfl, _, by rw [nI_1], fun j => ?_, ((f1.tr0 (qfr.qj (by simp))).tr0 (qfr.qj (by simp))).tr0 (qfr.qj (by simp))⟩
    have et : tadd (Q.2 f) st (lm.take (i + 1)) j = tone (tadd (Q.2 f) st (lm.take i)) st q j := by
      rw [take_snoc hq]; unfold tadd; rw [List.foldl_append]; rfl
    rw [et]
    unfold tone
    rw [hpe, nI_clamp hp31, e1m]
    have hS := r9 j
    simp only [qj_2, true_and]
    by_cases j1 : j = st + 32 + p % 16
    · have j2 : ¬ j = st + 16 + p / 16 % 16 := by omega
      have j3 : ¬ j = st + p / 256 := by omega
      simp only [if_pos j1, if_neg j2, if_neg j3, Int64.add_zero]
      rw [← j1, hS, Int64.add_comm]
    · by_cases j2 : j = st + 16 + p / 16 % 16
      · have j3 : ¬ j = st + p / 256 := by omega
        simp only [if_neg j1, if_pos j2, if_neg j3, Int64.add_zero, Int64.zero_add]
        rw [← j2, hS, Int64.add_comm]
      · by_cases j3 : j = st + p / 256
        · simp only [if_neg j1, if_neg j2, if_pos j3, Int64.add_zero, Int64.zero_add]
          rw [← j3, hS, Int64.add_comm]
        · simp only [if_neg j1, if_neg j2, if_neg j3, Int64.zero_add]
          exact hS
  · rintro z ⟨Q1, rfl, r9, f1⟩
    obtain ⟨m1, m2, m3⟩ := hM.fr f1 (fun x hx hh => hne (by rw [List.mem_singleton] at hh; rw [← hh]; exact hx))
    unfold mf_sharesOfMix_L22
    dsimp only
    rw [m1, if_pos (nI_le (Nat.le_refl lm.length) (by omega)), zev_some]
    rw [List.take_of_length_le (Nat.le_refl _)] at r9
    exact ⟨_, rfl, r9, f1⟩
theorem m_sharesOfMix {Q : Mq} {f st : Nat} {lm : Wn} (hM : mMx Q lm) (hcod : wcod lm) (hne : f ∉ [64, 65, 66]) (hf : st + 48 ≤ mln f) (h31 : st + 48 < 2 ^ 31) : zev (mf_sharesOfMix Q f (nI st)) (fun y => (∀ j, st ≤ j → j < st + 48 → y.1.2 f j = tsm st lm j) ∧ (∀ j, ¬ (st ≤ j ∧ j < st + 48) → y.1.2 f j = Q.2 f j) ∧ qfr Q y.1 [f]) := by
  unfold mf_sharesOfMix
  rw [zev_b1]
  refine zev_mono (m_shClr hf h31) ?_
  rintro ⟨Q1, u1⟩ ⟨e1, f1⟩
  dsimp only at e1 f1 ⊢
  rw [zev_b1]
  refine zev_mono (m_shAdd (hM.fr f1 (fun x hx hh => hne (by rw [List.mem_singleton] at hh; rw [← hh]; exact hx))) hcod hne hf h31) ?_
  rintro ⟨Q2, u2⟩ ⟨e2, f2⟩
  dsimp only at e2 f2 ⊢
  rw [zev_some]
  refine ⟨fun j h1 h2 => ?_, fun j h1 => ?_, f1.tr0 f2⟩
  · dsimp only
    rw [e2, tadd_s, e1]
    unfold tclr
    rw [if_pos ⟨h1, h2⟩, Int64.add_zero]
  · dsimp only
    rw [e2, tadd_s, e1]
    unfold tclr
    rw [if_neg h1]
    have hz : tsm st lm j = 0 := by
      have : ∀ l : Wn, tsm st l j = 0 := by
        intro l
        induction l with
        | nil => rfl
        | cons q r ih =>
          show tk st q j + tsm st r j = 0
          rw [ih]
          unfold tk
          have a1 : q.1.toNatClampNeg % 16 < 16 := Nat.mod_lt _ (by decide)
          have a2 : q.1.toNatClampNeg / 16 % 16 < 16 := Nat.mod_lt _ (by decide)
          have a3 : q.1.toNatClampNeg / 256 % 16 < 16 := Nat.mod_lt _ (by decide)
          rw [if_neg (by omega), if_neg (by omega), if_neg (by omega)]
          rfl
      exact this lm
    rw [hz, Int64.zero_add]
