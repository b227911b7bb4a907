/-! The reference's acts: blend. -/
theorem Ips.nd {nb : Nat} {ps : List (Nat × Int64)} (h : Ips nb ps) : (ps.map (fun q => q.1)).Nodup := by
  unfold List.Nodup
  rw [List.pairwise_map, List.pairwise_iff_getElem]
  intro i j hi hj hij
  exact h.2.1 i j _ _ (List.getElem?_eq_getElem hi) (List.getElem?_eq_getElem hj) (by omega)
theorem Ic.plcm {nb b m : Nat} {bs : Nat → Bv} {ro : Nat → Rw} {ac : Nat → Wn} (h : Ic nb bs ro ac) (hb : b < nb) (hm : m ∈ bms (bs b)) : (bs m).2.1.2.1 = nI (10000 + b) := by
  have h2 := ((h.2.1 b hb).2.2.2.2.2.2.2 m hm).2.2
  have hN := h.1
  rw [h2, c10000 (by omega)]
theorem Ic.plcn {nb b m : Nat} {bs : Nat → Bv} {ro : Nat → Rw} {ac : Nat → Wn} (h : Ic nb bs ro ac) (hb : b < nb) (hm : m ∈ bms (bs b)) : ¬ (bs m).2.1.2.1 < 10000 := by
  have hN := h.1
  rw [h.plcm hb hm]
  exact nI_nlt (b := 10000) (by omega) (by omega)
theorem D_pick {nb : Nat} {bs : Nat → Bv} {ro : Nat → Rw} {ac : Nat → Wn} (h : Ic nb bs ro ac) : ∀ (ps : List (Nat × Int64)), (∀ q, q ∈ ps → q.1 < nb ∧ isml q.2) → (ps.map (fun q => q.1)).Nodup → (∀ q, q ∈ ps → (bs q.1).2.1.2.1 < 10000) → (∀ q, q ∈ ps → q.2 ≤ bspa bs (bs q.1)) → (∀ q, q ∈ dpick bs ps → Dgo bs nb q) ∧ ((dpick bs ps).map (fun q => q.1)).Nodup ∧ dsum (dpick bs ps) = dsum ps ∧ (∀ q, q ∈ dpick bs ps → ∃ p, p ∈ ps ∧ ((q.1 = p.1 ∧ (bs p.1).1.1 ≠ 5) ∨ (q.1 ∈ bms (bs p.1) ∧ (bs p.1).1.1 = 5)))
  | [], _, _, _, _ => ⟨fun q hq => by simp [dpick] at hq, by simp [dpick], rfl, fun q hq => by simp [dpick] at hq⟩
  | p :: r, h1, h2, h3, h4 => by
    obtain ⟨a1, a2, a3, a4⟩ := D_pick h r (fun q hq => h1 q (List.mem_cons_of_mem _ hq)) (List.nodup_cons.mp h2).2 (fun q hq => h3 q (List.mem_cons_of_mem _ hq)) (fun q hq => h4 q (List.mem_cons_of_mem _ hq))
    obtain ⟨n1, n2⟩ := h1 p List.mem_cons_self
    have n3 := isml_i n2
    obtain ⟨b1, b2, b3, b4⟩ := D_lst h n1 (show 0 < p.2.toInt by omega) (h4 p List.mem_cons_self)
    have e : dpick bs (p :: r) = dlst bs p.1 p.2 ++ dpick bs r := by unfold dpick; rw [List.flatMap_cons]
    have hN := h.1
    rw [e]
    refine ⟨fun q hq => ?_, ?_, by rw [dsum_app, a3, b3]; rfl, fun q hq => ?_⟩
    · rcases List.mem_append.mp hq with z | z
      · exact b1 q z
      · exact a1 q z
    · rw [List.map_append, List.nodup_append]
      refine ⟨b2, a2, fun x hx y hy => ?_⟩
      obtain ⟨x, hx2, rfl⟩ := List.mem_map.mp hx
      obtain ⟨y, hy2, rfl⟩ := List.mem_map.mp hy
      obtain ⟨p', hp', hy'⟩ := a4 y hy2
      have hne : p.1 ≠ p'.1 := fun z => (List.nodup_cons.mp h2).1 (List.mem_map.mpr ⟨p', hp', z.symm⟩)
      have n1' := (h1 p' (List.mem_cons_of_mem _ hp')).1
      rcases b4 x hx2 with ⟨z1, z2⟩ | ⟨z1, z2⟩
      · rcases hy' with ⟨w1, w2⟩ | ⟨w1, w2⟩
        · rw [z1, w1]; exact hne
        · intro z
          rw [← z, z1] at w1
          exact h.plcn n1' w1 (h3 p List.mem_cons_self)
      · rcases hy' with ⟨w1, w2⟩ | ⟨w1, w2⟩
        · intro z
          rw [z, w1] at z1
          exact h.plcn n1 z1 (h3 p' (List.mem_cons_of_mem _ hp'))
        · intro z
          have e1 := h.plcm n1 z1
          rw [z, h.plcm n1' w1] at e1
          have e2 := congrArg Int32.toNatClampNeg e1
          rw [nI_clamp (show 10000 + p'.1 < 2 ^ 31 by omega), nI_clamp (show 10000 + p.1 < 2 ^ 31 by omega)] at e2
          omega
    · rcases List.mem_append.mp hq with z | z
      · exact ⟨p, List.mem_cons_self, b4 q z⟩
      · obtain ⟨p', hp', w⟩ := a4 q z
        exact ⟨p', List.mem_cons_of_mem _ hp', w⟩
theorem pspa_ok {bs : Nat → Bv} : ∀ {ps : List (Nat × Int64)}, (pspa bs ps).1 ≠ 0 → ∀ q, q ∈ ps → q.2 ≤ bspa bs (bs q.1)
  | [], _, q, hq => by simp at hq
  | p :: r, h, q, hq => by
    unfold pspa at h
    by_cases e : p.2 ≤ bspa bs (bs p.1)
    · rw [if_pos e] at h
      rcases List.mem_cons.mp hq with rfl | z
      · exact e
      · exact pspa_ok h q z
    · rw [if_neg e] at h
      exact absurd rfl h
theorem pcsk_ok {bs : Nat → Bv} {ps : List (Nat × Int64)} (h : pcsk bs ps = 0) : ∀ q, q ∈ ps → (bs q.1).2.1.2.1 < 10000 := by
  intro q hq
  unfold pcsk at h
  by_cases e : (bs q.1).2.1.2.1 < 10000
  · exact e
  · rw [if_pos (List.any_eq_true.mpr ⟨q, hq, decide_eq_true e⟩)] at h
    exact absurd h (by decide)
theorem pcsk_snoc (bs : Nat → Bv) (l : List (Nat × Int64)) (q : Nat × Int64) : pcsk bs (l ++ [q]) = if pcsk bs l = 0 then (if (bs q.1).2.1.2.1 < 10000 then 0 else 1) else 1 := by
  unfold pcsk
  rw [List.any_append]
  cases h2 : l.any (fun q => decide (¬ (bs q.1).2.1.2.1 < 10000))
  · by_cases h3 : (bs q.1).2.1.2.1 < 10000
    · simp [h3]
    · simp [h3]
  · simp
theorem pcsk_01 (bs : Nat → Bv) (l : List (Nat × Int64)) : pcsk bs l = 0 ∨ pcsk bs l = 1 := by
  unfold pcsk; split
  · exact Or.inr rfl
  · exact Or.inl rfl
theorem m_oneInCask {Q : Mq} {nb : Nat} {bs : Nat → Bv} {ps : List (Nat × Int64)} (hB : mBs Q nb bs) (hn : nb ≤ 1000) (hp : ∀ q, q ∈ ps → q.1 < nb) (h : mPk Q ps) : mf_isOneInCask Q = some (Q, pcsk bs ps) := by
  refine zev_of ?_
  obtain ⟨h1, h2, h3⟩ := h
  unfold mf_isOneInCask
  rw [zev_b1]
  refine zev_up (τ := Mq × Int32 × Int32) (fun i (z : Mq × Int32 × Int32) => z = (Q, pcsk bs (ps.take i), nI i)) ps.length (Nat.zero_le _) rfl ?_ ?_
  · rintro i z hi rfl
    obtain ⟨q, hq⟩ := getElem?_lt hi
    have hqn := hp q (List.mem_of_getElem? hq)
    unfold mf_isOneInCask_L4 mf_isOneInCask_J29 mf_isOneInCask_J34
    simp only [h1, if_neg (nI_ge hi (show ps.length < 2 ^ 31 by omega)), zev_b1, zev_mbd, zev_some, zev_b0, zev_bo, true_and, and_true, mev_ai (show i < 2 ^ 31 by omega), mln_2, mln_3, mln_4, mln_5, mln_6, mln_7, mln_8, mln_9, mln_10, mln_11, mln_12, mln_13, mln_15, mln_16, mln_17, mln_24, mln_25, mln_26, mln_27, mln_28, mln_29, mln_30, mln_31, mln_32, mln_34, mln_35, mln_37, mln_42, mln_49, mln_50, mln_51, mln_52, mln_53, mln_54, mln_55, mln_56, mln_57, mln_58, mln_59, mln_61, mln_62, mln_63, mln_65, mln_66, mln_68, mln_70, mln_71, mln_72, mln_73, mln_74, show i < 8 by omega, (h3 i q hq).1]
    rw [take_snoc hq, pcsk_snoc]
    by_cases e : pcsk bs (ps.take i) = 0
    · rw [if_pos e, if_pos e]
      simp only [zev_b1, zev_mbd, zev_some, zev_b0, zev_bo, true_and, and_true, mev_ai (show i < 2 ^ 31 by omega), mln_2, mln_3, mln_4, mln_5, mln_6, mln_7, mln_8, mln_9, mln_10, mln_11, mln_12, mln_13, mln_15, mln_16, mln_17, mln_24, mln_25, mln_26, mln_27, mln_28, mln_29, mln_30, mln_31, mln_32, mln_34, mln_35, mln_37, mln_42, mln_49, mln_50, mln_51, mln_52, mln_53, mln_54, mln_55, mln_56, mln_57, mln_58, mln_59, mln_61, mln_62, mln_63, mln_65, mln_66, mln_68, mln_70, mln_71, mln_72, mln_73, mln_74, show i < 8 by omega, (h3 i q hq).1, zev_eq (m_inCask hB hn hqn)]
      by_cases e2 : (bs q.1).2.1.2.1 < 10000
      · rw [if_pos e2, if_pos rfl, zev_some]; exact ⟨_, rfl, by rw [← nI_1]⟩
      · rw [if_neg e2, if_neg z10, zev_some]; exact ⟨_, rfl, by rw [← nI_1]⟩
    · rw [if_neg e, if_neg e]
      simp only [zev_b1, zev_mbd, zev_some, zev_b0, zev_bo, true_and, and_true]; exact ⟨_, rfl, by rw [← nI_1]⟩
  · rintro z rfl
    unfold mf_isOneInCask_L4
    simp only [h1, if_pos (nI_le (Nat.le_refl ps.length) (show ps.length < 2 ^ 31 by omega)), zev_b1, zev_mbd, zev_some, zev_b0, zev_bo, true_and, and_true]
    refine ⟨_, rfl, ?_⟩
    dsimp only
    rw [List.take_of_length_le (Nat.le_refl _)]
    rcases pcsk_01 bs ps with e | e <;> rw [e] <;> simp only [zev_b1, zev_mbd, zev_some, zev_b0, zev_bo, true_and, and_true]
theorem psum_snoc (l : List (Nat × Int64)) (q : Nat × Int64) : psum (l ++ [q]) = psum l + q.2 := by
  unfold psum; rw [List.foldl_append]; rfl
theorem psum_N {ps : List (Nat × Int64)} (h : ∀ q, q ∈ ps → isml q.2) : psum ps = lN (dsum ps) ∧ dsum ps ≤ 1000000000 * ps.length := by
  have key : ∀ (l : List (Nat × Int64)) (a : Nat), (∀ q, q ∈ l → isml q.2) → l.foldl (fun a q => a + q.2) (lN a) = lN (a + dsum l) ∧ dsum l ≤ 1000000000 * l.length := by
    intro l
    induction l with
    | nil => intro a _; exact ⟨rfl, Nat.le_refl _⟩
    | cons q r ih =>
      intro a h
      have n3 := isml_i (h q List.mem_cons_self)
      obtain ⟨aN, aN2⟩ := lN_of (show 0 ≤ q.2.toInt by omega)
      rw [List.foldl_cons]
      have e : lN a + q.2 = lN (a + q.2.toInt.toNat) := by
        conv => lhs; rw [aN]
        rw [lN_add]
      obtain ⟨i1, i2⟩ := ih (a + q.2.toInt.toNat) (fun z hz => h z (List.mem_cons_of_mem _ hz))
      rw [e, i1]
      simp only [dsum, List.length_cons]
      exact ⟨by rw [Nat.add_assoc], by omega⟩
  have := key ps 0 h
  rw [Nat.zero_add] at this
  exact this
theorem m_spares {Q : Mq} {nb : Nat} {bs : Nat → Bv} {ro : Nat → Rw} {ac : Nat → Wn} {tc : List Int32} {ps : List (Nat × Int64)} (l1 : Int32) (hB : mBs Q nb bs) (hT : mTc Q tc) (hI : Ic nb bs ro ac) (hP : mPk Q ps) (hp : ∀ q, q ∈ ps → q.1 < nb) : zev (zwhile (mf_blend_L76 l1) (Q, (0 : Int64), (0 : Int32))) (fun y => (∃ Q1, y = .inl (Q1, psum ps, nI ps.length) ∧ (pspa bs ps).1 ≠ 0 ∧ mTc Q1 (tapp 200 tc (pspa bs ps).2) ∧ qfr Q Q1 [41, 42]) ∨ (∃ Q1, y = .inr (qi Q1 39 0 10, -10) ∧ (pspa bs ps).1 = 0 ∧ mTc Q1 (tapp 200 tc (pspa bs ps).2) ∧ qfr Q Q1 [41, 42])) := by
  have hN := hI.1
  have h2 := hP.2.1
  refine zev_lp (τ := (Mq × Int64 × Int32) ⊕ (Mq × Int64)) (fun n (z : Mq × Int64 × Int32) => ∃ Q1 i pre, z = (Q1, psum (ps.take i), nI i) ∧ i + n = ps.length ∧ pspa bs ps = ((pspa bs (ps.drop i)).1, pre ++ (pspa bs (ps.drop i)).2) ∧ mTc Q1 (tapp 200 tc pre) ∧ qfr Q Q1 [41, 42]) (n := ps.length) ⟨Q, 0, [], rfl, by omega, rfl, by rw [tapp_nil hT.2.1]; exact hT, qfr.rf⟩ ?_
  rintro n z ⟨Q1, i, pre, rfl, hin, ha, hT1, f1⟩
  obtain ⟨p1, p2, p3⟩ := hP.fr f1 (by decide)
  unfold mf_blend_L76
  dsimp only
  by_cases hi : i < ps.length
  · obtain ⟨q, hq⟩ := getElem?_lt hi
    have hqn := hp q (List.mem_of_getElem? hq)
    rw [p1, if_neg (nI_ge hi (show ps.length < 2 ^ 31 by omega))]
    simp only [zev_b1, zev_mbd, zev_some, zev_b0, zev_bo, true_and, and_true, mev_ai (show i < 2 ^ 31 by omega), mln_2, mln_3, mln_4, mln_5, mln_6, mln_7, mln_8, mln_9, mln_10, mln_11, mln_12, mln_13, mln_15, mln_16, mln_17, mln_24, mln_25, mln_26, mln_27, mln_28, mln_29, mln_30, mln_31, mln_32, mln_34, mln_35, mln_37, mln_42, mln_49, mln_50, mln_51, mln_52, mln_53, mln_54, mln_55, mln_56, mln_57, mln_58, mln_59, mln_61, mln_62, mln_63, mln_65, mln_66, mln_68, mln_70, mln_71, mln_72, mln_73, mln_74, show i < 8 by omega, (p3 i q hq).1]
    refine zev_mono (m_spare (hB.fr f1 (by decide)) hT1 hN hqn hI.i60 hI.kd hI.mem (hI.ml _ hqn).1 (hI.ml _ hqn).2) ?_
    rintro ⟨Q2, u⟩ ⟨e2, t2, f2⟩
    dsimp only at e2 t2 f2 ⊢
    obtain ⟨p1', p2', p3'⟩ := hP.fr (f1.tr0 f2) (by decide)
    have hd : ps.drop i = q :: ps.drop (i + 1) := by
      have hi2 := (List.getElem?_eq_some_iff.mp hq).2
      rw [List.drop_eq_getElem_cons hi, hi2]
    simp only [zev_b1, zev_mbd, zev_some, zev_b0, zev_bo, true_and, and_true, mev_aj (show i < 2 ^ 31 by omega), mln_2, mln_3, mln_4, mln_5, mln_6, mln_7, mln_8, mln_9, mln_10, mln_11, mln_12, mln_13, mln_15, mln_16, mln_17, mln_24, mln_25, mln_26, mln_27, mln_28, mln_29, mln_30, mln_31, mln_32, mln_34, mln_35, mln_37, mln_42, mln_49, mln_50, mln_51, mln_52, mln_53, mln_54, mln_55, mln_56, mln_57, mln_58, mln_59, mln_61, mln_62, mln_63, mln_65, mln_66, mln_68, mln_70, mln_71, mln_72, mln_73, mln_74, show i < 8 by omega, (p3' i q hq).2, e2]
    by_cases c : q.2 ≤ bspa bs (bs q.1)
    · rw [if_pos c]
      simp only [zev_b1, zev_mbd, zev_some, zev_b0, zev_bo, true_and, and_true, mev_aj (show i < 2 ^ 31 by omega), mln_2, mln_3, mln_4, mln_5, mln_6, mln_7, mln_8, mln_9, mln_10, mln_11, mln_12, mln_13, mln_15, mln_16, mln_17, mln_24, mln_25, mln_26, mln_27, mln_28, mln_29, mln_30, mln_31, mln_32, mln_34, mln_35, mln_37, mln_42, mln_49, mln_50, mln_51, mln_52, mln_53, mln_54, mln_55, mln_56, mln_57, mln_58, mln_59, mln_61, mln_62, mln_63, mln_65, mln_66, mln_68, mln_70, mln_71, mln_72, mln_73, mln_74, show i < 8 by omega, (p3' i q hq).2]
      refine Or.inl ⟨_, n - 1, rfl, ⟨Q2, i + 1, pre ++ bspaT bs (bs q.1), ?_, by omega, ?_, ?_, f1.tr0 f2⟩, by omega⟩
      · rw [take_snoc hq, psum_snoc, nI_1]
      · rw [ha, hd]
        simp only [pspa, if_pos c, List.append_assoc]
      · rw [← tapp_tapp]; exact t2
    · rw [if_neg c, zev_mbd, zev_eq m_no]
      dsimp only
      rw [zev_some]
      refine Or.inr ⟨_, rfl, Or.inr ⟨Q2, rfl, ?_, ?_, f1.tr0 f2⟩⟩
      · rw [ha, hd]
        simp only [pspa, if_neg c]
      · rw [ha, hd]
        simp only [pspa, if_neg c]
        rw [← tapp_tapp]; exact t2
  · have hi' : i = ps.length := by omega
    subst hi'
    rw [p1, if_pos (nI_le (Nat.le_refl ps.length) (show ps.length < 2 ^ 31 by omega)), zev_some]
    rw [List.drop_eq_nil_of_le (Nat.le_refl _)] at ha
    refine Or.inr ⟨_, rfl, Or.inl ⟨Q1, by rw [List.take_of_length_le (Nat.le_refl _)], ?_, ?_, f1⟩⟩
    · rw [ha]; simp [pspa]
    · rw [ha]; simp only [pspa, List.append_nil]; exact hT1
theorem m_picks {Q : Mq} {nb : Nat} {bs : Nat → Bv} {ro : Nat → Rw} {ac : Nat → Wn} {tc : List Int32} {ps : List (Nat × Int64)} (l1 : Int32) (l3 : Int64) (hB : mBs Q nb bs) (hT : mTc Q tc) (hD : mDr Q []) (hI : Ic nb bs ro ac) (hP : mPk Q ps) (hp : ∀ q, q ∈ ps → q.1 < nb ∧ isml q.2) : zev (zwhile (mf_blend_L169 l1 l3) (Q, (0 : Int32))) (fun y => ∃ Q1 u, y = (Q1, u) ∧ mDr Q1 (dpick bs ps) ∧ mTc Q1 (tapp 200 tc (dpickT bs ps)) ∧ qfr Q Q1 [41, 42, 60, 61, 62]) := by
  have h2 := hP.2.1
  refine zev_up (τ := Mq × Int32) (fun i (z : Mq × Int32) => ∃ Q1, z = (Q1, nI i) ∧ mDr Q1 (dpick bs (ps.take i)) ∧ mTc Q1 (tapp 200 tc (dpickT bs (ps.take i))) ∧ qfr Q Q1 [41, 42, 60, 61, 62]) ps.length (Nat.zero_le _) ⟨Q, rfl, hD, (by
    have e : tapp 200 tc (dpickT bs (ps.take 0)) = tc := tapp_nil hT.2.1
    rw [e]; exact hT), qfr.rf⟩ ?_ ?_
  · rintro i z hi ⟨Q1, rfl, d1, t1, f1⟩
    obtain ⟨p1, p2, p3⟩ := hP.fr f1 (by decide)
    obtain ⟨q, hq⟩ := getElem?_lt hi
    obtain ⟨hqn, hqm⟩ := hp q (List.mem_of_getElem? hq)
    have n3 := isml_i hqm
    unfold mf_blend_L169
    dsimp only
    rw [p1, if_neg (nI_ge hi (show ps.length < 2 ^ 31 by omega))]
    simp only [zev_b1, zev_mbd, zev_some, zev_b0, zev_bo, true_and, and_true, mev_ai (show i < 2 ^ 31 by omega), mev_aj (show i < 2 ^ 31 by omega), mln_2, mln_3, mln_4, mln_5, mln_6, mln_7, mln_8, mln_9, mln_10, mln_11, mln_12, mln_13, mln_15, mln_16, mln_17, mln_24, mln_25, mln_26, mln_27, mln_28, mln_29, mln_30, mln_31, mln_32, mln_34, mln_35, mln_37, mln_42, mln_49, mln_50, mln_51, mln_52, mln_53, mln_54, mln_55, mln_56, mln_57, mln_58, mln_59, mln_61, mln_62, mln_63, mln_65, mln_66, mln_68, mln_70, mln_71, mln_72, mln_73, mln_74, show i < 8 by omega, (p3 i q hq).1, (p3 i q hq).2]
    have hlen : (dpick bs (ps.take i)).length ≤ 4 * i := by
      have := dpick_len bs (ps.take i) (fun p hh => dlst_len bs p.1 p.2 (by
        have := hI.ml p.1 (hp p (List.mem_of_mem_take hh)).1
        omega))
      rw [List.length_take] at this
      omega
    refine zev_mono (N_draw (hB.fr f1 (by decide)) t1 d1 hI hqn (show 0 < q.2.toInt by omega) (by omega)) ?_
    rintro ⟨Q2, u2⟩ ⟨d2, t2, f2⟩
    dsimp only at d2 t2 f2 ⊢
    refine ⟨_, rfl, Q2, by rw [nI_1], ?_, ?_, f1.tr0 f2⟩
    · rw [take_snoc hq]; unfold dpick at d2 ⊢; rw [List.flatMap_append]; simpa using d2
    · rw [take_snoc hq]; unfold dpickT at t2 ⊢; rw [List.flatMap_append, ← tapp_tapp]; simpa using t2
  · rintro z ⟨Q1, rfl, d1, t1, f1⟩
    obtain ⟨p1, p2, p3⟩ := hP.fr f1 (by decide)
    unfold mf_blend_L169
    dsimp only
    rw [p1, if_pos (nI_le (Nat.le_refl ps.length) (show ps.length < 2 ^ 31 by omega)), zev_some]
    rw [List.take_of_length_le (Nat.le_refl _)] at d1 t1
    exact ⟨_, rfl, Q1, _, rfl, d1, t1, f1⟩
theorem m_enters {Q : Mq} {ps : List (Nat × Int64)} {jr : List Ln} (b : Int32) (l3 : Int64) (hJ : mJl Q 20 19 jr) (hl : jr.length + 8 ≤ 4096) (hP : mPk Q ps) : zev (zwhile (mf_blend_L235 b l3) (Q, (0 : Int32))) (fun y => ∃ Q1 u, y = (Q1, u) ∧ mJl Q1 20 19 (jr ++ ps.map (fun q => (4, (nI q.1).toInt64, b.toInt64, q.2))) ∧ qfr Q Q1 [19, 20]) := by
  have h2 := hP.2.1
  refine zev_up (τ := Mq × Int32) (fun i (z : Mq × Int32) => ∃ Q1, z = (Q1, nI i) ∧ mJl Q1 20 19 (jr ++ (ps.take i).map (fun q => (4, (nI q.1).toInt64, b.toInt64, q.2))) ∧ qfr Q Q1 [19, 20]) ps.length (Nat.zero_le _) ⟨Q, rfl, by simpa using hJ, qfr.rf⟩ ?_ ?_
  · rintro i z hi ⟨Q1, rfl, d1, f1⟩
    obtain ⟨p1, p2, p3⟩ := hP.fr f1 (by decide)
    obtain ⟨q, hq⟩ := getElem?_lt hi
    unfold mf_blend_L235
    dsimp only
    rw [p1, if_neg (nI_ge hi (show ps.length < 2 ^ 31 by omega))]
    simp only [zev_b1, zev_mbd, zev_some, zev_b0, zev_bo, true_and, and_true, mev_ai (show i < 2 ^ 31 by omega), mev_aj (show i < 2 ^ 31 by omega), mln_2, mln_3, mln_4, mln_5, mln_6, mln_7, mln_8, mln_9, mln_10, mln_11, mln_12, mln_13, mln_15, mln_16, mln_17, mln_24, mln_25, mln_26, mln_27, mln_28, mln_29, mln_30, mln_31, mln_32, mln_34, mln_35, mln_37, mln_42, mln_49, mln_50, mln_51, mln_52, mln_53, mln_54, mln_55, mln_56, mln_57, mln_58, mln_59, mln_61, mln_62, mln_63, mln_65, mln_66, mln_68, mln_70, mln_71, mln_72, mln_73, mln_74, show i < 8 by omega, (p3 i q hq).1, (p3 i q hq).2]
    refine zev_mono (m_enter d1 (by rw [List.length_append, List.length_map, List.length_take]; omega) 4 (nI q.1) b q.2) ?_
    rintro ⟨Q2, u2⟩ ⟨j2, f2⟩
    dsimp only at j2 f2 ⊢
    refine ⟨_, rfl, Q2, by rw [nI_1], ?_, f1.tr0 f2⟩
    rw [take_snoc hq, List.map_append, ← List.append_assoc]
    exact j2
  · rintro z ⟨Q1, rfl, d1, f1⟩
    obtain ⟨p1, p2, p3⟩ := hP.fr f1 (by decide)
    unfold mf_blend_L235
    dsimp only
    rw [p1, if_pos (nI_le (Nat.le_refl ps.length) (show ps.length < 2 ^ 31 by omega)), zev_some]
    rw [List.take_of_length_le (Nat.le_refl _)] at d1
    exact ⟨_, rfl, Q1, _, rfl, d1, f1⟩
theorem R0.ps0 {nb : Nat} {bs : Nat → Bv} {ro : Nat → Rw} {lb : List Lb} {ps : List (Nat × Int64)} {ac : Nat → Wn} {jr bo : List Ln} {mo : Int32} {gi : Int64} {tr tp wy wh : Int32} {tc : List Int32} {st : List Int64} {ds : List (Nat × Int64)} {dw : Wn} {bf : Nat → Int32} {ba : Wn} {bc : List Nat} {Q : Mq} {kc : List Int32} (h : R0 (nb, bs, ro, lb, ps, ac, jr, bo, mo, gi, tr, tp, wy, wh, tc, st, ds, dw, bf, ba, bc) Q kc) : R0 (nb, bs, ro, lb, [], ac, jr, bo, mo, gi, tr, tp, wy, wh, tc, st, ds, dw, bf, ba, bc) (qi Q 33 0 0) kc := by
  obtain ⟨rB, rR, rK, rA, rC, rJ, rO, rG, rM, rL, rP, rN, rT, rW, rX, rF, rS⟩ := h
  have F : qfr Q (qi Q 33 0 0) [33] := qfr.qi (by decide)
  exact ⟨rB.fr F (by decide), rR.fr F (by decide), rK.fr F (by decide), rA.fr F (by decide), rC, rJ.fr F (by decide) (by decide), rO.fr F (by decide) (by decide), (by rw [F.i 0 (by decide)]; exact rG), (by rw [F.i 18 (by decide)]; exact rM), rL.fr F (by decide), ⟨by rw [qi_1, if_pos ⟨rfl, rfl⟩]; rfl, by decide, fun i q hq => by simp at hq⟩, rN.fr F (by decide), (by rw [F.i 38 (by decide)]; exact rT), (by rw [F.i 40 (by decide)]; exact rW), rX.fr F (by decide), (by rw [F.i 43 (by decide)]; exact rF), fun z => (rS z).fr F (by decide)⟩
set_option maxHeartbeats 1000000 in
theorem N_blend {c : Cs} {Q : Mq} {kc : List Int32} {t : Nat} (hJ : Jc t c) (ht : t < 512) (h : R0 c Q kc) (b : Int32) : zev (mf_blend Q b) (Post (sBlend b (sOpen c))) ∧ Jc (t + 1) (sBlend b (sOpen c)).2 := by
  obtain ⟨nb, bs, ro, lb, ps, ac, jr, bo, mo, gi, tr, tp, wy, wh, tc, st, ds, dw, bf, ba, bc⟩ := c
  have hJ0 := hJ.mono (Nat.le_succ t)
  have hJ' := hJ0.opn
  have hJs := hJ
  obtain ⟨jI, jR, jP, jJ, jB, jG, jF, jU⟩ := hJ
  have hN := jI.1
  have h1 := h.opn
  have q39 : (qi (qi (qi Q 38 0 (Q.1 38 0 + 1)) 41 0 0) 39 0 0).1 39 0 = 0 := rfl
  unfold mf_blend mf_blend_J64 sBlend sOpen
  rw [zev_mbd, zev_eq m_begin]
  dsimp only
  generalize qi (qi (qi Q 38 0 (Q.1 38 0 + 1)) 41 0 0) 39 0 0 = Q1 at h1 q39 ⊢
  have hPk : mPk Q1 ps := by obtain ⟨rB, rR, rK, rA, rC, rJ, rO, rG, rM, rL, rP, rN, rT, rW, rX, rF, rS⟩ := h1; exact rP
  have hTc : mTc Q1 [] := by obtain ⟨rB, rR, rK, rA, rC, rJ, rO, rG, rM, rL, rP, rN, rT, rW, rX, rF, rS⟩ := h1; exact rX
  have hp1 : ∀ q, q ∈ ps → q.1 < nb := fun q hq => (jP.1 q hq).1
  rw [hPk.1]
  by_cases c1 : nI ps.length = 0
  · rw [if_pos c1, if_pos c1]
    exact ⟨P_no h1 10 rfl (by decide) (by decide) rfl, hJ'⟩
  rw [if_neg c1, if_neg c1, zev_mbd, zev_eq (m_lookedV h1.1 hN b)]
  dsimp only
  by_cases c5 : lkv nb bs b = 0
  · obtain ⟨m, hm, rfl, hm5⟩ := lkv_0 hN c5
    have hm1 : m < 2 ^ 31 := by omega
    rw [c5, if_pos (show (0 : Int32) ≤ 0 by decide), if_pos rfl, zev_mbd, zev_eq (m_isPicked hPk _), nI_clamp hm1]
    dsimp only
    by_cases c6 : phas (nI m) ps = 0
    · rw [if_pos c6, if_pos c6, zev_mbd, zev_eq (m_inCask h1.1 hN hm)]
      dsimp only
      by_cases c7 : (bs m).2.1.2.1 < 10000
      · rw [if_pos c7, if_pos rfl, if_pos c7, zev_mbd, zev_eq (m_oneInCask h1.1 hN hp1 hPk)]
        dsimp only
        by_cases c8 : pcsk bs ps = 0
        · rw [if_pos c8, if_pos c8, zev_b1]
          have hkey := m_spares (nI m) h1.1 hTc jI hPk hp1
          unfold sBlended sPour sPicked sTc
          dsimp only
          generalize htc2 : tapp 200 [] (pspa bs ps).2 = tc2 at hkey ⊢
          by_cases c9 : (pspa bs ps).1 = 0
          · rw [if_pos c9]
            refine ⟨?_, Jc.any hJ0⟩
            refine zev_mono hkey ?_
            rintro y (⟨Q2, rfl, s2, t2, f2⟩ | ⟨Q2, rfl, s2, t2, f2⟩)
            · exact absurd c9 s2
            · dsimp only
              have r2 := P_no (R0.tcS (ds' := ds) (dw' := dw) h1 f2 (by decide) t2) (r := 10) (a := -10) 10 rfl (by decide) (by decide) rfl
              rw [zev_mbd, zev_eq m_no] at r2
              exact r2
          · rw [if_neg c9]
            obtain ⟨mx, mx1, mx2, mx3, mx4⟩ := vt_i jI hm hm5
            obtain ⟨ps1, ps2⟩ := psum_N (fun q hq => (jP.1 q hq).2)
            have hp8 := jP.2.2
            obtain ⟨dg, dn, dsm, dm⟩ := D_pick jI ps jP.1 jP.nd (pcsk_ok c8) (pspa_ok c9)
            have hne : ∀ q, q ∈ dpick bs ps → q.1 ≠ m := by
              intro q hq e
              obtain ⟨p, hp, z | z⟩ := dm q hq
              · refine absurd c6 ?_
                unfold phas
                rw [if_pos (List.any_eq_true.mpr ⟨p, hp, decide_eq_true (by rw [← z.1, e])⟩)]
                decide
              · have z1 := z.1
                rw [e] at z1
                exact jI.plcn (hp1 p hp) z1 c7
            have hw3 := (jI.w hm).2.2.1
            have hadd : wsum (bs m).2.1.2.2.2 + psum ps = lN (nT (bs m).2.1.2.2.2 + dsum ps) := by
              conv => lhs; rw [jI.sum hm, ps1]
              rw [lN_add]
            have hk2 : zev (zwhile (mf_blend_L76 (nI m)) (Q1, (0 : Int64), (0 : Int32))) (fun y => ∃ Q2 u, y = .inl (Q2, psum ps, u) ∧ zev (mf_most Q2 (nI m)) (fun z => z.2 = lN mx ∧ R0 (nb, bs, ro, lb, ps, ac, jr, bo, mo, gi, tr + 1, 1, wy, wh, tapp 200 tc2 (btakT bs (bs m)), st, ds, dw, bf, ba, bc) z.1 kc ∧ z.1.1 39 0 = 0)) := by
              refine zev_mono hkey ?_
              rintro y (⟨Q2, rfl, s2, t2, f2⟩ | ⟨Q2, rfl, s2, t2, f2⟩)
              · refine ⟨Q2, _, rfl, ?_⟩
                have r2 := R0.tcS (ds' := ds) (dw' := dw) h1 f2 (by decide) t2
                refine zev_mono (m_most r2.1 t2 hN hm jI.kd jI.mem (jI.ml m hm).1 (jI.ml m hm).2) ?_
                rintro ⟨Q3, u3⟩ ⟨e3, t3, f3⟩
                exact ⟨e3.trans mx2, R0.tcS r2 f3 (by decide) t3, by rw [f3.i 39 (by decide), f2.i 39 (by decide)]; exact q39⟩
              · exact absurd s2 c9
            clear hkey htc2
            generalize tapp 200 tc2 (btakT bs (bs m)) = tc3 at hk2 ⊢
            rw [mx2]
            by_cases c10 : nT (bs m).2.1.2.2.2 + dsum ps ≤ mx
            · have c10' : wsum (bs m).2.1.2.2.2 + psum ps ≤ lN mx := by rw [hadd]; exact (pk_lLE (by omega) (by omega)).mpr c10
              rw [if_pos c10']
              refine ⟨?_, ?_⟩
              · refine zev_mono hk2 ?_
                rintro y ⟨Q2, u, rfl, k2⟩
                dsimp only
                rw [zev_mbd]
                refine zev_mono k2 ?_
                rintro ⟨Q3, u3⟩ ⟨e3, r3, z3⟩
                dsimp only at e3 r3 z3 ⊢
                rw [e3, zev_mbd, zev_eq (m_inVessel r3.1 hN hm hw3)]
                dsimp only
                rw [if_pos c10', zev_b1, zev_some, zev_b1]
                have f4 : qfr Q3 (qi Q3 60 0 0) [60] := qfr.qi (by decide)
                have d4 : mDr (qi Q3 60 0 0) [] := mDr0
                generalize qi Q3 60 0 0 = Q4 at f4 d4 ⊢
                have r4 := r3.scr f4 (by decide)
                have hT4 : mTc Q4 tc3 := by obtain ⟨rB, rR, rK, rA, rC, rJ, rO, rG, rM, rL, rP, rN, rT, rW, rX, rF, rS⟩ := r4; exact rX
                have hP4 : mPk Q4 ps := by obtain ⟨rB, rR, rK, rA, rC, rJ, rO, rG, rM, rL, rP, rN, rT, rW, rX, rF, rS⟩ := r4; exact rP
                refine zev_mono (m_picks (nI m) (psum ps) r4.1 hT4 d4 jI hP4 jP.1) ?_
                rintro y ⟨Q5, u5, rfl, d5, t5, f5⟩
                dsimp only
                have r5 := R0.tcS (ds' := dpick bs ps) (dw' := dmix bs [] (dpick bs ps)) r4 f5 (by decide) t5
                refine N_pour r5 jI (by omega) (by omega) d5 dg dn hm hne (fun hw Q6 r6 => ?_) (fun hw Q6 kc6 r6 z6 => ?_)
                · rw [if_neg hw]
                  exact P_no r6 12 rfl (by decide) (by decide) rfl
                · rw [if_pos hw, zev_b1]
                  have hJ6 : mJl Q6 20 19 jr := by obtain ⟨rB, rR, rK, rA, rC, rJ, rO, rG, rM, rL, rP, rN, rT, rW, rX, rF, rS⟩ := r6; exact rJ
                  have hP6 : mPk Q6 ps := by obtain ⟨rB, rR, rK, rA, rC, rJ, rO, rG, rM, rL, rP, rN, rT, rW, rX, rF, rS⟩ := r6; exact rP
                  refine zev_mono (m_enters (nI m) (psum ps) hJ6 (by omega) hP6) ?_
                  rintro y ⟨Q7, u7, rfl, j7, f7⟩
                  dsimp only
                  have r7 := (R0.jadd r6 j7 f7).ps0
                  rw [zev_b1, zev_some, zev_some]
                  refine ⟨rfl, kc6, r7, ?_⟩
                  show (qi Q7 33 0 0).1 39 0 = cwy (psum ps)
                  rw [qi_1, if_neg (by decide), f7.i 39 (by decide), z6, f5.i 39 (by decide), f4.i 39 (by decide), z3, ps1, cwy_N (by omega)]
              · by_cases hw : wwith (bs m).2.1.2.2.2 (dmix bs [] (dpick bs ps)) ≤ 60
                · rw [if_pos hw]
                  exact J_pour hJs ht hm hm5 dg dsm (by rw [mx3]; omega) hw (Or.inr rfl) (by rw [List.length_append]; omega) (by rw [List.length_append, List.length_map]; omega)
                · rw [if_neg hw]; exact Jc.any hJ0
            · have c10' : ¬ wsum (bs m).2.1.2.2.2 + psum ps ≤ lN mx := fun z => by rw [hadd] at z; exact c10 ((pk_lLE (by omega) (by omega)).mp z)
              rw [if_neg c10']
              refine ⟨?_, Jc.any hJ0⟩
              refine zev_mono hk2 ?_
              rintro y ⟨Q2, u, rfl, k2⟩
              dsimp only
              rw [zev_mbd]
              refine zev_mono k2 ?_
              rintro ⟨Q3, u3⟩ ⟨e3, r3, z3⟩
              dsimp only at e3 r3 z3 ⊢
              rw [e3, zev_mbd, zev_eq (m_inVessel r3.1 hN hm hw3)]
              dsimp only
              rw [if_neg c10']
              exact P_no r3 11 rfl (by decide) (by decide) rfl
        · rw [if_neg c8, if_neg c8]
          exact ⟨P_no h1 9 rfl (by decide) (by decide) rfl, hJ'⟩
      · rw [if_neg c7, if_neg z10, if_neg c7]
        exact ⟨P_no h1 9 rfl (by decide) (by decide) rfl, hJ'⟩
    · rw [if_neg c6, if_neg c6]
      exact ⟨P_no h1 13 rfl (by decide) (by decide) rfl, hJ'⟩
  · rw [if_neg c5]
    obtain ⟨p1, p2⟩ := P_rs (a := (-(lkv nb bs b)).toInt64) h1 (by rcases lkv_n c5 with e | e | e <;> simp only [e] <;> decide) rfl
    rw [if_neg p1]
    exact ⟨p2, hJ'⟩
