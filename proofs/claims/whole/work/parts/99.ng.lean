/-! The reference: taking out, becoming, lines. -/
theorem mBs.cong {Q : Mq} {nb : Nat} {bs bs' : Nat → Bv} (h : mBs Q nb bs) (e : ∀ b, b < nb → (bs' b).1 = (bs b).1 ∧ (bs' b).2.1 = (bs b).2.1 ∧ bms (bs' b) = bms (bs b)) : mBs Q nb bs' := ⟨h.1, fun b hb => by rw [(e b hb).1, (e b hb).2.1, (e b hb).2.2]; exact h.2 b hb⟩
def wsok (l : Wn) (s : List Int64) : Prop := ∀ (i : Nat) (q : Int32 × Int64) (v : Int64), l[i]? = some q → s[i]? = some v → 0 ≤ v.toInt ∧ v.toInt ≤ q.2.toInt ∧ q.2.toInt ≤ 1000000000
theorem sub_le0 {a v : Int64} (h1 : 0 ≤ v.toInt) (h2 : v.toInt ≤ a.toInt) (h3 : a.toInt ≤ 1000000000) : a - v ≤ 0 ↔ a ≤ v := by
  rw [Int64.le_iff_toInt_le, Int64.le_iff_toInt_le, Int64.toInt_sub, Int.bmod_eq_of_le (by omega) (by omega)]
  show a.toInt - v.toInt ≤ 0 ↔ _
  omega
theorem le0_iff {v : Int64} (h1 : 0 ≤ v.toInt) : v ≤ 0 ↔ v = 0 := by
  rw [Int64.le_iff_toInt_le]
  constructor
  · intro h; exact Int64.toInt_inj.mp (by show v.toInt = 0; have : (0 : Int64).toInt = 0 := rfl; omega)
  · rintro rfl; exact Int.le_refl _
def acp (ac : Nat → Wn) (hw : Option Nat) (zs : Wn) : Nat → Wn := match hw with | none => ac | some h => aup ac h (wputs (ac h) zs)
def hwI (hw : Option Nat) : Int32 := match hw with | none => -1 | some h => nI h
def cdk (kc : List Int32) (ac : Nat → Wn) : Prop := ∀ h, h < 5 → ∀ q, q ∈ ac h → q.1 ∈ kc
theorem aup_aup (ac : Nat → Wn) (h : Nat) (a b : Wn) : aup (aup ac h a) h b = aup ac h b := by
  funext j; unfold aup; split <;> rfl
theorem aup_self (ac : Nat → Wn) (h : Nat) : aup ac h (ac h) = ac := by
  funext j; unfold aup; split
  · rename_i e; rw [e]
  · rfl
theorem aup_at (ac : Nat → Wn) (h : Nat) (a : Wn) : aup ac h a h = a := by unfold aup; rw [if_pos rfl]
theorem wles_take {l : Wn} {s : List Int64} {i : Nat} {q : Int32 × Int64} {v : Int64} (hl : s.length = l.length) (h1 : l[i]? = some q) (h2 : s[i]? = some v) : wles (l.take (i + 1)) (s.take (i + 1)) = wles (l.take i) (s.take i) ++ (if q.2 ≤ v then [] else [(q.1, q.2 - v)]) := by
  rw [take_snoc h1, take_snoc h2]
  exact wles_snoc _ _ _ _ (by rw [List.length_take, List.length_take, hl])
theorem m_take {Q : Mq} {nb b : Nat} {bs : Nat → Bv} {kc : List Int32} {ac : Nat → Wn} (h : mBs Q nb bs) (hK : mKn Q kc) (hA : mAk Q kc ac) (hC : cdk kc ac) (hn : nb ≤ 1000) (hb : b < nb) (h60 : I60 nb bs) (hp : (bs b).2.1.2.2.2 ≠ [] → wsum (bs b).2.1.2.2.2 ≠ 0) (x : Int64) (hs : wsok (bs b).2.1.2.2.2 (wshr x (bs b).2.1.2.2.2)) (hw : Option Nat) (hh : ∀ i, hw = some i → i < 5 ∧ wris (ac i)) : zev (mf_take Q (nI b) x (hwI hw)) (fun y => ∃ kc', (∃ t, kc' = kc ++ t) ∧ mBs y.1 nb (bup bs b (bwin (bs b) (wles (bs b).2.1.2.2.2 (wshr x (bs b).2.1.2.2.2)))) ∧ mKn y.1 kc' ∧ mAk y.1 kc' (acp ac hw (wgng (bs b).2.1.2.2.2 (wshr x (bs b).2.1.2.2.2))) ∧ cdk kc' (acp ac hw (wgng (bs b).2.1.2.2.2 (wshr x (bs b).2.1.2.2.2))) ∧ qfr Q y.1 [8, 9, 10, 14, 15, 16, 17, 63]) := by
  have hb1 : b < 2 ^ 31 := by omega
  have hb2 : b < 1000 := by omega
  have h6 := (h60 b hb).1
  have hcod := (h60 b hb).2
  unfold mf_take
  rw [zev_mbd]
  refine zev_mono (m_shares h hn hb h6 hp x) ?_
  rintro ⟨Q1, u⟩ ⟨g1, f1⟩
  dsimp only at g1 f1 ⊢
  have h1 := h.fr f1 (by decide)
  have hsl := wshr_len x (bs b).2.1.2.2.2
  have hwi : ∀ i q, (bs b).2.1.2.2.2[i]? = some q → Q1.1 9 (60 * b + i) = q.1 ∧ Q1.2 10 (60 * b + i) = q.2 := fun i q hq => h1.wi hb hq
  simp only [zev_b1, zev_mbd, zev_some, zev_b0, zev_bo, true_and, and_true, mev_ai hb1, mln_2, mln_3, mln_4, mln_5, mln_6, mln_7, mln_8, mln_9, mln_10, mln_11, mln_12, mln_13, mln_15, mln_16, mln_17, mln_24, mln_25, mln_26, mln_27, mln_28, mln_29, mln_30, mln_31, mln_32, mln_34, mln_35, mln_37, mln_42, mln_49, mln_50, mln_51, mln_52, mln_53, mln_54, mln_55, mln_56, mln_57, mln_58, mln_59, mln_61, mln_62, mln_63, mln_65, mln_66, mln_68, mln_70, mln_71, mln_72, mln_73, mln_74, hb2, h1.ln hb]
  generalize hL : (bs b).2.1.2.2.2 = l at h6 hcod hp hs g1 hsl hwi ⊢
  generalize hS : wshr x l = s at hs g1 hsl ⊢
  refine zev_up (τ := Mq × Int32 × Int32) (fun i (z : Mq × Int32 × Int32) => ∃ Q2 kc2, z = (Q2, nI (wles (l.take i) (s.take i)).length, nI i) ∧ (∃ t, kc2 = kc ++ t) ∧ (∀ j q, (wles (l.take i) (s.take i))[j]? = some q → Q2.1 9 (60 * b + j) = q.1 ∧ Q2.2 10 (60 * b + j) = q.2) ∧ (∀ j q, i ≤ j → l[j]? = some q → Q2.1 9 (60 * b + j) = q.1 ∧ Q2.2 10 (60 * b + j) = q.2) ∧ (∀ k, k < 60 * b ∨ 60 * b + 60 ≤ k → Q2.1 9 k = Q1.1 9 k ∧ Q2.2 10 k = Q1.2 10 k) ∧ mKn Q2 kc2 ∧ mAk Q2 kc2 (acp ac hw ((wgng l s).take i)) ∧ cdk kc2 (acp ac hw ((wgng l s).take i)) ∧ qfr Q1 Q2 [9, 10, 14, 15, 16, 17]) l.length (Nat.zero_le _) ?_ ?_ ?_
  · have e0 : acp ac hw [] = ac := by
      cases hw with
      | none => rfl
      | some i => exact aup_self ac i
    refine ⟨Q1, kc, rfl, ⟨[], by simp⟩, fun j q hq => by simp [wles_nil] at hq, fun j q _ hq => hwi j q hq, fun k _ => ⟨rfl, rfl⟩, hK.fr f1 (by decide), ?_, ?_, qfr.rf⟩
    · rw [List.take_zero, e0]; exact hA.fr f1 (by decide)
    · rw [List.take_zero, e0]; exact hC
  · rintro i z hi ⟨Q2, kc2, rfl, ⟨t2, ek2⟩, w2, o2, x2, k2, a2, c2, f2⟩
    obtain ⟨q, hq⟩ := getElem?_lt hi
    obtain ⟨v, hv⟩ := getElem?_lt (l := s) (i := i) (by omega)
    have hsv := hs i q v hq hv
    have hle : (wles (l.take i) (s.take i)).length ≤ i := by
      have := wles_len (l.take i) (s.take i)
      rw [List.length_take] at this; omega
    have hwt := wles_take hsl hq hv
    have gt := take_snoc (wgng_at hq hv)
    have hgo : ∀ Q' : Mq, qfr Q1 Q' [9, 10, 14, 15, 16, 17] → Q'.2 63 i = v := fun Q' f' => by rw [f'.j 63 (by decide)]; exact g1 i v hv
    -- what the end of one round does
    have J : ∀ Q3 kc3, (∃ t, kc3 = kc ++ t) → mKn Q3 kc3 → mAk Q3 kc3 (acp ac hw ((wgng l s).take (i + 1))) → cdk kc3 (acp ac hw ((wgng l s).take (i + 1))) → qfr Q2 Q3 [14, 15, 16, 17] → zev (mf_take_J70 Q3 (nI b) (hwI hw) (nI (wles (l.take i) (s.take i)).length) (nI l.length) (nI i) (nI (60 * b + i)) (nI (60 * b + (wles (l.take i) (s.take i)).length))) (fun r => ∃ x', r = .inl x' ∧ ∃ Q2 kc2, x' = (Q2, nI (wles (l.take (i + 1)) (s.take (i + 1))).length, nI (i + 1)) ∧ (∃ t, kc2 = kc ++ t) ∧ (∀ j q, (wles (l.take (i + 1)) (s.take (i + 1)))[j]? = some q → Q2.1 9 (60 * b + j) = q.1 ∧ Q2.2 10 (60 * b + j) = q.2) ∧ (∀ j q, i + 1 ≤ j → l[j]? = some q → Q2.1 9 (60 * b + j) = q.1 ∧ Q2.2 10 (60 * b + j) = q.2) ∧ (∀ k, k < 60 * b ∨ 60 * b + 60 ≤ k → Q2.1 9 k = Q1.1 9 k ∧ Q2.2 10 k = Q1.2 10 k) ∧ mKn Q2 kc2 ∧ mAk Q2 kc2 (acp ac hw ((wgng l s).take (i + 1))) ∧ cdk kc2 (acp ac hw ((wgng l s).take (i + 1))) ∧ qfr Q1 Q2 [9, 10, 14, 15, 16, 17]) := by
      intro Q3 kc3 ek3 k3 a3 c3 f3
      have e9 := f3.i 9 (by decide)
      have e10 := f3.j 10 (by decide)
      have f13 : qfr Q1 Q3 [9, 10, 14, 15, 16, 17] := f2.tr0 (f3.mono (by decide))
      have o3 := o2 i q (Nat.le_refl _) hq
      rw [← e9, ← e10] at o3
      generalize hn2 : (wles (l.take i) (s.take i)).length = n2 at hle ⊢
      have g3 : Q3.2 63 i = v := hgo Q3 f13
      unfold mf_take_J70 mf_take_J121
      simp only [zev_b1, zev_mbd, zev_some, zev_b0, zev_bo, true_and, and_true, mev_ai (show 60 * b + i < 2 ^ 31 by omega), mev_si (show 60 * b + n2 < 2 ^ 31 by omega), mev_aj (show 60 * b + i < 2 ^ 31 by omega), mev_aj (show i < 2 ^ 31 by omega), mev_sj (show 60 * b + n2 < 2 ^ 31 by omega), mev_aj (show 60 * b + n2 < 2 ^ 31 by omega), mln_2, mln_3, mln_4, mln_5, mln_6, mln_7, mln_8, mln_9, mln_10, mln_11, mln_12, mln_13, mln_15, mln_16, mln_17, mln_24, mln_25, mln_26, mln_27, mln_28, mln_29, mln_30, mln_31, mln_32, mln_34, mln_35, mln_37, mln_42, mln_49, mln_50, mln_51, mln_52, mln_53, mln_54, mln_55, mln_56, mln_57, mln_58, mln_59, mln_61, mln_62, mln_63, mln_65, mln_66, mln_68, mln_70, mln_71, mln_72, mln_73, mln_74, show 60 * b + i < 60000 by omega, show 60 * b + n2 < 60000 by omega, show i < 60 by omega, o3.1, qi_2, o3.2, g3, qj_2, and_self, if_true]
      have f4 : qfr Q3 (qj (qi Q3 9 (60 * b + n2) q.1) 10 (60 * b + n2) (q.2 - v)) [9, 10] := (qfr.qi (by decide)).tr0 (qfr.qj (by decide))
      have v4 : ∀ k, (qj (qi Q3 9 (60 * b + n2) q.1) 10 (60 * b + n2) (q.2 - v)).1 9 k = (if k = 60 * b + n2 then q.1 else Q2.1 9 k) ∧ (qj (qi Q3 9 (60 * b + n2) q.1) 10 (60 * b + n2) (q.2 - v)).2 10 k = (if k = 60 * b + n2 then q.2 - v else Q2.2 10 k) := fun k => by
        rw [qj_1, qi_1, qj_2, qi_2, e9, e10]
        simp only [true_and, and_self]
      generalize qj (qi Q3 9 (60 * b + n2) q.1) 10 (60 * b + n2) (q.2 - v) = Q4 at f4 v4 ⊢
      have tail : ∀ l2 : Wn, wles (l.take (i + 1)) (s.take (i + 1)) = l2 → (∀ j r, l2[j]? = some r → (j < n2 ∧ (wles (l.take i) (s.take i))[j]? = some r) ∨ (j = n2 ∧ r = (q.1, q.2 - v))) → ∃ Q2 kc2, (Q4, nI l2.length, nI i + 1) = (Q2, nI (wles (l.take (i + 1)) (s.take (i + 1))).length, nI (i + 1)) ∧ (∃ t, kc2 = kc ++ t) ∧ (∀ j q, (wles (l.take (i + 1)) (s.take (i + 1)))[j]? = some q → Q2.1 9 (60 * b + j) = q.1 ∧ Q2.2 10 (60 * b + j) = q.2) ∧ (∀ j q, i + 1 ≤ j → l[j]? = some q → Q2.1 9 (60 * b + j) = q.1 ∧ Q2.2 10 (60 * b + j) = q.2) ∧ (∀ k, k < 60 * b ∨ 60 * b + 60 ≤ k → Q2.1 9 k = Q1.1 9 k ∧ Q2.2 10 k = Q1.2 10 k) ∧ mKn Q2 kc2 ∧ mAk Q2 kc2 (acp ac hw ((wgng l s).take (i + 1))) ∧ cdk kc2 (acp ac hw ((wgng l s).take (i + 1))) ∧ qfr Q1 Q2 [9, 10, 14, 15, 16, 17] := by
        intro l2 hl2 hm
        refine ⟨Q4, kc3, by rw [hl2, nI_1], ek3, fun j r hr => ?_, fun j r hj hr => ?_, fun k hk => ?_, k3.fr f4 (by decide), a3.fr f4 (by decide), c3, f13.tr0 (f4.mono (by decide))⟩
        · rw [hl2] at hr
          rw [(v4 _).1, (v4 _).2]
          rcases hm j r hr with ⟨hj, hr2⟩ | ⟨rfl, rfl⟩
          · rw [if_neg (by omega), if_neg (by omega)]; exact w2 j r hr2
          · rw [if_pos rfl, if_pos rfl]; exact ⟨rfl, rfl⟩
        · rw [(v4 _).1, (v4 _).2, if_neg (by omega), if_neg (by omega)]
          exact o2 j r (by omega) hr
        · rw [(v4 _).1, (v4 _).2, if_neg (by omega), if_neg (by omega)]
          exact x2 k hk
      have hlt2 : ∀ j r, (wles (l.take i) (s.take i))[j]? = some r → j < n2 := fun j r hr => by have := (List.getElem?_eq_some_iff.mp hr).1; omega
      by_cases c : q.2 ≤ v
      · rw [if_pos c, List.append_nil] at hwt
        rw [if_pos ((sub_le0 hsv.1 hsv.2.1 hsv.2.2).mpr c), zev_some]
        refine ⟨_, rfl, ?_⟩
        have := tail _ hwt (fun j r hr => Or.inl ⟨hlt2 j r hr, hr⟩)
        rw [hn2] at this
        exact this
      · rw [if_neg c] at hwt
        rw [if_neg (fun z => c ((sub_le0 hsv.1 hsv.2.1 hsv.2.2).mp z)), zev_some]
        refine ⟨_, rfl, ?_⟩
        have := tail _ hwt (fun j r hr => by
          by_cases hj : j < n2
          · rw [List.getElem?_append_left (by omega)] at hr; exact Or.inl ⟨hj, hr⟩
          · rw [List.getElem?_append_right (by omega), hn2] at hr
            have h5 := (List.getElem?_eq_some_iff.mp hr).1
            simp only [List.length_cons, List.length_nil] at h5
            obtain rfl : j = n2 := by omega
            rw [Nat.sub_self] at hr
            cases hr
            exact Or.inr ⟨rfl, rfl⟩)
        rw [List.length_append, hn2] at this
        rw [nI_1]
        exact this
    unfold mf_take_L20
    cases hw with
    | none =>
      have hni : ¬ nI l.length ≤ nI i := nI_ge hi (by omega)
      have hneg : hwI none < 0 := by decide
      simp only [if_neg hni, if_pos hneg, nI_x4, nI_x5, nI_x13, nI_x16, nI_x20, nI_x60, nI_x100, nI_x48r, nI_add, nI_1]
      exact J Q2 kc2 ⟨t2, ek2⟩ k2 a2 c2 qfr.rf
    | some hw =>
      obtain ⟨hh5, hhr⟩ := hh hw rfl
      have hni : ¬ nI l.length ≤ nI i := nI_ge hi (by omega)
      have hneg : ¬ hwI (some hw) < 0 := nI_pos (show hw < 2 ^ 31 by omega)
      obtain ⟨n, hn4, hqn⟩ := p_nI (hcod q (List.mem_of_getElem? hq))
      simp only [if_neg hni, if_neg hneg, zev_b1, zev_mbd, zev_some, zev_b0, zev_bo, true_and, and_true, nI_x4, nI_x5, nI_x13, nI_x16, nI_x20, nI_x60, nI_x100, nI_x48r, nI_add, nI_1, mev_ai (show 60 * b + i < 2 ^ 31 by omega), mln_2, mln_3, mln_4, mln_5, mln_6, mln_7, mln_8, mln_9, mln_10, mln_11, mln_12, mln_13, mln_15, mln_16, mln_17, mln_24, mln_25, mln_26, mln_27, mln_28, mln_29, mln_30, mln_31, mln_32, mln_34, mln_35, mln_37, mln_42, mln_49, mln_50, mln_51, mln_52, mln_53, mln_54, mln_55, mln_56, mln_57, mln_58, mln_59, mln_61, mln_62, mln_63, mln_65, mln_66, mln_68, mln_70, mln_71, mln_72, mln_73, mln_74, show 60 * b + i < 60000 by omega, (o2 i q (Nat.le_refl _) hq).1, mev_aj (show i < 2 ^ 31 by omega), show i < 60 by omega, hgo Q2 f2]
      have hzz : acp ac (some hw) ((wgng l s).take (i + 1)) = if v ≤ 0 then acp ac (some hw) ((wgng l s).take i) else aup (acp ac (some hw) ((wgng l s).take i)) hw (wadd q.1 v (acp ac (some hw) ((wgng l s).take i) hw)) := by
        rw [gt]
        unfold acp
        dsimp only
        rw [wputs_snoc]
        by_cases c : v ≤ 0
        · rw [if_pos c, if_pos c]
        · rw [if_neg c, if_neg c, aup_aup, aup_at]
      by_cases c : v = 0
      · have c' : v ≤ 0 := (le0_iff hsv.1).mpr c
        rw [if_pos c'] at hzz
        have e : mf_account Q2 q.1 (hwI (some hw)) v = some (Q2, ()) := by unfold mf_account; rw [if_pos c]
        rw [zev_eq e]
        exact J Q2 kc2 ⟨t2, ek2⟩ k2 (by rw [hzz]; exact a2) (by rw [hzz]; exact c2) qfr.rf
      · have c' : ¬ v ≤ 0 := fun z => c ((le0_iff hsv.1).mp z)
        rw [if_neg c'] at hzz
        have hr2 : wris (acp ac (some hw) ((wgng l s).take i) hw) := by
          unfold acp; dsimp only; rw [aup_at]; exact wris_wputs _ _ hhr
        have hac := m_account (n := n) (hw := hw) k2 a2 c2 hr2 hh5 hn4 v c
        rw [← hqn] at hac
        refine zev_mono hac ?_
        rintro ⟨Q3, _⟩ ⟨kc3, ⟨t3, ek3⟩, hin, k3, a3, c3, f3⟩
        dsimp only at k3 a3 c3 f3 ⊢
        rw [← hzz] at a3 c3
        exact J Q3 kc3 ⟨t2 ++ t3, by rw [ek3, ek2, List.append_assoc]⟩ k3 a3 c3 f3
  · rintro z ⟨Q2, kc2, rfl, ek2, w2, o2, x2, k2, a2, c2, f2⟩
    unfold mf_take_L20
    simp only [if_pos (nI_le (Nat.le_refl l.length) (show l.length < 2 ^ 31 by omega)), zev_b1, zev_mbd, zev_some, zev_b0, zev_bo, true_and, and_true]
    refine ⟨_, rfl, ?_⟩
    dsimp only
    rw [List.take_of_length_le (Nat.le_refl _), List.take_of_length_le (show s.length ≤ l.length by omega)] at w2 ⊢
    rw [List.take_of_length_le (by rw [wgng_len hsl]; exact Nat.le_refl _)] at a2 c2
    simp only [zev_b1, zev_mbd, zev_some, zev_b0, zev_bo, true_and, and_true, mev_si hb1, mln_2, mln_3, mln_4, mln_5, mln_6, mln_7, mln_8, mln_9, mln_10, mln_11, mln_12, mln_13, mln_15, mln_16, mln_17, mln_24, mln_25, mln_26, mln_27, mln_28, mln_29, mln_30, mln_31, mln_32, mln_34, mln_35, mln_37, mln_42, mln_49, mln_50, mln_51, mln_52, mln_53, mln_54, mln_55, mln_56, mln_57, mln_58, mln_59, mln_61, mln_62, mln_63, mln_65, mln_66, mln_68, mln_70, mln_71, mln_72, mln_73, mln_74, hb2]
    have f8 : qfr Q2 (qi Q2 8 b (nI (wles l s).length)) [8] := qfr.qi (by decide)
    have f08 : qfr Q (qi Q2 8 b (nI (wles l s).length)) [8, 9, 10, 14, 15, 16, 17, 63] := (f1.mono (by decide)).tr0 ((f2.mono (by decide)).tr0 (f8.mono (by decide)))
    refine ⟨kc2, ek2, ?_, k2.fr f8 (by decide), a2.fr f8 (by decide), c2, f08⟩
    refine ⟨by rw [f08.i 1 (by decide)]; exact h.1, fun c hc => ?_⟩
    have hold := h.2 c hc
    obtain ⟨p1, p2, p3, p4, p5, p6, p7, p8⟩ := hold
    rw [f08.i 2 (by decide), f08.i 3 (by decide)]
    unfold mV
    rw [f08.i 4 (by decide), f08.i 5 (by decide), f08.i 6 (by decide), f08.i 7 (by decide)]
    by_cases e : c = b
    · subst e
      rw [bup_self]
      refine ⟨p1, p2, p3, p4, p5, ?_, p7, fun i q hq => ?_⟩
      · rw [qi_1, if_pos ⟨rfl, rfl⟩]; rfl
      · rw [qi_1, if_neg (by omega), qi_2]
        exact w2 i q hq
    · rw [bup_ne bs _ e]
      refine ⟨p1, p2, p3, p4, p5, ?_, p7, fun i q hq => ?_⟩
      · rw [qi_1, if_neg (fun z => e z.2), f2.i 8 (by decide), f1.i 8 (by decide)]; exact p6
      · rw [qi_1, if_neg (by omega), qi_2]
        have hil := (List.getElem?_eq_some_iff.mp hq).1
        have hc6 := (h60 c hc).1
        have hx := x2 (60 * c + i) (by omega)
        rw [hx.1, hx.2, f1.i 9 (by decide), f1.j 10 (by decide)]
        exact p8 i q hq
