/-! Shares are exact: they add up, and none is more than there is. -/
theorem lN_of {v : Int64} (h : 0 ≤ v.toInt) : v = lN v.toInt.toNat ∧ v.toInt.toNat < 2 ^ 63 := by
  have h1 : v.toInt < 2 ^ 63 := Int64.toInt_lt v
  have h2 : v.toInt.toNat < 2 ^ 63 := by omega
  exact ⟨Int64.toInt_inj.mp (by rw [pk_lT h2]; omega), h2⟩
def nT : Wn → Nat
  | [] => 0
  | q :: r => q.2.toInt.toNat + nT r
def wpos (l : Wn) : Prop := ∀ q, q ∈ l → 0 < q.2.toInt
theorem wpos.tl {q : Int32 × Int64} {l : Wn} (h : wpos (q :: l)) : wpos l := fun z hz => h z (List.mem_cons_of_mem _ hz)
theorem wtot_nT : ∀ l : Wn, wpos l → wtot l = (nT l : Int)
  | [], _ => rfl
  | q :: r, h => by
    have h1 := wtot_nT r h.tl
    have h2 := h q List.mem_cons_self
    simp only [wtot, nT, h1]
    omega
theorem wsum_lN : ∀ l : Wn, wpos l → wsum l = lN (nT l)
  | [], _ => rfl
  | q :: r, h => by
    rw [wsum_cons, wsum_lN r h.tl]
    simp only [nT]
    rw [← lN_add, ← (lN_of (Int.le_of_lt (h q List.mem_cons_self))).1]
theorem nT_mem : ∀ (l : Wn) (q : Int32 × Int64), q ∈ l → q.2.toInt.toNat ≤ nT l
  | [], q, h => by simp at h
  | y :: r, q, h => by
    simp only [nT]
    rcases List.mem_cons.mp h with rfl | h
    · omega
    · have := nT_mem r q h; omega
/-- the Nat picture: whole shares, what is left over, whether there is a rest -/
def nsh (X T : Nat) (l : Wn) : Nat := (l.map (fun q => X * q.2.toInt.toNat / T)).foldr (· + ·) 0
def nre (X T : Nat) (l : Wn) : Nat := (l.map (fun q => X * q.2.toInt.toNat % T)).foldr (· + ·) 0
def nct (X T : Nat) (l : Wn) : Nat := l.countP (fun q => decide (X * q.2.toInt.toNat % T ≠ 0))
theorem nsh_eq (X T : Nat) : ∀ l : Wn, T * nsh X T l + nre X T l = X * nT l
  | [] => by simp [nsh, nre, nT]
  | q :: r => by
    have h := nsh_eq X T r
    have h2 := Nat.div_add_mod (X * q.2.toInt.toNat) T
    have e1 : nsh X T (q :: r) = X * q.2.toInt.toNat / T + nsh X T r := rfl
    have e2 : nre X T (q :: r) = X * q.2.toInt.toNat % T + nre X T r := rfl
    have e3 : nT (q :: r) = q.2.toInt.toNat + nT r := rfl
    rw [e1, e2, e3, Nat.mul_add, Nat.mul_add]
    omega
theorem nre_le (X T : Nat) (hT : 0 < T) : ∀ l : Wn, nre X T l + nct X T l ≤ T * nct X T l
  | [] => by simp [nre, nct]
  | q :: r => by
    have h := nre_le X T hT r
    have e2 : nre X T (q :: r) = X * q.2.toInt.toNat % T + nre X T r := rfl
    have h3 := Nat.mod_lt (X * q.2.toInt.toNat) hT
    rw [e2]
    unfold nct at h ⊢
    rw [List.countP_cons]
    by_cases c : X * q.2.toInt.toNat % T ≠ 0
    · rw [if_pos (by simpa using c), Nat.mul_add, Nat.mul_one]
      omega
    · rw [if_neg (by simpa using c)]
      have : X * q.2.toInt.toNat % T = 0 := by omega
      rw [this, Nat.add_zero]
      omega
/-- what is wanting is not more than the number of rests -/
theorem want_le {X T : Nat} {l : Wn} (hT : 0 < T) (hl : nT l = T) : nsh X T l ≤ X ∧ X - nsh X T l ≤ nct X T l := by
  have h1 := nsh_eq X T l
  have h2 := nre_le X T hT l
  rw [hl, Nat.mul_comm X T] at h1
  have h3 : nsh X T l ≤ X := by
    apply Nat.le_of_mul_le_mul_left _ hT
    omega
  refine ⟨h3, ?_⟩
  have h4 : T * (X - nsh X T l) ≤ T * nct X T l := by
    rw [Nat.mul_sub]
    omega
  exact Nat.le_of_mul_le_mul_left h4 hT
def isum : List Int64 → Nat
  | [] => 0
  | v :: r => v.toInt.toNat + isum r
theorem isum_set : ∀ (s : List Int64) (i : Nat) (v : Int64), s[i]? = some v → 0 ≤ v.toInt → v.toInt < 2 ^ 62 → isum (s.set i (v + 1)) = isum s + 1
  | [], i, v, h, _, _ => by simp at h
  | y :: r, 0, v, h, h0, h1 => by
    simp only [List.getElem?_cons_zero, Option.some.injEq] at h
    subst h
    simp only [List.set_cons_zero, isum]
    have : (y + 1).toInt = y.toInt + 1 := by
      rw [Int64.toInt_add]
      show (y.toInt + 1).bmod _ = _
      rw [Int.bmod_eq_of_le (by omega) (by omega)]
    omega
  | y :: r, i + 1, v, h, h0, h1 => by
    simp only [List.getElem?_cons_succ] at h
    simp only [List.set_cons_succ, isum]
    rw [isum_set r i v h h0 h1]; omega
theorem succ_toInt {v : Int64} (h0 : 0 ≤ v.toInt) (h1 : v.toInt < 2 ^ 62) : (v + 1).toInt = v.toInt + 1 := by
  rw [Int64.toInt_add]
  show (v.toInt + 1).bmod _ = _
  rw [Int.bmod_eq_of_le (by omega) (by omega)]
theorem pred_toInt {v : Int64} (h0 : 0 < v.toInt) : (v - 1).toInt = v.toInt - 1 := by
  have := Int64.toInt_lt v
  rw [Int64.toInt_sub]
  show (v.toInt - 1).bmod _ = _
  rw [Int.bmod_eq_of_le (by omega) (by omega)]
theorem le0_toInt {v : Int64} : v ≤ 0 ↔ v.toInt ≤ 0 := by
  rw [Int64.le_iff_toInt_le]; exact Iff.rfl
theorem drop_cons2 {l : Wn} {i : Nat} {q : Int32 × Int64} (h : l[i]? = some q) : l.drop i = q :: l.drop (i + 1) := drop_cons h
theorem wbmp_spec {X T : Nat} {x tot : Int64} {l : Wn} (hx : x = lN X) (ht : tot = lN T) (hT : 0 < T) (hX : X ≤ 1000000000) (hT2 : T ≤ 1000000000) (hl : wpos l) (hle : ∀ q, q ∈ l → q.2.toInt.toNat ≤ T) : ∀ (n i : Nat) (want : Int64) (s : List Int64), n + i = l.length → s.length = l.length → 0 ≤ want.toInt → (∀ (j : Nat) (v : Int64), i ≤ j → s[j]? = some v → 0 ≤ v.toInt ∧ v.toInt ≤ 1000000000) → (isum (wbmp x tot l n i want s) = isum s + min want.toInt.toNat (nct X T (l.drop i)) ∧ ∀ (j : Nat) (v w : Int64), s[j]? = some v → (wbmp x tot l n i want s)[j]? = some w → w = v ∨ (w.toInt = v.toInt + 1 ∧ ∃ q, l[j]? = some q ∧ X * q.2.toInt.toNat % T ≠ 0 ∧ i ≤ j))
  | 0, i, want, s, hni, hs, hw, hv => by
    have : l.drop i = [] := List.drop_of_length_le (by omega)
    rw [this]
    refine ⟨by simp [wbmp, nct], fun j v w h1 h2 => Or.inl ?_⟩
    simp only [wbmp] at h2
    rw [h1] at h2; cases h2; rfl
  | n + 1, i, want, s, hni, hs, hw, hv => by
    obtain ⟨q, hq⟩ := getElem?_lt (l := l) (i := i) (by omega)
    have hqm := List.mem_of_getElem? hq
    have hq0 := hl q hqm
    obtain ⟨hqn, hqn2⟩ := lN_of (Int.le_of_lt hq0)
    have hA := hle q hqm
    rw [drop_cons2 hq]
    unfold wbmp
    by_cases c1 : want ≤ 0
    · rw [if_pos c1]
      have := le0_toInt.mp c1
      have e0 : want.toInt.toNat = 0 := by omega
      rw [e0]
      refine ⟨by simp, fun j v w h1 h2 => Or.inl ?_⟩
      rw [h1] at h2; cases h2; rfl
    · rw [if_neg c1]
      have hwp : 0 < want.toInt := by
        have : ¬ want.toInt ≤ 0 := fun z => c1 (le0_toInt.mpr z)
        omega
      have hmul : X * q.2.toInt.toNat < 2 ^ 63 := by
        have : X * q.2.toInt.toNat ≤ 1000000000 * 1000000000 := Nat.mul_le_mul hX (by omega)
        exact Nat.lt_of_le_of_lt this (by decide)
      have hrem : x * q.2 - x * q.2 / tot * tot = lN (X * q.2.toInt.toNat % T) := by
        rw [hx, ht]
        conv => lhs; rw [hqn]
        rw [lN_mul, pk_lRem hmul hT (by omega)]
      simp only [hq, Option.map_some, Option.getD_some]
      have t0 : tot ≠ 0 := fun e => by
        rw [ht] at e
        have := (pk_lEQ (b := 0) (by omega) (by decide)).mp e
        omega
      have hz : (tot = 0 ∨ x * q.2 - x * q.2 / tot * tot = 0) ↔ X * q.2.toInt.toNat % T = 0 := by
        rw [hrem]
        constructor
        · rintro (e | e)
          · exact absurd e t0
          · exact (pk_lEQ (b := 0) (by have := Nat.mod_lt (X * q.2.toInt.toNat) hT; omega) (by decide)).mp e
        · intro e; rw [e]; exact Or.inr rfl
      have hct : nct X T (q :: l.drop (i + 1)) = nct X T (l.drop (i + 1)) + (if X * q.2.toInt.toNat % T ≠ 0 then 1 else 0) := by
        unfold nct
        rw [List.countP_cons]
        by_cases c : X * q.2.toInt.toNat % T ≠ 0
        · rw [if_pos (by simpa using c), if_pos c]
        · rw [if_neg (by simpa using c), if_neg c]
      by_cases c2 : X * q.2.toInt.toNat % T = 0
      · rw [if_pos (hz.mpr c2), hct, if_neg (by simpa using c2), Nat.add_zero]
        obtain ⟨h1, h2⟩ := wbmp_spec hx ht hT hX hT2 hl hle n (i + 1) want s (by omega) hs hw (fun j v hj hv2 => hv j v (by omega) hv2)
        refine ⟨h1, fun j v w e1 e2 => ?_⟩
        rcases h2 j v w e1 e2 with e | ⟨e, q', e3, e4, e5⟩
        · exact Or.inl e
        · exact Or.inr ⟨e, q', e3, e4, by omega⟩
      · rw [if_neg (fun z => c2 (hz.mp z)), hct, if_pos c2]
        obtain ⟨v, hv2⟩ := getElem?_lt (l := s) (i := i) (by omega)
        have hvb := hv i v (Nat.le_refl _) hv2
        simp only [hv2, Option.getD_some]
        have hsv : (v + 1).toInt = v.toInt + 1 := succ_toInt hvb.1 (by omega)
        have hw1 := pred_toInt hwp
        obtain ⟨h1, h2⟩ := wbmp_spec hx ht hT hX hT2 hl hle n (i + 1) (want - 1) (s.set i (v + 1)) (by omega) (by rw [List.length_set]; exact hs) (by omega) (fun j u hj hu => by
          rw [List.getElem?_set_ne (by omega)] at hu
          exact hv j u (by omega) hu)
        refine ⟨?_, fun j u w e1 e2 => ?_⟩
        · rw [h1, isum_set s i v hv2 hvb.1 (by omega), hw1]
          omega
        · by_cases e : j = i
          · subst e
            rw [hv2] at e1; cases e1
            have hset : (s.set j (v + 1))[j]? = some (v + 1) := List.getElem?_set_self (by omega)
            rcases h2 j (v + 1) w hset e2 with e3 | ⟨-, -, -, -, e5⟩
            · rw [e3]; exact Or.inr ⟨hsv, q, hq, c2, Nat.le_refl _⟩
            · omega
          · have hset : (s.set i (v + 1))[j]? = some u := by rw [List.getElem?_set_ne (Ne.symm e)]; exact e1
            rcases h2 j u w hset e2 with e3 | ⟨e3, q', e4, e5, e6⟩
            · exact Or.inl e3
            · exact Or.inr ⟨e3, q', e4, e5, by omega⟩
theorem isum_base {X T : Nat} {x tot : Int64} (hx : x = lN X) (ht : tot = lN T) (hT : 0 < T) (hX : X ≤ 1000000000) (hT2 : T ≤ 1000000000) : ∀ (l : Wn), wpos l → (∀ q, q ∈ l → q.2.toInt.toNat ≤ T) → isum (wbase x tot l) = nsh X T l ∧ (∀ (j : Nat) (v : Int64) (q : Int32 × Int64), (wbase x tot l)[j]? = some v → l[j]? = some q → v = lN (X * q.2.toInt.toNat / T)) ∧ (∀ (a : Nat), nsh X T l ≤ a → lsub (lN a) (wbase x tot l) = lN (a - nsh X T l))
  | [], _, _ => ⟨rfl, fun j v q h => by simp [wbase] at h, fun a _ => rfl⟩
  | y :: r, hl, hle => by
    obtain ⟨h1, h2, h3⟩ := isum_base hx ht hT hX hT2 r hl.tl (fun q hq => hle q (List.mem_cons_of_mem _ hq))
    have hy0 := hl y List.mem_cons_self
    obtain ⟨hyn, hyn2⟩ := lN_of (Int.le_of_lt hy0)
    have hA := hle y List.mem_cons_self
    have hmul : X * y.2.toInt.toNat < 2 ^ 63 := by
      have : X * y.2.toInt.toNat ≤ 1000000000 * 1000000000 := Nat.mul_le_mul hX (by omega)
      exact Nat.lt_of_le_of_lt this (by decide)
    have t0 : tot ≠ 0 := fun e => by
      rw [ht] at e
      have := (pk_lEQ (b := 0) (by omega) (by decide)).mp e
      omega
    have hg : gb x tot y.2 = lN (X * y.2.toInt.toNat / T) := by
      unfold gb
      rw [if_neg t0, hx, ht]
      conv => lhs; rw [hyn]
      rw [lN_mul, pk_lDiv hmul hT (by omega)]
    have hd : X * y.2.toInt.toNat / T < 2 ^ 63 := Nat.lt_of_le_of_lt (Nat.div_le_self _ _) hmul
    have eb : wbase x tot (y :: r) = lN (X * y.2.toInt.toNat / T) :: wbase x tot r := by
      show gb x tot y.2 :: wbase x tot r = _
      rw [hg]
    have en : nsh X T (y :: r) = X * y.2.toInt.toNat / T + nsh X T r := rfl
    rw [eb, en]
    refine ⟨?_, fun j v q e1 e2 => ?_, fun a ha => ?_⟩
    · simp only [isum]
      rw [pk_lT hd, h1]
      rfl
    · cases j with
      | zero =>
        simp only [List.getElem?_cons_zero, Option.some.injEq] at e1 e2
        rw [← e1, ← e2]
      | succ j =>
        simp only [List.getElem?_cons_succ] at e1 e2
        exact h2 j v q e1 e2
    · show lsub (lN a - lN (X * y.2.toInt.toNat / T)) (wbase x tot r) = _
      rw [lN_sub (by omega), h3 _ (by omega)]
      congr 1; omega
/-- all that is known of shares -/
theorem wshr_spec {X : Nat} {x : Int64} {l : Wn} (hx : x = lN X) (hl : wpos l) (hT : nT l ≤ 1000000000) (hX : X ≤ nT l) : isum (wshr x l) = X ∧ (∀ (j : Nat) (q : Int32 × Int64) (w : Int64), l[j]? = some q → (wshr x l)[j]? = some w → 0 ≤ w.toInt ∧ w.toInt ≤ q.2.toInt) := by
  by_cases h0 : nT l = 0
  · have hn : l = [] := by
      cases l with
      | nil => rfl
      | cons y r =>
        have h1 := hl y List.mem_cons_self
        have h2 := nT_mem (y :: r) y List.mem_cons_self
        omega
    subst hn
    refine ⟨?_, fun j q w h => by simp at h⟩
    have : X = 0 := by simp only [nT] at hX; omega
    rw [this]; rfl
  · have hT0 : 0 < nT l := by omega
    have hws := wsum_lN l hl
    have hle : ∀ q, q ∈ l → q.2.toInt.toNat ≤ nT l := fun q hq => nT_mem l q hq
    obtain ⟨b1, b2, b3⟩ := isum_base hx hws hT0 (by omega) hT l hl hle
    obtain ⟨w1, w2⟩ := want_le (X := X) (T := nT l) (l := l) hT0 rfl
    have hb : ∀ (j : Nat) (v : Int64), 0 ≤ j → (wbase x (wsum l) l)[j]? = some v → 0 ≤ v.toInt ∧ v.toInt ≤ 1000000000 := by
      intro j v _ hv
      have hjl := (List.getElem?_eq_some_iff.mp hv).1
      rw [wbase_len] at hjl
      obtain ⟨q, hq⟩ := getElem?_lt hjl
      rw [b2 j v q hv hq]
      have hA := hle q (List.mem_of_getElem? hq)
      have hm : X * q.2.toInt.toNat / nT l ≤ q.2.toInt.toNat := by
        apply Nat.div_le_of_le_mul
        exact Nat.mul_le_mul_right _ hX
      generalize X * q.2.toInt.toNat / nT l = d at hm ⊢
      rw [pk_lT (by omega)]
      omega
    have hwant : lsub x (wbase x (wsum l) l) = lN (X - nsh X (nT l) l) := by
      conv => lhs; rw [show lsub x (wbase x (wsum l) l) = lsub (lN X) (wbase x (wsum l) l) from by rw [← hx]]
      exact b3 X w1
    have hwt : (lN (X - nsh X (nT l) l)).toInt = ((X - nsh X (nT l) l : Nat) : Int) := pk_lT (by omega)
    obtain ⟨s1, s2⟩ := wbmp_spec hx hws hT0 (by omega) hT hl hle l.length 0 (lsub x (wbase x (wsum l) l)) (wbase x (wsum l) l) (by omega) wbase_len (by rw [hwant, hwt]; omega) hb
    refine ⟨?_, fun j q w hq hw => ?_⟩
    · show isum (wbmp x (wsum l) l l.length 0 (lsub x (wbase x (wsum l) l)) (wbase x (wsum l) l)) = X
      rw [s1, b1, hwant, hwt, List.drop_zero]
      omega
    · have hjl := (List.getElem?_eq_some_iff.mp hq).1
      obtain ⟨v, hv⟩ := getElem?_lt (l := wbase x (wsum l) l) (i := j) (by rw [wbase_len]; exact hjl)
      have hvv := b2 j v q hv hq
      have hA := hle q (List.mem_of_getElem? hq)
      have hq0 := hl q (List.mem_of_getElem? hq)
      have hm : X * q.2.toInt.toNat / nT l ≤ q.2.toInt.toNat := by
        apply Nat.div_le_of_le_mul
        exact Nat.mul_le_mul_right _ hX
      have hvi : v.toInt = ((X * q.2.toInt.toNat / nT l : Nat) : Int) := by rw [hvv, pk_lT (by generalize X * q.2.toInt.toNat / nT l = d at hm ⊢; omega)]
      rcases s2 j v w hv hw with e | ⟨e, q', hq', hne, -⟩
      · rw [e, hvi]
        generalize X * q.2.toInt.toNat / nT l = d at hm ⊢
        omega
      · rw [hq] at hq'; cases hq'
        have hlt : X * q.2.toInt.toNat / nT l < q.2.toInt.toNat := by
          apply Nat.div_lt_of_lt_mul
          apply Nat.mul_lt_mul_of_pos_right _ (by omega)
          rcases Nat.lt_or_ge X (nT l) with z | z
          · exact z
          · exfalso
            have : X = nT l := by omega
            rw [this, Nat.mul_mod_right] at hne
            exact hne rfl
        rw [e, hvi]
        generalize X * q.2.toInt.toNat / nT l = d at hlt ⊢
        omega
theorem wles_spec : ∀ (l : Wn) (s : List Int64), s.length = l.length → (∀ (j : Nat) (q : Int32 × Int64) (w : Int64), l[j]? = some q → s[j]? = some w → 0 ≤ w.toInt ∧ w.toInt ≤ q.2.toInt) → wpos (wles l s) ∧ nT (wles l s) + isum s = nT l
  | [], [], _, _ => ⟨fun q hq => by simp [wles] at hq, rfl⟩
  | [], _ :: _, h, _ => by simp at h
  | _ :: _, [], h, _ => by simp at h
  | q :: r, v :: s, h, hb => by
    obtain ⟨h1, h2⟩ := wles_spec r s (by simpa using h) (fun j q' w e1 e2 => hb (j + 1) q' w (by simpa using e1) (by simpa using e2))
    have hv := hb 0 q v rfl rfl
    simp only [wles]
    by_cases c : q.2 ≤ v
    · rw [if_pos c]
      have : q.2.toInt ≤ v.toInt := Int64.le_iff_toInt_le.mp c
      refine ⟨h1, ?_⟩
      simp only [isum, nT]
      omega
    · rw [if_neg c]
      have hc : v.toInt < q.2.toInt := by
        have : ¬ q.2.toInt ≤ v.toInt := fun z => c (Int64.le_iff_toInt_le.mpr z)
        omega
      have hlt := Int64.toInt_lt q.2
      have hsub : (q.2 - v).toInt = q.2.toInt - v.toInt := by
        rw [Int64.toInt_sub, Int.bmod_eq_of_le (by omega) (by omega)]
      refine ⟨fun z hz => ?_, ?_⟩
      · rcases List.mem_cons.mp hz with rfl | hz
        · show 0 < (q.2 - v).toInt
          rw [hsub]; omega
        · exact h1 z hz
      · simp only [isum, nT]
        rw [hsub]
        omega
theorem lsub_isum : ∀ (s : List Int64) (a : Nat), (∀ v, v ∈ s → 0 ≤ v.toInt) → isum s ≤ a → lsub (lN a) s = lN (a - isum s)
  | [], a, _, _ => rfl
  | v :: r, a, hv, ha => by
    show lsub (lN a - v) r = _
    simp only [isum] at ha ⊢
    have e := (lN_of (hv v List.mem_cons_self)).1
    have e2 : lN a - v = lN (a - v.toInt.toNat) := by
      conv => lhs; rw [e]
      rw [lN_sub (by omega)]
    rw [e2]
    rw [lsub_isum r _ (fun z hz => hv z (List.mem_cons_of_mem _ hz)) (by omega)]
    congr 1; omega
/-- what a class of wine keeps when a share goes -/
theorem wshr_all {x : Int64} {l : Wn} (hl : wpos l) (hT : nT l ≤ 1000000000) (hx0 : 0 ≤ x.toInt) (hx : x.toInt ≤ (nT l : Int)) : wsok l (wshr x l) ∧ lsub (wsum l) (wshr x l) = wsum (wles l (wshr x l)) ∧ wpos (wles l (wshr x l)) ∧ ((nT (wles l (wshr x l)) : Int) = nT l - x.toInt) ∧ isum (wshr x l) = x.toInt.toNat := by
  obtain ⟨hxn, hxn2⟩ := lN_of hx0
  obtain ⟨s1, s2⟩ := wshr_spec (X := x.toInt.toNat) hxn hl hT (by omega)
  obtain ⟨w1, w2⟩ := wles_spec l (wshr x l) (wshr_len x l) s2
  refine ⟨fun i q v hq hv => ?_, ?_, w1, by omega, s1⟩
  · have := nT_mem l q (List.mem_of_getElem? hq)
    have h3 := s2 i q v hq hv
    omega
  · rw [wsum_lN l hl, wsum_lN _ w1, lsub_isum _ _ (fun v hv => ?_) (by omega)]
    · congr 1; omega
    · obtain ⟨j, hj⟩ := List.getElem?_of_mem hv
      have hjl := (List.getElem?_eq_some_iff.mp hj).1
      rw [wshr_len] at hjl
      obtain ⟨q, hq⟩ := getElem?_lt hjl
      exact (s2 j q v hq hj).1
