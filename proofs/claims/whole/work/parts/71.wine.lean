/-! Wine: amounts by rising parts, as a list. -/
abbrev Wn : Type := List (Int32 × Int64)
def widx (p : Int32) : Wn → Nat
  | [] => 0
  | q :: r => if q.1 < p then widx p r + 1 else 0
def wlook (p : Int32) : Wn → Int64
  | [] => 0
  | q :: r => if q.1 = p then q.2 else wlook p r
def wadd (p : Int32) (x : Int64) : Wn → Wn
  | [] => [(p, x)]
  | q :: r => if q.1 < p then q :: wadd p x r else if q.1 = p then (q.1, q.2 + x) :: r else (p, x) :: q :: r
def wsum (l : Wn) : Int64 := (l.map (fun q => q.2)).foldr (· + ·) 0
/-- by rising parts -/
def wris : Wn → Prop
  | [] => True
  | q :: r => (∀ q' ∈ r, q.1 < q'.1) ∧ wris r
theorem widx_le (p : Int32) : ∀ l : Wn, widx p l ≤ l.length
  | [] => Nat.le_refl _
  | q :: r => by
    simp only [widx, List.length_cons]
    split
    · have := widx_le p r; omega
    · omega
/-- the place is known by its neighbours -/
theorem widx_uniq (p : Int32) : ∀ (l : Wn) (k : Nat), k ≤ l.length → (∀ i q, i < k → l[i]? = some q → q.1 < p) → (∀ i q, k ≤ i → l[i]? = some q → ¬ q.1 < p) → widx p l = k
  | [], k, h, _, _ => by simp at h; subst h; rfl
  | q :: r, 0, _, _, h2 => by simp only [widx, if_neg (h2 0 q (Nat.le_refl _) rfl)]
  | q :: r, k + 1, h, h1, h2 => by
    simp only [widx, if_pos (h1 0 q (Nat.succ_pos _) rfl)]
    rw [widx_uniq p r k (by simpa using h) (fun i x hi hx => h1 (i + 1) x (by omega) (by simpa using hx)) (fun i x hi hx => h2 (i + 1) x (by omega) (by simpa using hx))]
theorem widx_lt (p : Int32) : ∀ (l : Wn) (i : Nat) (q : Int32 × Int64), i < widx p l → l[i]? = some q → q.1 < p
  | [], i, q, h, _ => by simp [widx] at h
  | x :: r, i, q, h, hq => by
    simp only [widx] at h
    split at h
    · rename_i hx
      cases i with
      | zero => simp at hq; subst hq; exact hx
      | succ i => exact widx_lt p r i q (by omega) (by simpa using hq)
    · omega
theorem wris_lt : ∀ (l : Wn), wris l → ∀ (i j : Nat) (q q' : Int32 × Int64), i < j → l[i]? = some q → l[j]? = some q' → q.1 < q'.1
  | [], _, i, j, q, q', _, h, _ => by simp at h
  | x :: r, h, i, j, q, q', hij, hi, hj => by
    cases j with
    | zero => omega
    | succ j =>
      have hj' : r[j]? = some q' := by simpa using hj
      cases i with
      | zero => simp at hi; subst hi; exact h.1 q' (List.mem_of_getElem? hj')
      | succ i => exact wris_lt r h.2 i j q q' (by omega) (by simpa using hi) hj'
/-- a Wine object w with its rows pa, aa, of cap places, holds l -/
def zWi (M : Zm) (w pa aa cap : Nat) (l : Wn) : Prop := zOb M w 11 ∧ zm_r M w 0 = some pa ∧ zm_r M w 1 = some aa ∧ zAr M pa 14 cap ∧ zAr M aa 15 cap ∧ zm_i M w 2 = nI l.length ∧ zm_j M w 3 = wsum l ∧ l.length ≤ cap ∧ cap < 2 ^ 20 ∧ (∀ i q, l[i]? = some q → zm_i M pa i = q.1 ∧ zm_j M aa i = q.2) ∧ wris l
theorem zWi_indexOf {M : Zm} {w pa aa cap : Nat} {l : Wn} (h : zWi M w pa aa cap l) (p : Int32) : zf_X10_indexOf M (some w) p = some (M, nI (widx p l)) := by
  obtain ⟨h1, h2, h3, h4, h5, h6, h7, h8, h9, h10, h11⟩ := h
  have hz : ∃ y, zwhile (zf_X10_indexOf_L7 (some w) p) (M, (0 : Int32), nI l.length) = some y ∧ y.1 = M ∧ y.2.1 = nI (widx p l) := by
    refine zwhile_inv (σ := Zm × Int32 × Int32) (τ := Zm × Int32 × Int32) (I := fun x => ∃ lo hi : Nat, x = (M, nI lo, nI hi) ∧ lo ≤ hi ∧ hi ≤ l.length ∧ (∀ i q, i < lo → l[i]? = some q → q.1 < p) ∧ (∀ i q, hi ≤ i → l[i]? = some q → ¬ q.1 < p)) (μ := fun x => (x.2.2.toNatClampNeg - x.2.1.toNatClampNeg)) (Q := fun (y : Zm × Int32 × Int32) => y.1 = M ∧ y.2.1 = nI (widx p l)) ?_ ⟨0, l.length, rfl, by omega, by omega, fun i q hi => by omega, fun i q hi hq => by have := (List.getElem?_eq_some_iff.mp hq).1; omega⟩
    rintro x ⟨lo, hi, rfl, ha, hb, hc, hd⟩
    have hlo : lo < 2 ^ 31 := by omega
    have hhi : hi < 2 ^ 31 := by omega
    simp only [zf_X10_indexOf_L7]
    by_cases he : lo = hi
    · subst he
      refine Or.inr ⟨(M, nI lo, nI lo), ?_, rfl, ?_⟩
      · rw [if_pos ((nI_leI hlo hlo).mpr (Nat.le_refl _))]
      · show nI lo = _
        rw [widx_uniq p l lo hb hc hd]
    · have hlt : lo < hi := by omega
      refine Or.inl ?_
      rw [if_neg (fun q => by have := (nI_leI hhi hlo).mp q; omega)]
      have hdv : zo_id (nI lo + nI hi) 2 = some (nI ((lo + hi) / 2)) := by
        rw [nI_add]
        simp only [zo_id]
        rw [if_neg (by decide)]
        exact congrArg some (pk_div (by omega) (by decide) (by decide))
      have hm : (lo + hi) / 2 < l.length := by omega
      obtain ⟨q, hq⟩ : ∃ q, l[(lo + hi) / 2]? = some q := ⟨_, List.getElem?_eq_getElem hm⟩
      simp only [hdv, zb1_some, zgr h1, h2, zai h4 (show (lo + hi) / 2 < cap by omega) (by omega), (h10 _ q hq).1, zf_X10_indexOf_J41]
      by_cases hp : p ≤ q.1
      · rw [if_pos hp]
        refine ⟨_, rfl, ⟨lo, (lo + hi) / 2, rfl, by omega, by omega, hc, fun i q' hi' hq' => ?_⟩, ?_⟩
        · intro hlt'
          by_cases hii : i = (lo + hi) / 2
          · subst hii; rw [hq] at hq'; cases hq'; exact absurd hp (Int32.not_le.mpr hlt')
          · have := wris_lt l h11 _ i q q' (show (lo + hi) / 2 < i by omega) hq hq'
            exact absurd hp (Int32.not_le.mpr (Int32.lt_trans this hlt'))
        · simp only [nI_clamp hlo, nI_clamp hhi, nI_clamp (show (lo + hi) / 2 < 2 ^ 31 by omega)]
          omega
      · rw [if_neg hp]
        have hq1 : q.1 < p := Int32.not_le.mp hp
        refine ⟨_, rfl, ⟨(lo + hi) / 2 + 1, hi, by rw [nI_succ], by omega, hb, fun i q' hi' hq' => ?_, hd⟩, ?_⟩
        · by_cases hii : i = (lo + hi) / 2
          · subst hii; rw [hq] at hq'; cases hq'; exact hq1
          · exact Int32.lt_trans (wris_lt l h11 i _ q' q (show i < (lo + hi) / 2 by omega) hq' hq) hq1
        · rw [← nI_succ]
          simp only [nI_clamp hlo, nI_clamp hhi, nI_clamp (show (lo + hi) / 2 + 1 < 2 ^ 31 by omega)]
          omega
  obtain ⟨⟨M2, a, b⟩, hy, rfl, hb⟩ := hz
  simp only at hb
  subst hb
  simp only [zf_X10_indexOf, zgi h1, zb1_some, h6, hy]
theorem wlook_widx (p : Int32) : ∀ (l : Wn), wris l → wlook p l = (match l[widx p l]? with | some q => if q.1 = p then q.2 else 0 | none => 0)
  | [], _ => rfl
  | q :: r, h => by
    simp only [wlook, widx]
    by_cases h1 : q.1 < p
    · rw [if_pos h1, if_neg (fun e => by rw [e] at h1; exact Int32.lt_irrefl h1)]
      simp only [List.getElem?_cons_succ]
      exact wlook_widx p r h.2
    · rw [if_neg h1]
      simp only [List.getElem?_cons_zero]
      by_cases h2 : q.1 = p
      · rw [if_pos h2, if_pos h2]
      · rw [if_neg h2, if_neg h2]
        have : ∀ r' : Wn, (∀ q' ∈ r', q.1 < q'.1) → wlook p r' = 0 := by
          intro r'
          induction r' with
          | nil => intro _; rfl
          | cons x r' ih =>
            intro hx
            have h3 := hx x List.mem_cons_self
            have h4 : ¬ x.1 = p := fun e => by rw [e] at h3; exact h1 h3
            simp only [wlook, if_neg h4]
            exact ih (fun q' hq' => hx q' (List.mem_cons_of_mem _ hq'))
        exact this r h.1
theorem zWi_isAt {M : Zm} {w pa aa cap : Nat} {l : Wn} (h : zWi M w pa aa cap l) (i : Nat) (hi : i ≤ l.length) (p : Int32) : zf_X10_isAt M (some w) (nI i) p = some (M, if (l[i]?.map (fun q => q.1)) = some p then 1 else 0) := by
  obtain ⟨h1, h2, h3, h4, h5, h6, h7, h8, h9, h10, h11⟩ := h
  simp only [zf_X10_isAt, zgi h1, zb1_some, h6]
  by_cases hlt : i < l.length
  · obtain ⟨q, hq⟩ : ∃ q, l[i]? = some q := ⟨_, List.getElem?_eq_getElem hlt⟩
    rw [if_neg (fun z => by have := (nI_leI (show l.length < 2 ^ 31 by omega) (show i < 2 ^ 31 by omega)).mp z; omega)]
    simp only [zgr h1, h2, zb1_some, zai h4 (show i < cap by omega) (by omega), (h10 _ q hq).1, hq]
    by_cases hp : q.1 = p
    · simp only [Option.map_some, Option.some.injEq, if_pos hp, zo_b1, zb1_some]
    · simp only [Option.map_some, Option.some.injEq, if_neg hp, zo_b0, zb1_some]
  · have hn : l[i]? = none := List.getElem?_eq_none (by omega)
    rw [if_pos ((nI_leI (by omega) (by omega)).mpr (by omega))]
    simp [hn, zo_b0, zb1_some]
theorem zWi_amountOf {M : Zm} {w pa aa cap : Nat} {l : Wn} (h : zWi M w pa aa cap l) (p : Int32) : zf_X10_amountOf M (some w) p = some (M, wlook p l) := by
  have hi := zWi_indexOf h p
  have ha := zWi_isAt h (widx p l) (widx_le p l) p
  have hw := wlook_widx p l h.2.2.2.2.2.2.2.2.2.2
  obtain ⟨h1, h2, h3, h4, h5, h6, h7, h8, h9, h10, h11⟩ := h
  simp only [zf_X10_amountOf, zrc h1, zb1_some, hi, zbd_some, ha]
  cases hq : l[widx p l]? with
  | none =>
    simp only [hq] at hw ⊢
    rw [hw]
    simp
  | some q =>
    simp only [hq] at hw ⊢
    have hlt := (List.getElem?_eq_some_iff.mp hq).1
    by_cases hp : q.1 = p
    · rw [if_pos hp] at hw
      simp only [Option.map_some, Option.some.injEq, if_pos hp, if_neg (show ¬ (1 : Int32) = 0 by decide), zgr h1, h3, zb1_some, zaj h5 (show widx p l < cap by omega) (by omega), (h10 _ q hq).2, hw]
    · rw [if_neg hp] at hw
      simp [hp, hw]
