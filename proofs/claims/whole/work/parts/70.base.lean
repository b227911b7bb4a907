/-! Readings of operations under what is known of the cells; loops. -/
abbrev zOb (M : Zm) (a c : Nat) : Prop := zm_ok M a ∧ zm_k M a = c
abbrev zAr (M : Zm) (a k n : Nat) : Prop := (zm_ok M a ∧ zm_k M a = k) ∧ zm_l M a = n
theorem zgi {M : Zm} {a c k : Nat} (h : zOb M a c) : zo_gi M (some a) c k = some (zm_i M a k) := by simp only [zo_gi, if_pos h]
theorem zgj {M : Zm} {a c k : Nat} (h : zOb M a c) : zo_gj M (some a) c k = some (zm_j M a k) := by simp only [zo_gj, if_pos h]
theorem zgr {M : Zm} {a c k : Nat} (h : zOb M a c) : zo_gr M (some a) c k = some (zm_r M a k) := by simp only [zo_gr, if_pos h]
theorem zpi {M : Zm} {a c k : Nat} {v : Int32} (h : zOb M a c) : zo_pi M (some a) c k v = some (zm_pi M a k v) := by simp only [zo_pi, if_pos h]
theorem zpz {M : Zm} {a c k : Nat} {v : Int32} (h : zOb M a c) (hv : v = 0 ∨ v = 1) : zo_pz M (some a) c k v = some (zm_pi M a k v) := by simp only [zo_pz, if_pos (And.intro h hv)]
theorem zpj {M : Zm} {a c k : Nat} {v : Int64} (h : zOb M a c) : zo_pj M (some a) c k v = some (zm_pj M a k v) := by simp only [zo_pj, if_pos h]
theorem zpr {M : Zm} {a c k : Nat} {v : Option Nat} (h : zOb M a c) : zo_pr M (some a) c k v = some (zm_pr M a k v) := by simp only [zo_pr, if_pos h]
theorem zrc {M : Zm} {a c : Nat} (h : zOb M a c) : zo_rc M (some a) c = some () := by simp only [zo_rc, if_pos h]
theorem zcc {M : Zm} {a c : Nat} (h : zOb M a c) : zo_cc M (some a) c = some () := by simp only [zo_cc, if_pos h]
theorem zix {j n : Nat} (h : j < n) (hn : n < 2 ^ 31) : ¬ (nI j < 0 ∨ n ≤ (nI j).toNatClampNeg) := vp_in_nI h hn
theorem zai {M : Zm} {a n j : Nat} (h : zAr M a 14 n) (hj : j < n) (hn : n < 2 ^ 31) : zo_ai M (some a) (nI j) = some (zm_i M a j) := by
  obtain ⟨h1, rfl⟩ := h
  unfold zo_ai
  simp only
  rw [if_pos (And.intro h1 (zix hj hn)), nI_clamp (Nat.lt_trans hj hn)]
theorem zaj {M : Zm} {a n j : Nat} (h : zAr M a 15 n) (hj : j < n) (hn : n < 2 ^ 31) : zo_aj M (some a) (nI j) = some (zm_j M a j) := by
  obtain ⟨h1, rfl⟩ := h
  unfold zo_aj
  simp only
  rw [if_pos (And.intro h1 (zix hj hn)), nI_clamp (Nat.lt_trans hj hn)]
theorem zar {M : Zm} {a n j t : Nat} (h : zAr M a t n) (hj : j < n) (hn : n < 2 ^ 31) : zo_ar M t (some a) (nI j) = some (zm_r M a j) := by
  obtain ⟨h1, rfl⟩ := h
  unfold zo_ar
  simp only
  rw [if_pos (And.intro h1 (zix hj hn)), nI_clamp (Nat.lt_trans hj hn)]
theorem zsi {M : Zm} {a n j : Nat} {v : Int32} (h : zAr M a 14 n) (hj : j < n) (hn : n < 2 ^ 31) : zo_si M (some a) (nI j) v = some (zm_pi M a j v) := by
  obtain ⟨h1, rfl⟩ := h
  unfold zo_si
  simp only
  rw [if_pos (And.intro h1 (zix hj hn)), nI_clamp (Nat.lt_trans hj hn)]
theorem zsj {M : Zm} {a n j : Nat} {v : Int64} (h : zAr M a 15 n) (hj : j < n) (hn : n < 2 ^ 31) : zo_sj M (some a) (nI j) v = some (zm_pj M a j v) := by
  obtain ⟨h1, rfl⟩ := h
  unfold zo_sj
  simp only
  rw [if_pos (And.intro h1 (zix hj hn)), nI_clamp (Nat.lt_trans hj hn)]
theorem zal {M : Zm} {a k n : Nat} (h : zAr M a k n) (h1 : 14 ≤ k) (h2 : k < 20) : zo_al M (some a) = some (nI n) := by
  obtain ⟨⟨h3, rfl⟩, rfl⟩ := h
  simp only [zo_al, if_pos (And.intro h3 (And.intro h1 h2))]
  rfl
theorem zo_b0 : zo_b 0 = some 0 := rfl
theorem zo_b1 : zo_b 1 = some 1 := rfl
/-- a loop with a measure that falls -/
theorem zwhile_inv {σ τ : Type} {f : σ → Option (σ ⊕ τ)} (I : σ → Prop) (μ : σ → Nat) (Q : τ → Prop) (hs : ∀ x, I x → (∃ x', f x = some (.inl x') ∧ I x' ∧ μ x' < μ x) ∨ (∃ y, f x = some (.inr y) ∧ Q y)) {x : σ} (h : I x) : ∃ y, zwhile f x = some y ∧ Q y := by
  generalize hn : μ x = n
  induction n using Nat.strongRecOn generalizing x with
  | _ n ih =>
    rcases hs x h with ⟨x', h1, h2, h3⟩ | ⟨y, h1, h2⟩
    · obtain ⟨y, h4, h5⟩ := ih (μ x') (by omega) h2 rfl
      exact ⟨y, by rw [zwhile_step h1]; exact h4, h5⟩
    · exact ⟨y, zwhile_end h1, h2⟩
/-- a loop that counts from i to n -/
theorem zwhile_up {σ τ : Type} {f : σ → Option (σ ⊕ τ)} (I : Nat → σ → Prop) (n : Nat) (Q : τ → Prop) (hs : ∀ i x, i < n → I i x → ∃ x', f x = some (.inl x') ∧ I (i + 1) x') (he : ∀ x, I n x → ∃ y, f x = some (.inr y) ∧ Q y) {i : Nat} {x : σ} (hi : i ≤ n) (h : I i x) : ∃ y, zwhile f x = some y ∧ Q y := by
  generalize hk : n - i = k
  induction k generalizing i x with
  | zero =>
    have : i = n := by omega
    subst this
    obtain ⟨y, h1, h2⟩ := he x h
    exact ⟨y, zwhile_end h1, h2⟩
  | succ k ih =>
    obtain ⟨x', h1, h2⟩ := hs i x (by omega) h
    obtain ⟨y, h3, h4⟩ := ih (by omega) h2 (by omega)
    exact ⟨y, by rw [zwhile_step h1]; exact h3, h4⟩
/-! what a written memory reads as -/
theorem zpi_i {M : Zm} {a k : Nat} {v : Int32} : zm_i (zm_pi M a k v) = zm_u (zm_i M) a k v := rfl
theorem zpi_j {M : Zm} {a k : Nat} {v : Int32} : zm_j (zm_pi M a k v) = zm_j M := rfl
theorem zpi_r {M : Zm} {a k : Nat} {v : Int32} : zm_r (zm_pi M a k v) = zm_r M := rfl
theorem zpi_k {M : Zm} {a k : Nat} {v : Int32} : zm_k (zm_pi M a k v) = zm_k M := rfl
theorem zpi_l {M : Zm} {a k : Nat} {v : Int32} : zm_l (zm_pi M a k v) = zm_l M := rfl
theorem zpi_b {M : Zm} {a k : Nat} {v : Int32} : zm_b (zm_pi M a k v) = zm_b M := rfl
theorem zpi_c {M : Zm} {a k : Nat} {v : Int32} : zm_c (zm_pi M a k v) = zm_c M := rfl
theorem zpj_i {M : Zm} {a k : Nat} {v : Int64} : zm_i (zm_pj M a k v) = zm_i M := rfl
theorem zpj_j {M : Zm} {a k : Nat} {v : Int64} : zm_j (zm_pj M a k v) = zm_u (zm_j M) a k v := rfl
theorem zpj_r {M : Zm} {a k : Nat} {v : Int64} : zm_r (zm_pj M a k v) = zm_r M := rfl
theorem zpj_k {M : Zm} {a k : Nat} {v : Int64} : zm_k (zm_pj M a k v) = zm_k M := rfl
theorem zpj_l {M : Zm} {a k : Nat} {v : Int64} : zm_l (zm_pj M a k v) = zm_l M := rfl
theorem zpj_b {M : Zm} {a k : Nat} {v : Int64} : zm_b (zm_pj M a k v) = zm_b M := rfl
theorem zpj_c {M : Zm} {a k : Nat} {v : Int64} : zm_c (zm_pj M a k v) = zm_c M := rfl
theorem zpr_i {M : Zm} {a k : Nat} {v : Option Nat} : zm_i (zm_pr M a k v) = zm_i M := rfl
theorem zpr_j {M : Zm} {a k : Nat} {v : Option Nat} : zm_j (zm_pr M a k v) = zm_j M := rfl
theorem zpr_r {M : Zm} {a k : Nat} {v : Option Nat} : zm_r (zm_pr M a k v) = zm_u (zm_r M) a k v := rfl
theorem zpr_k {M : Zm} {a k : Nat} {v : Option Nat} : zm_k (zm_pr M a k v) = zm_k M := rfl
theorem zpr_l {M : Zm} {a k : Nat} {v : Option Nat} : zm_l (zm_pr M a k v) = zm_l M := rfl
theorem zpr_b {M : Zm} {a k : Nat} {v : Option Nat} : zm_b (zm_pr M a k v) = zm_b M := rfl
theorem zpr_c {M : Zm} {a k : Nat} {v : Option Nat} : zm_c (zm_pr M a k v) = zm_c M := rfl
theorem zuu {α : Type} {f : Nat → Nat → α} {a k : Nat} {v : α} : zm_u f a k v a k = v := by simp [zm_u, va_up]
theorem zun {α : Type} {f : Nat → Nat → α} {a k x j : Nat} {v : α} (h : x ≠ a ∨ j ≠ k) : zm_u f a k v x j = f x j := by
  by_cases hx : x = a
  · subst hx
    have : j ≠ k := by rcases h with h | h; exact absurd rfl h; exact h
    simp [zm_u, va_up, this]
  · simp [zm_u, hx]
/-! What stays: outside S nothing is written, kinds and lengths stay, cells only come. -/
def zFr (M M' : Zm) (S : Nat → Prop) : Prop := M'.1 = M.1 ∧ zm_b M' = zm_b M ∧ zm_c M ≤ zm_c M' ∧ zm_s M ≤ zm_s M' ∧ (∀ a, zm_ok M a → zm_k M' a = zm_k M a ∧ zm_l M' a = zm_l M a) ∧ (∀ a, zm_ok M a → ¬ S a → zm_i M' a = zm_i M a ∧ zm_j M' a = zm_j M a ∧ zm_r M' a = zm_r M a)
theorem zFr.rf {M : Zm} {S : Nat → Prop} : zFr M M S := ⟨rfl, rfl, Nat.le_refl _, Nat.le_refl _, fun _ _ => ⟨rfl, rfl⟩, fun _ _ _ => ⟨rfl, rfl, rfl⟩⟩
theorem zFr.ok {M M' : Zm} {S : Nat → Prop} (h : zFr M M' S) {a : Nat} (ha : zm_ok M a) : zm_ok M' a := ⟨by rw [h.2.1]; exact ha.1, by rw [h.2.1]; exact Nat.lt_of_lt_of_le ha.2 (Nat.add_le_add_left h.2.2.1 _)⟩
theorem zFr.tr {M M1 M2 : Zm} {S : Nat → Prop} (h1 : zFr M M1 S) (h2 : zFr M1 M2 S) : zFr M M2 S :=
  ⟨h2.1.trans h1.1, h2.2.1.trans h1.2.1, Nat.le_trans h1.2.2.1 h2.2.2.1, Nat.le_trans h1.2.2.2.1 h2.2.2.2.1,
   fun a ha => ⟨(h2.2.2.2.2.1 a (h1.ok ha)).1.trans (h1.2.2.2.2.1 a ha).1, (h2.2.2.2.2.1 a (h1.ok ha)).2.trans (h1.2.2.2.2.1 a ha).2⟩,
   fun a ha hs => ⟨(h2.2.2.2.2.2 a (h1.ok ha) hs).1.trans (h1.2.2.2.2.2 a ha hs).1, (h2.2.2.2.2.2 a (h1.ok ha) hs).2.1.trans (h1.2.2.2.2.2 a ha hs).2.1, (h2.2.2.2.2.2 a (h1.ok ha) hs).2.2.trans (h1.2.2.2.2.2 a ha hs).2.2⟩⟩
theorem zFr.tr2 {M M1 M2 : Zm} {S S2 : Nat → Prop} (h1 : zFr M M1 S) (h2 : zFr M1 M2 S2) (hs : ∀ a, zm_ok M a → S2 a → S a) : zFr M M2 S :=
  ⟨h2.1.trans h1.1, h2.2.1.trans h1.2.1, Nat.le_trans h1.2.2.1 h2.2.2.1, Nat.le_trans h1.2.2.2.1 h2.2.2.2.1,
   fun a ha => ⟨(h2.2.2.2.2.1 a (h1.ok ha)).1.trans (h1.2.2.2.2.1 a ha).1, (h2.2.2.2.2.1 a (h1.ok ha)).2.trans (h1.2.2.2.2.1 a ha).2⟩,
   fun a ha hn => ⟨(h2.2.2.2.2.2 a (h1.ok ha) (fun q => hn (hs a ha q))).1.trans (h1.2.2.2.2.2 a ha hn).1, (h2.2.2.2.2.2 a (h1.ok ha) (fun q => hn (hs a ha q))).2.1.trans (h1.2.2.2.2.2 a ha hn).2.1, (h2.2.2.2.2.2 a (h1.ok ha) (fun q => hn (hs a ha q))).2.2.trans (h1.2.2.2.2.2 a ha hn).2.2⟩⟩
theorem zFr.mono {M M' : Zm} {S S' : Nat → Prop} (h : zFr M M' S) (hs : ∀ a, zm_ok M a → S a → S' a) : zFr M M' S' := ⟨h.1, h.2.1, h.2.2.1, h.2.2.2.1, h.2.2.2.2.1, fun a ha hn => h.2.2.2.2.2 a ha (fun q => hn (hs a ha q))⟩
theorem zFr.pi {M : Zm} {a k : Nat} {v : Int32} {S : Nat → Prop} (h : S a) : zFr M (zm_pi M a k v) S := ⟨rfl, rfl, Nat.le_refl _, Nat.le_refl _, fun _ _ => ⟨rfl, rfl⟩, fun x _ hs => ⟨zm_uN (fun e => hs (e ▸ h)), rfl, rfl⟩⟩
theorem zFr.pj {M : Zm} {a k : Nat} {v : Int64} {S : Nat → Prop} (h : S a) : zFr M (zm_pj M a k v) S := ⟨rfl, rfl, Nat.le_refl _, Nat.le_refl _, fun _ _ => ⟨rfl, rfl⟩, fun x _ hs => ⟨rfl, zm_uN (fun e => hs (e ▸ h)), rfl⟩⟩
theorem zFr.pr {M : Zm} {a k : Nat} {v : Option Nat} {S : Nat → Prop} (h : S a) : zFr M (zm_pr M a k v) S := ⟨rfl, rfl, Nat.le_refl _, Nat.le_refl _, fun _ _ => ⟨rfl, rfl⟩, fun x _ hs => ⟨rfl, rfl, zm_uN (fun e => hs (e ▸ h))⟩⟩
theorem zFr.ri {M : Zm} {a : Nat} {g : Nat → Int32} {S : Nat → Prop} (h : S a) : zFr M (zm_ri M a g) S := ⟨rfl, rfl, Nat.le_refl _, Nat.le_refl _, fun _ _ => ⟨rfl, rfl⟩, fun x _ hs => ⟨zm_zN (fun e => hs (e ▸ h)), rfl, rfl⟩⟩
theorem zFr.rj {M : Zm} {a : Nat} {g : Nat → Int64} {S : Nat → Prop} (h : S a) : zFr M (zm_rj M a g) S := ⟨rfl, rfl, Nat.le_refl _, Nat.le_refl _, fun _ _ => ⟨rfl, rfl⟩, fun x _ hs => ⟨rfl, zm_zN (fun e => hs (e ▸ h)), rfl⟩⟩
theorem zFr.n {M : Zm} {k n : Nat} {S : Nat → Prop} : zFr M (zm_n M k n) S := by
  have hne : ∀ a, zm_ok M a → a ≠ zm_b M + zm_c M := fun a ha e => by have := ha.2; omega
  refine ⟨rfl, rfl, Nat.le_succ _, Nat.le_add_right _ _, fun a ha => ⟨?_, ?_⟩, fun a ha _ => ⟨zm_zN (hne a ha), zm_zN (hne a ha), zm_zN (hne a ha)⟩⟩
  · show va_up _ _ _ _ = _; simp [va_up, hne a ha]
  · show va_up _ _ _ _ = _; simp [va_up, hne a ha]
theorem zFr.ob {M M' : Zm} {S : Nat → Prop} (h : zFr M M' S) {a c : Nat} (ha : zOb M a c) : zOb M' a c := ⟨h.ok ha.1, (h.2.2.2.2.1 a ha.1).1.trans ha.2⟩
theorem zFr.ar {M M' : Zm} {S : Nat → Prop} (h : zFr M M' S) {a k n : Nat} (ha : zAr M a k n) : zAr M' a k n := ⟨h.ob ha.1, (h.2.2.2.2.1 a ha.1.1).2.trans ha.2⟩
theorem zna {M : Zm} {k n : Nat} (hn : n < 2 ^ 31) (h1 : zm_c M + 1 ≤ 600000) (h2 : zm_s M + n ≤ 7302250) : zo_na M k (nI n) = some (zm_n M k n) := by
  simp only [zo_na, nI_clamp hn, if_pos (And.intro (nI_pos hn) (And.intro h1 h2))]
theorem zn_ar {M : Zm} {k n : Nat} : zAr (zm_n M k n) (zm_b M + zm_c M) k n := ⟨⟨⟨Nat.le_add_right _ _, by show _ < zm_b M + (zm_c M + 1); omega⟩, zm_n_k⟩, zm_n_l⟩
theorem zn_ob {M : Zm} {k n : Nat} : zOb (zm_n M k n) (zm_b M + zm_c M) k := zn_ar.1
theorem zci {M : Zm} {a b na nb sp dp n : Nat} (ha : zAr M a 14 na) (hb : zAr M b 14 nb) (hs : sp < 2 ^ 31) (hd : dp < 2 ^ 31) (hn : n < 2 ^ 31) (h1 : sp + n ≤ na) (h2 : dp + n ≤ nb) : zo_ci M (some a) (nI sp) (some b) (nI dp) (nI n) = some (zm_ri M b (va_cpy (zm_i M a) (zm_i M b) sp dp n)) := by
  obtain ⟨ha1, rfl⟩ := ha
  obtain ⟨hb1, rfl⟩ := hb
  simp only [zo_ci, nI_clamp hs, nI_clamp hd, nI_clamp hn, if_pos (And.intro (And.intro ha1 hb1) (And.intro (And.intro (nI_pos hs) (And.intro (nI_pos hd) (nI_pos hn))) (And.intro h1 h2)))]
theorem zcj {M : Zm} {a b na nb sp dp n : Nat} (ha : zAr M a 15 na) (hb : zAr M b 15 nb) (hs : sp < 2 ^ 31) (hd : dp < 2 ^ 31) (hn : n < 2 ^ 31) (h1 : sp + n ≤ na) (h2 : dp + n ≤ nb) : zo_cj M (some a) (nI sp) (some b) (nI dp) (nI n) = some (zm_rj M b (va_cpy (zm_j M a) (zm_j M b) sp dp n)) := by
  obtain ⟨ha1, rfl⟩ := ha
  obtain ⟨hb1, rfl⟩ := hb
  simp only [zo_cj, nI_clamp hs, nI_clamp hd, nI_clamp hn, if_pos (And.intro (And.intro ha1 hb1) (And.intro (And.intro (nI_pos hs) (And.intro (nI_pos hd) (nI_pos hn))) (And.intro h1 h2)))]
