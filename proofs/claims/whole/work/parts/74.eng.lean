/-! A way to evaluate: the reading ends, and what it gives is so. -/
def zev {β : Type} (o : Option β) (Q : β → Prop) : Prop := ∃ y, o = some y ∧ Q y
theorem zev_some {β : Type} {y : β} {Q : β → Prop} : zev (some y) Q ↔ Q y := ⟨fun ⟨_, h, q⟩ => Option.some.inj h ▸ q, fun q => ⟨y, rfl, q⟩⟩
theorem zev_none {β : Type} {Q : β → Prop} : zev (none : Option β) Q ↔ False := ⟨fun ⟨_, h, _⟩ => (by cases h), fun h => h.elim⟩
theorem zev_b1 {α β : Type} {o : Option α} {f : α → Option β} {Q : β → Prop} : zev (zb1 o f) Q ↔ zev o (fun x => zev (f x) Q) := by
  cases o with
  | none => simp only [zb1, zev_none]
  | some x => simp only [zb1, zev_some]
theorem zev_bd {α β : Type} {o : Option (Zm × α)} {f : Zm → α → Option β} {Q : β → Prop} : zev (zbd o f) Q ↔ zev o (fun x => zev (f x.1 x.2) Q) := by
  cases o with
  | none => simp only [zbd, zev_none]
  | some x => simp only [zbd, zev_some]
theorem zev_mono {β : Type} {o : Option β} {P Q : β → Prop} (h : zev o P) (hq : ∀ y, P y → Q y) : zev o Q := by
  obtain ⟨y, h1, h2⟩ := h
  exact ⟨y, h1, hq y h2⟩
theorem zev_eq {β : Type} {o : Option β} {y : β} (h : o = some y) {Q : β → Prop} : zev o Q ↔ Q y := by rw [h]; exact zev_some
theorem zev_ite {β : Type} {c : Prop} [Decidable c] {a b : Option β} {Q : β → Prop} : zev (if c then a else b) Q ↔ ((c → zev a Q) ∧ (¬ c → zev b Q)) := by
  by_cases h : c
  · rw [if_pos h]; exact ⟨fun q => ⟨fun _ => q, fun n => absurd h n⟩, fun q => q.1 h⟩
  · rw [if_neg h]; exact ⟨fun q => ⟨fun n => absurd n h, fun _ => q⟩, fun q => q.2 h⟩
theorem zev_if {β : Type} {c : Prop} [Decidable c] {y : β} {Q : β → Prop} : zev (if c then some y else none) Q ↔ (c ∧ Q y) := by
  by_cases h : c
  · rw [if_pos h, zev_some]; exact ⟨fun q => ⟨h, q⟩, fun q => q.2⟩
  · rw [if_neg h, zev_none]; exact ⟨False.elim, fun q => h q.1⟩
theorem zev_fi {β : Type} {c : Prop} [Decidable c] {y : β} {Q : β → Prop} : zev (if c then none else some y) Q ↔ (¬ c ∧ Q y) := by
  by_cases h : c
  · rw [if_pos h, zev_none]; exact ⟨False.elim, fun q => q.1 h⟩
  · rw [if_neg h, zev_some]; exact ⟨fun q => ⟨h, q⟩, fun q => q.2⟩
def zO (M : Zm) (a c : Nat) : Prop := zm_ok M a ∧ zm_k M a = c
theorem zev_gi {M : Zm} {a c k : Nat} {Q : Int32 → Prop} : zev (zo_gi M (some a) c k) Q ↔ (zO M a c ∧ Q (zm_i M a k)) := zev_if
theorem zev_gj {M : Zm} {a c k : Nat} {Q : Int64 → Prop} : zev (zo_gj M (some a) c k) Q ↔ (zO M a c ∧ Q (zm_j M a k)) := zev_if
theorem zev_gr {M : Zm} {a c k : Nat} {Q : Option Nat → Prop} : zev (zo_gr M (some a) c k) Q ↔ (zO M a c ∧ Q (zm_r M a k)) := zev_if
theorem zev_pi {M : Zm} {a c k : Nat} {v : Int32} {Q : Zm → Prop} : zev (zo_pi M (some a) c k v) Q ↔ (zO M a c ∧ Q (zm_pi M a k v)) := zev_if
theorem zev_pz {M : Zm} {a c k : Nat} {v : Int32} {Q : Zm → Prop} : zev (zo_pz M (some a) c k v) Q ↔ ((zO M a c ∧ (v = 0 ∨ v = 1)) ∧ Q (zm_pi M a k v)) := zev_if
theorem zev_pj {M : Zm} {a c k : Nat} {v : Int64} {Q : Zm → Prop} : zev (zo_pj M (some a) c k v) Q ↔ (zO M a c ∧ Q (zm_pj M a k v)) := zev_if
theorem zev_pr {M : Zm} {a c k : Nat} {v : Option Nat} {Q : Zm → Prop} : zev (zo_pr M (some a) c k v) Q ↔ (zO M a c ∧ Q (zm_pr M a k v)) := zev_if
theorem zev_rc {M : Zm} {a c : Nat} {Q : Unit → Prop} : zev (zo_rc M (some a) c) Q ↔ (zO M a c ∧ Q ()) := zev_if
theorem zev_cc {M : Zm} {a c : Nat} {Q : Unit → Prop} : zev (zo_cc M (some a) c) Q ↔ (zO M a c ∧ Q ()) := zev_if
theorem zev_cn {M : Zm} {c : Nat} {Q : Unit → Prop} : zev (zo_cc M none c) Q ↔ Q () := zev_some
def zA (M : Zm) (a k n : Nat) : Prop := (zm_ok M a ∧ zm_k M a = k) ∧ zm_l M a = n
theorem zev_ai {M : Zm} {a n i : Nat} {Q : Int32 → Prop} (h : zA M a 14 n) (hi : i < n) (hn : n < 2 ^ 31) : zev (zo_ai M (some a) (nI i)) Q ↔ Q (zm_i M a i) := zev_eq (zai h hi hn)
theorem zev_aj {M : Zm} {a n i : Nat} {Q : Int64 → Prop} (h : zA M a 15 n) (hi : i < n) (hn : n < 2 ^ 31) : zev (zo_aj M (some a) (nI i)) Q ↔ Q (zm_j M a i) := zev_eq (zaj h hi hn)
theorem zev_ar {M : Zm} {a n i t : Nat} {Q : Option Nat → Prop} (h : zA M a t n) (hi : i < n) (hn : n < 2 ^ 31) : zev (zo_ar M t (some a) (nI i)) Q ↔ Q (zm_r M a i) := zev_eq (zar h hi hn)
theorem zev_si {M : Zm} {a n i : Nat} {v : Int32} {Q : Zm → Prop} (h : zA M a 14 n) (hi : i < n) (hn : n < 2 ^ 31) : zev (zo_si M (some a) (nI i) v) Q ↔ Q (zm_pi M a i v) := zev_eq (zsi h hi hn)
theorem zev_sj {M : Zm} {a n i : Nat} {v : Int64} {Q : Zm → Prop} (h : zA M a 15 n) (hi : i < n) (hn : n < 2 ^ 31) : zev (zo_sj M (some a) (nI i) v) Q ↔ Q (zm_pj M a i v) := zev_eq (zsj h hi hn)
theorem zev_al {M : Zm} {a k n : Nat} {Q : Int32 → Prop} (h : zA M a k n) (h1 : 14 ≤ k) (h2 : k < 20) : zev (zo_al M (some a)) Q ↔ Q (nI n) := zev_eq (zal h h1 h2)
theorem zev_id {x y : Int32} {Q : Int32 → Prop} : zev (zo_id x y) Q ↔ (y ≠ 0 ∧ Q (x / y)) := zev_fi
theorem zev_im {x y : Int32} {Q : Int32 → Prop} : zev (zo_im x y) Q ↔ (y ≠ 0 ∧ Q (x - x / y * y)) := zev_fi
theorem zev_ld {x y : Int64} {Q : Int64 → Prop} : zev (zo_ld x y) Q ↔ (y ≠ 0 ∧ Q (x / y)) := zev_fi
theorem zev_lm {x y : Int64} {Q : Int64 → Prop} : zev (zo_lm x y) Q ↔ (y ≠ 0 ∧ Q (x - x / y * y)) := zev_fi
theorem zev_b0 {Q : Int32 → Prop} : zev (zo_b 0) Q ↔ Q 0 := zev_some
theorem zev_bo {Q : Int32 → Prop} : zev (zo_b 1) Q ↔ Q 1 := zev_some
theorem zev_n {M : Zm} {c n : Nat} {Q : Zm → Prop} (h1 : zm_c M + 1 ≤ 600000) (h2 : zm_s M + n ≤ 7302250) : zev (zo_n M c n) Q ↔ Q (zm_n M c n) := zev_eq (by simp only [zo_n, if_pos (And.intro h1 h2)])
theorem zev_na {M : Zm} {k n : Nat} {Q : Zm → Prop} (hn : n < 2 ^ 31) (h1 : zm_c M + 1 ≤ 600000) (h2 : zm_s M + n ≤ 7302250) : zev (zo_na M k (nI n)) Q ↔ Q (zm_n M k n) := zev_eq (zna hn h1 h2)
/-! loops -/
theorem zev_up {σ τ : Type} {f : σ → Option (σ ⊕ τ)} {Q : τ → Prop} (I : Nat → σ → Prop) (n : Nat) {i : Nat} {x : σ} (hi : i ≤ n) (h : I i x) (hs : ∀ i x, i < n → I i x → zev (f x) (fun r => ∃ x', r = .inl x' ∧ I (i + 1) x')) (he : ∀ x, I n x → zev (f x) (fun r => ∃ y, r = .inr y ∧ Q y)) : zev (zwhile f x) Q :=
  zwhile_up (τ := τ) I n Q (fun i x hi h => by obtain ⟨y, h1, x', rfl, h2⟩ := hs i x hi h; exact ⟨x', h1, h2⟩) (fun x h => by obtain ⟨y, h1, x', rfl, h2⟩ := he x h; exact ⟨x', h1, h2⟩) hi h
/-- a loop that may end early -/
theorem zev_lp {σ τ : Type} {f : σ → Option (σ ⊕ τ)} {Q : τ → Prop} (I : Nat → σ → Prop) {n : Nat} {x : σ} (h : I n x) (hs : ∀ n x, I n x → zev (f x) (fun r => (∃ x' k, r = .inl x' ∧ I k x' ∧ k < n) ∨ (∃ y, r = .inr y ∧ Q y))) : zev (zwhile f x) Q := by
  induction n using Nat.strongRecOn generalizing x with
  | _ n ih =>
    obtain ⟨y, h1, h2⟩ := hs n x h
    rcases h2 with ⟨x', k, rfl, h3, h4⟩ | ⟨y', rfl, h3⟩
    · obtain ⟨z, h5, h6⟩ := ih k h4 h3
      exact ⟨z, by rw [zwhile_step h1]; exact h5, h6⟩
    · exact ⟨y', zwhile_end h1, h3⟩
/-! what a written memory reads as, in full -/
theorem ypi_i {M : Zm} {a k x j : Nat} {v : Int32} : zm_i (zm_pi M a k v) x j = if x = a ∧ j = k then v else zm_i M x j := by
  by_cases hx : x = a
  · subst hx
    by_cases hj : j = k
    · subst hj; simp [zpi_i, zm_u, va_up]
    · simp [zpi_i, zm_u, va_up, hj]
  · simp [zpi_i, zm_u, hx]
theorem ypj_j {M : Zm} {a k x j : Nat} {v : Int64} : zm_j (zm_pj M a k v) x j = if x = a ∧ j = k then v else zm_j M x j := by
  by_cases hx : x = a
  · subst hx
    by_cases hj : j = k
    · subst hj; simp [zpj_j, zm_u, va_up]
    · simp [zpj_j, zm_u, va_up, hj]
  · simp [zpj_j, zm_u, hx]
theorem ypr_r {M : Zm} {a k x j : Nat} {v : Option Nat} : zm_r (zm_pr M a k v) x j = if x = a ∧ j = k then v else zm_r M x j := by
  by_cases hx : x = a
  · subst hx
    by_cases hj : j = k
    · subst hj; simp [zpr_r, zm_u, va_up]
    · simp [zpr_r, zm_u, va_up, hj]
  · simp [zpr_r, zm_u, hx]
theorem ypi_O {M : Zm} {a k x c : Nat} {v : Int32} : zO (zm_pi M a k v) x c = zO M x c := rfl
theorem ypj_O {M : Zm} {a k x c : Nat} {v : Int64} : zO (zm_pj M a k v) x c = zO M x c := rfl
theorem ypr_O {M : Zm} {a k x c : Nat} {v : Option Nat} : zO (zm_pr M a k v) x c = zO M x c := rfl
theorem ypi_A {M : Zm} {a k x c n : Nat} {v : Int32} : zA (zm_pi M a k v) x c n = zA M x c n := rfl
theorem ypj_A {M : Zm} {a k x c n : Nat} {v : Int64} : zA (zm_pj M a k v) x c n = zA M x c n := rfl
theorem ypr_A {M : Zm} {a k x c n : Nat} {v : Option Nat} : zA (zm_pr M a k v) x c n = zA M x c n := rfl
theorem zpi_s {M : Zm} {a k : Nat} {v : Int32} : zm_s (zm_pi M a k v) = zm_s M := rfl
theorem zpj_s {M : Zm} {a k : Nat} {v : Int64} : zm_s (zm_pj M a k v) = zm_s M := rfl
theorem zpr_s {M : Zm} {a k : Nat} {v : Option Nat} : zm_s (zm_pr M a k v) = zm_s M := rfl
theorem yn_b {M : Zm} {k n : Nat} : zm_b (zm_n M k n) = zm_b M := rfl
theorem yn_c {M : Zm} {k n : Nat} : zm_c (zm_n M k n) = zm_c M + 1 := rfl
theorem yn_s {M : Zm} {k n : Nat} : zm_s (zm_n M k n) = zm_s M + n := rfl
theorem yn_i {M : Zm} {k n x j : Nat} : zm_i (zm_n M k n) x j = if x = zm_b M + zm_c M then 0 else zm_i M x j := by
  show zm_z _ _ _ _ _ = _
  by_cases h : x = zm_b M + zm_c M
  · simp [zm_z, h]
  · simp [zm_z, h]
theorem yn_j {M : Zm} {k n x j : Nat} : zm_j (zm_n M k n) x j = if x = zm_b M + zm_c M then 0 else zm_j M x j := by
  show zm_z _ _ _ _ _ = _
  by_cases h : x = zm_b M + zm_c M
  · simp [zm_z, h]
  · simp [zm_z, h]
theorem yn_r {M : Zm} {k n x j : Nat} : zm_r (zm_n M k n) x j = if x = zm_b M + zm_c M then none else zm_r M x j := by
  show zm_z _ _ _ _ _ = _
  by_cases h : x = zm_b M + zm_c M
  · simp [zm_z, h]
  · simp [zm_z, h]
/-! Owners: a ghost that says of each cell whose it is, and how many places a growing thing has. -/
abbrev Zg : Type := (Nat → Nat) × (Nat → Nat)
def zFo (M : Zm) (g : Zg) (M' : Zm) (g' : Zg) (T : Nat → Prop) : Prop := zFr M M' (fun a => T (g.1 a)) ∧ (∀ a, zm_ok M a → g'.1 a = g.1 a) ∧ (∀ o, ¬ T o → g'.2 o = g.2 o)
theorem zFo.rf {M : Zm} {g : Zg} {T : Nat → Prop} : zFo M g M g T := ⟨zFr.rf, fun _ _ => rfl, fun _ _ => rfl⟩
theorem zFo.tr {M M1 M2 : Zm} {g g1 g2 : Zg} {T : Nat → Prop} (h1 : zFo M g M1 g1 T) (h2 : zFo M1 g1 M2 g2 T) : zFo M g M2 g2 T := by
  refine ⟨h1.1.tr2 h2.1 (fun a ha h => ?_), fun a ha => (h2.2.1 a (h1.1.ok ha)).trans (h1.2.1 a ha), fun o ho => (h2.2.2 o ho).trans (h1.2.2 o ho)⟩
  rw [h1.2.1 a ha] at h
  exact h
theorem zFo.mono {M M' : Zm} {g g' : Zg} {T T' : Nat → Prop} (h : zFo M g M' g' T) (ht : ∀ o, T o → T' o) : zFo M g M' g' T' := ⟨h.1.mono (fun _ _ q => ht _ q), h.2.1, fun o ho => h.2.2 o (fun q => ho (ht o q))⟩
theorem zFo.tr3 {M M1 M2 : Zm} {g g1 g2 : Zg} {T T1 T2 : Nat → Prop} (h1 : zFo M g M1 g1 T1) (h2 : zFo M1 g1 M2 g2 T2) (t1 : ∀ o, T1 o → T o) (t2 : ∀ o, T2 o → T o) : zFo M g M2 g2 T := (h1.mono t1).tr (h2.mono t2)
/-- what lies where nothing was written -/
theorem zFo.at {M M' : Zm} {g g' : Zg} {T : Nat → Prop} (h : zFo M g M' g' T) {a o : Nat} (ha : zm_ok M a) (ho : g.1 a = o) (hn : ¬ T o) : zm_i M' a = zm_i M a ∧ zm_j M' a = zm_j M a ∧ zm_r M' a = zm_r M a := h.1.2.2.2.2.2 a ha (fun q => hn (ho ▸ q))
theorem zFo.O {M M' : Zm} {g g' : Zg} {T : Nat → Prop} (h : zFo M g M' g' T) {a c : Nat} (ha : zO M a c) : zO M' a c := h.1.ob ha
theorem zFo.A {M M' : Zm} {g g' : Zg} {T : Nat → Prop} (h : zFo M g M' g' T) {a c n : Nat} (ha : zA M a c n) : zA M' a c n := h.1.ar ha
theorem zFo.own {M M' : Zm} {g g' : Zg} {T : Nat → Prop} (h : zFo M g M' g' T) {a o : Nat} (ha : zm_ok M a) (ho : g.1 a = o) : g'.1 a = o := (h.2.1 a ha).trans ho
theorem zFo.pi {M : Zm} {g : Zg} {T : Nat → Prop} {a k : Nat} {v : Int32} (h : T (g.1 a)) : zFo M g (zm_pi M a k v) g T := ⟨zFr.pi h, fun _ _ => rfl, fun _ _ => rfl⟩
theorem zFo.pj {M : Zm} {g : Zg} {T : Nat → Prop} {a k : Nat} {v : Int64} (h : T (g.1 a)) : zFo M g (zm_pj M a k v) g T := ⟨zFr.pj h, fun _ _ => rfl, fun _ _ => rfl⟩
theorem zFo.pr {M : Zm} {g : Zg} {T : Nat → Prop} {a k : Nat} {v : Option Nat} (h : T (g.1 a)) : zFo M g (zm_pr M a k v) g T := ⟨zFr.pr h, fun _ _ => rfl, fun _ _ => rfl⟩
/-! The room: what may still grow is paid ahead. -/
def zcm (o : Nat) : Nat := if o = 6 ∨ o = 28 then 16384 else if o < 30 then 4096 else if o < 100 then 0 else if o % 3 = 1 then 0 else 64
def zcd (f : Nat → Nat) : Nat → Nat
  | 0 => 0
  | n + 1 => zcd f n + (zcm n - f n)
def zBu (M : Zm) (g : Zg) (k : Nat) : Prop := zm_s M + 4 * zcd g.2 3100 + k ≤ 7302250 ∧ zm_c M + zcd g.2 3100 + k ≤ 600000
theorem zcd_up {f f' : Nat → Nat} {o : Nat} (h : ∀ x, x ≠ o → f' x = f x) (h1 : f o ≤ f' o) (h2 : f' o ≤ zcm o) : ∀ n, o < n → zcd f' n + (f' o - f o) = zcd f n
  | 0, hn => by omega
  | n + 1, hn => by
    simp only [zcd]
    by_cases ho : o = n
    · subst ho
      have : ∀ m, m ≤ o → zcd f' m = zcd f m := by
        intro m
        induction m with
        | zero => intro _; rfl
        | succ m ih => intro hm; simp only [zcd]; rw [ih (by omega), h m (by omega)]
      rw [this o (Nat.le_refl _)]
      omega
    · have := zcd_up h h1 h2 n (by omega)
      rw [h n (fun e => ho e.symm)]
      omega
theorem zcd_any {f f' : Nat → Nat} {o : Nat} (h : ∀ x, x ≠ o → f' x = f x) : ∀ n, zcd f' n ≤ zcd f n + zcm o
  | 0 => by simp [zcd]
  | n + 1 => by
    simp only [zcd]
    by_cases ho : n = o
    · subst ho
      have : ∀ m, m ≤ n → zcd f' m = zcd f m := by
        intro m
        induction m with
        | zero => intro _; rfl
        | succ m ih => intro hm; simp only [zcd]; rw [ih (by omega), h m (by omega)]
      rw [this n (Nat.le_refl _)]
      omega
    · have := zcd_any h n
      rw [h n ho]
      omega
theorem zBu.mono {M : Zm} {g : Zg} {k k' : Nat} (h : zBu M g k) (hk : k' ≤ k) : zBu M g k' := ⟨by have := h.1; omega, by have := h.2; omega⟩
theorem zBu.same {M M' : Zm} {g : Zg} {k : Nat} (h : zBu M g k) (h1 : zm_s M' = zm_s M) (h2 : zm_c M' = zm_c M) : zBu M' g k := by unfold zBu at *; rw [h1, h2]; exact h
theorem zev_ai2 {M : Zm} {a i : Nat} {Q : Int32 → Prop} (h : i < 2 ^ 31) : zev (zo_ai M (some a) (nI i)) Q ↔ ((zO M a 14 ∧ i < zm_l M a) ∧ Q (zm_i M a i)) := by
  refine zev_if.trans ?_
  rw [nI_clamp h]
  refine and_congr (and_congr Iff.rfl ⟨fun q => ?_, fun q => ?_⟩) Iff.rfl
  · exact Nat.lt_of_not_le (fun z => q (Or.inr z))
  · rintro (z | z)
    · exact nI_pos h z
    · omega
theorem zev_aj2 {M : Zm} {a i : Nat} {Q : Int64 → Prop} (h : i < 2 ^ 31) : zev (zo_aj M (some a) (nI i)) Q ↔ ((zO M a 15 ∧ i < zm_l M a) ∧ Q (zm_j M a i)) := by
  refine zev_if.trans ?_
  rw [nI_clamp h]
  refine and_congr (and_congr Iff.rfl ⟨fun q => ?_, fun q => ?_⟩) Iff.rfl
  · exact Nat.lt_of_not_le (fun z => q (Or.inr z))
  · rintro (z | z)
    · exact nI_pos h z
    · omega
theorem zev_ar2 {M : Zm} {a i t : Nat} {Q : Option Nat → Prop} (h : i < 2 ^ 31) : zev (zo_ar M t (some a) (nI i)) Q ↔ ((zO M a t ∧ i < zm_l M a) ∧ Q (zm_r M a i)) := by
  refine zev_if.trans ?_
  rw [nI_clamp h]
  refine and_congr (and_congr Iff.rfl ⟨fun q => ?_, fun q => ?_⟩) Iff.rfl
  · exact Nat.lt_of_not_le (fun z => q (Or.inr z))
  · rintro (z | z)
    · exact nI_pos h z
    · omega
theorem zev_si2 {M : Zm} {a i : Nat} {v : Int32} {Q : Zm → Prop} (h : i < 2 ^ 31) : zev (zo_si M (some a) (nI i) v) Q ↔ ((zO M a 14 ∧ i < zm_l M a) ∧ Q (zm_pi M a i v)) := by
  refine zev_if.trans ?_
  rw [nI_clamp h]
  refine and_congr (and_congr Iff.rfl ⟨fun q => ?_, fun q => ?_⟩) Iff.rfl
  · exact Nat.lt_of_not_le (fun z => q (Or.inr z))
  · rintro (z | z)
    · exact nI_pos h z
    · omega
theorem zev_sj2 {M : Zm} {a i : Nat} {v : Int64} {Q : Zm → Prop} (h : i < 2 ^ 31) : zev (zo_sj M (some a) (nI i) v) Q ↔ ((zO M a 15 ∧ i < zm_l M a) ∧ Q (zm_pj M a i v)) := by
  refine zev_if.trans ?_
  rw [nI_clamp h]
  refine and_congr (and_congr Iff.rfl ⟨fun q => ?_, fun q => ?_⟩) Iff.rfl
  · exact Nat.lt_of_not_le (fun z => q (Or.inr z))
  · rintro (z | z)
    · exact nI_pos h z
    · omega
theorem zev_al2 {M : Zm} {a k : Nat} {Q : Int32 → Prop} (h : zO M a k) (h1 : 14 ≤ k) (h2 : k < 20) : zev (zo_al M (some a)) Q ↔ Q (nI (zm_l M a)) := zev_eq (zal (n := zm_l M a) ⟨h, rfl⟩ h1 h2)
