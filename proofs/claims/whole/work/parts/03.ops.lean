/-! What the machine does, as functions of the memory: none where it would throw. -/
def zo_gi (M : Zm) (r : Option Nat) (c k : Nat) : Option Int32 := match r with
  | none => none
  | some a => if zm_ok M a ∧ zm_k M a = c then some (zm_i M a k) else none
def zo_gj (M : Zm) (r : Option Nat) (c k : Nat) : Option Int64 := match r with
  | none => none
  | some a => if zm_ok M a ∧ zm_k M a = c then some (zm_j M a k) else none
def zo_gr (M : Zm) (r : Option Nat) (c k : Nat) : Option (Option Nat) := match r with
  | none => none
  | some a => if zm_ok M a ∧ zm_k M a = c then some (zm_r M a k) else none
def zo_pi (M : Zm) (r : Option Nat) (c k : Nat) (v : Int32) : Option Zm := match r with
  | none => none
  | some a => if zm_ok M a ∧ zm_k M a = c then some (zm_pi M a k v) else none
def zo_pz (M : Zm) (r : Option Nat) (c k : Nat) (v : Int32) : Option Zm := match r with
  | none => none
  | some a => if (zm_ok M a ∧ zm_k M a = c) ∧ (v = 0 ∨ v = 1) then some (zm_pi M a k v) else none
def zo_pj (M : Zm) (r : Option Nat) (c k : Nat) (v : Int64) : Option Zm := match r with
  | none => none
  | some a => if zm_ok M a ∧ zm_k M a = c then some (zm_pj M a k v) else none
def zo_pr (M : Zm) (r : Option Nat) (c k : Nat) (v : Option Nat) : Option Zm := match r with
  | none => none
  | some a => if zm_ok M a ∧ zm_k M a = c then some (zm_pr M a k v) else none
def zo_ai (M : Zm) (r : Option Nat) (i : Int32) : Option Int32 := match r with
  | none => none
  | some a => if (zm_ok M a ∧ zm_k M a = 14) ∧ ¬ (i < 0 ∨ zm_l M a ≤ i.toNatClampNeg) then some (zm_i M a i.toNatClampNeg) else none
def zo_aj (M : Zm) (r : Option Nat) (i : Int32) : Option Int64 := match r with
  | none => none
  | some a => if (zm_ok M a ∧ zm_k M a = 15) ∧ ¬ (i < 0 ∨ zm_l M a ≤ i.toNatClampNeg) then some (zm_j M a i.toNatClampNeg) else none
def zo_ar (M : Zm) (t : Nat) (r : Option Nat) (i : Int32) : Option (Option Nat) := match r with
  | none => none
  | some a => if (zm_ok M a ∧ zm_k M a = t) ∧ ¬ (i < 0 ∨ zm_l M a ≤ i.toNatClampNeg) then some (zm_r M a i.toNatClampNeg) else none
def zo_si (M : Zm) (r : Option Nat) (i v : Int32) : Option Zm := match r with
  | none => none
  | some a => if (zm_ok M a ∧ zm_k M a = 14) ∧ ¬ (i < 0 ∨ zm_l M a ≤ i.toNatClampNeg) then some (zm_pi M a i.toNatClampNeg v) else none
def zo_sj (M : Zm) (r : Option Nat) (i : Int32) (v : Int64) : Option Zm := match r with
  | none => none
  | some a => if (zm_ok M a ∧ zm_k M a = 15) ∧ ¬ (i < 0 ∨ zm_l M a ≤ i.toNatClampNeg) then some (zm_pj M a i.toNatClampNeg v) else none
/-- a reference into a row of kind t: nothing, or an object of class ck (14: of any class) -/
def zo_sr (M : Zm) (t ck : Nat) (r : Option Nat) (i : Int32) (v : Option Nat) : Option Zm := match r with
  | none => none
  | some a => if ((zm_ok M a ∧ zm_k M a = t) ∧ ¬ (i < 0 ∨ zm_l M a ≤ i.toNatClampNeg)) ∧ (∀ x ∈ v, zm_ok M x ∧ (ck ≠ 14 ∧ zm_k M x = ck ∨ ck = 14 ∧ (zm_k M x = 1 ∨ zm_k M x = 4))) then some (zm_pr M a i.toNatClampNeg v) else none
def zo_al (M : Zm) (r : Option Nat) : Option Int32 := match r with
  | none => none
  | some a => if zm_ok M a ∧ (14 ≤ zm_k M a ∧ zm_k M a < 20) then some (Int32.ofNat (zm_l M a)) else if a = zm_e M then some 0 else none
def zo_n (M : Zm) (c n : Nat) : Option Zm := if zm_c M + 1 ≤ 600000 ∧ zm_s M + n ≤ 7302250 then some (zm_n M c n) else none
def zo_na (M : Zm) (k : Nat) (n : Int32) : Option Zm := if ¬ n < 0 ∧ (zm_c M + 1 ≤ 600000 ∧ zm_s M + n.toNatClampNeg ≤ 7302250) then some (zm_n M k n.toNatClampNeg) else none
/-- the address of the next new cell -/
def zm_nx (M : Zm) : Option Nat := some (zm_b M + zm_c M)
def zo_cc (M : Zm) (r : Option Nat) (c : Nat) : Option Unit := match r with
  | none => some ()
  | some a => if zm_ok M a ∧ zm_k M a = c then some () else none
def zo_rc (M : Zm) (r : Option Nat) (c : Nat) : Option Unit := match r with
  | none => none
  | some a => if zm_ok M a ∧ zm_k M a = c then some () else none
def zo_b (v : Int32) : Option Int32 := if v = 0 ∨ v = 1 then some v else none
def zo_id (x y : Int32) : Option Int32 := if y = 0 then none else some (x / y)
def zo_im (x y : Int32) : Option Int32 := if y = 0 then none else some (x - x / y * y)
def zo_ld (x y : Int64) : Option Int64 := if y = 0 then none else some (x / y)
def zo_lm (x y : Int64) : Option Int64 := if y = 0 then none else some (x - x / y * y)
def zo_ci (M : Zm) (r : Option Nat) (sp : Int32) (q : Option Nat) (dp n : Int32) : Option Zm := match r, q with
  | some a, some b => if ((zm_ok M a ∧ zm_k M a = 14) ∧ (zm_ok M b ∧ zm_k M b = 14)) ∧ ((¬ sp < 0 ∧ ¬ dp < 0 ∧ ¬ n < 0) ∧ (sp.toNatClampNeg + n.toNatClampNeg ≤ zm_l M a ∧ dp.toNatClampNeg + n.toNatClampNeg ≤ zm_l M b)) then some (zm_ri M b (va_cpy (zm_i M a) (zm_i M b) sp.toNatClampNeg dp.toNatClampNeg n.toNatClampNeg)) else none
  | _, _ => none
def zo_cj (M : Zm) (r : Option Nat) (sp : Int32) (q : Option Nat) (dp n : Int32) : Option Zm := match r, q with
  | some a, some b => if ((zm_ok M a ∧ zm_k M a = 15) ∧ (zm_ok M b ∧ zm_k M b = 15)) ∧ ((¬ sp < 0 ∧ ¬ dp < 0 ∧ ¬ n < 0) ∧ (sp.toNatClampNeg + n.toNatClampNeg ≤ zm_l M a ∧ dp.toNatClampNeg + n.toNatClampNeg ≤ zm_l M b)) then some (zm_rj M b (va_cpy (zm_j M a) (zm_j M b) sp.toNatClampNeg dp.toNatClampNeg n.toNatClampNeg)) else none
  | _, _ => none
def zo_cr (M : Zm) (r : Option Nat) (sp : Int32) (q : Option Nat) (dp n : Int32) : Option Zm := match r, q with
  | some a, some b => if (((zm_ok M a ∧ zm_k M a = 19) ∧ (zm_ok M b ∧ zm_k M b = 19)) ∧ ((¬ sp < 0 ∧ ¬ dp < 0 ∧ ¬ n < 0) ∧ (sp.toNatClampNeg + n.toNatClampNeg ≤ zm_l M a ∧ dp.toNatClampNeg + n.toNatClampNeg ≤ zm_l M b))) ∧ (∀ i, i < n.toNatClampNeg → ∀ x ∈ zm_r M a (sp.toNatClampNeg + i), zm_ok M x ∧ (zm_k M x = 1 ∨ zm_k M x = 4)) then some (zm_rr M b (va_cpy (zm_r M a) (zm_r M b) sp.toNatClampNeg dp.toNatClampNeg n.toNatClampNeg)) else none
  | _, _ => none
/-- a memory and an answer, then more -/
def zbd {α β : Type} (o : Option (Zm × α)) (g : Zm → α → Option β) : Option β := match o with
  | none => none
  | some x => g x.1 x.2
def zb1 {α β : Type} (o : Option α) (g : α → Option β) : Option β := match o with
  | none => none
  | some x => g x
theorem zbd_inv {α β : Type} {o : Option (Zm × α)} {g : Zm → α → Option β} {z : β} (h : zbd o g = some z) : ∃ M x, o = some (M, x) ∧ g M x = some z := by
  cases o with
  | none => cases h
  | some q => exact ⟨q.1, q.2, rfl, h⟩
theorem zb1_inv {α β : Type} {o : Option α} {g : α → Option β} {z : β} (h : zb1 o g = some z) : ∃ x, o = some x ∧ g x = some z := by
  cases o with
  | none => cases h
  | some q => exact ⟨q, rfl, h⟩
theorem zbd_some {α β : Type} {M : Zm} {x : α} {g : Zm → α → Option β} : zbd (some (M, x)) g = g M x := rfl
theorem zb1_some {α β : Type} {x : α} {g : α → Option β} : zb1 (some x) g = g x := rfl
/-! loops -/
def ziter {σ τ : Type} (f : σ → Option (σ ⊕ τ)) : Nat → σ → Option τ
  | 0, _ => none
  | n + 1, x => match f x with
    | none => none
    | some (.inl x') => ziter f n x'
    | some (.inr y) => some y
theorem ziter_mono {σ τ : Type} {f : σ → Option (σ ⊕ τ)} {y : τ} : ∀ (n k : Nat) (x : σ), ziter f n x = some y → ziter f (n + k) x = some y
  | 0, _, _, h => by cases h
  | n + 1, k, x, h => by
    rw [Nat.add_right_comm]
    simp only [ziter] at h ⊢
    cases hf : f x with
    | none => rw [hf] at h; cases h
    | some z =>
      rw [hf] at h
      cases z with
      | inl x' => exact ziter_mono n k x' h
      | inr y' => exact h
theorem ziter_det {σ τ : Type} {f : σ → Option (σ ⊕ τ)} {y y' : τ} {n k : Nat} {x : σ} (h : ziter f n x = some y) (h' : ziter f k x = some y') : y = y' := by
  have a := ziter_mono n k x h
  have b := ziter_mono k n x h'
  rw [Nat.add_comm] at b
  exact Option.some.inj (a.symm.trans b)
noncomputable def zwhile {σ τ : Type} (f : σ → Option (σ ⊕ τ)) (x : σ) : Option τ :=
  @dite _ (∃ n y, ziter f n x = some y) (Classical.propDecidable _) (fun h => some (Classical.choose (Classical.choose_spec h))) (fun _ => none)
theorem zwhile_iff {σ τ : Type} {f : σ → Option (σ ⊕ τ)} {x : σ} {y : τ} : zwhile f x = some y ↔ ∃ n, ziter f n x = some y := by
  unfold zwhile
  by_cases h : ∃ n y, ziter f n x = some y
  · rw [dif_pos h]
    have hs := Classical.choose_spec (Classical.choose_spec h)
    constructor
    · intro e
      exact ⟨_, by rw [← Option.some.inj e]; exact hs⟩
    · rintro ⟨n, hn⟩
      rw [ziter_det hs hn]
  · rw [dif_neg h]
    constructor
    · intro e; cases e
    · rintro ⟨n, hn⟩; exact absurd ⟨n, y, hn⟩ h
theorem zwhile_step {σ τ : Type} {f : σ → Option (σ ⊕ τ)} {x x' : σ} (h : f x = some (.inl x')) : zwhile f x = zwhile f x' := by
  cases hz : zwhile f x' with
  | some y =>
    obtain ⟨n, hn⟩ := zwhile_iff.mp hz
    exact zwhile_iff.mpr ⟨n + 1, by simp only [ziter, h]; exact hn⟩
  | none =>
    cases hy : zwhile f x with
    | none => rfl
    | some y =>
      obtain ⟨n, hn⟩ := zwhile_iff.mp hy
      cases n with
      | zero => cases hn
      | succ n =>
        simp only [ziter, h] at hn
        rw [zwhile_iff.mpr ⟨n, hn⟩] at hz
        cases hz
theorem zwhile_end {σ τ : Type} {f : σ → Option (σ ⊕ τ)} {x : σ} {y : τ} (h : f x = some (.inr y)) : zwhile f x = some y := zwhile_iff.mpr ⟨1, by simp only [ziter, h]⟩
/-- what holds behind a loop, walked from its end to its head -/
theorem zwhile_ind {σ τ : Type} {f : σ → Option (σ ⊕ τ)} {P : σ → Prop} {K : τ → Prop} (hs : ∀ x z, f x = some z → (∀ x', z = .inl x' → P x') → (∀ y, z = .inr y → K y) → P x) {x : σ} {y : τ} (h : zwhile f x = some y) (hy : K y) : P x := by
  obtain ⟨n, hn⟩ := zwhile_iff.mp h
  clear h
  induction n generalizing x with
  | zero => cases hn
  | succ n ih =>
    simp only [ziter] at hn
    cases hf : f x with
    | none => rw [hf] at hn; cases hn
    | some z =>
      rw [hf] at hn
      refine hs x z hf (fun x' e => ?_) (fun y' e => ?_)
      · subst e; exact ih hn
      · subst e; cases hn; exact hy
