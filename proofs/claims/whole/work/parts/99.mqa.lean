/-! The reference's memory as a pure value: fields and rows by field number; a reading over the memory follows the reading over the value. -/
abbrev Mq : Type := (Nat → Nat → Int32) × (Nat → Nat → Int64)
def qi (Q : Mq) (f k : Nat) (v : Int32) : Mq := (fun x j => if x = f ∧ j = k then v else Q.1 x j, Q.2)
def qj (Q : Mq) (f k : Nat) (v : Int64) : Mq := (Q.1, fun x j => if x = f ∧ j = k then v else Q.2 x j)
/-- 0 an int, 1 a long, 2 a row of ints, 3 a row of longs, 4 a growing row of longs; how long -/
def mtab : List (Nat × Nat) := [(0, 0), (0, 0), (2, 1000), (2, 1000), (2, 1000), (2, 1000), (2, 1000), (2, 4000), (2, 1000), (2, 60000), (3, 60000), (2, 20), (2, 20), (2, 1200), (0, 0), (2, 4096), (2, 4096), (3, 20480), (0, 0), (0, 0), (4, 0), (0, 0), (4, 0), (0, 0), (2, 40), (2, 40), (2, 800), (2, 800), (2, 800), (2, 800), (2, 800), (2, 800), (2, 800), (0, 0), (2, 8), (3, 8), (0, 0), (3, 8), (0, 0), (0, 0), (0, 0), (0, 0), (2, 200), (0, 0), (0, 0), (0, 0), (0, 0), (0, 0), (0, 0), (2, 1000), (2, 1000), (2, 1000), (2, 4000), (2, 1000), (2, 60000), (3, 60000), (2, 20), (2, 20), (2, 1200), (3, 20480), (0, 0), (2, 32), (3, 32), (3, 60), (0, 0), (2, 1980), (3, 1980), (1, 0), (3, 48), (0, 0), (3, 3744), (3, 78), (2, 6), (2, 6), (2, 6), (1, 0)]
def mty (f : Nat) : Nat := (mtab.getD f (9, 0)).1
def mln (f : Nat) : Nat := (mtab.getD f (9, 0)).2
def mJr (M : Zm) (g : Zg) (m : Nat) (Q : Mq) (f c o : Nat) : Prop := ∃ a, zm_r M m f = some a ∧ zO M a 15 ∧ zm_l M a = g.2 o ∧ g.1 a = o ∧ 4 * (Q.1 c 0).toNatClampNeg ≤ g.2 o ∧ g.2 o ≤ zcm o ∧ (∃ k, g.2 o = 256 * 2 ^ k) ∧ ∀ k, k < 4 * (Q.1 c 0).toNatClampNeg → zm_j M a k = Q.2 f k
def zMv (M : Zm) (g : Zg) (m : Nat) (ad : Nat → Nat) (Q : Mq) : Prop := zO M m 13 ∧ g.1 m = 1 ∧ (∀ f, mty f = 0 → zm_i M m f = Q.1 f 0) ∧ (∀ f, mty f = 1 → zm_j M m f = Q.2 f 0) ∧ (∀ f, mty f = 2 → zm_r M m f = some (ad f) ∧ zA M (ad f) 14 (mln f) ∧ g.1 (ad f) = 1 ∧ ∀ k, k < mln f → zm_i M (ad f) k = Q.1 f k) ∧ (∀ f, mty f = 3 → zm_r M m f = some (ad f) ∧ zA M (ad f) 15 (mln f) ∧ g.1 (ad f) = 1 ∧ ∀ k, k < mln f → zm_j M (ad f) k = Q.2 f k) ∧ (∀ f f', (mty f = 2 ∨ mty f = 3) → (mty f' = 2 ∨ mty f' = 3) → ad f = ad f' → f = f') ∧ mJr M g m Q 20 19 28 ∧ mJr M g m Q 22 21 29
theorem mJr.fr {M M' : Zm} {g g' : Zg} {m : Nat} {Q : Mq} {f c o : Nat} {T : Nat → Prop} (h : mJr M g m Q f c o) (F : zFo M g M' g' T) (hm : zm_ok M m) (h1 : g.1 m = 1) (n1 : ¬ T 1) (n2 : ¬ T o) : mJr M' g' m Q f c o := by
  obtain ⟨a, e1, e2, e3, e4, e5, e6, e7, e8⟩ := h
  have eg : g'.2 o = g.2 o := F.2.2 o n2
  refine ⟨a, by rw [(F.at hm h1 n1).2.2]; exact e1, F.O e2, ?_, F.own e2.1 e4, by rw [eg]; exact e5, by rw [eg]; exact e6, by rw [eg]; exact e7, fun k hk => ?_⟩
  · rw [eg, ← e3]; exact (F.A (show zA M a 15 (zm_l M a) from ⟨e2, rfl⟩)).2
  · rw [(F.at e2.1 e4 n2).2.1]; exact e8 k hk
theorem zMv.fr {M M' : Zm} {g g' : Zg} {m : Nat} {ad : Nat → Nat} {Q : Mq} {T : Nat → Prop} (h : zMv M g m ad Q) (F : zFo M g M' g' T) (n1 : ¬ T 1) (n2 : ¬ T 28) (n3 : ¬ T 29) : zMv M' g' m ad Q := by
  obtain ⟨h1, h2, h3, h4, h5, h6, h7, h8, h9⟩ := h
  have e := F.at h1.1 h2 n1
  refine ⟨F.O h1, F.own h1.1 h2, fun f hf => by rw [e.1]; exact h3 f hf, fun f hf => by rw [e.2.1]; exact h4 f hf, fun f hf => ?_, fun f hf => ?_, h7, h8.fr F h1.1 h2 n1 n2, h9.fr F h1.1 h2 n1 n3⟩
  · obtain ⟨a1, a2, a3, a4⟩ := h5 f hf
    exact ⟨by rw [e.2.2]; exact a1, F.A a2, F.own a2.1.1 a3, fun k hk => by rw [(F.at a2.1.1 a3 n1).1]; exact a4 k hk⟩
  · obtain ⟨a1, a2, a3, a4⟩ := h6 f hf
    exact ⟨by rw [e.2.2]; exact a1, F.A a2, F.own a2.1.1 a3, fun k hk => by rw [(F.at a2.1.1 a3 n1).2.1]; exact a4 k hk⟩
theorem mJr.same {M M' : Zm} {g : Zg} {m : Nat} {Q Q' : Mq} {f c o : Nat} (h : mJr M g m Q f c o) (hr : zm_r M' m = zm_r M m) (hO : ∀ a, zO M a 15 → zO M' a 15) (hl : zm_l M' = zm_l M) (hj : ∀ a, g.1 a = o → zm_j M' a = zm_j M a) (hc : (Q'.1 c 0).toNatClampNeg ≤ (Q.1 c 0).toNatClampNeg) (hq : ∀ k, Q'.2 f k = Q.2 f k) : mJr M' g m Q' f c o := by
  obtain ⟨a, e1, e2, e3, e4, e5, e6, e7, e8⟩ := h
  exact ⟨a, by rw [hr]; exact e1, hO a e2, by rw [hl]; exact e3, e4, by omega, e6, e7, fun k hk => by rw [hj a e4, hq]; exact e8 k (by omega)⟩
theorem qi_1 {Q : Mq} {f k x j : Nat} {v : Int32} : (qi Q f k v).1 x j = if x = f ∧ j = k then v else Q.1 x j := rfl
theorem qi_2 {Q : Mq} {f k : Nat} {v : Int32} : (qi Q f k v).2 = Q.2 := rfl
theorem qj_1 {Q : Mq} {f k : Nat} {v : Int64} : (qj Q f k v).1 = Q.1 := rfl
theorem qj_2 {Q : Mq} {f k x j : Nat} {v : Int64} : (qj Q f k v).2 x j = if x = f ∧ j = k then v else Q.2 x j := rfl
theorem zMv.si {M : Zm} {g : Zg} {m : Nat} {ad : Nat → Nat} {Q : Mq} {f k : Nat} {v : Int32} (h : zMv M g m ad Q) (hf : mty f = 2) : zMv (zm_pi M (ad f) k v) g m ad (qi Q f k v) := by
  obtain ⟨h1, h2, h3, h4, h5, h6, h7, h8, h9⟩ := h
  have hm : m ≠ ad f := fun e => by have := (h5 f hf).2.1.1.2; rw [← e, h1.2] at this; exact absurd this (by decide)
  have ne : ∀ c, mty c = 0 → ¬ (c = f ∧ (0 : Nat) = k) := fun c hc e => by rw [e.1, hf] at hc; exact absurd hc (by decide)
  refine ⟨h1, h2, fun c hc => ?_, h4, fun c hc => ⟨(h5 c hc).1, (h5 c hc).2.1, (h5 c hc).2.2.1, fun j hj => ?_⟩, h6, h7, ?_, ?_⟩
  · rw [ypi_i, if_neg (fun e => hm e.1), qi_1, if_neg (ne c hc)]; exact h3 c hc
  · rw [ypi_i, qi_1]
    by_cases e : c = f ∧ j = k
    · rw [if_pos ⟨by rw [e.1], e.2⟩, if_pos e]
    · rw [if_neg (fun q => e ⟨h7 c f (Or.inl hc) (Or.inl hf) q.1, q.2⟩), if_neg e]; exact (h5 c hc).2.2.2 j hj
  · exact h8.same rfl (fun _ q => q) rfl (fun _ _ => rfl) (by rw [qi_1, if_neg (ne 19 rfl)]; exact Nat.le_refl _) (fun _ => rfl)
  · exact h9.same rfl (fun _ q => q) rfl (fun _ _ => rfl) (by rw [qi_1, if_neg (ne 21 rfl)]; exact Nat.le_refl _) (fun _ => rfl)
theorem zMv.sj {M : Zm} {g : Zg} {m : Nat} {ad : Nat → Nat} {Q : Mq} {f k : Nat} {v : Int64} (h : zMv M g m ad Q) (hf : mty f = 3) : zMv (zm_pj M (ad f) k v) g m ad (qj Q f k v) := by
  obtain ⟨h1, h2, h3, h4, h5, h6, h7, h8, h9⟩ := h
  have hm : m ≠ ad f := fun e => by have := (h6 f hf).2.1.1.2; rw [← e, h1.2] at this; exact absurd this (by decide)
  have ne : ∀ c, mty c = 1 → ¬ (c = f ∧ (0 : Nat) = k) := fun c hc e => by rw [e.1, hf] at hc; exact absurd hc (by decide)
  have g1 : g.1 (ad f) = 1 := (h6 f hf).2.2.1
  refine ⟨h1, h2, h3, fun c hc => ?_, h5, fun c hc => ⟨(h6 c hc).1, (h6 c hc).2.1, (h6 c hc).2.2.1, fun j hj => ?_⟩, h7, ?_, ?_⟩
  · rw [ypj_j, if_neg (fun e => hm e.1), qj_2, if_neg (ne c hc)]; exact h4 c hc
  · rw [ypj_j, qj_2]
    by_cases e : c = f ∧ j = k
    · rw [if_pos ⟨by rw [e.1], e.2⟩, if_pos e]
    · rw [if_neg (fun q => e ⟨h7 c f (Or.inr hc) (Or.inr hf) q.1, q.2⟩), if_neg e]; exact (h6 c hc).2.2.2 j hj
  · refine h8.same rfl (fun _ q => q) rfl (fun a ha => ?_) (Nat.le_refl _) (fun j => ?_)
    · exact zm_uN (fun e => by rw [e, g1] at ha; exact absurd ha (by decide))
    · rw [qj_2, if_neg (fun e => by rw [← e.1] at hf; exact absurd hf (by decide))]
  · refine h9.same rfl (fun _ q => q) rfl (fun a ha => ?_) (Nat.le_refl _) (fun j => ?_)
    · exact zm_uN (fun e => by rw [e, g1] at ha; exact absurd ha (by decide))
    · rw [qj_2, if_neg (fun e => by rw [← e.1] at hf; exact absurd hf (by decide))]
theorem zMv.ne {M : Zm} {g : Zg} {m : Nat} {ad : Nat → Nat} {Q : Mq} {f : Nat} (h : zMv M g m ad Q) (hf : mty f = 2 ∨ mty f = 3) : ad f ≠ m := by
  obtain ⟨h1, h2, h3, h4, h5, h6, h7, h8, h9⟩ := h
  intro e
  rcases hf with hf | hf
  · have := (h5 f hf).2.1.1.2; rw [e, h1.2] at this; exact absurd this (by decide)
  · have := (h6 f hf).2.1.1.2; rw [e, h1.2] at this; exact absurd this (by decide)
theorem zMv.pi {M : Zm} {g : Zg} {m : Nat} {ad : Nat → Nat} {Q : Mq} {f : Nat} {v : Int32} (h : zMv M g m ad Q) (hf : mty f = 0) (hd : (f = 19 ∨ f = 21) → v.toNatClampNeg ≤ (Q.1 f 0).toNatClampNeg) : zMv (zm_pi M m f v) g m ad (qi Q f 0 v) := by
  have hne := fun c hc => zMv.ne (f := c) h hc
  obtain ⟨h1, h2, h3, h4, h5, h6, h7, h8, h9⟩ := h
  refine ⟨h1, h2, fun c hc => ?_, h4, fun c hc => ⟨(h5 c hc).1, (h5 c hc).2.1, (h5 c hc).2.2.1, fun j hj => ?_⟩, h6, h7, ?_, ?_⟩
  · rw [ypi_i, qi_1]
    by_cases e : c = f
    · rw [if_pos ⟨rfl, e⟩, if_pos ⟨e, rfl⟩]
    · rw [if_neg (fun q => e q.2), if_neg (fun q => e q.1)]; exact h3 c hc
  · rw [ypi_i, if_neg (fun q => hne c (Or.inl hc) q.1), qi_1, if_neg (fun q => by rw [q.1, hf] at hc; exact absurd hc (by decide))]; exact (h5 c hc).2.2.2 j hj
  · refine h8.same rfl (fun _ q => q) rfl (fun _ _ => rfl) ?_ (fun _ => rfl)
    rw [qi_1]
    by_cases e : 19 = f
    · rw [if_pos ⟨e, rfl⟩, e]; exact hd (Or.inl e.symm)
    · rw [if_neg (fun q => e q.1)]; exact Nat.le_refl _
  · refine h9.same rfl (fun _ q => q) rfl (fun _ _ => rfl) ?_ (fun _ => rfl)
    rw [qi_1]
    by_cases e : 21 = f
    · rw [if_pos ⟨e, rfl⟩, e]; exact hd (Or.inr e.symm)
    · rw [if_neg (fun q => e q.1)]; exact Nat.le_refl _
theorem zMv.pj {M : Zm} {g : Zg} {m : Nat} {ad : Nat → Nat} {Q : Mq} {f : Nat} {v : Int64} (h : zMv M g m ad Q) (hf : mty f = 1) : zMv (zm_pj M m f v) g m ad (qj Q f 0 v) := by
  have hne := fun c hc => zMv.ne (f := c) h hc
  obtain ⟨h1, h2, h3, h4, h5, h6, h7, h8, h9⟩ := h
  refine ⟨h1, h2, h3, fun c hc => ?_, h5, fun c hc => ⟨(h6 c hc).1, (h6 c hc).2.1, (h6 c hc).2.2.1, fun j hj => ?_⟩, h7, ?_, ?_⟩
  · rw [ypj_j, qj_2]
    by_cases e : c = f
    · rw [if_pos ⟨rfl, e⟩, if_pos ⟨e, rfl⟩]
    · rw [if_neg (fun q => e q.2), if_neg (fun q => e q.1)]; exact h4 c hc
  · rw [ypj_j, if_neg (fun q => hne c (Or.inr hc) q.1), qj_2, if_neg (fun q => by rw [q.1, hf] at hc; exact absurd hc (by decide))]; exact (h6 c hc).2.2.2 j hj
  · refine h8.same rfl (fun _ q => q) rfl (fun a ha => zm_uN (fun e => by rw [e, h2] at ha; exact absurd ha (by decide))) (Nat.le_refl _) (fun j => ?_)
    rw [qj_2, if_neg (fun e => by rw [← e.1] at hf; exact absurd hf (by decide))]
  · refine h9.same rfl (fun _ q => q) rfl (fun a ha => zm_uN (fun e => by rw [e, h2] at ha; exact absurd ha (by decide))) (Nat.le_refl _) (fun j => ?_)
    rw [qj_2, if_neg (fun e => by rw [← e.1] at hf; exact absurd hf (by decide))]
/-! the relation, in a context: the memory and owners at the start, the object, its rows, the room that is left -/
abbrev Xq : Type := Zm × Zg × Nat × (Nat → Nat) × Nat
def Tm (z : Nat) : Prop := z = 1 ∨ z = 28 ∨ z = 29
def mR (X : Xq) (M : Zm) (Q : Mq) : Prop := ∃ g, zMv M g X.2.2.1 X.2.2.2.1 Q ∧ zFo X.1 X.2.1 M g Tm ∧ zBu M g X.2.2.2.2
def zG {A B : Type} (R : A → B → Prop) (o : Option A) (q : Option B) : Prop := ∀ b, q = some b → ∃ a, o = some a ∧ R a b
def mP (X : Xq) {α : Type} (x : Zm × α) (y : Mq × α) : Prop := mR X x.1 y.1 ∧ x.2 = y.2
def mU {A B C D : Type} (R : A → B → Prop) (S : C → D → Prop) (a : A ⊕ C) (b : B ⊕ D) : Prop := match a, b with
  | .inl x, .inl y => R x y
  | .inr x, .inr y => S x y
  | _, _ => False
def mbd {α β : Type} (o : Option (Mq × α)) (g : Mq → α → Option β) : Option β := match o with
  | none => none
  | some x => g x.1 x.2
def mo_ai (Q : Mq) (f : Nat) (i : Int32) : Option Int32 := if ¬ (i < 0 ∨ mln f ≤ i.toNatClampNeg) then some (Q.1 f i.toNatClampNeg) else none
def mo_aj (Q : Mq) (f : Nat) (i : Int32) : Option Int64 := if ¬ (i < 0 ∨ mln f ≤ i.toNatClampNeg) then some (Q.2 f i.toNatClampNeg) else none
def mo_si (Q : Mq) (f : Nat) (i v : Int32) : Option Mq := if ¬ (i < 0 ∨ mln f ≤ i.toNatClampNeg) then some (qi Q f i.toNatClampNeg v) else none
def mo_sj (Q : Mq) (f : Nat) (i : Int32) (v : Int64) : Option Mq := if ¬ (i < 0 ∨ mln f ≤ i.toNatClampNeg) then some (qj Q f i.toNatClampNeg v) else none
/-- a line is read: behind the last there is none -/
def mo_jr (Q : Mq) (f c : Nat) (i : Int32) : Option Int64 := if ¬ (i < 0 ∨ 4 * (Q.1 c 0).toNatClampNeg ≤ i.toNatClampNeg) then some (Q.2 f i.toNatClampNeg) else none
/-- the number of lines goes down -/
def mo_pd (Q : Mq) (c : Nat) (v : Int32) : Option Mq := if v.toNatClampNeg ≤ (Q.1 c 0).toNatClampNeg then some (qi Q c 0 v) else none
/-- a line more -/
def mo_line (Q : Mq) (f c cap : Nat) (v1 v2 v3 v4 : Int64) : Option (Mq × Unit) := if ¬ Q.1 c 0 < 0 ∧ (Q.1 c 0).toNatClampNeg < cap then some (qi (qj (qj (qj (qj Q f (4 * (Q.1 c 0).toNatClampNeg) v1) f (4 * (Q.1 c 0).toNatClampNeg + 1) v2) f (4 * (Q.1 c 0).toNatClampNeg + 2) v3) f (4 * (Q.1 c 0).toNatClampNeg + 3) v4) c 0 (Q.1 c 0 + 1), ()) else none
theorem zG_some {A B : Type} {R : A → B → Prop} {a : A} {b : B} (h : R a b) : zG R (some a) (some b) := fun b' e => ⟨a, rfl, Option.some.inj e ▸ h⟩
theorem zG_b1 {A B C D : Type} {R : C → D → Prop} {S : A → B → Prop} {o : Option A} {q : Option B} {F : A → Option C} {H : B → Option D} (h : zG S o q) (k : ∀ a b, S a b → zG R (F a) (H b)) : zG R (zb1 o F) (zb1 q H) := by
  intro d e
  obtain ⟨b, e1, e2⟩ := zb1_inv e
  obtain ⟨a, e3, e4⟩ := h b e1
  obtain ⟨c, e5, e6⟩ := k a b e4 d e2
  exact ⟨c, by rw [e3]; exact e5, e6⟩
theorem mbd_inv {α β : Type} {o : Option (Mq × α)} {g : Mq → α → Option β} {z : β} (h : mbd o g = some z) : ∃ M x, o = some (M, x) ∧ g M x = some z := by
  cases o with
  | none => cases h
  | some q => exact ⟨q.1, q.2, rfl, h⟩
theorem zG_bd {X : Xq} {α : Type} {C D : Type} {R : C → D → Prop} {o : Option (Zm × α)} {q : Option (Mq × α)} {F : Zm → α → Option C} {H : Mq → α → Option D} (h : zG (mP X) o q) (k : ∀ M Q v, mR X M Q → zG R (F M v) (H Q v)) : zG R (zbd o F) (mbd q H) := by
  intro d e
  obtain ⟨Q, v, e1, e2⟩ := mbd_inv e
  obtain ⟨⟨M, w⟩, e3, e4, e5⟩ := h (Q, v) e1
  dsimp only at e4 e5
  subst e5
  obtain ⟨c, e6, e7⟩ := k M Q w e4 d e2
  exact ⟨c, by rw [e3]; exact e6, e7⟩
/-- the same on both sides -/
theorem zG_op {α : Type} {C D : Type} {R : C → D → Prop} {o : Option α} {F : α → Option C} {H : α → Option D} (k : ∀ v, zG R (F v) (H v)) : zG R (zb1 o F) (zb1 o H) := by
  cases o with
  | none => intro d e; cases e
  | some v => exact k v
theorem zG_ite {C D : Type} {R : C → D → Prop} {c : Prop} [Decidable c] {a b : Option C} {a' b' : Option D} (h1 : zG R a a') (h2 : zG R b b') : zG R (if c then a else b) (if c then a' else b') := by
  by_cases h : c
  · rw [if_pos h, if_pos h]; exact h1
  · rw [if_neg h, if_neg h]; exact h2
theorem zG_rc {X : Xq} {M : Zm} {Q : Mq} {C D : Type} {R : C → D → Prop} {F : Unit → Option C} {q : Option D} (h : mR X M Q) (k : zG R (F ()) q) : zG R (zb1 (zo_rc M (some X.2.2.1) 13) F) q := by
  obtain ⟨g, h1, -, -⟩ := h
  rw [show zo_rc M (some X.2.2.1) 13 = some () from zrc h1.1]
  exact k
theorem zG_gi {X : Xq} {M : Zm} {Q : Mq} {f : Nat} {C D : Type} {R : C → D → Prop} {F : Int32 → Option C} {q : Option D} (h : mR X M Q) (hf : mty f = 0) (k : zG R (F (Q.1 f 0)) q) : zG R (zb1 (zo_gi M (some X.2.2.1) 13 f) F) q := by
  obtain ⟨g, h1, -, -⟩ := h
  rw [show zo_gi M (some X.2.2.1) 13 f = some (Q.1 f 0) from by rw [zgi h1.1, h1.2.2.1 f hf]]
  exact k
theorem zG_gj {X : Xq} {M : Zm} {Q : Mq} {f : Nat} {C D : Type} {R : C → D → Prop} {F : Int64 → Option C} {q : Option D} (h : mR X M Q) (hf : mty f = 1) (k : zG R (F (Q.2 f 0)) q) : zG R (zb1 (zo_gj M (some X.2.2.1) 13 f) F) q := by
  obtain ⟨g, h1, -, -⟩ := h
  rw [show zo_gj M (some X.2.2.1) 13 f = some (Q.2 f 0) from by rw [zgj h1.1, h1.2.2.2.1 f hf]]
  exact k
theorem zG_gr {X : Xq} {M : Zm} {Q : Mq} {f : Nat} {C D : Type} {R : C → D → Prop} {F : Option Nat → Option C} {q : Option D} (h : mR X M Q) (hf : mty f = 2 ∨ mty f = 3) (k : zG R (F (some (X.2.2.2.1 f))) q) : zG R (zb1 (zo_gr M (some X.2.2.1) 13 f) F) q := by
  obtain ⟨g, h1, -, -⟩ := h
  rw [show zo_gr M (some X.2.2.1) 13 f = some (some (X.2.2.2.1 f)) from by
    rw [zgr h1.1]
    rcases hf with hf | hf
    · rw [(h1.2.2.2.2.1 f hf).1]
    · rw [(h1.2.2.2.2.2.1 f hf).1]]
  exact k
theorem zG_ai {X : Xq} {M : Zm} {Q : Mq} {f : Nat} {i : Int32} {C D : Type} {R : C → D → Prop} {F : Int32 → Option C} {H : Int32 → Option D} (h : mR X M Q) (hf : mty f = 2) (k : ∀ v, zG R (F v) (H v)) : zG R (zb1 (zo_ai M (some (X.2.2.2.1 f)) i) F) (zb1 (mo_ai Q f i) H) := by
  obtain ⟨g, h1, -, -⟩ := h
  obtain ⟨a1, ⟨a2, a2'⟩, a3, a4⟩ := h1.2.2.2.2.1 f hf
  unfold mo_ai zo_ai
  by_cases c : ¬ (i < 0 ∨ mln f ≤ i.toNatClampNeg)
  · rw [if_pos c]
    dsimp only
    rw [if_pos ⟨a2, by rw [a2']; exact c⟩, a4 _ (by omega)]
    exact k _
  · rw [if_neg c]; intro d e; cases e
theorem zG_aj {X : Xq} {M : Zm} {Q : Mq} {f : Nat} {i : Int32} {C D : Type} {R : C → D → Prop} {F : Int64 → Option C} {H : Int64 → Option D} (h : mR X M Q) (hf : mty f = 3) (k : ∀ v, zG R (F v) (H v)) : zG R (zb1 (zo_aj M (some (X.2.2.2.1 f)) i) F) (zb1 (mo_aj Q f i) H) := by
  obtain ⟨g, h1, -, -⟩ := h
  obtain ⟨a1, ⟨a2, a2'⟩, a3, a4⟩ := h1.2.2.2.2.2.1 f hf
  unfold mo_aj zo_aj
  by_cases c : ¬ (i < 0 ∨ mln f ≤ i.toNatClampNeg)
  · rw [if_pos c]
    dsimp only
    rw [if_pos ⟨a2, by rw [a2']; exact c⟩, a4 _ (by omega)]
    exact k _
  · rw [if_neg c]; intro d e; cases e
theorem zG_si {X : Xq} {M : Zm} {Q : Mq} {f : Nat} {i v : Int32} {C D : Type} {R : C → D → Prop} {F : Zm → Option C} {H : Mq → Option D} (h : mR X M Q) (hf : mty f = 2) (k : ∀ M' Q', mR X M' Q' → zG R (F M') (H Q')) : zG R (zb1 (zo_si M (some (X.2.2.2.1 f)) i v) F) (zb1 (mo_si Q f i v) H) := by
  obtain ⟨g, h1, h2, h3⟩ := h
  obtain ⟨a1, ⟨a2, a2'⟩, a3, a4⟩ := h1.2.2.2.2.1 f hf
  unfold mo_si zo_si
  by_cases c : ¬ (i < 0 ∨ mln f ≤ i.toNatClampNeg)
  · rw [if_pos c]
    dsimp only
    rw [if_pos ⟨a2, by rw [a2']; exact c⟩]
    exact k _ _ ⟨g, h1.si hf, h2.tr (zFo.pi (Or.inl a3)), h3.same rfl rfl⟩
  · rw [if_neg c]; intro d e; cases e
theorem zG_sj {X : Xq} {M : Zm} {Q : Mq} {f : Nat} {i : Int32} {v : Int64} {C D : Type} {R : C → D → Prop} {F : Zm → Option C} {H : Mq → Option D} (h : mR X M Q) (hf : mty f = 3) (k : ∀ M' Q', mR X M' Q' → zG R (F M') (H Q')) : zG R (zb1 (zo_sj M (some (X.2.2.2.1 f)) i v) F) (zb1 (mo_sj Q f i v) H) := by
  obtain ⟨g, h1, h2, h3⟩ := h
  obtain ⟨a1, ⟨a2, a2'⟩, a3, a4⟩ := h1.2.2.2.2.2.1 f hf
  unfold mo_sj zo_sj
  by_cases c : ¬ (i < 0 ∨ mln f ≤ i.toNatClampNeg)
  · rw [if_pos c]
    dsimp only
    rw [if_pos ⟨a2, by rw [a2']; exact c⟩]
    exact k _ _ ⟨g, h1.sj hf, h2.tr (zFo.pj (Or.inl a3)), h3.same rfl rfl⟩
  · rw [if_neg c]; intro d e; cases e
theorem zG_pi {X : Xq} {M : Zm} {Q : Mq} {f : Nat} {v : Int32} {C D : Type} {R : C → D → Prop} {F : Zm → Option C} {H : Mq → Option D} (h : mR X M Q) (hf : mty f = 0) (hn : f ≠ 19 ∧ f ≠ 21) (k : ∀ M' Q', mR X M' Q' → zG R (F M') (H Q')) : zG R (zb1 (zo_pi M (some X.2.2.1) 13 f v) F) (zb1 (some (qi Q f 0 v)) H) := by
  obtain ⟨g, h1, h2, h3⟩ := h
  rw [zpi h1.1]
  exact k _ _ ⟨g, h1.pi hf (fun e => absurd e (by omega)), h2.tr (zFo.pi (Or.inl h1.2.1)), h3.same rfl rfl⟩
theorem zG_pz {X : Xq} {M : Zm} {Q : Mq} {f : Nat} {v : Int32} {C D : Type} {R : C → D → Prop} {F : Zm → Option C} {H : Mq → Option D} (h : mR X M Q) (hf : mty f = 0) (hn : f ≠ 19 ∧ f ≠ 21) (hv : v = 0 ∨ v = 1) (k : ∀ M' Q', mR X M' Q' → zG R (F M') (H Q')) : zG R (zb1 (zo_pz M (some X.2.2.1) 13 f v) F) (zb1 (some (qi Q f 0 v)) H) := by
  obtain ⟨g, h1, h2, h3⟩ := h
  rw [zpz h1.1 hv]
  exact k _ _ ⟨g, h1.pi hf (fun e => absurd e (by omega)), h2.tr (zFo.pi (Or.inl h1.2.1)), h3.same rfl rfl⟩
theorem zG_pd {X : Xq} {M : Zm} {Q : Mq} {f : Nat} {v : Int32} {C D : Type} {R : C → D → Prop} {F : Zm → Option C} {H : Mq → Option D} (h : mR X M Q) (hf : mty f = 0) (k : ∀ M' Q', mR X M' Q' → zG R (F M') (H Q')) : zG R (zb1 (zo_pi M (some X.2.2.1) 13 f v) F) (zb1 (mo_pd Q f v) H) := by
  obtain ⟨g, h1, h2, h3⟩ := h
  unfold mo_pd
  by_cases c : v.toNatClampNeg ≤ (Q.1 f 0).toNatClampNeg
  · rw [zpi h1.1, if_pos c]
    exact k _ _ ⟨g, h1.pi hf (fun _ => c), h2.tr (zFo.pi (Or.inl h1.2.1)), h3.same rfl rfl⟩
  · rw [if_neg c]; intro d e; cases e
theorem zG_pj {X : Xq} {M : Zm} {Q : Mq} {f : Nat} {v : Int64} {C D : Type} {R : C → D → Prop} {F : Zm → Option C} {H : Mq → Option D} (h : mR X M Q) (hf : mty f = 1) (k : ∀ M' Q', mR X M' Q' → zG R (F M') (H Q')) : zG R (zb1 (zo_pj M (some X.2.2.1) 13 f v) F) (zb1 (some (qj Q f 0 v)) H) := by
  obtain ⟨g, h1, h2, h3⟩ := h
  rw [zpj h1.1]
  exact k _ _ ⟨g, h1.pj hf, h2.tr (zFo.pj (Or.inl h1.2.1)), h3.same rfl rfl⟩
theorem zG_jr {X : Xq} {M : Zm} {Q : Mq} {f c : Nat} {i : Int32} {C D : Type} {R : C → D → Prop} {F : Int64 → Option C} {H : Int64 → Option D} (h : mR X M Q) (hf : f = 20 ∧ c = 19 ∨ f = 22 ∧ c = 21) (k : ∀ v, zG R (F v) (H v)) : zG R (zb1 (zo_gr M (some X.2.2.1) 13 f) (fun v => zb1 (zo_aj M v i) F)) (zb1 (mo_jr Q f c i) H) := by
  obtain ⟨g, h1, -, -⟩ := h
  have key : ∃ o, mJr M g X.2.2.1 Q f c o := by
    obtain ⟨a1, a2, a3, a4, a5, a6, a7, a8, a9⟩ := h1
    rcases hf with ⟨rfl, rfl⟩ | ⟨rfl, rfl⟩
    · exact ⟨28, a8⟩
    · exact ⟨29, a9⟩
  obtain ⟨o, a, e1, e2, e3, e4, e5, e6, e7, e8⟩ := key
  rw [show zo_gr M (some X.2.2.1) 13 f = some (some a) from by rw [zgr h1.1, e1]]
  show zG R (zb1 (zo_aj M (some a) i) F) _
  unfold mo_jr zo_aj
  by_cases hc : ¬ (i < 0 ∨ 4 * (Q.1 c 0).toNatClampNeg ≤ i.toNatClampNeg)
  · have hlt : i.toNatClampNeg < 4 * (Q.1 c 0).toNatClampNeg := Nat.lt_of_not_le (fun z => hc (Or.inr z))
    rw [if_pos hc]
    dsimp only
    rw [if_pos ⟨e2, by rw [e3]; rintro (z | z); exact hc (Or.inl z); omega⟩, e8 _ hlt]
    exact k _
  · rw [if_neg hc]; intro d e; cases e
theorem zG_wh {A B C D : Type} {R : A → B → Prop} {S : C → D → Prop} {f : A → Option (A ⊕ C)} {h : B → Option (B ⊕ D)} (hs : ∀ x y, R x y → zG (mU R S) (f x) (h y)) {x : A} {y : B} (hxy : R x y) : zG S (zwhile f x) (zwhile h y) := by
  intro d e
  obtain ⟨n, hn⟩ := zwhile_iff.mp e
  clear e
  induction n generalizing x y with
  | zero => cases hn
  | succ n ih =>
    simp only [ziter] at hn
    cases hy : h y with
    | none => rw [hy] at hn; cases hn
    | some z =>
      rw [hy] at hn
      obtain ⟨a, ha, hr⟩ := hs x y hxy z hy
      cases z with
      | inl y' =>
        cases a with
        | inl x' =>
          obtain ⟨c, e1, e2⟩ := ih (show R x' y' from hr) hn
          exact ⟨c, by rw [zwhile_step ha]; exact e1, e2⟩
        | inr x' => exact hr.elim
      | inr y' =>
        cases a with
        | inl x' => exact hr.elim
        | inr x' =>
          cases hn
          exact ⟨x', zwhile_end ha, hr⟩
/-! evaluating the pure side -/
theorem zev_mbd {α β : Type} {o : Option (Mq × α)} {f : Mq → α → Option β} {P : β → Prop} : zev (mbd o f) P ↔ zev o (fun x => zev (f x.1 x.2) P) := by
  cases o with
  | none => simp only [mbd, zev_none]
  | some x => simp only [mbd, zev_some]
theorem mix_iff {i n : Nat} (h : i < 2 ^ 31) : ¬ (nI i < 0 ∨ n ≤ (nI i).toNatClampNeg) ↔ i < n := by
  rw [nI_clamp h]
  constructor
  · intro q; exact Nat.lt_of_not_le (fun z => q (Or.inr z))
  · rintro q (z | z)
    · exact nI_pos h z
    · omega
theorem mev_ai {Q : Mq} {f i : Nat} {P : Int32 → Prop} (h : i < 2 ^ 31) : zev (mo_ai Q f (nI i)) P ↔ (i < mln f ∧ P (Q.1 f i)) := by
  refine zev_if.trans ?_
  rw [mix_iff h, nI_clamp h]
theorem mev_aj {Q : Mq} {f i : Nat} {P : Int64 → Prop} (h : i < 2 ^ 31) : zev (mo_aj Q f (nI i)) P ↔ (i < mln f ∧ P (Q.2 f i)) := by
  refine zev_if.trans ?_
  rw [mix_iff h, nI_clamp h]
theorem mev_si {Q : Mq} {f i : Nat} {v : Int32} {P : Mq → Prop} (h : i < 2 ^ 31) : zev (mo_si Q f (nI i) v) P ↔ (i < mln f ∧ P (qi Q f i v)) := by
  refine zev_if.trans ?_
  rw [mix_iff h, nI_clamp h]
theorem mev_sj {Q : Mq} {f i : Nat} {v : Int64} {P : Mq → Prop} (h : i < 2 ^ 31) : zev (mo_sj Q f (nI i) v) P ↔ (i < mln f ∧ P (qj Q f i v)) := by
  refine zev_if.trans ?_
  rw [mix_iff h, nI_clamp h]
/-- a reading over the value says what the reading over the memory gives -/
theorem zG_ev {X : Xq} {α : Type} {o : Option (Zm × α)} {q : Option (Mq × α)} {P : Mq × α → Prop} (h : zG (mP X) o q) (hq : zev q P) : zev o (fun y => ∃ Q, P (Q, y.2) ∧ mR X y.1 Q) := by
  obtain ⟨⟨Q, v⟩, e1, e2⟩ := hq
  obtain ⟨⟨M, w⟩, e3, e4, e5⟩ := h (Q, v) e1
  dsimp only at e4 e5
  subst e5
  exact ⟨_, e3, Q, e2, e4⟩
