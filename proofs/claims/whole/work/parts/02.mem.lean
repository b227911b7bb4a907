/-! The memory as a value: e, h (the shared empty list row, the class of rows of references), b (where our cells begin), c (how many cells), s (how many slots), kinds, lengths, ints, longs, references. Kinds 0 .. 13: objects of vwCl; 14 int[], 15 long[], 16 Barrel[], 17 Row[], 18 Wine[], 19 Object[]. -/
abbrev Zm : Type := (Nat × Nat) × Nat × Nat × Nat × (Nat → Nat) × (Nat → Nat) × (Nat → Nat → Int32) × (Nat → Nat → Int64) × (Nat → Nat → Option Nat)
def zm_e (M : Zm) : Nat := M.1.1
/-- the object that is the class of rows of references -/
def zm_h (M : Zm) : Nat := M.1.2
def zm_b (M : Zm) : Nat := M.2.1
def zm_c (M : Zm) : Nat := M.2.2.1
def zm_s (M : Zm) : Nat := M.2.2.2.1
def zm_k (M : Zm) : Nat → Nat := M.2.2.2.2.1
def zm_l (M : Zm) : Nat → Nat := M.2.2.2.2.2.1
def zm_i (M : Zm) : Nat → Nat → Int32 := M.2.2.2.2.2.2.1
def zm_j (M : Zm) : Nat → Nat → Int64 := M.2.2.2.2.2.2.2.1
def zm_r (M : Zm) : Nat → Nat → Option Nat := M.2.2.2.2.2.2.2.2
/-- one place of a two-way table -/
def zm_u {α : Type} (f : Nat → Nat → α) (a k : Nat) (v : α) : Nat → Nat → α := fun x => if x = a then va_up (f a) k v else f x
/-- one whole row of it -/
def zm_z {α : Type} (f : Nat → Nat → α) (a : Nat) (g : Nat → α) : Nat → Nat → α := fun x => if x = a then g else f x
def zm_pi (M : Zm) (a k : Nat) (v : Int32) : Zm := (M.1, zm_b M, zm_c M, zm_s M, zm_k M, zm_l M, zm_u (zm_i M) a k v, zm_j M, zm_r M)
def zm_pj (M : Zm) (a k : Nat) (v : Int64) : Zm := (M.1, zm_b M, zm_c M, zm_s M, zm_k M, zm_l M, zm_i M, zm_u (zm_j M) a k v, zm_r M)
def zm_pr (M : Zm) (a k : Nat) (v : Option Nat) : Zm := (M.1, zm_b M, zm_c M, zm_s M, zm_k M, zm_l M, zm_i M, zm_j M, zm_u (zm_r M) a k v)
def zm_ri (M : Zm) (a : Nat) (g : Nat → Int32) : Zm := (M.1, zm_b M, zm_c M, zm_s M, zm_k M, zm_l M, zm_z (zm_i M) a g, zm_j M, zm_r M)
def zm_rj (M : Zm) (a : Nat) (g : Nat → Int64) : Zm := (M.1, zm_b M, zm_c M, zm_s M, zm_k M, zm_l M, zm_i M, zm_z (zm_j M) a g, zm_r M)
def zm_rr (M : Zm) (a : Nat) (g : Nat → Option Nat) : Zm := (M.1, zm_b M, zm_c M, zm_s M, zm_k M, zm_l M, zm_i M, zm_j M, zm_z (zm_r M) a g)
/-- a new cell of kind k, of n slots -/
def zm_n (M : Zm) (k n : Nat) : Zm := (M.1, zm_b M, zm_c M + 1, zm_s M + n, va_up (zm_k M) (zm_b M + zm_c M) k, va_up (zm_l M) (zm_b M + zm_c M) n, zm_z (zm_i M) (zm_b M + zm_c M) (fun _ => 0), zm_z (zm_j M) (zm_b M + zm_c M) (fun _ => 0), zm_z (zm_r M) (zm_b M + zm_c M) (fun _ => none))
abbrev zm_ok (M : Zm) (a : Nat) : Prop := zm_b M ≤ a ∧ a < zm_b M + zm_c M
/-- the types of a class's fields: 0 int, 1 long, 2 a reference, 3 boolean -/
def zm_ft (c : Nat) : List Nat := match c with
  | 0 => [0, 2, 0]
  | 1 => [0, 0, 0, 0, 0, 2, 2, 0, 0, 0, 0, 2, 0, 0]
  | 2 => [3, 0, 0, 0, 0, 0, 0, 0, 0, 2, 2]
  | 3 => [2, 2, 2, 0, 2]
  | 4 => [2, 2, 2, 2, 0, 2, 0, 0]
  | 5 => [2, 0]
  | 6 => [2, 2, 0]
  | 7 => [2, 2, 2, 2, 2, 2, 0, 1, 2, 0]
  | 8 => [0, 2]
  | 9 => [2, 2, 0, 1]
  | 10 => [2, 0]
  | 11 => [2, 2, 0, 1]
  | 12 => [2, 2, 2, 2, 2, 2, 2, 2, 2, 2, 2, 2, 2, 2, 0, 1, 0, 3, 0, 0]
  | 13 => [0, 0, 2, 2, 2, 2, 2, 2, 2, 2, 2, 2, 2, 2, 0, 2, 2, 2, 0, 0, 2, 0, 2, 0, 2, 2, 2, 2, 2, 2, 2, 2, 2, 0, 2, 2, 0, 2, 0, 0, 0, 0, 2, 3, 0, 0, 0, 0, 0, 2, 2, 2, 2, 2, 2, 2, 2, 2, 2, 2, 0, 2, 2, 2, 0, 2, 2, 1, 2, 0, 2, 2, 2, 2, 2, 1]
  | _ => []
def zm_fv (t : Nat) (M : Zm) (a k : Nat) : Value := if t = 1 then .long (zm_j M a k) else if t = 2 then va_rf (zm_r M a k) else .int (zm_i M a k)
def zm_fs (c : Nat) (M : Zm) (a : Nat) : List Value := (zm_ft c).mapIdx (fun k t => zm_fv t M a k)
def zm_cell (cy : Nat → ClassId) (M : Zm) (a : Nat) : va_E :=
  if zm_k M a < 14 then .inr (zm_k M a, zm_fs (zm_k M a) M a)
  else if zm_k M a = 14 then .inl (cy 14, zm_l M a, .inl (zm_i M a))
  else if zm_k M a = 15 then .inl (cy 15, zm_l M a, .inr (.inl (zm_j M a)))
  else .inl (cy (zm_k M a), zm_l M a, .inr (.inr (.inr (.inr (zm_r M a)))))
abbrev zm_tys (cy : Nat → ClassId) : List (ClassId × FieldType) := [(cy 14, .int), (cy 15, .long), (cy 16, .object RX0), (cy 17, .object RX7), (cy 18, .object RX10), (cy 19, .object "java/lang/Object")]
def zm_W (cy : Nat → ClassId) (M : Zm) : va_W := va_pl (List.range' (zm_b M) (zm_c M)) (zm_cell cy M)
/-- the heap holds the memory -/
def zH (D : va_G) (cy : Nat → ClassId) (M : Zm) (H : Heap) : Prop := va_P D vwCl (zm_W cy M) H
theorem zm_Wat {cy : Nat → ClassId} {M : Zm} {a : Nat} (h : zm_ok M a) : (zm_W cy M)[a - zm_b M]? = some (a, zm_cell cy M a) := by
  have h2 : a - zm_b M < zm_c M := by omega
  simp only [zm_W, va_pl, List.getElem?_map, List.getElem?_range' h2, Option.map_some, Nat.one_mul]
  rw [show zm_b M + (a - zm_b M) = a by omega]
theorem zm_Wlt {cy : Nat → ClassId} {M : Zm} {k : Nat} {q : Nat × va_E} (h : (zm_W cy M)[k]? = some q) : q = (zm_b M + k, zm_cell cy M (zm_b M + k)) ∧ k < zm_c M := by
  have hl := (List.getElem?_eq_some_iff.mp h).1
  simp only [zm_W, va_pl, List.length_map, List.length_range'] at hl
  simp only [zm_W, va_pl, List.getElem?_map, List.getElem?_range' hl, Option.map_some, Nat.one_mul, Option.some.injEq] at h
  exact ⟨h.symm, hl⟩
theorem zm_D {cy : Nat → ClassId} {M : Zm} {b : Nat} (hb : b ≤ zm_b M) : va_D (fun q => b ≤ q) (zm_W cy M) := by
  refine ⟨fun i j x y hi hj hxy => ?_, fun k q hk => ?_⟩
  · obtain ⟨rfl, -⟩ := zm_Wlt hi
    obtain ⟨rfl, -⟩ := zm_Wlt hj
    simp only at hxy
    omega
  · obtain ⟨rfl, -⟩ := zm_Wlt hk
    show b ≤ zm_b M + k
    omega
/-- a cell is written: the new memory holds it -/
theorem zm_Wset {cy : Nat → ClassId} {M M' : Zm} {a : Nat} {e : va_E} (h : zm_ok M a) (hb : zm_b M' = zm_b M) (hc : zm_c M' = zm_c M) (hn : zm_cell cy M' a = e) (ho : ∀ x, x ≠ a → zm_cell cy M' x = zm_cell cy M x) : (zm_W cy M).set (a - zm_b M) (a, e) = zm_W cy M' := by
  apply List.ext_getElem?
  intro j
  have hl : a - zm_b M < (zm_W cy M).length := (List.getElem?_eq_some_iff.mp (zm_Wat (cy := cy) h)).1
  by_cases hj : j = a - zm_b M
  · subst hj
    have h' : zm_ok M' a := by simp only [zm_ok, hb, hc]; exact h
    have := zm_Wat (cy := cy) h'
    rw [hb] at this
    rw [List.getElem?_set_self hl, this, hn]
  · rw [List.getElem?_set_ne (Ne.symm hj)]
    by_cases hjc : j < zm_c M
    · have e1 : (zm_W cy M)[j]? = some (zm_b M + j, zm_cell cy M (zm_b M + j)) := by
        have := zm_Wat (cy := cy) (M := M) (a := zm_b M + j) ⟨by omega, by omega⟩
        rwa [Nat.add_sub_cancel_left] at this
      have e2 : (zm_W cy M')[j]? = some (zm_b M + j, zm_cell cy M' (zm_b M + j)) := by
        have := zm_Wat (cy := cy) (M := M') (a := zm_b M' + j) ⟨by omega, by omega⟩
        rwa [Nat.add_sub_cancel_left, hb] at this
      rw [e1, e2, ho (zm_b M + j) (by have := h.1; omega)]
    · rw [List.getElem?_eq_none (by simp [zm_W, va_pl]; omega), List.getElem?_eq_none (by simp [zm_W, va_pl]; omega)]
theorem zm_Wpush {cy : Nat → ClassId} {M M' : Zm} {e : va_E} (hb : zm_b M' = zm_b M) (hc : zm_c M' = zm_c M + 1) (hn : zm_cell cy M' (zm_b M + zm_c M) = e) (ho : ∀ x, x ≠ zm_b M + zm_c M → zm_cell cy M' x = zm_cell cy M x) : zm_W cy M ++ [(zm_b M + zm_c M, e)] = zm_W cy M' := by
  apply List.ext_getElem?
  intro j
  have hl : (zm_W cy M).length = zm_c M := by simp [zm_W, va_pl]
  have hl' : (zm_W cy M').length = zm_c M + 1 := by simp [zm_W, va_pl, hc]
  by_cases hj : j < zm_c M
  · rw [List.getElem?_append_left (by omega)]
    have e1 : (zm_W cy M)[j]? = some (zm_b M + j, zm_cell cy M (zm_b M + j)) := by
      have := zm_Wat (cy := cy) (M := M) (a := zm_b M + j) ⟨by omega, by omega⟩
      rwa [Nat.add_sub_cancel_left] at this
    have e2 : (zm_W cy M')[j]? = some (zm_b M + j, zm_cell cy M' (zm_b M + j)) := by
      have := zm_Wat (cy := cy) (M := M') (a := zm_b M' + j) ⟨by omega, by omega⟩
      rwa [Nat.add_sub_cancel_left, hb] at this
    rw [e1, e2, ho _ (by omega)]
  · rw [List.getElem?_append_right (by omega), hl]
    by_cases hj2 : j = zm_c M
    · subst hj2
      have e2 := zm_Wat (cy := cy) (M := M') (a := zm_b M + zm_c M) ⟨by omega, by omega⟩
      rw [hb, Nat.add_sub_cancel_left] at e2
      rw [Nat.sub_self, e2, hn]
      rfl
    · rw [List.getElem?_eq_none (by simp; omega), List.getElem?_eq_none (by omega)]
theorem zm_cellO {cy : Nat → ClassId} {M : Zm} {a c : Nat} (h : zm_k M a = c) (hc : c < 14) : zm_cell cy M a = .inr (c, zm_fs c M a) := by
  subst h
  simp [zm_cell, hc]
theorem zm_fsAt {M : Zm} {a c k t : Nat} (h : (zm_ft c)[k]? = some t) : (zm_fs c M a)[k]? = some (zm_fv t M a k) := by
  simp [zm_fs, List.getElem?_mapIdx, h]
theorem zm_fsLen {M : Zm} {a c : Nat} : (zm_fs c M a).length = (zm_ft c).length := by simp [zm_fs]
/-- one field is written -/
theorem zm_fsSet {M M' : Zm} {a c k t : Nat} {v : Value} (h : (zm_ft c)[k]? = some t) (hv : zm_fv t M' a k = v) (ho : ∀ j t', (zm_ft c)[j]? = some t' → j ≠ k → zm_fv t' M' a j = zm_fv t' M a j) : (zm_fs c M a).set k v = zm_fs c M' a := by
  apply List.ext_getElem?
  intro j
  have hl : k < (zm_fs c M a).length := by rw [zm_fsLen]; exact (List.getElem?_eq_some_iff.mp h).1
  by_cases hj : j = k
  · subst hj
    rw [List.getElem?_set_self hl, zm_fsAt h, hv]
  · rw [List.getElem?_set_ne (Ne.symm hj)]
    cases ht : (zm_ft c)[j]? with
    | none => rw [List.getElem?_eq_none, List.getElem?_eq_none] <;> (rw [zm_fsLen]; exact List.getElem?_eq_none_iff.mp ht)
    | some t' => rw [zm_fsAt ht, zm_fsAt ht, ho j t' ht hj]
theorem zm_fsC {M M' : Zm} {a c : Nat} (hi : zm_i M' a = zm_i M a) (hj : zm_j M' a = zm_j M a) (hr : zm_r M' a = zm_r M a) : zm_fs c M' a = zm_fs c M a := by
  simp only [zm_fs, zm_fv, hi, hj, hr]
theorem zm_cellC {cy : Nat → ClassId} {M M' : Zm} {a : Nat} (hk : zm_k M' a = zm_k M a) (hl : zm_l M' a = zm_l M a) (hi : zm_i M' a = zm_i M a) (hj : zm_j M' a = zm_j M a) (hr : zm_r M' a = zm_r M a) : zm_cell cy M' a = zm_cell cy M a := by
  simp only [zm_cell, hk, hl, hi, hj, hr, zm_fsC hi hj hr]
theorem zm_uS {α : Type} {f : Nat → Nat → α} {a k : Nat} {v : α} : zm_u f a k v a = va_up (f a) k v := by simp [zm_u]
theorem zm_uN {α : Type} {f : Nat → Nat → α} {a k x : Nat} {v : α} (h : x ≠ a) : zm_u f a k v x = f x := by simp [zm_u, h]
theorem zm_zS {α : Type} {f : Nat → Nat → α} {a : Nat} {g : Nat → α} : zm_z f a g a = g := by simp [zm_z]
theorem zm_zN {α : Type} {f : Nat → Nat → α} {a x : Nat} {g : Nat → α} (h : x ≠ a) : zm_z f a g x = f x := by simp [zm_z, h]
