/-! Fields, rows, new cells. -/
theorem zle.same {M0 M M' : Zm} (h : zle M0 M) (he : M'.1 = M.1) (hb : zm_b M' = zm_b M) (hc : zm_c M' = zm_c M) (hs : zm_s M' = zm_s M) : zle M0 M' := ⟨he.trans h.1, hb.trans h.2.1, by rw [hc]; exact h.2.2.1, by rw [hs]; exact h.2.2.2.1, by rw [hc]; exact h.2.2.2.2.1, by rw [hs]; exact h.2.2.2.2.2⟩
/-- the heap's size, out of what a walk knows -/
theorem zW_size {p : Program} {l : Launch} {e : Env} {R : Room} {s : State} {m : MethodId} {args : Array Value} {below : List Frame} {meth : Method} {c : Code} {H : Heap} {locs : List Loc} {slots : Nat} {Q : State → Prop} {g : JFrame} {D : va_G} {cy : Nat → ClassId} {M0 M : Zm} (hs : s.heap.size = zm_b M0 + zm_c M0) (hle : zle M0 M) (hH : zH D cy M H) (hS : va_S (fun q => zm_b M0 ≤ q) s.heap H locs) (k : H.size = zm_b M + zm_c M → W p l e R s m args below meth c H locs (zm_c M - zm_c M0) slots Q g) : W p l e R s m args below meth c H locs (zm_c M - zm_c M0) slots Q g := by
  intro T hT X
  refine k ?_ T hT X
  have h1 := X.heapSize
  rw [hT, hs] at h1
  have h2 := hS.1
  rw [hs] at h2
  obtain ⟨-, hb, hc, -⟩ := hle
  by_cases h : zm_c M = zm_c M0
  · omega
  · have ho : zm_ok M (zm_b M + (zm_c M - 1)) := ⟨by omega, by omega⟩
    have := (hH _ _ (zm_Wat (cy := cy) ho)).lt
    simp only at this
    omega
def zFl (own : String) (index c k : Nat) : Prop := ∃ (R : String) (T : u_T) (N : Nat), vwCl[c]? = some (R, T, N) ∧ k < N ∧ (∀ w ∈ u_ws R T N, w ∈ zT) ∧ ∃ ref : String, Cond.fieldLink own index ref (T k).2.1 (T k).2.2.1 ∈ zT ∧ (ref = (T k).1 ∨ Cond.sameField ref (T k).1 (T k).2.1 (T k).2.2.1 ∈ zT)
theorem zSame {ref o n d : String} {args : Array Value} {s : State} (hts : ∀ w ∈ zT, w.before args s = true) (h : ref = o ∨ Cond.sameField ref o n d ∈ zT) : ∀ x, s.fieldFound? o n d = some x → s.fieldFound? ref n d = some x := by
  rcases h with rfl | h
  · exact fun _ h => h
  · exact fun x h9 => u_same (hts _ h) x h9
theorem zV_getf {X : Zx} {C : Zc} {M : Zm} {pc index c k t a : Nat} {lv : Zl} {st : List Zv} {v : Zv} (hd : decode C.1 pc = .ok (.getfield index, 3)) (hf : zFl C.2.2.1 index c k) (hc : c < 14) (ht : (zm_ft c)[k]? = some t) (ho : zm_ok M a) (hk : zm_k M a = c) (hv : zm_fv t M a k = zv v) (kk : zV X C M (pc + 3) lv (v :: st)) : zV X C M pc lv (.inr (.inr (some a)) :: st) := by
  obtain ⟨p, l, e, s, m, args, below, meth, cd, D, cy, M0, Q⟩ := X
  intro hx hle H locs ls hH hS hl
  obtain ⟨R, T, N, h1, h2, h3, ref, h4, h5⟩ := hf
  have he : (zm_W cy M)[a - zm_b M]? = some (a, .inr (c, zm_fs c M a)) := by rw [zm_Wat ho, zm_cellO hk hc]
  exact va_get (v := zv v) hx.1 hx.2.1 hx.2.2.2.2.1 h3 hx.2.2.2.1 hx.2.2.2.2.2.1 hH (a - zm_b M) he h1 k h2 (hx.2.2.2.2.1 _ h4) (zSame hx.2.2.2.2.1 h5) (by rw [zm_fsAt ht, hv]) hd (kk hx hle H locs ls hH hS hl)
theorem zV_gi {X : Zx} {C : Zc} {M : Zm} {pc index c k t : Nat} {lv : Zl} {st : List Zv} {β : Type} {z : β} {r : Option Nat} {g : Int32 → Option β} (hd : decode C.1 pc = .ok (.getfield index, 3)) (hf : zFl C.2.2.1 index c k) (hc : c < 14) (ht : (zm_ft c)[k]? = some t) (ht0 : t = 0 ∨ t = 3) (h : zb1 (zo_gi M r c k) g = some z) (kk : ∀ v, zo_gi M r c k = some v → g v = some z → zV X C M (pc + 3) lv (.inl v :: st)) : zV X C M pc lv (.inr (.inr r) :: st) := by
  obtain ⟨v, e, h⟩ := zb1_inv h
  have kk := kk v e h
  unfold zo_gi at e
  split at e
  · cases e
  · split at e
    · rename_i hc2; cases e
      exact zV_getf hd hf hc ht hc2.1 hc2.2 (by rcases ht0 with rfl | rfl <;> rfl) kk
    · cases e
theorem zV_gj {X : Zx} {C : Zc} {M : Zm} {pc index c k : Nat} {lv : Zl} {st : List Zv} {β : Type} {z : β} {r : Option Nat} {g : Int64 → Option β} (hd : decode C.1 pc = .ok (.getfield index, 3)) (hf : zFl C.2.2.1 index c k) (hc : c < 14) (ht : (zm_ft c)[k]? = some 1) (h : zb1 (zo_gj M r c k) g = some z) (kk : ∀ v, zo_gj M r c k = some v → g v = some z → zV X C M (pc + 3) lv (.inr (.inl v) :: st)) : zV X C M pc lv (.inr (.inr r) :: st) := by
  obtain ⟨v, e, h⟩ := zb1_inv h
  have kk := kk v e h
  unfold zo_gj at e
  split at e
  · cases e
  · split at e
    · rename_i hc2; cases e
      exact zV_getf hd hf hc ht hc2.1 hc2.2 rfl kk
    · cases e
theorem zV_gr {X : Zx} {C : Zc} {M : Zm} {pc index c k : Nat} {lv : Zl} {st : List Zv} {β : Type} {z : β} {r : Option Nat} {g : Option Nat → Option β} (hd : decode C.1 pc = .ok (.getfield index, 3)) (hf : zFl C.2.2.1 index c k) (hc : c < 14) (ht : (zm_ft c)[k]? = some 2) (h : zb1 (zo_gr M r c k) g = some z) (kk : ∀ v, zo_gr M r c k = some v → g v = some z → zV X C M (pc + 3) lv (.inr (.inr v) :: st)) : zV X C M pc lv (.inr (.inr r) :: st) := by
  obtain ⟨v, e, h⟩ := zb1_inv h
  have kk := kk v e h
  unfold zo_gr at e
  split at e
  · cases e
  · split at e
    · rename_i hc2; cases e
      exact zV_getf hd hf hc ht hc2.1 hc2.2 rfl kk
    · cases e
def zFp (own : String) (ini : Bool) (index c k : Nat) (ty : FieldType) : Prop := ∃ (R : String) (T : u_T) (N : Nat) (ty0 : Nat → FieldType), vwCl[c]? = some (R, T, N) ∧ k < N ∧ (∀ w ∈ u_ws R T N, w ∈ zT) ∧ (∀ k, k < N → parseFieldDescriptor (T k).2.2.1 = some (ty0 k)) ∧ (∀ a, a < N → ∀ b, b < N → a ≠ b → (T a).2.1 ≠ (T b).2.1) ∧ ty0 k = ty ∧ ((T k).2.2.2 = false ∨ ((T k).2.2.2 = true ∧ (T k).1 = own ∧ ini = true)) ∧ ∃ ref : String, Cond.fieldLink own index ref (T k).2.1 (T k).2.2.1 ∈ zT ∧ (ref = (T k).1 ∨ Cond.sameField ref (T k).1 (T k).2.1 (T k).2.2.1 ∈ zT)
theorem zV_putf {X : Zx} {C : Zc} {M M' : Zm} {pc index c k t a : Nat} {lv : Zl} {st : List Zv} {v : Zv} {ty : FieldType} (hd : decode C.1 pc = .ok (.putfield index, 3)) (hf : zFp C.2.2.1 C.2.2.2.2.2 index c k ty) (hc : c < 14) (ht : (zm_ft c)[k]? = some t) (ho : zm_ok M a) (hk : zm_k M a = c) (hn : narrow ty (zv v) = zv v) (hfit : fits ty (zv v) = true)
    (he' : M'.1 = M.1) (hb' : zm_b M' = zm_b M) (hc' : zm_c M' = zm_c M) (hs' : zm_s M' = zm_s M) (hk' : zm_k M' = zm_k M) (hv : zm_fv t M' a k = zv v) (hof : ∀ j t', (zm_ft c)[j]? = some t' → j ≠ k → zm_fv t' M' a j = zm_fv t' M a j) (hoc : ∀ cy x, x ≠ a → zm_cell cy M' x = zm_cell cy M x)
    (kk : zV X C M' (pc + 3) lv st) : zV X C M pc lv (v :: .inr (.inr (some a)) :: st) := by
  obtain ⟨p, l, e, s, m, args, below, meth, cd, D, cy, M0, Q⟩ := X
  intro hx hle H locs ls hH hS hl
  obtain ⟨R, T, N, ty0, h1, h2, h3, h6, h7, h8, h9, ref, h4, h5⟩ := hf
  have he : (zm_W cy M)[a - zm_b M]? = some (a, .inr (c, zm_fs c M a)) := by rw [zm_Wat ho, zm_cellO hk hc]
  have hD := zm_D (cy := cy) (M := M) (b := zm_b M0) (Nat.le_of_eq hle.2.1.symm)
  have hw : (zm_W cy M).set (a - zm_b M) (a, .inr (c, (zm_fs c M a).set k (zv v))) = zm_W cy M' := zm_Wset ho hb' hc' (by rw [zm_cellO (c := c) (by rw [hk']; exact hk) hc, zm_fsSet ht hv hof]) (hoc cy)
  have hlen : k < (zm_fs c M a).length := by rw [zm_fsLen]; exact (List.getElem?_eq_some_iff.mp ht).1
  have fin : ∀ (H1 : Heap) (locs1 : List Loc), va_P D vwCl ((zm_W cy M).set (a - zm_b M) (a, .inr (c, (zm_fs c M a).set k (zv v)))) H1 → va_D (fun q => zm_b M0 ≤ q) ((zm_W cy M).set (a - zm_b M) (a, .inr (c, (zm_fs c M a).set k (zv v)))) → va_S (fun q => zm_b M0 ≤ q) s.heap H1 locs1 → W p l e (zx_R M0 C) s m args below meth cd H1 locs1 (zm_c M - zm_c M0) (zm_s M - zm_s M0) Q (F0 m (pc + 3) ls (st.map zv)) := by
    intro H1 locs1 hP1 _ hS1
    rw [hw] at hP1
    have := kk hx (hle.same he' hb' hc' hs') H1 locs1 ls hP1 hS1 hl
    rw [hc', hs'] at this
    exact this
  rcases h9 with h9 | ⟨h9, h10, h11⟩
  · exact va_put (v := zv v) hx.1 hx.2.1 hx.2.2.2.2.1 h3 ty0 h6 h7 hx.2.2.2.1 hx.2.2.2.2.2.1 hH hD hS (a - zm_b M) he h1 k h2 (hx.2.2.2.2.1 _ h4) (zSame hx.2.2.2.2.1 h5) h9 (ty := ty) (by rw [h6 k h2, h8]) hn hfit hlen hd fin
  · exact va_putF (v := zv v) hx.1 hx.2.1 hx.2.2.2.2.1 h3 ty0 h6 h7 hx.2.2.2.1 hx.2.2.2.2.2.1 hH hD hS (a - zm_b M) he h1 k h2 (hx.2.2.2.2.1 _ h4) (zSame hx.2.2.2.2.1 h5) h9 (hx.2.2.2.2.2.2.2.2.2.2.2.1 h11) h10 (ty := ty) (by rw [h6 k h2, h8]) hn hfit hlen hd fin
theorem zm_pi_fv {M : Zm} {a k t j : Nat} {v : Int32} (h : j ≠ k) : zm_fv t (zm_pi M a k v) a j = zm_fv t M a j := by
  simp [zm_fv, zm_pi, zm_i, zm_j, zm_r, zm_u, va_up, h]
theorem zm_pj_fv {M : Zm} {a k t j : Nat} {v : Int64} (h : j ≠ k) : zm_fv t (zm_pj M a k v) a j = zm_fv t M a j := by
  simp [zm_fv, zm_pj, zm_i, zm_j, zm_r, zm_u, va_up, h]
theorem zm_pr_fv {M : Zm} {a k t j : Nat} {v : Option Nat} (h : j ≠ k) : zm_fv t (zm_pr M a k v) a j = zm_fv t M a j := by
  simp [zm_fv, zm_pr, zm_i, zm_j, zm_r, zm_u, va_up, h]
theorem zm_pi_cell {cy : Nat → ClassId} {M : Zm} {a k x : Nat} {v : Int32} (h : x ≠ a) : zm_cell cy (zm_pi M a k v) x = zm_cell cy M x := zm_cellC rfl rfl (zm_uN h) rfl rfl
theorem zm_pj_cell {cy : Nat → ClassId} {M : Zm} {a k x : Nat} {v : Int64} (h : x ≠ a) : zm_cell cy (zm_pj M a k v) x = zm_cell cy M x := zm_cellC rfl rfl rfl (zm_uN h) rfl
theorem zm_pr_cell {cy : Nat → ClassId} {M : Zm} {a k x : Nat} {v : Option Nat} (h : x ≠ a) : zm_cell cy (zm_pr M a k v) x = zm_cell cy M x := zm_cellC rfl rfl rfl rfl (zm_uN h)
theorem zV_pi {X : Zx} {C : Zc} {M : Zm} {pc index c k : Nat} {lv : Zl} {st : List Zv} {β : Type} {z : β} {r : Option Nat} {x : Int32} {g : Zm → Option β} (hd : decode C.1 pc = .ok (.putfield index, 3)) (hf : zFp C.2.2.1 C.2.2.2.2.2 index c k .int) (hc : c < 14) (ht : (zm_ft c)[k]? = some 0) (h : zb1 (zo_pi M r c k x) g = some z) (kk : ∀ M', zo_pi M r c k x = some M' → g M' = some z → zV X C M' (pc + 3) lv st) : zV X C M pc lv (.inl x :: .inr (.inr r) :: st) := by
  obtain ⟨M', e, h⟩ := zb1_inv h
  have kk := kk M' e h
  unfold zo_pi at e
  split at e
  · cases e
  · split at e
    · rename_i hc2; cases e
      exact zV_putf (M' := zm_pi M _ k x) (v := .inl x) hd hf hc ht hc2.1 hc2.2 (vp_nar_int x) rfl rfl rfl rfl rfl rfl (by simp [zm_fv, zm_pi, zm_i, zm_u, va_up, zv]) (fun j t' _ hj => zm_pi_fv hj) (fun cy x h => zm_pi_cell h) kk
    · cases e
theorem zV_pz {X : Zx} {C : Zc} {M : Zm} {pc index c k : Nat} {lv : Zl} {st : List Zv} {β : Type} {z : β} {r : Option Nat} {x : Int32} {g : Zm → Option β} (hd : decode C.1 pc = .ok (.putfield index, 3)) (hf : zFp C.2.2.1 C.2.2.2.2.2 index c k .boolean) (hc : c < 14) (ht : (zm_ft c)[k]? = some 3) (h : zb1 (zo_pz M r c k x) g = some z) (kk : ∀ M', zo_pz M r c k x = some M' → g M' = some z → zV X C M' (pc + 3) lv st) : zV X C M pc lv (.inl x :: .inr (.inr r) :: st) := by
  obtain ⟨M', e, h⟩ := zb1_inv h
  have kk := kk M' e h
  unfold zo_pz at e
  split at e
  · cases e
  · split at e
    · rename_i hc2; cases e
      refine zV_putf (M' := zm_pi M _ k x) (v := .inl x) hd hf hc ht hc2.1.1 hc2.1.2 (by rcases hc2.2 with rfl | rfl <;> rfl) (by rcases hc2.2 with rfl | rfl <;> rfl) rfl rfl rfl rfl rfl (by simp [zm_fv, zm_pi, zm_i, zm_u, va_up, zv]) (fun j t' _ hj => zm_pi_fv hj) (fun cy x h => zm_pi_cell h) kk
    · cases e
theorem zV_pj {X : Zx} {C : Zc} {M : Zm} {pc index c k : Nat} {lv : Zl} {st : List Zv} {β : Type} {z : β} {r : Option Nat} {x : Int64} {g : Zm → Option β} (hd : decode C.1 pc = .ok (.putfield index, 3)) (hf : zFp C.2.2.1 C.2.2.2.2.2 index c k .long) (hc : c < 14) (ht : (zm_ft c)[k]? = some 1) (h : zb1 (zo_pj M r c k x) g = some z) (kk : ∀ M', zo_pj M r c k x = some M' → g M' = some z → zV X C M' (pc + 3) lv st) : zV X C M pc lv (.inr (.inl x) :: .inr (.inr r) :: st) := by
  obtain ⟨M', e, h⟩ := zb1_inv h
  have kk := kk M' e h
  unfold zo_pj at e
  split at e
  · cases e
  · split at e
    · rename_i hc2; cases e
      exact zV_putf (M' := zm_pj M _ k x) (v := .inr (.inl x)) hd hf hc ht hc2.1 hc2.2 rfl rfl rfl rfl rfl rfl rfl (by simp [zm_fv, zm_pj, zm_j, zm_u, va_up, zv]) (fun j t' _ hj => zm_pj_fv hj) (fun cy x h => zm_pj_cell h) kk
    · cases e
theorem zV_pr {X : Zx} {C : Zc} {M : Zm} {pc index c k : Nat} {lv : Zl} {st : List Zv} {β : Type} {z : β} {r x : Option Nat} {g : Zm → Option β} {ty : FieldType} (hd : decode C.1 pc = .ok (.putfield index, 3)) (hf : zFp C.2.2.1 C.2.2.2.2.2 index c k ty) (hty : (∃ n, ty = .object n) ∨ ∃ t, ty = .array t) (hc : c < 14) (ht : (zm_ft c)[k]? = some 2) (h : zb1 (zo_pr M r c k x) g = some z) (kk : ∀ M', zo_pr M r c k x = some M' → g M' = some z → zV X C M' (pc + 3) lv st) : zV X C M pc lv (.inr (.inr x) :: .inr (.inr r) :: st) := by
  obtain ⟨M', e, h⟩ := zb1_inv h
  have kk := kk M' e h
  unfold zo_pr at e
  split at e
  · cases e
  · split at e
    · rename_i hc2; cases e
      exact zV_putf (M' := zm_pr M _ k x) (v := .inr (.inr x)) hd hf hc ht hc2.1 hc2.2 (by rcases hty with ⟨n, rfl⟩ | ⟨n, rfl⟩ <;> cases x <;> rfl) (by rcases hty with ⟨n, rfl⟩ | ⟨n, rfl⟩ <;> cases x <;> rfl) rfl rfl rfl rfl rfl (by simp [zm_fv, zm_pr, zm_r, zm_u, va_up, zv]) (fun j t' _ hj => zm_pr_fv hj) (fun cy x h => zm_pr_cell h) kk
    · cases e
