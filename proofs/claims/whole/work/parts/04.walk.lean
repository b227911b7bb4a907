/-! The tables' words that a callee keeps. -/
def zgn (w : Cond) : Bool := match w with
  | .castable _ _ => true
  | .methodLinkNest _ _ _ _ => true
  | .arrayOver (.object _) => true
  | .declares _ => true
  | _ => false
def zT : List Cond := lw_tbl.filter (fun w => goodWord w || zgn w)
theorem zTm {w : Cond} (h : w ∈ lw_tbl) (hg : (goodWord w || zgn w) = true) : w ∈ zT := List.mem_filter.mpr ⟨h, hg⟩
/-- those that are carried by hand -/
def zN (s : State) : Prop := ∀ w ∈ zT, goodWord w = false → va_Nw w s
theorem zgn_any {w : Cond} (h : zgn w = true) {A A' : Array Value} {U : State} (hb : w.before A U = true) : w.before A' U = true := by
  unfold zgn at h
  split at h
  · exact va_any rfl hb
  · exact va_any rfl hb
  · exact hb
  · exact va_any rfl hb
  · cases h
theorem zgn_vm {w : Cond} (h : zgn w = true) {u U : State} (hv : u.vm = U.vm) (hb : va_Nw w u) : va_Nw w U := by
  unfold zgn at h
  split at h
  · exact va_tabs rfl hv hb
  · exact va_tabs rfl hv hb
  · exact va_AO.moved (by rw [hv]; exact Vm.Alike.refl _) hb
  · exact va_tabs rfl hv hb
  · cases h
theorem zgn_in {w : Cond} (hw : w ∈ zT) (hg : goodWord w = false) : zgn w = true := by
  have h2 := (List.mem_filter.mp hw).2
  rw [hg, Bool.false_or] at h2
  exact h2
theorem zN.warm {s U : State} (hW : s.WarmedH U.vm) (h : zN s) : zN U := by
  intro w hw hg
  have h1 := h w hw hg
  have h2 : zgn w = true := by
    have := (List.mem_filter.mp hw).2
    rw [hg, Bool.false_or] at this
    exact this
  unfold zgn at h2
  split at h2
  · exact va_Nw.warmC hW h1
  · exact va_Nw.warmM hW h1
  · exact va_AO.moved hW.alike h1
  · exact va_Nw.warmD hW h1
  · cases h2
/-! The walk's judgement over memories. -/
abbrev Zv : Type := Int32 ⊕ (Int64 ⊕ Option Nat)
def zv (v : Zv) : Value := match v with
  | .inl x => .int x
  | .inr (.inl x) => .long x
  | .inr (.inr r) => va_rf r
abbrev Zl : Type := List (Nat × Zv)
def zvl (lv : Zl) : List (Nat × Value) := lv.map (fun q => (q.1, zv q.2))
/-- where a walk is: machine, state at the entry, method, array classes, memory at the entry, the end wanted -/
abbrev Zx : Type := Program × Launch × Env × State × MethodId × Array Value × List Frame × Method × Code × va_G × (Nat → ClassId) × Zm × (State → Prop)
/-- a method: code, locals, class, frames and words that it may nest, whether it is a constructor -/
abbrev Zc : Type := ByteArray × Nat × String × Nat × Nat × Bool
def zEmp (e b : Nat) (s : State) (H : Heap) : Prop := va_Z "java/util/ArrayList" "DEFAULTCAPACITY_EMPTY_ELEMENTDATA" "[Ljava/lang/Object;" (.ref e) (fun q => b ≤ q) s H
/-- the shared empty row of references -/
def zE0 (e : Nat) (s : State) (H : Heap) : Prop := ∃ cell : Cell, H[e]? = some cell ∧ s.isArrayOf cell (.object "java/lang/Object") ∧ cell.slots.size = 0
def zK (D : va_G) (cy : Nat → ClassId) (s : State) : Prop := va_K D vwCl (zm_tys cy) s
def zx_ok (X : Zx) (C : Zc) : Prop := match X with
  | (p, _, _, s, m, args, _, meth, c, D, cy, M0, _) => p.tables.exec = Jvm.exec ∧ c.code = C.1 ∧ c.maxLocals = C.2.1 ∧ s.vm.findClass C.2.2.1 = some m.cls ∧ (∀ w ∈ zT, w.before args s = true) ∧ zK D cy s ∧ zEmp (zm_e M0) (zm_b M0) s s.heap ∧ meth.locks = false ∧ s.heap.size = zm_b M0 + zm_c M0 ∧ zm_e M0 < zm_b M0 ∧ zE0 (zm_e M0) s s.heap ∧ (C.2.2.2.2.2 = true → meth.name = "<init>") ∧ va_Mi "[Ljava/lang/Object;" (zm_h M0) s
def zx_R (M0 : Zm) (C : Zc) : Room := { frames := C.2.2.2.1, cells := 600000 - zm_c M0, slots := 7302250 - zm_s M0, locals := C.2.2.2.2.1 }
/-- a later memory of the same walk -/
def zle (M0 M : Zm) : Prop := M.1 = M0.1 ∧ zm_b M = zm_b M0 ∧ zm_c M0 ≤ zm_c M ∧ zm_s M0 ≤ zm_s M ∧ zm_c M ≤ 600000 ∧ zm_s M ≤ 7302250
theorem zle.tr {M0 M1 M2 : Zm} (h1 : zle M0 M1) (h2 : zle M1 M2) : zle M0 M2 := ⟨h2.1.trans h1.1, h2.2.1.trans h1.2.1, Nat.le_trans h1.2.2.1 h2.2.2.1, Nat.le_trans h1.2.2.2.1 h2.2.2.2.1, h2.2.2.2.2⟩
def zV (X : Zx) (C : Zc) (M : Zm) (pc : Nat) (lv : Zl) (st : List Zv) : Prop := zx_ok X C → match X with
  | (p, l, e, s, m, args, below, meth, c, D, cy, M0, Q) => zle M0 M → ∀ (H : Heap) (locs : List Loc) (ls : Array Slot), zH D cy M H → va_S (fun q => zm_b M0 ≤ q) s.heap H locs → lv_has ls C.2.1 (zvl lv) →
    W p l e (zx_R M0 C) s m args below meth c H locs (zm_c M - zm_c M0) (zm_s M - zm_s M0) Q (F0 m pc ls (st.map zv))
/-- a step that leaves the memory -/
theorem zV_w {X : Zx} {C : Zc} {M : Zm} {pc pc' : Nat} {lv lv' : Zl} {st st' : List Zv}
    (h : ∀ (p : Program) (l : Launch) (e : Env) (R : Room) (s : State) (m : MethodId) (args : Array Value) (below : List Frame) (meth : Method) (c : Code) (H : Heap) (locs : List Loc) (cells slots : Nat) (Q : State → Prop) (ls : Array Slot), p.tables.exec = Jvm.exec → c.code = C.1 → lv_has ls C.2.1 (zvl lv) →
      (∀ ls' : Array Slot, lv_has ls' C.2.1 (zvl lv') → W p l e R s m args below meth c H locs cells slots Q (F0 m pc' ls' (st'.map zv))) → W p l e R s m args below meth c H locs cells slots Q (F0 m pc ls (st.map zv)))
    (k : zV X C M pc' lv' st') : zV X C M pc lv st := by
  obtain ⟨p, l, e, s, m, args, below, meth, c, D, cy, M0, Q⟩ := X
  intro hx hle H locs ls hH hS hl
  exact h _ _ _ _ _ _ _ _ _ _ _ _ _ _ _ _ hx.1 hx.2.1 hl (fun ls' hl' => k hx hle H locs ls' hH hS hl')
theorem zV_lv {X : Zx} {C : Zc} {M : Zm} {pc : Nat} {lv lv' : Zl} {st : List Zv} (ks : List Nat) (hk : ks.filterMap (fun k => lv[k]?) = lv') (k : zV X C M pc lv' st) : zV X C M pc lv st := by
  refine zV_w (fun p l e R s m args below meth c H locs cells slots Q ls hx hb hl k => k ls ⟨hl.1, hl.2.1, fun q hq => ?_⟩) k
  subst hk
  obtain ⟨x, hx1, rfl⟩ := List.mem_map.mp hq
  obtain ⟨j, -, hj⟩ := List.mem_filterMap.mp hx1
  exact hl.2.2 _ (List.mem_map.mpr ⟨x, List.mem_of_getElem? hj, rfl⟩)
def zlk (lv : Zl) (i : Nat) : Option Zv := match lv with
  | [] => none
  | (j, v) :: r => if i = j then some v else zlk r i
theorem zlk_mem {lv : Zl} {i : Nat} {v : Zv} (h : zlk lv i = some v) : (i, v) ∈ lv := by
  induction lv with
  | nil => cases h
  | cons q r ih =>
    obtain ⟨j, w⟩ := q
    simp only [zlk] at h
    split at h
    · rename_i e; cases h; subst e; exact List.mem_cons_self
    · exact List.mem_cons_of_mem _ (ih h)
theorem zlk_at {ls : Array Slot} {n : Nat} {lv : Zl} {i : Nat} {v : Zv} (hl : lv_has ls n (zvl lv)) (h : zlk lv i = some v) : ls[i]? = some (.val (zv v)) := hl.2.2 (i, zv v) (List.mem_map.mpr ⟨_, zlk_mem h, rfl⟩)
def zc2 (v : Zv) : Bool := match v with
  | .inr (.inl _) => true
  | _ => false
theorem zc2_cat (v : Zv) : (zv v).category = if zc2 v = true then 2 else 1 := by
  obtain x | x | x := v
  · rfl
  · rfl
  · cases x <;> rfl
/-- a local is written: what else is known of the locals stays, but what it covers -/
def zst (lv : Zl) (i : Nat) (v : Zv) : Zl := (i, v) :: lv.filter (fun q => !(q.1 == i) && ((!(zc2 v) || !(q.1 == i + 1)) && !(q.1 + 1 == i && zc2 q.2)))
theorem zst_1 {lv : Zl} {i : Nat} {v : Zv} (h : zc2 v = false) : (i, zv v) :: (zvl lv).filter (fun q => !(q.1 == i) && !(q.1 + 1 == i && q.2.category == 2)) = zvl (zst lv i v) := by
  simp only [zst, zvl, List.map_cons, List.cons.injEq, true_and, List.filter_map, h, Bool.not_false, Bool.true_or, Bool.true_and]
  congr 1
  apply List.filter_congr
  intro q hq
  simp only [Function.comp, zc2_cat]
  cases zc2 q.2 <;> simp
theorem zst_2 {lv : Zl} {i : Nat} {v : Zv} (h : zc2 v = true) : (i, zv v) :: (zvl lv).filter (fun q => !(q.1 == i) && (!(q.1 == i + 1) && !(q.1 + 1 == i && q.2.category == 2))) = zvl (zst lv i v) := by
  simp only [zst, zvl, List.map_cons, List.cons.injEq, true_and, List.filter_map, h, Bool.not_true, Bool.false_or]
  congr 1
  apply List.filter_congr
  intro q hq
  simp only [Function.comp, zc2_cat]
  cases zc2 q.2 <;> simp
