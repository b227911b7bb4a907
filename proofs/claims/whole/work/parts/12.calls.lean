/-! Calls over memories. -/
def zCl (C : Zc) (y : MethodName) (C' : Zc) (ret : Option FieldType) (n : Nat) : Prop := Cond.code y C'.1 C'.2.1 ret ∈ zT ∧ Cond.initialized y.cls ∈ zT ∧ (y.cls ≠ "java/lang/invoke/MethodHandle" ∧ y.cls ≠ "java/lang/invoke/VarHandle") ∧ (parseMethodDescriptor y.desc).map (fun d => d.parameters.length) = some n ∧ C'.2.2.2.1 + 1 ≤ C.2.2.2.1 ∧ 8 + (C'.2.1 + 11) + C'.2.2.2.2.1 ≤ C.2.2.2.2.1
theorem zlenP {y : MethodName} {n : Nat} {As : List Zv} (hp : (parseMethodDescriptor y.desc).map (fun d => d.parameters.length) = some n) (hn : As.length = n) : ∀ sig, parseMethodDescriptor y.desc = some sig → (As.map zv).length = sig.parameters.length := by
  intro sig h
  rw [h] at hp
  rw [List.length_map, hn]
  exact (Option.some.inj hp).symm
theorem zstk {As st : List Zv} {v : Zv} : (As.reverse ++ v :: st).map zv = (As.map zv).reverse ++ zv v :: st.map zv := by simp
theorem zstk0 {As st : List Zv} : (As.reverse ++ st).map zv = (As.map zv).reverse ++ st.map zv := by simp
theorem zret {rv : Option Zv} {st : List Zv} : (rv.map zv).toList ++ st.map zv = (rv.toList ++ st).map zv := by cases rv <;> simp
theorem zroom8 {m : MethodId} {pc : Nat} {ls : Array Slot} {rest : List Value} {st : List Zv} (h : zsum st ≤ 8) : 2 * (F0 m pc ls rest).monitorRoom + ((st.map zv).map fun v => v.category).sum ≤ 8 := by
  rw [zsum_eq]
  show 2 * 0 + _ ≤ 8
  omega
theorem zbk {p : Program} {l : Launch} {e : Env} {s : State} {m : MethodId} {args : Array Value} {below : List Frame} {meth : Method} {c : Code} {D : va_G} {cy : Nat → ClassId} {M0 M M' : Zm} {Q : State → Prop} {C C' : Zc} {y : MethodName} {ret : Option FieldType} {n : Nat} {As : List Zv} {rv : Option Zv} (hx : zx_ok (p, l, e, s, m, args, below, meth, c, D, cy, M0, Q) C) (hw : zCl C y C' ret n) (hm : zMet l y C' ret D cy As M M' rv) : Back l (zx_R M0 C) p e below s args y 3 8 (fun A a => A.cells + (600000 - zm_c M) ≤ 600000 - zm_c M0 ∧ A.slots + (7302250 - zm_s M) ≤ 7302250 - zm_s M0 ∧ va_Pc (As.map zv) (zB D cy M) a A.U) (PostOf (zQ D cy M M' (rv.map zv)) (zm_c M' - zm_c M) (zm_s M' - zm_s M) (fun q => zm_b M ≤ q)) := by
  obtain ⟨h1, h2, h3, h4, h5, h6⟩ := hw
  refine zback (bytes := C'.1) (maxL := C'.2.1) (ret := ret) hm zblind h5 h6 (fun w hw a' U hW => ?_) List.mem_cons_self (fun a' U hW => zgoodIn hW hx.2.2.2.2.1 h2 rfl)
  rcases List.mem_cons.mp hw with rfl | hw
  · exact zgoodIn hW hx.2.2.2.2.1 h1 rfl
  · exact zgoodIn hW hx.2.2.2.2.1 (List.mem_filter.mp hw).1 (List.mem_filter.mp hw).2
theorem zfinC {X : Zx} {C : Zc} {M M' : Zm} {pc : Nat} {lv : Zl} {st : List Zv} {rv : Option Zv} (kk : zV X C M' (pc + 3) lv (rv.toList ++ st)) : zx_ok X C → match X with
  | (p, l, e, s, m, args, below, meth, c, D, cy, M0, Q) => zle M0 M → ∀ (ls : Array Slot), lv_has ls C.2.1 (zvl lv) → ∀ (H1 : Heap) (locs1 : List Loc), zle M M' → zH D cy M' H1 → va_S (fun q => zm_b M0 ≤ q) s.heap H1 locs1 →
    W p l e (zx_R M0 C) s m args below meth c H1 locs1 (zm_c M - zm_c M0 + (zm_c M' - zm_c M)) (zm_s M - zm_s M0 + (zm_s M' - zm_s M)) Q (F0 m (pc + 3) ls ((rv.map zv).toList ++ st.map zv)) := by
  obtain ⟨p, l, e, s, m, args, below, meth, c, D, cy, M0, Q⟩ := X
  intro hx hle ls hl H1 locs1 hle' hH1 hS1
  have := kk hx (hle.tr hle') H1 locs1 ls hH1 hS1 hl
  rw [zret, show zm_c M - zm_c M0 + (zm_c M' - zm_c M) = zm_c M' - zm_c M0 from by have := hle.2.2.1; have := hle'.2.2.1; omega, show zm_s M - zm_s M0 + (zm_s M' - zm_s M) = zm_s M' - zm_s M0 from by have := hle.2.2.2.1; have := hle'.2.2.2.1; omega]
  exact this
theorem zcap {M0 M : Zm} (h : zle M0 M) : zm_c M - zm_c M0 + (600000 - zm_c M) ≤ 600000 - zm_c M0 ∧ zm_s M - zm_s M0 + (7302250 - zm_s M) ≤ 7302250 - zm_s M0 := by
  obtain ⟨-, -, h1, h2, h3, h4⟩ := h
  omega
theorem zcV {X : Zx} {C C' : Zc} {M M' : Zm} {pc index n : Nat} {lv : Zl} {st stk As : List Zv} {y : MethodName} {ret : Option FieldType} {rv : Option Zv} {c a : Nat} (hd : decode C.1 pc = .ok (.invokevirtual index, 3)) (hw : zCl C y C' ret n) (hlk : Cond.methodLink C.2.2.1 index y ∈ zT ∧ Cond.instanceMethod y ∈ zT ∧ Cond.selects y.cls y y ∈ zT) (hc : (∃ T N, vwCl[c]? = some (y.cls, T, N)) ∧ c < 14) (hst : stk = As.reverse ++ .inr (.inr (some a)) :: st) (hn : As.length = n) (h8 : zsum st ≤ 8) (ho : zm_ok M a) (hk : zm_k M a = c) (hm : ∀ l D cy, zMet l y C' ret D cy (.inr (.inr (some a)) :: As) M M' rv) (kk : zV X C M' (pc + 3) lv (rv.toList ++ st)) : zV X C M pc lv stk := by
  obtain ⟨p, l, e, s, m, args, below, meth, cd, D, cy, M0, Q⟩ := X
  intro hx hle H locs ls hH hS hl
  refine zW_size hx.2.2.2.2.2.2.2.2.1 hle hH hS (fun hsz => ?_)
  have hK := zbk hx hw (hm l D cy)
  obtain ⟨hw1, hw2, hw3, hw4, hw5, hw6⟩ := hw
  obtain ⟨⟨T0, N0, hcl⟩, hc14⟩ := hc
  obtain ⟨cellB, hcB, hoB, hclB⟩ := va_recv hx.2.2.2.2.2.1 hH hcl (q0 := a - zm_b M) (fs := zm_fs c M a) (by rw [zm_Wat ho, zm_cellO hk hc14])
  subst hst
  have hr : va_Run p l e (zx_R M0 C) s m args below meth cd H locs (zm_c M - zm_c M0) (zm_s M - zm_s M0) (zm_c M' - zm_c M) (zm_s M' - zm_s M) (F0 m pc ls ((As.reverse ++ .inr (.inr (some a)) :: st).map zv)) (st.map zv) (zQ D cy M M' (rv.map zv) (Value.ref a :: As.map zv).toArray) (fun q => zm_b M ≤ q) := by
    intro T hT X'
    obtain ⟨v, vm₁, ⟨U', l2, c2, s2⟩, hW₁, X'', ⟨g', mk, t, L, e1, e2, hq, h1, hL, h2, h3⟩, st'⟩ := callV X' hx.1 (C := y.cls) (bytes := C'.1) (maxL := C'.2.1) (ret := ret) hx.2.2.2.1 (hx.2.2.2.2.1 _ hlk.1) (hx.2.2.2.2.1 _ hlk.2.1) (hx.2.2.2.2.1 _ hlk.2.2) (hx.2.2.2.2.1 _ hw1) hw3 hK (by rw [hT]; exact hcB) hoB hclB (g := F0 m pc ls ((As.reverse ++ .inr (.inr (some a)) :: st).map zv)) rfl (hl.1.trans hx.2.2.1.symm) (argsL := As.map zv) (rest := st.map zv) (zlenP hw4 hn) (zstk (v := .inr (.inr (some a)))) (zroom8 h8) (by rw [hx.2.1]; exact hd)
      (fun vm₁ hW₁ => ⟨(zcap hle).1, (zcap hle).2, rfl, zpre hx hle hH hS hsz hT hW₁⟩)
    dsimp only [Pt.U, Pt.locs, Pt.cells, Pt.slots] at X'' e1 e2 h1 h2 h3 st'
    subst h1; subst h2; subst h3
    exact ⟨v, (T.setVm vm₁).calling g' mk (Value.ref a :: As.map zv).toArray, t, U', L, hT, X'', hL, e1, e2, hq, st'⟩
  exact zgo (free := fun q => zm_b M ≤ q) hle.2.1 hr hS (zfinC kk hx hle ls hl)
theorem zcS {X : Zx} {C C' : Zc} {M M' : Zm} {pc index n : Nat} {lv : Zl} {st stk As : List Zv} {y : MethodName} {ret : Option FieldType} {rv : Option Zv} (hd : decode C.1 pc = .ok (.invokestatic index, 3)) (hw : zCl C y C' ret n) (hlk : Cond.methodLink C.2.2.1 index y ∈ zT ∧ Cond.static y ∈ zT) (hst : stk = As.reverse ++ st) (hn : As.length = n) (h8 : zsum st ≤ 8) (hm : ∀ l D cy, zMet l y C' ret D cy As M M' rv) (kk : zV X C M' (pc + 3) lv (rv.toList ++ st)) : zV X C M pc lv stk := by
  obtain ⟨p, l, e, s, m, args, below, meth, cd, D, cy, M0, Q⟩ := X
  intro hx hle H locs ls hH hS hl
  refine zW_size hx.2.2.2.2.2.2.2.2.1 hle hH hS (fun hsz => ?_)
  have hK := zbk hx hw (hm l D cy)
  obtain ⟨hw1, hw2, hw3, hw4, hw5, hw6⟩ := hw
  subst hst
  have hr : va_Run p l e (zx_R M0 C) s m args below meth cd H locs (zm_c M - zm_c M0) (zm_s M - zm_s M0) (zm_c M' - zm_c M) (zm_s M' - zm_s M) (F0 m pc ls ((As.reverse ++ st).map zv)) (st.map zv) (zQ D cy M M' (rv.map zv) (As.map zv).toArray) (fun q => zm_b M ≤ q) := by
    intro T hT X'
    obtain ⟨v, vm₁, ⟨U', l2, c2, s2⟩, hW₁, X'', ⟨g', mk, t, L, e1, e2, hq, h1, hL, h2, h3⟩, st'⟩ := callS X' hx.1 (bytes := C'.1) (maxL := C'.2.1) (ret := ret) hx.2.2.2.1 (hx.2.2.2.2.1 _ hlk.1) (hx.2.2.2.2.1 _ hlk.2) (hx.2.2.2.2.1 _ hw2) (hx.2.2.2.2.1 _ hw1) hw3 hK (g := F0 m pc ls ((As.reverse ++ st).map zv)) rfl (hl.1.trans hx.2.2.1.symm) (argsL := As.map zv) (rest := st.map zv) (zlenP hw4 hn) zstk0 (zroom8 h8) (by rw [hx.2.1]; exact hd)
      (fun vm₁ hW₁ => ⟨(zcap hle).1, (zcap hle).2, rfl, zpre hx hle hH hS hsz hT hW₁⟩)
    dsimp only [Pt.U, Pt.locs, Pt.cells, Pt.slots] at X'' e1 e2 h1 h2 h3 st'
    subst h1; subst h2; subst h3
    exact ⟨v, (T.setVm vm₁).calling g' mk (As.map zv).toArray, t, U', L, hT, X'', hL, e1, e2, hq, st'⟩
  exact zgo (free := fun q => zm_b M ≤ q) hle.2.1 hr hS (zfinC kk hx hle ls hl)
theorem zcI {X : Zx} {C C' : Zc} {M M' : Zm} {pc index n : Nat} {lv : Zl} {st stk As : List Zv} {y : MethodName}  {a : Nat} (hd : decode C.1 pc = .ok (.invokespecial index, 3)) (hw : zCl C y C' none n) (hlk : Cond.methodLink C.2.2.1 index y ∈ zT ∧ y.name = "<init>" ∧ Cond.instanceMethod y ∈ zT) (hst : stk = As.reverse ++ .inr (.inr (some a)) :: st) (hn : As.length = n) (h8 : zsum st ≤ 8) (hm : ∀ l D cy, zMet l y C' none D cy (.inr (.inr (some a)) :: As) M M' none) (kk : zV X C M' (pc + 3) lv st) : zV X C M pc lv stk := by
  obtain ⟨p, l, e, s, m, args, below, meth, cd, D, cy, M0, Q⟩ := X
  intro hx hle H locs ls hH hS hl
  refine zW_size hx.2.2.2.2.2.2.2.2.1 hle hH hS (fun hsz => ?_)
  have hK := zbk hx hw (hm l D cy)
  obtain ⟨hw1, hw2, hw3, hw4, hw5, hw6⟩ := hw
  subst hst
  have hr : va_Run p l e (zx_R M0 C) s m args below meth cd H locs (zm_c M - zm_c M0) (zm_s M - zm_s M0) (zm_c M' - zm_c M) (zm_s M' - zm_s M) (F0 m pc ls ((As.reverse ++ .inr (.inr (some a)) :: st).map zv)) (st.map zv) (zQ D cy M M' ((none : Option Zv).map zv) (Value.ref a :: As.map zv).toArray) (fun q => zm_b M ≤ q) := by
    intro T hT X'
    obtain ⟨v, vm₁, ⟨U', l2, c2, s2⟩, hW₁, X'', ⟨g', mk, t, L, e1, e2, hq, h1, hL, h2, h3⟩, st'⟩ := callI X' hx.1 (bytes := C'.1) (maxL := C'.2.1) hx.2.2.2.1 hlk.2.1 (hx.2.2.2.2.1 _ hlk.1) (hx.2.2.2.2.1 _ hlk.2.2) (hx.2.2.2.2.1 _ hw1) hw3 hK (g := F0 m pc ls ((As.reverse ++ .inr (.inr (some a)) :: st).map zv)) rfl (hl.1.trans hx.2.2.1.symm) (a := a) (argsL := As.map zv) (rest := st.map zv) (zlenP hw4 hn) (zstk (v := .inr (.inr (some a)))) (zroom8 h8) (by rw [hx.2.1]; exact hd)
      (fun vm₁ hW₁ => ⟨(zcap hle).1, (zcap hle).2, rfl, zpre hx hle hH hS hsz hT hW₁⟩)
    dsimp only [Pt.U, Pt.locs, Pt.cells, Pt.slots] at X'' e1 e2 h1 h2 h3 st'
    subst h1; subst h2; subst h3
    exact ⟨v, (T.setVm vm₁).calling g' mk (Value.ref a :: As.map zv).toArray, t, U', L, hT, X'', hL, e1, e2, hq, st'⟩
  exact zgo (free := fun q => zm_b M ≤ q) hle.2.1 hr hS (zfinC (rv := none) kk hx hle ls hl)
theorem zcN {X : Zx} {C C' : Zc} {M M' : Zm} {pc index n : Nat} {lv : Zl} {st stk As : List Zv} {y : MethodName}  {a : Nat} (hd : decode C.1 pc = .ok (.invokespecial index, 3)) (hw : zCl C y C' none n) (hlk : (∃ host, Cond.methodLinkNest C.2.2.1 index y host ∈ zT) ∧ y.name = "<init>" ∧ Cond.instanceMethod y ∈ zT) (hst : stk = As.reverse ++ .inr (.inr (some a)) :: st) (hn : As.length = n) (h8 : zsum st ≤ 8) (hm : ∀ l D cy, zMet l y C' none D cy (.inr (.inr (some a)) :: As) M M' none) (kk : zV X C M' (pc + 3) lv st) : zV X C M pc lv stk := by
  obtain ⟨p, l, e, s, m, args, below, meth, cd, D, cy, M0, Q⟩ := X
  intro hx hle H locs ls hH hS hl
  refine zW_size hx.2.2.2.2.2.2.2.2.1 hle hH hS (fun hsz => ?_)
  have hK := zbk hx hw (hm l D cy)
  obtain ⟨hw1, hw2, hw3, hw4, hw5, hw6⟩ := hw
  subst hst
  have hr : va_Run p l e (zx_R M0 C) s m args below meth cd H locs (zm_c M - zm_c M0) (zm_s M - zm_s M0) (zm_c M' - zm_c M) (zm_s M' - zm_s M) (F0 m pc ls ((As.reverse ++ .inr (.inr (some a)) :: st).map zv)) (st.map zv) (zQ D cy M M' ((none : Option Zv).map zv) (Value.ref a :: As.map zv).toArray) (fun q => zm_b M ≤ q) := by
    intro T hT X'
    obtain ⟨v, vm₁, ⟨U', l2, c2, s2⟩, hW₁, X'', ⟨g', mk, t, L, e1, e2, hq, h1, hL, h2, h3⟩, st'⟩ := va_callIN X' hx.1 (bytes := C'.1) (maxL := C'.2.1) hx.2.2.2.1 hlk.2.1 (hx.2.2.2.2.1 _ hlk.1.choose_spec) (hx.2.2.2.2.1 _ hlk.2.2) (hx.2.2.2.2.1 _ hw1) hw3 hK (g := F0 m pc ls ((As.reverse ++ .inr (.inr (some a)) :: st).map zv)) rfl (hl.1.trans hx.2.2.1.symm) (a := a) (argsL := As.map zv) (rest := st.map zv) (zlenP hw4 hn) (zstk (v := .inr (.inr (some a)))) (zroom8 h8) (by rw [hx.2.1]; exact hd)
      (fun vm₁ hW₁ => ⟨(zcap hle).1, (zcap hle).2, rfl, zpre hx hle hH hS hsz hT hW₁⟩)
    dsimp only [Pt.U, Pt.locs, Pt.cells, Pt.slots] at X'' e1 e2 h1 h2 h3 st'
    subst h1; subst h2; subst h3
    exact ⟨v, (T.setVm vm₁).calling g' mk (Value.ref a :: As.map zv).toArray, t, U', L, hT, X'', hL, e1, e2, hq, st'⟩
  exact zgo (free := fun q => zm_b M ≤ q) hle.2.1 hr hS (zfinC (rv := none) kk hx hle ls hl)
theorem zV_cvv {X : Zx} {C C' : Zc} {M : Zm} {pc index n : Nat} {lv : Zl} {st stk As : List Zv} {y : MethodName} {ret : Option FieldType} {β : Type} {z : β} {c : Nat} {r : Option Nat} {o : Option (Zm × Unit)} {g : Zm → Unit → Option β} (hd : decode C.1 pc = .ok (.invokevirtual index, 3)) (hw : zCl C y C' ret n) (hlk : Cond.methodLink C.2.2.1 index y ∈ zT ∧ Cond.instanceMethod y ∈ zT ∧ Cond.selects y.cls y y ∈ zT) (hc : (∃ T N, vwCl[c]? = some (y.cls, T, N)) ∧ c < 14) (hst : stk = As.reverse ++ .inr (.inr r) :: st) (hn : As.length = n) (h8 : zsum st ≤ 8) (h : zb1 (zo_rc M r c) (fun _ => zbd o g) = some z) (hm : ∀ M' x, o = some (M', x) → ∀ l D cy, zMet l y C' ret D cy (.inr (.inr r) :: As) M M' (none)) (kk : ∀ M' x, o = some (M', x) → g M' x = some z → zV X C M' (pc + 3) lv (st)) : zV X C M pc lv stk := by
  obtain ⟨u, e, h⟩ := zb1_inv h
  obtain ⟨M', x, ho, hg⟩ := zbd_inv h
  unfold zo_rc at e
  split at e
  · cases e
  · split at e
    · rename_i hc2
      exact zcV hd hw hlk hc hst hn h8 hc2.1 hc2.2 (hm M' x ho) (kk M' x ho hg)
    · cases e
theorem zV_csv {X : Zx} {C C' : Zc} {M : Zm} {pc index n : Nat} {lv : Zl} {st stk As : List Zv} {y : MethodName} {ret : Option FieldType} {β : Type} {z : β} {o : Option (Zm × Unit)} {g : Zm → Unit → Option β} (hd : decode C.1 pc = .ok (.invokestatic index, 3)) (hw : zCl C y C' ret n) (hlk : Cond.methodLink C.2.2.1 index y ∈ zT ∧ Cond.static y ∈ zT) (hst : stk = As.reverse ++ st) (hn : As.length = n) (h8 : zsum st ≤ 8) (h : zbd o g = some z) (hm : ∀ M' x, o = some (M', x) → ∀ l D cy, zMet l y C' ret D cy As M M' (none)) (kk : ∀ M' x, o = some (M', x) → g M' x = some z → zV X C M' (pc + 3) lv (st)) : zV X C M pc lv stk := by
  obtain ⟨M', x, ho, hg⟩ := zbd_inv h
  exact zcS hd hw hlk hst hn h8 (hm M' x ho) (kk M' x ho hg)
theorem zV_cvi {X : Zx} {C C' : Zc} {M : Zm} {pc index n : Nat} {lv : Zl} {st stk As : List Zv} {y : MethodName} {ret : Option FieldType} {β : Type} {z : β} {c : Nat} {r : Option Nat} {o : Option (Zm × Int32)} {g : Zm → Int32 → Option β} (hd : decode C.1 pc = .ok (.invokevirtual index, 3)) (hw : zCl C y C' ret n) (hlk : Cond.methodLink C.2.2.1 index y ∈ zT ∧ Cond.instanceMethod y ∈ zT ∧ Cond.selects y.cls y y ∈ zT) (hc : (∃ T N, vwCl[c]? = some (y.cls, T, N)) ∧ c < 14) (hst : stk = As.reverse ++ .inr (.inr r) :: st) (hn : As.length = n) (h8 : zsum st ≤ 8) (h : zb1 (zo_rc M r c) (fun _ => zbd o g) = some z) (hm : ∀ M' x, o = some (M', x) → ∀ l D cy, zMet l y C' ret D cy (.inr (.inr r) :: As) M M' (some (.inl x))) (kk : ∀ M' x, o = some (M', x) → g M' x = some z → zV X C M' (pc + 3) lv (.inl x :: st)) : zV X C M pc lv stk := by
  obtain ⟨u, e, h⟩ := zb1_inv h
  obtain ⟨M', x, ho, hg⟩ := zbd_inv h
  unfold zo_rc at e
  split at e
  · cases e
  · split at e
    · rename_i hc2
      exact zcV hd hw hlk hc hst hn h8 hc2.1 hc2.2 (hm M' x ho) (kk M' x ho hg)
    · cases e
theorem zV_csi {X : Zx} {C C' : Zc} {M : Zm} {pc index n : Nat} {lv : Zl} {st stk As : List Zv} {y : MethodName} {ret : Option FieldType} {β : Type} {z : β} {o : Option (Zm × Int32)} {g : Zm → Int32 → Option β} (hd : decode C.1 pc = .ok (.invokestatic index, 3)) (hw : zCl C y C' ret n) (hlk : Cond.methodLink C.2.2.1 index y ∈ zT ∧ Cond.static y ∈ zT) (hst : stk = As.reverse ++ st) (hn : As.length = n) (h8 : zsum st ≤ 8) (h : zbd o g = some z) (hm : ∀ M' x, o = some (M', x) → ∀ l D cy, zMet l y C' ret D cy As M M' (some (.inl x))) (kk : ∀ M' x, o = some (M', x) → g M' x = some z → zV X C M' (pc + 3) lv (.inl x :: st)) : zV X C M pc lv stk := by
  obtain ⟨M', x, ho, hg⟩ := zbd_inv h
  exact zcS hd hw hlk hst hn h8 (hm M' x ho) (kk M' x ho hg)
theorem zV_cvj {X : Zx} {C C' : Zc} {M : Zm} {pc index n : Nat} {lv : Zl} {st stk As : List Zv} {y : MethodName} {ret : Option FieldType} {β : Type} {z : β} {c : Nat} {r : Option Nat} {o : Option (Zm × Int64)} {g : Zm → Int64 → Option β} (hd : decode C.1 pc = .ok (.invokevirtual index, 3)) (hw : zCl C y C' ret n) (hlk : Cond.methodLink C.2.2.1 index y ∈ zT ∧ Cond.instanceMethod y ∈ zT ∧ Cond.selects y.cls y y ∈ zT) (hc : (∃ T N, vwCl[c]? = some (y.cls, T, N)) ∧ c < 14) (hst : stk = As.reverse ++ .inr (.inr r) :: st) (hn : As.length = n) (h8 : zsum st ≤ 8) (h : zb1 (zo_rc M r c) (fun _ => zbd o g) = some z) (hm : ∀ M' x, o = some (M', x) → ∀ l D cy, zMet l y C' ret D cy (.inr (.inr r) :: As) M M' (some (.inr (.inl x)))) (kk : ∀ M' x, o = some (M', x) → g M' x = some z → zV X C M' (pc + 3) lv (.inr (.inl x) :: st)) : zV X C M pc lv stk := by
  obtain ⟨u, e, h⟩ := zb1_inv h
  obtain ⟨M', x, ho, hg⟩ := zbd_inv h
  unfold zo_rc at e
  split at e
  · cases e
  · split at e
    · rename_i hc2
      exact zcV hd hw hlk hc hst hn h8 hc2.1 hc2.2 (hm M' x ho) (kk M' x ho hg)
    · cases e
theorem zV_csj {X : Zx} {C C' : Zc} {M : Zm} {pc index n : Nat} {lv : Zl} {st stk As : List Zv} {y : MethodName} {ret : Option FieldType} {β : Type} {z : β} {o : Option (Zm × Int64)} {g : Zm → Int64 → Option β} (hd : decode C.1 pc = .ok (.invokestatic index, 3)) (hw : zCl C y C' ret n) (hlk : Cond.methodLink C.2.2.1 index y ∈ zT ∧ Cond.static y ∈ zT) (hst : stk = As.reverse ++ st) (hn : As.length = n) (h8 : zsum st ≤ 8) (h : zbd o g = some z) (hm : ∀ M' x, o = some (M', x) → ∀ l D cy, zMet l y C' ret D cy As M M' (some (.inr (.inl x)))) (kk : ∀ M' x, o = some (M', x) → g M' x = some z → zV X C M' (pc + 3) lv (.inr (.inl x) :: st)) : zV X C M pc lv stk := by
  obtain ⟨M', x, ho, hg⟩ := zbd_inv h
  exact zcS hd hw hlk hst hn h8 (hm M' x ho) (kk M' x ho hg)
theorem zV_cvr {X : Zx} {C C' : Zc} {M : Zm} {pc index n : Nat} {lv : Zl} {st stk As : List Zv} {y : MethodName} {ret : Option FieldType} {β : Type} {z : β} {c : Nat} {r : Option Nat} {o : Option (Zm × Option Nat)} {g : Zm → Option Nat → Option β} (hd : decode C.1 pc = .ok (.invokevirtual index, 3)) (hw : zCl C y C' ret n) (hlk : Cond.methodLink C.2.2.1 index y ∈ zT ∧ Cond.instanceMethod y ∈ zT ∧ Cond.selects y.cls y y ∈ zT) (hc : (∃ T N, vwCl[c]? = some (y.cls, T, N)) ∧ c < 14) (hst : stk = As.reverse ++ .inr (.inr r) :: st) (hn : As.length = n) (h8 : zsum st ≤ 8) (h : zb1 (zo_rc M r c) (fun _ => zbd o g) = some z) (hm : ∀ M' x, o = some (M', x) → ∀ l D cy, zMet l y C' ret D cy (.inr (.inr r) :: As) M M' (some (.inr (.inr x)))) (kk : ∀ M' x, o = some (M', x) → g M' x = some z → zV X C M' (pc + 3) lv (.inr (.inr x) :: st)) : zV X C M pc lv stk := by
  obtain ⟨u, e, h⟩ := zb1_inv h
  obtain ⟨M', x, ho, hg⟩ := zbd_inv h
  unfold zo_rc at e
  split at e
  · cases e
  · split at e
    · rename_i hc2
      exact zcV hd hw hlk hc hst hn h8 hc2.1 hc2.2 (hm M' x ho) (kk M' x ho hg)
    · cases e
theorem zV_csr {X : Zx} {C C' : Zc} {M : Zm} {pc index n : Nat} {lv : Zl} {st stk As : List Zv} {y : MethodName} {ret : Option FieldType} {β : Type} {z : β} {o : Option (Zm × Option Nat)} {g : Zm → Option Nat → Option β} (hd : decode C.1 pc = .ok (.invokestatic index, 3)) (hw : zCl C y C' ret n) (hlk : Cond.methodLink C.2.2.1 index y ∈ zT ∧ Cond.static y ∈ zT) (hst : stk = As.reverse ++ st) (hn : As.length = n) (h8 : zsum st ≤ 8) (h : zbd o g = some z) (hm : ∀ M' x, o = some (M', x) → ∀ l D cy, zMet l y C' ret D cy As M M' (some (.inr (.inr x)))) (kk : ∀ M' x, o = some (M', x) → g M' x = some z → zV X C M' (pc + 3) lv (.inr (.inr x) :: st)) : zV X C M pc lv stk := by
  obtain ⟨M', x, ho, hg⟩ := zbd_inv h
  exact zcS hd hw hlk hst hn h8 (hm M' x ho) (kk M' x ho hg)
theorem zV_cii {X : Zx} {C C' : Zc} {M : Zm} {pc index n : Nat} {lv : Zl} {st stk As : List Zv} {y : MethodName}  {β : Type} {z : β} {c : Nat} {r : Option Nat} {o : Option (Zm × Unit)} {g : Zm → Unit → Option β} (hd : decode C.1 pc = .ok (.invokespecial index, 3)) (hw : zCl C y C' none n) (hlk : Cond.methodLink C.2.2.1 index y ∈ zT ∧ y.name = "<init>" ∧ Cond.instanceMethod y ∈ zT) (hst : stk = As.reverse ++ .inr (.inr r) :: st) (hn : As.length = n) (h8 : zsum st ≤ 8) (h : zb1 (zo_rc M r c) (fun _ => zbd o g) = some z) (hm : ∀ M' x, o = some (M', x) → ∀ l D cy, zMet l y C' none D cy (.inr (.inr r) :: As) M M' none) (kk : ∀ M' x, o = some (M', x) → g M' x = some z → zV X C M' (pc + 3) lv st) : zV X C M pc lv stk := by
  obtain ⟨u, e, h⟩ := zb1_inv h
  obtain ⟨M', x, ho, hg⟩ := zbd_inv h
  unfold zo_rc at e
  split at e
  · cases e
  · split at e
    · exact zcI hd hw hlk hst hn h8 (hm M' x ho) (kk M' x ho hg)
    · cases e
theorem zV_cin {X : Zx} {C C' : Zc} {M : Zm} {pc index n : Nat} {lv : Zl} {st stk As : List Zv} {y : MethodName}  {β : Type} {z : β} {c : Nat} {r : Option Nat} {o : Option (Zm × Unit)} {g : Zm → Unit → Option β} (hd : decode C.1 pc = .ok (.invokespecial index, 3)) (hw : zCl C y C' none n) (hlk : (∃ host, Cond.methodLinkNest C.2.2.1 index y host ∈ zT) ∧ y.name = "<init>" ∧ Cond.instanceMethod y ∈ zT) (hst : stk = As.reverse ++ .inr (.inr r) :: st) (hn : As.length = n) (h8 : zsum st ≤ 8) (h : zb1 (zo_rc M r c) (fun _ => zbd o g) = some z) (hm : ∀ M' x, o = some (M', x) → ∀ l D cy, zMet l y C' none D cy (.inr (.inr r) :: As) M M' none) (kk : ∀ M' x, o = some (M', x) → g M' x = some z → zV X C M' (pc + 3) lv st) : zV X C M pc lv stk := by
  obtain ⟨u, e, h⟩ := zb1_inv h
  obtain ⟨M', x, ho, hg⟩ := zbd_inv h
  unfold zo_rc at e
  split at e
  · cases e
  · split at e
    · exact zcN hd hw hlk hst hn h8 (hm M' x ho) (kk M' x ho hg)
    · cases e
