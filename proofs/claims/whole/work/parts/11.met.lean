/-! A method's contract over memories, and calls. -/
def zB (D : va_G) (cy : Nat → ClassId) (M : Zm) (U : State) : Prop := zH D cy M U.heap ∧ zK D cy U ∧ zN U ∧ zEmp (zm_e M) (zm_b M) U U.heap ∧ U.heap.size = zm_b M + zm_c M ∧ zm_e M < zm_b M ∧ zE0 (zm_e M) U U.heap ∧ zm_c M ≤ 600000 ∧ zm_s M ≤ 7302250 ∧ va_Mi "[Ljava/lang/Object;" (zm_h M) U
def zQ (D : va_G) (cy : Nat → ClassId) (M M' : Zm) (rv : Option Value) : Array Value → State → Outcome → State → Prop := fun _ st oc t => oc = .returned rv ∧ zle M M' ∧ zH D cy M' t.heap ∧ va_F (fun q => zm_b M ≤ q) st t
def zMet (l : Launch) (y : MethodName) (C : Zc) (ret : Option FieldType) (D : va_G) (cy : Nat → ClassId) (args : List Zv) (M M' : Zm) (rv : Option Zv) : Prop :=
  Met l y (Cond.code y C.1 C.2.1 ret :: zT.filter goodWord) { frames := C.2.2.2.1, cells := 600000 - zm_c M, slots := 7302250 - zm_s M, locals := C.2.2.2.2.1 } (va_Pc (args.map zv) (zB D cy M)) (zQ D cy M M' (rv.map zv)) (zm_c M' - zm_c M) (zm_s M' - zm_s M) (fun q => zm_b M ≤ q)
/-- with what a walk may end -/
def zRv (X : Zx) (C : Zc) (M : Zm) : Prop := ∀ (pc : Nat) (lv : Zl), decode C.1 pc = .ok (.return_, 1) → zV X C M pc lv []
def zRi (X : Zx) (C : Zc) (M : Zm) (v : Int32) : Prop := ∀ (pc : Nat) (lv : Zl), decode C.1 pc = .ok (.ireturn, 1) → zV X C M pc lv [.inl v]
def zRj (X : Zx) (C : Zc) (M : Zm) (v : Int64) : Prop := ∀ (pc : Nat) (lv : Zl), decode C.1 pc = .ok (.lreturn, 1) → zV X C M pc lv [.inr (.inl v)]
def zRr (X : Zx) (C : Zc) (M : Zm) (v : Option Nat) : Prop := ∀ (pc : Nat) (lv : Zl), decode C.1 pc = .ok (.areturn, 1) → zV X C M pc lv [.inr (.inr v)]
def zargs : Nat → List Zv → Zl
  | _, [] => []
  | i, v :: vs => (i, v) :: zargs (if zc2 v = true then i + 2 else i + 1) vs
theorem zargs_eq : ∀ (vs : List Zv) (i : Nat), lv_args i (vs.map zv) = zvl (zargs i vs)
  | [], _ => rfl
  | v :: vs, i => by
    simp only [List.map_cons, lv_args, zargs, zvl, List.map_cons, zc2_cat, List.cons.injEq, true_and]
    have h : (if (if zc2 v = true then 2 else 1) = 2 then i + 2 else i + 1) = (if zc2 v = true then i + 2 else i + 1) := by cases zc2 v <;> simp
    rw [h]
    exact zargs_eq vs _
def zlen (vs : List Zv) : Nat := zsum vs
theorem zlen_eq (vs : List Zv) : (lg_sl (vs.map zv)).length = zsum vs := by
  induction vs with
  | nil => rfl
  | cons v vs ih =>
    have e : lg_sl ((v :: vs).map zv) = (if (zv v).category = 2 then [.val (zv v), .second] else [.val (zv v)]) ++ lg_sl (vs.map zv) := by simp [lg_sl]
    rw [e, List.length_append, ih]
    simp only [zsum, List.map_cons, List.sum_cons, zc2_cat]
    cases zc2 v <;> simp
theorem zmet_of {l : Launch} {y : MethodName} {C : Zc} {ret : Option FieldType} {D : va_G} {cy : Nat → ClassId} {As : List Zv} {M M' : Zm} {rv : Option Zv} (hy : plainName y.cls = true) (hown : C.2.2.1 = y.cls) (hini : C.2.2.2.2.2 = true → y.name = "<init>") (hn : zsum As ≤ C.2.1)
    (k : ∀ (p : Program) (e : Env) (s : State) (m : MethodId) (below : List Frame) (meth : Method) (c : Code), meth.sig.returnType = ret → meth.locks = false →
      zV (p, l, e, s, m, (As.map zv).toArray, below, meth, c, D, cy, M, MQ below (zQ D cy M M' (rv.map zv)) (As.map zv).toArray s (zm_c M' - zm_c M) (zm_s M' - zm_s M) (fun q => zm_b M ≤ q)) C M 0 (zargs 0 As) []) : zMet l y C ret D cy As M M' rv := by
  refine Met.ofW (cc := C.1) (maxL := C.2.1) (ret := ret) hy rfl ?_
  intro p e s m args below meth c s₁ B hml hv
  obtain ⟨rfl, hH, hK, hNw, hZ, hsz, heb, hem, hcap1, hcap2, hmi⟩ := hv
  have hts0 := atoms_spec (ws := Cond.code y C.1 C.2.1 ret :: zT.filter goodWord) B.pre
  have hts : ∀ w ∈ zT, w.before (As.map zv).toArray s = true := by
    intro w hw
    cases hg : goodWord w with
    | true => exact hts0 w (List.mem_cons_of_mem _ (List.mem_filter.mpr ⟨hw, hg⟩))
    | false =>
      exact zgn_any (zgn_in hw hg) (hNw w hw hg)
  have hx : zx_ok (p, l, e, s, m, (As.map zv).toArray, below, meth, c, D, cy, M, MQ below (zQ D cy M M' (rv.map zv)) (As.map zv).toArray s (zm_c M' - zm_c M) (zm_s M' - zm_s M) (fun q => zm_b M ≤ q)) C :=
    ⟨B.exec, B.bytes, hml, by rw [hown]; exact findClass_of_methodNamed B.named, hts, hK, hZ, B.notSynchronized, hsz, heb, hem, fun h => (name_of_methodNamed B.named B.method).1.trans (hini h), hmi⟩
  have hl := lv_entry (As.map zv) (n := C.2.1) (by rw [zlen_eq]; exact hn)
  rw [zargs_eq] at hl
  rw [lg_entry_eq]
  have := k p e s m below meth c B.returns B.notSynchronized hx ⟨rfl, rfl, Nat.le_refl _, Nat.le_refl _, hcap1, hcap2⟩ s.heap [] _ hH va_S.rf hl
  rw [Nat.sub_self, Nat.sub_self] at this
  exact this
theorem zM_v {l : Launch} {y : MethodName} {C : Zc} {D : va_G} {cy : Nat → ClassId} {As : List Zv} {M M' : Zm} (hy : plainName y.cls = true) (hown : C.2.2.1 = y.cls) (hini : C.2.2.2.2.2 = true → y.name = "<init>") (hn : zsum As ≤ C.2.1) (k : ∀ X, zRv X C M' → zV X C M 0 (zargs 0 As) []) : zMet l y C none D cy As M M' none := by
  refine zmet_of hy hown hini hn (fun p e s m below meth c hr hlocks => k _ (fun pc lv hd => ?_))
  intro hx hle H locs ls hH hS hl
  exact W.vret hx.1 hx.2.1 hr (fun t ht hW => ⟨rfl, hle, by rw [ht]; exact hH, hS.F ht⟩) hS.2.2 hd hlocks
theorem zM_i {l : Launch} {y : MethodName} {C : Zc} {D : va_G} {cy : Nat → ClassId} {As : List Zv} {M M' : Zm} {v : Int32} (hy : plainName y.cls = true) (hown : C.2.2.1 = y.cls) (hini : C.2.2.2.2.2 = true → y.name = "<init>") (hn : zsum As ≤ C.2.1) (k : ∀ X, zRi X C M' v → zV X C M 0 (zargs 0 As) []) : zMet l y C (some .int) D cy As M M' (some (.inl v)) := by
  refine zmet_of hy hown hini hn (fun p e s m below meth c hr hlocks => k _ (fun pc lv hd => ?_))
  intro hx hle H locs ls hH hS hl
  exact W.iret hx.1 hx.2.1 hr (fun t ht hW => ⟨rfl, hle, by rw [ht]; exact hH, hS.F ht⟩) hS.2.2 hd hlocks
theorem zM_z {l : Launch} {y : MethodName} {C : Zc} {D : va_G} {cy : Nat → ClassId} {As : List Zv} {M M' : Zm} {v : Int32} (hv : v = 0 ∨ v = 1) (hy : plainName y.cls = true) (hown : C.2.2.1 = y.cls) (hini : C.2.2.2.2.2 = true → y.name = "<init>") (hn : zsum As ≤ C.2.1) (k : ∀ X, zRi X C M' v → zV X C M 0 (zargs 0 As) []) : zMet l y C (some .boolean) D cy As M M' (some (.inl v)) := by
  refine zmet_of hy hown hini hn (fun p e s m below meth c hr hlocks => k _ (fun pc lv hd => ?_))
  intro hx hle H locs ls hH hS hl
  exact W.zret hx.1 hx.2.1 hr (by rcases hv with rfl | rfl <;> rfl) (fun t ht hW => ⟨rfl, hle, by rw [ht]; exact hH, hS.F ht⟩) hS.2.2 hd hlocks
theorem zM_j {l : Launch} {y : MethodName} {C : Zc} {D : va_G} {cy : Nat → ClassId} {As : List Zv} {M M' : Zm} {v : Int64} (hy : plainName y.cls = true) (hown : C.2.2.1 = y.cls) (hini : C.2.2.2.2.2 = true → y.name = "<init>") (hn : zsum As ≤ C.2.1) (k : ∀ X, zRj X C M' v → zV X C M 0 (zargs 0 As) []) : zMet l y C (some .long) D cy As M M' (some (.inr (.inl v))) := by
  refine zmet_of hy hown hini hn (fun p e s m below meth c hr hlocks => k _ (fun pc lv hd => ?_))
  intro hx hle H locs ls hH hS hl
  exact W.lret hx.1 hx.2.1 hr (fun t ht hW => ⟨rfl, hle, by rw [ht]; exact hH, hS.F ht⟩) hS.2.2 hd hlocks
theorem zM_r {l : Launch} {y : MethodName} {C : Zc} {D : va_G} {cy : Nat → ClassId} {As : List Zv} {M M' : Zm} {v : Option Nat} {rt : FieldType} (hrt : (∃ n, rt = .object n) ∨ ∃ t, rt = .array t) (hy : plainName y.cls = true) (hown : C.2.2.1 = y.cls) (hini : C.2.2.2.2.2 = true → y.name = "<init>") (hn : zsum As ≤ C.2.1) (k : ∀ X, zRr X C M' v → zV X C M 0 (zargs 0 As) []) : zMet l y C (some rt) D cy As M M' (some (.inr (.inr v))) := by
  refine zmet_of hy hown hini hn (fun p e s m below meth c hr hlocks => k _ (fun pc lv hd => ?_))
  intro hx hle H locs ls hH hS hl
  exact W.aret hx.1 hx.2.1 hr hrt (by cases v <;> simp [zv, va_rf]) (fun t ht hW => ⟨rfl, hle, by rw [ht]; exact hH, hS.F ht⟩) hS.2.2 hd hlocks
/-! calls -/
theorem zblind {args : List Value} {D : va_G} {cy : Nat → ClassId} {M : Zm} : FrameBlind (va_Pc args (zB D cy M)) := by
  intro a U g mk h
  obtain ⟨rfl, hH, hK, hNw, hZ, h4, h5, h6, h7, h8, h9⟩ := h
  exact ⟨rfl, hH, va_K.moved (u := U) (U := U.calling g mk _) (Vm.Alike.refl U.vm) hK, fun w hw hg => zgn_vm (u := U) (zgn_in hw hg) rfl (hNw w hw hg), va_Z.moved (u := U) (U := U.calling g mk _) (Vm.Alike.refl U.vm) hZ, h4, h5, (by obtain ⟨cell, c1, c2, c3⟩ := h6; exact ⟨cell, c1, State.isArrayOf_alike (Vm.Alike.refl U.vm) c2, c3⟩), h7, h8, va_Mi.moved (u := U) (U := U.calling g mk _) (Vm.Alike.refl U.vm) h9⟩
section
variable {l : Launch} {R : Room} {p : Program} {e : Env} {below : List Frame} {s : State} {sargs : Array Value} {y : MethodName} {len W0 : Nat}
theorem zback {ws : List Cond} {rm : Room} {Pc : Array Value → State → Prop} {Qc : Array Value → State → Outcome → State → Prop} {mc ms : Nat} {free : Addr → Prop} {bytes : ByteArray} {maxL : Nat} {ret : Option FieldType}
    (hM : Met l y ws rm Pc Qc mc ms free) (hblind : FrameBlind Pc) (hframes : rm.frames + 1 ≤ R.frames) (hlocals : W0 + (maxL + 11) + rm.locals ≤ R.locals)
    (hws : ∀ w ∈ ws, ∀ a' U, s.WarmedH U.vm → w.before a' U = true) (hcode : Cond.code y bytes maxL ret ∈ ws) (hinit : ∀ a' U, s.WarmedH U.vm → (Cond.initialized y.cls).before a' U = true) :
    Back l R p e below s sargs y len W0 (fun A a => A.cells + rm.cells ≤ R.cells ∧ A.slots + rm.slots ≤ R.slots ∧ Pc a A.U) (PostOf Qc mc ms free) := by
  refine Back.of_free (S := headSpec ws rm) (P := Pc) (K := fun _ _ _ _ _ => True) (Q := fun a st o t => Qc a st o t ∧ ∃ L, FrameEnd st o t L mc ms ∧ ∀ q ∈ L, free q.base) (bytes := bytes) (maxL := maxL) (ret := ret)
    (E := fun a st o t L k n => k = mc ∧ n = ms ∧ ∀ q ∈ L, free q.base) hM hframes hlocals ?_ ?_ (fun _ _ _ _ _ _ _ _ _ => trivial) ?_ ?_
  · intro m meth c A a X hp
    exact ⟨atoms_intro fun w hw => hws w hw _ _ X.warmed, hws _ hcode _ _ X.warmed, hinit _ _ X.warmed, hp.1, hp.2.1⟩
  · intro m meth c A a g mk X hp
    exact hblind _ _ _ _ hp.2.2
  · intro a st o t ⟨hq, L, hF, hL⟩
    exact ⟨L, mc, ms, hF, rfl, rfl, hL⟩
  · intro m meth c A a g mk v t L k n X hp hq hF ⟨e1, e2, hL⟩
    subst e1; subst e2
    exact ⟨g, mk, t, L, rfl, rfl, hq.1, rfl, hL, rfl, rfl⟩
end
/-- the words of a callee -/
def zWs (y : MethodName) (C : Zc) (ret : Option FieldType) : Prop := Cond.code y C.1 C.2.1 ret ∈ zT ∧ Cond.initialized y.cls ∈ zT ∧ y.cls ≠ "java/lang/invoke/MethodHandle" ∧ y.cls ≠ "java/lang/invoke/VarHandle"
theorem zgoodIn {args a' : Array Value} {s U : State} (hW : s.WarmedH U.vm) (hts : ∀ w ∈ zT, w.before args s = true) {w : Cond} (h : w ∈ zT) (hg : goodWord w = true) : w.before a' U = true := word_at hW (good_of_word hg) (hts w h)
/-- what a call needs of the caller's own walk -/
theorem zpre {p : Program} {l : Launch} {e : Env} {s : State} {m : MethodId} {args : Array Value} {below : List Frame} {meth : Method} {c : Code} {D : va_G} {cy : Nat → ClassId} {M0 M : Zm} {Q : State → Prop} {C : Zc} {H : Heap} {locs : List Loc} (hx : zx_ok (p, l, e, s, m, args, below, meth, c, D, cy, M0, Q) C) (hle : zle M0 M) (hH : zH D cy M H) (hS : va_S (fun q => zm_b M0 ≤ q) s.heap H locs) (hsz : H.size = zm_b M + zm_c M) {U : State} (hU : U.heap = H) (hW : s.WarmedH U.vm) : zB D cy M U := by
  obtain ⟨-, -, -, -, hts, hK, hZ, -, hs0, heb, hem, -, hmi⟩ := hx
  have he0 : zm_e M = zm_e M0 := congrArg Prod.fst hle.1
  refine ⟨by rw [hU]; exact hH, va_K.moved hW.alike hK, zN.warm hW (fun w hw hg => zgn_any (zgn_in hw hg) (hts w hw)), ?_, by rw [hU]; exact hsz, by rw [he0, hle.2.1]; exact heb, ?_, hle.2.2.2.2.1, hle.2.2.2.2.2, by rw [show zm_h M = zm_h M0 from congrArg Prod.snd hle.1]; exact va_Mi.moved hW.alike hmi⟩
  · unfold zEmp
    rw [he0, hle.2.1, hU]
    exact va_Z.kept (va_Z.moved hW.alike hZ) (fun a h1 h2 => hS.2.1 a h1 h2)
  · obtain ⟨cell, c1, c2, c3⟩ := hem
    refine ⟨cell, ?_, State.isArrayOf_alike hW.alike c2, c3⟩
    rw [hU, he0, hS.2.1 _ (by rw [hs0]; omega) (by show ¬ zm_b M0 ≤ zm_e M0; omega)]
    exact c1
/-- behind a call -/
theorem zgo {p : Program} {l : Launch} {e : Env} {R : Room} {s : State} {m : MethodId} {args : Array Value} {below : List Frame} {meth : Method} {c : Code} {H : Heap} {locs : List Loc} {cells slots mc ms : Nat} {Q : State → Prop} {pc : Nat} {ls : Array Slot} {rest st0 : List Value} {a : Array Value} {M0 M M' : Zm} {D : va_G} {cy : Nat → ClassId} {rv : Option Value} {free : Addr → Prop} (hb : zm_b M = zm_b M0) (hr : va_Run p l e R s m args below meth c H locs cells slots mc ms (F0 m pc ls st0) rest (zQ D cy M M' rv a) (fun q => zm_b M ≤ q)) (hS : va_S (fun q => zm_b M0 ≤ q) s.heap H locs)
    (kk : ∀ (H1 : Heap) (locs1 : List Loc), zle M M' → zH D cy M' H1 → va_S (fun q => zm_b M0 ≤ q) s.heap H1 locs1 → W p l e R s m args below meth c H1 locs1 (cells + mc) (slots + ms) Q (F0 m (pc + 3) ls (rv.toList ++ rest))) : W p l e R s m args below meth c H locs cells slots Q (F0 m pc ls st0) := by
  intro T hT X
  obtain ⟨v, st₀, t, T', L, h0, X', hL, e1, e2, ⟨hv, hle, hH1, hz, hk⟩, st⟩ := hr T hT X
  cases hv
  rw [h0] at hz hk
  obtain ⟨t2, a1, b1⟩ := kk T'.heap (locs ++ L) hle (by rw [e1]; exact hH1)
    ⟨Nat.le_trans hS.1 (by rw [e1]; exact hz), fun q h1 h2 => by rw [e1, hk q (Nat.lt_of_lt_of_le h1 hS.1) (fun z => h2 (by rw [← hb]; exact z))]; exact hS.2.1 q h1 h2, fun q hq => by
      rcases List.mem_append.mp hq with h | h
      · exact hS.2.2 q h
      · show zm_b M0 ≤ q.base
        rw [← hb]; exact hL q h⟩ T' rfl X'
  exact ⟨t2, st t2 a1, b1⟩
