/-! THE CLAIM OUT OF ONE WALK OF THE LAW'S BODY. Your part is whole_start (and what it stands on); all else here is the same for every law, but numbers. -/
def lw_P (b : Addr) (xs : List Int32) (args : Array Value) (s : State) : Prop := args = #[.ref b] ∧ s.IntsAt b xs ∧ xs.length ≤ 3072 ∧ (Jvm.Cond.and given_1 narrow_1).before args s = true
def lw_Q (_ : Array Value) (s : State) (o : Outcome) (t : State) : Prop := o = .returned (some (.int 1)) ∧ Framed s o t [] 600000 7302250
def lw_Z (below : List Frame) (a : Array Value) (s : State) : State → Prop := fun t => ∃ o, t.status = .running ∧ Ended t below o ∧ lw_Q a s o t
/-- the law's own end, with 1 on the stack, nothing written that was there before, its room as the claim has it -/
theorem lw_ret {p : Program} {l : Launch} {e : Env} {s : State} {m : MethodId} {below : List Frame} {meth : Method} {c : Code} {b : Nat} (hx : p.tables.exec = Jvm.exec) (hb : c.code = code) (hr : meth.sig.returnType = ret) (hlocks : meth.locks = false) {pc : Nat} {H : Heap} {ls : Array Slot} (hdg : decode code pc = .ok (.ireturn, 1)) : W p l e room_1 s m #[Value.ref b] below meth c H [] 600000 7302250 (lw_Z below #[Value.ref b] s) (F0 m pc ls [.int 1]) := by
  intro T hT X
  obtain ⟨fs, hret, hrun, hended, hW, hframe⟩ := X.leave (v := some (.int 1)) (hlocks := hlocks) (fun h => by rw [hr] at h; cases h)
  have hmeth' : T.vm.method? m = some meth := X.method'
  refine ⟨T.setFrames fs, ?_, .returned (some (.int 1)), hrun, hended, rfl, ⟨_, rfl⟩, hW, hframe⟩
  jvm_step X.here [X.here.top, hx, hb, hdg, hmeth', hr, ret, narrow_b1]
  (try refine ⟨rfl, ?_⟩); (try refine ⟨rfl, ?_⟩)
  first | (intro acts; rw [hret _ acts rfl rfl rfl]) | rw [hret _ _ rfl rfl rfl]
  exact Steps.refl _
/-- what holds at the law's entry: the machine, the code, the tables' words (any of lw_tbl by 'hts w (by decide +kernel)'), the script of L ints xs at the cell b, what the Statement gives of the start (any of its parts by flat_of_before) -/
def lw_At (p : Program) (s : State) (m : MethodId) (meth : Method) (c : Code) (b L : Nat) (xs : Nat → Int32) : Prop :=
  p.tables.exec = Jvm.exec ∧ c.code = code ∧ meth.sig.returnType = ret ∧ c.maxLocals = 4 ∧ s.vm.findClass R_law = some m.cls ∧ (∀ w ∈ lw_tbl, w.before #[Value.ref b] s = true) ∧ va_X b L xs s s.heap ∧ b < s.heap.size ∧ meth.locks = false ∧ (Jvm.Cond.and given_1 narrow_1).before #[Value.ref b] s = true

set_option maxRecDepth 100000 in
/-- the law from its entry, out of its reading as a function -/
theorem zstart {p : Program} {e : Env} {s : State} {m : MethodId} {below : List Frame} {meth : Method} {c : Code} (l : Launch) {b L : Nat} {xs : Nat → Int32} (C0 : lw_At p s m meth c b L xs) (hmain : ∀ M : Zm, zm_c M = 0 → zm_s M = 0 → zm_e M < zm_b M → ∃ M', zf_L_law xs L b M = some (M', 1)) : W p l e room_1 s m #[Value.ref b] below meth c s.heap [] 0 0 (lw_Z below #[Value.ref b] s) (entryFrame m ([Value.ref b] : List Value).toArray 4) := by
  obtain ⟨hx, hb, hr, hml, hown, hts, hX, hbl, hlocks, hgv⟩ := id C0
  have hs := flat_of_before _ hgv
  have hex : (Cond.exactly (.static "java/util/ArrayList" "DEFAULTCAPACITY_EMPTY_ELEMENTDATA" "[Ljava/lang/Object;") "[Ljava/lang/Object;").before #[Value.ref b] s = true := hs _ (by decide +kernel)
  have hao : (Cond.arrayOf (.static "java/util/ArrayList" "DEFAULTCAPACITY_EMPTY_ELEMENTDATA" "[Ljava/lang/Object;") (.object "java/lang/Object")).before #[Value.ref b] s = true := hs _ (by decide +kernel)
  have hlen : (Cond.eq (.length (.static "java/util/ArrayList" "DEFAULTCAPACITY_EMPTY_ELEMENTDATA" "[Ljava/lang/Object;")) (.int 0)).before #[Value.ref b] s = true := hs _ (by decide +kernel)
  have hmi : (Cond.isRef (.mirror "[Ljava/lang/Object;")).before #[Value.ref b] s = true := hs _ (by decide +kernel)
  obtain ⟨e0, ce, cell, ke, hev, hfc, hcell, -⟩ := Cond.exactly_spec hex
  have harr := (Cond.arrayOf_spec hao hev hcell).1
  have he0 : e0 < s.heap.size := (Array.getElem?_eq_some_iff.mp hcell).1
  have hl0 : ∀ tm : Term, tm.eval #[Value.ref b] s none [] s = some (.ref e0) → (Cond.eq (.length tm) (.int 0)).before #[Value.ref b] s = true → cell.slots.size = 0 := by
    intro tm hev hlen
    cases hat : s.arrayAt? e0 with
    | none => simp [Cond.before, Cond.holds, Cond.value, Term.eval, hev, hat] at hlen
    | some cell' =>
      have hc' : cell' = cell := Option.some.inj ((State.arrayAt?_spec hat).1.symm.trans hcell)
      subst hc'
      by_cases hn : cell'.slots.size < 2 ^ 31
      · have hl2 : (Term.length tm).eval #[Value.ref b] s none [] s = some (.int cell'.slots.size.toInt32) := by
          simp [Term.eval, hev, hat]
          omega
        have hv := Cond.eq_ints hl2 (show (Term.int 0).eval #[Value.ref b] s none [] s = some (.int 0) from rfl)
        have hd : cell'.slots.size.toInt32 = 0 := by simpa [Cond.before, Cond.holds, hv] using hlen
        exact (nI_eq hn (by decide)).mp (show nI cell'.slots.size = nI 0 from hd)
      · have hl2 : (Term.length tm).eval #[Value.ref b] s none [] s = none := by
          simp [Term.eval, hev, hat]
          omega
        simp [Cond.before, Cond.holds, Cond.value, hl2] at hlen
  have hsize : cell.slots.size = 0 := hl0 _ hev hlen
  obtain ⟨mi, hMi⟩ := va_Mi.of hmi
  have hZ : zEmp e0 s.heap.size s s.heap := va_Zref (hts (.laysStatic "java/util/ArrayList" "DEFAULTCAPACITY_EMPTY_ELEMENTDATA" "[Ljava/lang/Object;") (by decide +kernel)) (hts (.initialized "java/util/ArrayList") (by decide +kernel)) hev (fun a h => Nat.not_le.mpr h)
  have hKn : ∀ k : Nat, ∃ d : ClassId × (Nat → Nat), ∀ q, vwCl[k]? = some q → u_Kn s q.1 q.2.1 q.2.2 d.1 d.2 := by
    intro k
    have mk : ∀ {R : String} {T : u_T} {n : Nat}, vwCl[k]? = some (R, T, n) → (∀ w ∈ u_ws R T n, w ∈ zT) → Cond.instantiable R n ∈ lw_tbl → ∃ d : ClassId × (Nat → Nat), ∀ q, vwCl[k]? = some q → u_Kn s q.1 q.2.1 q.2.2 d.1 d.2 := by
      intro R T n hk h1 h2
      obtain ⟨cC, iS, h⟩ := u_known (C := R) (T := T) (N := n) (n := n) hts (fun w hw => (List.mem_filter.mp (h1 w hw)).1) (hts _ h2)
      exact ⟨(cC, iS), fun q hq => by rw [hk] at hq; cases hq; exact h⟩
    match k with
    | 0 => exact mk rfl zin_0 (by decide +kernel)
    | 1 => exact mk rfl zin_1 (by decide +kernel)
    | 2 => exact mk rfl zin_2 (by decide +kernel)
    | 3 => exact mk rfl zin_3 (by decide +kernel)
    | 4 => exact mk rfl zin_4 (by decide +kernel)
    | 5 => exact mk rfl zin_5 (by decide +kernel)
    | 6 => exact mk rfl zin_6 (by decide +kernel)
    | 7 => exact mk rfl zin_7 (by decide +kernel)
    | 8 => exact mk rfl zin_8 (by decide +kernel)
    | 9 => exact mk rfl zin_9 (by decide +kernel)
    | 10 => exact mk rfl zin_10 (by decide +kernel)
    | 11 => exact mk rfl zin_11 (by decide +kernel)
    | 12 => exact mk rfl zin_12 (by decide +kernel)
    | 13 => exact mk rfl zin_13 (by decide +kernel)
    | k + 14 => exact ⟨(0, fun _ => 0), fun q hq => by simp [vwCl] at hq⟩
  obtain ⟨dd, hdd⟩ := Classical.skolem.mp hKn
  obtain ⟨c14, k14, m14, a14, b14, d14⟩ := Cond.arrayClass_spec (hts (.arrayClass .int) (by decide +kernel))
  obtain ⟨c15, k15, m15, a15, b15, d15⟩ := Cond.arrayClass_spec (hts (.arrayClass .long) (by decide +kernel))
  obtain ⟨m16, c16, k16, g16, -, a16, b16, d16⟩ := Cond.arrayOver_spec (n := RX0) (hts (.arrayOver (.object RX0)) (by decide +kernel))
  obtain ⟨m17, c17, k17, g17, -, a17, b17, d17⟩ := Cond.arrayOver_spec (n := RX7) (hts (.arrayOver (.object RX7)) (by decide +kernel))
  obtain ⟨m18, c18, k18, g18, -, a18, b18, d18⟩ := Cond.arrayOver_spec (n := RX10) (hts (.arrayOver (.object RX10)) (by decide +kernel))
  obtain ⟨m19, c19, k19, g19, -, a19, b19, d19⟩ := Cond.arrayOver_spec (n := "java/lang/Object") (hts (.arrayOver (.object "java/lang/Object")) (by decide +kernel))
  have hK : zK (fun k => (dd k).1, fun k => (dd k).2) (fun t => if t = 14 then c14 else if t = 15 then c15 else if t = 16 then c16 else if t = 17 then c17 else if t = 18 then c18 else c19) s := by
    refine ⟨fun k q hq => hdd k q hq, fun k q hq => ?_⟩
    match k, hq with
    | 0, hq => cases hq; exact ⟨fun n z => ⟨fun k h => (by cases h), k14, b14, m14, d14⟩, a14⟩
    | 1, hq => cases hq; exact ⟨fun n z => ⟨fun k h => (by cases h), k15, b15, m15, d15⟩, a15⟩
    | 2, hq => cases hq; exact ⟨fun n z => ⟨fun k h => (by cases h), k16, a16, m16, b16⟩, k16, m16, a16, b16, g16, d16⟩
    | 3, hq => cases hq; exact ⟨fun n z => ⟨fun k h => (by cases h), k17, a17, m17, b17⟩, k17, m17, a17, b17, g17, d17⟩
    | 4, hq => cases hq; exact ⟨fun n z => ⟨fun k h => (by cases h), k18, a18, m18, b18⟩, k18, m18, a18, b18, g18, d18⟩
    | 5, hq => cases hq; exact ⟨fun n z => ⟨fun k h => (by cases h), k19, a19, m19, b19⟩, k19, m19, a19, b19, g19, d19⟩
    | k + 6, hq => simp [zm_tys] at hq
  generalize hD : ((fun k => (dd k).1, fun k => (dd k).2) : va_G) = D at hK
  generalize hcy : (fun t : Nat => if t = 14 then c14 else if t = 15 then c15 else if t = 16 then c16 else if t = 17 then c17 else if t = 18 then c18 else c19) = cy at hK
  obtain ⟨M0, hM0⟩ : ∃ M0 : Zm, M0 = ((e0, mi), s.heap.size, 0, 0, fun _ => 0, fun _ => 0, fun _ _ => 0, fun _ _ => 0, fun _ _ => none) := ⟨_, rfl⟩
  have q1 : zm_c M0 = 0 := by rw [hM0]; rfl
  have q2 : zm_s M0 = 0 := by rw [hM0]; rfl
  have q3 : zm_b M0 = s.heap.size := by rw [hM0]; rfl
  have q4 : zm_e M0 = e0 := by rw [hM0]; rfl
  have q5 : zm_h M0 = mi := by rw [hM0]; rfl
  clear hM0
  have hxo : zx_ok (p, l, e, s, m, #[Value.ref b], below, meth, c, D, cy, M0, lw_Z below #[Value.ref b] s) zC_L_law :=
    ⟨hx, hb, hml, hown, fun w hw => hts w (List.mem_filter.mp hw).1, hK, by rw [q3, q4]; exact hZ, hlocks, by rw [q1, q3]; rfl, by rw [q3, q4]; exact he0, by rw [q4]; exact ⟨cell, hcell, harr, hsize⟩, fun h => (by cases h), by rw [q5]; exact hMi⟩
  obtain ⟨M', hM'⟩ := hmain M0 q1 q2 (by rw [q3, q4]; exact he0)
  have hscr : zScr (p, l, e, s, m, #[Value.ref b], below, meth, c, D, cy, M0, lw_Z below #[Value.ref b] s) b L xs := ⟨hX, hbl, by rw [q3]; exact hbl⟩
  have hz := zt_L_law hscr hM' (fun _ pc lv hd => ?_)
  · have hl := lv_entry ([.ref b]) (n := 4) (Nat.le_of_ble_eq_true rfl)
    rw [lg_entry_eq]
    have hH : zH D cy M0 s.heap := by
      intro k q hq
      have := (zm_Wlt hq).2
      omega
    have := hz hxo ⟨rfl, rfl, Nat.le_refl _, Nat.le_refl _, by omega, by omega⟩ s.heap [] _ hH va_S.rf hl
    rw [Nat.sub_self, Nat.sub_self, show zx_R M0 zC_L_law = room_1 from by unfold zx_R; rw [q1, q2]; rfl] at this
    exact this
  · intro hx2 hle H locs ls hH hS hl
    rw [show zx_R M0 zC_L_law = room_1 from by unfold zx_R; rw [q1, q2]; rfl]
    exact va_forget (fun q hq => by have := hS.2.2 q hq; rw [q3] at this; exact this) (W.widen (k := 600000) (n := 7302250) (by have := hle.2.2.2.2.1; omega) (by have := hle.2.2.2.2.2; omega) (lw_ret hx hb hr hlocks hd))
