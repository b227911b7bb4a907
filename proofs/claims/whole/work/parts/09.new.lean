/-! Lengths, new cells, casts, the shared empty row, copies, Math, Object's constructor. -/
theorem zV_al {X : Zx} {C : Zc} {M : Zm} {pc : Nat} {lv : Zl} {st : List Zv} {β : Type} {z : β} {r : Option Nat} {g : Int32 → Option β} (hd : decode C.1 pc = .ok (.arraylength, 1)) (h : zb1 (zo_al M r) g = some z) (kk : ∀ v, zo_al M r = some v → g v = some z → zV X C M (pc + 1) lv (.inl v :: st)) : zV X C M pc lv (.inr (.inr r) :: st) := by
  obtain ⟨v, e, h⟩ := zb1_inv h
  have kk := kk v e h
  unfold zo_al at e
  obtain ⟨p, l, e0, s, m, args, below, meth, cd, D, cy, M0, Q⟩ := X
  intro hx hle H locs ls hH hS hl
  split at e
  · cases e
  · split at e
    · rename_i a hc2; cases e
      by_cases h14 : zm_k M a = 14
      · exact va_alen (x := (zm_l M a, .inl (zm_i M a))) hx.1 hx.2.1 hx.2.2.2.2.2.1 hH (a - zm_b M) 0 (by rw [zm_Wat hc2.1, zm_cellI h14]) (ty := .int) rfl rfl hd (kk hx hle H locs ls hH hS hl)
      · by_cases h15 : zm_k M a = 15
        · exact va_alen (x := (zm_l M a, .inr (.inl (zm_j M a)))) hx.1 hx.2.1 hx.2.2.2.2.2.1 hH (a - zm_b M) 1 (by rw [zm_Wat hc2.1, zm_cellJ h15]) (ty := .long) rfl rfl hd (kk hx hle H locs ls hH hS hl)
        · exact va_alen (x := (zm_l M a, .inr (.inr (.inr (.inr (zm_r M a)))))) hx.1 hx.2.1 hx.2.2.2.2.2.1 hH (a - zm_b M) (zm_k M a - 14) (by rw [zm_Wat hc2.1, zm_cellR rfl (by omega)]) (zm_tyR (by omega) (by omega)) rfl hd (kk hx hle H locs ls hH hS hl)
    · split at e
      · rename_i a hc2 he; cases e
        obtain ⟨-, -, -, -, -, hK, -, -, hsz, heb, hem, -⟩ := id hx
        obtain ⟨cell, hc1, hc2', hc3⟩ := hem
        have hcell : H[a]? = some cell := by
          rw [he, show zm_e M = zm_e M0 from congrArg Prod.fst hle.1, hS.2.1 _ (by rw [hsz]; omega) (by show ¬ zm_b M0 ≤ zm_e M0; omega)]
          exact hc1
        exact W.alen (n := 0) hx.1 hx.2.1 hcell hc2' (by rw [hc3]; rfl) rfl rfl hd (kk hx hle H locs ls hH hS hl)
      · cases e
theorem zm_n_cell {cy : Nat → ClassId} {M : Zm} {k n x : Nat} (h : x ≠ zm_b M + zm_c M) : zm_cell cy (zm_n M k n) x = zm_cell cy M x := by
  refine zm_cellC ?_ ?_ (zm_zN h) (zm_zN h) (zm_zN h)
  · show va_up _ _ _ _ = _; simp [va_up, h]
  · show va_up _ _ _ _ = _; simp [va_up, h]
theorem zm_n_k {M : Zm} {k n : Nat} : zm_k (zm_n M k n) (zm_b M + zm_c M) = k := by show va_up _ _ _ _ = _; simp [va_up]
theorem zm_n_l {M : Zm} {k n : Nat} : zm_l (zm_n M k n) (zm_b M + zm_c M) = n := by show va_up _ _ _ _ = _; simp [va_up]
theorem zm_n_i {M : Zm} {k n : Nat} : zm_i (zm_n M k n) (zm_b M + zm_c M) = fun _ => 0 := zm_zS
theorem zm_n_j {M : Zm} {k n : Nat} : zm_j (zm_n M k n) (zm_b M + zm_c M) = fun _ => 0 := zm_zS
theorem zm_n_r {M : Zm} {k n : Nat} : zm_r (zm_n M k n) (zm_b M + zm_c M) = fun _ => none := zm_zS
theorem zle.new {M0 M : Zm} {k n : Nat} (h : zle M0 M) (h1 : zm_c M + 1 ≤ 600000) (h2 : zm_s M + n ≤ 7302250) : zle M0 (zm_n M k n) := ⟨h.1, h.2.1, Nat.le_trans h.2.2.1 (Nat.le_succ _), Nat.le_trans h.2.2.2.1 (Nat.le_add_right _ _), h1, h2⟩
/-- behind a new cell -/
theorem zfinN {X : Zx} {C : Zc} {M : Zm} {k n pc : Nat} {lv : Zl} {st : List Zv} (kk : zV X C (zm_n M k n) pc lv st) (h1 : zm_c M + 1 ≤ 600000) (h2 : zm_s M + n ≤ 7302250) : zx_ok X C → match X with
  | (p, l, e, s, m, args, below, meth, c, D, cy, M0, Q) => zle M0 M → ∀ (H H1 : Heap) (locs : List Loc) (ls : Array Slot) (E : va_E), zm_cell cy (zm_n M k n) (zm_b M + zm_c M) = E → H.size = zm_b M + zm_c M → va_at D vwCl (zm_b M + zm_c M, E) H1 → H1.size = zm_b M + zm_c M + 1 → (∀ q, q < zm_b M + zm_c M → H1[q]? = H[q]?) → zH D cy M H → va_S (fun q => zm_b M0 ≤ q) s.heap H locs → lv_has ls C.2.1 (zvl lv) →
    W p l e (zx_R M0 C) s m args below meth c H1 locs (zm_c M - zm_c M0 + 1) (zm_s M - zm_s M0 + n) Q (F0 m pc ls (st.map zv)) := by
  obtain ⟨p, l, e, s, m, args, below, meth, cd, D, cy, M0, Q⟩ := X
  intro hx hle H H1 locs ls E hE hsz hat hz1 ho hH hS hl
  have hP1 : zH D cy (zm_n M k n) H1 := by
    show va_P D vwCl (zm_W cy (zm_n M k n)) H1
    rw [← zm_Wpush (M := M) (M' := zm_n M k n) rfl rfl hE (fun x h => zm_n_cell h)]
    refine (va_P.kept hH (fun k x hx => ho x.1 (by rw [← hsz]; exact (hH k x hx).lt))).app (fun k x hx => ?_)
    have hk : k = 0 := by
      have := (List.getElem?_eq_some_iff.mp hx).1
      simp only [List.length_cons, List.length_nil] at this
      omega
    subst hk
    cases hx
    exact hat
  have hS1 : va_S (fun q => zm_b M0 ≤ q) s.heap H1 locs := ⟨Nat.le_trans hS.1 (by omega), fun x h3 h4 => (ho x (by rw [← hsz]; exact Nat.lt_of_lt_of_le h3 hS.1)).trans (hS.2.1 x h3 h4), hS.2.2⟩
  have := kk hx (hle.new h1 h2) H1 locs ls hP1 hS1 hl
  rw [show zm_c (zm_n M k n) - zm_c M0 = zm_c M - zm_c M0 + 1 from by have := hle.2.2.1; show zm_c M + 1 - _ = _; omega, show zm_s (zm_n M k n) - zm_s M0 = zm_s M - zm_s M0 + n from by have := hle.2.2.2.1; show zm_s M + n - _ = _; omega] at this
  exact this
def zNw (own : String) (index c n : Nat) : Prop := ∃ (R : String) (T : u_T) (ty : Nat → FieldType), vwCl[c]? = some (R, T, n) ∧ c < 14 ∧ (∀ w ∈ u_ws R T n, w ∈ zT) ∧ (∀ k, k < n → parseFieldDescriptor (T k).2.2.1 = some (ty k)) ∧ Cond.classLink own index R ∈ zT ∧ Cond.instantiable R n ∈ zT ∧ Cond.initialized R ∈ zT ∧ (zm_ft c).length = n ∧ ∀ j, j < n → defaultValue (ty j) = (if (zm_ft c).getD j 0 = 1 then .long 0 else if (zm_ft c).getD j 0 = 2 then .null else .int 0)
theorem zV_n {X : Zx} {C : Zc} {M : Zm} {pc index c n : Nat} {lv : Zl} {st : List Zv} {β : Type} {z : β} {g : Zm → Option β} (hd : decode C.1 pc = .ok (.new index, 3)) (hn : zNw C.2.2.1 index c n) (h : zb1 (zo_n M c n) g = some z) (kk : ∀ M', zo_n M c n = some M' → g M' = some z → zV X C M' (pc + 3) lv (.inr (.inr (zm_nx M)) :: st)) : zV X C M pc lv st := by
  obtain ⟨M', e, h⟩ := zb1_inv h
  have kk := kk M' e h
  unfold zo_n at e
  split at e
  · rename_i hc2; cases e
    obtain ⟨R, T, ty, h1, h2, h3, h4, h5, h6, h7, h8, h9⟩ := hn
    obtain ⟨p, l, e0, s, m, args, below, meth, cd, D, cy, M0, Q⟩ := X
    intro hx hle H locs ls hH hS hl
    have hKn := hx.2.2.2.2.2.1.1 c _ h1
    refine zW_size hx.2.2.2.2.2.2.2.2.1 hle hH hS (fun hsz => ?_)
    refine W.newcK hx.1 hx.2.1 hx.2.2.2.1 (hx.2.2.2.2.1 _ h5) (hx.2.2.2.2.1 _ h6) (hx.2.2.2.2.1 _ h7) rfl hd (by show _ + 1 ≤ 600000 - zm_c M0; have := hle.2.2.1; omega) (by show _ + n ≤ 7302250 - zm_s M0; have := hle.2.2.2.1; omega) hKn.2.1 hsz (fun H1 kC hkC e1 z1 o1 => ?_)
    refine zfinN kk hc2.1 hc2.2 hx hle H H1 locs ls _ (zm_cellO zm_n_k h2) hsz ⟨_, h1, (u_born ty hx.2.2.2.2.1 h3 hKn hkC e1 h4).to (fun j hj => ?_)⟩ z1 o1 hH hS hl
    rw [h9 j hj]
    have hj2 : j < (zm_ft c).length := by rw [h8]; exact hj
    have ht : (zm_ft c)[j]? = some ((zm_ft c).getD j 0) := by simp [List.getD_eq_getElem?_getD, List.getElem?_eq_getElem hj2]
    have h10 := zm_fsAt (M := zm_n M c n) (a := zm_b M + zm_c M) ht
    simp only [vp_V, List.getD_eq_getElem?_getD, h10, Option.getD_some, zm_fv, zm_n_i, zm_n_j, zm_n_r]
    rfl
  · cases e
theorem zV_na {X : Zx} {C : Zc} {M : Zm} {pc k : Nat} {lv : Zl} {st : List Zv} {β : Type} {z : β} {n : Int32} {g : Zm → Option β} {at_ : ArrayType} (hd : decode C.1 pc = .ok (.newarray at_, 2)) (hk : at_ = .int ∧ k = 14 ∨ at_ = .long ∧ k = 15) (h : zb1 (zo_na M k n) g = some z) (kk : ∀ M', zo_na M k n = some M' → g M' = some z → zV X C M' (pc + 2) lv (.inr (.inr (zm_nx M)) :: st)) : zV X C M pc lv (.inl n :: st) := by
  obtain ⟨M', e, h⟩ := zb1_inv h
  have kk := kk M' e h
  unfold zo_na at e
  split at e
  · rename_i hc2; cases e
    obtain ⟨p, l, e0, s, m, args, below, meth, cd, D, cy, M0, Q⟩ := X
    intro hx hle H locs ls hH hS hl
    refine zW_size hx.2.2.2.2.2.2.2.2.1 hle hH hS (fun hsz => ?_)
    rcases hk with ⟨rfl, rfl⟩ | ⟨rfl, rfl⟩
    · have harr : (Cond.arrayClass (newarray.typeOf .int)).before args s = true := hx.2.2.2.2.1 (.arrayClass .int) (by decide +kernel)
      refine va_newaK (atype := .int) (N := n.toNatClampNeg) hx.1 hx.2.1 harr (g := F0 m pc ls (.int n :: st.map zv)) rfl hd rfl hc2.1 rfl (by have := hc2.2.2; show _ * 4 ≤ _; omega) (by show _ + 1 ≤ 600000 - zm_c M0; have := hle.2.2.1; omega) (by show _ + _ ≤ 7302250 - zm_s M0; have := hle.2.2.2.1; omega) hsz (fun H1 cA e1 z1 o1 hAr hNm => ?_)
      have hcy : cA = cy 14 := Option.some.inj (hNm.symm.trans (hx.2.2.2.2.2.1.2 0 _ rfl).2)
      subst hcy
      refine zfinN kk hc2.2.1 hc2.2.2 hx hle H H1 locs ls _ (zm_cellI zm_n_k) hsz ?_ z1 o1 hH hS hl
      rw [zm_n_l, zm_n_i]
      exact e1
    · have harr : (Cond.arrayClass (newarray.typeOf .long)).before args s = true := hx.2.2.2.2.1 (.arrayClass .long) (by decide +kernel)
      refine va_newaK (atype := .long) (N := n.toNatClampNeg) hx.1 hx.2.1 harr (g := F0 m pc ls (.int n :: st.map zv)) rfl hd rfl hc2.1 rfl (by have := hc2.2.2; show _ * 8 ≤ _; omega) (by show _ + 1 ≤ 600000 - zm_c M0; have := hle.2.2.1; omega) (by show _ + _ ≤ 7302250 - zm_s M0; have := hle.2.2.2.1; omega) hsz (fun H1 cA e1 z1 o1 hAr hNm => ?_)
      have hcy : cA = cy 15 := Option.some.inj (hNm.symm.trans (hx.2.2.2.2.2.1.2 1 _ rfl).2)
      subst hcy
      refine zfinN kk hc2.2.1 hc2.2.2 hx hle H H1 locs ls _ (zm_cellJ zm_n_k) hsz ?_ z1 o1 hH hS hl
      rw [zm_n_l, zm_n_j]
      exact e1
  · cases e
theorem zV_nr {X : Zx} {C : Zc} {M : Zm} {pc k index : Nat} {lv : Zl} {st : List Zv} {β : Type} {z : β} {n : Int32} {g : Zm → Option β} (hd : decode C.1 pc = .ok (.anewarray index, 3)) (h1 : 16 ≤ k) (h2 : k < 20) (hw : Cond.classLink C.2.2.1 index (zm_nm k) ∈ zT) (h : zb1 (zo_na M k n) g = some z) (kk : ∀ M', zo_na M k n = some M' → g M' = some z → zV X C M' (pc + 3) lv (.inr (.inr (zm_nx M)) :: st)) : zV X C M pc lv (.inl n :: st) := by
  obtain ⟨M', e, h⟩ := zb1_inv h
  have kk := kk M' e h
  unfold zo_na at e
  split at e
  · rename_i hc2; cases e
    obtain ⟨p, l, e0, s, m, args, below, meth, cd, D, cy, M0, Q⟩ := X
    intro hx hle H locs ls hH hS hl
    refine zW_size hx.2.2.2.2.2.2.2.2.1 hle hH hS (fun hsz => ?_)
    have hov : Cond.arrayOver (.object (zm_nm k)) ∈ zT := by
      rcases (show k = 16 ∨ k = 17 ∨ k = 18 ∨ k = 19 by omega) with rfl | rfl | rfl | rfl <;> decide +kernel
    refine W.anew hx.1 hx.2.1 hx.2.2.2.1 (hx.2.2.2.2.1 _ hw) (hx.2.2.2.2.1 _ hov) rfl hd rfl hc2.1 (by have := hc2.2.2; omega) (by show _ + 1 ≤ 600000 - zm_c M0; have := hle.2.2.1; omega) (by show _ + _ ≤ 7302250 - zm_s M0; have := hle.2.2.2.1; omega) (fun cA kA comp f1 f2 f3 f4 => ?_)
    obtain ⟨_, _, -, -, -, hNm⟩ := (hx.2.2.2.2.2.1.2 (k - 14) _ (zm_tyR h1 h2)).2
    have hcy : cA = cy k := Option.some.inj (f1.symm.trans hNm)
    subst hcy
    generalize hH1 : H.push ({ cls := cy k, slots := Array.replicate n.toNatClampNeg .null, vm := .none } : Cell) = H1
    have z1 : H1.size = zm_b M + zm_c M + 1 := by rw [← hH1, Array.size_push, hsz]
    have e1 : H1[zm_b M + zm_c M]? = some (arrV (cy k) n.toNatClampNeg (fun _ => .null)) := by rw [← hH1, ← hsz, Array.getElem?_push_size, ← arrV_new]
    have o1 : ∀ q : Nat, q < zm_b M + zm_c M → H1[q]? = H[q]? := fun q hq => by rw [← hH1, Array.getElem?_push, if_neg (by rw [hsz]; exact Nat.ne_of_lt hq)]
    have hg := zfinN kk hc2.2.1 hc2.2.2 hx hle H H1 locs ls _ (zm_cellR zm_n_k h1) hsz (by rw [zm_n_l, zm_n_r]; exact e1) z1 o1 hH hS hl
    rw [hsz]
    exact hg
  · cases e
def zCk (own : String) (index c : Nat) : Prop := ∃ (R : String) (T : u_T) (N : Nat), vwCl[c]? = some (R, T, N) ∧ c < 14 ∧ Cond.classLink own index R ∈ zT ∧ Cond.castable R R ∈ zT
theorem zV_cc {X : Zx} {C : Zc} {M : Zm} {pc index c : Nat} {lv : Zl} {st : List Zv} {β : Type} {z : β} {r : Option Nat} {g : Unit → Option β} (hd : decode C.1 pc = .ok (.checkcast index, 3)) (hw : zCk C.2.2.1 index c) (h : zb1 (zo_cc M r c) g = some z) (kk : ∀ u, zo_cc M r c = some u → g u = some z → zV X C M (pc + 3) lv (.inr (.inr r) :: st)) : zV X C M pc lv (.inr (.inr r) :: st) := by
  obtain ⟨u, e, h⟩ := zb1_inv h
  have kk := kk u e h
  unfold zo_cc at e
  split at e
  · exact zV_w (fun _ _ _ _ _ _ _ _ _ _ _ _ _ _ _ ls hx hb hl k => lv_castN hx hb hd (k ls hl)) kk
  · split at e
    · rename_i a _ hc2
      obtain ⟨R, T, N, h1, h2, h3, h4⟩ := hw
      obtain ⟨p, l, e0, s, m, args, below, meth, cd, D, cy, M0, Q⟩ := X
      intro hx hle H locs ls hH hS hl
      exact va_castY (C := R) hx.1 hx.2.1 hx.2.2.2.1 (hx.2.2.2.2.1 _ h3) (va_Nw.of rfl (hx.2.2.2.2.1 _ h4)) (va_recv hx.2.2.2.2.2.1 hH h1 (q0 := a - zm_b M) (by rw [zm_Wat hc2.1, zm_cellO hc2.2 h2])) hd (kk hx hle H locs ls hH hS hl)
    · cases e
theorem zV_gs {X : Zx} {C : Zc} {M : Zm} {pc index : Nat} {lv : Zl} {st : List Zv} (hd : decode C.1 pc = .ok (.getstatic index, 3)) (hw : Cond.fieldLink C.2.2.1 index "java/util/ArrayList" "DEFAULTCAPACITY_EMPTY_ELEMENTDATA" "[Ljava/lang/Object;" ∈ zT) (kk : zV X C M (pc + 3) lv (.inr (.inr (some (zm_e M))) :: st)) : zV X C M pc lv st := by
  obtain ⟨p, l, e0, s, m, args, below, meth, cd, D, cy, M0, Q⟩ := X
  intro hx hle H locs ls hH hS hl
  have hZ := hx.2.2.2.2.2.2.1
  rw [← show zm_e M = zm_e M0 from congrArg Prod.fst hle.1] at hZ
  exact va_gets hx.1 hx.2.1 hZ hS hx.2.2.2.1 (hx.2.2.2.2.1 _ hw) (fun _ h => h) hd (kk hx hle H locs ls hH hS hl)
def zsum (st : List Zv) : Nat := (st.map (fun v => if zc2 v = true then 2 else 1)).sum
theorem zsum_eq (st : List Zv) : ((st.map zv).map fun v => v.category).sum = zsum st := by
  simp only [zsum, List.map_map]
  congr 1
  apply List.map_congr_left
  intro v _
  simp only [Function.comp, zc2_cat]
theorem zV_oi {X : Zx} {C : Zc} {M : Zm} {pc index a : Nat} {lv : Zl} {r : Option Nat} (hd : decode C.1 pc = .ok (.invokespecial index, 3)) (hw : Cond.methodLink C.2.2.1 index objectInit ∈ zT) (hr : r = some a) (hfr : 1 ≤ C.2.2.2.1) (hlo : 12 ≤ C.2.2.2.2.1) (kk : zV X C M (pc + 3) lv []) : zV X C M pc lv [.inr (.inr r)] := by
  subst hr
  obtain ⟨p, l, e0, s, m, args, below, meth, cd, D, cy, M0, Q⟩ := X
  intro hx hle H locs ls hH hS hl
  exact W.objInit hx.1 hx.2.1 hx.2.2.2.1 (hx.2.2.2.2.1 _ hw) (hx.2.2.2.2.1 (.instanceMethod objectInit) (by decide +kernel)) (hx.2.2.2.2.1 (.code objectInit ⟨#[0xb1]⟩ 1 none) (by decide +kernel)) rfl (by rw [hx.2.2.1]; exact hl.1) rfl hd hfr (by show 2 * 0 + 0 + 12 ≤ _; exact hlo) (kk hx hle H locs ls hH hS hl)
