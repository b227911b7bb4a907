/-! Copies of rows, Math; a method's contract over memories; calls. -/
theorem zV_ci {X : Zx} {C : Zc} {M : Zm} {pc index : Nat} {lv : Zl} {st : List Zv} {β : Type} {z : β} {r q : Option Nat} {sp dp n : Int32} {g : Zm → Option β} (hd : decode C.1 pc = .ok (.invokestatic index, 3)) (hw : Cond.methodLink C.2.2.1 index arraycopyName ∈ zT) (hfr : 1 ≤ C.2.2.2.1) (hlo : zsum st + 18 ≤ C.2.2.2.2.1) (h : zb1 (zo_ci M r sp q dp n) g = some z) (kk : ∀ M', zo_ci M r sp q dp n = some M' → g M' = some z → zV X C M' (pc + 3) lv st) : zV X C M pc lv (.inl n :: .inl dp :: .inr (.inr q) :: .inl sp :: .inr (.inr r) :: st) := by
  obtain ⟨M', e, h⟩ := zb1_inv h
  have kk := kk M' e h
  unfold zo_ci at e
  split at e
  · split at e
    · rename_i a b hc2; cases e
      obtain ⟨⟨ha, hb⟩, ⟨h1, h2, h3⟩, h4, h5⟩ := hc2
      obtain ⟨p, l, e0, s, m, args, below, meth, cd, D, cy, M0, Q⟩ := X
      intro hx hle H locs ls hH hS hl
      refine va_copyi (ty := .int) hx.1 hx.2.1 (by rw [hx.2.2.1]; exact hl.1.symm) hx.2.2.2.1 (hx.2.2.2.2.1 _ hw) (hx.2.2.2.2.1 (.native arraycopyName) (by decide +kernel)) (hx.2.2.2.2.1 (.static arraycopyName) (by decide +kernel)) (hx.2.2.2.2.1 (.initialized "java/lang/System") (by decide +kernel)) hx.2.2.2.2.2.1 hH (zm_D (Nat.le_of_eq hle.2.1.symm)) hS (a - zm_b M) (b - zm_b M) 0 0 (by rw [zm_Wat ha.1, zm_cellI ha.2]) (by rw [zm_Wat hb.1, zm_cellI hb.2]) rfl rfl rfl h1 h2 h3 h4 h5 (fun i _ => rfl) hfr (by rw [zsum_eq]; exact hlo) hd (fun H1 locs1 hP1 _ hS1 => ?_)
      rw [zm_Wset (M' := zm_ri M b (va_cpy (zm_i M a) (zm_i M b) sp.toNatClampNeg dp.toNatClampNeg n.toNatClampNeg)) hb.1 rfl rfl (by rw [zm_cellI (M := zm_ri M b _) (a := b) hb.2]; simp only [zm_ri, zm_i, zm_l, zm_zS]) (fun y hy => zm_cellC rfl rfl (zm_zN hy) rfl rfl)] at hP1
      exact zfin kk rfl rfl rfl rfl hx hle H1 locs1 ls hP1 hS1 hl
    · cases e
  · cases e
theorem zV_cj {X : Zx} {C : Zc} {M : Zm} {pc index : Nat} {lv : Zl} {st : List Zv} {β : Type} {z : β} {r q : Option Nat} {sp dp n : Int32} {g : Zm → Option β} (hd : decode C.1 pc = .ok (.invokestatic index, 3)) (hw : Cond.methodLink C.2.2.1 index arraycopyName ∈ zT) (hfr : 1 ≤ C.2.2.2.1) (hlo : zsum st + 18 ≤ C.2.2.2.2.1) (h : zb1 (zo_cj M r sp q dp n) g = some z) (kk : ∀ M', zo_cj M r sp q dp n = some M' → g M' = some z → zV X C M' (pc + 3) lv st) : zV X C M pc lv (.inl n :: .inl dp :: .inr (.inr q) :: .inl sp :: .inr (.inr r) :: st) := by
  obtain ⟨M', e, h⟩ := zb1_inv h
  have kk := kk M' e h
  unfold zo_cj at e
  split at e
  · split at e
    · rename_i a b hc2; cases e
      obtain ⟨⟨ha, hb⟩, ⟨h1, h2, h3⟩, h4, h5⟩ := hc2
      obtain ⟨p, l, e0, s, m, args, below, meth, cd, D, cy, M0, Q⟩ := X
      intro hx hle H locs ls hH hS hl
      refine va_copyl (ty := .long) hx.1 hx.2.1 (by rw [hx.2.2.1]; exact hl.1.symm) hx.2.2.2.1 (hx.2.2.2.2.1 _ hw) (hx.2.2.2.2.1 (.native arraycopyName) (by decide +kernel)) (hx.2.2.2.2.1 (.static arraycopyName) (by decide +kernel)) (hx.2.2.2.2.1 (.initialized "java/lang/System") (by decide +kernel)) hx.2.2.2.2.2.1 hH (zm_D (Nat.le_of_eq hle.2.1.symm)) hS (a - zm_b M) (b - zm_b M) 1 1 (by rw [zm_Wat ha.1, zm_cellJ ha.2]) (by rw [zm_Wat hb.1, zm_cellJ hb.2]) rfl rfl rfl h1 h2 h3 h4 h5 (fun i _ => rfl) hfr (by rw [zsum_eq]; exact hlo) hd (fun H1 locs1 hP1 _ hS1 => ?_)
      rw [zm_Wset (M' := zm_rj M b (va_cpy (zm_j M a) (zm_j M b) sp.toNatClampNeg dp.toNatClampNeg n.toNatClampNeg)) hb.1 rfl rfl (by rw [zm_cellJ (M := zm_rj M b _) (a := b) hb.2]; simp only [zm_rj, zm_j, zm_l, zm_zS]) (fun y hy => zm_cellC rfl rfl rfl (zm_zN hy) rfl)] at hP1
      exact zfin kk rfl rfl rfl rfl hx hle H1 locs1 ls hP1 hS1 hl
    · cases e
  · cases e
def zmaxi (x y : Int32) : Int32 := if x < y then y else x
def zmini (x y : Int32) : Int32 := if y < x then y else x
def zmaxl (x y : Int64) : Int64 := if y < x then x else y
def zminl (x y : Int64) : Int64 := if y < x then y else x
theorem zV_maxi {X : Zx} {C : Zc} {M : Zm} {pc index : Nat} {lv : Zl} {st : List Zv} {x y : Int32} (hd : decode C.1 pc = .ok (.invokestatic index, 3)) (hw : Cond.methodLink C.2.2.1 index Lib.Math.max.name ∈ zT) (hfr : 1 ≤ C.2.2.2.1) (hlo : zsum st + 13 ≤ C.2.2.2.2.1) (kk : zV X C M (pc + 3) lv (.inl (zmaxi x y) :: st)) : zV X C M pc lv (.inl y :: .inl x :: st) := by
  obtain ⟨p, l, e0, s, m, args, below, meth, cd, D, cy, M0, Q⟩ := X
  intro hx hle H locs ls hH hS hl
  exact va_mmax hx.1 hx.2.1 (by rw [hx.2.2.1]; exact hl.1.symm) hx.2.2.2.1 (hx.2.2.2.2.1 _ hw) (hx.2.2.2.2.1 (.static Lib.Math.max.name) (by decide +kernel)) (hx.2.2.2.2.1 (.initialized "java/lang/Math") (by decide +kernel)) (hx.2.2.2.2.1 (.code Lib.Math.max.name Lib.Math.max.code 2 (some .int)) (by decide +kernel)) hfr (by rw [zsum_eq]; exact hlo) (by show _ ≤ 600000 - zm_c M0; have := hle.2.2.2.2.1; omega) (by show _ ≤ 7302250 - zm_s M0; have := hle.2.2.2.2.2; omega) hd (kk hx hle H locs ls hH hS hl)
theorem zV_mini {X : Zx} {C : Zc} {M : Zm} {pc index : Nat} {lv : Zl} {st : List Zv} {x y : Int32} (hd : decode C.1 pc = .ok (.invokestatic index, 3)) (hw : Cond.methodLink C.2.2.1 index Lib.Math.min.name ∈ zT) (hfr : 1 ≤ C.2.2.2.1) (hlo : zsum st + 13 ≤ C.2.2.2.2.1) (kk : zV X C M (pc + 3) lv (.inl (zmini x y) :: st)) : zV X C M pc lv (.inl y :: .inl x :: st) := by
  obtain ⟨p, l, e0, s, m, args, below, meth, cd, D, cy, M0, Q⟩ := X
  intro hx hle H locs ls hH hS hl
  exact va_mmin hx.1 hx.2.1 (by rw [hx.2.2.1]; exact hl.1.symm) hx.2.2.2.1 (hx.2.2.2.2.1 _ hw) (hx.2.2.2.2.1 (.static Lib.Math.min.name) (by decide +kernel)) (hx.2.2.2.2.1 (.initialized "java/lang/Math") (by decide +kernel)) (hx.2.2.2.2.1 (.code Lib.Math.min.name Lib.Math.min.code 2 (some .int)) (by decide +kernel)) hfr (by rw [zsum_eq]; exact hlo) (by show _ ≤ 600000 - zm_c M0; have := hle.2.2.2.2.1; omega) (by show _ ≤ 7302250 - zm_s M0; have := hle.2.2.2.2.2; omega) hd (kk hx hle H locs ls hH hS hl)
theorem zV_maxl {X : Zx} {C : Zc} {M : Zm} {pc index : Nat} {lv : Zl} {st : List Zv} {x y : Int64} (hd : decode C.1 pc = .ok (.invokestatic index, 3)) (hw : Cond.methodLink C.2.2.1 index Lib.MathLoose.max_long.x ∈ zT) (hfr : 1 ≤ C.2.2.2.1) (hlo : zsum st + 15 ≤ C.2.2.2.2.1) (kk : zV X C M (pc + 3) lv (.inr (.inl (zmaxl x y)) :: st)) : zV X C M pc lv (.inr (.inl y) :: .inr (.inl x) :: st) := by
  obtain ⟨p, l, e0, s, m, args, below, meth, cd, D, cy, M0, Q⟩ := X
  intro hx hle H locs ls hH hS hl
  exact va_mmax_long hx.1 hx.2.1 (by rw [hx.2.2.1]; exact hl.1.symm) hx.2.2.2.1 (hx.2.2.2.2.1 _ hw) (hx.2.2.2.2.1 (.static Lib.MathLoose.max_long.x) (by decide +kernel)) (hx.2.2.2.2.1 (.initialized "java/lang/Math") (by decide +kernel)) (hx.2.2.2.2.1 (.code Lib.MathLoose.max_long.x Lib.MathLoose.max_long.code 4 (some .long)) (by decide +kernel)) hfr (by rw [zsum_eq]; exact hlo) (by show _ ≤ 600000 - zm_c M0; have := hle.2.2.2.2.1; omega) (by show _ ≤ 7302250 - zm_s M0; have := hle.2.2.2.2.2; omega) hd (kk hx hle H locs ls hH hS hl)
theorem zV_minl {X : Zx} {C : Zc} {M : Zm} {pc index : Nat} {lv : Zl} {st : List Zv} {x y : Int64} (hd : decode C.1 pc = .ok (.invokestatic index, 3)) (hw : Cond.methodLink C.2.2.1 index Lib.MathLoose.min_long.x ∈ zT) (hfr : 1 ≤ C.2.2.2.1) (hlo : zsum st + 15 ≤ C.2.2.2.2.1) (kk : zV X C M (pc + 3) lv (.inr (.inl (zminl x y)) :: st)) : zV X C M pc lv (.inr (.inl y) :: .inr (.inl x) :: st) := by
  obtain ⟨p, l, e0, s, m, args, below, meth, cd, D, cy, M0, Q⟩ := X
  intro hx hle H locs ls hH hS hl
  exact va_mmin_long hx.1 hx.2.1 (by rw [hx.2.2.1]; exact hl.1.symm) hx.2.2.2.1 (hx.2.2.2.2.1 _ hw) (hx.2.2.2.2.1 (.static Lib.MathLoose.min_long.x) (by decide +kernel)) (hx.2.2.2.2.1 (.initialized "java/lang/Math") (by decide +kernel)) (hx.2.2.2.2.1 (.code Lib.MathLoose.min_long.x Lib.MathLoose.min_long.code 4 (some .long)) (by decide +kernel)) hfr (by rw [zsum_eq]; exact hlo) (by show _ ≤ 600000 - zm_c M0; have := hle.2.2.2.2.1; omega) (by show _ ≤ 7302250 - zm_s M0; have := hle.2.2.2.2.2; omega) hd (kk hx hle H locs ls hH hS hl)
