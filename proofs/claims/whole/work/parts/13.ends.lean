/-! Ends of walks; small rows for the written walks. -/
def zRz (X : Zx) (C : Zc) (M : Zm) (v : Int32) : Prop := (v = 0 ∨ v = 1) → zRi X C M v
theorem zend_v {X : Zx} {C : Zc} {M : Zm} {pc : Nat} {lv : Zl} {z : Zm × Unit} (h : some (M, ()) = some z) (hR : zRv X C z.1) (hd : decode C.1 pc = .ok (.return_, 1)) : zV X C M pc lv [] := by cases h; exact hR _ _ hd
theorem zend_i {X : Zx} {C : Zc} {M : Zm} {pc : Nat} {lv : Zl} {v : Int32} {z : Zm × Int32} (h : some (M, v) = some z) (hR : zRi X C z.1 z.2) (hd : decode C.1 pc = .ok (.ireturn, 1)) : zV X C M pc lv [.inl v] := by cases h; exact hR _ _ hd
theorem zend_j {X : Zx} {C : Zc} {M : Zm} {pc : Nat} {lv : Zl} {v : Int64} {z : Zm × Int64} (h : some (M, v) = some z) (hR : zRj X C z.1 z.2) (hd : decode C.1 pc = .ok (.lreturn, 1)) : zV X C M pc lv [.inr (.inl v)] := by cases h; exact hR _ _ hd
theorem zend_r {X : Zx} {C : Zc} {M : Zm} {pc : Nat} {lv : Zl} {v : Option Nat} {z : Zm × Option Nat} (h : some (M, v) = some z) (hR : zRr X C z.1 z.2) (hd : decode C.1 pc = .ok (.areturn, 1)) : zV X C M pc lv [.inr (.inr v)] := by cases h; exact hR _ _ hd
theorem zo_b_inv {v w : Int32} (h : zo_b v = some w) : w = v ∧ (v = 0 ∨ v = 1) := by
  unfold zo_b at h
  split at h
  · rename_i hc; cases h; exact ⟨rfl, hc⟩
  · cases h
theorem zend_z {X : Zx} {C : Zc} {M : Zm} {pc : Nat} {lv : Zl} {v : Int32} {z : Zm × Int32} (h : zb1 (zo_b v) (fun w => some (M, w)) = some z) (hR : zRz X C z.1 z.2) (hd : decode C.1 pc = .ok (.ireturn, 1)) : zV X C M pc lv [.inl v] := by
  obtain ⟨w, e, h2⟩ := zb1_inv h
  obtain ⟨rfl, hv⟩ := zo_b_inv e
  cases h2
  exact hR hv _ _ hd
theorem zM_b {l : Launch} {y : MethodName} {C : Zc} {D : va_G} {cy : Nat → ClassId} {As : List Zv} {M M' : Zm} {v : Int32} (hy : plainName y.cls = true) (hown : C.2.2.1 = y.cls) (hini : C.2.2.2.2.2 = true → y.name = "<init>") (hn : zsum As ≤ C.2.1) (k : ∀ X, zRz X C M' v → zV X C M 0 (zargs 0 As) []) : zMet l y C (some .boolean) D cy As M M' (some (.inl v)) := by
  refine zmet_of hy hown hini hn (fun p e s m below meth c hr hlocks => k _ (fun hv pc lv hd => ?_))
  intro hx hle H locs ls hH hS hl
  exact W.zret hx.1 hx.2.1 hr (by rcases hv with rfl | rfl <;> rfl) (fun t ht hW => ⟨rfl, hle, by rw [ht]; exact hH, hS.F ht⟩) hS.2.2 hd hlocks
theorem zV_top {X : Zx} {C : Zc} {M : Zm} {pc : Nat} {lv : Zl} {st : List Zv} {x k : Int32} (e : x = k) (h : zV X C M pc lv (.inl k :: st)) : zV X C M pc lv (.inl x :: st) := e ▸ h
theorem zV_oo {X : Zx} {C : Zc} {M : Zm} {pc index c : Nat} {lv : Zl} {β : Type} {z : β} {r : Option Nat} {g : Unit → Option β} (hd : decode C.1 pc = .ok (.invokespecial index, 3)) (hw : Cond.methodLink C.2.2.1 index objectInit ∈ zT) (hfr : 1 ≤ C.2.2.2.1) (hlo : 12 ≤ C.2.2.2.2.1) (h : zb1 (zo_rc M r c) g = some z) (kk : ∀ u, zo_rc M r c = some u → g u = some z → zV X C M (pc + 3) lv []) : zV X C M pc lv [.inr (.inr r)] := by
  obtain ⟨u, e, h2⟩ := zb1_inv h
  have kk2 := kk u e h2
  cases r with
  | none => cases e
  | some a => exact zV_oi hd hw rfl hfr hlo kk2
theorem zV_lk {X : Zx} {C : Zc} {M : Zm} {pc index : Nat} {lv : Zl} {st : List Zv} (hd : decode C.1 pc = .ok (.ldc index, 2)) (hw : Cond.classLink C.2.2.1 index "[Ljava/lang/Object;" ∈ zT) (kk : zV X C M (pc + 2) lv (.inr (.inr (some (zm_h M))) :: st)) : zV X C M pc lv st := by
  obtain ⟨p, l, e0, s, m, args, below, meth, cd, D, cy, M0, Q⟩ := X
  intro hx hle H locs ls hH hS hl
  have hM := hx.2.2.2.2.2.2.2.2.2.2.2.2
  rw [← show zm_h M = zm_h M0 from congrArg Prod.snd hle.1] at hM
  exact va_ldcM hx.1 hx.2.1 hx.2.2.2.1 (hx.2.2.2.2.1 _ hw) hM hd (kk hx hle H locs ls hH hS hl)
theorem zV_gc {X : Zx} {C : Zc} {M : Zm} {pc index : Nat} {lv : Zl} {st : List Zv} {β : Type} {z : β} {r : Option Nat} {g : Unit → Option β} (hd : decode C.1 pc = .ok (.invokevirtual index, 3)) (hw : Cond.methodLink C.2.2.1 index ⟨"java/lang/Object", "getClass", "()Ljava/lang/Class;"⟩ ∈ zT) (hfr : 1 ≤ C.2.2.2.1) (hlo : zsum st + 14 ≤ C.2.2.2.2.1) (h : zb1 (zo_rc M r 19) g = some z) (kk : ∀ u, zo_rc M r 19 = some u → g u = some z → zV X C M (pc + 3) lv (.inr (.inr (some (zm_h M))) :: st)) : zV X C M pc lv (.inr (.inr r) :: st) := by
  obtain ⟨u, e, h2⟩ := zb1_inv h
  have kk2 := kk u e h2
  cases r with
  | none => cases e
  | some a =>
    unfold zo_rc at e
    simp only at e
    split at e
    · rename_i hc2
      obtain ⟨p, l, e0, s, m, args, below, meth, cd, D, cy, M0, Q⟩ := X
      intro hx hle H locs ls hH hS hl
      have hM := hx.2.2.2.2.2.2.2.2.2.2.2.2
      rw [← show zm_h M = zm_h M0 from congrArg Prod.snd hle.1] at hM
      have hcell : H[a]? = some (vp_cell (cy 19) (zm_l M a, .inr (.inr (.inr (.inr (zm_r M a)))))) := by
        have := hH _ _ (zm_Wat (cy := cy) hc2.1)
        rw [zm_cellR hc2.2 (by decide)] at this
        exact this
      have hfc : s.vm.findClass "[Ljava/lang/Object;" = some (cy 19) := va_nmO (hx.2.2.2.2.2.1.2 5 _ rfl).2 (by decide)
      exact va_getC (C := "[Ljava/lang/Object;") hx.1 hx.2.1 (by rw [hx.2.2.1]; exact hl.1.symm) hx.2.2.2.1 (hx.2.2.2.2.1 _ hw) (hx.2.2.2.2.1 (.declares ⟨"java/lang/Object", "getClass", "()Ljava/lang/Class;"⟩) (by decide +kernel)) (hx.2.2.2.2.1 (.selects "[Ljava/lang/Object;" ⟨"java/lang/Object", "getClass", "()Ljava/lang/Class;"⟩ ⟨"java/lang/Object", "getClass", "()Ljava/lang/Class;"⟩) (by decide +kernel)) (hx.2.2.2.2.1 (.instanceMethod ⟨"java/lang/Object", "getClass", "()Ljava/lang/Class;"⟩) (by decide +kernel)) (hx.2.2.2.2.1 (.native ⟨"java/lang/Object", "getClass", "()Ljava/lang/Class;"⟩) (by decide +kernel)) hM ⟨_, hcell, rfl, hfc⟩ hfr (by rw [zsum_eq]; exact hlo) hd (kk2 hx hle H locs ls hH hS hl)
    · cases e
theorem zV_cr {X : Zx} {C : Zc} {M : Zm} {pc index : Nat} {lv : Zl} {st : List Zv} {β : Type} {z : β} {r q : Option Nat} {sp dp n : Int32} {g : Zm → Option β} (hd : decode C.1 pc = .ok (.invokestatic index, 3)) (hw : Cond.methodLink C.2.2.1 index arraycopyName ∈ zT) (hfr : 1 ≤ C.2.2.2.1) (hlo : zsum st + 18 ≤ C.2.2.2.2.1) (h : zb1 (zo_cr M r sp q dp n) g = some z) (kk : ∀ M', zo_cr M r sp q dp n = some M' → g M' = some z → zV X C M' (pc + 3) lv st) : zV X C M pc lv (.inl n :: .inl dp :: .inr (.inr q) :: .inl sp :: .inr (.inr r) :: st) := by
  obtain ⟨M', e, h2⟩ := zb1_inv h
  have kk2 := kk M' e h2
  unfold zo_cr at e
  split at e
  · split at e
    · rename_i a b hc2; cases e
      obtain ⟨⟨⟨ha, hb⟩, ⟨h1, h2, h3⟩, h4, h5⟩, h6⟩ := hc2
      obtain ⟨p, l, e0, s, m, args, below, meth, cd, D, cy, M0, Q⟩ := X
      intro hx hle H locs ls hH hS hl
      refine va_copyM (E0 := "java/lang/Object") (E1 := "java/lang/Object") hx.1 hx.2.1 (by rw [hx.2.2.1]; exact hl.1.symm) hx.2.2.2.1 (hx.2.2.2.2.1 _ hw) (hx.2.2.2.2.1 (.native arraycopyName) (by decide +kernel)) (hx.2.2.2.2.1 (.static arraycopyName) (by decide +kernel)) (hx.2.2.2.2.1 (.initialized "java/lang/System") (by decide +kernel)) hx.2.2.2.2.2.1 hH (zm_D (Nat.le_of_eq hle.2.1.symm)) hS (a - zm_b M) (b - zm_b M) 5 5 (by rw [zm_Wat ha.1, zm_cellR ha.2 (by decide)]) (by rw [zm_Wat hb.1, zm_cellR hb.2 (by decide)]) rfl rfl h1 h2 h3 h4 h5 (fun i hi y hy => ?_) hfr (by rw [zsum_eq]; exact hlo) hd (fun H1 locs1 hP1 _ hS1 => ?_)
      · obtain ⟨hy1, hy2⟩ := h6 i hi y hy
        have hk4 : ∃ c, c < 14 ∧ zm_k M y = c ∧ zCst c "java/lang/Object" := by
          rcases hy2 with hy2 | hy2
          · exact ⟨1, by omega, hy2, zcst1⟩
          · exact ⟨4, by omega, hy2, zcst4⟩
        obtain ⟨c, hc14, hkc, R, F, N, hR, hcs⟩ := hk4
        exact va_rAny hx.2.2.2.2.2.1 hH (show (zm_W cy M)[y - zm_b M]? = some (y, .inr (c, zm_fs c M y)) by rw [zm_Wat hy1, zm_cellO hkc hc14]) hR (zcast (hx.2.2.2.2.1 _ hcs))
      · rw [zm_Wset (M' := zm_rr M b (va_cpy (zm_r M a) (zm_r M b) sp.toNatClampNeg dp.toNatClampNeg n.toNatClampNeg)) hb.1 rfl rfl (by rw [zm_cellR (M := zm_rr M b _) (a := b) hb.2 (by decide)]; simp only [zm_rr, zm_r, zm_l, zm_zS]) (fun y hy => zm_cellC rfl rfl rfl rfl (zm_zN hy))] at hP1
        exact zfin kk2 rfl rfl rfl rfl hx hle H1 locs1 ls hP1 hS1 hl
    · cases e
  · cases e
