/-! Ends of walks; small rows for the written walks. -/
def zRz (X : Zx) (C : Zc) (M : Zm) (v : Int32) : Prop := (v = 0 ∨ v = 1) → zRi X C M v
theorem zend_v {X : Zx} {C : Zc} {M : Zm} {pc : Nat} {lv : Zl} {z : Zm × Unit} (h : some (M, ()) = some z) (hR : zRv X C z.1) (hd : decode C.1 pc = .ok (.return_, 1)) : zV X C M pc lv [] := by cases h; exact hR _ _ hd
theorem zend_i {X : Zx} {C : Zc} {M : Zm} {pc : Nat} {lv : Zl} {v : Int32} {z : Zm × Int32} (h : some (M, v) = some z) (hR : zRi X C z.1 z.2) (hd : decode C.1 pc = .ok (.ireturn, 1)) : zV X C M pc lv [.inl v] := by cases h; exact hR _ _ hd
theorem zend_j {X : Zx} {C : Zc} {M : Zm} {pc : Nat} {lv : Zl} {v : Int64} {z : Zm × Int64} (h : some (M, v) = some z) (hR : zRj X C z.1 z.2) (hd : decode C.1 pc = .ok (.lreturn, 1)) : zV X C M pc lv [.inr (.inl v)] := by cases h; exact hR _ _ hd
theorem zend_r {X : Zx} {C : Zc} {M : Zm} {pc : Nat} {lv : Zl} {v : Option Nat} {z : Zm × Option Nat} (h : some (M, v) = some z) (hR : zRr X C z.1 z.2) (hd : decode C.1 pc = .ok (.areturn, 1)) : zV X C M pc lv [.inr (.inr v)] := by cases h; exact hR _ _ hd
theorem zo_b_inv {v w : Int32} (h : zo_b v = some w) : w = v ∧ (v = 0 ∨ v = 1) := by
  unfold zo_b at h
  split at h
  · rename_i hc; cases h; exact ⟨rfl, hc⟩
  · cases h
theorem zend_z {X : Zx} {C : Zc} {M : Zm} {pc : Nat} {lv : Zl} {v : Int32} {z : Zm × Int32} (h : zb1 (zo_b v) (fun w => some (M, w)) = some z) (hR : zRz X C z.1 z.2) (hd : decode C.1 pc = .ok (.ireturn, 1)) : zV X C M pc lv [.inl v] := by
  obtain ⟨w, e, h2⟩ := zb1_inv h
  obtain ⟨rfl, hv⟩ := zo_b_inv e
  cases h2
  exact hR hv _ _ hd
theorem zM_b {l : Launch} {y : MethodName} {C : Zc} {D : va_G} {cy : Nat → ClassId} {As : List Zv} {M M' : Zm} {v : Int32} (hy : plainName y.cls = true) (hown : C.2.2.1 = y.cls) (hini : C.2.2.2.2.2 = true → y.name = "<init>") (hn : zsum As ≤ C.2.1) (k : ∀ X, zRz X C M' v → zV X C M 0 (zargs 0 As) []) : zMet l y C (some .boolean) D cy As M M' (some (.inl v)) := by
  refine zmet_of hy hown hini hn (fun p e s m below meth c hr hlocks => k _ (fun hv pc lv hd => ?_))
  intro hx hle H locs ls hH hS hl
  exact W.zret hx.1 hx.2.1 hr (by rcases hv with rfl | rfl <;> rfl) (fun t ht hW => ⟨rfl, hle, by rw [ht]; exact hH, hS.F ht⟩) hS.2.2 hd hlocks
theorem zV_top {X : Zx} {C : Zc} {M : Zm} {pc : Nat} {lv : Zl} {st : List Zv} {x k : Int32} (e : x = k) (h : zV X C M pc lv (.inl k :: st)) : zV X C M pc lv (.inl x :: st) := e ▸ h
theorem zV_oo {X : Zx} {C : Zc} {M : Zm} {pc index c : Nat} {lv : Zl} {β : Type} {z : β} {r : Option Nat} {g : Unit → Option β} (hd : decode C.1 pc = .ok (.invokespecial index, 3)) (hw : Cond.methodLink C.2.2.1 index objectInit ∈ zT) (hfr : 1 ≤ C.2.2.2.1) (hlo : 12 ≤ C.2.2.2.2.1) (h : zb1 (zo_rc M r c) g = some z) (kk : ∀ u, zo_rc M r c = some u → g u = some z → zV X C M (pc + 3) lv []) : zV X C M pc lv [.inr (.inr r)] := by
  obtain ⟨u, e, h2⟩ := zb1_inv h
  have kk2 := kk u e h2
  cases r with
  | none => cases e
  | some a => exact zV_oi hd hw rfl hfr hlo kk2
