/-! Rows (arrays), new cells, casts. -/
theorem zm_cellI {cy : Nat → ClassId} {M : Zm} {a : Nat} (h : zm_k M a = 14) : zm_cell cy M a = .inl (cy 14, zm_l M a, .inl (zm_i M a)) := by simp [zm_cell, h]
theorem zm_cellJ {cy : Nat → ClassId} {M : Zm} {a : Nat} (h : zm_k M a = 15) : zm_cell cy M a = .inl (cy 15, zm_l M a, .inr (.inl (zm_j M a))) := by simp [zm_cell, h]
theorem zm_cellR {cy : Nat → ClassId} {M : Zm} {a t : Nat} (h : zm_k M a = t) (ht : 16 ≤ t) : zm_cell cy M a = .inl (cy t, zm_l M a, .inr (.inr (.inr (.inr (zm_r M a))))) := by
  subst h
  simp only [zm_cell, if_neg (show ¬ zm_k M a < 14 by omega), if_neg (show ¬ zm_k M a = 14 by omega), if_neg (show ¬ zm_k M a = 15 by omega)]
def zm_nm (t : Nat) : String := if t = 16 then RX0 else if t = 17 then RX7 else if t = 18 then RX10 else "java/lang/Object"
theorem zm_tyR {cy : Nat → ClassId} {t : Nat} (h1 : 16 ≤ t) (h2 : t < 20) : (zm_tys cy)[t - 14]? = some (cy t, .object (zm_nm t)) := by
  rcases (show t = 16 ∨ t = 17 ∨ t = 18 ∨ t = 19 by omega) with rfl | rfl | rfl | rfl <;> rfl
theorem zV_ai {X : Zx} {C : Zc} {M : Zm} {pc : Nat} {lv : Zl} {st : List Zv} {β : Type} {z : β} {r : Option Nat} {i : Int32} {g : Int32 → Option β} (hd : decode C.1 pc = .ok (.iaload, 1)) (h : zb1 (zo_ai M r i) g = some z) (kk : ∀ v, zo_ai M r i = some v → g v = some z → zV X C M (pc + 1) lv (.inl v :: st)) : zV X C M pc lv (.inl i :: .inr (.inr r) :: st) := by
  obtain ⟨v, e, h⟩ := zb1_inv h
  have kk := kk v e h
  unfold zo_ai at e
  split at e
  · cases e
  · split at e
    · rename_i a hc2; cases e
      obtain ⟨p, l, e0, s, m, args, below, meth, cd, D, cy, M0, Q⟩ := X
      intro hx hle H locs ls hH hS hl
      exact va_iald hx.1 hx.2.1 hx.2.2.2.2.2.1 hH (a - zm_b M) 0 (by rw [zm_Wat hc2.1.1, zm_cellI hc2.1.2]) rfl hc2.2 hd (kk hx hle H locs ls hH hS hl)
    · cases e
theorem zV_aj {X : Zx} {C : Zc} {M : Zm} {pc : Nat} {lv : Zl} {st : List Zv} {β : Type} {z : β} {r : Option Nat} {i : Int32} {g : Int64 → Option β} (hd : decode C.1 pc = .ok (.laload, 1)) (h : zb1 (zo_aj M r i) g = some z) (kk : ∀ v, zo_aj M r i = some v → g v = some z → zV X C M (pc + 1) lv (.inr (.inl v) :: st)) : zV X C M pc lv (.inl i :: .inr (.inr r) :: st) := by
  obtain ⟨v, e, h⟩ := zb1_inv h
  have kk := kk v e h
  unfold zo_aj at e
  split at e
  · cases e
  · split at e
    · rename_i a hc2; cases e
      obtain ⟨p, l, e0, s, m, args, below, meth, cd, D, cy, M0, Q⟩ := X
      intro hx hle H locs ls hH hS hl
      exact va_lald hx.1 hx.2.1 hx.2.2.2.2.2.1 hH (a - zm_b M) 1 (by rw [zm_Wat hc2.1.1, zm_cellJ hc2.1.2]) rfl hc2.2 hd (kk hx hle H locs ls hH hS hl)
    · cases e
theorem zV_ar {X : Zx} {C : Zc} {M : Zm} {pc t : Nat} {lv : Zl} {st : List Zv} {β : Type} {z : β} {r : Option Nat} {i : Int32} {g : Option Nat → Option β} (hd : decode C.1 pc = .ok (.aaload, 1)) (h1 : 16 ≤ t) (h2 : t < 20) (h : zb1 (zo_ar M t r i) g = some z) (kk : ∀ v, zo_ar M t r i = some v → g v = some z → zV X C M (pc + 1) lv (.inr (.inr v) :: st)) : zV X C M pc lv (.inl i :: .inr (.inr r) :: st) := by
  obtain ⟨v, e, h⟩ := zb1_inv h
  have kk := kk v e h
  unfold zo_ar at e
  split at e
  · cases e
  · split at e
    · rename_i a hc2; cases e
      obtain ⟨p, l, e0, s, m, args, below, meth, cd, D, cy, M0, Q⟩ := X
      intro hx hle H locs ls hH hS hl
      exact va_aldq hx.1 hx.2.1 hx.2.2.2.2.2.1 hH (a - zm_b M) (t - 14) (by rw [zm_Wat hc2.1.1, zm_cellR hc2.1.2 h1]) (zm_tyR h1 h2) hc2.2 hd (kk hx hle H locs ls hH hS hl)
    · cases e
theorem zfin {X : Zx} {C : Zc} {M M' : Zm} {pc : Nat} {lv : Zl} {st : List Zv} (kk : zV X C M' pc lv st) (he' : M'.1 = M.1) (hb' : zm_b M' = zm_b M) (hc' : zm_c M' = zm_c M) (hs' : zm_s M' = zm_s M) : zx_ok X C → match X with
  | (p, l, e, s, m, args, below, meth, c, D, cy, M0, Q) => zle M0 M → ∀ (H : Heap) (locs : List Loc) (ls : Array Slot), zH D cy M' H → va_S (fun q => zm_b M0 ≤ q) s.heap H locs → lv_has ls C.2.1 (zvl lv) →
    W p l e (zx_R M0 C) s m args below meth c H locs (zm_c M - zm_c M0) (zm_s M - zm_s M0) Q (F0 m pc ls (st.map zv)) := by
  obtain ⟨p, l, e, s, m, args, below, meth, cd, D, cy, M0, Q⟩ := X
  intro hx hle H locs ls hH hS hl
  have := kk hx (hle.same he' hb' hc' hs') H locs ls hH hS hl
  rw [hc', hs'] at this
  exact this
theorem zV_si {X : Zx} {C : Zc} {M : Zm} {pc : Nat} {lv : Zl} {st : List Zv} {β : Type} {z : β} {r : Option Nat} {i : Int32} {x : Int32} {g : Zm → Option β} (hd : decode C.1 pc = .ok (.iastore, 1)) (h : zb1 (zo_si M r i x) g = some z) (kk : ∀ M', zo_si M r i x = some M' → g M' = some z → zV X C M' (pc + 1) lv st) : zV X C M pc lv (.inl x :: .inl i :: .inr (.inr r) :: st) := by
  obtain ⟨M', e, h⟩ := zb1_inv h
  have kk := kk M' e h
  unfold zo_si at e
  split at e
  · cases e
  · split at e
    · rename_i a hc2; cases e
      obtain ⟨p, l, e0, s, m, args, below, meth, cd, D, cy, M0, Q⟩ := X
      intro hx hle H locs ls hH hS hl
      refine va_iast hx.1 hx.2.1 hx.2.2.2.2.2.1 hH (zm_D (Nat.le_of_eq hle.2.1.symm)) hS (a - zm_b M) 0 (by rw [zm_Wat hc2.1.1, zm_cellI hc2.1.2]) rfl hc2.2 hd (fun H1 locs1 hP1 _ hS1 => ?_)
      rw [zm_Wset (M' := zm_pi M a i.toNatClampNeg x) hc2.1.1 rfl rfl (by rw [zm_cellI (M := zm_pi M a i.toNatClampNeg x) (a := a) hc2.1.2]; simp only [zm_pi, zm_i, zm_l, zm_uS]; rfl) (fun y hy => zm_pi_cell hy)] at hP1
      exact zfin kk rfl rfl rfl rfl hx hle H1 locs1 ls hP1 hS1 hl
    · cases e
theorem zV_sj {X : Zx} {C : Zc} {M : Zm} {pc : Nat} {lv : Zl} {st : List Zv} {β : Type} {z : β} {r : Option Nat} {i : Int32} {x : Int64} {g : Zm → Option β} (hd : decode C.1 pc = .ok (.lastore, 1)) (h : zb1 (zo_sj M r i x) g = some z) (kk : ∀ M', zo_sj M r i x = some M' → g M' = some z → zV X C M' (pc + 1) lv st) : zV X C M pc lv (.inr (.inl x) :: .inl i :: .inr (.inr r) :: st) := by
  obtain ⟨M', e, h⟩ := zb1_inv h
  have kk := kk M' e h
  unfold zo_sj at e
  split at e
  · cases e
  · split at e
    · rename_i a hc2; cases e
      obtain ⟨p, l, e0, s, m, args, below, meth, cd, D, cy, M0, Q⟩ := X
      intro hx hle H locs ls hH hS hl
      refine va_last hx.1 hx.2.1 hx.2.2.2.2.2.1 hH (zm_D (Nat.le_of_eq hle.2.1.symm)) hS (a - zm_b M) 1 (by rw [zm_Wat hc2.1.1, zm_cellJ hc2.1.2]) rfl hc2.2 hd (fun H1 locs1 hP1 _ hS1 => ?_)
      rw [zm_Wset (M' := zm_pj M a i.toNatClampNeg x) hc2.1.1 rfl rfl (by rw [zm_cellJ (M := zm_pj M a i.toNatClampNeg x) (a := a) hc2.1.2]; simp only [zm_pj, zm_j, zm_l, zm_uS]; rfl) (fun y hy => zm_pj_cell hy)] at hP1
      exact zfin kk rfl rfl rfl rfl hx hle H1 locs1 ls hP1 hS1 hl
    · cases e
theorem zm_prW {cy : Nat → ClassId} {M : Zm} {a t j : Nat} {v : Option Nat} (ho : zm_ok M a) (hk : zm_k M a = t) (ht : 16 ≤ t) : (zm_W cy M).set (a - zm_b M) (a, .inl (cy t, zm_l M a, .inr (.inr (.inr (.inr (va_up (zm_r M a) j v)))))) = zm_W cy (zm_pr M a j v) :=
  zm_Wset ho rfl rfl (by rw [zm_cellR (M := zm_pr M a j v) (a := a) hk ht]; simp only [zm_pr, zm_r, zm_l, zm_uS]) (fun y hy => zm_pr_cell hy)
theorem zcast {args : Array Value} {s : State} {C T : String} (h : (Cond.castable C T).before args s = true) : ∀ comp c0 : ClassId, s.vm.findClass T = some comp → s.vm.findClass C = some c0 → s.vm.assignable c0 comp = true := by
  intro comp c0 h1 h2
  obtain ⟨c, t, f1, f2, f3⟩ := Cond.castable_spec h
  cases h2.symm.trans f1
  cases h1.symm.trans f2
  exact f3
def zCst (c : Nat) (T : String) : Prop := ∃ (R : String) (F : u_T) (N : Nat), vwCl[c]? = some (R, F, N) ∧ Cond.castable R T ∈ zT
theorem zcst1 : zCst 1 "java/lang/Object" := ⟨_, _, _, rfl, by decide +kernel⟩
theorem zcst4 : zCst 4 "java/lang/Object" := ⟨_, _, _, rfl, by decide +kernel⟩
theorem zV_sr {X : Zx} {C : Zc} {M : Zm} {pc t ck : Nat} {lv : Zl} {st : List Zv} {β : Type} {z : β} {r x : Option Nat} {i : Int32} {g : Zm → Option β} (hd : decode C.1 pc = .ok (.aastore, 1)) (h1 : 16 ≤ t) (h2 : t < 20) (hck : ck = 14 ∧ t = 19 ∨ ∃ (F : u_T) (N : Nat), vwCl[ck]? = some (zm_nm t, F, N) ∧ ck < 14) (h : zb1 (zo_sr M t ck r i x) g = some z) (kk : ∀ M', zo_sr M t ck r i x = some M' → g M' = some z → zV X C M' (pc + 1) lv st) : zV X C M pc lv (.inr (.inr x) :: .inl i :: .inr (.inr r) :: st) := by
  obtain ⟨M', e, h⟩ := zb1_inv h
  have kk := kk M' e h
  unfold zo_sr at e
  split at e
  · cases e
  · split at e
    · rename_i a hc2; cases e
      obtain ⟨hc2, hx2⟩ := hc2
      obtain ⟨p, l, e0, s, m, args, below, meth, cd, D, cy, M0, Q⟩ := X
      intro hx hle H locs ls hH hS hl
      have hD := zm_D (cy := cy) (M := M) (b := zm_b M0) (Nat.le_of_eq hle.2.1.symm)
      have ha : (zm_W cy M)[a - zm_b M]? = some (a, .inl (cy t, zm_l M a, .inr (.inr (.inr (.inr (zm_r M a)))))) := by rw [zm_Wat hc2.1.1, zm_cellR hc2.1.2 h1]
      cases x with
      | none =>
        refine va_astqN hx.1 hx.2.1 hx.2.2.2.2.2.1 hH hD hS (a - zm_b M) (t - 14) ha (zm_tyR h1 h2) hc2.2 hd (fun H1 locs1 hP1 _ hS1 => ?_)
        rw [zm_prW hc2.1.1 hc2.1.2 h1] at hP1
        exact zfin kk rfl rfl rfl rfl hx hle H1 locs1 ls hP1 hS1 hl
      | some v =>
        obtain ⟨hv1, hv2⟩ := hx2 v rfl
        have fin : ∀ (H1 : Heap) (locs1 : List Loc), va_P D vwCl ((zm_W cy M).set (a - zm_b M) (a, .inl (cy t, zm_l M a, .inr (.inr (.inr (.inr (va_up (zm_r M a) i.toNatClampNeg (some v)))))))) H1 → va_D (fun q => zm_b M0 ≤ q) ((zm_W cy M).set (a - zm_b M) (a, .inl (cy t, zm_l M a, .inr (.inr (.inr (.inr (va_up (zm_r M a) i.toNatClampNeg (some v)))))))) → va_S (fun q => zm_b M0 ≤ q) s.heap H1 locs1 → W p l e0 (zx_R M0 C) s m args below meth cd H1 locs1 (zm_c M - zm_c M0) (zm_s M - zm_s M0) Q (F0 m (pc + 1) ls (st.map zv)) := by
          intro H1 locs1 hP1 _ hS1
          rw [zm_prW hc2.1.1 hc2.1.2 h1] at hP1
          exact zfin kk rfl rfl rfl rfl hx hle H1 locs1 ls hP1 hS1 hl
        rcases hck with ⟨rfl, rfl⟩ | ⟨F, N, hck, hlt⟩
        · have hk4 : ∃ c, c < 14 ∧ zm_k M v = c ∧ zCst c "java/lang/Object" := by
            rcases hv2 with ⟨hv2, -⟩ | ⟨-, hv2 | hv2⟩
            · exact absurd rfl hv2
            · exact ⟨1, by omega, hv2, zcst1⟩
            · exact ⟨4, by omega, hv2, zcst4⟩
          obtain ⟨c, hc14, hkc, R, F, N, hR, hcs⟩ := hk4
          have hv : (zm_W cy M)[v - zm_b M]? = some (v, .inr (c, zm_fs c M v)) := by rw [zm_Wat hv1, zm_cellO hkc hc14]
          exact va_astqM hx.1 hx.2.1 hx.2.2.2.2.2.1 hH hD hS (a - zm_b M) 5 ha rfl (va_rAny hx.2.2.2.2.2.1 hH hv hR (zcast (hx.2.2.2.2.1 _ hcs))) hc2.2 hd fin
        · have hkc : zm_k M v = ck := by
            rcases hv2 with ⟨-, hv2⟩ | ⟨hv2, -⟩
            · exact hv2
            · omega
          have hv : (zm_W cy M)[v - zm_b M]? = some (v, .inr (ck, zm_fs ck M v)) := by rw [zm_Wat hv1, zm_cellO hkc hlt]
          exact va_astq hx.1 hx.2.1 hx.2.2.2.2.2.1 hH hD hS (a - zm_b M) (t - 14) (v - zm_b M) ck ha (r := (zm_nm t, F, N)) (zm_tyR h1 h2) hv hck hc2.2 hd fin
    · cases e
