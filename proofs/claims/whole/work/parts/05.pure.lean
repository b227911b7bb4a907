/-! Instructions that touch locals and operands alone, as one function; runs of them in one step. -/
def zp (nL : Nat) (i : Instr) (n : Nat) (lv : Zl) (st : List Zv) : Option (Zl × List Zv) := match i with
  | .aconst_null => if n = 1 then (some (lv, .inr (.inr none) :: st)) else none
  | .iconst x => if n = 1 then (some (lv, .inl (Int32.ofInt x) :: st)) else none
  | .bipush x => if n = 2 then (some (lv, .inl (Int8.ofInt x).toInt32 :: st)) else none
  | .sipush x => if n = 3 then (some (lv, .inl (Int16.ofInt x).toInt32 :: st)) else none
  | .lconst x => if n = 1 then (some (lv, .inr (.inl (Int64.ofNat (x : Nat))) :: st)) else none
  | .iload q => if n = 2 then (match zlk lv q with | some (.inl x) => some (lv, .inl x :: st) | _ => none) else none
  | .iload_n q => if n = 1 then (match zlk lv (q : Nat) with | some (.inl x) => some (lv, .inl x :: st) | _ => none) else none
  | .lload q => if n = 2 then (match zlk lv q with | some (.inr (.inl x)) => some (lv, .inr (.inl x) :: st) | _ => none) else none
  | .lload_n q => if n = 1 then (match zlk lv (q : Nat) with | some (.inr (.inl x)) => some (lv, .inr (.inl x) :: st) | _ => none) else none
  | .aload q => if n = 2 then (match zlk lv q with | some (.inr (.inr x)) => some (lv, .inr (.inr x) :: st) | _ => none) else none
  | .aload_n q => if n = 1 then (match zlk lv (q : Nat) with | some (.inr (.inr x)) => some (lv, .inr (.inr x) :: st) | _ => none) else none
  | .istore q => if n = 2 then (match st with | .inl x :: r => if q < nL then some (zst lv q (.inl x), r) else none | _ => none) else none
  | .istore_n q => if n = 1 then (match st with | .inl x :: r => if (q : Nat) < nL then some (zst lv (q : Nat) (.inl x), r) else none | _ => none) else none
  | .lstore q => if n = 2 then (match st with | .inr (.inl x) :: r => if q + 1 < nL then some (zst lv q (.inr (.inl x)), r) else none | _ => none) else none
  | .lstore_n q => if n = 1 then (match st with | .inr (.inl x) :: r => if (q : Nat) + 1 < nL then some (zst lv (q : Nat) (.inr (.inl x)), r) else none | _ => none) else none
  | .astore q => if n = 2 then (match st with | .inr (.inr x) :: r => if q < nL then some (zst lv q (.inr (.inr x)), r) else none | _ => none) else none
  | .astore_n q => if n = 1 then (match st with | .inr (.inr x) :: r => if (q : Nat) < nL then some (zst lv (q : Nat) (.inr (.inr x)), r) else none | _ => none) else none
  | .iinc q x => if n = 3 then (match zlk lv q with | some (.inl y) => if q < nL then some (zst lv q (.inl (y + Int32.ofInt x)), st) else none | _ => none) else none
  | .iadd => if n = 1 then (match st with | .inl y :: .inl x :: r => some (lv, .inl (x + y) :: r) | _ => none) else none
  | .isub => if n = 1 then (match st with | .inl y :: .inl x :: r => some (lv, .inl (x - y) :: r) | _ => none) else none
  | .imul => if n = 1 then (match st with | .inl y :: .inl x :: r => some (lv, .inl (x * y) :: r) | _ => none) else none
  | .iand => if n = 1 then (match st with | .inl y :: .inl x :: r => some (lv, .inl (x &&& y) :: r) | _ => none) else none
  | .ishr => if n = 1 then (match st with | .inl y :: .inl x :: r => some (lv, .inl (x >>> (y &&& 31)) :: r) | _ => none) else none
  | .ladd => if n = 1 then (match st with | .inr (.inl y) :: .inr (.inl x) :: r => some (lv, .inr (.inl (x + y)) :: r) | _ => none) else none
  | .lsub => if n = 1 then (match st with | .inr (.inl y) :: .inr (.inl x) :: r => some (lv, .inr (.inl (x - y)) :: r) | _ => none) else none
  | .lmul => if n = 1 then (match st with | .inr (.inl y) :: .inr (.inl x) :: r => some (lv, .inr (.inl (x * y)) :: r) | _ => none) else none
  | .land => if n = 1 then (match st with | .inr (.inl y) :: .inr (.inl x) :: r => some (lv, .inr (.inl (x &&& y)) :: r) | _ => none) else none
  | .lor => if n = 1 then (match st with | .inr (.inl y) :: .inr (.inl x) :: r => some (lv, .inr (.inl (x ||| y)) :: r) | _ => none) else none
  | .lshl => if n = 1 then (match st with | .inl y :: .inr (.inl x) :: r => some (lv, .inr (.inl (x <<< (y.toInt64 &&& 63))) :: r) | _ => none) else none
  | .ineg => if n = 1 then (match st with | .inl x :: r => some (lv, .inl (-x) :: r) | _ => none) else none
  | .lneg => if n = 1 then (match st with | .inr (.inl x) :: r => some (lv, .inr (.inl (-x)) :: r) | _ => none) else none
  | .i2l => if n = 1 then (match st with | .inl x :: r => some (lv, .inr (.inl x.toInt64) :: r) | _ => none) else none
  | .l2i => if n = 1 then (match st with | .inr (.inl x) :: r => some (lv, .inl x.toInt32 :: r) | _ => none) else none
  | .dup => if n = 1 then (match st with | x :: r => if zc2 x = false then some (lv, x :: x :: r) else none | _ => none) else none
  | .pop => if n = 1 then (match st with | x :: r => if zc2 x = false then some (lv, r) else none | _ => none) else none
  | .dup_x1 => if n = 1 then (match st with | x :: y :: r => if zc2 x = false ∧ zc2 y = false then some (lv, x :: y :: x :: r) else none | _ => none) else none
  | .dup2 => if n = 1 then (match st with | x :: y :: r => if zc2 x = false ∧ zc2 y = false then some (lv, x :: y :: x :: y :: r) else none | _ => none) else none
  | _ => none
theorem zcat1 {v : Zv} (h : zc2 v = false) : (zv v).category = 1 := by rw [zc2_cat, h]; rfl
section
variable {p : Program} {l : Launch} {e : Env} {R : Room} {s : State} {m : MethodId} {args : Array Value} {below : List Frame} {meth : Method} {c : Code} {H : Heap} {locs : List Loc} {cells slots : Nat} {Q : State → Prop} {ls : Array Slot} {cc : ByteArray} {pc nL : Nat} {lv : Zl}
theorem zw_aload (hx : p.tables.exec = Jvm.exec) (hb : c.code = cc) {q : Nat} {x : Option Nat} {rest : List Value} (hd : decode cc pc = .ok (.aload q, 2)) (hl : ls[q]? = some (.val (va_rf x))) (k : W p l e R s m args below meth c H locs cells slots Q (F0 m (pc + 2) ls (va_rf x :: rest))) : W p l e R s m args below meth c H locs cells slots Q (F0 m pc ls rest) := by
  cases x with
  | none => exact lv_aloadN hx hb hd hl k
  | some a => exact lv_aload hx hb hd hl k
theorem zw_aload_n (hx : p.tables.exec = Jvm.exec) (hb : c.code = cc) {q : Fin 4} {x : Option Nat} {rest : List Value} (hd : decode cc pc = .ok (.aload_n q, 1)) (hl : ls[(q : Nat)]? = some (.val (va_rf x))) (k : W p l e R s m args below meth c H locs cells slots Q (F0 m (pc + 1) ls (va_rf x :: rest))) : W p l e R s m args below meth c H locs cells slots Q (F0 m pc ls rest) := by
  cases x with
  | none => exact lv_aload_nN hx hb hd rfl hl k
  | some a => exact lv_aload_n hx hb hd rfl hl k
theorem zw_astore (hx : p.tables.exec = Jvm.exec) (hb : c.code = cc) {q : Nat} {x : Option Nat} {rest : List Value} (hd : decode cc pc = .ok (.astore q, 2)) (hl : lv_has ls nL (zvl lv)) (hn : q < nL) (k : ∀ ls' : Array Slot, lv_has ls' nL (zvl (zst lv q (.inr (.inr x)))) → W p l e R s m args below meth c H locs cells slots Q (F0 m (pc + 2) ls' rest)) : W p l e R s m args below meth c H locs cells slots Q (F0 m pc ls (va_rf x :: rest)) := by
  have e1 := zst_1 (lv := lv) (i := q) (v := .inr (.inr x)) rfl
  cases x with
  | none => exact lv_astoreN hx hb hd hl hn e1 (fun ls' h => k ls' h)
  | some a => exact lv_astore hx hb hd hl hn e1 (fun ls' h => k ls' h)
theorem zw_astore_n (hx : p.tables.exec = Jvm.exec) (hb : c.code = cc) {q : Fin 4} {x : Option Nat} {rest : List Value} (hd : decode cc pc = .ok (.astore_n q, 1)) (hl : lv_has ls nL (zvl lv)) (hn : (q : Nat) < nL) (k : ∀ ls' : Array Slot, lv_has ls' nL (zvl (zst lv (q : Nat) (.inr (.inr x)))) → W p l e R s m args below meth c H locs cells slots Q (F0 m (pc + 1) ls' rest)) : W p l e R s m args below meth c H locs cells slots Q (F0 m pc ls (va_rf x :: rest)) := by
  have e1 := zst_1 (lv := lv) (i := (q : Nat)) (v := .inr (.inr x)) rfl
  cases x with
  | none => exact lv_astore_nN hx hb hd rfl hl hn e1 (fun ls' h => k ls' h)
  | some a => exact lv_astore_n hx hb hd rfl hl hn e1 (fun ls' h => k ls' h)
end
set_option maxHeartbeats 4000000 in
theorem zV_p {X : Zx} {C : Zc} {M : Zm} {pc n : Nat} {i : Instr} {lv lv' : Zl} {st st' : List Zv} (hd : decode C.1 pc = .ok (i, n)) (h : zp C.2.1 i n lv st = some (lv', st')) (k : zV X C M (pc + n) lv' st') : zV X C M pc lv st := by
  refine zV_w (fun p l e R s m args below meth c H locs cells slots Q ls hx hb hl k => ?_) k
  unfold zp at h
  split at h
  · -- .aconst_null
    split at h
    · rename_i hn; subst hn
      cases h
      exact lv_null hx hb hd (k ls hl)
    · cases h
  · -- .iconst x
    split at h
    · rename_i hn; subst hn
      cases h
      exact lv_iconst hx hb hd rfl (k ls hl)
    · cases h
  · -- .bipush x
    split at h
    · rename_i hn; subst hn
      cases h
      exact lv_bipush hx hb hd rfl (k ls hl)
    · cases h
  · -- .sipush x
    split at h
    · rename_i hn; subst hn
      cases h
      exact lv_sipush hx hb hd rfl (k ls hl)
    · cases h
  · -- .lconst x
    split at h
    · rename_i hn; subst hn
      cases h
      exact lv_lconst hx hb hd rfl (k ls hl)
    · cases h
  · -- .iload q
    split at h
    · rename_i hn; subst hn
      split at h
      · rename_i he; cases h; exact lv_iload hx hb hd (zlk_at hl he) (k ls hl)
      · cases h
    · cases h
  · -- .iload_n q
    split at h
    · rename_i hn; subst hn
      split at h
      · rename_i he; cases h; exact lv_iload_n hx hb hd rfl (zlk_at hl he) (k ls hl)
      · cases h
    · cases h
  · -- .lload q
    split at h
    · rename_i hn; subst hn
      split at h
      · rename_i he; cases h; exact lv_lload hx hb hd (zlk_at hl he) (k ls hl)
      · cases h
    · cases h
  · -- .lload_n q
    split at h
    · rename_i hn; subst hn
      split at h
      · rename_i he; cases h; exact lv_lload_n hx hb hd rfl (zlk_at hl he) (k ls hl)
      · cases h
    · cases h
  · -- .aload q
    split at h
    · rename_i hn; subst hn
      split at h
      · rename_i he; cases h; exact zw_aload hx hb hd (zlk_at hl he) (k ls hl)
      · cases h
    · cases h
  · -- .aload_n q
    split at h
    · rename_i hn; subst hn
      split at h
      · rename_i he; cases h; exact zw_aload_n hx hb hd (zlk_at hl he) (k ls hl)
      · cases h
    · cases h
  · -- .istore q
    split at h
    · rename_i hn; subst hn
      split at h
      · split at h
        · rename_i hq; cases h; exact lv_istore hx hb hd hl hq (zst_1 (v := .inl _) rfl) k
        · cases h
      · cases h
    · cases h
  · -- .istore_n q
    split at h
    · rename_i hn; subst hn
      split at h
      · split at h
        · rename_i hq; cases h; exact lv_istore_n hx hb hd rfl hl hq (zst_1 (v := .inl _) rfl) k
        · cases h
      · cases h
    · cases h
  · -- .lstore q
    split at h
    · rename_i hn; subst hn
      split at h
      · split at h
        · rename_i hq; cases h; exact lv_lstore hx hb hd hl hq (zst_2 (v := .inr (.inl _)) rfl) k
        · cases h
      · cases h
    · cases h
  · -- .lstore_n q
    split at h
    · rename_i hn; subst hn
      split at h
      · split at h
        · rename_i hq; cases h; exact lv_lstore_n hx hb hd rfl hl hq (zst_2 (v := .inr (.inl _)) rfl) k
        · cases h
      · cases h
    · cases h
  · -- .astore q
    split at h
    · rename_i hn; subst hn
      split at h
      · split at h
        · rename_i hq; cases h; exact zw_astore hx hb hd hl hq k
        · cases h
      · cases h
    · cases h
  · -- .astore_n q
    split at h
    · rename_i hn; subst hn
      split at h
      · split at h
        · rename_i hq; cases h; exact zw_astore_n hx hb hd hl hq k
        · cases h
      · cases h
    · cases h
  · -- .iinc q x
    split at h
    · rename_i hn; subst hn
      split at h
      · split at h
        · rename_i he hq; cases h
          obtain ⟨j, hj⟩ := List.getElem?_of_mem (List.mem_map.mpr ⟨_, zlk_mem he, rfl⟩ : _ ∈ zvl lv)
          exact lv_iinc hx hb hd hl hj rfl hq (zst_1 (v := .inl _) rfl) k
        · cases h
      · cases h
    · cases h
  · -- .iadd
    split at h
    · rename_i hn; subst hn
      split at h
      · cases h; exact lv_iadd hx hb hd (k ls hl)
      · cases h
    · cases h
  · -- .isub
    split at h
    · rename_i hn; subst hn
      split at h
      · cases h; exact lv_isub hx hb hd (k ls hl)
      · cases h
    · cases h
  · -- .imul
    split at h
    · rename_i hn; subst hn
      split at h
      · cases h; exact lv_imul hx hb hd (k ls hl)
      · cases h
    · cases h
  · -- .iand
    split at h
    · rename_i hn; subst hn
      split at h
      · cases h; exact lv_iand hx hb hd (k ls hl)
      · cases h
    · cases h
  · -- .ishr
    split at h
    · rename_i hn; subst hn
      split at h
      · cases h; exact lv_ishr hx hb hd (k ls hl)
      · cases h
    · cases h
  · -- .ladd
    split at h
    · rename_i hn; subst hn
      split at h
      · cases h; exact lv_ladd hx hb hd (k ls hl)
      · cases h
    · cases h
  · -- .lsub
    split at h
    · rename_i hn; subst hn
      split at h
      · cases h; exact lv_lsub hx hb hd (k ls hl)
      · cases h
    · cases h
  · -- .lmul
    split at h
    · rename_i hn; subst hn
      split at h
      · cases h; exact lv_lmul hx hb hd (k ls hl)
      · cases h
    · cases h
  · -- .land
    split at h
    · rename_i hn; subst hn
      split at h
      · cases h; exact lv_land hx hb hd (k ls hl)
      · cases h
    · cases h
  · -- .lor
    split at h
    · rename_i hn; subst hn
      split at h
      · cases h; exact lv_lor hx hb hd (k ls hl)
      · cases h
    · cases h
  · -- .lshl
    split at h
    · rename_i hn; subst hn
      split at h
      · cases h; exact lv_lshl hx hb hd rfl (k ls hl)
      · cases h
    · cases h
  · -- .ineg
    split at h
    · rename_i hn; subst hn
      split at h
      · cases h; exact lv_ineg hx hb hd (k ls hl)
      · cases h
    · cases h
  · -- .lneg
    split at h
    · rename_i hn; subst hn
      split at h
      · cases h; exact lv_lneg hx hb hd (k ls hl)
      · cases h
    · cases h
  · -- .i2l
    split at h
    · rename_i hn; subst hn
      split at h
      · cases h; exact lv_i2l hx hb hd rfl (k ls hl)
      · cases h
    · cases h
  · -- .l2i
    split at h
    · rename_i hn; subst hn
      split at h
      · cases h; exact lv_l2i hx hb hd rfl (k ls hl)
      · cases h
    · cases h
  · -- .dup
    split at h
    · rename_i hn; subst hn
      split at h
      · split at h
        · rename_i hc; cases h; exact lv_dup hx hb hd (zcat1 hc) (k ls hl)
        · cases h
      · cases h
    · cases h
  · -- .pop
    split at h
    · rename_i hn; subst hn
      split at h
      · split at h
        · rename_i hc; cases h; exact lv_pop hx hb hd (zcat1 hc) (k ls hl)
        · cases h
      · cases h
    · cases h
  · -- .dup_x1
    split at h
    · rename_i hn; subst hn
      split at h
      · split at h
        · rename_i hc; cases h; exact lv_dup_x1 hx hb hd (zcat1 hc.1) (zcat1 hc.2) (k ls hl)
        · cases h
      · cases h
    · cases h
  · -- .dup2
    split at h
    · rename_i hn; subst hn
      split at h
      · split at h
        · rename_i hc; cases h; exact lv_dup2_11 hx hb hd (zcat1 hc.1) (zcat1 hc.2) (k ls hl)
        · cases h
      · cases h
    · cases h
  · cases h
def zdec (cc : ByteArray) : List (Instr × Nat) → Nat → Bool
  | [], _ => true
  | q :: r, pc => decide (decode cc pc = .ok q) && zdec cc r (pc + q.2)
def zrun (nL : Nat) : List (Instr × Nat) → Nat → Zl → List Zv → Option (Nat × Zl × List Zv)
  | [], pc, lv, st => some (pc, lv, st)
  | q :: r, pc, lv, st => match zp nL q.1 q.2 lv st with
    | none => none
    | some x => zrun nL r (pc + q.2) x.1 x.2
theorem zV_b {X : Zx} {C : Zc} {M : Zm} (is : List (Instr × Nat)) : ∀ {pc pc' : Nat} {lv lv' : Zl} {st st' : List Zv}, zdec C.1 is pc = true → zrun C.2.1 is pc lv st = some (pc', lv', st') → zV X C M pc' lv' st' → zV X C M pc lv st := by
  induction is with
  | nil =>
    intro pc pc' lv lv' st st' _ hr k
    simp only [zrun, Option.some.injEq, Prod.mk.injEq] at hr
    obtain ⟨rfl, rfl, rfl⟩ := hr
    exact k
  | cons q r ih =>
    intro pc pc' lv lv' st st' hd hr k
    simp only [zdec, Bool.and_eq_true, decide_eq_true_eq] at hd
    simp only [zrun] at hr
    cases hp : zp C.2.1 q.1 q.2 lv st with
    | none => rw [hp] at hr; cases hr
    | some x =>
      rw [hp] at hr
      exact zV_p (i := q.1) (n := q.2) hd.1 hp (ih hd.2 hr k)
