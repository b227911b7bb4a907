/-! Branches. -/
theorem zite {β : Type} {c : Prop} [Decidable c] {A B : Option β} {z : β} (h : (if c then A else B) = some z) : (c → A = some z) ∧ (¬ c → B = some z) := ⟨fun hc => by rw [if_pos hc] at h; exact h, fun hc => by rw [if_neg hc] at h; exact h⟩
theorem zV_icmp_eq {X : Zx} {C : Zc} {M : Zm} {pc tgt : Nat} {off : Int} {lv : Zl} {st : List Zv} {β : Type} {A B : Option β} {z : β} {x y : Int32} (hd : decode C.1 pc = .ok (.if_icmp .eq off, 3)) (ht : (pc : Int) + off = (tgt : Int)) (h : (if x = y then A else B) = some z) (kt : x = y → A = some z → zV X C M tgt lv st) (kf : ¬ x = y → B = some z → zV X C M (pc + 3) lv st) : zV X C M pc lv (.inl y :: .inl x :: st) := by
  obtain ⟨h1, h2⟩ := zite h
  obtain ⟨p, l, e, s, m, args, below, meth, c, D, cy, M0, Q⟩ := X
  intro hx hle H locs ls hH hS hl
  exact lv_icmp_eq hx.1 hx.2.1 hd ht (fun q => kt q (h1 q) hx hle H locs ls hH hS hl) (fun q => kf q (h2 q) hx hle H locs ls hH hS hl)
theorem zV_icmp_lt {X : Zx} {C : Zc} {M : Zm} {pc tgt : Nat} {off : Int} {lv : Zl} {st : List Zv} {β : Type} {A B : Option β} {z : β} {x y : Int32} (hd : decode C.1 pc = .ok (.if_icmp .lt off, 3)) (ht : (pc : Int) + off = (tgt : Int)) (h : (if x < y then A else B) = some z) (kt : x < y → A = some z → zV X C M tgt lv st) (kf : ¬ x < y → B = some z → zV X C M (pc + 3) lv st) : zV X C M pc lv (.inl y :: .inl x :: st) := by
  obtain ⟨h1, h2⟩ := zite h
  obtain ⟨p, l, e, s, m, args, below, meth, c, D, cy, M0, Q⟩ := X
  intro hx hle H locs ls hH hS hl
  exact lv_icmp_lt hx.1 hx.2.1 hd ht (fun q => kt q (h1 q) hx hle H locs ls hH hS hl) (fun q => kf q (h2 q) hx hle H locs ls hH hS hl)
theorem zV_icmp_ge {X : Zx} {C : Zc} {M : Zm} {pc tgt : Nat} {off : Int} {lv : Zl} {st : List Zv} {β : Type} {A B : Option β} {z : β} {x y : Int32} (hd : decode C.1 pc = .ok (.if_icmp .ge off, 3)) (ht : (pc : Int) + off = (tgt : Int)) (h : (if y ≤ x then A else B) = some z) (kt : y ≤ x → A = some z → zV X C M tgt lv st) (kf : ¬ y ≤ x → B = some z → zV X C M (pc + 3) lv st) : zV X C M pc lv (.inl y :: .inl x :: st) := by
  obtain ⟨h1, h2⟩ := zite h
  obtain ⟨p, l, e, s, m, args, below, meth, c, D, cy, M0, Q⟩ := X
  intro hx hle H locs ls hH hS hl
  exact lv_icmp_ge hx.1 hx.2.1 hd ht (fun q => kt q (h1 q) hx hle H locs ls hH hS hl) (fun q => kf q (h2 q) hx hle H locs ls hH hS hl)
theorem zV_icmp_gt {X : Zx} {C : Zc} {M : Zm} {pc tgt : Nat} {off : Int} {lv : Zl} {st : List Zv} {β : Type} {A B : Option β} {z : β} {x y : Int32} (hd : decode C.1 pc = .ok (.if_icmp .gt off, 3)) (ht : (pc : Int) + off = (tgt : Int)) (h : (if y < x then A else B) = some z) (kt : y < x → A = some z → zV X C M tgt lv st) (kf : ¬ y < x → B = some z → zV X C M (pc + 3) lv st) : zV X C M pc lv (.inl y :: .inl x :: st) := by
  obtain ⟨h1, h2⟩ := zite h
  obtain ⟨p, l, e, s, m, args, below, meth, c, D, cy, M0, Q⟩ := X
  intro hx hle H locs ls hH hS hl
  exact lv_icmp_gt hx.1 hx.2.1 hd ht (fun q => kt q (h1 q) hx hle H locs ls hH hS hl) (fun q => kf q (h2 q) hx hle H locs ls hH hS hl)
theorem zV_icmp_le {X : Zx} {C : Zc} {M : Zm} {pc tgt : Nat} {off : Int} {lv : Zl} {st : List Zv} {β : Type} {A B : Option β} {z : β} {x y : Int32} (hd : decode C.1 pc = .ok (.if_icmp .le off, 3)) (ht : (pc : Int) + off = (tgt : Int)) (h : (if x ≤ y then A else B) = some z) (kt : x ≤ y → A = some z → zV X C M tgt lv st) (kf : ¬ x ≤ y → B = some z → zV X C M (pc + 3) lv st) : zV X C M pc lv (.inl y :: .inl x :: st) := by
  obtain ⟨h1, h2⟩ := zite h
  obtain ⟨p, l, e, s, m, args, below, meth, c, D, cy, M0, Q⟩ := X
  intro hx hle H locs ls hH hS hl
  exact lv_icmp_le hx.1 hx.2.1 hd ht (fun q => kt q (h1 q) hx hle H locs ls hH hS hl) (fun q => kf q (h2 q) hx hle H locs ls hH hS hl)
theorem zV_if_eq {X : Zx} {C : Zc} {M : Zm} {pc tgt : Nat} {off : Int} {lv : Zl} {st : List Zv} {β : Type} {A B : Option β} {z : β} {x : Int32} (hd : decode C.1 pc = .ok (.ifCond .eq off, 3)) (ht : (pc : Int) + off = (tgt : Int)) (h : (if x = 0 then A else B) = some z) (kt : x = 0 → A = some z → zV X C M tgt lv st) (kf : ¬ x = 0 → B = some z → zV X C M (pc + 3) lv st) : zV X C M pc lv (.inl x :: st) := by
  obtain ⟨h1, h2⟩ := zite h
  obtain ⟨p, l, e, s, m, args, below, meth, c, D, cy, M0, Q⟩ := X
  intro hx hle H locs ls hH hS hl
  exact lv_if_eq hx.1 hx.2.1 hd ht (fun q => kt q (h1 q) hx hle H locs ls hH hS hl) (fun q => kf q (h2 q) hx hle H locs ls hH hS hl)
theorem zV_if_lt {X : Zx} {C : Zc} {M : Zm} {pc tgt : Nat} {off : Int} {lv : Zl} {st : List Zv} {β : Type} {A B : Option β} {z : β} {x : Int32} (hd : decode C.1 pc = .ok (.ifCond .lt off, 3)) (ht : (pc : Int) + off = (tgt : Int)) (h : (if x < 0 then A else B) = some z) (kt : x < 0 → A = some z → zV X C M tgt lv st) (kf : ¬ x < 0 → B = some z → zV X C M (pc + 3) lv st) : zV X C M pc lv (.inl x :: st) := by
  obtain ⟨h1, h2⟩ := zite h
  obtain ⟨p, l, e, s, m, args, below, meth, c, D, cy, M0, Q⟩ := X
  intro hx hle H locs ls hH hS hl
  exact lv_if_lt hx.1 hx.2.1 hd ht (fun q => kt q (h1 q) hx hle H locs ls hH hS hl) (fun q => kf q (h2 q) hx hle H locs ls hH hS hl)
theorem zV_if_ge {X : Zx} {C : Zc} {M : Zm} {pc tgt : Nat} {off : Int} {lv : Zl} {st : List Zv} {β : Type} {A B : Option β} {z : β} {x : Int32} (hd : decode C.1 pc = .ok (.ifCond .ge off, 3)) (ht : (pc : Int) + off = (tgt : Int)) (h : (if 0 ≤ x then A else B) = some z) (kt : 0 ≤ x → A = some z → zV X C M tgt lv st) (kf : ¬ 0 ≤ x → B = some z → zV X C M (pc + 3) lv st) : zV X C M pc lv (.inl x :: st) := by
  obtain ⟨h1, h2⟩ := zite h
  obtain ⟨p, l, e, s, m, args, below, meth, c, D, cy, M0, Q⟩ := X
  intro hx hle H locs ls hH hS hl
  exact lv_if_ge hx.1 hx.2.1 hd ht (fun q => kt q (h1 q) hx hle H locs ls hH hS hl) (fun q => kf q (h2 q) hx hle H locs ls hH hS hl)
theorem zV_if_gt {X : Zx} {C : Zc} {M : Zm} {pc tgt : Nat} {off : Int} {lv : Zl} {st : List Zv} {β : Type} {A B : Option β} {z : β} {x : Int32} (hd : decode C.1 pc = .ok (.ifCond .gt off, 3)) (ht : (pc : Int) + off = (tgt : Int)) (h : (if 0 < x then A else B) = some z) (kt : 0 < x → A = some z → zV X C M tgt lv st) (kf : ¬ 0 < x → B = some z → zV X C M (pc + 3) lv st) : zV X C M pc lv (.inl x :: st) := by
  obtain ⟨h1, h2⟩ := zite h
  obtain ⟨p, l, e, s, m, args, below, meth, c, D, cy, M0, Q⟩ := X
  intro hx hle H locs ls hH hS hl
  exact lv_if_gt hx.1 hx.2.1 hd ht (fun q => kt q (h1 q) hx hle H locs ls hH hS hl) (fun q => kf q (h2 q) hx hle H locs ls hH hS hl)
theorem zV_if_le {X : Zx} {C : Zc} {M : Zm} {pc tgt : Nat} {off : Int} {lv : Zl} {st : List Zv} {β : Type} {A B : Option β} {z : β} {x : Int32} (hd : decode C.1 pc = .ok (.ifCond .le off, 3)) (ht : (pc : Int) + off = (tgt : Int)) (h : (if x ≤ 0 then A else B) = some z) (kt : x ≤ 0 → A = some z → zV X C M tgt lv st) (kf : ¬ x ≤ 0 → B = some z → zV X C M (pc + 3) lv st) : zV X C M pc lv (.inl x :: st) := by
  obtain ⟨h1, h2⟩ := zite h
  obtain ⟨p, l, e, s, m, args, below, meth, c, D, cy, M0, Q⟩ := X
  intro hx hle H locs ls hH hS hl
  exact lv_if_le hx.1 hx.2.1 hd ht (fun q => kt q (h1 q) hx hle H locs ls hH hS hl) (fun q => kf q (h2 q) hx hle H locs ls hH hS hl)
theorem zV_icmp_ne {X : Zx} {C : Zc} {M : Zm} {pc tgt : Nat} {off : Int} {lv : Zl} {st : List Zv} {β : Type} {A B : Option β} {z : β} {x y : Int32} (hd : decode C.1 pc = .ok (.if_icmp .ne off, 3)) (ht : (pc : Int) + off = (tgt : Int)) (h : (if x = y then A else B) = some z) (kt : x = y → A = some z → zV X C M (pc + 3) lv st) (kf : ¬ x = y → B = some z → zV X C M tgt lv st) : zV X C M pc lv (.inl y :: .inl x :: st) := by
  obtain ⟨h1, h2⟩ := zite h
  obtain ⟨p, l, e, s, m, args, below, meth, c, D, cy, M0, Q⟩ := X
  intro hx hle H locs ls hH hS hl
  exact lv_icmp_ne hx.1 hx.2.1 hd ht (fun q => kf q (h2 q) hx hle H locs ls hH hS hl) (fun q => kt q (h1 q) hx hle H locs ls hH hS hl)
theorem zV_if_ne {X : Zx} {C : Zc} {M : Zm} {pc tgt : Nat} {off : Int} {lv : Zl} {st : List Zv} {β : Type} {A B : Option β} {z : β} {x : Int32} (hd : decode C.1 pc = .ok (.ifCond .ne off, 3)) (ht : (pc : Int) + off = (tgt : Int)) (h : (if x = 0 then A else B) = some z) (kt : x = 0 → A = some z → zV X C M (pc + 3) lv st) (kf : ¬ x = 0 → B = some z → zV X C M tgt lv st) : zV X C M pc lv (.inl x :: st) := by
  obtain ⟨h1, h2⟩ := zite h
  obtain ⟨p, l, e, s, m, args, below, meth, c, D, cy, M0, Q⟩ := X
  intro hx hle H locs ls hH hS hl
  exact lv_if_ne hx.1 hx.2.1 hd ht (fun q => kf q (h2 q) hx hle H locs ls hH hS hl) (fun q => kt q (h1 q) hx hle H locs ls hH hS hl)
theorem zV_lcmp_eq {X : Zx} {C : Zc} {M : Zm} {pc tgt : Nat} {off : Int} {lv : Zl} {st : List Zv} {β : Type} {A B : Option β} {z : β} {x y : Int64} (hd0 : decode C.1 pc = .ok (.lcmp, 1)) (hd : decode C.1 (pc + 1) = .ok (.ifCond .eq off, 3)) (ht : ((pc + 1 : Nat) : Int) + off = (tgt : Int)) (h : (if x = y then A else B) = some z) (kt : x = y → A = some z → zV X C M tgt lv st) (kf : ¬ x = y → B = some z → zV X C M (pc + 4) lv st) : zV X C M pc lv (.inr (.inl y) :: .inr (.inl x) :: st) := by
  obtain ⟨h1, h2⟩ := zite h
  obtain ⟨p, l, e, s, m, args, below, meth, c, D, cy, M0, Q⟩ := X
  intro hx hle H locs ls hH hS hl
  refine W.lcmp hx.1 hx.2.1 hd0 ?_
  exact lv_if_eq hx.1 hx.2.1 hd ht (fun q => kt ((lg_cmp_eq x y).mp q) (h1 ((lg_cmp_eq x y).mp q)) hx hle H locs ls hH hS hl) (fun q => kf (fun q2 => q ((lg_cmp_eq x y).mpr q2)) (h2 (fun q2 => q ((lg_cmp_eq x y).mpr q2))) hx hle H locs ls hH hS hl)
theorem zV_lcmp_lt {X : Zx} {C : Zc} {M : Zm} {pc tgt : Nat} {off : Int} {lv : Zl} {st : List Zv} {β : Type} {A B : Option β} {z : β} {x y : Int64} (hd0 : decode C.1 pc = .ok (.lcmp, 1)) (hd : decode C.1 (pc + 1) = .ok (.ifCond .lt off, 3)) (ht : ((pc + 1 : Nat) : Int) + off = (tgt : Int)) (h : (if x < y then A else B) = some z) (kt : x < y → A = some z → zV X C M tgt lv st) (kf : ¬ x < y → B = some z → zV X C M (pc + 4) lv st) : zV X C M pc lv (.inr (.inl y) :: .inr (.inl x) :: st) := by
  obtain ⟨h1, h2⟩ := zite h
  obtain ⟨p, l, e, s, m, args, below, meth, c, D, cy, M0, Q⟩ := X
  intro hx hle H locs ls hH hS hl
  refine W.lcmp hx.1 hx.2.1 hd0 ?_
  exact lv_if_lt hx.1 hx.2.1 hd ht (fun q => kt ((lg_cmp_lt x y).mp q) (h1 ((lg_cmp_lt x y).mp q)) hx hle H locs ls hH hS hl) (fun q => kf (fun q2 => q ((lg_cmp_lt x y).mpr q2)) (h2 (fun q2 => q ((lg_cmp_lt x y).mpr q2))) hx hle H locs ls hH hS hl)
theorem zV_lcmp_ge {X : Zx} {C : Zc} {M : Zm} {pc tgt : Nat} {off : Int} {lv : Zl} {st : List Zv} {β : Type} {A B : Option β} {z : β} {x y : Int64} (hd0 : decode C.1 pc = .ok (.lcmp, 1)) (hd : decode C.1 (pc + 1) = .ok (.ifCond .ge off, 3)) (ht : ((pc + 1 : Nat) : Int) + off = (tgt : Int)) (h : (if y ≤ x then A else B) = some z) (kt : y ≤ x → A = some z → zV X C M tgt lv st) (kf : ¬ y ≤ x → B = some z → zV X C M (pc + 4) lv st) : zV X C M pc lv (.inr (.inl y) :: .inr (.inl x) :: st) := by
  obtain ⟨h1, h2⟩ := zite h
  obtain ⟨p, l, e, s, m, args, below, meth, c, D, cy, M0, Q⟩ := X
  intro hx hle H locs ls hH hS hl
  refine W.lcmp hx.1 hx.2.1 hd0 ?_
  exact lv_if_ge hx.1 hx.2.1 hd ht (fun q => kt ((lg_cmp_ge x y).mp q) (h1 ((lg_cmp_ge x y).mp q)) hx hle H locs ls hH hS hl) (fun q => kf (fun q2 => q ((lg_cmp_ge x y).mpr q2)) (h2 (fun q2 => q ((lg_cmp_ge x y).mpr q2))) hx hle H locs ls hH hS hl)
theorem zV_lcmp_gt {X : Zx} {C : Zc} {M : Zm} {pc tgt : Nat} {off : Int} {lv : Zl} {st : List Zv} {β : Type} {A B : Option β} {z : β} {x y : Int64} (hd0 : decode C.1 pc = .ok (.lcmp, 1)) (hd : decode C.1 (pc + 1) = .ok (.ifCond .gt off, 3)) (ht : ((pc + 1 : Nat) : Int) + off = (tgt : Int)) (h : (if y < x then A else B) = some z) (kt : y < x → A = some z → zV X C M tgt lv st) (kf : ¬ y < x → B = some z → zV X C M (pc + 4) lv st) : zV X C M pc lv (.inr (.inl y) :: .inr (.inl x) :: st) := by
  obtain ⟨h1, h2⟩ := zite h
  obtain ⟨p, l, e, s, m, args, below, meth, c, D, cy, M0, Q⟩ := X
  intro hx hle H locs ls hH hS hl
  refine W.lcmp hx.1 hx.2.1 hd0 ?_
  exact lv_if_gt hx.1 hx.2.1 hd ht (fun q => kt ((lg_cmp_gt x y).mp q) (h1 ((lg_cmp_gt x y).mp q)) hx hle H locs ls hH hS hl) (fun q => kf (fun q2 => q ((lg_cmp_gt x y).mpr q2)) (h2 (fun q2 => q ((lg_cmp_gt x y).mpr q2))) hx hle H locs ls hH hS hl)
theorem zV_lcmp_le {X : Zx} {C : Zc} {M : Zm} {pc tgt : Nat} {off : Int} {lv : Zl} {st : List Zv} {β : Type} {A B : Option β} {z : β} {x y : Int64} (hd0 : decode C.1 pc = .ok (.lcmp, 1)) (hd : decode C.1 (pc + 1) = .ok (.ifCond .le off, 3)) (ht : ((pc + 1 : Nat) : Int) + off = (tgt : Int)) (h : (if x ≤ y then A else B) = some z) (kt : x ≤ y → A = some z → zV X C M tgt lv st) (kf : ¬ x ≤ y → B = some z → zV X C M (pc + 4) lv st) : zV X C M pc lv (.inr (.inl y) :: .inr (.inl x) :: st) := by
  obtain ⟨h1, h2⟩ := zite h
  obtain ⟨p, l, e, s, m, args, below, meth, c, D, cy, M0, Q⟩ := X
  intro hx hle H locs ls hH hS hl
  refine W.lcmp hx.1 hx.2.1 hd0 ?_
  exact lv_if_le hx.1 hx.2.1 hd ht (fun q => kt ((lg_cmp_le x y).mp q) (h1 ((lg_cmp_le x y).mp q)) hx hle H locs ls hH hS hl) (fun q => kf (fun q2 => q ((lg_cmp_le x y).mpr q2)) (h2 (fun q2 => q ((lg_cmp_le x y).mpr q2))) hx hle H locs ls hH hS hl)
theorem zV_lcmp_ne {X : Zx} {C : Zc} {M : Zm} {pc tgt : Nat} {off : Int} {lv : Zl} {st : List Zv} {β : Type} {A B : Option β} {z : β} {x y : Int64} (hd0 : decode C.1 pc = .ok (.lcmp, 1)) (hd : decode C.1 (pc + 1) = .ok (.ifCond .ne off, 3)) (ht : ((pc + 1 : Nat) : Int) + off = (tgt : Int)) (h : (if x = y then A else B) = some z) (kt : x = y → A = some z → zV X C M (pc + 4) lv st) (kf : ¬ x = y → B = some z → zV X C M tgt lv st) : zV X C M pc lv (.inr (.inl y) :: .inr (.inl x) :: st) := by
  obtain ⟨h1, h2⟩ := zite h
  obtain ⟨p, l, e, s, m, args, below, meth, c, D, cy, M0, Q⟩ := X
  intro hx hle H locs ls hH hS hl
  refine W.lcmp hx.1 hx.2.1 hd0 ?_
  exact lv_if_ne hx.1 hx.2.1 hd ht (fun q => kf (fun q2 => q ((lg_cmp_eq x y).mpr q2)) (h2 (fun q2 => q ((lg_cmp_eq x y).mpr q2))) hx hle H locs ls hH hS hl) (fun q => kt ((lg_cmp_eq x y).mp q) (h1 ((lg_cmp_eq x y).mp q)) hx hle H locs ls hH hS hl)
theorem zV_goto {X : Zx} {C : Zc} {M : Zm} {pc tgt : Nat} {off : Int} {lv : Zl} {st : List Zv} (hd : decode C.1 pc = .ok (.goto off, 3)) (ht : (pc : Int) + off = (tgt : Int)) (k : zV X C M tgt lv st) : zV X C M pc lv st :=
  zV_w (fun _ _ _ _ _ _ _ _ _ _ _ _ _ _ _ ls hx hb hl k => lv_goto hx hb hd ht (k ls hl)) k
theorem zV_ifnull {X : Zx} {C : Zc} {M : Zm} {pc tgt : Nat} {off : Int} {lv : Zl} {st : List Zv} {β : Type} {A B : Option β} {z : β} {r : Option Nat} (hd : decode C.1 pc = .ok (.ifnull off, 3)) (ht : (pc : Int) + off = (tgt : Int)) (h : (if r = none then A else B) = some z) (kt : r = none → A = some z → zV X C M tgt lv st) (kf : ¬ r = none → B = some z → zV X C M (pc + 3) lv st) : zV X C M pc lv (.inr (.inr r) :: st) := by
  obtain ⟨h1, h2⟩ := zite h
  cases r with
  | none => exact zV_w (fun _ _ _ _ _ _ _ _ _ _ _ _ _ _ _ ls hx hb hl k => lv_ifnullN hx hb hd ht (k ls hl)) (kt rfl (h1 rfl))
  | some a => exact zV_w (fun _ _ _ _ _ _ _ _ _ _ _ _ _ _ _ ls hx hb hl k => lv_ifnull hx hb hd (k ls hl)) (kf (fun q => by cases q) (h2 (fun q => by cases q)))
theorem zV_ifnonnull {X : Zx} {C : Zc} {M : Zm} {pc tgt : Nat} {off : Int} {lv : Zl} {st : List Zv} {β : Type} {A B : Option β} {z : β} {r : Option Nat} (hd : decode C.1 pc = .ok (.ifnonnull off, 3)) (ht : (pc : Int) + off = (tgt : Int)) (h : (if r = none then A else B) = some z) (kt : r = none → A = some z → zV X C M (pc + 3) lv st) (kf : ¬ r = none → B = some z → zV X C M tgt lv st) : zV X C M pc lv (.inr (.inr r) :: st) := by
  obtain ⟨h1, h2⟩ := zite h
  cases r with
  | none => exact zV_w (fun _ _ _ _ _ _ _ _ _ _ _ _ _ _ _ ls hx hb hl k => lv_ifnonnullN hx hb hd (k ls hl)) (kt rfl (h1 rfl))
  | some a => exact zV_w (fun _ _ _ _ _ _ _ _ _ _ _ _ _ _ _ ls hx hb hl k => lv_ifnonnull hx hb hd ht (k ls hl)) (kf (fun q => by cases q) (h2 (fun q => by cases q)))
theorem zV_acmp_eq {X : Zx} {C : Zc} {M : Zm} {pc tgt : Nat} {off : Int} {lv : Zl} {st : List Zv} {β : Type} {A B : Option β} {z : β} {rx ry : Option Nat} (hd : decode C.1 pc = .ok (.if_acmp .eq off, 3)) (ht : (pc : Int) + off = (tgt : Int)) (h : (if rx = ry then A else B) = some z) (kt : rx = ry → A = some z → zV X C M tgt lv st) (kf : ¬ rx = ry → B = some z → zV X C M (pc + 3) lv st) : zV X C M pc lv (.inr (.inr ry) :: .inr (.inr rx) :: st) := by
  obtain ⟨h1, h2⟩ := zite h
  obtain ⟨p, l, e, s, m, args, below, meth, c, D, cy, M0, Q⟩ := X
  intro hx hle H locs ls hH hS hl
  exact lv_acmp_eq hx.1 hx.2.1 hd ht (fun q => kt q (h1 q) hx hle H locs ls hH hS hl) (fun q => kf q (h2 q) hx hle H locs ls hH hS hl)
theorem zV_acmp_ne {X : Zx} {C : Zc} {M : Zm} {pc tgt : Nat} {off : Int} {lv : Zl} {st : List Zv} {β : Type} {A B : Option β} {z : β} {rx ry : Option Nat} (hd : decode C.1 pc = .ok (.if_acmp .ne off, 3)) (ht : (pc : Int) + off = (tgt : Int)) (h : (if rx = ry then A else B) = some z) (kt : rx = ry → A = some z → zV X C M (pc + 3) lv st) (kf : ¬ rx = ry → B = some z → zV X C M tgt lv st) : zV X C M pc lv (.inr (.inr ry) :: .inr (.inr rx) :: st) := by
  obtain ⟨h1, h2⟩ := zite h
  obtain ⟨p, l, e, s, m, args, below, meth, c, D, cy, M0, Q⟩ := X
  intro hx hle H locs ls hH hS hl
  exact lv_acmp_ne hx.1 hx.2.1 hd ht (fun q => kf q (h2 q) hx hle H locs ls hH hS hl) (fun q => kt q (h1 q) hx hle H locs ls hH hS hl)
theorem zV_tin {X : Zx} {C : Zc} {M : Zm} {pc tgt len : Nat} {lv : Zl} {st : List Zv} {dflt lo hi off : Int} {offs : Array Int} {x : Int32} (hd : decode C.1 pc = .ok (.tableswitch dflt lo hi offs, len)) (h1 : ¬ x.toInt < lo) (h2 : ¬ hi < x.toInt) (ho : offs[(x.toInt - lo).toNat]? = some off) (ht : (pc : Int) + off = (tgt : Int)) (k : zV X C M tgt lv st) : zV X C M pc lv (.inl x :: st) :=
  zV_w (fun _ _ _ _ _ _ _ _ _ _ _ _ _ _ _ ls hx hb hl k => lv_tableIn hx hb hd h1 h2 ho ht (k ls hl)) k
theorem zV_tout {X : Zx} {C : Zc} {M : Zm} {pc tgt len : Nat} {lv : Zl} {st : List Zv} {dflt lo hi : Int} {offs : Array Int} {x : Int32} (hd : decode C.1 pc = .ok (.tableswitch dflt lo hi offs, len)) (h : x.toInt < lo ∨ hi < x.toInt) (ht : (pc : Int) + dflt = (tgt : Int)) (k : zV X C M tgt lv st) : zV X C M pc lv (.inl x :: st) :=
  zV_w (fun _ _ _ _ _ _ _ _ _ _ _ _ _ _ _ ls hx hb hl k => lv_tableOut hx hb hd h ht (k ls hl)) k
theorem zV_lsw {X : Zx} {C : Zc} {M : Zm} {pc tgt len : Nat} {lv : Zl} {st : List Zv} {dflt off : Int} {ps : Array (Int × Int)} {x : Int32} (hd : decode C.1 pc = .ok (.lookupswitch dflt ps, len)) (hp : (ps.toList.zip (ps.toList.drop 1)).all (fun (a, next) => a.1 < next.1) = true) (ho : Op.lookupswitch.offset ps.toList dflt x.toInt = off) (ht : (pc : Int) + off = (tgt : Int)) (k : zV X C M tgt lv st) : zV X C M pc lv (.inl x :: st) :=
  zV_w (fun _ _ _ _ _ _ _ _ _ _ _ _ _ _ _ ls hx hb hl k => lv_lookup hx hb hd hp ho ht (k ls hl)) k
theorem zV_id {X : Zx} {C : Zc} {M : Zm} {pc : Nat} {lv : Zl} {st : List Zv} {β : Type} {z : β} {x y : Int32} {g : Int32 → Option β} (hd : decode C.1 pc = .ok (.idiv, 1)) (h : zb1 (zo_id x y) g = some z) (k : ∀ v, zo_id x y = some v → g v = some z → zV X C M (pc + 1) lv (.inl v :: st)) : zV X C M pc lv (.inl y :: .inl x :: st) := by
  obtain ⟨v, e, h⟩ := zb1_inv h
  have k := k v e h
  unfold zo_id at e
  split at e
  · cases e
  · rename_i hne
    cases e
    exact zV_w (fun _ _ _ _ _ _ _ _ _ _ _ _ _ _ _ ls hx hb hl k => lv_idiv hx hb hd hne (k ls hl)) k
theorem zV_im {X : Zx} {C : Zc} {M : Zm} {pc : Nat} {lv : Zl} {st : List Zv} {β : Type} {z : β} {x y : Int32} {g : Int32 → Option β} (hd : decode C.1 pc = .ok (.irem, 1)) (h : zb1 (zo_im x y) g = some z) (k : ∀ v, zo_im x y = some v → g v = some z → zV X C M (pc + 1) lv (.inl v :: st)) : zV X C M pc lv (.inl y :: .inl x :: st) := by
  obtain ⟨v, e, h⟩ := zb1_inv h
  have k := k v e h
  unfold zo_im at e
  split at e
  · cases e
  · rename_i hne
    cases e
    exact zV_w (fun _ _ _ _ _ _ _ _ _ _ _ _ _ _ _ ls hx hb hl k => lv_irem hx hb hd hne (k ls hl)) k
theorem zV_ld {X : Zx} {C : Zc} {M : Zm} {pc : Nat} {lv : Zl} {st : List Zv} {β : Type} {z : β} {x y : Int64} {g : Int64 → Option β} (hd : decode C.1 pc = .ok (.ldiv, 1)) (h : zb1 (zo_ld x y) g = some z) (k : ∀ v, zo_ld x y = some v → g v = some z → zV X C M (pc + 1) lv (.inr (.inl v) :: st)) : zV X C M pc lv (.inr (.inl y) :: .inr (.inl x) :: st) := by
  obtain ⟨v, e, h⟩ := zb1_inv h
  have k := k v e h
  unfold zo_ld at e
  split at e
  · cases e
  · rename_i hne
    cases e
    exact zV_w (fun _ _ _ _ _ _ _ _ _ _ _ _ _ _ _ ls hx hb hl k => lv_ldiv hx hb hd hne (k ls hl)) k
theorem zV_lm {X : Zx} {C : Zc} {M : Zm} {pc : Nat} {lv : Zl} {st : List Zv} {β : Type} {z : β} {x y : Int64} {g : Int64 → Option β} (hd : decode C.1 pc = .ok (.lrem, 1)) (h : zb1 (zo_lm x y) g = some z) (k : ∀ v, zo_lm x y = some v → g v = some z → zV X C M (pc + 1) lv (.inr (.inl v) :: st)) : zV X C M pc lv (.inr (.inl y) :: .inr (.inl x) :: st) := by
  obtain ⟨v, e, h⟩ := zb1_inv h
  have k := k v e h
  unfold zo_lm at e
  split at e
  · cases e
  · rename_i hne
    cases e
    exact zV_w (fun _ _ _ _ _ _ _ _ _ _ _ _ _ _ _ ls hx hb hl k => lv_lrem hx hb hd hne (k ls hl)) k
theorem zV_ldc {X : Zx} {C : Zc} {M : Zm} {pc index : Nat} {lv : Zl} {st : List Zv} {v : Int32} (hd : decode C.1 pc = .ok (.ldc index, 2)) (hw : Cond.constant C.2.2.1 index v ∈ zT) (k : zV X C M (pc + 2) lv (.inl v :: st)) : zV X C M pc lv st := by
  obtain ⟨p, l, e, s, m, args, below, meth, c, D, cy, M0, Q⟩ := X
  intro hx hle H locs ls hH hS hl
  exact lv_ldc hx.1 hx.2.1 hx.2.2.2.1 (hx.2.2.2.2.1 _ hw) hd (k hx hle H locs ls hH hS hl)
theorem zV_ldcw {X : Zx} {C : Zc} {M : Zm} {pc index : Nat} {lv : Zl} {st : List Zv} {v : Int32} (hd : decode C.1 pc = .ok (.ldc_w index, 3)) (hw : Cond.constant C.2.2.1 index v ∈ zT) (k : zV X C M (pc + 3) lv (.inl v :: st)) : zV X C M pc lv st := by
  obtain ⟨p, l, e, s, m, args, below, meth, c, D, cy, M0, Q⟩ := X
  intro hx hle H locs ls hH hS hl
  exact lv_ldcw hx.1 hx.2.1 hx.2.2.2.1 (hx.2.2.2.2.1 _ hw) hd (k hx hle H locs ls hH hS hl)
theorem zV_ldc2 {X : Zx} {C : Zc} {M : Zm} {pc index : Nat} {lv : Zl} {st : List Zv} {v : Int64} (hd : decode C.1 pc = .ok (.ldc2_w index, 3)) (hw : Cond.constantLong C.2.2.1 index v ∈ zT) (k : zV X C M (pc + 3) lv (.inr (.inl v) :: st)) : zV X C M pc lv st := by
  obtain ⟨p, l, e, s, m, args, below, meth, c, D, cy, M0, Q⟩ := X
  intro hx hle H locs ls hH hS hl
  exact lv_ldc2 hx.1 hx.2.1 hx.2.2.2.1 (hx.2.2.2.2.1 _ hw) hd (k hx hle H locs ls hH hS hl)
