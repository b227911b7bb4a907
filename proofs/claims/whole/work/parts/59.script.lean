/-! The law's script. -/
def R_law : String := "BlendCellarLaw"
def zScr (X : Zx) (sb L : Nat) (xs : Nat → Int32) : Prop := match X with
  | (_, _, _, s, _, _, _, _, _, _, _, M0, _) => va_X sb L xs s s.heap ∧ sb < s.heap.size ∧ sb < zm_b M0
def zo_xs (xs : Nat → Int32) (L : Nat) (i : Int32) : Option Int32 := if ¬ (i < 0 ∨ L ≤ i.toNatClampNeg) then some (xs i.toNatClampNeg) else none
theorem zV_xs {X : Zx} {C : Zc} {M : Zm} {pc sb L : Nat} {xs : Nat → Int32} {lv : Zl} {st : List Zv} {β : Type} {z : β} {i : Int32} {g : Int32 → Option β} (hs : zScr X sb L xs) (hd : decode C.1 pc = .ok (.iaload, 1)) (h : zb1 (zo_xs xs L i) g = some z) (kk : ∀ v, zo_xs xs L i = some v → g v = some z → zV X C M (pc + 1) lv (.inl v :: st)) : zV X C M pc lv (.inl i :: .inr (.inr (some sb)) :: st) := by
  obtain ⟨v, e, h2⟩ := zb1_inv h
  have kk2 := kk v e h2
  unfold zo_xs at e
  split at e
  · rename_i hin; cases e
    obtain ⟨p, l, e0, s, m, args, below, meth, cd, D, cy, M0, Q⟩ := X
    intro hx hle H locs ls hH hS hl
    exact va_sld hx.1 hx.2.1 hs.1 hs.2.1 (show ¬ zm_b M0 ≤ sb from Nat.not_le.mpr hs.2.2) hS hin hd (kk2 hx hle H locs ls hH hS hl)
  · cases e
theorem zV_xn {X : Zx} {C : Zc} {M : Zm} {pc sb L : Nat} {xs : Nat → Int32} {lv : Zl} {st : List Zv} (hs : zScr X sb L xs) (hd : decode C.1 pc = .ok (.arraylength, 1)) (kk : zV X C M (pc + 1) lv (.inl (Int32.ofNat L) :: st)) : zV X C M pc lv (.inr (.inr (some sb)) :: st) := by
  obtain ⟨p, l, e0, s, m, args, below, meth, cd, D, cy, M0, Q⟩ := X
  intro hx hle H locs ls hH hS hl
  exact va_slen hx.1 hx.2.1 hs.1 hs.2.1 (show ¬ zm_b M0 ≤ sb from Nat.not_le.mpr hs.2.2) hS hd (kk hx hle H locs ls hH hS hl)
