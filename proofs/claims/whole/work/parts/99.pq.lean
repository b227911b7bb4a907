/-! The class's acts, whole: bottle. -/
theorem X_bottle {M : Zm} {g : Zg} {A AL : Nat → Nat} {x : Nat} {adr : Nat → Nat} {ga k t : Nat} {c : Cs} (h : zCs M g A AL x adr ga c) (hJ : Jc t c) (ht : t < 512) (hb : zBu M g (k + 600)) (b n0 : Int32) (all : Int64) : zev (zf_X11_bottle M (some x) b n0 all) (fun y => ∃ g' A' AL', zCs y.1 g' A' AL' x adr ga (sAct (sBottle b n0 all) c).2 ∧ y.2 = (sAct (sBottle b n0 all) c).1 ∧ zFo M g y.1 g' Tc ∧ zBu y.1 g' k) := by
  obtain ⟨nb, bs, ro, lb, ps, ac, jr, bo, mo, gi, tr, tp, wy, wh, tc, st, ds, dw, bf, ba, bc⟩ := c
  obtain ⟨jI, jR, jP, jJ, jB, jG, jF, jU⟩ := hJ
  refine C_act (fun M1 => zf_X11_fillBottles M1 (some x) b n0 all) (sBottle b n0 all) h hb k (fun M1 h1 b1 => ?_)
  simp only [zCs, sOpen] at h1
  refine C_bottle h1 jI.mem jI.i60 (G_ca jI) (by omega) (by omega) b n0 all (fun n hn hv1 hv2 c1 c2 c3 c4 => ?_) (b1.mono (Nat.le_add_right _ _))
  obtain ⟨v1, v2⟩ := isml_i hv1
  obtain ⟨aN, aN2⟩ := lN_of (show 0 ≤ all.toInt by omega)
  obtain ⟨N, hN, rfl⟩ := nI_rng (n := 1000000) (by decide) c1 c3
  have hN0 : N ≠ 0 := fun e => c2 (by rw [e]; rfl)
  have eN : (nI N).toInt64 = lN N := by
    apply Int64.toInt_inj.mp
    rw [Int32.toInt_toInt64, nI_toInt (by omega), pk_lT (by omega)]
  obtain ⟨sp, sp1, sp2⟩ := jI.bsp hn
  generalize hA : all.toInt.toNat = P at aN aN2
  have hq : all / (nI N).toInt64 = lN (P / N) := by rw [aN, eN]; exact pk_lDiv (by omega) (by omega) (by omega)
  rw [hq] at c4 ⊢
  rw [eN, lN_mul]
  have hle : P / N * N ≤ P := Nat.div_mul_le_self P N
  have hP : P ≤ 1000000000 := by omega
  have hd0 : P / N ≠ 0 := fun e => c4 (by rw [e]; rfl)
  have hpos : 0 < P / N * N := Nat.mul_pos (Nat.pos_of_ne_zero hd0) (Nat.pos_of_ne_zero hN0)
  generalize P / N * N = R at hle hpos
  rw [aN, sp2] at hv2
  have hv3 := (pk_lLE (by omega) (by omega)).mp hv2
  refine G_dok jI hn (by rw [pk_lT (by omega)]; omega) ?_
  rw [sp2]
  exact (pk_lLE (by omega) (by omega)).mpr (by omega)
