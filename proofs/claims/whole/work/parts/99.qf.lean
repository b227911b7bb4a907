/-! The start. -/
theorem R0_0 : R0 cs0 Q0 [] := by
  refine ⟨⟨rfl, fun b hb => absurd hb (Nat.not_lt_zero b)⟩, fun r _ => Or.inl ⟨rfl, rfl, fun p _ => rfl⟩, ⟨rfl, List.nodup_nil, fun p hp => absurd hp List.not_mem_nil, fun k p hp => by simp at hp, fun c _ _ => rfl⟩, ?_, ⟨fun h _ q hq => absurd hq List.not_mem_nil, fun b hb => absurd hb (Nat.not_lt_zero b)⟩, ⟨rfl, fun i q hq => by simp at hq⟩, ⟨rfl, fun i q hq => by simp at hq⟩, rfl, rfl, ⟨rfl, by decide, fun i q hq => by simp at hq⟩, ⟨rfl, by decide, fun i q hq => by simp at hq⟩, ⟨rfl, by decide, fun i q hq => by simp at hq⟩, rfl, rfl, ⟨rfl, by decide, fun i q hq => by simp at hq⟩, rfl, fun hq => absurd rfl hq⟩
  exact ⟨fun k p hp => by simp at hp, fun j _ _ => rfl⟩
theorem Jc_0 : Jc 0 cs0 := by
  refine ⟨⟨by decide, fun b hb => absurd hb (Nat.not_lt_zero b), fun r k ps hr hro => by simp at hro, fun h hh => ⟨trivial, fun q hq => absurd hq List.not_mem_nil⟩⟩, fun b hb => absurd hb (Nat.not_lt_zero b), ⟨fun q hq => absurd hq List.not_mem_nil, fun i j q r hq => by simp at hq, by decide⟩, Nat.le_refl _, Nat.le_refl _, ⟨0, Nat.le_refl _, rfl⟩, Or.inl rfl, fun hq => absurd rfl hq⟩
theorem zcd_0 : zcd gi2 3100 = 274112 := by decide +kernel
theorem z_main {xs : Nat → Int32} {L b : Nat} (hL : L ≤ 3072) : ∀ M : Zm, zm_c M = 0 → zm_s M = 0 → zm_e M < zm_b M → ∃ M', zf_L_law xs L b M = some (M', 1) := by
  intro M h1 h2 h3
  have hz := zcd_0
  have key : zev (zf_L_law xs L b M) (fun y => y.2 = 1) := by
    unfold zf_L_law
    rw [zev_b1]
    refine zev_nob (k := 12) (n := 20) (by omega) (by omega) (fun M1 f1 A1 c1 s1 z1 => ?_)
    refine zr_rc A1.1 ?_
    rw [zev_bd]
    have b1 : zBd 330000 M1 (zgw (fun _ => 0, gi2) 2 (zm_b M + zm_c M)) (307400 + 4800) := by
      refine ⟨?_, ?_⟩
      · show zm_s M1 + 4 * zcd gi2 3100 + (307400 + 4800 + 330000) ≤ 7302250
        omega
      · show zm_c M1 + zcd gi2 3100 + (307400 + 4800) ≤ 600000
        omega
    have he : zm_e M1 < zm_b M1 := by
      have e1 : zm_e M1 = zm_e M := by unfold zm_e; rw [f1.1]
      rw [e1, f1.2.1]
      exact h3
    refine zev_mono (zCs_new (k := 307400) A1.1 zgw_1 rfl he b1) ?_
    rintro ⟨M2, u2⟩ ⟨g2, adr, ga, C2, f2, e2, b2⟩
    dsimp only at C2 f2 e2 b2 ⊢
    have eg2 : g2.2 = gi2 := e2
    have bs1 := b2.1
    have bc1 := b2.2
    rw [eg2] at bs1 bc1
    rw [zev_b1]
    refine zev_nob (k := 13) (n := 76) (by omega) (by omega) (fun M3 f3 A3 c3 s3 z3 => ?_)
    refine zr_rc A3.1 ?_
    rw [zev_bd]
    have nok : ¬ zm_ok M2 (zm_b M2 + zm_c M2) := fun q => by have := q.2; omega
    have fo3 : zFo M2 g2 M3 (zgw g2 1 (zm_b M2 + zm_c M2)) Tm := zgw_fo (f3.mono (fun _ _ q => q.elim)) nok
    refine zev_mono (zMv_new A3.1 zgw_1 (fun j => ⟨(z3 j).1, (z3 j).2.1⟩) eg2 (by omega) (by omega)) ?_
    rintro ⟨M4, u4⟩ ⟨g4, ad, V4, f4, e4, c4, s4⟩
    dsimp only at V4 f4 e4 c4 s4 ⊢
    have eg4 : g4.2 = gi2 := e4.trans eg2
    have hb : zBu M4 g4 (600 * (512 - 0)) := by
      unfold zBu
      rw [eg4]
      exact ⟨by omega, by omega⟩
    have hG : Gl (zm_b M2 + zm_c M2) ad (zm_b M + zm_c M) adr ga 0 M4 := ⟨g4, _, _, cs0, Q0, [], zCs_frm C2 (fo3.tr f4), V4, R0_0, rfl, rfl, Jc_0, hb⟩
    rw [zev_b1]
    refine zev_mono (L_loop hL hG) ?_
    rintro y ⟨⟨M5, l5⟩, rfl⟩
    dsimp only
    rw [zev_b1, zev_bo, zev_some]
  obtain ⟨⟨M', v⟩, e, rfl⟩ := key
  exact ⟨M', e⟩
