/-! Beginnings: what was before, the planner, the cellar. -/
def bf0 : Nat → Int32 := fun i => if i < 5 then 0 else -1
theorem zBe_new {D : Nat} {M : Zm} {g : Zg} {A : Nat → Nat} {a k : Nat} (hO : zO M a 2) (hg : g.1 a = 11) (h4 : g.2 27 = 4) (h5 : g.2 5 = 0) (he : zm_e M < zm_b M) (hb : zBd D M g (k + 30)) : zev (zf_X1_init M (some a)) (fun y => ∃ g', zBe y.1 g' A a bf0 [] [] ∧ zFo M g y.1 g' (fun z => z = 11 ∨ z = 27 ∨ z = 5) ∧ g'.2 = g.2 ∧ zBd D y.1 g' k) := by
  unfold zf_X1_init
  refine zr_rc hO ?_
  refine zr_az hO hb (Or.inl rfl) ?_
  intro M1 f1 b1 i1 j1 r1
  have O1 := f1.O hO
  refine zr_ai O1 b1 ?_
  intro M2 f2 b2 i2 j2 r2
  have O2 := f2.O O1
  refine zr_ai O2 b2 ?_
  intro M3 f3 b3 i3 j3 r3
  have O3 := f3.O O2
  refine zr_ai O3 b3 ?_
  intro M4 f4 b4 i4 j4 r4
  have O4 := f4.O O3
  refine zr_ai O4 b4 ?_
  intro M5 f5 b5 i5 j5 r5
  have O5 := f5.O O4
  refine zr_ai O5 b5 ?_
  intro M6 f6 b6 i6 j6 r6
  have O6 := f6.O O5
  refine zr_ai O6 b6 ?_
  intro M7 f7 b7 i7 j7 r7
  have O7 := f7.O O6
  refine zr_ai O7 b7 ?_
  intro M8 f8 b8 i8 j8 r8
  have O8 := f8.O O7
  refine zr_ai O8 b8 ?_
  intro M9 f9 b9 i9 j9 r9
  have O9 := f9.O O8
  have F9 := (((((((f1.tr f2).tr f3).tr f4).tr f5).tr f6).tr f7).tr f8).tr f9
  have I9 : ∀ i, i < 9 → zm_i M9 a i = bf0 i := by
    intro i hi
    rw [i9, i8, i7, i6, i5, i4, i3, i2, i1]
    have : i = 0 ∨ i = 1 ∨ i = 2 ∨ i = 3 ∨ i = 4 ∨ i = 5 ∨ i = 6 ∨ i = 7 ∨ i = 8 := by omega
    rcases this with e | e | e | e | e | e | e | e | e <;> subst e <;> rfl
  have g9 := F9.own hO.1 hg
  have eb9 := F9.eb
  refine zr_ao (o := 11) (o2 := 27) (K := k + 4) (K2 := k + 14) (T2 := fun z => z = 27) (fun M g w => zWo M g 27 w []) O9 g9 (b9.mono (by omega)) (by decide) (fun M2 g2 w q1 q2 q3 _ _ _ q4 => zWo_new q1 q2 (by rw [q3, F9.2.2]; exact h4) (by decide) q4) (fun M g M' g' w q f => q.fr f (by decide)) ?_
  intro M10 g10 w f10 e10 b10 W10 i10 j10 r10 ee10 eb10
  have O10 := f10.O O9
  have g10a := f10.own O9.1 g9
  refine zr_ao (o := 11) (o2 := 5) (K := k) (K2 := k) (T2 := fun z => z = 5) (fun M g w => zAl M g 5 w []) O10 g10a (b10.mono (by omega)) (by decide) (fun M2 g2 w q1 q2 q3 q5 q6 q7 q4 => zAl_new q1 q2 (by rw [q3, e10, F9.2.2]; exact h5) (by rw [q6, q7, ee10, eb10, eb9.1, eb9.2]; exact he) (q5 2).1 q4) (fun M g M' g' w q f => q.fr f (by decide)) ?_
  intro M11 g11 ca f11 e11 b11 C11 i11 j11 r11 _ _
  rw [zev_some]
  have W11 := W10.fr f11 (show ¬ (27 = 11 ∨ 27 = 5) by decide)
  exact ⟨g11, ⟨f11.O O10, f11.own O10.1 g10a, fun i hi => by rw [i11, i10]; exact I9 i hi, w, ca, by rw [r11, r10]; rfl, by rw [r11]; rfl, W11, C11⟩, (((F9.fo hg).mono (fun z q => Or.inl q)).tr (f10.mono (fun z q => by first | omega | (dsimp only at q; omega)))).tr (f11.mono (fun z q => by first | omega | (dsimp only at q; omega))), (e11.trans e10).trans F9.2.2, b11⟩
theorem zPp_new {D : Nat} {M : Zm} {g : Zg} {a k : Nat} (hO : zO M a 7) (hg : g.1 a = 15) (hb : zBd D M g (k + 3900)) : zev (zf_X6_init M (some a)) (fun y => ∃ g', zPp y.1 g' a [] ∧ zFo M g y.1 g' (fun z => z = 15 ∨ z = 16) ∧ g'.2 = g.2 ∧ zBd D y.1 g' k) := by
  unfold zf_X6_init
  refine zr_rc hO ?_
  refine zr_ao (o := 15) (o2 := 16) (K := k + 107) (K2 := k + 107 + 48 * 78 + 8) (T2 := fun z => z = 16) (I := fun M l => zf_X8_init M l 78) (fun M g w => zTa M g 16 w 78 (fun _ => 0) (fun _ => 0) 0 0) hO hg (hb.mono (by omega)) (by decide) (fun M2 g2 w q1 q2 _ _ _ _ q4 => zTa_new (n := 78) q1 q2 rfl (by decide) q4) (fun M g M' g' w q f => q.fr f (by decide)) ?_
  intro M1 g1 ta f1 e1 b1 T1 i1 j1 r1 _ _
  have O1 := f1.O hO
  have g1a := f1.own hO.1 hg
  refine zr_an 15 (K := k + 28) (n := 78) O1 rfl (by decide) (b1.mono (by omega)) ?_
  intro M2 g2 a1 f2 b2 A2 o2 n2 i2 j2 r2 z2
  have O2 := f2.O O1
  refine zr_an 15 (K := k + 21) (n := 6) O2 rfl (by decide) (b2.mono (by omega)) ?_
  intro M3 g3 a2 f3 b3 A3 o3 n3 i3 j3 r3 z3
  have O3 := f3.O O2
  refine zr_an 15 (K := k + 14) (n := 6) O3 rfl (by decide) (b3.mono (by omega)) ?_
  intro M4 g4 a3 f4 b4 A4 o4 n4 i4 j4 r4 z4
  have O4 := f4.O O3
  refine zr_an 15 (K := k + 7) (n := 6) O4 rfl (by decide) (b4.mono (by omega)) ?_
  intro M5 g5 a4 f5 b5 A5 o5 n5 i5 j5 r5 z5
  have O5 := f5.O O4
  refine zr_ar O5 b5 ?_
  intro M6 f6 b6 i6 j6 r6
  have O6 := f6.O O5
  refine zr_ai O6 b6 ?_
  intro M7 f7 b7 i7 j7 r7
  have O7 := f7.O O6
  refine zr_aj O7 b7 ?_
  intro M8 f8 b8 i8 j8 r8
  have O8 := f8.O O7
  refine zr_an 15 (K := k) (n := 6) O8 rfl (by decide) (b8.mono (by omega)) ?_
  intro M9 g9 a8 f9 b9 A9 o9 n9 i9 j9 r9 z9
  have O9 := f9.O O8
  refine zr_ai O9 b9 ?_
  intro M10 f10 b10 i10 j10 r10
  rw [zev_some]
  have H9 := f10
  have H8 := f9.tr H9
  have H5 := ((f6.tr f7).tr f8).tr H8
  have H4 := f5.tr H5
  have H3 := f4.tr H4
  have H2 := f3.tr H3
  have H1 := f2.tr H2
  have F1 := H1.fo g1a
  have q1 := H2.A A2
  have q2 := H3.A A3
  have q3 := H4.A A4
  have q4 := H5.A A5
  have q8 := H9.A A9
  have m1 : a1 ≠ a := fun e => n2 (e ▸ O1.1)
  have m2 : a2 ≠ a := fun e => n3 (e ▸ O2.1)
  have m3 : a3 ≠ a := fun e => n4 (e ▸ O3.1)
  have m4 : a4 ≠ a := fun e => n5 (e ▸ O4.1)
  have d18 : a1 ≠ a8 := fun e => n9 (e ▸ (((f3.tr f4).tr f5).tr ((f6.tr f7).tr f8)).1.ok A2.1.1)
  have d23 : a2 ≠ a3 := fun e => n4 (e ▸ A3.1.1)
  have d24 : a2 ≠ a4 := fun e => n5 (e ▸ f4.1.ok A3.1.1)
  have d34 : a3 ≠ a4 := fun e => n5 (e ▸ A4.1.1)
  have hr : ∀ j, zm_r M10 a j = if j = 8 then some a8 else if j = 5 then none else if j = 4 then some a4 else if j = 3 then some a3 else if j = 2 then some a2 else if j = 1 then some a1 else if j = 0 then some ta else zm_r M a j := fun j => by rw [r10, r9, r8, r7, r6, r5, r4, r3, r2, r1]
  have P : zPl M10 g9 a ta (fun _ => 0) (fun _ => 0) (fun _ => 0) (fun _ => 0) none 0 (-1) [] := ⟨F1.O O1, F1.own O1.1 g1a, by rw [hr]; rfl, by rw [hr]; rfl, by rw [i10, i9, i8, i7]; rfl, by decide, by rw [j10, j9, j8]; rfl, by rw [i10]; rfl, by decide, a1, a2, a3, a4, a8, by rw [hr]; rfl, by rw [hr]; rfl, by rw [hr]; rfl, by rw [hr]; rfl, by rw [hr]; rfl, ⟨q1, H2.own A2.1.1 o2⟩, ⟨q2, H3.own A3.1.1 o3⟩, ⟨q3, H4.own A4.1.1 o4⟩, ⟨q4, H5.own A5.1.1 o5⟩, ⟨q8, H9.own A9.1.1 o9⟩, ⟨d18, d23, d24, d34⟩, fun i _ => by rw [(H2.at A2.1.1 m1).2.1]; exact (z2 i).2.1, fun i _ => by rw [(H3.at A3.1.1 m2).1]; exact (z3 i).1, fun i _ => by rw [(H4.at A4.1.1 m3).1]; exact (z4 i).1, fun i _ => by rw [(H5.at A5.1.1 m4).1]; exact (z5 i).1, fun i v hv => by simp at hv⟩
  exact ⟨g9, ⟨ta, _, _, _, _, _, _, _, _, _, _, _, P, T1.fr F1 (by decide), fun _ _ => rfl, fun _ _ _ _ => rfl⟩, f1.tr (F1.mono (fun z q => Or.inl q)), H1.2.2.trans e1, b10⟩
