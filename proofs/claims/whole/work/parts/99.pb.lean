/-! Acts of the class: label. -/
theorem zLb_init {M : Zm} {g : Zg} {a o k : Nat} (hO : zO M a 4) (hg : g.1 a = o) (hb : zBu M g (k + 110)) : zev (zf_X3_init M (some a)) (fun y => ∃ g', zLb y.1 g' o a [] 0 ∧ zFo M g y.1 g' (fun z => z = o) ∧ zBu y.1 g' k) := by
  unfold zf_X3_init
  refine zr_rc hO ?_
  refine zr_ns (o := o) (K := k + 89) hO hg (n := 20) rfl (by decide) (hb.mono (by omega)) ?_
  intro M1 g1 a0 f1 b1 A1 o1 n1 r1 i1 _ z1
  have O1 := f1.O hO
  have ga1 := f1.own hO.1 hg
  refine zr_ns (o := o) (K := k + 68) O1 ga1 (n := 20) rfl (by decide) (b1.mono (by omega)) ?_
  intro M2 g2 a1 f2 b2 A2 o2 n2 r2 i2 _ z2
  have O2 := f2.O O1
  have ga2 := f2.own O1.1 ga1
  refine zr_ns (o := o) (K := k + 47) O2 ga2 (n := 20) rfl (by decide) (b2.mono (by omega)) ?_
  intro M3 g3 a2 f3 b3 A3 o3 n3 r3 i3 _ z3
  have O3 := f3.O O2
  have ga3 := f3.own O2.1 ga2
  refine zr_ns (o := o) (K := k + 26) O3 ga3 (n := 20) rfl (by decide) (b3.mono (by omega)) ?_
  intro M4 g4 a3 f4 b4 A4 o4 n4 r4 i4 _ z4
  have O4 := f4.O O3
  have ga4 := f4.own O3.1 ga3
  refine zr_pi O4 ?_
  have f5 : zFo M4 g4 (zm_pi M4 a 4 0) g4 (fun z => z = o) := zFo.pi ga4
  have i5 : ∀ j, zm_i (zm_pi M4 a 4 0) a j = if j = 4 then 0 else zm_i M4 a j := fun j => by simp only [ypi_i, true_and]
  have r5 : zm_r (zm_pi M4 a 4 0) a = zm_r M4 a := by simp only [zpi_r]
  have b5 : zBu (zm_pi M4 a 4 0) g4 (k + 26) := b4.same (by simp only [zpi_s]) (by simp only [zpi_c])
  have O5 : zO (zm_pi M4 a 4 0) a 4 := by simp only [ypi_O]; exact O4
  generalize zm_pi M4 a 4 0 = M5 at f5 i5 r5 b5 O5 ⊢
  refine zr_ns (o := o) (K := k) O5 ga4 (n := 20) rfl (by decide) (b5.mono (by omega)) ?_
  intro M6 g6 a5 f6 b6 A6 o6 n6 r6 i6 _ z6
  have O6 := f6.O O5
  have ga6 := f6.own O5.1 ga4
  refine zr_pi O6 (zr_pi (by simp only [ypi_O]; exact O6) ?_)
  rw [zev_some]
  have f7 : zFo M6 g6 (zm_pi (zm_pi M6 a 6 0) a 7 0) g6 (fun z => z = o) := (zFo.pi ga6).tr (zFo.pi ga6)
  have i7 : ∀ j, zm_i (zm_pi (zm_pi M6 a 6 0) a 7 0) a j = if j = 7 then 0 else if j = 6 then 0 else zm_i M6 a j := fun j => by simp only [ypi_i, true_and]
  have r7 : zm_r (zm_pi (zm_pi M6 a 6 0) a 7 0) a = zm_r M6 a := by simp only [zpi_r]
  have b7 : zBu (zm_pi (zm_pi M6 a 6 0) a 7 0) g6 k := b6.same (by simp only [zpi_s]) (by simp only [zpi_c])
  have O7 : zO (zm_pi (zm_pi M6 a 6 0) a 7 0) a 4 := by simp only [ypi_O]; exact O6
  generalize zm_pi (zm_pi M6 a 6 0) a 7 0 = M7 at f7 i7 r7 b7 O7 ⊢
  have A1' := f2.A A1
  have A1'' := f3.A A1'
  have A1q := f4.A A1''
  have A15 := f5.A A1q
  have A2' := f3.A A2
  have A2'' := f4.A A2'
  have A25 := f5.A A2''
  have A3' := f4.A A3
  have A35 := f5.A A3'
  have A45 := f5.A A4
  have q1 := f4.own A1''.1.1 (f3.own A1'.1.1 (f2.own A1.1.1 o1))
  have q2 := f4.own A2'.1.1 (f3.own A2.1.1 o2)
  have q3 := f4.own A3.1.1 o3
  have e17 := f7.A (f6.A A15)
  have e27 := f7.A (f6.A A25)
  have e37 := f7.A (f6.A A35)
  have e47 := f7.A (f6.A A45)
  have e67 := f7.A A6
  have hr : ∀ j, zm_r M7 a j = if j = 5 then some a5 else if j = 3 then some a3 else if j = 2 then some a2 else if j = 1 then some a1 else if j = 0 then some a0 else zm_r M a j := fun j => by rw [r7, r6, r5, r4, r3, r2, r1]
  have hi : ∀ j, zm_i M7 a j = if j = 7 then 0 else if j = 6 then 0 else if j = 4 then 0 else zm_i M a j := fun j => by rw [i7, i6, i5, i4, i3, i2, i1]
  refine ⟨g6, ⟨O7, ga6, by rw [hi]; rfl, by rw [hi]; rfl, by rw [hi]; rfl, Nat.le_refl _, Nat.le_refl _, by decide, fun q hq => by simp at hq, a0, a1, a2, a3, a5, by rw [hr]; rfl, by rw [hr]; rfl, by rw [hr]; rfl, by rw [hr]; rfl, by rw [hr]; rfl, ⟨e17.1, e17.2, f6.own A15.1.1 q1⟩, ⟨e27.1, e27.2, f6.own A25.1.1 q2⟩, ⟨e37.1, e37.2, f6.own A35.1.1 q3⟩, ⟨e47.1, e47.2, f6.own A45.1.1 o4⟩, ⟨e67.1, e67.2, o6⟩, ⟨?_, ?_, ?_, ?_, ?_, ?_, ?_, ?_, ?_, ?_⟩, fun i q hq => by simp at hq, fun i hi => by simp at hi⟩, ((((((f1.tr f2).tr f3).tr f4).tr f5).tr f6).tr f7), b7⟩
  · intro e; exact n2 (e ▸ A1.1.1)
  · intro e; exact n3 (e ▸ A1'.1.1)
  · intro e; exact n4 (e ▸ A1''.1.1)
  · intro e; exact n6 (e ▸ A15.1.1)
  · intro e; exact n3 (e ▸ A2.1.1)
  · intro e; exact n4 (e ▸ A2'.1.1)
  · intro e; exact n6 (e ▸ A25.1.1)
  · intro e; exact n4 (e ▸ A3.1.1)
  · intro e; exact n6 (e ▸ A35.1.1)
  · intro e; exact n6 (e ▸ A45.1.1)
