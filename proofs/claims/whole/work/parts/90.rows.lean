/-! Rows. -/
abbrev Rw : Type := Option (Int32 × List Int32)
def zRo (M : Zm) (g : Zg) (r w : Nat) (k : Int32) (ps : List Int32) : Prop := zO M w 8 ∧ g.1 w = 80 + r ∧ zm_i M w 0 = k ∧ ps.length ≤ 60 ∧ ∃ pa, zm_r M w 1 = some pa ∧ zO M pa 14 ∧ zm_l M pa = ps.length ∧ g.1 pa = 80 + r ∧ (∀ i v, ps[i]? = some v → zm_i M pa i = v)
theorem zRo.fr {M M' : Zm} {g g' : Zg} {T : Nat → Prop} {r w : Nat} {k : Int32} {ps : List Int32} (h : zRo M g r w k ps) (f : zFo M g M' g' T) (n1 : ¬ T (80 + r)) : zRo M' g' r w k ps := by
  obtain ⟨h1, h2, h3, h4, pa, r1, r2, r3, r4, r5⟩ := h
  have e1 := f.at h1.1 h2 n1
  have e2 := f.at r2.1 r4 n1
  exact ⟨f.O h1, f.own h1.1 h2, by rw [e1.1]; exact h3, h4, pa, by rw [e1.2.2]; exact r1, f.O r2, (f.A (show zA M pa 14 ps.length from ⟨r2, r3⟩)).2, f.own r2.1 r4, fun i v hv => by rw [e2.1]; exact r5 i v hv⟩
def zRs (M : Zm) (g : Zg) (a : Nat) (AL : Nat → Nat) (ro : Nat → Rw) : Prop := zO M a 17 ∧ zm_l M a = 20 ∧ g.1 a = 8 ∧ ∀ r, r < 20 → (ro r = none ∧ zm_r M a r = none) ∨ (∃ w k ps, ro r = some (k, ps) ∧ zm_r M a r = some w ∧ zRo M g r w k ps ∧ w = AL (1000 + r))
theorem zRs.fr {M M' : Zm} {g g' : Zg} {T : Nat → Prop} {a : Nat} {AL : Nat → Nat} {ro : Nat → Rw} (h : zRs M g a AL ro) (f : zFo M g M' g' T) (n1 : ¬ T 8) (n2 : ∀ r, r < 20 → ¬ T (80 + r)) : zRs M' g' a AL ro := by
  obtain ⟨h1, h2, h3, h4⟩ := h
  have e1 := f.at h1.1 h3 n1
  refine ⟨f.O h1, (f.A (show zA M a 17 20 from ⟨h1, h2⟩)).2, f.own h1.1 h3, fun r hr => ?_⟩
  rw [e1.2.2]
  rcases h4 r hr with q | ⟨w, k, ps, q1, q2, q3, q4⟩
  · exact Or.inl q
  · exact Or.inr ⟨w, k, ps, q1, q2, q3.fr f (n2 r hr), q4⟩
/-- a row of ints is filled with one number -/
theorem zfill {M : Zm} {g : Zg} {a n o k : Nat} (v : Int32) (hA : zA M a 14 n) (hn : n < 2 ^ 31) (hg : g.1 a = o) (hb : zBu M g k) : zev (zf_J7_fill_53178 M (some a) v) (fun y => (∀ i, i < n → zm_i y.1 a i = v) ∧ zFo M g y.1 g (fun z => z = o) ∧ zFr M y.1 (fun x => x = a) ∧ zBu y.1 g k) := by
  simp only [zf_J7_fill_53178, zev_b1, zev_bd, zev_some, zev_gi, zev_gj, zev_gr, zev_pi, zev_pz, zev_pj, zev_pr, zev_rc, zev_cc, zev_b0, zev_bo, true_and, and_true]
  refine (zev_al2 hA.1 (by decide) (by decide)).mpr ?_
  rw [hA.2]
  refine zev_up (τ := Zm × Int32) (fun i (z : Zm × Int32) => ∃ M1, z = (M1, nI i) ∧ (∀ j, j < i → zm_i M1 a j = v) ∧ zFo M g M1 g (fun z => z = o) ∧ zFr M M1 (fun x => x = a) ∧ zBu M1 g k) n (i := 0) (Nat.zero_le _) ⟨M, rfl, fun j hj => by omega, zFo.rf, zFr.rf, hb⟩ ?_ ?_
  · rintro i z hi ⟨M1, rfl, h1, f1, f2, b1⟩
    have c1 : ¬ nI n ≤ nI i := nI_ge hi hn
    have A1 := f1.A hA
    simp only [zf_J7_fill_53178_L5, if_neg c1, zev_b1, zev_bd, zev_some, zev_gi, zev_gj, zev_gr, zev_pi, zev_pz, zev_pj, zev_pr, zev_rc, zev_cc, zev_b0, zev_bo, true_and, and_true, zev_si2 (show i < 2 ^ 31 by omega), show zO M1 a 14 from A1.1, A1.2, hi]
    refine ⟨_, rfl, _, p2 (nI_1 _), fun j hj => ?_, f1.tr (zFo.pi hg), f2.tr (zFr.pi rfl), b1.same rfl rfl⟩
    rw [ypi_i]
    by_cases e : j = i
    · rw [if_pos ⟨rfl, e⟩]
    · rw [if_neg (fun q => e q.2)]; exact h1 j (by omega)
  · rintro z ⟨M1, rfl, h1, f1, f2, b1⟩
    have c1 : nI n ≤ nI n := nI_le (Nat.le_refl _) hn
    simp only [zf_J7_fill_53178_L5, if_pos c1, zev_b1, zev_bd, zev_some, zev_gi, zev_gj, zev_gr, zev_pi, zev_pz, zev_pj, zev_pr, zev_rc, zev_cc, zev_b0, zev_bo, true_and, and_true]
    exact ⟨_, rfl, h1, f1, f2, b1⟩
theorem zmaxi0 {m : Nat} (h : m < 2 ^ 31) : zmaxi (nI m) 0 = nI m := by
  unfold zmaxi
  rw [if_neg (nI_pos h)]
/-- new cells of an owner that does not grow -/
def zgw (g : Zg) (o c : Nat) : Zg := (fun x => if x = c then o else g.1 x, g.2)
theorem zgw_fo {M M' : Zm} {g : Zg} {o c : Nat} {T : Nat → Prop} (hf : zFr M M' (fun x => T (g.1 x))) (hc : ¬ zm_ok M c) : zFo M g M' (zgw g o c) T := by
  refine ⟨hf, fun x hx => ?_, fun x hx => rfl⟩
  have h1 : x ≠ c := fun e => hc (e ▸ hx)
  simp [zgw, h1]
theorem zgw_1 {g : Zg} {o c : Nat} : (zgw g o c).1 c = o := by simp [zgw]
theorem zRo_init {M : Zm} {g : Zg} {r w m k : Nat} (kd : Int32) (hO : zO M w 8) (hg : g.1 w = 80 + r) (hm : m ≤ 60) (hb : zBu M g (k + 60)) : zev (zf_X7_init M (some w) kd (nI m)) (fun y => ∃ g', zRo y.1 g' r w kd (List.replicate m (-1)) ∧ zFo M g y.1 g' (fun z => z = 80 + r) ∧ zBu y.1 g' k) := by
  have b1 := hb.1
  have b2 := hb.2
  have nok : ¬ zm_ok M (zm_b M + zm_c M) := fun q => by have := q.2; omega
  have nw : w ≠ zm_b M + zm_c M := zO_ne hO
  simp only [zf_X7_init, zev_b1, zev_bd, zev_some, zev_gi, zev_gj, zev_gr, zev_pi, zev_pz, zev_pj, zev_pr, zev_rc, zev_cc, zev_b0, zev_bo, true_and, and_true, hO, zm_nx, zmaxi0 (show m < 2 ^ 31 by omega), zpi_b, zpi_c]
  have f1 : zFr M (zm_pi M w 0 kd) (fun a => a = w) := zFr.pi rfl
  have i1 : zm_i (zm_pi M w 0 kd) w 0 = kd := by rw [ypi_i, if_pos ⟨rfl, rfl⟩]
  have c1 : zm_c (zm_pi M w 0 kd) = zm_c M := rfl
  have s1 : zm_s (zm_pi M w 0 kd) = zm_s M := rfl
  have d1 : zm_b (zm_pi M w 0 kd) = zm_b M := rfl
  generalize zm_pi M w 0 kd = M1 at f1 i1 c1 s1 d1 ⊢
  refine zev_new (n := m) rfl (by omega) (by omega) (by omega) (fun M2 f2 A2 c2 s2 z2 => ?_)
  rw [c1, d1] at A2
  have f02 : zFr M M2 (fun a => a = w) := f1.tr (f2.mono (fun _ _ q => q.elim))
  have i2 : zm_i M2 w 0 = kd := by rw [(f2.2.2.2.2.2 w (f1.ok hO.1) id).1]; exact i1
  refine ⟨f02.ob hO, f02.ob hO, ?_⟩
  have f3 : zFr M2 (zm_pr M2 w 1 (some (zm_b M + zm_c M))) (fun a => a = w) := zFr.pr rfl
  have r3 : zm_r (zm_pr M2 w 1 (some (zm_b M + zm_c M))) w 1 = some (zm_b M + zm_c M) := by rw [ypr_r, if_pos ⟨rfl, rfl⟩]
  have i3 : zm_i (zm_pr M2 w 1 (some (zm_b M + zm_c M))) w 0 = kd := i2
  have c3 : zm_c (zm_pr M2 w 1 (some (zm_b M + zm_c M))) = zm_c M + 1 := c2.trans (by rw [c1])
  have s3 : zm_s (zm_pr M2 w 1 (some (zm_b M + zm_c M))) = zm_s M + m := s2.trans (by rw [s1])
  rw [r3]
  generalize zm_pr M2 w 1 (some (zm_b M + zm_c M)) = M3 at f3 r3 i3 c3 s3 ⊢
  have f03 : zFr M M3 (fun a => a = w) := f02.tr f3
  have A3 := f3.ar A2
  have fo : zFo M g M3 (zgw g (80 + r) (zm_b M + zm_c M)) (fun z => z = 80 + r) := zgw_fo (f03.mono (fun x _ q => by rw [q]; exact hg)) nok
  have hb3 : zBu M3 (zgw g (80 + r) (zm_b M + zm_c M)) k := ⟨by show zm_s M3 + 4 * zcd g.2 3100 + k ≤ 7302250; omega, by show zm_c M3 + zcd g.2 3100 + k ≤ 600000; omega⟩
  refine zev_mono (zfill (g := zgw g (80 + r) (zm_b M + zm_c M)) (-1) A3 (by omega) zgw_1 hb3) ?_
  rintro ⟨M4, u0⟩ hh
  dsimp only at hh ⊢
  obtain ⟨h4, f4, f5, b4⟩ := hh
  have nw3 : ¬ w = zm_b M + zm_c M := nw
  have e5 := f5.2.2.2.2.2 w (f03.ok hO.1) nw3
  refine ⟨_, ⟨f4.O (f03.ob hO), f4.own (f03.ok hO.1) (fo.own hO.1 hg), by rw [e5.1]; exact i3, by rw [List.length_replicate]; exact hm, zm_b M + zm_c M, by rw [e5.2.2]; exact r3, f4.O A3.1, by rw [List.length_replicate]; exact (f4.A A3).2, f4.own A3.1.1 zgw_1, fun i v hv => ?_⟩, fo.tr f4, b4⟩
  have hi := (List.getElem?_eq_some_iff.mp hv).1
  rw [List.length_replicate] at hi
  rw [List.getElem?_replicate, if_pos hi] at hv
  rw [h4 i hi]
  exact Option.some.inj hv
def rtak (k b : Int32) : Int32 := if k = 0 then 1 else if k = 1 then (if b = 1 then 1 else if b = 2 then 1 else 0) else if k = 2 then (if b = 2 then 1 else 0) else if k = 3 then (if b = 3 then 1 else if b = 4 then 1 else 0) else if k = 4 then (if b = 4 then 1 else 0) else if k = 5 then (if b = 5 then 1 else 0) else (if b = 5 then 0 else 1)
theorem zRo_takes {M : Zm} {g : Zg} {r w : Nat} {k : Int32} {ps : List Int32} (h : zRo M g r w k ps) (b : Int32) : zf_X7_takes M (some w) b = some (M, rtak k b) := by
  have hz : zev (zf_X7_takes M (some w) b) (fun y => y = (M, rtak k b)) := by
    obtain ⟨h1, h2, h3, -⟩ := h
    simp only [zf_X7_takes, zf_X7_takes_J56, zf_X7_takes_J83, zev_b1, zev_bd, zev_some, zev_gi, zev_gj, zev_gr, zev_pi, zev_pz, zev_pj, zev_pr, zev_rc, zev_cc, zev_b0, zev_bo, true_and, and_true, h1, h3]
    unfold rtak
    repeat' split
    all_goals simp only [zev_b1, zev_bd, zev_some, zev_gi, zev_gj, zev_gr, zev_pi, zev_pz, zev_pj, zev_pr, zev_rc, zev_cc, zev_b0, zev_bo, true_and, and_true]
  obtain ⟨y, hy, rfl⟩ := hz
  exact hy
theorem zRo_len {M : Zm} {g : Zg} {r w : Nat} {k : Int32} {ps : List Int32} (h : zRo M g r w k ps) : ps.length ≤ 60 := by
  obtain ⟨h1, h2, h3, h4, -⟩ := h
  exact h4
/-- a place is written -/
theorem zRo_put {M : Zm} {g : Zg} {r w p k : Nat} {kd : Int32} {ps : List Int32} (h : zRo M g r w kd ps) (v : Int32) (hp : p < ps.length) (hb : zBu M g k) : ∃ pa, zm_r M w 1 = some pa ∧ zO M pa 14 ∧ zm_l M pa = ps.length ∧ zRo (zm_pi M pa p v) g r w kd (ps.set p v) ∧ zFo M g (zm_pi M pa p v) g (fun z => z = 80 + r) ∧ zBu (zm_pi M pa p v) g k := by
  obtain ⟨h1, h2, h3, h4, pa, r1, r2, r3, r4, r5⟩ := h
  have wp : ¬ w = pa := zkne h1.2 r2.2 (by decide)
  refine ⟨pa, r1, r2, r3, ⟨h1, h2, ?_, by rw [List.length_set]; exact h4, pa, r1, r2, by rw [List.length_set]; exact r3, r4, fun i u hu => ?_⟩, zFo.pi r4, hb.same rfl rfl⟩
  · rw [ypi_i, if_neg (fun e => wp e.1)]; exact h3
  · rw [List.getElem?_set] at hu
    rw [ypi_i]
    by_cases e : p = i
    · rw [if_pos e, if_pos hp] at hu
      rw [if_pos ⟨rfl, e.symm⟩]
      exact Option.some.inj hu
    · rw [if_neg e] at hu
      rw [if_neg (fun q => e q.2.symm)]
      exact r5 i u hu
