/-! Picks. -/
def zPk (M : Zm) (g : Zg) (A : Nat → Nat) (p : Nat) (ps : List (Nat × Int64)) : Prop := zO M p 6 ∧ g.1 p = 9 ∧ zm_i M p 2 = nI ps.length ∧ ps.length ≤ 8 ∧ ∃ ba aa, zm_r M p 0 = some ba ∧ zm_r M p 1 = some aa ∧ zO M ba 16 ∧ zm_l M ba = 8 ∧ g.1 ba = 9 ∧ zO M aa 15 ∧ zm_l M aa = 8 ∧ g.1 aa = 9 ∧ (∀ i q, ps[i]? = some q → zm_r M ba i = some (A q.1) ∧ zm_j M aa i = q.2)
theorem zPk.fr {M M' : Zm} {g g' : Zg} {T : Nat → Prop} {A : Nat → Nat} {p : Nat} {ps : List (Nat × Int64)} (h : zPk M g A p ps) (f : zFo M g M' g' T) (n1 : ¬ T 9) : zPk M' g' A p ps := by
  obtain ⟨h1, h2, h3, h4, ba, aa, r1, r2, r3, r4, r5, r6, r7, r8, r9⟩ := h
  have e1 := f.at h1.1 h2 n1
  have e2 := f.at r3.1 r5 n1
  have e3 := f.at r6.1 r8 n1
  exact ⟨f.O h1, f.own h1.1 h2, by rw [e1.1]; exact h3, h4, ba, aa, by rw [e1.2.2]; exact r1, by rw [e1.2.2]; exact r2, f.O r3, (f.A (show zA M ba 16 8 from ⟨r3, r4⟩)).2, f.own r3.1 r5, f.O r6, (f.A (show zA M aa 15 8 from ⟨r6, r7⟩)).2, f.own r6.1 r8, fun i q hq => by rw [e2.2.2, e3.2.1]; exact r9 i q hq⟩
theorem zPk.O {M : Zm} {g : Zg} {A : Nat → Nat} {p : Nat} {ps : List (Nat × Int64)} (h : zPk M g A p ps) : zO M p 6 := h.1
theorem zPk.cnt {M : Zm} {g : Zg} {A : Nat → Nat} {p : Nat} {ps : List (Nat × Int64)} (h : zPk M g A p ps) : zm_i M p 2 = nI ps.length := h.2.2.1
theorem zPk_clear {M : Zm} {g : Zg} {A : Nat → Nat} {p k : Nat} {ps : List (Nat × Int64)} (h : zPk M g A p ps) (hb : zBu M g k) : zev (zf_X5_clear M (some p)) (fun y => zPk y.1 g A p [] ∧ zFo M g y.1 g (fun z => z = 9) ∧ zBu y.1 g k) := by
  obtain ⟨h1, h2, h3, h4, ba, aa, r1, r2, r3, r4, r5, r6, r7, r8, r9⟩ := h
  simp only [zf_X5_clear, zev_b1, zev_bd, zev_some, zev_gi, zev_gj, zev_gr, zev_pi, zev_pz, zev_pj, zev_pr, zev_rc, zev_cc, zev_b0, zev_bo, true_and, and_true, h1]
  refine ⟨⟨h1, h2, ?_, Nat.zero_le _, ba, aa, r1, r2, r3, r4, r5, r6, r7, r8, fun i q hq => by simp at hq⟩, zFo.pi h2, hb.same rfl rfl⟩
  rw [ypi_i, if_pos ⟨rfl, rfl⟩]; rfl
theorem zPk_add {M : Zm} {g : Zg} {A : Nat → Nat} {p b k : Nat} {ps : List (Nat × Int64)} (h : zPk M g A p ps) (hx : zO M (A b) 1) (v : Int64) (hl : ps.length < 8) (hb : zBu M g k) : zev (zf_X5_add M (some p) (some (A b)) v) (fun y => zPk y.1 g A p (ps ++ [(b, v)]) ∧ zFo M g y.1 g (fun z => z = 9) ∧ zBu y.1 g k) := by
  obtain ⟨h1, h2, h3, h4, ba, aa, r1, r2, r3, r4, r5, r6, r7, r8, r9⟩ := h
  have c1 : ¬ nI 8 ≤ nI ps.length := nI_ge hl (by decide)
  have l31 : ps.length < 2 ^ 31 := by omega
  have pb : ¬ p = ba := zkne h1.2 r3.2 (by decide)
  have pa : ¬ p = aa := zkne h1.2 r6.2 (by decide)
  have hvv : ∀ z ∈ some (A b), zm_ok M z ∧ ((1 : Nat) ≠ 14 ∧ zm_k M z = 1 ∨ (1 : Nat) = 14 ∧ (zm_k M z = 1 ∨ zm_k M z = 4)) := fun z hz => by cases hz; exact ⟨hx.1, Or.inl ⟨by decide, hx.2⟩⟩
  simp only [zf_X5_add, zev_b1, zev_bd, zev_some, zev_gi, zev_gj, zev_gr, zev_pi, zev_pz, zev_pj, zev_pr, zev_rc, zev_cc, zev_b0, zev_bo, true_and, and_true, ypi_i, ypj_j, ypr_r, zpi_j, zpi_r, zpj_i, zpj_r, zpr_i, zpr_j, ypi_O, ypj_O, ypr_O, zpi_l, zpj_l, zpr_l, zpi_b, zpi_c, zpj_b, zpj_c, zpr_b, zpr_c, zpi_s, zpj_s, zpr_s, h1, h3, r1, zev_al2 r3 (by decide) (by decide), r4, if_neg c1, zev_sr l31 hvv, r3, hl, pb, false_and, if_false, r2, zev_sj2 l31, r6, r7, nI_1]
  refine ⟨⟨h1, h2, ?_, by simp; omega, ba, aa, ?_, ?_, r3, r4, r5, r6, r7, r8, fun i q hq => ?_⟩, ((zFo.pr r5).tr (zFo.pj r8)).tr (zFo.pi h2), hb.same rfl rfl⟩
  · rw [ypi_i, if_pos ⟨rfl, rfl⟩]; simp
  · rw [zpi_r, zpj_r, ypr_r, if_neg (fun e => pb e.1)]; exact r1
  · rw [zpi_r, zpj_r, ypr_r, if_neg (fun e => pb e.1)]; exact r2
  · rw [zpi_r, zpj_r, ypr_r, zpi_j, ypj_j, zpr_j]
    have hl2 := (List.getElem?_eq_some_iff.mp hq).1
    simp only [List.length_append, List.length_singleton] at hl2
    by_cases hi : i = ps.length
    · subst hi
      rw [List.getElem?_append_right (Nat.le_refl _)] at hq
      simp at hq
      subst hq
      rw [if_pos ⟨rfl, rfl⟩, if_pos ⟨rfl, rfl⟩]
      exact ⟨rfl, rfl⟩
    · rw [List.getElem?_append_left (by omega)] at hq
      rw [if_neg (fun e => hi e.2), if_neg (fun e => hi e.2)]
      exact r9 i q hq
theorem drop_cons {α : Type} {l : List α} {i : Nat} {q : α} (h : l[i]? = some q) : l.drop i = q :: l.drop (i + 1) := by
  obtain ⟨h1, h2⟩ := List.getElem?_eq_some_iff.mp h
  rw [List.drop_eq_getElem_cons h1, h2]
def phas (b : Int32) (ps : List (Nat × Int64)) : Int32 := if ps.any (fun q => decide (nI q.1 = b)) then 1 else 0
theorem zPk_has {M : Zm} {g : Zg} {A : Nat → Nat} {p : Nat} {ps : List (Nat × Int64)} {bs : Nat → Bv} (h : zPk M g A p ps) (hB : ∀ q, q ∈ ps → zBa M g A q.1 (bs q.1)) (b : Int32) : zf_X5_has M (some p) b = some (M, phas b ps) := by
  have hz : zev (zf_X5_has M (some p) b) (fun y => y = (M, phas b ps)) := by
    obtain ⟨h1, h2, h3, h4, ba, aa, r1, r2, r3, r4, r5, r6, r7, r8, r9⟩ := h
    simp only [zf_X5_has, zev_b1, zev_bd, zev_some, zev_gi, zev_gj, zev_gr, zev_pi, zev_pz, zev_pj, zev_pr, zev_rc, zev_cc, zev_b0, zev_bo, true_and, and_true]
    refine zev_lp (τ := (Zm × Int32) ⊕ (Zm × Int32)) (fun n (z : Zm × Int32) => ∃ i, z = (M, nI i) ∧ i + n = ps.length ∧ ps.any (fun q => decide (nI q.1 = b)) = (ps.drop i).any (fun q => decide (nI q.1 = b))) (n := ps.length) ⟨0, rfl, by omega, rfl⟩ ?_
    rintro n z ⟨i, rfl, hin, ha⟩
    cases n with
    | zero =>
      have c1 : nI ps.length ≤ nI i := nI_le (by omega) (by omega)
      simp only [zf_X5_has_L2, zev_b1, zev_bd, zev_some, zev_gi, zev_gj, zev_gr, zev_pi, zev_pz, zev_pj, zev_pr, zev_rc, zev_cc, zev_b0, zev_bo, true_and, and_true, h1, h3, if_pos c1]
      refine Or.inr ⟨_, rfl, ?_⟩
      rw [List.drop_of_length_le (by omega)] at ha
      simp [phas, ha, zev_b1, zev_b0, zev_some]
    | succ n =>
      obtain ⟨q, hq⟩ := getElem?_lt (show i < ps.length by omega)
      have xq := hB q (List.mem_of_getElem? hq)
      have i31 : i < 2 ^ 31 := by omega
      have c1 : ¬ nI ps.length ≤ nI i := nI_ge (by omega) (by omega)
      rw [drop_cons hq, List.any_cons] at ha
      simp only [zf_X5_has_L2, zev_b1, zev_bd, zev_some, zev_gi, zev_gj, zev_gr, zev_pi, zev_pz, zev_pj, zev_pr, zev_rc, zev_cc, zev_b0, zev_bo, true_and, and_true, h1, h3, if_neg c1, r1, zev_ar2 i31, r3, r4, show i < 8 by omega, (r9 i q hq).1, xq.O, xq.nr]
      by_cases hqb : nI q.1 = b
      · simp only [if_pos hqb, zev_b1, zev_bd, zev_some, zev_gi, zev_gj, zev_gr, zev_pi, zev_pz, zev_pj, zev_pr, zev_rc, zev_cc, zev_b0, zev_bo, true_and, and_true]
        refine Or.inr ⟨_, rfl, ?_⟩
        simp only [zev_some, phas, ha, hqb, decide_true, Bool.true_or, if_true]
      · simp only [if_neg hqb, zev_b1, zev_bd, zev_some, zev_gi, zev_gj, zev_gr, zev_pi, zev_pz, zev_pj, zev_pr, zev_rc, zev_cc, zev_b0, zev_bo, true_and, and_true]
        refine Or.inl ⟨_, n, rfl, ⟨i + 1, by rw [nI_1], by omega, ?_⟩, by omega⟩
        rw [ha]; simp [hqb]
  obtain ⟨y, hy, rfl⟩ := hz
  exact hy
def pcsk (bs : Nat → Bv) (ps : List (Nat × Int64)) : Int32 := if ps.any (fun q => decide (¬ (bs q.1).2.1.2.1 < 10000)) then 1 else 0
theorem zPk_cask {M : Zm} {g : Zg} {A : Nat → Nat} {p : Nat} {ps : List (Nat × Int64)} {bs : Nat → Bv} (h : zPk M g A p ps) (hB : ∀ q, q ∈ ps → zBa M g A q.1 (bs q.1)) : zf_X5_anyInCask M (some p) = some (M, pcsk bs ps) := by
  have hz : zev (zf_X5_anyInCask M (some p)) (fun y => y = (M, pcsk bs ps)) := by
    obtain ⟨h1, h2, h3, h4, ba, aa, r1, r2, r3, r4, r5, r6, r7, r8, r9⟩ := h
    simp only [zf_X5_anyInCask, zev_b1, zev_bd, zev_some, zev_gi, zev_gj, zev_gr, zev_pi, zev_pz, zev_pj, zev_pr, zev_rc, zev_cc, zev_b0, zev_bo, true_and, and_true]
    refine zev_lp (τ := (Zm × Int32) ⊕ (Zm × Int32)) (fun n (z : Zm × Int32) => ∃ i, z = (M, nI i) ∧ i + n = ps.length ∧ ps.any (fun q => decide (¬ (bs q.1).2.1.2.1 < 10000)) = (ps.drop i).any (fun q => decide (¬ (bs q.1).2.1.2.1 < 10000))) (n := ps.length) ⟨0, rfl, by omega, rfl⟩ ?_
    rintro n z ⟨i, rfl, hin, ha⟩
    cases n with
    | zero =>
      have c1 : nI ps.length ≤ nI i := nI_le (by omega) (by omega)
      simp only [zf_X5_anyInCask_L2, zev_b1, zev_bd, zev_some, zev_gi, zev_gj, zev_gr, zev_pi, zev_pz, zev_pj, zev_pr, zev_rc, zev_cc, zev_b0, zev_bo, true_and, and_true, h1, h3, if_pos c1]
      refine Or.inr ⟨_, rfl, ?_⟩
      rw [List.drop_of_length_le (by omega)] at ha
      simp only [zev_b1, zev_bd, zev_some, zev_gi, zev_gj, zev_gr, zev_pi, zev_pz, zev_pj, zev_pr, zev_rc, zev_cc, zev_b0, zev_bo, true_and, and_true, pcsk, ha, List.any_nil]
      rfl
    | succ n =>
      obtain ⟨q, hq⟩ := getElem?_lt (show i < ps.length by omega)
      have xq := hB q (List.mem_of_getElem? hq)
      have i31 : i < 2 ^ 31 := by omega
      have c1 : ¬ nI ps.length ≤ nI i := nI_ge (by omega) (by omega)
      rw [drop_cons hq, List.any_cons] at ha
      simp only [zf_X5_anyInCask_L2, zev_b1, zev_bd, zev_some, zev_gi, zev_gj, zev_gr, zev_pi, zev_pz, zev_pj, zev_pr, zev_rc, zev_cc, zev_b0, zev_bo, true_and, and_true, h1, h3, if_neg c1, r1, zev_ar2 i31, r3, r4, show i < 8 by omega, (r9 i q hq).1, xq.O, zev_eq (zBa_inCask xq)]
      by_cases hqb : (bs q.1).2.1.2.1 < 10000
      · simp only [if_pos hqb, zev_b1, zev_bd, zev_some, zev_gi, zev_gj, zev_gr, zev_pi, zev_pz, zev_pj, zev_pr, zev_rc, zev_cc, zev_b0, zev_bo, true_and, and_true, if_true]
        refine Or.inl ⟨_, n, rfl, ⟨i + 1, by rw [nI_1], by omega, ?_⟩, by omega⟩
        rw [ha]; simp [hqb]
      · simp only [if_neg hqb, zev_b1, zev_bd, zev_some, zev_gi, zev_gj, zev_gr, zev_pi, zev_pz, zev_pj, zev_pr, zev_rc, zev_cc, zev_b0, zev_bo, true_and, and_true, show ¬ (1 : Int32) = 0 from by decide, if_false]
        refine Or.inr ⟨_, rfl, ?_⟩
        simp only [zev_some, pcsk, ha, hqb, not_false_eq_true, decide_true, Bool.true_or, if_true]
  obtain ⟨y, hy, rfl⟩ := hz
  exact hy
def psum (ps : List (Nat × Int64)) : Int64 := ps.foldl (fun a q => a + q.2) 0
theorem zPk_sum {M : Zm} {g : Zg} {A : Nat → Nat} {p : Nat} {ps : List (Nat × Int64)} (h : zPk M g A p ps) : zf_X5_sum M (some p) = some (M, psum ps) := by
  have hz : zev (zf_X5_sum M (some p)) (fun y => y = (M, psum ps)) := by
    obtain ⟨h1, h2, h3, h4, ba, aa, r1, r2, r3, r4, r5, r6, r7, r8, r9⟩ := h
    simp only [zf_X5_sum, zev_b1, zev_bd, zev_some, zev_gi, zev_gj, zev_gr, zev_pi, zev_pz, zev_pj, zev_pr, zev_rc, zev_cc, zev_b0, zev_bo, true_and, and_true]
    refine zev_up (τ := Zm × Int64 × Int32) (fun i (z : Zm × Int64 × Int32) => z = (M, psum (ps.take i), nI i)) ps.length (i := 0) (Nat.zero_le _) rfl ?_ ?_
    · rintro i z hi rfl
      obtain ⟨q, hq⟩ := getElem?_lt hi
      have i31 : i < 2 ^ 31 := by omega
      have c1 : ¬ nI ps.length ≤ nI i := nI_ge (by omega) (by omega)
      simp only [zf_X5_sum_L4, zev_b1, zev_bd, zev_some, zev_gi, zev_gj, zev_gr, zev_pi, zev_pz, zev_pj, zev_pr, zev_rc, zev_cc, zev_b0, zev_bo, true_and, and_true, h1, h3, if_neg c1, r2, zev_aj2 i31, r6, r7, show i < 8 by omega, (r9 i q hq).2]
      refine ⟨_, rfl, ?_⟩
      rw [take_snoc hq, nI_1]
      simp only [psum, List.foldl_append, List.foldl_cons, List.foldl_nil]
    · rintro z rfl
      have c1 : nI ps.length ≤ nI ps.length := nI_le (Nat.le_refl _) (by omega)
      simp only [zf_X5_sum_L4, zev_b1, zev_bd, zev_some, zev_gi, zev_gj, zev_gr, zev_pi, zev_pz, zev_pj, zev_pr, zev_rc, zev_cc, zev_b0, zev_bo, true_and, and_true, h1, h3, if_pos c1]
      refine ⟨_, rfl, ?_⟩
      rw [List.take_of_length_le (Nat.le_refl _)]
  obtain ⟨y, hy, rfl⟩ := hz
  exact hy
/-- each is asked in order, up to the first that can't spare its amount -/
def pspa (bs : Nat → Bv) : List (Nat × Int64) → Int32 × List Int32
  | [] => (1, [])
  | q :: r => if q.2 ≤ bspa bs (bs q.1) then ((pspa bs r).1, bspaT bs (bs q.1) ++ (pspa bs r).2) else (0, bspaT bs (bs q.1))
theorem zPk_spared {M : Zm} {g : Zg} {A : Nat → Nat} {p o t cap k : Nat} {ps : List (Nat × Int64)} {bs : Nat → Bv} {l : List Int32} (h : zPk M g A p ps) (hB : ∀ q, q ∈ ps → zBa M g A q.1 (bs q.1) ∧ ∀ m, m ∈ bms (bs q.1) → zBa M g A m (bs m)) (ht : zTr M g o t cap l) (ho : o < 100) (ho9 : o ≠ 9) (hb : zBu M g k) : zev (zf_X5_allSpared M (some p) (some t)) (fun y => y.2 = (pspa bs ps).1 ∧ zTr y.1 g o t cap (tapp cap l (pspa bs ps).2) ∧ zFo M g y.1 g (fun z => z = o) ∧ zBu y.1 g k) := by
  simp only [zf_X5_allSpared, zev_b1, zev_bd, zev_some, zev_gi, zev_gj, zev_gr, zev_pi, zev_pz, zev_pj, zev_pr, zev_rc, zev_cc, zev_b0, zev_bo, true_and, and_true]
  have hl8 := h.2.2.2.1
  refine zev_lp (τ := (Zm × Int32) ⊕ (Zm × Int32)) (fun n (z : Zm × Int32) => ∃ M1 i pre, z = (M1, nI i) ∧ i + n = ps.length ∧ pspa bs ps = ((pspa bs (ps.drop i)).1, pre ++ (pspa bs (ps.drop i)).2) ∧ zTr M1 g o t cap (tapp cap l pre) ∧ zFo M g M1 g (fun z => z = o) ∧ zBu M1 g k) (n := ps.length) ⟨M, 0, [], rfl, by omega, rfl, by rw [tapp_nil ht.len]; exact ht, zFo.rf, hb⟩ ?_
  rintro n z ⟨M1, i, pre, rfl, hin, ha, T1, f1, b1⟩
  obtain ⟨h1, h2, h3, h4, ba, aa, r1, r2, r3, r4, r5, r6, r7, r8, r9⟩ := h.fr f1 (fun (e : 9 = o) => ho9 e.symm)
  cases n with
  | zero =>
    have c1 : nI ps.length ≤ nI i := nI_le (by omega) (by omega)
    simp only [zf_X5_allSpared_L2, zev_b1, zev_bd, zev_some, zev_gi, zev_gj, zev_gr, zev_pi, zev_pz, zev_pj, zev_pr, zev_rc, zev_cc, zev_b0, zev_bo, true_and, and_true, h1, h3, if_pos c1]
    refine Or.inr ⟨_, rfl, ?_⟩
    rw [List.drop_of_length_le (by omega)] at ha
    simp only [pspa, List.append_nil] at ha
    rw [ha]
    simp only [zev_b1, zev_bd, zev_some, zev_gi, zev_gj, zev_gr, zev_pi, zev_pz, zev_pj, zev_pr, zev_rc, zev_cc, zev_b0, zev_bo, true_and, and_true]
    exact ⟨T1, f1, b1⟩
  | succ n =>
    obtain ⟨q, hq⟩ := getElem?_lt (show i < ps.length by omega)
    have hBq := hB q (List.mem_of_getElem? hq)
    have xq := hBq.1.fro f1 ho
    have i31 : i < 2 ^ 31 := by omega
    have c1 : ¬ nI ps.length ≤ nI i := nI_ge (by omega) (by omega)
    rw [drop_cons hq] at ha
    simp only [pspa] at ha
    simp only [zf_X5_allSpared_L2, zev_b1, zev_bd, zev_some, zev_gi, zev_gj, zev_gr, zev_pi, zev_pz, zev_pj, zev_pr, zev_rc, zev_cc, zev_b0, zev_bo, true_and, and_true, h1, h3, if_neg c1, r1, r2, zev_ar2 i31, zev_aj2 i31, r3, r4, r6, r7, show i < 8 by omega, (r9 i q hq).1, (r9 i q hq).2, xq.O]
    refine zev_mono (zBa_spares xq (fun m hm => (hBq.2 m hm).fro f1 ho) T1 ho b1) ?_
    rintro ⟨M2, v⟩ hh
    dsimp only at hh ⊢
    obtain ⟨e, T2, f2, b2⟩ := hh
    subst e
    rw [tapp_tapp] at T2
    by_cases hqs : q.2 ≤ bspa bs (bs q.1)
    · simp only [if_pos hqs, zev_b1, zev_bd, zev_some, zev_gi, zev_gj, zev_gr, zev_pi, zev_pz, zev_pj, zev_pr, zev_rc, zev_cc, zev_b0, zev_bo, true_and, and_true] at ha ⊢
      refine Or.inl ⟨_, n, rfl, ⟨M2, i + 1, pre ++ bspaT bs (bs q.1), by rw [nI_1], by omega, ?_, T2, f1.tr f2, b2⟩, by omega⟩
      rw [ha, List.append_assoc]
    · simp only [if_neg hqs, zev_b1, zev_bd, zev_some, zev_gi, zev_gj, zev_gr, zev_pi, zev_pz, zev_pj, zev_pr, zev_rc, zev_cc, zev_b0, zev_bo, true_and, and_true] at ha ⊢
      refine Or.inr ⟨_, rfl, ?_⟩
      rw [ha]
      simp only [zev_b1, zev_bd, zev_some, zev_gi, zev_gj, zev_gr, zev_pi, zev_pz, zev_pj, zev_pr, zev_rc, zev_cc, zev_b0, zev_bo, true_and, and_true]
      exact ⟨T2, f1.tr f2, b2⟩
