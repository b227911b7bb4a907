/-! Labels: rules are made. -/
theorem zLb_add {M : Zm} {g : Zg} {o a k : Nat} {rs : List (List Lf)} {made : Nat} (h : zLb M g o a rs made) (q : Lf) (hq : lfok q) (hm : made < 20) (hb : zBu M g k) : zev (zf_X3_addRule M (some a) (nI q.1) (nI q.2.1) (nI q.2.2.1) (nI q.2.2.2)) (fun y => zLb y.1 g o a (rs ++ [[q]]) (made + 1) ∧ zFo M g y.1 g (fun z => z = o) ∧ zBu y.1 g k) := by
  obtain ⟨h1, h2, h3, h4, h5, h6, h7, h8, h9, a0, a1, a2, a3, a5, r0, r1, r2, r3, r5, p0, p1, p2, p3, p5, nn, c1, c2⟩ := h
  obtain ⟨n01, n02, n03, n05, n12, n13, n15, n23, n25, n35⟩ := nn
  have l31 : rs.flatten.length < 2 ^ 31 := by omega
  have l20 : rs.flatten.length < 20 := by omega
  have s31 : rs.length < 2 ^ 31 := by omega
  have s20 : rs.length < 20 := by omega
  have cA : nI rs.flatten.length < 20 := nI_lt (b := 20) l20 (by decide)
  have m0 : ¬ a = a0 := zkne h1.2 p0.1.2 (by decide)
  have m1 : ¬ a = a1 := zkne h1.2 p1.1.2 (by decide)
  have m2 : ¬ a = a2 := zkne h1.2 p2.1.2 (by decide)
  have m3 : ¬ a = a3 := zkne h1.2 p3.1.2 (by decide)
  have m5 : ¬ a = a5 := zkne h1.2 p5.1.2 (by decide)
  obtain ⟨N, hN⟩ : ∃ N, N = zm_pi (zm_pi (zm_pi (zm_pi (zm_pi (zm_pi (zm_pi (zm_pi M a0 rs.flatten.length (nI q.1)) a1 rs.flatten.length (nI q.2.1)) a2 rs.flatten.length (nI q.2.2.1)) a3 rs.flatten.length (nI q.2.2.2)) a5 rs.length (nI rs.flatten.length)) a 4 (nI (rs.flatten.length + 1))) a 6 (nI (rs.length + 1))) a 7 (nI (made + 1)) := ⟨_, rfl⟩
  have fo : zFo M g N g (fun z => z = o) := by rw [hN]; exact ((((((zFo.pi p0.2.2).tr (zFo.pi p1.2.2)).tr (zFo.pi p2.2.2)).tr (zFo.pi p3.2.2)).tr (zFo.pi p5.2.2)).tr (zFo.pi h2)).tr ((zFo.pi h2).tr (zFo.pi h2))
  have hI : ∀ x j, zm_i N x j = if x = a ∧ j = 7 then nI (made + 1) else if x = a ∧ j = 6 then nI (rs.length + 1) else if x = a ∧ j = 4 then nI (rs.flatten.length + 1) else if x = a5 ∧ j = rs.length then nI rs.flatten.length else if x = a3 ∧ j = rs.flatten.length then nI q.2.2.2 else if x = a2 ∧ j = rs.flatten.length then nI q.2.2.1 else if x = a1 ∧ j = rs.flatten.length then nI q.2.1 else if x = a0 ∧ j = rs.flatten.length then nI q.1 else zm_i M x j := fun x j => by rw [hN]; simp only [ypi_i]
  have hR : zm_r N = zm_r M := by rw [hN]; simp only [zpi_r]
  have hB : zBu N g k := hb.same (by rw [hN]; simp only [zpi_s]) (by rw [hN]; simp only [zpi_c])
  simp only [zf_X3_addRule, zev_b1, zev_bd, zev_some, zev_gi, zev_gj, zev_gr, zev_pi, zev_pz, zev_pj, zev_pr, zev_rc, zev_cc, zev_b0, zev_bo, true_and, and_true, ypi_i, ypj_j, ypr_r, zpi_j, zpi_r, zpj_i, zpj_r, zpr_i, zpr_j, ypi_O, ypj_O, ypr_O, zpi_l, zpj_l, zpr_l, zpi_b, zpi_c, zpj_b, zpj_c, zpr_b, zpr_c, zpi_s, zpj_s, zpr_s, h1, h3, h4, h5, if_pos cA, r0, r1, r2, r3, r5, zev_si2 l31, zev_si2 s31, p0.1, p0.2.1, p1.1, p1.2.1, p2.1, p2.2.1, p3.1, p3.2.1, p5.1, p5.2.1, l20, s20, m0, m1, m2, m3, m5, false_and, if_false, Nat.reduceEqDiff, and_false, nI_1]
  rw [← hN]
  clear hN
  have ef : (rs ++ [[q]]).flatten = rs.flatten ++ [q] := by simp
  have tr : ∀ x, zO M x 14 ∧ zm_l M x = 20 ∧ g.1 x = o → zO N x 14 ∧ zm_l N x = 20 ∧ g.1 x = o := fun x hx => ⟨fo.O hx.1, (fo.A (show zA M x 14 20 from ⟨hx.1, hx.2.1⟩)).2, hx.2.2⟩
  refine ⟨⟨fo.O h1, h2, ?_, ?_, ?_, ?_, ?_, by omega, ?_, a0, a1, a2, a3, a5, by rw [hR]; exact r0, by rw [hR]; exact r1, by rw [hR]; exact r2, by rw [hR]; exact r3, by rw [hR]; exact r5, tr a0 p0, tr a1 p1, tr a2 p2, tr a3 p3, tr a5 p5, ⟨n01, n02, n03, n05, n12, n13, n15, n23, n25, n35⟩, fun i x hx => ?_, fun i hi => ?_⟩, fo, hB⟩
  · rw [ef, hI]
    simp only [true_and, Nat.reduceEqDiff, if_false, if_true, List.length_append, List.length_singleton]
  · rw [hI]
    simp only [true_and, Nat.reduceEqDiff, if_false, if_true, List.length_append, List.length_singleton]
  · rw [hI]
    simp only [true_and, if_true]
  · rw [ef, List.length_append, List.length_singleton]; omega
  · rw [ef, List.length_append, List.length_append, List.length_singleton, List.length_singleton]; omega
  · intro x hx
    rw [ef] at hx
    rcases List.mem_append.mp hx with hx | hx
    · exact h9 x hx
    · rw [List.mem_singleton.mp hx]; exact hq
  · rw [ef] at hx
    have hl2 := (List.getElem?_eq_some_iff.mp hx).1
    simp only [List.length_append, List.length_singleton] at hl2
    have b0 : ¬ a0 = a := fun e => m0 e.symm
    have b1 : ¬ a1 = a := fun e => m1 e.symm
    have b2 : ¬ a2 = a := fun e => m2 e.symm
    have b3 : ¬ a3 = a := fun e => m3 e.symm
    have x01 : ¬ a1 = a0 := fun e => n01 e.symm
    have x02 : ¬ a2 = a0 := fun e => n02 e.symm
    have x03 : ¬ a3 = a0 := fun e => n03 e.symm
    have x12 : ¬ a2 = a1 := fun e => n12 e.symm
    have x13 : ¬ a3 = a1 := fun e => n13 e.symm
    have x23 : ¬ a3 = a2 := fun e => n23 e.symm
    simp only [hI, b0, b1, b2, b3, n01, n02, n03, n05, n12, n13, n15, n23, n25, n35, x01, x02, x03, x12, x13, x23, false_and, if_false, true_and]
    by_cases hi : i = rs.flatten.length
    · rw [hi, List.getElem?_append_right (Nat.le_refl _)] at hx
      simp at hx
      subst hx
      simp only [hi, if_true]
      exact ⟨trivial, trivial, trivial, trivial⟩
    · rw [List.getElem?_append_left (by omega)] at hx
      simp only [hi, if_false]
      exact c1 i x hx
  · rw [List.length_append, List.length_singleton] at hi
    have b5 : ¬ a5 = a := fun e => m5 e.symm
    have y0 : ¬ a5 = a0 := fun e => n05 e.symm
    have y1 : ¬ a5 = a1 := fun e => n15 e.symm
    have y2 : ¬ a5 = a2 := fun e => n25 e.symm
    have y3 : ¬ a5 = a3 := fun e => n35 e.symm
    simp only [hI, b5, y0, y1, y2, y3, false_and, if_false, true_and]
    by_cases e : i = rs.length
    · rw [if_pos e, e, List.take_append, Nat.sub_self, List.take_zero, List.append_nil, List.take_of_length_le (Nat.le_refl _)]
    · rw [if_neg e, List.take_append, show i - rs.length = 0 by omega, List.take_zero, List.append_nil]
      exact c2 i (by omega)
theorem zLb_unite {M : Zm} {g : Zg} {o a k : Nat} {pre : List (List Lf)} {x y : List Lf} {made : Nat} (h : zLb M g o a (pre ++ [x, y]) made) (hm : made < 20) (hb : zBu M g k) : zev (zf_X3_uniteLastTwo M (some a)) (fun z => zLb z.1 g o a (pre ++ [x ++ y]) (made + 1) ∧ zFo M g z.1 g (fun z => z = o) ∧ zBu z.1 g k) := by
  obtain ⟨h1, h2, h3, h4, h5, h6, h7, h8, h9, a0, a1, a2, a3, a5, r0, r1, r2, r3, r5, p0, p1, p2, p3, p5, nn, c1, c2⟩ := h
  have ef : (pre ++ [x ++ y]).flatten = (pre ++ [x, y]).flatten := by simp
  have el : (pre ++ [x, y]).length = pre.length + 2 := by simp
  have el2 : (pre ++ [x ++ y]).length = pre.length + 1 := by simp
  rw [el] at h4 h7 c2
  have e1 : nI (pre.length + 2) - 1 = nI (pre.length + 1) := nI_pred _
  have m0 : ¬ a0 = a := fun e => zkne h1.2 p0.1.2 (by decide) e.symm
  have m1 : ¬ a1 = a := fun e => zkne h1.2 p1.1.2 (by decide) e.symm
  have m2 : ¬ a2 = a := fun e => zkne h1.2 p2.1.2 (by decide) e.symm
  have m3 : ¬ a3 = a := fun e => zkne h1.2 p3.1.2 (by decide) e.symm
  have m5 : ¬ a5 = a := fun e => zkne h1.2 p5.1.2 (by decide) e.symm
  simp only [zf_X3_uniteLastTwo, zev_b1, zev_bd, zev_some, zev_gi, zev_gj, zev_gr, zev_pi, zev_pz, zev_pj, zev_pr, zev_rc, zev_cc, zev_b0, zev_bo, true_and, and_true, ypi_i, ypj_j, ypr_r, zpi_j, zpi_r, zpj_i, zpj_r, zpr_i, zpr_j, ypi_O, ypj_O, ypr_O, zpi_l, zpj_l, zpr_l, zpi_b, zpi_c, zpj_b, zpj_c, zpr_b, zpr_c, zpi_s, zpj_s, zpr_s, h1, h4, h5, e1, Nat.reduceEqDiff, and_false, if_false, nI_1]
  refine ⟨⟨h1, h2, ?_, ?_, ?_, by rw [ef]; omega, by rw [ef, el2]; omega, by omega, by rw [ef]; exact h9, a0, a1, a2, a3, a5, r0, r1, r2, r3, r5, p0, p1, p2, p3, p5, nn, fun i q hq => ?_, fun i hi => ?_⟩, (zFo.pi h2).tr (zFo.pi h2), hb.same rfl rfl⟩
  · rw [ef]
    simp only [ypi_i, true_and, Nat.reduceEqDiff, if_false]
    exact h3
  · rw [el2]
    simp only [ypi_i, true_and, Nat.reduceEqDiff, if_false, if_true]
  · simp only [ypi_i, true_and, if_true]
  · rw [ef] at hq
    simp only [ypi_i, m0, m1, m2, m3, false_and, if_false]
    exact c1 i q hq
  · rw [el2] at hi
    simp only [ypi_i, m5, false_and, if_false]
    have et : (pre ++ [x ++ y]).take i = (pre ++ [x, y]).take i := by
      rw [List.take_append, List.take_append]
      have e0 : i - pre.length = 0 := by omega
      rw [e0]
      rfl
    rw [et]
    exact c2 i (by omega)
