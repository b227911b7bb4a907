/-! What was drawn in thought is carried out. -/
def bout (x : Bv) (v : Int64) : Bv := bwin (bkeep x) (wles x.2.1.2.2.2 (wshr v x.2.1.2.2.2))
theorem zDr_carry {M : Zm} {g : Zg} {A : Nat → Nat} {d ga e oo v k : Nat} {bs : Nat → Bv} {ds : List (Nat × Int64)} {dw acc ac : Wn} {f : Nat → Int32} {ch : List Nat} (hD : zDr M g A d ga ds dw) (hE : zBe M g A e f ac ch) (hB : ∀ q, q ∈ ds → zBa M g A q.1 (bs q.1)) (hV : zWo M g oo v acc) (hbn : ∀ q, q ∈ ds → q.1 < 1000 ∧ oo ≠ 101 + 3 * q.1) (hoo : (20 ≤ oo ∧ oo < 25) ∨ (∃ b, oo = 101 + 3 * b)) (hoo2 : oo < 3100) (hch : ch.length + ds.length ≤ 1000) (hdis : ∀ (i j : Nat) (q r : Nat × Int64), ds[i]? = some q → ds[j]? = some r → i ≠ j → q.1 ≠ r.1) (h60 : ∀ q, q ∈ ds → (bs q.1).2.1.2.2.2.length ≤ 60) (hsum : ∀ q, q ∈ ds → lsub (wsum (bs q.1).2.1.2.2.2) (wshr q.2 (bs q.1).2.1.2.2.2) = wsum (wles (bs q.1).2.1.2.2.2 (wshr q.2 (bs q.1).2.1.2.2.2))) (hm : ∃ j, j ≤ 16 ∧ zcm oo = 4 * 2 ^ j) (hr : ∀ (j : Nat) (q : Nat × Int64), ds[j]? = some q → ∀ i z, (wgng (bs q.1).2.1.2.2.2 (wshr q.2 (bs q.1).2.1.2.2.2))[i]? = some z → (wputs (dmix bs acc (ds.take j)) ((wgng (bs q.1).2.1.2.2.2 (wshr q.2 (bs q.1).2.1.2.2.2)).take i)).length < zcm oo ∨ ∃ p ∈ wputs (dmix bs acc (ds.take j)) ((wgng (bs q.1).2.1.2.2.2 (wshr q.2 (bs q.1).2.1.2.2.2)).take i), p.1 = z.1) (hb : zBu M g k) : zev (zf_X2_carryOut M (some d) (some e) (some v)) (fun y => ∃ g', zDr y.1 g' A d ga ds dw ∧ zBe y.1 g' A e f ac (ch ++ ds.map (fun q => q.1)) ∧ (∀ q, q ∈ ds → zBa y.1 g' A q.1 (bout (bs q.1) q.2)) ∧ zWo y.1 g' oo v (dmix bs acc ds) ∧ zFo M g y.1 g' (fun z => z = 5 ∨ z = 10 ∨ z = oo ∨ ∃ q ∈ ds, z = 100 + 3 * q.1 ∨ z = 101 + 3 * q.1 ∨ z = 102 + 3 * q.1) ∧ zBu y.1 g' k) := by
  have o11 : oo ≠ 11 ∧ oo ≠ 27 ∧ oo ≠ 5 ∧ oo ≠ 10 ∧ oo ≠ 26 := by rcases hoo with h | ⟨b, h⟩ <;> omega
  have ow : ∀ c, oo ≠ 100 + 3 * c ∧ oo ≠ 102 + 3 * c := by
    intro c
    rcases hoo with h | ⟨b, h⟩ <;> omega
  have hl32 : ds.length ≤ 32 := hD.2.2.2.1
  simp only [zf_X2_carryOut, zev_b1, zev_bd, zev_some, zev_gi, zev_gj, zev_gr, zev_pi, zev_pz, zev_pj, zev_pr, zev_rc, zev_cc, zev_b0, zev_bo, true_and, and_true]
  refine zev_up (τ := Zm × Int32) (fun i (z : Zm × Int32) => ∃ M1 g1, z = (M1, nI i) ∧ zDr M1 g1 A d ga ds dw ∧ zBe M1 g1 A e f ac (ch ++ (ds.take i).map (fun q => q.1)) ∧ (∀ (j : Nat) (q : Nat × Int64), ds[j]? = some q → zBa M1 g1 A q.1 (if j < i then bout (bs q.1) q.2 else bs q.1)) ∧ zWo M1 g1 oo v (dmix bs acc (ds.take i)) ∧ zFo M g M1 g1 (fun z => z = 5 ∨ z = 10 ∨ z = oo ∨ ∃ q ∈ ds, z = 100 + 3 * q.1 ∨ z = 101 + 3 * q.1 ∨ z = 102 + 3 * q.1) ∧ zBu M1 g1 k) ds.length (i := 0) (Nat.zero_le _) ⟨M, g, rfl, hD, by simpa using hE, fun j q hq => by rw [if_neg (by omega)]; exact hB q (List.mem_of_getElem? hq), hV, zFo.rf, hb⟩ ?_ ?_
  · rintro i z hi ⟨M1, g1, rfl, D1, E1, B1, V1, f1, b1⟩
    obtain ⟨q, hq⟩ := getElem?_lt hi
    have hqm := List.mem_of_getElem? hq
    have hqn := hbn q hqm
    have i31 : i < 2 ^ 31 := by omega
    have c1 : ¬ nI ds.length ≤ nI i := nI_ge hi (by omega)
    have xq := B1 i q hq
    rw [if_neg (by omega)] at xq
    have D1' := D1
    obtain ⟨h1, h2, h3, h4, h5, h6, h7, h8, va, aa, w, r1, r2, r3, r4, r5, r6, r7, r8, r9, r10, r11, r12⟩ := D1'
    simp only [zf_X2_carryOut_L2, zev_b1, zev_bd, zev_some, zev_gi, zev_gj, zev_gr, zev_pi, zev_pz, zev_pj, zev_pr, zev_rc, zev_cc, zev_b0, zev_bo, true_and, and_true, h1, h3, if_neg c1, r1, zev_ar2 i31, r4, r5, show i < 32 by omega, (r12 i q hq).1, E1.1]
    refine zev_mono (zBe_keepb E1 xq hqn.1 (by simp only [List.length_append, List.length_map, List.length_take]; omega) b1) ?_
    rintro ⟨M2, u0⟩ hh
    dsimp only at hh ⊢
    obtain ⟨g2, E2, x2, f2, b2⟩ := hh
    have nT : ∀ z, z = 10 ∨ z = 26 ∨ z = oo → ¬ (z = 100 + 3 * q.1 ∨ z = 102 + 3 * q.1 ∨ z = 5) := by
      intro z hz
      have := ow q.1
      omega
    have D2 := D1.fr f2 (nT 10 (Or.inl rfl)) (nT 26 (Or.inr (Or.inl rfl)))
    have V2 := V1.fr f2 (nT oo (Or.inr (Or.inr rfl)))
    have D2' := D2
    obtain ⟨h1, h2, h3, h4, h5, h6, h7, h8, va, aa, w, r1, r2, r3, r4, r5, r6, r7, r8, r9, r10, r11, r12⟩ := D2'
    obtain ⟨wa, w1, w2⟩ := x2.wn
    simp only [zev_b1, zev_bd, zev_some, zev_gi, zev_gj, zev_gr, zev_pi, zev_pz, zev_pj, zev_pr, zev_rc, zev_cc, zev_b0, zev_bo, true_and, and_true, h1, r1, zev_ar2 i31, r4, r5, show i < 32 by omega, (r12 i q hq).1, x2.O, w1, r2, zev_aj2 i31, r7, r8, (r12 i q hq).2]
    refine zev_mono (zGa_out q.2 D2.G w2 V2 (fun e => hqn.2 e.symm) o11.2.2.2.1 (by omega) (h60 q hqm) hoo2 hm (hr i q hq) (hsum q hqm) b2) ?_
    rintro ⟨M4, u0⟩ hh
    dsimp only at hh ⊢
    obtain ⟨g4, M3, V4, W4, fg, f4, b4⟩ := hh
    have D3 := D2.fg fg
    have nT4 : ∀ z, z = 10 ∨ z = 26 ∨ z = 11 ∨ z = 27 ∨ z = 5 → ¬ (z = oo ∨ z = 101 + 3 * q.1) := by
      intro z hz
      omega
    have D4 := D3.fr f4 (nT4 10 (by omega)) (nT4 26 (by omega))
    have fo3 : zFo M2 g2 M3 g2 (fun z => z = 10) := ⟨fg.mono (fun a _ q => by rw [q]; exact h8), fun _ _ => rfl, fun _ _ => rfl⟩
    have E4 := (E2.fr fo3 (by decide) (by decide) (by decide)).fr f4 (nT4 11 (by omega)) (nT4 27 (by omega)) (nT4 5 (by omega))
    have f24 : zFo M2 g2 M4 g4 (fun z => z = 10 ∨ z = oo ∨ z = 101 + 3 * q.1) := fo3.tr3 f4 (fun z q => Or.inl q) (fun z q => Or.inr q)
    refine ⟨_, rfl, M4, g4, by rw [nI_1], D4, ?_, fun j r hjr => ?_, ?_, ?_, b4⟩
    · rw [take_snoc hq, List.map_append, ← List.append_assoc]
      exact E4
    · by_cases hji : j = i
      · subst hji
        rw [hq] at hjr
        cases hjr
        rw [if_pos (by omega)]
        have := ow q.1
        exact x2.putw w1 f24 (fun (z : 100 + 3 * q.1 = 10 ∨ 100 + 3 * q.1 = oo ∨ 100 + 3 * q.1 = 101 + 3 * q.1) => by omega) (fun (z : 102 + 3 * q.1 = 10 ∨ 102 + 3 * q.1 = oo ∨ 102 + 3 * q.1 = 101 + 3 * q.1) => by omega) W4
      · have hne := hdis j i r q hjr hq hji
        have hor := (hbn r (List.mem_of_getElem? hjr)).2
        have how := ow r.1
        have x4 := ((B1 j r hjr).fr f2 (fun (z : 100 + 3 * r.1 = 100 + 3 * q.1 ∨ 100 + 3 * r.1 = 102 + 3 * q.1 ∨ 100 + 3 * r.1 = 5) => by omega) (fun (z : 101 + 3 * r.1 = 100 + 3 * q.1 ∨ 101 + 3 * r.1 = 102 + 3 * q.1 ∨ 101 + 3 * r.1 = 5) => by omega) (fun (z : 102 + 3 * r.1 = 100 + 3 * q.1 ∨ 102 + 3 * r.1 = 102 + 3 * q.1 ∨ 102 + 3 * r.1 = 5) => by omega)).fr f24 (fun (z : 100 + 3 * r.1 = 10 ∨ 100 + 3 * r.1 = oo ∨ 100 + 3 * r.1 = 101 + 3 * q.1) => by omega) (fun (z : 101 + 3 * r.1 = 10 ∨ 101 + 3 * r.1 = oo ∨ 101 + 3 * r.1 = 101 + 3 * q.1) => by omega) (fun (z : 102 + 3 * r.1 = 10 ∨ 102 + 3 * r.1 = oo ∨ 102 + 3 * r.1 = 101 + 3 * q.1) => by omega)
        by_cases hlt : j < i
        · rw [if_pos hlt] at x4
          rw [if_pos (by omega)]; exact x4
        · rw [if_neg hlt] at x4
          rw [if_neg (by omega)]; exact x4
    · rw [take_snoc hq, dmix_snoc]
      exact V4
    · refine (f1.tr3 f2 (T := fun z => z = 5 ∨ z = 10 ∨ z = oo ∨ ∃ q ∈ ds, z = 100 + 3 * q.1 ∨ z = 101 + 3 * q.1 ∨ z = 102 + 3 * q.1) (fun z h => h) (fun z h => ?_)).tr3 f24 (fun z h => h) (fun z h => ?_)
      · rcases h with h | h | h
        · exact Or.inr (Or.inr (Or.inr ⟨q, hqm, Or.inl h⟩))
        · exact Or.inr (Or.inr (Or.inr ⟨q, hqm, Or.inr (Or.inr h)⟩))
        · exact Or.inl h
      · rcases h with h | h | h
        · exact Or.inr (Or.inl h)
        · exact Or.inr (Or.inr (Or.inl h))
        · exact Or.inr (Or.inr (Or.inr ⟨q, hqm, Or.inr (Or.inl h)⟩))
  · rintro z ⟨M1, g1, rfl, D1, E1, B1, V1, f1, b1⟩
    have c1 : nI ds.length ≤ nI ds.length := nI_le (Nat.le_refl _) (by omega)
    simp only [zf_X2_carryOut_L2, zev_b1, zev_bd, zev_some, zev_gi, zev_gj, zev_gr, zev_pi, zev_pz, zev_pj, zev_pr, zev_rc, zev_cc, zev_b0, zev_bo, true_and, and_true, D1.1, D1.2.2.1, if_pos c1]
    rw [List.take_of_length_le (Nat.le_refl _)] at E1 V1
    refine ⟨_, rfl, g1, D1, E1, fun q hq => ?_, V1, f1, b1⟩
    obtain ⟨j, hj, hjq⟩ := List.getElem_of_mem hq
    have := B1 j q (by rw [List.getElem?_eq_getElem hj, hjq])
    rw [if_pos hj] at this
    exact this
