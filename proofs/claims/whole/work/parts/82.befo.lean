/-! Barrel: keep, restore; Before. -/
theorem zcm_w (b : Nat) : zcm (101 + 3 * b) = 64 := by
  unfold zcm; rw [if_neg (by omega), if_neg (by omega), if_neg (by omega), if_neg (by omega)]
theorem zcm_k (b : Nat) : zcm (102 + 3 * b) = 64 := by
  unfold zcm; rw [if_neg (by omega), if_neg (by omega), if_neg (by omega), if_neg (by omega)]
def bkeep (x : Bv) : Bv := (x.1, x.2.1, x.2.1, x.2.2.2)
def brest (x : Bv) : Bv := (x.1, x.2.2.1, x.2.2.1, x.2.2.2)
def bwin (x : Bv) (l : Wn) : Bv := (x.1, (x.2.1.1, x.2.1.2.1, x.2.1.2.2.1, l), x.2.2)
/-- its wine is another -/
theorem zBa.putw {M M' : Zm} {g g' : Zg} {T : Nat → Prop} {A : Nat → Nat} {b wa : Nat} {x : Bv} {l : Wn} (h : zBa M g A b x) (hwa : zm_r M (A b) 5 = some wa) (f : zFo M g M' g' T) (n1 : ¬ T (100 + 3 * b)) (n3 : ¬ T (102 + 3 * b)) (hw : zWo M' g' (101 + 3 * b) wa l) : zBa M' g' A b (bwin x l) := by
  obtain ⟨h1, h2, h3, h4, h5, h6, h7, h8, h9, h10, h11, wa', ma, ka, r0', r1, r2, r3, r4, r5, r6, r7, r8, r9, r10, r11, r12⟩ := h
  have r0 : wa = A (1000 + b) := (Option.some.inj (hwa.symm.trans r1)).trans r0'
  have e1 := f.at h1.1 h2 n1
  have e2 := f.at r6.1 r8 n1
  refine ⟨f.O h1, f.own h1.1 h2, ?_, ?_, ?_, ?_, ?_, ?_, ?_, ?_, ?_, wa, ma, ka, r0, ?_, ?_, ?_, hw, r5.fr f n3, f.O r6, (f.A (show zA M ma 16 4 from ⟨r6, r7⟩)).2, f.own r6.1 r8, r9, r10, r11, fun i m hm => ?_⟩ <;> first | (rw [e1.1]; assumption) | (rw [e1.2.2]; assumption) | (rw [e2.2.2]; exact r12 i m hm)
theorem zBa_keep {M : Zm} {g : Zg} {A : Nat → Nat} {b k : Nat} {x : Bv} (h : zBa M g A b x) (hb1 : b < 1000) (hb : zBu M g k) : zev (zf_X0_keep M (some (A b))) (fun y => ∃ g', zBa y.1 g' A b (bkeep x) ∧ zFo M g y.1 g' (fun z => z = 100 + 3 * b ∨ z = 102 + 3 * b) ∧ zBu y.1 g' k) := by
  obtain ⟨h1, h2, h3, h4, h5, h6, h7, h8, h9, h10, h11, wa, ma, ka, r0, r1, r2, r3, r4, r5, r6, r7, r8, r9, r10, r11, r12⟩ := h
  have fo : zFo M g (zm_pi (zm_pi (zm_pi M (A b) 8 x.2.1.1) (A b) 9 x.2.1.2.1) (A b) 10 (nI x.2.1.2.2.1)) g (fun z => z = 100 + 3 * b) := ((zFo.pi h2).tr (zFo.pi h2)).tr (zFo.pi h2)
  have K6 := r5.fr fo (fun (e : 102 + 3 * b = 100 + 3 * b) => by omega)
  have W6 := r4.fr fo (fun (e : 101 + 3 * b = 100 + 3 * b) => by omega)
  have wc := W6.cap
  rw [zcm_w] at wc
  simp only [zf_X0_keep, zev_b1, zev_bd, zev_some, zev_gi, zev_gj, zev_gr, zev_pi, zev_pz, zev_pj, zev_pr, zev_rc, zev_cc, zev_b0, zev_bo, true_and, and_true, ypi_i, ypj_j, ypr_r, zpi_j, zpi_r, zpj_i, zpj_r, zpr_i, zpr_j, ypi_O, ypj_O, ypr_O, zpi_l, zpj_l, zpr_l, zpi_b, zpi_c, zpj_b, zpj_c, zpr_b, zpr_c, zpi_s, zpj_s, zpr_s, h1, Nat.reduceEqDiff, if_false, h6, h7, h8, r1, r3, r5.O]
  refine zev_mono (zWo_copy K6 W6 (by omega) (by omega) (by rw [zcm_k]; exact wc) (hb.same rfl rfl)) ?_
  rintro ⟨M7, u0⟩ hh
  dsimp only at hh ⊢
  obtain ⟨g', K7, f7, b7⟩ := hh
  refine ⟨g', ?_, fo.tr3 f7 (fun z e => Or.inl e) (fun z e => Or.inr e), b7⟩
  have e1 := f7.at (a := A b) (o := 100 + 3 * b) h1.1 h2 (fun (e : 100 + 3 * b = 102 + 3 * b) => by omega)
  have e2 := f7.at (a := ma) (o := 100 + 3 * b) r6.1 r8 (fun (e : 100 + 3 * b = 102 + 3 * b) => by omega)
  refine ⟨f7.O h1, f7.own h1.1 h2, ?_, ?_, ?_, ?_, ?_, ?_, ?_, ?_, ?_, wa, ma, ka, r0, ?_, ?_, ?_, W6.fr f7 (fun (e : 101 + 3 * b = 102 + 3 * b) => by omega), K7, f7.O r6, (f7.A (show zA M ma 16 4 from ⟨r6, r7⟩)).2, f7.own r6.1 r8, r9, r10, r10, fun i m hm => ?_⟩ <;> first | (rw [e1.1]; simp only [ypi_i, true_and, Nat.reduceEqDiff, if_false, if_true]; assumption) | (rw [e1.1]; simp only [ypi_i, true_and, Nat.reduceEqDiff, if_false, if_true]; rfl) | (rw [e1.1]; simp only [ypi_i, true_and, Nat.reduceEqDiff, if_false, if_true, bkeep]) | (rw [e1.2.2]; assumption) | (rw [e2.2.2]; exact r12 i m hm)
theorem zBa_restore {M : Zm} {g : Zg} {A : Nat → Nat} {b k : Nat} {x : Bv} (h : zBa M g A b x) (hb1 : b < 1000) (hb : zBu M g k) : zev (zf_X0_restore M (some (A b))) (fun y => ∃ g', zBa y.1 g' A b (brest x) ∧ zFo M g y.1 g' (fun z => z = 100 + 3 * b ∨ z = 101 + 3 * b) ∧ zBu y.1 g' k) := by
  obtain ⟨h1, h2, h3, h4, h5, h6, h7, h8, h9, h10, h11, wa, ma, ka, r0, r1, r2, r3, r4, r5, r6, r7, r8, r9, r10, r11, r12⟩ := h
  have fo : zFo M g (zm_pi (zm_pi (zm_pi M (A b) 3 x.2.2.1.1) (A b) 4 x.2.2.1.2.1) (A b) 7 (nI x.2.2.1.2.2.1)) g (fun z => z = 100 + 3 * b) := ((zFo.pi h2).tr (zFo.pi h2)).tr (zFo.pi h2)
  have K6 := r5.fr fo (fun (e : 102 + 3 * b = 100 + 3 * b) => by omega)
  have W6 := r4.fr fo (fun (e : 101 + 3 * b = 100 + 3 * b) => by omega)
  have wc := K6.cap
  rw [zcm_k] at wc
  simp only [zf_X0_restore, zev_b1, zev_bd, zev_some, zev_gi, zev_gj, zev_gr, zev_pi, zev_pz, zev_pj, zev_pr, zev_rc, zev_cc, zev_b0, zev_bo, true_and, and_true, ypi_i, ypj_j, ypr_r, zpi_j, zpi_r, zpj_i, zpj_r, zpr_i, zpr_j, ypi_O, ypj_O, ypr_O, zpi_l, zpj_l, zpr_l, zpi_b, zpi_c, zpj_b, zpj_c, zpr_b, zpr_c, zpi_s, zpj_s, zpr_s, h1, Nat.reduceEqDiff, if_false, h9, h10, h11, r1, r3, r4.O]
  refine zev_mono (zWo_copy W6 K6 (by omega) (by omega) (by rw [zcm_w]; exact wc) (hb.same rfl rfl)) ?_
  rintro ⟨M7, u0⟩ hh
  dsimp only at hh ⊢
  obtain ⟨g', K7, f7, b7⟩ := hh
  refine ⟨g', ?_, fo.tr3 f7 (fun z e => Or.inl e) (fun z e => Or.inr e), b7⟩
  have e1 := f7.at (a := A b) (o := 100 + 3 * b) h1.1 h2 (fun (e : 100 + 3 * b = 101 + 3 * b) => by omega)
  have e2 := f7.at (a := ma) (o := 100 + 3 * b) r6.1 r8 (fun (e : 100 + 3 * b = 101 + 3 * b) => by omega)
  refine ⟨f7.O h1, f7.own h1.1 h2, ?_, ?_, ?_, ?_, ?_, ?_, ?_, ?_, ?_, wa, ma, ka, r0, ?_, ?_, ?_, K7, K6.fr f7 (fun (e : 102 + 3 * b = 101 + 3 * b) => by omega), f7.O r6, (f7.A (show zA M ma 16 4 from ⟨r6, r7⟩)).2, f7.own r6.1 r8, r9, r11, r11, fun i m hm => ?_⟩ <;> first | (rw [e1.1]; simp only [ypi_i, true_and, Nat.reduceEqDiff, if_false, if_true]; assumption) | (rw [e1.1]; simp only [ypi_i, true_and, Nat.reduceEqDiff, if_false, if_true]; rfl) | (rw [e1.1]; simp only [ypi_i, true_and, Nat.reduceEqDiff, if_false, if_true, brest]) | (rw [e1.2.2]; assumption) | (rw [e2.2.2]; exact r12 i m hm)
/-! Before -/
def fu (f : Nat → Int32) (i : Nat) (v : Int32) : Nat → Int32 := fun j => if j = i then v else f j
def zBe (M : Zm) (g : Zg) (A : Nat → Nat) (e : Nat) (f : Nat → Int32) (ac : Wn) (ch : List Nat) : Prop := zO M e 2 ∧ g.1 e = 11 ∧ (∀ i, i < 9 → zm_i M e i = f i) ∧ ∃ wa ca, zm_r M e 9 = some wa ∧ zm_r M e 10 = some ca ∧ zWo M g 27 wa ac ∧ zAl M g 5 ca (ch.map A)
theorem zBe.fr {M M' : Zm} {g g' : Zg} {T : Nat → Prop} {A : Nat → Nat} {e : Nat} {f : Nat → Int32} {ac : Wn} {ch : List Nat} (h : zBe M g A e f ac ch) (fr : zFo M g M' g' T) (n1 : ¬ T 11) (n2 : ¬ T 27) (n3 : ¬ T 5) : zBe M' g' A e f ac ch := by
  obtain ⟨h1, h2, h3, wa, ca, r1, r2, r3, r4⟩ := h
  have e1 := fr.at h1.1 h2 n1
  exact ⟨fr.O h1, fr.own h1.1 h2, fun i hi => by rw [e1.1]; exact h3 i hi, wa, ca, by rw [e1.2.2]; exact r1, by rw [e1.2.2]; exact r2, r3.fr fr n2, r4.fr fr n3⟩
theorem zBe_begin {M : Zm} {g : Zg} {A : Nat → Nat} {e k : Nat} {f : Nat → Int32} {ac : Wn} {ch : List Nat} (h : zBe M g A e f ac ch) (l1 l2 l3 l4 : Int32) (hb : zBu M g k) : zev (zf_X1_begin M (some e) l1 l2 l3 l4) (fun y => zBe y.1 g A e (fu (fu (fu (fu (fu (fu (fu f 0 1) 1 l1) 2 l2) 3 l3) 4 l4) 5 (-1)) 8 (-1)) ac [] ∧ zFo M g y.1 g (fun z => z = 11 ∨ z = 5) ∧ zBu y.1 g k) := by
  obtain ⟨h1, h2, h3, wa, ca, r1, r2, r3, r4⟩ := h
  have o1 : (1 : Int32) = 0 ∨ (1 : Int32) = 1 := Or.inr rfl
  obtain ⟨N, hN⟩ : ∃ N, N = zm_pi (zm_pi (zm_pi (zm_pi (zm_pi (zm_pi (zm_pi M e 0 1) e 1 l1) e 2 l2) e 3 l3) e 4 l4) e 5 (-1)) e 8 (-1) := ⟨_, rfl⟩
  have fo : zFo M g N g (fun z => z = 11) := by rw [hN]; exact ((((((zFo.pi h2).tr (zFo.pi h2)).tr (zFo.pi h2)).tr (zFo.pi h2)).tr (zFo.pi h2)).tr (zFo.pi h2)).tr (zFo.pi h2)
  have hI : ∀ i, i < 9 → zm_i N e i = (fu (fu (fu (fu (fu (fu (fu f 0 1) 1 l1) 2 l2) 3 l3) 4 l4) 5 (-1)) 8 (-1)) i := fun i hi => by
    rw [hN]; simp only [ypi_i, true_and, fu, h3 i hi]
  have H9 : zm_r N e 9 = some wa := by rw [hN]; simp only [zpi_r]; exact r1
  have H10 : zm_r N e 10 = some ca := by rw [hN]; simp only [zpi_r]; exact r2
  have B6 : zBu N g k := hb.same (by rw [hN]; simp only [zpi_s]) (by rw [hN]; simp only [zpi_c])
  have O6 := fo.O h1
  have R3 := r3.fr fo (by decide)
  have R4 := r4.fr fo (by decide)
  simp only [zf_X1_begin, zev_b1, zev_bd, zev_some, zev_gi, zev_gj, zev_gr, zev_pi, zev_pz, zev_pj, zev_pr, zev_rc, zev_cc, zev_b0, zev_bo, true_and, and_true, ypi_i, ypj_j, ypr_r, zpi_j, zpi_r, zpj_i, zpj_r, zpr_i, zpr_j, ypi_O, ypj_O, ypr_O, zpi_l, zpj_l, zpr_l, zpi_b, zpi_c, zpj_b, zpj_c, zpr_b, zpr_c, zpi_s, zpj_s, zpr_s, h1, o1, r2, r4.O]
  refine ⟨Or.inr trivial, ?_⟩
  rw [← hN]
  clear hN
  refine zev_mono (zAl_clear R4 B6) ?_
  rintro ⟨M7, u0⟩ hh
  dsimp only at hh ⊢
  obtain ⟨a7, f7, b7⟩ := hh
  have e1 := f7.at (o := 11) O6.1 h2 (by decide)
  refine ⟨⟨f7.O O6, h2, fun i hi => ?_, wa, ca, ?_, ?_, R3.fr f7 (by decide), a7⟩, fo.tr3 f7 (fun z e => Or.inl e) (fun z e => Or.inr e), b7⟩
  · rw [e1.1]; exact hI i hi
  · rw [e1.2.2]; exact H9
  · rw [e1.2.2]; exact H10
theorem zBe_keepb {M : Zm} {g : Zg} {A : Nat → Nat} {e b k : Nat} {x : Bv} {f : Nat → Int32} {ac : Wn} {ch : List Nat} (h : zBe M g A e f ac ch) (hx : zBa M g A b x) (hb1 : b < 1000) (hc : ch.length < 1000) (hb : zBu M g k) : zev (zf_X1_keepBarrel M (some e) (some (A b))) (fun y => ∃ g', zBe y.1 g' A e f ac (ch ++ [b]) ∧ zBa y.1 g' A b (bkeep x) ∧ zFo M g y.1 g' (fun z => z = 100 + 3 * b ∨ z = 102 + 3 * b ∨ z = 5) ∧ zBu y.1 g' k) := by
  simp only [zf_X1_keepBarrel, zev_b1, zev_bd, zev_some, zev_gi, zev_gj, zev_gr, zev_pi, zev_pz, zev_pj, zev_pr, zev_rc, zev_cc, zev_b0, zev_bo, true_and, and_true, hx.O]
  refine zev_mono (zBa_keep hx hb1 hb) ?_
  rintro ⟨M1, u0⟩ hh
  dsimp only at hh ⊢
  obtain ⟨g1, x1, f1, b1⟩ := hh
  obtain ⟨h1, h2, h3, wa, ca, r1, r2, r3, r4⟩ := h.fr f1 (fun (q : 11 = 100 + 3 * b ∨ 11 = 102 + 3 * b) => by omega) (fun (q : 27 = 100 + 3 * b ∨ 27 = 102 + 3 * b) => by omega) (fun (q : 5 = 100 + 3 * b ∨ 5 = 102 + 3 * b) => by omega)
  simp only [h1, r2, zev_b1, zev_bd, zev_some, zev_gi, zev_gj, zev_gr, zev_pi, zev_pz, zev_pj, zev_pr, zev_rc, zev_cc, zev_b0, zev_bo, true_and, and_true, r4.O]
  refine zev_mono (zAl_add r4 (by rw [List.length_map]; exact hc) (by decide) (by decide) ⟨x1.O.1, Or.inl x1.O.2⟩ b1) ?_
  rintro ⟨M2, u0⟩ hh
  dsimp only at hh ⊢
  obtain ⟨g2, a2, f2, b2⟩ := hh
  refine ⟨g2, ⟨f2.O h1, f2.own h1.1 h2, fun i hi => ?_, wa, ca, ?_, ?_, r3.fr f2 (by decide), by rw [List.map_append]; exact a2⟩, x1.fr f2 (fun (q : 100 + 3 * b = 5) => by omega) (fun (q : 101 + 3 * b = 5) => by omega) (fun (q : 102 + 3 * b = 5) => by omega), f1.tr3 f2 (fun z q => q.elim Or.inl (fun q => Or.inr (Or.inl q))) (fun z q => Or.inr (Or.inr q)), b2⟩
  · rw [(f2.at h1.1 h2 (by decide)).1]; exact h3 i hi
  · rw [(f2.at h1.1 h2 (by decide)).2.2]; exact r1
  · rw [(f2.at h1.1 h2 (by decide)).2.2]; exact r2
theorem zBe_place {M : Zm} {g : Zg} {A : Nat → Nat} {e k : Nat} {f : Nat → Int32} {ac : Wn} {ch : List Nat} (h : zBe M g A e f ac ch) (l1 l2 l3 : Int32) (hb : zBu M g k) : zev (zf_X1_keepPlace M (some e) l1 l2 l3) (fun y => zBe y.1 g A e (fu (fu (fu f 5 l1) 6 l2) 7 l3) ac ch ∧ zFo M g y.1 g (fun z => z = 11) ∧ zBu y.1 g k) := by
  obtain ⟨h1, h2, h3, wa, ca, r1, r2, r3, r4⟩ := h
  have fo : zFo M g (zm_pi (zm_pi (zm_pi M e 5 l1) e 6 l2) e 7 l3) g (fun z => z = 11) := ((zFo.pi h2).tr (zFo.pi h2)).tr (zFo.pi h2)
  simp only [zf_X1_keepPlace, zev_b1, zev_bd, zev_some, zev_gi, zev_gj, zev_gr, zev_pi, zev_pz, zev_pj, zev_pr, zev_rc, zev_cc, zev_b0, zev_bo, true_and, and_true, ypi_i, ypj_j, ypr_r, zpi_j, zpi_r, zpj_i, zpj_r, zpr_i, zpr_j, ypi_O, ypj_O, ypr_O, zpi_l, zpj_l, zpr_l, zpi_b, zpi_c, zpj_b, zpj_c, zpr_b, zpr_c, zpi_s, zpj_s, zpr_s, h1]
  refine ⟨⟨h1, h2, fun i hi => ?_, wa, ca, r1, r2, r3.fr fo (by decide), r4.fr fo (by decide)⟩, fo, hb.same rfl rfl⟩
  simp only [ypi_i, true_and, fu, h3 i hi]
theorem zBe_row {M : Zm} {g : Zg} {A : Nat → Nat} {e k : Nat} {f : Nat → Int32} {ac : Wn} {ch : List Nat} (h : zBe M g A e f ac ch) (l1 : Int32) (hb : zBu M g k) : zev (zf_X1_keepRow M (some e) l1) (fun y => zBe y.1 g A e (fu (fu (fu f 5 l1) 6 (-1)) 7 (-1)) ac ch ∧ zFo M g y.1 g (fun z => z = 11) ∧ zBu y.1 g k) := by
  have h1 := h.1
  simp only [zf_X1_keepRow, zev_b1, zev_bd, zev_some, zev_gi, zev_gj, zev_gr, zev_pi, zev_pz, zev_pj, zev_pr, zev_rc, zev_cc, zev_b0, zev_bo, true_and, and_true, h1]
  exact zBe_place h l1 (-1) (-1) hb
theorem zBe_acc {M : Zm} {g : Zg} {A : Nat → Nat} {e o w k : Nat} {f : Nat → Int32} {ac l : Wn} {ch : List Nat} (h : zBe M g A e f ac ch) (hw : zWo M g o w l) (ho : 20 ≤ o ∧ o < 25) (how : Int32) (hb : zBu M g k) : zev (zf_X1_keepAccount M (some e) how (some w)) (fun y => ∃ g', zBe y.1 g' A e (fu f 8 how) l ch ∧ zFo M g y.1 g' (fun z => z = 11 ∨ z = 27) ∧ zBu y.1 g' k) := by
  obtain ⟨h1, h2, h3, wa, ca, r1, r2, r3, r4⟩ := h
  have fo : zFo M g (zm_pi M e 8 how) g (fun z => z = 11) := zFo.pi h2
  have hz : zcm o ≤ zcm 27 := by
    have : zcm o = 4096 := by unfold zcm; rw [if_neg (by omega), if_pos (by omega)]
    rw [this]; decide
  simp only [zf_X1_keepAccount, zev_b1, zev_bd, zev_some, zev_gi, zev_gj, zev_gr, zev_pi, zev_pz, zev_pj, zev_pr, zev_rc, zev_cc, zev_b0, zev_bo, true_and, and_true, ypi_i, ypj_j, ypr_r, zpi_j, zpi_r, zpj_i, zpj_r, zpr_i, zpr_j, ypi_O, ypj_O, ypr_O, zpi_l, zpj_l, zpr_l, zpi_b, zpi_c, zpj_b, zpj_c, zpr_b, zpr_c, zpi_s, zpj_s, zpr_s, h1, r1, r3.O]
  refine zev_mono (zWo_copy (r3.fr fo (by decide)) (hw.fr fo (fun (q : o = 11) => by omega)) (by omega) (by decide) (Nat.le_trans hw.cap hz) (hb.same rfl rfl)) ?_
  rintro ⟨M7, u0⟩ hh
  dsimp only at hh ⊢
  obtain ⟨g', a7, f7, b7⟩ := hh
  refine ⟨g', ⟨f7.O h1, f7.own h1.1 h2, fun i hi => ?_, wa, ca, ?_, ?_, a7, (r4.fr fo (by decide)).fr f7 (by decide)⟩, fo.tr3 f7 (fun z e => Or.inl e) (fun z e => Or.inr e), b7⟩
  · rw [(f7.at (a := e) (o := 11) h1.1 h2 (by decide)).1]
    simp only [ypi_i, true_and, fu, h3 i hi]
  · rw [(f7.at (a := e) (o := 11) h1.1 h2 (by decide)).2.2]; exact r1
  · rw [(f7.at (a := e) (o := 11) h1.1 h2 (by decide)).2.2]; exact r2
theorem brest_brest (x : Bv) : brest (brest x) = brest x := rfl
theorem zBe_restore {M : Zm} {g : Zg} {A : Nat → Nat} {e k nb : Nat} {f : Nat → Int32} {ac : Wn} {ch : List Nat} {bs : Nat → Bv} (h : zBe M g A e f ac ch) (hB : ∀ c, c < nb → zBa M g A c (bs c)) (hch : ∀ c, c ∈ ch → c < nb) (hnb : nb ≤ 1000) (hb : zBu M g k) : zev (zf_X1_restoreBarrels M (some e)) (fun y => ∃ g', zBe y.1 g' A e f ac ch ∧ (∀ c, c < nb → zBa y.1 g' A c (if c ∈ ch then brest (bs c) else bs c)) ∧ zFo M g y.1 g' (fun z => 100 ≤ z) ∧ zBu y.1 g' k) := by
  simp only [zf_X1_restoreBarrels, zev_b1, zev_bd, zev_some, zev_gi, zev_gj, zev_gr, zev_pi, zev_pz, zev_pj, zev_pr, zev_rc, zev_cc, zev_b0, zev_bo, true_and, and_true]
  refine zev_up (τ := Zm × Int32) (fun i (z : Zm × Int32) => ∃ M1 g1, z = (M1, nI i) ∧ zBe M1 g1 A e f ac ch ∧ (∀ c, c < nb → zBa M1 g1 A c (if c ∈ ch.take i then brest (bs c) else bs c)) ∧ zFo M g M1 g1 (fun z => 100 ≤ z) ∧ zBu M1 g1 k) ch.length (i := 0) (Nat.zero_le _) ⟨M, g, rfl, h, fun c hc => by simpa using hB c hc, zFo.rf, hb⟩ ?_ ?_
  · rintro i z hi ⟨M1, g1, rfl, e1, B1, f1, b1⟩
    obtain ⟨c, hc⟩ := getElem?_lt hi
    have hcn := hch c (List.mem_of_getElem? hc)
    have x1 := B1 c hcn
    obtain ⟨h1, h2, h3, wa, ca, r1, r2, r3, r4⟩ := e1
    have hl := r4.len
    rw [List.length_map] at hl
    have c1 : ¬ nI (ch.map A).length ≤ nI i := nI_ge (by rw [List.length_map]; exact hi) (by rw [List.length_map]; omega)
    have hg : (ch.map A)[i]? = some (A c) := by rw [List.getElem?_map, hc]; rfl
    simp only [zf_X1_restoreBarrels_L2, zev_b1, zev_bd, zev_some, zev_gi, zev_gj, zev_gr, zev_pi, zev_pz, zev_pj, zev_pr, zev_rc, zev_cc, zev_b0, zev_bo, true_and, and_true, h1, r2, r4.O, zev_eq (zAl_size r4), if_neg c1, zev_eq (zAl_get r4 hg), x1.O]
    refine zev_mono (zBa_restore x1 (by omega) b1) ?_
    rintro ⟨M2, u0⟩ hh
    dsimp only at hh ⊢
    obtain ⟨g2, x2, f2, b2⟩ := hh
    refine ⟨_, rfl, M2, g2, by rw [nI_1], zBe.fr ⟨h1, h2, h3, wa, ca, r1, r2, r3, r4⟩ f2 (fun (q : 11 = 100 + 3 * c ∨ 11 = 101 + 3 * c) => by omega) (fun (q : 27 = 100 + 3 * c ∨ 27 = 101 + 3 * c) => by omega) (fun (q : 5 = 100 + 3 * c ∨ 5 = 101 + 3 * c) => by omega), fun d hd => ?_, f1.tr3 f2 (fun z q => q) (fun z q => by rcases q with q | q <;> omega), b2⟩
    rw [take_snoc hc]
    by_cases hdc : d = c
    · subst hdc
      rw [if_pos (List.mem_append_right _ (List.mem_singleton.mpr rfl))]
      have x3 := x2
      by_cases hm : d ∈ ch.take i
      · rw [if_pos hm] at x3
        exact x3
      · rw [if_neg hm] at x3
        exact x3
    · have hd1 := (B1 d hd).fr f2 (fun (q : 100 + 3 * d = 100 + 3 * c ∨ 100 + 3 * d = 101 + 3 * c) => by omega) (fun (q : 101 + 3 * d = 100 + 3 * c ∨ 101 + 3 * d = 101 + 3 * c) => by omega) (fun (q : 102 + 3 * d = 100 + 3 * c ∨ 102 + 3 * d = 101 + 3 * c) => by omega)
      by_cases hm : d ∈ ch.take i
      · rw [if_pos hm] at hd1
        rw [if_pos (List.mem_append_left _ hm)]
        exact hd1
      · rw [if_neg hm] at hd1
        rw [if_neg (fun q => by rcases List.mem_append.mp q with q | q; exact hm q; exact hdc (List.mem_singleton.mp q))]
        exact hd1
  · rintro z ⟨M1, g1, rfl, e1, B1, f1, b1⟩
    have e2 := e1
    obtain ⟨h1, h2, h3, wa, ca, r1, r2, r3, r4⟩ := e1
    have hl := r4.len
    rw [List.length_map] at hl
    have c1 : nI (ch.map A).length ≤ nI ch.length := by rw [List.length_map]; exact nI_le (Nat.le_refl _) (by omega)
    simp only [zf_X1_restoreBarrels_L2, zev_b1, zev_bd, zev_some, zev_gi, zev_gj, zev_gr, zev_pi, zev_pz, zev_pj, zev_pr, zev_rc, zev_cc, zev_b0, zev_bo, true_and, and_true, h1, r2, r4.O, zev_eq (zAl_size r4), if_pos c1]
    rw [List.take_of_length_le (Nat.le_refl _)] at B1
    exact ⟨_, rfl, g1, e2, B1, f1, b1⟩
