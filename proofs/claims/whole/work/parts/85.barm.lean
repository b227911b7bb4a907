/-! Barrels: the rest. -/
def bhas (bs : Nat → Bv) (x : Bv) : Int64 := (bms x).foldl (fun a m => a + wsum (bs m).2.1.2.2.2) (wsum x.2.1.2.2.2)
theorem zBa_has {M : Zm} {g : Zg} {A : Nat → Nat} {b : Nat} {x : Bv} {bs : Nat → Bv} (h : zBa M g A b x) (hm : ∀ m, m ∈ bms x → zBa M g A m (bs m)) : zf_X0_has M (some (A b)) = some (M, bhas bs x) := by
  have hz : zev (zf_X0_has M (some (A b))) (fun y => y = (M, bhas bs x)) := by
    obtain ⟨wa, w1, w2⟩ := h.wn
    obtain ⟨ma, p1, p2, p3, p4, p5, p6⟩ := h.me
    simp only [zf_X0_has, zev_b1, zev_bd, zev_some, zev_gi, zev_gj, zev_gr, zev_pi, zev_pz, zev_pj, zev_pr, zev_rc, zev_cc, zev_b0, zev_bo, true_and, and_true, h.O, w1, w2.O, w2.tot]
    refine zev_up (τ := Zm × Int64 × Int32) (fun i (z : Zm × Int64 × Int32) => z = (M, ((bms x).take i).foldl (fun a m => a + wsum (bs m).2.1.2.2.2) (wsum x.2.1.2.2.2), nI i)) (bms x).length (i := 0) (Nat.zero_le _) rfl ?_ ?_
    · rintro i z hi rfl
      obtain ⟨m, hm2⟩ := getElem?_lt hi
      have hmm := hm m (List.mem_of_getElem? hm2)
      obtain ⟨wm, m1, m2⟩ := hmm.wn
      have i31 : i < 2 ^ 31 := by omega
      have c1 : ¬ nI x.2.1.2.2.1 ≤ nI i := nI_ge (by omega) (by omega)
      simp only [zf_X0_has_L10, zev_b1, zev_bd, zev_some, zev_gi, zev_gj, zev_gr, zev_pi, zev_pz, zev_pj, zev_pr, zev_rc, zev_cc, zev_b0, zev_bo, true_and, and_true, h.O, h.mc, if_neg c1, p1, zev_ar2 i31, p2, p3, show i < 4 by omega, p6 i m hm2, hmm.O, m1, m2.O, m2.tot]
      refine ⟨_, rfl, ?_⟩
      rw [take_snoc hm2, List.foldl_append, nI_1]; rfl
    · rintro z rfl
      have c1 : nI x.2.1.2.2.1 ≤ nI (bms x).length := nI_le (by omega) (by omega)
      simp only [zf_X0_has_L10, zev_b1, zev_bd, zev_some, zev_gi, zev_gj, zev_gr, zev_pi, zev_pz, zev_pj, zev_pr, zev_rc, zev_cc, zev_b0, zev_bo, true_and, and_true, h.O, h.mc, if_pos c1]
      refine ⟨_, rfl, ?_⟩
      rw [List.take_of_length_le (Nat.le_refl _)]; rfl
  obtain ⟨y, hy, rfl⟩ := hz
  exact hy
def bof (bs : Nat → Bv) (x : Bv) (p : Int32) : Int64 := (bms x).foldl (fun a m => a + wlook p (bs m).2.1.2.2.2) (wlook p x.2.1.2.2.2)
theorem zBa_hasOf {M : Zm} {g : Zg} {A : Nat → Nat} {b : Nat} {x : Bv} {bs : Nat → Bv} (h : zBa M g A b x) (hm : ∀ m, m ∈ bms x → zBa M g A m (bs m)) (p : Int32) : zf_X0_hasOf M (some (A b)) p = some (M, bof bs x p) := by
  have hz : zev (zf_X0_hasOf M (some (A b)) p) (fun y => y = (M, bof bs x p)) := by
    obtain ⟨wa, w1, w2⟩ := h.wn
    obtain ⟨ma, p1, p2, p3, p4, p5, p6⟩ := h.me
    simp only [zf_X0_hasOf, zev_b1, zev_bd, zev_some, zev_gi, zev_gj, zev_gr, zev_pi, zev_pz, zev_pj, zev_pr, zev_rc, zev_cc, zev_b0, zev_bo, true_and, and_true, h.O, w1, w2.O, zev_eq (zWo_amountOf w2 p)]
    refine zev_up (τ := Zm × Int64 × Int32) (fun i (z : Zm × Int64 × Int32) => z = (M, ((bms x).take i).foldl (fun a m => a + wlook p (bs m).2.1.2.2.2) (wlook p x.2.1.2.2.2), nI i)) (bms x).length (i := 0) (Nat.zero_le _) rfl ?_ ?_
    · rintro i z hi rfl
      obtain ⟨m, hm2⟩ := getElem?_lt hi
      have hmm := hm m (List.mem_of_getElem? hm2)
      obtain ⟨wm, m1, m2⟩ := hmm.wn
      have i31 : i < 2 ^ 31 := by omega
      have c1 : ¬ nI x.2.1.2.2.1 ≤ nI i := nI_ge (by omega) (by omega)
      simp only [zf_X0_hasOf_L12, zev_b1, zev_bd, zev_some, zev_gi, zev_gj, zev_gr, zev_pi, zev_pz, zev_pj, zev_pr, zev_rc, zev_cc, zev_b0, zev_bo, true_and, and_true, h.O, h.mc, if_neg c1, p1, zev_ar2 i31, p2, p3, show i < 4 by omega, p6 i m hm2, hmm.O, m1, m2.O, zev_eq (zWo_amountOf m2 p)]
      refine ⟨_, rfl, ?_⟩
      rw [take_snoc hm2, List.foldl_append, nI_1]; rfl
    · rintro z rfl
      have c1 : nI x.2.1.2.2.1 ≤ nI (bms x).length := nI_le (by omega) (by omega)
      simp only [zf_X0_hasOf_L12, zev_b1, zev_bd, zev_some, zev_gi, zev_gj, zev_gr, zev_pi, zev_pz, zev_pj, zev_pr, zev_rc, zev_cc, zev_b0, zev_bo, true_and, and_true, h.O, h.mc, if_pos c1]
      refine ⟨_, rfl, ?_⟩
      rw [List.take_of_length_le (Nat.le_refl _)]; rfl
  obtain ⟨y, hy, rfl⟩ := hz
  exact hy
def bcin (x : Bv) : Int32 := if x.1.1 = 5 then nI x.2.1.2.2.1 else nI x.2.1.2.2.2.length
theorem zBa_cin {M : Zm} {g : Zg} {A : Nat → Nat} {b : Nat} {x : Bv} (h : zBa M g A b x) : zf_X0_countInside M (some (A b)) = some (M, bcin x) := by
  have hz : zev (zf_X0_countInside M (some (A b))) (fun y => y = (M, bcin x)) := by
    obtain ⟨wa, w1, w2⟩ := h.wn
    simp only [zf_X0_countInside, zev_b1, zev_bd, zev_some, zev_gi, zev_gj, zev_gr, zev_pi, zev_pz, zev_pj, zev_pr, zev_rc, zev_cc, zev_b0, zev_bo, true_and, and_true, h.O, h.kd, bcin]
    by_cases c : x.1.1 = 5
    · simp only [if_pos c, zev_b1, zev_bd, zev_some, zev_gi, zev_gj, zev_gr, zev_pi, zev_pz, zev_pj, zev_pr, zev_rc, zev_cc, zev_b0, zev_bo, true_and, and_true, h.O, h.mc]
    · simp only [if_neg c, zev_b1, zev_bd, zev_some, zev_gi, zev_gj, zev_gr, zev_pi, zev_pz, zev_pj, zev_pr, zev_rc, zev_cc, zev_b0, zev_bo, true_and, and_true, h.O, w1, w2.O, w2.cnt]
  obtain ⟨y, hy, rfl⟩ := hz
  exact hy
theorem zBa_inCask {M : Zm} {g : Zg} {A : Nat → Nat} {b : Nat} {x : Bv} (h : zBa M g A b x) : zf_X0_inCask M (some (A b)) = some (M, if x.2.1.2.1 < 10000 then 0 else 1) := by
  have hz : zev (zf_X0_inCask M (some (A b))) (fun y => y = (M, if x.2.1.2.1 < 10000 then 0 else 1)) := by
    simp only [zf_X0_inCask, zev_b1, zev_bd, zev_some, zev_gi, zev_gj, zev_gr, zev_pi, zev_pz, zev_pj, zev_pr, zev_rc, zev_cc, zev_b0, zev_bo, true_and, and_true, h.O, h.pl]
    by_cases c : x.2.1.2.1 < 10000
    · simp only [if_pos c, zev_b1, zev_bd, zev_some, zev_gi, zev_gj, zev_gr, zev_pi, zev_pz, zev_pj, zev_pr, zev_rc, zev_cc, zev_b0, zev_bo, true_and, and_true]
    · simp only [if_neg c, zev_b1, zev_bd, zev_some, zev_gi, zev_gj, zev_gr, zev_pi, zev_pz, zev_pj, zev_pr, zev_rc, zev_cc, zev_b0, zev_bo, true_and, and_true]
  obtain ⟨y, hy, rfl⟩ := hz
  exact hy
theorem zBa_onFloor {M : Zm} {g : Zg} {A : Nat → Nat} {b : Nat} {x : Bv} (h : zBa M g A b x) : zf_X0_onFloor M (some (A b)) = some (M, if x.2.1.2.1 = 0 then 1 else 0) := by
  have hz : zev (zf_X0_onFloor M (some (A b))) (fun y => y = (M, if x.2.1.2.1 = 0 then 1 else 0)) := by
    simp only [zf_X0_onFloor, zev_b1, zev_bd, zev_some, zev_gi, zev_gj, zev_gr, zev_pi, zev_pz, zev_pj, zev_pr, zev_rc, zev_cc, zev_b0, zev_bo, true_and, and_true, h.O, h.pl]
    by_cases c : x.2.1.2.1 = 0
    · simp only [if_pos c, zev_b1, zev_bd, zev_some, zev_gi, zev_gj, zev_gr, zev_pi, zev_pz, zev_pj, zev_pr, zev_rc, zev_cc, zev_b0, zev_bo, true_and, and_true]
    · simp only [if_neg c, zev_b1, zev_bd, zev_some, zev_gi, zev_gj, zev_gr, zev_pi, zev_pz, zev_pj, zev_pr, zev_rc, zev_cc, zev_b0, zev_bo, true_and, and_true]
  obtain ⟨y, hy, rfl⟩ := hz
  exact hy
def bdig (x : Bv) (d : Int64) : Int64 := (bms x).foldl (fun a m => a * 31 + (nI m).toInt64) (x.2.1.2.2.2.foldl (fun a q => (a * 31 + q.1.toInt64) * 31 + q.2) (((((d * 31 + x.1.1.toInt64) * 31 + x.1.2.toInt64) * 31 + x.2.1.1.toInt64) * 31 + x.2.1.2.1.toInt64) * 31 + (bcin x).toInt64))
theorem zBa_digest {M : Zm} {g : Zg} {A : Nat → Nat} {b : Nat} {x : Bv} {bs : Nat → Bv} (h : zBa M g A b x) (hm : ∀ m, m ∈ bms x → zBa M g A m (bs m)) (d : Int64) : zf_X0_digestOnto M (some (A b)) d = some (M, bdig x d) := by
  have hz : zev (zf_X0_digestOnto M (some (A b)) d) (fun y => y = (M, bdig x d)) := by
    obtain ⟨wa, w1, w2⟩ := h.wn
    obtain ⟨ma, p1, p2, p3, p4, p5, p6⟩ := h.me
    obtain ⟨pa, aa, n, r1, r2, r3, r4, r5, r6, r7, r8, r9, r10, r11⟩ := w2.rows
    simp only [zf_X0_digestOnto, zev_b1, zev_bd, zev_some, zev_gi, zev_gj, zev_gr, zev_pi, zev_pz, zev_pj, zev_pr, zev_rc, zev_cc, zev_b0, zev_bo, true_and, and_true, h.O, h.kd, h.sz, h.ct, h.pl, zev_eq (zBa_cin h)]
    refine zev_up (τ := Zm × Int64 × Int32) (fun i (z : Zm × Int64 × Int32) => z = (M, (x.2.1.2.2.2.take i).foldl (fun a q => (a * 31 + q.1.toInt64) * 31 + q.2) (((((d * 31 + x.1.1.toInt64) * 31 + x.1.2.toInt64) * 31 + x.2.1.1.toInt64) * 31 + x.2.1.2.1.toInt64) * 31 + (bcin x).toInt64), nI i)) x.2.1.2.2.2.length (i := 0) (Nat.zero_le _) rfl ?_ ?_
    · rintro i z hi rfl
      obtain ⟨q, hq⟩ := getElem?_lt hi
      have i31 : i < 2 ^ 31 := by omega
      have c1 : ¬ nI x.2.1.2.2.2.length ≤ nI i := nI_ge (by omega) (by omega)
      simp only [zf_X0_digestOnto_L63, zev_b1, zev_bd, zev_some, zev_gi, zev_gj, zev_gr, zev_pi, zev_pz, zev_pj, zev_pr, zev_rc, zev_cc, zev_b0, zev_bo, true_and, and_true, h.O, w1, w2.O, w2.cnt, if_neg c1, r1, r2, zev_ai2 i31, zev_aj2 i31, r3, r4, r5, r6, show i < n by omega, (r9 i q hq).1, (r9 i q hq).2]
      refine ⟨_, rfl, ?_⟩
      rw [take_snoc hq, List.foldl_append, nI_1]; rfl
    · rintro z rfl
      have c1 : nI x.2.1.2.2.2.length ≤ nI x.2.1.2.2.2.length := nI_le (Nat.le_refl _) (by omega)
      simp only [zf_X0_digestOnto_L63, zev_b1, zev_bd, zev_some, zev_gi, zev_gj, zev_gr, zev_pi, zev_pz, zev_pj, zev_pr, zev_rc, zev_cc, zev_b0, zev_bo, true_and, and_true, h.O, w1, w2.O, w2.cnt, if_pos c1]
      refine ⟨_, rfl, ?_⟩
      rw [List.take_of_length_le (Nat.le_refl _)]
      refine zev_up (τ := Zm × Int64 × Int32) (fun i (z : Zm × Int64 × Int32) => z = (M, ((bms x).take i).foldl (fun a m => a * 31 + (nI m).toInt64) (x.2.1.2.2.2.foldl (fun a q => (a * 31 + q.1.toInt64) * 31 + q.2) (((((d * 31 + x.1.1.toInt64) * 31 + x.1.2.toInt64) * 31 + x.2.1.1.toInt64) * 31 + x.2.1.2.1.toInt64) * 31 + (bcin x).toInt64)), nI i)) (bms x).length (i := 0) (Nat.zero_le _) rfl ?_ ?_
      · rintro i z hi rfl
        obtain ⟨m, hm2⟩ := getElem?_lt hi
        have hmm := hm m (List.mem_of_getElem? hm2)
        have i31 : i < 2 ^ 31 := by omega
        have c1 : ¬ nI x.2.1.2.2.1 ≤ nI i := nI_ge (by omega) (by omega)
        simp only [zf_X0_digestOnto_L119, zev_b1, zev_bd, zev_some, zev_gi, zev_gj, zev_gr, zev_pi, zev_pz, zev_pj, zev_pr, zev_rc, zev_cc, zev_b0, zev_bo, true_and, and_true, h.O, h.mc, if_neg c1, p1, zev_ar2 i31, p2, p3, show i < 4 by omega, p6 i m hm2, hmm.O, hmm.nr]
        refine ⟨_, rfl, ?_⟩
        rw [take_snoc hm2, List.foldl_append, nI_1]; rfl
      · rintro z rfl
        have c1 : nI x.2.1.2.2.1 ≤ nI (bms x).length := nI_le (by omega) (by omega)
        simp only [zf_X0_digestOnto_L119, zev_b1, zev_bd, zev_some, zev_gi, zev_gj, zev_gr, zev_pi, zev_pz, zev_pj, zev_pr, zev_rc, zev_cc, zev_b0, zev_bo, true_and, and_true, h.O, h.mc, if_pos c1]
        refine ⟨_, rfl, ?_⟩
        rw [List.take_of_length_le (Nat.le_refl _)]; rfl
  obtain ⟨y, hy, rfl⟩ := hz
  exact hy
/-- cents, place, the number of members: one of its numbers is another -/
theorem zBa.puti {M : Zm} {g : Zg} {A : Nat → Nat} {b : Nat} {x y : Bv} {i : Nat} {v : Int32} (h : zBa M g A b x) (h1 : y.1 = x.1) (hw : y.2.1.2.2.2 = x.2.1.2.2.2) (hk : y.2.2 = x.2.2) (hc : y.2.1.1 = if i = 3 then v else x.2.1.1) (hp : y.2.1.2.1 = if i = 4 then v else x.2.1.2.1) (hm : nI y.2.1.2.2.1 = if i = 7 then v else nI x.2.1.2.2.1) (hm2 : y.2.1.2.2.1 ≤ x.2.2.2.length) (hi : i = 3 ∨ i = 4 ∨ i = 7 ∨ i = 12 ∨ i = 13) : zBa (zm_pi M (A b) i v) g A b y := by
  obtain ⟨q1, q2, q3, q4, q5, q6, q7, q8, q9, q10, q11, wa, ma, ka, r0, r1, r2, r3, r4, r5, r6, r7, r8, r9, r10, r11, r12⟩ := h
  have fo : zFo M g (zm_pi M (A b) i v) g (fun z => z = 100 + 3 * b) := zFo.pi q2
  have W := r4.fr fo (fun (e : 101 + 3 * b = 100 + 3 * b) => by omega)
  have K := r5.fr fo (fun (e : 102 + 3 * b = 100 + 3 * b) => by omega)
  refine ⟨q1, q2, ?_, ?_, ?_, ?_, ?_, ?_, ?_, ?_, ?_, wa, ma, ka, r0, r1, r2, r3, by rw [hw]; exact W, by rw [hk]; exact K, r6, r7, r8, by rw [hk]; exact r9, by rw [hk]; exact hm2, by rw [hk]; exact r11, by rw [hk]; exact r12⟩
  · rw [ypi_i, if_neg (by omega)]; exact q3
  · rw [ypi_i, if_neg (by omega), h1]; exact q4
  · rw [ypi_i, if_neg (by omega), h1]; exact q5
  · rw [ypi_i, hc]
    by_cases e : i = 3
    · rw [if_pos e, if_pos ⟨rfl, e.symm⟩]
    · rw [if_neg e, if_neg (by omega)]; exact q6
  · rw [ypi_i, hp]
    by_cases e : i = 4
    · rw [if_pos e, if_pos ⟨rfl, e.symm⟩]
    · rw [if_neg e, if_neg (by omega)]; exact q7
  · rw [ypi_i, hm]
    by_cases e : i = 7
    · rw [if_pos e, if_pos ⟨rfl, e.symm⟩]
    · rw [if_neg e, if_neg (by omega)]; exact q8
  · rw [ypi_i, if_neg (by omega), hk]; exact q9
  · rw [ypi_i, if_neg (by omega), hk]; exact q10
  · rw [ypi_i, if_neg (by omega), hk]; exact q11
def bcts (x : Bv) (c : Int32) : Bv := (x.1, (c, x.2.1.2), x.2.2)
def bplc (x : Bv) (p : Int32) : Bv := (x.1, (x.2.1.1, p, x.2.1.2.2), x.2.2)
def bmcn (x : Bv) (m : Nat) : Bv := (x.1, (x.2.1.1, x.2.1.2.1, m, x.2.1.2.2.2), x.2.2)
theorem zBa.cents {M : Zm} {g : Zg} {A : Nat → Nat} {b : Nat} {x : Bv} {c : Int32} (h : zBa M g A b x) (hl : x.2.1.2.2.1 ≤ x.2.2.2.length) : zBa (zm_pi M (A b) 3 c) g A b (bcts x c) := h.puti rfl rfl rfl rfl rfl rfl hl (by omega)
theorem zBa.place {M : Zm} {g : Zg} {A : Nat → Nat} {b : Nat} {x : Bv} {c : Int32} (h : zBa M g A b x) (hl : x.2.1.2.2.1 ≤ x.2.2.2.length) : zBa (zm_pi M (A b) 4 c) g A b (bplc x c) := h.puti rfl rfl rfl rfl rfl rfl hl (by omega)
theorem zBa.count {M : Zm} {g : Zg} {A : Nat → Nat} {b m : Nat} {x : Bv} (h : zBa M g A b x) (hl : m ≤ x.2.2.2.length) : zBa (zm_pi M (A b) 7 (nI m)) g A b (bmcn x m) := h.puti rfl rfl rfl rfl rfl rfl hl (by omega)
theorem zBa.seen {M : Zm} {g : Zg} {A : Nat → Nat} {b i : Nat} {x : Bv} {v : Int32} (h : zBa M g A b x) (hl : x.2.1.2.2.1 ≤ x.2.2.2.length) (hi : i = 12 ∨ i = 13) : zBa (zm_pi M (A b) i v) g A b x := h.puti rfl rfl rfl (by rw [if_neg (by omega)]) (by rw [if_neg (by omega)]) (by rw [if_neg (by omega)]) hl (by omega)
theorem zBa.mle {M : Zm} {g : Zg} {A : Nat → Nat} {b : Nat} {x : Bv} (h : zBa M g A b x) : x.2.1.2.2.1 ≤ x.2.2.2.length ∧ x.2.2.2.length ≤ 4 ∧ x.2.2.1.2.2.1 ≤ x.2.2.2.length := by
  obtain ⟨q1, q2, q3, q4, q5, q6, q7, q8, q9, q10, q11, wa, ma, ka, r0, r1, r2, r3, r4, r5, r6, r7, r8, r9, r10, r11, r12⟩ := h
  exact ⟨r10, r9, r11⟩
/-- a cask takes a vessel in -/
def bjoin (x : Bv) (v : Nat) : Bv := (x.1, (x.2.1.1, x.2.1.2.1, x.2.1.2.2.1 + 1, x.2.1.2.2.2), x.2.2.1, x.2.2.2.take x.2.1.2.2.1 ++ [v])
theorem zBa_takeIn {M : Zm} {g : Zg} {A : Nat → Nat} {c b k : Nat} {x y : Bv} (hx : zBa M g A c x) (hy : zBa M g A b y) (hcb : c ≠ b) (h4 : x.2.1.2.2.1 < 4) (hkm : x.2.2.1.2.2.1 ≤ x.2.1.2.2.1 + 1) (hb : zBu M g k) : zev (zf_X0_takeIn M (some (A c)) (some (A b))) (fun z => zBa z.1 g A c (bjoin x b) ∧ zBa z.1 g A b (bplc y (10000 + nI c)) ∧ zFo M g z.1 g (fun z => z = 100 + 3 * c ∨ z = 100 + 3 * b) ∧ zBu z.1 g k) := by
  have hyl := hy.mle.1
  have hxn := hx.nr
  have hyO := hy.O
  have hcA : ¬ A b = A c := fun e => by
    have e1 := hx.2.1
    have e2 := hy.2.1
    rw [e, e1] at e2
    omega
  obtain ⟨q1, q2, q3, q4, q5, q6, q7, q8, q9, q10, q11, wa, ma, ka, r0, r1, r2, r3, r4, r5, r6, r7, r8, r9, r10, r11, r12⟩ := hx
  have c1 : ¬ nI 4 ≤ nI x.2.1.2.2.1 := nI_ge h4 (by decide)
  have m31 : x.2.1.2.2.1 < 2 ^ 31 := by omega
  have cm : ¬ A c = ma := zkne q1.2 r6.2 (by decide)
  have bm : ¬ A b = ma := zkne hyO.2 r6.2 (by decide)
  have hvv : ∀ z ∈ some (A b), zm_ok M z ∧ ((1 : Nat) ≠ 14 ∧ zm_k M z = 1 ∨ (1 : Nat) = 14 ∧ (zm_k M z = 1 ∨ zm_k M z = 4)) := fun z hz => by cases hz; exact ⟨hyO.1, Or.inl ⟨by decide, hyO.2⟩⟩
  simp only [zf_X0_takeIn, zev_b1, zev_bd, zev_some, zev_gi, zev_gj, zev_gr, zev_pi, zev_pz, zev_pj, zev_pr, zev_rc, zev_cc, zev_b0, zev_bo, true_and, and_true, ypi_i, ypj_j, ypr_r, zpi_j, zpi_r, zpj_i, zpj_r, zpr_i, zpr_j, ypi_O, ypj_O, ypr_O, zpi_l, zpj_l, zpr_l, zpi_b, zpi_c, zpj_b, zpj_c, zpr_b, zpr_c, zpi_s, zpj_s, zpr_s, q1, q8, r2, zev_al2 r6 (by decide) (by decide), r7, if_neg c1, zev_sr m31 hvv, r6, h4, Nat.reduceEqDiff, and_false, if_false, q3, nI_1, hyO]
  have f1 : zFo M g (zm_pi (zm_pr M ma x.2.1.2.2.1 (some (A b))) (A c) 7 (nI (x.2.1.2.2.1 + 1))) g (fun z => z = 100 + 3 * c) := (zFo.pr r8).tr (zFo.pi q2)
  have hlt : (x.2.2.2.take x.2.1.2.2.1).length = x.2.1.2.2.1 := by rw [List.length_take]; omega
  have X1 : zBa (zm_pi (zm_pr M ma x.2.1.2.2.1 (some (A b))) (A c) 7 (nI (x.2.1.2.2.1 + 1))) g A c (bjoin x b) := by
    have W := r4.fr f1 (fun (e : 101 + 3 * c = 100 + 3 * c) => by omega)
    have K := r5.fr f1 (fun (e : 102 + 3 * c = 100 + 3 * c) => by omega)
    refine ⟨q1, q2, ?_, ?_, ?_, ?_, ?_, ?_, ?_, ?_, ?_, wa, ma, ka, r0, ?_, ?_, ?_, W, K, r6, r7, r8, ?_, ?_, ?_, fun i m hm => ?_⟩
    · rw [ypi_i, if_neg (by omega)]; exact q3
    · rw [ypi_i, if_neg (by omega)]; exact q4
    · rw [ypi_i, if_neg (by omega)]; exact q5
    · rw [ypi_i, if_neg (by omega)]; exact q6
    · rw [ypi_i, if_neg (by omega)]; exact q7
    · rw [ypi_i, if_pos ⟨rfl, rfl⟩]; rfl
    · rw [ypi_i, if_neg (by omega)]; exact q9
    · rw [ypi_i, if_neg (by omega)]; exact q10
    · rw [ypi_i, if_neg (by omega)]; exact q11
    · rw [zpi_r, ypr_r, if_neg (fun e => cm e.1)]; exact r1
    · rw [zpi_r, ypr_r, if_neg (fun e => cm e.1)]; exact r2
    · rw [zpi_r, ypr_r, if_neg (fun e => cm e.1)]; exact r3
    · show (x.2.2.2.take x.2.1.2.2.1 ++ [b]).length ≤ 4
      rw [List.length_append, hlt, List.length_singleton]; omega
    · show x.2.1.2.2.1 + 1 ≤ (x.2.2.2.take x.2.1.2.2.1 ++ [b]).length
      rw [List.length_append, hlt, List.length_singleton]; omega
    · show x.2.2.1.2.2.1 ≤ (x.2.2.2.take x.2.1.2.2.1 ++ [b]).length
      rw [List.length_append, hlt, List.length_singleton]; omega
    · have hm' : (x.2.2.2.take x.2.1.2.2.1 ++ [b])[i]? = some m := hm
      have hl2 := (List.getElem?_eq_some_iff.mp hm').1
      rw [List.length_append, hlt, List.length_singleton] at hl2
      rw [zpi_r, ypr_r]
      by_cases hi : i = x.2.1.2.2.1
      · rw [List.getElem?_append_right (by omega), hlt, hi, Nat.sub_self] at hm'
        simp at hm'
        rw [if_pos ⟨rfl, hi⟩, hm']
      · rw [List.getElem?_append_left (by omega), List.getElem?_take_of_lt (by omega)] at hm'
        rw [if_neg (fun e => hi e.2)]
        exact r12 i m hm'
  have Y1 := hy.fr f1 (fun (e : 100 + 3 * b = 100 + 3 * c) => by omega) (fun (e : 101 + 3 * b = 100 + 3 * c) => by omega) (fun (e : 102 + 3 * b = 100 + 3 * c) => by omega)
  have f2 : zFo (zm_pi (zm_pr M ma x.2.1.2.2.1 (some (A b))) (A c) 7 (nI (x.2.1.2.2.1 + 1))) g (zm_pi (zm_pi (zm_pr M ma x.2.1.2.2.1 (some (A b))) (A c) 7 (nI (x.2.1.2.2.1 + 1))) (A b) 4 (10000 + nI c)) g (fun z => z = 100 + 3 * b) := zFo.pi hy.2.1
  exact ⟨X1.fr f2 (fun (e : 100 + 3 * c = 100 + 3 * b) => by omega) (fun (e : 101 + 3 * c = 100 + 3 * b) => by omega) (fun (e : 102 + 3 * c = 100 + 3 * b) => by omega), Y1.place hyl, f1.tr3 f2 (fun z e => Or.inl e) (fun z e => Or.inr e), hb.same rfl rfl⟩
