/-! Barrels: what they are, and what they tell. -/
abbrev Lv : Type := Int32 × Int32 × Nat × Wn
/-- kind and size; cents, place, how many members, wine; the same as kept; the members' numbers -/
abbrev Bv : Type := (Int32 × Int32) × Lv × Lv × List Nat
def bms (x : Bv) : List Nat := x.2.2.2.take x.2.1.2.2.1
def zBa (M : Zm) (g : Zg) (A : Nat → Nat) (b : Nat) (x : Bv) : Prop :=
  zO M (A b) 1 ∧ g.1 (A b) = 100 + 3 * b ∧ zm_i M (A b) 0 = nI b ∧ zm_i M (A b) 1 = x.1.1 ∧ zm_i M (A b) 2 = x.1.2 ∧ zm_i M (A b) 3 = x.2.1.1 ∧ zm_i M (A b) 4 = x.2.1.2.1 ∧ zm_i M (A b) 7 = nI x.2.1.2.2.1 ∧ zm_i M (A b) 8 = x.2.2.1.1 ∧ zm_i M (A b) 9 = x.2.2.1.2.1 ∧ zm_i M (A b) 10 = nI x.2.2.1.2.2.1 ∧
  ∃ wa ma ka, wa = A (1000 + b) ∧ zm_r M (A b) 5 = some wa ∧ zm_r M (A b) 6 = some ma ∧ zm_r M (A b) 11 = some ka ∧ zWo M g (101 + 3 * b) wa x.2.1.2.2.2 ∧ zWo M g (102 + 3 * b) ka x.2.2.1.2.2.2 ∧ zO M ma 16 ∧ zm_l M ma = 4 ∧ g.1 ma = 100 + 3 * b ∧ x.2.2.2.length ≤ 4 ∧ x.2.1.2.2.1 ≤ x.2.2.2.length ∧ x.2.2.1.2.2.1 ≤ x.2.2.2.length ∧ (∀ i m, x.2.2.2[i]? = some m → zm_r M ma i = some (A m))
theorem zBa.fr {M M' : Zm} {g g' : Zg} {T : Nat → Prop} {A : Nat → Nat} {b : Nat} {x : Bv} (h : zBa M g A b x) (f : zFo M g M' g' T) (n1 : ¬ T (100 + 3 * b)) (n2 : ¬ T (101 + 3 * b)) (n3 : ¬ T (102 + 3 * b)) : zBa M' g' A b x := by
  obtain ⟨h1, h2, h3, h4, h5, h6, h7, h8, h9, h10, h11, wa, ma, ka, r0, r1, r2, r3, r4, r5, r6, r7, r8, r9, r10, r11, r12⟩ := h
  have e1 := f.at h1.1 h2 n1
  have e2 := f.at r6.1 r8 n1
  refine ⟨f.O h1, f.own h1.1 h2, ?_, ?_, ?_, ?_, ?_, ?_, ?_, ?_, ?_, wa, ma, ka, r0, ?_, ?_, ?_, r4.fr f n2, r5.fr f n3, f.O r6, (f.A (show zA M ma 16 4 from ⟨r6, r7⟩)).2, f.own r6.1 r8, r9, r10, r11, fun i m hm => ?_⟩ <;> first | (rw [e1.1]; assumption) | (rw [e1.2.2]; assumption) | (rw [e2.2.2]; exact r12 i m hm)
theorem zBa.fro {M M' : Zm} {g g' : Zg} {o : Nat} {A : Nat → Nat} {b : Nat} {x : Bv} (h : zBa M g A b x) (f : zFo M g M' g' (fun z => z = o)) (ho : o < 100) : zBa M' g' A b x := h.fr f (fun (e : 100 + 3 * b = o) => by omega) (fun (e : 101 + 3 * b = o) => by omega) (fun (e : 102 + 3 * b = o) => by omega)
theorem zBa.O {M : Zm} {g : Zg} {A : Nat → Nat} {b : Nat} {x : Bv} (h : zBa M g A b x) : zO M (A b) 1 := h.1
theorem zBa.kd {M : Zm} {g : Zg} {A : Nat → Nat} {b : Nat} {x : Bv} (h : zBa M g A b x) : zm_i M (A b) 1 = x.1.1 := h.2.2.2.1
theorem zBa.nr {M : Zm} {g : Zg} {A : Nat → Nat} {b : Nat} {x : Bv} (h : zBa M g A b x) : zm_i M (A b) 0 = nI b := h.2.2.1
theorem zBa.sz {M : Zm} {g : Zg} {A : Nat → Nat} {b : Nat} {x : Bv} (h : zBa M g A b x) : zm_i M (A b) 2 = x.1.2 := h.2.2.2.2.1
theorem zBa.ct {M : Zm} {g : Zg} {A : Nat → Nat} {b : Nat} {x : Bv} (h : zBa M g A b x) : zm_i M (A b) 3 = x.2.1.1 := h.2.2.2.2.2.1
theorem zBa.pl {M : Zm} {g : Zg} {A : Nat → Nat} {b : Nat} {x : Bv} (h : zBa M g A b x) : zm_i M (A b) 4 = x.2.1.2.1 := h.2.2.2.2.2.2.1
theorem zBa.mc {M : Zm} {g : Zg} {A : Nat → Nat} {b : Nat} {x : Bv} (h : zBa M g A b x) : zm_i M (A b) 7 = nI x.2.1.2.2.1 := h.2.2.2.2.2.2.2.1
/-- its wine -/
theorem zBa.wn {M : Zm} {g : Zg} {A : Nat → Nat} {b : Nat} {x : Bv} (h : zBa M g A b x) : ∃ wa, zm_r M (A b) 5 = some wa ∧ zWo M g (101 + 3 * b) wa x.2.1.2.2.2 := by
  obtain ⟨h1, h2, h3, h4, h5, h6, h7, h8, h9, h10, h11, wa, ma, ka, r0, r1, r2, r3, r4, r5, r6, r7, r8, r9, r10, r11, r12⟩ := h
  exact ⟨wa, r1, r4⟩
theorem zBa.wa {M : Zm} {g : Zg} {A : Nat → Nat} {b : Nat} {x : Bv} (h : zBa M g A b x) : zm_r M (A b) 5 = some (A (1000 + b)) ∧ zWo M g (101 + 3 * b) (A (1000 + b)) x.2.1.2.2.2 := by
  obtain ⟨h1, h2, h3, h4, h5, h6, h7, h8, h9, h10, h11, wa, ma, ka, r0, r1, r2, r3, r4, r5, r6, r7, r8, r9, r10, r11, r12⟩ := h
  subst r0
  exact ⟨r1, r4⟩
/-- its members -/
theorem zBa.me {M : Zm} {g : Zg} {A : Nat → Nat} {b : Nat} {x : Bv} (h : zBa M g A b x) : ∃ ma, zm_r M (A b) 6 = some ma ∧ zO M ma 16 ∧ zm_l M ma = 4 ∧ (bms x).length = x.2.1.2.2.1 ∧ x.2.1.2.2.1 ≤ 4 ∧ (∀ i m, (bms x)[i]? = some m → zm_r M ma i = some (A m)) := by
  obtain ⟨h1, h2, h3, h4, h5, h6, h7, h8, h9, h10, h11, wa, ma, ka, r0, r1, r2, r3, r4, r5, r6, r7, r8, r9, r10, r11, r12⟩ := h
  refine ⟨ma, r2, r6, r7, ?_, by omega, fun i m hm => r12 i m ?_⟩
  · unfold bms; rw [List.length_take]; omega
  · unfold bms at hm
    have hi := (List.getElem?_eq_some_iff.mp hm).1
    rw [List.length_take] at hi
    rw [List.getElem?_take_of_lt (by omega)] at hm
    exact hm
/-! MOST -/
def vt (x : Int32 × Int32) : Int64 := if x.1 = 3 then (x.2 - x.2 / 50).toInt64 else if x.1 = 4 then zmaxl ((x.2 - x.2 / 50).toInt64 - 10) 0 else x.2.toInt64
def vtT (x : Int32 × Int32) : List Int32 := if x.1 = 3 then [2] else if x.1 = 4 then [3, 2] else [1]
theorem zBa_steel {M : Zm} {g : Zg} {A : Nat → Nat} {b o t cap k : Nat} {x : Bv} {l : List Int32} (h : zBa M g A b x) (ht : zTr M g o t cap l) (ho : o < 100) (hb : zBu M g k) : zev (zf_X0_steelTakes M (some (A b)) (some t)) (fun y => y.2 = (x.1.2 - x.1.2 / 50).toInt64 ∧ zTr y.1 g o t cap (tapp cap l [2]) ∧ zFo M g y.1 g (fun z => z = o) ∧ zBu y.1 g k) := by
  simp only [zf_X0_steelTakes, zev_b1, zev_bd, zev_some, zev_gi, zev_gj, zev_gr, zev_pi, zev_pz, zev_pj, zev_pr, zev_rc, zev_cc, zev_b0, zev_bo, true_and, and_true, zev_id50, zev_id1k, zev_id2k, zev_ld10, zev_ldw, ht.1]
  refine zev_mono (zTr_ran ht 2 hb) ?_
  rintro ⟨M1, u0⟩ hh
  dsimp only at hh ⊢
  obtain ⟨t1, f1, b1⟩ := hh
  have h1 := h.fro f1 ho
  simp only [h1.O, h1.sz, true_and]
  exact ⟨t1, f1, b1⟩
theorem zBa_vtak {M : Zm} {g : Zg} {A : Nat → Nat} {b o t cap k : Nat} {x : Bv} {l : List Int32} (h : zBa M g A b x) (ht : zTr M g o t cap l) (ho : o < 100) (hb : zBu M g k) : zev (zf_X0_vesselTakes M (some (A b)) (some t)) (fun y => y.2 = vt x.1 ∧ zTr y.1 g o t cap (tapp cap l (vtT x.1)) ∧ zFo M g y.1 g (fun z => z = o) ∧ zBu y.1 g k) := by
  simp only [zf_X0_vesselTakes, zev_b1, zev_bd, zev_some, zev_gi, zev_gj, zev_gr, zev_pi, zev_pz, zev_pj, zev_pr, zev_rc, zev_cc, zev_b0, zev_bo, true_and, and_true, h.O, h.kd, vt, vtT]
  by_cases c3 : x.1.1 = 3
  · simp only [if_pos c3, zev_b1, zev_bd, zev_some, zev_gi, zev_gj, zev_gr, zev_pi, zev_pz, zev_pj, zev_pr, zev_rc, zev_cc, zev_b0, zev_bo, true_and, and_true, h.O]
    exact zBa_steel h ht ho hb
  · by_cases c4 : x.1.1 = 4
    · simp only [if_neg c3, if_pos c4, zev_b1, zev_bd, zev_some, zev_gi, zev_gj, zev_gr, zev_pi, zev_pz, zev_pj, zev_pr, zev_rc, zev_cc, zev_b0, zev_bo, true_and, and_true, ht.1]
      refine zev_mono (zTr_ran ht 3 hb) ?_
      rintro ⟨M1, u0⟩ hh
      dsimp only at hh ⊢
      obtain ⟨t1, f1, b1⟩ := hh
      have h1 := h.fro f1 ho
      refine ⟨h1.O, zev_mono (zBa_steel h1 t1 ho b1) ?_⟩
      rintro ⟨M2, v⟩ hh
      dsimp only at hh ⊢
      obtain ⟨e, t2, f2, b2⟩ := hh
      rw [tapp_tapp] at t2
      subst e
      exact ⟨rfl, t2, f1.tr f2, b2⟩
    · simp only [if_neg c3, if_neg c4, zev_b1, zev_bd, zev_some, zev_gi, zev_gj, zev_gr, zev_pi, zev_pz, zev_pj, zev_pr, zev_rc, zev_cc, zev_b0, zev_bo, true_and, and_true, ht.1]
      refine zev_mono (zTr_ran ht 1 hb) ?_
      rintro ⟨M1, u0⟩ hh
      dsimp only at hh ⊢
      obtain ⟨t1, f1, b1⟩ := hh
      have h1 := h.fro f1 ho
      refine ⟨h1.O, ?_, t1, f1, b1⟩
      rw [h1.sz]
def btak (bs : Nat → Bv) (x : Bv) : Int64 := if x.1.1 = 5 then (bms x).foldl (fun a m => a + vt (bs m).1) 0 else vt x.1
def btakT (bs : Nat → Bv) (x : Bv) : List Int32 := if x.1.1 = 5 then 4 :: (bms x).flatMap (fun m => vtT (bs m).1) else vtT x.1
theorem zBa_takes {M : Zm} {g : Zg} {A : Nat → Nat} {b o t cap k : Nat} {x : Bv} {bs : Nat → Bv} {l : List Int32} (h : zBa M g A b x) (hm : ∀ m, m ∈ bms x → zBa M g A m (bs m)) (ht : zTr M g o t cap l) (ho : o < 100) (hb : zBu M g k) : zev (zf_X0_takesInAll M (some (A b)) (some t)) (fun y => y.2 = btak bs x ∧ zTr y.1 g o t cap (tapp cap l (btakT bs x)) ∧ zFo M g y.1 g (fun z => z = o) ∧ zBu y.1 g k) := by
  simp only [zf_X0_takesInAll, zev_b1, zev_bd, zev_some, zev_gi, zev_gj, zev_gr, zev_pi, zev_pz, zev_pj, zev_pr, zev_rc, zev_cc, zev_b0, zev_bo, true_and, and_true, h.O, h.kd, btak, btakT]
  by_cases c5 : x.1.1 = 5
  · simp only [if_pos c5, zev_b1, zev_bd, zev_some, zev_gi, zev_gj, zev_gr, zev_pi, zev_pz, zev_pj, zev_pr, zev_rc, zev_cc, zev_b0, zev_bo, true_and, and_true, ht.1]
    refine zev_mono (zTr_ran ht 4 hb) ?_
    rintro ⟨M1, u0⟩ hh
    dsimp only at hh ⊢
    obtain ⟨t1, f1, b1⟩ := hh
    have ml := h.me
    obtain ⟨ma, -, -, -, q4, q5, -⟩ := ml
    refine zev_up (τ := Zm × Int64 × Int32) (fun i (z : Zm × Int64 × Int32) => ∃ M2, z = (M2, ((bms x).take i).foldl (fun a m => a + vt (bs m).1) 0, nI i) ∧ zTr M2 g o t cap (tapp cap l (4 :: ((bms x).take i).flatMap (fun m => vtT (bs m).1))) ∧ zFo M g M2 g (fun z => z = o) ∧ zBu M2 g k) (bms x).length (i := 0) (Nat.zero_le _) ⟨M1, rfl, t1, f1, b1⟩ ?_ ?_
    · rintro i z hi ⟨M2, rfl, t2, f2, b2⟩
      obtain ⟨m, hm2⟩ := getElem?_lt hi
      have h2 := h.fro f2 ho
      have hmm := (hm m (List.mem_of_getElem? hm2)).fro f2 ho
      obtain ⟨ma, p1, p2, p3, p4, p5, p6⟩ := h2.me
      have i31 : i < 2 ^ 31 := by omega
      have c1 : ¬ nI x.2.1.2.2.1 ≤ nI i := nI_ge (by omega) (by omega)
      simp only [zf_X0_takesInAll_L24, zev_b1, zev_bd, zev_some, zev_gi, zev_gj, zev_gr, zev_pi, zev_pz, zev_pj, zev_pr, zev_rc, zev_cc, zev_b0, zev_bo, true_and, and_true, h2.O, h2.mc, if_neg c1, p1, zev_ar2 i31, p2, p3, show i < 4 by omega, p6 i m hm2, hmm.O]
      refine zev_mono (zBa_vtak hmm t2 ho b2) ?_
      rintro ⟨M3, v⟩ hh
      dsimp only at hh ⊢
      obtain ⟨e, t3, f3, b3⟩ := hh
      subst e
      refine ⟨_, rfl, M3, ?_, ?_, f2.tr f3, b3⟩
      · rw [take_snoc hm2, List.foldl_append, nI_1]; rfl
      · rw [tapp_tapp] at t3
        rw [take_snoc hm2, List.flatMap_append]
        simpa using t3
    · rintro z ⟨M2, rfl, t2, f2, b2⟩
      have h2 := h.fro f2 ho
      have c1 : nI x.2.1.2.2.1 ≤ nI (bms x).length := nI_le (by omega) (by omega)
      simp only [zf_X0_takesInAll_L24, zev_b1, zev_bd, zev_some, zev_gi, zev_gj, zev_gr, zev_pi, zev_pz, zev_pj, zev_pr, zev_rc, zev_cc, zev_b0, zev_bo, true_and, and_true, h2.O, h2.mc, if_pos c1]
      rw [List.take_of_length_le (Nat.le_refl _)] at t2
      refine ⟨_, rfl, ?_, t2, f2, b2⟩
      rw [List.take_of_length_le (Nat.le_refl _)]
  · simp only [if_neg c5, zev_b1, zev_bd, zev_some, zev_gi, zev_gj, zev_gr, zev_pi, zev_pz, zev_pj, zev_pr, zev_rc, zev_cc, zev_b0, zev_bo, true_and, and_true, h.O]
    exact zBa_vtak h ht ho hb
/-! SPARE -/
def vs (x : Int32 × Int32) (tot : Int64) : Int64 := if x.1 = 1 then zmaxl (tot - (x.2 / 1000).toInt64) 0 else if x.1 = 2 then zmaxl (zmaxl (tot - (x.2 / 1000).toInt64) 0 - (x.2 / 2000).toInt64) 0 else tot
def vsT (x : Int32 × Int32) : List Int32 := if x.1 = 1 then [5] else if x.1 = 2 then [6, 5] else [7]
theorem zBa_oak {M : Zm} {g : Zg} {A : Nat → Nat} {b o t cap k : Nat} {x : Bv} {l : List Int32} (h : zBa M g A b x) (ht : zTr M g o t cap l) (ho : o < 100) (hb : zBu M g k) : zev (zf_X0_oakSpares M (some (A b)) (some t)) (fun y => y.2 = zmaxl (wsum x.2.1.2.2.2 - (x.1.2 / 1000).toInt64) 0 ∧ zTr y.1 g o t cap (tapp cap l [5]) ∧ zFo M g y.1 g (fun z => z = o) ∧ zBu y.1 g k) := by
  simp only [zf_X0_oakSpares, zev_b1, zev_bd, zev_some, zev_gi, zev_gj, zev_gr, zev_pi, zev_pz, zev_pj, zev_pr, zev_rc, zev_cc, zev_b0, zev_bo, true_and, and_true, zev_id50, zev_id1k, zev_id2k, zev_ld10, zev_ldw, ht.1]
  refine zev_mono (zTr_ran ht 5 hb) ?_
  rintro ⟨M1, u0⟩ hh
  dsimp only at hh ⊢
  obtain ⟨t1, f1, b1⟩ := hh
  have h1 := h.fro f1 ho
  obtain ⟨wa, w1, w2⟩ := h1.wn
  simp only [h1.O, w1, zev_b1, zev_bd, zev_some, zev_gi, zev_gj, zev_gr, zev_pi, zev_pz, zev_pj, zev_pr, zev_rc, zev_cc, zev_b0, zev_bo, true_and, and_true, w2.O, w2.tot, h1.sz, true_and]
  exact ⟨t1, f1, b1⟩
theorem zBa_vspa {M : Zm} {g : Zg} {A : Nat → Nat} {b o t cap k : Nat} {x : Bv} {l : List Int32} (h : zBa M g A b x) (ht : zTr M g o t cap l) (ho : o < 100) (hb : zBu M g k) : zev (zf_X0_vesselSpares M (some (A b)) (some t)) (fun y => y.2 = vs x.1 (wsum x.2.1.2.2.2) ∧ zTr y.1 g o t cap (tapp cap l (vsT x.1)) ∧ zFo M g y.1 g (fun z => z = o) ∧ zBu y.1 g k) := by
  simp only [zf_X0_vesselSpares, zev_b1, zev_bd, zev_some, zev_gi, zev_gj, zev_gr, zev_pi, zev_pz, zev_pj, zev_pr, zev_rc, zev_cc, zev_b0, zev_bo, true_and, and_true, h.O, h.kd, vs, vsT]
  by_cases c3 : x.1.1 = 1
  · simp only [if_pos c3, zev_b1, zev_bd, zev_some, zev_gi, zev_gj, zev_gr, zev_pi, zev_pz, zev_pj, zev_pr, zev_rc, zev_cc, zev_b0, zev_bo, true_and, and_true, h.O]
    exact zBa_oak h ht ho hb
  · by_cases c4 : x.1.1 = 2
    · simp only [if_neg c3, if_pos c4, zev_b1, zev_bd, zev_some, zev_gi, zev_gj, zev_gr, zev_pi, zev_pz, zev_pj, zev_pr, zev_rc, zev_cc, zev_b0, zev_bo, true_and, and_true, zev_id50, zev_id1k, zev_id2k, zev_ld10, zev_ldw, ht.1]
      refine zev_mono (zTr_ran ht 6 hb) ?_
      rintro ⟨M1, u0⟩ hh
      dsimp only at hh ⊢
      obtain ⟨t1, f1, b1⟩ := hh
      have h1 := h.fro f1 ho
      refine ⟨h1.O, zev_mono (zBa_oak h1 t1 ho b1) ?_⟩
      rintro ⟨M2, v⟩ hh
      dsimp only at hh ⊢
      obtain ⟨e, t2, f2, b2⟩ := hh
      rw [tapp_tapp] at t2
      subst e
      have h2 := h1.fro f2 ho
      simp only [h2.O, h2.sz, true_and]
      exact ⟨t2, f1.tr f2, b2⟩
    · simp only [if_neg c3, if_neg c4, zev_b1, zev_bd, zev_some, zev_gi, zev_gj, zev_gr, zev_pi, zev_pz, zev_pj, zev_pr, zev_rc, zev_cc, zev_b0, zev_bo, true_and, and_true, ht.1]
      refine zev_mono (zTr_ran ht 7 hb) ?_
      rintro ⟨M1, u0⟩ hh
      dsimp only at hh ⊢
      obtain ⟨t1, f1, b1⟩ := hh
      have h1 := h.fro f1 ho
      obtain ⟨wa, w1, w2⟩ := h1.wn
      simp only [h1.O, w1, zev_b1, zev_bd, zev_some, zev_gi, zev_gj, zev_gr, zev_pi, zev_pz, zev_pj, zev_pr, zev_rc, zev_cc, zev_b0, zev_bo, true_and, and_true, w2.O, w2.tot, true_and]
      exact ⟨t1, f1, b1⟩
def bspa (bs : Nat → Bv) (x : Bv) : Int64 := if x.1.1 = 5 then (bms x).foldl (fun a m => a + vs (bs m).1 (wsum (bs m).2.1.2.2.2)) 0 else vs x.1 (wsum x.2.1.2.2.2)
def bspaT (bs : Nat → Bv) (x : Bv) : List Int32 := if x.1.1 = 5 then 8 :: (bms x).flatMap (fun m => vsT (bs m).1) else vsT x.1
theorem zBa_spares {M : Zm} {g : Zg} {A : Nat → Nat} {b o t cap k : Nat} {x : Bv} {bs : Nat → Bv} {l : List Int32} (h : zBa M g A b x) (hm : ∀ m, m ∈ bms x → zBa M g A m (bs m)) (ht : zTr M g o t cap l) (ho : o < 100) (hb : zBu M g k) : zev (zf_X0_maySpare M (some (A b)) (some t)) (fun y => y.2 = bspa bs x ∧ zTr y.1 g o t cap (tapp cap l (bspaT bs x)) ∧ zFo M g y.1 g (fun z => z = o) ∧ zBu y.1 g k) := by
  simp only [zf_X0_maySpare, zev_b1, zev_bd, zev_some, zev_gi, zev_gj, zev_gr, zev_pi, zev_pz, zev_pj, zev_pr, zev_rc, zev_cc, zev_b0, zev_bo, true_and, and_true, h.O, h.kd, bspa, bspaT]
  by_cases c5 : x.1.1 = 5
  · simp only [if_pos c5, zev_b1, zev_bd, zev_some, zev_gi, zev_gj, zev_gr, zev_pi, zev_pz, zev_pj, zev_pr, zev_rc, zev_cc, zev_b0, zev_bo, true_and, and_true, ht.1]
    refine zev_mono (zTr_ran ht 8 hb) ?_
    rintro ⟨M1, u0⟩ hh
    dsimp only at hh ⊢
    obtain ⟨t1, f1, b1⟩ := hh
    have ml := h.me
    obtain ⟨ma, -, -, -, q4, q5, -⟩ := ml
    refine zev_up (τ := Zm × Int64 × Int32) (fun i (z : Zm × Int64 × Int32) => ∃ M2, z = (M2, ((bms x).take i).foldl (fun a m => a + vs (bs m).1 (wsum (bs m).2.1.2.2.2)) 0, nI i) ∧ zTr M2 g o t cap (tapp cap l (8 :: ((bms x).take i).flatMap (fun m => vsT (bs m).1))) ∧ zFo M g M2 g (fun z => z = o) ∧ zBu M2 g k) (bms x).length (i := 0) (Nat.zero_le _) ⟨M1, rfl, t1, f1, b1⟩ ?_ ?_
    · rintro i z hi ⟨M2, rfl, t2, f2, b2⟩
      obtain ⟨m, hm2⟩ := getElem?_lt hi
      have h2 := h.fro f2 ho
      have hmm := (hm m (List.mem_of_getElem? hm2)).fro f2 ho
      obtain ⟨ma, p1, p2, p3, p4, p5, p6⟩ := h2.me
      have i31 : i < 2 ^ 31 := by omega
      have c1 : ¬ nI x.2.1.2.2.1 ≤ nI i := nI_ge (by omega) (by omega)
      simp only [zf_X0_maySpare_L25, zev_b1, zev_bd, zev_some, zev_gi, zev_gj, zev_gr, zev_pi, zev_pz, zev_pj, zev_pr, zev_rc, zev_cc, zev_b0, zev_bo, true_and, and_true, h2.O, h2.mc, if_neg c1, p1, zev_ar2 i31, p2, p3, show i < 4 by omega, p6 i m hm2, hmm.O]
      refine zev_mono (zBa_vspa hmm t2 ho b2) ?_
      rintro ⟨M3, v⟩ hh
      dsimp only at hh ⊢
      obtain ⟨e, t3, f3, b3⟩ := hh
      subst e
      refine ⟨_, rfl, M3, ?_, ?_, f2.tr f3, b3⟩
      · rw [take_snoc hm2, List.foldl_append, nI_1]; rfl
      · rw [tapp_tapp] at t3
        rw [take_snoc hm2, List.flatMap_append]
        simpa using t3
    · rintro z ⟨M2, rfl, t2, f2, b2⟩
      have h2 := h.fro f2 ho
      have c1 : nI x.2.1.2.2.1 ≤ nI (bms x).length := nI_le (by omega) (by omega)
      simp only [zf_X0_maySpare_L25, zev_b1, zev_bd, zev_some, zev_gi, zev_gj, zev_gr, zev_pi, zev_pz, zev_pj, zev_pr, zev_rc, zev_cc, zev_b0, zev_bo, true_and, and_true, h2.O, h2.mc, if_pos c1]
      rw [List.take_of_length_le (Nat.le_refl _)] at t2
      refine ⟨_, rfl, ?_, t2, f2, b2⟩
      rw [List.take_of_length_le (Nat.le_refl _)]
  · simp only [if_neg c5, zev_b1, zev_bd, zev_some, zev_gi, zev_gj, zev_gr, zev_pi, zev_pz, zev_pj, zev_pr, zev_rc, zev_cc, zev_b0, zev_bo, true_and, and_true, h.O]
    exact zBa_vspa h ht ho hb
/-! RATE, DEAR -/
def brat (k : Int32) : Int64 := if k = 1 then 20 else if k = 2 then 20 + 15 else if k = 3 then 0 else if k = 4 then 1 else 0
def bratT (k : Int32) : List Int32 := if k = 1 then [10] else if k = 2 then [11, 10] else if k = 3 then [9] else if k = 4 then [12] else [9]
theorem zBa_rate {M : Zm} {g : Zg} {A : Nat → Nat} {b o t cap k : Nat} {x : Bv} {l : List Int32} (h : zBa M g A b x) (ht : zTr M g o t cap l) (ho : o < 100) (hb : zBu M g k) : zev (zf_X0_breathes M (some (A b)) (some t)) (fun y => y.2 = brat x.1.1 ∧ zTr y.1 g o t cap (tapp cap l (bratT x.1.1)) ∧ zFo M g y.1 g (fun z => z = o) ∧ zBu y.1 g k) := by
  simp only [zf_X0_breathes, zf_X0_oakBreathes, zev_b1, zev_bd, zev_some, zev_gi, zev_gj, zev_gr, zev_pi, zev_pz, zev_pj, zev_pr, zev_rc, zev_cc, zev_b0, zev_bo, true_and, and_true, h.O, h.kd, brat, bratT]
  by_cases c1 : x.1.1 = 1
  · simp only [if_pos c1, zev_b1, zev_bd, zev_some, zev_gi, zev_gj, zev_gr, zev_pi, zev_pz, zev_pj, zev_pr, zev_rc, zev_cc, zev_b0, zev_bo, true_and, and_true, ht.1]
    refine zev_mono (zTr_ran ht 10 hb) ?_
    rintro ⟨M1, u0⟩ hh
    dsimp only at hh ⊢
    obtain ⟨t1, f1, b1⟩ := hh
    exact ⟨t1, f1, b1⟩
  · by_cases c2 : x.1.1 = 2
    · simp only [if_neg c1, if_pos c2, zev_b1, zev_bd, zev_some, zev_gi, zev_gj, zev_gr, zev_pi, zev_pz, zev_pj, zev_pr, zev_rc, zev_cc, zev_b0, zev_bo, true_and, and_true, ht.1]
      refine zev_mono (zTr_ran ht 11 hb) ?_
      rintro ⟨M1, u0⟩ hh
      dsimp only at hh ⊢
      obtain ⟨t1, f1, b1⟩ := hh
      refine ⟨t1.1, zev_mono (zTr_ran t1 10 b1) ?_⟩
      rintro ⟨M2, u0⟩ hh
      dsimp only at hh ⊢
      obtain ⟨t2, f2, b2⟩ := hh
      rw [tapp_tapp] at t2
      exact ⟨t2, f1.tr f2, b2⟩
    · by_cases c3 : x.1.1 = 3
      · simp only [if_neg c1, if_neg c2, if_pos c3, zev_b1, zev_bd, zev_some, zev_gi, zev_gj, zev_gr, zev_pi, zev_pz, zev_pj, zev_pr, zev_rc, zev_cc, zev_b0, zev_bo, true_and, and_true, ht.1]
        refine zev_mono (zTr_ran ht 9 hb) ?_
        rintro ⟨M1, u0⟩ hh
        dsimp only at hh ⊢
        obtain ⟨t1, f1, b1⟩ := hh
        exact ⟨t1, f1, b1⟩
      · by_cases c4 : x.1.1 = 4
        · simp only [if_neg c1, if_neg c2, if_neg c3, if_pos c4, zev_b1, zev_bd, zev_some, zev_gi, zev_gj, zev_gr, zev_pi, zev_pz, zev_pj, zev_pr, zev_rc, zev_cc, zev_b0, zev_bo, true_and, and_true, ht.1]
          refine zev_mono (zTr_ran ht 12 hb) ?_
          rintro ⟨M1, u0⟩ hh
          dsimp only at hh ⊢
          obtain ⟨t1, f1, b1⟩ := hh
          exact ⟨t1, f1, b1⟩
        · simp only [if_neg c1, if_neg c2, if_neg c3, if_neg c4, zev_b1, zev_bd, zev_some, zev_gi, zev_gj, zev_gr, zev_pi, zev_pz, zev_pj, zev_pr, zev_rc, zev_cc, zev_b0, zev_bo, true_and, and_true, ht.1]
          refine zev_mono (zTr_ran ht 9 hb) ?_
          rintro ⟨M1, u0⟩ hh
          dsimp only at hh ⊢
          obtain ⟨t1, f1, b1⟩ := hh
          exact ⟨t1, f1, b1⟩
def bdea (k c : Int32) (ml : Int64) : Int64 := if k = 2 then c.toInt64 * ml + c.toInt64 * ml / 10 else if k = 5 then 2 * (c.toInt64 * ml) else c.toInt64 * ml
def bdeaT (k : Int32) : List Int32 := if k = 2 then [14] else if k = 5 then [15] else [13]
theorem zBa_dear {M : Zm} {g : Zg} {A : Nat → Nat} {b o t cap k : Nat} {x : Bv} {l : List Int32} (h : zBa M g A b x) (ml : Int64) (ht : zTr M g o t cap l) (hb : zBu M g k) : zev (zf_X0_isDear M (some (A b)) ml (some t)) (fun y => y.2 = bdea x.1.1 x.2.1.1 ml ∧ zTr y.1 g o t cap (tapp cap l (bdeaT x.1.1)) ∧ zFo M g y.1 g (fun z => z = o) ∧ zBu y.1 g k) := by
  simp only [zf_X0_isDear, zev_b1, zev_bd, zev_some, zev_gi, zev_gj, zev_gr, zev_pi, zev_pz, zev_pj, zev_pr, zev_rc, zev_cc, zev_b0, zev_bo, true_and, and_true, zev_id50, zev_id1k, zev_id2k, zev_ld10, zev_ldw, h.O, h.kd, h.ct, bdea, bdeaT]
  by_cases c1 : x.1.1 = 2
  · simp only [if_pos c1, zev_b1, zev_bd, zev_some, zev_gi, zev_gj, zev_gr, zev_pi, zev_pz, zev_pj, zev_pr, zev_rc, zev_cc, zev_b0, zev_bo, true_and, and_true, zev_id50, zev_id1k, zev_id2k, zev_ld10, zev_ldw, ht.1]
    refine zev_mono (zTr_ran ht 14 hb) ?_
    rintro ⟨M1, u0⟩ hh
    dsimp only at hh ⊢
    obtain ⟨t1, f1, b1⟩ := hh
    exact ⟨t1, f1, b1⟩
  · by_cases c2 : x.1.1 = 5
    · simp only [if_neg c1, if_pos c2, zev_b1, zev_bd, zev_some, zev_gi, zev_gj, zev_gr, zev_pi, zev_pz, zev_pj, zev_pr, zev_rc, zev_cc, zev_b0, zev_bo, true_and, and_true, ht.1]
      refine zev_mono (zTr_ran ht 15 hb) ?_
      rintro ⟨M1, u0⟩ hh
      dsimp only at hh ⊢
      obtain ⟨t1, f1, b1⟩ := hh
      exact ⟨t1, f1, b1⟩
    · simp only [if_neg c1, if_neg c2, zev_b1, zev_bd, zev_some, zev_gi, zev_gj, zev_gr, zev_pi, zev_pz, zev_pj, zev_pr, zev_rc, zev_cc, zev_b0, zev_bo, true_and, and_true, ht.1]
      refine zev_mono (zTr_ran ht 13 hb) ?_
      rintro ⟨M1, u0⟩ hh
      dsimp only at hh ⊢
      obtain ⟨t1, f1, b1⟩ := hh
      exact ⟨t1, f1, b1⟩
