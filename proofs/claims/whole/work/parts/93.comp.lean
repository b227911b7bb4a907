/-! The parts of a cellar, each with what stays of it. -/
def balo (bs : Nat → Bv) (x : Bv) (S : Nat → Int64) : Nat → Int64 := (bms x).foldl (fun s m => tadd s 0 (bs m).2.1.2.2.2) (tadd (tclr S 0) 0 x.2.1.2.2.2)
theorem zTa_alone {M : Zm} {g : Zg} {A : Nat → Nat} {t b k : Nat} {x : Bv} {bs : Nat → Bv} {S : Nat → Int64} {C : Nat → Nat} {cnt : Nat} {tot : Int64} (h : zTa M g 14 t 1 S C cnt tot) (hx : zBa M g A b x) (hm : ∀ m, m ∈ bms x → zBa M g A m (bs m)) (hcx : wcod x.2.1.2.2.2) (hcm : ∀ m, m ∈ bms x → wcod (bs m).2.1.2.2.2) (hb : zBu M g k) : zev (zf_X8_countAlone M (some t) (some (A b))) (fun y => zTa y.1 g 14 t 1 (balo bs x S) (fuN C 0 0) 1 (bhas bs x) ∧ zFo M g y.1 g (fun z => z = 14) ∧ zBu y.1 g k) := by
  simp only [zf_X8_countAlone, zev_b1, zev_bd, zev_some, zev_gi, zev_gj, zev_gr, zev_pi, zev_pz, zev_pj, zev_pr, zev_rc, zev_cc, zev_b0, zev_bo, true_and, and_true, hx.O, zev_eq (zBa_has hx hm), h.1]
  refine zev_mono (zTa_begin h (m := 1) (by decide) (bhas bs x) hb) ?_
  rintro ⟨M1, u0⟩ hh
  dsimp only at hh ⊢
  obtain ⟨T1, f1, b1⟩ := hh
  refine ⟨T1.1, zev_mono (zTa_choose T1 (s := 0) (c := 0) (by decide) (by decide) b1) ?_⟩
  rintro ⟨M2, u1⟩ hh
  dsimp only at hh ⊢
  obtain ⟨T2, f2, b2⟩ := hh
  refine ⟨T2.1, zev_mono (zTa_clear T2 (c := 0) (by decide) b2) ?_⟩
  rintro ⟨M3, u2⟩ hh
  dsimp only at hh ⊢
  obtain ⟨T3, f3, b3⟩ := hh
  have f03 := (f1.tr f2).tr f3
  have x3 := hx.fro f03 (by decide)
  obtain ⟨wa, w1, w2⟩ := x3.wn
  obtain ⟨ma, -, -, -, q4, q5, -⟩ := hx.me
  simp only [x3.O, w1, zev_b1, zev_bd, zev_some, zev_gi, zev_gj, zev_gr, zev_pi, zev_pz, zev_pj, zev_pr, zev_rc, zev_cc, zev_b0, zev_bo, true_and, and_true, T3.1]
  refine zev_mono (zTa_add T3 w2 (by omega) hcx (c := 0) (by decide) b3) ?_
  rintro ⟨M4, u3⟩ hh
  dsimp only at hh ⊢
  obtain ⟨T4, f4, b4⟩ := hh
  have f04 := f03.tr f4
  refine zev_up (τ := Zm × Int32) (fun i (z : Zm × Int32) => ∃ M5, z = (M5, nI i) ∧ zTa M5 g 14 t 1 (((bms x).take i).foldl (fun s m => tadd s 0 (bs m).2.1.2.2.2) (tadd (tclr S 0) 0 x.2.1.2.2.2)) (fuN C 0 0) 1 (bhas bs x) ∧ zFo M g M5 g (fun z => z = 14) ∧ zBu M5 g k) (bms x).length (i := 0) (Nat.zero_le _) ⟨M4, rfl, T4, f04, b4⟩ ?_ ?_
  · rintro i z hi ⟨M5, rfl, T5, f5, b5⟩
    obtain ⟨m, hm2⟩ := getElem?_lt hi
    have hmm := List.mem_of_getElem? hm2
    have x5 := hx.fro f5 (by decide)
    have xm := (hm m hmm).fro f5 (by decide)
    obtain ⟨wm, m1, m2⟩ := xm.wn
    obtain ⟨ma, p1, p2, p3, p4, p5, p6⟩ := x5.me
    have i31 : i < 2 ^ 31 := by omega
    have c1 : ¬ nI x.2.1.2.2.1 ≤ nI i := nI_ge (by omega) (by omega)
    simp only [zf_X8_countAlone_L31, zev_b1, zev_bd, zev_some, zev_gi, zev_gj, zev_gr, zev_pi, zev_pz, zev_pj, zev_pr, zev_rc, zev_cc, zev_b0, zev_bo, true_and, and_true, x5.O, x5.mc, if_neg c1, p1, zev_ar2 i31, p2, p3, show i < 4 by omega, p6 i m hm2, xm.O, m1, T5.1]
    refine zev_mono (zTa_add T5 m2 (by omega) (hcm m hmm) (c := 0) (by decide) b5) ?_
    rintro ⟨M6, u4⟩ hh
    dsimp only at hh ⊢
    obtain ⟨T6, f6, b6⟩ := hh
    refine ⟨_, rfl, M6, by rw [nI_1], ?_, f5.tr f6, b6⟩
    rw [take_snoc hm2, List.foldl_append]
    exact T6
  · rintro z ⟨M5, rfl, T5, f5, b5⟩
    have x5 := hx.fro f5 (by decide)
    have c1 : nI x.2.1.2.2.1 ≤ nI (bms x).length := nI_le (by omega) (by omega)
    simp only [zf_X8_countAlone_L31, zev_b1, zev_bd, zev_some, zev_gi, zev_gj, zev_gr, zev_pi, zev_pz, zev_pj, zev_pr, zev_rc, zev_cc, zev_b0, zev_bo, true_and, and_true, x5.O, x5.mc, if_pos c1]
    rw [List.take_of_length_le (Nat.le_refl _)] at T5
    exact ⟨_, rfl, T5, f5, b5⟩
def zBs (M : Zm) (g : Zg) (A : Nat → Nat) (nb : Nat) (bs : Nat → Bv) : Prop := ∀ b, b < nb → zBa M g A b (bs b)
theorem zBs.fr {M M' : Zm} {g g' : Zg} {T : Nat → Prop} {A : Nat → Nat} {nb : Nat} {bs : Nat → Bv} (h : zBs M g A nb bs) (f : zFo M g M' g' T) (n : ∀ b, b < nb → ¬ T (100 + 3 * b) ∧ ¬ T (101 + 3 * b) ∧ ¬ T (102 + 3 * b)) : zBs M' g' A nb bs := fun b hb => (h b hb).fr f (n b hb).1 (n b hb).2.1 (n b hb).2.2
abbrev Lb : Type := List (List Lf) × Nat
def zLs (M : Zm) (g : Zg) (AL : Nat → Nat) (lb : List Lb) : Prop := lb.length ≤ 40 ∧ ∀ i q, lb[i]? = some q → zLb M g (40 + i) (AL i) q.1 q.2
theorem zLs.fr {M M' : Zm} {g g' : Zg} {T : Nat → Prop} {AL : Nat → Nat} {lb : List Lb} (h : zLs M g AL lb) (f : zFo M g M' g' T) (n : ∀ i, i < 40 → ¬ T (40 + i)) : zLs M' g' AL lb := ⟨h.1, fun i q hq => (h.2 i q hq).fr f (n i (by have := (List.getElem?_eq_some_iff.mp hq).1; have := h.1; omega))⟩
def zJu (M : Zm) (g : Zg) (t : Nat) : Prop := ∃ S C cnt tot, zTa M g 14 t 1 S C cnt tot
theorem zJu.fr {M M' : Zm} {g g' : Zg} {T : Nat → Prop} {t : Nat} (h : zJu M g t) (f : zFo M g M' g' T) (n : ¬ T 14) : zJu M' g' t := by
  obtain ⟨S, C, cnt, tot, h⟩ := h
  exact ⟨S, C, cnt, tot, h.fr f n⟩
def zPp (M : Zm) (g : Zg) (p : Nat) (st : List Int64) : Prop := ∃ ta D Mo Tr Be wt cnt lst S C c2 tot, zPl M g p ta D Mo Tr Be wt cnt lst st ∧ zTa M g 16 ta 78 S C c2 tot ∧ (∀ i, i < 6 → D (13 * i) = 0) ∧ (∀ i off, i < 6 → off < 48 → S (48 * (13 * i) + off) = 0)
theorem zPp.fr {M M' : Zm} {g g' : Zg} {T : Nat → Prop} {p : Nat} {st : List Int64} (h : zPp M g p st) (f : zFo M g M' g' T) (n : ¬ T 15) (n2 : ¬ T 16) : zPp M' g' p st := by
  obtain ⟨ta, D, Mo, Tr, Be, wt, cnt, lst, S, C, c2, tot, h1, h2, h3, h4⟩ := h
  exact ⟨ta, D, Mo, Tr, Be, wt, cnt, lst, S, C, c2, tot, h1.fr f n, h2.fr f n2, h3, h4⟩
def zAc (M : Zm) (g : Zg) (a : Nat) (ac : Nat → Wn) : Prop := zO M a 18 ∧ zm_l M a = 5 ∧ g.1 a = 17 ∧ ∀ h, h < 5 → ∃ w, zm_r M a h = some w ∧ zWo M g (20 + h) w (ac h)
theorem zAc.fr {M M' : Zm} {g g' : Zg} {T : Nat → Prop} {a : Nat} {ac : Nat → Wn} (h : zAc M g a ac) (f : zFo M g M' g' T) (n : ¬ T 17) (n2 : ∀ h, h < 5 → ¬ T (20 + h)) : zAc M' g' a ac := by
  obtain ⟨h1, h2, h3, h4⟩ := h
  have e := f.at h1.1 h3 n
  refine ⟨f.O h1, (f.A (show zA M a 18 5 from ⟨h1, h2⟩)).2, f.own h1.1 h3, fun h hh => ?_⟩
  obtain ⟨w, w1, w2⟩ := h4 h hh
  exact ⟨w, by rw [e.2.2]; exact w1, w2.fr f (n2 h hh)⟩
def zBl (M : Zm) (g : Zg) (w : Nat) : Prop := ∃ l, zWo M g 25 w l
theorem zBl.fr {M M' : Zm} {g g' : Zg} {T : Nat → Prop} {w : Nat} (h : zBl M g w) (f : zFo M g M' g' T) (n : ¬ T 25) : zBl M' g' w := by
  obtain ⟨l, h⟩ := h
  exact ⟨l, h.fr f n⟩
/-- the object itself: months, numbers given, tries, the tap, why, which -/
def zCo (M : Zm) (g : Zg) (x : Nat) (adr : Nat → Nat) (mo : Int32) (gi : Int64) (tr tp wy wh : Int32) : Prop := zO M x 12 ∧ g.1 x = 2 ∧ (∀ i, i < 14 → zm_r M x i = some (adr i)) ∧ zm_i M x 14 = mo ∧ zm_j M x 15 = gi ∧ zm_i M x 16 = tr ∧ zm_i M x 17 = tp ∧ zm_i M x 18 = wy ∧ zm_i M x 19 = wh
theorem zCo.fr {M M' : Zm} {g g' : Zg} {T : Nat → Prop} {x : Nat} {adr : Nat → Nat} {mo : Int32} {gi : Int64} {tr tp wy wh : Int32} (h : zCo M g x adr mo gi tr tp wy wh) (f : zFo M g M' g' T) (n : ¬ T 2) : zCo M' g' x adr mo gi tr tp wy wh := by
  obtain ⟨h1, h2, h3, h4, h5, h6, h7, h8, h9⟩ := h
  have e := f.at h1.1 h2 n
  exact ⟨f.O h1, f.own h1.1 h2, fun i hi => by rw [e.2.2]; exact h3 i hi, by rw [e.1]; exact h4, by rw [e.2.1]; exact h5, by rw [e.1]; exact h6, by rw [e.1]; exact h7, by rw [e.1]; exact h8, by rw [e.1]; exact h9⟩
