/-! Lines: the journal, the bottlings. -/
abbrev Ln : Type := Int64 × Int64 × Int64 × Int64
theorem nI_a2 (a : Nat) : nI a + 2 = nI (a + 2) := nI_add a 2
theorem nI_a3 (a : Nat) : nI a + 3 = nI (a + 3) := nI_add a 3
theorem nI_a4 (a : Nat) : nI a + 4 = nI (a + 4) := nI_add a 4
theorem nI_m4 (a : Nat) : nI a * 4 = nI (4 * a) := (pk_mul a 4).trans (congrArg nI (Nat.mul_comm a 4))
theorem nI_2m (a : Nat) : 2 * nI a = nI (2 * a) := pk_mul 2 a
def zLi (M : Zm) (g : Zg) (o a : Nat) (ls : List Ln) : Prop := zO M a 5 ∧ g.1 a = o ∧ zm_i M a 1 = nI ls.length ∧ g.2 o ≤ 16384 ∧ g.2 o ≤ zcm o ∧ (∃ k, g.2 o = 16 * 2 ^ k) ∧ ∃ na, zm_r M a 0 = some na ∧ zO M na 15 ∧ zm_l M na = g.2 o ∧ g.1 na = o ∧ 4 * ls.length ≤ g.2 o ∧ (∀ i q, ls[i]? = some q → zm_j M na (4 * i) = q.1 ∧ zm_j M na (4 * i + 1) = q.2.1 ∧ zm_j M na (4 * i + 2) = q.2.2.1 ∧ zm_j M na (4 * i + 3) = q.2.2.2)
theorem zLi.fr {M M' : Zm} {g g' : Zg} {T : Nat → Prop} {o a : Nat} {ls : List Ln} (h : zLi M g o a ls) (f : zFo M g M' g' T) (hn : ¬ T o) : zLi M' g' o a ls := by
  obtain ⟨h1, h2, h3, h4, h5, h6, na, r1, r2, r3, r4, r5, r6⟩ := h
  have e1 := f.at h1.1 h2 hn
  have e2 := f.at r2.1 r4 hn
  have ec := f.2.2 o hn
  refine ⟨f.O h1, f.own h1.1 h2, by rw [e1.1]; exact h3, by rw [ec]; exact h4, by rw [ec]; exact h5, by rw [ec]; exact h6, na, by rw [e1.2.2]; exact r1, f.O r2, by rw [ec]; exact (f.A (show zA M na 15 (g.2 o) from ⟨r2, r3⟩)).2, f.own r2.1 r4, by rw [ec]; exact r5, fun i q hq => ?_⟩
  rw [e2.2.1]
  exact r6 i q hq
theorem zLi.O {M : Zm} {g : Zg} {o a : Nat} {ls : List Ln} (h : zLi M g o a ls) : zO M a 5 := h.1
theorem zLi.cnt {M : Zm} {g : Zg} {o a : Nat} {ls : List Ln} (h : zLi M g o a ls) : zm_i M a 1 = nI ls.length := h.2.2.1
theorem zLi.len {M : Zm} {g : Zg} {o a : Nat} {ls : List Ln} (h : zLi M g o a ls) : ls.length ≤ 4096 := by
  obtain ⟨h1, h2, h3, h4, h5, h6, na, r1, r2, r3, r4, r5, r6⟩ := h
  omega
theorem zLi_put {M : Zm} {g : Zg} {o a na k : Nat} {ls : List Ln} (v1 v2 v3 v4 : Int64) (h1 : zO M a 5) (h2 : g.1 a = o) (h3 : zm_i M a 1 = nI ls.length) (h4 : g.2 o ≤ 16384) (h5 : g.2 o ≤ zcm o) (h6 : ∃ k, g.2 o = 16 * 2 ^ k) (r1 : zm_r M a 0 = some na) (r2 : zO M na 15) (r3 : zm_l M na = g.2 o) (r4 : g.1 na = o) (r5 : 4 * ls.length + 4 ≤ g.2 o) (r6 : ∀ i q, ls[i]? = some q → zm_j M na (4 * i) = q.1 ∧ zm_j M na (4 * i + 1) = q.2.1 ∧ zm_j M na (4 * i + 2) = q.2.2.1 ∧ zm_j M na (4 * i + 3) = q.2.2.2) (hb : zBu M g k) : zev (zf_X4_add_J38 M (some a) v1 v2 v3 v4 (nI (4 * ls.length))) (fun y => zLi y.1 g o a (ls ++ [(v1, v2, v3, v4)]) ∧ zFo M g y.1 g (fun z => z = o) ∧ zBu y.1 g k) := by
  have an : ¬ a = na := zkne h1.2 r2.2 (by decide)
  simp only [zf_X4_add_J38, zev_b1, zev_bd, zev_some, zev_gi, zev_gj, zev_gr, zev_pi, zev_pz, zev_pj, zev_pr, zev_rc, zev_cc, zev_b0, zev_bo, true_and, and_true, ypi_i, ypj_j, ypr_r, zpi_j, zpi_r, zpj_i, zpj_r, zpr_i, zpr_j, ypi_O, ypj_O, ypr_O, zpi_l, zpj_l, zpr_l, zpi_b, zpi_c, zpj_b, zpj_c, zpr_b, zpr_c, zpi_s, zpj_s, zpr_s, nI_1, nI_a2, nI_a3, zev_sj2 (show 4 * ls.length < 2 ^ 31 by omega), zev_sj2 (show 4 * ls.length + 1 < 2 ^ 31 by omega), zev_sj2 (show 4 * ls.length + 2 < 2 ^ 31 by omega), zev_sj2 (show 4 * ls.length + 3 < 2 ^ 31 by omega), h1, r1, r2, r3, h3, show 4 * ls.length < g.2 o by omega, show 4 * ls.length + 1 < g.2 o by omega, show 4 * ls.length + 2 < g.2 o by omega, show 4 * ls.length + 3 < g.2 o by omega]
  refine ⟨⟨h1, h2, ?_, h4, h5, h6, na, r1, r2, r3, r4, by simp; omega, fun i q hq => ?_⟩, ((((zFo.pj r4).tr (zFo.pj r4)).tr (zFo.pj r4)).tr (zFo.pj r4)).tr (zFo.pi h2), hb.same rfl rfl⟩
  · rw [ypi_i, if_pos ⟨rfl, rfl⟩]; simp
  · have hl2 := (List.getElem?_eq_some_iff.mp hq).1
    simp only [List.length_append, List.length_singleton] at hl2
    by_cases hi : i = ls.length
    · subst hi
      rw [List.getElem?_append_right (Nat.le_refl _)] at hq
      simp at hq
      subst hq
      refine ⟨?_, ?_, ?_, ?_⟩
      · rw [zpi_j, ypj_j, if_neg (by omega), ypj_j, if_neg (by omega), ypj_j, if_neg (by omega), ypj_j, if_pos ⟨rfl, rfl⟩]
      · rw [zpi_j, ypj_j, if_neg (by omega), ypj_j, if_neg (by omega), ypj_j, if_pos ⟨rfl, rfl⟩]
      · rw [zpi_j, ypj_j, if_neg (by omega), ypj_j, if_pos ⟨rfl, rfl⟩]
      · rw [zpi_j, ypj_j, if_pos ⟨rfl, rfl⟩]
    · rw [List.getElem?_append_left (by omega)] at hq
      have hold := r6 i q hq
      refine ⟨?_, ?_, ?_, ?_⟩
      · rw [zpi_j, ypj_j, if_neg (by omega), ypj_j, if_neg (by omega), ypj_j, if_neg (by omega), ypj_j, if_neg (by omega)]; exact hold.1
      · rw [zpi_j, ypj_j, if_neg (by omega), ypj_j, if_neg (by omega), ypj_j, if_neg (by omega), ypj_j, if_neg (by omega)]; exact hold.2.1
      · rw [zpi_j, ypj_j, if_neg (by omega), ypj_j, if_neg (by omega), ypj_j, if_neg (by omega), ypj_j, if_neg (by omega)]; exact hold.2.2.1
      · rw [zpi_j, ypj_j, if_neg (by omega), ypj_j, if_neg (by omega), ypj_j, if_neg (by omega), ypj_j, if_neg (by omega)]; exact hold.2.2.2
theorem p2lt16 {a b : Nat} (h : 16 * 2 ^ a < 16 * 2 ^ b) : 2 * (16 * 2 ^ a) ≤ 16 * 2 ^ b := by
  have h1 : 2 ^ a < 2 ^ b := by omega
  have h2 : a < b := (Nat.pow_lt_pow_iff_right (by decide)).mp h1
  have h3 : 2 ^ (a + 1) ≤ 2 ^ b := Nat.pow_le_pow_right (by decide) h2
  have h4 : 2 ^ (a + 1) = 2 * 2 ^ a := by rw [Nat.pow_succ]; omega
  omega
theorem zLi_add {M : Zm} {g : Zg} {o a k : Nat} {ls : List Ln} (h : zLi M g o a ls) (v1 v2 v3 v4 : Int64) (ho : o < 3100) (hz : ∃ j, zcm o = 16 * 2 ^ j) (hz2 : zcm o ≤ 16384) (hl : 4 * ls.length < zcm o) (hb : zBu M g k) : zev (zf_X4_add M (some a) v1 v2 v3 v4) (fun y => ∃ g', zLi y.1 g' o a (ls ++ [(v1, v2, v3, v4)]) ∧ zFo M g y.1 g' (fun z => z = o) ∧ zBu y.1 g' k) := by
  have hlen := h.len
  obtain ⟨h1, h2, h3, h4, h5, ⟨kk, h6⟩, na, r1, r2, r3, r4, r5, r6⟩ := h
  obtain ⟨jj, hj⟩ := hz
  have hp : 0 < 2 ^ kk := Nat.pow_pos (by decide)
  simp only [zf_X4_add, zev_b1, zev_bd, zev_some, zev_gi, zev_gj, zev_gr, zev_pi, zev_pz, zev_pj, zev_pr, zev_rc, zev_cc, zev_b0, zev_bo, true_and, and_true, h1, h3, r1, zev_al2 r2 (by decide) (by decide), r3, nI_m4, nI_a4, nI_2m]
  by_cases hfit : 4 * ls.length + 4 ≤ g.2 o
  · rw [if_pos (nI_le hfit (by omega))]
    refine zev_mono (zLi_put v1 v2 v3 v4 h1 h2 h3 h4 h5 ⟨kk, h6⟩ r1 r2 r3 r4 hfit r6 hb) ?_
    rintro y ⟨q1, q2, q3⟩
    exact ⟨g, q1, q2, q3⟩
  · rw [if_neg (nI_ge (by omega) (by omega))]
    have e4 : 4 * ls.length = g.2 o := by omega
    have hd : 2 * g.2 o ≤ zcm o := by rw [h6, hj]; apply p2lt16; rw [← h6, ← hj]; omega
    have b1 := hb.1
    have b2 := hb.2
    have nok : ¬ zm_ok M (zm_b M + zm_c M) := fun q => by have := q.2; omega
    have hup := zcd_up (f := g.2) (f' := (zgx g o (zm_b M + zm_c M) (zm_b M + zm_c M) (2 * g.2 o)).2) (o := o) (fun x hx => zgx_2n hx) (by rw [zgx_2]; omega) (by rw [zgx_2]; exact hd) 3100 ho
    rw [zgx_2] at hup
    obtain ⟨M1, e, f, A1, hc, c1, s1⟩ := zcopyJ (M := M) (a := na) (cap := g.2 o) (n := 2 * g.2 o) ⟨r2, r3⟩ (by omega) (by omega) (by omega) (by omega)
    simp only [zev_b1, zev_bd, zev_some, zev_gi, zev_gj, zev_gr, zev_pi, zev_pz, zev_pj, zev_pr, zev_rc, zev_cc, zev_b0, zev_bo, true_and, and_true, h1, r1, zev_al2 r2 (by decide) (by decide), r3, nI_2m, zev_eq e]
    have na1 : a ≠ zm_b M + zm_c M := zO_ne h1
    have ff : zFr M (zm_pr M1 a 0 (some (zm_b M + zm_c M))) (fun x => x = a) := (f.mono (fun _ _ q => q.elim)).tr (zFr.pr rfl)
    have fo := zgx_fo (o := o) (c := 2 * g.2 o) (T := fun z => z = o) (g := g) (ff.mono (fun x _ q => by rw [q]; exact h2)) rfl nok nok
    have hb' := zBu_gx (M' := zm_pr M1 a 0 (some (zm_b M + zm_c M))) (p := zm_b M + zm_c M) (a := zm_b M + zm_c M) (c := 2 * g.2 o) (ds := 2 * g.2 o) (dc := 1) hb ho (by omega) hd s1 c1 (by omega) (by omega)
    refine ⟨f.ob h1, zev_mono (zLi_put (g := zgx g o (zm_b M + zm_c M) (zm_b M + zm_c M) (2 * g.2 o)) (na := zm_b M + zm_c M) v1 v2 v3 v4 (ff.ob h1) (fo.own h1.1 h2) ?_ (by rw [zgx_2]; omega) (by rw [zgx_2]; exact hd) ⟨kk + 1, by rw [zgx_2]; have := Nat.pow_succ 2 kk; omega⟩ (by rw [ypr_r, if_pos ⟨rfl, rfl⟩]) A1.1 (by rw [zgx_2]; exact A1.2) zgx_1p (by rw [zgx_2]; omega) (fun i q hq => ?_) hb') ?_⟩
    · show zm_i M1 a 1 = _
      rw [(f.2.2.2.2.2 a h1.1 id).1]; exact h3
    · have hi := (List.getElem?_eq_some_iff.mp hq).1
      simp only [zpr_j]
      rw [hc _ (by omega), hc _ (by omega), hc _ (by omega), hc _ (by omega)]
      exact r6 i q hq
    · rintro y ⟨q1, q2, q3⟩
      exact ⟨_, q1, fo.tr q2, q3⟩
theorem zLi_cut {M : Zm} {g : Zg} {o a k n : Nat} {ls : List Ln} (h : zLi M g o a ls) (hn : n < 2 ^ 31) (hb : zBu M g k) : zev (zf_X4_cutTo M (some a) (nI n)) (fun y => zLi y.1 g o a (ls.take n) ∧ zFo M g y.1 g (fun z => z = o) ∧ zBu y.1 g k) := by
  have hlen := h.len
  obtain ⟨h1, h2, h3, h4, h5, h6, na, r1, r2, r3, r4, r5, r6⟩ := h
  have an : ¬ a = na := zkne h1.2 r2.2 (by decide)
  simp only [zf_X4_cutTo, zev_b1, zev_bd, zev_some, zev_gi, zev_gj, zev_gr, zev_pi, zev_pz, zev_pj, zev_pr, zev_rc, zev_cc, zev_b0, zev_bo, true_and, and_true, h1, h3]
  refine ⟨⟨h1, h2, ?_, h4, h5, h6, na, r1, r2, r3, r4, by rw [List.length_take]; omega, fun i q hq => ?_⟩, zFo.pi h2, hb.same rfl rfl⟩
  · rw [ypi_i, if_pos ⟨rfl, rfl⟩, List.length_take]
    unfold zmini
    by_cases hlt : n < ls.length
    · rw [if_pos (nI_lt hlt (by omega)), Nat.min_eq_left (by omega)]
    · rw [if_neg (nI_nlt (by omega) hn), Nat.min_eq_right (by omega)]
  · have hi := (List.getElem?_eq_some_iff.mp hq).1
    rw [List.length_take] at hi
    rw [List.getElem?_take_of_lt (by omega)] at hq
    exact r6 i q hq
def lcol (w : Int32) (q : Ln) : Int64 := if w = 0 then q.1 else if w = 1 then q.2.1 else if w = 2 then q.2.2.1 else q.2.2.2
def lrd (i w : Int32) (ls : List Ln) : Int64 := if i < 0 ∨ w < 0 ∨ ¬ w < 4 then -1 else ((ls[i.toNatClampNeg]?).map (lcol w)).getD (-1)
theorem zLi_read {M : Zm} {g : Zg} {o a : Nat} {ls : List Ln} (h : zLi M g o a ls) (i w : Int32) : zf_X4_read M (some a) i w = some (M, lrd i w ls) := by
  have hlen := h.len
  obtain ⟨h1, h2, h3, h4, h5, h6, na, r1, r2, r3, r4, r5, r6⟩ := h
  have hz : zev (zf_X4_read M (some a) i w) (fun y => y = (M, lrd i w ls)) := by
    unfold lrd
    by_cases hi : i < 0
    · rw [if_pos (Or.inl hi)]
      simp only [zf_X4_read, if_pos hi, zf_X4_read_J21, zev_some]
    · obtain ⟨j, hj, rfl⟩ := nI_of hi
      rw [nI_clamp hj]
      by_cases hw : w < 0
      · rw [if_pos (Or.inr (Or.inl hw))]
        simp only [zf_X4_read, if_neg hi, if_pos hw, zev_b1, zev_bd, zev_some, zev_gi, zev_gj, zev_gr, zev_pi, zev_pz, zev_pj, zev_pr, zev_rc, zev_cc, zev_b0, zev_bo, true_and, and_true, h1, h3, zf_X4_read_J21, ite_self]
      · by_cases hw4 : w < 4
        · rw [if_neg (fun e => by rcases e with e | e | e; exact hi e; exact hw e; exact e hw4)]
          by_cases hlt : j < ls.length
          · obtain ⟨q, hq⟩ := getElem?_lt hlt
            have c1 : ¬ nI ls.length ≤ nI j := nI_ge hlt (by omega)
            obtain ⟨u, hu, rfl⟩ := nI_of hw
            have hu4 : u < 4 := (nI_ltI hu (show 4 < 2 ^ 31 by decide)).mp hw4
            have hold := r6 j q hq
            rw [hq]
            simp only [zf_X4_read, if_neg hi, if_neg hw, if_pos hw4, zev_b1, zev_bd, zev_some, zev_gi, zev_gj, zev_gr, zev_pi, zev_pz, zev_pj, zev_pr, zev_rc, zev_cc, zev_b0, zev_bo, true_and, and_true, h1, h3, if_neg c1, r1, nI_m4, nI_add, zev_aj2 (show 4 * j + u < 2 ^ 31 by omega), r2, r3, show 4 * j + u < g.2 o by omega, Option.map_some, Option.getD_some]
            have hcs : u = 0 ∨ u = 1 ∨ u = 2 ∨ u = 3 := by omega
            rcases hcs with rfl | rfl | rfl | rfl
            · rw [show lcol (nI 0) q = q.1 from rfl]; rw [← hold.1]; rfl
            · rw [show lcol (nI 1) q = q.2.1 from rfl]; rw [← hold.2.1]
            · rw [show lcol (nI 2) q = q.2.2.1 from rfl]; rw [← hold.2.2.1]
            · rw [show lcol (nI 3) q = q.2.2.2 from rfl]; rw [← hold.2.2.2]
          · have c1 : nI ls.length ≤ nI j := nI_le (by omega) hj
            simp only [zf_X4_read, if_neg hi, zev_b1, zev_bd, zev_some, zev_gi, zev_gj, zev_gr, zev_pi, zev_pz, zev_pj, zev_pr, zev_rc, zev_cc, zev_b0, zev_bo, true_and, and_true, h1, h3, if_pos c1, zf_X4_read_J21, List.getElem?_eq_none (Nat.le_of_not_lt hlt), Option.map_none, Option.getD_none]
        · rw [if_pos (Or.inr (Or.inr hw4))]
          simp only [zf_X4_read, if_neg hi, if_neg hw, if_neg hw4, zev_b1, zev_bd, zev_some, zev_gi, zev_gj, zev_gr, zev_pi, zev_pz, zev_pj, zev_pr, zev_rc, zev_cc, zev_b0, zev_bo, true_and, and_true, h1, h3, zf_X4_read_J21, ite_self]
  obtain ⟨y, hy, rfl⟩ := hz
  exact hy
