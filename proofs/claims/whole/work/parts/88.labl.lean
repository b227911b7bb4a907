/-! Labels: rules are runs of leaves. -/
abbrev Lf : Type := Nat × Nat × Nat × Nat
def lfok (q : Lf) : Prop := (1 ≤ q.1 ∧ q.1 ≤ 5) ∧ (1 ≤ q.2.1 ∧ q.2.1 ≤ 3) ∧ q.2.2.1 ≤ 15 ∧ q.2.2.2 ≤ 100
def zLb (M : Zm) (g : Zg) (o a : Nat) (rs : List (List Lf)) (made : Nat) : Prop := zO M a 4 ∧ g.1 a = o ∧ zm_i M a 4 = nI rs.flatten.length ∧ zm_i M a 6 = nI rs.length ∧ zm_i M a 7 = nI made ∧ rs.flatten.length ≤ made ∧ rs.length ≤ rs.flatten.length ∧ made ≤ 20 ∧ (∀ q, q ∈ rs.flatten → lfok q) ∧ ∃ a0 a1 a2 a3 a5, zm_r M a 0 = some a0 ∧ zm_r M a 1 = some a1 ∧ zm_r M a 2 = some a2 ∧ zm_r M a 3 = some a3 ∧ zm_r M a 5 = some a5 ∧ (zO M a0 14 ∧ zm_l M a0 = 20 ∧ g.1 a0 = o) ∧ (zO M a1 14 ∧ zm_l M a1 = 20 ∧ g.1 a1 = o) ∧ (zO M a2 14 ∧ zm_l M a2 = 20 ∧ g.1 a2 = o) ∧ (zO M a3 14 ∧ zm_l M a3 = 20 ∧ g.1 a3 = o) ∧ (zO M a5 14 ∧ zm_l M a5 = 20 ∧ g.1 a5 = o) ∧ (a0 ≠ a1 ∧ a0 ≠ a2 ∧ a0 ≠ a3 ∧ a0 ≠ a5 ∧ a1 ≠ a2 ∧ a1 ≠ a3 ∧ a1 ≠ a5 ∧ a2 ≠ a3 ∧ a2 ≠ a5 ∧ a3 ≠ a5) ∧ (∀ i q, rs.flatten[i]? = some q → zm_i M a0 i = nI q.1 ∧ zm_i M a1 i = nI q.2.1 ∧ zm_i M a2 i = nI q.2.2.1 ∧ zm_i M a3 i = nI q.2.2.2) ∧ (∀ i, i < rs.length → zm_i M a5 i = nI (rs.take i).flatten.length)
theorem zLb.fr {M M' : Zm} {g g' : Zg} {T : Nat → Prop} {o a : Nat} {rs : List (List Lf)} {made : Nat} (h : zLb M g o a rs made) (f : zFo M g M' g' T) (n1 : ¬ T o) : zLb M' g' o a rs made := by
  obtain ⟨h1, h2, h3, h4, h5, h6, h7, h8, h9, a0, a1, a2, a3, a5, r0, r1, r2, r3, r5, p0, p1, p2, p3, p5, nn, c1, c2⟩ := h
  have e := f.at h1.1 h2 n1
  have e0 := f.at p0.1.1 p0.2.2 n1
  have e1 := f.at p1.1.1 p1.2.2 n1
  have e2 := f.at p2.1.1 p2.2.2 n1
  have e3 := f.at p3.1.1 p3.2.2 n1
  have e5 := f.at p5.1.1 p5.2.2 n1
  have tr : ∀ x, zO M x 14 ∧ zm_l M x = 20 ∧ g.1 x = o → zO M' x 14 ∧ zm_l M' x = 20 ∧ g'.1 x = o := fun x hx => ⟨f.O hx.1, (f.A (show zA M x 14 20 from ⟨hx.1, hx.2.1⟩)).2, f.own hx.1.1 hx.2.2⟩
  exact ⟨f.O h1, f.own h1.1 h2, by rw [e.1]; exact h3, by rw [e.1]; exact h4, by rw [e.1]; exact h5, h6, h7, h8, h9, a0, a1, a2, a3, a5, by rw [e.2.2]; exact r0, by rw [e.2.2]; exact r1, by rw [e.2.2]; exact r2, by rw [e.2.2]; exact r3, by rw [e.2.2]; exact r5, tr a0 p0, tr a1 p1, tr a2 p2, tr a3 p3, tr a5 p5, nn, fun i q hq => by rw [e0.1, e1.1, e2.1, e3.1]; exact c1 i q hq, fun i hi => by rw [e5.1]; exact c2 i hi⟩
/-- what a leaf answers -/
def liso (q : Lf) (s all : Int64) : Int32 := if q.1 = 1 then (if all = 0 then 0 else if s * 100 / all < (nI q.2.2.2).toInt64 then 0 else 1) else if q.1 = 2 then (if all = 0 then 0 else if (nI q.2.2.2).toInt64 < (s * 100 + all - 1) / all then 0 else 1) else if q.1 = 3 then (if s = all then 1 else 0) else if q.1 = 4 then (if s ≤ 0 then 0 else 1) else (if s = 0 then 1 else 0)
def lans (H : Nat → Int64) (all : Int64) (q : Lf) : Int32 := if all = 0 ∧ q.1 ≤ 2 then -1 else liso q (H (16 * (q.2.1 - 1) + q.2.2.1)) all
theorem zLb_iso {M : Zm} {q : Lf} (hq : lfok q) (s all : Int64) : zf_X3_isSo M (nI q.1) s all (nI q.2.2.2) = some (M, liso q s all) := by
  have hz : zev (zf_X3_isSo M (nI q.1) s all (nI q.2.2.2)) (fun y => y = (M, liso q s all)) := by
    obtain ⟨⟨q1, q2⟩, -⟩ := hq
    have hcs : q.1 = 1 ∨ q.1 = 2 ∨ q.1 = 3 ∨ q.1 = 4 ∨ q.1 = 5 := by omega
    unfold liso
    rcases hcs with e | e | e | e | e
    · rw [e, if_pos rfl]
      simp only [zf_X3_isSo]
      rw [if_pos (show nI 1 = 1 from rfl)]
      by_cases h0 : all = 0
      · rw [if_pos h0, if_pos h0]; simp only [zev_b1, zev_bd, zev_some, zev_gi, zev_gj, zev_gr, zev_pi, zev_pz, zev_pj, zev_pr, zev_rc, zev_cc, zev_b0, zev_bo, true_and, and_true]
      · rw [if_neg h0, if_neg h0]
        simp only [zev_b1, zev_ld, ne_eq, h0, not_false_eq_true, true_and]
        by_cases h1 : s * 100 / all < (nI q.2.2.2).toInt64
        · rw [if_pos h1, if_pos h1]; simp only [zev_b1, zev_bd, zev_some, zev_gi, zev_gj, zev_gr, zev_pi, zev_pz, zev_pj, zev_pr, zev_rc, zev_cc, zev_b0, zev_bo, true_and, and_true]
        · rw [if_neg h1, if_neg h1]; simp only [zev_b1, zev_bd, zev_some, zev_gi, zev_gj, zev_gr, zev_pi, zev_pz, zev_pj, zev_pr, zev_rc, zev_cc, zev_b0, zev_bo, true_and, and_true]
    · rw [e, if_neg (by decide), if_pos rfl]
      simp only [zf_X3_isSo]
      rw [if_neg (show ¬ nI 2 = 1 from by decide), if_pos (show nI 2 = 2 from rfl)]
      by_cases h0 : all = 0
      · rw [if_pos h0, if_pos h0]; simp only [zev_b1, zev_bd, zev_some, zev_gi, zev_gj, zev_gr, zev_pi, zev_pz, zev_pj, zev_pr, zev_rc, zev_cc, zev_b0, zev_bo, true_and, and_true]
      · rw [if_neg h0, if_neg h0]
        simp only [zev_b1, zev_ld, ne_eq, h0, not_false_eq_true, true_and]
        by_cases h1 : (nI q.2.2.2).toInt64 < (s * 100 + all - 1) / all
        · rw [if_pos h1, if_pos h1]; simp only [zev_b1, zev_bd, zev_some, zev_gi, zev_gj, zev_gr, zev_pi, zev_pz, zev_pj, zev_pr, zev_rc, zev_cc, zev_b0, zev_bo, true_and, and_true]
        · rw [if_neg h1, if_neg h1]; simp only [zev_b1, zev_bd, zev_some, zev_gi, zev_gj, zev_gr, zev_pi, zev_pz, zev_pj, zev_pr, zev_rc, zev_cc, zev_b0, zev_bo, true_and, and_true]
    · rw [e, if_neg (by decide), if_neg (by decide), if_pos rfl]
      simp only [zf_X3_isSo]
      rw [if_neg (show ¬ nI 3 = 1 from by decide), if_neg (show ¬ nI 3 = 2 from by decide), if_pos (show nI 3 = 3 from rfl)]
      by_cases h0 : s = all
      · rw [if_pos h0, if_pos h0]; simp only [zev_b1, zev_bd, zev_some, zev_gi, zev_gj, zev_gr, zev_pi, zev_pz, zev_pj, zev_pr, zev_rc, zev_cc, zev_b0, zev_bo, true_and, and_true]
      · rw [if_neg h0, if_neg h0]; simp only [zev_b1, zev_bd, zev_some, zev_gi, zev_gj, zev_gr, zev_pi, zev_pz, zev_pj, zev_pr, zev_rc, zev_cc, zev_b0, zev_bo, true_and, and_true]
    · rw [e, if_neg (by decide), if_neg (by decide), if_neg (by decide), if_pos rfl]
      simp only [zf_X3_isSo]
      rw [if_neg (show ¬ nI 4 = 1 from by decide), if_neg (show ¬ nI 4 = 2 from by decide), if_neg (show ¬ nI 4 = 3 from by decide), if_pos (show nI 4 = 4 from rfl)]
      by_cases h0 : s ≤ 0
      · rw [if_pos h0, if_pos h0]; simp only [zev_b1, zev_bd, zev_some, zev_gi, zev_gj, zev_gr, zev_pi, zev_pz, zev_pj, zev_pr, zev_rc, zev_cc, zev_b0, zev_bo, true_and, and_true]
      · rw [if_neg h0, if_neg h0]; simp only [zev_b1, zev_bd, zev_some, zev_gi, zev_gj, zev_gr, zev_pi, zev_pz, zev_pj, zev_pr, zev_rc, zev_cc, zev_b0, zev_bo, true_and, and_true]
    · rw [e, if_neg (by decide), if_neg (by decide), if_neg (by decide), if_neg (by decide)]
      simp only [zf_X3_isSo]
      rw [if_neg (show ¬ nI 5 = 1 from by decide), if_neg (show ¬ nI 5 = 2 from by decide), if_neg (show ¬ nI 5 = 3 from by decide), if_neg (show ¬ nI 5 = 4 from by decide)]
      by_cases h0 : s = 0
      · rw [if_pos h0, if_pos h0]; simp only [zev_b1, zev_bd, zev_some, zev_gi, zev_gj, zev_gr, zev_pi, zev_pz, zev_pj, zev_pr, zev_rc, zev_cc, zev_b0, zev_bo, true_and, and_true]
      · rw [if_neg h0, if_neg h0]; simp only [zev_b1, zev_bd, zev_some, zev_gi, zev_gj, zev_gr, zev_pi, zev_pz, zev_pj, zev_pr, zev_rc, zev_cc, zev_b0, zev_bo, true_and, and_true]
  obtain ⟨y, hy, rfl⟩ := hz
  exact hy
theorem liso_01 (q : Lf) (s all : Int64) : liso q s all = 0 ∨ liso q s all = 1 := by
  unfold liso
  repeat' split
  all_goals first | exact Or.inl rfl | exact Or.inr rfl
theorem zLb_leaf {M : Zm} {g : Zg} {o a ot t n : Nat} {rs : List (List Lf)} {made : Nat} {S : Nat → Int64} {C : Nat → Nat} {cnt : Nat} {tot : Int64} (h : zLb M g o a rs made) (ht : zTa M g ot t n S C cnt tot) (hC : ∀ i, i < cnt → C i < n) {i : Nat} {q : Lf} (hq : rs.flatten[i]? = some q) : zf_X3_answerOfLeaf M (some a) (nI i) (some t) = some (M, lans (thav S C cnt) tot q) := by
  have hz : zev (zf_X3_answerOfLeaf M (some a) (nI i) (some t)) (fun y => y = (M, lans (thav S C cnt) tot q)) := by
    obtain ⟨h1, h2, h3, h4, h5, h6, h7, h8, h9, a0, a1, a2, a3, a5, r0, r1, r2, r3, r5, p0, p1, p2, p3, p5, nn, c1, c2⟩ := h
    have hi := (List.getElem?_eq_some_iff.mp hq).1
    have hok := h9 q (List.mem_of_getElem? hq)
    have i31 : i < 2 ^ 31 := by omega
    have hc := c1 i q hq
    have tO := ht.1
    have tt := ht.2.2.2.2.1
    have hd := hok.2.1
    have hv := hok.2.2.1
    have hop := hok.1
    have key : zev (zf_X3_answerOfLeaf_J42 M (some a) (nI i) (thav S C cnt (16 * (q.2.1 - 1) + q.2.2.1)) tot) (fun y => y = (M, liso q (thav S C cnt (16 * (q.2.1 - 1) + q.2.2.1)) tot)) := by
      simp only [zf_X3_answerOfLeaf_J42, zev_b1, zev_bd, zev_some, zev_gi, zev_gj, zev_gr, zev_pi, zev_pz, zev_pj, zev_pr, zev_rc, zev_cc, zev_b0, zev_bo, true_and, and_true, h1, r0, r3, zev_ai2 i31, p0.1, p0.2.1, p3.1, p3.2.1, show i < 20 by omega, hc.1, hc.2.2.2, zev_eq (zLb_iso hok _ _)]
      rcases liso_01 q (thav S C cnt (16 * (q.2.1 - 1) + q.2.2.1)) tot with e | e
      · rw [e]; simp only [if_true, zev_some]
      · rw [e]; simp only [show ¬ (1 : Int32) = 0 from by decide, if_false, zev_some]
    simp only [zf_X3_answerOfLeaf, zev_b1, zev_bd, zev_some, zev_gi, zev_gj, zev_gr, zev_pi, zev_pz, zev_pj, zev_pr, zev_rc, zev_cc, zev_b0, zev_bo, true_and, and_true, h1, r1, r2, zev_ai2 i31, p1.1, p1.2.1, p2.1, p2.2.1, show i < 20 by omega, hc.2.1, hc.2.2.1, tO, zev_eq (zTa_having ht hC hd hv), tt]
    unfold lans
    by_cases h0 : tot = 0
    · rw [if_pos h0]
      simp only [zev_b1, zev_bd, zev_some, zev_gi, zev_gj, zev_gr, zev_pi, zev_pz, zev_pj, zev_pr, zev_rc, zev_cc, zev_b0, zev_bo, true_and, and_true, h1, r0, zev_ai2 i31, p0.1, p0.2.1, show i < 20 by omega, hc.1]
      by_cases h2 : q.1 ≤ 2
      · rw [if_neg (show ¬ (2 : Int32) < nI q.1 from nI_nlt (a := 2) (by omega) (by decide)), if_pos ⟨h0, h2⟩]
        simp only [zev_some]
      · rw [if_pos (show (2 : Int32) < nI q.1 from nI_lt (a := 2) (by omega) (by omega)), if_neg (fun e => h2 e.2)]
        exact key
    · rw [if_neg h0, if_neg (fun e => h0 e.1)]
      exact key
  obtain ⟨y, hy, rfl⟩ := hz
  exact hy
/-- the first leaf that does not fail -/
def rans (h : Lf → Int32) : List Lf → Int32
  | [] => 0
  | q :: r => if h q = 0 then rans h r else h q
theorem flat_at {α : Type} : ∀ (rs : List (List α)) (r : Nat) (x : List α) (j : Nat), rs[r]? = some x → j < x.length → rs.flatten[(rs.take r).flatten.length + j]? = x[j]?
  | [], r, x, j, h, _ => by simp at h
  | y :: s, 0, x, j, h, hj => by
    simp at h
    subst h
    simp only [List.take_zero, List.flatten_nil, List.length_nil, Nat.zero_add, List.flatten_cons]
    rw [List.getElem?_append_left hj]
  | y :: s, r + 1, x, j, h, hj => by
    have h' : s[r]? = some x := by simpa using h
    simp only [List.take_succ_cons, List.flatten_cons, List.length_append]
    rw [List.getElem?_append_right (by omega), show y.length + (s.take r).flatten.length + j - y.length = (s.take r).flatten.length + j by omega]
    exact flat_at s r x j h' hj
theorem flat_le {α : Type} (rs : List (List α)) (r : Nat) : (rs.take r).flatten.length ≤ rs.flatten.length := by
  have e : rs.flatten = (rs.take r).flatten ++ (rs.drop r).flatten := by rw [← List.flatten_append, List.take_append_drop]
  rw [e, List.length_append]; omega
theorem flat_succ {α : Type} {rs : List (List α)} {r : Nat} {x : List α} (h : rs[r]? = some x) : (rs.take (r + 1)).flatten.length = (rs.take r).flatten.length + x.length := by
  rw [take_snoc h, List.flatten_append, List.length_append]; simp
theorem zLb_ans {M : Zm} {g : Zg} {o a ot t n : Nat} {rs : List (List Lf)} {made : Nat} {S : Nat → Int64} {C : Nat → Nat} {cnt : Nat} {tot : Int64} (h : zLb M g o a rs made) (ht : zTa M g ot t n S C cnt tot) (hC : ∀ i, i < cnt → C i < n) {r : Nat} {x : List Lf} (hr : rs[r]? = some x) : zf_X3_answerOf M (some a) (nI r) (some t) = some (M, rans (lans (thav S C cnt) tot) x) := by
  have hz : zev (zf_X3_answerOf M (some a) (nI r) (some t)) (fun y => y = (M, rans (lans (thav S C cnt) tot) x)) := by
    have hh := h
    obtain ⟨h1, h2, h3, h4, h5, h6, h7, h8, h9, a0, a1, a2, a3, a5, r0, r1, r2, r3, r5, p0, p1, p2, p3, p5, nn, c1, c2⟩ := h
    have hrl := (List.getElem?_eq_some_iff.mp hr).1
    have hfs := flat_succ hr
    have hle := flat_le rs (r + 1)
    have r31 : r < 2 ^ 31 := by omega
    have key : zev (zf_X3_answerOf_J39 M (some a) (nI r) (some t) (nI (rs.take (r + 1)).flatten.length)) (fun y => y = (M, rans (lans (thav S C cnt) tot) x)) := by
      simp only [zf_X3_answerOf_J39, zev_b1, zev_bd, zev_some, zev_gi, zev_gj, zev_gr, zev_pi, zev_pz, zev_pj, zev_pr, zev_rc, zev_cc, zev_b0, zev_bo, true_and, and_true, h1, r5, zev_ai2 r31, p5.1, p5.2.1, show r < 20 by omega, c2 r hrl]
      refine zev_lp (τ := (Zm × Int32) ⊕ (Zm × Int32)) (fun m (z : Zm × Int32) => ∃ j, z = (M, nI ((rs.take r).flatten.length + j)) ∧ j + m = x.length ∧ rans (lans (thav S C cnt) tot) x = rans (lans (thav S C cnt) tot) (x.drop j)) (n := x.length) ⟨0, rfl, by omega, rfl⟩ ?_
      rintro m z ⟨j, rfl, hjm, hj⟩
      cases m with
      | zero =>
        have cc : nI (rs.take (r + 1)).flatten.length ≤ nI ((rs.take r).flatten.length + j) := nI_le (by omega) (by omega)
        simp only [zf_X3_answerOf_L48, if_pos cc, zev_some]
        refine Or.inr ⟨_, rfl, ?_⟩
        rw [List.drop_of_length_le (by omega)] at hj
        simp only [hj, rans, zev_some]
      | succ m =>
        obtain ⟨q, hq⟩ := getElem?_lt (show j < x.length by omega)
        have cc : ¬ nI (rs.take (r + 1)).flatten.length ≤ nI ((rs.take r).flatten.length + j) := nI_ge (by omega) (by omega)
        have hfq : rs.flatten[(rs.take r).flatten.length + j]? = some q := by rw [flat_at rs r x j hr (by omega)]; exact hq
        rw [drop_cons hq] at hj
        simp only [rans] at hj
        simp only [zf_X3_answerOf_L48, if_neg cc, zev_b1, zev_bd, zev_some, zev_gi, zev_gj, zev_gr, zev_pi, zev_pz, zev_pj, zev_pr, zev_rc, zev_cc, zev_b0, zev_bo, true_and, and_true, h1, zev_eq (zLb_leaf hh ht hC hfq)]
        by_cases h0 : lans (thav S C cnt) tot q = 0
        · rw [if_pos h0] at hj ⊢
          simp only [zev_some]
          exact Or.inl ⟨_, m, rfl, ⟨j + 1, by rw [nI_1, Nat.add_assoc], by omega, hj⟩, by omega⟩
        · rw [if_neg h0] at hj ⊢
          simp only [zev_some]
          refine Or.inr ⟨_, rfl, ?_⟩
          simp only [zev_some]
          rw [hj]
    have cA : nI r < nI rs.length := nI_lt hrl (by omega)
    simp only [zf_X3_answerOf, if_neg (nI_pos r31), zev_b1, zev_bd, zev_some, zev_gi, zev_gj, zev_gr, zev_pi, zev_pz, zev_pj, zev_pr, zev_rc, zev_cc, zev_b0, zev_bo, true_and, and_true, h1, h4, if_pos cA, nI_1]
    by_cases hlast : r + 1 = rs.length
    · rw [if_pos (nI_le (by omega) (by omega))]
      simp only [zev_b1, zev_bd, zev_some, zev_gi, zev_gj, zev_gr, zev_pi, zev_pz, zev_pj, zev_pr, zev_rc, zev_cc, zev_b0, zev_bo, true_and, and_true, h1, h3]
      have e : rs.take (r + 1) = rs := List.take_of_length_le (by omega)
      rw [e] at key
      exact key
    · rw [if_neg (nI_ge (by omega) (by omega))]
      simp only [zev_b1, zev_bd, zev_some, zev_gi, zev_gj, zev_gr, zev_pi, zev_pz, zev_pj, zev_pr, zev_rc, zev_cc, zev_b0, zev_bo, true_and, and_true, h1, r5, zev_ai2 (show r + 1 < 2 ^ 31 by omega), p5.1, p5.2.1, show r + 1 < 20 by omega, c2 (r + 1) (by omega)]
      exact key
  obtain ⟨y, hy, rfl⟩ := hz
  exact hy
/-- the first rule that does not hold -/
def fbrk (h : Lf → Int32) : Nat → List (List Lf) → Int32
  | _, [] => -1
  | i, x :: r => if rans h x = 1 then fbrk h (i + 1) r else nI i
theorem zLb_broken {M : Zm} {g : Zg} {o a ot t n : Nat} {rs : List (List Lf)} {made : Nat} {S : Nat → Int64} {C : Nat → Nat} {cnt : Nat} {tot : Int64} (h : zLb M g o a rs made) (ht : zTa M g ot t n S C cnt tot) (hC : ∀ i, i < cnt → C i < n) : zf_X3_firstBroken M (some a) (some t) = some (M, fbrk (lans (thav S C cnt) tot) 0 rs) := by
  have hz : zev (zf_X3_firstBroken M (some a) (some t)) (fun y => y = (M, fbrk (lans (thav S C cnt) tot) 0 rs)) := by
    have hh := h
    obtain ⟨h1, h2, h3, h4, h5, h6, h7, h8, h9, -⟩ := h
    simp only [zf_X3_firstBroken, zev_b1, zev_bd, zev_some, zev_gi, zev_gj, zev_gr, zev_pi, zev_pz, zev_pj, zev_pr, zev_rc, zev_cc, zev_b0, zev_bo, true_and, and_true]
    refine zev_lp (τ := (Zm × Int32) ⊕ (Zm × Int32)) (fun m (z : Zm × Int32) => ∃ i, z = (M, nI i) ∧ i + m = rs.length ∧ fbrk (lans (thav S C cnt) tot) 0 rs = fbrk (lans (thav S C cnt) tot) i (rs.drop i)) (n := rs.length) ⟨0, rfl, by omega, rfl⟩ ?_
    rintro m z ⟨i, rfl, him, hi⟩
    cases m with
    | zero =>
      have cc : nI rs.length ≤ nI i := nI_le (by omega) (by omega)
      simp only [zf_X3_firstBroken_L2, zev_b1, zev_bd, zev_some, zev_gi, zev_gj, zev_gr, zev_pi, zev_pz, zev_pj, zev_pr, zev_rc, zev_cc, zev_b0, zev_bo, true_and, and_true, h1, h4, if_pos cc]
      refine Or.inr ⟨_, rfl, ?_⟩
      rw [List.drop_of_length_le (by omega)] at hi
      simp only [hi, fbrk, zev_some]
    | succ m =>
      obtain ⟨x, hx⟩ := getElem?_lt (show i < rs.length by omega)
      have cc : ¬ nI rs.length ≤ nI i := nI_ge (by omega) (by omega)
      rw [drop_cons hx] at hi
      simp only [fbrk] at hi
      simp only [zf_X3_firstBroken_L2, zev_b1, zev_bd, zev_some, zev_gi, zev_gj, zev_gr, zev_pi, zev_pz, zev_pj, zev_pr, zev_rc, zev_cc, zev_b0, zev_bo, true_and, and_true, h1, h4, if_neg cc, zev_eq (zLb_ans hh ht hC hx)]
      by_cases h0 : rans (lans (thav S C cnt) tot) x = 1
      · rw [if_pos h0] at hi ⊢
        simp only [zev_some]
        exact Or.inl ⟨_, m, rfl, ⟨i + 1, by rw [nI_1], by omega, hi⟩, by omega⟩
      · rw [if_neg h0] at hi ⊢
        simp only [zev_some]
        refine Or.inr ⟨_, rfl, ?_⟩
        simp only [zev_some]
        rw [hi]
  obtain ⟨y, hy, rfl⟩ := hz
  exact hy
