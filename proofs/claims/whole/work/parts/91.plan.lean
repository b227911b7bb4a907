/-! Planner. -/
def zPl (M : Zm) (g : Zg) (p ta : Nat) (D : Nat → Int64) (Mo Tr Be : Nat → Nat) (wt : Option Nat) (cnt : Nat) (lst : Int64) (st : List Int64) : Prop := zO M p 7 ∧ g.1 p = 15 ∧ zm_r M p 0 = some ta ∧ zm_r M p 5 = wt ∧ zm_i M p 6 = nI cnt ∧ cnt ≤ 6 ∧ zm_j M p 7 = lst ∧ zm_i M p 9 = nI st.length ∧ st.length ≤ 6 ∧ ∃ a1 a2 a3 a4 a8, zm_r M p 1 = some a1 ∧ zm_r M p 2 = some a2 ∧ zm_r M p 3 = some a3 ∧ zm_r M p 4 = some a4 ∧ zm_r M p 8 = some a8 ∧ (zA M a1 15 78 ∧ g.1 a1 = 15) ∧ (zA M a2 14 6 ∧ g.1 a2 = 15) ∧ (zA M a3 14 6 ∧ g.1 a3 = 15) ∧ (zA M a4 14 6 ∧ g.1 a4 = 15) ∧ (zA M a8 15 6 ∧ g.1 a8 = 15) ∧ (a1 ≠ a8 ∧ a2 ≠ a3 ∧ a2 ≠ a4 ∧ a3 ≠ a4) ∧ (∀ i, i < 78 → zm_j M a1 i = D i) ∧ (∀ i, i < 6 → zm_i M a2 i = nI (Mo i)) ∧ (∀ i, i < 6 → zm_i M a3 i = nI (Tr i)) ∧ (∀ i, i < 6 → zm_i M a4 i = nI (Be i)) ∧ (∀ i v, st[i]? = some v → zm_j M a8 i = v)
theorem zPl.fr {M M' : Zm} {g g' : Zg} {T : Nat → Prop} {p ta : Nat} {D : Nat → Int64} {Mo Tr Be : Nat → Nat} {wt : Option Nat} {cnt : Nat} {lst : Int64} {st : List Int64} (h : zPl M g p ta D Mo Tr Be wt cnt lst st) (f : zFo M g M' g' T) (n1 : ¬ T 15) : zPl M' g' p ta D Mo Tr Be wt cnt lst st := by
  obtain ⟨h1, h2, h3, h4, h5, h6, h7, h8, h9, a1, a2, a3, a4, a8, r1, r2, r3, r4, r8, q1, q2, q3, q4, q8, nn, c1, c2, c3, c4, c8⟩ := h
  have e := f.at h1.1 h2 n1
  have e1 := f.at q1.1.1.1 q1.2 n1
  have e2 := f.at q2.1.1.1 q2.2 n1
  have e3 := f.at q3.1.1.1 q3.2 n1
  have e4 := f.at q4.1.1.1 q4.2 n1
  have e8 := f.at q8.1.1.1 q8.2 n1
  have tr : ∀ x k n, zA M x k n ∧ g.1 x = 15 → zA M' x k n ∧ g'.1 x = 15 := fun x k n hx => ⟨f.A hx.1, f.own hx.1.1.1 hx.2⟩
  exact ⟨f.O h1, f.own h1.1 h2, by rw [e.2.2]; exact h3, by rw [e.2.2]; exact h4, by rw [e.1]; exact h5, h6, by rw [e.2.1]; exact h7, by rw [e.1]; exact h8, h9, a1, a2, a3, a4, a8, by rw [e.2.2]; exact r1, by rw [e.2.2]; exact r2, by rw [e.2.2]; exact r3, by rw [e.2.2]; exact r4, by rw [e.2.2]; exact r8, tr _ _ _ q1, tr _ _ _ q2, tr _ _ _ q3, tr _ _ _ q4, tr _ _ _ q8, nn, fun i hi => by rw [e1.2.1]; exact c1 i hi, fun i hi => by rw [e2.1]; exact c2 i hi, fun i hi => by rw [e3.1]; exact c3 i hi, fun i hi => by rw [e4.1]; exact c4 i hi, fun i v hv => by rw [e8.2.1]; exact c8 i v hv⟩
theorem zPl.O {M : Zm} {g : Zg} {p ta : Nat} {D : Nat → Int64} {Mo Tr Be : Nat → Nat} {wt : Option Nat} {cnt : Nat} {lst : Int64} {st : List Int64} (h : zPl M g p ta D Mo Tr Be wt cnt lst st) : zO M p 7 := h.1
theorem nI_m13 (a b : Nat) : nI a * 13 + nI b = nI (13 * a + b) := by
  rw [show nI a * 13 = nI (a * 13) from pk_mul a 13, nI_add, Nat.mul_comm]
theorem zPl_dear {M : Zm} {g : Zg} {p ta k : Nat} {D : Nat → Int64} {Mo Tr Be : Nat → Nat} {wt : Option Nat} {cnt : Nat} {lst : Int64} {st : List Int64} (h : zPl M g p ta D Mo Tr Be wt cnt lst st) {s j : Nat} (v : Int64) (hs : s < 6) (hj : j < 13) (hb : zBu M g k) : zev (zf_X6_setDear M (some p) (nI s) (nI j) v) (fun y => zPl y.1 g p ta (fun i => if i = 13 * s + j then v else D i) Mo Tr Be wt cnt lst st ∧ zFo M g y.1 g (fun z => z = 15) ∧ zBu y.1 g k) := by
  obtain ⟨h1, h2, h3, h4, h5, h6, h7, h8, h9, a1, a2, a3, a4, a8, r1, r2, r3, r4, r8, q1, q2, q3, q4, q8, nn, c1, c2, c3, c4, c8⟩ := h
  have pa : ¬ p = a1 := zkne h1.2 q1.1.1.2 (by decide)
  have a81 : ¬ a8 = a1 := fun e => nn.1 e.symm
  simp only [zf_X6_setDear, zf_X6_slotOf, zev_b1, zev_bd, zev_some, zev_gi, zev_gj, zev_gr, zev_pi, zev_pz, zev_pj, zev_pr, zev_rc, zev_cc, zev_b0, zev_bo, true_and, and_true, h1, r1, nI_m13, zev_sj2 (show 13 * s + j < 2 ^ 31 by omega), show zO M a1 15 from q1.1.1, q1.1.2, show 13 * s + j < 78 by omega]
  refine ⟨⟨h1, h2, h3, h4, h5, h6, ?_, h8, h9, a1, a2, a3, a4, a8, r1, r2, r3, r4, r8, q1, q2, q3, q4, q8, nn, fun i hi => ?_, c2, c3, c4, fun i v hv => ?_⟩, zFo.pj q1.2, hb.same rfl rfl⟩
  · rw [ypj_j, if_neg (fun e => pa e.1)]; exact h7
  · rw [ypj_j]
    dsimp only
    by_cases e : i = 13 * s + j
    · rw [if_pos ⟨rfl, e⟩, if_pos e]
    · rw [if_neg (fun q => e q.2), if_neg e]; exact c1 i hi
  · rw [ypj_j, if_neg (fun e => a81 e.1)]; exact c8 i v hv
/-- tried, at one source -/
theorem zPl.tried {M : Zm} {g : Zg} {p ta k : Nat} {D : Nat → Int64} {Mo Tr Be : Nat → Nat} {wt : Option Nat} {cnt : Nat} {lst : Int64} {st : List Int64} (h : zPl M g p ta D Mo Tr Be wt cnt lst st) {s j : Nat} (hb : zBu M g k) : ∃ a3, zm_r M p 3 = some a3 ∧ zA M a3 14 6 ∧ zPl (zm_pi M a3 s (nI j)) g p ta D Mo (fuN Tr s j) Be wt cnt lst st ∧ zFo M g (zm_pi M a3 s (nI j)) g (fun z => z = 15) ∧ zBu (zm_pi M a3 s (nI j)) g k := by
  obtain ⟨h1, h2, h3, h4, h5, h6, h7, h8, h9, a1, a2, a3, a4, a8, r1, r2, r3, r4, r8, q1, q2, q3, q4, q8, nn, c1, c2, c3, c4, c8⟩ := h
  have pa : ¬ p = a3 := zkne h1.2 q3.1.1.2 (by decide)
  refine ⟨a3, r3, q3.1, ⟨h1, h2, h3, h4, ?_, h6, h7, ?_, h9, a1, a2, a3, a4, a8, r1, r2, r3, r4, r8, q1, q2, q3, q4, q8, nn, c1, fun i hi => ?_, fun i hi => ?_, fun i hi => ?_, c8⟩, zFo.pi q3.2, hb.same rfl rfl⟩
  · rw [ypi_i, if_neg (fun e => pa e.1)]; exact h5
  · rw [ypi_i, if_neg (fun e => pa e.1)]; exact h8
  · rw [ypi_i, if_neg (fun e => nn.2.1 e.1)]; exact c2 i hi
  · rw [ypi_i]
    unfold fuN
    by_cases e : i = s
    · rw [if_pos ⟨rfl, e⟩, if_pos e]
    · rw [if_neg (fun q => e q.2), if_neg e]; exact c3 i hi
  · rw [ypi_i, if_neg (fun e => nn.2.2.2 e.1.symm)]; exact c4 i hi
/-- the first lesser sum is the best -/
theorem zPl.least {M : Zm} {g : Zg} {p ta : Nat} {D : Nat → Int64} {Mo Tr Be : Nat → Nat} {wt : Option Nat} {cnt : Nat} {lst : Int64} {st : List Int64} (h : zPl M g p ta D Mo Tr Be wt cnt lst st) (v : Int64) : zPl (zm_pj M p 7 v) g p ta D Mo Tr Be wt cnt v st := by
  obtain ⟨h1, h2, h3, h4, h5, h6, h7, h8, h9, a1, a2, a3, a4, a8, r1, r2, r3, r4, r8, q1, q2, q3, q4, q8, nn, c1, c2, c3, c4, c8⟩ := h
  have pa : ¬ a1 = p := fun e => zkne h1.2 q1.1.1.2 (by decide) e.symm
  have pb : ¬ a8 = p := fun e => zkne h1.2 q8.1.1.2 (by decide) e.symm
  refine ⟨h1, h2, h3, h4, h5, h6, ?_, h8, h9, a1, a2, a3, a4, a8, r1, r2, r3, r4, r8, q1, q2, q3, q4, q8, nn, fun i hi => ?_, c2, c3, c4, fun i u hu => ?_⟩
  · rw [ypj_j, if_pos ⟨rfl, rfl⟩]
  · rw [ypj_j, if_neg (fun e => pa e.1)]; exact c1 i hi
  · rw [ypj_j, if_neg (fun e => pb e.1)]; exact c8 i u hu
theorem yri_i {M : Zm} {a x j : Nat} {g : Nat → Int32} : zm_i (zm_ri M a g) x j = if x = a then g j else zm_i M x j := by
  show zm_z _ _ _ _ _ = _
  by_cases h : x = a
  · simp [zm_z, h]
  · simp [zm_z, h]
theorem zPl.best {M : Zm} {g : Zg} {p ta k : Nat} {D : Nat → Int64} {Mo Tr Be : Nat → Nat} {wt : Option Nat} {cnt : Nat} {lst : Int64} {st : List Int64} (h : zPl M g p ta D Mo Tr Be wt cnt lst st) (hb : zBu M g k) : ∃ a3 a4 M', zm_r M p 3 = some a3 ∧ zm_r M p 4 = some a4 ∧ zo_ci M (some a3) 0 (some a4) 0 (nI cnt) = some M' ∧ zPl M' g p ta D Mo Tr (fun i => if i < cnt then Tr i else Be i) wt cnt lst st ∧ zFo M g M' g (fun z => z = 15) ∧ zBu M' g k := by
  obtain ⟨h1, h2, h3, h4, h5, h6, h7, h8, h9, a1, a2, a3, a4, a8, r1, r2, r3, r4, r8, q1, q2, q3, q4, q8, nn, c1, c2, c3, c4, c8⟩ := h
  have pa : ¬ p = a4 := zkne h1.2 q4.1.1.2 (by decide)
  refine ⟨a3, a4, _, r3, r4, zci (sp := 0) (dp := 0) q3.1 q4.1 (by decide) (by decide) (by omega) (by omega) (by omega), ⟨h1, h2, h3, h4, ?_, h6, h7, ?_, h9, a1, a2, a3, a4, a8, r1, r2, r3, r4, r8, q1, q2, q3, q4, q8, nn, c1, fun i hi => ?_, fun i hi => ?_, fun i hi => ?_, c8⟩, ⟨zFr.ri q4.2, fun _ _ => rfl, fun _ _ => rfl⟩, hb.same rfl rfl⟩
  · rw [yri_i, if_neg pa]; exact h5
  · rw [yri_i, if_neg pa]; exact h8
  · rw [yri_i, if_neg nn.2.2.1]; exact c2 i hi
  · rw [yri_i, if_neg nn.2.2.2]; exact c3 i hi
  · rw [yri_i, if_pos rfl]
    dsimp only
    by_cases e : i < cnt
    · rw [pk_cpy_in (Nat.zero_le _) (by omega), if_pos e, Nat.zero_add, Nat.sub_zero]; exact c3 i hi
    · rw [pk_cpy_out (Or.inr (by omega)), if_neg e]; exact c4 i hi
/-- the search -/
def cfr (cnt : Nat) (Mo : Nat → Nat) (D : Nat → Int64) (ok : (Nat → Nat) → Prop) [DecidablePred ok] : Nat → Nat → Nat → Int64 → (Nat → Nat) → Int64 × (Nat → Nat) → Int64 × (Nat → Nat)
  | 0, _, left, dear, tr, a => if a.1 ≠ -1 ∧ ¬ dear < a.1 then a else if left = 0 ∧ ok tr then (dear, tr) else a
  | n + 1, s, left, dear, tr, a => if a.1 ≠ -1 ∧ ¬ dear < a.1 then a else (List.range' (if s = cnt - 1 then left else 0) (min left (Mo s) + 1 - (if s = cnt - 1 then left else 0))).foldl (fun a j => cfr cnt Mo D ok n (s + 1) (left - j) (dear + D (13 * s + j)) (fuN tr s j) a) a
theorem foldl_cong {α β : Type} {f g : β → α → β} : ∀ (l : List α) (a : β), (∀ x ∈ l, ∀ b, f b x = g b x) → l.foldl f a = l.foldl g a
  | [], _, _ => rfl
  | x :: r, a, h => by
    rw [List.foldl_cons, List.foldl_cons, h x List.mem_cons_self]
    exact foldl_cong r _ (fun y hy => h y (List.mem_cons_of_mem _ hy))
theorem thav_cong {S : Nat → Int64} {C C' : Nat → Nat} {cnt off : Nat} (h : ∀ i, i < cnt → C i = C' i) : thav S C cnt off = thav S C' cnt off := by
  unfold thav
  exact foldl_cong _ _ (fun i hi b => by rw [h i (List.mem_range.mp hi)])
theorem zPl_cf {g : Zg} {p ta ol la k : Nat} {D : Nat → Int64} {Mo : Nat → Nat} {cnt : Nat} {st : List Int64} {S : Nat → Int64} {tot : Int64} {rs : List (List Lf)} {made : Nat} (hol : ol ≠ 15 ∧ ol ≠ 16) (ok : (Nat → Nat) → Prop) [DecidablePred ok] (hok : ∀ tr, ok tr ↔ fbrk (lans (thav S (fun i => 13 * i + tr i) cnt) tot) 0 rs = -1) (hMo : ∀ i, i < cnt → Mo i ≤ 12) (hD : ∀ i, D i = D i) :
    ∀ (n s left d : Nat) (dear : Int64) (tr : Nat → Nat) (a : Int64 × (Nat → Nat)) (M : Zm) (Tr Be C : Nat → Nat), s + n = cnt → left ≤ 12 → n ≤ d → zPl M g p ta D Mo Tr Be (some la) cnt a.1 st → zTa M g 16 ta 78 S C cnt tot → zLb M g ol la rs made → (∀ i, i < s → Tr i = tr i ∧ C i = 13 * i + tr i ∧ tr i ≤ 12) → (∀ i, i < cnt → Be i = a.2 i) → zBu M g k →
      zev (zf_X6_chooseFrom (d + 1) M (some p) (nI s) (nI left) dear) (fun y => ∃ Tr' Be' C', zPl y.1 g p ta D Mo Tr' Be' (some la) cnt (cfr cnt Mo D ok n s left dear tr a).1 st ∧ zTa y.1 g 16 ta 78 S C' cnt tot ∧ (∀ i, i < s → Tr' i = tr i ∧ C' i = 13 * i + tr i ∧ tr i ≤ 12) ∧ (∀ i, i < cnt → Be' i = (cfr cnt Mo D ok n s left dear tr a).2 i) ∧ zFo M g y.1 g (fun z => z = 15 ∨ z = 16) ∧ zBu y.1 g k)
  | 0, s, left, d, dear, tr, a, M, Tr, Be, C, hsn, hl, hd, P, T, L, hT, hB, hb => by
    have hs : s = cnt := by omega
    have P' := P
    obtain ⟨h1, h2, h3, h4, h5, h6, h7, h8, h9, -⟩ := P'
    have key : ¬ (a.1 ≠ -1 ∧ ¬ dear < a.1) → zev (zf_X6_chooseFrom_J21 (zf_X6_chooseFrom d) M (some p) (nI s) (nI left) dear) (fun y => ∃ Tr' Be' C', zPl y.1 g p ta D Mo Tr' Be' (some la) cnt (cfr cnt Mo D ok 0 s left dear tr a).1 st ∧ zTa y.1 g 16 ta 78 S C' cnt tot ∧ (∀ i, i < s → Tr' i = tr i ∧ C' i = 13 * i + tr i ∧ tr i ≤ 12) ∧ (∀ i, i < cnt → Be' i = (cfr cnt Mo D ok 0 s left dear tr a).2 i) ∧ zFo M g y.1 g (fun z => z = 15 ∨ z = 16) ∧ zBu y.1 g k) := by
      intro hne
      have c1 : ¬ nI s < nI cnt := by rw [hs]; exact nI_nlt (Nat.le_refl _) (by omega)
      simp only [cfr, if_neg hne, zf_X6_chooseFrom_J21, zev_b1, zev_bd, zev_some, zev_gi, zev_gj, zev_gr, zev_pi, zev_pz, zev_pj, zev_pr, zev_rc, zev_cc, zev_b0, zev_bo, true_and, and_true, h1, h5, if_neg c1]
      by_cases hl0 : left = 0
      · subst hl0
        rw [if_pos (show nI 0 = 0 from rfl)]
        have hC : ∀ i, i < cnt → C i < 78 := fun i hi => by have := hT i (by omega); omega
        simp only [zev_b1, zev_bd, zev_some, zev_gi, zev_gj, zev_gr, zev_pi, zev_pz, zev_pj, zev_pr, zev_rc, zev_cc, zev_b0, zev_bo, true_and, and_true, h1, h4, reduceCtorEq, if_false, h3, L.1, zev_eq (zLb_broken L T hC)]
        have et : fbrk (lans (thav S C cnt) tot) 0 rs = fbrk (lans (thav S (fun i => 13 * i + tr i) cnt) tot) 0 rs := by
          have : thav S C cnt = thav S (fun i => 13 * i + tr i) cnt := by
            funext off
            exact thav_cong (fun i hi => (hT i (by omega)).2.1)
          rw [this]
        by_cases ho : ok tr
        · have hf := (hok tr).mp ho
          rw [et, if_pos hf]
          simp only [ho, and_self, if_true]
          have P1 := P.least dear
          have b1 : zBu (zm_pj M p 7 dear) g k := hb.same rfl rfl
          have f1 : zFo M g (zm_pj M p 7 dear) g (fun z => z = 15) := zFo.pj h2
          have T1 := T.fr f1 (by decide)
          obtain ⟨a3, a4, M2, r3, r4, e2, P2, f2, b2⟩ := P1.best b1
          have O1 := P1.O
          have i6 := P1.2.2.2.2.1
          simp only [zev_b1, zev_bd, zev_some, zev_gi, zev_gj, zev_gr, zev_pi, zev_pz, zev_pj, zev_pr, zev_rc, zev_cc, zev_b0, zev_bo, true_and, and_true, h1]
          generalize zm_pj M p 7 dear = M1 at P1 b1 f1 T1 r3 r4 e2 f2 O1 i6 ⊢
          simp only [zev_b1, zev_bd, zev_some, zev_gi, zev_gj, zev_gr, zev_pi, zev_pz, zev_pj, zev_pr, zev_rc, zev_cc, zev_b0, zev_bo, true_and, and_true, O1, r3, r4, i6, zev_eq e2]
          refine ⟨Tr, _, C, P2, T1.fr f2 (by decide), hT, fun i hi => ?_, (f1.tr f2).mono (fun z q => Or.inl q), b2⟩
          rw [if_pos hi]
          exact (hT i (by omega)).1
        · have hf : ¬ fbrk (lans (thav S (fun i => 13 * i + tr i) cnt) tot) 0 rs = -1 := fun e => ho ((hok tr).mpr e)
          rw [et, if_neg hf]
          simp only [ho, and_false, if_false, zev_some]
          exact ⟨Tr, Be, C, P, T, hT, hB, zFo.rf, hb⟩
      · rw [if_neg (nI_ne0 (by omega) (by omega))]
        simp only [hl0, false_and, if_false, zev_some]
        exact ⟨Tr, Be, C, P, T, hT, hB, zFo.rf, hb⟩
    simp only [zf_X6_chooseFrom, zf_X6_chooseFrombody, zev_b1, zev_bd, zev_some, zev_gi, zev_gj, zev_gr, zev_pi, zev_pz, zev_pj, zev_pr, zev_rc, zev_cc, zev_b0, zev_bo, true_and, and_true, h1, h7]
    by_cases e1 : a.1 = -1
    · rw [if_pos e1]
      exact key (fun q => q.1 e1)
    · rw [if_neg e1]
      simp only [zev_b1, zev_bd, zev_some, zev_gi, zev_gj, zev_gr, zev_pi, zev_pz, zev_pj, zev_pr, zev_rc, zev_cc, zev_b0, zev_bo, true_and, and_true, h1, h7]
      by_cases e2 : dear < a.1
      · rw [if_pos e2]
        exact key (fun q => q.2 e2)
      · rw [if_neg e2]
        simp only [zev_some, cfr, if_pos (And.intro e1 e2)]
        exact ⟨Tr, Be, C, P, T, hT, hB, zFo.rf, hb⟩
  | n + 1, s, left, d, dear, tr, a, M, Tr, Be, C, hsn, hl, hd, P, T, L, hT, hB, hb => by
    have P' := P
    obtain ⟨h1, h2, h3, h4, h5, h6, h7, h8, h9, a1, a2, a3, a4, a8, r1, r2, r3, r4, r8, q1, q2, q3, q4, q8, nn, c1, c2, c3, c4, c8⟩ := P'
    obtain ⟨d, rfl⟩ : ∃ d', d = d' + 1 := ⟨d - 1, by omega⟩
    have key : ∀ lo, lo ≤ 12 → ∀ m, m = min left (Mo s) + 1 - lo → zev (zf_X6_chooseFrom_J93 (zf_X6_chooseFrom (d + 1)) M (some p) (nI s) (nI left) dear (nI lo)) (fun y => ∃ Tr' Be' C', zPl y.1 g p ta D Mo Tr' Be' (some la) cnt ((List.range' lo m).foldl (fun a j => cfr cnt Mo D ok n (s + 1) (left - j) (dear + D (13 * s + j)) (fuN tr s j) a) a).1 st ∧ zTa y.1 g 16 ta 78 S C' cnt tot ∧ (∀ i, i < s → Tr' i = tr i ∧ C' i = 13 * i + tr i ∧ tr i ≤ 12) ∧ (∀ i, i < cnt → Be' i = ((List.range' lo m).foldl (fun a j => cfr cnt Mo D ok n (s + 1) (left - j) (dear + D (13 * s + j)) (fuN tr s j) a) a).2 i) ∧ zFo M g y.1 g (fun z => z = 15 ∨ z = 16) ∧ zBu y.1 g k) := by
      intro lo hlo m hm
      have hMs := hMo s (by omega)
      have em : zmini (nI left) (nI (Mo s)) = nI (min left (Mo s)) := by
        unfold zmini
        by_cases e : Mo s < left
        · rw [if_pos (nI_lt e (by omega)), Nat.min_eq_right (by omega)]
        · rw [if_neg (nI_nlt (by omega) (by omega)), Nat.min_eq_left (by omega)]
      simp only [zf_X6_chooseFrom_J93, zev_b1, zev_bd, zev_some, zev_gi, zev_gj, zev_gr, zev_pi, zev_pz, zev_pj, zev_pr, zev_rc, zev_cc, zev_b0, zev_bo, true_and, and_true, h1, r2, zev_ai2 (show s < 2 ^ 31 by omega), show zO M a2 14 from q2.1.1, q2.1.2, show s < 6 by omega, c2 s (by omega), em]
      refine zev_lp (τ := Zm × Int32) (fun c (z : Zm × Int32) => ∃ M1 j b Tr1 Be1 C1, z = (M1, nI j) ∧ j ≤ 13 ∧ lo ≤ j ∧ c = min left (Mo s) + 1 - j ∧ (List.range' lo m).foldl (fun a j => cfr cnt Mo D ok n (s + 1) (left - j) (dear + D (13 * s + j)) (fuN tr s j) a) a = (List.range' j c).foldl (fun a j => cfr cnt Mo D ok n (s + 1) (left - j) (dear + D (13 * s + j)) (fuN tr s j) a) b ∧ zPl M1 g p ta D Mo Tr1 Be1 (some la) cnt b.1 st ∧ zTa M1 g 16 ta 78 S C1 cnt tot ∧ (∀ i, i < s → Tr1 i = tr i ∧ C1 i = 13 * i + tr i ∧ tr i ≤ 12) ∧ (∀ i, i < cnt → Be1 i = b.2 i) ∧ zFo M g M1 g (fun z => z = 15 ∨ z = 16) ∧ zBu M1 g k) (n := m) ⟨M, lo, a, Tr, Be, C, rfl, by omega, Nat.le_refl _, hm, rfl, P, T, hT, hB, zFo.rf, hb⟩ ?_
      rintro c z ⟨M1, j, b, Tr1, Be1, C1, rfl, hj13, hlj, hc, hfold, P1, T1, hT1, hB1, f1, b1⟩
      cases c with
      | zero =>
        have cc : nI (min left (Mo s)) < nI j := nI_lt (by omega) (by omega)
        simp only [zf_X6_chooseFrom_L111, if_pos cc, zev_some]
        refine Or.inr ⟨_, rfl, Tr1, Be1, C1, ?_, T1, hT1, ?_, f1, b1⟩
        · rw [hfold]; exact P1
        · rw [hfold]; exact hB1
      | succ c =>
        have cc : ¬ nI (min left (Mo s)) < nI j := nI_nlt (by omega) (by omega)
        rw [List.range'_succ, List.foldl_cons] at hfold
        obtain ⟨b3, t3, t4, P2, f2, b2⟩ := P1.tried (s := s) (j := j) b1
        have L1 := L.fr f1 (fun (q : ol = 15 ∨ ol = 16) => by omega)
        have T2 := T1.fr f2 (by decide)
        have L2 := L1.fr f2 (fun (q : ol = 15) => by omega)
        simp only [zf_X6_chooseFrom_L111, if_neg cc, zev_b1, zev_bd, zev_some, zev_gi, zev_gj, zev_gr, zev_pi, zev_pz, zev_pj, zev_pr, zev_rc, zev_cc, zev_b0, zev_bo, true_and, and_true, P1.O, t3, zev_si2 (show s < 2 ^ 31 by omega), show zO M1 b3 14 from t4.1, t4.2, show s < 6 by omega, zf_X6_slotOf, nI_m13]
        generalize zm_pi M1 b3 s (nI j) = M2 at P2 f2 b2 T2 L2 ⊢
        have ta2 := P2.2.2.1
        simp only [P2.O, ta2, zev_b1, zev_bd, zev_some, zev_gi, zev_gj, zev_gr, zev_pi, zev_pz, zev_pj, zev_pr, zev_rc, zev_cc, zev_b0, zev_bo, true_and, and_true, T2.1]
        refine zev_mono (zTa_choose T2 (s := s) (c := 13 * s + j) (by omega) (by omega) b2) ?_
        rintro ⟨M3, u0⟩ hh
        dsimp only at hh ⊢
        obtain ⟨T3, f3, b3'⟩ := hh
        have P3 := P2.fr f3 (by decide)
        have L3 := L2.fr f3 (fun (q : ol = 16) => by omega)
        have P3' := P3
        obtain ⟨g1, g2, g3, g4, g5, g6, g7, g8, g9, x1, x2, x3, x4, x8, y1, y2, y3, y4, y8, w1, w2, w3, w4, w8, mm, d1, d2, d3, d4, d8⟩ := P3'
        have es : nI left - nI j = nI (left - j) := pk_sub (by omega)
        simp only [g1, y1, zev_b1, zev_bd, zev_some, zev_gi, zev_gj, zev_gr, zev_pi, zev_pz, zev_pj, zev_pr, zev_rc, zev_cc, zev_b0, zev_bo, true_and, and_true, zev_aj2 (show 13 * s + j < 2 ^ 31 by omega), show zO M3 x1 15 from w1.1.1, w1.1.2, show 13 * s + j < 78 by omega, d1 (13 * s + j) (by omega), nI_1, es]
        refine zev_mono (zPl_cf hol ok hok hMo hD n (s + 1) (left - j) d (dear + D (13 * s + j)) (fuN tr s j) b M3 (fuN Tr1 s j) Be1 (fuN C1 s (13 * s + j)) (by omega) (by omega) (by omega) P3 T3 L3 (fun i hi => ?_) hB1 b3') ?_
        · unfold fuN
          by_cases e : i = s
          · subst e
            rw [if_pos rfl, if_pos rfl, if_pos rfl]
            exact ⟨rfl, rfl, by omega⟩
          · rw [if_neg e, if_neg e, if_neg e]
            exact hT1 i (by omega)
        rintro ⟨M4, u1⟩ hh
        dsimp only at hh ⊢
        obtain ⟨Tr4, Be4, C4, P4, T4, hT4, hB4, f4, b4⟩ := hh
        refine Or.inl ⟨_, c, rfl, ⟨M4, j + 1, _, Tr4, Be4, C4, rfl, by omega, by omega, by omega, hfold, P4, T4, fun i hi => ?_, hB4, ?_, b4⟩, by omega⟩
        · have q := hT4 i (by omega)
          have e : fuN tr s j i = tr i := by unfold fuN; rw [if_neg (by omega)]
          rw [e] at q
          exact q
        · exact ((f1.tr (f2.mono (fun z q => Or.inl q))).tr (f3.mono (fun z q => Or.inr q))).tr f4
    have key2 : ¬ (a.1 ≠ -1 ∧ ¬ dear < a.1) → zev (zf_X6_chooseFrom_J21 (zf_X6_chooseFrom (d + 1)) M (some p) (nI s) (nI left) dear) (fun y => ∃ Tr' Be' C', zPl y.1 g p ta D Mo Tr' Be' (some la) cnt (cfr cnt Mo D ok (n + 1) s left dear tr a).1 st ∧ zTa y.1 g 16 ta 78 S C' cnt tot ∧ (∀ i, i < s → Tr' i = tr i ∧ C' i = 13 * i + tr i ∧ tr i ≤ 12) ∧ (∀ i, i < cnt → Be' i = (cfr cnt Mo D ok (n + 1) s left dear tr a).2 i) ∧ zFo M g y.1 g (fun z => z = 15 ∨ z = 16) ∧ zBu y.1 g k) := by
      intro hne
      have cA : nI s < nI cnt := nI_lt (by omega) (by omega)
      have eP : nI cnt - 1 = nI (cnt - 1) := pk_sub (b := 1) (by omega)
      simp only [cfr, if_neg hne, zf_X6_chooseFrom_J21, zev_b1, zev_bd, zev_some, zev_gi, zev_gj, zev_gr, zev_pi, zev_pz, zev_pj, zev_pr, zev_rc, zev_cc, zev_b0, zev_bo, true_and, and_true, h1, h5, if_pos cA, eP]
      by_cases hlast : s = cnt - 1
      · rw [if_pos (show nI s = nI (cnt - 1) by rw [← hlast])]
        simp only [if_pos hlast]
        exact key left hl _ rfl
      · rw [if_neg (fun e => hlast ((nI_eq (by omega) (by omega)).mp e))]
        simp only [if_neg hlast]
        exact key 0 (by omega) _ rfl
    simp only [zf_X6_chooseFrom, zf_X6_chooseFrombody, zev_b1, zev_bd, zev_some, zev_gi, zev_gj, zev_gr, zev_pi, zev_pz, zev_pj, zev_pr, zev_rc, zev_cc, zev_b0, zev_bo, true_and, and_true, h1, h7]
    by_cases e1 : a.1 = -1
    · rw [if_pos e1]
      exact key2 (fun q => q.1 e1)
    · rw [if_neg e1]
      simp only [zev_b1, zev_bd, zev_some, zev_gi, zev_gj, zev_gr, zev_pi, zev_pz, zev_pj, zev_pr, zev_rc, zev_cc, zev_b0, zev_bo, true_and, and_true, h1, h7]
      by_cases e2 : dear < a.1
      · rw [if_pos e2]
        exact key2 (fun q => q.2 e2)
      · rw [if_neg e2]
        simp only [zev_some, cfr, if_pos (And.intro e1 e2)]
        exact ⟨Tr, Be, C, P, T, hT, hB, zFo.rf, hb⟩
