/-! Trace; a new Wine; division by what is not 0. -/
theorem zev_id50 {x : Int32} {Q : Int32 → Prop} : zev (zo_id x 50) Q ↔ Q (x / 50) := zev_id.trans (and_iff_right (by decide))
theorem zev_id1k {x : Int32} {Q : Int32 → Prop} : zev (zo_id x 1000) Q ↔ Q (x / 1000) := zev_id.trans (and_iff_right (by decide))
theorem zev_id2k {x : Int32} {Q : Int32 → Prop} : zev (zo_id x 2000) Q ↔ Q (x / 2000) := zev_id.trans (and_iff_right (by decide))
theorem zev_ld10 {x : Int64} {Q : Int64 → Prop} : zev (zo_ld x 10) Q ↔ Q (x / 10) := zev_ld.trans (and_iff_right (by decide))
theorem zev_ldw {x : Int64} {Q : Int64 → Prop} : zev (zo_ld x 10000) Q ↔ Q (x / 10000) := zev_ld.trans (and_iff_right (by decide))
theorem zev_nl {M : Zm} {k n : Nat} {v : Int32} {Q : Zm → Prop} (hv : v = nI n) (hn : n < 2 ^ 31) (h1 : zm_c M + 1 ≤ 600000) (h2 : zm_s M + n ≤ 7302250) : zev (zo_na M k v) Q ↔ Q (zm_n M k n) := by
  rw [hv]; exact zev_na hn h1 h2
theorem yn_O {M : Zm} {k n a c : Nat} (h : zO M a c) : zO (zm_n M k n) a c := (zFr.n (S := fun _ => True)).ob h
theorem yn_new {M : Zm} {k n : Nat} : zO (zm_n M k n) (zm_b M + zm_c M) k := zn_ob
theorem yn_len {M : Zm} {k n : Nat} : zm_l (zm_n M k n) (zm_b M + zm_c M) = n := zn_ar.2
theorem zO_ne {M : Zm} {a c : Nat} (h : zO M a c) : a ≠ zm_b M + zm_c M := fun e => by have := h.1.2; omega
/-- what ran, the first cap of it -/
def tapp (cap : Nat) (l vs : List Int32) : List Int32 := (l ++ vs).take cap
theorem tapp_tapp {cap : Nat} {l a b : List Int32} : tapp cap (tapp cap l a) b = tapp cap l (a ++ b) := by
  unfold tapp
  have e : cap - min cap (l ++ a).length = cap - (l ++ a).length := by omega
  rw [← List.append_assoc, List.take_append, List.take_append (l₁ := l ++ a), List.take_take, Nat.min_self, List.length_take, e]
theorem tapp_nil {cap : Nat} {l : List Int32} (h : l.length ≤ cap) : tapp cap l [] = l := by
  unfold tapp
  rw [List.append_nil, List.take_of_length_le h]
def zTr (M : Zm) (g : Zg) (o t cap : Nat) (l : List Int32) : Prop := zO M t 10 ∧ g.1 t = o ∧ ∃ na, zm_r M t 0 = some na ∧ zO M na 14 ∧ zm_l M na = cap ∧ g.1 na = o ∧ zm_i M t 1 = nI l.length ∧ l.length ≤ cap ∧ cap < 2 ^ 20 ∧ (∀ i v, l[i]? = some v → zm_i M na i = v)
theorem zTr.fr {M M' : Zm} {g g' : Zg} {T : Nat → Prop} {o t cap : Nat} {l : List Int32} (h : zTr M g o t cap l) (f : zFo M g M' g' T) (hn : ¬ T o) : zTr M' g' o t cap l := by
  obtain ⟨h1, h2, na, h3, h4, h5, h6, h7, h8, h9, h10⟩ := h
  have e1 := f.at h1.1 h2 hn
  have e2 := f.at h4.1 h6 hn
  exact ⟨f.O h1, f.own h1.1 h2, na, by rw [e1.2.2]; exact h3, f.O h4, (f.A (show zA M na 14 cap from ⟨h4, h5⟩)).2, f.own h4.1 h6, by rw [e1.1]; exact h7, h8, h9, fun i v hv => by rw [e2.1]; exact h10 i v hv⟩
theorem zTr.len {M : Zm} {g : Zg} {o t cap : Nat} {l : List Int32} (h : zTr M g o t cap l) : l.length ≤ cap := by
  obtain ⟨h1, h2, na, h3, h4, h5, h6, h7, h8, h9, h10⟩ := h
  exact h8
theorem zTr_ran {M : Zm} {g : Zg} {o t cap k : Nat} {l : List Int32} (h : zTr M g o t cap l) (v : Int32) (hb : zBu M g k) : zev (zf_X9_ran M (some t) v) (fun y => zTr y.1 g o t cap (tapp cap l [v]) ∧ zFo M g y.1 g (fun z => z = o) ∧ zBu y.1 g k) := by
  obtain ⟨h1, h2, na, h3, h4, h5, h6, h7, h8, h9, h10⟩ := h
  have c31 : cap < 2 ^ 31 := by omega
  have tn : ¬ t = na := zkne h1.2 h4.2 (by decide)
  have nt : ¬ na = t := fun e => tn e.symm
  by_cases hlt : l.length < cap
  · have c : ¬ nI cap ≤ nI l.length := nI_ge hlt c31
    have hl31 : l.length < 2 ^ 31 := by omega
    have e : tapp cap l [v] = l ++ [v] := List.take_of_length_le (by simp; omega)
    simp only [zf_X9_ran, zev_b1, zev_bd, zev_some, zev_gi, zev_gj, zev_gr, zev_pi, zev_pz, zev_pj, zev_pr, zev_rc, zev_cc, zev_b0, zev_bo, true_and, and_true, ypi_i, ypj_j, ypr_r, zpi_j, zpi_r, zpj_i, zpj_r, zpr_i, zpr_j, ypi_O, ypj_O, ypr_O, zpi_l, zpj_l, zpr_l, zpi_b, zpi_c, zpj_b, zpj_c, zpr_b, zpr_c, zpi_s, zpj_s, zpr_s, h1, h3, h7, zev_al2 h4 (by decide) (by decide), h5, if_neg c, zev_si2 hl31, h4, hlt, nt, tn, false_and, if_false]
    rw [e]
    refine ⟨⟨h1, h2, na, h3, h4, h5, h6, ?_, ?_, h9, ?_⟩, (zFo.pi h6).tr (zFo.pi h2), hb.same rfl rfl⟩
    · rw [ypi_i, if_pos ⟨rfl, rfl⟩, nI_1]; simp
    · simp; omega
    · intro i w hw
      rw [ypi_i, if_neg (fun q => nt q.1), ypi_i]
      by_cases hi : i = l.length
      · subst hi
        rw [List.getElem?_append_right (Nat.le_refl _)] at hw
        simp at hw
        rw [if_pos ⟨rfl, rfl⟩]; exact hw
      · rw [if_neg (fun q => hi q.2)]
        have hlt2 := (List.getElem?_eq_some_iff.mp hw).1
        simp at hlt2
        rw [List.getElem?_append_left (by omega)] at hw
        exact h10 i w hw
  · have c : nI cap ≤ nI l.length := nI_le (by omega) (by omega)
    have e : tapp cap l [v] = l := by
      unfold tapp
      rw [List.take_append, List.take_of_length_le h8, show cap - l.length = 0 by omega, List.take_zero, List.append_nil]
    simp only [zf_X9_ran, zev_b1, zev_bd, zev_some, zev_gi, zev_gj, zev_gr, zev_pi, zev_pz, zev_pj, zev_pr, zev_rc, zev_cc, zev_b0, zev_bo, true_and, and_true, h1, h3, h7, zev_al2 h4 (by decide) (by decide), h5, if_pos c]
    rw [e]
    exact ⟨⟨h1, h2, na, h3, h4, h5, h6, h7, h8, h9, h10⟩, zFo.rf, hb⟩
theorem zTr_clear {M : Zm} {g : Zg} {o t cap k : Nat} {l : List Int32} (h : zTr M g o t cap l) (hb : zBu M g k) : zev (zf_X9_clear M (some t)) (fun y => zTr y.1 g o t cap [] ∧ zFo M g y.1 g (fun z => z = o) ∧ zBu y.1 g k) := by
  obtain ⟨h1, h2, na, h3, h4, h5, h6, h7, h8, h9, h10⟩ := h
  simp only [zf_X9_clear, zev_b1, zev_bd, zev_some, zev_gi, zev_gj, zev_gr, zev_pi, zev_pz, zev_pj, zev_pr, zev_rc, zev_cc, zev_b0, zev_bo, true_and, and_true, h1]
  refine ⟨⟨h1, h2, na, h3, h4, h5, h6, ?_, Nat.zero_le _, h9, fun i v hv => by simp at hv⟩, zFo.pi h2, hb.same rfl rfl⟩
  rw [ypi_i, if_pos ⟨rfl, rfl⟩]; rfl
def trd (i : Int32) (l : List Int32) : Int32 := if i < 0 then 0 else (l[i.toNatClampNeg]?).getD 0
theorem zTr_read {M : Zm} {g : Zg} {o t cap : Nat} {l : List Int32} (h : zTr M g o t cap l) (i : Int32) : zf_X9_read M (some t) i = some (M, trd i l) := by
  obtain ⟨h1, h2, na, h3, h4, h5, h6, h7, h8, h9, h10⟩ := h
  unfold trd
  by_cases hi : i < 0
  · simp only [zf_X9_read, if_pos hi, zf_X9_read_J12]
  · obtain ⟨j, hj, rfl⟩ := nI_of hi
    rw [if_neg hi, nI_clamp hj]
    have hz : zev (zf_X9_read M (some t) (nI j)) (fun y => y = (M, (l[j]?).getD 0)) := by
      by_cases hlt : j < l.length
      · obtain ⟨v, hv⟩ := getElem?_lt hlt
        have c : nI j < nI l.length := nI_lt hlt (by omega)
        simp only [zf_X9_read, if_neg hi, zev_b1, zev_bd, zev_some, zev_gi, zev_gj, zev_gr, zev_pi, zev_pz, zev_pj, zev_pr, zev_rc, zev_cc, zev_b0, zev_bo, true_and, and_true, h1, h7, if_pos c, h3, zev_ai2 hj, h4, h5, show j < cap by omega, h10 j v hv, hv, Option.getD_some]
      · have c : ¬ nI j < nI l.length := nI_nlt (by omega) hj
        simp only [zf_X9_read, if_neg hi, zev_b1, zev_bd, zev_some, zev_gi, zev_gj, zev_gr, zev_pi, zev_pz, zev_pj, zev_pr, zev_rc, zev_cc, zev_b0, zev_bo, true_and, and_true, h1, h7, if_neg c, zf_X9_read_J12, List.getElem?_eq_none (Nat.le_of_not_lt hlt), Option.getD_none]
    obtain ⟨y, hy, rfl⟩ := hz
    exact hy
theorem zWo_init {M : Zm} {g : Zg} {o w k : Nat} (hO : zO M w 11) (hg : g.1 w = o) (ho : o < 3100) (h4 : 4 ≤ zcm o) (hb : zBu M g (k + 4 * zcm o + 8)) : zev (zf_X10_init M (some w)) (fun y => ∃ g', zWo y.1 g' o w [] ∧ zFo M g y.1 g' (fun z => z = o) ∧ zBu y.1 g' k) := by
  have b1 := hb.1
  have b2 := hb.2
  have n1 : w ≠ zm_b M + zm_c M := zO_ne hO
  have n2 : w ≠ zm_b M + (zm_c M + 1) := fun e => by have := hO.1.2; omega
  have n3 : ¬ zm_b M + zm_c M = zm_b M + (zm_c M + 1) := by omega
  simp only [zf_X10_init, zev_b1, zev_bd, zev_some, zev_gi, zev_gj, zev_gr, zev_pi, zev_pz, zev_pj, zev_pr, zev_rc, zev_cc, zev_b0, zev_bo, true_and, and_true, hO, zm_nx]
  refine (zev_nl (n := 4) rfl (by decide) (by omega) (by omega)).mpr ?_
  refine ⟨yn_O hO, ?_⟩
  refine (zev_nl (n := 4) rfl (by decide) (by show zm_c M + 1 + 1 ≤ _; omega) (by show zm_s M + 4 + 4 ≤ _; omega)).mpr ?_
  have hf : zFr M (zm_n (zm_pr (zm_n M 14 4) w 0 (some (zm_b M + zm_c M))) 15 4) (fun a => a = w) := ((zFr.n (S := fun a => a = w)).tr (zFr.pr rfl)).tr zFr.n
  have hA := (((zFr.pr (S := fun _ => True) trivial).tr (zFr.n (M := zm_pr (zm_n M 14 4) w 0 (some (zm_b M + zm_c M))) (k := 15) (n := 4)))).ar (zn_ar (M := M) (k := 14) (n := 4))
  have hB := zn_ar (M := zm_pr (zm_n M 14 4) w 0 (some (zm_b M + zm_c M))) (k := 15) (n := 4)
  have hW := hf.ob hO
  refine ⟨hW, hW, hW, ?_⟩
  have hf' := ((hf.tr (zFr.pr (a := w) (k := 1) (v := some (zm_b M + (zm_c M + 1))) rfl)).tr (zFr.pi (a := w) (k := 2) (v := 0) rfl)).tr (zFr.pj (a := w) (k := 3) (v := 0) rfl)
  refine ⟨zgx g o (zm_b M + zm_c M) (zm_b M + (zm_c M + 1)) 4, ⟨zm_b M + zm_c M, zm_b M + (zm_c M + 1), ?_, ?_, zgx_1p, zgx_1a, by rw [zgx_2]; exact h4, 0, ?_⟩, zgx_fo (hf'.mono (fun a _ q => by rw [q]; exact hg)) rfl (fun q => by have := q.2; omega) (fun q => by have := q.2; omega), ?_⟩
  · rw [zgx_2]
    refine ⟨hW, ?_, ?_, hA, hB, ?_, ?_, Nat.zero_le _, by decide, fun i q hq => by simp at hq, trivial⟩
    · show zm_r (zm_pr (zm_n (zm_pr (zm_n M 14 4) w 0 (some (zm_b M + zm_c M))) 15 4) w 1 (some (zm_b M + (zm_c M + 1)))) w 0 = _
      rw [ypr_r, if_neg (by simp), yn_r, if_neg n2, ypr_r, if_pos ⟨rfl, rfl⟩]
    · show zm_r (zm_pr (zm_n (zm_pr (zm_n M 14 4) w 0 (some (zm_b M + zm_c M))) 15 4) w 1 (some (zm_b M + (zm_c M + 1)))) w 1 = _
      rw [ypr_r, if_pos ⟨rfl, rfl⟩]
    · rw [zpj_i, ypi_i, if_pos ⟨rfl, rfl⟩]; rfl
    · rw [ypj_j, if_pos ⟨rfl, rfl⟩]; rfl
  · simp [zgx, n1, n2, hg]
  · rw [zgx_2]
  · have e := zcd_any (f := g.2) (f' := (zgx g o (zm_b M + zm_c M) (zm_b M + (zm_c M + 1)) 4).2) (o := o) (fun x hx => zgx_2n hx) 3100
    refine ⟨?_, ?_⟩
    · show zm_s M + 4 + 4 + _ + k ≤ _; omega
    · show zm_c M + 1 + 1 + _ + k ≤ _; omega
