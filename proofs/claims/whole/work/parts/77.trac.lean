/-! Trace; a new Wine; division by what is not 0. -/
theorem zev_id50 {x : Int32} {Q : Int32 → Prop} : zev (zo_id x 50) Q ↔ Q (x / 50) := zev_id.trans (and_iff_right (by decide))
theorem zev_id1k {x : Int32} {Q : Int32 → Prop} : zev (zo_id x 1000) Q ↔ Q (x / 1000) := zev_id.trans (and_iff_right (by decide))
theorem zev_id2k {x : Int32} {Q : Int32 → Prop} : zev (zo_id x 2000) Q ↔ Q (x / 2000) := zev_id.trans (and_iff_right (by decide))
theorem zev_ld10 {x : Int64} {Q : Int64 → Prop} : zev (zo_ld x 10) Q ↔ Q (x / 10) := zev_ld.trans (and_iff_right (by decide))
theorem zev_ldw {x : Int64} {Q : Int64 → Prop} : zev (zo_ld x 10000) Q ↔ Q (x / 10000) := zev_ld.trans (and_iff_right (by decide))
theorem zev_nl {M : Zm} {k n : Nat} {v : Int32} {Q : Zm → Prop} (hv : v = nI n) (hn : n < 2 ^ 31) (h1 : zm_c M + 1 ≤ 600000) (h2 : zm_s M + n ≤ 7302250) : zev (zo_na M k v) Q ↔ Q (zm_n M k n) := by
  rw [hv]; exact zev_na hn h1 h2
theorem yn_O {M : Zm} {k n a c : Nat} (h : zO M a c) : zO (zm_n M k n) a c := (zFr.n (S := fun _ => True)).ob h
theorem yn_new {M : Zm} {k n : Nat} : zO (zm_n M k n) (zm_b M + zm_c M) k := zn_ob
theorem yn_len {M : Zm} {k n : Nat} : zm_l (zm_n M k n) (zm_b M + zm_c M) = n := zn_ar.2
theorem zO_ne {M : Zm} {a c : Nat} (h : zO M a c) : a ≠ zm_b M + zm_c M := fun e => by have := h.1.2; omega
/-- what ran, the first cap of it -/
def tapp (cap : Nat) (l vs : List Int32) : List Int32 := (l ++ vs).take cap
theorem tapp_tapp {cap : Nat} {l a b : List Int32} : tapp cap (tapp cap l a) b = tapp cap l (a ++ b) := by
  unfold tapp
  have e : cap - min cap (l ++ a).length = cap - (l ++ a).length := by omega
  rw [← List.append_assoc, List.take_append, List.take_append (l₁ := l ++ a), List.take_take, Nat.min_self, List.length_take, e]
theorem tapp_nil {cap : Nat} {l : List Int32} (h : l.length ≤ cap) : tapp cap l [] = l := by
  unfold tapp
  rw [List.append_nil, List.take_of_length_le h]
def zTr (M : Zm) (g : Zg) (o t cap : Nat) (l : List Int32) : Prop := zO M t 10 ∧ g.1 t = o ∧ ∃ na, zm_r M t 0 = some na ∧ zO M na 14 ∧ zm_l M na = cap ∧ g.1 na = o ∧ zm_i M t 1 = nI l.length ∧ l.length ≤ cap ∧ cap < 2 ^ 20 ∧ (∀ i v, l[i]? = some v → zm_i M na i = v)
theorem zTr.fr {M M' : Zm} {g g' : Zg} {T : Nat → Prop} {o t cap : Nat} {l : List Int32} (h : zTr M g o t cap l) (f : zFo M g M' g' T) (hn : ¬ T o) : zTr M' g' o t cap l := by
  obtain ⟨h1, h2, na, h3, h4, h5, h6, h7, h8, h9, h10⟩ := h
  have e1 := f.at h1.1 h2 hn
  have e2 := f.at h4.1 h6 hn
  exact ⟨f.O h1, f.own h1.1 h2, na, by rw [e1.2.2]; exact h3, f.O h4, (f.A (show zA M na 14 cap from ⟨h4, h5⟩)).2, f.own h4.1 h6, by rw [e1.1]; exact h7, h8, h9, fun i v hv => by rw [e2.1]; exact h10 i v hv⟩
theorem zTr.len {M : Zm} {g : Zg} {o t cap : Nat} {l : List Int32} (h : zTr M g o t cap l) : l.length ≤ cap := by
  obtain ⟨h1, h2, na, h3, h4, h5, h6, h7, h8, h9, h10⟩ := h
  exact h8
theorem zTr_ran {M : Zm} {g : Zg} {o t cap k : Nat} {l : List Int32} (h : zTr M g o t cap l) (v : Int32) (hb : zBu M g k) : zev (zf_X9_ran M (some t) v) (fun y => zTr y.1 g o t cap (tapp cap l [v]) ∧ zFo M g y.1 g (fun z => z = o) ∧ zBu y.1 g k) := by
  obtain ⟨h1, h2, na, h3, h4, h5, h6, h7, h8, h9, h10⟩ := h
  have c31 : cap < 2 ^ 31 := by omega
  have tn : ¬ t = na := zkne h1.2 h4.2 (by decide)
  have nt : ¬ na = t := fun e => tn e.symm
  by_cases hlt : l.length < cap
  · have c : ¬ nI cap ≤ nI l.length := nI_ge hlt c31
    have hl31 : l.length < 2 ^ 31 := by omega
    have e : tapp cap l [v] = l ++ [v] := List.take_of_length_le (by simp; omega)
    simp only [zf_X9_ran, zev_b1, zev_bd, zev_some, zev_gi, zev_gj, zev_gr, zev_pi, zev_pz, zev_pj, zev_pr, zev_rc, zev_cc, zev_b0, zev_bo, true_and, and_true, ypi_i, ypj_j, ypr_r, zpi_j, zpi_r, zpj_i, zpj_r, zpr_i, zpr_j, ypi_O, ypj_O, ypr_O, zpi_l, zpj_l, zpr_l, zpi_b, zpi_c, zpj_b, zpj_c, zpr_b, zpr_c, zpi_s, zpj_s, zpr_s, h1, h3, h7, zev_al2 h4 (by decide) (by decide), h5, if_neg c, zev_si2 hl31, h4, hlt, nt, tn, false_and, if_false]
    rw [e]
    refine ⟨⟨h1, h2, na, h3, h4, h5, h6, ?_, ?_, h9, ?_⟩, (zFo.pi h6).tr (zFo.pi h2), hb.same rfl rfl⟩
    · rw [ypi_i, if_pos ⟨rfl, rfl⟩, nI_1]; simp
    · simp; omega
    · intro i w hw
      rw [ypi_i, if_neg (fun q => nt q.1), ypi_i]
      by_cases hi : i = l.length
      · subst hi
        rw [List.getElem?_append_right (Nat.le_refl _)] at hw
        simp at hw
        rw [if_pos ⟨rfl, rfl⟩]; exact hw
      · rw [if_neg (fun q => hi q.2)]
        have hlt2 := (List.getElem?_eq_some_iff.mp hw).1
        simp at hlt2
        rw [List.getElem?_append_left (by omega)] at hw
        exact h10 i w hw
  · have c : nI cap ≤ nI l.length := nI_le (by omega) (by omega)
    have e : tapp cap l [v] = l := by
      unfold tapp
      rw [List.take_append, List.take_of_length_le h8, show cap - l.length = 0 by omega, List.take_zero, List.append_nil]
    simp only [zf_X9_ran, zev_b1, zev_bd, zev_some, zev_gi, zev_gj, zev_gr, zev_pi, zev_pz, zev_pj, zev_pr, zev_rc, zev_cc, zev_b0, zev_bo, true_and, and_true, h1, h3, h7, zev_al2 h4 (by decide) (by decide), h5, if_pos c]
    rw [e]
    exact ⟨⟨h1, h2, na, h3, h4, h5, h6, h7, h8, h9, h10⟩, zFo.rf, hb⟩
theorem zTr_clear {M : Zm} {g : Zg} {o t cap k : Nat} {l : List Int32} (h : zTr M g o t cap l) (hb : zBu M g k) : zev (zf_X9_clear M (some t)) (fun y => zTr y.1 g o t cap [] ∧ zFo M g y.1 g (fun z => z = o) ∧ zBu y.1 g k) := by
  obtain ⟨h1, h2, na, h3, h4, h5, h6, h7, h8, h9, h10⟩ := h
  simp only [zf_X9_clear, zev_b1, zev_bd, zev_some, zev_gi, zev_gj, zev_gr, zev_pi, zev_pz, zev_pj, zev_pr, zev_rc, zev_cc, zev_b0, zev_bo, true_and, and_true, h1]
  refine ⟨⟨h1, h2, na, h3, h4, h5, h6, ?_, Nat.zero_le _, h9, fun i v hv => by simp at hv⟩, zFo.pi h2, hb.same rfl rfl⟩
  rw [ypi_i, if_pos ⟨rfl, rfl⟩]; rfl
def trd (i : Int32) (l : List Int32) : Int32 := if i < 0 then 0 else (l[i.toNatClampNeg]?).getD 0
theorem zTr_read {M : Zm} {g : Zg} {o t cap : Nat} {l : List Int32} (h : zTr M g o t cap l) (i : Int32) : zf_X9_read M (some t) i = some (M, trd i l) := by
  obtain ⟨h1, h2, na, h3, h4, h5, h6, h7, h8, h9, h10⟩ := h
  unfold trd
  by_cases hi : i < 0
  · simp only [zf_X9_read, if_pos hi, zf_X9_read_J12]
  · obtain ⟨j, hj, rfl⟩ := nI_of hi
    rw [if_neg hi, nI_clamp hj]
    have hz : zev (zf_X9_read M (some t) (nI j)) (fun y => y = (M, (l[j]?).getD 0)) := by
      by_cases hlt : j < l.length
      · obtain ⟨v, hv⟩ := getElem?_lt hlt
        have c : nI j < nI l.length := nI_lt hlt (by omega)
        simp only [zf_X9_read, if_neg hi, zev_b1, zev_bd, zev_some, zev_gi, zev_gj, zev_gr, zev_pi, zev_pz, zev_pj, zev_pr, zev_rc, zev_cc, zev_b0, zev_bo, true_and, and_true, h1, h7, if_pos c, h3, zev_ai2 hj, h4, h5, show j < cap by omega, h10 j v hv, hv, Option.getD_some]
      · have c : ¬ nI j < nI l.length := nI_nlt (by omega) hj
        simp only [zf_X9_read, if_neg hi, zev_b1, zev_bd, zev_some, zev_gi, zev_gj, zev_gr, zev_pi, zev_pz, zev_pj, zev_pr, zev_rc, zev_cc, zev_b0, zev_bo, true_and, and_true, h1, h7, if_neg c, zf_X9_read_J12, List.getElem?_eq_none (Nat.le_of_not_lt hlt), Option.getD_none]
    obtain ⟨y, hy, rfl⟩ := hz
    exact hy
theorem zBu_gy {M M' : Zm} {g : Zg} {o p a c k e ds dc : Nat} (h : zBu M g (k + 4 * zcm o + e)) (hs : zm_s M' = zm_s M + ds) (hc : zm_c M' = zm_c M + dc) (h3 : ds ≤ e) (h4 : dc ≤ e) : zBu M' (zgx g o p a c) k := by
  have e := zcd_any (f := g.2) (f' := (zgx g o p a c).2) (o := o) (fun x hx => zgx_2n hx) 3100
  unfold zBu at *
  rw [hs, hc]
  omega
/-- a new row, whose memory is known by what holds of it -/
theorem zev_new {M : Zm} {k n : Nat} {v : Int32} {Q : Zm → Prop} (hv : v = nI n) (hn : n < 2 ^ 31) (h1 : zm_c M + 1 ≤ 600000) (h2 : zm_s M + n ≤ 7302250) (hQ : ∀ M2, zFr M M2 (fun _ => False) → zA M2 (zm_b M + zm_c M) k n → zm_c M2 = zm_c M + 1 → zm_s M2 = zm_s M + n → (∀ j, zm_i M2 (zm_b M + zm_c M) j = 0 ∧ zm_j M2 (zm_b M + zm_c M) j = 0 ∧ zm_r M2 (zm_b M + zm_c M) j = none) → Q M2) : zev (zo_na M k v) Q :=
  (zev_nl hv hn h1 h2).mpr (hQ _ zFr.n zn_ar rfl rfl (fun j => ⟨by rw [yn_i, if_pos rfl], by rw [yn_j, if_pos rfl], by rw [yn_r, if_pos rfl]⟩))
theorem zev_nob {M : Zm} {k n : Nat} {Q : Zm → Prop} (h1 : zm_c M + 1 ≤ 600000) (h2 : zm_s M + n ≤ 7302250) (hQ : ∀ M2, zFr M M2 (fun _ => False) → zA M2 (zm_b M + zm_c M) k n → zm_c M2 = zm_c M + 1 → zm_s M2 = zm_s M + n → (∀ j, zm_i M2 (zm_b M + zm_c M) j = 0 ∧ zm_j M2 (zm_b M + zm_c M) j = 0 ∧ zm_r M2 (zm_b M + zm_c M) j = none) → Q M2) : zev (zo_n M k n) Q :=
  (zev_n h1 h2).mpr (hQ _ zFr.n zn_ar rfl rfl (fun j => ⟨by rw [yn_i, if_pos rfl], by rw [yn_j, if_pos rfl], by rw [yn_r, if_pos rfl]⟩))
theorem zWo_init {M : Zm} {g : Zg} {o w k : Nat} (hO : zO M w 11) (hg : g.1 w = o) (ho : o < 3100) (h4 : 4 ≤ zcm o) (hb : zBu M g (k + 4 * zcm o + 8)) : zev (zf_X10_init M (some w)) (fun y => ∃ g', zWo y.1 g' o w [] ∧ zFo M g y.1 g' (fun z => z = o) ∧ zBu y.1 g' k) := by
  have b1 := hb.1
  have b2 := hb.2
  have n1 : w ≠ zm_b M + zm_c M := zO_ne hO
  simp only [zf_X10_init, zev_b1, zev_bd, zev_some, zev_gi, zev_gj, zev_gr, zev_pi, zev_pz, zev_pj, zev_pr, zev_rc, zev_cc, zev_b0, zev_bo, true_and, and_true, hO, zm_nx]
  refine zev_new (n := 4) rfl (by decide) (by omega) (by omega) (fun M2 f2 A2 c2 s2 _ => ?_)
  refine ⟨f2.ob hO, ?_⟩
  have f3 : zFr M2 (zm_pr M2 w 0 (some (zm_b M + zm_c M))) (fun a => a = w) := zFr.pr rfl
  have r3 : zm_r (zm_pr M2 w 0 (some (zm_b M + zm_c M))) w 0 = some (zm_b M + zm_c M) := by rw [ypr_r, if_pos ⟨rfl, rfl⟩]
  have c3 : zm_c (zm_pr M2 w 0 (some (zm_b M + zm_c M))) = zm_c M + 1 := c2
  have s3 : zm_s (zm_pr M2 w 0 (some (zm_b M + zm_c M))) = zm_s M + 4 := s2
  generalize zm_pr M2 w 0 (some (zm_b M + zm_c M)) = M3 at f3 r3 c3 s3 ⊢
  refine zev_new (n := 4) rfl (by decide) (by omega) (by omega) (fun M4 f4 A4 c4 s4 _ => ?_)
  have f04 : zFr M M4 (fun a => a = w) := ((f2.mono (fun _ _ q => q.elim)).tr f3).tr (f4.mono (fun _ _ q => q.elim))
  have b3 : zm_b M3 = zm_b M := f3.2.1.trans f2.2.1
  have hW := f04.ob hO
  have n2 : w ≠ zm_b M3 + zm_c M3 := fun e => by have := hO.1.2; omega
  have hw3 : zm_ok M3 w := f3.ok (f2.ok hO.1)
  have r4 : zm_r M4 w 0 = some (zm_b M + zm_c M) := by rw [(f4.2.2.2.2.2 w hw3 id).2.2]; exact r3
  have A2' := f4.ar (f3.ar A2)
  refine ⟨hW, hW, hW, ?_⟩
  have f5 : zFr M4 (zm_pj (zm_pi (zm_pr M4 w 1 (some (zm_b M3 + zm_c M3))) w 2 0) w 3 0) (fun a => a = w) := ((zFr.pr (S := fun a => a = w) rfl).tr (zFr.pi rfl)).tr (zFr.pj rfl)
  refine ⟨zgx g o (zm_b M + zm_c M) (zm_b M3 + zm_c M3) 4, ⟨zm_b M + zm_c M, zm_b M3 + zm_c M3, ?_, ?_, zgx_1p, zgx_1a, by rw [zgx_2]; exact h4, 0, ?_⟩, zgx_fo ((f04.tr f5).mono (fun a _ q => by rw [q]; exact hg)) rfl (fun q => by have := q.2; omega) (fun q => by have := q.2; omega), zBu_gy hb (ds := 8) (dc := 2) (by show zm_s M4 = _; omega) (by show zm_c M4 = _; omega) (by omega) (by omega)⟩
  · rw [zgx_2]
    refine ⟨f5.ob hW, ?_, ?_, f5.ar A2', f5.ar A4, ?_, ?_, Nat.zero_le _, by decide, fun i q hq => by simp at hq, trivial⟩
    · show zm_r (zm_pr M4 w 1 (some (zm_b M3 + zm_c M3))) w 0 = _
      rw [ypr_r, if_neg (by simp)]; exact r4
    · show zm_r (zm_pr M4 w 1 (some (zm_b M3 + zm_c M3))) w 1 = _
      rw [ypr_r, if_pos ⟨rfl, rfl⟩]
    · rw [zpj_i, ypi_i, if_pos ⟨rfl, rfl⟩]; rfl
    · rw [ypj_j, if_pos ⟨rfl, rfl⟩]; rfl
  · simp [zgx, n1, n2, hg]
  · rw [zgx_2]
