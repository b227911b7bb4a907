/-! Wine: lessen, countUneven, countWith, subtract, a new one. -/
def wles : Wn → List Int64 → Wn
  | q :: r, v :: s => if q.2 ≤ v then wles r s else (q.1, q.2 - v) :: wles r s
  | l, _ => l
def lsub (t : Int64) (s : List Int64) : Int64 := s.foldl (fun a v => a - v) t
theorem wles_nil (s : List Int64) : wles [] s = [] := by cases s <;> rfl
theorem wles_snoc : ∀ (l : Wn) (s : List Int64) (q : Int32 × Int64) (v : Int64), s.length = l.length → wles (l ++ [q]) (s ++ [v]) = wles l s ++ (if q.2 ≤ v then [] else [(q.1, q.2 - v)])
  | [], [], q, v, _ => by
    simp only [List.nil_append, wles, wles_nil]
  | [], _ :: _, _, _, h => by simp at h
  | _ :: _, [], _, _, h => by simp at h
  | y :: r, u :: s, q, v, h => by
    simp only [List.cons_append, wles]
    rw [wles_snoc r s q v (by simpa using h)]
    split <;> rfl
theorem wles_mem : ∀ (l : Wn) (s : List Int64) (q : Int32 × Int64), q ∈ wles l s → ∃ q' ∈ l, q'.1 = q.1
  | [], s, q, h => by rw [wles_nil] at h; simp at h
  | y :: r, [], q, h => ⟨q, h, rfl⟩
  | y :: r, v :: s, q, h => by
    simp only [wles] at h
    split at h
    · obtain ⟨q', h1, h2⟩ := wles_mem r s q h
      exact ⟨q', List.mem_cons_of_mem _ h1, h2⟩
    · rcases List.mem_cons.mp h with rfl | h
      · exact ⟨y, List.mem_cons_self, rfl⟩
      · obtain ⟨q', h1, h2⟩ := wles_mem r s q h
        exact ⟨q', List.mem_cons_of_mem _ h1, h2⟩
theorem wris_wles : ∀ (l : Wn) (s : List Int64), wris l → wris (wles l s)
  | [], s, h => by rw [wles_nil]; trivial
  | y :: r, [], h => h
  | y :: r, v :: s, h => by
    simp only [wles]
    split
    · exact wris_wles r s h.2
    · refine ⟨fun q hq => ?_, wris_wles r s h.2⟩
      obtain ⟨q', h1, h2⟩ := wles_mem r s q hq
      rw [← h2]
      exact h.1 q' h1
theorem wles_len : ∀ (l : Wn) (s : List Int64), (wles l s).length ≤ l.length
  | [], s => by rw [wles_nil]; exact Nat.le_refl _
  | y :: r, [] => Nat.le_refl _
  | y :: r, v :: s => by
    simp only [wles]
    have := wles_len r s
    split <;> simp <;> omega
theorem p2 {α β : Type} {a : α} {b b' : β} (h : b = b') : (a, b) = (a, b') := by rw [h]
theorem p3 {α β γ : Type} {a : α} {b b' : β} {c c' : γ} (h : b = b') (k : c = c') : (a, b, c) = (a, b', c') := by rw [h, k]
theorem take_snoc {α : Type} {l : List α} {i : Nat} {q : α} (h : l[i]? = some q) : l.take (i + 1) = l.take i ++ [q] := by
  rw [List.take_add_one, h]; rfl
theorem getElem?_lt {α : Type} {l : List α} {i : Nat} (h : i < l.length) : ∃ q, l[i]? = some q := ⟨_, List.getElem?_eq_getElem h⟩
theorem zWo_lessen {M : Zm} {g : Zg} {o w k ga n : Nat} {l : Wn} {s : List Int64} (h : zWo M g o w l) (hG : zO M ga 15) (hGl : zm_l M ga = n) (hn : l.length ≤ n) (hn31 : n < 2 ^ 31) (hs : ∀ i v, s[i]? = some v → zm_j M ga i = v) (hlen : s.length = l.length) (hgo : g.1 ga ≠ o) (hsum : lsub (wsum l) s = wsum (wles l s)) (hb : zBu M g k) : zev (zf_X10_lessen M (some w) (some ga)) (fun y => zWo y.1 g o w (wles l s) ∧ zFo M g y.1 g (fun z => z = o) ∧ zBu y.1 g k) := by
  obtain ⟨pa, aa, h1, h2, h3, h4, h5⟩ := h
  obtain ⟨a1, a2, a3, a4, a5, a6, a7, a8, a9, a10, a11⟩ := h1
  have hwp : w ≠ pa := zkne a1.2 a4.1.2 (by decide)
  have hwa : w ≠ aa := zkne a1.2 a5.1.2 (by decide)
  have hpa : pa ≠ aa := zkne a4.1.2 a5.1.2 (by decide)
  have hga : ga ≠ aa := fun e => hgo (e ▸ h4)
  have hgw : ga ≠ w := fun e => hgo (e ▸ h2)
  simp only [zf_X10_lessen, zev_b1, zev_bd, zev_some, zev_gi, zev_gj, zev_gr, zev_pi, zev_pz, zev_pj, zev_pr, zev_rc, zev_cc, zev_b0, zev_bo, true_and, and_true]
  refine zev_up (τ := Zm × Int32 × Int32) (fun i (x : Zm × Int32 × Int32) => ∃ M1, x = (M1, nI (wles (l.take i) (s.take i)).length, nI i) ∧ zFo M g M1 g (fun z => z = o) ∧ zm_r M1 w = zm_r M w ∧ zm_i M1 w 2 = nI l.length ∧ zm_j M1 w 3 = lsub (wsum l) (s.take i) ∧ (∀ j q, (wles (l.take i) (s.take i))[j]? = some q → zm_i M1 pa j = q.1 ∧ zm_j M1 aa j = q.2) ∧ (∀ j q, i ≤ j → l[j]? = some q → zm_i M1 pa j = q.1 ∧ zm_j M1 aa j = q.2) ∧ zm_c M1 = zm_c M ∧ zm_s M1 = zm_s M) l.length (i := 0) (Nat.zero_le _) ⟨M, rfl, zFo.rf, rfl, a6, a7, fun j q hq => by simp [wles] at hq, fun j q _ hq => a10 j q hq, rfl, rfl⟩ ?_ ?_
  · rintro i x hi ⟨M1, rfl, f, hr, hc, ht, hk, hrest, hc1, hs1⟩
    obtain ⟨q, hq⟩ := getElem?_lt hi
    obtain ⟨v, hv⟩ := getElem?_lt (show i < s.length by omega)
    have hW := f.O (show zO M w 11 from a1)
    have hPa := f.O (show zO M pa 14 from a4.1)
    have hAa := f.O (show zO M aa 15 from a5.1)
    have hGa := f.O hG
    have lPa : zm_l M1 pa = g.2 o := (f.A (show zA M pa 14 (g.2 o) from a4)).2
    have lAa : zm_l M1 aa = g.2 o := (f.A (show zA M aa 15 (g.2 o) from a5)).2
    have lGa : zm_l M1 ga = n := (f.A (show zA M ga 15 n from ⟨hG, hGl⟩)).2
    have hgi : zm_j M1 ga i = v := by rw [(f.at hG.1 rfl hgo).2.1]; exact hs i v hv
    have hkl : (wles (l.take i) (s.take i)).length ≤ i := by
      have := wles_len (l.take i) (s.take i)
      simp at this
      omega
    have i31 : i < 2 ^ 31 := by omega
    have k31 : (wles (l.take i) (s.take i)).length < 2 ^ 31 := by omega
    have hsn : wles (l.take (i + 1)) (s.take (i + 1)) = wles (l.take i) (s.take i) ++ (if q.2 ≤ v then [] else [(q.1, q.2 - v)]) := by
      rw [take_snoc hq, take_snoc hv]
      exact wles_snoc _ _ q v (by simp; omega)
    have hsb : lsub (wsum l) (s.take (i + 1)) = lsub (wsum l) (s.take i) - v := by
      rw [take_snoc hv]; simp [lsub]
    have hqi := hrest i q (Nat.le_refl _) hq
    have c1 : ¬ nI l.length ≤ nI i := nI_ge hi (by omega)
    have c2 : ¬ nI n ≤ nI i := nI_ge (by omega) hn31
    have hr0 : zm_r M1 w 0 = some pa := by rw [hr]; exact a2
    have hr1 : zm_r M1 w 1 = some aa := by rw [hr]; exact a3
    have icap : i < g.2 o := by omega
    have kcap : (wles (l.take i) (s.take i)).length < g.2 o := by omega
    have e1 : ¬ aa = w := Ne.symm hwa
    have e2 : ¬ pa = w := Ne.symm hwp
    simp only [zf_X10_lessen_L4, zf_X10_lessen_J25, zev_b1, zev_bd, zev_some, zev_gi, zev_gj, zev_gr, zev_pi, zev_pz, zev_pj, zev_pr, zev_rc, zev_cc, zev_b0, zev_bo, true_and, and_true, ypi_i, ypj_j, ypr_r, zpi_j, zpi_r, zpj_i, zpj_r, zpr_i, zpr_j, ypi_O, ypj_O, ypr_O, zpi_l, zpj_l, zpr_l, zpi_b, zpi_c, zpj_b, zpj_c, zpr_b, zpr_c, zpi_s, zpj_s, zpr_s, zev_ai2 i31, zev_aj2 i31, zev_si2 k31, zev_sj2 k31, zev_al2 hGa (by decide) (by decide), hW, hc, if_neg c1, lGa, if_neg c2, hGa, show i < n by omega, hgi, ht, hr0, hr1, hAa, lAa, icap, e1, false_and, if_false, hqi.2]
    by_cases hle : q.2 ≤ v
    · rw [if_pos hle]
      simp only [zf_X10_lessen_J80, zev_some]
      refine ⟨_, rfl, zm_pj M1 w 3 (lsub (wsum l) (s.take i) - v), ?_, f.tr (zFo.pj h2), hr, hc, ?_, ?_, ?_, hc1, hs1⟩
      · rw [hsn, if_pos hle, List.append_nil, nI_1]
      · rw [ypj_j, if_pos ⟨rfl, rfl⟩, hsb]
      · intro j q' hq'
        rw [hsn, if_pos hle, List.append_nil] at hq'
        rw [ypj_j, if_neg (fun e => e1 e.1)]
        exact hk j q' hq'
      · intro j q' hj hq'
        rw [ypj_j, if_neg (fun e => e1 e.1)]
        exact hrest j q' (by omega) hq'
    · rw [if_neg hle]
      simp only [zf_X10_lessen_J80, zev_b1, zev_bd, zev_some, zev_gi, zev_gj, zev_gr, zev_pi, zev_pz, zev_pj, zev_pr, zev_rc, zev_cc, zev_b0, zev_bo, true_and, and_true, ypi_i, ypj_j, ypr_r, zpi_j, zpi_r, zpj_i, zpj_r, zpr_i, zpr_j, ypi_O, ypj_O, ypr_O, zpi_l, zpj_l, zpr_l, zpi_b, zpi_c, zpj_b, zpj_c, zpr_b, zpr_c, zpi_s, zpj_s, zpr_s, zev_ai2 i31, zev_aj2 i31, zev_si2 k31, zev_sj2 k31, hW, hr0, hr1, hPa, lPa, icap, kcap, hAa, lAa, hqi.1, hqi.2, e1, false_and, if_false]
      refine ⟨_, rfl, _, p3 ?_ (nI_1 _), ((f.tr (zFo.pj h2)).tr (zFo.pi h3)).tr (zFo.pj h4), hr, ?_, ?_, ?_, ?_, hc1, hs1⟩
      · rw [hsn, if_neg hle, nI_1]; simp
      · rw [zpj_i, ypi_i, if_neg (fun e => hwp e.1)]; exact hc
      · rw [ypj_j, if_neg (fun e => hwa e.1), zpi_j, ypj_j, if_pos ⟨rfl, rfl⟩, hsb]
      · intro j q' hq'
        rw [hsn, if_neg hle] at hq'
        simp only [zpj_i, ypi_i, ypj_j, zpi_j, e1, false_and, if_false, true_and]
        by_cases hj : j = (wles (l.take i) (s.take i)).length
        · subst hj
          rw [List.getElem?_append_right (Nat.le_refl _)] at hq'
          simp at hq'
          subst hq'
          rw [if_pos rfl, if_pos rfl]
          exact ⟨rfl, rfl⟩
        · rw [if_neg hj, if_neg hj]
          have hlt := (List.getElem?_eq_some_iff.mp hq').1
          simp at hlt
          rw [List.getElem?_append_left (by omega)] at hq'
          exact hk j q' hq'
      · intro j q' hj hq'
        simp only [zpj_i, ypi_i, ypj_j, zpi_j, e1, false_and, if_false, true_and]
        rw [if_neg (by omega), if_neg (by omega)]
        exact hrest j q' (by omega) hq'
  · rintro x ⟨M1, rfl, f, hr, hc, ht, hk, hrest, hc1, hs1⟩
    have hW := f.O (show zO M w 11 from a1)
    have c1 : nI l.length ≤ nI l.length := nI_le (Nat.le_refl _) (by omega)
    simp only [zf_X10_lessen_L4, zev_b1, zev_bd, zev_some, zev_gi, zev_gj, zev_gr, zev_pi, zev_pz, zev_pj, zev_pr, zev_rc, zev_cc, zev_b0, zev_bo, true_and, and_true, hW, hc, if_pos c1]
    refine ⟨_, rfl, ?_⟩
    rw [List.take_of_length_le (Nat.le_refl _), List.take_of_length_le (by omega)] at *
    have hle := wles_len l s
    refine ⟨hW, ⟨pa, aa, ⟨f.O a1, ?_, ?_, f.A a4, f.A a5, ?_, ?_, by omega, a9, ?_, wris_wles l s a11⟩, h2, h3, h4, h5⟩, f.tr (zFo.pi h2), (hb.same hs1 hc1)⟩
    · show zm_r M1 w 0 = _; rw [hr]; exact a2
    · show zm_r M1 w 1 = _; rw [hr]; exact a3
    · rw [ypi_i, if_pos ⟨rfl, rfl⟩]
    · show zm_j M1 w 3 = _; rw [ht, hsum]
    · intro j q hq
      rw [ypi_i, if_neg (fun e => hwp e.1.symm)]
      exact hk j q hq
theorem zWo_uneven {M : Zm} {g : Zg} {o w : Nat} {l : Wn} (h : zWo M g o w l) : zf_X10_countUneven M (some w) = some (M, nI (l.countP (fun q => decide (q.2 ≠ 0)))) := by
  have hO := h.O
  have hlen := h.len
  have hcnt := h.cnt
  obtain ⟨pa, aa, n, r1, r2, r3, r4, r5, r6, r7, r8, r9, r10, r11⟩ := h.rows
  have hz : zev (zf_X10_countUneven M (some w)) (fun y => y = (M, nI (l.countP (fun q => decide (q.2 ≠ 0))))) := by
    simp only [zf_X10_countUneven, zev_b1, zev_bd, zev_some, zev_gi, zev_gj, zev_gr, zev_pi, zev_pz, zev_pj, zev_pr, zev_rc, zev_cc, zev_b0, zev_bo, true_and, and_true]
    refine zev_up (τ := Zm × Int32 × Int32) (fun i (x : Zm × Int32 × Int32) => x = (M, nI ((l.take i).countP (fun q => decide (q.2 ≠ 0))), nI i)) l.length (i := 0) (Nat.zero_le _) rfl ?_ ?_
    · rintro i x hi rfl
      obtain ⟨q, hq⟩ := getElem?_lt hi
      have i31 : i < 2 ^ 31 := by omega
      have c1 : ¬ nI l.length ≤ nI i := nI_ge hi (by omega)
      simp only [zf_X10_countUneven_L4, zf_X10_countUneven_J26, zev_b1, zev_bd, zev_some, zev_gi, zev_gj, zev_gr, zev_pi, zev_pz, zev_pj, zev_pr, zev_rc, zev_cc, zev_b0, zev_bo, true_and, and_true, zev_aj2 i31, hO, hcnt, if_neg c1, r2, r5, r6, show i < n by omega, (r9 i q hq).2]
      rw [take_snoc hq, List.countP_append]
      by_cases h0 : q.2 = 0
      · rw [if_pos h0]
        simp [zev_some, h0, nI_1]
      · rw [if_neg h0]
        simp [zev_some, h0, nI_1]
    · rintro x rfl
      have c1 : nI l.length ≤ nI l.length := nI_le (Nat.le_refl _) (by omega)
      simp only [zf_X10_countUneven_L4, zev_b1, zev_bd, zev_some, zev_gi, zev_gj, zev_gr, zev_pi, zev_pz, zev_pj, zev_pr, zev_rc, zev_cc, zev_b0, zev_bo, true_and, and_true, hO, hcnt, if_pos c1]
      exact ⟨_, rfl, by simp⟩
  obtain ⟨y, h1, rfl⟩ := hz
  exact h1
def wabs (l : Wn) (p : Int32) : Bool := !decide ((l[widx p l]?.map (fun q => q.1)) = some p)
theorem zWo_countWith {M : Zm} {g : Zg} {o w o2 v : Nat} {l m : Wn} (h : zWo M g o w l) (hv : zWo M g o2 v m) : zf_X10_countWith M (some w) (some v) = some (M, nI (l.length + m.countP (fun q => wabs l q.1))) := by
  have hO := h.O
  have hcnt := h.cnt
  have vO := hv.O
  have vlen := hv.len
  have vcnt := hv.cnt
  obtain ⟨pa, aa, n, r1, r2, r3, r4, r5, r6, r7, r8, r9, r10, r11⟩ := hv.rows
  obtain ⟨pw, aw, hw, -⟩ := h
  have hz : zev (zf_X10_countWith M (some w) (some v)) (fun y => y = (M, nI (l.length + m.countP (fun q => wabs l q.1)))) := by
    simp only [zf_X10_countWith, zev_b1, zev_bd, zev_some, zev_gi, zev_gj, zev_gr, zev_pi, zev_pz, zev_pj, zev_pr, zev_rc, zev_cc, zev_b0, zev_bo, true_and, and_true, hO, hcnt]
    refine zev_up (τ := Zm × Int32 × Int32) (fun i (x : Zm × Int32 × Int32) => x = (M, nI (l.length + (m.take i).countP (fun q => wabs l q.1)), nI i)) m.length (i := 0) (Nat.zero_le _) rfl ?_ ?_
    · rintro i x hi rfl
      obtain ⟨q, hq⟩ := getElem?_lt hi
      have i31 : i < 2 ^ 31 := by omega
      have c1 : ¬ nI m.length ≤ nI i := nI_ge hi (by omega)
      simp only [zf_X10_countWith_L7, zf_X10_countWith_J41, zev_b1, zev_bd, zev_some, zev_gi, zev_gj, zev_gr, zev_pi, zev_pz, zev_pj, zev_pr, zev_rc, zev_cc, zev_b0, zev_bo, true_and, and_true, zev_ai2 i31, vO, vcnt, if_neg c1, r1, r3, r4, show i < n by omega, (r9 i q hq).1, hO, zev_eq (zWi_indexOf hw q.1), zev_eq (zWi_isAt hw (widx q.1 l) (widx_le q.1 l) q.1)]
      rw [take_snoc hq, List.countP_append]
      by_cases h0 : (l[widx q.1 l]?.map (fun q => q.1)) = some q.1
      · simp [zev_some, h0, nI_1, wabs]
      · simp [zev_some, h0, nI_1, wabs, Nat.add_assoc]
    · rintro x rfl
      have c1 : nI m.length ≤ nI m.length := nI_le (Nat.le_refl _) (by omega)
      simp only [zf_X10_countWith_L7, zev_b1, zev_bd, zev_some, zev_gi, zev_gj, zev_gr, zev_pi, zev_pz, zev_pj, zev_pr, zev_rc, zev_cc, zev_b0, zev_bo, true_and, and_true, vO, vcnt, if_pos c1]
      exact ⟨_, rfl, by simp⟩
  obtain ⟨y, h1, rfl⟩ := hz
  exact h1
/-! codes -/
def wcod (l : Wn) : Prop := ∀ q ∈ l, 0 ≤ q.1.toInt ∧ q.1.toInt < 4096
theorem wlen_cod : ∀ (l : Wn) (lo : Int), 0 ≤ lo → wris l → (∀ q ∈ l, lo ≤ q.1.toInt ∧ q.1.toInt < 4096) → (l.length : Int) ≤ 4096 - lo ∨ l = []
  | [], _, _, _, _ => Or.inr rfl
  | q :: r, lo, h0, h, hc => by
    have hq := hc q List.mem_cons_self
    have := wlen_cod r (q.1.toInt + 1) (by omega) h.2 (fun q' h' => by
      have h1 := Int32.lt_iff_toInt_lt.mp (h.1 q' h')
      have h2 := hc q' (List.mem_cons_of_mem _ h')
      omega)
    rcases this with h1 | rfl
    · left; simp only [List.length_cons]; omega
    · left; simp; omega
theorem wcod_wadd (p : Int32) (x : Int64) (l : Wn) (h : wcod l) (hp : 0 ≤ p.toInt ∧ p.toInt < 4096) : wcod (wadd p x l) := by
  intro q hq
  rcases wadd_mem p x l q hq with e | ⟨q', h1, h2⟩
  · rw [e]; exact hp
  · rw [← h2]; exact h q' h1
theorem wroom (p : Int32) (l : Wn) (hr : wris l) (h : wcod l) (hp : 0 ≤ p.toInt ∧ p.toInt < 4096) : l.length < 4096 ∨ ∃ q ∈ l, q.1 = p := by
  by_cases ha : ∃ q ∈ l, q.1 = p
  · exact Or.inr ha
  · left
    have hl := wadd_len p 0 l (fun q hq e => ha ⟨q, List.mem_of_getElem? hq, e⟩)
    have := wlen_cod (wadd p 0 l) 0 (Int.le_refl _) (wris_wadd p 0 l hr) (wcod_wadd p 0 l h hp)
    rcases this with h1 | h1
    · omega
    · rw [h1] at hl; simp at hl
def wsbt (l m : Wn) : Wn := m.foldl (fun a q => wadd q.1 (-q.2) a) l
theorem wris_wsbt : ∀ (m l : Wn), wris l → wris (wsbt l m)
  | [], _, h => h
  | q :: r, l, h => wris_wsbt r (wadd q.1 (-q.2) l) (wris_wadd _ _ _ h)
theorem wcod_wsbt : ∀ (m l : Wn), wcod l → wcod m → wcod (wsbt l m)
  | [], _, h, _ => h
  | q :: r, l, h, hm => wcod_wsbt r (wadd q.1 (-q.2) l) (wcod_wadd _ _ _ h (hm q List.mem_cons_self)) (fun x hx => hm x (List.mem_cons_of_mem _ hx))
theorem wcod_take {l : Wn} (i : Nat) (h : wcod l) : wcod (l.take i) := fun q hq => h q (List.mem_of_mem_take hq)
theorem zWo_subtract {M : Zm} {g : Zg} {o w k o2 v : Nat} {l m : Wn} (h : zWo M g o w l) (hv : zWo M g o2 v m) (hoo : o ≠ o2) (ho : o < 3100) (hm : zcm o = 4096) (hcl : wcod l) (hcm : wcod m) (hb : zBu M g k) : zev (zf_X10_subtract M (some w) (some v)) (fun y => ∃ g', zWo y.1 g' o w (wsbt l m) ∧ zFo M g y.1 g' (fun z => z = o) ∧ zBu y.1 g' k) := by
  simp only [zf_X10_subtract, zev_b1, zev_bd, zev_some, zev_gi, zev_gj, zev_gr, zev_pi, zev_pz, zev_pj, zev_pr, zev_rc, zev_cc, zev_b0, zev_bo, true_and, and_true]
  have hrl := h.ris
  refine zev_up (τ := Zm × Int32) (fun i (x : Zm × Int32) => ∃ M1 g1, x = (M1, nI i) ∧ zWo M1 g1 o w (wsbt l (m.take i)) ∧ zFo M g M1 g1 (fun z => z = o) ∧ zBu M1 g1 k) m.length (i := 0) (Nat.zero_le _) ⟨M, g, rfl, h, zFo.rf, hb⟩ ?_ ?_
  · rintro i x hi ⟨M1, g1, rfl, h1, f1, b1⟩
    obtain ⟨q, hq⟩ := getElem?_lt hi
    have hv1 := hv.fr f1 (fun e => hoo e.symm)
    obtain ⟨pa, aa, n, r1, r2, r3, r4, r5, r6, r7, r8, r9, r10, r11⟩ := hv1.rows
    have i31 : i < 2 ^ 31 := by have := hv1.len; omega
    have c1 : ¬ nI m.length ≤ nI i := nI_ge hi (by have := hv1.len; omega)
    have hqm : q ∈ m := List.mem_of_getElem? hq
    simp only [zf_X10_subtract_L2, zev_b1, zev_bd, zev_some, zev_gi, zev_gj, zev_gr, zev_pi, zev_pz, zev_pj, zev_pr, zev_rc, zev_cc, zev_b0, zev_bo, true_and, and_true, zev_ai2 i31, zev_aj2 i31, hv1.O, hv1.cnt, if_neg c1, r1, r2, r3, r4, r5, r6, show i < n by omega, (r9 i q hq).1, (r9 i q hq).2, h1.O]
    refine zev_mono (zWo_add h1 q.1 (-q.2) ho ⟨10, by decide, by rw [hm]⟩ (by rw [hm]; exact wroom q.1 _ h1.ris (wcod_wsbt _ _ hcl (wcod_take i hcm)) (hcm q hqm)) b1) ?_
    rintro ⟨M2, u0⟩ hh
    dsimp only at hh ⊢
    obtain ⟨g2, h2, f2, b2⟩ := hh
    refine ⟨_, rfl, M2, g2, by rw [nI_1], ?_, f1.tr f2, b2⟩
    rw [take_snoc hq]
    simp only [wsbt, List.foldl_append, List.foldl_cons, List.foldl_nil]
    exact h2
  · rintro x ⟨M1, g1, rfl, h1, f1, b1⟩
    have hv1 := hv.fr f1 (fun e => hoo e.symm)
    have c1 : nI m.length ≤ nI m.length := nI_le (Nat.le_refl _) (by have := hv1.len; omega)
    simp only [zf_X10_subtract_L2, zev_b1, zev_bd, zev_some, zev_gi, zev_gj, zev_gr, zev_pi, zev_pz, zev_pj, zev_pr, zev_rc, zev_cc, zev_b0, zev_bo, true_and, and_true, hv1.O, hv1.cnt, if_pos c1]
    rw [List.take_of_length_le (Nat.le_refl _)] at h1
    exact ⟨_, rfl, g1, h1, f1, b1⟩
