/-! Wine.add. -/
theorem wadd_abs (p : Int32) (x : Int64) : ∀ l : Wn, (∀ q, l[widx p l]? = some q → q.1 ≠ p) → wadd p x l = l.take (widx p l) ++ (p, x) :: l.drop (widx p l)
  | [], _ => rfl
  | q :: r, h => by
    simp only [wadd, widx] at h ⊢
    by_cases h1 : q.1 < p
    · simp only [if_pos h1, List.getElem?_cons_succ] at h ⊢
      rw [wadd_abs p x r h]
      simp
    · simp only [if_neg h1, List.getElem?_cons_zero, Option.some.injEq, forall_eq'] at h ⊢
      rw [if_neg h]
      simp
theorem wadd_pre (p : Int32) (x : Int64) : ∀ (l : Wn) (q : Int32 × Int64), l[widx p l]? = some q → q.1 = p → wadd p x l = l.set (widx p l) (q.1, q.2 + x)
  | [], q, h, _ => by simp at h
  | y :: r, q, h, hp => by
    simp only [wadd, widx] at h ⊢
    by_cases h1 : y.1 < p
    · simp only [if_pos h1, List.getElem?_cons_succ] at h ⊢
      rw [wadd_pre p x r q h hp]
      simp
    · simp only [if_neg h1, List.getElem?_cons_zero, Option.some.injEq] at h ⊢
      subst h
      rw [if_pos hp]
      simp
theorem wsum_cons (q : Int32 × Int64) (l : Wn) : wsum (q :: l) = q.2 + wsum l := rfl
theorem wsum_wadd (p : Int32) (x : Int64) : ∀ l : Wn, wsum (wadd p x l) = wsum l + x
  | [] => by simp [wadd, wsum]
  | q :: r => by
    simp only [wadd]
    split
    · rw [wsum_cons, wsum_cons, wsum_wadd p x r, Int64.add_assoc]
    · split
      · rw [wsum_cons, wsum_cons]
        show q.2 + x + wsum r = q.2 + wsum r + x
        rw [Int64.add_assoc, Int64.add_comm x, ← Int64.add_assoc]
      · rw [wsum_cons]
        show x + wsum (q :: r) = wsum (q :: r) + x
        exact Int64.add_comm _ _
theorem wadd_mem (p : Int32) (x : Int64) : ∀ (l : Wn) (q : Int32 × Int64), q ∈ wadd p x l → q.1 = p ∨ ∃ q' ∈ l, q'.1 = q.1
  | [], q, h => by simp [wadd] at h; exact Or.inl (by rw [h])
  | y :: r, q, h => by
    simp only [wadd] at h
    split at h
    · rcases List.mem_cons.mp h with rfl | h
      · exact Or.inr ⟨_, List.mem_cons_self, rfl⟩
      · rcases wadd_mem p x r q h with h | ⟨q', h1, h2⟩
        · exact Or.inl h
        · exact Or.inr ⟨q', List.mem_cons_of_mem _ h1, h2⟩
    · split at h
      · rcases List.mem_cons.mp h with rfl | h
        · exact Or.inr ⟨y, List.mem_cons_self, rfl⟩
        · exact Or.inr ⟨q, List.mem_cons_of_mem _ h, rfl⟩
      · rcases List.mem_cons.mp h with rfl | h
        · exact Or.inl rfl
        · exact Or.inr ⟨q, h, rfl⟩
theorem wris_wadd (p : Int32) (x : Int64) : ∀ l : Wn, wris l → wris (wadd p x l)
  | [], _ => ⟨fun _ h => by simp at h, trivial⟩
  | q :: r, h => by
    simp only [wadd]
    split
    · rename_i h1
      refine ⟨fun q' hq' => ?_, wris_wadd p x r h.2⟩
      rcases wadd_mem p x r q' hq' with e | ⟨q2, h2, h3⟩
      · rw [e]; exact h1
      · rw [← h3]; exact h.1 q2 h2
    · split
      · exact ⟨h.1, h.2⟩
      · rename_i h1 h2
        have hlt : p < q.1 := by
          rcases Int32.lt_or_le p q.1 with h3 | h3
          · exact h3
          · exact absurd (Int32.le_antisymm h3 (Int32.not_lt.mp h1)) h2
        refine ⟨fun q' hq' => ?_, h⟩
        rcases List.mem_cons.mp hq' with rfl | hq'
        · exact hlt
        · exact Int32.lt_trans hlt (h.1 q' hq')
theorem wadd_len (p : Int32) (x : Int64) (l : Wn) (h : ∀ q, l[widx p l]? = some q → q.1 ≠ p) : (wadd p x l).length = l.length + 1 := by
  rw [wadd_abs p x l h]
  have := widx_le p l
  simp
  omega
theorem zcopyI {M : Zm} {a cap n : Nat} (ha : zAr M a 14 cap) (hn : n < 2 ^ 31) (hc : cap < n) (h1 : zm_c M + 1 ≤ 600000) (h2 : zm_s M + n ≤ 7302250) : ∃ M', zf_J7_copyOf_59c91 M (some a) (nI n) = some (M', some (zm_b M + zm_c M)) ∧ zFr M M' (fun _ => False) ∧ zAr M' (zm_b M + zm_c M) 14 n ∧ (∀ j, j < cap → zm_i M' (zm_b M + zm_c M) j = zm_i M a j) ∧ zm_c M' = zm_c M + 1 ∧ zm_s M' = zm_s M + n := by
  have hf : zFr M (zm_n M 14 n) (fun _ => False) := zFr.n
  have ha' := hf.ar ha
  have hN := zn_ar (M := M) (k := 14) (n := n)
  have hcp := zci (sp := 0) (dp := 0) (n := cap) ha' hN (by decide) (by decide) (by omega) (by omega) (by omega)
  have hmin : zmini (nI cap) (nI n) = nI cap := by unfold zmini; rw [if_neg (nI_nlt (by omega) (by omega))]
  refine ⟨zm_ri (zm_n M 14 n) (zm_b M + zm_c M) (va_cpy (zm_i (zm_n M 14 n) a) (zm_i (zm_n M 14 n) (zm_b M + zm_c M)) 0 0 cap), ?_, ?_, ?_, ?_, rfl, rfl⟩
  · simp only [zf_J7_copyOf_59c91, zal ha (by decide) (by decide), zal ha' (by decide) (by decide), zb1_some, zna hn h1 h2, hmin, zm_nx]
    rw [if_neg (fun e => by have := (nI_eq hn (by omega)).mp e; omega)]
    rw [show (0 : Int32) = nI 0 from rfl, hcp]
    rfl
  · refine (hf.mono (S' := fun x => x = zm_b M + zm_c M) (fun _ _ q => q.elim)).tr (zFr.ri rfl) |>.mono (fun x hx e => ?_)
    have := hx.2
    omega
  · exact hN
  · intro j hj
    show zm_z _ _ _ _ _ = _
    rw [zm_zS, pk_cpy_in (by omega) (by omega)]
    rw [(hf.2.2.2.2.2 a ha.1.1 id).1]
    congr 1
    omega
theorem zcopyJ {M : Zm} {a cap n : Nat} (ha : zAr M a 15 cap) (hn : n < 2 ^ 31) (hc : cap < n) (h1 : zm_c M + 1 ≤ 600000) (h2 : zm_s M + n ≤ 7302250) : ∃ M', zf_J7_copyOf_c38d5 M (some a) (nI n) = some (M', some (zm_b M + zm_c M)) ∧ zFr M M' (fun _ => False) ∧ zAr M' (zm_b M + zm_c M) 15 n ∧ (∀ j, j < cap → zm_j M' (zm_b M + zm_c M) j = zm_j M a j) ∧ zm_c M' = zm_c M + 1 ∧ zm_s M' = zm_s M + n := by
  have hf : zFr M (zm_n M 15 n) (fun _ => False) := zFr.n
  have ha' := hf.ar ha
  have hN := zn_ar (M := M) (k := 15) (n := n)
  have hcp := zcj (sp := 0) (dp := 0) (n := cap) ha' hN (by decide) (by decide) (by omega) (by omega) (by omega)
  have hmin : zmini (nI cap) (nI n) = nI cap := by unfold zmini; rw [if_neg (nI_nlt (by omega) (by omega))]
  refine ⟨zm_rj (zm_n M 15 n) (zm_b M + zm_c M) (va_cpy (zm_j (zm_n M 15 n) a) (zm_j (zm_n M 15 n) (zm_b M + zm_c M)) 0 0 cap), ?_, ?_, ?_, ?_, rfl, rfl⟩
  · simp only [zf_J7_copyOf_c38d5, zal ha (by decide) (by decide), zal ha' (by decide) (by decide), zb1_some, zna hn h1 h2, hmin, zm_nx]
    rw [if_neg (fun e => by have := (nI_eq hn (by omega)).mp e; omega)]
    rw [show (0 : Int32) = nI 0 from rfl, hcp]
    rfl
  · refine (hf.mono (S' := fun x => x = zm_b M + zm_c M) (fun _ _ q => q.elim)).tr (zFr.rj rfl) |>.mono (fun x hx e => ?_)
    have := hx.2
    omega
  · exact hN
  · intro j hj
    show zm_z _ _ _ _ _ = _
    rw [zm_zS, pk_cpy_in (by omega) (by omega)]
    rw [(hf.2.2.2.2.2 a ha.1.1 id).2.1]
    congr 1
    omega
theorem zkne {M : Zm} {a b c d : Nat} (ha : zm_k M a = c) (hb : zm_k M b = d) (h : c ≠ d) : a ≠ b := fun e => h (by rw [← ha, ← hb, e])
/-- a part that isn't there yet, with room in the rows -/
theorem zWi_put {M : Zm} {w pa aa cap : Nat} {l : Wn} (h : zWi M w pa aa cap l) (p : Int32) (x : Int64) (hab : ∀ q, l[widx p l]? = some q → q.1 ≠ p) (hroom : l.length < cap) : ∃ M', zf_X10_add_J79 M (some w) p x (nI (widx p l)) = some (M', ()) ∧ zWi M' w pa aa cap (wadd p x l) ∧ zFr M M' (fun a => a = w ∨ a = pa ∨ a = aa) ∧ zm_c M' = zm_c M ∧ zm_s M' = zm_s M := by
  obtain ⟨h1, h2, h3, h4, h5, h6, h7, h8, h9, h10, h11⟩ := h
  have hwp : w ≠ pa := zkne h1.2 h4.1.2 (by decide)
  have hwa : w ≠ aa := zkne h1.2 h5.1.2 (by decide)
  have hpa : pa ≠ aa := zkne h4.1.2 h5.1.2 (by decide)
  have hi : widx p l ≤ l.length := widx_le p l
  have hlen := wadd_len p x l hab
  have habs := wadd_abs p x l hab
  have hsum := wsum_wadd p x l
  have hris := wris_wadd p x l h11
  generalize widx p l = i at *
  generalize wadd p x l = l' at *
  obtain ⟨M1, hM1⟩ : ∃ X, X = zm_ri M pa (va_cpy (zm_i M pa) (zm_i M pa) i (i + 1) (l.length - i)) := ⟨_, rfl⟩
  have e1 : zo_ci M (some pa) (nI i) (some pa) (nI i + 1) (nI l.length - nI i) = some M1 := by
    rw [nI_1, pk_sub hi, hM1]
    exact zci h4 h4 (by omega) (by omega) (by omega) (by omega) (by omega)
  obtain ⟨M2, hM2⟩ : ∃ X, X = zm_rj M1 aa (va_cpy (zm_j M1 aa) (zm_j M1 aa) i (i + 1) (l.length - i)) := ⟨_, rfl⟩
  have f1 : zFr M M1 (fun a => a = w ∨ a = pa ∨ a = aa) := by rw [hM1]; exact zFr.ri (Or.inr (Or.inl rfl))
  have e2 : zo_cj M1 (some aa) (nI i) (some aa) (nI i + 1) (nI l.length - nI i) = some M2 := by
    rw [nI_1, pk_sub hi, hM2]
    exact zcj (f1.ar h5) (f1.ar h5) (by omega) (by omega) (by omega) (by omega) (by omega)
  have f2 : zFr M M2 (fun a => a = w ∨ a = pa ∨ a = aa) := f1.tr (by rw [hM2]; exact zFr.rj (Or.inr (Or.inr rfl)))
  obtain ⟨M3, hM3⟩ : ∃ X, X = zm_pi M2 pa i p := ⟨_, rfl⟩
  have e3 : zo_si M2 (some pa) (nI i) p = some M3 := by rw [hM3]; exact zsi (f2.ar h4) (by omega) (by omega)
  have f3 : zFr M M3 (fun a => a = w ∨ a = pa ∨ a = aa) := f2.tr (by rw [hM3]; exact zFr.pi (Or.inr (Or.inl rfl)))
  obtain ⟨M4, hM4⟩ : ∃ X, X = zm_pj M3 aa i x := ⟨_, rfl⟩
  have e4 : zo_sj M3 (some aa) (nI i) x = some M4 := by rw [hM4]; exact zsj (f3.ar h5) (by omega) (by omega)
  have f4 : zFr M M4 (fun a => a = w ∨ a = pa ∨ a = aa) := f3.tr (by rw [hM4]; exact zFr.pj (Or.inr (Or.inr rfl)))
  obtain ⟨M5, hM5⟩ : ∃ X, X = zm_pi M4 w 2 (nI (l.length + 1)) := ⟨_, rfl⟩
  have f5 : zFr M M5 (fun a => a = w ∨ a = pa ∨ a = aa) := f4.tr (by rw [hM5]; exact zFr.pi (Or.inl rfl))
  obtain ⟨M6, hM6⟩ : ∃ X, X = zm_pj M5 w 3 (wsum l + x) := ⟨_, rfl⟩
  have f6 : zFr M M6 (fun a => a = w ∨ a = pa ∨ a = aa) := f5.tr (by rw [hM6]; exact zFr.pj (Or.inl rfl))
  have r1 : zm_r M1 w = zm_r M w := by rw [hM1]; rfl
  have r2 : zm_r M2 w = zm_r M w := by rw [hM2]; exact r1
  have r3 : zm_r M3 w = zm_r M w := by rw [hM3]; exact r2
  have r4 : zm_r M4 w = zm_r M w := by rw [hM4]; exact r3
  have i1 : zm_i M1 w = zm_i M w := by rw [hM1]; exact zm_zN hwp
  have i2 : zm_i M2 w = zm_i M w := by rw [hM2]; exact i1
  have i3 : zm_i M3 w = zm_i M w := by rw [hM3]; exact (zm_uN hwp).trans i2
  have i4 : zm_i M4 w = zm_i M w := by rw [hM4]; exact i3
  have j2 : zm_j M2 w = zm_j M w := by rw [hM2]; refine (zm_zN hwa).trans ?_; rw [hM1]; rfl
  have j4 : zm_j M4 w = zm_j M w := by rw [hM4]; refine (zm_uN hwa).trans ?_; rw [hM3]; exact j2
  have j5 : zm_j M5 w = zm_j M w := by rw [hM5]; exact j4
  refine ⟨M6, ?_, ⟨f6.ob h1, ?_, ?_, f6.ar h4, f6.ar h5, ?_, ?_, by omega, h9, ?_, hris⟩, f6, ?_, ?_⟩
  · simp only [zf_X10_add_J79, zgr h1, zgi h1, h2, h6, zb1_some, e1]
    simp only [zgr (f1.ob h1), zgi (f1.ob h1), r1, h3, i1, h6, zb1_some, e2]
    simp only [zgr (f2.ob h1), r2, h2, zb1_some, e3]
    simp only [zgr (f3.ob h1), r3, h3, zb1_some, e4]
    simp only [zgi (f4.ob h1), i4, h6, zb1_some, zpi (f4.ob h1), nI_1, ← hM5, zf_X10_add_J153]
    simp only [zgj (f5.ob h1), j5, h7, zb1_some, zpj (f5.ob h1), ← hM6]
  · rw [hM6]; show zm_r M5 w 0 = _; rw [hM5]; show zm_r M4 w 0 = _; rw [r4]; exact h2
  · rw [hM6]; show zm_r M5 w 1 = _; rw [hM5]; show zm_r M4 w 1 = _; rw [r4]; exact h3
  · rw [hM6]; show zm_i M5 w 2 = _; rw [hM5, zpi_i, zuu, hlen]
  · rw [hM6, zpj_j, zuu, hsum]
  · intro j q hq
    have hia : zm_i M6 pa = va_up (va_cpy (zm_i M pa) (zm_i M pa) i (i + 1) (l.length - i)) i p := by
      rw [hM6]; show zm_i M5 pa = _
      rw [hM5, zpi_i, zm_uN (Ne.symm hwp), hM4]
      show zm_i M3 pa = _
      rw [hM3, zpi_i, zm_uS, hM2]
      show va_up (zm_i M1 pa) i p = _
      rw [hM1]
      show va_up (zm_z _ _ _ pa) i p = _
      rw [zm_zS]
    have hja : zm_j M6 aa = va_up (va_cpy (zm_j M aa) (zm_j M aa) i (i + 1) (l.length - i)) i x := by
      rw [hM6, zpj_j, zm_uN (Ne.symm hwa), hM5]
      show zm_j M4 aa = _
      rw [hM4, zpj_j, zm_uS, hM3]
      show va_up (zm_j M2 aa) i x = _
      rw [hM2]
      show va_up (zm_z _ _ _ aa) i x = _
      rw [zm_zS, hM1]
      rfl
    rw [hia, hja]
    rw [habs] at hq
    have hjl : j < l.length + 1 := by
      have := (List.getElem?_eq_some_iff.mp hq).1
      simp at this
      omega
    by_cases hlt : j < i
    · rw [List.getElem?_append_left (by simp; omega), List.getElem?_take_of_lt hlt] at hq
      have := h10 j q hq
      simp only [va_up, if_neg (show ¬ j = i by omega), pk_cpy_out (Or.inl (show j < i + 1 by omega))]
      exact this
    · rw [List.getElem?_append_right (by simp; omega)] at hq
      simp only [List.length_take, Nat.min_eq_left hi] at hq
      by_cases hji : j = i
      · subst hji
        simp only [Nat.sub_self, List.getElem?_cons_zero, Option.some.injEq] at hq
        subst hq
        simp [va_up]
      · obtain ⟨k, rfl⟩ : ∃ k, j = i + 1 + k := ⟨j - (i + 1), by omega⟩
        rw [show i + 1 + k - i = k + 1 by omega, List.getElem?_cons_succ, List.getElem?_drop] at hq
        have := h10 (i + k) q hq
        simp only [va_up, if_neg (show ¬ i + 1 + k = i by omega), pk_cpy_in (show i + 1 ≤ i + 1 + k by omega) (show i + 1 + k < i + 1 + (l.length - i) by omega)]
        rw [show i + (i + 1 + k - (i + 1)) = i + k by omega]
        exact this
  · rw [hM6, hM5, hM4, hM3, hM2, hM1]; rfl
  · rw [hM6, hM5, hM4, hM3, hM2, hM1]; rfl
theorem wset_ris : ∀ (l : Wn) (i : Nat) (q : Int32 × Int64) (y : Int64), l[i]? = some q → wris l → wris (l.set i (q.1, y))
  | [], _, _, _, h, _ => by simp at h
  | z :: r, 0, q, y, h, hr => by
    simp at h
    subst h
    exact ⟨hr.1, hr.2⟩
  | z :: r, i + 1, q, y, h, hr => by
    simp only [List.getElem?_cons_succ] at h
    refine ⟨fun q' hq' => ?_, wset_ris r i q y h hr.2⟩
    rcases List.mem_or_eq_of_mem_set hq' with h1 | h1
    · exact hr.1 q' h1
    · rw [h1]; exact hr.1 q (List.mem_of_getElem? h)
/-- Wine.add -/
theorem zWi_add {M : Zm} {w pa aa cap : Nat} {l : Wn} (h : zWi M w pa aa cap l) (p : Int32) (x : Int64) (hc0 : 0 < cap) (hr : cap = l.length → (∀ q, l[widx p l]? = some q → q.1 ≠ p) → cap ≤ 2 ^ 18 ∧ zm_c M + 2 ≤ 600000 ∧ zm_s M + 4 * cap ≤ 7302250) : ∃ M' pa' aa' cap', zf_X10_add M (some w) p x = some (M', ()) ∧ zWi M' w pa' aa' cap' (wadd p x l) ∧ zFr M M' (fun a => a = w ∨ a = pa ∨ a = aa) ∧ ((pa' = pa ∧ aa' = aa ∧ cap' = cap ∧ zm_c M' = zm_c M ∧ zm_s M' = zm_s M) ∨ (cap' = 2 * cap ∧ cap = l.length ∧ (∀ q, l[widx p l]? = some q → q.1 ≠ p) ∧ ¬ zm_ok M pa' ∧ ¬ zm_ok M aa' ∧ zm_c M' = zm_c M + 2 ∧ zm_s M' = zm_s M + 4 * cap)) := by
  have hx1 := zWi_indexOf h p
  have hx2 := zWi_isAt h (widx p l) (widx_le p l) p
  have hh := h
  obtain ⟨h1, h2, h3, h4, h5, h6, h7, h8, h9, h10, h11⟩ := h
  have hunf : zf_X10_add M (some w) p x = zb1 (some ()) (fun _ => zbd (some (M, nI (widx p l))) (fun M1 v1 => zb1 (zo_rc M1 (some w) 11) (fun _ => zbd (zf_X10_isAt M1 (some w) v1 p) (fun M2 v2 => (if v2 = 0 then zb1 (zo_gi M2 (some w) 11 2) (fun v4 => zb1 (zo_gr M2 (some w) 11 0) (fun v5 => zb1 (zo_al M2 v5) (fun v6 => (if v4 < v6 then zf_X10_add_J79 M2 (some w) p x v1 else zb1 (zo_gr M2 (some w) 11 0) (fun v25 => zb1 (zo_gr M2 (some w) 11 0) (fun v26 => zb1 (zo_al M2 v26) (fun v27 => zbd (zf_J7_copyOf_59c91 M2 v25 ((2 : Int32) * v27)) (fun M28 v28 => zb1 (zo_pr M28 (some w) 11 0 v28) (fun M29 => zb1 (zo_gr M29 (some w) 11 1) (fun v30 => zb1 (zo_gr M29 (some w) 11 1) (fun v31 => zb1 (zo_al M29 v31) (fun v32 => zbd (zf_J7_copyOf_c38d5 M29 v30 ((2 : Int32) * v32)) (fun M33 v33 => zb1 (zo_pr M33 (some w) 11 1 v33) (fun M34 => zf_X10_add_J79 M34 (some w) p x v1))))))))))))))
      else zb1 (zo_gr M2 (some w) 11 1) (fun v35 => zb1 (zo_aj M2 v35 v1) (fun v36 => zb1 (zo_sj M2 v35 v1 (v36 + x)) (fun M37 => zf_X10_add_J153 M37 (some w) x)))))))) := by
    rw [← zrc h1, ← hx1]; rfl
  have hwp : w ≠ pa := zkne h1.2 h4.1.2 (by decide)
  have hwa : w ≠ aa := zkne h1.2 h5.1.2 (by decide)
  have hpa : pa ≠ aa := zkne h4.1.2 h5.1.2 (by decide)
  rw [hunf]
  simp only [zb1_some, zbd_some, zrc h1, hx2]
  by_cases hpre : ∃ q, l[widx p l]? = some q ∧ q.1 = p
  · obtain ⟨q, hq, hqp⟩ := hpre
    have hlt := (List.getElem?_eq_some_iff.mp hq).1
    have hwadd := wadd_pre p x l q hq hqp
    have hsum := wsum_wadd p x l
    have hris := wris_wadd p x l h11
    simp only [hq, Option.map_some, Option.some.injEq, if_pos hqp, if_neg (show ¬ (1 : Int32) = 0 by decide), zgr h1, h3, zb1_some, zaj h5 (show widx p l < cap by omega) (by omega), (h10 _ q hq).2, zsj h5 (show widx p l < cap by omega) (by omega), zf_X10_add_J153]
    generalize widx p l = i at *
    obtain ⟨M1, hM1⟩ : ∃ X, X = zm_pj M aa i (q.2 + x) := ⟨_, rfl⟩
    have f1 : zFr M M1 (fun a => a = w ∨ a = pa ∨ a = aa) := by rw [hM1]; exact zFr.pj (Or.inr (Or.inr rfl))
    obtain ⟨M2, hM2⟩ : ∃ X, X = zm_pj M1 w 3 (wsum l + x) := ⟨_, rfl⟩
    have f2 : zFr M M2 (fun a => a = w ∨ a = pa ∨ a = aa) := f1.tr (by rw [hM2]; exact zFr.pj (Or.inl rfl))
    have j1 : zm_j M1 w = zm_j M w := by rw [hM1]; exact zm_uN hwa
    refine ⟨M2, pa, aa, cap, ?_, ⟨f2.ob h1, ?_, ?_, f2.ar h4, f2.ar h5, ?_, ?_, ?_, h9, ?_, hris⟩, f2, Or.inl ⟨rfl, rfl, rfl, ?_, ?_⟩⟩
    · rw [← hM1]
      simp only [zgj (f1.ob h1), j1, h7, zb1_some, zpj (f1.ob h1), ← hM2]
    · rw [hM2, hM1]; exact h2
    · rw [hM2, hM1]; exact h3
    · rw [hwadd, List.length_set, hM2, hM1]; exact h6
    · rw [hM2, zpj_j, zuu, hsum]
    · rw [hwadd, List.length_set]; exact h8
    · intro j q' hq'
      rw [hwadd] at hq'
      have hi : zm_i M2 pa = zm_i M pa := by rw [hM2, hM1]; rfl
      have hj : zm_j M2 aa = va_up (zm_j M aa) i (q.2 + x) := by rw [hM2, zpj_j, zm_uN (Ne.symm hwa), hM1, zpj_j, zm_uS]
      rw [hi, hj]
      by_cases hji : j = i
      · subst hji
        rw [List.getElem?_set_self hlt] at hq'
        cases hq'
        exact ⟨(h10 _ q hq).1, by simp [va_up]⟩
      · rw [List.getElem?_set_ne (Ne.symm hji)] at hq'
        simp only [va_up, if_neg hji]
        exact h10 j q' hq'
    · rw [hM2, hM1]; rfl
    · rw [hM2, hM1]; rfl
  · have hab : ∀ q, l[widx p l]? = some q → q.1 ≠ p := fun q hq e => hpre ⟨q, hq, e⟩
    have hno : ¬ (l[widx p l]?.map (fun q => q.1)) = some p := by
      cases hq : l[widx p l]? with
      | none => simp
      | some q => simpa using hab q hq
    rw [if_neg hno, if_pos rfl]
    simp only [zgi h1, zgr h1, h2, h6, zb1_some, zal h4 (by decide) (by decide)]
    by_cases hroom : l.length < cap
    · rw [if_pos (nI_lt hroom (by omega))]
      obtain ⟨M', e, hw, hf, hc, hs⟩ := zWi_put hh p x hab hroom
      exact ⟨M', pa, aa, cap, e, hw, hf, Or.inl ⟨rfl, rfl, rfl, hc, hs⟩⟩
    · have hfull : cap = l.length := by omega
      obtain ⟨hcap, hr1, hr2⟩ := hr hfull hab
      rw [if_neg (nI_nlt (by omega) (by omega))]
      have h2c : (2 : Int32) * nI cap = nI (2 * cap) := pk_mul 2 cap
      obtain ⟨M1, e1, f1, a1, c1, n1, s1⟩ := zcopyI h4 (n := 2 * cap) (by omega) (by omega) (by omega) (by omega)
      obtain ⟨M2, hM2⟩ : ∃ X, X = zm_pr M1 w 0 (some (zm_b M + zm_c M)) := ⟨_, rfl⟩
      have f1' : zFr M M1 (fun a => a = w ∨ a = pa ∨ a = aa) := f1.mono (fun _ _ q => q.elim)
      have f12 : zFr M1 M2 (fun a => a = w) := by rw [hM2]; exact zFr.pr rfl
      have f2 : zFr M M2 (fun a => a = w ∨ a = pa ∨ a = aa) := f1'.tr (f12.mono (fun _ _ q => Or.inl q))
      have hr1w : zm_r M1 w = zm_r M w := (f1.2.2.2.2.2 w h1.1 id).2.2
      have hr2w : zm_r M2 w 1 = some aa := by rw [hM2, zpr_r, zun (Or.inr (by decide)), hr1w]; exact h3
      have hc2 : zm_c M2 = zm_c M + 1 := by rw [hM2]; exact n1
      have hs2 : zm_s M2 = zm_s M + 2 * cap := by rw [hM2]; exact s1
      have hb2 : zm_b M2 = zm_b M := f2.2.1
      obtain ⟨M3, e3, f3, a3, c3, n3, s3⟩ := zcopyJ (f2.ar h5) (n := 2 * cap) (by omega) (by omega) (by omega) (by omega)
      obtain ⟨M4, hM4⟩ : ∃ X, X = zm_pr M3 w 1 (some (zm_b M2 + zm_c M2)) := ⟨_, rfl⟩
      have f34 : zFr M3 M4 (fun a => a = w) := by rw [hM4]; exact zFr.pr rfl
      have f24 : zFr M2 M4 (fun a => a = w) := (f3.mono (fun _ _ q => q.elim)).tr f34
      have f4 : zFr M M4 (fun a => a = w ∨ a = pa ∨ a = aa) := f2.tr (f24.mono (fun _ _ q => Or.inl q))
      have aN : zAr M2 (zm_b M + zm_c M) 14 (2 * cap) := f12.ar a1
      have hwN : w ≠ zm_b M + zm_c M := fun e => by have := h1.1.2; omega
      have hw4 : zWi M4 w (zm_b M + zm_c M) (zm_b M2 + zm_c M2) (2 * cap) l := by
        refine ⟨f4.ob h1, ?_, ?_, f24.ar aN, f34.ar a3, ?_, ?_, by omega, by omega, ?_, h11⟩
        · rw [hM4, zpr_r, zun (Or.inr (by decide)), (f3.2.2.2.2.2 w (f2.ok h1.1) id).2.2, hM2, zpr_r, zuu]
        · rw [hM4, zpr_r, zuu]
        · rw [hM4]; show zm_i M3 w 2 = _
          rw [(f3.2.2.2.2.2 w (f2.ok h1.1) id).1, hM2]; show zm_i M1 w 2 = _
          rw [(f1.2.2.2.2.2 w h1.1 id).1]; exact h6
        · rw [hM4]; show zm_j M3 w 3 = _
          rw [(f3.2.2.2.2.2 w (f2.ok h1.1) id).2.1, hM2]; show zm_j M1 w 3 = _
          rw [(f1.2.2.2.2.2 w h1.1 id).2.1]; exact h7
        · intro j q hq
          have hj : j < cap := by have := (List.getElem?_eq_some_iff.mp hq).1; omega
          refine ⟨?_, ?_⟩
          · rw [(f24.2.2.2.2.2 _ aN.1.1 (Ne.symm hwN)).1, hM2]
            show zm_i M1 _ j = _
            rw [c1 j hj]
            exact (h10 j q hq).1
          · rw [hM4]
            show zm_j M3 _ j = _
            rw [c3 j hj, hM2]
            show zm_j M1 aa j = _
            rw [(f1.2.2.2.2.2 aa h5.1.1 id).2.1]
            exact (h10 j q hq).2
      obtain ⟨M5, e5, hw5, f5, n5, s5⟩ := zWi_put hw4 p x hab (by omega)
      have hc4 : zm_c M4 = zm_c M + 2 := by rw [hM4]; show zm_c M3 = _; rw [n3, hc2]
      have hs4 : zm_s M4 = zm_s M + 4 * cap := by rw [hM4]; show zm_s M3 = _; rw [s3, hs2]; omega
      refine ⟨M5, zm_b M + zm_c M, zm_b M2 + zm_c M2, 2 * cap, ?_, hw5, f4.tr2 f5 ?_, Or.inr ⟨rfl, hfull, hab, ?_, ?_, by rw [n5, hc4], by rw [s5, hs4]⟩⟩
      · simp only [h2c, e1, zbd_some, zpr (f1'.ob h1), ← hM2, zgr (f2.ob h1), hr2w, zb1_some, zal (f2.ar h5) (by decide) (by decide), e3, zpr (f3.ob (f2.ob h1)), ← hM4]
        exact e5
      · intro a ha hs
        rcases hs with hs | hs | hs
        · exact Or.inl hs
        · exact absurd ha.2 (by omega)
        · exact absurd ha.2 (by omega)
      · intro hk; have := hk.2; omega
      · intro hk; have := hk.2; omega
