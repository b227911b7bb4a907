/-! More of Wine: kept by a frame, clear, copyFrom. -/
theorem zWi.kept {M M' : Zm} {S : Nat → Prop} {w pa aa cap : Nat} {l : Wn} (h : zWi M w pa aa cap l) (f : zFr M M' S) (h1 : ¬ S w) (h2 : ¬ S pa) (h3 : ¬ S aa) : zWi M' w pa aa cap l := by
  obtain ⟨g1, g2, g3, g4, g5, g6, g7, g8, g9, g10, g11⟩ := h
  have kw := f.2.2.2.2.2 w g1.1 h1
  have kp := f.2.2.2.2.2 pa g4.1.1 h2
  have ka := f.2.2.2.2.2 aa g5.1.1 h3
  exact ⟨f.ob g1, by rw [kw.2.2]; exact g2, by rw [kw.2.2]; exact g3, f.ar g4, f.ar g5, by rw [kw.1]; exact g6, by rw [kw.2.1]; exact g7, g8, g9, fun i q hq => by rw [kp.1, ka.2.1]; exact g10 i q hq, g11⟩
theorem zWi_clear {M : Zm} {w pa aa cap : Nat} {l : Wn} (h : zWi M w pa aa cap l) : ∃ M', zf_X10_clear M (some w) = some (M', ()) ∧ zWi M' w pa aa cap [] ∧ zFr M M' (fun a => a = w) ∧ zm_c M' = zm_c M ∧ zm_s M' = zm_s M := by
  obtain ⟨g1, g2, g3, g4, g5, g6, g7, g8, g9, g10, g11⟩ := h
  have hwp : w ≠ pa := zkne g1.2 g4.1.2 (by decide)
  obtain ⟨M1, hM1⟩ : ∃ X, X = zm_pi M w 2 0 := ⟨_, rfl⟩
  have f1 : zFr M M1 (fun a => a = w) := by rw [hM1]; exact zFr.pi rfl
  obtain ⟨M2, hM2⟩ : ∃ X, X = zm_pj M1 w 3 0 := ⟨_, rfl⟩
  have f2 : zFr M M2 (fun a => a = w) := f1.tr (by rw [hM2]; exact zFr.pj rfl)
  refine ⟨M2, ?_, ⟨f2.ob g1, ?_, ?_, f2.ar g4, f2.ar g5, ?_, ?_, Nat.zero_le _, g9, fun i q hq => by simp at hq, trivial⟩, f2, ?_, ?_⟩
  · simp only [zf_X10_clear, zpi g1, ← hM1, zb1_some, zpj (f1.ob g1), ← hM2]
  · rw [hM2, hM1]; exact g2
  · rw [hM2, hM1]; exact g3
  · rw [hM2]; show zm_i M1 w 2 = _; rw [hM1, zpi_i, zuu]; rfl
  · rw [hM2, zpj_j, zuu]; rfl
  · rw [hM2, hM1]; rfl
  · rw [hM2, hM1]; rfl
/-- the shape alone -/
def zWsh (M : Zm) (w pa aa cap : Nat) : Prop := zOb M w 11 ∧ zm_r M w 0 = some pa ∧ zm_r M w 1 = some aa ∧ zAr M pa 14 cap ∧ zAr M aa 15 cap ∧ cap < 2 ^ 20
theorem zWi.sh {M : Zm} {w pa aa cap : Nat} {l : Wn} (h : zWi M w pa aa cap l) : zWsh M w pa aa cap := ⟨h.1, h.2.1, h.2.2.1, h.2.2.2.1, h.2.2.2.2.1, h.2.2.2.2.2.2.2.2.1⟩
/-- a copy where the rows have room -/
theorem zWi_copy0 {M : Zm} {w pa aa cap v pb ab capb : Nat} {m : Wn} (h : zWsh M w pa aa cap) (hv : zWi M v pb ab capb m) (hwv : w ≠ v) (hp : pa ≠ pb) (ha : aa ≠ ab) (hroom : m.length ≤ cap) : ∃ M', zf_X10_copyFrom_J34 M (some w) (some v) = some (M', ()) ∧ zWi M' w pa aa cap m ∧ zFr M M' (fun a => a = w ∨ a = pa ∨ a = aa) ∧ zm_c M' = zm_c M ∧ zm_s M' = zm_s M := by
  obtain ⟨g1, g2, g3, g4, g5, g9⟩ := h
  obtain ⟨k1, k2, k3, k4, k5, k6, k7, k8, k9, k10, k11⟩ := hv
  have hwp : w ≠ pa := zkne g1.2 g4.1.2 (by decide)
  have hwa : w ≠ aa := zkne g1.2 g5.1.2 (by decide)
  have hvp : v ≠ pa := zkne k1.2 g4.1.2 (by decide)
  have hva : v ≠ aa := zkne k1.2 g5.1.2 (by decide)
  obtain ⟨M1, hM1⟩ : ∃ X, X = zm_ri M pa (va_cpy (zm_i M pb) (zm_i M pa) 0 0 m.length) := ⟨_, rfl⟩
  have e1 : zo_ci M (some pb) 0 (some pa) 0 (nI m.length) = some M1 := by
    rw [hM1]; exact zci (sp := 0) (dp := 0) k4 g4 (by decide) (by decide) (by omega) (by omega) (by omega)
  have f1 : zFr M M1 (fun a => a = w ∨ a = pa ∨ a = aa) := by rw [hM1]; exact zFr.ri (Or.inr (Or.inl rfl))
  obtain ⟨M2, hM2⟩ : ∃ X, X = zm_rj M1 aa (va_cpy (zm_j M1 ab) (zm_j M1 aa) 0 0 m.length) := ⟨_, rfl⟩
  have e2 : zo_cj M1 (some ab) 0 (some aa) 0 (nI m.length) = some M2 := by
    rw [hM2]; exact zcj (sp := 0) (dp := 0) (f1.ar k5) (f1.ar g5) (by decide) (by decide) (by omega) (by omega) (by omega)
  have f2 : zFr M M2 (fun a => a = w ∨ a = pa ∨ a = aa) := f1.tr (by rw [hM2]; exact zFr.rj (Or.inr (Or.inr rfl)))
  obtain ⟨M3, hM3⟩ : ∃ X, X = zm_pi M2 w 2 (nI m.length) := ⟨_, rfl⟩
  have f3 : zFr M M3 (fun a => a = w ∨ a = pa ∨ a = aa) := f2.tr (by rw [hM3]; exact zFr.pi (Or.inl rfl))
  obtain ⟨M4, hM4⟩ : ∃ X, X = zm_pj M3 w 3 (wsum m) := ⟨_, rfl⟩
  have f4 : zFr M M4 (fun a => a = w ∨ a = pa ∨ a = aa) := f3.tr (by rw [hM4]; exact zFr.pj (Or.inl rfl))
  have r1 : zm_r M1 = zm_r M := by rw [hM1]; rfl
  have r2 : zm_r M2 = zm_r M := by rw [hM2]; exact r1
  have i1v : zm_i M1 v = zm_i M v := by rw [hM1]; exact zm_zN hvp
  have i2v : zm_i M2 v = zm_i M v := by rw [hM2]; exact i1v
  have j2v : zm_j M2 v = zm_j M v := by rw [hM2]; refine (zm_zN hva).trans ?_; rw [hM1]; rfl
  have j3v : zm_j M3 v = zm_j M v := by rw [hM3]; exact j2v
  refine ⟨M4, ?_, ⟨f4.ob g1, ?_, ?_, f4.ar g4, f4.ar g5, ?_, ?_, hroom, g9, ?_, k11⟩, f4, ?_, ?_⟩
  · simp only [zf_X10_copyFrom_J34, zgr k1, zgr g1, zgi k1, k2, g2, k6, zb1_some, e1]
    simp only [zgr (f1.ob k1), zgr (f1.ob g1), zgi (f1.ob k1), r1, k3, g3, i1v, k6, zb1_some, e2]
    simp only [zgi (f2.ob k1), i2v, k6, zb1_some, zpi (f2.ob g1), ← hM3, zgj (f3.ob k1), j3v, k7, zpj (f3.ob g1), ← hM4]
  · rw [hM4, hM3]; show zm_r M2 w 0 = _; rw [r2]; exact g2
  · rw [hM4, hM3]; show zm_r M2 w 1 = _; rw [r2]; exact g3
  · rw [hM4]; show zm_i M3 w 2 = _; rw [hM3, zpi_i, zuu]
  · rw [hM4, zpj_j, zuu]
  · intro j q hq
    have hj : j < m.length := (List.getElem?_eq_some_iff.mp hq).1
    have q1 : zm_i M4 pa = va_cpy (zm_i M pb) (zm_i M pa) 0 0 m.length := by
      rw [hM4]; show zm_i M3 pa = _; rw [hM3, zpi_i, zm_uN (Ne.symm hwp), hM2]; show zm_i M1 pa = _; rw [hM1]; show zm_z _ _ _ _ = _; rw [zm_zS]
    have q2 : zm_j M4 aa = va_cpy (zm_j M ab) (zm_j M aa) 0 0 m.length := by
      rw [hM4, zpj_j, zm_uN (Ne.symm hwa), hM3]; show zm_j M2 aa = _; rw [hM2]; show zm_z _ _ _ _ = _; rw [zm_zS, hM1]; rfl
    rw [q1, q2, pk_cpy_in (by omega) (by omega), pk_cpy_in (by omega) (by omega)]
    rw [show 0 + (j - 0) = j by omega]
    exact k10 j q hq
  · rw [hM4, hM3, hM2, hM1]; rfl
  · rw [hM4, hM3, hM2, hM1]; rfl
/-- Wine.copyFrom -/
theorem zWi_copy {M : Zm} {w pa aa cap v pb ab capb : Nat} {m : Wn} (h : zWsh M w pa aa cap) (hv : zWi M v pb ab capb m) (hwv : w ≠ v) (hp : pa ≠ pb) (ha : aa ≠ ab) (hr : cap < m.length → zm_c M + 2 ≤ 600000 ∧ zm_s M + 2 * capb ≤ 7302250) : ∃ M' pa' aa' cap', zf_X10_copyFrom M (some w) (some v) = some (M', ()) ∧ zWi M' w pa' aa' cap' m ∧ zFr M M' (fun a => a = w ∨ a = pa ∨ a = aa) ∧ ((pa' = pa ∧ aa' = aa ∧ cap' = cap ∧ m.length ≤ cap ∧ zm_c M' = zm_c M ∧ zm_s M' = zm_s M) ∨ (cap' = capb ∧ cap < m.length ∧ ¬ zm_ok M pa' ∧ ¬ zm_ok M aa' ∧ zm_c M' = zm_c M + 2 ∧ zm_s M' = zm_s M + 2 * capb)) := by
  have hh := h
  have hhv := hv
  obtain ⟨g1, g2, g3, g4, g5, g9⟩ := h
  obtain ⟨k1, k2, k3, k4, k5, k6, k7, k8, k9, k10, k11⟩ := hv
  simp only [zf_X10_copyFrom, zgi k1, k6, zgr g1, g2, zb1_some, zal g4 (by decide) (by decide)]
  by_cases hroom : m.length ≤ cap
  · rw [if_pos (nI_le hroom (by omega))]
    obtain ⟨M', e, hw, hf, hc, hs⟩ := zWi_copy0 hh hhv hwv hp ha hroom
    exact ⟨M', pa, aa, cap, e, hw, hf, Or.inl ⟨rfl, rfl, rfl, hroom, hc, hs⟩⟩
  · obtain ⟨hr1, hr2⟩ := hr (by omega)
    rw [if_neg (fun q => by have := (nI_leI (show m.length < 2 ^ 31 by omega) (show cap < 2 ^ 31 by omega)).mp q; omega)]
    obtain ⟨M1, hM1⟩ : ∃ X, X = zm_n M 14 capb := ⟨_, rfl⟩
    have e1 : zo_na M 14 (nI capb) = some M1 := by rw [hM1]; exact zna (by omega) (by omega) (by omega)
    have f1 : zFr M M1 (fun _ => False) := by rw [hM1]; exact zFr.n
    have a1 : zAr M1 (zm_b M + zm_c M) 14 capb := by rw [hM1]; exact zn_ar
    obtain ⟨M2, hM2⟩ : ∃ X, X = zm_pr M1 w 0 (zm_nx M) := ⟨_, rfl⟩
    have f12 : zFr M1 M2 (fun a => a = w) := by rw [hM2]; exact zFr.pr rfl
    have f2 : zFr M M2 (fun a => a = w) := (f1.mono (fun _ _ q => q.elim)).tr f12
    have c2 : zm_c M2 = zm_c M + 1 := by rw [hM2, hM1]; rfl
    have s2 : zm_s M2 = zm_s M + capb := by rw [hM2, hM1]; rfl
    have b2 : zm_b M2 = zm_b M := f2.2.1
    have hr2v : zm_r M2 v 1 = some ab := by rw [(f2.2.2.2.2.2 v k1.1 (Ne.symm hwv)).2.2]; exact k3
    obtain ⟨M3, hM3⟩ : ∃ X, X = zm_n M2 15 capb := ⟨_, rfl⟩
    have e3 : zo_na M2 15 (nI capb) = some M3 := by rw [hM3]; exact zna (by omega) (by omega) (by omega)
    have f23 : zFr M2 M3 (fun _ => False) := by rw [hM3]; exact zFr.n
    have a3 : zAr M3 (zm_b M2 + zm_c M2) 15 capb := by rw [hM3]; exact zn_ar
    obtain ⟨M4, hM4⟩ : ∃ X, X = zm_pr M3 w 1 (zm_nx M2) := ⟨_, rfl⟩
    have f34 : zFr M3 M4 (fun a => a = w) := by rw [hM4]; exact zFr.pr rfl
    have f24 : zFr M2 M4 (fun a => a = w) := (f23.mono (fun _ _ q => q.elim)).tr f34
    have f4 : zFr M M4 (fun a => a = w) := f2.tr f24
    have hwN : w ≠ zm_b M + zm_c M := fun e => by have := g1.1.2; omega
    have hsh : zWsh M4 w (zm_b M + zm_c M) (zm_b M2 + zm_c M2) capb := by
      refine ⟨f4.ob g1, ?_, ?_, f24.ar (f12.ar a1), f34.ar a3, k9⟩
      · rw [hM4, zpr_r, zun (Or.inr (by decide)), (f23.2.2.2.2.2 w (f2.ok g1.1) id).2.2, hM2, zpr_r, zuu]; rfl
      · rw [hM4, zpr_r, zuu]; rfl
    have hv4 : zWi M4 v pb ab capb m := hhv.kept f4 (Ne.symm hwv) (fun e => zkne k4.1.2 g1.2 (by decide) e) (fun e => zkne k5.1.2 g1.2 (by decide) e)
    obtain ⟨M5, e5, hw5, f5, n5, s5⟩ := zWi_copy0 hsh hv4 hwv (fun e => by have := k4.1.1.2; omega) (fun e => by have := k5.1.1.2; omega) k8
    refine ⟨M5, zm_b M + zm_c M, zm_b M2 + zm_c M2, capb, ?_, hw5, (f4.mono (fun _ _ q => Or.inl q)).tr2 f5 ?_, Or.inr ⟨rfl, by omega, ?_, ?_, ?_, ?_⟩⟩
    · simp only [zgr k1, k2, zb1_some, zal k4 (by decide) (by decide), e1, zpr (f1.ob g1), ← hM2, zgr (f2.ob k1), hr2v, zal (f2.ar k5) (by decide) (by decide), e3, zpr (f23.ob (f2.ob g1)), ← hM4]
      exact e5
    · intro a ha hs
      rcases hs with hs | hs | hs
      · exact Or.inl hs
      · exact absurd ha.2 (by omega)
      · exact absurd ha.2 (by omega)
    · intro hk; have := hk.2; omega
    · intro hk; have := hk.2; omega
    · rw [n5, hM4, hM3]; show zm_c M2 + 1 = _; omega
    · rw [s5, hM4, hM3]; show zm_s M2 + capb = _; omega
