/-! The reference's growing rows: lines. -/
theorem zMv.jr {M : Zm} {g : Zg} {m : Nat} {ad : Nat → Nat} {Q : Mq} {f c o : Nat} (h : zMv M g m ad Q) (hf : f = 20 ∧ c = 19 ∧ o = 28 ∨ f = 22 ∧ c = 21 ∧ o = 29) : mJr M g m Q f c o := by
  obtain ⟨h1, h2, h3, h4, h5, h6, h7, h8, h9⟩ := h
  rcases hf with ⟨rfl, rfl, rfl⟩ | ⟨rfl, rfl, rfl⟩
  · exact h8
  · exact h9
theorem nI_n4 (a : Nat) : 4 * nI a = nI (4 * a) := pk_mul 4 a
theorem zMv.lj {M : Zm} {g : Zg} {m : Nat} {ad : Nat → Nat} {Q : Mq} {f c o a k : Nat} {v : Int64} (h : zMv M g m ad Q) (hf : f = 20 ∧ c = 19 ∧ o = 28 ∨ f = 22 ∧ c = 21 ∧ o = 29) (ha : zm_r M m f = some a) (hk : 4 * (Q.1 c 0).toNatClampNeg ≤ k) : zMv (zm_pj M a k v) g m ad (qj Q f k v) := by
  have hj := h.jr hf
  obtain ⟨h1, h2, h3, h4, h5, h6, h7, h8, h9⟩ := h
  obtain ⟨a', e1, e2, e3, e4, e5, e6, e7, e8⟩ := hj
  obtain rfl : a' = a := Option.some.inj (e1.symm.trans ha)
  have ho : o = 28 ∨ o = 29 := by omega
  have hm : ¬ m = a' := fun e => by rw [e, e4] at h2; omega
  have hty : mty f = 4 := by rcases hf with ⟨rfl, -⟩ | ⟨rfl, -⟩ <;> rfl
  have J : ∀ f2 c2 o2, (f2 = 20 ∧ c2 = 19 ∧ o2 = 28 ∨ f2 = 22 ∧ c2 = 21 ∧ o2 = 29) → mJr M g m Q f2 c2 o2 → mJr (zm_pj M a' k v) g m (qj Q f k v) f2 c2 o2 := by
    rintro f2 c2 o2 h2f ⟨b, d1, d2, d3, d4, d5, d6, d7, d8⟩
    refine ⟨b, d1, d2, d3, d4, d5, d6, d7, fun j hj => ?_⟩
    rw [qj_1] at hj
    rw [ypj_j, qj_2]
    by_cases e : f2 = f
    · have eo : c2 = c := by omega
      subst eo
      rw [if_neg (fun q => by omega), if_neg (fun q => by omega)]; exact d8 j hj
    · have hb : b ≠ a' := fun e' => by rw [e', e4] at d4; omega
      rw [if_neg (fun q => hb q.1), if_neg (fun q => e q.1)]; exact d8 j hj
  refine ⟨h1, h2, h3, fun x hx => ?_, h5, fun x hx => ⟨(h6 x hx).1, (h6 x hx).2.1, (h6 x hx).2.2.1, fun j hj => ?_⟩, h7, J 20 19 28 (by omega) h8, J 22 21 29 (by omega) h9⟩
  · rw [ypj_j, if_neg (fun q => hm q.1), qj_2, if_neg (fun q => by rw [q.1, hty] at hx; exact absurd hx (by decide))]; exact h4 x hx
  · have hb : ad x ≠ a' := fun e' => by have := (h6 x hx).2.2.1; rw [e', e4] at this; omega
    rw [ypj_j, if_neg (fun q => hb q.1), qj_2, if_neg (fun q => by rw [q.1, hty] at hx; exact absurd hx (by decide))]; exact (h6 x hx).2.2.2 j hj
theorem zMv.inc {M : Zm} {g : Zg} {m : Nat} {ad : Nat → Nat} {Q : Mq} {f c o a e : Nat} (h : zMv M g m ad Q) (hf : f = 20 ∧ c = 19 ∧ o = 28 ∨ f = 22 ∧ c = 21 ∧ o = 29) (ha : zm_r M m f = some a) (hQ : Q.1 c 0 = nI e) (he : e < 5000) (hr : 4 * e + 4 ≤ g.2 o) (hw : ∀ i, i < 4 → zm_j M a (4 * e + i) = Q.2 f (4 * e + i)) : zMv (zm_pi M m c (nI (e + 1))) g m ad (qi Q c 0 (nI (e + 1))) := by
  have hne := fun x hx => zMv.ne (f := x) h hx
  obtain ⟨h1, h2, h3, h4, h5, h6, h7, h8, h9⟩ := h
  have htc : mty c = 0 := by rcases hf with ⟨-, rfl, -⟩ | ⟨-, rfl, -⟩ <;> rfl
  have J : ∀ f2 c2 o2, (f2 = 20 ∧ c2 = 19 ∧ o2 = 28 ∨ f2 = 22 ∧ c2 = 21 ∧ o2 = 29) → mJr M g m Q f2 c2 o2 → mJr (zm_pi M m c (nI (e + 1))) g m (qi Q c 0 (nI (e + 1))) f2 c2 o2 := by
    rintro f2 c2 o2 h2f ⟨b, d1, d2, d3, d4, d5, d6, d7, d8⟩
    by_cases ef : f2 = f
    · have eo : o2 = o := by omega
      have ec : c2 = c := by omega
      subst ef eo ec
      obtain rfl : b = a := Option.some.inj (d1.symm.trans ha)
      refine ⟨b, d1, d2, d3, d4, ?_, d6, d7, fun j hj => ?_⟩
      · rw [qi_1, if_pos ⟨rfl, rfl⟩, nI_clamp (by omega)]; omega
      · rw [qi_1, if_pos ⟨rfl, rfl⟩, nI_clamp (by omega)] at hj
        rw [hQ, nI_clamp (by omega)] at d8
        rw [zpi_j, qi_2]
        by_cases hlt : j < 4 * e
        · exact d8 j hlt
        · obtain ⟨i, rfl⟩ : ∃ i, j = 4 * e + i := ⟨j - 4 * e, by omega⟩
          exact hw i (by omega)
    · have hc : ¬ c2 = c := by omega
      refine ⟨b, d1, d2, d3, d4, ?_, d6, d7, fun j hj => ?_⟩
      · rw [qi_1, if_neg (fun q => hc q.1)]; exact d5
      · rw [qi_1, if_neg (fun q => hc q.1)] at hj
        exact d8 j hj
  refine ⟨h1, h2, fun x hx => ?_, h4, fun x hx => ⟨(h5 x hx).1, (h5 x hx).2.1, (h5 x hx).2.2.1, fun j hj => ?_⟩, h6, h7, J 20 19 28 (by omega) h8, J 22 21 29 (by omega) h9⟩
  · rw [ypi_i, qi_1]
    by_cases ex : x = c
    · rw [if_pos ⟨rfl, ex⟩, if_pos ⟨ex, rfl⟩]
    · rw [if_neg (fun q => ex q.2), if_neg (fun q => ex q.1)]; exact h3 x hx
  · rw [ypi_i, if_neg (fun q => hne x (Or.inl hx) q.1), qi_1, if_neg (fun q => by rw [q.1, htc] at hx; exact absurd hx (by decide))]; exact (h5 x hx).2.2.2 j hj
theorem zMv.line {M : Zm} {g : Zg} {m : Nat} {ad : Nat → Nat} {Q : Mq} {f c o a e : Nat} {v1 v2 v3 v4 : Int64} (h : zMv M g m ad Q) (hf : f = 20 ∧ c = 19 ∧ o = 28 ∨ f = 22 ∧ c = 21 ∧ o = 29) (ha : zm_r M m f = some a) (hQ : Q.1 c 0 = nI e) (he : e < 5000) (hr : 4 * e + 4 ≤ g.2 o) : zMv (zm_pi (zm_pj (zm_pj (zm_pj (zm_pj M a (4 * e) v1) a (4 * e + 1) v2) a (4 * e + 2) v3) a (4 * e + 3) v4) m c (nI (e + 1))) g m ad (qi (qj (qj (qj (qj Q f (4 * e) v1) f (4 * e + 1) v2) f (4 * e + 2) v3) f (4 * e + 3) v4) c 0 (nI (e + 1))) := by
  have q0 : 4 * (Q.1 c 0).toNatClampNeg = 4 * e := by rw [hQ, nI_clamp (by omega)]
  have s1 := h.lj (k := 4 * e) (v := v1) hf ha (by omega)
  have r1 : zm_r (zm_pj M a (4 * e) v1) m f = some a := by rw [zpj_r]; exact ha
  have w1 : zm_j (zm_pj M a (4 * e) v1) a (4 * e) = v1 := by rw [ypj_j, if_pos ⟨rfl, rfl⟩]
  have c1 : (qj Q f (4 * e) v1).1 = Q.1 := qj_1
  generalize zm_pj M a (4 * e) v1 = M1 at s1 r1 w1 ⊢
  have p1 : (qj Q f (4 * e) v1).2 f (4 * e) = v1 := by rw [qj_2, if_pos ⟨rfl, rfl⟩]
  generalize qj Q f (4 * e) v1 = Q1 at s1 c1 p1 ⊢
  have s2 := s1.lj (k := 4 * e + 1) (v := v2) hf r1 (by rw [c1]; omega)
  have r2 : zm_r (zm_pj M1 a (4 * e + 1) v2) m f = some a := by rw [zpj_r]; exact r1
  have w2 : zm_j (zm_pj M1 a (4 * e + 1) v2) a (4 * e + 1) = v2 := by rw [ypj_j, if_pos ⟨rfl, rfl⟩]
  have w21 : zm_j (zm_pj M1 a (4 * e + 1) v2) a (4 * e) = v1 := by rw [ypj_j, if_neg (by omega)]; exact w1
  have c2 : (qj Q1 f (4 * e + 1) v2).1 = Q.1 := c1
  have p2 : (qj Q1 f (4 * e + 1) v2).2 f (4 * e + 1) = v2 := by rw [qj_2, if_pos ⟨rfl, rfl⟩]
  have p21 : (qj Q1 f (4 * e + 1) v2).2 f (4 * e) = v1 := by rw [qj_2, if_neg (by omega)]; exact p1
  generalize zm_pj M1 a (4 * e + 1) v2 = M2 at s2 r2 w2 w21 ⊢
  generalize qj Q1 f (4 * e + 1) v2 = Q2 at s2 c2 p2 p21 ⊢
  have s3 := s2.lj (k := 4 * e + 2) (v := v3) hf r2 (by rw [c2]; omega)
  have r3 : zm_r (zm_pj M2 a (4 * e + 2) v3) m f = some a := by rw [zpj_r]; exact r2
  have w3 : zm_j (zm_pj M2 a (4 * e + 2) v3) a (4 * e + 2) = v3 := by rw [ypj_j, if_pos ⟨rfl, rfl⟩]
  have w32 : zm_j (zm_pj M2 a (4 * e + 2) v3) a (4 * e + 1) = v2 := by rw [ypj_j, if_neg (by omega)]; exact w2
  have w31 : zm_j (zm_pj M2 a (4 * e + 2) v3) a (4 * e) = v1 := by rw [ypj_j, if_neg (by omega)]; exact w21
  have c3 : (qj Q2 f (4 * e + 2) v3).1 = Q.1 := c2
  have p3 : (qj Q2 f (4 * e + 2) v3).2 f (4 * e + 2) = v3 := by rw [qj_2, if_pos ⟨rfl, rfl⟩]
  have p32 : (qj Q2 f (4 * e + 2) v3).2 f (4 * e + 1) = v2 := by rw [qj_2, if_neg (by omega)]; exact p2
  have p31 : (qj Q2 f (4 * e + 2) v3).2 f (4 * e) = v1 := by rw [qj_2, if_neg (by omega)]; exact p21
  generalize zm_pj M2 a (4 * e + 2) v3 = M3 at s3 r3 w3 w32 w31 ⊢
  generalize qj Q2 f (4 * e + 2) v3 = Q3 at s3 c3 p3 p32 p31 ⊢
  have s4 := s3.lj (k := 4 * e + 3) (v := v4) hf r3 (by rw [c3]; omega)
  have r4 : zm_r (zm_pj M3 a (4 * e + 3) v4) m f = some a := by rw [zpj_r]; exact r3
  refine s4.inc hf r4 (by rw [qj_1, c3]; exact hQ) he hr (fun i hi => ?_)
  rw [ypj_j, qj_2]
  have hc : i = 0 ∨ i = 1 ∨ i = 2 ∨ i = 3 := by omega
  rcases hc with rfl | rfl | rfl | rfl
  · rw [if_neg (by omega), if_neg (by omega), Nat.add_zero, w31, p31]
  · rw [if_neg (by omega), if_neg (by omega), w32, p32]
  · rw [if_neg (by omega), if_neg (by omega), w3, p3]
  · rw [if_pos ⟨rfl, rfl⟩, if_pos ⟨rfl, rfl⟩]
/-- there is room for one line more -/
def mRr (X : Xq) (M : Zm) (Q : Mq) (c o : Nat) : Prop := ∃ g, zMv M g X.2.2.1 X.2.2.2.1 Q ∧ zFo X.1 X.2.1 M g Tm ∧ zBu M g X.2.2.2.2 ∧ 4 * (Q.1 c 0).toNatClampNeg + 4 ≤ g.2 o
theorem p2lt256 {a b : Nat} (h : 256 * 2 ^ a < 256 * 2 ^ b) : 2 * (256 * 2 ^ a) ≤ 256 * 2 ^ b := by
  have h1 : 2 ^ a < 2 ^ b := by omega
  have h2 : a < b := (Nat.pow_lt_pow_iff_right (by decide)).mp h1
  have h3 : 2 ^ (a + 1) ≤ 2 ^ b := Nat.pow_le_pow_right (by decide) h2
  rw [Nat.pow_succ] at h3
  omega
/-- the row grows -/
theorem mgrow {X : Xq} {M : Zm} {Q : Mq} {f c o : Nat} {g : Zg} {β : Type} {F : Zm → Option β} {P : β → Prop} (L : Zm × Int32 → Option ((Zm × Int32) ⊕ (Zm × Int32))) (hf : f = 20 ∧ c = 19 ∧ o = 28 ∨ f = 22 ∧ c = 21 ∧ o = 29) (h1 : zMv M g X.2.2.1 X.2.2.2.1 Q) (h2 : zFo X.1 X.2.1 M g Tm) (h3 : zBu M g X.2.2.2.2) (he : 4 * (Q.1 c 0).toNatClampNeg = g.2 o) (hlt : g.2 o < zcm o)
    (hL : ∀ (M1 : Zm) (i : Int32), L (M1, i) = zb1 (zo_gr M1 (some X.2.2.1) 13 f) (fun v8 => zb1 (zo_al M1 v8) (fun v9 => (if v9 ≤ i then some (.inr (M1, i)) else zb1 (zo_gr M1 (some X.2.2.1) 13 f) (fun v11 => zb1 (zo_aj M1 v11 i) (fun v12 => zb1 (zo_sj M1 (zm_nx M) i v12) (fun M13 => some (.inl (M13, i + 1)))))))))
    (k : ∀ M', mRr X M' Q c o → zev (F M') P) : zev (zb1 (zo_na M 15 (nI (2 * g.2 o))) (fun M7 => zb1 (zwhile L (M7, 0)) (fun y => match y with | (M8, _) => zb1 (zo_pr M8 (some X.2.2.1) 13 f (zm_nx M)) F))) P := by
  have hj := h1.jr hf
  obtain ⟨a, e1, e2, e3, e4, e5, e6, ⟨kk, e7⟩, e8⟩ := hj
  have hzc : (o = 28 ∧ zcm o = 256 * 2 ^ 6 ∨ o = 29 ∧ zcm o = 256 * 2 ^ 4) := by
    rcases hf with ⟨-, -, rfl⟩ | ⟨-, -, rfl⟩
    · exact Or.inl ⟨rfl, rfl⟩
    · exact Or.inr ⟨rfl, rfl⟩
  have hd : 2 * g.2 o ≤ zcm o := by
    rcases hzc with ⟨-, hz⟩ | ⟨-, hz⟩
    · rw [e7, hz]; apply p2lt256; rw [← e7, ← hz]; exact hlt
    · rw [e7, hz]; apply p2lt256; rw [← e7, ← hz]; exact hlt
  have hcap : zcm o ≤ 16384 := by rcases hzc with ⟨-, hz⟩ | ⟨-, hz⟩ <;> rw [hz] <;> decide
  have hp : 0 < 2 ^ kk := Nat.pow_pos (by decide)
  have ho : o < 3100 := by omega
  have b1 := h3.1
  have b2 := h3.2
  have nok : ¬ zm_ok M (zm_b M + zm_c M) := fun q => by have := q.2; omega
  have hup := zcd_up (f := g.2) (f' := (zgx g o (zm_b M + zm_c M) (zm_b M + zm_c M) (2 * g.2 o)).2) (o := o) (fun x hx => zgx_2n hx) (by rw [zgx_2]; omega) (by rw [zgx_2]; exact hd) 3100 ho
  rw [zgx_2] at hup
  rw [zev_b1]
  refine zev_new rfl (by omega) (by omega) (by omega) ?_
  intro M2 f2 A2 c2 s2 z2
  have nm : X.2.2.1 ≠ zm_b M + zm_c M := zO_ne h1.1
  have na : a ≠ zm_b M + zm_c M := zO_ne e2
  rw [zev_b1]
  refine zev_up (τ := Zm × Int32) (fun i (z : Zm × Int32) => ∃ M1, z = (M1, nI i) ∧ zFr M2 M1 (fun x => x = zm_b M + zm_c M) ∧ zm_c M1 = zm_c M2 ∧ zm_s M1 = zm_s M2 ∧ ∀ j, j < i → zm_j M1 (zm_b M + zm_c M) j = Q.2 f j) (g.2 o) (Nat.zero_le _) ⟨M2, rfl, zFr.rf, rfl, rfl, fun j hj => by omega⟩ ?_ ?_
  · rintro i z hi ⟨M1, rfl, fr, c3, s3, hc⟩
    have o1 : zO M1 X.2.2.1 13 := fr.ob (f2.ob h1.1)
    have r1 : zm_r M1 X.2.2.1 f = some a := by
      rw [(fr.2.2.2.2.2 _ (f2.ok h1.1.1) nm).2.2, (f2.2.2.2.2.2 _ h1.1.1 id).2.2]; exact e1
    have o2 : zO M1 a 15 := fr.ob (f2.ob e2)
    have l2 : zm_l M1 a = g.2 o := by rw [← e3]; exact (fr.ar (f2.ar (show zAr M a 15 (zm_l M a) from ⟨e2, rfl⟩))).2
    have A1 : zA M1 (zm_b M + zm_c M) 15 (2 * g.2 o) := fr.ar A2
    have j1 : zm_j M1 a i = Q.2 f i := by
      rw [(fr.2.2.2.2.2 _ (f2.ok e2.1) na).2.1, (f2.2.2.2.2.2 _ e2.1 id).2.1]; exact e8 i (by omega)
    rw [hL]
    simp only [zev_b1, zev_bd, zev_some, zev_gi, zev_gj, zev_gr, zev_pi, zev_pz, zev_pj, zev_pr, zev_rc, zev_cc, zev_b0, zev_bo, true_and, and_true, o1, r1, zev_al2 o2 (by decide) (by decide), l2, if_neg (nI_ge hi (show g.2 o < 2 ^ 31 by omega)), zev_aj2 (show i < 2 ^ 31 by omega), o2, hi, j1, zm_nx, zev_sj2 (show i < 2 ^ 31 by omega)]
    refine ⟨⟨A1.1, by rw [A1.2]; omega⟩, _, rfl, _, p2 (nI_1 i), fr.tr (zFr.pj rfl), c3, s3, fun j hj => ?_⟩
    rw [ypj_j]
    by_cases e : j = i
    · rw [if_pos ⟨rfl, e⟩, e]
    · rw [if_neg (fun q => e q.2)]; exact hc j (by omega)
  · rintro z ⟨M1, rfl, fr, c3, s3, hc⟩
    have o1 : zO M1 X.2.2.1 13 := fr.ob (f2.ob h1.1)
    have r1 : zm_r M1 X.2.2.1 f = some a := by
      rw [(fr.2.2.2.2.2 _ (f2.ok h1.1.1) nm).2.2, (f2.2.2.2.2.2 _ h1.1.1 id).2.2]; exact e1
    have o2 : zO M1 a 15 := fr.ob (f2.ob e2)
    have l2 : zm_l M1 a = g.2 o := by rw [← e3]; exact (fr.ar (f2.ar (show zAr M a 15 (zm_l M a) from ⟨e2, rfl⟩))).2
    rw [hL]
    simp only [zev_b1, zev_bd, zev_some, zev_gi, zev_gj, zev_gr, zev_pi, zev_pz, zev_pj, zev_pr, zev_rc, zev_cc, zev_b0, zev_bo, true_and, and_true, o1, r1, zev_al2 o2 (by decide) (by decide), l2, if_pos (nI_le (Nat.le_refl (g.2 o)) (show g.2 o < 2 ^ 31 by omega))]
    refine ⟨_, rfl, ?_⟩
    dsimp only
    simp only [zev_b1, zev_bd, zev_some, zev_gi, zev_gj, zev_gr, zev_pi, zev_pz, zev_pj, zev_pr, zev_rc, zev_cc, zev_b0, zev_bo, true_and, and_true, o1]
    apply k
    have A1 : zA M1 (zm_b M + zm_c M) 15 (2 * g.2 o) := fr.ar A2
    have fA : zFr M M1 (fun _ => False) := ⟨fr.1.trans f2.1, fr.2.1.trans f2.2.1, by rw [c3, c2]; omega, by rw [s3, s2]; omega, fun x hx => ⟨(fr.2.2.2.2.1 x (f2.ok hx)).1.trans (f2.2.2.2.2.1 x hx).1, (fr.2.2.2.2.1 x (f2.ok hx)).2.trans (f2.2.2.2.2.1 x hx).2⟩, fun x hx _ => by
      have hne : x ≠ zm_b M + zm_c M := fun e => nok (e ▸ hx)
      exact ⟨(fr.2.2.2.2.2 x (f2.ok hx) hne).1.trans (f2.2.2.2.2.2 x hx id).1, (fr.2.2.2.2.2 x (f2.ok hx) hne).2.1.trans (f2.2.2.2.2.2 x hx id).2.1, (fr.2.2.2.2.2 x (f2.ok hx) hne).2.2.trans (f2.2.2.2.2.2 x hx id).2.2⟩⟩
    have ff : zFr M (zm_pr M1 X.2.2.1 f (zm_nx M)) (fun x => x = X.2.2.1) := (fA.mono (fun _ _ q => q.elim)).tr (zFr.pr rfl)
    have fo := zgx_fo (o := o) (c := 2 * g.2 o) (T := Tm) (g := g) (p := zm_b M + zm_c M) (a := zm_b M + zm_c M) (ff.mono (fun x _ q => by rw [q]; exact Or.inl h1.2.1)) (by unfold Tm; omega) nok nok
    have hb' := zBu_gx (M' := zm_pr M1 X.2.2.1 f (zm_nx M)) (p := zm_b M + zm_c M) (a := zm_b M + zm_c M) (c := 2 * g.2 o) (ds := 2 * g.2 o) (dc := 1) h3 ho (by omega) hd (by show zm_s M1 = _; omega) (by show zm_c M1 = _; omega) (by omega) (by omega)
    refine ⟨_, ?_, h2.tr fo, hb', by rw [zgx_2]; omega⟩
    have fo2 := zgx_fo (o := o) (c := 2 * g.2 o) (T := fun z => z = o) (g := g) (p := zm_b M + zm_c M) (a := zm_b M + zm_c M) (fA.mono (fun x _ q => q.elim)) rfl nok nok
    have on1 : ¬ (1 = o) := by omega
    have hv : ∀ f2 c2 o2, (f2 = 20 ∧ c2 = 19 ∧ o2 = 28 ∨ f2 = 22 ∧ c2 = 21 ∧ o2 = 29) → mJr M g X.2.2.1 Q f2 c2 o2 → mJr (zm_pr M1 X.2.2.1 f (zm_nx M)) (zgx g o (zm_b M + zm_c M) (zm_b M + zm_c M) (2 * g.2 o)) X.2.2.1 Q f2 c2 o2 := by
      intro f3 c4 o3 hf3 hJ
      by_cases e : f3 = f
      · have eo : o3 = o := by omega
        have ec : c4 = c := by omega
        subst e eo ec
        refine ⟨zm_b M + zm_c M, by rw [ypr_r, if_pos ⟨rfl, rfl⟩]; rfl, A1.1, by rw [zgx_2]; exact A1.2, zgx_1p, by rw [zgx_2]; omega, by rw [zgx_2]; exact hd, ⟨kk + 1, by rw [zgx_2]; have := Nat.pow_succ 2 kk; omega⟩, fun j hj => hc j (by omega)⟩
      · have hJ2 := hJ.fr fo2 h1.1.1 h1.2.1 on1 (by omega)
        obtain ⟨b, d1, d2, d3, d4, d5, d6, d7, d8⟩ := hJ2
        refine ⟨b, ?_, d2, d3, d4, d5, d6, d7, d8⟩
        rw [ypr_r, if_neg (fun q => e q.2)]; exact d1
    have fat : zm_i M1 X.2.2.1 = zm_i M X.2.2.1 ∧ zm_j M1 X.2.2.1 = zm_j M X.2.2.1 ∧ zm_r M1 X.2.2.1 = zm_r M X.2.2.1 := fA.2.2.2.2.2 _ h1.1.1 id
    obtain ⟨q1, q2, q3, q4, q5, q6, q7, q8, q9⟩ := h1
    have ha2 : ∀ x, (mty x = 2 ∨ mty x = 3) → ¬ x = f := fun x hx q => by
      rw [q] at hx
      rcases hf with ⟨rfl, -⟩ | ⟨rfl, -⟩
      · revert hx; decide
      · revert hx; decide
    refine ⟨fA.ob q1, ?_, fun x hx => by show zm_i M1 _ _ = _; rw [fat.1]; exact q3 x hx, fun x hx => by show zm_j M1 _ _ = _; rw [fat.2.1]; exact q4 x hx, fun x hx => ?_, fun x hx => ?_, q7, hv 20 19 28 (by omega) q8, hv 22 21 29 (by omega) q9⟩
    · exact fo2.own q1.1 q2
    · obtain ⟨w1, w2, w3, w4⟩ := q5 x hx
      refine ⟨?_, fA.ar w2, fo2.own w2.1.1 w3, fun j hj => ?_⟩
      · rw [ypr_r, if_neg (fun q => ha2 x (Or.inl hx) q.2), fat.2.2]; exact w1
      · show zm_i M1 _ _ = _
        rw [(fA.2.2.2.2.2 _ w2.1.1 id).1]; exact w4 j hj
    · obtain ⟨w1, w2, w3, w4⟩ := q6 x hx
      refine ⟨?_, fA.ar w2, fo2.own w2.1.1 w3, fun j hj => ?_⟩
      · rw [ypr_r, if_neg (fun q => ha2 x (Or.inr hx) q.2), fat.2.2]; exact w1
      · show zm_j M1 _ _ = _
        rw [(fA.2.2.2.2.2 _ w2.1.1 id).2.1]; exact w4 j hj
noncomputable def mf_enter (Q : Mq) (a b c : Int32) (d : Int64) : Option (Mq × Unit) := mo_line Q 20 19 4096 a.toInt64 b.toInt64 c.toInt64 d
theorem ms_enterJ {X : Xq} {M : Zm} {Q : Mq} {e : Nat} (h : mRr X M Q 19 28) (a b c : Int32) (d : Int64) (hQ : Q.1 19 0 = nI e) (he : e < 4096) : zev (zf_X12_enter_J62 M (some X.2.2.1) a b c d) (fun y => mR X y.1 (qi (qj (qj (qj (qj Q 20 (4 * e) a.toInt64) 20 (4 * e + 1) b.toInt64) 20 (4 * e + 2) c.toInt64) 20 (4 * e + 3) d) 19 0 (nI (e + 1)))) := by
  obtain ⟨g, h1, h2, h3, h4⟩ := h
  rw [hQ, nI_clamp (by omega)] at h4
  have hj := h1.jr (f := 20) (c := 19) (o := 28) (by omega)
  obtain ⟨a0, e1, e2, e3, e4, e5, e6, e7, e8⟩ := hj
  have i1 : zm_i M X.2.2.1 19 = nI e := (h1.2.2.1 19 rfl).trans hQ
  have ne : ¬ X.2.2.1 = a0 := fun q => by have := h1.2.1; rw [q, e4] at this; omega
  have hl := h1.line (v1 := a.toInt64) (v2 := b.toInt64) (v3 := c.toInt64) (v4 := d) (show 20 = 20 ∧ 19 = 19 ∧ 28 = 28 ∨ _ from Or.inl ⟨rfl, rfl, rfl⟩) e1 hQ (by omega) h4
  simp only [zf_X12_enter_J62, zev_b1, zev_bd, zev_some, zev_gi, zev_gj, zev_gr, zev_pi, zev_pz, zev_pj, zev_pr, zev_rc, zev_cc, zev_b0, zev_bo, true_and, and_true, ypi_i, ypj_j, ypr_r, zpi_j, zpi_r, zpj_i, zpj_r, zpr_i, zpr_j, ypi_O, ypj_O, ypr_O, zpi_l, zpj_l, zpr_l, zpi_b, zpi_c, zpj_b, zpj_c, zpr_b, zpr_c, zpi_s, zpj_s, zpr_s, h1.1, e1, i1, nI_n4, nI_1, nI_a2, nI_a3, zev_sj2 (show 4 * e < 2 ^ 31 by omega), zev_sj2 (show 4 * e + 1 < 2 ^ 31 by omega), zev_sj2 (show 4 * e + 2 < 2 ^ 31 by omega), zev_sj2 (show 4 * e + 3 < 2 ^ 31 by omega), e2, e3, show 4 * e < g.2 28 by omega, show 4 * e + 1 < g.2 28 by omega, show 4 * e + 2 < g.2 28 by omega, show 4 * e + 3 < g.2 28 by omega]
  have tj : ∀ {M' : Zm} {k : Nat} {v : Int64}, zFo M g M' g Tm → zFo M g (zm_pj M' a0 k v) g Tm := fun q => q.tr (zFo.pj (Or.inr (Or.inl e4)))
  exact ⟨g, hl, h2.tr ((tj (tj (tj (tj zFo.rf)))).tr (zFo.pi (Or.inl h1.2.1))), h3.same (by simp only [zpi_s, zpj_s]) (by simp only [zpi_c, zpj_c])⟩
theorem ms_enter {X : Xq} {M : Zm} {Q : Mq} (h : mR X M Q) (a b c : Int32) (d : Int64) : zG (mP X) (zf_X12_enter M (some X.2.2.1) a b c d) (mf_enter Q a b c d) := by
  unfold mf_enter mo_line
  by_cases hc : ¬ Q.1 19 0 < 0 ∧ (Q.1 19 0).toNatClampNeg < 4096
  · rw [if_pos hc]
    obtain ⟨e, he, hQ⟩ := nI_of hc.1
    have he2 := hc.2
    rw [hQ, nI_clamp he] at he2
    have key : zev (zf_X12_enter M (some X.2.2.1) a b c d) (fun y => mR X y.1 (qi (qj (qj (qj (qj Q 20 (4 * e) a.toInt64) 20 (4 * e + 1) b.toInt64) 20 (4 * e + 2) c.toInt64) 20 (4 * e + 3) d) 19 0 (nI (e + 1)))) := by
      obtain ⟨g, h1, h2, h3⟩ := h
      have hj := h1.jr (f := 20) (c := 19) (o := 28) (by omega)
      obtain ⟨a0, e1, e2, e3, e4, e5, e6, e7, e8⟩ := hj
      rw [hQ, nI_clamp he] at e5
      have i1 : zm_i M X.2.2.1 19 = nI e := (h1.2.2.1 19 rfl).trans hQ
      have hz : zcm 28 = 16384 := rfl
      have e7' := e7
      obtain ⟨kk, e7⟩ := e7
      unfold zf_X12_enter
      simp only [zev_b1, zev_gi, zev_gr, h1.1, i1, e1, true_and, zev_al2 e2 (by decide) (by decide), e3, nI_n4, nI_2m]
      by_cases hg : 4 * e = g.2 28
      · rw [if_pos (by rw [hg])]
        refine (show zev (zb1 (zo_na M 15 (nI (2 * g.2 28))) (fun M7 => zb1 (zwhile (zf_X12_enter_L28 (some X.2.2.1) a b c d (zm_nx M)) (M7, 0)) (fun y => match y with | (M8, _) => zb1 (zo_pr M8 (some X.2.2.1) 13 20 (zm_nx M)) (fun M16 => zf_X12_enter_J62 M16 (some X.2.2.1) a b c d)))) _ from ?_) |> fun q => by simpa only [zev_b1, zev_gr, h1.1, e1, true_and, zev_al2 e2 (by decide) (by decide), e3, nI_2m] using q
        refine mgrow (f := 20) (c := 19) (o := 28) (zf_X12_enter_L28 (some X.2.2.1) a b c d (zm_nx M)) (Or.inl ⟨rfl, rfl, rfl⟩) h1 h2 h3 (by rw [hQ, nI_clamp he]; exact hg) (by omega) (fun _ _ => rfl) ?_
        intro M' hr
        exact ms_enterJ hr a b c d hQ he2
      · rw [if_neg (fun q => hg ((nI_eq (by omega) (by omega)).mp q))]
        refine ms_enterJ ⟨g, h1, h2, h3, ?_⟩ a b c d hQ he2
        rw [hQ, nI_clamp he]
        have := Nat.pow_pos (n := kk) (show 0 < 2 by decide)
        omega
    obtain ⟨⟨M', u⟩, k1, k2⟩ := key
    intro b' eb
    cases eb
    refine ⟨(M', u), k1, ?_, rfl⟩
    rw [hQ, nI_clamp he, nI_1]
    exact k2
  · rw [if_neg hc]; intro d e; cases e
noncomputable def mf_botTail (Q : Mq) (l1 l2 : Int32) (v : Int64) : Option (Mq × Int64) := mbd (mo_line Q 22 21 1024 (Q.1 0 0).toInt64 l1.toInt64 l2.toInt64 v) (fun Q1 _ => mbd (mf_enter Q1 6 l1 (-1) (l2.toInt64 * v)) (fun Q2 _ => some (Q2, (Q2.1 0 0).toInt64)))
theorem ms_botJ {X : Xq} {M : Zm} {Q : Mq} {e : Nat} (h : mRr X M Q 21 29) (l1 l2 : Int32) (v : Int64) (hQ : Q.1 21 0 = nI e) (he : e < 1024) : zG (mP X) (zf_X12_bottle_J211 M (some X.2.2.1) l1 l2 v) (mbd (mf_enter (qi (qj (qj (qj (qj Q 22 (4 * e) (Q.1 0 0).toInt64) 22 (4 * e + 1) l1.toInt64) 22 (4 * e + 2) l2.toInt64) 22 (4 * e + 3) v) 21 0 (nI (e + 1))) 6 l1 (-1) (l2.toInt64 * v)) (fun Q2 _ => some (Q2, (Q2.1 0 0).toInt64))) := by
  obtain ⟨g, h1, h2, h3, h4⟩ := h
  rw [hQ, nI_clamp (by omega)] at h4
  have hj := h1.jr (f := 22) (c := 21) (o := 29) (by omega)
  obtain ⟨a0, e1, e2, e3, e4, e5, e6, e7, e8⟩ := hj
  have i1 : zm_i M X.2.2.1 21 = nI e := (h1.2.2.1 21 rfl).trans hQ
  have i0 : zm_i M X.2.2.1 0 = Q.1 0 0 := h1.2.2.1 0 rfl
  have ne : ¬ X.2.2.1 = a0 := fun q => by have := h1.2.1; rw [q, e4] at this; omega
  have hl := h1.line (v1 := (Q.1 0 0).toInt64) (v2 := l1.toInt64) (v3 := l2.toInt64) (v4 := v) (show 22 = 20 ∧ 21 = 19 ∧ 29 = 28 ∨ 22 = 22 ∧ 21 = 21 ∧ 29 = 29 from Or.inr ⟨rfl, rfl, rfl⟩) e1 hQ (by omega) h4
  have tj : ∀ {M' : Zm} {k : Nat} {v : Int64}, zFo M g M' g Tm → zFo M g (zm_pj M' a0 k v) g Tm := fun q => q.tr (zFo.pj (Or.inr (Or.inr e4)))
  have hR : mR X (zm_pi (zm_pj (zm_pj (zm_pj (zm_pj M a0 (4 * e) (Q.1 0 0).toInt64) a0 (4 * e + 1) l1.toInt64) a0 (4 * e + 2) l2.toInt64) a0 (4 * e + 3) v) X.2.2.1 21 (nI (e + 1))) (qi (qj (qj (qj (qj Q 22 (4 * e) (Q.1 0 0).toInt64) 22 (4 * e + 1) l1.toInt64) 22 (4 * e + 2) l2.toInt64) 22 (4 * e + 3) v) 21 0 (nI (e + 1))) := ⟨g, hl, h2.tr ((tj (tj (tj (tj zFo.rf)))).tr (zFo.pi (Or.inl h1.2.1))), h3.same (by simp only [zpi_s, zpj_s]) (by simp only [zpi_c, zpj_c])⟩
  intro b eb
  show zev (zf_X12_bottle_J211 M (some X.2.2.1) l1 l2 v) (fun a => mP X a b)
  simp only [zf_X12_bottle_J211, zev_b1, zev_bd, zev_some, zev_gi, zev_gj, zev_gr, zev_pi, zev_pz, zev_pj, zev_pr, zev_rc, zev_cc, zev_b0, zev_bo, true_and, and_true, ypi_i, ypj_j, ypr_r, zpi_j, zpi_r, zpj_i, zpj_r, zpr_i, zpr_j, ypi_O, ypj_O, ypr_O, zpi_l, zpj_l, zpr_l, zpi_b, zpi_c, zpj_b, zpj_c, zpr_b, zpr_c, zpi_s, zpj_s, zpr_s, h1.1, e1, i0, i1, nI_n4, nI_1, nI_a2, nI_a3, zev_sj2 (show 4 * e < 2 ^ 31 by omega), zev_sj2 (show 4 * e + 1 < 2 ^ 31 by omega), zev_sj2 (show 4 * e + 2 < 2 ^ 31 by omega), zev_sj2 (show 4 * e + 3 < 2 ^ 31 by omega), e2, e3, show 4 * e < g.2 29 by omega, show 4 * e + 1 < g.2 29 by omega, show 4 * e + 2 < g.2 29 by omega, show 4 * e + 3 < g.2 29 by omega]
  obtain ⟨Q2, u, k1, k2⟩ := mbd_inv eb
  obtain ⟨⟨M2, u2⟩, k3, k4, k5⟩ := ms_enter hR _ _ _ _ (Q2, u) k1
  refine ⟨(M2, u2), k3, ?_⟩
  dsimp only at k4 ⊢
  cases k2
  obtain ⟨g2, q1, q2, q3⟩ := id k4
  refine ⟨q1.1, k4, ?_⟩
  show (zm_i M2 X.2.2.1 0).toInt64 = (Q2.1 0 0).toInt64
  rw [q1.2.2.1 0 rfl]
theorem ms_botTail {X : Xq} {M : Zm} {Q : Mq} (h : mR X M Q) (l1 l2 : Int32) (v : Int64) : zG (mP X) (zb1 (zo_gi M (some X.2.2.1) 13 21) (fun v28 => zb1 (zo_gr M (some X.2.2.1) 13 22) (fun v29 => zb1 (zo_al M v29) (fun v30 => (if ((4 : Int32) * v28) = v30 then zb1 (zo_gr M (some X.2.2.1) 13 22) (fun v32 => zb1 (zo_al M v32) (fun v33 => zb1 (zo_na M 15 ((2 : Int32) * v33)) (fun M34 => zb1 (zwhile (zf_X12_bottle_L177 (some X.2.2.1) l1 l2 v (zm_nx M)) (M34, (0 : Int32))) (fun y42 => match y42 with | (M8, _) => zb1 (zo_pr M8 (some X.2.2.1) 13 22 (zm_nx M)) (fun M43 => zf_X12_bottle_J211 M43 (some X.2.2.1) l1 l2 v))))) else zf_X12_bottle_J211 M (some X.2.2.1) l1 l2 v))))) (mf_botTail Q l1 l2 v) := by
  unfold mf_botTail mo_line
  by_cases hc : ¬ Q.1 21 0 < 0 ∧ (Q.1 21 0).toNatClampNeg < 1024
  · rw [if_pos hc]
    obtain ⟨e, he, hQ⟩ := nI_of hc.1
    have he2 := hc.2
    rw [hQ, nI_clamp he] at he2
    rw [hQ, nI_clamp he, nI_1]
    intro b eb
    have eb2 : mbd (mf_enter (qi (qj (qj (qj (qj Q 22 (4 * e) (Q.1 0 0).toInt64) 22 (4 * e + 1) l1.toInt64) 22 (4 * e + 2) l2.toInt64) 22 (4 * e + 3) v) 21 0 (nI (e + 1))) 6 l1 (-1) (l2.toInt64 * v)) (fun Q2 _ => some (Q2, (Q2.1 0 0).toInt64)) = some b := eb
    obtain ⟨g, h1, h2, h3⟩ := h
    have hj := h1.jr (f := 22) (c := 21) (o := 29) (by omega)
    obtain ⟨a0, e1, e2, e3, e4, e5, e6, e7, e8⟩ := hj
    rw [hQ, nI_clamp he] at e5
    have i1 : zm_i M X.2.2.1 21 = nI e := (h1.2.2.1 21 rfl).trans hQ
    have hz : zcm 29 = 4096 := rfl
    obtain ⟨kk, e7⟩ := e7
    refine (show zev _ (fun a => mP X a b) from ?_)
    simp only [zev_b1, zev_gi, zev_gr, h1.1, i1, e1, true_and, zev_al2 e2 (by decide) (by decide), e3, nI_n4, nI_2m]
    by_cases hg : 4 * e = g.2 29
    · rw [if_pos (by rw [hg])]
      refine (show zev (zb1 (zo_na M 15 (nI (2 * g.2 29))) (fun M7 => zb1 (zwhile (zf_X12_bottle_L177 (some X.2.2.1) l1 l2 v (zm_nx M)) (M7, 0)) (fun y => match y with | (M8, _) => zb1 (zo_pr M8 (some X.2.2.1) 13 22 (zm_nx M)) (fun M16 => zf_X12_bottle_J211 M16 (some X.2.2.1) l1 l2 v)))) _ from ?_) |> fun q => by simpa only [zev_b1, zev_gr, h1.1, e1, true_and, zev_al2 e2 (by decide) (by decide), e3, nI_2m] using q
      refine mgrow (f := 22) (c := 21) (o := 29) (zf_X12_bottle_L177 (some X.2.2.1) l1 l2 v (zm_nx M)) (Or.inr ⟨rfl, rfl, rfl⟩) h1 h2 h3 (by rw [hQ, nI_clamp he]; exact hg) (by omega) (fun _ _ => rfl) ?_
      intro M' hr
      exact ms_botJ hr l1 l2 v hQ he2 b eb2
    · rw [if_neg (fun q => hg ((nI_eq (by omega) (by omega)).mp q))]
      refine ms_botJ ⟨g, h1, h2, h3, ?_⟩ l1 l2 v hQ he2 b eb2
      rw [hQ, nI_clamp he]
      have := Nat.pow_pos (n := kk) (show 0 < 2 by decide)
      omega
  · rw [if_neg hc]; intro d e; cases e
