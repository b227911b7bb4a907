/-! New things: an object's rows and members, step by step. -/
theorem zr_rc {M : Zm} {a c : Nat} {β : Type} {F : Unit → Option β} {Q : β → Prop} (hO : zO M a c) (h : zev (F ()) Q) : zev (zb1 (zo_rc M (some a) c) F) Q := by
  rw [zev_b1]; exact zev_rc.mpr ⟨hO, h⟩
theorem zr_pi {M : Zm} {a c k : Nat} {v : Int32} {β : Type} {F : Zm → Option β} {Q : β → Prop} (hO : zO M a c) (h : zev (F (zm_pi M a k v)) Q) : zev (zb1 (zo_pi M (some a) c k v) F) Q := by
  rw [zev_b1]; exact zev_pi.mpr ⟨hO, h⟩
theorem zr_pz {M : Zm} {a c k : Nat} {v : Int32} {β : Type} {F : Zm → Option β} {Q : β → Prop} (hO : zO M a c) (hv : v = 0 ∨ v = 1) (h : zev (F (zm_pi M a k v)) Q) : zev (zb1 (zo_pz M (some a) c k v) F) Q := by
  rw [zev_b1]; exact zev_pz.mpr ⟨⟨hO, hv⟩, h⟩
theorem zr_pj {M : Zm} {a c k : Nat} {v : Int64} {β : Type} {F : Zm → Option β} {Q : β → Prop} (hO : zO M a c) (h : zev (F (zm_pj M a k v)) Q) : zev (zb1 (zo_pj M (some a) c k v) F) Q := by
  rw [zev_b1]; exact zev_pj.mpr ⟨hO, h⟩
theorem zr_pr {M : Zm} {a c k : Nat} {v : Option Nat} {β : Type} {F : Zm → Option β} {Q : β → Prop} (hO : zO M a c) (h : zev (F (zm_pr M a k v)) Q) : zev (zb1 (zo_pr M (some a) c k v) F) Q := by
  rw [zev_b1]; exact zev_pr.mpr ⟨hO, h⟩
/-- a new row, put into a member -/
theorem zr_ns {M : Zm} {g : Zg} {a c f k n o K : Nat} {v : Int32} {β : Type} {F : Zm → Option β} {Q : β → Prop} (hO : zO M a c) (hg : g.1 a = o) (hv : v = nI n) (hn : n < 2 ^ 31) (hb : zBu M g (K + n + 1)) (hQ : ∀ M3 g3 nw, zFo M g M3 g3 (fun z => z = o) → zBu M3 g3 K → zA M3 nw k n → g3.1 nw = o → ¬ zm_ok M nw → (∀ j, zm_r M3 a j = if j = f then some nw else zm_r M a j) → zm_i M3 a = zm_i M a → zm_j M3 a = zm_j M a → (∀ j, zm_i M3 nw j = 0 ∧ zm_j M3 nw j = 0 ∧ zm_r M3 nw j = none) → zev (F M3) Q) : zev (zb1 (zo_na M k v) (fun M2 => zb1 (zo_pr M2 (some a) c f (zm_nx M)) F)) Q := by
  have b1 := hb.1
  have b2 := hb.2
  have nok : ¬ zm_ok M (zm_b M + zm_c M) := fun q => by have := q.2; omega
  have na : a ≠ zm_b M + zm_c M := zO_ne hO
  rw [zev_b1]
  refine zev_new (k := k) hv hn (by omega) (by omega) (fun M2 f2 A2 c2 s2 z2 => ?_)
  have O2 := f2.ob hO
  have e2 := f2.2.2.2.2.2 a hO.1 id
  refine zr_pr O2 ?_
  have fo2 : zFo M g M2 (zgw g o (zm_b M + zm_c M)) (fun z => z = o) := zgw_fo (f2.mono (fun _ _ q => q.elim)) nok
  have g2 : (zgw g o (zm_b M + zm_c M)).1 a = o := fo2.own hO.1 hg
  refine hQ _ (zgw g o (zm_b M + zm_c M)) (zm_b M + zm_c M) (fo2.tr (zFo.pr g2)) ((zBu.gw (ds := n) (dc := 1) hb s2 c2).same rfl rfl) A2 zgw_1 nok (fun j => ?_) e2.1 e2.2.1 (fun j => ⟨(z2 j).1, (z2 j).2.1, ?_⟩)
  · rw [ypr_r]
    by_cases e : j = f
    · rw [if_pos ⟨rfl, e⟩, if_pos e]; rfl
    · rw [if_neg (fun q => e q.2), if_neg e, e2.2.2]
  · rw [ypr_r, if_neg (fun q => na q.1.symm)]; exact (z2 j).2.2
/-- a new object, begun, put into a member -/
theorem zr_no {M : Zm} {g : Zg} {a c f k n o o2 K K2 : Nat} {β : Type} {F : Zm → Option β} {Q : β → Prop} {I : Zm → Option Nat → Option (Zm × Unit)} {T2 : Nat → Prop} (P : Zm → Zg → Nat → Prop) (hO : zO M a c) (hg : g.1 a = o) (hb : zBu M g (K2 + n + 1)) (ht : ¬ T2 o) (hI : ∀ M2 g2 w, zO M2 w k → g2.1 w = o2 → (∀ j, zm_i M2 w j = 0 ∧ zm_j M2 w j = 0 ∧ zm_r M2 w j = none) → zm_e M2 = zm_e M → zm_b M2 = zm_b M → zBu M2 g2 K2 → zev (I M2 (some w)) (fun y => ∃ g', P y.1 g' w ∧ zFo M2 g2 y.1 g' T2 ∧ zBu y.1 g' K)) (hP : ∀ M g M' g' w, P M g w → zFo M g M' g' (fun z => z = o) → P M' g' w) (hQ : ∀ M3 g3 w, zFo M g M3 g3 (fun z => z = o ∨ T2 z) → zBu M3 g3 K → P M3 g3 w → (∀ j, zm_r M3 a j = if j = f then some w else zm_r M a j) → zm_i M3 a = zm_i M a → zm_j M3 a = zm_j M a → zm_e M3 = zm_e M → zm_b M3 = zm_b M → zev (F M3) Q) : zev (zb1 (zo_n M k n) (fun M2 => zb1 (zo_rc M2 (zm_nx M) k) (fun _ => zbd (I M2 (zm_nx M)) (fun M3 _ => zb1 (zo_pr M3 (some a) c f (zm_nx M)) F)))) Q := by
  have b1 := hb.1
  have b2 := hb.2
  have nok : ¬ zm_ok M (zm_b M + zm_c M) := fun q => by have := q.2; omega
  rw [zev_b1]
  refine zev_nob (k := k) (n := n) (by omega) (by omega) (fun M2 f2 A2 c2 s2 z2 => ?_)
  have O2 := f2.ob hO
  have e2 := f2.2.2.2.2.2 a hO.1 id
  have fo2 : zFo M g M2 (zgw g o2 (zm_b M + zm_c M)) (fun z => z = o ∨ T2 z) := zgw_fo (f2.mono (fun _ _ q => q.elim)) nok
  have g2 : (zgw g o2 (zm_b M + zm_c M)).1 a = o := fo2.own hO.1 hg
  refine zr_rc A2.1 ?_
  rw [zev_bd]
  refine zev_mono (hI M2 (zgw g o2 (zm_b M + zm_c M)) (zm_b M + zm_c M) A2.1 zgw_1 z2 (by unfold zm_e; rw [f2.1]) f2.2.1 (zBu.gw (ds := n) (dc := 1) hb s2 c2)) ?_
  rintro ⟨M3, u⟩ ⟨g3, P3, f3, b3⟩
  dsimp only at P3 f3 b3 ⊢
  have e3 := f3.at O2.1 g2 ht
  have g3a := f3.own O2.1 g2
  refine zr_pr (f3.O O2) ?_
  have f4 : zFo M3 g3 (zm_pr M3 a f (zm_nx M)) g3 (fun z => z = o) := zFo.pr g3a
  refine hQ _ g3 (zm_b M + zm_c M) ((fo2.tr (f3.mono (fun _ q => Or.inr q))).tr (f4.mono (fun _ q => Or.inl q))) (b3.same rfl rfl) (hP _ _ _ _ _ P3 f4) (fun j => ?_) (e3.1.trans e2.1) (e3.2.1.trans e2.2.1) (by show zm_e M3 = _; unfold zm_e; rw [f3.1.1, f2.1]) (by show zm_b M3 = _; rw [f3.1.2.1, f2.2.1])
  rw [ypr_r]
  by_cases e : j = f
  · rw [if_pos ⟨rfl, e⟩, if_pos e]; rfl
  · rw [if_neg (fun q => e q.2), if_neg e, e3.2.2, e2.2.2]
theorem zWo_hI {o K : Nat} (ho : o < 3100) (h4 : 4 ≤ zcm o) : ∀ M2 g2 w, zO M2 w 11 → g2.1 w = o → zBu M2 g2 (K + 4 * zcm o + 8) → zev (zf_X10_init M2 (some w)) (fun y => ∃ g', zWo y.1 g' o w [] ∧ zFo M2 g2 y.1 g' (fun z => z = o) ∧ zBu y.1 g' K) := fun _ _ _ h1 h2 h3 => zWo_init h1 h2 ho h4 h3
def bnew (kd sz ct : Int32) : Bv := ((kd, sz), (ct, 0, 0, []), (0, 0, 0, []), [])
theorem zBa_init {M : Zm} {g : Zg} {a b k : Nat} (kd sz ct : Int32) (hO : zO M a 1) (hg : g.1 a = 100 + 3 * b) (hb1 : b < 1000) (hb : zBu M g (k + 560)) : zev (zf_X0_init M (some a) (nI b) kd sz ct) (fun y => ∃ g' w, (∀ A : Nat → Nat, A b = a → A (1000 + b) = w → zBa y.1 g' A b (bnew kd sz ct)) ∧ zFo M g y.1 g' (fun z => z = 100 + 3 * b ∨ z = 101 + 3 * b ∨ z = 102 + 3 * b) ∧ zBu y.1 g' k) := by
  unfold zf_X0_init
  refine zr_rc hO (zr_pi hO ?_)
  have f1 : zFo M g (zm_pi M a 4 0) g (fun z => z = 100 + 3 * b) := zFo.pi hg
  have i1 : zm_i (zm_pi M a 4 0) a 4 = 0 := by rw [ypi_i, if_pos ⟨rfl, rfl⟩]
  have b1 : zBu (zm_pi M a 4 0) g (k + 560) := hb.same rfl rfl
  have O1 : zO (zm_pi M a 4 0) a 1 := hO
  generalize zm_pi M a 4 0 = M1 at f1 i1 b1 O1 ⊢
  refine zr_no (o := 100 + 3 * b) (o2 := 101 + 3 * b) (K := k + 290) (K2 := k + 290 + 4 * zcm (101 + 3 * b) + 8) (T2 := fun z => z = 101 + 3 * b) (fun M g w => zWo M g (101 + 3 * b) w []) O1 hg (b1.mono (by rw [zcm_w]; omega)) (show ¬ (100 + 3 * b = 101 + 3 * b) by omega) (fun M2 g2 w q1 q2 _ _ _ q3 => zWo_init q1 q2 (by omega) (by rw [zcm_w]; decide) q3) (fun M g M' g' w q f => q.fr f (show ¬ (101 + 3 * b = 100 + 3 * b) by omega)) ?_
  intro M5 g5 w f5 b5 W5 r5 i5 _ _ _
  have O5 := f5.O O1
  have ga5 := f5.own O1.1 hg
  refine zr_ns (o := 100 + 3 * b) (K := k + 285) O5 ga5 (n := 4) rfl (by decide) (b5.mono (by omega)) ?_
  intro M7 g7 ma f7 b7 A7 o7 n7 r7 i7 _ z7
  have O7 := f7.O O5
  have ga7 := f7.own O5.1 ga5
  have W7 := W5.fr f7 (show ¬ (101 + 3 * b = 100 + 3 * b) by omega)
  refine zr_pi O7 (zr_pi (by simp only [ypi_O]; exact O7) (zr_pi (by simp only [ypi_O]; exact O7) (zr_pi (by simp only [ypi_O]; exact O7) ?_)))
  have f11 : zFo M7 g7 (zm_pi (zm_pi (zm_pi (zm_pi M7 a 7 0) a 8 0) a 9 0) a 10 0) g7 (fun z => z = 100 + 3 * b) := (((zFo.pi ga7).tr (zFo.pi ga7)).tr (zFo.pi ga7)).tr (zFo.pi ga7)
  have i11 : ∀ j, zm_i (zm_pi (zm_pi (zm_pi (zm_pi M7 a 7 0) a 8 0) a 9 0) a 10 0) a j = if j = 10 then 0 else if j = 9 then 0 else if j = 8 then 0 else if j = 7 then 0 else zm_i M7 a j := fun j => by simp only [ypi_i, true_and]
  have r11 : zm_r (zm_pi (zm_pi (zm_pi (zm_pi M7 a 7 0) a 8 0) a 9 0) a 10 0) a = zm_r M7 a := by simp only [zpi_r]
  have b11 : zBu (zm_pi (zm_pi (zm_pi (zm_pi M7 a 7 0) a 8 0) a 9 0) a 10 0) g7 (k + 285) := b7.same (by simp only [zpi_s]) (by simp only [zpi_c])
  have O11 : zO (zm_pi (zm_pi (zm_pi (zm_pi M7 a 7 0) a 8 0) a 9 0) a 10 0) a 1 := by simp only [ypi_O]; exact O7
  have A11 : zA (zm_pi (zm_pi (zm_pi (zm_pi M7 a 7 0) a 8 0) a 9 0) a 10 0) ma 16 4 := by simp only [ypi_A]; exact A7
  generalize zm_pi (zm_pi (zm_pi (zm_pi M7 a 7 0) a 8 0) a 9 0) a 10 0 = M11 at f11 i11 r11 b11 O11 A11 ⊢
  have W11 := W7.fr f11 (show ¬ (101 + 3 * b = 100 + 3 * b) by omega)
  refine zr_no (o := 100 + 3 * b) (o2 := 102 + 3 * b) (K := k) (K2 := k + 4 * zcm (102 + 3 * b) + 8) (T2 := fun z => z = 102 + 3 * b) (fun M g w => zWo M g (102 + 3 * b) w []) O11 ga7 (b11.mono (by rw [zcm_k]; omega)) (show ¬ (100 + 3 * b = 102 + 3 * b) by omega) (fun M2 g2 w q1 q2 _ _ _ q3 => zWo_init q1 q2 (by omega) (by rw [zcm_k]; decide) q3) (fun M g M' g' w q f => q.fr f (show ¬ (102 + 3 * b = 100 + 3 * b) by omega)) ?_
  intro M14 g14 ka f14 b14 K14 r14 i14 _ _ _
  have O14 := f14.O O11
  have ga14 := f14.own O11.1 ga7
  have W14 := W11.fr f14 (show ¬ (101 + 3 * b = 100 + 3 * b ∨ 101 + 3 * b = 102 + 3 * b) by omega)
  refine zr_pi O14 (zr_pi (by simp only [ypi_O]; exact O14) (zr_pi (by simp only [ypi_O]; exact O14) (zr_pi (by simp only [ypi_O]; exact O14) (zr_pi (by simp only [ypi_O]; exact O14) (zr_pi (by simp only [ypi_O]; exact O14) ?_)))))
  rw [zev_some]
  have f20 : zFo M14 g14 (zm_pi (zm_pi (zm_pi (zm_pi (zm_pi (zm_pi M14 a 12 0) a 13 0) a 0 (nI b)) a 1 kd) a 2 sz) a 3 ct) g14 (fun z => z = 100 + 3 * b) := (((((zFo.pi ga14).tr (zFo.pi ga14)).tr (zFo.pi ga14)).tr (zFo.pi ga14)).tr (zFo.pi ga14)).tr (zFo.pi ga14)
  have i20 : ∀ j, zm_i (zm_pi (zm_pi (zm_pi (zm_pi (zm_pi (zm_pi M14 a 12 0) a 13 0) a 0 (nI b)) a 1 kd) a 2 sz) a 3 ct) a j = if j = 3 then ct else if j = 2 then sz else if j = 1 then kd else if j = 0 then nI b else if j = 13 then 0 else if j = 12 then 0 else zm_i M14 a j := fun j => by simp only [ypi_i, true_and]
  have r20 : zm_r (zm_pi (zm_pi (zm_pi (zm_pi (zm_pi (zm_pi M14 a 12 0) a 13 0) a 0 (nI b)) a 1 kd) a 2 sz) a 3 ct) a = zm_r M14 a := by simp only [zpi_r]
  have b20 : zBu (zm_pi (zm_pi (zm_pi (zm_pi (zm_pi (zm_pi M14 a 12 0) a 13 0) a 0 (nI b)) a 1 kd) a 2 sz) a 3 ct) g14 k := b14.same (by simp only [zpi_s]) (by simp only [zpi_c])
  have O20 : zO (zm_pi (zm_pi (zm_pi (zm_pi (zm_pi (zm_pi M14 a 12 0) a 13 0) a 0 (nI b)) a 1 kd) a 2 sz) a 3 ct) a 1 := by simp only [ypi_O]; exact O14
  have A20 : zA (zm_pi (zm_pi (zm_pi (zm_pi (zm_pi (zm_pi M14 a 12 0) a 13 0) a 0 (nI b)) a 1 kd) a 2 sz) a 3 ct) ma 16 4 := by simp only [ypi_A]; exact f14.A A11
  generalize zm_pi (zm_pi (zm_pi (zm_pi (zm_pi (zm_pi M14 a 12 0) a 13 0) a 0 (nI b)) a 1 kd) a 2 sz) a 3 ct = M20 at f20 i20 r20 b20 O20 A20 ⊢
  refine ⟨g14, w, ?_, ?_, b20⟩
  · rintro A rfl rfl
    have hi : ∀ j, zm_i M20 (A b) j = if j = 3 then ct else if j = 2 then sz else if j = 1 then kd else if j = 0 then nI b else if j = 13 then 0 else if j = 12 then 0 else if j = 10 then 0 else if j = 9 then 0 else if j = 8 then 0 else if j = 7 then 0 else zm_i M1 (A b) j := fun j => by rw [i20, i14, i11, i7, i5]
    have hr : ∀ j, zm_r M20 (A b) j = if j = 11 then some ka else if j = 6 then some ma else if j = 5 then some (A (1000 + b)) else zm_r M1 (A b) j := fun j => by rw [r20, r14, r11, r7, r5]
    have go : g14.1 ma = 100 + 3 * b := f14.own A11.1.1 o7
    refine ⟨O20, ga14, by rw [hi]; rfl, by rw [hi]; rfl, by rw [hi]; rfl, by rw [hi]; rfl, by rw [hi]; exact i1, by rw [hi]; rfl, by rw [hi]; rfl, by rw [hi]; rfl, by rw [hi]; rfl, A (1000 + b), ma, ka, rfl, by rw [hr]; rfl, by rw [hr]; rfl, by rw [hr]; rfl, W14.fr f20 (by omega), K14.fr f20 (by omega), A20.1, A20.2, go, Nat.zero_le _, Nat.le_refl _, Nat.le_refl _, fun i m hm => by simp [bnew] at hm⟩
  · exact ((((f1.mono (fun z q => Or.inl q)).tr (f5.mono (fun z q => by first | omega | (dsimp only at q; omega)))).tr (f7.mono (fun z q => Or.inl q))).tr (f11.mono (fun z q => Or.inl q))).tr ((f14.mono (fun z q => by first | omega | (dsimp only at q; omega))).tr (f20.mono (fun z q => Or.inl q)))
