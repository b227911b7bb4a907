/-! Beginnings: the reference. -/
def zmk {β : Type} : List (Nat × Nat × Int32) → Zm → Option Nat → (Zm → Option β) → Option β
  | [], M, _, F => F M
  | q :: r, M, m, F => zb1 (zo_na M q.2.1 q.2.2) (fun M2 => zb1 (zo_pr M2 m 13 q.1 (zm_nx M)) (fun M3 => zmk r M3 m F))
def mL1 : List (Nat × Nat × Int32) := [(2, 14, 1000), (3, 14, 1000), (4, 14, 1000), (5, 14, 1000), (6, 14, 1000), (7, 14, 4000), (8, 14, 1000), (9, 14, 60000), (10, 15, 60000), (11, 14, 20), (12, 14, 20), (13, 14, 1200), (15, 14, 4096), (16, 14, 4096), (17, 15, 20480), (20, 15, 1024), (22, 15, 256), (24, 14, 40), (25, 14, 40), (26, 14, 800), (27, 14, 800), (28, 14, 800), (29, 14, 800), (30, 14, 800), (31, 14, 800), (32, 14, 800), (34, 14, 8), (35, 15, 8), (37, 15, 8)]
def mL2 : List (Nat × Nat × Int32) := [(42, 14, 200), (49, 14, 1000), (50, 14, 1000), (51, 14, 1000), (52, 14, 4000), (53, 14, 1000), (54, 14, 60000), (55, 15, 60000), (56, 14, 20), (57, 14, 20), (58, 14, 1200), (59, 15, 20480), (61, 14, 32), (62, 15, 32), (63, 15, 60), (65, 14, 1980), (66, 15, 1980), (68, 15, 48), (70, 15, 3744), (71, 15, 78), (72, 14, 6), (73, 14, 6), (74, 14, 6)]
theorem mk_init (M : Zm) (m : Option Nat) : zf_X12_init M m = zb1 (zo_rc M m 13) (fun _ => zmk mL1 M m (fun M61 => zb1 (zo_pi M61 m 13 40 (-1)) (fun M62 => zmk mL2 M62 m (fun M110 => zb1 (zwhile (zf_X12_init_L458 m) (M110, (0 : Int32))) (fun y115 => match y115 with
  | (M458, _) => zb1 (zwhile (zf_X12_init_L479 m) (M458, (0 : Int32))) (fun y120 => match y120 with
  | (M479, _) => some (M479, ()))))))) := rfl
def mle (f : Nat) : Nat := if f = 20 then 1024 else if f = 22 then 256 else mln f
def mow (f : Nat) : Nat := if f = 20 then 28 else if f = 22 then 29 else 1
def mkd (f : Nat) : Nat := if mty f = 2 then 14 else 15
def mokb : List (Nat × Nat × Int32) → List Nat → Bool
  | [], _ => true
  | q :: r, dn => decide (q.1 ∉ dn) && decide (q.2.1 = mkd q.1) && decide (q.2.2 = nI (mle q.1)) && decide (mle q.1 < 100000) && mokb r (q.1 :: dn)
def msm : List (Nat × Nat × Int32) → Nat
  | [] => 0
  | q :: r => mle q.1 + msm r
def mfl : List (Nat × Nat × Int32) → List Nat → List Nat
  | [], dn => dn
  | q :: r, dn => mfl r (q.1 :: dn)
def mIv (M : Zm) (g : Zg) (m : Nat) (ad : Nat → Nat) (dn : List Nat) : Prop := zO M m 13 ∧ (∀ f, f ∈ dn → zm_r M m f = some (ad f) ∧ zA M (ad f) (mkd f) (mle f) ∧ g.1 (ad f) = mow f ∧ ad f ≠ m ∧ ∀ j, zm_i M (ad f) j = 0 ∧ zm_j M (ad f) j = 0) ∧ (∀ f f', f ∈ dn → f' ∈ dn → ad f = ad f' → f = f')
/-- a new row, put into a member: what it takes of the room, by itself -/
theorem zr_am {M : Zm} {g : Zg} {a c f k n : Nat} {v : Int32} {β : Type} {F : Zm → Option β} {Q : β → Prop} (oa : Nat) (hO : zO M a c) (hv : v = nI n) (hn : n < 2 ^ 31) (h1 : zm_c M + 1 ≤ 600000) (h2 : zm_s M + n ≤ 7302250) (hQ : ∀ M3 g3 nw, zFa M g M3 g3 a → zm_c M3 = zm_c M + 1 → zm_s M3 = zm_s M + n → zA M3 nw k n → g3.1 nw = oa → ¬ zm_ok M nw → zm_i M3 a = zm_i M a → zm_j M3 a = zm_j M a → (∀ j, zm_r M3 a j = if j = f then some nw else zm_r M a j) → (∀ j, zm_i M3 nw j = 0 ∧ zm_j M3 nw j = 0) → zev (F M3) Q) : zev (zb1 (zo_na M k v) (fun M2 => zb1 (zo_pr M2 (some a) c f (zm_nx M)) F)) Q := by
  have nok : ¬ zm_ok M (zm_b M + zm_c M) := fun q => by have := q.2; omega
  rw [zev_b1]
  refine zev_new (k := k) hv hn h1 h2 (fun M2 f2 A2 c2 s2 z2 => ?_)
  have O2 := f2.ob hO
  have e2 := f2.2.2.2.2.2 a hO.1 id
  refine zr_pr O2 ?_
  refine hQ _ (zgw g oa (zm_b M + zm_c M)) (zm_b M + zm_c M) ⟨(f2.mono (fun _ _ q => q.elim)).tr (zFr.pr rfl), fun b hb => ?_, rfl⟩ c2 s2 A2 zgw_1 nok e2.1 e2.2.1 (fun j => ?_) (fun j => ⟨(z2 j).1, (z2 j).2.1⟩)
  · show (if b = zm_b M + zm_c M then oa else g.1 b) = g.1 b
    rw [if_neg (fun (q : b = zm_b M + zm_c M) => nok (by rw [← q]; exact hb))]
  · rw [ypr_r]
    by_cases e : j = f
    · rw [if_pos ⟨rfl, e⟩, if_pos e]; rfl
    · rw [if_neg (fun q => e q.2), if_neg e, e2.2.2]
theorem zmk_ev {m : Nat} {β : Type} {F : Zm → Option β} {Q : β → Prop} : ∀ (l : List (Nat × Nat × Int32)) (M : Zm) (g : Zg) (ad : Nat → Nat) (dn : List Nat), mIv M g m ad dn → mokb l dn = true → zm_c M + l.length ≤ 600000 → zm_s M + msm l ≤ 7302250 → (∀ M' g' ad', mIv M' g' m ad' (mfl l dn) → zFa M g M' g' m → zm_c M' = zm_c M + l.length → zm_s M' = zm_s M + msm l → zm_i M' m = zm_i M m → zm_j M' m = zm_j M m → zev (F M') Q) → zev (zmk l M (some m) F) Q
  | [], M, g, ad, dn, h, _, _, _, hQ => hQ M g ad h ⟨zFr.rf, fun _ _ => rfl, rfl⟩ rfl rfl rfl rfl
  | q :: r, M, g, ad, dn, h, ho, hc, hs, hQ => by
    unfold mokb at ho
    simp only [Bool.and_eq_true, decide_eq_true_eq] at ho
    obtain ⟨⟨⟨⟨o1, o2⟩, o3⟩, o4⟩, o5⟩ := ho
    obtain ⟨hO, hF, hI⟩ := h
    rw [List.length_cons] at hc
    unfold msm at hs
    unfold zmk
    refine zr_am (g := g) (mow q.1) hO o3 (by omega) (by omega) (by omega) ?_
    intro M3 g3 nw f3 c3 s3 A3 w3 n3 i3 j3 r3 z3
    have O3 := f3.O hO
    have nm : nw ≠ m := fun e => n3 (e ▸ hO.1)
    refine zmk_ev r M3 g3 (fun z => if z = q.1 then nw else ad z) (q.1 :: dn) ⟨O3, fun f hf => ?_, fun f f' hf hf' e => ?_⟩ o5 (by omega) (by omega) ?_
    · dsimp only
      by_cases e : f = q.1
      · subst e
        rw [if_pos rfl, r3, if_pos rfl, ← o2]
        exact ⟨rfl, A3, w3, nm, z3⟩
      · rcases List.mem_cons.mp hf with e2 | e2
        · exact absurd e2 e
        · obtain ⟨b1, b2, b3, b4, b5⟩ := hF f e2
          have x := f3.at b2.1.1 b4
          rw [if_neg e, r3, if_neg e]
          exact ⟨b1, f3.A b2, f3.own b2.1.1 b3, b4, fun j => by rw [x.1, x.2.1]; exact b5 j⟩
    · dsimp only at e
      have fresh : ∀ z, z ∈ dn → ad z ≠ nw := fun z hz e => n3 (e ▸ (hF z hz).2.1.1.1)
      by_cases e1 : f = q.1
      · by_cases e2 : f' = q.1
        · rw [e1, e2]
        · rcases List.mem_cons.mp hf' with e3 | e3
          · exact absurd e3 e2
          · rw [if_pos e1, if_neg e2] at e
            exact absurd e.symm (fresh f' e3)
      · rcases List.mem_cons.mp hf with e3 | e3
        · exact absurd e3 e1
        · by_cases e2 : f' = q.1
          · rw [if_neg e1, if_pos e2] at e
            exact absurd e (fresh f e3)
          · rcases List.mem_cons.mp hf' with e4 | e4
            · exact absurd e4 e2
            · rw [if_neg e1, if_neg e2] at e
              exact hI f f' e3 e4 e
    · intro M' g' ad' h' fa' c' s' i' j'
      refine hQ M' g' ad' h' (f3.tr fa') (by rw [c', c3, List.length_cons]; omega) (by rw [s', s3]; show _ = zm_s M + (mle q.1 + msm r); omega) (i'.trans i3) (j'.trans j3)
def Q0 : Mq := (fun f _ => if f = 40 ∨ f = 11 ∨ f = 13 then -1 else 0, fun _ _ => 0)
theorem mty_far {f : Nat} (h : 76 ≤ f) : mty f = 9 := by
  unfold mty
  rw [List.getD_eq_getElem?_getD, List.getElem?_eq_none (show mtab.length ≤ f from h)]
  rfl
theorem mfl_all : ∀ f, (mty f = 2 ∨ mty f = 3 ∨ mty f = 4) → f ∈ mfl mL2 (mfl mL1 []) := by
  have key : ∀ f, f < 76 → (mty f = 2 ∨ mty f = 3 ∨ mty f = 4) → f ∈ mfl mL2 (mfl mL1 []) := by decide +kernel
  intro f hf
  by_cases h : f < 76
  · exact key f h hf
  · rw [mty_far (by omega)] at hf
    exact absurd hf (by decide)
theorem mow_1 {f : Nat} (h : mty f = 2 ∨ mty f = 3) : mow f = 1 ∧ mle f = mln f := by
  have n20 : f ≠ 20 := fun e => by rw [e] at h; exact absurd h (by decide)
  have n22 : f ≠ 22 := fun e => by rw [e] at h; exact absurd h (by decide)
  unfold mow mle
  rw [if_neg n20, if_neg n20, if_neg n22, if_neg n22]
  exact ⟨rfl, rfl⟩
/-- a row is filled with -1 -/
def mFi (M M1 : Zm) (a n : Nat) : Prop := zFr M M1 (fun b => b = a) ∧ zm_s M1 = zm_s M ∧ zm_c M1 = zm_c M ∧ (∀ j, zm_i M1 a j = if j < n then -1 else zm_i M a j) ∧ zm_j M1 = zm_j M ∧ zm_r M1 = zm_r M
theorem mFi.put {M M1 : Zm} {a n : Nat} (h : mFi M M1 a n) : mFi M (zm_pi M1 a n (-1)) a (n + 1) := by
  obtain ⟨h1, h2, h3, h4, h5, h6⟩ := h
  refine ⟨h1.tr (zFr.pi rfl), h2, h3, fun j => ?_, h5, h6⟩
  rw [ypi_i, h4]
  by_cases e : j = n
  · rw [if_pos ⟨rfl, e⟩, if_pos (by omega)]
  · rw [if_neg (fun q => e q.2)]
    by_cases e2 : j < n
    · rw [if_pos e2, if_pos (by omega)]
    · rw [if_neg e2, if_neg (by omega)]
theorem mFi_11 {M : Zm} {m a : Nat} (hO : zO M m 13) (hr : zm_r M m 11 = some a) (hA : zA M a 14 20) : zev (zwhile (zf_X12_init_L458 (some m)) (M, (0 : Int32))) (fun y => mFi M y.1 a 20) := by
  refine zev_up (τ := Zm × Int32) (fun i (z : Zm × Int32) => ∃ M1, z = (M1, nI i) ∧ mFi M M1 a i) 20 (i := 0) (Nat.zero_le _) ⟨M, rfl, zFr.rf, rfl, rfl, fun j => by rw [if_neg (by omega)], rfl, rfl⟩ ?_ ?_
  · rintro i z hi ⟨M1, rfl, h⟩
    have O1 : zO M1 m 13 := h.1.ob hO
    have A1 : zA M1 a 14 20 := h.1.ar hA
    have r1 : zm_r M1 m 11 = some a := by rw [h.2.2.2.2.2]; exact hr
    simp only [zf_X12_init_L458, if_neg (show ¬ (20 : Int32) ≤ nI i from nI_ge (b := 20) hi (by decide)), zev_b1, zev_bd, zev_some, zev_gi, zev_gj, zev_gr, zev_pi, zev_pz, zev_pj, zev_pr, zev_rc, zev_cc, zev_b0, zev_bo, true_and, and_true, O1, r1, zev_si2 (show i < 2 ^ 31 by omega), show zO M1 a 14 from A1.1, A1.2, hi]
    exact ⟨_, rfl, _, by rw [nI_1], h.put⟩
  · rintro z ⟨M1, rfl, h⟩
    simp only [zf_X12_init_L458, if_pos (show (20 : Int32) ≤ nI 20 from nI_le (a := 20) (Nat.le_refl _) (by decide)), zev_b1, zev_bd, zev_some, zev_gi, zev_gj, zev_gr, zev_pi, zev_pz, zev_pj, zev_pr, zev_rc, zev_cc, zev_b0, zev_bo, true_and, and_true]
    exact ⟨_, rfl, h⟩
theorem mFi_13 {M : Zm} {m a : Nat} (hO : zO M m 13) (hr : zm_r M m 13 = some a) (hA : zA M a 14 1200) : zev (zwhile (zf_X12_init_L479 (some m)) (M, (0 : Int32))) (fun y => mFi M y.1 a 1200) := by
  refine zev_up (τ := Zm × Int32) (fun i (z : Zm × Int32) => ∃ M1, z = (M1, nI i) ∧ mFi M M1 a i) 1200 (i := 0) (Nat.zero_le _) ⟨M, rfl, zFr.rf, rfl, rfl, fun j => by rw [if_neg (by omega)], rfl, rfl⟩ ?_ ?_
  · rintro i z hi ⟨M1, rfl, h⟩
    have O1 : zO M1 m 13 := h.1.ob hO
    have A1 : zA M1 a 14 1200 := h.1.ar hA
    have r1 : zm_r M1 m 13 = some a := by rw [h.2.2.2.2.2]; exact hr
    simp only [zf_X12_init_L479, if_neg (show ¬ (1200 : Int32) ≤ nI i from nI_ge (b := 1200) hi (by decide)), zev_b1, zev_bd, zev_some, zev_gi, zev_gj, zev_gr, zev_pi, zev_pz, zev_pj, zev_pr, zev_rc, zev_cc, zev_b0, zev_bo, true_and, and_true, O1, r1, zev_si2 (show i < 2 ^ 31 by omega), show zO M1 a 14 from A1.1, A1.2, hi]
    exact ⟨_, rfl, _, by rw [nI_1], h.put⟩
  · rintro z ⟨M1, rfl, h⟩
    simp only [zf_X12_init_L479, if_pos (show (1200 : Int32) ≤ nI 1200 from nI_le (a := 1200) (Nat.le_refl _) (by decide)), zev_b1, zev_bd, zev_some, zev_gi, zev_gj, zev_gr, zev_pi, zev_pz, zev_pj, zev_pr, zev_rc, zev_cc, zev_b0, zev_bo, true_and, and_true]
    exact ⟨_, rfl, h⟩
theorem zMv_new {M : Zm} {g : Zg} {m : Nat} (hO : zO M m 13) (hg : g.1 m = 1) (z0 : ∀ j, zm_i M m j = 0 ∧ zm_j M m j = 0) (eg : g.2 = gi2) (hc : zm_c M + 60 ≤ 600000) (hs : zm_s M + 324788 ≤ 7302250) : zev (zf_X12_init M (some m)) (fun y => ∃ g' ad, zMv y.1 g' m ad Q0 ∧ zFo M g y.1 g' Tm ∧ g'.2 = g.2 ∧ zm_c y.1 = zm_c M + 52 ∧ zm_s y.1 = zm_s M + 324788) := by
  rw [mk_init]
  refine zr_rc hO ?_
  have e1 : msm mL1 = 166896 := by decide +kernel
  have e2 : msm mL2 = 157892 := by decide +kernel
  refine zmk_ev mL1 M g (fun _ => 0) [] ⟨hO, fun f hf => absurd hf List.not_mem_nil, fun f f' hf => absurd hf List.not_mem_nil⟩ (by decide +kernel) (by show zm_c M + 29 ≤ _; omega) (by rw [e1]; omega) ?_
  intro M1 g1 ad1 h1 f1 c1 s1 i1 j1
  replace c1 : zm_c M1 = zm_c M + 29 := c1
  rw [e1] at s1
  refine zr_pi h1.1 ?_
  have f2 : zFa M1 g1 (zm_pi M1 m 40 (-1)) g1 m := ⟨zFr.pi rfl, fun _ _ => rfl, rfl⟩
  have c2 : zm_c (zm_pi M1 m 40 (-1)) = zm_c M1 := rfl
  have s2 : zm_s (zm_pi M1 m 40 (-1)) = zm_s M1 := rfl
  have i2 : ∀ j, zm_i (zm_pi M1 m 40 (-1)) m j = if j = 40 then -1 else zm_i M1 m j := fun j => by simp only [ypi_i, true_and]
  have j2 : zm_j (zm_pi M1 m 40 (-1)) m = zm_j M1 m := rfl
  have r2 : zm_r (zm_pi M1 m 40 (-1)) m = zm_r M1 m := rfl
  generalize zm_pi M1 m 40 (-1) = M2 at f2 c2 s2 i2 j2 r2 ⊢
  have h2 : mIv M2 g1 m ad1 (mfl mL1 []) := by
    obtain ⟨hO1, hF1, hI1⟩ := h1
    refine ⟨f2.O hO1, fun f hf => ?_, hI1⟩
    obtain ⟨b1, b2, b3, b4, b5⟩ := hF1 f hf
    have x := f2.at b2.1.1 b4
    exact ⟨by rw [r2]; exact b1, f2.A b2, b3, b4, fun j => by rw [x.1, x.2.1]; exact b5 j⟩
  refine zmk_ev mL2 M2 g1 ad1 _ h2 (by decide +kernel) (by show zm_c M2 + 23 ≤ _; omega) (by rw [e2]; omega) ?_
  intro M3 g3 ad h3 f3 c3 s3 i3 j3
  replace c3 : zm_c M3 = zm_c M2 + 23 := c3
  rw [e2] at s3
  obtain ⟨hO3, hF3, hI3⟩ := h3
  have F3 := (f1.tr f2).tr f3
  obtain ⟨x1, x2, x3, x4, x5⟩ := hF3 11 (mfl_all 11 (by decide))
  obtain ⟨y1, y2, y3, y4, y5⟩ := hF3 13 (mfl_all 13 (by decide))
  rw [zev_b1]
  refine zev_mono (mFi_11 hO3 x1 x2) ?_
  rintro ⟨M4, u4⟩ h4
  dsimp only at h4 ⊢
  obtain ⟨q1, q2, q3, q4, q5, q6⟩ := h4
  rw [zev_b1]
  refine zev_mono (mFi_13 (q1.ob hO3) (by rw [q6]; exact y1) (q1.ar y2)) ?_
  rintro ⟨M5, u5⟩ h5
  dsimp only at h5 ⊢
  obtain ⟨p1, p2, p3, p4, p5, p6⟩ := h5
  rw [zev_some]
  have g3m : g3.1 m = 1 := F3.own hO.1 hg
  have eg3 : g3.2 = gi2 := F3.2.2.trans eg
  have fo4 : zFo M3 g3 M4 g3 (fun z => z = 1) := ⟨q1.mono (fun b _ e => by rw [e]; exact x3), fun _ _ => rfl, fun _ _ => rfl⟩
  have fo5 : zFo M4 g3 M5 g3 (fun z => z = 1) := ⟨p1.mono (fun b _ e => by rw [e]; exact y3), fun _ _ => rfl, fun _ _ => rfl⟩
  have F5 := fo4.tr fo5
  have ne : ∀ f, f ∈ mfl mL2 (mfl mL1 []) → f ≠ 11 → ad f ≠ ad 11 := fun f hf h e => h (hI3 f 11 hf (mfl_all 11 (by decide)) e)
  have ne2 : ∀ f, f ∈ mfl mL2 (mfl mL1 []) → f ≠ 13 → ad f ≠ ad 13 := fun f hf h e => h (hI3 f 13 hf (mfl_all 13 (by decide)) e)
  have r5 : zm_r M5 = zm_r M3 := p6.trans q6
  have jj5 : zm_j M5 = zm_j M3 := p5.trans q5
  have im : zm_i M5 m = zm_i M3 m := by
    rw [(p1.2.2.2.2.2 m (q1.ob hO3).1 (fun e => y4 e.symm)).1, (q1.2.2.2.2.2 m hO3.1 (fun e => x4 e.symm)).1]
  have ia : ∀ f, f ∈ mfl mL2 (mfl mL1 []) → f ≠ 11 → f ≠ 13 → ∀ j, zm_i M5 (ad f) j = 0 := fun f hf h11 h13 j => by
    obtain ⟨b1, b2, b3, b4, b5⟩ := hF3 f hf
    rw [(p1.2.2.2.2.2 (ad f) (q1.ar b2).1.1 (ne2 f hf h13)).1, (q1.2.2.2.2.2 (ad f) b2.1.1 (ne f hf h11)).1]
    exact (b5 j).1
  refine ⟨g3, ad, ⟨F5.O hO3, g3m, fun f hf => ?_, fun f hf => ?_, fun f hf => ?_, fun f hf => ?_, fun f f' hf hf' e => ?_, ?_, ?_⟩, ((F3.fo hg).tr F5).mono (fun z q => Or.inl q), F3.2.2, ?_, ?_⟩
  · rw [im, i3, i2, i1]
    by_cases e : f = 40
    · rw [if_pos e, e]; rfl
    · rw [if_neg e, (z0 f).1]
      have n11 : f ≠ 11 := fun q => by rw [q] at hf; exact absurd hf (by decide)
      have n13 : f ≠ 13 := fun q => by rw [q] at hf; exact absurd hf (by decide)
      show (0 : Int32) = if f = 40 ∨ f = 11 ∨ f = 13 then -1 else 0
      rw [if_neg (by omega)]
  · rw [jj5, j3, j2, j1, (z0 f).2]; rfl
  · obtain ⟨b1, b2, b3, b4, b5⟩ := hF3 f (mfl_all f (Or.inl hf))
    obtain ⟨w1, w2⟩ := mow_1 (Or.inl hf)
    have hk : mkd f = 14 := by unfold mkd; rw [if_pos hf]
    rw [hk, w2] at b2
    rw [w1] at b3
    refine ⟨by rw [r5]; exact b1, F5.A b2, b3, fun k hk2 => ?_⟩
    show _ = if f = 40 ∨ f = 11 ∨ f = 13 then (-1 : Int32) else 0
    by_cases e11 : f = 11
    · subst e11
      have hk3 : k < 20 := hk2
      rw [if_pos (by omega), (p1.2.2.2.2.2 (ad 11) (q1.ar x2).1.1 (fun e => absurd (hI3 11 13 (mfl_all 11 (by decide)) (mfl_all 13 (by decide)) e) (by decide))).1, q4, if_pos hk3]
    · by_cases e13 : f = 13
      · subst e13
        have hk3 : k < 1200 := hk2
        rw [if_pos (by omega), p4, if_pos hk3]
      · have e40 : f ≠ 40 := fun q => by rw [q] at hf; exact absurd hf (by decide)
        rw [if_neg (by omega)]
        exact ia f (mfl_all f (Or.inl hf)) e11 e13 k
  · obtain ⟨b1, b2, b3, b4, b5⟩ := hF3 f (mfl_all f (Or.inr (Or.inl hf)))
    obtain ⟨w1, w2⟩ := mow_1 (Or.inr hf)
    have hk : mkd f = 15 := by unfold mkd; rw [if_neg (by rw [hf]; decide)]
    rw [hk, w2] at b2
    rw [w1] at b3
    exact ⟨by rw [r5]; exact b1, F5.A b2, b3, fun k _ => by rw [jj5]; exact (b5 k).2⟩
  · exact hI3 f f' (mfl_all f (by rcases hf with q | q; exact Or.inl q; exact Or.inr (Or.inl q))) (mfl_all f' (by rcases hf' with q | q; exact Or.inl q; exact Or.inr (Or.inl q))) e
  · obtain ⟨b1, b2, b3, b4, b5⟩ := hF3 20 (mfl_all 20 (by decide))
    have A5 := F5.A b2
    refine ⟨ad 20, by rw [r5]; exact b1, A5.1, by rw [A5.2, eg3]; rfl, b3, Nat.zero_le _, by rw [eg3]; decide, ⟨2, by rw [eg3]; rfl⟩, fun k hk => ?_⟩
    rw [jj5]; exact (b5 k).2
  · obtain ⟨b1, b2, b3, b4, b5⟩ := hF3 22 (mfl_all 22 (by decide))
    have A5 := F5.A b2
    refine ⟨ad 22, by rw [r5]; exact b1, A5.1, by rw [A5.2, eg3]; rfl, b3, Nat.zero_le _, by rw [eg3]; decide, ⟨0, by rw [eg3]; rfl⟩, fun k hk => ?_⟩
    rw [jj5]; exact (b5 k).2
  · dsimp only; omega
  · dsimp only; omega
