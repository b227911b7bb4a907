/-! Beginnings: the things that a cellar is made of. -/
/-- the room, with D more fields kept free -/
def zBd (D : Nat) (M : Zm) (g : Zg) (k : Nat) : Prop := zm_s M + 4 * zcd g.2 3100 + (k + D) ≤ 7302250 ∧ zm_c M + zcd g.2 3100 + k ≤ 600000
theorem zBd.mono {D : Nat} {M : Zm} {g : Zg} {k k' : Nat} (h : zBd D M g k) (hk : k' ≤ k) : zBd D M g k' := ⟨by have := h.1; omega, by have := h.2; omega⟩
theorem zBd.same {D : Nat} {M M' : Zm} {g : Zg} {k : Nat} (h : zBd D M g k) (h1 : zm_s M' = zm_s M) (h2 : zm_c M' = zm_c M) : zBd D M' g k := by unfold zBd at *; rw [h1, h2]; exact h
theorem zBd.gw {D : Nat} {M M' : Zm} {g : Zg} {o c k ds dc : Nat} (h : zBd D M g (k + ds + dc)) (hs : zm_s M' = zm_s M + ds) (hc : zm_c M' = zm_c M + dc) : zBd D M' (zgw g o c) k := by
  have h1 := h.1
  have h2 := h.2
  have e : (zgw g o c).2 = g.2 := rfl
  unfold zBd
  rw [e, hs, hc]
  exact ⟨by omega, by omega⟩
def zFa (M : Zm) (g : Zg) (M' : Zm) (g' : Zg) (a : Nat) : Prop := zFr M M' (fun b => b = a) ∧ (∀ b, zm_ok M b → g'.1 b = g.1 b) ∧ g'.2 = g.2
theorem zFa.tr {M M1 M2 : Zm} {g g1 g2 : Zg} {a : Nat} (h1 : zFa M g M1 g1 a) (h2 : zFa M1 g1 M2 g2 a) : zFa M g M2 g2 a := ⟨h1.1.tr h2.1, fun b hb => (h2.2.1 b (h1.1.ok hb)).trans (h1.2.1 b hb), h2.2.2.trans h1.2.2⟩
theorem zFa.fo {M M' : Zm} {g g' : Zg} {a o : Nat} (h : zFa M g M' g' a) (hg : g.1 a = o) : zFo M g M' g' (fun z => z = o) := ⟨h.1.mono (fun b _ q => by rw [q]; exact hg), h.2.1, fun z _ => by rw [h.2.2]⟩
theorem zFa.at {M M' : Zm} {g g' : Zg} {a b : Nat} (h : zFa M g M' g' a) (hb : zm_ok M b) (hne : b ≠ a) : zm_i M' b = zm_i M b ∧ zm_j M' b = zm_j M b ∧ zm_r M' b = zm_r M b := h.1.2.2.2.2.2 b hb hne
theorem zFa.O {M M' : Zm} {g g' : Zg} {a b c : Nat} (h : zFa M g M' g' a) (hb : zO M b c) : zO M' b c := h.1.ob hb
theorem zFa.A {M M' : Zm} {g g' : Zg} {a b c n : Nat} (h : zFa M g M' g' a) (hb : zA M b c n) : zA M' b c n := h.1.ar hb
theorem zFa.own {M M' : Zm} {g g' : Zg} {a b o : Nat} (h : zFa M g M' g' a) (hb : zm_ok M b) (ho : g.1 b = o) : g'.1 b = o := (h.2.1 b hb).trans ho
theorem zFa.eb {M M' : Zm} {g g' : Zg} {a : Nat} (h : zFa M g M' g' a) : zm_e M' = zm_e M ∧ zm_b M' = zm_b M := ⟨by unfold zm_e; rw [h.1.1], h.1.2.1⟩
theorem zr_ai {D : Nat} {M : Zm} {g : Zg} {a c k K : Nat} {v : Int32} {β : Type} {F : Zm → Option β} {Q : β → Prop} (hO : zO M a c) (hb : zBd D M g K) (hQ : ∀ M3, zFa M g M3 g a → zBd D M3 g K → (∀ j, zm_i M3 a j = if j = k then v else zm_i M a j) → zm_j M3 a = zm_j M a → zm_r M3 a = zm_r M a → zev (F M3) Q) : zev (zb1 (zo_pi M (some a) c k v) F) Q := zr_pi hO (hQ _ ⟨zFr.pi rfl, fun _ _ => rfl, rfl⟩ (hb.same rfl rfl) (fun j => by simp only [ypi_i, true_and]) rfl rfl)
theorem zr_az {D : Nat} {M : Zm} {g : Zg} {a c k K : Nat} {v : Int32} {β : Type} {F : Zm → Option β} {Q : β → Prop} (hO : zO M a c) (hb : zBd D M g K) (hv : v = 0 ∨ v = 1) (hQ : ∀ M3, zFa M g M3 g a → zBd D M3 g K → (∀ j, zm_i M3 a j = if j = k then v else zm_i M a j) → zm_j M3 a = zm_j M a → zm_r M3 a = zm_r M a → zev (F M3) Q) : zev (zb1 (zo_pz M (some a) c k v) F) Q := zr_pz hO hv (hQ _ ⟨zFr.pi rfl, fun _ _ => rfl, rfl⟩ (hb.same rfl rfl) (fun j => by simp only [ypi_i, true_and]) rfl rfl)
theorem zr_aj {D : Nat} {M : Zm} {g : Zg} {a c k K : Nat} {v : Int64} {β : Type} {F : Zm → Option β} {Q : β → Prop} (hO : zO M a c) (hb : zBd D M g K) (hQ : ∀ M3, zFa M g M3 g a → zBd D M3 g K → zm_i M3 a = zm_i M a → (∀ j, zm_j M3 a j = if j = k then v else zm_j M a j) → zm_r M3 a = zm_r M a → zev (F M3) Q) : zev (zb1 (zo_pj M (some a) c k v) F) Q := zr_pj hO (hQ _ ⟨zFr.pj rfl, fun _ _ => rfl, rfl⟩ (hb.same rfl rfl) rfl (fun j => by simp only [ypj_j, true_and]) rfl)
theorem zr_ar {D : Nat} {M : Zm} {g : Zg} {a c k K : Nat} {v : Option Nat} {β : Type} {F : Zm → Option β} {Q : β → Prop} (hO : zO M a c) (hb : zBd D M g K) (hQ : ∀ M3, zFa M g M3 g a → zBd D M3 g K → zm_i M3 a = zm_i M a → zm_j M3 a = zm_j M a → (∀ j, zm_r M3 a j = if j = k then v else zm_r M a j) → zev (F M3) Q) : zev (zb1 (zo_pr M (some a) c k v) F) Q := zr_pr hO (hQ _ ⟨zFr.pr rfl, fun _ _ => rfl, rfl⟩ (hb.same rfl rfl) rfl rfl (fun j => by simp only [ypr_r, true_and]))
/-- a new row, put into a member; whose it is may be said -/
theorem zr_an {D : Nat} {M : Zm} {g : Zg} {a c f k n K : Nat} {v : Int32} {β : Type} {F : Zm → Option β} {Q : β → Prop} (oa : Nat) (hO : zO M a c) (hv : v = nI n) (hn : n < 2 ^ 31) (hb : zBd D M g (K + n + 1)) (hQ : ∀ M3 g3 nw, zFa M g M3 g3 a → zBd D M3 g3 K → zA M3 nw k n → g3.1 nw = oa → ¬ zm_ok M nw → zm_i M3 a = zm_i M a → zm_j M3 a = zm_j M a → (∀ j, zm_r M3 a j = if j = f then some nw else zm_r M a j) → (∀ j, zm_i M3 nw j = 0 ∧ zm_j M3 nw j = 0 ∧ zm_r M3 nw j = none) → zev (F M3) Q) : zev (zb1 (zo_na M k v) (fun M2 => zb1 (zo_pr M2 (some a) c f (zm_nx M)) F)) Q := by
  have b1 := hb.1
  have b2 := hb.2
  have nok : ¬ zm_ok M (zm_b M + zm_c M) := fun q => by have := q.2; omega
  have na : a ≠ zm_b M + zm_c M := zO_ne hO
  rw [zev_b1]
  refine zev_new (k := k) hv hn (by omega) (by omega) (fun M2 f2 A2 c2 s2 z2 => ?_)
  have O2 := f2.ob hO
  have e2 := f2.2.2.2.2.2 a hO.1 id
  refine zr_pr O2 ?_
  refine hQ _ (zgw g oa (zm_b M + zm_c M)) (zm_b M + zm_c M) ⟨(f2.mono (fun _ _ q => q.elim)).tr (zFr.pr rfl), fun b hb => ?_, rfl⟩ ((zBd.gw (ds := n) (dc := 1) hb s2 c2).same rfl rfl) A2 zgw_1 nok e2.1 e2.2.1 (fun j => ?_) (fun j => ⟨(z2 j).1, (z2 j).2.1, ?_⟩)
  · show (if b = zm_b M + zm_c M then oa else g.1 b) = g.1 b
    rw [if_neg (fun (q : b = zm_b M + zm_c M) => nok (by rw [← q]; exact hb))]
  · rw [ypr_r]
    by_cases e : j = f
    · rw [if_pos ⟨rfl, e⟩, if_pos e]; rfl
    · rw [if_neg (fun q => e q.2), if_neg e, e2.2.2]
  · rw [ypr_r, if_neg (fun q => na q.1.symm)]; exact (z2 j).2.2
/-- a new object, begun, put into a member -/
theorem zr_ao {D : Nat} {M : Zm} {g : Zg} {a c f k n o o2 K K2 : Nat} {β : Type} {F : Zm → Option β} {Q : β → Prop} {I : Zm → Option Nat → Option (Zm × Unit)} {T2 : Nat → Prop} (P : Zm → Zg → Nat → Prop) (hO : zO M a c) (hg : g.1 a = o) (hb : zBd D M g (K2 + n + 1)) (ht : ¬ T2 o) (hI : ∀ M2 g2 w, zO M2 w k → g2.1 w = o2 → g2.2 = g.2 → (∀ j, zm_i M2 w j = 0 ∧ zm_j M2 w j = 0 ∧ zm_r M2 w j = none) → zm_e M2 = zm_e M → zm_b M2 = zm_b M → zBd D M2 g2 K2 → zev (I M2 (some w)) (fun y => ∃ g', P y.1 g' w ∧ zFo M2 g2 y.1 g' T2 ∧ g'.2 = g2.2 ∧ zBd D y.1 g' K)) (hP : ∀ M g M' g' w, P M g w → zFo M g M' g' (fun z => z = o) → P M' g' w) (hQ : ∀ M3 g3 w, zFo M g M3 g3 (fun z => z = o ∨ T2 z) → g3.2 = g.2 → zBd D M3 g3 K → P M3 g3 w → zm_i M3 a = zm_i M a → zm_j M3 a = zm_j M a → (∀ j, zm_r M3 a j = if j = f then some w else zm_r M a j) → zm_e M3 = zm_e M → zm_b M3 = zm_b M → zev (F M3) Q) : zev (zb1 (zo_n M k n) (fun M2 => zb1 (zo_rc M2 (zm_nx M) k) (fun _ => zbd (I M2 (zm_nx M)) (fun M3 _ => zb1 (zo_pr M3 (some a) c f (zm_nx M)) F)))) Q := by
  have b1 := hb.1
  have b2 := hb.2
  have nok : ¬ zm_ok M (zm_b M + zm_c M) := fun q => by have := q.2; omega
  rw [zev_b1]
  refine zev_nob (k := k) (n := n) (by omega) (by omega) (fun M2 f2 A2 c2 s2 z2 => ?_)
  have O2 := f2.ob hO
  have e2 := f2.2.2.2.2.2 a hO.1 id
  have fo2 : zFo M g M2 (zgw g o2 (zm_b M + zm_c M)) (fun z => z = o ∨ T2 z) := zgw_fo (f2.mono (fun _ _ q => q.elim)) nok
  have g2 : (zgw g o2 (zm_b M + zm_c M)).1 a = o := fo2.own hO.1 hg
  refine zr_rc A2.1 ?_
  rw [zev_bd]
  refine zev_mono (hI M2 (zgw g o2 (zm_b M + zm_c M)) (zm_b M + zm_c M) A2.1 zgw_1 rfl z2 (by unfold zm_e; rw [f2.1]) f2.2.1 (zBd.gw (ds := n) (dc := 1) hb s2 c2)) ?_
  rintro ⟨M3, u⟩ ⟨g3, P3, f3, e3', b3⟩
  dsimp only at P3 f3 b3 ⊢
  have e3 := f3.at O2.1 g2 ht
  have g3a := f3.own O2.1 g2
  refine zr_pr (f3.O O2) ?_
  have f4 : zFo M3 g3 (zm_pr M3 a f (zm_nx M)) g3 (fun z => z = o) := zFo.pr g3a
  refine hQ _ g3 (zm_b M + zm_c M) ((fo2.tr (f3.mono (fun _ q => Or.inr q))).tr (f4.mono (fun _ q => Or.inl q))) e3' (b3.same rfl rfl) (hP _ _ _ _ _ P3 f4) (e3.1.trans e2.1) (e3.2.1.trans e2.2.1) (fun j => ?_) (by show zm_e M3 = _; unfold zm_e; rw [f3.1.1, f2.1]) (by show zm_b M3 = _; rw [f3.1.2.1, f2.2.1])
  rw [ypr_r]
  by_cases e : j = f
  · rw [if_pos ⟨rfl, e⟩, if_pos e]; rfl
  · rw [if_neg (fun q => e q.2), if_neg e, e3.2.2, e2.2.2]
theorem zWo_new {D : Nat} {M : Zm} {g : Zg} {o w k : Nat} (hO : zO M w 11) (hg : g.1 w = o) (h4 : g.2 o = 4) (hz : 4 ≤ zcm o) (hb : zBd D M g (k + 10)) : zev (zf_X10_init M (some w)) (fun y => ∃ g', zWo y.1 g' o w [] ∧ zFo M g y.1 g' (fun z => z = o) ∧ g'.2 = g.2 ∧ zBd D y.1 g' k) := by
  unfold zf_X10_init
  refine zr_rc hO ?_
  refine zr_an o (K := k + 5) (n := 4) hO rfl (by decide) (hb.mono (by omega)) ?_
  intro M1 g1 pa f1 b1 A1 o1 n1 i1 j1 r1 z1
  have O1 := f1.O hO
  refine zr_an o (K := k) (n := 4) O1 rfl (by decide) (b1.mono (by omega)) ?_
  intro M2 g2 aa f2 b2 A2 o2 n2 i2 j2 r2 z2
  have O2 := f2.O O1
  refine zr_ai O2 b2 ?_
  intro M3 f3 b3 i3 j3 r3
  refine zr_aj (f3.O O2) b3 ?_
  intro M4 f4 b4 i4 j4 r4
  rw [zev_some]
  have F := ((f1.tr f2).tr f3).tr f4
  have F2 := f3.tr f4
  have eg : g2.2 = g.2 := (f2.2.2).trans f1.2.2
  refine ⟨g2, ⟨pa, aa, ⟨F.O hO, ?_, ?_, ?_, ?_, ?_, ?_, Nat.zero_le _, ?_, fun i q hq => by simp at hq, trivial⟩, F.own hO.1 hg, f2.own A1.1.1 o1, o2, by rw [eg, h4]; exact hz, 0, by rw [eg, h4]⟩, F.fo hg, eg, b4⟩
  · rw [r4, r3, r2, r1]; rfl
  · rw [r4, r3, r2]; rfl
  · rw [eg, h4]; exact F2.A (f2.A A1)
  · rw [eg, h4]; exact F2.A A2
  · rw [i4, i3]; rfl
  · rw [j4]; rfl
  · rw [eg, h4]; decide
theorem zAl_new {D : Nat} {M : Zm} {g : Zg} {o a k : Nat} (hO : zO M a 0) (hg : g.1 a = o) (h0 : g.2 o = 0) (he : zm_e M < zm_b M) (hi : zm_i M a 2 = 0) (hb : zBd D M g k) : zev (zf_Jx4a65c_init_da8c8 M (some a)) (fun y => ∃ g', zAl y.1 g' o a [] ∧ zFo M g y.1 g' (fun z => z = o) ∧ g'.2 = g.2 ∧ zBd D y.1 g' k) := by
  unfold zf_Jx4a65c_init_da8c8 zf_Jxc12de_init_da8c8 zf_Jxa1e45_init_da8c8
  refine zr_rc hO ?_
  rw [zev_bd]
  refine zr_rc hO ?_
  rw [zev_bd]
  refine zr_rc hO ?_
  rw [zev_some]
  dsimp only
  refine zr_ai hO hb ?_
  intro M1 f1 b1 i1 j1 r1
  rw [zev_some]
  dsimp only
  refine zr_ar (f1.O hO) b1 ?_
  intro M2 f2 b2 i2 j2 r2
  rw [zev_some]
  have F := f1.tr f2
  refine ⟨g, ⟨F.O hO, hg, ?_, by omega, fun m hm => absurd hm List.not_mem_nil, Or.inl ⟨?_, ?_, rfl, h0⟩⟩, F.fo hg, rfl, b2⟩
  · rw [i2, i1, if_neg (by decide)]; exact hi
  · rw [r2, if_pos rfl, f2.eb.1]
  · rw [F.eb.1, F.eb.2]; exact he
theorem zPk_new {D : Nat} {M : Zm} {g : Zg} {A : Nat → Nat} {a k : Nat} (hO : zO M a 6) (hg : g.1 a = 9) (hb : zBd D M g (k + 18)) : zev (zf_X5_init M (some a)) (fun y => ∃ g', zPk y.1 g' A a [] ∧ zFo M g y.1 g' (fun z => z = 9) ∧ g'.2 = g.2 ∧ zBd D y.1 g' k) := by
  unfold zf_X5_init
  refine zr_rc hO ?_
  refine zr_an 9 (K := k + 9) (n := 8) hO rfl (by decide) (hb.mono (by omega)) ?_
  intro M1 g1 pa f1 b1 A1 o1 n1 i1 j1 r1 z1
  have O1 := f1.O hO
  refine zr_an 9 (K := k) (n := 8) O1 rfl (by decide) (b1.mono (by omega)) ?_
  intro M2 g2 aa f2 b2 A2 o2 n2 i2 j2 r2 z2
  have O2 := f2.O O1
  refine zr_ai O2 b2 ?_
  intro M3 f3 b3 i3 j3 r3
  rw [zev_some]
  have F := (f1.tr f2).tr f3
  have A1' := f3.A (f2.A A1)
  have A2' := f3.A A2
  exact ⟨g2, ⟨F.O hO, F.own hO.1 hg, by rw [i3]; rfl, by decide, pa, aa, by rw [r3, r2, r1]; rfl, by rw [r3, r2]; rfl, A1'.1, A1'.2, f2.own A1.1.1 o1, A2'.1, A2'.2, o2, fun i q hq => by simp at hq⟩, F.fo hg, F.2.2, b3⟩
theorem zTa_new {D : Nat} {M : Zm} {g : Zg} {o a k n : Nat} {v : Int32} (hO : zO M a 9) (hg : g.1 a = o) (hv : zmaxi v 1 * 48 = nI (48 * n)) (hn : n ≤ 1000) (hb : zBd D M g (k + 48 * n + 8)) : zev (zf_X8_init M (some a) v) (fun y => ∃ g', zTa y.1 g' o a n (fun _ => 0) (fun _ => 0) 0 0 ∧ zFo M g y.1 g' (fun z => z = o) ∧ g'.2 = g.2 ∧ zBd D y.1 g' k) := by
  unfold zf_X8_init
  refine zr_rc hO ?_
  refine zr_an o (K := k + 48 * n + 1) (n := 6) hO rfl (by decide) (hb.mono (by omega)) ?_
  intro M1 g1 ca f1 b1 A1 o1 n1 i1 j1 r1 z1
  have O1 := f1.O hO
  refine zr_ai O1 b1 ?_
  intro M2 f2 b2 i2 j2 r2
  have O2 := f2.O O1
  refine zr_aj O2 b2 ?_
  intro M3 f3 b3 i3 j3 r3
  have O3 := f3.O O2
  refine zr_an o (K := k) (n := 48 * n) O3 hv (by omega) (b3.mono (by omega)) ?_
  intro M4 g4 sa f4 b4 A4 o4 n4 i4 j4 r4 z4
  rw [zev_some]
  have F2 := (f2.tr f3).tr f4
  have F := f1.tr F2
  have A1' := F2.A A1
  have nca : ca ≠ a := fun e => n1 (e ▸ hO.1)
  exact ⟨g4, ⟨F.O hO, F.own hO.1 hg, by rw [i4, i3, i2]; rfl, by decide, by rw [j4, j3]; rfl, hn, sa, ca, by rw [r4]; rfl, by rw [r4, r3, r2, r1]; rfl, A4.1, A4.2, o4, A1'.1, A1'.2, F2.own A1.1.1 o1, fun i _ => (z4 i).2.1, fun i _ => by rw [(F2.at A1.1.1 nca).1, (z1 i).1]; rfl⟩, F.fo hg, F.2.2, b4⟩
theorem zLi_new {D : Nat} {M : Zm} {g : Zg} {o a k : Nat} (hO : zO M a 5) (hg : g.1 a = o) (h16 : g.2 o = 16) (hz : 16 ≤ zcm o) (hb : zBd D M g (k + 17)) : zev (zf_X4_init M (some a)) (fun y => ∃ g', zLi y.1 g' o a [] ∧ zFo M g y.1 g' (fun z => z = o) ∧ g'.2 = g.2 ∧ zBd D y.1 g' k) := by
  unfold zf_X4_init
  refine zr_rc hO ?_
  refine zr_an o (K := k) (n := 16) hO rfl (by decide) (hb.mono (by omega)) ?_
  intro M1 g1 pa f1 b1 A1 o1 n1 i1 j1 r1 z1
  have O1 := f1.O hO
  refine zr_ai O1 b1 ?_
  intro M2 f2 b2 i2 j2 r2
  rw [zev_some]
  have F := f1.tr f2
  have A1' := f2.A A1
  have eg : g1.2 = g.2 := F.2.2
  exact ⟨g1, ⟨F.O hO, F.own hO.1 hg, by rw [i2]; rfl, by rw [eg, h16]; decide, by rw [eg, h16]; exact hz, ⟨0, by rw [eg, h16]⟩, pa, by rw [r2, r1]; rfl, A1'.1, by rw [eg, h16]; exact A1'.2, o1, Nat.zero_le _, fun i q hq => by simp at hq⟩, F.fo hg, eg, b2⟩
theorem zTr_new {D : Nat} {M : Zm} {g : Zg} {o a k n : Nat} {v : Int32} (hO : zO M a 10) (hg : g.1 a = o) (hv : zmaxi v 0 = nI n) (hn : n < 2 ^ 20) (hb : zBd D M g (k + n + 1)) : zev (zf_X9_init M (some a) v) (fun y => ∃ g', zTr y.1 g' o a n [] ∧ zFo M g y.1 g' (fun z => z = o) ∧ g'.2 = g.2 ∧ zBd D y.1 g' k) := by
  unfold zf_X9_init
  refine zr_rc hO ?_
  refine zr_ai hO hb ?_
  intro M1 f1 b1 i1 j1 r1
  have O1 := f1.O hO
  refine zr_an o (K := k) (n := n) O1 hv (by omega) (b1.mono (by omega)) ?_
  intro M2 g2 na f2 b2 A2 o2 n2 i2 j2 r2 z2
  rw [zev_some]
  have F := f1.tr f2
  exact ⟨g2, ⟨F.O hO, F.own hO.1 hg, na, by rw [r2]; rfl, A2.1, A2.2, o2, by rw [i2, i1]; rfl, Nat.zero_le _, hn, fun i q hq => by simp at hq⟩, F.fo hg, F.2.2, b2⟩
theorem zDr_new {D : Nat} {M : Zm} {g : Zg} {A : Nat → Nat} {a k : Nat} (hO : zO M a 3) (hg : g.1 a = 10) (h4 : g.2 26 = 4) (hb : zBd D M g (k + 150)) : zev (zf_X2_init M (some a)) (fun y => ∃ g', (∃ ga, zDr y.1 g' A a ga [] []) ∧ zFo M g y.1 g' (fun z => z = 10 ∨ z = 26) ∧ g'.2 = g.2 ∧ zBd D y.1 g' k) := by
  unfold zf_X2_init
  refine zr_rc hO ?_
  refine zr_an 10 (K := k + 117) (n := 32) hO rfl (by decide) (hb.mono (by omega)) ?_
  intro M1 g1 va f1 b1 A1 o1 n1 i1 j1 r1 z1
  have O1 := f1.O hO
  refine zr_an 10 (K := k + 84) (n := 32) O1 rfl (by decide) (b1.mono (by omega)) ?_
  intro M2 g2 aa f2 b2 A2 o2 n2 i2 j2 r2 z2
  have O2 := f2.O O1
  refine zr_an 10 (K := k + 23) (n := 60) O2 rfl (by decide) (b2.mono (by omega)) ?_
  intro M3 g3 ga f3 b3 A3 o3 n3 i3 j3 r3 z3
  have O3 := f3.O O2
  refine zr_ai O3 b3 ?_
  intro M4 f4 b4 i4 j4 r4
  have O4 := f4.O O3
  have F4 := ((f1.tr f2).tr f3).tr f4
  have g4 := F4.own hO.1 hg
  refine zr_ao (o := 10) (o2 := 26) (K := k) (K2 := k + 10) (T2 := fun z => z = 26) (fun M g w => zWo M g 26 w []) O4 g4 (b4.mono (by omega)) (by decide) (fun M2 g2 w q1 q2 q3 _ _ _ q4 => zWo_new q1 q2 (by rw [q3, F4.2.2]; exact h4) (by decide) q4) (fun M g M' g' w q f => q.fr f (by decide)) ?_
  intro M5 g5 w f5 e5 b5 W5 i5 j5 r5 _ _
  rw [zev_some]
  have A1' := f5.A (f4.A (f3.A (f2.A A1)))
  have A2' := f5.A (f4.A (f3.A A2))
  have A3' := f5.A (f4.A A3)
  have hne : aa ≠ ga := fun e => n3 (e ▸ A2.1.1)
  exact ⟨g5, ⟨ga, f5.O O4, f5.own O4.1 g4, by rw [i5, i4]; rfl, by decide, by rw [r5, r4, r3]; rfl, A3'.1, A3'.2, f5.own (f4.A A3).1.1 (f4.own A3.1.1 o3), va, aa, w, by rw [r5, r4, r3, r2, r1]; rfl, by rw [r5, r4, r3, r2]; rfl, by rw [r5]; rfl, A1'.1, A1'.2, f5.own (f4.A (f3.A (f2.A A1))).1.1 (f4.own (f3.A (f2.A A1)).1.1 (f3.own (f2.A A1).1.1 (f2.own A1.1.1 o1))), A2'.1, A2'.2, f5.own (f4.A (f3.A A2)).1.1 (f4.own (f3.A A2).1.1 (f3.own A2.1.1 o2)), hne, W5, fun i q hq => by simp at hq⟩, ((F4.fo hg).mono (fun z q => Or.inl q)).tr f5, e5.trans F4.2.2, b5⟩
