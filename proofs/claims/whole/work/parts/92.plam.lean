/-! Planner: begin, offer, search, settle. -/
theorem zPl.most {M M' : Zm} {g : Zg} {p ta a2 : Nat} {D : Nat → Int64} {Mo Mo' Tr Be : Nat → Nat} {wt : Option Nat} {cnt : Nat} {lst : Int64} {st : List Int64} (h : zPl M g p ta D Mo Tr Be wt cnt lst st) (ha : zm_r M p 2 = some a2) (f : zFr M M' (fun x => x = a2)) (hm : ∀ i, i < 6 → zm_i M' a2 i = nI (Mo' i)) : zPl M' g p ta D Mo' Tr Be wt cnt lst st := by
  obtain ⟨h1, h2, h3, h4, h5, h6, h7, h8, h9, a1, b2, a3, a4, a8, r1, r2, r3, r4, r8, q1, q2, q3, q4, q8, nn, c1, c2, c3, c4, c8⟩ := h
  rw [ha] at r2
  cases r2
  have e := f.2.2.2.2.2 p h1.1 (zkne h1.2 q2.1.1.2 (by decide))
  have e1 := f.2.2.2.2.2 a1 q1.1.1.1 (zkne q1.1.1.2 q2.1.1.2 (by decide))
  have e3 := f.2.2.2.2.2 a3 q3.1.1.1 (fun q => nn.2.1 q.symm)
  have e4 := f.2.2.2.2.2 a4 q4.1.1.1 (fun q => nn.2.2.1 q.symm)
  have e8 := f.2.2.2.2.2 a8 q8.1.1.1 (zkne q8.1.1.2 q2.1.1.2 (by decide))
  exact ⟨f.ob h1, h2, by rw [e.2.2]; exact h3, by rw [e.2.2]; exact h4, by rw [e.1]; exact h5, h6, by rw [e.2.1]; exact h7, by rw [e.1]; exact h8, h9, a1, a2, a3, a4, a8, by rw [e.2.2]; exact r1, by rw [e.2.2]; exact ha, by rw [e.2.2]; exact r3, by rw [e.2.2]; exact r4, by rw [e.2.2]; exact r8, ⟨f.ar q1.1, q1.2⟩, ⟨f.ar q2.1, q2.2⟩, ⟨f.ar q3.1, q3.2⟩, ⟨f.ar q4.1, q4.2⟩, ⟨f.ar q8.1, q8.2⟩, nn, fun i hi => by rw [e1.2.1]; exact c1 i hi, hm, fun i hi => by rw [e3.1]; exact c3 i hi, fun i hi => by rw [e4.1]; exact c4 i hi, fun i v hv => by rw [e8.2.1]; exact c8 i v hv⟩
theorem zPl_begin {M : Zm} {g : Zg} {p ta k : Nat} {D : Nat → Int64} {Mo Tr Be : Nat → Nat} {wt : Option Nat} {cnt : Nat} {lst : Int64} {st : List Int64} {S : Nat → Int64} {C : Nat → Nat} {c2 : Nat} {tot : Int64} (h : zPl M g p ta D Mo Tr Be wt cnt lst st) (T : zTa M g 16 ta 78 S C c2 tot) (la : Nat) {m : Nat} (hm : m ≤ 6) (v : Int64) (hb : zBu M g k) : zev (zf_X6_begin M (some p) (some la) (nI m) v) (fun y => zPl y.1 g p ta D (fun _ => 0) Tr Be (some la) m lst st ∧ zTa y.1 g 16 ta 78 S C m v ∧ zFo M g y.1 g (fun z => z = 15 ∨ z = 16) ∧ zBu y.1 g k) := by
  have em : zmini (nI m) 6 = nI m := by
    unfold zmini
    rw [if_neg (show ¬ (6 : Int32) < nI m from nI_nlt (a := 6) (by omega) (by decide))]
  have h' := h
  obtain ⟨h1, h2, h3, h4, h5, h6, h7, h8, h9, a1, a2, a3, a4, a8, r1, r2, r3, r4, r8, q1, q2, q3, q4, q8, nn, d1, d2, d3, d4, d8⟩ := h'
  have m1 : ¬ a2 = p := fun e => zkne h1.2 q2.1.1.2 (by decide) e.symm
  have m3 : ¬ a3 = p := fun e => zkne h1.2 q3.1.1.2 (by decide) e.symm
  have m4 : ¬ a4 = p := fun e => zkne h1.2 q4.1.1.2 (by decide) e.symm
  have P2 : zPl (zm_pi (zm_pr M p 5 (some la)) p 6 (nI m)) g p ta D Mo Tr Be (some la) m lst st := by
    refine ⟨h1, h2, ?_, ?_, ?_, hm, h7, ?_, h9, a1, a2, a3, a4, a8, ?_, ?_, ?_, ?_, ?_, q1, q2, q3, q4, q8, nn, d1, fun i hi => ?_, fun i hi => ?_, fun i hi => ?_, d8⟩
    · rw [zpi_r, ypr_r, if_neg (by omega)]; exact h3
    · rw [zpi_r, ypr_r, if_pos ⟨rfl, rfl⟩]
    · rw [ypi_i, if_pos ⟨rfl, rfl⟩]
    · rw [ypi_i, if_neg (by omega)]; exact h8
    · rw [zpi_r, ypr_r, if_neg (by omega)]; exact r1
    · rw [zpi_r, ypr_r, if_neg (by omega)]; exact r2
    · rw [zpi_r, ypr_r, if_neg (by omega)]; exact r3
    · rw [zpi_r, ypr_r, if_neg (by omega)]; exact r4
    · rw [zpi_r, ypr_r, if_neg (by omega)]; exact r8
    · rw [ypi_i, if_neg (fun e => m1 e.1)]; exact d2 i hi
    · rw [ypi_i, if_neg (fun e => m3 e.1)]; exact d3 i hi
    · rw [ypi_i, if_neg (fun e => m4 e.1)]; exact d4 i hi
  have f2 : zFo M g (zm_pi (zm_pr M p 5 (some la)) p 6 (nI m)) g (fun z => z = 15) := (zFo.pr h2).tr (zFo.pi h2)
  have R2 : zm_r (zm_pi (zm_pr M p 5 (some la)) p 6 (nI m)) p 2 = some a2 := by rw [zpi_r, ypr_r, if_neg (by omega)]; exact r2
  have b2 : zBu (zm_pi (zm_pr M p 5 (some la)) p 6 (nI m)) g k := hb.same rfl rfl
  have A2 := f2.A q2.1
  have T2 := T.fr f2 (by decide)
  simp only [zf_X6_begin, zev_b1, zev_bd, zev_some, zev_gi, zev_gj, zev_gr, zev_pi, zev_pz, zev_pj, zev_pr, zev_rc, zev_cc, zev_b0, zev_bo, true_and, and_true, h1, em, ypr_O, ypi_O]
  generalize zm_pi (zm_pr M p 5 (some la)) p 6 (nI m) = M2 at P2 f2 R2 b2 A2 T2 ⊢
  rw [R2]
  refine zev_mono (zfill 0 A2 (by decide) q2.2 b2) ?_
  rintro ⟨M3, u0⟩ hh
  dsimp only at hh ⊢
  obtain ⟨z3, f3, g3, b3⟩ := hh
  have P3 := P2.most (Mo' := fun _ => 0) R2 g3 (fun i hi => by rw [z3 i hi]; rfl)
  have T3 := T2.fr f3 (by decide)
  have t3 := P3.2.2.1
  have i3 := P3.2.2.2.2.1
  simp only [P3.O, t3, i3, zev_b1, zev_bd, zev_some, zev_gi, zev_gj, zev_gr, zev_pi, zev_pz, zev_pj, zev_pr, zev_rc, zev_cc, zev_b0, zev_bo, true_and, and_true, T3.1]
  refine zev_mono (zTa_begin T3 hm v b3) ?_
  rintro ⟨M4, u1⟩ hh
  dsimp only at hh ⊢
  obtain ⟨T4, f4, b4⟩ := hh
  exact ⟨P3.fr f4 (by decide), T4, ((f2.tr f3).mono (fun z q => Or.inl q)).tr (f4.mono (fun z q => Or.inr q)), b4⟩
theorem zPl_offer {M : Zm} {g : Zg} {p ta k ow w : Nat} {D : Nat → Int64} {Mo Tr Be : Nat → Nat} {wt : Option Nat} {cnt : Nat} {lst : Int64} {st : List Int64} {S : Nat → Int64} {C : Nat → Nat} {c2 : Nat} {tot : Int64} {l : Wn} (h : zPl M g p ta D Mo Tr Be wt cnt lst st) (T : zTa M g 16 ta 78 S C c2 tot) (hw : zWo M g ow w l) (how : ow ≠ 15 ∧ ow ≠ 16) (hcod : wcod l) {s j : Nat} (hs : s < 6) (hj : j < 13) (hb : zBu M g k) : zev (zf_X6_offer M (some p) (nI s) (nI j) (some w)) (fun y => zPl y.1 g p ta D (fuN Mo s j) Tr Be wt cnt lst st ∧ zTa y.1 g 16 ta 78 (tadd (tclr S (48 * (13 * s + j))) (48 * (13 * s + j)) l) C c2 tot ∧ zFo M g y.1 g (fun z => z = 15 ∨ z = 16) ∧ zBu y.1 g k) := by
  have h' := h
  obtain ⟨h1, h2, h3, h4, h5, h6, h7, h8, h9, a1, a2, a3, a4, a8, r1, r2, r3, r4, r8, q1, q2, q3, q4, q8, nn, d1, d2, d3, d4, d8⟩ := h'
  have f2 : zFo M g (zm_pi M a2 s (nI j)) g (fun z => z = 15) := zFo.pi q2.2
  have P2 : zPl (zm_pi M a2 s (nI j)) g p ta D (fuN Mo s j) Tr Be wt cnt lst st := h.most r2 (zFr.pi rfl) (fun i hi => by
    rw [ypi_i]
    unfold fuN
    by_cases e : i = s
    · rw [if_pos ⟨rfl, e⟩, if_pos e]
    · rw [if_neg (fun q => e q.2), if_neg e]; exact d2 i hi)
  have b2 : zBu (zm_pi M a2 s (nI j)) g k := hb.same rfl rfl
  have T2 := T.fr f2 (by decide)
  have w2 := hw.fr f2 how.1
  simp only [zf_X6_offer, zf_X6_slotOf, nI_m13, zev_b1, zev_bd, zev_some, zev_gi, zev_gj, zev_gr, zev_pi, zev_pz, zev_pj, zev_pr, zev_rc, zev_cc, zev_b0, zev_bo, true_and, and_true, h1, r2, zev_si2 (show s < 2 ^ 31 by omega), show zO M a2 14 from q2.1.1, q2.1.2, hs]
  generalize zm_pi M a2 s (nI j) = M2 at f2 P2 b2 T2 w2 ⊢
  have t2 := P2.2.2.1
  simp only [P2.O, t2, zev_b1, zev_bd, zev_some, zev_gi, zev_gj, zev_gr, zev_pi, zev_pz, zev_pj, zev_pr, zev_rc, zev_cc, zev_b0, zev_bo, true_and, and_true, T2.1]
  refine zev_mono (zTa_clear T2 (show 13 * s + j < 78 by omega) b2) ?_
  rintro ⟨M3, u0⟩ hh
  dsimp only at hh ⊢
  obtain ⟨T3, f3, b3⟩ := hh
  have P3 := P2.fr f3 (by decide)
  have w3 := w2.fr f3 how.2
  have t3 := P3.2.2.1
  simp only [P3.O, t3, zev_b1, zev_bd, zev_some, zev_gi, zev_gj, zev_gr, zev_pi, zev_pz, zev_pj, zev_pr, zev_rc, zev_cc, zev_b0, zev_bo, true_and, and_true, T3.1]
  refine zev_mono (zTa_add T3 w3 how.2 hcod (show 13 * s + j < 78 by omega) b3) ?_
  rintro ⟨M4, u1⟩ hh
  dsimp only at hh ⊢
  obtain ⟨T4, f4, b4⟩ := hh
  exact ⟨P3.fr f4 (by decide), T4, (f2.mono (fun z q => Or.inl q)).tr ((f3.tr f4).mono (fun z q => Or.inr q)), b4⟩
theorem zPl_search {M : Zm} {g : Zg} {p ta ol la k : Nat} {D : Nat → Int64} {Mo Tr Be : Nat → Nat} {cnt : Nat} {lst : Int64} {st : List Int64} {S : Nat → Int64} {C : Nat → Nat} {tot : Int64} {rs : List (List Lf)} {made : Nat} (hol : ol ≠ 15 ∧ ol ≠ 16) (ok : (Nat → Nat) → Prop) [DecidablePred ok] (hok : ∀ tr, ok tr ↔ fbrk (lans (thav S (fun i => 13 * i + tr i) cnt) tot) 0 rs = -1) (hMo : ∀ i, i < cnt → Mo i ≤ 12) (P : zPl M g p ta D Mo Tr Be (some la) cnt lst st) (T : zTa M g 16 ta 78 S C cnt tot) (L : zLb M g ol la rs made) {n : Nat} (hn : n ≤ 12) (hb : zBu M g k) : zev (zf_X6_search M (some p) (nI n)) (fun y => y.2 = (cfr cnt Mo D ok cnt 0 n 0 Be (-1, Be)).1 ∧ ∃ Tr' Be' C', zPl y.1 g p ta D Mo Tr' Be' (some la) cnt (cfr cnt Mo D ok cnt 0 n 0 Be (-1, Be)).1 st ∧ zTa y.1 g 16 ta 78 S C' cnt tot ∧ (∀ i, i < cnt → Be' i = (cfr cnt Mo D ok cnt 0 n 0 Be (-1, Be)).2 i) ∧ zFo M g y.1 g (fun z => z = 15 ∨ z = 16) ∧ zBu y.1 g k) := by
  have h6 := P.2.2.2.2.2.1
  have h2 := P.2.1
  have P1 := P.least (-1)
  have f1 : zFo M g (zm_pj M p 7 (-1)) g (fun z => z = 15) := zFo.pj h2
  have b1 : zBu (zm_pj M p 7 (-1)) g k := hb.same rfl rfl
  have T1 := T.fr f1 (by decide)
  have L1 := L.fr f1 (fun (q : ol = 15) => hol.1 q)
  simp only [zf_X6_search, zev_b1, zev_bd, zev_some, zev_gi, zev_gj, zev_gr, zev_pi, zev_pz, zev_pj, zev_pr, zev_rc, zev_cc, zev_b0, zev_bo, true_and, and_true, P.O, ypj_O]
  generalize zm_pj M p 7 (-1) = M1 at P1 f1 b1 T1 L1 ⊢
  refine zev_mono (zPl_cf hol ok hok hMo (fun _ => rfl) cnt 0 n 31 0 Be (-1, Be) M1 Tr Be C (by omega) hn (by omega) P1 T1 L1 (fun i hi => by omega) (fun i hi => rfl) b1) ?_
  rintro ⟨M2, u0⟩ hh
  dsimp only at hh ⊢
  obtain ⟨Tr2, Be2, C2, P2, T2, hT2, hB2, f2, b2⟩ := hh
  refine ⟨P2.O, P2.2.2.2.2.2.2.1, Tr2, Be2, C2, P2, T2, hB2, (f1.mono (fun z q => Or.inl q)).tr f2, b2⟩
def pset (Be : Nat → Nat) (cnt : Nat) (step : Int64) : List Int64 := (List.range cnt).map (fun i => (nI (Be i)).toInt64 * step)
theorem zPl_settle {M : Zm} {g : Zg} {p ta k : Nat} {D : Nat → Int64} {Mo Tr Be : Nat → Nat} {wt : Option Nat} {cnt : Nat} {lst : Int64} {st : List Int64} (h : zPl M g p ta D Mo Tr Be wt cnt lst st) (step : Int64) (hb : zBu M g k) : zev (zf_X6_settle M (some p) step) (fun y => zPl y.1 g p ta D Mo Tr Be wt cnt lst (pset Be cnt step) ∧ zFo M g y.1 g (fun z => z = 15) ∧ zBu y.1 g k) := by
  obtain ⟨h1, h2, h3, h4, h5, h6, h7, h8, h9, a1, a2, a3, a4, a8, r1, r2, r3, r4, r8, q1, q2, q3, q4, q8, nn, d1, d2, d3, d4, d8⟩ := h
  have m2 : ¬ a2 = p := fun e => zkne h1.2 q2.1.1.2 (by decide) e.symm
  have m3 : ¬ a3 = p := fun e => zkne h1.2 q3.1.1.2 (by decide) e.symm
  have m4 : ¬ a4 = p := fun e => zkne h1.2 q4.1.1.2 (by decide) e.symm
  have m8 : ¬ p = a8 := zkne h1.2 q8.1.1.2 (by decide)
  simp only [zf_X6_settle, zev_b1, zev_bd, zev_some, zev_gi, zev_gj, zev_gr, zev_pi, zev_pz, zev_pj, zev_pr, zev_rc, zev_cc, zev_b0, zev_bo, true_and, and_true, h1, h5]
  have i9 : ∀ j, zm_i (zm_pi M p 9 (nI cnt)) p j = if j = 9 then nI cnt else zm_i M p j := fun j => by
    rw [ypi_i]
    by_cases e : j = 9
    · rw [if_pos ⟨rfl, e⟩, if_pos e]
    · rw [if_neg (fun q => e q.2), if_neg e]
  refine zev_up (τ := Zm × Int32) (fun i (z : Zm × Int32) => ∃ M1, z = (M1, nI i) ∧ (∀ j, zm_i M1 p j = if j = 9 then nI cnt else zm_i M p j) ∧ (∀ x j, x ≠ p → zm_i M1 x j = zm_i M x j) ∧ zm_r M1 = zm_r M ∧ (∀ x j, x ≠ a8 → zm_j M1 x j = zm_j M x j) ∧ (∀ j, j < i → zm_j M1 a8 j = (nI (Be j)).toInt64 * step) ∧ zFo M g M1 g (fun z => z = 15) ∧ zBu M1 g k) cnt (i := 0) (Nat.zero_le _) ⟨_, rfl, i9, fun x j hx => by rw [ypi_i, if_neg (fun e => hx e.1)], rfl, fun x j _ => rfl, fun j hj => by omega, zFo.pi h2, hb.same rfl rfl⟩ ?_ ?_
  · rintro i z hi ⟨M1, rfl, e1, e2, e3, e4, e5, f1, b1⟩
    have i31 : i < 2 ^ 31 := by omega
    have c1 : ¬ nI cnt ≤ nI i := nI_ge hi (by omega)
    have O1 := f1.O h1
    have A4 := f1.A q4.1
    have A8 := f1.A q8.1
    have g6 : zm_i M1 p 6 = nI cnt := by rw [e1, if_neg (by decide)]; exact h5
    have g8 : zm_r M1 p 8 = some a8 := by rw [e3]; exact r8
    have g4 : zm_r M1 p 4 = some a4 := by rw [e3]; exact r4
    have gi : zm_i M1 a4 i = nI (Be i) := by rw [e2 a4 i m4]; exact d4 i (by omega)
    simp only [zf_X6_settle_L10, zev_b1, zev_bd, zev_some, zev_gi, zev_gj, zev_gr, zev_pi, zev_pz, zev_pj, zev_pr, zev_rc, zev_cc, zev_b0, zev_bo, true_and, and_true, O1, g6, if_neg c1, g8, g4, zev_ai2 i31, zev_sj2 i31, show zO M1 a4 14 from A4.1, A4.2, show zO M1 a8 15 from A8.1, A8.2, show i < 6 by omega, gi]
    refine ⟨_, rfl, _, p2 (nI_1 _), e1, e2, e3, fun x j hx => ?_, fun j hj => ?_, f1.tr (zFo.pj q8.2), b1.same rfl rfl⟩
    · rw [ypj_j, if_neg (fun e => hx e.1)]; exact e4 x j hx
    · rw [ypj_j]
      by_cases e : j = i
      · rw [if_pos ⟨rfl, e⟩, e]
      · rw [if_neg (fun q => e q.2)]; exact e5 j (by omega)
  · rintro z ⟨M1, rfl, e1, e2, e3, e4, e5, f1, b1⟩
    have c1 : nI cnt ≤ nI cnt := nI_le (Nat.le_refl _) (by omega)
    have O1 := f1.O h1
    have g6 : zm_i M1 p 6 = nI cnt := by rw [e1, if_neg (by decide)]; exact h5
    have ls : (pset Be cnt step).length = cnt := by unfold pset; rw [List.length_map, List.length_range]
    simp only [zf_X6_settle_L10, zev_b1, zev_bd, zev_some, zev_gi, zev_gj, zev_gr, zev_pi, zev_pz, zev_pj, zev_pr, zev_rc, zev_cc, zev_b0, zev_bo, true_and, and_true, O1, g6, if_pos c1]
    refine ⟨_, rfl, ⟨O1, h2, by rw [e3]; exact h3, by rw [e3]; exact h4, g6, h6, by rw [e4 p 7 m8]; exact h7, by rw [ls, e1, if_pos rfl], by rw [ls]; exact h6, a1, a2, a3, a4, a8, by rw [e3]; exact r1, by rw [e3]; exact r2, by rw [e3]; exact r3, by rw [e3]; exact r4, by rw [e3]; exact r8, ⟨f1.A q1.1, q1.2⟩, ⟨f1.A q2.1, q2.2⟩, ⟨f1.A q3.1, q3.2⟩, ⟨f1.A q4.1, q4.2⟩, ⟨f1.A q8.1, q8.2⟩, nn, fun i hi => by rw [e4 a1 i nn.1]; exact d1 i hi, fun i hi => by rw [e2 a2 i m2]; exact d2 i hi, fun i hi => by rw [e2 a3 i m3]; exact d3 i hi, fun i hi => by rw [e2 a4 i m4]; exact d4 i hi, fun i v hv => ?_⟩, f1, b1⟩
    have hi := (List.getElem?_eq_some_iff.mp hv).1
    rw [ls] at hi
    unfold pset at hv
    rw [List.getElem?_map, List.getElem?_range hi] at hv
    rw [e5 i hi]
    exact Option.some.inj hv
def prd (i : Int32) (st : List Int64) : Int64 := if i < 0 then 0 else (st[i.toNatClampNeg]?).getD 0
theorem zPl_read {M : Zm} {g : Zg} {p ta : Nat} {D : Nat → Int64} {Mo Tr Be : Nat → Nat} {wt : Option Nat} {cnt : Nat} {lst : Int64} {st : List Int64} (h : zPl M g p ta D Mo Tr Be wt cnt lst st) (i : Int32) : zf_X6_readSettled M (some p) i = some (M, prd i st) := by
  obtain ⟨h1, h2, h3, h4, h5, h6, h7, h8, h9, a1, a2, a3, a4, a8, r1, r2, r3, r4, r8, q1, q2, q3, q4, q8, nn, d1, d2, d3, d4, d8⟩ := h
  unfold prd
  by_cases hi : i < 0
  · simp only [zf_X6_readSettled, if_pos hi, zf_X6_readSettled_J12]
  · obtain ⟨j, hj, rfl⟩ := nI_of hi
    rw [if_neg hi, nI_clamp hj]
    have hz : zev (zf_X6_readSettled M (some p) (nI j)) (fun y => y = (M, (st[j]?).getD 0)) := by
      by_cases hlt : j < st.length
      · obtain ⟨v, hv⟩ := getElem?_lt hlt
        have c : nI j < nI st.length := nI_lt hlt (by omega)
        simp only [zf_X6_readSettled, if_neg hi, zev_b1, zev_bd, zev_some, zev_gi, zev_gj, zev_gr, zev_pi, zev_pz, zev_pj, zev_pr, zev_rc, zev_cc, zev_b0, zev_bo, true_and, and_true, h1, h8, if_pos c, r8, zev_aj2 hj, show zO M a8 15 from q8.1.1, q8.1.2, show j < 6 by omega, d8 j v hv, hv, Option.getD_some]
      · have c : ¬ nI j < nI st.length := nI_nlt (by omega) hj
        simp only [zf_X6_readSettled, if_neg hi, zev_b1, zev_bd, zev_some, zev_gi, zev_gj, zev_gr, zev_pi, zev_pz, zev_pj, zev_pr, zev_rc, zev_cc, zev_b0, zev_bo, true_and, and_true, h1, h8, if_neg c, zf_X6_readSettled_J12, List.getElem?_eq_none (Nat.le_of_not_lt hlt), Option.getD_none]
    obtain ⟨y, hy, rfl⟩ := hz
    exact hy
