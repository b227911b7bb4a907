/-! The shares of what is drawn, and where they go. -/
def gb (x tot a : Int64) : Int64 := if tot = 0 then 0 else x * a / tot
def wbase (x tot : Int64) (l : Wn) : List Int64 := l.map (fun q => gb x tot q.2)
def wbmp (x tot : Int64) (l : Wn) : Nat → Nat → Int64 → List Int64 → List Int64
  | 0, _, _, s => s
  | n + 1, i, want, s => if want ≤ 0 then s else if tot = 0 ∨ x * ((l[i]?.map (fun q => q.2)).getD 0) - x * ((l[i]?.map (fun q => q.2)).getD 0) / tot * tot = 0 then wbmp x tot l n (i + 1) want s else wbmp x tot l n (i + 1) (want - 1) (s.set i ((s[i]?).getD 0 + 1))
def wshr (x : Int64) (l : Wn) : List Int64 := wbmp x (wsum l) l l.length 0 (lsub x (wbase x (wsum l) l)) (wbase x (wsum l) l)
theorem wbmp_len (x tot : Int64) (l : Wn) : ∀ (n i : Nat) (want : Int64) (s : List Int64), (wbmp x tot l n i want s).length = s.length
  | 0, _, _, _ => rfl
  | n + 1, i, want, s => by
    simp only [wbmp]
    split
    · rfl
    · split
      · exact wbmp_len x tot l n (i + 1) want s
      · rw [wbmp_len x tot l n (i + 1) (want - 1) _, List.length_set]
theorem wshr_len (x : Int64) (l : Wn) : (wshr x l).length = l.length := by
  unfold wshr
  rw [wbmp_len]
  simp [wbase]
/-- Drawing's row of what goes -/
def zGa (M : Zm) (g : Zg) (d ga : Nat) (s : List Int64) : Prop := zO M d 3 ∧ g.1 d = 10 ∧ zm_r M d 2 = some ga ∧ zO M ga 15 ∧ zm_l M ga = 60 ∧ g.1 ga = 10 ∧ (∀ i v, s[i]? = some v → zm_j M ga i = v)
theorem zGa.fr {M M' : Zm} {g g' : Zg} {T : Nat → Prop} {d ga : Nat} {s : List Int64} (h : zGa M g d ga s) (f : zFo M g M' g' T) (hn : ¬ T 10) : zGa M' g' d ga s := by
  obtain ⟨h1, h2, h3, h4, h5, h6, h7⟩ := h
  have e1 := f.at h1.1 h2 hn
  have e2 := f.at h4.1 h6 hn
  exact ⟨f.O h1, f.own h1.1 h2, by rw [e1.2.2]; exact h3, f.O h4, (f.A (show zA M ga 15 60 from ⟨h4, h5⟩)).2, f.own h4.1 h6, fun i v hv => by rw [e2.2.1]; exact h7 i v hv⟩
theorem zGa_reckon {M : Zm} {g : Zg} {o w d ga : Nat} {l : Wn} (x : Int64) (hG : zGa M g d ga []) (hW : zWo M g o w l) (ho : o ≠ 10) (h60 : l.length ≤ 60) : zev (zf_X2_reckonShares M (some d) (some w) x) (fun y => zGa y.1 g d ga (wshr x l) ∧ zFr M y.1 (fun a => a = ga) ∧ zm_c y.1 = zm_c M ∧ zm_s y.1 = zm_s M) := by
  obtain ⟨g1, g2, g3, g4, g5, g6, -⟩ := hG
  have fo : ∀ M1, zFr M M1 (fun a => a = ga) → zFo M g M1 g (fun z => z = 10) := fun M1 f => ⟨f.mono (fun a _ q => by rw [q]; exact g6), fun _ _ => rfl, fun _ _ => rfl⟩
  have dg : ¬ d = ga := zkne g1.2 g4.2 (by decide)
  have gd : ¬ ga = d := fun e => dg e.symm
  simp only [zf_X2_reckonShares, zev_b1, zev_bd, zev_some, zev_gi, zev_gj, zev_gr, zev_pi, zev_pz, zev_pj, zev_pr, zev_rc, zev_cc, zev_b0, zev_bo, true_and, and_true, hW.O, hW.tot]
  refine zev_up (τ := Zm × Int64 × Int32) (fun i (z : Zm × Int64 × Int32) => ∃ M1, z = (M1, lsub x ((wbase x (wsum l) l).take i), nI i) ∧ zFr M M1 (fun a => a = ga) ∧ zm_c M1 = zm_c M ∧ zm_s M1 = zm_s M ∧ (∀ j v, ((wbase x (wsum l) l).take i)[j]? = some v → zm_j M1 ga j = v)) l.length (i := 0) (Nat.zero_le _) ⟨M, rfl, zFr.rf, rfl, rfl, fun j v hv => by simp at hv⟩ ?_ ?_
  · rintro i z hi ⟨M1, rfl, f, hc, hs, ha⟩
    obtain ⟨q, hq⟩ := getElem?_lt hi
    have hW1 := hW.fr (fo M1 f) ho
    obtain ⟨pa, aa, n, r1, r2, r3, r4, r5, r6, r7, r8, r9, r10, r11⟩ := hW1.rows
    have i31 : i < 2 ^ 31 := by omega
    have c1 : ¬ nI l.length ≤ nI i := nI_ge hi (by omega)
    have c2 : ¬ nI 60 ≤ nI i := nI_ge (by omega) (by decide)
    have hb : (wbase x (wsum l) l)[i]? = some (gb x (wsum l) q.2) := by unfold wbase; rw [List.getElem?_map, hq]; rfl
    have hd := f.ob g1
    have hg := f.ob g4
    have lg : zm_l M1 ga = 60 := (f.ar (show zAr M ga 15 60 from ⟨g4, g5⟩)).2
    have rd : zm_r M1 d 2 = some ga := by rw [(f.2.2.2.2.2 d g1.1 dg).2.2]; exact g3
    have key : ∀ v, v = gb x (wsum l) q.2 → zev (zf_X2_reckonShares_J60 M1 (some d) (some w) x (wsum l) (lsub x ((wbase x (wsum l) l).take i)) (nI i) v (nI i) (some ga)) (fun r => ∃ x', r = .inl x' ∧ ∃ M1, x' = (M1, lsub x ((wbase x (wsum l) l).take (i + 1)), nI (i + 1)) ∧ zFr M M1 (fun a => a = ga) ∧ zm_c M1 = zm_c M ∧ zm_s M1 = zm_s M ∧ (∀ j v, ((wbase x (wsum l) l).take (i + 1))[j]? = some v → zm_j M1 ga j = v)) := by
      rintro v rfl
      simp only [zf_X2_reckonShares_J60, zev_b1, zev_bd, zev_some, zev_gi, zev_gj, zev_gr, zev_pi, zev_pz, zev_pj, zev_pr, zev_rc, zev_cc, zev_b0, zev_bo, true_and, and_true, ypi_i, ypj_j, ypr_r, zpi_j, zpi_r, zpj_i, zpj_r, zpr_i, zpr_j, ypi_O, ypj_O, ypr_O, zpi_l, zpj_l, zpr_l, zpi_b, zpi_c, zpj_b, zpj_c, zpr_b, zpr_c, zpi_s, zpj_s, zpr_s, zev_sj2 i31, zev_aj2 i31, show zO M1 ga 15 from hg, show zO M1 d 3 from hd, lg, show i < 60 by omega, rd, and_self, if_true]
      refine ⟨_, rfl, _, p3 ?_ (nI_1 _), f.tr (zFr.pj rfl), hc, hs, ?_⟩
      · rw [take_snoc hb]
        simp only [lsub, List.foldl_append, List.foldl_cons, List.foldl_nil]
      · intro j v hv
        rw [take_snoc hb] at hv
        have hlen : ((wbase x (wsum l) l).take i).length = i := by
          have := (List.getElem?_eq_some_iff.mp hb).1
          rw [List.length_take]; omega
        rw [ypj_j]
        by_cases hj : j = i
        · subst hj
          rw [List.getElem?_append_right (by omega), hlen] at hv
          simp at hv
          rw [if_pos ⟨rfl, rfl⟩]; exact hv
        · rw [if_neg (fun e => hj e.2)]
          have hl2 := (List.getElem?_eq_some_iff.mp hv).1
          simp only [List.length_append, hlen, List.length_singleton] at hl2
          rw [List.getElem?_append_left (by omega)] at hv
          exact ha j v hv
    simp only [zf_X2_reckonShares_L12, zev_b1, zev_bd, zev_some, zev_gi, zev_gj, zev_gr, zev_pi, zev_pz, zev_pj, zev_pr, zev_rc, zev_cc, zev_b0, zev_bo, true_and, and_true, hW1.O, hW1.cnt, if_neg c1, show zO M1 d 3 from hd, rd, zev_al2 (show zO M1 ga 15 from hg) (by decide) (by decide), lg, if_neg c2]
    by_cases h0 : wsum l = 0
    · rw [if_pos h0]
      exact key 0 (by simp [gb, h0])
    · rw [if_neg h0]
      simp only [zev_b1, zev_bd, zev_some, zev_gi, zev_gj, zev_gr, zev_pi, zev_pz, zev_pj, zev_pr, zev_rc, zev_cc, zev_b0, zev_bo, true_and, and_true, hW1.O, r2, zev_aj2 i31, r5, r6, show i < n by omega, (r9 i q hq).2, zev_ld, ne_eq, h0, not_false_eq_true]
      exact key _ (by simp [gb, h0])
  · rintro z ⟨M1, rfl, f, hc, hs, ha⟩
    have hW1 := hW.fr (fo M1 f) ho
    have c1 : nI l.length ≤ nI l.length := nI_le (Nat.le_refl _) (by omega)
    simp only [zf_X2_reckonShares_L12, zev_b1, zev_bd, zev_some, zev_gi, zev_gj, zev_gr, zev_pi, zev_pz, zev_pj, zev_pr, zev_rc, zev_cc, zev_b0, zev_bo, true_and, and_true, hW1.O, hW1.cnt, if_pos c1]
    refine ⟨_, rfl, ?_⟩
    have hbl : (wbase x (wsum l) l).length = l.length := by simp [wbase]
    rw [List.take_of_length_le (by omega)] at ha
    rw [List.take_of_length_le (by omega)]
    refine zev_lp (τ := Zm × Int64 × Int32) (fun n (z : Zm × Int64 × Int32) => ∃ M1 i want s, z = (M1, want, nI i) ∧ i + n = l.length ∧ s.length = l.length ∧ wbmp x (wsum l) l n i want s = wshr x l ∧ zFr M M1 (fun a => a = ga) ∧ zm_c M1 = zm_c M ∧ zm_s M1 = zm_s M ∧ (∀ j v, s[j]? = some v → zm_j M1 ga j = v)) (n := l.length) ⟨M1, 0, _, _, rfl, by omega, hbl, rfl, f, hc, hs, ha⟩ ?_
    rintro n z ⟨M2, i, want, s, rfl, hin, hsl, hw, f2, hc2, hs2, ha2⟩
    have hW2 := hW.fr (fo M2 f2) ho
    have hd := f2.ob g1
    have hg := f2.ob g4
    have lg : zm_l M2 ga = 60 := (f2.ar (show zAr M ga 15 60 from ⟨g4, g5⟩)).2
    have rd : zm_r M2 d 2 = some ga := by rw [(f2.2.2.2.2.2 d g1.1 dg).2.2]; exact g3
    have fin : s = wshr x l → zGa M2 g d ga (wshr x l) ∧ zFr M M2 (fun a => a = ga) ∧ zm_c M2 = zm_c M ∧ zm_s M2 = zm_s M := fun e => ⟨⟨hd, g2, rd, hg, lg, g6, fun j v hv => ha2 j v (by rw [e]; exact hv)⟩, f2, hc2, hs2⟩
    cases n with
    | zero =>
      have c3 : nI l.length ≤ nI i := nI_le (by omega) (by omega)
      simp only [zf_X2_reckonShares_L82, zev_b1, zev_bd, zev_some, zev_gi, zev_gj, zev_gr, zev_pi, zev_pz, zev_pj, zev_pr, zev_rc, zev_cc, zev_b0, zev_bo, true_and, and_true, hW2.O, hW2.cnt, if_pos c3]
      exact Or.inr ⟨_, rfl, fin hw⟩
    | succ n =>
      have hi : i < l.length := by omega
      obtain ⟨q, hq⟩ := getElem?_lt hi
      obtain ⟨v, hv⟩ := getElem?_lt (show i < s.length by omega)
      obtain ⟨pa, aa, n2, r1, r2, r3, r4, r5, r6, r7, r8, r9, r10, r11⟩ := hW2.rows
      have i31 : i < 2 ^ 31 := by omega
      have c3 : ¬ nI l.length ≤ nI i := nI_ge hi (by omega)
      have c2 : ¬ nI 60 ≤ nI i := nI_ge (by omega) (by decide)
      simp only [wbmp, hq, hv, Option.map_some, Option.getD_some] at hw
      simp only [zf_X2_reckonShares_L82, zf_X2_reckonShares_J149, zev_b1, zev_bd, zev_some, zev_gi, zev_gj, zev_gr, zev_pi, zev_pz, zev_pj, zev_pr, zev_rc, zev_cc, zev_b0, zev_bo, true_and, and_true, hW2.O, hW2.cnt, if_neg c3, show zO M2 d 3 from hd, rd, zev_al2 (show zO M2 ga 15 from hg) (by decide) (by decide), lg, if_neg c2]
      by_cases hw0 : want ≤ 0
      · rw [if_pos hw0] at hw ⊢
        simp only [zev_some]
        exact Or.inr ⟨_, rfl, fin hw⟩
      · rw [if_neg hw0] at hw ⊢
        by_cases h0 : wsum l = 0
        · rw [if_pos (Or.inl h0)] at hw
          rw [if_pos h0]
          simp only [zev_some]
          exact Or.inl ⟨_, n, rfl, ⟨M2, i + 1, want, s, by rw [nI_1], by omega, hsl, hw, f2, hc2, hs2, ha2⟩, by omega⟩
        · rw [if_neg h0]
          simp only [zev_b1, zev_bd, zev_some, zev_gi, zev_gj, zev_gr, zev_pi, zev_pz, zev_pj, zev_pr, zev_rc, zev_cc, zev_b0, zev_bo, true_and, and_true, hW2.O, r2, zev_aj2 i31, r5, r6, show i < n2 by omega, (r9 i q hq).2, zev_lm, ne_eq, h0, not_false_eq_true]
          by_cases hm : x * q.2 - x * q.2 / wsum l * wsum l = 0
          · rw [if_pos (Or.inr hm)] at hw
            rw [if_pos hm]
            simp only [zev_some]
            exact Or.inl ⟨_, n, rfl, ⟨M2, i + 1, want, s, by rw [nI_1], by omega, hsl, hw, f2, hc2, hs2, ha2⟩, by omega⟩
          · rw [if_neg (fun e => e.elim h0 hm)] at hw
            rw [if_neg hm]
            simp only [zev_b1, zev_bd, zev_some, zev_gi, zev_gj, zev_gr, zev_pi, zev_pz, zev_pj, zev_pr, zev_rc, zev_cc, zev_b0, zev_bo, true_and, and_true, show zO M2 d 3 from hd, rd, zev_aj2 i31, zev_sj2 i31, show zO M2 ga 15 from hg, lg, show i < 60 by omega, ha2 i v hv]
            refine Or.inl ⟨_, n, rfl, ⟨_, i + 1, want - 1, s.set i (v + 1), p3 rfl (nI_1 _), by omega, by rw [List.length_set]; exact hsl, hw, f2.tr (zFr.pj rfl), hc2, hs2, ?_⟩, by omega⟩
            intro j u hu
            rw [List.getElem?_set] at hu
            rw [ypj_j]
            by_cases hj : i = j
            · subst hj
              rw [if_pos rfl, if_pos (by omega)] at hu
              rw [if_pos ⟨rfl, rfl⟩]
              exact Option.some.inj hu
            · rw [if_neg hj] at hu
              rw [if_neg (fun e => hj e.2.symm)]
              exact ha2 j u hu
/-! what goes, onto another wine -/
def wgng (l : Wn) (s : List Int64) : Wn := List.zipWith (fun q v => (q.1, v)) l s
def wputs (acc : Wn) (zs : Wn) : Wn := zs.foldl (fun a z => if z.2 ≤ 0 then a else wadd z.1 z.2 a) acc
theorem zGa_add {M : Zm} {g : Zg} {o w d ga oo v k : Nat} {l acc : Wn} {s : List Int64} (hG : zGa M g d ga s) (hW : zWo M g o w l) (hV : zWo M g oo v acc) (ho : o ≠ oo) (h10 : oo ≠ 10) (hlen : s.length = l.length) (h60 : l.length ≤ 60) (hoo : oo < 3100) (hm : ∃ j, j ≤ 16 ∧ zcm oo = 4 * 2 ^ j) (hr : ∀ i z, (wgng l s)[i]? = some z → (wputs acc ((wgng l s).take i)).length < zcm oo ∨ ∃ q ∈ wputs acc ((wgng l s).take i), q.1 = z.1) (hb : zBu M g k) : zev (zf_X2_addGoing M (some d) (some w) (some v)) (fun y => ∃ g', zWo y.1 g' oo v (wputs acc (wgng l s)) ∧ zFo M g y.1 g' (fun z => z = oo) ∧ zBu y.1 g' k) := by
  simp only [zf_X2_addGoing, zev_b1, zev_bd, zev_some, zev_gi, zev_gj, zev_gr, zev_pi, zev_pz, zev_pj, zev_pr, zev_rc, zev_cc, zev_b0, zev_bo, true_and, and_true]
  refine zev_up (τ := Zm × Int32) (fun i (z : Zm × Int32) => ∃ M1 g1, z = (M1, nI i) ∧ zWo M1 g1 oo v (wputs acc ((wgng l s).take i)) ∧ zFo M g M1 g1 (fun z => z = oo) ∧ zBu M1 g1 k) l.length (i := 0) (Nat.zero_le _) ⟨M, g, rfl, hV, zFo.rf, hb⟩ ?_ ?_
  · rintro i z hi ⟨M1, g1, rfl, hV1, f1, b1⟩
    obtain ⟨q, hq⟩ := getElem?_lt hi
    obtain ⟨u, hu⟩ := getElem?_lt (show i < s.length by omega)
    have hz : (wgng l s)[i]? = some (q.1, u) := List.getElem?_zipWith_eq_some.mpr ⟨q, u, hq, hu, rfl⟩
    have hW1 := hW.fr f1 ho
    obtain ⟨e1, e2, e3, e4, e5, e6, e7⟩ := hG.fr f1 (fun e => h10 e.symm)
    obtain ⟨pa, aa, n, r1, r2, r3, r4, r5, r6, r7, r8, r9, r10, r11⟩ := hW1.rows
    have i31 : i < 2 ^ 31 := by omega
    have c1 : ¬ nI l.length ≤ nI i := nI_ge hi (by omega)
    have c2 : ¬ nI 60 ≤ nI i := nI_ge (by omega) (by decide)
    simp only [zf_X2_addGoing_L2, zf_X2_addGoing_J46, zev_b1, zev_bd, zev_some, zev_gi, zev_gj, zev_gr, zev_pi, zev_pz, zev_pj, zev_pr, zev_rc, zev_cc, zev_b0, zev_bo, true_and, and_true, hW1.O, hW1.cnt, if_neg c1, e1, e3, zev_al2 e4 (by decide) (by decide), e5, if_neg c2, zev_aj2 i31, zev_ai2 i31, e4, show i < 60 by omega, e7 i u hu, r1, r3, r4, show i < n by omega, (r9 i q hq).1, hV1.O]
    by_cases h0 : u ≤ 0
    · rw [if_pos h0]
      simp only [zev_some]
      refine ⟨_, rfl, M1, g1, by rw [nI_1], ?_, f1, b1⟩
      rw [take_snoc hz]
      simp only [wputs, List.foldl_append, List.foldl_cons, List.foldl_nil, if_pos h0]
      exact hV1
    · rw [if_neg h0]
      simp only [zev_b1, zev_bd, zev_some, zev_gi, zev_gj, zev_gr, zev_pi, zev_pz, zev_pj, zev_pr, zev_rc, zev_cc, zev_b0, zev_bo, true_and, and_true, hW1.O, r1, zev_ai2 i31, r3, r4, show i < n by omega, (r9 i q hq).1, e1, e3, zev_aj2 i31, e4, e5, show i < 60 by omega, e7 i u hu, hV1.O]
      refine zev_mono (zWo_add hV1 q.1 u hoo hm (hr i (q.1, u) hz) b1) ?_
      rintro ⟨M2, u0⟩ hh
      dsimp only at hh ⊢
      obtain ⟨g2, h2, f2, b2⟩ := hh
      refine ⟨_, rfl, M2, g2, by rw [nI_1], ?_, f1.tr f2, b2⟩
      rw [take_snoc hz]
      simp only [wputs, List.foldl_append, List.foldl_cons, List.foldl_nil, if_neg h0]
      exact h2
  · rintro z ⟨M1, g1, rfl, hV1, f1, b1⟩
    have hW1 := hW.fr f1 ho
    have c1 : nI l.length ≤ nI l.length := nI_le (Nat.le_refl _) (by omega)
    simp only [zf_X2_addGoing_L2, zev_b1, zev_bd, zev_some, zev_gi, zev_gj, zev_gr, zev_pi, zev_pz, zev_pj, zev_pr, zev_rc, zev_cc, zev_b0, zev_bo, true_and, and_true, hW1.O, hW1.cnt, if_pos c1]
    rw [List.take_of_length_le (by simp [wgng]; omega)] at hV1
    exact ⟨_, rfl, g1, hV1, f1, b1⟩
theorem zGa_out {M : Zm} {g : Zg} {o w d ga oo v k : Nat} {l acc : Wn} (x : Int64) (hG : zGa M g d ga []) (hW : zWo M g o w l) (hV : zWo M g oo v acc) (ho : o ≠ oo) (h10 : oo ≠ 10) (o10 : o ≠ 10) (h60 : l.length ≤ 60) (hoo : oo < 3100) (hm : ∃ j, j ≤ 16 ∧ zcm oo = 4 * 2 ^ j) (hr : ∀ i z, (wgng l (wshr x l))[i]? = some z → (wputs acc ((wgng l (wshr x l)).take i)).length < zcm oo ∨ ∃ q ∈ wputs acc ((wgng l (wshr x l)).take i), q.1 = z.1) (hsum : lsub (wsum l) (wshr x l) = wsum (wles l (wshr x l))) (hb : zBu M g k) : zev (zf_X2_takeOut M (some d) (some w) x (some v)) (fun y => ∃ g' M1, zWo y.1 g' oo v (wputs acc (wgng l (wshr x l))) ∧ zWo y.1 g' o w (wles l (wshr x l)) ∧ zFr M M1 (fun a => a = ga) ∧ zFo M1 g y.1 g' (fun z => z = oo ∨ z = o) ∧ zBu y.1 g' k) := by
  have hl := wshr_len x l
  simp only [zf_X2_takeOut, zev_b1, zev_bd, zev_some, zev_gi, zev_gj, zev_gr, zev_pi, zev_pz, zev_pj, zev_pr, zev_rc, zev_cc, zev_b0, zev_bo, true_and, and_true, hG.1]
  refine zev_mono (zGa_reckon x hG hW o10 h60) ?_
  rintro ⟨M1, u0⟩ hh
  dsimp only at hh ⊢
  obtain ⟨G1, f1, c1, s1⟩ := hh
  have fo : zFo M g M1 g (fun z => z = 10) := ⟨f1.mono (fun a _ q => by rw [q]; exact hG.2.2.2.2.2.1), fun _ _ => rfl, fun _ _ => rfl⟩
  have W1 := hW.fr fo o10
  have V1 := hV.fr fo h10
  refine ⟨G1.1, zev_mono (zGa_add G1 W1 V1 ho h10 hl h60 hoo hm hr (hb.same s1 c1)) ?_⟩
  rintro ⟨M2, u0⟩ hh
  dsimp only at hh ⊢
  obtain ⟨g2, V2, f2, b2⟩ := hh
  have W2 := W1.fr f2 ho
  have G2 := G1.fr f2 (fun e => h10 e.symm)
  simp only [G2.1, G2.2.2.1, zev_b1, zev_bd, zev_some, zev_gi, zev_gj, zev_gr, zev_pi, zev_pz, zev_pj, zev_pr, zev_rc, zev_cc, zev_b0, zev_bo, true_and, and_true, W2.O]
  refine zev_mono (zWo_lessen W2 G2.2.2.2.1 G2.2.2.2.2.1 h60 (by decide) G2.2.2.2.2.2.2 hl (by rw [G2.2.2.2.2.2.1]; exact fun e => o10 e.symm) hsum b2) ?_
  rintro ⟨M3, u0⟩ hh
  dsimp only at hh ⊢
  obtain ⟨W3, f3, b3⟩ := hh
  exact ⟨g2, M1, V2.fr f3 (fun e => ho e.symm), W3, f1, f2.tr3 f3 (fun z e => Or.inl e) (fun z e => Or.inr e), b3⟩
