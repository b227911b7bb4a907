/-! Acts of the class: breathe. -/
theorem zCe_acc1 {M : Zm} {g : Zg} {A AL : Nat → Nat} {x : Nat} {adr : Nat → Nat} {ga nb : Nat} {bs : Nat → Bv} {ro : Nat → Rw} {lb : List Lb} {ps : List (Nat × Int64)} {ac : Nat → Wn} {jr bo : List Ln} {mo : Int32} {gi : Int64} {tr tp wy wh : Int32} {tc : List Int32} {st : List Int64} {ds : List (Nat × Int64)} {dw : Wn} {bf : Nat → Int32} {ba : Wn} {bc : List Nat} (h : zCe M g A AL x adr ga nb bs ro lb ps ac jr bo mo gi tr tp wy wh tc st ds dw bf ba bc) : ∃ w, zm_r M (adr 6) 1 = some w ∧ zo_ar M 18 (some (adr 6)) (1 : Int32) = some (some w) := by
  obtain ⟨a1, a2, a3, a4⟩ := h.ac
  obtain ⟨w, w1, w2⟩ := a4 1 (by decide)
  refine ⟨w, w1, zev_of ?_⟩
  show zev (zo_ar M 18 (some (adr 6)) (nI 1)) _
  rw [zev_ar2 (by decide)]
  exact ⟨⟨a1, by rw [a2]; decide⟩, w1⟩
theorem zCe_away {M : Zm} {g : Zg} {A AL : Nat → Nat} {x : Nat} {adr : Nat → Nat} {ga nb : Nat} {bs : Nat → Bv} {ro : Nat → Rw} {lb : List Lb} {ps : List (Nat × Int64)} {ac : Nat → Wn} {jr bo : List Ln} {mo : Int32} {gi : Int64} {tr tp wy wh : Int32} {tc : List Int32} {st : List Int64} {ds : List (Nat × Int64)} {dw : Wn} {bf : Nat → Int32} {ba : Wn} {bc : List Nat} {b n k : Nat} (h : zCe M g A AL x adr ga nb bs ro lb ps ac jr bo mo gi tr tp wy wh tc st ds dw bf ba bc) (hbn : b < nb) (hc : bc.length < 1000) (hok : wok (bs b).2.1.2.2.2) (hca : wcod (ac 1)) (hn : n ≤ 12) (hb : zBu M g k) : zev (zf_X11_breatheAway M (some x) (some (A b)) (brat (bs b).1.1) (nI n)) (fun y => ∃ g', zCe y.1 g' A AL x adr ga nb (bup bs b (bwin (bkeep (bs b)) (brkN (brat (bs b).1.1) n ((bs b).2.1.2.2.2, ac 1, 0)).1)) ro lb ps (aup ac 1 (brkN (brat (bs b).1.1) n ((bs b).2.1.2.2.2, ac 1, 0)).2.1) jr bo mo gi tr tp wy wh tc st ds dw bf ba (bc ++ [b]) ∧ y.2 = (brkN (brat (bs b).1.1) n ((bs b).2.1.2.2.2, ac 1, 0)).2.2 ∧ zFo M g y.1 g' Tc ∧ zBu y.1 g' k) := by
  have hN := h.N
  simp only [zf_X11_breatheAway, zev_b1, zev_bd, zev_some, zev_gi, zev_gj, zev_gr, zev_pi, zev_pz, zev_pj, zev_pr, zev_rc, zev_cc, zev_b0, zev_bo, true_and, and_true, h.O, h.r (show 11 < 14 by decide), h.be.1]
  refine zev_mono (zCe_keepb h hbn hc hb) ?_
  rintro ⟨M1, u0⟩ hh
  dsimp only at hh ⊢
  obtain ⟨g1, h1, f1, b1⟩ := hh
  refine zev_up (τ := Zm × Int64 × Int32) (fun i (z : Zm × Int64 × Int32) => ∃ M2 g2, z = (M2, (brkN (brat (bs b).1.1) i ((bs b).2.1.2.2.2, ac 1, 0)).2.2, nI i) ∧ zCe M2 g2 A AL x adr ga nb (bup bs b (bwin (bkeep (bs b)) (brkN (brat (bs b).1.1) i ((bs b).2.1.2.2.2, ac 1, 0)).1)) ro lb ps (aup ac 1 (brkN (brat (bs b).1.1) i ((bs b).2.1.2.2.2, ac 1, 0)).2.1) jr bo mo gi tr tp wy wh tc st ds dw bf ba (bc ++ [b]) ∧ zFo M g M2 g2 Tc ∧ zBu M2 g2 k) n (Nat.zero_le _) ⟨M1, g1, rfl, (by
    show zCe M1 g1 A AL x adr ga nb (bup bs b (bwin (bkeep (bs b)) (bs b).2.1.2.2.2)) ro lb ps (aup ac 1 (ac 1)) jr bo mo gi tr tp wy wh tc st ds dw bf ba (bc ++ [b])
    rw [aup_self]
    exact h1), f1, b1⟩ ?_ ?_
  · rintro i z hi ⟨M2, g2, rfl, h2, f2, b2⟩
    obtain ⟨o1, o2⟩ := brkN_ok (kd := (bs b).1.1) (s := ((bs b).2.1.2.2.2, ac 1, 0)) hok hca i
    have hnx : brkN (brat (bs b).1.1) (i + 1) ((bs b).2.1.2.2.2, ac 1, 0) = brkc (brat (bs b).1.1) (brkN (brat (bs b).1.1) i ((bs b).2.1.2.2.2, ac 1, 0)) := by rw [brk_c o1]; rfl
    rw [hnx]
    generalize brkN (brat (bs b).1.1) i ((bs b).2.1.2.2.2, ac 1, 0) = s at h2 o1 o2 ⊢
    obtain ⟨-, o3, -, -⟩ := brk_all (kd := (bs b).1.1) o1
    have ew : (bup bs b (bwin (bkeep (bs b)) s.1) b).2.1.2.2.2 = s.1 := by rw [bup_self]; rfl
    have eac : ∀ x : Wn, aup ac 1 x 1 = x := fun x => by unfold aup; rw [if_pos rfl]
    have ebw : ∀ x : Wn, bwin (bup bs b (bwin (bkeep (bs b)) s.1) b) x = bwin (bkeep (bs b)) x := fun x => by rw [bup_self]; rfl
    obtain ⟨w, w1, w2⟩ := zCe_acc1 h2
    obtain ⟨wa, v1, v2⟩ := (h2.bs hbn).wn
    have vt := v2.tot
    rw [ew] at vt
    have c1 : ¬ nI n ≤ nI i := nI_ge hi (by omega)
    simp only [zf_X11_breatheAway_L14, if_neg c1, zev_b1, zev_bd, zev_some, zev_gi, zev_gj, zev_gr, zev_pi, zev_pz, zev_pj, zev_pr, zev_rc, zev_cc, zev_b0, zev_bo, true_and, and_true, (h2.bs hbn).O, v1, v2.O, vt, zev_ldw, h2.O, h2.r (show 10 < 14 by decide), h2.r (show 6 < 14 by decide), zev_eq w2, h2.dr.1]
    have hout := zCe_out h2 hbn w1 v1 (wsum s.1 * brat (bs b).1.1 / 10000) (by rw [ew]; exact o1.2.2.2) (by rw [eac]; exact o2) (by rw [ew]; exact o1.2.2.1) (by rw [ew]; exact o3) b2
    rw [ew, eac, ebw, bup_bup, aup_aup] at hout
    refine zev_mono hout ?_
    rintro ⟨M3, u3⟩ hh
    dsimp only at hh ⊢
    obtain ⟨g3, h3, f3, b3⟩ := hh
    exact ⟨_, rfl, M3, g3, by rw [nI_1]; rfl, h3, f2.tr f3, b3⟩
  · rintro z ⟨M2, g2, rfl, h2, f2, b2⟩
    have c1 : nI n ≤ nI n := nI_le (Nat.le_refl _) (by omega)
    simp only [zf_X11_breatheAway_L14, if_pos c1, zev_b1, zev_bd, zev_some, zev_gi, zev_gj, zev_gr, zev_pi, zev_pz, zev_pj, zev_pr, zev_rc, zev_cc, zev_b0, zev_bo, true_and, and_true]
    exact ⟨_, rfl, g2, h2, rfl, f2, b2⟩
theorem bfol_ok {nb m : Nat} {bs : Nat → Bv} {a : Wn} (hW : ∀ b, b < nb → wok (bs b).2.1.2.2.2) (ha : wcod a) : ∀ n, n ≤ nb → wcod (bfol m n bs a).2.1 ∧ (bfol m n bs a).2.2.2.length ≤ n
  | 0, _ => ⟨ha, Nat.le_refl _⟩
  | n + 1, hn => by
    obtain ⟨i1, i2⟩ := bfol_ok hW ha n (by omega)
    obtain ⟨p1, p2, -⟩ := bfol_p m bs a n
    have e : (bfol m n bs a).1 n = bs n := p2 n (fun hc => by have := (p1 n hc).1; omega)
    rw [bfol_s]
    generalize bfol m n bs a = s at i1 i2 e
    unfold bstp
    split
    · refine ⟨?_, by dsimp only; rw [List.length_append]; simp; omega⟩
      dsimp only
      rw [e]
      exact (brkN_ok (s := ((bs n).2.1.2.2.2, s.2.1, s.2.2.1)) (hW n (by omega)) i1 m).2
    · exact ⟨i1, by omega⟩
set_option maxHeartbeats 1000000 in
theorem C_breathe {M : Zm} {g : Zg} {A AL : Nat → Nat} {x : Nat} {adr : Nat → Nat} {ga nb : Nat} {bs : Nat → Bv} {ro : Nat → Rw} {lb : List Lb} {ps : List (Nat × Int64)} {ac : Nat → Wn} {jr bo : List Ln} {mo : Int32} {gi : Int64} {tr tp wy wh : Int32} {tc : List Int32} {st : List Int64} {ds : List (Nat × Int64)} {dw : Wn} {bf : Nat → Int32} {ba : Wn} {bc : List Nat} {k : Nat} (h : zCe M g A AL x adr ga nb bs ro lb ps ac jr bo mo gi tr tp wy wh tc st ds dw bf ba bc) (hW : ∀ b, b < nb → wok (bs b).2.1.2.2.2) (hca : wcod (ac 1)) (hj : jr.length < 4096) (m : Int32) (hb : zBu M g k) : zev (zf_X11_letMonthsGoBy M (some x) m) (fun y => ∃ g' A' AL', zCs y.1 g' A' AL' x adr ga (sBreathe m (nb, bs, ro, lb, ps, ac, jr, bo, mo, gi, tr, tp, wy, wh, tc, st, ds, dw, bf, ba, bc)).2 ∧ y.2 = (sBreathe m (nb, bs, ro, lb, ps, ac, jr, bo, mo, gi, tr, tp, wy, wh, tc, st, ds, dw, bf, ba, bc)).1 ∧ zFo M g y.1 g' Tc ∧ zBu y.1 g' k) := by
  unfold sBreathe
  dsimp only
  have hN := h.N
  simp only [zf_X11_letMonthsGoBy, zf_X11_letMonthsGoBy_J11]
  by_cases c1 : m < 1
  · simp only [if_pos c1, zev_b1, zev_bd, zev_some, zev_gi, zev_gj, zev_gr, zev_pi, zev_pz, zev_pj, zev_pr, zev_rc, zev_cc, zev_b0, zev_bo, true_and, and_true]
    exact ⟨g, A, AL, h, zFo.rf, hb⟩
  by_cases c2 : 12 < m
  · simp only [if_neg c1, if_pos c2, if_neg (Int32.not_le.mpr c2), zev_b1, zev_bd, zev_some, zev_gi, zev_gj, zev_gr, zev_pi, zev_pz, zev_pj, zev_pr, zev_rc, zev_cc, zev_b0, zev_bo, true_and, and_true]
    exact ⟨g, A, AL, h, zFo.rf, hb⟩
  have c0 : ¬ m < 0 := fun z => c1 (by rw [i32_lt] at z ⊢; have e1 : (1 : Int32).toInt = 1 := rfl; have e2 : (0 : Int32).toInt = 0 := rfl; omega)
  obtain ⟨n, hn12, rfl⟩ := nI_rng (n := 12) (by decide) c0 c2
  simp only [if_neg c1, if_neg c2, if_pos (Int32.not_lt.mp c2), zev_b1, zev_bd, zev_some, zev_gi, zev_gj, zev_gr, zev_pi, zev_pz, zev_pj, zev_pr, zev_rc, zev_cc, zev_b0, zev_bo, true_and, and_true, h.O, nI_clamp (show n < 2 ^ 31 by omega)]
  refine zev_mono (zCe_remember h hb) ?_
  rintro ⟨M1, u0⟩ hh
  dsimp only at hh ⊢
  obtain ⟨h1, f1, b1⟩ := hh
  obtain ⟨w0, w01, w02⟩ := zCe_acc1 h1
  obtain ⟨w, w1, w2, hka⟩ := zCe_keepa (hw := 1) h1 (by decide) (nI 1) b1
  rw [w01] at w1
  cases w1
  simp only [h1.O, h1.r (show 11 < 14 by decide), h1.r (show 6 < 14 by decide), zev_b1, zev_bd, zev_some, zev_gi, zev_gj, zev_gr, zev_pi, zev_pz, zev_pj, zev_pr, zev_rc, zev_cc, zev_b0, zev_bo, true_and, and_true, zev_eq w02, h1.be.1]
  refine zev_mono hka ?_
  rintro ⟨M2, u1⟩ hh
  dsimp only at hh ⊢
  obtain ⟨g2, h2, f2, b2⟩ := hh
  refine zev_up (τ := Zm × Int64 × Int32) (fun i (z : Zm × Int64 × Int32) => ∃ M3 g3, z = (M3, (bfol n i bs (ac 1)).2.2.1, nI i) ∧ zCe M3 g3 A AL x adr ga nb ((bfol n i bs (ac 1)).1) ro lb ps (aup ac 1 (bfol n i bs (ac 1)).2.1) jr bo mo gi tr tp wy wh (tapp 200 tc (bratsT i bs)) st ds dw (fu (bfB bf nb mo jr.length bo.length) 8 (nI 1)) (ac 1) ((bfol n i bs (ac 1)).2.2.2) ∧ zFo M g M3 g3 Tc ∧ zBu M3 g3 k) nb (Nat.zero_le _) ⟨M2, g2, rfl, (by
    show zCe M2 g2 A AL x adr ga nb bs ro lb ps (aup ac 1 (ac 1)) jr bo mo gi tr tp wy wh (tapp 200 tc []) st ds dw (fu (bfB bf nb mo jr.length bo.length) 8 (nI 1)) (ac 1) []
    rw [aup_self, tapp_nil h.t1.len]
    exact h2), f1.tr f2, b2⟩ ?_ ?_
  · rintro b z hbn ⟨M3, g3, rfl, h3, f3, b3⟩
    obtain ⟨p1, p2, -⟩ := bfol_p n bs (ac 1) b
    obtain ⟨o1, o2⟩ := bfol_ok (m := n) hW hca b (by omega)
    have eb : (bfol n b bs (ac 1)).1 b = bs b := p2 b (fun hc => by have := (p1 b hc).1; omega)
    rw [bfol_s]
    generalize bfol n b bs (ac 1) = s at h3 o1 o2 eb ⊢
    have c3 : ¬ nI nb ≤ nI b := nI_ge hbn (by omega)
    simp only [zf_X11_letMonthsGoBy_L38, zf_X11_letMonthsGoBy_J107, zev_b1, zev_bd, zev_some, zev_gi, zev_gj, zev_gr, zev_pi, zev_pz, zev_pj, zev_pr, zev_rc, zev_cc, zev_b0, zev_bo, true_and, and_true, h3.O, h3.r (show 0 < 14 by decide), h3.r (show 12 < 14 by decide), h3.bl.O, zev_eq (zCe_size h3), if_neg c3, zev_eq (zCe_get h3 hbn), (h3.bs hbn).O]
    refine zev_mono (zCe_rate h3 hbn b3) ?_
    rintro ⟨M4, v4⟩ hh
    dsimp only at hh ⊢
    obtain ⟨e4, h4, f4, b4⟩ := hh
    subst e4
    have et : tapp 200 (tapp 200 tc (bratsT b bs)) (bratT (s.1 b).1.1) = tapp 200 tc (bratsT (b + 1) bs) := by
      have e : bratsT (b + 1) bs = bratsT b bs ++ bratT (bs b).1.1 := by
        unfold bratsT; rw [range_snoc, List.flatMap_append]; simp
      rw [e, ← tapp_tapp, eb]
    rw [et] at h4
    have eac : aup ac 1 s.2.1 1 = s.2.1 := by unfold aup; rw [if_pos rfl]
    unfold bstp
    by_cases d1 : 0 < brat (s.1 b).1.1
    · simp only [if_neg (Int64.not_le.mpr d1)]
      obtain ⟨wa, v1, v2⟩ := (h4.bs hbn).wn
      simp only [zev_b1, zev_bd, zev_some, zev_gi, zev_gj, zev_gr, zev_pi, zev_pz, zev_pj, zev_pr, zev_rc, zev_cc, zev_b0, zev_bo, true_and, and_true, (h4.bs hbn).O, v1, v2.O, v2.tot]
      by_cases d2 : 0 < wsum (s.1 b).2.1.2.2.2
      · simp only [if_neg (Int64.not_le.mpr d2), zev_b1, zev_bd, zev_some, zev_gi, zev_gj, zev_gr, zev_pi, zev_pz, zev_pj, zev_pr, zev_rc, zev_cc, zev_b0, zev_bo, true_and, and_true, h4.O]
        rw [if_pos ⟨d1, d2⟩]
        have haw := zCe_away (n := n) h4 hbn (by omega) (by rw [eb]; exact hW b hbn) (by rw [eac]; exact o1) hn12 b4
        rw [eac, aup_aup] at haw
        refine zev_mono haw ?_
        rintro ⟨M5, v5⟩ hh
        dsimp only at hh ⊢
        obtain ⟨g5, h5, e5, f5, b5⟩ := hh
        subst e5
        rw [brkN_g (g := s.2.2.1)]
        exact ⟨_, rfl, M5, g5, by rw [nI_1], h5, (f3.tr f4).tr f5, b5⟩
      · simp only [if_pos (Int64.not_lt.mp d2), zev_b1, zev_bd, zev_some, zev_gi, zev_gj, zev_gr, zev_pi, zev_pz, zev_pj, zev_pr, zev_rc, zev_cc, zev_b0, zev_bo, true_and, and_true]
        rw [if_neg (fun z => d2 z.2)]
        exact ⟨_, rfl, M4, g3, by rw [nI_1], h4, f3.tr f4, b4⟩
    · simp only [if_pos (Int64.not_lt.mp d1), zev_b1, zev_bd, zev_some, zev_gi, zev_gj, zev_gr, zev_pi, zev_pz, zev_pj, zev_pr, zev_rc, zev_cc, zev_b0, zev_bo, true_and, and_true]
      rw [if_neg (fun z => d1 z.1)]
      exact ⟨_, rfl, M4, g3, by rw [nI_1], h4, f3.tr f4, b4⟩
  · rintro z ⟨M3, g3, rfl, h3, f3, b3⟩
    have c3 : nI nb ≤ nI nb := nI_le (Nat.le_refl _) (by omega)
    simp only [zf_X11_letMonthsGoBy_L38, zev_b1, zev_bd, zev_some, zev_gi, zev_gj, zev_gr, zev_pi, zev_pz, zev_pj, zev_pr, zev_rc, zev_cc, zev_b0, zev_bo, true_and, and_true, h3.O, h3.r (show 0 < 14 by decide), h3.bl.O, zev_eq (zCe_size h3), if_pos c3]
    refine ⟨_, rfl, ?_⟩
    dsimp only
    have hmo : zm_i M3 x 14 = mo := h3.co.2.2.2.1
    simp only [zev_b1, zev_bd, zev_some, zev_gi, zev_gj, zev_gr, zev_pi, zev_pz, zev_pj, zev_pr, zev_rc, zev_cc, zev_b0, zev_bo, true_and, and_true, h3.O, hmo]
    obtain ⟨h4, f4⟩ := zCe_mo h3 (mo + nI n)
    have b4 : zBu (zm_pi M3 x 14 (mo + nI n)) g3 k := b3.same rfl rfl
    generalize zm_pi M3 x 14 (mo + nI n) = M4 at h4 f4 b4 ⊢
    simp only [zev_b1, zev_bd, zev_some, zev_gi, zev_gj, zev_gr, zev_pi, zev_pz, zev_pj, zev_pr, zev_rc, zev_cc, zev_b0, zev_bo, true_and, and_true, h4.O, h4.r (show 8 < 14 by decide), h4.jr.O]
    refine zev_mono (zCe_jadd h4 5 (-1) (-1) _ hj b4) ?_
    rintro ⟨M5, u5⟩ hh
    dsimp only at hh ⊢
    obtain ⟨g5, h5, f5, b5⟩ := hh
    exact ⟨g5, A, AL, h5, (f3.tr (f4.mono (fun z q => show z ≠ 1 ∧ z ≠ 28 ∧ z ≠ 29 by first | omega | (dsimp only at q; omega)))).tr f5, b5⟩
