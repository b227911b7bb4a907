/-! Acts: lay, lift, row. -/
theorem rpl_0 {ro : Nat → Rw} {r p : Int32} (h : rpl ro r p = 0) : ∃ i j kd pl, r = nI i ∧ i < 20 ∧ p = nI j ∧ ro i = some (kd, pl) ∧ j < 2 ^ 31 ∧ nI j < nI pl.length := by
  unfold rpl at h
  by_cases h1 : r < 0
  · rw [if_pos h1] at h; exact absurd h (by decide)
  · by_cases h2 : r < 20
    · rw [if_neg h1, if_pos h2] at h
      obtain ⟨i, hi, rfl⟩ := nI_of h1
      rw [nI_clamp hi] at h
      cases hr : ro i with
      | none => rw [hr] at h; dsimp only at h; exact absurd h (by decide)
      | some q =>
        rw [hr] at h
        dsimp only at h
        by_cases h3 : p < 0
        · rw [if_pos h3] at h; exact absurd h (by decide)
        · rw [if_neg h3] at h
          by_cases h4 : p < nI q.2.length
          · obtain ⟨j, hj, rfl⟩ := nI_of h3
            exact ⟨i, j, q.1, q.2, rfl, (nI_ltI hi (show 20 < 2 ^ 31 by decide)).mp h2, rfl, hr, hj, h4⟩
          · rw [if_neg h4] at h; exact absurd h (by decide)
    · rw [if_neg h1, if_neg h2] at h; exact absurd h (by decide)
def rcell (ro : Nat → Rw) (r p : Int32) : Int32 := match ro r.toNatClampNeg with | none => -1 | some q => (q.2[p.toNatClampNeg]?).getD (-1)
def rkind (ro : Nat → Rw) (r : Int32) : Int32 := match ro r.toNatClampNeg with | none => 0 | some q => q.1
def rput (ro : Nat → Rw) (r p v : Int32) : Nat → Rw := match ro r.toNatClampNeg with | none => ro | some q => rup ro r.toNatClampNeg (some (q.1, q.2.set p.toNatClampNeg v))
theorem zCe.row {M : Zm} {g : Zg} {A AL : Nat → Nat} {x : Nat} {adr : Nat → Nat} {ga nb : Nat} {bs : Nat → Bv} {ro : Nat → Rw} {lb : List Lb} {ps : List (Nat × Int64)} {ac : Nat → Wn} {jr bo : List Ln} {mo : Int32} {gi : Int64} {tr tp wy wh : Int32} {tc : List Int32} {st : List Int64} {ds : List (Nat × Int64)} {dw : Wn} {bf : Nat → Int32} {ba : Wn} {bc : List Nat} (h : zCe M g A AL x adr ga nb bs ro lb ps ac jr bo mo gi tr tp wy wh tc st ds dw bf ba bc) {i : Nat} {kd : Int32} {pl : List Int32} (hi : i < 20) (hr : ro i = some (kd, pl)) : zm_r M (adr 1) i = some (AL (1000 + i)) ∧ zRo M g i (AL (1000 + i)) kd pl ∧ zO M (adr 1) 17 ∧ zm_l M (adr 1) = 20 := by
  obtain ⟨q1, q2, q3, q4⟩ := h.rs
  rcases q4 i hi with ⟨e1, e2⟩ | ⟨w, k, ps', e1, e2, e3, e4⟩
  · rw [hr] at e1; cases e1
  · rw [hr] at e1
    cases e1
    subst e4
    exact ⟨e2, e3, q1, q2⟩
def sLay (b r p : Int32) (c : Cs) : Int64 × Cs := match c with
  | (nb, bs, ro, lb, ps, ac, jr, bo, mo, gi, tr, tp, wy, wh, tc, st, ds, dw, bf, ba, bc) => if lk nb b = 0 then (if (bs b.toNatClampNeg).2.1.2.1 = 0 then (if rpl ro r p = 0 then (if rcell ro r p = -1 then (if rtak (rkind ro r) (bs b.toNatClampNeg).1.1 = 0 then (-4, (nb, bs, ro, lb, ps, ac, jr, bo, mo, gi, tr, tp, wy, wh, tc, st, ds, dw, bf, ba, bc)) else (b.toInt64, (nb, bup bs b.toNatClampNeg (bplc (bkeep (bs b.toNatClampNeg)) (1 + 100 * r + p)), rput ro r p b, lb, ps, ac, jr, bo, mo, gi, tr, tp, wy, wh, tc, st, ds, dw, fu (fu (fu (bfB bf nb mo jr.length bo.length) 5 r) 6 p) 7 (-1), ba, [b.toNatClampNeg]))) else (-8, (nb, bs, ro, lb, ps, ac, jr, bo, mo, gi, tr, tp, wy, wh, tc, st, ds, dw, bf, ba, bc))) else ((-(rpl ro r p)).toInt64, (nb, bs, ro, lb, ps, ac, jr, bo, mo, gi, tr, tp, wy, wh, tc, st, ds, dw, bf, ba, bc))) else (-9, (nb, bs, ro, lb, ps, ac, jr, bo, mo, gi, tr, tp, wy, wh, tc, st, ds, dw, bf, ba, bc))) else ((-(lk nb b)).toInt64, (nb, bs, ro, lb, ps, ac, jr, bo, mo, gi, tr, tp, wy, wh, tc, st, ds, dw, bf, ba, bc))
theorem C_lay {M : Zm} {g : Zg} {A AL : Nat → Nat} {x : Nat} {adr : Nat → Nat} {ga nb : Nat} {bs : Nat → Bv} {ro : Nat → Rw} {lb : List Lb} {ps : List (Nat × Int64)} {ac : Nat → Wn} {jr bo : List Ln} {mo : Int32} {gi : Int64} {tr tp wy wh : Int32} {tc : List Int32} {st : List Int64} {ds : List (Nat × Int64)} {dw : Wn} {bf : Nat → Int32} {ba : Wn} {bc : List Nat} {k : Nat} (h : zCe M g A AL x adr ga nb bs ro lb ps ac jr bo mo gi tr tp wy wh tc st ds dw bf ba bc) (b r p : Int32) (hb : zBu M g k) : zev (zf_X11_layBarrel M (some x) b r p) (fun y => ∃ g' A' AL', zCs y.1 g' A' AL' x adr ga (sLay b r p (nb, bs, ro, lb, ps, ac, jr, bo, mo, gi, tr, tp, wy, wh, tc, st, ds, dw, bf, ba, bc)).2 ∧ y.2 = (sLay b r p (nb, bs, ro, lb, ps, ac, jr, bo, mo, gi, tr, tp, wy, wh, tc, st, ds, dw, bf, ba, bc)).1 ∧ zFo M g y.1 g' Tc ∧ zBu y.1 g' k) := by
  unfold sLay
  dsimp only
  simp only [zf_X11_layBarrel, zev_b1, zev_bd, zev_some, zev_gi, zev_gj, zev_gr, zev_pi, zev_pz, zev_pj, zev_pr, zev_rc, zev_cc, zev_b0, zev_bo, true_and, and_true, h.O, zev_eq (zCe_lk h b)]
  by_cases h1 : lk nb b = 0
  · obtain ⟨n, hn, rfl⟩ := lk_0 h.N h1
    have hN := h.N
    simp only [if_pos h1, nI_clamp (show n < 2 ^ 31 by omega), zev_b1, zev_bd, zev_some, zev_gi, zev_gj, zev_gr, zev_pi, zev_pz, zev_pj, zev_pr, zev_rc, zev_cc, zev_b0, zev_bo, true_and, and_true, h.O, h.r (show 0 < 14 by decide), h.bl.O, zev_eq (zCe_get h hn), (h.bs hn).O, zev_eq (zBa_onFloor (h.bs hn))]
    by_cases h2 : (bs n).2.1.2.1 = 0
    · simp only [if_pos h2, if_neg z10, zev_b1, zev_bd, zev_some, zev_gi, zev_gj, zev_gr, zev_pi, zev_pz, zev_pj, zev_pr, zev_rc, zev_cc, zev_b0, zev_bo, true_and, and_true, h.O, zev_eq (zCe_rpl h r p)]
      by_cases h3 : rpl ro r p = 0
      · obtain ⟨i, j, kd, pl, rfl, hi, rfl, hr, hj, hjl⟩ := rpl_0 h3
        obtain ⟨w1, w2, w3, w4⟩ := h.row hi hr
        have hpl := zRo_len w2
        have hjp : j < pl.length := (nI_ltI hj (by omega)).mp hjl
        obtain ⟨v, hv⟩ := getElem?_lt hjp
        have w2' := w2
        obtain ⟨s1, s2, s3, s4, pa, s5, s6, s7, s8, s9⟩ := w2'
        have ec : rcell ro (nI i) (nI j) = v := by unfold rcell; rw [nI_clamp (show i < 2 ^ 31 by omega), hr]; dsimp only; rw [nI_clamp hj, hv]; rfl
        have ek : rkind ro (nI i) = kd := by unfold rkind; rw [nI_clamp (show i < 2 ^ 31 by omega), hr]
        have ep : ∀ u, rput ro (nI i) (nI j) u = rup ro i (some (kd, pl.set j u)) := fun u => by unfold rput; rw [nI_clamp (show i < 2 ^ 31 by omega), hr]; dsimp only; rw [nI_clamp hj]
        simp only [if_pos h3, ec, ek, ep, zev_b1, zev_bd, zev_some, zev_gi, zev_gj, zev_gr, zev_pi, zev_pz, zev_pj, zev_pr, zev_rc, zev_cc, zev_b0, zev_bo, true_and, and_true, h.O, h.r (show 1 < 14 by decide), zev_ar2 (show i < 2 ^ 31 by omega), w3, w4, hi, w1, s1, s5, zev_ai2 hj, s6, s7, hjp, s9 j v hv]
        by_cases h4 : v = -1
        · simp only [if_pos h4, zev_b1, zev_bd, zev_some, zev_gi, zev_gj, zev_gr, zev_pi, zev_pz, zev_pj, zev_pr, zev_rc, zev_cc, zev_b0, zev_bo, true_and, and_true, (h.bs hn).O, (h.bs hn).kd, s1, zev_eq (zRo_takes w2 (bs n).1.1)]
          by_cases h5 : rtak kd (bs n).1.1 = 0
          · simp only [if_pos h5, zev_b1, zev_bd, zev_some, zev_gi, zev_gj, zev_gr, zev_pi, zev_pz, zev_pj, zev_pr, zev_rc, zev_cc, zev_b0, zev_bo, true_and, and_true]
            exact ⟨g, A, AL, h, zFo.rf, hb⟩
          · simp only [if_neg h5, zev_b1, zev_bd, zev_some, zev_gi, zev_gj, zev_gr, zev_pi, zev_pz, zev_pj, zev_pr, zev_rc, zev_cc, zev_b0, zev_bo, true_and, and_true, h.O]
            refine zev_mono (zCe_remember h hb) ?_
            rintro ⟨M1, u0⟩ hh
            dsimp only at hh ⊢
            obtain ⟨h6, f6, b6⟩ := hh
            simp only [h6.O, h6.r (show 11 < 14 by decide), zev_b1, zev_bd, zev_some, zev_gi, zev_gj, zev_gr, zev_pi, zev_pz, zev_pj, zev_pr, zev_rc, zev_cc, zev_b0, zev_bo, true_and, and_true, h6.be.1]
            refine zev_mono (zCe_keepb h6 hn (by simp) b6) ?_
            rintro ⟨M2, u1⟩ hh
            dsimp only at hh ⊢
            obtain ⟨g7, h7, f7, b7⟩ := hh
            simp only [h7.O, h7.r (show 11 < 14 by decide), zev_b1, zev_bd, zev_some, zev_gi, zev_gj, zev_gr, zev_pi, zev_pz, zev_pj, zev_pr, zev_rc, zev_cc, zev_b0, zev_bo, true_and, and_true, h7.be.1]
            refine zev_mono (zCe_keepp h7 (nI i) (nI j) (-1) b7) ?_
            rintro ⟨M3, u2⟩ hh
            dsimp only at hh ⊢
            obtain ⟨h8, f8, b8⟩ := hh
            obtain ⟨x1, x2, x3, x4⟩ := h8.row hi hr
            obtain ⟨pb, y1, y2, y3, y4, y5, y6⟩ := zRo_put x2 (nI n) hjp b8
            have h9 := h8.rset x1 y5 y4 rfl hi
            simp only [x2.1, y1, zev_b1, zev_bd, zev_some, zev_gi, zev_gj, zev_gr, zev_pi, zev_pz, zev_pj, zev_pr, zev_rc, zev_cc, zev_b0, zev_bo, true_and, and_true, zev_si2 hj, y2, y3, hjp, zf_X11_placeCode]
            generalize zm_pi M3 pb j (nI n) = M4 at y4 y5 y6 h9 ⊢
            have xn := h9.bs hn
            rw [bup_self] at xn
            have f10 : zFo M4 g7 (zm_pi M4 (A n) 4 (1 + 100 * nI i + nI j)) g7 (fun z => z = 100 + 3 * n) := zFo.pi xn.2.1
            have yn := xn.place (c := 1 + 100 * nI i + nI j) xn.mle.1
            have h10 := h9.bset f10 yn
            rw [bup_bup] at h10
            have b10 : zBu (zm_pi M4 (A n) 4 (1 + 100 * nI i + nI j)) g7 k := y6.same rfl rfl
            refine ⟨xn.O, ?_⟩
            generalize zm_pi M4 (A n) 4 (1 + 100 * nI i + nI j) = M5 at f10 yn h10 b10 ⊢
            exact ⟨g7, A, AL, h10, ((f6.tr f7).tr f8).tr ((y5.mono (fun z q => show z ≠ 1 ∧ z ≠ 28 ∧ z ≠ 29 by first | omega | (dsimp only at q; omega))).tr (f10.mono (fun z q => show z ≠ 1 ∧ z ≠ 28 ∧ z ≠ 29 by first | omega | (dsimp only at q; omega)))), b10⟩
        · simp only [if_neg h4, zev_b1, zev_bd, zev_some, zev_gi, zev_gj, zev_gr, zev_pi, zev_pz, zev_pj, zev_pr, zev_rc, zev_cc, zev_b0, zev_bo, true_and, and_true]
          exact ⟨g, A, AL, h, zFo.rf, hb⟩
      · simp only [if_neg h3, zev_b1, zev_bd, zev_some, zev_gi, zev_gj, zev_gr, zev_pi, zev_pz, zev_pj, zev_pr, zev_rc, zev_cc, zev_b0, zev_bo, true_and, and_true]
        exact ⟨g, A, AL, h, zFo.rf, hb⟩
    · simp only [if_neg h2, if_true, zev_b1, zev_bd, zev_some, zev_gi, zev_gj, zev_gr, zev_pi, zev_pz, zev_pj, zev_pr, zev_rc, zev_cc, zev_b0, zev_bo, true_and, and_true]
      exact ⟨g, A, AL, h, zFo.rf, hb⟩
  · simp only [if_neg h1, zev_b1, zev_bd, zev_some, zev_gi, zev_gj, zev_gr, zev_pi, zev_pz, zev_pj, zev_pr, zev_rc, zev_cc, zev_b0, zev_bo, true_and, and_true]
    exact ⟨g, A, AL, h, zFo.rf, hb⟩
/-- the barrel of that number, or nothing -/
def fnd (nb : Nat) (b : Int32) : Option Nat := if b < 0 then none else if b < nI nb then some b.toNatClampNeg else none
theorem fnd_some {nb n : Nat} {b : Int32} (hn : nb ≤ 1000) (h : fnd nb b = some n) : n < nb ∧ b = nI n := by
  unfold fnd at h
  by_cases h1 : b < 0
  · rw [if_pos h1] at h; cases h
  · rw [if_neg h1] at h
    obtain ⟨j, hj, rfl⟩ := nI_of h1
    by_cases h2 : nI j < nI nb
    · rw [if_pos h2, nI_clamp hj] at h
      cases h
      exact ⟨(nI_ltI hj (by omega)).mp h2, rfl⟩
    · rw [if_neg h2] at h; cases h
theorem zCe_find {M : Zm} {g : Zg} {A AL : Nat → Nat} {x : Nat} {adr : Nat → Nat} {ga nb : Nat} {bs : Nat → Bv} {ro : Nat → Rw} {lb : List Lb} {ps : List (Nat × Int64)} {ac : Nat → Wn} {jr bo : List Ln} {mo : Int32} {gi : Int64} {tr tp wy wh : Int32} {tc : List Int32} {st : List Int64} {ds : List (Nat × Int64)} {dw : Wn} {bf : Nat → Int32} {ba : Wn} {bc : List Nat} (h : zCe M g A AL x adr ga nb bs ro lb ps ac jr bo mo gi tr tp wy wh tc st ds dw bf ba bc) (b : Int32) : zf_X11_find M (some x) b = some (M, (fnd nb b).map A) := by
  refine zev_of ?_
  have hN := h.N
  unfold fnd
  by_cases h1 : b < 0
  · simp only [zf_X11_find, zf_X11_find_J15, if_pos h1, zev_some, Option.map_none]
  · simp only [zf_X11_find, zf_X11_find_J15, if_neg h1, zev_b1, zev_bd, zev_some, zev_gi, zev_gj, zev_gr, zev_pi, zev_pz, zev_pj, zev_pr, zev_rc, zev_cc, zev_b0, zev_bo, true_and, and_true, h.O, h.r (show 0 < 14 by decide), h.bl.O, zev_eq (zCe_size h)]
    by_cases h2 : b < nI nb
    · obtain ⟨j, hj, rfl⟩ := nI_of h1
      have hjn := (nI_ltI hj (by omega)).mp h2
      simp only [if_pos h2, zev_b1, zev_bd, zev_some, zev_gi, zev_gj, zev_gr, zev_pi, zev_pz, zev_pj, zev_pr, zev_rc, zev_cc, zev_b0, zev_bo, true_and, and_true, h.O, h.r (show 0 < 14 by decide), h.bl.O, zev_eq (zCe_get h hjn), (h.bs hjn).O, nI_clamp hj, Option.map_some]
    · simp only [if_neg h2, zev_some, Option.map_none]
def sLift (r p : Int32) (c : Cs) : Int64 × Cs := match c with
  | (nb, bs, ro, lb, ps, ac, jr, bo, mo, gi, tr, tp, wy, wh, tc, st, ds, dw, bf, ba, bc) => if rpl ro r p = 0 then (match fnd nb (rcell ro r p) with | none => (-2, (nb, bs, ro, lb, ps, ac, jr, bo, mo, gi, tr, tp, wy, wh, tc, st, ds, dw, bf, ba, bc)) | some n => ((rcell ro r p).toInt64, (nb, bup bs n (bplc (bkeep (bs n)) 0), rput ro r p (-1), lb, ps, ac, jr, bo, mo, gi, tr, tp, wy, wh, tc, st, ds, dw, fu (fu (fu (bfB bf nb mo jr.length bo.length) 5 r) 6 p) 7 (rcell ro r p), ba, [n]))) else ((-(rpl ro r p)).toInt64, (nb, bs, ro, lb, ps, ac, jr, bo, mo, gi, tr, tp, wy, wh, tc, st, ds, dw, bf, ba, bc))
theorem C_lift {M : Zm} {g : Zg} {A AL : Nat → Nat} {x : Nat} {adr : Nat → Nat} {ga nb : Nat} {bs : Nat → Bv} {ro : Nat → Rw} {lb : List Lb} {ps : List (Nat × Int64)} {ac : Nat → Wn} {jr bo : List Ln} {mo : Int32} {gi : Int64} {tr tp wy wh : Int32} {tc : List Int32} {st : List Int64} {ds : List (Nat × Int64)} {dw : Wn} {bf : Nat → Int32} {ba : Wn} {bc : List Nat} {k : Nat} (h : zCe M g A AL x adr ga nb bs ro lb ps ac jr bo mo gi tr tp wy wh tc st ds dw bf ba bc) (r p : Int32) (hb : zBu M g k) : zev (zf_X11_liftBarrel M (some x) r p) (fun y => ∃ g' A' AL', zCs y.1 g' A' AL' x adr ga (sLift r p (nb, bs, ro, lb, ps, ac, jr, bo, mo, gi, tr, tp, wy, wh, tc, st, ds, dw, bf, ba, bc)).2 ∧ y.2 = (sLift r p (nb, bs, ro, lb, ps, ac, jr, bo, mo, gi, tr, tp, wy, wh, tc, st, ds, dw, bf, ba, bc)).1 ∧ zFo M g y.1 g' Tc ∧ zBu y.1 g' k) := by
  unfold sLift
  dsimp only
  simp only [zf_X11_liftBarrel, zev_b1, zev_bd, zev_some, zev_gi, zev_gj, zev_gr, zev_pi, zev_pz, zev_pj, zev_pr, zev_rc, zev_cc, zev_b0, zev_bo, true_and, and_true, h.O, zev_eq (zCe_rpl h r p)]
  by_cases h3 : rpl ro r p = 0
  · obtain ⟨i, j, kd, pl, rfl, hi, rfl, hr, hj, hjl⟩ := rpl_0 h3
    obtain ⟨w1, w2, w3, w4⟩ := h.row hi hr
    have hpl := zRo_len w2
    have hjp : j < pl.length := (nI_ltI hj (by omega)).mp hjl
    obtain ⟨v, hv⟩ := getElem?_lt hjp
    have w2' := w2
    obtain ⟨s1, s2, s3, s4, pa, s5, s6, s7, s8, s9⟩ := w2'
    have ec : rcell ro (nI i) (nI j) = v := by unfold rcell; rw [nI_clamp (show i < 2 ^ 31 by omega), hr]; dsimp only; rw [nI_clamp hj, hv]; rfl
    have ep : ∀ u, rput ro (nI i) (nI j) u = rup ro i (some (kd, pl.set j u)) := fun u => by unfold rput; rw [nI_clamp (show i < 2 ^ 31 by omega), hr]; dsimp only; rw [nI_clamp hj]
    simp only [if_pos h3, ec, ep, zev_b1, zev_bd, zev_some, zev_gi, zev_gj, zev_gr, zev_pi, zev_pz, zev_pj, zev_pr, zev_rc, zev_cc, zev_b0, zev_bo, true_and, and_true, h.O, h.r (show 1 < 14 by decide), zev_ar2 (show i < 2 ^ 31 by omega), w3, w4, hi, w1, s1, s5, zev_ai2 hj, s6, s7, hjp, s9 j v hv, zev_eq (zCe_find h v)]
    cases hf : fnd nb v with
    | none =>
      simp only [Option.map_none, if_true, zev_b1, zev_bd, zev_some, zev_gi, zev_gj, zev_gr, zev_pi, zev_pz, zev_pj, zev_pr, zev_rc, zev_cc, zev_b0, zev_bo, true_and, and_true]
      exact ⟨g, A, AL, h, zFo.rf, hb⟩
    | some n =>
      obtain ⟨hn, rfl⟩ := fnd_some h.N hf
      have hN := h.N
      simp only [Option.map_some, reduceCtorEq, if_false, zev_b1, zev_bd, zev_some, zev_gi, zev_gj, zev_gr, zev_pi, zev_pz, zev_pj, zev_pr, zev_rc, zev_cc, zev_b0, zev_bo, true_and, and_true, h.O]
      refine zev_mono (zCe_remember h hb) ?_
      rintro ⟨M1, u0⟩ hh
      dsimp only at hh ⊢
      obtain ⟨h6, f6, b6⟩ := hh
      simp only [h6.O, h6.r (show 11 < 14 by decide), zev_b1, zev_bd, zev_some, zev_gi, zev_gj, zev_gr, zev_pi, zev_pz, zev_pj, zev_pr, zev_rc, zev_cc, zev_b0, zev_bo, true_and, and_true, h6.be.1]
      refine zev_mono (zCe_keepb h6 hn (by simp) b6) ?_
      rintro ⟨M2, u1⟩ hh
      dsimp only at hh ⊢
      obtain ⟨g7, h7, f7, b7⟩ := hh
      simp only [h7.O, h7.r (show 11 < 14 by decide), zev_b1, zev_bd, zev_some, zev_gi, zev_gj, zev_gr, zev_pi, zev_pz, zev_pj, zev_pr, zev_rc, zev_cc, zev_b0, zev_bo, true_and, and_true, h7.be.1]
      refine zev_mono (zCe_keepp h7 (nI i) (nI j) (nI n) b7) ?_
      rintro ⟨M3, u2⟩ hh
      dsimp only at hh ⊢
      obtain ⟨h8, f8, b8⟩ := hh
      obtain ⟨x1, x2, x3, x4⟩ := h8.row hi hr
      obtain ⟨pb, y1, y2, y3, y4, y5, y6⟩ := zRo_put x2 (-1) hjp b8
      have h9 := h8.rset x1 y5 y4 rfl hi
      simp only [h8.O, h8.r (show 1 < 14 by decide), x3, x4, hi, x1, zev_ar2 (show i < 2 ^ 31 by omega), x2.1, y1, zev_b1, zev_bd, zev_some, zev_gi, zev_gj, zev_gr, zev_pi, zev_pz, zev_pj, zev_pr, zev_rc, zev_cc, zev_b0, zev_bo, true_and, and_true, zev_si2 hj, y2, y3, hjp]
      generalize zm_pi M3 pb j (-1) = M4 at y4 y5 y6 h9 ⊢
      have xn := h9.bs hn
      rw [bup_self] at xn
      have f10 : zFo M4 g7 (zm_pi M4 (A n) 4 0) g7 (fun z => z = 100 + 3 * n) := zFo.pi xn.2.1
      have yn := xn.place (c := 0) xn.mle.1
      have h10 := h9.bset f10 yn
      rw [bup_bup] at h10
      have b10 : zBu (zm_pi M4 (A n) 4 0) g7 k := y6.same rfl rfl
      refine ⟨xn.O, ?_⟩
      generalize zm_pi M4 (A n) 4 0 = M5 at f10 yn h10 b10 ⊢
      exact ⟨g7, A, AL, h10, ((f6.tr f7).tr f8).tr ((y5.mono (fun z q => show z ≠ 1 ∧ z ≠ 28 ∧ z ≠ 29 by first | omega | (dsimp only at q; omega))).tr (f10.mono (fun z q => show z ≠ 1 ∧ z ≠ 28 ∧ z ≠ 29 by first | omega | (dsimp only at q; omega)))), b10⟩
  · simp only [if_neg h3, zev_b1, zev_bd, zev_some, zev_gi, zev_gj, zev_gr, zev_pi, zev_pz, zev_pj, zev_pr, zev_rc, zev_cc, zev_b0, zev_bo, true_and, and_true]
    exact ⟨g, A, AL, h, zFo.rf, hb⟩
