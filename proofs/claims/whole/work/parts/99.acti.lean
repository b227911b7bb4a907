/-! Acts: rack, top up. -/
def sTc (l : List Int32) (c : Cs) : Cs := match c with
  | (nb, bs, ro, lb, ps, ac, jr, bo, mo, gi, tr, tp, wy, wh, tc, st, ds, dw, bf, ba, bc) => (nb, bs, ro, lb, ps, ac, jr, bo, mo, gi, tr, tp, wy, wh, tapp 200 tc l, st, ds, dw, bf, ba, bc)
def sDraw (n : Nat) (v : Int64) (c : Cs) : Cs := match c with
  | (nb, bs, ro, lb, ps, ac, jr, bo, mo, gi, tr, tp, wy, wh, tc, st, ds, dw, bf, ba, bc) => (nb, bs, ro, lb, ps, ac, jr, bo, mo, gi, tr, tp, wy, wh, tapp 200 tc (dlstT bs n v), st, dlst bs n v, dmix bs [] (dlst bs n v), bf, ba, bc)
def sPour (m : Nat) (c : Cs) : Cs := match c with
  | (nb, bs, ro, lb, ps, ac, jr, bo, mo, gi, tr, tp, wy, wh, tc, st, ds, dw, bf, ba, bc) => (nb, spour bs m ds, ro, lb, ps, ac, jr, bo, mo, gi, tr, tp, wy, wh, tc, st, ds, dw, bfB bf nb mo jr.length bo.length, ba, [m] ++ ds.map (fun q => q.1))
theorem zCe.wl {M : Zm} {g : Zg} {A AL : Nat → Nat} {x : Nat} {adr : Nat → Nat} {ga nb : Nat} {bs : Nat → Bv} {ro : Nat → Rw} {lb : List Lb} {ps : List (Nat × Int64)} {ac : Nat → Wn} {jr bo : List Ln} {mo : Int32} {gi : Int64} {tr tp wy wh : Int32} {tc : List Int32} {st : List Int64} {ds : List (Nat × Int64)} {dw : Wn} {bf : Nat → Int32} {ba : Wn} {bc : List Nat} (h : zCe M g A AL x adr ga nb bs ro lb ps ac jr bo mo gi tr tp wy wh tc st ds dw bf ba bc) {b : Nat} (hb : b < nb) : wwith (bs b).2.1.2.2.2 dw < 2 ^ 31 := by
  have h1 := (h.bs hb).wa.2.len
  obtain ⟨q1, q2, q3, q4, q5, q6, q7, q8, va, aa, w, r1, r2, r3, r4, r5, r6, r7, r8, r9, r10, r11, r12⟩ := h.dr
  have h2 := r11.len
  have h3 := List.countP_le_length (p := fun q : Int32 × Int64 => wabs (bs b).2.1.2.2.2 q.1) (l := dw)
  unfold wwith
  omega
/-- what may be drawn from n and poured into m -/
def Pok (nb : Nat) (bs : Nat → Bv) (n m : Nat) (v : Int64) : Prop := Dok bs nb (dlst bs n v) ∧ (∀ q, q ∈ dlst bs n v → q.1 ≠ m) ∧ (wwith (bs m).2.1.2.2.2 (dmix bs [] (dlst bs n v)) ≤ 60 → wroomy bs (bs m).2.1.2.2.2 (dlst bs n v) 64)
def bad2 (a b : Int32) (r : Int32) : Int32 := if fst0 a b = 0 then r else fst0 a b
def sRack (a b : Int32) (v : Int64) (c : Cs) : Int64 × Cs := match c with
  | (nb, bs, ro, lb, ps, ac, jr, bo, mo, gi, tr, tp, wy, wh, tc, st, ds, dw, bf, ba, bc) => if isml v then (if bad2 (lk nb a) (lkv nb bs b) (cpr bs a b) = 0 then (if v ≤ bspa bs (bs a.toNatClampNeg) then (if wsum (bs b.toNatClampNeg).2.1.2.2.2 + v ≤ btak bs (bs b.toNatClampNeg) then (if wwith (bs b.toNatClampNeg).2.1.2.2.2 (dmix bs [] (dlst bs a.toNatClampNeg v)) ≤ 60 then (wsum (cW b.toNatClampNeg (sPour b.toNatClampNeg (sDraw a.toNatClampNeg v (sTc (btakT bs (bs b.toNatClampNeg)) (sTc (bspaT bs (bs a.toNatClampNeg)) (nb, bs, ro, lb, ps, ac, jr, bo, mo, gi, tr, tp, wy, wh, tc, st, ds, dw, bf, ba, bc)))))), sJ (2, a.toInt64, b.toInt64, v) (sPour b.toNatClampNeg (sDraw a.toNatClampNeg v (sTc (btakT bs (bs b.toNatClampNeg)) (sTc (bspaT bs (bs a.toNatClampNeg)) (nb, bs, ro, lb, ps, ac, jr, bo, mo, gi, tr, tp, wy, wh, tc, st, ds, dw, bf, ba, bc)))))) else (-12, sDraw a.toNatClampNeg v (sTc (btakT bs (bs b.toNatClampNeg)) (sTc (bspaT bs (bs a.toNatClampNeg)) (nb, bs, ro, lb, ps, ac, jr, bo, mo, gi, tr, tp, wy, wh, tc, st, ds, dw, bf, ba, bc))))) else (-11, sTc (btakT bs (bs b.toNatClampNeg)) (sTc (bspaT bs (bs a.toNatClampNeg)) (nb, bs, ro, lb, ps, ac, jr, bo, mo, gi, tr, tp, wy, wh, tc, st, ds, dw, bf, ba, bc)))) else (-10, sTc (bspaT bs (bs a.toNatClampNeg)) (nb, bs, ro, lb, ps, ac, jr, bo, mo, gi, tr, tp, wy, wh, tc, st, ds, dw, bf, ba, bc))) else ((-(bad2 (lk nb a) (lkv nb bs b) (cpr bs a b))).toInt64, (nb, bs, ro, lb, ps, ac, jr, bo, mo, gi, tr, tp, wy, wh, tc, st, ds, dw, bf, ba, bc))) else (-1, (nb, bs, ro, lb, ps, ac, jr, bo, mo, gi, tr, tp, wy, wh, tc, st, ds, dw, bf, ba, bc))
theorem C_rack {M : Zm} {g : Zg} {A AL : Nat → Nat} {x : Nat} {adr : Nat → Nat} {ga nb : Nat} {bs : Nat → Bv} {ro : Nat → Rw} {lb : List Lb} {ps : List (Nat × Int64)} {ac : Nat → Wn} {jr bo : List Ln} {mo : Int32} {gi : Int64} {tr tp wy wh : Int32} {tc : List Int32} {st : List Int64} {ds : List (Nat × Int64)} {dw : Wn} {bf : Nat → Int32} {ba : Wn} {bc : List Nat} {k : Nat} (h : zCe M g A AL x adr ga nb bs ro lb ps ac jr bo mo gi tr tp wy wh tc st ds dw bf ba bc) (hI : Imem nb bs) (h6 : I60 nb bs) (hj : jr.length < 4096) (a b : Int32) (v : Int64) (hD : ∀ n m, n < nb → m < nb → cpr bs (nI n) (nI m) = 0 → (bs m).1.1 ≠ 5 → isml v → v ≤ bspa bs (bs n) → Pok nb bs n m v) (hb : zBu M g k) : zev (zf_X11_rackWine M (some x) a b v) (fun y => ∃ g' A' AL', zCs y.1 g' A' AL' x adr ga (sRack a b v (nb, bs, ro, lb, ps, ac, jr, bo, mo, gi, tr, tp, wy, wh, tc, st, ds, dw, bf, ba, bc)).2 ∧ y.2 = (sRack a b v (nb, bs, ro, lb, ps, ac, jr, bo, mo, gi, tr, tp, wy, wh, tc, st, ds, dw, bf, ba, bc)).1 ∧ zFo M g y.1 g' Tc ∧ zBu y.1 g' k) := by
  unfold sRack
  dsimp only
  have hN := h.N
  simp only [zf_X11_rackWine, zev_b1, zev_bd, zev_some, zev_gi, zev_gj, zev_gr, zev_pi, zev_pz, zev_pj, zev_pr, zev_rc, zev_cc, zev_b0, zev_bo, true_and, and_true]
  rcases z_ml (M := M) v with ⟨c1, e⟩ | ⟨c1, e⟩
  · simp only [zev_eq e, if_pos c1, if_neg z10, zev_b1, zev_bd, zev_some, zev_gi, zev_gj, zev_gr, zev_pi, zev_pz, zev_pj, zev_pr, zev_rc, zev_cc, zev_b0, zev_bo, true_and, and_true, h.O, zev_eq (zCe_lk h a), zev_eq (zCe_lkv h b), zev_eq (z_first (M := M) _ _)]
    by_cases h1 : fst0 (lk nb a) (lkv nb bs b) = 0
    · have eb : bad2 (lk nb a) (lkv nb bs b) (cpr bs a b) = cpr bs a b := by unfold bad2; rw [if_pos h1]
      rw [eb]
      obtain ⟨e1, e2⟩ := fst0_0 h1
      obtain ⟨n, hn, rfl⟩ := lk_0 h.N e1
      obtain ⟨m, hm, rfl, km⟩ := lkv_0 h.N e2
      simp only [if_pos h1, zev_b1, zev_bd, zev_some, zev_gi, zev_gj, zev_gr, zev_pi, zev_pz, zev_pj, zev_pr, zev_rc, zev_cc, zev_b0, zev_bo, true_and, and_true, h.O, zev_eq (zCe_cpr h hn hm), nI_clamp (show n < 2 ^ 31 by omega), nI_clamp (show m < 2 ^ 31 by omega)]
      by_cases h2 : cpr bs (nI n) (nI m) = 0
      · simp only [zf_X11_rackWine_J39, if_pos h2, zev_b1, zev_bd, zev_some, zev_gi, zev_gj, zev_gr, zev_pi, zev_pz, zev_pj, zev_pr, zev_rc, zev_cc, zev_b0, zev_bo, true_and, and_true, h.O, h.r (show 0 < 14 by decide), h.r (show 12 < 14 by decide), h.bl.O, zev_eq (zCe_get h hn), zev_eq (zCe_get h hm), (h.bs hn).O, (h.bs hm).O]
        refine zev_mono (zCe_spares h hI hn hb) ?_
        rintro ⟨M1, v1⟩ hh
        dsimp only at hh ⊢
        obtain ⟨e3, h3, f3, b3⟩ := hh
        subst e3
        by_cases h4 : v ≤ bspa bs (bs n)
        · obtain ⟨w1, w2⟩ := (h3.bs hm).wa
          simp only [if_pos h4, zev_b1, zev_bd, zev_some, zev_gi, zev_gj, zev_gr, zev_pi, zev_pz, zev_pj, zev_pr, zev_rc, zev_cc, zev_b0, zev_bo, true_and, and_true, h3.O, (h3.bs hm).O, w1, w2.O, w2.tot, h3.r (show 12 < 14 by decide)]
          refine zev_mono (zCe_takes h3 hI hm b3) ?_
          rintro ⟨M2, v2⟩ hh
          dsimp only at hh ⊢
          obtain ⟨e5, h5, f5, b5⟩ := hh
          subst e5
          by_cases h7 : wsum (bs m).2.1.2.2.2 + v ≤ btak bs (bs m)
          · obtain ⟨ma, -, -, -, p4, p5, -⟩ := (h.bs hn).me
            obtain ⟨k1, k2, k3⟩ := hD n m hn hm h2 km c1 h4
            simp only [if_pos h7, zev_b1, zev_bd, zev_some, zev_gi, zev_gj, zev_gr, zev_pi, zev_pz, zev_pj, zev_pr, zev_rc, zev_cc, zev_b0, zev_bo, true_and, and_true, h5.O, h5.r (show 10 < 14 by decide), h5.dr.1]
            refine zev_mono (zCe_dclear h5 b5) ?_
            rintro ⟨M3, u0⟩ hh
            dsimp only at hh ⊢
            obtain ⟨h8, f8, b8⟩ := hh
            simp only [h8.O, h8.r (show 10 < 14 by decide), h8.r (show 12 < 14 by decide), zev_b1, zev_bd, zev_some, zev_gi, zev_gj, zev_gr, zev_pi, zev_pz, zev_pj, zev_pr, zev_rc, zev_cc, zev_b0, zev_bo, true_and, and_true, h8.dr.1]
            refine zev_mono (zCe_dfrom h8 hI h6 hn v (by decide) (fun q hq => by cases hq) b8) ?_
            rintro ⟨M4, u1⟩ hh
            dsimp only at hh ⊢
            obtain ⟨g9, h9, f9, b9⟩ := hh
            rw [List.nil_append] at h9
            simp only [h9.O, zev_b1, zev_bd, zev_some, zev_gi, zev_gj, zev_gr, zev_pi, zev_pz, zev_pj, zev_pr, zev_rc, zev_cc, zev_b0, zev_bo, true_and, and_true, zev_eq (zCe_many h9 hm (h9.wl hm))]
            by_cases h10 : wwith (bs m).2.1.2.2.2 (dmix bs [] (dlst bs n v)) ≤ 60
            · simp only [if_pos h10, if_true, zev_b1, zev_bd, zev_some, zev_gi, zev_gj, zev_gr, zev_pi, zev_pz, zev_pj, zev_pr, zev_rc, zev_cc, zev_b0, zev_bo, true_and, and_true, h9.O]
              refine zev_mono (zCe_remember h9 b9) ?_
              rintro ⟨M5, u2⟩ hh
              dsimp only at hh ⊢
              obtain ⟨h11, f11, b11⟩ := hh
              have hdl := dlst_len bs n v (by omega)
              refine ⟨h11.O, zev_mono (zCe_pour h11 hm k1 k2 (k3 h10) (by simp; omega) b11) ?_⟩
              rintro ⟨M6, u3⟩ hh
              dsimp only at hh ⊢
              obtain ⟨g12, h12, f12, b12⟩ := hh
              rw [List.nil_append] at h12
              simp only [h12.O, h12.r (show 8 < 14 by decide), zev_b1, zev_bd, zev_some, zev_gi, zev_gj, zev_gr, zev_pi, zev_pz, zev_pj, zev_pr, zev_rc, zev_cc, zev_b0, zev_bo, true_and, and_true, h12.jr.O]
              refine zev_mono (zCe_jadd h12 2 (nI n).toInt64 (nI m).toInt64 v hj b12) ?_
              rintro ⟨M7, u4⟩ hh
              dsimp only at hh ⊢
              obtain ⟨g13, h13, f13, b13⟩ := hh
              obtain ⟨y1, y2⟩ := (h13.bs hm).wa
              simp only [(h13.bs hm).O, y1, zev_b1, zev_bd, zev_some, zev_gi, zev_gj, zev_gr, zev_pi, zev_pz, zev_pj, zev_pr, zev_rc, zev_cc, zev_b0, zev_bo, true_and, and_true, y2.O, y2.tot]
              exact ⟨g13, A, AL, h13, rfl, ((((((f3.tr f5).tr f8).tr f9).tr f11).tr f12).tr f13), b13⟩
            · simp only [if_neg h10, if_neg z10, zev_b1, zev_bd, zev_some, zev_gi, zev_gj, zev_gr, zev_pi, zev_pz, zev_pj, zev_pr, zev_rc, zev_cc, zev_b0, zev_bo, true_and, and_true]
              exact ⟨g9, A, AL, h9, ((f3.tr f5).tr f8).tr f9, b9⟩
          · simp only [if_neg h7, zev_b1, zev_bd, zev_some, zev_gi, zev_gj, zev_gr, zev_pi, zev_pz, zev_pj, zev_pr, zev_rc, zev_cc, zev_b0, zev_bo, true_and, and_true]
            exact ⟨g, A, AL, h5, f3.tr f5, b5⟩
        · simp only [if_neg h4, zev_b1, zev_bd, zev_some, zev_gi, zev_gj, zev_gr, zev_pi, zev_pz, zev_pj, zev_pr, zev_rc, zev_cc, zev_b0, zev_bo, true_and, and_true]
          exact ⟨g, A, AL, h3, f3, b3⟩
      · simp only [zf_X11_rackWine_J39, if_neg h2, zev_b1, zev_bd, zev_some, zev_gi, zev_gj, zev_gr, zev_pi, zev_pz, zev_pj, zev_pr, zev_rc, zev_cc, zev_b0, zev_bo, true_and, and_true]
        exact ⟨g, A, AL, h, zFo.rf, hb⟩
    · have eb : bad2 (lk nb a) (lkv nb bs b) (cpr bs a b) = fst0 (lk nb a) (lkv nb bs b) := by unfold bad2; rw [if_neg h1]
      rw [eb]
      simp only [if_neg h1, zf_X11_rackWine_J39, zev_b1, zev_bd, zev_some, zev_gi, zev_gj, zev_gr, zev_pi, zev_pz, zev_pj, zev_pr, zev_rc, zev_cc, zev_b0, zev_bo, true_and, and_true]
      exact ⟨g, A, AL, h, zFo.rf, hb⟩
  · simp only [zev_eq e, if_neg c1, if_true, zev_b1, zev_bd, zev_some, zev_gi, zev_gj, zev_gr, zev_pi, zev_pz, zev_pj, zev_pr, zev_rc, zev_cc, zev_b0, zev_bo, true_and, and_true]
    exact ⟨g, A, AL, h, zFo.rf, hb⟩
def sTop (b a : Int32) (c : Cs) : Int64 × Cs := match c with
  | (nb, bs, ro, lb, ps, ac, jr, bo, mo, gi, tr, tp, wy, wh, tc, st, ds, dw, bf, ba, bc) => if bad2 (lkv nb bs b) (lk nb a) (cpr bs a b) = 0 then (if 0 < btak bs (bs b.toNatClampNeg) - wsum (bs b.toNatClampNeg).2.1.2.2.2 then (if bspa bs (bs a.toNatClampNeg) = 0 then (-10, sTc (bspaT bs (bs a.toNatClampNeg)) (sTc (btakT bs (bs b.toNatClampNeg)) (nb, bs, ro, lb, ps, ac, jr, bo, mo, gi, tr, tp, wy, wh, tc, st, ds, dw, bf, ba, bc))) else if wwith (bs b.toNatClampNeg).2.1.2.2.2 (dmix bs [] (dlst bs a.toNatClampNeg (zminl (btak bs (bs b.toNatClampNeg) - wsum (bs b.toNatClampNeg).2.1.2.2.2) (bspa bs (bs a.toNatClampNeg))))) ≤ 60 then (zminl (btak bs (bs b.toNatClampNeg) - wsum (bs b.toNatClampNeg).2.1.2.2.2) (bspa bs (bs a.toNatClampNeg)), sJ (3, a.toInt64, b.toInt64, zminl (btak bs (bs b.toNatClampNeg) - wsum (bs b.toNatClampNeg).2.1.2.2.2) (bspa bs (bs a.toNatClampNeg))) (sPour b.toNatClampNeg (sDraw a.toNatClampNeg (zminl (btak bs (bs b.toNatClampNeg) - wsum (bs b.toNatClampNeg).2.1.2.2.2) (bspa bs (bs a.toNatClampNeg))) (sTc (bspaT bs (bs a.toNatClampNeg)) (sTc (btakT bs (bs b.toNatClampNeg)) (nb, bs, ro, lb, ps, ac, jr, bo, mo, gi, tr, tp, wy, wh, tc, st, ds, dw, bf, ba, bc)))))) else (-12, sDraw a.toNatClampNeg (zminl (btak bs (bs b.toNatClampNeg) - wsum (bs b.toNatClampNeg).2.1.2.2.2) (bspa bs (bs a.toNatClampNeg))) (sTc (bspaT bs (bs a.toNatClampNeg)) (sTc (btakT bs (bs b.toNatClampNeg)) (nb, bs, ro, lb, ps, ac, jr, bo, mo, gi, tr, tp, wy, wh, tc, st, ds, dw, bf, ba, bc))))) else (-11, sTc (bspaT bs (bs a.toNatClampNeg)) (sTc (btakT bs (bs b.toNatClampNeg)) (nb, bs, ro, lb, ps, ac, jr, bo, mo, gi, tr, tp, wy, wh, tc, st, ds, dw, bf, ba, bc)))) else ((-(bad2 (lkv nb bs b) (lk nb a) (cpr bs a b))).toInt64, (nb, bs, ro, lb, ps, ac, jr, bo, mo, gi, tr, tp, wy, wh, tc, st, ds, dw, bf, ba, bc))
theorem C_top {M : Zm} {g : Zg} {A AL : Nat → Nat} {x : Nat} {adr : Nat → Nat} {ga nb : Nat} {bs : Nat → Bv} {ro : Nat → Rw} {lb : List Lb} {ps : List (Nat × Int64)} {ac : Nat → Wn} {jr bo : List Ln} {mo : Int32} {gi : Int64} {tr tp wy wh : Int32} {tc : List Int32} {st : List Int64} {ds : List (Nat × Int64)} {dw : Wn} {bf : Nat → Int32} {ba : Wn} {bc : List Nat} {k : Nat} (h : zCe M g A AL x adr ga nb bs ro lb ps ac jr bo mo gi tr tp wy wh tc st ds dw bf ba bc) (hI : Imem nb bs) (h6 : I60 nb bs) (hj : jr.length < 4096) (b a : Int32) (hD : ∀ n m, n < nb → m < nb → cpr bs (nI n) (nI m) = 0 → (bs m).1.1 ≠ 5 → 0 < btak bs (bs m) - wsum (bs m).2.1.2.2.2 → bspa bs (bs n) ≠ 0 → Pok nb bs n m (zminl (btak bs (bs m) - wsum (bs m).2.1.2.2.2) (bspa bs (bs n)))) (hb : zBu M g k) : zev (zf_X11_topUpVessel M (some x) b a) (fun y => ∃ g' A' AL', zCs y.1 g' A' AL' x adr ga (sTop b a (nb, bs, ro, lb, ps, ac, jr, bo, mo, gi, tr, tp, wy, wh, tc, st, ds, dw, bf, ba, bc)).2 ∧ y.2 = (sTop b a (nb, bs, ro, lb, ps, ac, jr, bo, mo, gi, tr, tp, wy, wh, tc, st, ds, dw, bf, ba, bc)).1 ∧ zFo M g y.1 g' Tc ∧ zBu y.1 g' k) := by
  unfold sTop
  dsimp only
  have hN := h.N
  simp only [zf_X11_topUpVessel, zev_b1, zev_bd, zev_some, zev_gi, zev_gj, zev_gr, zev_pi, zev_pz, zev_pj, zev_pr, zev_rc, zev_cc, zev_b0, zev_bo, true_and, and_true, h.O, zev_eq (zCe_lk h a), zev_eq (zCe_lkv h b), zev_eq (z_first (M := M) _ _)]
  by_cases h1 : fst0 (lkv nb bs b) (lk nb a) = 0
  · have eb : bad2 (lkv nb bs b) (lk nb a) (cpr bs a b) = cpr bs a b := by unfold bad2; rw [if_pos h1]
    rw [eb]
    obtain ⟨e2, e1⟩ := fst0_0 h1
    obtain ⟨n, hn, rfl⟩ := lk_0 h.N e1
    obtain ⟨m, hm, rfl, km⟩ := lkv_0 h.N e2
    simp only [if_pos h1, zev_b1, zev_bd, zev_some, zev_gi, zev_gj, zev_gr, zev_pi, zev_pz, zev_pj, zev_pr, zev_rc, zev_cc, zev_b0, zev_bo, true_and, and_true, h.O, zev_eq (zCe_cpr h hn hm), nI_clamp (show n < 2 ^ 31 by omega), nI_clamp (show m < 2 ^ 31 by omega)]
    by_cases h2 : cpr bs (nI n) (nI m) = 0
    · simp only [zf_X11_topUpVessel_J25, if_pos h2, zev_b1, zev_bd, zev_some, zev_gi, zev_gj, zev_gr, zev_pi, zev_pz, zev_pj, zev_pr, zev_rc, zev_cc, zev_b0, zev_bo, true_and, and_true, h.O, h.r (show 0 < 14 by decide), h.r (show 12 < 14 by decide), h.bl.O, zev_eq (zCe_get h hn), zev_eq (zCe_get h hm), (h.bs hn).O, (h.bs hm).O]
      refine zev_mono (zCe_takes h hI hm hb) ?_
      rintro ⟨M1, v1⟩ hh
      dsimp only at hh ⊢
      obtain ⟨e3, h3, f3, b3⟩ := hh
      subst e3
      obtain ⟨w1, w2⟩ := (h3.bs hm).wa
      simp only [h3.O, (h3.bs hm).O, (h3.bs hn).O, w1, zev_b1, zev_bd, zev_some, zev_gi, zev_gj, zev_gr, zev_pi, zev_pz, zev_pj, zev_pr, zev_rc, zev_cc, zev_b0, zev_bo, true_and, and_true, w2.O, w2.tot, h3.r (show 12 < 14 by decide)]
      refine zev_mono (zCe_spares h3 hI hn b3) ?_
      rintro ⟨M2, v2⟩ hh
      dsimp only at hh ⊢
      obtain ⟨e5, h5, f5, b5⟩ := hh
      subst e5
      by_cases h7 : 0 < btak bs (bs m) - wsum (bs m).2.1.2.2.2
      · by_cases h4 : bspa bs (bs n) = 0
        · simp only [if_pos h7, if_pos h4, zev_b1, zev_bd, zev_some, zev_gi, zev_gj, zev_gr, zev_pi, zev_pz, zev_pj, zev_pr, zev_rc, zev_cc, zev_b0, zev_bo, true_and, and_true]
          exact ⟨g, A, AL, h5, f3.tr f5, b5⟩
        · obtain ⟨ma, -, -, -, p4, p5, -⟩ := (h.bs hn).me
          obtain ⟨k1, k2, k3⟩ := hD n m hn hm h2 km h7 h4
          simp only [if_pos h7, if_neg h4, zev_b1, zev_bd, zev_some, zev_gi, zev_gj, zev_gr, zev_pi, zev_pz, zev_pj, zev_pr, zev_rc, zev_cc, zev_b0, zev_bo, true_and, and_true, h5.O, h5.r (show 10 < 14 by decide), h5.dr.1]
          refine zev_mono (zCe_dclear h5 b5) ?_
          rintro ⟨M3, u0⟩ hh
          dsimp only at hh ⊢
          obtain ⟨h8, f8, b8⟩ := hh
          simp only [h8.O, h8.r (show 10 < 14 by decide), h8.r (show 12 < 14 by decide), zev_b1, zev_bd, zev_some, zev_gi, zev_gj, zev_gr, zev_pi, zev_pz, zev_pj, zev_pr, zev_rc, zev_cc, zev_b0, zev_bo, true_and, and_true, h8.dr.1]
          refine zev_mono (zCe_dfrom h8 hI h6 hn _ (by decide) (fun q hq => by cases hq) b8) ?_
          rintro ⟨M4, u1⟩ hh
          dsimp only at hh ⊢
          obtain ⟨g9, h9, f9, b9⟩ := hh
          rw [List.nil_append] at h9
          simp only [h9.O, zev_b1, zev_bd, zev_some, zev_gi, zev_gj, zev_gr, zev_pi, zev_pz, zev_pj, zev_pr, zev_rc, zev_cc, zev_b0, zev_bo, true_and, and_true, zev_eq (zCe_many h9 hm (h9.wl hm))]
          by_cases h10 : wwith (bs m).2.1.2.2.2 (dmix bs [] (dlst bs n (zminl (btak bs (bs m) - wsum (bs m).2.1.2.2.2) (bspa bs (bs n))))) ≤ 60
          · simp only [if_pos h10, if_true, zev_b1, zev_bd, zev_some, zev_gi, zev_gj, zev_gr, zev_pi, zev_pz, zev_pj, zev_pr, zev_rc, zev_cc, zev_b0, zev_bo, true_and, and_true, h9.O]
            refine zev_mono (zCe_remember h9 b9) ?_
            rintro ⟨M5, u2⟩ hh
            dsimp only at hh ⊢
            obtain ⟨h11, f11, b11⟩ := hh
            have hdl := dlst_len bs n (zminl (btak bs (bs m) - wsum (bs m).2.1.2.2.2) (bspa bs (bs n))) (by omega)
            refine ⟨h11.O, zev_mono (zCe_pour h11 hm k1 k2 (k3 h10) (by simp; omega) b11) ?_⟩
            rintro ⟨M6, u3⟩ hh
            dsimp only at hh ⊢
            obtain ⟨g12, h12, f12, b12⟩ := hh
            rw [List.nil_append] at h12
            simp only [h12.O, h12.r (show 8 < 14 by decide), zev_b1, zev_bd, zev_some, zev_gi, zev_gj, zev_gr, zev_pi, zev_pz, zev_pj, zev_pr, zev_rc, zev_cc, zev_b0, zev_bo, true_and, and_true, h12.jr.O]
            refine zev_mono (zCe_jadd h12 3 (nI n).toInt64 (nI m).toInt64 _ hj b12) ?_
            rintro ⟨M7, u4⟩ hh
            dsimp only at hh ⊢
            obtain ⟨g13, h13, f13, b13⟩ := hh
            exact ⟨g13, A, AL, h13, ((((((f3.tr f5).tr f8).tr f9).tr f11).tr f12).tr f13), b13⟩
          · simp only [if_neg h10, if_neg z10, zev_b1, zev_bd, zev_some, zev_gi, zev_gj, zev_gr, zev_pi, zev_pz, zev_pj, zev_pr, zev_rc, zev_cc, zev_b0, zev_bo, true_and, and_true]
            exact ⟨g9, A, AL, h9, ((f3.tr f5).tr f8).tr f9, b9⟩
      · simp only [if_neg h7, zev_b1, zev_bd, zev_some, zev_gi, zev_gj, zev_gr, zev_pi, zev_pz, zev_pj, zev_pr, zev_rc, zev_cc, zev_b0, zev_bo, true_and, and_true]
        exact ⟨g, A, AL, h5, f3.tr f5, b5⟩
    · simp only [zf_X11_topUpVessel_J25, if_neg h2, zev_b1, zev_bd, zev_some, zev_gi, zev_gj, zev_gr, zev_pi, zev_pz, zev_pj, zev_pr, zev_rc, zev_cc, zev_b0, zev_bo, true_and, and_true]
      exact ⟨g, A, AL, h, zFo.rf, hb⟩
  · have eb : bad2 (lkv nb bs b) (lk nb a) (cpr bs a b) = fst0 (lkv nb bs b) (lk nb a) := by unfold bad2; rw [if_neg h1]
    rw [eb]
    simp only [if_neg h1, zf_X11_topUpVessel_J25, zev_b1, zev_bd, zev_some, zev_gi, zev_gj, zev_gr, zev_pi, zev_pz, zev_pj, zev_pr, zev_rc, zev_cc, zev_b0, zev_bo, true_and, and_true]
    exact ⟨g, A, AL, h, zFo.rf, hb⟩
