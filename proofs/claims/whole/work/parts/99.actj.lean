/-! Acts: blend. -/
def dpick (bs : Nat → Bv) (ps : List (Nat × Int64)) : List (Nat × Int64) := ps.flatMap (fun q => dlst bs q.1 q.2)
def dpickT (bs : Nat → Bv) (ps : List (Nat × Int64)) : List Int32 := ps.flatMap (fun q => dlstT bs q.1 q.2)
theorem dmix_app (bs : Nat → Bv) (dw : Wn) (a b : List (Nat × Int64)) : dmix bs dw (a ++ b) = dmix bs (dmix bs dw a) b := by unfold dmix; rw [List.foldl_append]
theorem dpick_len (bs : Nat → Bv) : ∀ (ps : List (Nat × Int64)), (∀ q, q ∈ ps → (dlst bs q.1 q.2).length ≤ 4) → (dpick bs ps).length ≤ 4 * ps.length
  | [], _ => Nat.le_refl _
  | q :: r, h => by
    have h1 := h q List.mem_cons_self
    have h2 := dpick_len bs r (fun x hx => h x (List.mem_cons_of_mem _ hx))
    show (dlst bs q.1 q.2 ++ dpick bs r).length ≤ 4 * (r.length + 1)
    rw [List.length_append]; omega
theorem dlst_mem {bs : Nat → Bv} {nb n : Nat} {v : Int64} (hI : Imem nb bs) (hn : n < nb) : ∀ q, q ∈ dlst bs n v → q.1 < nb := by
  intro q hq
  unfold dlst at hq
  by_cases e : (bs n).1.1 = 5
  · rw [if_pos e] at hq
    rcases dstep_mem bs _ _ q hq with h | h
    · cases h
    · exact (hI n hn q.1 h).1
  · rw [if_neg e] at hq
    split at hq
    · cases hq
    · rw [List.mem_singleton.mp hq]; exact hn
theorem dpick_mem {bs : Nat → Bv} {nb : Nat} {ps : List (Nat × Int64)} (hI : Imem nb bs) (hps : ∀ q, q ∈ ps → q.1 < nb) : ∀ q, q ∈ dpick bs ps → q.1 < nb := by
  intro q hq
  obtain ⟨p, hp, hq⟩ := List.mem_flatMap.mp hq
  exact dlst_mem hI (hps p hp) q hq
theorem C_drawPicked {M : Zm} {g : Zg} {A AL : Nat → Nat} {x : Nat} {adr : Nat → Nat} {ga nb : Nat} {bs : Nat → Bv} {ro : Nat → Rw} {lb : List Lb} {ps : List (Nat × Int64)} {ac : Nat → Wn} {jr bo : List Ln} {mo : Int32} {gi : Int64} {tr tp wy wh : Int32} {tc : List Int32} {st : List Int64} {ds : List (Nat × Int64)} {dw : Wn} {bf : Nat → Int32} {ba : Wn} {bc : List Nat} {k : Nat} (h : zCe M g A AL x adr ga nb bs ro lb ps ac jr bo mo gi tr tp wy wh tc st ds dw bf ba bc) (hI : Imem nb bs) (h6 : I60 nb bs) (hps : ∀ q, q ∈ ps → q.1 < nb) (hb : zBu M g k) : zev (zf_X11_drawPicked M (some x)) (fun y => ∃ g', zCe y.1 g' A AL x adr ga nb bs ro lb ps ac jr bo mo gi tr tp wy wh (tapp 200 tc (dpickT bs ps)) st (dpick bs ps) (dmix bs [] (dpick bs ps)) bf ba bc ∧ zFo M g y.1 g' Tc ∧ zBu y.1 g' k) := by
  have hl8 : ps.length ≤ 8 := h.pk.2.2.2.1
  have hdl : ∀ q, q ∈ ps → (dlst bs q.1 q.2).length ≤ 4 := fun q hq => by
    obtain ⟨ma, -, -, -, p4, p5, -⟩ := (h.bs (hps q hq)).me
    exact dlst_len bs q.1 q.2 (by omega)
  simp only [zf_X11_drawPicked, zev_b1, zev_bd, zev_some, zev_gi, zev_gj, zev_gr, zev_pi, zev_pz, zev_pj, zev_pr, zev_rc, zev_cc, zev_b0, zev_bo, true_and, and_true, h.O, h.r (show 10 < 14 by decide), h.dr.1]
  refine zev_mono (zCe_dclear h hb) ?_
  rintro ⟨M1, u0⟩ hh
  dsimp only at hh ⊢
  obtain ⟨h1, f1, b1⟩ := hh
  refine zev_up (τ := Zm × Int32) (fun i (z : Zm × Int32) => ∃ M2 g2, z = (M2, nI i) ∧ zCe M2 g2 A AL x adr ga nb bs ro lb ps ac jr bo mo gi tr tp wy wh (tapp 200 tc (dpickT bs (ps.take i))) st (dpick bs (ps.take i)) (dmix bs [] (dpick bs (ps.take i))) bf ba bc ∧ zFo M g M2 g2 Tc ∧ zBu M2 g2 k) ps.length (i := 0) (Nat.zero_le _) ⟨M1, g, rfl, (by
    have e : tapp 200 tc (dpickT bs (ps.take 0)) = tc := tapp_nil h.t1.len
    rw [e]; exact h1), f1, b1⟩ ?_ ?_
  · rintro i z hi ⟨M2, g2, rfl, h2, f2, b2⟩
    obtain ⟨q, hq⟩ := getElem?_lt hi
    have hqm := List.mem_of_getElem? hq
    have i31 : i < 2 ^ 31 := by omega
    have c1 : ¬ nI ps.length ≤ nI i := nI_ge hi (by omega)
    have pk := h2.pk
    obtain ⟨s1, s2, s3, s4, ba', aa, r1, r2, r3, r4, r5, r6, r7, r8, r9⟩ := pk
    simp only [zf_X11_drawPicked_L9, zev_b1, zev_bd, zev_some, zev_gi, zev_gj, zev_gr, zev_pi, zev_pz, zev_pj, zev_pr, zev_rc, zev_cc, zev_b0, zev_bo, true_and, and_true, h2.O, h2.r (show 3 < 14 by decide), h2.r (show 10 < 14 by decide), h2.r (show 12 < 14 by decide), s1, s3, if_neg c1, r1, r2, zev_ar2 i31, zev_aj2 i31, r3, r4, r6, r7, show i < 8 by omega, (r9 i q hq).1, (r9 i q hq).2, h2.dr.1]
    have hlen : (dpick bs (ps.take i)).length ≤ 4 * i := by
      have := dpick_len bs (ps.take i) (fun p hp => hdl p (List.mem_of_mem_take hp))
      rw [List.length_take] at this
      omega
    refine zev_mono (zCe_dfrom h2 hI h6 (hps q hqm) q.2 (by omega) (wcod_dmix bs _ _ (fun q hq => by cases hq) (fun p hp => (h6 p.1 (dpick_mem hI (fun q hq => hps q (List.mem_of_mem_take hq)) p hp)).2)) b2) ?_
    rintro ⟨M3, u1⟩ hh
    dsimp only at hh ⊢
    obtain ⟨g3, h3, f3, b3⟩ := hh
    refine ⟨_, rfl, M3, g3, by rw [nI_1], ?_, f2.tr f3, b3⟩
    have e1 : dpick bs (ps.take (i + 1)) = dpick bs (ps.take i) ++ dlst bs q.1 q.2 := by
      rw [take_snoc hq]; unfold dpick; rw [List.flatMap_append]; simp
    have e2 : dpickT bs (ps.take (i + 1)) = dpickT bs (ps.take i) ++ dlstT bs q.1 q.2 := by
      rw [take_snoc hq]; unfold dpickT; rw [List.flatMap_append]; simp
    rw [e1, e2, dmix_app, ← tapp_tapp]
    exact h3
  · rintro z ⟨M2, g2, rfl, h2, f2, b2⟩
    have c1 : nI ps.length ≤ nI ps.length := nI_le (Nat.le_refl _) (by omega)
    simp only [zf_X11_drawPicked_L9, zev_b1, zev_bd, zev_some, zev_gi, zev_gj, zev_gr, zev_pi, zev_pz, zev_pj, zev_pr, zev_rc, zev_cc, zev_b0, zev_bo, true_and, and_true, h2.O, h2.r (show 3 < 14 by decide), h2.pk.O, h2.pk.cnt, if_pos c1]
    rw [List.take_of_length_le (Nat.le_refl _)] at h2
    exact ⟨_, rfl, g2, h2, f2, b2⟩
def sPicked (c : Cs) : Cs := match c with
  | (nb, bs, ro, lb, ps, ac, jr, bo, mo, gi, tr, tp, wy, wh, tc, st, ds, dw, bf, ba, bc) => (nb, bs, ro, lb, ps, ac, jr, bo, mo, gi, tr, tp, wy, wh, tapp 200 tc (dpickT bs ps), st, dpick bs ps, dmix bs [] (dpick bs ps), bf, ba, bc)
def sBlended (b : Int32) (c : Cs) : Cs := match c with
  | (nb, bs, ro, lb, ps, ac, jr, bo, mo, gi, tr, tp, wy, wh, tc, st, ds, dw, bf, ba, bc) => (nb, bs, ro, lb, [], ac, jr ++ ps.map (fun q => (4, (nI q.1).toInt64, b.toInt64, q.2)), bo, mo, gi, tr, tp, wy, wh, tc, st, ds, dw, bf, ba, bc)
def Bok (nb : Nat) (bs : Nat → Bv) (ps : List (Nat × Int64)) (m : Nat) : Prop := Dok bs nb (dpick bs ps) ∧ (∀ q, q ∈ dpick bs ps → q.1 ≠ m) ∧ (wwith (bs m).2.1.2.2.2 (dmix bs [] (dpick bs ps)) ≤ 60 → wroomy bs (bs m).2.1.2.2.2 (dpick bs ps) 64)
def sBlend (b : Int32) (c : Cs) : Int64 × Cs := match c with
  | (nb, bs, ro, lb, ps, ac, jr, bo, mo, gi, tr, tp, wy, wh, tc, st, ds, dw, bf, ba, bc) => if nI ps.length = 0 then (-10, (nb, bs, ro, lb, ps, ac, jr, bo, mo, gi, tr, tp, wy, wh, tc, st, ds, dw, bf, ba, bc)) else if lkv nb bs b = 0 then (if phas b ps = 0 then (if (bs b.toNatClampNeg).2.1.2.1 < 10000 then (if pcsk bs ps = 0 then (if (pspa bs ps).1 = 0 then (-10, sTc (pspa bs ps).2 (nb, bs, ro, lb, ps, ac, jr, bo, mo, gi, tr, tp, wy, wh, tc, st, ds, dw, bf, ba, bc)) else if wsum (bs b.toNatClampNeg).2.1.2.2.2 + psum ps ≤ btak bs (bs b.toNatClampNeg) then (if wwith (bs b.toNatClampNeg).2.1.2.2.2 (dmix bs [] (dpick bs ps)) ≤ 60 then (psum ps, sBlended b (sPour b.toNatClampNeg (sPicked (sTc (btakT bs (bs b.toNatClampNeg)) (sTc (pspa bs ps).2 (nb, bs, ro, lb, ps, ac, jr, bo, mo, gi, tr, tp, wy, wh, tc, st, ds, dw, bf, ba, bc)))))) else (-12, sPicked (sTc (btakT bs (bs b.toNatClampNeg)) (sTc (pspa bs ps).2 (nb, bs, ro, lb, ps, ac, jr, bo, mo, gi, tr, tp, wy, wh, tc, st, ds, dw, bf, ba, bc))))) else (-11, sTc (btakT bs (bs b.toNatClampNeg)) (sTc (pspa bs ps).2 (nb, bs, ro, lb, ps, ac, jr, bo, mo, gi, tr, tp, wy, wh, tc, st, ds, dw, bf, ba, bc)))) else (-9, (nb, bs, ro, lb, ps, ac, jr, bo, mo, gi, tr, tp, wy, wh, tc, st, ds, dw, bf, ba, bc))) else (-9, (nb, bs, ro, lb, ps, ac, jr, bo, mo, gi, tr, tp, wy, wh, tc, st, ds, dw, bf, ba, bc))) else (-13, (nb, bs, ro, lb, ps, ac, jr, bo, mo, gi, tr, tp, wy, wh, tc, st, ds, dw, bf, ba, bc))) else ((-(lkv nb bs b)).toInt64, (nb, bs, ro, lb, ps, ac, jr, bo, mo, gi, tr, tp, wy, wh, tc, st, ds, dw, bf, ba, bc))
theorem C_blend {M : Zm} {g : Zg} {A AL : Nat → Nat} {x : Nat} {adr : Nat → Nat} {ga nb : Nat} {bs : Nat → Bv} {ro : Nat → Rw} {lb : List Lb} {ps : List (Nat × Int64)} {ac : Nat → Wn} {jr bo : List Ln} {mo : Int32} {gi : Int64} {tr tp wy wh : Int32} {tc : List Int32} {st : List Int64} {ds : List (Nat × Int64)} {dw : Wn} {bf : Nat → Int32} {ba : Wn} {bc : List Nat} {k : Nat} (h : zCe M g A AL x adr ga nb bs ro lb ps ac jr bo mo gi tr tp wy wh tc st ds dw bf ba bc) (hI : Imem nb bs) (h6 : I60 nb bs) (hps : ∀ q, q ∈ ps → q.1 < nb) (hj : jr.length + 8 ≤ 4096) (b : Int32) (hD : ∀ m, m < nb → (bs m).1.1 ≠ 5 → phas (nI m) ps = 0 → (bs m).2.1.2.1 < 10000 → pcsk bs ps = 0 → (pspa bs ps).1 ≠ 0 → Bok nb bs ps m) (hb : zBu M g k) : zev (zf_X11_blendInto M (some x) b) (fun y => ∃ g' A' AL', zCs y.1 g' A' AL' x adr ga (sBlend b (nb, bs, ro, lb, ps, ac, jr, bo, mo, gi, tr, tp, wy, wh, tc, st, ds, dw, bf, ba, bc)).2 ∧ y.2 = (sBlend b (nb, bs, ro, lb, ps, ac, jr, bo, mo, gi, tr, tp, wy, wh, tc, st, ds, dw, bf, ba, bc)).1 ∧ zFo M g y.1 g' Tc ∧ zBu y.1 g' k) := by
  unfold sBlend
  dsimp only
  have hN := h.N
  have hl8 : ps.length ≤ 8 := h.pk.2.2.2.1
  simp only [zf_X11_blendInto, zf_X11_blendInto_J72, zev_b1, zev_bd, zev_some, zev_gi, zev_gj, zev_gr, zev_pi, zev_pz, zev_pj, zev_pr, zev_rc, zev_cc, zev_b0, zev_bo, true_and, and_true, h.O, h.r (show 3 < 14 by decide), h.pk.O, h.pk.cnt]
  by_cases h0 : nI ps.length = 0
  · simp only [if_pos h0, zev_b1, zev_bd, zev_some, zev_gi, zev_gj, zev_gr, zev_pi, zev_pz, zev_pj, zev_pr, zev_rc, zev_cc, zev_b0, zev_bo, true_and, and_true]
    exact ⟨g, A, AL, h, zFo.rf, hb⟩
  simp only [if_neg h0, zev_b1, zev_bd, zev_some, zev_gi, zev_gj, zev_gr, zev_pi, zev_pz, zev_pj, zev_pr, zev_rc, zev_cc, zev_b0, zev_bo, true_and, and_true, h.O, zev_eq (zCe_lkv h b)]
  by_cases h1 : lkv nb bs b = 0
  · obtain ⟨m, hm, rfl, km⟩ := lkv_0 h.N h1
    simp only [if_pos h1, nI_clamp (show m < 2 ^ 31 by omega), zev_b1, zev_bd, zev_some, zev_gi, zev_gj, zev_gr, zev_pi, zev_pz, zev_pj, zev_pr, zev_rc, zev_cc, zev_b0, zev_bo, true_and, and_true, h.O, h.r (show 3 < 14 by decide), h.pk.O, zev_eq (zPk_has (bs := bs) h.pk (fun q hq => h.bs (hps q hq)) (nI m))]
    by_cases h2 : phas (nI m) ps = 0
    · simp only [if_pos h2, zev_b1, zev_bd, zev_some, zev_gi, zev_gj, zev_gr, zev_pi, zev_pz, zev_pj, zev_pr, zev_rc, zev_cc, zev_b0, zev_bo, true_and, and_true, h.O, h.r (show 0 < 14 by decide), h.bl.O, zev_eq (zCe_get h hm), (h.bs hm).O, zev_eq (zBa_inCask (h.bs hm))]
      by_cases h3 : (bs m).2.1.2.1 < 10000
      · simp only [if_pos h3, if_true, zev_b1, zev_bd, zev_some, zev_gi, zev_gj, zev_gr, zev_pi, zev_pz, zev_pj, zev_pr, zev_rc, zev_cc, zev_b0, zev_bo, true_and, and_true, h.O, h.r (show 3 < 14 by decide), h.pk.O, zev_eq (zPk_cask (bs := bs) h.pk (fun q hq => h.bs (hps q hq)))]
        by_cases h4 : pcsk bs ps = 0
        · simp only [if_pos h4, zev_b1, zev_bd, zev_some, zev_gi, zev_gj, zev_gr, zev_pi, zev_pz, zev_pj, zev_pr, zev_rc, zev_cc, zev_b0, zev_bo, true_and, and_true, h.O, h.r (show 3 < 14 by decide), h.r (show 12 < 14 by decide), h.pk.O]
          refine zev_mono (zPk_spared (bs := bs) h.pk (fun q hq => ⟨h.bs (hps q hq), fun m hm => h.bs (hI q.1 (hps q hq) m hm).1⟩) h.t1 (by decide) (by decide) hb) ?_
          rintro ⟨M1, v1⟩ hh
          dsimp only at hh ⊢
          obtain ⟨e5, T5, f5, b5⟩ := hh
          subst e5
          have h5 : zCe M1 g A AL x adr ga nb bs ro lb ps ac jr bo mo gi tr tp wy wh (tapp 200 tc (pspa bs ps).2) st ds dw bf ba bc := by
            obtain ⟨cN, cO, cB, cBs, cRw, cLl, cLs, cPk, cJu, cPp, cAc, cBl, cJr, cBo, cDr, cBe, cT1, cT2⟩ := h
            exact ⟨cN, cO.fr f5 (by first | omega | (dsimp only; omega)), cB.fr f5 (by first | omega | (dsimp only; omega)), cBs.fr f5 (fun b hb => ⟨(by first | omega | (dsimp only; omega)), (by first | omega | (dsimp only; omega)), (by first | omega | (dsimp only; omega))⟩), cRw.fr f5 (by first | omega | (dsimp only; omega)) (fun r hr => (by first | omega | (dsimp only; omega))), cLl.fr f5 (by first | omega | (dsimp only; omega)), cLs.fr f5 (fun i hi => (by first | omega | (dsimp only; omega))), cPk.fr f5 (by first | omega | (dsimp only; omega)), cJu.fr f5 (by first | omega | (dsimp only; omega)), cPp.fr f5 (by first | omega | (dsimp only; omega)) (by first | omega | (dsimp only; omega)), cAc.fr f5 (by first | omega | (dsimp only; omega)) (fun h hh => (by first | omega | (dsimp only; omega))), cBl.fr f5 (by first | omega | (dsimp only; omega)), cJr.fr f5 (by first | omega | (dsimp only; omega)), cBo.fr f5 (by first | omega | (dsimp only; omega)), cDr.fr f5 (by first | omega | (dsimp only; omega)) (by first | omega | (dsimp only; omega)), cBe.fr f5 (by first | omega | (dsimp only; omega)) (by first | omega | (dsimp only; omega)) (by first | omega | (dsimp only; omega)), T5, cT2.fr f5 (by first | omega | (dsimp only; omega))⟩
          have f5' : zFo M g M1 g Tc := f5.mono (fun z q => show z ≠ 1 ∧ z ≠ 28 ∧ z ≠ 29 by first | omega | (dsimp only at q; omega))
          by_cases h7 : (pspa bs ps).1 = 0
          · simp only [if_pos h7, zev_b1, zev_bd, zev_some, zev_gi, zev_gj, zev_gr, zev_pi, zev_pz, zev_pj, zev_pr, zev_rc, zev_cc, zev_b0, zev_bo, true_and, and_true]
            exact ⟨g, A, AL, h5, f5', b5⟩
          · obtain ⟨w1, w2⟩ := (h5.bs hm).wa
            simp only [if_neg h7, zev_b1, zev_bd, zev_some, zev_gi, zev_gj, zev_gr, zev_pi, zev_pz, zev_pj, zev_pr, zev_rc, zev_cc, zev_b0, zev_bo, true_and, and_true, h5.O, h5.r (show 3 < 14 by decide), h5.r (show 12 < 14 by decide), h5.pk.O, zev_eq (zPk_sum h5.pk), (h5.bs hm).O, w1, w2.O, w2.tot]
            refine zev_mono (zCe_takes h5 hI hm b5) ?_
            rintro ⟨M2, v2⟩ hh
            dsimp only at hh ⊢
            obtain ⟨e8, h8, f8, b8⟩ := hh
            subst e8
            by_cases h9 : wsum (bs m).2.1.2.2.2 + psum ps ≤ btak bs (bs m)
            · obtain ⟨k1, k2, k3⟩ := hD m hm km h2 h3 h4 h7
              simp only [if_pos h9, zev_b1, zev_bd, zev_some, zev_gi, zev_gj, zev_gr, zev_pi, zev_pz, zev_pj, zev_pr, zev_rc, zev_cc, zev_b0, zev_bo, true_and, and_true, h8.O]
              refine zev_mono (C_drawPicked h8 hI h6 hps b8) ?_
              rintro ⟨M3, u0⟩ hh
              dsimp only at hh ⊢
              obtain ⟨g10, h10, f10, b10⟩ := hh
              simp only [h10.O, zev_b1, zev_bd, zev_some, zev_gi, zev_gj, zev_gr, zev_pi, zev_pz, zev_pj, zev_pr, zev_rc, zev_cc, zev_b0, zev_bo, true_and, and_true, zev_eq (zCe_many h10 hm (h10.wl hm))]
              by_cases h11 : wwith (bs m).2.1.2.2.2 (dmix bs [] (dpick bs ps)) ≤ 60
              · simp only [if_pos h11, if_true, zev_b1, zev_bd, zev_some, zev_gi, zev_gj, zev_gr, zev_pi, zev_pz, zev_pj, zev_pr, zev_rc, zev_cc, zev_b0, zev_bo, true_and, and_true, h10.O]
                refine zev_mono (zCe_remember h10 b10) ?_
                rintro ⟨M4, u1⟩ hh
                dsimp only at hh ⊢
                obtain ⟨h12, f12, b12⟩ := hh
                have hd32 : (dpick bs ps).length ≤ 32 := h10.dr.2.2.2.1
                refine ⟨h12.O, zev_mono (zCe_pour h12 hm k1 k2 (k3 h11) (by simp; omega) b12) ?_⟩
                rintro ⟨M5, u2⟩ hh
                dsimp only at hh ⊢
                obtain ⟨g13, h13, f13, b13⟩ := hh
                rw [List.nil_append] at h13
                have fA := ((((f5'.tr f8).tr f10).tr f12).tr f13)
                refine zev_up (τ := Zm × Int32) (fun i (z : Zm × Int32) => ∃ M6 g6, z = (M6, nI i) ∧ zCe M6 g6 A AL x adr ga nb (spour bs m (dpick bs ps)) ro lb ps ac (jr ++ (ps.take i).map (fun q => (4, (nI q.1).toInt64, (nI m).toInt64, q.2))) bo mo gi tr tp wy wh (tapp 200 (tapp 200 (tapp 200 tc (pspa bs ps).2) (btakT bs (bs m))) (dpickT bs ps)) st (dpick bs ps) (dmix bs [] (dpick bs ps)) (bfB bf nb mo jr.length bo.length) ba ([m] ++ (dpick bs ps).map (fun q => q.1)) ∧ zFo M g M6 g6 Tc ∧ zBu M6 g6 k) ps.length (i := 0) (Nat.zero_le _) ⟨M5, g13, rfl, (by rw [List.take_zero, List.map_nil, List.append_nil]; exact h13), fA, b13⟩ ?_ ?_
                · rintro i z hi ⟨M6, g6, rfl, h14, f14, b14⟩
                  obtain ⟨q, hq⟩ := getElem?_lt hi
                  have hqm := List.mem_of_getElem? hq
                  have i31 : i < 2 ^ 31 := by omega
                  have c1 : ¬ nI ps.length ≤ nI i := nI_ge hi (by omega)
                  have pk := h14.pk
                  have xq := h14.bs (hps q hqm)
                  obtain ⟨s1, s2, s3, s4, ba', aa, r1, r2, r3, r4, r5, r6, r7, r8, r9⟩ := pk
                  simp only [zf_X11_blendInto_L157, zev_b1, zev_bd, zev_some, zev_gi, zev_gj, zev_gr, zev_pi, zev_pz, zev_pj, zev_pr, zev_rc, zev_cc, zev_b0, zev_bo, true_and, and_true, h14.O, h14.r (show 3 < 14 by decide), h14.r (show 8 < 14 by decide), s1, s3, if_neg c1, r1, r2, zev_ar2 i31, zev_aj2 i31, r3, r4, r6, r7, show i < 8 by omega, (r9 i q hq).1, (r9 i q hq).2, xq.O, xq.nr, h14.jr.O]
                  refine zev_mono (zCe_jadd h14 4 (nI q.1).toInt64 (nI m).toInt64 q.2 (by rw [List.length_append, List.length_map, List.length_take]; omega) b14) ?_
                  rintro ⟨M7, u3⟩ hh
                  dsimp only at hh ⊢
                  obtain ⟨g7, h15, f15, b15⟩ := hh
                  refine ⟨_, rfl, M7, g7, by rw [nI_1], ?_, f14.tr f15, b15⟩
                  rw [take_snoc hq, List.map_append, ← List.append_assoc]
                  exact h15
                · rintro z ⟨M6, g6, rfl, h14, f14, b14⟩
                  have c1 : nI ps.length ≤ nI ps.length := nI_le (Nat.le_refl _) (by omega)
                  simp only [zf_X11_blendInto_L157, zev_b1, zev_bd, zev_some, zev_gi, zev_gj, zev_gr, zev_pi, zev_pz, zev_pj, zev_pr, zev_rc, zev_cc, zev_b0, zev_bo, true_and, and_true, h14.O, h14.r (show 3 < 14 by decide), h14.pk.O, h14.pk.cnt, if_pos c1]
                  rw [List.take_of_length_le (Nat.le_refl _)] at h14
                  refine ⟨_, rfl, ?_⟩
                  simp only [h14.O, h14.r (show 3 < 14 by decide), zev_b1, zev_bd, zev_some, zev_gi, zev_gj, zev_gr, zev_pi, zev_pz, zev_pj, zev_pr, zev_rc, zev_cc, zev_b0, zev_bo, true_and, and_true, h14.pk.O]
                  refine zev_mono (zCe_pclear h14 b14) ?_
                  rintro ⟨M7, u3⟩ hh
                  dsimp only at hh ⊢
                  obtain ⟨h15, f15, b15⟩ := hh
                  exact ⟨g6, A, AL, h15, f14.tr f15, b15⟩
              · simp only [if_neg h11, if_neg z10, zev_b1, zev_bd, zev_some, zev_gi, zev_gj, zev_gr, zev_pi, zev_pz, zev_pj, zev_pr, zev_rc, zev_cc, zev_b0, zev_bo, true_and, and_true]
                exact ⟨g10, A, AL, h10, (f5'.tr f8).tr f10, b10⟩
            · simp only [if_neg h9, zev_b1, zev_bd, zev_some, zev_gi, zev_gj, zev_gr, zev_pi, zev_pz, zev_pj, zev_pr, zev_rc, zev_cc, zev_b0, zev_bo, true_and, and_true]
              exact ⟨g, A, AL, h8, f5'.tr f8, b8⟩
        · simp only [if_neg h4, zev_b1, zev_bd, zev_some, zev_gi, zev_gj, zev_gr, zev_pi, zev_pz, zev_pj, zev_pr, zev_rc, zev_cc, zev_b0, zev_bo, true_and, and_true]
          exact ⟨g, A, AL, h, zFo.rf, hb⟩
      · simp only [if_neg h3, if_neg z10, zev_b1, zev_bd, zev_some, zev_gi, zev_gj, zev_gr, zev_pi, zev_pz, zev_pj, zev_pr, zev_rc, zev_cc, zev_b0, zev_bo, true_and, and_true]
        exact ⟨g, A, AL, h, zFo.rf, hb⟩
    · simp only [if_neg h2, zev_b1, zev_bd, zev_some, zev_gi, zev_gj, zev_gr, zev_pi, zev_pz, zev_pj, zev_pr, zev_rc, zev_cc, zev_b0, zev_bo, true_and, and_true]
      exact ⟨g, A, AL, h, zFo.rf, hb⟩
  · simp only [if_neg h1, zev_b1, zev_bd, zev_some, zev_gi, zev_gj, zev_gr, zev_pi, zev_pz, zev_pj, zev_pr, zev_rc, zev_cc, zev_b0, zev_bo, true_and, and_true]
    exact ⟨g, A, AL, h, zFo.rf, hb⟩
