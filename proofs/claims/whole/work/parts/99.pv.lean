/-! plan of the class: what is asked of each that is picked. -/
def zPa (M : Zm) (g : Zg) (p la : Nat) (D : Nat → Int64) (Mo : Nat → Nat) (cnt : Nat) (st : List Int64) (S : Nat → Int64) (tot : Int64) : Prop := ∃ ta Tr Be lst C, zPl M g p ta D Mo Tr Be (some la) cnt lst st ∧ zTa M g 16 ta 78 S C cnt tot ∧ (∀ i, i < 6 → D (13 * i) = 0) ∧ (∀ i off, i < 6 → off < 48 → S (48 * (13 * i) + off) = 0)
theorem zPa.fr {M M' : Zm} {g g' : Zg} {T : Nat → Prop} {p la : Nat} {D : Nat → Int64} {Mo : Nat → Nat} {cnt : Nat} {st : List Int64} {S : Nat → Int64} {tot : Int64} (h : zPa M g p la D Mo cnt st S tot) (f : zFo M g M' g' T) (n1 : ¬ T 15) (n2 : ¬ T 16) : zPa M' g' p la D Mo cnt st S tot := by
  obtain ⟨ta, Tr, Be, lst, C, P, T', z1, z2⟩ := h
  exact ⟨ta, Tr, Be, lst, C, P.fr f n1, T'.fr f n2, z1, z2⟩
theorem zPa.pp {M : Zm} {g : Zg} {p la : Nat} {D : Nat → Int64} {Mo : Nat → Nat} {cnt : Nat} {st : List Int64} {S : Nat → Int64} {tot : Int64} (h : zPa M g p la D Mo cnt st S tot) : zPp M g p st := by
  obtain ⟨ta, Tr, Be, lst, C, P, T', z1, z2⟩ := h
  exact ⟨ta, D, Mo, Tr, Be, some la, cnt, lst, S, C, cnt, tot, P, T', z1, z2⟩
theorem zPa.O {M : Zm} {g : Zg} {p la : Nat} {D : Nat → Int64} {Mo : Nat → Nat} {cnt : Nat} {st : List Int64} {S : Nat → Int64} {tot : Int64} (h : zPa M g p la D Mo cnt st S tot) : zO M p 7 := by
  obtain ⟨ta, Tr, Be, lst, C, P, -⟩ := h
  exact P.O
theorem zPa_dear {M : Zm} {g : Zg} {p la k : Nat} {D : Nat → Int64} {Mo : Nat → Nat} {cnt : Nat} {st : List Int64} {S : Nat → Int64} {tot : Int64} (h : zPa M g p la D Mo cnt st S tot) {s j : Nat} (v : Int64) (hs : s < 6) (h1 : 1 ≤ j) (hj : j < 13) (hb : zBu M g k) : zev (zf_X6_setDear M (some p) (nI s) (nI j) v) (fun y => zPa y.1 g p la (fun z => if z = 13 * s + j then v else D z) Mo cnt st S tot ∧ zFo M g y.1 g (fun z => z = 15) ∧ zBu y.1 g k) := by
  obtain ⟨ta, Tr, Be, lst, C, P, T', z1, z2⟩ := h
  refine zev_mono (zPl_dear P v hs hj hb) ?_
  rintro ⟨M2, u⟩ ⟨P2, f2, b2⟩
  exact ⟨⟨ta, Tr, Be, lst, C, P2, T'.fr f2 (by decide), fun i hi => by dsimp only; rw [if_neg (by omega)]; exact z1 i hi, z2⟩, f2, b2⟩
theorem tadd_out {S : Nat → Int64} {st z : Nat} {l : Wn} (h : ¬ (st ≤ z ∧ z < st + 48)) : tadd (tclr S st) st l z = S z := by
  rw [tadd_s, tsm_out h, Int64.zero_add]
  unfold tclr
  rw [if_neg h]
theorem tadd_in {S : Nat → Int64} {st off : Nat} {l : Wn} (h : off < 48) : tadd (tclr S st) st l (st + off) = tsm 0 l off := by
  rw [tadd_s, tsm_sh]
  unfold tclr
  rw [if_pos (by omega), Int64.add_zero]
theorem zPa_offer {M : Zm} {g : Zg} {p la k w : Nat} {D : Nat → Int64} {Mo : Nat → Nat} {cnt : Nat} {st : List Int64} {S : Nat → Int64} {tot : Int64} {l : Wn} (h : zPa M g p la D Mo cnt st S tot) (hw : zWo M g 26 w l) (hcod : wcod l) {s j : Nat} (hs : s < 6) (h1 : 1 ≤ j) (hj : j < 13) (hb : zBu M g k) : zev (zf_X6_offer M (some p) (nI s) (nI j) (some w)) (fun y => zPa y.1 g p la D (fuN Mo s j) cnt st (tadd (tclr S (48 * (13 * s + j))) (48 * (13 * s + j)) l) tot ∧ zFo M g y.1 g (fun z => z = 15 ∨ z = 16) ∧ zBu y.1 g k) := by
  obtain ⟨ta, Tr, Be, lst, C, P, T', z1, z2⟩ := h
  refine zev_mono (zPl_offer P T' hw (by decide) hcod hs hj hb) ?_
  rintro ⟨M2, u⟩ ⟨P2, T2, f2, b2⟩
  exact ⟨⟨ta, Tr, Be, lst, C, P2, T2, z1, fun i off hi ho => by rw [tadd_out (by omega)]; exact z2 i off hi ho⟩, f2, b2⟩
theorem C_dears {M : Zm} {g : Zg} {A AL : Nat → Nat} {x : Nat} {adr : Nat → Nat} {ga nb : Nat} {bs : Nat → Bv} {ro : Nat → Rw} {lb : List Lb} {ps : List (Nat × Int64)} {ac : Nat → Wn} {jr bo : List Ln} {mo : Int32} {gi : Int64} {tr tp wy wh : Int32} {tc : List Int32} {st : List Int64} {ds : List (Nat × Int64)} {dw : Wn} {bf : Nat → Int32} {ba : Wn} {bc : List Nat} {k la cnt n i b : Nat} {D S : Nat → Int64} {Mo : Nat → Nat} {tot : Int64} (stp sp : Int64) (h : zCe M g A AL x adr ga nb bs ro lb ps ac jr bo mo gi tr tp wy wh tc st ds dw bf ba bc) (hp : zPa M g (adr 5) la D Mo cnt st S tot) (hbn : b < nb) (hi : i < 6) (hn : n ≤ 12) (hb : zBu M g k) : zev (zwhile (zf_X11_askForPlan_L25 (some x) (nI i) stp (nI n) (some (A b)) sp) (M, (1 : Int32))) (fun y => ∃ D', zCe y.1 g A AL x adr ga nb bs ro lb ps ac jr bo mo gi tr tp wy wh (tapp 200 tc ((List.range n).flatMap (fun _ => bdeaT (bs b).1.1))) st ds dw bf ba bc ∧ zPa y.1 g (adr 5) la D' Mo cnt st S tot ∧ (∀ j, 1 ≤ j → j ≤ n → D' (13 * i + j) = pDv bs b stp j) ∧ (∀ z, ¬ (13 * i < z ∧ z ≤ 13 * i + n) → D' z = D z) ∧ zFo M g y.1 g Tc ∧ zBu y.1 g k) := by
  refine zev_up (τ := Zm × Int32) (fun q (z : Zm × Int32) => ∃ M1 D1, z = (M1, nI q) ∧ 1 ≤ q ∧ zCe M1 g A AL x adr ga nb bs ro lb ps ac jr bo mo gi tr tp wy wh (tapp 200 tc ((List.range (q - 1)).flatMap (fun _ => bdeaT (bs b).1.1))) st ds dw bf ba bc ∧ zPa M1 g (adr 5) la D1 Mo cnt st S tot ∧ (∀ j, 1 ≤ j → j < q → D1 (13 * i + j) = pDv bs b stp j) ∧ (∀ z, ¬ (13 * i < z ∧ z ≤ 13 * i + n) → D1 z = D z) ∧ zFo M g M1 g Tc ∧ zBu M1 g k) (n + 1) (i := 1) (by omega) ⟨M, D, rfl, by omega, (by
    have e : tapp 200 tc ((List.range (1 - 1)).flatMap (fun _ => bdeaT (bs b).1.1)) = tc := tapp_nil h.t1.len
    rw [e]; exact h), hp, fun j h1 h2 => by omega, fun z _ => rfl, zFo.rf, hb⟩ ?_ ?_
  · rintro q z hq ⟨M1, D1, rfl, q1, h1, p1, d1, d2, f1, b1⟩
    have c1 : ¬ nI n < nI q := nI_nlt (by omega) (by omega)
    simp only [zf_X11_askForPlan_L25, if_neg c1, zev_b1, zev_bd, zev_some, zev_gi, zev_gj, zev_gr, zev_pi, zev_pz, zev_pj, zev_pr, zev_rc, zev_cc, zev_b0, zev_bo, true_and, and_true, h1.O, h1.r (show 5 < 14 by decide), h1.r (show 12 < 14 by decide), (h1.bs hbn).O]
    refine zev_mono (zBa_dear (h1.bs hbn) _ h1.t1 b1) ?_
    rintro ⟨M2, v⟩ hh
    dsimp only at hh ⊢
    obtain ⟨e2, T2, f2, b2⟩ := hh
    have p2 := p1.fr f2 (by decide) (by decide)
    have h2 : zCe M2 g A AL x adr ga nb bs ro lb ps ac jr bo mo gi tr tp wy wh (tapp 200 (tapp 200 tc ((List.range (q - 1)).flatMap (fun _ => bdeaT (bs b).1.1))) (bdeaT (bs b).1.1)) st ds dw bf ba bc := by
      obtain ⟨cN, cO, cB, cBs, cRw, cLl, cLs, cPk, cJu, cPp, cAc, cBl, cJr, cBo, cDr, cBe, cT1, cT2⟩ := h1
      exact ⟨cN, cO.fr f2 (by first | omega | (dsimp only; omega)), cB.fr f2 (by first | omega | (dsimp only; omega)), cBs.fr f2 (fun b hb => ⟨(by first | omega | (dsimp only; omega)), (by first | omega | (dsimp only; omega)), (by first | omega | (dsimp only; omega))⟩), cRw.fr f2 (by first | omega | (dsimp only; omega)) (fun r hr => (by first | omega | (dsimp only; omega))), cLl.fr f2 (by first | omega | (dsimp only; omega)), cLs.fr f2 (fun i hi => (by first | omega | (dsimp only; omega))), cPk.fr f2 (by first | omega | (dsimp only; omega)), cJu.fr f2 (by first | omega | (dsimp only; omega)), cPp.fr f2 (by first | omega | (dsimp only; omega)) (by first | omega | (dsimp only; omega)), cAc.fr f2 (by first | omega | (dsimp only; omega)) (fun h hh => (by first | omega | (dsimp only; omega))), cBl.fr f2 (by first | omega | (dsimp only; omega)), cJr.fr f2 (by first | omega | (dsimp only; omega)), cBo.fr f2 (by first | omega | (dsimp only; omega)), cDr.fr f2 (by first | omega | (dsimp only; omega)) (by first | omega | (dsimp only; omega)), cBe.fr f2 (by first | omega | (dsimp only; omega)) (by first | omega | (dsimp only; omega)) (by first | omega | (dsimp only; omega)), T2, cT2.fr f2 (by first | omega | (dsimp only; omega))⟩
    refine ⟨p2.O, zev_mono (zPa_dear p2 v hi q1 (by omega) b2) ?_⟩
    rintro ⟨M3, u⟩ hh
    dsimp only at hh ⊢
    obtain ⟨p3, f3, b3⟩ := hh
    refine ⟨_, rfl, M3, _, by rw [nI_1], by omega, ?_, p3, fun j w1 w2 => ?_, fun z hz => ?_, (f1.tr (f2.mono (fun z q => show z ≠ 1 ∧ z ≠ 28 ∧ z ≠ 29 by first | omega | (dsimp only at q; omega)))).tr (f3.mono (fun z q => show z ≠ 1 ∧ z ≠ 28 ∧ z ≠ 29 by first | omega | (dsimp only at q; omega))), b3⟩
    · have et : tapp 200 tc ((List.range (q + 1 - 1)).flatMap (fun _ => bdeaT (bs b).1.1)) = tapp 200 (tapp 200 tc ((List.range (q - 1)).flatMap (fun _ => bdeaT (bs b).1.1))) (bdeaT (bs b).1.1) := by
        rw [tapp_tapp, show q + 1 - 1 = (q - 1) + 1 by omega, List.range_succ, List.flatMap_append]
        simp
      rw [et]
      obtain ⟨cN, cO, cB, cBs, cRw, cLl, cLs, cPk, cJu, cPp, cAc, cBl, cJr, cBo, cDr, cBe, cT1, cT2⟩ := h2
      exact ⟨cN, cO.fr f3 (by first | omega | (dsimp only; omega)), cB.fr f3 (by first | omega | (dsimp only; omega)), cBs.fr f3 (fun b hb => ⟨(by first | omega | (dsimp only; omega)), (by first | omega | (dsimp only; omega)), (by first | omega | (dsimp only; omega))⟩), cRw.fr f3 (by first | omega | (dsimp only; omega)) (fun r hr => (by first | omega | (dsimp only; omega))), cLl.fr f3 (by first | omega | (dsimp only; omega)), cLs.fr f3 (fun i hi => (by first | omega | (dsimp only; omega))), cPk.fr f3 (by first | omega | (dsimp only; omega)), cJu.fr f3 (by first | omega | (dsimp only; omega)), p3.pp, cAc.fr f3 (by first | omega | (dsimp only; omega)) (fun h hh => (by first | omega | (dsimp only; omega))), cBl.fr f3 (by first | omega | (dsimp only; omega)), cJr.fr f3 (by first | omega | (dsimp only; omega)), cBo.fr f3 (by first | omega | (dsimp only; omega)), cDr.fr f3 (by first | omega | (dsimp only; omega)) (by first | omega | (dsimp only; omega)), cBe.fr f3 (by first | omega | (dsimp only; omega)) (by first | omega | (dsimp only; omega)) (by first | omega | (dsimp only; omega)), cT1.fr f3 (by first | omega | (dsimp only; omega)), cT2.fr f3 (by first | omega | (dsimp only; omega))⟩
    · by_cases e : j = q
      · rw [if_pos (by omega), e2, e]
        unfold pDv pX
        rw [if_neg (by omega)]
      · rw [if_neg (by omega)]; exact d1 j w1 (by omega)
    · rw [if_neg (by omega)]; exact d2 z hz
  · rintro z ⟨M1, D1, rfl, q1, h1, p1, d1, d2, f1, b1⟩
    have c1 : nI n < nI (n + 1) := nI_lt (by omega) (by omega)
    simp only [zf_X11_askForPlan_L25, if_pos c1, zev_b1, zev_bd, zev_some, zev_gi, zev_gj, zev_gr, zev_pi, zev_pz, zev_pj, zev_pr, zev_rc, zev_cc, zev_b0, zev_bo, true_and, and_true]
    exact ⟨_, rfl, D1, h1, p1, fun j w1 w2 => d1 j w1 (by omega), d2, f1, b1⟩
def pdn (bs : Nat → Bv) (b : Nat) (stp : Int64) (m : Nat) (a : List (Nat × Int64) × Wn) : List (Nat × Int64) × Wn := if m = 0 then a else (dlst bs b (pX stp m), dmix bs [] (dlst bs b (pX stp m)))
theorem C_offers {M : Zm} {g : Zg} {A AL : Nat → Nat} {x : Nat} {adr : Nat → Nat} {ga nb : Nat} {bs : Nat → Bv} {ro : Nat → Rw} {lb : List Lb} {ps : List (Nat × Int64)} {ac : Nat → Wn} {jr bo : List Ln} {mo : Int32} {gi : Int64} {tr tp wy wh : Int32} {tc : List Int32} {st : List Int64} {ds : List (Nat × Int64)} {dw : Wn} {bf : Nat → Int32} {ba : Wn} {bc : List Nat} {k la cnt n m i b : Nat} {D S : Nat → Int64} {Mo : Nat → Nat} {tot : Int64} (stp sp : Int64) (h : zCe M g A AL x adr ga nb bs ro lb ps ac jr bo mo gi tr tp wy wh tc st ds dw bf ba bc) (hp : zPa M g (adr 5) la D Mo cnt st S tot) (hI : Imem nb bs) (h6 : I60 nb bs) (hbn : b < nb) (hi : i < 6) (hn : n ≤ 12) (hm : m ≤ n) (hMo : Mo i = 0) (hlt : ∀ j, 1 ≤ j → j ≤ n → (sp < (nI j).toInt64 * stp ↔ m < j)) (hb : zBu M g k) : zev (zwhile (zf_X11_askForPlan_L65 (some x) (nI i) stp (nI n) (some (A b)) sp) (M, (1 : Int32))) (fun y => ∃ g' Mo' S', zCe y.1 g' A AL x adr ga nb bs ro lb ps ac jr bo mo gi tr tp wy wh tc st ((pdn bs b stp m (ds, dw)).1) ((pdn bs b stp m (ds, dw)).2) bf ba bc ∧ zPa y.1 g' (adr 5) la D Mo' cnt st S' tot ∧ (∀ s, Mo' s = if s = i then m else Mo s) ∧ (∀ j off, 1 ≤ j → j ≤ m → off < 48 → S' (48 * (13 * i + j) + off) = pSv bs b stp j off) ∧ (∀ z, ¬ (48 * (13 * i + 1) ≤ z ∧ z < 48 * (13 * i + 13)) → S' z = S z) ∧ zFo M g y.1 g' Tc ∧ zBu y.1 g' k) := by
  refine zev_up (τ := Zm × Int32) (fun q (z : Zm × Int32) => ∃ M1 g1 Mo1 S1, z = (M1, nI q) ∧ 1 ≤ q ∧ zCe M1 g1 A AL x adr ga nb bs ro lb ps ac jr bo mo gi tr tp wy wh tc st ((pdn bs b stp (q - 1) (ds, dw)).1) ((pdn bs b stp (q - 1) (ds, dw)).2) bf ba bc ∧ zPa M1 g1 (adr 5) la D Mo1 cnt st S1 tot ∧ (∀ s, Mo1 s = if s = i then q - 1 else Mo s) ∧ (∀ j off, 1 ≤ j → j < q → off < 48 → S1 (48 * (13 * i + j) + off) = pSv bs b stp j off) ∧ (∀ z, ¬ (48 * (13 * i + 1) ≤ z ∧ z < 48 * (13 * i + 13)) → S1 z = S z) ∧ zFo M g M1 g1 Tc ∧ zBu M1 g1 k) (m + 1) (i := 1) (by omega) ⟨M, g, Mo, S, rfl, by omega, h, hp, fun s => by
    by_cases e : s = i
    · rw [if_pos e, e, hMo]
    · rw [if_neg e], fun j off w1 w2 => by omega, fun z _ => rfl, zFo.rf, hb⟩ ?_ ?_
  · rintro q z hq ⟨M1, g1, Mo1, S1, rfl, q1, h1, p1, m1, s1, s2, f1, b1⟩
    have c1 : ¬ nI n < nI q := nI_nlt (by omega) (by omega)
    have c2 : ¬ sp < (nI q).toInt64 * stp := fun w => by have := (hlt q q1 (by omega)).mp w; omega
    simp only [zf_X11_askForPlan_L65, if_neg c1, if_neg c2, zev_b1, zev_bd, zev_some, zev_gi, zev_gj, zev_gr, zev_pi, zev_pz, zev_pj, zev_pr, zev_rc, zev_cc, zev_b0, zev_bo, true_and, and_true, h1.O, h1.r (show 10 < 14 by decide), h1.dr.1]
    refine zev_mono (zDr_clear h1.dr b1) ?_
    rintro ⟨M2, u0⟩ hh
    dsimp only at hh ⊢
    obtain ⟨D2, f2, b2⟩ := hh
    have p2 := p1.fr f2 (by decide) (by decide)
    have h2 : zCe M2 g1 A AL x adr ga nb bs ro lb ps ac jr bo mo gi tr tp wy wh tc st [] [] bf ba bc := by
      obtain ⟨cN, cO, cB, cBs, cRw, cLl, cLs, cPk, cJu, cPp, cAc, cBl, cJr, cBo, cDr, cBe, cT1, cT2⟩ := h1
      exact ⟨cN, cO.fr f2 (by first | omega | (dsimp only; omega)), cB.fr f2 (by first | omega | (dsimp only; omega)), cBs.fr f2 (fun b hb => ⟨(by first | omega | (dsimp only; omega)), (by first | omega | (dsimp only; omega)), (by first | omega | (dsimp only; omega))⟩), cRw.fr f2 (by first | omega | (dsimp only; omega)) (fun r hr => (by first | omega | (dsimp only; omega))), cLl.fr f2 (by first | omega | (dsimp only; omega)), cLs.fr f2 (fun i hi => (by first | omega | (dsimp only; omega))), cPk.fr f2 (by first | omega | (dsimp only; omega)), cJu.fr f2 (by first | omega | (dsimp only; omega)), cPp.fr f2 (by first | omega | (dsimp only; omega)) (by first | omega | (dsimp only; omega)), cAc.fr f2 (by first | omega | (dsimp only; omega)) (fun h hh => (by first | omega | (dsimp only; omega))), cBl.fr f2 (by first | omega | (dsimp only; omega)), cJr.fr f2 (by first | omega | (dsimp only; omega)), cBo.fr f2 (by first | omega | (dsimp only; omega)), D2, cBe.fr f2 (by first | omega | (dsimp only; omega)) (by first | omega | (dsimp only; omega)) (by first | omega | (dsimp only; omega)), cT1.fr f2 (by first | omega | (dsimp only; omega)), cT2.fr f2 (by first | omega | (dsimp only; omega))⟩
    simp only [h2.O, h2.r (show 10 < 14 by decide), h2.r (show 13 < 14 by decide), h2.dr.1, zev_b1, zev_bd, zev_some, zev_gi, zev_gj, zev_gr, zev_pi, zev_pz, zev_pj, zev_pr, zev_rc, zev_cc, zev_b0, zev_bo, true_and, and_true]
    refine zev_mono (zDr_from (bs := bs) (nb := nb) h2.dr ((nI q).toInt64 * stp) h2.t2 (Or.inr rfl) (fun c hc => h2.bs hc) hbn (hI b hbn) (by simp) h6 (fun w hw => absurd hw List.not_mem_nil) b2) ?_
    rintro ⟨M3, u1⟩ hh
    dsimp only at hh ⊢
    obtain ⟨g3, D3, T3, f3, b3⟩ := hh
    have p3 := p2.fr f3 (by decide) (by decide)
    have h3 : zCe M3 g3 A AL x adr ga nb bs ro lb ps ac jr bo mo gi tr tp wy wh tc st ([] ++ dlst bs b ((nI q).toInt64 * stp)) (dmix bs [] (dlst bs b ((nI q).toInt64 * stp))) bf ba bc := by
      obtain ⟨cN, cO, cB, cBs, cRw, cLl, cLs, cPk, cJu, cPp, cAc, cBl, cJr, cBo, cDr, cBe, cT1, cT2⟩ := h2
      exact ⟨cN, cO.fr f3 (by first | omega | (dsimp only; omega)), cB.fr f3 (by first | omega | (dsimp only; omega)), cBs.fr f3 (fun b hb => ⟨(by first | omega | (dsimp only; omega)), (by first | omega | (dsimp only; omega)), (by first | omega | (dsimp only; omega))⟩), cRw.fr f3 (by first | omega | (dsimp only; omega)) (fun r hr => (by first | omega | (dsimp only; omega))), cLl.fr f3 (by first | omega | (dsimp only; omega)), cLs.fr f3 (fun i hi => (by first | omega | (dsimp only; omega))), cPk.fr f3 (by first | omega | (dsimp only; omega)), cJu.fr f3 (by first | omega | (dsimp only; omega)), cPp.fr f3 (by first | omega | (dsimp only; omega)) (by first | omega | (dsimp only; omega)), cAc.fr f3 (by first | omega | (dsimp only; omega)) (fun h hh => (by first | omega | (dsimp only; omega))), cBl.fr f3 (by first | omega | (dsimp only; omega)), cJr.fr f3 (by first | omega | (dsimp only; omega)), cBo.fr f3 (by first | omega | (dsimp only; omega)), D3, cBe.fr f3 (by first | omega | (dsimp only; omega)) (by first | omega | (dsimp only; omega)) (by first | omega | (dsimp only; omega)), cT1.fr f3 (by first | omega | (dsimp only; omega)), T3⟩
    obtain ⟨y1, y2, y3, y4, y5, y6, y7, y8, va, aa, w, r1, r2, r3, r4, r5, r6, r7, r8, r9, r10, hw, r12⟩ := h3.dr
    simp only [h3.O, h3.r (show 10 < 14 by decide), h3.r (show 5 < 14 by decide), y1, r3, zev_b1, zev_bd, zev_some, zev_gi, zev_gj, zev_gr, zev_pi, zev_pz, zev_pj, zev_pr, zev_rc, zev_cc, zev_b0, zev_bo, true_and, and_true, p3.O]
    refine zev_mono (zPa_offer p3 hw (wcod_dmix bs _ _ (fun w hw => absurd hw List.not_mem_nil) (fun p hp => (h6 p.1 (dlst_mem hI hbn p hp)).2)) hi q1 (by omega) b3) ?_
    rintro ⟨M4, u2⟩ hh
    dsimp only at hh ⊢
    obtain ⟨p4, f4, b4⟩ := hh
    refine ⟨_, rfl, M4, g3, _, _, by rw [nI_1], by omega, ?_, p4, fun s => ?_, fun j off w1 w2 w3 => ?_, fun z hz => ?_, ((f1.tr (f2.mono (fun z q => show z ≠ 1 ∧ z ≠ 28 ∧ z ≠ 29 by first | omega | (dsimp only at q; omega)))).tr (f3.mono (fun z q => show z ≠ 1 ∧ z ≠ 28 ∧ z ≠ 29 by first | omega | (dsimp only at q; omega)))).tr (f4.mono (fun z q => show z ≠ 1 ∧ z ≠ 28 ∧ z ≠ 29 by first | omega | (dsimp only at q; omega))), b4⟩
    · have e1 : pdn bs b stp (q + 1 - 1) (ds, dw) = ([] ++ dlst bs b ((nI q).toInt64 * stp), dmix bs [] (dlst bs b ((nI q).toInt64 * stp))) := by
        unfold pdn pX
        rw [if_neg (by omega), Nat.add_sub_cancel]
        rfl
      rw [e1]
      obtain ⟨cN, cO, cB, cBs, cRw, cLl, cLs, cPk, cJu, cPp, cAc, cBl, cJr, cBo, cDr, cBe, cT1, cT2⟩ := h3
      exact ⟨cN, cO.fr f4 (by first | omega | (dsimp only; omega)), cB.fr f4 (by first | omega | (dsimp only; omega)), cBs.fr f4 (fun b hb => ⟨(by first | omega | (dsimp only; omega)), (by first | omega | (dsimp only; omega)), (by first | omega | (dsimp only; omega))⟩), cRw.fr f4 (by first | omega | (dsimp only; omega)) (fun r hr => (by first | omega | (dsimp only; omega))), cLl.fr f4 (by first | omega | (dsimp only; omega)), cLs.fr f4 (fun i hi => (by first | omega | (dsimp only; omega))), cPk.fr f4 (by first | omega | (dsimp only; omega)), cJu.fr f4 (by first | omega | (dsimp only; omega)), p4.pp, cAc.fr f4 (by first | omega | (dsimp only; omega)) (fun h hh => (by first | omega | (dsimp only; omega))), cBl.fr f4 (by first | omega | (dsimp only; omega)), cJr.fr f4 (by first | omega | (dsimp only; omega)), cBo.fr f4 (by first | omega | (dsimp only; omega)), cDr.fr f4 (by first | omega | (dsimp only; omega)) (by first | omega | (dsimp only; omega)), cBe.fr f4 (by first | omega | (dsimp only; omega)) (by first | omega | (dsimp only; omega)) (by first | omega | (dsimp only; omega)), cT1.fr f4 (by first | omega | (dsimp only; omega)), cT2.fr f4 (by first | omega | (dsimp only; omega))⟩
    · unfold fuN
      by_cases e : s = i
      · rw [if_pos e, if_pos e]; omega
      · rw [if_neg e, if_neg e, m1 s, if_neg e]
    · by_cases e : j = q
      · subst e
        rw [tadd_in w3]
        unfold pSv pX
        rw [if_neg (by omega)]
      · rw [tadd_out (by omega)]; exact s1 j off w1 (by omega) w3
    · rw [tadd_out (by omega)]; exact s2 z hz
  · rintro z ⟨M1, g1, Mo1, S1, rfl, q1, h1, p1, m1, s1, s2, f1, b1⟩
    rw [Nat.add_sub_cancel] at h1
    have fin : ∃ y, (Sum.inr (M1, nI (m + 1)) : (Zm × Int32) ⊕ (Zm × Int32)) = .inr y ∧ ∃ g' Mo' S', zCe y.1 g' A AL x adr ga nb bs ro lb ps ac jr bo mo gi tr tp wy wh tc st ((pdn bs b stp m (ds, dw)).1) ((pdn bs b stp m (ds, dw)).2) bf ba bc ∧ zPa y.1 g' (adr 5) la D Mo' cnt st S' tot ∧ (∀ s, Mo' s = if s = i then m else Mo s) ∧ (∀ j off, 1 ≤ j → j ≤ m → off < 48 → S' (48 * (13 * i + j) + off) = pSv bs b stp j off) ∧ (∀ z, ¬ (48 * (13 * i + 1) ≤ z ∧ z < 48 * (13 * i + 13)) → S' z = S z) ∧ zFo M g y.1 g' Tc ∧ zBu y.1 g' k :=
      ⟨_, rfl, g1, Mo1, S1, h1, p1, fun s => by rw [m1 s, Nat.add_sub_cancel], fun j off w1 w2 w3 => s1 j off w1 (by omega) w3, s2, f1, b1⟩
    by_cases c1 : nI n < nI (m + 1)
    · simp only [zf_X11_askForPlan_L65, if_pos c1, zev_b1, zev_bd, zev_some, zev_gi, zev_gj, zev_gr, zev_pi, zev_pz, zev_pj, zev_pr, zev_rc, zev_cc, zev_b0, zev_bo, true_and, and_true]
      exact fin
    · have hle : m + 1 ≤ n := by
        rcases Nat.lt_or_ge n (m + 1) with w | w
        · exact absurd (nI_lt w (by omega)) c1
        · exact w
      have c2 : sp < (nI (m + 1)).toInt64 * stp := (hlt (m + 1) (by omega) hle).mpr (by omega)
      simp only [zf_X11_askForPlan_L65, if_neg c1, if_pos c2, zev_b1, zev_bd, zev_some, zev_gi, zev_gj, zev_gr, zev_pi, zev_pz, zev_pj, zev_pr, zev_rc, zev_cc, zev_b0, zev_bo, true_and, and_true]
      exact fin
