/-! plan of the class. -/
def cFa (bs : Nat → Bv) (ps : List (Nat × Int64)) (stp : Int64) (n i : Nat) (D : Nat → Int64) (Mo : Nat → Nat) (S : Nat → Int64) : Prop := (∀ s, s < i → Mo s = pMv bs (pB ps s) stp n ∧ (∀ j, j ≤ n → D (13 * s + j) = pDv bs (pB ps s) stp j) ∧ (∀ j off, j ≤ pMv bs (pB ps s) stp n → off < 48 → S (48 * (13 * s + j) + off) = pSv bs (pB ps s) stp j off)) ∧ (∀ s, i ≤ s → Mo s = 0)
theorem C_ask {M : Zm} {g : Zg} {A AL : Nat → Nat} {x : Nat} {adr : Nat → Nat} {ga nb : Nat} {bs : Nat → Bv} {ro : Nat → Rw} {lb : List Lb} {ps : List (Nat × Int64)} {ac : Nat → Wn} {jr bo : List Ln} {mo : Int32} {gi : Int64} {tr tp wy wh : Int32} {tc : List Int32} {st : List Int64} {ds : List (Nat × Int64)} {dw : Wn} {bf : Nat → Int32} {ba : Wn} {bc : List Nat} {k la cnt n sn i : Nat} {D S : Nat → Int64} {Mo : Nat → Nat} {tot : Int64} {q : Nat × Int64} (h : zCe M g A AL x adr ga nb bs ro lb ps ac jr bo mo gi tr tp wy wh tc st ds dw bf ba bc) (hp : zPa M g (adr 5) la D Mo cnt st S tot) (hIc : Ic nb bs ro ac) (hps : ∀ q, q ∈ ps → q.1 < nb) (hq : ps[i]? = some q) (hi : i < 6) (hn : n ≤ 12) (h0 : 0 < sn) (hs : sn < 2 ^ 31) (hF : cFa bs ps (nI sn).toInt64 n i D Mo S) (hb : zBu M g k) : zev (zf_X11_askForPlan M (some x) (nI i) (nI sn).toInt64 (nI n)) (fun y => ∃ g' D' Mo' S', zCe y.1 g' A AL x adr ga nb bs ro lb ps ac jr bo mo gi tr tp wy wh (tapp 200 (tapp 200 tc (bspaT bs (bs q.1))) ((List.range n).flatMap (fun _ => bdeaT (bs q.1).1.1))) st ((pdn bs q.1 (nI sn).toInt64 (pMv bs q.1 (nI sn).toInt64 n) (ds, dw)).1) ((pdn bs q.1 (nI sn).toInt64 (pMv bs q.1 (nI sn).toInt64 n) (ds, dw)).2) bf ba bc ∧ zPa y.1 g' (adr 5) la D' Mo' cnt st S' tot ∧ cFa bs ps (nI sn).toInt64 n (i + 1) D' Mo' S' ∧ zFo M g y.1 g' Tc ∧ zBu y.1 g' k) := by
  have hqn := hps q (List.mem_of_getElem? hq)
  have hpb : pB ps i = q.1 := by unfold pB; rw [hq]; rfl
  obtain ⟨K, hK, eK⟩ := hIc.bsp hqn
  have em := pMv_N (n := n) hs (show K < 2 ^ 63 by omega) eK
  obtain ⟨m, hm⟩ : ∃ m, m = pMv bs q.1 (nI sn).toInt64 n := ⟨_, rfl⟩
  have hmn : m ≤ n := by rw [hm]; unfold pMv; omega
  have pk := h.pk
  obtain ⟨s1, s2, s3, s4, ba', aa, r1, r2, r3, r4, r5, r6, r7, r8, r9⟩ := pk
  simp only [zf_X11_askForPlan, zev_b1, zev_bd, zev_some, zev_gi, zev_gj, zev_gr, zev_pi, zev_pz, zev_pj, zev_pr, zev_rc, zev_cc, zev_b0, zev_bo, true_and, and_true, h.O, h.r (show 3 < 14 by decide), h.r (show 12 < 14 by decide), s1, r1, zev_ar2 (show i < 2 ^ 31 by omega), r3, r4, show i < 8 by omega, (r9 i q hq).1, (h.bs hqn).O]
  refine zev_mono (zBa_spares (bs := bs) (h.bs hqn) (fun m hm => h.bs (hIc.mem q.1 hqn m hm).1) h.t1 (by decide) hb) ?_
  rintro ⟨M1, v⟩ hh
  dsimp only at hh ⊢
  obtain ⟨e1, T1, f1, b1⟩ := hh
  have p1 := hp.fr f1 (by decide) (by decide)
  have h1 : zCe M1 g A AL x adr ga nb bs ro lb ps ac jr bo mo gi tr tp wy wh (tapp 200 tc (bspaT bs (bs q.1))) st ds dw bf ba bc := by
    obtain ⟨cN, cO, cB, cBs, cRw, cLl, cLs, cPk, cJu, cPp, cAc, cBl, cJr, cBo, cDr, cBe, cT1, cT2⟩ := h
    exact ⟨cN, cO.fr f1 (by first | omega | (dsimp only; omega)), cB.fr f1 (by first | omega | (dsimp only; omega)), cBs.fr f1 (fun b hb => ⟨(by first | omega | (dsimp only; omega)), (by first | omega | (dsimp only; omega)), (by first | omega | (dsimp only; omega))⟩), cRw.fr f1 (by first | omega | (dsimp only; omega)) (fun r hr => (by first | omega | (dsimp only; omega))), cLl.fr f1 (by first | omega | (dsimp only; omega)), cLs.fr f1 (fun i hi => (by first | omega | (dsimp only; omega))), cPk.fr f1 (by first | omega | (dsimp only; omega)), cJu.fr f1 (by first | omega | (dsimp only; omega)), cPp.fr f1 (by first | omega | (dsimp only; omega)) (by first | omega | (dsimp only; omega)), cAc.fr f1 (by first | omega | (dsimp only; omega)) (fun h hh => (by first | omega | (dsimp only; omega))), cBl.fr f1 (by first | omega | (dsimp only; omega)), cJr.fr f1 (by first | omega | (dsimp only; omega)), cBo.fr f1 (by first | omega | (dsimp only; omega)), cDr.fr f1 (by first | omega | (dsimp only; omega)) (by first | omega | (dsimp only; omega)), cBe.fr f1 (by first | omega | (dsimp only; omega)) (by first | omega | (dsimp only; omega)) (by first | omega | (dsimp only; omega)), T1, cT2.fr f1 (by first | omega | (dsimp only; omega))⟩
  refine zev_mono (C_dears (nI sn).toInt64 v h1 p1 hqn hi hn b1) ?_
  rintro ⟨M2, u2⟩ hh
  dsimp only at hh ⊢
  obtain ⟨D2, h2, p2, d1, d2, f2, b2⟩ := hh
  refine zev_mono (C_offers (m := m) (nI sn).toInt64 v h2 p2 hIc.mem hIc.i60 hqn hi hn hmn (hF.2 i (Nat.le_refl _)) (fun j w1 w2 => ?_) b2) ?_
  · rw [e1, eK, nI_64 hs, nI_64 (show j < 2 ^ 31 by omega), lN_mul]
    have hjs : j * sn ≤ 12 * 2 ^ 31 := Nat.mul_le_mul (by omega) (by omega)
    rw [pk_lLT (by omega) (by omega), ← Nat.div_lt_iff_lt_mul h0, hm, em]
    omega
  rintro ⟨M3, u3⟩ hh
  dsimp only at hh ⊢
  obtain ⟨g3, Mo3, S3, h3, p3, m3, c1, c2, f3, b3⟩ := hh
  rw [← hm]
  refine ⟨g3, D2, Mo3, S3, h3, p3, ⟨fun s hs1 => ?_, fun s hs1 => ?_⟩, ((f1.mono (fun z q => show z ≠ 1 ∧ z ≠ 28 ∧ z ≠ 29 by first | omega | (dsimp only at q; omega))).tr f2).tr f3, b3⟩
  · have zz := id p3
    obtain ⟨ta, Tr, Be, lst, C, P, T', z1, z2⟩ := zz
    by_cases e : s = i
    · subst e
      rw [hpb]
      refine ⟨by rw [m3, if_pos rfl, hm], fun j hj => ?_, fun j off hj ho => ?_⟩
      · by_cases e0 : j = 0
        · subst e0
          rw [Nat.add_zero, z1 s hi]
          unfold pDv
          rw [if_pos rfl]
        · exact d1 j (by omega) hj
      · by_cases e0 : j = 0
        · subst e0
          rw [Nat.add_zero, z2 s off hi ho]
          unfold pSv
          rw [if_pos rfl]
        · exact c1 j off (by omega) (by omega) ho
    · obtain ⟨w1, w2, w3⟩ := hF.1 s (by omega)
      refine ⟨by rw [m3, if_neg e]; exact w1, fun j hj => ?_, fun j off hj ho => ?_⟩
      · rw [d2 _ (by omega)]; exact w2 j hj
      · have hj12 : j ≤ 12 := by unfold pMv at hj; omega
        rw [c2 _ (by omega)]; exact w3 j off hj ho
  · rw [m3, if_neg (by omega)]; exact hF.2 s (by omega)
theorem pW_snoc (bs : Nat → Bv) (stp : Int64) (n : Nat) (a : List (Nat × Int64) × Wn) (ps : List (Nat × Int64)) (q : Nat × Int64) : pW bs stp n a (ps ++ [q]) = pdn bs q.1 stp (pMv bs q.1 stp n) (pW bs stp n a ps) := by
  unfold pW pdn
  rw [List.foldl_append]
  rfl
theorem C_asks {M : Zm} {g : Zg} {A AL : Nat → Nat} {x : Nat} {adr : Nat → Nat} {ga nb : Nat} {bs : Nat → Bv} {ro : Nat → Rw} {lb : List Lb} {ps : List (Nat × Int64)} {ac : Nat → Wn} {jr bo : List Ln} {mo : Int32} {gi : Int64} {tr tp wy wh : Int32} {tc : List Int32} {st : List Int64} {ds : List (Nat × Int64)} {dw : Wn} {bf : Nat → Int32} {ba : Wn} {bc : List Nat} {k la cnt n sn : Nat} {D S : Nat → Int64} {tot : Int64} (h : zCe M g A AL x adr ga nb bs ro lb ps ac jr bo mo gi tr tp wy wh tc st ds dw bf ba bc) (hp : zPa M g (adr 5) la D (fun _ => 0) cnt st S tot) (hIc : Ic nb bs ro ac) (hps : ∀ q, q ∈ ps → q.1 < nb) (h6 : ps.length ≤ 6) (hn : n ≤ 12) (h0 : 0 < sn) (hs : sn < 2 ^ 31) (hb : zBu M g k) : zev (zwhile (zf_X11_planBlend_L74 (some x) (nI sn) (nI n)) (M, (0 : Int32))) (fun y => ∃ g' D' Mo' S', zCe y.1 g' A AL x adr ga nb bs ro lb ps ac jr bo mo gi tr tp wy wh (tapp 200 tc (pT bs n ps)) st ((pW bs (nI sn).toInt64 n (ds, dw) ps).1) ((pW bs (nI sn).toInt64 n (ds, dw) ps).2) bf ba bc ∧ zPa y.1 g' (adr 5) la D' Mo' cnt st S' tot ∧ cFa bs ps (nI sn).toInt64 n ps.length D' Mo' S' ∧ zFo M g y.1 g' Tc ∧ zBu y.1 g' k) := by
  refine zev_up (τ := Zm × Int32) (fun i (z : Zm × Int32) => ∃ M1 g1 D1 Mo1 S1, z = (M1, nI i) ∧ zCe M1 g1 A AL x adr ga nb bs ro lb ps ac jr bo mo gi tr tp wy wh (tapp 200 tc (pT bs n (ps.take i))) st ((pW bs (nI sn).toInt64 n (ds, dw) (ps.take i)).1) ((pW bs (nI sn).toInt64 n (ds, dw) (ps.take i)).2) bf ba bc ∧ zPa M1 g1 (adr 5) la D1 Mo1 cnt st S1 tot ∧ cFa bs ps (nI sn).toInt64 n i D1 Mo1 S1 ∧ zFo M g M1 g1 Tc ∧ zBu M1 g1 k) ps.length (i := 0) (Nat.zero_le _) ⟨M, g, D, _, S, rfl, (by
    have e : tapp 200 tc (pT bs n (ps.take 0)) = tc := tapp_nil h.t1.len
    rw [e]; exact h), hp, ⟨fun s hs1 => by omega, fun s _ => rfl⟩, zFo.rf, hb⟩ ?_ ?_
  · rintro i z hi ⟨M1, g1, D1, Mo1, S1, rfl, h1, p1, F1, f1, b1⟩
    obtain ⟨q, hq⟩ := getElem?_lt hi
    have c1 : ¬ nI ps.length ≤ nI i := nI_ge hi (by omega)
    simp only [zf_X11_planBlend_L74, zev_b1, zev_bd, zev_some, zev_gi, zev_gj, zev_gr, zev_pi, zev_pz, zev_pj, zev_pr, zev_rc, zev_cc, zev_b0, zev_bo, true_and, and_true, h1.O, h1.r (show 3 < 14 by decide), h1.pk.O, h1.pk.cnt, if_neg c1]
    refine zev_mono (C_ask h1 p1 hIc hps hq (by omega) hn h0 hs F1 b1) ?_
    rintro ⟨M2, u2⟩ hh
    dsimp only at hh ⊢
    obtain ⟨g2, D2, Mo2, S2, h2, p2, F2, f2, b2⟩ := hh
    refine ⟨_, rfl, M2, g2, D2, Mo2, S2, by rw [nI_1], ?_, p2, F2, f1.tr f2, b2⟩
    have et : tapp 200 tc (pT bs n (ps.take (i + 1))) = tapp 200 (tapp 200 (tapp 200 tc (pT bs n (ps.take i))) (bspaT bs (bs q.1))) ((List.range n).flatMap (fun _ => bdeaT (bs q.1).1.1)) := by
      rw [take_snoc hq, tapp_tapp, tapp_tapp]
      unfold pT
      rw [List.flatMap_append]
      simp
    rw [et, take_snoc hq, pW_snoc]
    exact h2
  · rintro z ⟨M1, g1, D1, Mo1, S1, rfl, h1, p1, F1, f1, b1⟩
    have c1 : nI ps.length ≤ nI ps.length := nI_le (Nat.le_refl _) (by omega)
    simp only [zf_X11_planBlend_L74, zev_b1, zev_bd, zev_some, zev_gi, zev_gj, zev_gr, zev_pi, zev_pz, zev_pj, zev_pr, zev_rc, zev_cc, zev_b0, zev_bo, true_and, and_true, h1.O, h1.r (show 3 < 14 by decide), h1.pk.O, h1.pk.cnt, if_pos c1]
    rw [List.take_of_length_le (Nat.le_refl _)] at h1
    exact ⟨_, rfl, g1, D1, Mo1, S1, h1, p1, F1, f1, b1⟩
theorem zPa_find {M : Zm} {g : Zg} {p la k ol n made : Nat} {D : Nat → Int64} {Mo : Nat → Nat} {ps : List (Nat × Int64)} {bs : Nat → Bv} {st : List Int64} {S : Nat → Int64} {tot stp : Int64} {rs : List (List Lf)} (h : zPa M g p la D Mo ps.length st S tot) (L : zLb M g ol la rs made) (hol : ol ≠ 15 ∧ ol ≠ 16) (hF : cFa bs ps stp n ps.length D Mo S) (hn : n ≤ 12) (hb : zBu M g k) : zev (zf_X6_search M (some p) (nI n)) (fun y => y.2 = (pR bs ps rs tot stp n).1 ∧ (∃ ta Tr Be lst C, zPl y.1 g p ta D Mo Tr Be (some la) ps.length lst st ∧ zTa y.1 g 16 ta 78 S C ps.length tot ∧ (∀ i, i < 6 → D (13 * i) = 0) ∧ (∀ i off, i < 6 → off < 48 → S (48 * (13 * i) + off) = 0) ∧ ((pR bs ps rs tot stp n).1 ≠ -1 → ∀ i, i < ps.length → Be i = (pR bs ps rs tot stp n).2 i)) ∧ zFo M g y.1 g (fun z => z = 15 ∨ z = 16) ∧ zBu y.1 g k) := by
  obtain ⟨ta, Tr, Be, lst, C, P, T, z1, z2⟩ := h
  have hM12 : ∀ s, s < ps.length → Mo s ≤ 12 := fun s hs => by rw [(hF.1 s hs).1]; unfold pMv; omega
  have hMn : ∀ s, pMv bs (pB ps s) stp n ≤ n := fun s => by unfold pMv; omega
  have hlf : ∀ p, p ∈ rs.flatten → lfok p := L.2.2.2.2.2.2.2.2.1
  have cg := cfr_cong (cnt := ps.length) (Mo := Mo) (Mo' := fun i => pMv bs (pB ps i) stp n) (D := D) (D' := fun z => pDv bs (pB ps (z / 13)) stp (z % 13)) (ok := fun tr => fbrk (lans (thav S (fun i => 13 * i + tr i) ps.length) tot) 0 rs = -1) (ok' := fun tr => fbrk (lans (pH bs ps stp tr) tot) 0 rs = -1) (fun s hs => (hF.1 s hs).1) (fun s j hs hj h12 => by
      rw [(hF.1 s hs).1] at hj
      rw [(hF.1 s hs).2.1 j (Nat.le_trans hj (hMn s))]
      rw [show (13 * s + j) / 13 = s by omega, show (13 * s + j) % 13 = j by omega]) (fun tr tr' ht => by
      have e : fbrk (lans (thav S (fun i => 13 * i + tr i) ps.length) tot) 0 rs = fbrk (lans (pH bs ps stp tr') tot) 0 rs := fbrk_cong rs 0 (fun q hq => lans_cong (hlf q hq) (fun off ho => by
        unfold thav pH
        refine foldl_cong _ _ (fun s hs1 b => ?_)
        have hs2 := List.mem_range.mp hs1
        obtain ⟨w1, w2, w3⟩ := ht s hs2
        rw [(hF.1 s hs2).1] at w2
        dsimp only
        rw [(hF.1 s hs2).2.2 (tr s) off w2 ho, w1]))
      rw [e]) ps.length 0 n 0 Be (fun _ => 0) (-1, Be) (-1, fun _ => 0) (by omega) hn (fun i hi => by omega) rfl (fun w => absurd rfl w)
  refine zev_mono (zPl_search hol (fun tr => fbrk (lans (thav S (fun i => 13 * i + tr i) ps.length) tot) 0 rs = -1) (fun tr => Iff.rfl) hM12 P T L hn hb) ?_
  rintro ⟨M2, v⟩ ⟨e2, Tr2, Be2, C2, P2, T2, hB2, f2, b2⟩
  dsimp only at e2 P2 T2 f2 b2 ⊢
  refine ⟨by rw [e2]; exact cg.1, ⟨ta, Tr2, Be2, _, C2, P2, T2, z1, z2, fun w i hi => ?_⟩, f2, b2⟩
  rw [hB2 i hi]
  exact cg.2 (by rw [cg.1]; exact w) i hi
