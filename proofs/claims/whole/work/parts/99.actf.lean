/-! What was drawn is carried out: into a vessel, onto an account. -/
def aup (ac : Nat → Wn) (i : Nat) (l : Wn) : Nat → Wn := fun j => if j = i then l else ac j
def Dok (bs : Nat → Bv) (nb : Nat) (ds : List (Nat × Int64)) : Prop := (∀ q, q ∈ ds → q.1 < nb ∧ (bs q.1).2.1.2.2.2.length ≤ 60 ∧ lsub (wsum (bs q.1).2.1.2.2.2) (wshr q.2 (bs q.1).2.1.2.2.2) = wsum (wles (bs q.1).2.1.2.2.2 (wshr q.2 (bs q.1).2.1.2.2.2))) ∧ (∀ (i j : Nat) (q r : Nat × Int64), ds[i]? = some q → ds[j]? = some r → i ≠ j → q.1 ≠ r.1)
def dfind (ds : List (Nat × Int64)) (c : Nat) : Option (Nat × Int64) := ds.find? (fun q => decide (q.1 = c))
theorem dfind_mem {ds : List (Nat × Int64)} {c : Nat} {q : Nat × Int64} (h : dfind ds c = some q) : q ∈ ds ∧ q.1 = c := by
  unfold dfind at h
  exact ⟨List.mem_of_find?_eq_some h, by simpa using List.find?_some h⟩
theorem dfind_none {ds : List (Nat × Int64)} {c : Nat} (h : dfind ds c = none) : ∀ q, q ∈ ds → q.1 ≠ c := by
  unfold dfind at h
  rw [List.find?_eq_none] at h
  intro q hq e
  exact h q hq (by simpa using e)
def scarry (bs : Nat → Bv) (ds : List (Nat × Int64)) : Nat → Bv := fun c => match dfind ds c with | some q => bout (bs c) q.2 | none => bs c
def wroomy (bs : Nat → Bv) (acc : Wn) (ds : List (Nat × Int64)) (n : Nat) : Prop := ∀ (j : Nat) (q : Nat × Int64), ds[j]? = some q → ∀ i z, (wgng (bs q.1).2.1.2.2.2 (wshr q.2 (bs q.1).2.1.2.2.2))[i]? = some z → (wputs (dmix bs acc (ds.take j)) ((wgng (bs q.1).2.1.2.2.2 (wshr q.2 (bs q.1).2.1.2.2.2)).take i)).length < n ∨ ∃ p ∈ wputs (dmix bs acc (ds.take j)) ((wgng (bs q.1).2.1.2.2.2 (wshr q.2 (bs q.1).2.1.2.2.2)).take i), p.1 = z.1
theorem wris_dmix (bs : Nat → Bv) : ∀ (ds : List (Nat × Int64)) (dw : Wn), wris dw → wris (dmix bs dw ds)
  | [], _, h => h
  | q :: r, dw, h => wris_dmix bs r _ (wris_wputs _ _ h)
theorem wroomy_acc {bs : Nat → Bv} {acc : Wn} {ds : List (Nat × Int64)} (hr : wris acc) (hc : wcod acc) (hd : ∀ q, q ∈ ds → wcod (bs q.1).2.1.2.2.2) : wroomy bs acc ds 4096 := by
  intro j q hq i z hz
  have hqm := List.mem_of_getElem? hq
  exact wput_room (wris_dmix bs _ _ hr) (wcod_dmix bs _ _ hc (fun p hp => hd p (List.mem_of_mem_take hp))) (wcod_wgng _ _ (hd q hqm)) i z hz
theorem zCe_carryA {M : Zm} {g : Zg} {A AL : Nat → Nat} {x : Nat} {adr : Nat → Nat} {ga nb : Nat} {bs : Nat → Bv} {ro : Nat → Rw} {lb : List Lb} {ps : List (Nat × Int64)} {ac : Nat → Wn} {jr bo : List Ln} {mo : Int32} {gi : Int64} {tr tp wy wh : Int32} {tc : List Int32} {st : List Int64} {ds : List (Nat × Int64)} {dw : Wn} {bf : Nat → Int32} {ba : Wn} {bc : List Nat} {hw w k : Nat} (h : zCe M g A AL x adr ga nb bs ro lb ps ac jr bo mo gi tr tp wy wh tc st ds dw bf ba bc) (hh5 : hw < 5) (hw1 : zm_r M (adr 6) hw = some w) (hD : Dok bs nb ds) (hca : wcod (ac hw)) (hcd : ∀ q, q ∈ ds → wcod (bs q.1).2.1.2.2.2) (hc : bc.length + ds.length ≤ 1000) (hb : zBu M g k) : zev (zf_X2_carryOut M (some (adr 10)) (some (adr 11)) (some w)) (fun y => ∃ g', zCe y.1 g' A AL x adr ga nb (scarry bs ds) ro lb ps (aup ac hw (dmix bs (ac hw) ds)) jr bo mo gi tr tp wy wh tc st ds dw bf ba (bc ++ ds.map (fun q => q.1)) ∧ zFo M g y.1 g' Tc ∧ zBu y.1 g' k) := by
  have hN := h.N
  obtain ⟨a1, a2, a3, a4⟩ := h.ac
  obtain ⟨w', w1, w2⟩ := a4 hw hh5
  rw [hw1] at w1
  cases w1
  have hz : zcm (20 + hw) = 4096 := by unfold zcm; rw [if_neg (by omega), if_pos (by omega)]
  refine zev_mono (zDr_carry (bs := bs) h.dr h.be (fun q hq => h.bs (hD.1 q hq).1) w2 (fun q hq => ⟨by have := (hD.1 q hq).1; omega, by omega⟩) (Or.inl ⟨by omega, by omega⟩) (by omega) hc hD.2 (fun q hq => (hD.1 q hq).2.1) (fun q hq => (hD.1 q hq).2.2) ⟨10, by decide, by rw [hz]⟩ (by rw [hz]; exact wroomy_acc w2.ris hca hcd) hb) ?_
  rintro ⟨M2, u0⟩ hh
  dsimp only at hh ⊢
  obtain ⟨g', D2, E2, B2, V2, f, b2⟩ := hh
  have f' : zFo M g M2 g' (fun z => z = 5 ∨ z = 10 ∨ z = 20 + hw ∨ 100 ≤ z) := f.mono (fun z q => by
    rcases q with q | q | q | ⟨p, hp, q⟩
    · exact Or.inl q
    · exact Or.inr (Or.inl q)
    · exact Or.inr (Or.inr (Or.inl q))
    · exact Or.inr (Or.inr (Or.inr (by omega))))
  refine ⟨g', ?_, f'.mono (fun z q => show z ≠ 1 ∧ z ≠ 28 ∧ z ≠ 29 by first | omega | (dsimp only at q; omega)), b2⟩
  have e6 := f'.at a1.1 a3 (by omega)
  obtain ⟨cN, cO, cB, cBs, cRw, cLl, cLs, cPk, cJu, cPp, cAc, cBl, cJr, cBo, cDr, cBe, cT1, cT2⟩ := h
  refine ⟨cN, cO.fr f' (by first | omega | (dsimp only; omega)), cB.fr f' (by first | omega | (dsimp only; omega)), ?_, cRw.fr f' (by first | omega | (dsimp only; omega)) (fun r hr => (by first | omega | (dsimp only; omega))), cLl.fr f' (by first | omega | (dsimp only; omega)), cLs.fr f' (fun i hi => (by first | omega | (dsimp only; omega))), cPk.fr f' (by first | omega | (dsimp only; omega)), cJu.fr f' (by first | omega | (dsimp only; omega)), cPp.fr f' (by first | omega | (dsimp only; omega)) (by first | omega | (dsimp only; omega)), ⟨f'.O a1, (f'.A (show zA M (adr 6) 18 5 from ⟨a1, a2⟩)).2, f'.own a1.1 a3, fun i hi => ?_⟩, cBl.fr f' (by first | omega | (dsimp only; omega)), cJr.fr f' (by first | omega | (dsimp only; omega)), cBo.fr f' (by first | omega | (dsimp only; omega)), D2, E2, cT1.fr f' (by first | omega | (dsimp only; omega)), cT2.fr f' (by first | omega | (dsimp only; omega))⟩
  · intro c hcn
    unfold scarry
    cases hf : dfind ds c with
    | some q =>
      obtain ⟨m1, rfl⟩ := dfind_mem hf
      exact B2 q m1
    | none =>
      have hne := dfind_none hf
      refine (cBs c hcn).fr f ?_ ?_ ?_ <;> (rintro (q | q | q | ⟨p, hp, q⟩) <;> first | omega | (have := hne p hp; omega))
  · unfold aup
    by_cases e : i = hw
    · subst e
      rw [if_pos rfl]
      exact ⟨w, by rw [e6.2.2]; exact hw1, V2⟩
    · rw [if_neg e]
      obtain ⟨w', v1, v2⟩ := a4 i hi
      exact ⟨w', by rw [e6.2.2]; exact v1, v2.fr f' (by omega)⟩
def spour (bs : Nat → Bv) (to : Nat) (ds : List (Nat × Int64)) : Nat → Bv := bup (scarry bs ds) to (bwin (bkeep (bs to)) (dmix bs (bs to).2.1.2.2.2 ds))
theorem dmix_bup {bs : Nat → Bv} {to : Nat} {v : Bv} (hv : v.2.1.2.2.2 = (bs to).2.1.2.2.2) : ∀ (ds : List (Nat × Int64)) (acc : Wn), dmix (bup bs to v) acc ds = dmix bs acc ds
  | [], _ => rfl
  | q :: r, acc => by
    have e : (bup bs to v q.1).2.1.2.2.2 = (bs q.1).2.1.2.2.2 := by
      unfold bup
      by_cases e : q.1 = to
      · rw [if_pos e, hv, e]
      · rw [if_neg e]
    show dmix (bup bs to v) (wputs acc (wgng (bup bs to v q.1).2.1.2.2.2 (wshr q.2 (bup bs to v q.1).2.1.2.2.2))) r = dmix bs (wputs acc (wgng (bs q.1).2.1.2.2.2 (wshr q.2 (bs q.1).2.1.2.2.2))) r
    rw [e]
    exact dmix_bup hv r _
theorem zCe_pour {M : Zm} {g : Zg} {A AL : Nat → Nat} {x : Nat} {adr : Nat → Nat} {ga nb : Nat} {bs : Nat → Bv} {ro : Nat → Rw} {lb : List Lb} {ps : List (Nat × Int64)} {ac : Nat → Wn} {jr bo : List Ln} {mo : Int32} {gi : Int64} {tr tp wy wh : Int32} {tc : List Int32} {st : List Int64} {ds : List (Nat × Int64)} {dw : Wn} {bf : Nat → Int32} {ba : Wn} {bc : List Nat} {to k : Nat} (h : zCe M g A AL x adr ga nb bs ro lb ps ac jr bo mo gi tr tp wy wh tc st ds dw bf ba bc) (hto : to < nb) (hD : Dok bs nb ds) (hne : ∀ q, q ∈ ds → q.1 ≠ to) (hr : wroomy bs (bs to).2.1.2.2.2 ds 64) (hc : bc.length + 1 + ds.length ≤ 1000) (hb : zBu M g k) : zev (zf_X11_pourInto M (some x) (some (A to))) (fun y => ∃ g', zCe y.1 g' A AL x adr ga nb (spour bs to ds) ro lb ps ac jr bo mo gi tr tp wy wh tc st ds dw bf ba (bc ++ [to] ++ ds.map (fun q => q.1)) ∧ zFo M g y.1 g' Tc ∧ zBu y.1 g' k) := by
  have hN := h.N
  simp only [zf_X11_pourInto, zev_b1, zev_bd, zev_some, zev_gi, zev_gj, zev_gr, zev_pi, zev_pz, zev_pj, zev_pr, zev_rc, zev_cc, zev_b0, zev_bo, true_and, and_true, h.O, h.r (show 11 < 14 by decide), h.be.1]
  refine zev_mono (zCe_keepb h hto (by omega) hb) ?_
  rintro ⟨M1, u0⟩ hh
  dsimp only at hh ⊢
  obtain ⟨g1, h1, f1, b1⟩ := hh
  have xt := h1.bs hto
  rw [bup_self] at xt
  obtain ⟨t1, t2⟩ := xt.wa
  have ew : ∀ q, q ∈ ds → bup bs to (bkeep (bs to)) q.1 = bs q.1 := fun q hq => bup_ne bs _ (hne q hq)
  have hr' : wroomy (bup bs to (bkeep (bs to))) (bs to).2.1.2.2.2 ds 64 := by
    intro j q hq i z hz
    have hqm := List.mem_of_getElem? hq
    rw [ew q hqm] at hz
    rw [ew q hqm, dmix_bup (v := bkeep (bs to)) rfl]
    exact hr j q hq i z hz
  simp only [h1.O, h1.r (show 10 < 14 by decide), h1.r (show 11 < 14 by decide), zev_b1, zev_bd, zev_some, zev_gi, zev_gj, zev_gr, zev_pi, zev_pz, zev_pj, zev_pr, zev_rc, zev_cc, zev_b0, zev_bo, true_and, and_true, xt.O, t1, h1.dr.1]
  refine zev_mono (zDr_carry (bs := bup bs to (bkeep (bs to))) h1.dr h1.be (fun q hq => h1.bs (hD.1 q hq).1) t2 (fun q hq => ⟨by have := (hD.1 q hq).1; omega, by have := hne q hq; omega⟩) (Or.inr ⟨to, rfl⟩) (by omega) (by simp; omega) hD.2 (fun q hq => by rw [ew q hq]; exact (hD.1 q hq).2.1) (fun q hq => by rw [ew q hq]; exact (hD.1 q hq).2.2) ⟨4, by decide, by rw [zcm_w]⟩ (by rw [zcm_w]; exact hr') b1) ?_
  rintro ⟨M2, u1⟩ hh
  dsimp only at hh ⊢
  obtain ⟨g', D2, E2, B2, V2, f, b2⟩ := hh
  have f' : zFo M1 g1 M2 g' (fun z => z = 5 ∨ z = 10 ∨ 100 ≤ z) := f.mono (fun z q => by
    rcases q with q | q | q | ⟨p, hp, q⟩
    · exact Or.inl q
    · exact Or.inr (Or.inl q)
    · exact Or.inr (Or.inr (by omega))
    · exact Or.inr (Or.inr (by omega)))
  refine ⟨g', ?_, f1.tr (f'.mono (fun z q => show z ≠ 1 ∧ z ≠ 28 ∧ z ≠ 29 by first | omega | (dsimp only at q; omega))), b2⟩
  rw [dmix_bup (v := bkeep (bs to)) rfl] at V2
  have T2 := xt.putw t1 f (fun (q : 100 + 3 * to = 5 ∨ 100 + 3 * to = 10 ∨ 100 + 3 * to = 101 + 3 * to ∨ ∃ q ∈ ds, 100 + 3 * to = 100 + 3 * q.1 ∨ 100 + 3 * to = 101 + 3 * q.1 ∨ 100 + 3 * to = 102 + 3 * q.1) => by
    rcases q with q | q | q | ⟨p, hp, q⟩
    · omega
    · omega
    · omega
    · have := hne p hp; omega) (fun (q : 102 + 3 * to = 5 ∨ 102 + 3 * to = 10 ∨ 102 + 3 * to = 101 + 3 * to ∨ ∃ q ∈ ds, 102 + 3 * to = 100 + 3 * q.1 ∨ 102 + 3 * to = 101 + 3 * q.1 ∨ 102 + 3 * to = 102 + 3 * q.1) => by
    rcases q with q | q | q | ⟨p, hp, q⟩
    · omega
    · omega
    · omega
    · have := hne p hp; omega) V2
  obtain ⟨cN, cO, cB, cBs, cRw, cLl, cLs, cPk, cJu, cPp, cAc, cBl, cJr, cBo, cDr, cBe, cT1, cT2⟩ := h1
  refine ⟨cN, cO.fr f' (by first | omega | (dsimp only; omega)), cB.fr f' (by first | omega | (dsimp only; omega)), ?_, cRw.fr f' (by first | omega | (dsimp only; omega)) (fun r hr => (by first | omega | (dsimp only; omega))), cLl.fr f' (by first | omega | (dsimp only; omega)), cLs.fr f' (fun i hi => (by first | omega | (dsimp only; omega))), cPk.fr f' (by first | omega | (dsimp only; omega)), cJu.fr f' (by first | omega | (dsimp only; omega)), cPp.fr f' (by first | omega | (dsimp only; omega)) (by first | omega | (dsimp only; omega)), cAc.fr f' (by first | omega | (dsimp only; omega)) (fun h hh => (by first | omega | (dsimp only; omega))), cBl.fr f' (by first | omega | (dsimp only; omega)), cJr.fr f' (by first | omega | (dsimp only; omega)), cBo.fr f' (by first | omega | (dsimp only; omega)), D2, E2, cT1.fr f' (by first | omega | (dsimp only; omega)), cT2.fr f' (by first | omega | (dsimp only; omega))⟩
  intro c hcn
  unfold spour
  by_cases e : c = to
  · rw [e, bup_self]; exact T2
  · rw [bup_ne _ _ e]
    unfold scarry
    cases hf : dfind ds c with
    | some q =>
      obtain ⟨m1, rfl⟩ := dfind_mem hf
      have := B2 q m1
      rw [ew q m1] at this
      exact this
    | none =>
      have hne2 := dfind_none hf
      have q0 := cBs c hcn
      rw [bup_ne _ _ e] at q0
      refine q0.fr f ?_ ?_ ?_ <;> (rintro (q | q | q | ⟨p, hp, q⟩) <;> first | omega | (have := hne2 p hp; omega))
