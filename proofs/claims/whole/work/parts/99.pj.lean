/-! The question strays, in the class: what a barrel has seen. -/
theorem zBa.sght {M : Zm} {g : Zg} {A : Nat → Nat} {b j : Nat} {x : Bv} {v : Int32} (h : zBa M g A b x) (hj : j = 12 ∨ j = 13) : zBa (zm_pi M (A b) j v) g A b x := by
  obtain ⟨h1, h2, h3, h4, h5, h6, h7, h8, h9, h10, h11, wa, ma, ka, r0, r1, r2, r3, r4, r5, r6, r7, r8, r9, r10, r11, r12⟩ := h
  have f : zFo M g (zm_pi M (A b) j v) g (fun z => z = 100 + 3 * b) := zFo.pi h2
  have e : ∀ i, i ≠ j → zm_i (zm_pi M (A b) j v) (A b) i = zm_i M (A b) i := fun i hi => by rw [ypi_i, if_neg (fun z => hi z.2)]
  have er : zm_r (zm_pi M (A b) j v) = zm_r M := by funext a k; simp only [zpi_r]
  refine ⟨f.O h1, h2, by rw [e 0 (by omega)]; exact h3, by rw [e 1 (by omega)]; exact h4, by rw [e 2 (by omega)]; exact h5, by rw [e 3 (by omega)]; exact h6, by rw [e 4 (by omega)]; exact h7, by rw [e 7 (by omega)]; exact h8, by rw [e 8 (by omega)]; exact h9, by rw [e 9 (by omega)]; exact h10, by rw [e 10 (by omega)]; exact h11, wa, ma, ka, r0, by rw [er]; exact r1, by rw [er]; exact r2, by rw [er]; exact r3, r4.fr f (by omega), r5.fr f (by omega), f.O r6, (f.A (show zA M ma 16 4 from ⟨r6, r7⟩)).2, r8, r9, r10, r11, fun i m hm => by rw [er]; exact r12 i m hm⟩
theorem zCe_seen {M : Zm} {g : Zg} {A AL : Nat → Nat} {x : Nat} {adr : Nat → Nat} {ga nb : Nat} {bs : Nat → Bv} {ro : Nat → Rw} {lb : List Lb} {ps : List (Nat × Int64)} {ac : Nat → Wn} {jr bo : List Ln} {mo : Int32} {gi : Int64} {tr tp wy wh : Int32} {tc : List Int32} {st : List Int64} {ds : List (Nat × Int64)} {dw : Wn} {bf : Nat → Int32} {ba : Wn} {bc : List Nat} {b j : Nat} (h : zCe M g A AL x adr ga nb bs ro lb ps ac jr bo mo gi tr tp wy wh tc st ds dw bf ba bc) (hbn : b < nb) (hj : j = 12 ∨ j = 13) (v : Int32) : zCe (zm_pi M (A b) j v) g A AL x adr ga nb bs ro lb ps ac jr bo mo gi tr tp wy wh tc st ds dw bf ba bc ∧ zFo M g (zm_pi M (A b) j v) g (fun z => z = 100 + 3 * b) := by
  have hN := h.N
  have hg := (h.bs hbn).2.1
  have f : zFo M g (zm_pi M (A b) j v) g (fun z => z = 100 + 3 * b) := zFo.pi hg
  refine ⟨?_, f⟩
  obtain ⟨cN, cO, cB, cBs, cRw, cLl, cLs, cPk, cJu, cPp, cAc, cBl, cJr, cBo, cDr, cBe, cT1, cT2⟩ := h
  refine ⟨cN, cO.fr f (by first | omega | (dsimp only; omega)), cB.fr f (by first | omega | (dsimp only; omega)), fun c hc => ?_, cRw.fr f (by first | omega | (dsimp only; omega)) (fun r hr => (by first | omega | (dsimp only; omega))), cLl.fr f (by first | omega | (dsimp only; omega)), cLs.fr f (fun i hi => (by first | omega | (dsimp only; omega))), cPk.fr f (by first | omega | (dsimp only; omega)), cJu.fr f (by first | omega | (dsimp only; omega)), cPp.fr f (by first | omega | (dsimp only; omega)) (by first | omega | (dsimp only; omega)), cAc.fr f (by first | omega | (dsimp only; omega)) (fun h hh => (by first | omega | (dsimp only; omega))), cBl.fr f (by first | omega | (dsimp only; omega)), cJr.fr f (by first | omega | (dsimp only; omega)), cBo.fr f (by first | omega | (dsimp only; omega)), cDr.fr f (by first | omega | (dsimp only; omega)) (by first | omega | (dsimp only; omega)), cBe.fr f (by first | omega | (dsimp only; omega)) (by first | omega | (dsimp only; omega)) (by first | omega | (dsimp only; omega)), cT1.fr f (by first | omega | (dsimp only; omega)), cT2.fr f (by first | omega | (dsimp only; omega))⟩
  by_cases e : c = b
  · subst e; exact (cBs c hc).sght hj
  · exact (cBs c hc).fr f (by omega) (by omega) (by omega)
/-- how often and where each was seen -/
def zSg (M : Zm) (A : Nat → Nat) (nb : Nat) (s : Nat → Int32 × Int32) : Prop := ∀ b, b < nb → zm_i M (A b) 12 = (s b).1 ∧ zm_i M (A b) 13 = (s b).2
theorem zCe_inj {M : Zm} {g : Zg} {A AL : Nat → Nat} {x : Nat} {adr : Nat → Nat} {ga nb : Nat} {bs : Nat → Bv} {ro : Nat → Rw} {lb : List Lb} {ps : List (Nat × Int64)} {ac : Nat → Wn} {jr bo : List Ln} {mo : Int32} {gi : Int64} {tr tp wy wh : Int32} {tc : List Int32} {st : List Int64} {ds : List (Nat × Int64)} {dw : Wn} {bf : Nat → Int32} {ba : Wn} {bc : List Nat} (h : zCe M g A AL x adr ga nb bs ro lb ps ac jr bo mo gi tr tp wy wh tc st ds dw bf ba bc) {b c : Nat} (hb : b < nb) (hc : c < nb) (e : A b = A c) : b = c := by
  have h1 := (h.bs hb).2.1
  have h2 := (h.bs hc).2.1
  rw [e, h2] at h1
  omega
theorem zSg_pi {M : Zm} {g : Zg} {A AL : Nat → Nat} {x : Nat} {adr : Nat → Nat} {ga nb : Nat} {bs : Nat → Bv} {ro : Nat → Rw} {lb : List Lb} {ps : List (Nat × Int64)} {ac : Nat → Wn} {jr bo : List Ln} {mo : Int32} {gi : Int64} {tr tp wy wh : Int32} {tc : List Int32} {st : List Int64} {ds : List (Nat × Int64)} {dw : Wn} {bf : Nat → Int32} {ba : Wn} {bc : List Nat} {b : Nat} {s : Nat → Int32 × Int32} (h : zCe M g A AL x adr ga nb bs ro lb ps ac jr bo mo gi tr tp wy wh tc st ds dw bf ba bc) (hs : zSg M A nb s) (hb : b < nb) (v w : Int32) : zSg (zm_pi (zm_pi M (A b) 12 v) (A b) 13 w) A nb (fun c => if c = b then (v, w) else s c) := by
  intro c hc
  simp only [ypi_i]
  by_cases e : c = b
  · subst e
    rw [if_pos rfl]
    simp
  · have ne : ¬ A c = A b := fun z => e (zCe_inj h hc hb z)
    rw [if_neg e]
    simp only [ne, false_and, if_false]
    exact hs c hc
theorem zCe_seeAt {M : Zm} {g : Zg} {A AL : Nat → Nat} {x : Nat} {adr : Nat → Nat} {ga nb : Nat} {bs : Nat → Bv} {ro : Nat → Rw} {lb : List Lb} {ps : List (Nat × Int64)} {ac : Nat → Wn} {jr bo : List Ln} {mo : Int32} {gi : Int64} {tr tp wy wh : Int32} {tc : List Int32} {st : List Int64} {ds : List (Nat × Int64)} {dw : Wn} {bf : Nat → Int32} {ba : Wn} {bc : List Nat} {b k : Nat} {s : Nat → Int32 × Int32} (h : zCe M g A AL x adr ga nb bs ro lb ps ac jr bo mo gi tr tp wy wh tc st ds dw bf ba bc) (hs : zSg M A nb s) (hbn : b < nb) (p : Int32) (hb : zBu M g k) : zev (zf_X0_seeAt M (some (A b)) p) (fun y => zCe y.1 g A AL x adr ga nb bs ro lb ps ac jr bo mo gi tr tp wy wh tc st ds dw bf ba bc ∧ zSg y.1 A nb (fun c => if c = b then ((s b).1 + 1, p) else s c) ∧ zFo M g y.1 g (fun z => z = 100 + 3 * b) ∧ zBu y.1 g k) := by
  have hN := h.N
  have hO := (h.bs hbn).O
  obtain ⟨h1, f1⟩ := zCe_seen h hbn (Or.inl rfl) ((s b).1 + 1)
  have O1 := (h1.bs hbn).O
  obtain ⟨h2, f2⟩ := zCe_seen h1 hbn (Or.inr rfl) p
  have sg := zSg_pi h hs hbn ((s b).1 + 1) p
  simp only [zf_X0_seeAt, zev_b1, zev_bd, zev_some, zev_gi, zev_gj, zev_gr, zev_pi, zev_pz, zev_pj, zev_pr, zev_rc, zev_cc, zev_b0, zev_bo, true_and, and_true, hO, (hs b hbn).1, O1]
  exact ⟨h2, sg, f1.tr f2, (hb.same (by simp only [zpi_s]) (by simp only [zpi_c]))⟩
theorem zCe_lose {M : Zm} {g : Zg} {A AL : Nat → Nat} {x : Nat} {adr : Nat → Nat} {ga nb : Nat} {bs : Nat → Bv} {ro : Nat → Rw} {lb : List Lb} {ps : List (Nat × Int64)} {ac : Nat → Wn} {jr bo : List Ln} {mo : Int32} {gi : Int64} {tr tp wy wh : Int32} {tc : List Int32} {st : List Int64} {ds : List (Nat × Int64)} {dw : Wn} {bf : Nat → Int32} {ba : Wn} {bc : List Nat} {b k : Nat} (h : zCe M g A AL x adr ga nb bs ro lb ps ac jr bo mo gi tr tp wy wh tc st ds dw bf ba bc) (hbn : b < nb) (hb : zBu M g k) : zev (zf_X0_loseSight M (some (A b))) (fun y => zCe y.1 g A AL x adr ga nb bs ro lb ps ac jr bo mo gi tr tp wy wh tc st ds dw bf ba bc ∧ (zm_i y.1 (A b) 12 = 0 ∧ zm_i y.1 (A b) 13 = 0) ∧ (∀ c, c < nb → c ≠ b → zm_i y.1 (A c) 12 = zm_i M (A c) 12 ∧ zm_i y.1 (A c) 13 = zm_i M (A c) 13) ∧ zFo M g y.1 g Tc ∧ zBu y.1 g k) := by
  have hN := h.N
  have hO := (h.bs hbn).O
  obtain ⟨h1, f1⟩ := zCe_seen h hbn (Or.inl rfl) 0
  have O1 := (h1.bs hbn).O
  obtain ⟨h2, f2⟩ := zCe_seen h1 hbn (Or.inr rfl) 0
  simp only [zf_X0_loseSight, zev_b1, zev_bd, zev_some, zev_gi, zev_gj, zev_gr, zev_pi, zev_pz, zev_pj, zev_pr, zev_rc, zev_cc, zev_b0, zev_bo, true_and, and_true, hO, O1]
  refine ⟨h2, ⟨by simp [ypi_i], by simp [ypi_i]⟩, fun c hc e => ?_, (f1.mono (fun z q => show z ≠ 1 ∧ z ≠ 28 ∧ z ≠ 29 by first | omega | (dsimp only at q; omega))).tr (f2.mono (fun z q => show z ≠ 1 ∧ z ≠ 28 ∧ z ≠ 29 by first | omega | (dsimp only at q; omega))), (hb.same (by simp only [zpi_s]) (by simp only [zpi_c]))⟩
  have ne : ¬ A c = A b := fun z => e (zCe_inj h hc hbn z)
  simp only [ypi_i, ne, false_and, if_false]
  exact ⟨trivial, trivial⟩
