/-! The cellar: all of it, and what it looks up. -/
def zCe (M : Zm) (g : Zg) (A AL : Nat → Nat) (x : Nat) (adr : Nat → Nat) (ga nb : Nat) (bs : Nat → Bv) (ro : Nat → Rw) (lb : List Lb) (ps : List (Nat × Int64)) (ac : Nat → Wn) (jr bo : List Ln) (mo : Int32) (gi : Int64) (tr tp wy wh : Int32) (tc : List Int32) (st : List Int64) (ds : List (Nat × Int64)) (dw : Wn) (bf : Nat → Int32) (ba : Wn) (bc : List Nat) : Prop :=
  nb ≤ 1000 ∧ zCo M g x adr mo gi tr tp wy wh ∧ zAl M g 3 (adr 0) ((List.range nb).map A) ∧ zBs M g A nb bs ∧ zRs M g (adr 1) AL ro ∧ zAl M g 4 (adr 2) ((List.range lb.length).map AL) ∧ zLs M g AL lb ∧ zPk M g A (adr 3) ps ∧ zJu M g (adr 4) ∧ zPp M g (adr 5) st ∧ zAc M g (adr 6) ac ∧ zBl M g (adr 7) ∧ zLi M g 6 (adr 8) jr ∧ zLi M g 7 (adr 9) bo ∧ zDr M g A (adr 10) ga ds dw ∧ zBe M g A (adr 11) bf ba bc ∧ zTr M g 12 (adr 12) 200 tc ∧ zTr M g 13 (adr 13) 0 []
theorem zCe.N {M : Zm} {g : Zg} {A AL : Nat → Nat} {x : Nat} {adr : Nat → Nat} {ga nb : Nat} {bs : Nat → Bv} {ro : Nat → Rw} {lb : List Lb} {ps : List (Nat × Int64)} {ac : Nat → Wn} {jr bo : List Ln} {mo : Int32} {gi : Int64} {tr tp wy wh : Int32} {tc : List Int32} {st : List Int64} {ds : List (Nat × Int64)} {dw : Wn} {bf : Nat → Int32} {ba : Wn} {bc : List Nat} (h : zCe M g A AL x adr ga nb bs ro lb ps ac jr bo mo gi tr tp wy wh tc st ds dw bf ba bc) : nb ≤ 1000 := h.1
theorem zCe.co {M : Zm} {g : Zg} {A AL : Nat → Nat} {x : Nat} {adr : Nat → Nat} {ga nb : Nat} {bs : Nat → Bv} {ro : Nat → Rw} {lb : List Lb} {ps : List (Nat × Int64)} {ac : Nat → Wn} {jr bo : List Ln} {mo : Int32} {gi : Int64} {tr tp wy wh : Int32} {tc : List Int32} {st : List Int64} {ds : List (Nat × Int64)} {dw : Wn} {bf : Nat → Int32} {ba : Wn} {bc : List Nat} (h : zCe M g A AL x adr ga nb bs ro lb ps ac jr bo mo gi tr tp wy wh tc st ds dw bf ba bc) : zCo M g x adr mo gi tr tp wy wh := h.2.1
theorem zCe.O {M : Zm} {g : Zg} {A AL : Nat → Nat} {x : Nat} {adr : Nat → Nat} {ga nb : Nat} {bs : Nat → Bv} {ro : Nat → Rw} {lb : List Lb} {ps : List (Nat × Int64)} {ac : Nat → Wn} {jr bo : List Ln} {mo : Int32} {gi : Int64} {tr tp wy wh : Int32} {tc : List Int32} {st : List Int64} {ds : List (Nat × Int64)} {dw : Wn} {bf : Nat → Int32} {ba : Wn} {bc : List Nat} (h : zCe M g A AL x adr ga nb bs ro lb ps ac jr bo mo gi tr tp wy wh tc st ds dw bf ba bc) : zO M x 12 := h.2.1.1
theorem zCe.r {M : Zm} {g : Zg} {A AL : Nat → Nat} {x : Nat} {adr : Nat → Nat} {ga nb : Nat} {bs : Nat → Bv} {ro : Nat → Rw} {lb : List Lb} {ps : List (Nat × Int64)} {ac : Nat → Wn} {jr bo : List Ln} {mo : Int32} {gi : Int64} {tr tp wy wh : Int32} {tc : List Int32} {st : List Int64} {ds : List (Nat × Int64)} {dw : Wn} {bf : Nat → Int32} {ba : Wn} {bc : List Nat} (h : zCe M g A AL x adr ga nb bs ro lb ps ac jr bo mo gi tr tp wy wh tc st ds dw bf ba bc) {i : Nat} (hi : i < 14) : zm_r M x i = some (adr i) := h.2.1.2.2.1 i hi
theorem zCe.bl {M : Zm} {g : Zg} {A AL : Nat → Nat} {x : Nat} {adr : Nat → Nat} {ga nb : Nat} {bs : Nat → Bv} {ro : Nat → Rw} {lb : List Lb} {ps : List (Nat × Int64)} {ac : Nat → Wn} {jr bo : List Ln} {mo : Int32} {gi : Int64} {tr tp wy wh : Int32} {tc : List Int32} {st : List Int64} {ds : List (Nat × Int64)} {dw : Wn} {bf : Nat → Int32} {ba : Wn} {bc : List Nat} (h : zCe M g A AL x adr ga nb bs ro lb ps ac jr bo mo gi tr tp wy wh tc st ds dw bf ba bc) : zAl M g 3 (adr 0) ((List.range nb).map A) := h.2.2.1
theorem zCe.bs {M : Zm} {g : Zg} {A AL : Nat → Nat} {x : Nat} {adr : Nat → Nat} {ga nb : Nat} {bs : Nat → Bv} {ro : Nat → Rw} {lb : List Lb} {ps : List (Nat × Int64)} {ac : Nat → Wn} {jr bo : List Ln} {mo : Int32} {gi : Int64} {tr tp wy wh : Int32} {tc : List Int32} {st : List Int64} {ds : List (Nat × Int64)} {dw : Wn} {bf : Nat → Int32} {ba : Wn} {bc : List Nat} (h : zCe M g A AL x adr ga nb bs ro lb ps ac jr bo mo gi tr tp wy wh tc st ds dw bf ba bc) {b : Nat} (hb : b < nb) : zBa M g A b (bs b) := h.2.2.2.1 b hb
theorem zCe.rs {M : Zm} {g : Zg} {A AL : Nat → Nat} {x : Nat} {adr : Nat → Nat} {ga nb : Nat} {bs : Nat → Bv} {ro : Nat → Rw} {lb : List Lb} {ps : List (Nat × Int64)} {ac : Nat → Wn} {jr bo : List Ln} {mo : Int32} {gi : Int64} {tr tp wy wh : Int32} {tc : List Int32} {st : List Int64} {ds : List (Nat × Int64)} {dw : Wn} {bf : Nat → Int32} {ba : Wn} {bc : List Nat} (h : zCe M g A AL x adr ga nb bs ro lb ps ac jr bo mo gi tr tp wy wh tc st ds dw bf ba bc) : zRs M g (adr 1) AL ro := h.2.2.2.2.1
theorem zCe.ll {M : Zm} {g : Zg} {A AL : Nat → Nat} {x : Nat} {adr : Nat → Nat} {ga nb : Nat} {bs : Nat → Bv} {ro : Nat → Rw} {lb : List Lb} {ps : List (Nat × Int64)} {ac : Nat → Wn} {jr bo : List Ln} {mo : Int32} {gi : Int64} {tr tp wy wh : Int32} {tc : List Int32} {st : List Int64} {ds : List (Nat × Int64)} {dw : Wn} {bf : Nat → Int32} {ba : Wn} {bc : List Nat} (h : zCe M g A AL x adr ga nb bs ro lb ps ac jr bo mo gi tr tp wy wh tc st ds dw bf ba bc) : zAl M g 4 (adr 2) ((List.range lb.length).map AL) := h.2.2.2.2.2.1
theorem zCe.ls {M : Zm} {g : Zg} {A AL : Nat → Nat} {x : Nat} {adr : Nat → Nat} {ga nb : Nat} {bs : Nat → Bv} {ro : Nat → Rw} {lb : List Lb} {ps : List (Nat × Int64)} {ac : Nat → Wn} {jr bo : List Ln} {mo : Int32} {gi : Int64} {tr tp wy wh : Int32} {tc : List Int32} {st : List Int64} {ds : List (Nat × Int64)} {dw : Wn} {bf : Nat → Int32} {ba : Wn} {bc : List Nat} (h : zCe M g A AL x adr ga nb bs ro lb ps ac jr bo mo gi tr tp wy wh tc st ds dw bf ba bc) : zLs M g AL lb := h.2.2.2.2.2.2.1
theorem zCe.pk {M : Zm} {g : Zg} {A AL : Nat → Nat} {x : Nat} {adr : Nat → Nat} {ga nb : Nat} {bs : Nat → Bv} {ro : Nat → Rw} {lb : List Lb} {ps : List (Nat × Int64)} {ac : Nat → Wn} {jr bo : List Ln} {mo : Int32} {gi : Int64} {tr tp wy wh : Int32} {tc : List Int32} {st : List Int64} {ds : List (Nat × Int64)} {dw : Wn} {bf : Nat → Int32} {ba : Wn} {bc : List Nat} (h : zCe M g A AL x adr ga nb bs ro lb ps ac jr bo mo gi tr tp wy wh tc st ds dw bf ba bc) : zPk M g A (adr 3) ps := h.2.2.2.2.2.2.2.1
theorem zCe.ac {M : Zm} {g : Zg} {A AL : Nat → Nat} {x : Nat} {adr : Nat → Nat} {ga nb : Nat} {bs : Nat → Bv} {ro : Nat → Rw} {lb : List Lb} {ps : List (Nat × Int64)} {ac : Nat → Wn} {jr bo : List Ln} {mo : Int32} {gi : Int64} {tr tp wy wh : Int32} {tc : List Int32} {st : List Int64} {ds : List (Nat × Int64)} {dw : Wn} {bf : Nat → Int32} {ba : Wn} {bc : List Nat} (h : zCe M g A AL x adr ga nb bs ro lb ps ac jr bo mo gi tr tp wy wh tc st ds dw bf ba bc) : zAc M g (adr 6) ac := by obtain ⟨cN, cO, cB, cBs, cRw, cLl, cLs, cPk, cJu, cPp, cAc, cBl, cJr, cBo, cDr, cBe, cT1, cT2⟩ := h; exact cAc
theorem zCe.jr {M : Zm} {g : Zg} {A AL : Nat → Nat} {x : Nat} {adr : Nat → Nat} {ga nb : Nat} {bs : Nat → Bv} {ro : Nat → Rw} {lb : List Lb} {ps : List (Nat × Int64)} {ac : Nat → Wn} {jr bo : List Ln} {mo : Int32} {gi : Int64} {tr tp wy wh : Int32} {tc : List Int32} {st : List Int64} {ds : List (Nat × Int64)} {dw : Wn} {bf : Nat → Int32} {ba : Wn} {bc : List Nat} (h : zCe M g A AL x adr ga nb bs ro lb ps ac jr bo mo gi tr tp wy wh tc st ds dw bf ba bc) : zLi M g 6 (adr 8) jr := by obtain ⟨cN, cO, cB, cBs, cRw, cLl, cLs, cPk, cJu, cPp, cAc, cBl, cJr, cBo, cDr, cBe, cT1, cT2⟩ := h; exact cJr
theorem zCe.bo {M : Zm} {g : Zg} {A AL : Nat → Nat} {x : Nat} {adr : Nat → Nat} {ga nb : Nat} {bs : Nat → Bv} {ro : Nat → Rw} {lb : List Lb} {ps : List (Nat × Int64)} {ac : Nat → Wn} {jr bo : List Ln} {mo : Int32} {gi : Int64} {tr tp wy wh : Int32} {tc : List Int32} {st : List Int64} {ds : List (Nat × Int64)} {dw : Wn} {bf : Nat → Int32} {ba : Wn} {bc : List Nat} (h : zCe M g A AL x adr ga nb bs ro lb ps ac jr bo mo gi tr tp wy wh tc st ds dw bf ba bc) : zLi M g 7 (adr 9) bo := by obtain ⟨cN, cO, cB, cBs, cRw, cLl, cLs, cPk, cJu, cPp, cAc, cBl, cJr, cBo, cDr, cBe, cT1, cT2⟩ := h; exact cBo
theorem zCe.dr {M : Zm} {g : Zg} {A AL : Nat → Nat} {x : Nat} {adr : Nat → Nat} {ga nb : Nat} {bs : Nat → Bv} {ro : Nat → Rw} {lb : List Lb} {ps : List (Nat × Int64)} {ac : Nat → Wn} {jr bo : List Ln} {mo : Int32} {gi : Int64} {tr tp wy wh : Int32} {tc : List Int32} {st : List Int64} {ds : List (Nat × Int64)} {dw : Wn} {bf : Nat → Int32} {ba : Wn} {bc : List Nat} (h : zCe M g A AL x adr ga nb bs ro lb ps ac jr bo mo gi tr tp wy wh tc st ds dw bf ba bc) : zDr M g A (adr 10) ga ds dw := by obtain ⟨cN, cO, cB, cBs, cRw, cLl, cLs, cPk, cJu, cPp, cAc, cBl, cJr, cBo, cDr, cBe, cT1, cT2⟩ := h; exact cDr
theorem zCe.be {M : Zm} {g : Zg} {A AL : Nat → Nat} {x : Nat} {adr : Nat → Nat} {ga nb : Nat} {bs : Nat → Bv} {ro : Nat → Rw} {lb : List Lb} {ps : List (Nat × Int64)} {ac : Nat → Wn} {jr bo : List Ln} {mo : Int32} {gi : Int64} {tr tp wy wh : Int32} {tc : List Int32} {st : List Int64} {ds : List (Nat × Int64)} {dw : Wn} {bf : Nat → Int32} {ba : Wn} {bc : List Nat} (h : zCe M g A AL x adr ga nb bs ro lb ps ac jr bo mo gi tr tp wy wh tc st ds dw bf ba bc) : zBe M g A (adr 11) bf ba bc := by obtain ⟨cN, cO, cB, cBs, cRw, cLl, cLs, cPk, cJu, cPp, cAc, cBl, cJr, cBo, cDr, cBe, cT1, cT2⟩ := h; exact cBe
theorem zCe.t1 {M : Zm} {g : Zg} {A AL : Nat → Nat} {x : Nat} {adr : Nat → Nat} {ga nb : Nat} {bs : Nat → Bv} {ro : Nat → Rw} {lb : List Lb} {ps : List (Nat × Int64)} {ac : Nat → Wn} {jr bo : List Ln} {mo : Int32} {gi : Int64} {tr tp wy wh : Int32} {tc : List Int32} {st : List Int64} {ds : List (Nat × Int64)} {dw : Wn} {bf : Nat → Int32} {ba : Wn} {bc : List Nat} (h : zCe M g A AL x adr ga nb bs ro lb ps ac jr bo mo gi tr tp wy wh tc st ds dw bf ba bc) : zTr M g 12 (adr 12) 200 tc := by obtain ⟨cN, cO, cB, cBs, cRw, cLl, cLs, cPk, cJu, cPp, cAc, cBl, cJr, cBo, cDr, cBe, cT1, cT2⟩ := h; exact cT1
theorem zCe.t2 {M : Zm} {g : Zg} {A AL : Nat → Nat} {x : Nat} {adr : Nat → Nat} {ga nb : Nat} {bs : Nat → Bv} {ro : Nat → Rw} {lb : List Lb} {ps : List (Nat × Int64)} {ac : Nat → Wn} {jr bo : List Ln} {mo : Int32} {gi : Int64} {tr tp wy wh : Int32} {tc : List Int32} {st : List Int64} {ds : List (Nat × Int64)} {dw : Wn} {bf : Nat → Int32} {ba : Wn} {bc : List Nat} (h : zCe M g A AL x adr ga nb bs ro lb ps ac jr bo mo gi tr tp wy wh tc st ds dw bf ba bc) : zTr M g 13 (adr 13) 0 [] := by obtain ⟨cN, cO, cB, cBs, cRw, cLl, cLs, cPk, cJu, cPp, cAc, cBl, cJr, cBo, cDr, cBe, cT1, cT2⟩ := h; exact cT2
theorem zev_of {β : Type} {o : Option β} {y : β} (h : zev o (fun z => z = y)) : o = some y := by
  obtain ⟨z, h1, rfl⟩ := h
  exact h1
theorem range_at {A : Nat → Nat} {n b : Nat} (h : b < n) : ((List.range n).map A)[b]? = some (A b) := by
  rw [List.getElem?_map, List.getElem?_range h]; rfl
theorem range_len {A : Nat → Nat} {n : Nat} : ((List.range n).map A).length = n := by rw [List.length_map, List.length_range]
theorem zCe_size {M : Zm} {g : Zg} {A AL : Nat → Nat} {x : Nat} {adr : Nat → Nat} {ga nb : Nat} {bs : Nat → Bv} {ro : Nat → Rw} {lb : List Lb} {ps : List (Nat × Int64)} {ac : Nat → Wn} {jr bo : List Ln} {mo : Int32} {gi : Int64} {tr tp wy wh : Int32} {tc : List Int32} {st : List Int64} {ds : List (Nat × Int64)} {dw : Wn} {bf : Nat → Int32} {ba : Wn} {bc : List Nat} (h : zCe M g A AL x adr ga nb bs ro lb ps ac jr bo mo gi tr tp wy wh tc st ds dw bf ba bc) : zf_Jx4a65c_size_8abf5 M (some (adr 0)) = some (M, nI nb) := by
  have := zAl_size h.bl
  rw [range_len] at this
  exact this
theorem zCe_get {M : Zm} {g : Zg} {A AL : Nat → Nat} {x : Nat} {adr : Nat → Nat} {ga nb : Nat} {bs : Nat → Bv} {ro : Nat → Rw} {lb : List Lb} {ps : List (Nat × Int64)} {ac : Nat → Wn} {jr bo : List Ln} {mo : Int32} {gi : Int64} {tr tp wy wh : Int32} {tc : List Int32} {st : List Int64} {ds : List (Nat × Int64)} {dw : Wn} {bf : Nat → Int32} {ba : Wn} {bc : List Nat} (h : zCe M g A AL x adr ga nb bs ro lb ps ac jr bo mo gi tr tp wy wh tc st ds dw bf ba bc) {b : Nat} (hb : b < nb) : zf_Jx4a65c_get_915e3 M (some (adr 0)) (nI b) = some (M, some (A b)) := zAl_get h.bl (range_at hb)
/-- 0, or why not -/
def lk (nb : Nat) (b : Int32) : Int32 := if b < 0 then 3 else if b < 1000 then (if b < nI nb then 0 else 2) else 3
theorem lk_0 {nb : Nat} {b : Int32} (hn : nb ≤ 1000) (h : lk nb b = 0) : ∃ n, n < nb ∧ b = nI n := by
  unfold lk at h
  by_cases h1 : b < 0
  · rw [if_pos h1] at h; exact absurd h (by decide)
  · rw [if_neg h1] at h
    obtain ⟨j, hj, rfl⟩ := nI_of h1
    by_cases h2 : nI j < 1000
    · rw [if_pos h2] at h
      by_cases h3 : nI j < nI nb
      · exact ⟨j, (nI_ltI hj (by omega)).mp h3, rfl⟩
      · rw [if_neg h3] at h; exact absurd h (by decide)
    · rw [if_neg h2] at h; exact absurd h (by decide)
theorem zCe_lk {M : Zm} {g : Zg} {A AL : Nat → Nat} {x : Nat} {adr : Nat → Nat} {ga nb : Nat} {bs : Nat → Bv} {ro : Nat → Rw} {lb : List Lb} {ps : List (Nat × Int64)} {ac : Nat → Wn} {jr bo : List Ln} {mo : Int32} {gi : Int64} {tr tp wy wh : Int32} {tc : List Int32} {st : List Int64} {ds : List (Nat × Int64)} {dw : Wn} {bf : Nat → Int32} {ba : Wn} {bc : List Nat} (h : zCe M g A AL x adr ga nb bs ro lb ps ac jr bo mo gi tr tp wy wh tc st ds dw bf ba bc) (b : Int32) : zf_X11_lookUp M (some x) b = some (M, lk nb b) := by
  refine zev_of ?_
  unfold lk
  by_cases h1 : b < 0
  · simp only [zf_X11_lookUp, if_pos h1, zev_some]
  · by_cases h2 : b < 1000
    · simp only [zf_X11_lookUp, if_neg h1, if_pos h2, zev_b1, zev_bd, zev_some, zev_gi, zev_gj, zev_gr, zev_pi, zev_pz, zev_pj, zev_pr, zev_rc, zev_cc, zev_b0, zev_bo, true_and, and_true, h.O, h.r (show 0 < 14 by decide), h.bl.O, zev_eq (zCe_size h)]
      by_cases h3 : b < nI nb
      · simp only [if_pos h3, zev_some]
      · simp only [if_neg h3, zev_some]
    · simp only [zf_X11_lookUp, if_neg h1, if_neg h2, zev_some]
def lkv (nb : Nat) (bs : Nat → Bv) (b : Int32) : Int32 := if lk nb b = 0 then (if (bs b.toNatClampNeg).1.1 = 5 then 4 else 0) else lk nb b
theorem lkv_0 {nb : Nat} {bs : Nat → Bv} {b : Int32} (hn : nb ≤ 1000) (h : lkv nb bs b = 0) : ∃ n, n < nb ∧ b = nI n ∧ (bs n).1.1 ≠ 5 := by
  unfold lkv at h
  by_cases h1 : lk nb b = 0
  · obtain ⟨n, h2, rfl⟩ := lk_0 hn h1
    rw [if_pos h1, nI_clamp (show n < 2 ^ 31 by omega)] at h
    by_cases h3 : (bs n).1.1 = 5
    · rw [if_pos h3] at h; exact absurd h (by decide)
    · exact ⟨n, h2, rfl, h3⟩
  · rw [if_neg h1] at h; exact absurd h h1
theorem zCe_lkv {M : Zm} {g : Zg} {A AL : Nat → Nat} {x : Nat} {adr : Nat → Nat} {ga nb : Nat} {bs : Nat → Bv} {ro : Nat → Rw} {lb : List Lb} {ps : List (Nat × Int64)} {ac : Nat → Wn} {jr bo : List Ln} {mo : Int32} {gi : Int64} {tr tp wy wh : Int32} {tc : List Int32} {st : List Int64} {ds : List (Nat × Int64)} {dw : Wn} {bf : Nat → Int32} {ba : Wn} {bc : List Nat} (h : zCe M g A AL x adr ga nb bs ro lb ps ac jr bo mo gi tr tp wy wh tc st ds dw bf ba bc) (b : Int32) : zf_X11_lookUpVessel M (some x) b = some (M, lkv nb bs b) := by
  refine zev_of ?_
  unfold lkv
  simp only [zf_X11_lookUpVessel, zev_b1, zev_bd, zev_some, zev_gi, zev_gj, zev_gr, zev_pi, zev_pz, zev_pj, zev_pr, zev_rc, zev_cc, zev_b0, zev_bo, true_and, and_true, h.O, zev_eq (zCe_lk h b)]
  by_cases h1 : lk nb b = 0
  · obtain ⟨n, h2, rfl⟩ := lk_0 h.N h1
    have hN := h.N
    rw [if_pos h1, if_pos h1, nI_clamp (show n < 2 ^ 31 by omega)]
    simp only [zev_b1, zev_bd, zev_some, zev_gi, zev_gj, zev_gr, zev_pi, zev_pz, zev_pj, zev_pr, zev_rc, zev_cc, zev_b0, zev_bo, true_and, and_true, h.O, h.r (show 0 < 14 by decide), h.bl.O, zev_eq (zCe_get h h2), (h.bs h2).O, (h.bs h2).kd]
    by_cases h3 : (bs n).1.1 = 5
    · simp only [if_pos h3, zev_some]
    · simp only [if_neg h3, zev_some, h1]
  · rw [if_neg h1, if_neg h1]
    simp only [zev_some]
def lkc (nb : Nat) (bs : Nat → Bv) (b : Int32) : Int32 := if lk nb b = 0 then (if (bs b.toNatClampNeg).1.1 = 5 then 0 else 4) else lk nb b
theorem lkc_0 {nb : Nat} {bs : Nat → Bv} {b : Int32} (hn : nb ≤ 1000) (h : lkc nb bs b = 0) : ∃ n, n < nb ∧ b = nI n ∧ (bs n).1.1 = 5 := by
  unfold lkc at h
  by_cases h1 : lk nb b = 0
  · obtain ⟨n, h2, rfl⟩ := lk_0 hn h1
    rw [if_pos h1, nI_clamp (show n < 2 ^ 31 by omega)] at h
    by_cases h3 : (bs n).1.1 = 5
    · exact ⟨n, h2, rfl, h3⟩
    · rw [if_neg h3] at h; exact absurd h (by decide)
  · rw [if_neg h1] at h; exact absurd h h1
theorem zCe_lkc {M : Zm} {g : Zg} {A AL : Nat → Nat} {x : Nat} {adr : Nat → Nat} {ga nb : Nat} {bs : Nat → Bv} {ro : Nat → Rw} {lb : List Lb} {ps : List (Nat × Int64)} {ac : Nat → Wn} {jr bo : List Ln} {mo : Int32} {gi : Int64} {tr tp wy wh : Int32} {tc : List Int32} {st : List Int64} {ds : List (Nat × Int64)} {dw : Wn} {bf : Nat → Int32} {ba : Wn} {bc : List Nat} (h : zCe M g A AL x adr ga nb bs ro lb ps ac jr bo mo gi tr tp wy wh tc st ds dw bf ba bc) (b : Int32) : zf_X11_lookUpCask M (some x) b = some (M, lkc nb bs b) := by
  refine zev_of ?_
  unfold lkc
  simp only [zf_X11_lookUpCask, zev_b1, zev_bd, zev_some, zev_gi, zev_gj, zev_gr, zev_pi, zev_pz, zev_pj, zev_pr, zev_rc, zev_cc, zev_b0, zev_bo, true_and, and_true, h.O, zev_eq (zCe_lk h b)]
  by_cases h1 : lk nb b = 0
  · obtain ⟨n, h2, rfl⟩ := lk_0 h.N h1
    have hN := h.N
    rw [if_pos h1, if_pos h1, nI_clamp (show n < 2 ^ 31 by omega)]
    simp only [zev_b1, zev_bd, zev_some, zev_gi, zev_gj, zev_gr, zev_pi, zev_pz, zev_pj, zev_pr, zev_rc, zev_cc, zev_b0, zev_bo, true_and, and_true, h.O, h.r (show 0 < 14 by decide), h.bl.O, zev_eq (zCe_get h h2), (h.bs h2).O, (h.bs h2).kd]
    by_cases h3 : (bs n).1.1 = 5
    · simp only [if_pos h3, zev_some, h1]
    · simp only [if_neg h3, zev_some]
  · rw [if_neg h1, if_neg h1]
    simp only [zev_some]
def lkf (nb : Nat) (bs : Nat → Bv) (b : Int32) : Int32 := if lkv nb bs b = 0 then (if (bs b.toNatClampNeg).2.1.2.1 < 10000 then 0 else 9) else lkv nb bs b
theorem lkf_0 {nb : Nat} {bs : Nat → Bv} {b : Int32} (hn : nb ≤ 1000) (h : lkf nb bs b = 0) : ∃ n, n < nb ∧ b = nI n ∧ (bs n).1.1 ≠ 5 ∧ (bs n).2.1.2.1 < 10000 := by
  unfold lkf at h
  by_cases h1 : lkv nb bs b = 0
  · obtain ⟨n, h2, rfl, h4⟩ := lkv_0 hn h1
    rw [if_pos h1, nI_clamp (show n < 2 ^ 31 by omega)] at h
    by_cases h3 : (bs n).2.1.2.1 < 10000
    · exact ⟨n, h2, rfl, h4, h3⟩
    · rw [if_neg h3] at h; exact absurd h (by decide)
  · rw [if_neg h1] at h; exact absurd h h1
theorem zCe_lkf {M : Zm} {g : Zg} {A AL : Nat → Nat} {x : Nat} {adr : Nat → Nat} {ga nb : Nat} {bs : Nat → Bv} {ro : Nat → Rw} {lb : List Lb} {ps : List (Nat × Int64)} {ac : Nat → Wn} {jr bo : List Ln} {mo : Int32} {gi : Int64} {tr tp wy wh : Int32} {tc : List Int32} {st : List Int64} {ds : List (Nat × Int64)} {dw : Wn} {bf : Nat → Int32} {ba : Wn} {bc : List Nat} (h : zCe M g A AL x adr ga nb bs ro lb ps ac jr bo mo gi tr tp wy wh tc st ds dw bf ba bc) (b : Int32) : zf_X11_lookUpFreeVessel M (some x) b = some (M, lkf nb bs b) := by
  refine zev_of ?_
  unfold lkf
  simp only [zf_X11_lookUpFreeVessel, zev_b1, zev_bd, zev_some, zev_gi, zev_gj, zev_gr, zev_pi, zev_pz, zev_pj, zev_pr, zev_rc, zev_cc, zev_b0, zev_bo, true_and, and_true, h.O, zev_eq (zCe_lkv h b)]
  by_cases h1 : lkv nb bs b = 0
  · obtain ⟨n, h2, rfl, h4⟩ := lkv_0 h.N h1
    have hN := h.N
    rw [if_pos h1, if_pos h1, nI_clamp (show n < 2 ^ 31 by omega)]
    simp only [zev_b1, zev_bd, zev_some, zev_gi, zev_gj, zev_gr, zev_pi, zev_pz, zev_pj, zev_pr, zev_rc, zev_cc, zev_b0, zev_bo, true_and, and_true, h.O, h.r (show 0 < 14 by decide), h.bl.O, zev_eq (zCe_get h h2), (h.bs h2).O, zev_eq (zBa_inCask (h.bs h2))]
    by_cases h3 : (bs n).2.1.2.1 < 10000
    · simp only [if_pos h3, zev_some, h1, if_true]
    · simp only [if_neg h3, zev_some, show ¬ (1 : Int32) = 0 from by decide, if_false]
  · rw [if_neg h1, if_neg h1]
    simp only [zev_some]
def lkp (nb : Nat) (bs : Nat → Bv) (b i : Int32) : Int32 := if lkv nb bs b = 0 then (if nI (bs b.toNatClampNeg).2.1.2.2.2.length = 0 then 2 else if i < 0 then 3 else if i < nI (bs b.toNatClampNeg).2.1.2.2.2.length then 0 else 3) else lkv nb bs b
theorem zCe_lkp {M : Zm} {g : Zg} {A AL : Nat → Nat} {x : Nat} {adr : Nat → Nat} {ga nb : Nat} {bs : Nat → Bv} {ro : Nat → Rw} {lb : List Lb} {ps : List (Nat × Int64)} {ac : Nat → Wn} {jr bo : List Ln} {mo : Int32} {gi : Int64} {tr tp wy wh : Int32} {tc : List Int32} {st : List Int64} {ds : List (Nat × Int64)} {dw : Wn} {bf : Nat → Int32} {ba : Wn} {bc : List Nat} (h : zCe M g A AL x adr ga nb bs ro lb ps ac jr bo mo gi tr tp wy wh tc st ds dw bf ba bc) (b i : Int32) : zf_X11_lookUpPart M (some x) b i = some (M, lkp nb bs b i) := by
  refine zev_of ?_
  unfold lkp
  simp only [zf_X11_lookUpPart, zf_X11_lookUpPart_J48, zev_b1, zev_bd, zev_some, zev_gi, zev_gj, zev_gr, zev_pi, zev_pz, zev_pj, zev_pr, zev_rc, zev_cc, zev_b0, zev_bo, true_and, and_true, h.O, zev_eq (zCe_lkv h b)]
  by_cases h1 : lkv nb bs b = 0
  · obtain ⟨n, h2, rfl, h4⟩ := lkv_0 h.N h1
    have hN := h.N
    rw [if_pos h1, if_pos h1, nI_clamp (show n < 2 ^ 31 by omega)]
    obtain ⟨wa, w1, w2⟩ := (h.bs h2).wn
    simp only [zev_b1, zev_bd, zev_some, zev_gi, zev_gj, zev_gr, zev_pi, zev_pz, zev_pj, zev_pr, zev_rc, zev_cc, zev_b0, zev_bo, true_and, and_true, h.O, h.r (show 0 < 14 by decide), h.bl.O, zev_eq (zCe_get h h2), (h.bs h2).O, w1, w2.O, w2.cnt]
    repeat' split
    all_goals simp only [zev_some]
  · rw [if_neg h1, if_neg h1]
    simp only [zev_some]
def lkl (n : Nat) (l : Int32) : Int32 := if l < 0 then 3 else if l < 40 then (if l < nI n then 0 else 2) else 3
theorem lkl_0 {n : Nat} {l : Int32} (hn : n ≤ 40) (h : lkl n l = 0) : ∃ i, i < n ∧ l = nI i := by
  unfold lkl at h
  by_cases h1 : l < 0
  · rw [if_pos h1] at h; exact absurd h (by decide)
  · rw [if_neg h1] at h
    obtain ⟨j, hj, rfl⟩ := nI_of h1
    by_cases h2 : nI j < 40
    · rw [if_pos h2] at h
      by_cases h3 : nI j < nI n
      · exact ⟨j, (nI_ltI hj (by omega)).mp h3, rfl⟩
      · rw [if_neg h3] at h; exact absurd h (by decide)
    · rw [if_neg h2] at h; exact absurd h (by decide)
theorem zCe_lkl {M : Zm} {g : Zg} {A AL : Nat → Nat} {x : Nat} {adr : Nat → Nat} {ga nb : Nat} {bs : Nat → Bv} {ro : Nat → Rw} {lb : List Lb} {ps : List (Nat × Int64)} {ac : Nat → Wn} {jr bo : List Ln} {mo : Int32} {gi : Int64} {tr tp wy wh : Int32} {tc : List Int32} {st : List Int64} {ds : List (Nat × Int64)} {dw : Wn} {bf : Nat → Int32} {ba : Wn} {bc : List Nat} (h : zCe M g A AL x adr ga nb bs ro lb ps ac jr bo mo gi tr tp wy wh tc st ds dw bf ba bc) (l : Int32) : zf_X11_lookUpLabel M (some x) l = some (M, lkl lb.length l) := by
  refine zev_of ?_
  have hs := zAl_size h.ll
  rw [range_len] at hs
  unfold lkl
  by_cases h1 : l < 0
  · simp only [zf_X11_lookUpLabel, if_pos h1, zev_some]
  · by_cases h2 : l < 40
    · simp only [zf_X11_lookUpLabel, if_neg h1, if_pos h2, zev_b1, zev_bd, zev_some, zev_gi, zev_gj, zev_gr, zev_pi, zev_pz, zev_pj, zev_pr, zev_rc, zev_cc, zev_b0, zev_bo, true_and, and_true, h.O, h.r (show 2 < 14 by decide), h.ll.O, zev_eq hs]
      by_cases h3 : l < nI lb.length
      · simp only [if_pos h3, zev_some]
      · simp only [if_neg h3, zev_some]
    · simp only [zf_X11_lookUpLabel, if_neg h1, if_neg h2, zev_some]
def cpr (bs : Nat → Bv) (a b : Int32) : Int32 := if a = b then 13 else if (bs a.toNatClampNeg).2.1.2.1 < 10000 then (if (bs b.toNatClampNeg).2.1.2.1 < 10000 then 0 else 9) else 9
theorem zCe_cpr {M : Zm} {g : Zg} {A AL : Nat → Nat} {x : Nat} {adr : Nat → Nat} {ga nb : Nat} {bs : Nat → Bv} {ro : Nat → Rw} {lb : List Lb} {ps : List (Nat × Int64)} {ac : Nat → Wn} {jr bo : List Ln} {mo : Int32} {gi : Int64} {tr tp wy wh : Int32} {tc : List Int32} {st : List Int64} {ds : List (Nat × Int64)} {dw : Wn} {bf : Nat → Int32} {ba : Wn} {bc : List Nat} (h : zCe M g A AL x adr ga nb bs ro lb ps ac jr bo mo gi tr tp wy wh tc st ds dw bf ba bc) {a b : Nat} (ha : a < nb) (hb : b < nb) : zf_X11_checkPair M (some x) (nI a) (nI b) = some (M, cpr bs (nI a) (nI b)) := by
  refine zev_of ?_
  have hN := h.N
  unfold cpr
  rw [nI_clamp (show a < 2 ^ 31 by omega), nI_clamp (show b < 2 ^ 31 by omega)]
  by_cases h1 : nI a = nI b
  · simp only [zf_X11_checkPair, if_pos h1, zev_some]
  · simp only [zf_X11_checkPair, zf_X11_checkPair_J42, if_neg h1, zev_b1, zev_bd, zev_some, zev_gi, zev_gj, zev_gr, zev_pi, zev_pz, zev_pj, zev_pr, zev_rc, zev_cc, zev_b0, zev_bo, true_and, and_true, h.O, h.r (show 0 < 14 by decide), h.bl.O, zev_eq (zCe_get h ha), zev_eq (zCe_get h hb), (h.bs ha).O, (h.bs hb).O, zev_eq (zBa_inCask (h.bs ha))]
    by_cases h3 : (bs a).2.1.2.1 < 10000
    · simp only [if_pos h3, if_true, zev_b1, zev_bd, zev_some, zev_gi, zev_gj, zev_gr, zev_pi, zev_pz, zev_pj, zev_pr, zev_rc, zev_cc, zev_b0, zev_bo, true_and, and_true, h.O, h.r (show 0 < 14 by decide), h.bl.O, zev_eq (zCe_get h hb), (h.bs hb).O, zev_eq (zBa_inCask (h.bs hb))]
      by_cases h4 : (bs b).2.1.2.1 < 10000
      · simp only [if_pos h4, if_true, zev_some]
      · simp only [if_neg h4, show ¬ (1 : Int32) = 0 from by decide, if_false, zev_some]
    · simp only [if_neg h3, show ¬ (1 : Int32) = 0 from by decide, if_false, zev_some]
def rpl (ro : Nat → Rw) (r p : Int32) : Int32 := if r < 0 then 3 else if r < 20 then (match ro r.toNatClampNeg with | none => 6 | some q => if p < 0 then 3 else if p < nI q.2.length then 0 else 3) else 3
theorem zCe_rpl {M : Zm} {g : Zg} {A AL : Nat → Nat} {x : Nat} {adr : Nat → Nat} {ga nb : Nat} {bs : Nat → Bv} {ro : Nat → Rw} {lb : List Lb} {ps : List (Nat × Int64)} {ac : Nat → Wn} {jr bo : List Ln} {mo : Int32} {gi : Int64} {tr tp wy wh : Int32} {tc : List Int32} {st : List Int64} {ds : List (Nat × Int64)} {dw : Wn} {bf : Nat → Int32} {ba : Wn} {bc : List Nat} (h : zCe M g A AL x adr ga nb bs ro lb ps ac jr bo mo gi tr tp wy wh tc st ds dw bf ba bc) (r p : Int32) : zf_X11_readPlace M (some x) r p = some (M, rpl ro r p) := by
  refine zev_of ?_
  unfold rpl
  by_cases h1 : r < 0
  · simp only [zf_X11_readPlace, if_pos h1, zev_some]
  · by_cases h2 : r < 20
    · obtain ⟨j, hj, rfl⟩ := nI_of h1
      have hj2 : j < 20 := (nI_ltI hj (show 20 < 2 ^ 31 by decide)).mp h2
      rw [if_neg h1, if_pos h2, nI_clamp hj]
      obtain ⟨q1, q2, q3, q4⟩ := h.rs
      rcases q4 j hj2 with ⟨e1, e2⟩ | ⟨w, k, pl, e1, e2, e3, e4⟩
      · rw [e1]
        simp only [zf_X11_readPlace, if_neg h1, if_pos h2, zev_b1, zev_bd, zev_some, zev_gi, zev_gj, zev_gr, zev_pi, zev_pz, zev_pj, zev_pr, zev_rc, zev_cc, zev_b0, zev_bo, true_and, and_true, h.O, h.r (show 1 < 14 by decide), zev_ar2 hj, q1, q2, hj2, e2, if_true]
      · rw [e1]
        obtain ⟨w1, w2, w3, w4, pa, s1, s2, s3, s4, s5⟩ := e3
        simp only [zf_X11_readPlace, zf_X11_readPlace_J42, if_neg h1, if_pos h2, zev_b1, zev_bd, zev_some, zev_gi, zev_gj, zev_gr, zev_pi, zev_pz, zev_pj, zev_pr, zev_rc, zev_cc, zev_b0, zev_bo, true_and, and_true, h.O, h.r (show 1 < 14 by decide), zev_ar2 hj, q1, q2, hj2, e2, reduceCtorEq, if_false]
        by_cases h3 : p < 0
        · simp only [if_pos h3, zev_some]
        · simp only [if_neg h3, zev_b1, zev_bd, zev_some, zev_gi, zev_gj, zev_gr, zev_pi, zev_pz, zev_pj, zev_pr, zev_rc, zev_cc, zev_b0, zev_bo, true_and, and_true, h.O, h.r (show 1 < 14 by decide), zev_ar2 hj, q1, q2, hj2, e2, w1, s1, zev_al2 s2 (by decide) (by decide), s3]
          by_cases h4 : p < nI pl.length
          · simp only [if_pos h4, zev_some]
          · simp only [if_neg h4, zev_some]
    · simp only [zf_X11_readPlace, if_neg h1, if_neg h2, zev_some]
