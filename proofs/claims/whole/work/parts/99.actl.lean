/-! Questions; forget, partAt, amountAt, room. -/
theorem zCe.pp {M : Zm} {g : Zg} {A AL : Nat → Nat} {x : Nat} {adr : Nat → Nat} {ga nb : Nat} {bs : Nat → Bv} {ro : Nat → Rw} {lb : List Lb} {ps : List (Nat × Int64)} {ac : Nat → Wn} {jr bo : List Ln} {mo : Int32} {gi : Int64} {tr tp wy wh : Int32} {tc : List Int32} {st : List Int64} {ds : List (Nat × Int64)} {dw : Wn} {bf : Nat → Int32} {ba : Wn} {bc : List Nat} (h : zCe M g A AL x adr ga nb bs ro lb ps ac jr bo mo gi tr tp wy wh tc st ds dw bf ba bc) : zPp M g (adr 5) st := by obtain ⟨cN, cO, cB, cBs, cRw, cLl, cLs, cPk, cJu, cPp, cAc, cBl, cJr, cBo, cDr, cBe, cT1, cT2⟩ := h; exact cPp
theorem Q_kindOf {M : Zm} {g : Zg} {A AL : Nat → Nat} {x : Nat} {adr : Nat → Nat} {ga nb : Nat} {bs : Nat → Bv} {ro : Nat → Rw} {lb : List Lb} {ps : List (Nat × Int64)} {ac : Nat → Wn} {jr bo : List Ln} {mo : Int32} {gi : Int64} {tr tp wy wh : Int32} {tc : List Int32} {st : List Int64} {ds : List (Nat × Int64)} {dw : Wn} {bf : Nat → Int32} {ba : Wn} {bc : List Nat} (h : zCe M g A AL x adr ga nb bs ro lb ps ac jr bo mo gi tr tp wy wh tc st ds dw bf ba bc) (b : Int32) : zf_X11_kindOf M (some x) b = some (M, match fnd nb b with | none => 0 | some n => (bs n).1.1) := by
  refine zev_of ?_
  simp only [zf_X11_kindOf, zev_b1, zev_bd, zev_some, zev_gi, zev_gj, zev_gr, zev_pi, zev_pz, zev_pj, zev_pr, zev_rc, zev_cc, zev_b0, zev_bo, true_and, and_true, h.O, zev_eq (zCe_find h b)]
  cases hf : fnd nb b with
  | none => simp only [Option.map_none, if_true, zev_b1, zev_bd, zev_some, zev_gi, zev_gj, zev_gr, zev_pi, zev_pz, zev_pj, zev_pr, zev_rc, zev_cc, zev_b0, zev_bo, true_and, and_true]
  | some n =>
    have hn := fnd_some h.N hf
    simp only [Option.map_some, reduceCtorEq, if_false, zev_b1, zev_bd, zev_some, zev_gi, zev_gj, zev_gr, zev_pi, zev_pz, zev_pj, zev_pr, zev_rc, zev_cc, zev_b0, zev_bo, true_and, and_true, (h.bs hn.1).O, (h.bs hn.1).kd]
theorem Q_where {M : Zm} {g : Zg} {A AL : Nat → Nat} {x : Nat} {adr : Nat → Nat} {ga nb : Nat} {bs : Nat → Bv} {ro : Nat → Rw} {lb : List Lb} {ps : List (Nat × Int64)} {ac : Nat → Wn} {jr bo : List Ln} {mo : Int32} {gi : Int64} {tr tp wy wh : Int32} {tc : List Int32} {st : List Int64} {ds : List (Nat × Int64)} {dw : Wn} {bf : Nat → Int32} {ba : Wn} {bc : List Nat} (h : zCe M g A AL x adr ga nb bs ro lb ps ac jr bo mo gi tr tp wy wh tc st ds dw bf ba bc) (b : Int32) : zf_X11_where M (some x) b = some (M, match fnd nb b with | none => -1 | some n => (bs n).2.1.2.1) := by
  refine zev_of ?_
  simp only [zf_X11_where, zev_b1, zev_bd, zev_some, zev_gi, zev_gj, zev_gr, zev_pi, zev_pz, zev_pj, zev_pr, zev_rc, zev_cc, zev_b0, zev_bo, true_and, and_true, h.O, zev_eq (zCe_find h b)]
  cases hf : fnd nb b with
  | none => simp only [Option.map_none, if_true, zev_b1, zev_bd, zev_some, zev_gi, zev_gj, zev_gr, zev_pi, zev_pz, zev_pj, zev_pr, zev_rc, zev_cc, zev_b0, zev_bo, true_and, and_true]
  | some n =>
    have hn := fnd_some h.N hf
    simp only [Option.map_some, reduceCtorEq, if_false, zev_b1, zev_bd, zev_some, zev_gi, zev_gj, zev_gr, zev_pi, zev_pz, zev_pj, zev_pr, zev_rc, zev_cc, zev_b0, zev_bo, true_and, and_true, (h.bs hn.1).O, (h.bs hn.1).pl]
theorem Q_amount {M : Zm} {g : Zg} {A AL : Nat → Nat} {x : Nat} {adr : Nat → Nat} {ga nb : Nat} {bs : Nat → Bv} {ro : Nat → Rw} {lb : List Lb} {ps : List (Nat × Int64)} {ac : Nat → Wn} {jr bo : List Ln} {mo : Int32} {gi : Int64} {tr tp wy wh : Int32} {tc : List Int32} {st : List Int64} {ds : List (Nat × Int64)} {dw : Wn} {bf : Nat → Int32} {ba : Wn} {bc : List Nat} (h : zCe M g A AL x adr ga nb bs ro lb ps ac jr bo mo gi tr tp wy wh tc st ds dw bf ba bc) (hI : Imem nb bs) (b : Int32) : zf_X11_amount M (some x) b = some (M, match fnd nb b with | none => 0 | some n => bhas bs (bs n)) := by
  refine zev_of ?_
  simp only [zf_X11_amount, zev_b1, zev_bd, zev_some, zev_gi, zev_gj, zev_gr, zev_pi, zev_pz, zev_pj, zev_pr, zev_rc, zev_cc, zev_b0, zev_bo, true_and, and_true, h.O, zev_eq (zCe_find h b)]
  cases hf : fnd nb b with
  | none => simp only [Option.map_none, if_true, zev_b1, zev_bd, zev_some, zev_gi, zev_gj, zev_gr, zev_pi, zev_pz, zev_pj, zev_pr, zev_rc, zev_cc, zev_b0, zev_bo, true_and, and_true]
  | some n =>
    have hn := fnd_some h.N hf
    simp only [Option.map_some, reduceCtorEq, if_false, zev_b1, zev_bd, zev_some, zev_gi, zev_gj, zev_gr, zev_pi, zev_pz, zev_pj, zev_pr, zev_rc, zev_cc, zev_b0, zev_bo, true_and, and_true, (h.bs hn.1).O, zev_eq (zBa_has (bs := bs) (h.bs hn.1) (fun m hm => h.bs (hI n hn.1 m hm).1))]
theorem Q_part {M : Zm} {g : Zg} {A AL : Nat → Nat} {x : Nat} {adr : Nat → Nat} {ga nb : Nat} {bs : Nat → Bv} {ro : Nat → Rw} {lb : List Lb} {ps : List (Nat × Int64)} {ac : Nat → Wn} {jr bo : List Ln} {mo : Int32} {gi : Int64} {tr tp wy wh : Int32} {tc : List Int32} {st : List Int64} {ds : List (Nat × Int64)} {dw : Wn} {bf : Nat → Int32} {ba : Wn} {bc : List Nat} (h : zCe M g A AL x adr ga nb bs ro lb ps ac jr bo mo gi tr tp wy wh tc st ds dw bf ba bc) (hI : Imem nb bs) (b p : Int32) : zf_X11_part M (some x) b p = some (M, match fnd nb b with | none => 0 | some n => bof bs (bs n) p) := by
  refine zev_of ?_
  simp only [zf_X11_part, zev_b1, zev_bd, zev_some, zev_gi, zev_gj, zev_gr, zev_pi, zev_pz, zev_pj, zev_pr, zev_rc, zev_cc, zev_b0, zev_bo, true_and, and_true, h.O, zev_eq (zCe_find h b)]
  cases hf : fnd nb b with
  | none => simp only [Option.map_none, if_true, zev_b1, zev_bd, zev_some, zev_gi, zev_gj, zev_gr, zev_pi, zev_pz, zev_pj, zev_pr, zev_rc, zev_cc, zev_b0, zev_bo, true_and, and_true]
  | some n =>
    have hn := fnd_some h.N hf
    simp only [Option.map_some, reduceCtorEq, if_false, zev_b1, zev_bd, zev_some, zev_gi, zev_gj, zev_gr, zev_pi, zev_pz, zev_pj, zev_pr, zev_rc, zev_cc, zev_b0, zev_bo, true_and, and_true, (h.bs hn.1).O, zev_eq (zBa_hasOf (bs := bs) (h.bs hn.1) (fun m hm => h.bs (hI n hn.1 m hm).1) p)]
theorem Q_parts {M : Zm} {g : Zg} {A AL : Nat → Nat} {x : Nat} {adr : Nat → Nat} {ga nb : Nat} {bs : Nat → Bv} {ro : Nat → Rw} {lb : List Lb} {ps : List (Nat × Int64)} {ac : Nat → Wn} {jr bo : List Ln} {mo : Int32} {gi : Int64} {tr tp wy wh : Int32} {tc : List Int32} {st : List Int64} {ds : List (Nat × Int64)} {dw : Wn} {bf : Nat → Int32} {ba : Wn} {bc : List Nat} (h : zCe M g A AL x adr ga nb bs ro lb ps ac jr bo mo gi tr tp wy wh tc st ds dw bf ba bc) (b : Int32) : zf_X11_parts M (some x) b = some (M, match fnd nb b with | none => 0 | some n => bcin (bs n)) := by
  refine zev_of ?_
  simp only [zf_X11_parts, zev_b1, zev_bd, zev_some, zev_gi, zev_gj, zev_gr, zev_pi, zev_pz, zev_pj, zev_pr, zev_rc, zev_cc, zev_b0, zev_bo, true_and, and_true, h.O, zev_eq (zCe_find h b)]
  cases hf : fnd nb b with
  | none => simp only [Option.map_none, if_true, zev_b1, zev_bd, zev_some, zev_gi, zev_gj, zev_gr, zev_pi, zev_pz, zev_pj, zev_pr, zev_rc, zev_cc, zev_b0, zev_bo, true_and, and_true]
  | some n =>
    have hn := fnd_some h.N hf
    simp only [Option.map_some, reduceCtorEq, if_false, zev_b1, zev_bd, zev_some, zev_gi, zev_gj, zev_gr, zev_pi, zev_pz, zev_pj, zev_pr, zev_rc, zev_cc, zev_b0, zev_bo, true_and, and_true, (h.bs hn.1).O, zev_eq (zBa_cin (h.bs hn.1))]
theorem Q_at {M : Zm} {g : Zg} {A AL : Nat → Nat} {x : Nat} {adr : Nat → Nat} {ga nb : Nat} {bs : Nat → Bv} {ro : Nat → Rw} {lb : List Lb} {ps : List (Nat × Int64)} {ac : Nat → Wn} {jr bo : List Ln} {mo : Int32} {gi : Int64} {tr tp wy wh : Int32} {tc : List Int32} {st : List Int64} {ds : List (Nat × Int64)} {dw : Wn} {bf : Nat → Int32} {ba : Wn} {bc : List Nat} (h : zCe M g A AL x adr ga nb bs ro lb ps ac jr bo mo gi tr tp wy wh tc st ds dw bf ba bc) (r p : Int32) : zf_X11_at M (some x) r p = some (M, if rpl ro r p = 0 then rcell ro r p else -1) := by
  refine zev_of ?_
  simp only [zf_X11_at, zev_b1, zev_bd, zev_some, zev_gi, zev_gj, zev_gr, zev_pi, zev_pz, zev_pj, zev_pr, zev_rc, zev_cc, zev_b0, zev_bo, true_and, and_true, h.O, zev_eq (zCe_rpl h r p)]
  by_cases h3 : rpl ro r p = 0
  · obtain ⟨i, j, kd, pl, rfl, hi, rfl, hr, hj, hjl⟩ := rpl_0 h3
    obtain ⟨w1, w2, w3, w4⟩ := h.row hi hr
    have hpl := zRo_len w2
    have hjp : j < pl.length := (nI_ltI hj (by omega)).mp hjl
    obtain ⟨v, hv⟩ := getElem?_lt hjp
    obtain ⟨s1, s2, s3, s4, pa, s5, s6, s7, s8, s9⟩ := w2
    have ec : rcell ro (nI i) (nI j) = v := by unfold rcell; rw [nI_clamp (show i < 2 ^ 31 by omega), hr]; dsimp only; rw [nI_clamp hj, hv]; rfl
    simp only [if_pos h3, ec, zev_b1, zev_bd, zev_some, zev_gi, zev_gj, zev_gr, zev_pi, zev_pz, zev_pj, zev_pr, zev_rc, zev_cc, zev_b0, zev_bo, true_and, and_true, h.O, h.r (show 1 < 14 by decide), zev_ar2 (show i < 2 ^ 31 by omega), w3, w4, hi, w1, s1, s5, zev_ai2 hj, s6, s7, hjp, s9 j v hv]
  · simp only [if_neg h3, zev_b1, zev_bd, zev_some, zev_gi, zev_gj, zev_gr, zev_pi, zev_pz, zev_pj, zev_pr, zev_rc, zev_cc, zev_b0, zev_bo, true_and, and_true]
theorem Q_account {M : Zm} {g : Zg} {A AL : Nat → Nat} {x : Nat} {adr : Nat → Nat} {ga nb : Nat} {bs : Nat → Bv} {ro : Nat → Rw} {lb : List Lb} {ps : List (Nat × Int64)} {ac : Nat → Wn} {jr bo : List Ln} {mo : Int32} {gi : Int64} {tr tp wy wh : Int32} {tc : List Int32} {st : List Int64} {ds : List (Nat × Int64)} {dw : Wn} {bf : Nat → Int32} {ba : Wn} {bc : List Nat} (h : zCe M g A AL x adr ga nb bs ro lb ps ac jr bo mo gi tr tp wy wh tc st ds dw bf ba bc) (p how : Int32) : zf_X11_account M (some x) p how = some (M, if how < 0 then 0 else if how < 5 then wlook p (ac how.toNatClampNeg) else 0) := by
  refine zev_of ?_
  by_cases h1 : how < 0
  · simp only [zf_X11_account, zf_X11_account_J9, if_pos h1, zev_b1, zev_bd, zev_some, zev_gi, zev_gj, zev_gr, zev_pi, zev_pz, zev_pj, zev_pr, zev_rc, zev_cc, zev_b0, zev_bo, true_and, and_true]
  · by_cases h2 : how < 5
    · obtain ⟨j, hj, rfl⟩ := nI_of h1
      have hj5 : j < 5 := (nI_ltI hj (show 5 < 2 ^ 31 by decide)).mp h2
      obtain ⟨a1, a2, a3, a4⟩ := h.ac
      obtain ⟨w, w1, w2⟩ := a4 j hj5
      simp only [zf_X11_account, if_neg h1, if_pos h2, nI_clamp hj, zev_b1, zev_bd, zev_some, zev_gi, zev_gj, zev_gr, zev_pi, zev_pz, zev_pj, zev_pr, zev_rc, zev_cc, zev_b0, zev_bo, true_and, and_true, h.O, h.r (show 6 < 14 by decide), zev_ar2 hj, a1, a2, hj5, w1, w2.O, zev_eq (zWo_amountOf w2 p)]
    · simp only [zf_X11_account, zf_X11_account_J9, if_neg h1, if_neg h2, zev_b1, zev_bd, zev_some, zev_gi, zev_gj, zev_gr, zev_pi, zev_pz, zev_pj, zev_pr, zev_rc, zev_cc, zev_b0, zev_bo, true_and, and_true]
theorem Q_month {M : Zm} {g : Zg} {A AL : Nat → Nat} {x : Nat} {adr : Nat → Nat} {ga nb : Nat} {bs : Nat → Bv} {ro : Nat → Rw} {lb : List Lb} {ps : List (Nat × Int64)} {ac : Nat → Wn} {jr bo : List Ln} {mo : Int32} {gi : Int64} {tr tp wy wh : Int32} {tc : List Int32} {st : List Int64} {ds : List (Nat × Int64)} {dw : Wn} {bf : Nat → Int32} {ba : Wn} {bc : List Nat} (h : zCe M g A AL x adr ga nb bs ro lb ps ac jr bo mo gi tr tp wy wh tc st ds dw bf ba bc) : zf_X11_month M (some x) = some (M, mo) := by
  refine zev_of ?_
  simp only [zf_X11_month, zev_b1, zev_bd, zev_some, zev_gi, zev_gj, zev_gr, zev_pi, zev_pz, zev_pj, zev_pr, zev_rc, zev_cc, zev_b0, zev_bo, true_and, and_true, h.O, h.co.2.2.2.1]
theorem Q_bottlings {M : Zm} {g : Zg} {A AL : Nat → Nat} {x : Nat} {adr : Nat → Nat} {ga nb : Nat} {bs : Nat → Bv} {ro : Nat → Rw} {lb : List Lb} {ps : List (Nat × Int64)} {ac : Nat → Wn} {jr bo : List Ln} {mo : Int32} {gi : Int64} {tr tp wy wh : Int32} {tc : List Int32} {st : List Int64} {ds : List (Nat × Int64)} {dw : Wn} {bf : Nat → Int32} {ba : Wn} {bc : List Nat} (h : zCe M g A AL x adr ga nb bs ro lb ps ac jr bo mo gi tr tp wy wh tc st ds dw bf ba bc) : zf_X11_bottlings M (some x) = some (M, nI bo.length) := by
  refine zev_of ?_
  simp only [zf_X11_bottlings, zev_b1, zev_bd, zev_some, zev_gi, zev_gj, zev_gr, zev_pi, zev_pz, zev_pj, zev_pr, zev_rc, zev_cc, zev_b0, zev_bo, true_and, and_true, h.O, h.r (show 9 < 14 by decide), h.bo.O, h.bo.cnt]
theorem Q_bottling {M : Zm} {g : Zg} {A AL : Nat → Nat} {x : Nat} {adr : Nat → Nat} {ga nb : Nat} {bs : Nat → Bv} {ro : Nat → Rw} {lb : List Lb} {ps : List (Nat × Int64)} {ac : Nat → Wn} {jr bo : List Ln} {mo : Int32} {gi : Int64} {tr tp wy wh : Int32} {tc : List Int32} {st : List Int64} {ds : List (Nat × Int64)} {dw : Wn} {bf : Nat → Int32} {ba : Wn} {bc : List Nat} (h : zCe M g A AL x adr ga nb bs ro lb ps ac jr bo mo gi tr tp wy wh tc st ds dw bf ba bc) (i w : Int32) : zf_X11_bottling M (some x) i w = some (M, lrd i w bo) := by
  refine zev_of ?_
  simp only [zf_X11_bottling, zev_b1, zev_bd, zev_some, zev_gi, zev_gj, zev_gr, zev_pi, zev_pz, zev_pj, zev_pr, zev_rc, zev_cc, zev_b0, zev_bo, true_and, and_true, h.O, h.r (show 9 < 14 by decide), h.bo.O, zev_eq (zLi_read h.bo i w)]
theorem Q_entries {M : Zm} {g : Zg} {A AL : Nat → Nat} {x : Nat} {adr : Nat → Nat} {ga nb : Nat} {bs : Nat → Bv} {ro : Nat → Rw} {lb : List Lb} {ps : List (Nat × Int64)} {ac : Nat → Wn} {jr bo : List Ln} {mo : Int32} {gi : Int64} {tr tp wy wh : Int32} {tc : List Int32} {st : List Int64} {ds : List (Nat × Int64)} {dw : Wn} {bf : Nat → Int32} {ba : Wn} {bc : List Nat} (h : zCe M g A AL x adr ga nb bs ro lb ps ac jr bo mo gi tr tp wy wh tc st ds dw bf ba bc) : zf_X11_entries M (some x) = some (M, nI jr.length) := by
  refine zev_of ?_
  simp only [zf_X11_entries, zev_b1, zev_bd, zev_some, zev_gi, zev_gj, zev_gr, zev_pi, zev_pz, zev_pj, zev_pr, zev_rc, zev_cc, zev_b0, zev_bo, true_and, and_true, h.O, h.r (show 8 < 14 by decide), h.jr.O, h.jr.cnt]
theorem Q_entry {M : Zm} {g : Zg} {A AL : Nat → Nat} {x : Nat} {adr : Nat → Nat} {ga nb : Nat} {bs : Nat → Bv} {ro : Nat → Rw} {lb : List Lb} {ps : List (Nat × Int64)} {ac : Nat → Wn} {jr bo : List Ln} {mo : Int32} {gi : Int64} {tr tp wy wh : Int32} {tc : List Int32} {st : List Int64} {ds : List (Nat × Int64)} {dw : Wn} {bf : Nat → Int32} {ba : Wn} {bc : List Nat} (h : zCe M g A AL x adr ga nb bs ro lb ps ac jr bo mo gi tr tp wy wh tc st ds dw bf ba bc) (i w : Int32) : zf_X11_entry M (some x) i w = some (M, lrd i w jr) := by
  refine zev_of ?_
  simp only [zf_X11_entry, zev_b1, zev_bd, zev_some, zev_gi, zev_gj, zev_gr, zev_pi, zev_pz, zev_pj, zev_pr, zev_rc, zev_cc, zev_b0, zev_bo, true_and, and_true, h.O, h.r (show 8 < 14 by decide), h.jr.O, zev_eq (zLi_read h.jr i w)]
theorem Q_tries {M : Zm} {g : Zg} {A AL : Nat → Nat} {x : Nat} {adr : Nat → Nat} {ga nb : Nat} {bs : Nat → Bv} {ro : Nat → Rw} {lb : List Lb} {ps : List (Nat × Int64)} {ac : Nat → Wn} {jr bo : List Ln} {mo : Int32} {gi : Int64} {tr tp wy wh : Int32} {tc : List Int32} {st : List Int64} {ds : List (Nat × Int64)} {dw : Wn} {bf : Nat → Int32} {ba : Wn} {bc : List Nat} (h : zCe M g A AL x adr ga nb bs ro lb ps ac jr bo mo gi tr tp wy wh tc st ds dw bf ba bc) : zf_X11_tries M (some x) = some (M, tr) := by
  refine zev_of ?_
  simp only [zf_X11_tries, zev_b1, zev_bd, zev_some, zev_gi, zev_gj, zev_gr, zev_pi, zev_pz, zev_pj, zev_pr, zev_rc, zev_cc, zev_b0, zev_bo, true_and, and_true, h.O, h.co.2.2.2.2.2.1]
theorem Q_closed {M : Zm} {g : Zg} {A AL : Nat → Nat} {x : Nat} {adr : Nat → Nat} {ga nb : Nat} {bs : Nat → Bv} {ro : Nat → Rw} {lb : List Lb} {ps : List (Nat × Int64)} {ac : Nat → Wn} {jr bo : List Ln} {mo : Int32} {gi : Int64} {tr tp wy wh : Int32} {tc : List Int32} {st : List Int64} {ds : List (Nat × Int64)} {dw : Wn} {bf : Nat → Int32} {ba : Wn} {bc : List Nat} (h : zCe M g A AL x adr ga nb bs ro lb ps ac jr bo mo gi tr tp wy wh tc st ds dw bf ba bc) (hp : tp = 0) : zf_X11_closed M (some x) = some (M, 1) := by
  refine zev_of ?_
  simp only [zf_X11_closed, zev_b1, zev_bd, zev_some, zev_gi, zev_gj, zev_gr, zev_pi, zev_pz, zev_pj, zev_pr, zev_rc, zev_cc, zev_b0, zev_bo, true_and, and_true, h.O, h.co.2.2.2.2.2.2.1, if_pos hp]
theorem Q_why {M : Zm} {g : Zg} {A AL : Nat → Nat} {x : Nat} {adr : Nat → Nat} {ga nb : Nat} {bs : Nat → Bv} {ro : Nat → Rw} {lb : List Lb} {ps : List (Nat × Int64)} {ac : Nat → Wn} {jr bo : List Ln} {mo : Int32} {gi : Int64} {tr tp wy wh : Int32} {tc : List Int32} {st : List Int64} {ds : List (Nat × Int64)} {dw : Wn} {bf : Nat → Int32} {ba : Wn} {bc : List Nat} (h : zCe M g A AL x adr ga nb bs ro lb ps ac jr bo mo gi tr tp wy wh tc st ds dw bf ba bc) : zf_X11_why M (some x) = some (M, wy) := by
  refine zev_of ?_
  simp only [zf_X11_why, zev_b1, zev_bd, zev_some, zev_gi, zev_gj, zev_gr, zev_pi, zev_pz, zev_pj, zev_pr, zev_rc, zev_cc, zev_b0, zev_bo, true_and, and_true, h.O, h.co.2.2.2.2.2.2.2.1]
theorem Q_which {M : Zm} {g : Zg} {A AL : Nat → Nat} {x : Nat} {adr : Nat → Nat} {ga nb : Nat} {bs : Nat → Bv} {ro : Nat → Rw} {lb : List Lb} {ps : List (Nat × Int64)} {ac : Nat → Wn} {jr bo : List Ln} {mo : Int32} {gi : Int64} {tr tp wy wh : Int32} {tc : List Int32} {st : List Int64} {ds : List (Nat × Int64)} {dw : Wn} {bf : Nat → Int32} {ba : Wn} {bc : List Nat} (h : zCe M g A AL x adr ga nb bs ro lb ps ac jr bo mo gi tr tp wy wh tc st ds dw bf ba bc) : zf_X11_which M (some x) = some (M, wh) := by
  refine zev_of ?_
  simp only [zf_X11_which, zev_b1, zev_bd, zev_some, zev_gi, zev_gj, zev_gr, zev_pi, zev_pz, zev_pj, zev_pr, zev_rc, zev_cc, zev_b0, zev_bo, true_and, and_true, h.O, h.co.2.2.2.2.2.2.2.2]
theorem Q_trace {M : Zm} {g : Zg} {A AL : Nat → Nat} {x : Nat} {adr : Nat → Nat} {ga nb : Nat} {bs : Nat → Bv} {ro : Nat → Rw} {lb : List Lb} {ps : List (Nat × Int64)} {ac : Nat → Wn} {jr bo : List Ln} {mo : Int32} {gi : Int64} {tr tp wy wh : Int32} {tc : List Int32} {st : List Int64} {ds : List (Nat × Int64)} {dw : Wn} {bf : Nat → Int32} {ba : Wn} {bc : List Nat} (h : zCe M g A AL x adr ga nb bs ro lb ps ac jr bo mo gi tr tp wy wh tc st ds dw bf ba bc) (i : Int32) : zf_X11_trace M (some x) i = some (M, trd i tc) := by
  refine zev_of ?_
  simp only [zf_X11_trace, zev_b1, zev_bd, zev_some, zev_gi, zev_gj, zev_gr, zev_pi, zev_pz, zev_pj, zev_pr, zev_rc, zev_cc, zev_b0, zev_bo, true_and, and_true, h.O, h.r (show 12 < 14 by decide), h.t1.1, zev_eq (zTr_read h.t1 i)]
theorem Q_picked {M : Zm} {g : Zg} {A AL : Nat → Nat} {x : Nat} {adr : Nat → Nat} {ga nb : Nat} {bs : Nat → Bv} {ro : Nat → Rw} {lb : List Lb} {ps : List (Nat × Int64)} {ac : Nat → Wn} {jr bo : List Ln} {mo : Int32} {gi : Int64} {tr tp wy wh : Int32} {tc : List Int32} {st : List Int64} {ds : List (Nat × Int64)} {dw : Wn} {bf : Nat → Int32} {ba : Wn} {bc : List Nat} (h : zCe M g A AL x adr ga nb bs ro lb ps ac jr bo mo gi tr tp wy wh tc st ds dw bf ba bc) : zf_X11_picked M (some x) = some (M, nI ps.length) := by
  refine zev_of ?_
  simp only [zf_X11_picked, zev_b1, zev_bd, zev_some, zev_gi, zev_gj, zev_gr, zev_pi, zev_pz, zev_pj, zev_pr, zev_rc, zev_cc, zev_b0, zev_bo, true_and, and_true, h.O, h.r (show 3 < 14 by decide), h.pk.O, h.pk.cnt]
theorem Q_planned {M : Zm} {g : Zg} {A AL : Nat → Nat} {x : Nat} {adr : Nat → Nat} {ga nb : Nat} {bs : Nat → Bv} {ro : Nat → Rw} {lb : List Lb} {ps : List (Nat × Int64)} {ac : Nat → Wn} {jr bo : List Ln} {mo : Int32} {gi : Int64} {tr tp wy wh : Int32} {tc : List Int32} {st : List Int64} {ds : List (Nat × Int64)} {dw : Wn} {bf : Nat → Int32} {ba : Wn} {bc : List Nat} (h : zCe M g A AL x adr ga nb bs ro lb ps ac jr bo mo gi tr tp wy wh tc st ds dw bf ba bc) (i : Int32) : zf_X11_planned M (some x) i = some (M, prd i st) := by
  refine zev_of ?_
  obtain ⟨ta, D, Mo, Tr, Be, wt, cnt, lst, S, C, c2, tot, h1, h2, h3, h4⟩ := h.pp
  simp only [zf_X11_planned, zev_b1, zev_bd, zev_some, zev_gi, zev_gj, zev_gr, zev_pi, zev_pz, zev_pj, zev_pr, zev_rc, zev_cc, zev_b0, zev_bo, true_and, and_true, h.O, h.r (show 5 < 14 by decide), h1.O, zev_eq (zPl_read h1 i)]
def cdig (nb : Nat) (bs : Nat → Bv) (mo : Int32) (n : Nat) : Int64 := ((List.range nb).foldl (fun d b => bdig (bs b) d) (217 + nI nb : Int32).toInt64 * 31 + mo.toInt64) * 31 + (nI n).toInt64
theorem Q_digest {M : Zm} {g : Zg} {A AL : Nat → Nat} {x : Nat} {adr : Nat → Nat} {ga nb : Nat} {bs : Nat → Bv} {ro : Nat → Rw} {lb : List Lb} {ps : List (Nat × Int64)} {ac : Nat → Wn} {jr bo : List Ln} {mo : Int32} {gi : Int64} {tr tp wy wh : Int32} {tc : List Int32} {st : List Int64} {ds : List (Nat × Int64)} {dw : Wn} {bf : Nat → Int32} {ba : Wn} {bc : List Nat} (h : zCe M g A AL x adr ga nb bs ro lb ps ac jr bo mo gi tr tp wy wh tc st ds dw bf ba bc) (hI : Imem nb bs) : zf_X11_digest M (some x) = some (M, cdig nb bs mo jr.length) := by
  refine zev_of ?_
  have hN := h.N
  simp only [zf_X11_digest, zev_b1, zev_bd, zev_some, zev_gi, zev_gj, zev_gr, zev_pi, zev_pz, zev_pj, zev_pr, zev_rc, zev_cc, zev_b0, zev_bo, true_and, and_true, h.O, h.r (show 0 < 14 by decide), h.bl.O, zev_eq (zCe_size h)]
  refine zev_up (τ := Zm × Int64 × Int32) (fun i (z : Zm × Int64 × Int32) => z = (M, (List.range i).foldl (fun d b => bdig (bs b) d) (217 + nI nb : Int32).toInt64, nI i)) nb (i := 0) (Nat.zero_le _) rfl ?_ ?_
  · rintro i z hi rfl
    have c1 : ¬ nI nb ≤ nI i := nI_ge hi (by omega)
    simp only [zf_X11_digest_L15, zev_b1, zev_bd, zev_some, zev_gi, zev_gj, zev_gr, zev_pi, zev_pz, zev_pj, zev_pr, zev_rc, zev_cc, zev_b0, zev_bo, true_and, and_true, h.O, h.r (show 0 < 14 by decide), h.bl.O, zev_eq (zCe_size h), if_neg c1, zev_eq (zCe_get h hi), (h.bs hi).O, zev_eq (zBa_digest (bs := bs) (h.bs hi) (fun m hm => h.bs (hI i hi m hm).1) _)]
    refine ⟨_, rfl, ?_⟩
    rw [range_snoc, List.foldl_append, nI_1]; rfl
  · rintro z rfl
    have c1 : nI nb ≤ nI nb := nI_le (Nat.le_refl _) (by omega)
    simp only [zf_X11_digest_L15, zev_b1, zev_bd, zev_some, zev_gi, zev_gj, zev_gr, zev_pi, zev_pz, zev_pj, zev_pr, zev_rc, zev_cc, zev_b0, zev_bo, true_and, and_true, h.O, h.r (show 0 < 14 by decide), h.bl.O, zev_eq (zCe_size h), if_pos c1]
    refine ⟨_, rfl, ?_⟩
    simp only [zev_b1, zev_bd, zev_some, zev_gi, zev_gj, zev_gr, zev_pi, zev_pz, zev_pj, zev_pr, zev_rc, zev_cc, zev_b0, zev_bo, true_and, and_true, h.O, h.co.2.2.2.1, h.r (show 8 < 14 by decide), h.jr.O, h.jr.cnt]
    rfl
/-! acts that only tell -/
def sForget (c : Cs) : Int64 × Cs := match c with
  | (nb, bs, ro, lb, ps, ac, jr, bo, mo, gi, tr, tp, wy, wh, tc, st, ds, dw, bf, ba, bc) => ((nI ps.length).toInt64, (nb, bs, ro, lb, [], ac, jr, bo, mo, gi, tr, tp, wy, wh, tc, st, ds, dw, bf, ba, bc))
theorem C_forget {M : Zm} {g : Zg} {A AL : Nat → Nat} {x : Nat} {adr : Nat → Nat} {ga nb : Nat} {bs : Nat → Bv} {ro : Nat → Rw} {lb : List Lb} {ps : List (Nat × Int64)} {ac : Nat → Wn} {jr bo : List Ln} {mo : Int32} {gi : Int64} {tr tp wy wh : Int32} {tc : List Int32} {st : List Int64} {ds : List (Nat × Int64)} {dw : Wn} {bf : Nat → Int32} {ba : Wn} {bc : List Nat} {k : Nat} (h : zCe M g A AL x adr ga nb bs ro lb ps ac jr bo mo gi tr tp wy wh tc st ds dw bf ba bc) (hb : zBu M g k) : zev (zf_X11_forget M (some x)) (fun y => ∃ g' A' AL', zCs y.1 g' A' AL' x adr ga (sAct sForget (nb, bs, ro, lb, ps, ac, jr, bo, mo, gi, tr, tp, wy, wh, tc, st, ds, dw, bf, ba, bc)).2 ∧ y.2 = (sAct sForget (nb, bs, ro, lb, ps, ac, jr, bo, mo, gi, tr, tp, wy, wh, tc, st, ds, dw, bf, ba, bc)).1 ∧ zFo M g y.1 g' Tc ∧ zBu y.1 g' k) := by
  simp only [zf_X11_forget, zev_b1, zev_bd, zev_some, zev_gi, zev_gj, zev_gr, zev_pi, zev_pz, zev_pj, zev_pr, zev_rc, zev_cc, zev_b0, zev_bo, true_and, and_true, h.O]
  refine zev_mono (zCe_open h hb) ?_
  rintro ⟨M1, u0⟩ hh
  dsimp only at hh ⊢
  obtain ⟨h1, f1, b1⟩ := hh
  simp only [h1.O, h1.r (show 3 < 14 by decide), zev_b1, zev_bd, zev_some, zev_gi, zev_gj, zev_gr, zev_pi, zev_pz, zev_pj, zev_pr, zev_rc, zev_cc, zev_b0, zev_bo, true_and, and_true, h1.pk.O, h1.pk.cnt]
  refine zev_mono (zCe_pclear h1 b1) ?_
  rintro ⟨M2, u1⟩ hh
  dsimp only at hh ⊢
  obtain ⟨h2, f2, b2⟩ := hh
  refine ⟨h2.O, zev_mono (zCe_close h2 _ b2) ?_⟩
  rintro ⟨M3, v⟩ hh
  dsimp only at hh ⊢
  obtain ⟨e, h3, f3, b3⟩ := hh
  exact ⟨g, A, AL, h3, e, (f1.tr f2).tr f3, b3⟩
def sPartAt (b i : Int32) (c : Cs) : Int64 × Cs := match c with
  | (nb, bs, ro, lb, ps, ac, jr, bo, mo, gi, tr, tp, wy, wh, tc, st, ds, dw, bf, ba, bc) => (if lkp nb bs b i = 0 then (((bs b.toNatClampNeg).2.1.2.2.2[i.toNatClampNeg]?).getD (0, 0)).1.toInt64 else (-(lkp nb bs b i)).toInt64, (nb, bs, ro, lb, ps, ac, jr, bo, mo, gi, tr, tp, wy, wh, tc, st, ds, dw, bf, ba, bc))
def sAmountAt (b i : Int32) (c : Cs) : Int64 × Cs := match c with
  | (nb, bs, ro, lb, ps, ac, jr, bo, mo, gi, tr, tp, wy, wh, tc, st, ds, dw, bf, ba, bc) => (if lkp nb bs b i = 0 then (((bs b.toNatClampNeg).2.1.2.2.2[i.toNatClampNeg]?).getD (0, 0)).2 else (-(lkp nb bs b i)).toInt64, (nb, bs, ro, lb, ps, ac, jr, bo, mo, gi, tr, tp, wy, wh, tc, st, ds, dw, bf, ba, bc))
theorem lkp_0 {nb : Nat} {bs : Nat → Bv} {b i : Int32} (hn : nb ≤ 1000) (h : lkp nb bs b i = 0) : ∃ n j, n < nb ∧ b = nI n ∧ i = nI j ∧ j < 2 ^ 31 ∧ nI j < nI (bs n).2.1.2.2.2.length := by
  unfold lkp at h
  by_cases h1 : lkv nb bs b = 0
  · obtain ⟨n, h2, rfl, h4⟩ := lkv_0 hn h1
    rw [if_pos h1, nI_clamp (show n < 2 ^ 31 by omega)] at h
    by_cases h3 : nI (bs n).2.1.2.2.2.length = 0
    · rw [if_pos h3] at h; exact absurd h (by decide)
    · rw [if_neg h3] at h
      by_cases h5 : i < 0
      · rw [if_pos h5] at h; exact absurd h (by decide)
      · rw [if_neg h5] at h
        by_cases h6 : i < nI (bs n).2.1.2.2.2.length
        · obtain ⟨j, hj, rfl⟩ := nI_of h5
          exact ⟨n, j, h2, rfl, rfl, hj, h6⟩
        · rw [if_neg h6] at h; exact absurd h (by decide)
  · rw [if_neg h1] at h; exact absurd h h1
theorem C_partAt {M : Zm} {g : Zg} {A AL : Nat → Nat} {x : Nat} {adr : Nat → Nat} {ga nb : Nat} {bs : Nat → Bv} {ro : Nat → Rw} {lb : List Lb} {ps : List (Nat × Int64)} {ac : Nat → Wn} {jr bo : List Ln} {mo : Int32} {gi : Int64} {tr tp wy wh : Int32} {tc : List Int32} {st : List Int64} {ds : List (Nat × Int64)} {dw : Wn} {bf : Nat → Int32} {ba : Wn} {bc : List Nat} {k : Nat} (h : zCe M g A AL x adr ga nb bs ro lb ps ac jr bo mo gi tr tp wy wh tc st ds dw bf ba bc) (b i : Int32) (hb : zBu M g k) : zev (zf_X11_partAt M (some x) b i) (fun y => ∃ g' A' AL', zCs y.1 g' A' AL' x adr ga (sAct (sPartAt b i) (nb, bs, ro, lb, ps, ac, jr, bo, mo, gi, tr, tp, wy, wh, tc, st, ds, dw, bf, ba, bc)).2 ∧ y.2 = (sAct (sPartAt b i) (nb, bs, ro, lb, ps, ac, jr, bo, mo, gi, tr, tp, wy, wh, tc, st, ds, dw, bf, ba, bc)).1 ∧ zFo M g y.1 g' Tc ∧ zBu y.1 g' k) := by
  have hN := h.N
  simp only [zf_X11_partAt, zev_b1, zev_bd, zev_some, zev_gi, zev_gj, zev_gr, zev_pi, zev_pz, zev_pj, zev_pr, zev_rc, zev_cc, zev_b0, zev_bo, true_and, and_true, h.O]
  refine zev_mono (zCe_open h hb) ?_
  rintro ⟨M1, u0⟩ hh
  dsimp only at hh ⊢
  obtain ⟨h1, f1, b1⟩ := hh
  have fin : ∀ v, v = (sPartAt b i (sOpen (nb, bs, ro, lb, ps, ac, jr, bo, mo, gi, tr, tp, wy, wh, tc, st, ds, dw, bf, ba, bc))).1 → zev (zf_X11_partAt_J42 M1 v (some x)) (fun y => ∃ g' A' AL', zCs y.1 g' A' AL' x adr ga (sAct (sPartAt b i) (nb, bs, ro, lb, ps, ac, jr, bo, mo, gi, tr, tp, wy, wh, tc, st, ds, dw, bf, ba, bc)).2 ∧ y.2 = (sAct (sPartAt b i) (nb, bs, ro, lb, ps, ac, jr, bo, mo, gi, tr, tp, wy, wh, tc, st, ds, dw, bf, ba, bc)).1 ∧ zFo M g y.1 g' Tc ∧ zBu y.1 g' k) := by
    rintro v rfl
    have h2 : zCs M1 g A AL x adr ga (sPartAt b i (sOpen (nb, bs, ro, lb, ps, ac, jr, bo, mo, gi, tr, tp, wy, wh, tc, st, ds, dw, bf, ba, bc))).2 := h1
    simp only [zf_X11_partAt_J42, zev_b1, zev_bd, zev_some, zev_gi, zev_gj, zev_gr, zev_pi, zev_pz, zev_pj, zev_pr, zev_rc, zev_cc, zev_b0, zev_bo, true_and, and_true, zCs_O h2]
    refine zev_mono (C_close h2 _ b1) ?_
    rintro ⟨M3, v⟩ hh
    dsimp only at hh ⊢
    obtain ⟨e, h3, f3, b3⟩ := hh
    exact ⟨g, A, AL, h3, e, f1.tr f3, b3⟩
  simp only [h1.O, zev_b1, zev_bd, zev_some, zev_gi, zev_gj, zev_gr, zev_pi, zev_pz, zev_pj, zev_pr, zev_rc, zev_cc, zev_b0, zev_bo, true_and, and_true, zev_eq (zCe_lkp h1 b i)]
  by_cases h2 : lkp nb bs b i = 0
  · obtain ⟨n, j, hn, rfl, rfl, hj, hjl⟩ := lkp_0 h.N h2
    obtain ⟨w1, w2⟩ := (h1.bs hn).wa
    have hlen := w2.len
    have hj2 : j < (bs n).2.1.2.2.2.length := (nI_ltI hj (by omega)).mp hjl
    obtain ⟨q, hq⟩ := getElem?_lt hj2
    obtain ⟨pa, aa, c, r1, r2, r3, r4, r5, r6, r7, r8, r9, r10, r11⟩ := w2.rows
    simp only [if_pos h2, zev_b1, zev_bd, zev_some, zev_gi, zev_gj, zev_gr, zev_pi, zev_pz, zev_pj, zev_pr, zev_rc, zev_cc, zev_b0, zev_bo, true_and, and_true, h1.O, h1.r (show 0 < 14 by decide), h1.bl.O, zev_eq (zCe_get h1 hn), (h1.bs hn).O, w1, w2.O, r1, zev_ai2 hj, r3, r4, show j < c by omega, (r9 j q hq).1]
    refine fin _ ?_
    unfold sPartAt sOpen
    dsimp only
    rw [if_pos h2, nI_clamp (show n < 2 ^ 31 by omega), nI_clamp hj, hq]
    rfl
  · simp only [if_neg h2]
    refine fin _ ?_
    unfold sPartAt sOpen
    dsimp only
    rw [if_neg h2]
theorem C_amountAt {M : Zm} {g : Zg} {A AL : Nat → Nat} {x : Nat} {adr : Nat → Nat} {ga nb : Nat} {bs : Nat → Bv} {ro : Nat → Rw} {lb : List Lb} {ps : List (Nat × Int64)} {ac : Nat → Wn} {jr bo : List Ln} {mo : Int32} {gi : Int64} {tr tp wy wh : Int32} {tc : List Int32} {st : List Int64} {ds : List (Nat × Int64)} {dw : Wn} {bf : Nat → Int32} {ba : Wn} {bc : List Nat} {k : Nat} (h : zCe M g A AL x adr ga nb bs ro lb ps ac jr bo mo gi tr tp wy wh tc st ds dw bf ba bc) (b i : Int32) (hb : zBu M g k) : zev (zf_X11_amountAt M (some x) b i) (fun y => ∃ g' A' AL', zCs y.1 g' A' AL' x adr ga (sAct (sAmountAt b i) (nb, bs, ro, lb, ps, ac, jr, bo, mo, gi, tr, tp, wy, wh, tc, st, ds, dw, bf, ba, bc)).2 ∧ y.2 = (sAct (sAmountAt b i) (nb, bs, ro, lb, ps, ac, jr, bo, mo, gi, tr, tp, wy, wh, tc, st, ds, dw, bf, ba, bc)).1 ∧ zFo M g y.1 g' Tc ∧ zBu y.1 g' k) := by
  have hN := h.N
  simp only [zf_X11_amountAt, zev_b1, zev_bd, zev_some, zev_gi, zev_gj, zev_gr, zev_pi, zev_pz, zev_pj, zev_pr, zev_rc, zev_cc, zev_b0, zev_bo, true_and, and_true, h.O]
  refine zev_mono (zCe_open h hb) ?_
  rintro ⟨M1, u0⟩ hh
  dsimp only at hh ⊢
  obtain ⟨h1, f1, b1⟩ := hh
  have fin : ∀ v, v = (sAmountAt b i (sOpen (nb, bs, ro, lb, ps, ac, jr, bo, mo, gi, tr, tp, wy, wh, tc, st, ds, dw, bf, ba, bc))).1 → zev (zf_X11_amountAt_J41 M1 v (some x)) (fun y => ∃ g' A' AL', zCs y.1 g' A' AL' x adr ga (sAct (sAmountAt b i) (nb, bs, ro, lb, ps, ac, jr, bo, mo, gi, tr, tp, wy, wh, tc, st, ds, dw, bf, ba, bc)).2 ∧ y.2 = (sAct (sAmountAt b i) (nb, bs, ro, lb, ps, ac, jr, bo, mo, gi, tr, tp, wy, wh, tc, st, ds, dw, bf, ba, bc)).1 ∧ zFo M g y.1 g' Tc ∧ zBu y.1 g' k) := by
    rintro v rfl
    have h2 : zCs M1 g A AL x adr ga (sAmountAt b i (sOpen (nb, bs, ro, lb, ps, ac, jr, bo, mo, gi, tr, tp, wy, wh, tc, st, ds, dw, bf, ba, bc))).2 := h1
    simp only [zf_X11_amountAt_J41, zev_b1, zev_bd, zev_some, zev_gi, zev_gj, zev_gr, zev_pi, zev_pz, zev_pj, zev_pr, zev_rc, zev_cc, zev_b0, zev_bo, true_and, and_true, zCs_O h2]
    refine zev_mono (C_close h2 _ b1) ?_
    rintro ⟨M3, v⟩ hh
    dsimp only at hh ⊢
    obtain ⟨e, h3, f3, b3⟩ := hh
    exact ⟨g, A, AL, h3, e, f1.tr f3, b3⟩
  simp only [h1.O, zev_b1, zev_bd, zev_some, zev_gi, zev_gj, zev_gr, zev_pi, zev_pz, zev_pj, zev_pr, zev_rc, zev_cc, zev_b0, zev_bo, true_and, and_true, zev_eq (zCe_lkp h1 b i)]
  by_cases h2 : lkp nb bs b i = 0
  · obtain ⟨n, j, hn, rfl, rfl, hj, hjl⟩ := lkp_0 h.N h2
    obtain ⟨w1, w2⟩ := (h1.bs hn).wa
    have hlen := w2.len
    have hj2 : j < (bs n).2.1.2.2.2.length := (nI_ltI hj (by omega)).mp hjl
    obtain ⟨q, hq⟩ := getElem?_lt hj2
    obtain ⟨pa, aa, c, r1, r2, r3, r4, r5, r6, r7, r8, r9, r10, r11⟩ := w2.rows
    simp only [if_pos h2, zev_b1, zev_bd, zev_some, zev_gi, zev_gj, zev_gr, zev_pi, zev_pz, zev_pj, zev_pr, zev_rc, zev_cc, zev_b0, zev_bo, true_and, and_true, h1.O, h1.r (show 0 < 14 by decide), h1.bl.O, zev_eq (zCe_get h1 hn), (h1.bs hn).O, w1, w2.O, r2, zev_aj2 hj, r5, r6, show j < c by omega, (r9 j q hq).2]
    refine fin _ ?_
    unfold sAmountAt sOpen
    dsimp only
    rw [if_pos h2, nI_clamp (show n < 2 ^ 31 by omega), nI_clamp hj, hq]
    rfl
  · simp only [if_neg h2]
    refine fin _ ?_
    unfold sAmountAt sOpen
    dsimp only
    rw [if_neg h2]
def sRoom (b : Int32) (c : Cs) : Int64 × Cs := match c with
  | (nb, bs, ro, lb, ps, ac, jr, bo, mo, gi, tr, tp, wy, wh, tc, st, ds, dw, bf, ba, bc) => if lk nb b = 0 then (btak bs (bs b.toNatClampNeg) - bhas bs (bs b.toNatClampNeg), sTc (btakT bs (bs b.toNatClampNeg)) (nb, bs, ro, lb, ps, ac, jr, bo, mo, gi, tr, tp, wy, wh, tc, st, ds, dw, bf, ba, bc)) else ((-(lk nb b)).toInt64, (nb, bs, ro, lb, ps, ac, jr, bo, mo, gi, tr, tp, wy, wh, tc, st, ds, dw, bf, ba, bc))
theorem C_room {M : Zm} {g : Zg} {A AL : Nat → Nat} {x : Nat} {adr : Nat → Nat} {ga nb : Nat} {bs : Nat → Bv} {ro : Nat → Rw} {lb : List Lb} {ps : List (Nat × Int64)} {ac : Nat → Wn} {jr bo : List Ln} {mo : Int32} {gi : Int64} {tr tp wy wh : Int32} {tc : List Int32} {st : List Int64} {ds : List (Nat × Int64)} {dw : Wn} {bf : Nat → Int32} {ba : Wn} {bc : List Nat} {k : Nat} (h : zCe M g A AL x adr ga nb bs ro lb ps ac jr bo mo gi tr tp wy wh tc st ds dw bf ba bc) (hI : Imem nb bs) (b : Int32) (hb : zBu M g k) : zev (zf_X11_room M (some x) b) (fun y => ∃ g' A' AL', zCs y.1 g' A' AL' x adr ga (sAct (sRoom b) (nb, bs, ro, lb, ps, ac, jr, bo, mo, gi, tr, tp, wy, wh, tc, st, ds, dw, bf, ba, bc)).2 ∧ y.2 = (sAct (sRoom b) (nb, bs, ro, lb, ps, ac, jr, bo, mo, gi, tr, tp, wy, wh, tc, st, ds, dw, bf, ba, bc)).1 ∧ zFo M g y.1 g' Tc ∧ zBu y.1 g' k) := by
  have hN := h.N
  simp only [zf_X11_room, zev_b1, zev_bd, zev_some, zev_gi, zev_gj, zev_gr, zev_pi, zev_pz, zev_pj, zev_pr, zev_rc, zev_cc, zev_b0, zev_bo, true_and, and_true, h.O]
  refine zev_mono (zCe_open h hb) ?_
  rintro ⟨M1, u0⟩ hh
  dsimp only at hh ⊢
  obtain ⟨h1, f1, b1⟩ := hh
  have fin : ∀ M2, zCs M2 g A AL x adr ga (sRoom b (sOpen (nb, bs, ro, lb, ps, ac, jr, bo, mo, gi, tr, tp, wy, wh, tc, st, ds, dw, bf, ba, bc))).2 → zFo M g M2 g Tc → zBu M2 g k → ∀ v, v = (sRoom b (sOpen (nb, bs, ro, lb, ps, ac, jr, bo, mo, gi, tr, tp, wy, wh, tc, st, ds, dw, bf, ba, bc))).1 → zev (zf_X11_room_J36 M2 v (some x)) (fun y => ∃ g' A' AL', zCs y.1 g' A' AL' x adr ga (sAct (sRoom b) (nb, bs, ro, lb, ps, ac, jr, bo, mo, gi, tr, tp, wy, wh, tc, st, ds, dw, bf, ba, bc)).2 ∧ y.2 = (sAct (sRoom b) (nb, bs, ro, lb, ps, ac, jr, bo, mo, gi, tr, tp, wy, wh, tc, st, ds, dw, bf, ba, bc)).1 ∧ zFo M g y.1 g' Tc ∧ zBu y.1 g' k) := by
    rintro M2 h2 f2 b2 v rfl
    simp only [zf_X11_room_J36, zev_b1, zev_bd, zev_some, zev_gi, zev_gj, zev_gr, zev_pi, zev_pz, zev_pj, zev_pr, zev_rc, zev_cc, zev_b0, zev_bo, true_and, and_true, zCs_O h2]
    refine zev_mono (C_close h2 _ b2) ?_
    rintro ⟨M3, v⟩ hh
    dsimp only at hh ⊢
    obtain ⟨e, h3, f3, b3⟩ := hh
    exact ⟨g, A, AL, h3, e, f2.tr f3, b3⟩
  simp only [h1.O, zev_b1, zev_bd, zev_some, zev_gi, zev_gj, zev_gr, zev_pi, zev_pz, zev_pj, zev_pr, zev_rc, zev_cc, zev_b0, zev_bo, true_and, and_true, zev_eq (zCe_lk h1 b)]
  by_cases h2 : lk nb b = 0
  · obtain ⟨n, hn, rfl⟩ := lk_0 h.N h2
    have es : sRoom (nI n) (sOpen (nb, bs, ro, lb, ps, ac, jr, bo, mo, gi, tr, tp, wy, wh, tc, st, ds, dw, bf, ba, bc)) = (btak bs (bs n) - bhas bs (bs n), sTc (btakT bs (bs n)) (nb, bs, ro, lb, ps, ac, jr, bo, mo, gi, tr + 1, 1, wy, wh, [], st, ds, dw, bf, ba, bc)) := by
      unfold sRoom sOpen
      dsimp only
      rw [if_pos h2, nI_clamp (show n < 2 ^ 31 by omega)]
    simp only [if_pos h2, zev_b1, zev_bd, zev_some, zev_gi, zev_gj, zev_gr, zev_pi, zev_pz, zev_pj, zev_pr, zev_rc, zev_cc, zev_b0, zev_bo, true_and, and_true, h1.O, h1.r (show 0 < 14 by decide), h1.bl.O, zev_eq (zCe_get h1 hn), (h1.bs hn).O, zf_X11_roomOf, h1.r (show 12 < 14 by decide)]
    refine zev_mono (zCe_takes h1 hI hn b1) ?_
    rintro ⟨M2, v2⟩ hh
    dsimp only at hh ⊢
    obtain ⟨e, h3, f3, b3⟩ := hh
    subst e
    simp only [(h3.bs hn).O, zev_b1, zev_bd, zev_some, zev_gi, zev_gj, zev_gr, zev_pi, zev_pz, zev_pj, zev_pr, zev_rc, zev_cc, zev_b0, zev_bo, true_and, and_true, zev_eq (zBa_has (bs := bs) (h3.bs hn) (fun m hm => h3.bs (hI n hn m hm).1))]
    exact fin M2 (by rw [es]; exact h3) (f1.tr f3) b3 _ (by rw [es])
  · simp only [if_neg h2]
    have es : sRoom b (sOpen (nb, bs, ro, lb, ps, ac, jr, bo, mo, gi, tr, tp, wy, wh, tc, st, ds, dw, bf, ba, bc)) = ((-(lk nb b)).toInt64, (nb, bs, ro, lb, ps, ac, jr, bo, mo, gi, tr + 1, 1, wy, wh, [], st, ds, dw, bf, ba, bc)) := by
      unfold sRoom sOpen
      dsimp only
      rw [if_neg h2]
    exact fin M1 (by rw [es]; exact h1) f1 b1 _ (by rw [es])
