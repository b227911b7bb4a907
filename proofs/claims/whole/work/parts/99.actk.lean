/-! Acts: judge. -/
theorem tadd_cong : ∀ (l : Wn) (S S' : Nat → Int64) (st i : Nat), S i = S' i → tadd S st l i = tadd S' st l i
  | [], _, _, _, _, h => h
  | q :: r, S, S', st, i, h => by
    show tadd (tone S st q) st r i = tadd (tone S' st q) st r i
    refine tadd_cong r _ _ st i ?_
    unfold tone
    rw [h]
theorem balo_cong (bs : Nat → Bv) (x : Bv) (S S' : Nat → Int64) (i : Nat) (hi : i < 48) : balo bs x S i = balo bs x S' i := by
  unfold balo
  have h0 : tadd (tclr S 0) 0 x.2.1.2.2.2 i = tadd (tclr S' 0) 0 x.2.1.2.2.2 i := tadd_cong _ _ _ _ _ (by unfold tclr; rw [if_pos (by omega), if_pos (by omega)])
  generalize tadd (tclr S 0) 0 x.2.1.2.2.2 = a at h0
  generalize tadd (tclr S' 0) 0 x.2.1.2.2.2 = b at h0
  have : ∀ (ms : List Nat) (a b : Nat → Int64), a i = b i → ms.foldl (fun s m => tadd s 0 (bs m).2.1.2.2.2) a i = ms.foldl (fun s m => tadd s 0 (bs m).2.1.2.2.2) b i := by
    intro ms
    induction ms with
    | nil => intro a b h; exact h
    | cons m r ih => intro a b h; exact ih _ _ (tadd_cong _ _ _ _ _ h)
  exact this _ _ _ h0
def jH (bs : Nat → Bv) (x : Bv) : Nat → Int64 := thav (balo bs x (fun _ => 0)) (fun _ => 0) 1
theorem jH_eq (bs : Nat → Bv) (x : Bv) (S : Nat → Int64) (C : Nat → Nat) (off : Nat) (h : off < 48) : thav (balo bs x S) (fuN C 0 0) 1 off = jH bs x off := by
  show 0 + balo bs x S (48 * fuN C 0 0 0 + off) = 0 + balo bs x (fun _ => 0) (48 * 0 + off)
  rw [fuN_self, balo_cong bs x S (fun _ => 0) _ (by omega)]
theorem lans_cong {H H' : Nat → Int64} {all : Int64} {q : Lf} (hq : lfok q) (h : ∀ off, off < 48 → H off = H' off) : lans H all q = lans H' all q := by
  unfold lans
  obtain ⟨-, h2, h3, -⟩ := hq
  rw [h (16 * (q.2.1 - 1) + q.2.2.1) (by omega)]
theorem rans_cong {h h' : Lf → Int32} : ∀ (l : List Lf), (∀ q, q ∈ l → h q = h' q) → rans h l = rans h' l
  | [], _ => rfl
  | q :: r, e => by
    unfold rans
    rw [e q List.mem_cons_self, rans_cong r (fun x hx => e x (List.mem_cons_of_mem _ hx))]
theorem fbrk_cong {h h' : Lf → Int32} : ∀ (rs : List (List Lf)) (i : Nat), (∀ q, q ∈ rs.flatten → h q = h' q) → fbrk h i rs = fbrk h' i rs
  | [], _, _ => rfl
  | x :: r, i, e => by
    unfold fbrk
    rw [rans_cong x (fun q hq => e q (by rw [List.flatten_cons]; exact List.mem_append_left _ hq)), fbrk_cong r (i + 1) (fun q hq => e q (by rw [List.flatten_cons]; exact List.mem_append_right _ hq))]
theorem fbrk_spec {h : Lf → Int32} : ∀ (rs : List (List Lf)) (i : Nat), fbrk h i rs = -1 ∨ ∃ r x, rs[r]? = some x ∧ fbrk h i rs = nI (i + r)
  | [], _ => Or.inl rfl
  | x :: r, i => by
    unfold fbrk
    by_cases e : rans h x = 1
    · rw [if_pos e]
      rcases fbrk_spec r (i + 1) with q | ⟨j, y, h1, h2⟩
      · exact Or.inl q
      · exact Or.inr ⟨j + 1, y, by simpa using h1, by rw [h2]; congr 1; omega⟩
    · rw [if_neg e]
      exact Or.inr ⟨0, x, rfl, rfl⟩
def sWh (f : Int32) (c : Cs) : Cs := match c with
  | (nb, bs, ro, lb, ps, ac, jr, bo, mo, gi, tr, tp, wy, wh, tc, st, ds, dw, bf, ba, bc) => (nb, bs, ro, lb, ps, ac, jr, bo, mo, gi, tr, tp, wy, f, tc, st, ds, dw, bf, ba, bc)
def sJudge (b l : Int32) (c : Cs) : Int64 × Cs := match c with
  | (nb, bs, ro, lb, ps, ac, jr, bo, mo, gi, tr, tp, wy, wh, tc, st, ds, dw, bf, ba, bc) => if fst0 (lk nb b) (lkl lb.length l) = 0 then ((if fbrk (lans (jH bs (bs b.toNatClampNeg)) (bhas bs (bs b.toNatClampNeg))) 0 ((lb[l.toNatClampNeg]?).getD ([], 0)).1 = -1 then 1 else if rans (lans (jH bs (bs b.toNatClampNeg)) (bhas bs (bs b.toNatClampNeg))) ((((lb[l.toNatClampNeg]?).getD ([], 0)).1[(fbrk (lans (jH bs (bs b.toNatClampNeg)) (bhas bs (bs b.toNatClampNeg))) 0 ((lb[l.toNatClampNeg]?).getD ([], 0)).1).toNatClampNeg]?).getD []) = -1 then -5 else 0), sWh (fbrk (lans (jH bs (bs b.toNatClampNeg)) (bhas bs (bs b.toNatClampNeg))) 0 ((lb[l.toNatClampNeg]?).getD ([], 0)).1) (nb, bs, ro, lb, ps, ac, jr, bo, mo, gi, tr, tp, wy, wh, tc, st, ds, dw, bf, ba, bc)) else ((-(fst0 (lk nb b) (lkl lb.length l))).toInt64, sWh (-1) (nb, bs, ro, lb, ps, ac, jr, bo, mo, gi, tr, tp, wy, wh, tc, st, ds, dw, bf, ba, bc))
theorem zCe_wh {M : Zm} {g : Zg} {A AL : Nat → Nat} {x : Nat} {adr : Nat → Nat} {ga nb : Nat} {bs : Nat → Bv} {ro : Nat → Rw} {lb : List Lb} {ps : List (Nat × Int64)} {ac : Nat → Wn} {jr bo : List Ln} {mo : Int32} {gi : Int64} {tr tp wy wh : Int32} {tc : List Int32} {st : List Int64} {ds : List (Nat × Int64)} {dw : Wn} {bf : Nat → Int32} {ba : Wn} {bc : List Nat} (h : zCe M g A AL x adr ga nb bs ro lb ps ac jr bo mo gi tr tp wy wh tc st ds dw bf ba bc) (v : Int32) : zCe (zm_pi M x 19 v) g A AL x adr ga nb bs ro lb ps ac jr bo mo gi tr tp wy v tc st ds dw bf ba bc ∧ zFo M g (zm_pi M x 19 v) g (fun z => z = 2) := by
  obtain ⟨cN, cO, cB, cBs, cRw, cLl, cLs, cPk, cJu, cPp, cAc, cBl, cJr, cBo, cDr, cBe, cT1, cT2⟩ := h
  obtain ⟨h1, h2, h3, h4, h5, h6, h7, h8, h9⟩ := cO
  have f : zFo M g (zm_pi M x 19 v) g (fun z => z = 2) := zFo.pi h2
  have O1 : zCo (zm_pi M x 19 v) g x adr mo gi tr tp wy v := by
    refine ⟨h1, h2, h3, ?_, h5, ?_, ?_, ?_, ?_⟩
    · rw [ypi_i, if_neg (by omega)]; exact h4
    · rw [ypi_i, if_neg (by omega)]; exact h6
    · rw [ypi_i, if_neg (by omega)]; exact h7
    · rw [ypi_i, if_neg (by omega)]; exact h8
    · rw [ypi_i, if_pos ⟨rfl, rfl⟩]
  exact ⟨⟨cN, O1, cB.fr f (by first | omega | (dsimp only; omega)), cBs.fr f (fun b hb => ⟨(by first | omega | (dsimp only; omega)), (by first | omega | (dsimp only; omega)), (by first | omega | (dsimp only; omega))⟩), cRw.fr f (by first | omega | (dsimp only; omega)) (fun r hr => (by first | omega | (dsimp only; omega))), cLl.fr f (by first | omega | (dsimp only; omega)), cLs.fr f (fun i hi => (by first | omega | (dsimp only; omega))), cPk.fr f (by first | omega | (dsimp only; omega)), cJu.fr f (by first | omega | (dsimp only; omega)), cPp.fr f (by first | omega | (dsimp only; omega)) (by first | omega | (dsimp only; omega)), cAc.fr f (by first | omega | (dsimp only; omega)) (fun h hh => (by first | omega | (dsimp only; omega))), cBl.fr f (by first | omega | (dsimp only; omega)), cJr.fr f (by first | omega | (dsimp only; omega)), cBo.fr f (by first | omega | (dsimp only; omega)), cDr.fr f (by first | omega | (dsimp only; omega)) (by first | omega | (dsimp only; omega)), cBe.fr f (by first | omega | (dsimp only; omega)) (by first | omega | (dsimp only; omega)) (by first | omega | (dsimp only; omega)), cT1.fr f (by first | omega | (dsimp only; omega)), cT2.fr f (by first | omega | (dsimp only; omega))⟩, f⟩
theorem C_judge {M : Zm} {g : Zg} {A AL : Nat → Nat} {x : Nat} {adr : Nat → Nat} {ga nb : Nat} {bs : Nat → Bv} {ro : Nat → Rw} {lb : List Lb} {ps : List (Nat × Int64)} {ac : Nat → Wn} {jr bo : List Ln} {mo : Int32} {gi : Int64} {tr tp wy wh : Int32} {tc : List Int32} {st : List Int64} {ds : List (Nat × Int64)} {dw : Wn} {bf : Nat → Int32} {ba : Wn} {bc : List Nat} {k : Nat} (h : zCe M g A AL x adr ga nb bs ro lb ps ac jr bo mo gi tr tp wy wh tc st ds dw bf ba bc) (hI : Imem nb bs) (h6 : I60 nb bs) (b l : Int32) (hb : zBu M g k) : zev (zf_X11_judgeBarrel M (some x) b l) (fun y => ∃ g' A' AL', zCs y.1 g' A' AL' x adr ga (sJudge b l (nb, bs, ro, lb, ps, ac, jr, bo, mo, gi, tr, tp, wy, wh, tc, st, ds, dw, bf, ba, bc)).2 ∧ y.2 = (sJudge b l (nb, bs, ro, lb, ps, ac, jr, bo, mo, gi, tr, tp, wy, wh, tc, st, ds, dw, bf, ba, bc)).1 ∧ zFo M g y.1 g' Tc ∧ zBu y.1 g' k) := by
  unfold sJudge
  dsimp only
  have hN := h.N
  obtain ⟨h1, f1⟩ := zCe_wh h (-1)
  have b1 : zBu (zm_pi M x 19 (-1)) g k := hb.same rfl rfl
  simp only [zf_X11_judgeBarrel, zev_b1, zev_bd, zev_some, zev_gi, zev_gj, zev_gr, zev_pi, zev_pz, zev_pj, zev_pr, zev_rc, zev_cc, zev_b0, zev_bo, true_and, and_true, h.O]
  generalize zm_pi M x 19 (-1) = M1 at h1 f1 b1 ⊢
  have f1' : zFo M g M1 g Tc := f1.mono (fun z q => show z ≠ 1 ∧ z ≠ 28 ∧ z ≠ 29 by first | omega | (dsimp only at q; omega))
  simp only [h1.O, zev_b1, zev_bd, zev_some, zev_gi, zev_gj, zev_gr, zev_pi, zev_pz, zev_pj, zev_pr, zev_rc, zev_cc, zev_b0, zev_bo, true_and, and_true, zev_eq (zCe_lk h1 b), zev_eq (zCe_lkl h1 l), zev_eq (z_first (M := M1) _ _)]
  by_cases h2 : fst0 (lk nb b) (lkl lb.length l) = 0
  · obtain ⟨e1, e2⟩ := fst0_0 h2
    obtain ⟨n, hn, rfl⟩ := lk_0 h.N e1
    obtain ⟨i, hi, rfl⟩ := lkl_0 h.ls.1 e2
    have hl40 := h.ls.1
    obtain ⟨q, hq⟩ := getElem?_lt hi
    have L := h1.ls.2 i q hq
    have hget : zf_Jx4a65c_get_915e3 M1 (some (adr 2)) (nI i) = some (M1, some (AL i)) := zAl_get h1.ll (range_at hi)
    have hJ : zJu M1 g (adr 4) := by obtain ⟨cN, cO, cB, cBs, cRw, cLl, cLs, cPk, cJu, cPp, cAc, cBl, cJr, cBo, cDr, cBe, cT1, cT2⟩ := h1; exact cJu
    obtain ⟨S, C, cnt, tot, T⟩ := hJ
    simp only [if_pos h2, nI_clamp (show n < 2 ^ 31 by omega), nI_clamp (show i < 2 ^ 31 by omega), hq, Option.getD_some, zev_b1, zev_bd, zev_some, zev_gi, zev_gj, zev_gr, zev_pi, zev_pz, zev_pj, zev_pr, zev_rc, zev_cc, zev_b0, zev_bo, true_and, and_true, h1.O, h1.r (show 2 < 14 by decide), h1.r (show 4 < 14 by decide), h1.r (show 0 < 14 by decide), h1.ll.O, h1.bl.O, zev_eq hget, L.1, zev_eq (zCe_get h1 hn), (h1.bs hn).O, T.1]
    refine zev_mono (zTa_alone (bs := bs) T (h1.bs hn) (fun m hm => h1.bs (hI n hn m hm).1) (h6 n hn).2 (fun m hm => (h6 m (hI n hn m hm).1).2) b1) ?_
    rintro ⟨M2, u0⟩ hh
    dsimp only at hh ⊢
    obtain ⟨T2, f2, b2⟩ := hh
    have h3 : zCe M2 g A AL x adr ga nb bs ro lb ps ac jr bo mo gi tr tp wy (-1) tc st ds dw bf ba bc := by
      obtain ⟨cN, cO, cB, cBs, cRw, cLl, cLs, cPk, cJu, cPp, cAc, cBl, cJr, cBo, cDr, cBe, cT1, cT2⟩ := h1
      exact ⟨cN, cO.fr f2 (by first | omega | (dsimp only; omega)), cB.fr f2 (by first | omega | (dsimp only; omega)), cBs.fr f2 (fun b hb => ⟨(by first | omega | (dsimp only; omega)), (by first | omega | (dsimp only; omega)), (by first | omega | (dsimp only; omega))⟩), cRw.fr f2 (by first | omega | (dsimp only; omega)) (fun r hr => (by first | omega | (dsimp only; omega))), cLl.fr f2 (by first | omega | (dsimp only; omega)), cLs.fr f2 (fun i hi => (by first | omega | (dsimp only; omega))), cPk.fr f2 (by first | omega | (dsimp only; omega)), ⟨_, _, _, _, T2⟩, cPp.fr f2 (by first | omega | (dsimp only; omega)) (by first | omega | (dsimp only; omega)), cAc.fr f2 (by first | omega | (dsimp only; omega)) (fun h hh => (by first | omega | (dsimp only; omega))), cBl.fr f2 (by first | omega | (dsimp only; omega)), cJr.fr f2 (by first | omega | (dsimp only; omega)), cBo.fr f2 (by first | omega | (dsimp only; omega)), cDr.fr f2 (by first | omega | (dsimp only; omega)) (by first | omega | (dsimp only; omega)), cBe.fr f2 (by first | omega | (dsimp only; omega)) (by first | omega | (dsimp only; omega)) (by first | omega | (dsimp only; omega)), cT1.fr f2 (by first | omega | (dsimp only; omega)), cT2.fr f2 (by first | omega | (dsimp only; omega))⟩
    have L2 := h3.ls.2 i q hq
    have hC2 : ∀ j, j < 1 → fuN C 0 0 j < 1 := fun j hj => by
      have : j = 0 := by omega
      rw [this, fuN_self]; decide
    have hlf : ∀ p, p ∈ q.1.flatten → lfok p := L2.2.2.2.2.2.2.2.2.1
    have el : ∀ p, p ∈ q.1.flatten → lans (thav (balo bs (bs n) S) (fuN C 0 0) 1) (bhas bs (bs n)) p = lans (jH bs (bs n)) (bhas bs (bs n)) p := fun p hp => lans_cong (hlf p hp) (fun off ho => jH_eq bs (bs n) S C off ho)
    have eF : fbrk (lans (thav (balo bs (bs n) S) (fuN C 0 0) 1) (bhas bs (bs n))) 0 q.1 = fbrk (lans (jH bs (bs n)) (bhas bs (bs n))) 0 q.1 := fbrk_cong _ _ el
    have hbr := zLb_broken L2 T2 hC2
    rw [eF] at hbr
    simp only [h3.O, h3.r (show 4 < 14 by decide), zev_b1, zev_bd, zev_some, zev_gi, zev_gj, zev_gr, zev_pi, zev_pz, zev_pj, zev_pr, zev_rc, zev_cc, zev_b0, zev_bo, true_and, and_true, L2.1, zev_eq hbr]
    obtain ⟨h4, f4⟩ := zCe_wh h3 (fbrk (lans (jH bs (bs n)) (bhas bs (bs n))) 0 q.1)
    have b4 : zBu (zm_pi M2 x 19 (fbrk (lans (jH bs (bs n)) (bhas bs (bs n))) 0 q.1)) g k := b2.same rfl rfl
    have T4 := T2.fr f4 (by decide)
    have fA : zFo M g (zm_pi M2 x 19 (fbrk (lans (jH bs (bs n)) (bhas bs (bs n))) 0 q.1)) g Tc := (f1'.tr (f2.mono (fun z q => show z ≠ 1 ∧ z ≠ 28 ∧ z ≠ 29 by first | omega | (dsimp only at q; omega)))).tr (f4.mono (fun z q => show z ≠ 1 ∧ z ≠ 28 ∧ z ≠ 29 by first | omega | (dsimp only at q; omega)))
    generalize zm_pi M2 x 19 (fbrk (lans (jH bs (bs n)) (bhas bs (bs n))) 0 q.1) = M4 at h4 f4 b4 T4 fA ⊢
    have e9 := h4.co.2.2.2.2.2.2.2.2
    have L4 := h4.ls.2 i q hq
    simp only [h4.O, e9, zev_b1, zev_bd, zev_some, zev_gi, zev_gj, zev_gr, zev_pi, zev_pz, zev_pj, zev_pr, zev_rc, zev_cc, zev_b0, zev_bo, true_and, and_true]
    by_cases h5 : fbrk (lans (jH bs (bs n)) (bhas bs (bs n))) 0 q.1 = -1
    · simp only [if_pos h5, zev_b1, zev_bd, zev_some, zev_gi, zev_gj, zev_gr, zev_pi, zev_pz, zev_pj, zev_pr, zev_rc, zev_cc, zev_b0, zev_bo, true_and, and_true]
      exact ⟨g, A, AL, h4, fA, b4⟩
    · rcases fbrk_spec (h := lans (jH bs (bs n)) (bhas bs (bs n))) q.1 0 with e | ⟨r, y, e1, e2⟩
      · exact absurd e h5
      · rw [Nat.zero_add] at e2
        have hrl := (List.getElem?_eq_some_iff.mp e1).1
        have hr20 : q.1.length ≤ 20 := Nat.le_trans L4.2.2.2.2.2.2.1 (Nat.le_trans L4.2.2.2.2.2.1 L4.2.2.2.2.2.2.2.1)
        have hans := zLb_ans L4 T4 hC2 e1
        have eR : rans (lans (thav (balo bs (bs n) S) (fuN C 0 0) 1) (bhas bs (bs n))) y = rans (lans (jH bs (bs n)) (bhas bs (bs n))) y := rans_cong y (fun p hp => el p (List.mem_flatten.mpr ⟨y, List.mem_of_getElem? e1, hp⟩))
        rw [eR] at hans
        rw [e2] at h4 e9
        simp only [e2, nI_clamp (show r < 2 ^ 31 by omega), e1, Option.getD_some]
        have hne : ¬ nI r = -1 := fun e => h5 (e2.trans e)
        simp only [if_neg hne, zev_b1, zev_bd, zev_some, zev_gi, zev_gj, zev_gr, zev_pi, zev_pz, zev_pj, zev_pr, zev_rc, zev_cc, zev_b0, zev_bo, true_and, and_true, h4.O, e9, h4.r (show 4 < 14 by decide), L4.1, zev_eq hans]
        by_cases h7 : rans (lans (jH bs (bs n)) (bhas bs (bs n))) y = -1
        · simp only [if_pos h7, zev_b1, zev_bd, zev_some, zev_gi, zev_gj, zev_gr, zev_pi, zev_pz, zev_pj, zev_pr, zev_rc, zev_cc, zev_b0, zev_bo, true_and, and_true]
          exact ⟨g, A, AL, h4, fA, b4⟩
        · simp only [if_neg h7, zev_b1, zev_bd, zev_some, zev_gi, zev_gj, zev_gr, zev_pi, zev_pz, zev_pj, zev_pr, zev_rc, zev_cc, zev_b0, zev_bo, true_and, and_true]
          exact ⟨g, A, AL, h4, fA, b4⟩
  · simp only [if_neg h2, zev_b1, zev_bd, zev_some, zev_gi, zev_gj, zev_gr, zev_pi, zev_pz, zev_pj, zev_pr, zev_rc, zev_cc, zev_b0, zev_bo, true_and, and_true]
    exact ⟨g, A, AL, h1, f1', b1⟩
