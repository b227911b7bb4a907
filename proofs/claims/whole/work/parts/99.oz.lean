/-! Acts of the class: breathe. -/
theorem isum_0 : ∀ (s : List Int64), (∀ v, v ∈ s → 0 ≤ v.toInt) → isum s = 0 → ∀ v, v ∈ s → v = 0
  | [], _, _, v, hv => by cases hv
  | w :: r, h, hs, v, hv => by
    have h1 : w.toInt.toNat + isum r = 0 := hs
    have h2 := h w List.mem_cons_self
    rcases List.mem_cons.mp hv with rfl | hv
    · exact Int64.toInt_inj.mp (show v.toInt = 0 by omega)
    · exact isum_0 r (fun z hz => h z (List.mem_cons_of_mem _ hz)) (by omega) v hv
theorem wles_0 : ∀ (l : Wn) (s : List Int64), s.length = l.length → wpos l → (∀ v, v ∈ s → v = 0) → wles l s = l
  | [], s, _, _, _ => wles_nil s
  | q :: r, [], h, _, _ => by simp at h
  | q :: r, v :: s, h, hp, hv => by
    have e := hv v List.mem_cons_self
    have h1 := hp q List.mem_cons_self
    show (if q.2 ≤ v then wles r s else (q.1, q.2 - v) :: wles r s) = q :: r
    rw [e, if_neg (fun z => by have := le0_toInt.mp z; omega), wles_0 r s (by simpa using h) hp.tl (fun z hz => hv z (List.mem_cons_of_mem _ hz)), Int64.sub_zero]
theorem wputs_0 : ∀ (l : Wn) (s : List Int64) (a : Wn), (∀ v, v ∈ s → v = 0) → wputs a (wgng l s) = a
  | [], s, a, _ => by simp [wgng, wputs]
  | q :: r, [], a, _ => by simp [wgng, wputs]
  | q :: r, v :: s, a, h => by
    have e := h v List.mem_cons_self
    show wputs (if v ≤ 0 then a else wadd q.1 v a) (wgng r s) = a
    rw [if_pos (by rw [e]; decide)]
    exact wputs_0 r s a (fun z hz => h z (List.mem_cons_of_mem _ hz))
def brkc (r : Int64) (s : Wn × Wn × Int64) : Wn × Wn × Int64 := (wles s.1 (wshr (wsum s.1 * r / 10000) s.1), wputs s.2.1 (wgng s.1 (wshr (wsum s.1 * r / 10000) s.1)), s.2.2 + wsum s.1 * r / 10000)
def wok (l : Wn) : Prop := wpos l ∧ nT l ≤ 1000000000 ∧ wcod l ∧ l.length ≤ 60
/-- what goes in a month -/
theorem brk_all {kd : Int32} {l : Wn} (h : wok l) : wsok l (wshr (wsum l * brat kd / 10000) l) ∧ lsub (wsum l) (wshr (wsum l * brat kd / 10000) l) = wsum (wles l (wshr (wsum l * brat kd / 10000) l)) ∧ wok (wles l (wshr (wsum l * brat kd / 10000) l)) ∧ (wsum l * brat kd / 10000 = 0 → wles l (wshr (wsum l * brat kd / 10000) l) = l ∧ ∀ a, wputs a (wgng l (wshr (wsum l * brat kd / 10000) l)) = a) := by
  obtain ⟨h1, h2, h3, h4⟩ := h
  obtain ⟨k, k1, k2⟩ := brth_N h2 kd
  rw [← wsum_lN _ h1] at k2
  have kt : (wsum l * brat kd / 10000).toInt = (k : Int) := by rw [k2, pk_lT (by omega)]
  obtain ⟨a1, a2, a3, a4, a5⟩ := wshr_all (x := wsum l * brat kd / 10000) h1 h2 (by omega) (by omega)
  refine ⟨a1, a2, ⟨a3, by omega, fun q hq => ?_, Nat.le_trans (wles_len _ _) h4⟩, fun hz => ?_⟩
  · obtain ⟨q', m1, m2⟩ := wles_mem _ _ q hq
    rw [← m2]; exact h3 q' m1
  · have ln := wshr_len (wsum l * brat kd / 10000) l
    have k0 : k = 0 := by
      have := kt
      rw [hz] at this
      have e0 : (0 : Int64).toInt = 0 := rfl
      omega
    have all0 : ∀ v, v ∈ wshr (wsum l * brat kd / 10000) l → v = 0 := isum_0 _ (fun v hv => by
      obtain ⟨i, hi⟩ := List.mem_iff_getElem?.mp hv
      have hil := (List.getElem?_eq_some_iff.mp hi).1
      obtain ⟨q, hq⟩ := getElem?_lt (l := l) (i := i) (by omega)
      exact (a1 i q v hq hi).1) (by omega)
    exact ⟨wles_0 _ _ ln h1 all0, fun a => wputs_0 _ _ a all0⟩
theorem brk_c {kd : Int32} {s : Wn × Wn × Int64} (h : wok s.1) : brkc (brat kd) s = brk1 (brat kd) s := by
  obtain ⟨-, -, -, h4⟩ := brk_all (kd := kd) h
  unfold brk1
  by_cases e : wsum s.1 * brat kd / 10000 = 0
  · rw [if_pos e]
    obtain ⟨e1, e2⟩ := h4 e
    unfold brkc
    rw [e1, e2, e, Int64.add_zero]
  · rw [if_neg e]; rfl
theorem brkN_ok {kd : Int32} {s : Wn × Wn × Int64} (h : wok s.1) (ha : wcod s.2.1) : ∀ n, wok (brkN (brat kd) n s).1 ∧ wcod (brkN (brat kd) n s).2.1
  | 0 => ⟨h, ha⟩
  | n + 1 => by
    obtain ⟨i1, i2⟩ := brkN_ok (kd := kd) h ha n
    show wok (brk1 (brat kd) (brkN (brat kd) n s)).1 ∧ wcod (brk1 (brat kd) (brkN (brat kd) n s)).2.1
    rw [← brk_c i1]
    exact ⟨(brk_all (kd := kd) i1).2.2.1, wcod_wputs _ _ i2 (wcod_wgng _ _ i1.2.2.1)⟩
theorem brkN_g {r : Int64} {w a : Wn} {g : Int64} : ∀ n, brkN r n (w, a, g) = ((brkN r n (w, a, 0)).1, (brkN r n (w, a, 0)).2.1, g + (brkN r n (w, a, 0)).2.2)
  | 0 => by show (w, a, g) = (w, a, g + 0); rw [Int64.add_zero]
  | n + 1 => by
    show brk1 r (brkN r n (w, a, g)) = ((brk1 r (brkN r n (w, a, 0))).1, (brk1 r (brkN r n (w, a, 0))).2.1, g + (brk1 r (brkN r n (w, a, 0))).2.2)
    rw [brkN_g n]
    generalize brkN r n (w, a, 0) = s
    unfold brk1
    dsimp only
    split
    · rfl
    · dsimp only; rw [Int64.add_assoc]
/-- out of one vessel, into an account -/
theorem zCe_out {M : Zm} {g : Zg} {A AL : Nat → Nat} {x : Nat} {adr : Nat → Nat} {ga nb : Nat} {bs : Nat → Bv} {ro : Nat → Rw} {lb : List Lb} {ps : List (Nat × Int64)} {ac : Nat → Wn} {jr bo : List Ln} {mo : Int32} {gi : Int64} {tr tp wy wh : Int32} {tc : List Int32} {st : List Int64} {ds : List (Nat × Int64)} {dw : Wn} {bf : Nat → Int32} {ba : Wn} {bc : List Nat} {b w wa k : Nat} (h : zCe M g A AL x adr ga nb bs ro lb ps ac jr bo mo gi tr tp wy wh tc st ds dw bf ba bc) (hbn : b < nb) (hw1 : zm_r M (adr 6) 1 = some w) (hwa : zm_r M (A b) 5 = some wa) (v : Int64) (h60 : (bs b).2.1.2.2.2.length ≤ 60) (hca : wcod (ac 1)) (hcd : wcod (bs b).2.1.2.2.2) (hsum : lsub (wsum (bs b).2.1.2.2.2) (wshr v (bs b).2.1.2.2.2) = wsum (wles (bs b).2.1.2.2.2 (wshr v (bs b).2.1.2.2.2))) (hb : zBu M g k) : zev (zf_X2_takeOut M (some (adr 10)) (some wa) v (some w)) (fun y => ∃ g', zCe y.1 g' A AL x adr ga nb (bup bs b (bwin (bs b) (wles (bs b).2.1.2.2.2 (wshr v (bs b).2.1.2.2.2)))) ro lb ps (aup ac 1 (wputs (ac 1) (wgng (bs b).2.1.2.2.2 (wshr v (bs b).2.1.2.2.2)))) jr bo mo gi tr tp wy wh tc st ds dw bf ba bc ∧ zFo M g y.1 g' Tc ∧ zBu y.1 g' k) := by
  have hN := h.N
  obtain ⟨a1, a2, a3, a4⟩ := h.ac
  obtain ⟨w', w1, w2⟩ := a4 1 (by decide)
  rw [hw1] at w1
  cases w1
  have xb := h.bs hbn
  obtain ⟨wa', wa1, wa2⟩ := xb.wn
  rw [hwa] at wa1
  cases wa1
  have hz : zcm (20 + 1) = 4096 := rfl
  have hro := wroomy_acc (bs := bs) (ds := [(b, v)]) w2.ris hca (fun q hq => by rw [List.mem_singleton] at hq; rw [hq]; exact hcd) 0 (b, v) rfl
  refine zev_mono (zGa_out v h.dr.G wa2 w2 (by omega) (by decide) (by omega) h60 (by decide) ⟨10, by decide, rfl⟩ (by rw [hz]; exact hro) hsum hb) ?_
  rintro ⟨M4, u0⟩ hh
  dsimp only at hh ⊢
  obtain ⟨g4, M3, V4, W4, fg, f4, b4⟩ := hh
  have D3 := h.dr.fg fg
  have g10 : g.1 ga = 10 := by
    obtain ⟨q1, q2, q3, q4, q5, q6, q7, q8, -⟩ := h.dr
    exact q8
  have fo3 : zFo M g M3 g (fun z => z = 10) := ⟨fg.mono (fun a _ q => by rw [q]; exact g10), fun _ _ => rfl, fun _ _ => rfl⟩
  have D4 := D3.fr f4 (fun (z : 10 = 20 + 1 ∨ 10 = 101 + 3 * b) => by omega) (fun (z : 26 = 20 + 1 ∨ 26 = 101 + 3 * b) => by omega)
  have f24 : zFo M g M4 g4 (fun z => z = 10 ∨ z = 20 + 1 ∨ z = 101 + 3 * b) := fo3.tr3 f4 (fun z q => Or.inl q) (fun z q => Or.inr q)
  have x4 := xb.putw hwa f24 (fun (z : 100 + 3 * b = 10 ∨ 100 + 3 * b = 20 + 1 ∨ 100 + 3 * b = 101 + 3 * b) => by omega) (fun (z : 102 + 3 * b = 10 ∨ 102 + 3 * b = 20 + 1 ∨ 102 + 3 * b = 101 + 3 * b) => by omega) W4
  have e6 := f24.at a1.1 a3 (fun (z : 17 = 10 ∨ 17 = 20 + 1 ∨ 17 = 101 + 3 * b) => by omega)
  refine ⟨g4, ?_, f24.mono (fun z q => show z ≠ 1 ∧ z ≠ 28 ∧ z ≠ 29 by first | omega | (dsimp only at q; omega)), b4⟩
  obtain ⟨cN, cO, cB, cBs, cRw, cLl, cLs, cPk, cJu, cPp, cAc, cBl, cJr, cBo, cDr, cBe, cT1, cT2⟩ := h
  refine ⟨cN, cO.fr f24 (by first | omega | (dsimp only; omega)), cB.fr f24 (by first | omega | (dsimp only; omega)), cBs.up f24 x4 (fun c hc hcb => ⟨(by first | omega | (dsimp only; omega)), (by first | omega | (dsimp only; omega)), (by first | omega | (dsimp only; omega))⟩), cRw.fr f24 (by first | omega | (dsimp only; omega)) (fun r hr => (by first | omega | (dsimp only; omega))), cLl.fr f24 (by first | omega | (dsimp only; omega)), cLs.fr f24 (fun i hi => (by first | omega | (dsimp only; omega))), cPk.fr f24 (by first | omega | (dsimp only; omega)), cJu.fr f24 (by first | omega | (dsimp only; omega)), cPp.fr f24 (by first | omega | (dsimp only; omega)) (by first | omega | (dsimp only; omega)), ⟨f24.O a1, (f24.A (show zA M (adr 6) 18 5 from ⟨a1, a2⟩)).2, f24.own a1.1 a3, fun i hi => ?_⟩, cBl.fr f24 (by first | omega | (dsimp only; omega)), cJr.fr f24 (by first | omega | (dsimp only; omega)), cBo.fr f24 (by first | omega | (dsimp only; omega)), D4, cBe.fr f24 (by first | omega | (dsimp only; omega)) (by first | omega | (dsimp only; omega)) (by first | omega | (dsimp only; omega)), cT1.fr f24 (by first | omega | (dsimp only; omega)), cT2.fr f24 (by first | omega | (dsimp only; omega))⟩
  unfold aup
  by_cases e : i = 1
  · subst e
    rw [if_pos rfl]
    exact ⟨w, by rw [e6.2.2]; exact hw1, V4⟩
  · rw [if_neg e]
    obtain ⟨w', v1, v2⟩ := a4 i hi
    exact ⟨w', by rw [e6.2.2]; exact v1, v2.fr f24 (fun (z : 20 + i = 10 ∨ 20 + i = 20 + 1 ∨ 20 + i = 101 + 3 * b) => by omega)⟩
