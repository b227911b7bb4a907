/-! The reference's value and the cellar's state: how they belong together. -/
theorem mln_2 : mln 2 = 1000 := rfl
theorem mln_3 : mln 3 = 1000 := rfl
theorem mln_4 : mln 4 = 1000 := rfl
theorem mln_5 : mln 5 = 1000 := rfl
theorem mln_6 : mln 6 = 1000 := rfl
theorem mln_7 : mln 7 = 4000 := rfl
theorem mln_8 : mln 8 = 1000 := rfl
theorem mln_9 : mln 9 = 60000 := rfl
theorem mln_10 : mln 10 = 60000 := rfl
theorem mln_11 : mln 11 = 20 := rfl
theorem mln_12 : mln 12 = 20 := rfl
theorem mln_13 : mln 13 = 1200 := rfl
theorem mln_15 : mln 15 = 4096 := rfl
theorem mln_16 : mln 16 = 4096 := rfl
theorem mln_17 : mln 17 = 20480 := rfl
theorem mln_24 : mln 24 = 40 := rfl
theorem mln_25 : mln 25 = 40 := rfl
theorem mln_26 : mln 26 = 800 := rfl
theorem mln_27 : mln 27 = 800 := rfl
theorem mln_28 : mln 28 = 800 := rfl
theorem mln_29 : mln 29 = 800 := rfl
theorem mln_30 : mln 30 = 800 := rfl
theorem mln_31 : mln 31 = 800 := rfl
theorem mln_32 : mln 32 = 800 := rfl
theorem mln_34 : mln 34 = 8 := rfl
theorem mln_35 : mln 35 = 8 := rfl
theorem mln_37 : mln 37 = 8 := rfl
theorem mln_42 : mln 42 = 200 := rfl
theorem mln_49 : mln 49 = 1000 := rfl
theorem mln_50 : mln 50 = 1000 := rfl
theorem mln_51 : mln 51 = 1000 := rfl
theorem mln_52 : mln 52 = 4000 := rfl
theorem mln_53 : mln 53 = 1000 := rfl
theorem mln_54 : mln 54 = 60000 := rfl
theorem mln_55 : mln 55 = 60000 := rfl
theorem mln_56 : mln 56 = 20 := rfl
theorem mln_57 : mln 57 = 20 := rfl
theorem mln_58 : mln 58 = 1200 := rfl
theorem mln_59 : mln 59 = 20480 := rfl
theorem mln_61 : mln 61 = 32 := rfl
theorem mln_62 : mln 62 = 32 := rfl
theorem mln_63 : mln 63 = 60 := rfl
theorem mln_65 : mln 65 = 1980 := rfl
theorem mln_66 : mln 66 = 1980 := rfl
theorem mln_68 : mln 68 = 48 := rfl
theorem mln_70 : mln 70 = 3744 := rfl
theorem mln_71 : mln 71 = 78 := rfl
theorem mln_72 : mln 72 = 6 := rfl
theorem mln_73 : mln 73 = 6 := rfl
theorem mln_74 : mln 74 = 6 := rfl
theorem nI_x4 (a : Nat) : 4 * nI a = nI (4 * a) := pk_mul 4 a
theorem nI_x5 (a : Nat) : 5 * nI a = nI (5 * a) := pk_mul 5 a
theorem nI_x13 (a : Nat) : 13 * nI a = nI (13 * a) := pk_mul 13 a
theorem nI_x16 (a : Nat) : 16 * nI a = nI (16 * a) := pk_mul 16 a
theorem nI_x20 (a : Nat) : 20 * nI a = nI (20 * a) := pk_mul 20 a
theorem nI_x60 (a : Nat) : 60 * nI a = nI (60 * a) := pk_mul 60 a
theorem nI_x100 (a : Nat) : 100 * nI a = nI (100 * a) := pk_mul 100 a
theorem nI_x48r (a : Nat) : nI a * 48 = nI (a * 48) := pk_mul a 48
def qfr (Q Q' : Mq) (W : List Nat) : Prop := ∀ f, f ∉ W → Q'.1 f = Q.1 f ∧ Q'.2 f = Q.2 f
theorem qfr.rf {Q : Mq} {W : List Nat} : qfr Q Q W := fun _ _ => ⟨rfl, rfl⟩
theorem qfr.tr {Q Q1 Q2 : Mq} {W1 W2 : List Nat} (h1 : qfr Q Q1 W1) (h2 : qfr Q1 Q2 W2) : qfr Q Q2 (W1 ++ W2) := fun f hf => ⟨(h2 f (fun q => hf (List.mem_append_right _ q))).1.trans (h1 f (fun q => hf (List.mem_append_left _ q))).1, (h2 f (fun q => hf (List.mem_append_right _ q))).2.trans (h1 f (fun q => hf (List.mem_append_left _ q))).2⟩
theorem qfr.tr0 {Q Q1 Q2 : Mq} {W : List Nat} (h1 : qfr Q Q1 W) (h2 : qfr Q1 Q2 W) : qfr Q Q2 W := fun f hf => ⟨(h2 f hf).1.trans (h1 f hf).1, (h2 f hf).2.trans (h1 f hf).2⟩
theorem qfr.mono {Q Q' : Mq} {W W' : List Nat} (h : qfr Q Q' W) (hs : ∀ f, f ∈ W → f ∈ W') : qfr Q Q' W' := fun f hf => h f (fun q => hf (hs f q))
theorem qfr.i {Q Q' : Mq} {W : List Nat} (h : qfr Q Q' W) (f : Nat) (hf : f ∉ W) : Q'.1 f = Q.1 f := (h f hf).1
theorem qfr.j {Q Q' : Mq} {W : List Nat} (h : qfr Q Q' W) (f : Nat) (hf : f ∉ W) : Q'.2 f = Q.2 f := (h f hf).2
theorem qfr.qi {Q : Mq} {W : List Nat} {f k : Nat} {v : Int32} (hf : f ∈ W) : qfr Q (qi Q f k v) W := fun x hx => ⟨by funext j; rw [qi_1, if_neg (fun (q : x = f ∧ j = k) => hx (by rw [q.1]; exact hf))], rfl⟩
theorem qfr.qj {Q : Mq} {W : List Nat} {f k : Nat} {v : Int64} (hf : f ∈ W) : qfr Q (qj Q f k v) W := fun x hx => ⟨rfl, by funext j; rw [qj_2, if_neg (fun (q : x = f ∧ j = k) => hx (by rw [q.1]; exact hf))]⟩
def mV (Q : Mq) (fc fp fm fe fn fi fl b : Nat) (v : Lv) (ms : List Nat) : Prop := Q.1 fc b = v.1 ∧ Q.1 fp b = v.2.1 ∧ Q.1 fm b = nI v.2.2.1 ∧ Q.1 fn b = nI v.2.2.2.length ∧ (∀ k m, ms[k]? = some m → Q.1 fe (4 * b + k) = nI m) ∧ (∀ i q, v.2.2.2[i]? = some q → Q.1 fi (60 * b + i) = q.1 ∧ Q.2 fl (60 * b + i) = q.2)
def mBs (Q : Mq) (nb : Nat) (bs : Nat → Bv) : Prop := Q.1 1 0 = nI nb ∧ ∀ b, b < nb → Q.1 2 b = (bs b).1.1 ∧ Q.1 3 b = (bs b).1.2 ∧ mV Q 4 5 6 7 8 9 10 b (bs b).2.1 (bms (bs b))
theorem mBs.nb {Q : Mq} {nb : Nat} {bs : Nat → Bv} (h : mBs Q nb bs) : Q.1 1 0 = nI nb := h.1
theorem mBs.kd {Q : Mq} {nb b : Nat} {bs : Nat → Bv} (h : mBs Q nb bs) (hb : b < nb) : Q.1 2 b = (bs b).1.1 := (h.2 b hb).1
theorem mBs.sz {Q : Mq} {nb b : Nat} {bs : Nat → Bv} (h : mBs Q nb bs) (hb : b < nb) : Q.1 3 b = (bs b).1.2 := (h.2 b hb).2.1
theorem mBs.ct {Q : Mq} {nb b : Nat} {bs : Nat → Bv} (h : mBs Q nb bs) (hb : b < nb) : Q.1 4 b = (bs b).2.1.1 := (h.2 b hb).2.2.1
theorem mBs.pl {Q : Mq} {nb b : Nat} {bs : Nat → Bv} (h : mBs Q nb bs) (hb : b < nb) : Q.1 5 b = (bs b).2.1.2.1 := (h.2 b hb).2.2.2.1
theorem mBs.mc {Q : Mq} {nb b : Nat} {bs : Nat → Bv} (h : mBs Q nb bs) (hb : b < nb) : Q.1 6 b = nI (bs b).2.1.2.2.1 := (h.2 b hb).2.2.2.2.1
theorem mBs.ln {Q : Mq} {nb b : Nat} {bs : Nat → Bv} (h : mBs Q nb bs) (hb : b < nb) : Q.1 8 b = nI (bs b).2.1.2.2.2.length := (h.2 b hb).2.2.2.2.2.1
theorem mBs.me {Q : Mq} {nb b : Nat} {bs : Nat → Bv} (h : mBs Q nb bs) (hb : b < nb) {k m : Nat} (hk : (bms (bs b))[k]? = some m) : Q.1 7 (4 * b + k) = nI m := (h.2 b hb).2.2.2.2.2.2.1 k m hk
theorem mBs.wi {Q : Mq} {nb b : Nat} {bs : Nat → Bv} (h : mBs Q nb bs) (hb : b < nb) {i : Nat} {q : Int32 × Int64} (hi : (bs b).2.1.2.2.2[i]? = some q) : Q.1 9 (60 * b + i) = q.1 ∧ Q.2 10 (60 * b + i) = q.2 := (h.2 b hb).2.2.2.2.2.2.2 i q hi
theorem mV.fr {Q Q' : Mq} {W : List Nat} {fc fp fm fe fn fi fl b : Nat} {v : Lv} {ms : List Nat} (h : mV Q fc fp fm fe fn fi fl b v ms) (f : qfr Q Q' W) (hd : ∀ x, x ∈ [fc, fp, fm, fe, fn, fi, fl] → x ∉ W) : mV Q' fc fp fm fe fn fi fl b v ms := by
  obtain ⟨h1, h2, h3, h4, h5, h6⟩ := h
  refine ⟨?_, ?_, ?_, ?_, fun k m hk => ?_, fun i q hi => ?_⟩
  · rw [f.i fc (hd _ (by simp))]; exact h1
  · rw [f.i fp (hd _ (by simp))]; exact h2
  · rw [f.i fm (hd _ (by simp))]; exact h3
  · rw [f.i fn (hd _ (by simp))]; exact h4
  · rw [f.i fe (hd _ (by simp))]; exact h5 k m hk
  · rw [f.i fi (hd _ (by simp)), f.j fl (hd _ (by simp))]; exact h6 i q hi
theorem mBs.fr {Q Q' : Mq} {W : List Nat} {nb : Nat} {bs : Nat → Bv} (h : mBs Q nb bs) (f : qfr Q Q' W) (hd : ∀ x, x ∈ [1, 2, 3, 4, 5, 6, 7, 8, 9, 10] → x ∉ W) : mBs Q' nb bs := by
  refine ⟨by rw [f.i 1 (hd _ (by decide))]; exact h.1, fun b hb => ⟨?_, ?_, (h.2 b hb).2.2.fr f (fun x hx => hd x (by revert hx; simp; omega))⟩⟩
  · rw [f.i 2 (hd _ (by decide))]; exact (h.2 b hb).1
  · rw [f.i 3 (hd _ (by decide))]; exact (h.2 b hb).2.1
def mRs (Q : Mq) (fk fs fl : Nat) (ro : Nat → Rw) : Prop := ∀ r, r < 20 → (ro r = none ∧ Q.1 fk r = -1 ∧ ∀ p, p < 60 → Q.1 fl (60 * r + p) = -1) ∨ (∃ k ps, ro r = some (k, ps) ∧ Q.1 fk r = k ∧ (¬ k < 0 ∧ ¬ 6 < k) ∧ Q.1 fs r = nI ps.length ∧ ps.length ≤ 60 ∧ ∀ p, p < 60 → Q.1 fl (60 * r + p) = (ps[p]?).getD (-1))
theorem mRs.fr {Q Q' : Mq} {W : List Nat} {fk fs fl : Nat} {ro : Nat → Rw} (h : mRs Q fk fs fl ro) (f : qfr Q Q' W) (hd : ∀ x, x ∈ [fk, fs, fl] → x ∉ W) : mRs Q' fk fs fl ro := by
  intro r hr
  have e1 := f.i fk (hd _ (by simp))
  have e2 := f.i fs (hd _ (by simp))
  have e3 := f.i fl (hd _ (by simp))
  rw [e1, e2, e3]
  exact h r hr
def mKn (Q : Mq) (kc : List Int32) : Prop := Q.1 14 0 = nI kc.length ∧ kc.Nodup ∧ (∀ p, p ∈ kc → 0 ≤ p.toInt ∧ p.toInt < 4096) ∧ (∀ k p, kc[k]? = some p → Q.1 16 k = p ∧ Q.1 15 p.toNatClampNeg = nI (k + 1)) ∧ (∀ c, c < 4096 → nI c ∉ kc → Q.1 15 c = 0)
theorem mKn.fr {Q Q' : Mq} {W : List Nat} {kc : List Int32} (h : mKn Q kc) (f : qfr Q Q' W) (hd : ∀ x, x ∈ [14, 15, 16] → x ∉ W) : mKn Q' kc := by
  obtain ⟨h1, h2, h3, h4, h5⟩ := h
  unfold mKn
  rw [f.i 14 (hd _ (by decide)), f.i 15 (hd _ (by decide)), f.i 16 (hd _ (by decide))]
  exact ⟨h1, h2, h3, h4, h5⟩
def mAc (Q : Mq) (ft : Nat) (kc : List Int32) (ac : Nat → Wn) : Prop := ∀ k p, kc[k]? = some p → ∀ h, h < 5 → Q.2 ft (5 * k + h) = wlook p (ac h)
theorem mAc.fr {Q Q' : Mq} {W : List Nat} {ft : Nat} {kc : List Int32} {ac : Nat → Wn} (h : mAc Q ft kc ac) (f : qfr Q Q' W) (hd : ft ∉ W) : mAc Q' ft kc ac := by
  unfold mAc
  rw [f.j ft hd]
  exact h
def mCd (kc : List Int32) (nb : Nat) (bs : Nat → Bv) (ac : Nat → Wn) : Prop := (∀ h, h < 5 → ∀ q, q ∈ ac h → q.1 ∈ kc) ∧ (∀ b, b < nb → ∀ q, q ∈ (bs b).2.1.2.2.2 → q.1 ∈ kc)
def mJl (Q : Mq) (f c : Nat) (ls : List Ln) : Prop := Q.1 c 0 = nI ls.length ∧ ∀ i q, ls[i]? = some q → Q.2 f (4 * i) = q.1 ∧ Q.2 f (4 * i + 1) = q.2.1 ∧ Q.2 f (4 * i + 2) = q.2.2.1 ∧ Q.2 f (4 * i + 3) = q.2.2.2
theorem mJl.fr {Q Q' : Mq} {W : List Nat} {f c : Nat} {ls : List Ln} (h : mJl Q f c ls) (F : qfr Q Q' W) (h1 : f ∉ W) (h2 : c ∉ W) : mJl Q' f c ls := by
  unfold mJl
  rw [F.i c h2, F.j f h1]
  exact h
def mPk (Q : Mq) (ps : List (Nat × Int64)) : Prop := Q.1 33 0 = nI ps.length ∧ ps.length ≤ 8 ∧ ∀ i q, ps[i]? = some q → Q.1 34 i = nI q.1 ∧ Q.2 35 i = q.2
theorem mPk.fr {Q Q' : Mq} {W : List Nat} {ps : List (Nat × Int64)} (h : mPk Q ps) (f : qfr Q Q' W) (hd : ∀ x, x ∈ [33, 34, 35] → x ∉ W) : mPk Q' ps := by
  unfold mPk
  rw [f.i 33 (hd _ (by decide)), f.i 34 (hd _ (by decide)), f.j 35 (hd _ (by decide))]
  exact h
def mPn (Q : Mq) (st : List Int64) : Prop := Q.1 36 0 = nI st.length ∧ st.length ≤ 6 ∧ ∀ i v, st[i]? = some v → Q.2 37 i = v
theorem mPn.fr {Q Q' : Mq} {W : List Nat} {st : List Int64} (h : mPn Q st) (f : qfr Q Q' W) (hd : ∀ x, x ∈ [36, 37] → x ∉ W) : mPn Q' st := by
  unfold mPn
  rw [f.i 36 (hd _ (by decide)), f.j 37 (hd _ (by decide))]
  exact h
def mTc (Q : Mq) (tc : List Int32) : Prop := Q.1 41 0 = nI tc.length ∧ tc.length ≤ 200 ∧ ∀ i v, tc[i]? = some v → Q.1 42 i = v
theorem mTc.fr {Q Q' : Mq} {W : List Nat} {tc : List Int32} (h : mTc Q tc) (f : qfr Q Q' W) (hd : ∀ x, x ∈ [41, 42] → x ∉ W) : mTc Q' tc := by
  unfold mTc
  rw [f.i 41 (hd _ (by decide)), f.i 42 (hd _ (by decide))]
  exact h
/-- a rule's tree, in the label's own stretch -/
def mTr (Q : Mq) (lo hi : Nat) : Nat → Nat → List Lf → Prop
  | 0, _, _ => False
  | d + 1, t, ls => (lo ≤ t ∧ t < hi) ∧ ((∃ q : Lf, ls = [q] ∧ lfok q ∧ Q.1 27 t = nI q.1 ∧ Q.1 28 t = nI q.2.1 ∧ Q.1 29 t = nI q.2.2.1 ∧ Q.1 30 t = nI q.2.2.2) ∨ (∃ t1 t2 l1 l2, ls = l1 ++ l2 ∧ Q.1 27 t = 6 ∧ Q.1 31 t = nI t1 ∧ Q.1 32 t = nI t2 ∧ mTr Q lo hi d t1 l1 ∧ mTr Q lo hi d t2 l2))
theorem mTr.mono {Q Q' : Mq} {lo hi hi' : Nat} (hh : hi ≤ hi') (he : ∀ f, f ∈ [27, 28, 29, 30, 31, 32] → ∀ t, lo ≤ t → t < hi → Q'.1 f t = Q.1 f t) : ∀ (d d' t : Nat) (ls : List Lf), d ≤ d' → mTr Q lo hi d t ls → mTr Q' lo hi' d' t ls
  | 0, _, _, _, _, h => h.elim
  | d + 1, 0, _, _, hd, _ => by omega
  | d + 1, d' + 1, t, ls, hd, h => by
    obtain ⟨⟨h1, h2⟩, h3⟩ := h
    refine ⟨⟨h1, by omega⟩, ?_⟩
    rcases h3 with ⟨q, e1, e2, e3, e4, e5, e6⟩ | ⟨t1, t2, l1, l2, e1, e2, e3, e4, e5, e6⟩
    · exact Or.inl ⟨q, e1, e2, by rw [he 27 (by decide) t h1 h2]; exact e3, by rw [he 28 (by decide) t h1 h2]; exact e4, by rw [he 29 (by decide) t h1 h2]; exact e5, by rw [he 30 (by decide) t h1 h2]; exact e6⟩
    · exact Or.inr ⟨t1, t2, l1, l2, e1, by rw [he 27 (by decide) t h1 h2]; exact e2, by rw [he 31 (by decide) t h1 h2]; exact e3, by rw [he 32 (by decide) t h1 h2]; exact e4, mTr.mono hh he d d' t1 l1 (by omega) e5, mTr.mono hh he d d' t2 l2 (by omega) e6⟩
def mLs (Q : Mq) (lb : List Lb) : Prop := Q.1 23 0 = nI lb.length ∧ lb.length ≤ 40 ∧ ∀ l q, lb[l]? = some q → Q.1 24 l = nI q.2 ∧ Q.1 25 l = nI q.1.length ∧ q.2 ≤ 20 ∧ q.1.length ≤ q.2 ∧ ∀ i x, q.1[i]? = some x → ∃ t, Q.1 26 (20 * l + i) = nI t ∧ mTr Q (20 * l) (20 * l + q.2) q.2 t x
theorem mLs.fr {Q Q' : Mq} {W : List Nat} {lb : List Lb} (h : mLs Q lb) (f : qfr Q Q' W) (hd : ∀ x, x ∈ [23, 24, 25, 26, 27, 28, 29, 30, 31, 32] → x ∉ W) : mLs Q' lb := by
  obtain ⟨h1, h2, h3⟩ := h
  refine ⟨by rw [f.i 23 (hd _ (by decide))]; exact h1, h2, fun l q hq => ?_⟩
  obtain ⟨e1, e2, e3, e4, e5⟩ := h3 l q hq
  refine ⟨by rw [f.i 24 (hd _ (by decide))]; exact e1, by rw [f.i 25 (hd _ (by decide))]; exact e2, e3, e4, fun i x hx => ?_⟩
  obtain ⟨t, e6, e7⟩ := e5 i x hx
  exact ⟨t, by rw [f.i 26 (hd _ (by decide))]; exact e6, mTr.mono (Nat.le_refl _) (fun g hg t _ _ => by rw [f.i g (hd g (by revert hg; simp; omega))]) _ _ _ _ (Nat.le_refl _) e7⟩
/-- what was kept -/
def mSn (Q : Mq) (kc : List Int32) (nb : Nat) (bs : Nat → Bv) (ro : Nat → Rw) (ac : Nat → Wn) (mo : Int32) (jl bl : Nat) : Prop := Q.1 44 0 = nI nb ∧ Q.1 46 0 = mo ∧ Q.1 47 0 = nI jl ∧ Q.1 48 0 = nI bl ∧ (∀ b, b < nb → mV Q 49 50 51 52 53 54 55 b (bs b).2.1 (bms (bs b))) ∧ mRs Q 56 57 58 ro ∧ ∃ n, Q.1 45 0 = nI n ∧ n ≤ kc.length ∧ mAc Q 59 (kc.take n) ac ∧ mCd (kc.take n) nb bs ac
theorem mSn.fr {Q Q' : Mq} {W : List Nat} {kc : List Int32} {nb : Nat} {bs : Nat → Bv} {ro : Nat → Rw} {ac : Nat → Wn} {mo : Int32} {jl bl : Nat} (h : mSn Q kc nb bs ro ac mo jl bl) (f : qfr Q Q' W) (hd : ∀ x, x ∈ [44, 45, 46, 47, 48, 49, 50, 51, 52, 53, 54, 55, 56, 57, 58, 59] → x ∉ W) : mSn Q' kc nb bs ro ac mo jl bl := by
  obtain ⟨h1, h2, h3, h4, h5, h6, n, h7, h8, h9, h10⟩ := h
  refine ⟨by rw [f.i 44 (hd _ (by decide))]; exact h1, by rw [f.i 46 (hd _ (by decide))]; exact h2, by rw [f.i 47 (hd _ (by decide))]; exact h3, by rw [f.i 48 (hd _ (by decide))]; exact h4, fun b hb => (h5 b hb).fr f (fun x hx => hd x (by revert hx; simp; omega)), h6.fr f (fun x hx => hd x (by revert hx; simp; omega)), n, by rw [f.i 45 (hd _ (by decide))]; exact h7, h8, h9.fr f (hd 59 (by decide)), h10⟩
theorem mSn.kc {Q : Mq} {kc kc' : List Int32} {nb : Nat} {bs : Nat → Bv} {ro : Nat → Rw} {ac : Nat → Wn} {mo : Int32} {jl bl : Nat} (h : mSn Q kc nb bs ro ac mo jl bl) (hk : ∃ t, kc' = kc ++ t) : mSn Q kc' nb bs ro ac mo jl bl := by
  obtain ⟨h1, h2, h3, h4, h5, h6, n, h7, h8, h9, h10⟩ := h
  obtain ⟨t, rfl⟩ := hk
  refine ⟨h1, h2, h3, h4, h5, h6, n, h7, by rw [List.length_append]; omega, ?_, ?_⟩
  · rw [List.take_append_of_le_length h8]; exact h9
  · rw [List.take_append_of_le_length h8]; exact h10
/-- the same, as far as it is kept -/
theorem mSn.cong {Q : Mq} {kc : List Int32} {nb nb' : Nat} {bs bs' : Nat → Bv} {ro ro' : Nat → Rw} {ac ac' : Nat → Wn} {mo mo' : Int32} {jl bl jl' bl' : Nat} (h : mSn Q kc nb bs ro ac mo jl bl) (e1 : nb' = nb) (e2 : ∀ b, b < nb → (bs' b).2.1 = (bs b).2.1 ∧ bms (bs' b) = bms (bs b)) (e3 : ∀ r, r < 20 → ro' r = ro r) (e4 : ∀ i, i < 5 → ac' i = ac i) (e5 : mo' = mo) (e6 : jl' = jl) (e7 : bl' = bl) : mSn Q kc nb' bs' ro' ac' mo' jl' bl' := by
  subst e1 e5 e6 e7
  obtain ⟨h1, h2, h3, h4, h5, h6, n, h7, h8, h9, h10⟩ := h
  refine ⟨h1, h2, h3, h4, fun b hb => by rw [(e2 b hb).1, (e2 b hb).2]; exact h5 b hb, fun r hr => by rw [e3 r hr]; exact h6 r hr, n, h7, h8, fun k p hk i hi => by rw [e4 i hi]; exact h9 k p hk i hi, fun i hi => by rw [e4 i hi]; exact h10.1 i hi, fun b hb => by rw [(e2 b hb).1]; exact h10.2 b hb⟩
