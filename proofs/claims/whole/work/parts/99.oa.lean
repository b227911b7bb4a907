/-! What always holds of the cellar; how the reference's value belongs to it; what undo gives back. -/
def wtot : Wn → Int
  | [] => 0
  | q :: r => q.2.toInt + wtot r
def Iw (x : Int32 × Int32) (l : Wn) : Prop := wris l ∧ wcod l ∧ l.length ≤ 60 ∧ (∀ q, q ∈ l → 0 < q.2.toInt) ∧ (x.1 ≠ 5 → wtot l ≤ (vt x).toInt) ∧ (x.1 = 5 → l = [])
def Ib (nb : Nat) (bs : Nat → Bv) (b : Nat) : Prop := ((bs b).1.1 = 1 ∨ (bs b).1.1 = 2 ∨ (bs b).1.1 = 3 ∨ (bs b).1.1 = 4 ∨ (bs b).1.1 = 5) ∧ ((bs b).1.1 ≠ 5 → 1 ≤ (bs b).1.2.toInt ∧ (bs b).1.2.toInt ≤ 1000000000) ∧ (0 ≤ (bs b).2.1.1.toInt ∧ (bs b).2.1.1.toInt ≤ 1000000) ∧ Iw (bs b).1 (bs b).2.1.2.2.2 ∧ ((bs b).1.1 ≠ 5 → bms (bs b) = []) ∧ ((bms (bs b)).length = (bs b).2.1.2.2.1 ∧ (bs b).2.1.2.2.1 ≤ 4) ∧ ((bms (bs b)).Nodup ∧ ∀ m, m ∈ bms (bs b) → m < nb ∧ (bs m).1.1 ≠ 5 ∧ (bs m).2.1.2.1 = 10000 + nI b)
def Irw (nb : Nat) (bs : Nat → Bv) (ro : Nat → Rw) : Prop := ∀ r k ps, r < 20 → ro r = some (k, ps) → ∀ (p : Nat) (v : Int32), ps[p]? = some v → p < 60 ∧ (v = -1 ∨ ∃ b, b < nb ∧ v = nI b ∧ (bs b).2.1.2.1 = nI (1 + 100 * r + p))
def Iac (ac : Nat → Wn) : Prop := ∀ h, h < 5 → wris (ac h) ∧ wcod (ac h)
def Ic (nb : Nat) (bs : Nat → Bv) (ro : Nat → Rw) (ac : Nat → Wn) : Prop := nb ≤ 1000 ∧ (∀ b, b < nb → Ib nb bs b) ∧ Irw nb bs ro ∧ Iac ac
/-- as far as it is kept -/
def Ceq (nb : Nat) (bs : Nat → Bv) (ro : Nat → Rw) (ac : Nat → Wn) (nb' : Nat) (bs' : Nat → Bv) (ro' : Nat → Rw) (ac' : Nat → Wn) : Prop := nb' = nb ∧ (∀ b, b < nb → (bs' b).1 = (bs b).1 ∧ (bs' b).2.1 = (bs b).2.1 ∧ bms (bs' b) = bms (bs b)) ∧ (∀ r, r < 20 → ro' r = ro r) ∧ (∀ h, h < 5 → ac' h = ac h)
theorem Ceq.rf {nb : Nat} {bs : Nat → Bv} {ro : Nat → Rw} {ac : Nat → Wn} : Ceq nb bs ro ac nb bs ro ac := ⟨rfl, fun _ _ => ⟨rfl, rfl, rfl⟩, fun _ _ => rfl, fun _ _ => rfl⟩
theorem Ib.cong {nb b : Nat} {bs bs' : Nat → Bv} (h : Ib nb bs b) (hb : b < nb) (e : ∀ b, b < nb → (bs' b).1 = (bs b).1 ∧ (bs' b).2.1 = (bs b).2.1 ∧ bms (bs' b) = bms (bs b)) : Ib nb bs' b := by
  unfold Ib
  rw [(e b hb).1, (e b hb).2.1, (e b hb).2.2]
  obtain ⟨h1, h2, h3, h4, h5, h6, h7, h8⟩ := h
  refine ⟨h1, h2, h3, h4, h5, h6, h7, fun m hm => ?_⟩
  have := h8 m hm
  rw [(e m this.1).1, (e m this.1).2.1]
  exact this
theorem Ic.cong {nb nb' : Nat} {bs bs' : Nat → Bv} {ro ro' : Nat → Rw} {ac ac' : Nat → Wn} (h : Ic nb bs ro ac) (e : Ceq nb bs ro ac nb' bs' ro' ac') : Ic nb' bs' ro' ac' := by
  obtain ⟨rfl, e2, e3, e4⟩ := e
  obtain ⟨h1, h2, h3, h4⟩ := h
  refine ⟨h1, fun b hb => (h2 b hb).cong hb e2, fun r k ps hr hro p v hv => ?_, fun i hi => by rw [e4 i hi]; exact h4 i hi⟩
  rw [e3 r hr] at hro
  obtain ⟨q0, q⟩ := h3 r k ps hr hro p v hv
  refine ⟨q0, ?_⟩
  rcases q with q | ⟨b, hb, q1, q2⟩
  · exact Or.inl q
  · exact Or.inr ⟨b, hb, q1, by rw [(e2 b hb).2.1]; exact q2⟩
theorem Ic.kd {nb : Nat} {bs : Nat → Bv} {ro : Nat → Rw} {ac : Nat → Wn} (h : Ic nb bs ro ac) : Ikd nb bs := fun b hb => (h.2.1 b hb).1
theorem Ic.i60 {nb : Nat} {bs : Nat → Bv} {ro : Nat → Rw} {ac : Nat → Wn} (h : Ic nb bs ro ac) : I60 nb bs := fun b hb => ⟨(h.2.1 b hb).2.2.2.1.2.2.1, (h.2.1 b hb).2.2.2.1.2.1⟩
theorem Ic.mem {nb : Nat} {bs : Nat → Bv} {ro : Nat → Rw} {ac : Nat → Wn} (h : Ic nb bs ro ac) : Imem nb bs := fun b hb m hm => ⟨((h.2.1 b hb).2.2.2.2.2.2.2 m hm).1, ((h.2.1 b hb).2.2.2.2.2.2.2 m hm).2.1⟩
theorem Ic.ml {nb : Nat} {bs : Nat → Bv} {ro : Nat → Rw} {ac : Nat → Wn} (h : Ic nb bs ro ac) : Iml nb bs := fun b hb => (h.2.1 b hb).2.2.2.2.2.1
theorem Ic.w {nb : Nat} {bs : Nat → Bv} {ro : Nat → Rw} {ac : Nat → Wn} (h : Ic nb bs ro ac) {b : Nat} (hb : b < nb) : Iw (bs b).1 (bs b).2.1.2.2.2 := (h.2.1 b hb).2.2.2.1
/-- wines are others -/
theorem Ic.win {nb : Nat} {bs bs' : Nat → Bv} {ro : Nat → Rw} {ac ac' : Nat → Wn} (h : Ic nb bs ro ac) (e : ∀ b, b < nb → (bs' b).1 = (bs b).1 ∧ ((bs' b).2.1.1 = (bs b).2.1.1 ∨ (0 ≤ (bs' b).2.1.1.toInt ∧ (bs' b).2.1.1.toInt ≤ 1000000)) ∧ (bs' b).2.1.2.1 = (bs b).2.1.2.1 ∧ (bs' b).2.1.2.2.1 = (bs b).2.1.2.2.1 ∧ bms (bs' b) = bms (bs b) ∧ Iw (bs b).1 (bs' b).2.1.2.2.2) (ha : Iac ac') : Ic nb bs' ro ac' := by
  obtain ⟨h1, h2, h3, h4⟩ := h
  refine ⟨h1, fun b hb => ?_, fun r k ps hr hro p v hv => ?_, ha⟩
  · obtain ⟨e1, e2, e3, e4, e5, e6⟩ := e b hb
    obtain ⟨q1, q2, q3, q4, q5, q6, q7, q8⟩ := h2 b hb
    unfold Ib
    rw [e1, e4, e5]
    have q3' : 0 ≤ (bs' b).2.1.1.toInt ∧ (bs' b).2.1.1.toInt ≤ 1000000 := by
      rcases e2 with e2 | e2
      · rw [e2]; exact q3
      · exact e2
    refine ⟨q1, q2, q3', e6, q5, q6, q7, fun m hm => ?_⟩
    have := q8 m hm
    rw [(e m this.1).1, (e m this.1).2.2.1]
    exact this
  · obtain ⟨q0, q⟩ := h3 r k ps hr hro p v hv
    refine ⟨q0, ?_⟩
    rcases q with q | ⟨b, hb, q1, q2⟩
    · exact Or.inl q
    · exact Or.inr ⟨b, hb, q1, by rw [(e b hb).2.2.1]; exact q2⟩
def Ira (nb : Nat) (bs : Nat → Bv) : Prop := ∀ b, b < nb → ∀ m, m ∈ (bs b).2.2.2 → m < nb
def Ips (nb : Nat) (ps : List (Nat × Int64)) : Prop := (∀ q, q ∈ ps → q.1 < nb ∧ isml q.2) ∧ (∀ (i j : Nat) (q r : Nat × Int64), ps[i]? = some q → ps[j]? = some r → i ≠ j → q.1 ≠ r.1) ∧ ps.length ≤ 8
/-- all of it, behind t calls -/
def Jc (t : Nat) (c : Cs) : Prop := match c with
  | (nb, bs, ro, lb, ps, ac, jr, bo, mo, gi, tr, tp, wy, wh, tc, st, ds, dw, bf, ba, bc) => Ic nb bs ro ac ∧ Ira nb bs ∧ Ips nb ps ∧ jr.length ≤ 8 * t ∧ bo.length ≤ t ∧ (∃ n, n ≤ t ∧ gi = (nI n).toInt64) ∧ (bf 0 = 0 ∨ bf 0 = 1) ∧ (bf 0 ≠ 0 → Uok nb ro bf bc ∧ (bf 3).toNatClampNeg ≤ jr.length ∧ (bf 4).toNatClampNeg ≤ bo.length ∧ Ic (bf 1).toNatClampNeg (sres bs bc) (sresR ro bf) (sresA ac bf ba) ∧ Ira (bf 1).toNatClampNeg (sres bs bc))
def R0 (c : Cs) (Q : Mq) (kc : List Int32) : Prop := match c with
  | (nb, bs, ro, lb, ps, ac, jr, bo, mo, gi, tr, tp, wy, wh, tc, st, ds, dw, bf, ba, bc) => mBs Q nb bs ∧ mRs Q 11 12 13 ro ∧ mKn Q kc ∧ mAk Q kc ac ∧ mCd kc nb bs ac ∧ mJl Q 20 19 jr ∧ mJl Q 22 21 bo ∧ (Q.1 0 0).toInt64 = gi ∧ Q.1 18 0 = mo ∧ mLs Q lb ∧ mPk Q ps ∧ mPn Q st ∧ Q.1 38 0 = tr ∧ Q.1 40 0 = wh ∧ mTc Q tc ∧ Q.1 43 0 = bf 0 ∧ (bf 0 ≠ 0 → mSn Q kc (bf 1).toNatClampNeg (sres bs bc) (sresR ro bf) (sresA ac bf ba) (bf 2) (bf 3).toNatClampNeg (bf 4).toNatClampNeg)
/-- only scratch was written -/
theorem R0.scr {c : Cs} {Q Q' : Mq} {kc : List Int32} {W : List Nat} (h : R0 c Q kc) (f : qfr Q Q' W) (hd : ∀ x, x ∈ W → x = 39 ∨ 60 ≤ x) : R0 c Q' kc := by
  obtain ⟨nb, bs, ro, lb, ps, ac, jr, bo, mo, gi, tr, tp, wy, wh, tc, st, ds, dw, bf, ba, bc⟩ := c
  obtain ⟨rB, rR, rK, rA, rC, rJ, rO, rG, rM, rL, rP, rN, rT, rW, rX, rF, rS⟩ := h
  have nm : ∀ x : Nat, x < 60 → x ≠ 39 → x ∉ W := fun x h1 h2 hx => by have := hd x hx; omega
  refine ⟨rB.fr f ?_, rR.fr f ?_, rK.fr f ?_, rA.fr f (nm 17 (by decide) (by decide)), rC, rJ.fr f (nm 20 (by decide) (by decide)) (nm 19 (by decide) (by decide)), rO.fr f (nm 22 (by decide) (by decide)) (nm 21 (by decide) (by decide)), by rw [f.i 0 (nm 0 (by decide) (by decide))]; exact rG, by rw [f.i 18 (nm 18 (by decide) (by decide))]; exact rM, rL.fr f ?_, rP.fr f ?_, rN.fr f ?_, by rw [f.i 38 (nm 38 (by decide) (by decide))]; exact rT, by rw [f.i 40 (nm 40 (by decide) (by decide))]; exact rW, rX.fr f ?_, by rw [f.i 43 (nm 43 (by decide) (by decide))]; exact rF, fun z => (rS z).fr f ?_⟩ <;>
  · intro x hx
    refine nm x ?_ ?_ <;> (revert hx; simp; omega)
/-- bodies ran, and scratch was written -/
theorem R0.tc {c : Cs} {Q Q' : Mq} {kc : List Int32} {l : List Int32} (h : R0 c Q kc) (f : qfr Q Q' [41, 42, 60, 61, 62]) (ht : ∀ tc, mTc Q tc → mTc Q' (tapp 200 tc l)) : R0 (sTc l c) Q' kc := by
  obtain ⟨nb, bs, ro, lb, ps, ac, jr, bo, mo, gi, tr, tp, wy, wh, tc, st, ds, dw, bf, ba, bc⟩ := c
  obtain ⟨rB, rR, rK, rA, rC, rJ, rO, rG, rM, rL, rP, rN, rT, rW, rX, rF, rS⟩ := h
  exact ⟨rB.fr f (by decide), rR.fr f (by decide), rK.fr f (by decide), rA.fr f (by decide), rC, rJ.fr f (by decide) (by decide), rO.fr f (by decide) (by decide), by rw [f.i 0 (by decide)]; exact rG, by rw [f.i 18 (by decide)]; exact rM, rL.fr f (by decide), rP.fr f (by decide), rN.fr f (by decide), by rw [f.i 38 (by decide)]; exact rT, by rw [f.i 40 (by decide)]; exact rW, ht tc rX, by rw [f.i 43 (by decide)]; exact rF, fun z => (rS z).fr f (by decide)⟩
theorem R0.opn {c : Cs} {Q : Mq} {kc : List Int32} (h : R0 c Q kc) : R0 (sOpen c) (qi (qi (qi Q 38 0 (Q.1 38 0 + 1)) 41 0 0) 39 0 0) kc := by
  obtain ⟨nb, bs, ro, lb, ps, ac, jr, bo, mo, gi, tr, tp, wy, wh, tc, st, ds, dw, bf, ba, bc⟩ := c
  obtain ⟨rB, rR, rK, rA, rC, rJ, rO, rG, rM, rL, rP, rN, rT, rW, rX, rF, rS⟩ := h
  have f : qfr Q (qi (qi (qi Q 38 0 (Q.1 38 0 + 1)) 41 0 0) 39 0 0) [38, 39, 41] := ((qfr.qi (by decide)).tr0 (qfr.qi (by decide))).tr0 (qfr.qi (by decide))
  exact ⟨rB.fr f (by decide), rR.fr f (by decide), rK.fr f (by decide), rA.fr f (by decide), rC, rJ.fr f (by decide) (by decide), rO.fr f (by decide) (by decide), by rw [f.i 0 (by decide)]; exact rG, by rw [f.i 18 (by decide)]; exact rM, rL.fr f (by decide), rP.fr f (by decide), rN.fr f (by decide), by rw [← rT]; rfl, by rw [f.i 40 (by decide)]; exact rW, ⟨rfl, by decide, fun i v hv => by simp at hv⟩, by rw [f.i 43 (by decide)]; exact rF, fun z => (rS z).fr f (by decide)⟩
theorem R0.cls {c : Cs} {Q : Mq} {kc : List Int32} {a : Int64} (h : R0 c Q kc) : R0 (sClose a c) Q kc := by
  obtain ⟨nb, bs, ro, lb, ps, ac, jr, bo, mo, gi, tr, tp, wy, wh, tc, st, ds, dw, bf, ba, bc⟩ := c
  unfold sClose R0 at *
  dsimp only at h ⊢
  exact h
/-- what a call of the reference must show -/
def Post (f : Int64 × Cs) (y : Mq × Int64) : Prop := y.2 = f.1 ∧ ∃ kc, R0 f.2 y.1 kc ∧ y.1.1 39 0 = cwy f.1
theorem cwy_no : ∀ n : Nat, n < 20 → 0 < n → cwy ((-(nI n)).toInt64) = nI n := by decide +kernel
theorem P_no {c : Cs} {Q : Mq} {kc : List Int32} {r : Int32} {a : Int64} (h : R0 c Q kc) (n : Nat) (hr : r = nI n) (h1 : n < 20) (h2 : 0 < n) (ha : a = (-r).toInt64) : zev (mbd (mf_no Q r) (fun Q v => some (Q, v))) (Post (a, c)) := by
  subst hr ha
  rw [zev_mbd, zev_eq m_no]
  dsimp only
  rw [zev_some]
  exact ⟨rfl, kc, h.scr (W := [39]) (qfr.qi (by decide)) (by decide), by rw [qi_1, if_pos ⟨rfl, rfl⟩]; exact (cwy_no n h1 h2).symm⟩
theorem cwy_pos {a : Int64} (h : 0 ≤ a) : cwy a = 0 := by unfold cwy; rw [if_pos h]
theorem lk_n {nb : Nat} {b : Int32} (h : lk nb b ≠ 0) : lk nb b = 2 ∨ lk nb b = 3 := by
  unfold lk at h ⊢
  by_cases h1 : b < 0
  · rw [if_pos h1]; exact Or.inr rfl
  · rw [if_neg h1] at h ⊢
    by_cases h2 : b < 1000
    · rw [if_pos h2] at h ⊢
      by_cases h3 : b < nI nb
      · rw [if_pos h3] at h; exact absurd rfl h
      · rw [if_neg h3]; exact Or.inl rfl
    · rw [if_neg h2]; exact Or.inr rfl
theorem le0_32 : ¬ (2 : Int32) ≤ 0 ∧ ¬ (3 : Int32) ≤ 0 ∧ ¬ (4 : Int32) ≤ 0 ∧ ¬ (9 : Int32) ≤ 0 ∧ ¬ (6 : Int32) ≤ 0 := by decide
/-- a look that says no -/
theorem P_lk {c : Cs} {Q : Mq} {kc : List Int32} {nb : Nat} {b : Int32} {a : Int64} (h : R0 c Q kc) (hl : lk nb b ≠ 0) (ha : a = (-(lk nb b)).toInt64) : (¬ lk nb b ≤ 0) ∧ zev (mbd (mf_no Q (lk nb b)) (fun Q v => some (Q, v))) (Post (a, c)) := by
  rcases lk_n hl with e | e <;> rw [e] at ha ⊢
  · exact ⟨le0_32.1, P_no h 2 rfl (by decide) (by decide) ha⟩
  · exact ⟨le0_32.2.1, P_no h 3 rfl (by decide) (by decide) ha⟩
theorem Jc.mono {t t' : Nat} {c : Cs} (h : Jc t c) (ht : t ≤ t') : Jc t' c := by
  obtain ⟨nb, bs, ro, lb, ps, ac, jr, bo, mo, gi, tr, tp, wy, wh, tc, st, ds, dw, bf, ba, bc⟩ := c
  obtain ⟨jI, jR, jP, jJ, jB, ⟨n, g1, g2⟩, jF, jU⟩ := h
  exact ⟨jI, jR, jP, by omega, by omega, ⟨n, by omega, g2⟩, jF, jU⟩
theorem Jc.opn {t : Nat} {c : Cs} (h : Jc t c) : Jc t (sOpen c) := by
  obtain ⟨nb, bs, ro, lb, ps, ac, jr, bo, mo, gi, tr, tp, wy, wh, tc, st, ds, dw, bf, ba, bc⟩ := c
  unfold sOpen Jc at *
  dsimp only at h ⊢
  exact h
theorem Jc.cls {t : Nat} {a : Int64} {c : Cs} (h : Jc t c) : Jc t (sClose a c) := by
  obtain ⟨nb, bs, ro, lb, ps, ac, jr, bo, mo, gi, tr, tp, wy, wh, tc, st, ds, dw, bf, ba, bc⟩ := c
  unfold sClose Jc at *
  dsimp only at h ⊢
  exact h
theorem Jc.tc {t : Nat} {l : List Int32} {c : Cs} (h : Jc t c) : Jc t (sTc l c) := by
  obtain ⟨nb, bs, ro, lb, ps, ac, jr, bo, mo, gi, tr, tp, wy, wh, tc, st, ds, dw, bf, ba, bc⟩ := c
  unfold sTc Jc at *
  dsimp only at h ⊢
  exact h
