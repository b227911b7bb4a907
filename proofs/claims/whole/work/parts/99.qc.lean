/-! Both sides of one call. -/
def cwY (c : Cs) : Int32 := match c with
  | (nb, bs, ro, lb, ps, ac, jr, bo, mo, gi, tr, tp, wy, wh, tc, st, ds, dw, bf, ba, bc) => wy
def cTp (c : Cs) : Int32 := match c with
  | (nb, bs, ro, lb, ps, ac, jr, bo, mo, gi, tr, tp, wy, wh, tc, st, ds, dw, bf, ba, bc) => tp
def Gl (m : Nat) (ad : Nat → Nat) (x : Nat) (adr : Nat → Nat) (ga t : Nat) (M : Zm) : Prop := ∃ g A AL c Q kc, zCs M g A AL x adr ga c ∧ zMv M g m ad Q ∧ R0 c Q kc ∧ Q.1 39 0 = cwY c ∧ cTp c = 0 ∧ Jc t c ∧ zBu M g (600 * (512 - t))
theorem cwY_cls (a : Int64) (c : Cs) : cwY (sClose a c) = cwy a ∧ cTp (sClose a c) = 0 := by
  obtain ⟨nb, bs, ro, lb, ps, ac, jr, bo, mo, gi, tr, tp, wy, wh, tc, st, ds, dw, bf, ba, bc⟩ := c
  exact ⟨rfl, rfl⟩
theorem zCs_frm {M M' : Zm} {g g' : Zg} {A AL : Nat → Nat} {x : Nat} {adr : Nat → Nat} {ga : Nat} {c : Cs} (h : zCs M g A AL x adr ga c) (f : zFo M g M' g' Tm) : zCs M' g' A AL x adr ga c := by
  obtain ⟨nb, bs, ro, lb, ps, ac, jr, bo, mo, gi, tr, tp, wy, wh, tc, st, ds, dw, bf, ba, bc⟩ := c
  have f' : zFo M g M' g' (fun z => z = 1 ∨ z = 28 ∨ z = 29) := f
  obtain ⟨cN, cO, cB, cBs, cRw, cLl, cLs, cPk, cJu, cPp, cAc, cBl, cJr, cBo, cDr, cBe, cT1, cT2⟩ := h
  exact ⟨cN, cO.fr f' (by first | omega | (dsimp only; omega)), cB.fr f' (by first | omega | (dsimp only; omega)), cBs.fr f' (fun b hb => ⟨(by first | omega | (dsimp only; omega)), (by first | omega | (dsimp only; omega)), (by first | omega | (dsimp only; omega))⟩), cRw.fr f' (by first | omega | (dsimp only; omega)) (fun r hr => (by first | omega | (dsimp only; omega))), cLl.fr f' (by first | omega | (dsimp only; omega)), cLs.fr f' (fun i hi => (by first | omega | (dsimp only; omega))), cPk.fr f' (by first | omega | (dsimp only; omega)), cJu.fr f' (by first | omega | (dsimp only; omega)), cPp.fr f' (by first | omega | (dsimp only; omega)) (by first | omega | (dsimp only; omega)), cAc.fr f' (by first | omega | (dsimp only; omega)) (fun h hh => (by first | omega | (dsimp only; omega))), cBl.fr f' (by first | omega | (dsimp only; omega)), cJr.fr f' (by first | omega | (dsimp only; omega)), cBo.fr f' (by first | omega | (dsimp only; omega)), cDr.fr f' (by first | omega | (dsimp only; omega)) (by first | omega | (dsimp only; omega)), cBe.fr f' (by first | omega | (dsimp only; omega)) (by first | omega | (dsimp only; omega)) (by first | omega | (dsimp only; omega)), cT1.fr f' (by first | omega | (dsimp only; omega)), cT2.fr f' (by first | omega | (dsimp only; omega))⟩
theorem Gl.O {m x ga t : Nat} {ad adr : Nat → Nat} {M : Zm} (h : Gl m ad x adr ga t M) : zO M x 12 := by
  obtain ⟨g, A, AL, c, Q, kc, h1, -⟩ := h
  exact zCs_O h1
theorem Gl.up {m x ga t : Nat} {ad adr : Nat → Nat} {M : Zm} (h : Gl m ad x adr ga t M) : Gl m ad x adr ga (t + 1) M := by
  obtain ⟨g, A, AL, c, Q, kc, h1, h2, h3, h4, h5, h6, h7⟩ := h
  exact ⟨g, A, AL, c, Q, kc, h1, h2, h3, h4, h5, h6.mono (Nat.le_succ t), h7.mono (by omega)⟩
theorem Tc_n : ¬ Tc 1 ∧ ¬ Tc 28 ∧ ¬ Tc 29 := ⟨fun q => q.1 rfl, fun q => q.2.1 rfl, fun q => q.2.2 rfl⟩
theorem G_act {m x ga t : Nat} {ad adr : Nat → Nat} {M : Zm} (F1 F2 : Zm → Option (Zm × Int64)) (f : Mq → Option (Mq × Int64)) (sf : Cs → Int64 × Cs) (ht : t < 512) (hX : ∀ g A AL c k, zCs M g A AL x adr ga c → Jc t c → zBu M g (k + 600) → zev (F1 M) (fun y => ∃ g' A' AL', zCs y.1 g' A' AL' x adr ga (sAct sf c).2 ∧ y.2 = (sAct sf c).1 ∧ zFo M g y.1 g' Tc ∧ zBu y.1 g' k)) (hM : ∀ M0 g0 k M Q, mR (M0, g0, m, ad, k) M Q → zG (mP (M0, g0, m, ad, k)) (F2 M) (f Q)) (hN : ∀ c Q kc, Jc t c → R0 c Q kc → zev (f Q) (Post (sf (sOpen c))) ∧ Jc (t + 1) (sf (sOpen c)).2) (h : Gl m ad x adr ga t M) : zev (F1 M) (fun y1 => zO y1.1 m 13 ∧ zev (F2 y1.1) (fun y2 => y1.2 = y2.2 ∧ Gl m ad x adr ga (t + 1) y2.1)) := by
  obtain ⟨g, A, AL, c, Q, kc, hC, hV, hR, hw, htp, hJ, hb⟩ := h
  have hk : 600 * (512 - t) = 600 * (512 - (t + 1)) + 600 := by omega
  rw [hk] at hb
  refine zev_mono (hX g A AL c _ hC hJ hb) ?_
  rintro ⟨M1, v⟩ ⟨g1, A1, AL1, h1, e1, f1, b1⟩
  dsimp only at h1 e1 f1 b1 ⊢
  have V1 := hV.fr f1 Tc_n.1 Tc_n.2.1 Tc_n.2.2
  obtain ⟨n1, n2⟩ := hN c Q kc hJ hR
  have r1 : mR (M1, g1, m, ad, 600 * (512 - (t + 1))) M1 Q := ⟨g1, V1, zFo.rf, b1⟩
  refine ⟨V1.1, zev_mono (zG_ev (hM M1 g1 _ M1 Q r1) n1) ?_⟩
  rintro ⟨M2, w⟩ ⟨Q2, ⟨p1, kc2, p2, p3⟩, g2, V2, f2, b2⟩
  dsimp only at p1 p2 p3 V2 f2 b2 ⊢
  have e2 := cwY_cls (sf (sOpen c)).1 (sf (sOpen c)).2
  exact ⟨e1.trans p1.symm, g2, A1, AL1, (sAct sf c).2, Q2, kc2, zCs_frm h1 f2, V2, R0.cls p2, p3.trans e2.1.symm, e2.2, Jc.cls n2, b2⟩
theorem G_ask {α : Type} {m x ga t : Nat} {ad adr : Nat → Nat} {M : Zm} (F1 F2 : Zm → Option (Zm × α)) (f : Mq → Option (Mq × α)) (V : Cs → α) (ht : t < 512) (hX : ∀ g A AL c k, zCs M g A AL x adr ga c → Jc t c → cTp c = 0 → zBu M g k → zev (F1 M) (fun y => ∃ g', zCs y.1 g' A AL x adr ga c ∧ y.2 = V c ∧ zFo M g y.1 g' Tc ∧ zBu y.1 g' k)) (hM : ∀ M0 g0 k M Q, mR (M0, g0, m, ad, k) M Q → zG (mP (M0, g0, m, ad, k)) (F2 M) (f Q)) (hN : ∀ c Q kc, Jc t c → R0 c Q kc → Q.1 39 0 = cwY c → f Q = some (Q, V c)) (h : Gl m ad x adr ga t M) : zev (F1 M) (fun y1 => zO y1.1 m 13 ∧ zev (F2 y1.1) (fun y2 => y1.2 = y2.2 ∧ Gl m ad x adr ga (t + 1) y2.1)) := by
  obtain ⟨g, A, AL, c, Q, kc, hC, hV, hR, hw, htp, hJ, hb⟩ := h
  refine zev_mono (hX g A AL c _ hC hJ htp hb) ?_
  rintro ⟨M1, v⟩ ⟨g1, h1, e1, f1, b1⟩
  dsimp only at h1 e1 f1 b1 ⊢
  have V1 := hV.fr f1 Tc_n.1 Tc_n.2.1 Tc_n.2.2
  have n1 : zev (f Q) (fun y => y = (Q, V c)) := by rw [hN c Q kc hJ hR hw, zev_some]
  have r1 : mR (M1, g1, m, ad, 600 * (512 - t)) M1 Q := ⟨g1, V1, zFo.rf, b1⟩
  refine ⟨V1.1, zev_mono (zG_ev (hM M1 g1 _ M1 Q r1) n1) ?_⟩
  rintro ⟨M2, w⟩ ⟨Q2, p1, g2, V2, f2, b2⟩
  dsimp only at p1 V2 f2 b2 ⊢
  obtain ⟨rfl, rfl⟩ := Prod.mk.inj p1
  exact ⟨e1, g2, A, AL, c, Q2, kc, zCs_frm h1 f2, V2, hR, hw, htp, hJ.mono (Nat.le_succ t), b2.mono (by show 600 * (512 - (t + 1)) ≤ 600 * (512 - t); omega)⟩
theorem G_q {α : Type} {m x ga t : Nat} {ad adr : Nat → Nat} {M : Zm} (F1 F2 : Zm → Option (Zm × α)) (f : Mq → Option (Mq × α)) (V : Cs → α) (ht : t < 512) (hX : ∀ g A AL c, zCs M g A AL x adr ga c → Jc t c → cTp c = 0 → F1 M = some (M, V c)) (hM : ∀ M0 g0 k M Q, mR (M0, g0, m, ad, k) M Q → zG (mP (M0, g0, m, ad, k)) (F2 M) (f Q)) (hN : ∀ c Q kc, Jc t c → R0 c Q kc → Q.1 39 0 = cwY c → f Q = some (Q, V c)) (h : Gl m ad x adr ga t M) : zev (F1 M) (fun y1 => zO y1.1 m 13 ∧ zev (F2 y1.1) (fun y2 => y1.2 = y2.2 ∧ Gl m ad x adr ga (t + 1) y2.1)) := by
  refine G_ask F1 F2 f V ht (fun g A AL c k h1 hJ hp hb => ?_) hM hN h
  rw [hX g A AL c h1 hJ hp, zev_some]
  exact ⟨g, h1, rfl, zFo.rf, hb⟩
