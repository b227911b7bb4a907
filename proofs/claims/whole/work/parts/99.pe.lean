/-! Acts of the class: barrel. -/
theorem C_barrel {M : Zm} {g : Zg} {A AL : Nat → Nat} {x : Nat} {adr : Nat → Nat} {ga nb : Nat} {bs : Nat → Bv} {ro : Nat → Rw} {lb : List Lb} {ps : List (Nat × Int64)} {ac : Nat → Wn} {jr bo : List Ln} {mo : Int32} {gi : Int64} {tr tp wy wh : Int32} {tc : List Int32} {st : List Int64} {ds : List (Nat × Int64)} {dw : Wn} {bf : Nat → Int32} {ba : Wn} {bc : List Nat} {k : Nat} (h : zCe M g A AL x adr ga nb bs ro lb ps ac jr bo mo gi tr tp wy wh tc st ds dw bf ba bc) (hR : Ira nb bs) (hps : ∀ q, q ∈ ps → q.1 < nb) (kd sz ct : Int32) (hb : zBu M g (k + 600)) : zev (zf_X11_makeBarrel M (some x) kd sz ct) (fun y => ∃ g' A' AL', zCs y.1 g' A' AL' x adr ga (sBarrel kd sz ct (nb, bs, ro, lb, ps, ac, jr, bo, mo, gi, tr, tp, wy, wh, tc, st, ds, dw, bf, ba, bc)).2 ∧ y.2 = (sBarrel kd sz ct (nb, bs, ro, lb, ps, ac, jr, bo, mo, gi, tr, tp, wy, wh, tc, st, ds, dw, bf, ba, bc)).1 ∧ zFo M g y.1 g' Tc ∧ zBu y.1 g' k) := by
  have hbk : zBu M g k := hb.mono (Nat.le_add_right _ _)
  unfold sBarrel
  dsimp only
  simp only [zf_X11_makeBarrel, zf_X11_makeBarrel_J17, zf_X11_makeBarrel_J37]
  by_cases c1 : kd < 1
  · simp only [if_pos c1, zev_b1, zev_bd, zev_some, zev_gi, zev_gj, zev_gr, zev_pi, zev_pz, zev_pj, zev_pr, zev_rc, zev_cc, zev_b0, zev_bo, true_and, and_true]
    exact ⟨g, A, AL, h, zFo.rf, hbk⟩
  by_cases c2 : 5 < kd
  · simp only [if_neg c1, if_pos c2, zev_b1, zev_bd, zev_some, zev_gi, zev_gj, zev_gr, zev_pi, zev_pz, zev_pj, zev_pr, zev_rc, zev_cc, zev_b0, zev_bo, true_and, and_true]
    exact ⟨g, A, AL, h, zFo.rf, hbk⟩
  simp only [if_neg c1, if_neg c2, zev_b1, zev_bd, zev_some, zev_gi, zev_gj, zev_gr, zev_pi, zev_pz, zev_pj, zev_pr, zev_rc, zev_cc, zev_b0, zev_bo, true_and, and_true]
  rcases z_cents (M := M) ct with ⟨c3, e⟩ | ⟨c3, e⟩
  · simp only [zev_eq e, if_pos c3, if_neg z10]
    by_cases c4 : kd = 5
    · have c6 : kd = 5 ∨ (¬ sz < 1 ∧ ¬ 1000000000 < sz) := Or.inl c4
      rw [if_pos c4, if_pos c6]
      exact C_barrel41 h hR hps kd sz ct hb
    · rw [if_neg c4]
      by_cases c5 : sz < 1
      · have c6 : ¬ (kd = 5 ∨ (¬ sz < 1 ∧ ¬ 1000000000 < sz)) := fun z => by rcases z with z | z; exact c4 z; exact z.1 c5
        rw [if_pos c5, if_neg c6, zev_some]
        exact ⟨g, A, AL, h, rfl, zFo.rf, hbk⟩
      · rw [if_neg c5]
        by_cases c7 : 1000000000 < sz
        · have c6 : ¬ (kd = 5 ∨ (¬ sz < 1 ∧ ¬ 1000000000 < sz)) := fun z => by rcases z with z | z; exact c4 z; exact z.2 c7
          rw [if_neg (Int32.not_le.mpr c7), if_neg c6, zev_some]
          exact ⟨g, A, AL, h, rfl, zFo.rf, hbk⟩
        · have c6 : kd = 5 ∨ (¬ sz < 1 ∧ ¬ 1000000000 < sz) := Or.inr ⟨c5, c7⟩
          rw [if_pos (Int32.not_lt.mp c7), if_pos c6]
          exact C_barrel41 h hR hps kd sz ct hb
  · simp only [zev_eq e, if_neg c3, if_true, zev_b1, zev_bd, zev_some, zev_gi, zev_gj, zev_gr, zev_pi, zev_pz, zev_pj, zev_pr, zev_rc, zev_cc, zev_b0, zev_bo, true_and, and_true]
    exact ⟨g, A, AL, h, zFo.rf, hbk⟩
