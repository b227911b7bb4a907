/-! The law's loop. -/
theorem xs_at {xs : Nat → Int32} {L i : Nat} (h : i < L) (hL : L ≤ 3072) : zo_xs xs L (nI i) = some (xs i) := by
  unfold zo_xs
  rw [if_pos ((mix_iff (show i < 2 ^ 31 by omega)).mpr h), nI_clamp (by omega)]
theorem L_step {m x ga t sb L : Nat} {ad adr : Nat → Nat} {M : Zm} {xs : Nat → Int32} (hL : L ≤ 3072) (hl : 6 * t + 6 ≤ L) (h : Gl m ad x adr ga t M) : zev (zf_L_law_L18 xs L sb (some x) (some m) (M, nI (6 * t))) (fun r => ∃ M', r = .inl (M', nI (6 * (t + 1))) ∧ Gl m ad x adr ga (t + 1) M') := by
  have ht : t < 512 := by omega
  have hO := h.O
  have x0 : zo_xs xs L (nI (6 * t)) = some (xs (6 * t)) := xs_at (by omega) hL
  have x1 : zo_xs xs L (nI (6 * t) + 1) = some (xs (6 * t + 1)) := by rw [show nI (6 * t) + 1 = nI (6 * t + 1) from nI_add _ 1]; exact xs_at (by omega) hL
  have x2 : zo_xs xs L (nI (6 * t) + 2) = some (xs (6 * t + 2)) := by rw [show nI (6 * t) + 2 = nI (6 * t + 2) from nI_add _ 2]; exact xs_at (by omega) hL
  have x3 : zo_xs xs L (nI (6 * t) + 3) = some (xs (6 * t + 3)) := by rw [show nI (6 * t) + 3 = nI (6 * t + 3) from nI_add _ 3]; exact xs_at (by omega) hL
  have x4 : zo_xs xs L (nI (6 * t) + 4) = some (xs (6 * t + 4)) := by rw [show nI (6 * t) + 4 = nI (6 * t + 4) from nI_add _ 4]; exact xs_at (by omega) hL
  have x5 : zo_xs xs L (nI (6 * t) + 5) = some (xs (6 * t + 5)) := by rw [show nI (6 * t) + 5 = nI (6 * t + 5) from nI_add _ 5]; exact xs_at (by omega) hL
  have fin : ∀ M2, Gl m ad x adr ga (t + 1) M2 → zev (zf_L_law_J1719 xs L sb M2 (some x) (some m) (nI (6 * t))) (fun r => ∃ M', r = .inl (M', nI (6 * (t + 1))) ∧ Gl m ad x adr ga (t + 1) M') := by
    intro M2 h2
    unfold zf_L_law_J1719
    rw [zev_some]
    exact ⟨M2, by rw [show nI (6 * t) + 6 = nI (6 * t + 6) from nI_add _ 6]; rfl, h2⟩
  have fin2 : ∀ {α : Type} [DecidableEq α] (o : Option (Zm × α)) (F2 : Zm → Option (Zm × α)), zev o (fun y1 => zO y1.1 m 13 ∧ zev (F2 y1.1) (fun y2 => y1.2 = y2.2 ∧ Gl m ad x adr ga (t + 1) y2.1)) → zev o (fun y1 => zO y1.1 m 13 ∧ zev (F2 y1.1) (fun y2 => zev (if y1.2 = y2.2 then zf_L_law_J1719 xs L sb y2.1 (some x) (some m) (nI (6 * t)) else zb1 (zo_b (0 : Int32)) (fun w => some (.inr (.inr (y2.1, w))))) (fun r => ∃ M', r = .inl (M', nI (6 * (t + 1))) ∧ Gl m ad x adr ga (t + 1) M'))) := by
    intro α _ o F2 hh
    refine zev_mono hh ?_
    rintro ⟨M1, v1⟩ ⟨o1, h1⟩
    refine ⟨o1, zev_mono h1 ?_⟩
    rintro ⟨M2, v2⟩ ⟨e2, h2⟩
    dsimp only at e2 h2 ⊢
    rw [if_pos e2]
    exact fin M2 h2
  have c0 : ¬ (Int32.ofNat L - 6 < nI (6 * t)) := by
    rw [show Int32.ofNat L - 6 = nI (L - 6) from pk_sub (b := 6) (by omega)]
    exact nI_nlt (by omega) (by omega)
  unfold zf_L_law_L18
  dsimp only
  rw [if_neg c0, zev_b1, x0, zev_some]
  generalize xs (6 * t) &&& 63 = op
  by_cases e0 : op = 0
  · rw [if_pos e0]
    simp only [x1, x2, x3, x4, x5, zev_b1, zev_bd, zev_some, zev_rc, hO, true_and]
    exact fin2 _ (fun M => zf_X12_row M (some m) _ _ _) (S_row ht h _ _ _)
  rw [if_neg e0]
  by_cases e1 : op = 1
  · rw [if_pos e1]
    simp only [x1, x2, x3, x4, x5, zev_b1, zev_bd, zev_some, zev_rc, hO, true_and]
    exact fin2 _ (fun M => zf_X12_barrel M (some m) _ _ _) (S_barrel ht h _ _ _)
  rw [if_neg e1]
  by_cases e2 : op = 2
  · rw [if_pos e2]
    simp only [x1, x2, x3, x4, x5, zev_b1, zev_bd, zev_some, zev_rc, hO, true_and]
    exact fin2 _ (fun M => zf_X12_join M (some m) _ _) (S_join ht h _ _)
  rw [if_neg e2]
  by_cases e3 : op = 3
  · rw [if_pos e3]
    simp only [x1, x2, x3, x4, x5, zev_b1, zev_bd, zev_some, zev_rc, hO, true_and]
    exact fin2 _ (fun M => zf_X12_leave M (some m) _) (S_leave ht h _)
  rw [if_neg e3]
  by_cases e4 : op = 4
  · rw [if_pos e4]
    simp only [x1, x2, x3, x4, x5, zev_b1, zev_bd, zev_some, zev_rc, hO, true_and]
    exact fin2 _ (fun M => zf_X12_lay M (some m) _ _ _) (S_lay ht h _ _ _)
  rw [if_neg e4]
  by_cases e5 : op = 5
  · rw [if_pos e5]
    simp only [x1, x2, x3, x4, x5, zev_b1, zev_bd, zev_some, zev_rc, hO, true_and]
    exact fin2 _ (fun M => zf_X12_lift M (some m) _ _) (S_lift ht h _ _)
  rw [if_neg e5]
  by_cases e6 : op = 6
  · rw [if_pos e6]
    simp only [x1, x2, x3, x4, x5, zev_b1, zev_bd, zev_some, zev_rc, hO, true_and]
    exact fin2 _ (fun M => zf_X12_worth M (some m) _ _) (S_worth ht h _ _)
  rw [if_neg e6]
  by_cases e7 : op = 7
  · rw [if_pos e7]
    simp only [x1, x2, x3, x4, x5, zev_b1, zev_bd, zev_some, zev_rc, hO, true_and]
    exact fin2 _ (fun M => zf_X12_fill M (some m) _ _ _) (S_fill ht h _ _ _)
  rw [if_neg e7]
  by_cases e8 : op = 8
  · rw [if_pos e8]
    simp only [x1, x2, x3, x4, x5, zev_b1, zev_bd, zev_some, zev_rc, hO, true_and]
    exact fin2 _ (fun M => zf_X12_rack M (some m) _ _ _) (S_rack ht h _ _ _)
  rw [if_neg e8]
  by_cases e9 : op = 9
  · rw [if_pos e9]
    simp only [x1, x2, x3, x4, x5, zev_b1, zev_bd, zev_some, zev_rc, hO, true_and]
    exact fin2 _ (fun M => zf_X12_topUp M (some m) _ _) (S_topUp ht h _ _)
  rw [if_neg e9]
  by_cases e10 : op = 10
  · rw [if_pos e10]
    simp only [x1, x2, x3, x4, x5, zev_b1, zev_bd, zev_some, zev_rc, hO, true_and]
    exact fin2 _ (fun M => zf_X12_pick M (some m) _ _) (S_pick ht h _ _)
  rw [if_neg e10]
  by_cases e11 : op = 11
  · rw [if_pos e11]
    simp only [x1, x2, x3, x4, x5, zev_b1, zev_bd, zev_some, zev_rc, hO, true_and]
    exact fin2 _ (fun M => zf_X12_forget M (some m)) (S_forget ht h)
  rw [if_neg e11]
  by_cases e12 : op = 12
  · rw [if_pos e12]
    simp only [x1, x2, x3, x4, x5, zev_b1, zev_bd, zev_some, zev_rc, hO, true_and]
    exact fin2 _ (fun M => zf_X12_blend M (some m) _) (S_blend ht h _)
  rw [if_neg e12]
  by_cases e13 : op = 13
  · rw [if_pos e13]
    simp only [x1, x2, x3, x4, x5, zev_b1, zev_bd, zev_some, zev_rc, hO, true_and]
    exact fin2 _ (fun M => zf_X12_breathe M (some m) _) (S_breathe ht h _)
  rw [if_neg e13]
  by_cases e14 : op = 14
  · rw [if_pos e14]
    simp only [x1, x2, x3, x4, x5, zev_b1, zev_bd, zev_some, zev_rc, hO, true_and]
    exact fin2 _ (fun M => zf_X12_bottle M (some m) _ _ _) (S_bottle ht h _ _ _)
  rw [if_neg e14]
  by_cases e15 : op = 15
  · rw [if_pos e15]
    simp only [x1, x2, x3, x4, x5, zev_b1, zev_bd, zev_some, zev_rc, hO, true_and]
    exact fin2 _ (fun M => zf_X12_drain M (some m) _ _ _) (S_drain ht h _ _ _)
  rw [if_neg e15]
  by_cases e16 : op = 16
  · rw [if_pos e16]
    simp only [x1, x2, x3, x4, x5, zev_b1, zev_bd, zev_some, zev_rc, hO, true_and]
    exact fin2 _ (fun M => zf_X12_wash M (some m) _) (S_wash ht h _)
  rw [if_neg e16]
  by_cases e17 : op = 17
  · rw [if_pos e17]
    simp only [x1, x2, x3, x4, x5, zev_b1, zev_bd, zev_some, zev_rc, hO, true_and]
    exact fin2 _ (fun M => zf_X12_partAt M (some m) _ _) (S_partAt ht h _ _)
  rw [if_neg e17]
  by_cases e18 : op = 18
  · rw [if_pos e18]
    simp only [x1, x2, x3, x4, x5, zev_b1, zev_bd, zev_some, zev_rc, hO, true_and]
    exact fin2 _ (fun M => zf_X12_amountAt M (some m) _ _) (S_amountAt ht h _ _)
  rw [if_neg e18]
  by_cases e19 : op = 19
  · rw [if_pos e19]
    simp only [x1, x2, x3, x4, x5, zev_b1, zev_bd, zev_some, zev_rc, hO, true_and]
    exact fin2 _ (fun M => zf_X12_room M (some m) _) (S_room ht h _)
  rw [if_neg e19]
  by_cases e20 : op = 20
  · rw [if_pos e20]
    simp only [x1, x2, x3, x4, x5, zev_b1, zev_bd, zev_some, zev_rc, hO, true_and]
    exact fin2 _ (fun M => zf_X12_label M (some m)) (S_label ht h)
  rw [if_neg e20]
  by_cases e21 : op = 21
  · rw [if_pos e21]
    simp only [x1, x2, x3, x4, x5, zev_b1, zev_bd, zev_some, zev_rc, hO, true_and]
    exact fin2 _ (fun M => zf_X12_rule M (some m) _ _ _ _ _) (S_rule ht h _ _ _ _ _)
  rw [if_neg e21]
  by_cases e22 : op = 22
  · rw [if_pos e22]
    simp only [x1, x2, x3, x4, x5, zev_b1, zev_bd, zev_some, zev_rc, hO, true_and]
    exact fin2 _ (fun M => zf_X12_judge M (some m) _ _) (S_judge ht h _ _)
  rw [if_neg e22]
  by_cases e23 : op = 23
  · rw [if_pos e23]
    simp only [x1, x2, x3, x4, x5, zev_b1, zev_bd, zev_some, zev_rc, hO, true_and]
    exact fin2 _ (fun M => zf_X12_plan M (some m) _ _ _) (S_plan ht h _ _ _)
  rw [if_neg e23]
  by_cases e24 : op = 24
  · rw [if_pos e24]
    simp only [x1, x2, x3, x4, x5, zev_b1, zev_bd, zev_some, zev_rc, hO, true_and]
    exact fin2 _ (fun M => zf_X12_undo M (some m)) (S_undo ht h)
  rw [if_neg e24]
  by_cases e25 : op = 25
  · rw [if_pos e25]
    simp only [x1, x2, x3, x4, x5, zev_b1, zev_bd, zev_some, zev_rc, hO, true_and]
    exact fin2 _ (fun M => zf_X12_kindOf M (some m) _) (S_kindOf ht h _)
  rw [if_neg e25]
  by_cases e26 : op = 26
  · rw [if_pos e26]
    simp only [x1, x2, x3, x4, x5, zev_b1, zev_bd, zev_some, zev_rc, hO, true_and]
    exact fin2 _ (fun M => zf_X12_where M (some m) _) (S_where ht h _)
  rw [if_neg e26]
  by_cases e27 : op = 27
  · rw [if_pos e27]
    simp only [x1, x2, x3, x4, x5, zev_b1, zev_bd, zev_some, zev_rc, hO, true_and]
    exact fin2 _ (fun M => zf_X12_at M (some m) _ _) (S_at ht h _ _)
  rw [if_neg e27]
  by_cases e28 : op = 28
  · rw [if_pos e28]
    simp only [x1, x2, x3, x4, x5, zev_b1, zev_bd, zev_some, zev_rc, hO, true_and]
    exact fin2 _ (fun M => zf_X12_amount M (some m) _) (S_amount ht h _)
  rw [if_neg e28]
  by_cases e29 : op = 29
  · rw [if_pos e29]
    simp only [x1, x2, x3, x4, x5, zev_b1, zev_bd, zev_some, zev_rc, hO, true_and]
    exact fin2 _ (fun M => zf_X12_part M (some m) _ _) (S_part ht h _ _)
  rw [if_neg e29]
  by_cases e30 : op = 30
  · rw [if_pos e30]
    simp only [x1, x2, x3, x4, x5, zev_b1, zev_bd, zev_some, zev_rc, hO, true_and]
    exact fin2 _ (fun M => zf_X12_parts M (some m) _) (S_parts ht h _)
  rw [if_neg e30]
  by_cases e31 : op = 31
  · rw [if_pos e31]
    simp only [x1, x2, x3, x4, x5, zev_b1, zev_bd, zev_some, zev_rc, hO, true_and]
    exact fin2 _ (fun M => zf_X12_account_ M (some m) _ _) (S_account ht h _ _)
  rw [if_neg e31]
  by_cases e32 : op = 32
  · rw [if_pos e32]
    simp only [x1, x2, x3, x4, x5, zev_b1, zev_bd, zev_some, zev_rc, hO, true_and]
    exact fin2 _ (fun M => zf_X12_odd M (some m)) (S_odd ht h)
  rw [if_neg e32]
  by_cases e33 : op = 33
  · rw [if_pos e33]
    simp only [x1, x2, x3, x4, x5, zev_b1, zev_bd, zev_some, zev_rc, hO, true_and]
    exact fin2 _ (fun M => zf_X12_strays M (some m)) (S_strays ht h)
  rw [if_neg e33]
  by_cases e34 : op = 34
  · rw [if_pos e34]
    simp only [x1, x2, x3, x4, x5, zev_b1, zev_bd, zev_some, zev_rc, hO, true_and]
    exact fin2 _ (fun M => zf_X12_month M (some m)) (S_month ht h)
  rw [if_neg e34]
  by_cases e35 : op = 35
  · rw [if_pos e35]
    simp only [x1, x2, x3, x4, x5, zev_b1, zev_bd, zev_some, zev_rc, hO, true_and]
    exact fin2 _ (fun M => zf_X12_bottlings M (some m)) (S_bottlings ht h)
  rw [if_neg e35]
  by_cases e36 : op = 36
  · rw [if_pos e36]
    simp only [x1, x2, x3, x4, x5, zev_b1, zev_bd, zev_some, zev_rc, hO, true_and]
    exact fin2 _ (fun M => zf_X12_bottling M (some m) _ _) (S_bottling ht h _ _)
  rw [if_neg e36]
  by_cases e37 : op = 37
  · rw [if_pos e37]
    simp only [x1, x2, x3, x4, x5, zev_b1, zev_bd, zev_some, zev_rc, hO, true_and]
    exact fin2 _ (fun M => zf_X12_entries M (some m)) (S_entries ht h)
  rw [if_neg e37]
  by_cases e38 : op = 38
  · rw [if_pos e38]
    simp only [x1, x2, x3, x4, x5, zev_b1, zev_bd, zev_some, zev_rc, hO, true_and]
    exact fin2 _ (fun M => zf_X12_entry M (some m) _ _) (S_entry ht h _ _)
  rw [if_neg e38]
  by_cases e39 : op = 39
  · rw [if_pos e39]
    simp only [x1, x2, x3, x4, x5, zev_b1, zev_bd, zev_some, zev_rc, hO, true_and]
    exact fin2 _ (fun M => zf_X12_tries M (some m)) (S_tries ht h)
  rw [if_neg e39]
  by_cases e40 : op = 40
  · rw [if_pos e40]
    simp only [x1, x2, x3, x4, x5, zev_b1, zev_bd, zev_some, zev_rc, hO, true_and]
    exact fin2 _ (fun M => zf_X12_closed M (some m)) (S_closed ht h)
  rw [if_neg e40]
  by_cases e41 : op = 41
  · rw [if_pos e41]
    simp only [x1, x2, x3, x4, x5, zev_b1, zev_bd, zev_some, zev_rc, hO, true_and]
    exact fin2 _ (fun M => zf_X12_why M (some m)) (S_why ht h)
  rw [if_neg e41]
  by_cases e42 : op = 42
  · rw [if_pos e42]
    simp only [x1, x2, x3, x4, x5, zev_b1, zev_bd, zev_some, zev_rc, hO, true_and]
    exact fin2 _ (fun M => zf_X12_which M (some m)) (S_which ht h)
  rw [if_neg e42]
  by_cases e43 : op = 43
  · rw [if_pos e43]
    simp only [x1, x2, x3, x4, x5, zev_b1, zev_bd, zev_some, zev_rc, hO, true_and]
    exact fin2 _ (fun M => zf_X12_trace M (some m) _) (S_trace ht h _)
  rw [if_neg e43]
  by_cases e44 : op = 44
  · rw [if_pos e44]
    simp only [x1, x2, x3, x4, x5, zev_b1, zev_bd, zev_some, zev_rc, hO, true_and]
    exact fin2 _ (fun M => zf_X12_picked M (some m)) (S_picked ht h)
  rw [if_neg e44]
  by_cases e45 : op = 45
  · rw [if_pos e45]
    simp only [x1, x2, x3, x4, x5, zev_b1, zev_bd, zev_some, zev_rc, hO, true_and]
    exact fin2 _ (fun M => zf_X12_planned M (some m) _) (S_planned ht h _)
  rw [if_neg e45]
  by_cases e46 : op = 46
  · rw [if_pos e46]
    simp only [x1, x2, x3, x4, x5, zev_b1, zev_bd, zev_some, zev_rc, hO, true_and]
    exact fin2 _ (fun M => zf_X12_digest M (some m)) (S_digest ht h)
  rw [if_neg e46]
  exact fin M h.up
theorem L_loop {m x ga sb L : Nat} {ad adr : Nat → Nat} {M : Zm} {xs : Nat → Int32} (hL : L ≤ 3072) (h : Gl m ad x adr ga 0 M) : zev (zwhile (zf_L_law_L18 xs L sb (some x) (some m)) (M, (0 : Int32))) (fun y => ∃ q, y = .inl q) := by
  refine zev_lp (τ := (Zm × Int32) ⊕ (Zm × Int32)) (fun n (z : Zm × Int32) => ∃ M1 t, z = (M1, nI (6 * t)) ∧ n + t = 600 ∧ 6 * t ≤ 3072 ∧ Gl m ad x adr ga t M1) (n := 600) ⟨M, 0, rfl, rfl, by omega, h⟩ ?_
  rintro n z ⟨M1, t, rfl, hn, ht, h1⟩
  by_cases hl : 6 * t + 6 ≤ L
  · refine zev_mono (L_step hL hl h1) ?_
    rintro r ⟨M2, rfl, h2⟩
    exact Or.inl ⟨_, n - 1, rfl, ⟨M2, t + 1, rfl, by omega, by omega, h2⟩, by omega⟩
  · have c0 : Int32.ofNat L - 6 < nI (6 * t) := by
      by_cases h6 : 6 ≤ L
      · rw [show Int32.ofNat L - 6 = nI (L - 6) from pk_sub (b := 6) h6]
        exact nI_lt (by omega) (by omega)
      · have h7 : Int32.ofNat L - 6 < 0 := pk_sneg (a := L) (b := 6) (by decide) (by omega)
        rw [Int32.lt_iff_toInt_lt] at h7 ⊢
        rw [nI_toInt (show 6 * t < 2 ^ 31 by omega)]
        rw [show (0 : Int32).toInt = 0 from rfl] at h7
        omega
    unfold zf_L_law_L18
    dsimp only
    rw [if_pos c0, zev_some]
    exact Or.inr ⟨_, rfl, _, rfl⟩
