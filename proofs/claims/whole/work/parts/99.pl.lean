/-! The question strays, in the class. -/
theorem zCe_seeMem {M : Zm} {g : Zg} {A AL : Nat → Nat} {x : Nat} {adr : Nat → Nat} {ga nb : Nat} {bs : Nat → Bv} {ro : Nat → Rw} {lb : List Lb} {ps : List (Nat × Int64)} {ac : Nat → Wn} {jr bo : List Ln} {mo : Int32} {gi : Int64} {tr tp wy wh : Int32} {tc : List Int32} {st : List Int64} {ds : List (Nat × Int64)} {dw : Wn} {bf : Nat → Int32} {ba : Wn} {bc : List Nat} {cc k : Nat} (h : zCe M g A AL x adr ga nb bs ro lb ps ac jr bo mo gi tr tp wy wh tc st ds dw bf ba bc) (hI : Ic nb bs ro ac) (hs : Zst M A nb bs (fun b => sRow1 ro b 1200 ∨ sCsk bs b cc)) (hcc : cc < nb) (hb : zBu M g k) : zev (zf_X0_seeMembers M (some (A cc))) (fun y => zCe y.1 g A AL x adr ga nb bs ro lb ps ac jr bo mo gi tr tp wy wh tc st ds dw bf ba bc ∧ Zst y.1 A nb bs (fun b => sRow1 ro b 1200 ∨ sCsk bs b (cc + 1)) ∧ zFo M g y.1 g Tc ∧ zBu y.1 g k) := by
  have hN := h.N
  obtain ⟨hml, hm4⟩ := hI.ml cc hcc
  have hnd := (hI.2.1 cc hcc).2.2.2.2.2.2.1
  simp only [zf_X0_seeMembers, zev_b1, zev_bd, zev_some, zev_gi, zev_gj, zev_gr, zev_pi, zev_pz, zev_pj, zev_pr, zev_rc, zev_cc, zev_b0, zev_bo, true_and, and_true]
  refine zev_up (τ := Zm × Int32) (fun i (z : Zm × Int32) => ∃ M2, z = (M2, nI i) ∧ zCe M2 g A AL x adr ga nb bs ro lb ps ac jr bo mo gi tr tp wy wh tc st ds dw bf ba bc ∧ Zst M2 A nb bs (fun b => (sRow1 ro b 1200 ∨ sCsk bs b cc) ∨ b ∈ (bms (bs cc)).take i) ∧ zFo M g M2 g Tc ∧ zBu M2 g k) (bms (bs cc)).length (Nat.zero_le _) ⟨M, rfl, h, hs.iff (fun b _ => ⟨Or.inl, fun z => z.resolve_right (by simp)⟩), zFo.rf, hb⟩ ?_ ?_
  · rintro i z hi ⟨M2, rfl, h2, s2, f2, b2⟩
    obtain ⟨m, hm⟩ := getElem?_lt hi
    have hmm := hI.mem cc hcc m (List.mem_of_getElem? hm)
    have xc := h2.bs hcc
    obtain ⟨ma, p1, p2, p3, p4, p5, p6⟩ := xc.me
    have hpl := hI.plcm hcc (List.mem_of_getElem? hm)
    have c1 : ¬ nI (bs cc).2.1.2.2.1 ≤ nI i := nI_ge (by omega) (by omega)
    have n0 : zm_i M2 (A cc) 0 = nI cc := xc.2.2.1
    simp only [zf_X0_seeMembers_L2, zev_b1, zev_bd, zev_some, zev_gi, zev_gj, zev_gr, zev_pi, zev_pz, zev_pj, zev_pr, zev_rc, zev_cc, zev_b0, zev_bo, true_and, and_true, xc.O, xc.mc, if_neg c1, p1, zev_ar2 (show i < 2 ^ 31 by omega), p2, p3, show i < 4 by omega, p6 i m hm, n0, (h2.bs hmm.1).O]
    have hnot : ¬ ((sRow1 ro m 1200 ∨ sCsk bs m cc) ∨ m ∈ (bms (bs cc)).take i) := by
      rintro ((⟨j, hj, ej⟩ | ⟨c', hc', mc'⟩) | s1)
      · have := rcl_pl hI hmm.1 hj ej
        rw [hpl] at this
        have e3 := congrArg Int32.toNatClampNeg this
        rw [nI_clamp (by omega), nI_clamp (by omega)] at e3
        omega
      · have := hI.plcm (show c' < nb by omega) mc'
        rw [hpl] at this
        have e3 := congrArg Int32.toNatClampNeg this
        rw [nI_clamp (by omega), nI_clamp (by omega)] at e3
        omega
      · obtain ⟨j, hj⟩ := List.mem_iff_getElem?.mp s1
        have hjl := (List.getElem?_eq_some_iff.mp hj).1
        rw [List.length_take] at hjl
        rw [List.getElem?_take_of_lt (by omega)] at hj
        have := (List.getElem?_inj (List.getElem?_eq_some_iff.mp hj).1 hnd).mp (hj.trans hm.symm)
        omega
    refine zev_mono (zCe_see1 h2 s2 hmm.1 hnot (by rw [hpl]; exact c10000 (by omega)) b2) ?_
    rintro ⟨M3, u3⟩ ⟨h3, s3, f3, b3⟩
    dsimp only at h3 s3 f3 b3 ⊢
    refine ⟨_, rfl, M3, by rw [nI_1], h3, s3.iff (fun b hbn => ?_), f2.tr (f3.mono (fun z q => show z ≠ 1 ∧ z ≠ 28 ∧ z ≠ 29 by first | omega | (dsimp only at q; omega))), b3⟩
    rw [take_snoc hm, List.mem_append, List.mem_singleton, or_assoc]
  · rintro z ⟨M2, rfl, h2, s2, f2, b2⟩
    have xc := h2.bs hcc
    have c1 : nI (bs cc).2.1.2.2.1 ≤ nI (bms (bs cc)).length := nI_le (by omega) (by omega)
    simp only [zf_X0_seeMembers_L2, zev_b1, zev_bd, zev_some, zev_gi, zev_gj, zev_gr, zev_pi, zev_pz, zev_pj, zev_pr, zev_rc, zev_cc, zev_b0, zev_bo, true_and, and_true, xc.O, xc.mc, if_pos c1]
    rw [List.take_of_length_le (Nat.le_refl _)] at s2
    refine ⟨_, rfl, h2, s2.iff (fun b hbn => ⟨fun z => ?_, fun z => ?_⟩), f2, b2⟩
    · rcases z with (z | ⟨c', z1, z2⟩) | z
      · exact Or.inl z
      · exact Or.inr ⟨c', by omega, z2⟩
      · exact Or.inr ⟨cc, by omega, z⟩
    · rcases z with z | ⟨c', z1, z2⟩
      · exact Or.inl (Or.inl z)
      · by_cases e : c' = cc
        · rw [e] at z2; exact Or.inr z2
        · exact Or.inl (Or.inr ⟨c', by omega, z2⟩)
theorem zCe_isStray {M : Zm} {g : Zg} {A AL : Nat → Nat} {x : Nat} {adr : Nat → Nat} {ga nb : Nat} {bs : Nat → Bv} {ro : Nat → Rw} {lb : List Lb} {ps : List (Nat × Int64)} {ac : Nat → Wn} {jr bo : List Ln} {mo : Int32} {gi : Int64} {tr tp wy wh : Int32} {tc : List Int32} {st : List Int64} {ds : List (Nat × Int64)} {dw : Wn} {bf : Nat → Int32} {ba : Wn} {bc : List Nat} {b : Nat} (h : zCe M g A AL x adr ga nb bs ro lb ps ac jr bo mo gi tr tp wy wh tc st ds dw bf ba bc) (hs : Zst M A nb bs (fun b => sRow1 ro b 1200 ∨ sCsk bs b nb)) (hbn : b < nb) : zf_X0_isStray M (some (A b)) = some (M, if cstrB nb bs ro b then 1 else 0) := by
  obtain ⟨s, s1, s2⟩ := hs
  obtain ⟨t1, t2⟩ := s1 b hbn
  refine zev_of ?_
  have hc : ¬ (1 : Int32) < (s b).1 := by rcases s2 b hbn with ⟨-, e, -⟩ | ⟨-, e, -⟩ <;> rw [e] <;> decide
  simp only [zf_X0_isStray, zf_X0_isStray_J19, zev_b1, zev_bd, zev_some, zev_gi, zev_gj, zev_gr, zev_pi, zev_pz, zev_pj, zev_pr, zev_rc, zev_cc, zev_b0, zev_bo, true_and, and_true, (h.bs hbn).O, t1, t2, if_neg hc, (h.bs hbn).pl]
  by_cases e : (s b).2 = (bs b).2.1.2.1
  · have hn : ¬ sStr nb bs ro b := fun z => by
      rcases s2 b hbn with ⟨q1, q2, q3⟩ | ⟨q1, q2, q3⟩
      · exact z.1 (by rw [← e]; exact q3)
      · exact z.2 q1
    rw [if_pos e, cstrB_f hn]
    simp only [zev_b1, zev_bd, zev_some, zev_gi, zev_gj, zev_gr, zev_pi, zev_pz, zev_pj, zev_pr, zev_rc, zev_cc, zev_b0, zev_bo, true_and, and_true]
    rfl
  · have hn : sStr nb bs ro b := by
      rcases s2 b hbn with ⟨q1, q2, q3⟩ | ⟨q1, q2, q3⟩
      · exact ⟨fun z => e (by rw [q3, z]), q1⟩
      · exact absurd q3 e
    rw [if_neg e, cstrB_t hn]
    simp only [zev_b1, zev_bd, zev_some, zev_gi, zev_gj, zev_gr, zev_pi, zev_pz, zev_pj, zev_pr, zev_rc, zev_cc, zev_b0, zev_bo, true_and, and_true]
    rfl
set_option maxHeartbeats 1000000 in
theorem Q_strays {M : Zm} {g : Zg} {A AL : Nat → Nat} {x : Nat} {adr : Nat → Nat} {ga nb : Nat} {bs : Nat → Bv} {ro : Nat → Rw} {lb : List Lb} {ps : List (Nat × Int64)} {ac : Nat → Wn} {jr bo : List Ln} {mo : Int32} {gi : Int64} {tr tp wy wh : Int32} {tc : List Int32} {st : List Int64} {ds : List (Nat × Int64)} {dw : Wn} {bf : Nat → Int32} {ba : Wn} {bc : List Nat} {k : Nat} (h : zCe M g A AL x adr ga nb bs ro lb ps ac jr bo mo gi tr tp wy wh tc st ds dw bf ba bc) (hI : Ic nb bs ro ac) (hb : zBu M g k) : zev (zf_X11_strays M (some x)) (fun y => zCe y.1 g A AL x adr ga nb bs ro lb ps ac jr bo mo gi tr tp wy wh tc st ds dw bf ba bc ∧ y.2 = cstr nb bs ro ∧ zFo M g y.1 g Tc ∧ zBu y.1 g k) := by
  have hN := h.N
  simp only [zf_X11_strays, zev_b1, zev_bd, zev_some, zev_gi, zev_gj, zev_gr, zev_pi, zev_pz, zev_pj, zev_pr, zev_rc, zev_cc, zev_b0, zev_bo, true_and, and_true]
  refine zev_up (τ := Zm × Int32) (fun i (z : Zm × Int32) => ∃ M2, z = (M2, nI i) ∧ zCe M2 g A AL x adr ga nb bs ro lb ps ac jr bo mo gi tr tp wy wh tc st ds dw bf ba bc ∧ (∀ b, b < i → zm_i M2 (A b) 12 = 0 ∧ zm_i M2 (A b) 13 = 0) ∧ zFo M g M2 g Tc ∧ zBu M2 g k) nb (Nat.zero_le _) ⟨M, rfl, h, fun b hb => by omega, zFo.rf, hb⟩ ?_ ?_
  · rintro i z hi ⟨M2, rfl, h2, s2, f2, b2⟩
    have c1 : ¬ nI nb ≤ nI i := nI_ge hi (by omega)
    simp only [zf_X11_strays_L2, zev_b1, zev_bd, zev_some, zev_gi, zev_gj, zev_gr, zev_pi, zev_pz, zev_pj, zev_pr, zev_rc, zev_cc, zev_b0, zev_bo, true_and, and_true, h2.O, h2.r (show 0 < 14 by decide), h2.bl.O, zev_eq (zCe_size h2), if_neg c1, zev_eq (zCe_get h2 hi), (h2.bs hi).O]
    refine zev_mono (zCe_lose h2 hi b2) ?_
    rintro ⟨M3, u3⟩ ⟨h3, s3, t3, f3, b3⟩
    dsimp only at h3 s3 t3 f3 b3 ⊢
    refine ⟨_, rfl, M3, by rw [nI_1], h3, fun b hb => ?_, f2.tr f3, b3⟩
    by_cases e : b = i
    · rw [e]; exact s3
    · obtain ⟨e1, e2⟩ := t3 b (by omega) e
      rw [e1, e2]
      exact s2 b (by omega)
  · rintro z ⟨M2, rfl, h2, s2, f2, b2⟩
    have c1 : nI nb ≤ nI nb := nI_le (Nat.le_refl _) (by omega)
    simp only [zf_X11_strays_L2, zev_b1, zev_bd, zev_some, zev_gi, zev_gj, zev_gr, zev_pi, zev_pz, zev_pj, zev_pr, zev_rc, zev_cc, zev_b0, zev_bo, true_and, and_true, h2.O, h2.r (show 0 < 14 by decide), h2.bl.O, zev_eq (zCe_size h2), if_pos c1]
    refine ⟨_, rfl, ?_⟩
    dsimp only
    have st0 : Zst M2 A nb bs (fun b => sRow1 ro b (60 * 0)) := ⟨fun _ => (0, 0), fun b hb => s2 b hb, fun b hb => Or.inl ⟨fun ⟨i, hi, _⟩ => by omega, rfl, rfl⟩⟩
    refine zev_up (τ := Zm × Int32) (fun i (z : Zm × Int32) => ∃ M3, z = (M3, nI i) ∧ zCe M3 g A AL x adr ga nb bs ro lb ps ac jr bo mo gi tr tp wy wh tc st ds dw bf ba bc ∧ Zst M3 A nb bs (fun b => sRow1 ro b (60 * i)) ∧ zFo M g M3 g Tc ∧ zBu M3 g k) 20 (Nat.zero_le _) ⟨M2, rfl, h2, st0, f2, b2⟩ ?_ ?_
    · rintro i z hi ⟨M3, rfl, h3, s3, f3, b3⟩
      have c2 : ¬ (20 : Int32) ≤ nI i := nI_ge (b := 20) hi (by decide)
      simp only [zf_X11_strays_L35, if_neg c2, zev_b1, zev_bd, zev_some, zev_gi, zev_gj, zev_gr, zev_pi, zev_pz, zev_pj, zev_pr, zev_rc, zev_cc, zev_b0, zev_bo, true_and, and_true, h3.O]
      refine zev_mono (zCe_seeRow h3 hI s3 hi b3) ?_
      rintro ⟨M4, u4⟩ ⟨h4, s4, f4, b4⟩
      exact ⟨_, rfl, M4, by rw [nI_1], h4, s4, f3.tr f4, b4⟩
    · rintro z ⟨M3, rfl, h3, s3, f3, b3⟩
      have c2 : (20 : Int32) ≤ nI 20 := by decide
      simp only [zf_X11_strays_L35, if_pos c2, zev_b1, zev_bd, zev_some, zev_gi, zev_gj, zev_gr, zev_pi, zev_pz, zev_pj, zev_pr, zev_rc, zev_cc, zev_b0, zev_bo, true_and, and_true]
      refine ⟨_, rfl, ?_⟩
      dsimp only
      refine zev_up (τ := Zm × Int32) (fun i (z : Zm × Int32) => ∃ M4, z = (M4, nI i) ∧ zCe M4 g A AL x adr ga nb bs ro lb ps ac jr bo mo gi tr tp wy wh tc st ds dw bf ba bc ∧ Zst M4 A nb bs (fun b => sRow1 ro b 1200 ∨ sCsk bs b i) ∧ zFo M g M4 g Tc ∧ zBu M4 g k) nb (Nat.zero_le _) ⟨M3, rfl, h3, s3.iff (fun b _ => ⟨Or.inl, fun z => z.resolve_right (fun ⟨c', h1, _⟩ => by omega)⟩), f3, b3⟩ ?_ ?_
      · rintro i z hi ⟨M4, rfl, h4, s4, f4, b4⟩
        have c3 : ¬ nI nb ≤ nI i := nI_ge hi (by omega)
        simp only [zf_X11_strays_L54, zev_b1, zev_bd, zev_some, zev_gi, zev_gj, zev_gr, zev_pi, zev_pz, zev_pj, zev_pr, zev_rc, zev_cc, zev_b0, zev_bo, true_and, and_true, h4.O, h4.r (show 0 < 14 by decide), h4.bl.O, zev_eq (zCe_size h4), if_neg c3, zev_eq (zCe_get h4 hi), (h4.bs hi).O]
        refine zev_mono (zCe_seeMem h4 hI s4 hi b4) ?_
        rintro ⟨M5, u5⟩ ⟨h5, s5, f5, b5⟩
        exact ⟨_, rfl, M5, by rw [nI_1], h5, s5, f4.tr f5, b5⟩
      · rintro z ⟨M4, rfl, h4, s4, f4, b4⟩
        simp only [zf_X11_strays_L54, zev_b1, zev_bd, zev_some, zev_gi, zev_gj, zev_gr, zev_pi, zev_pz, zev_pj, zev_pr, zev_rc, zev_cc, zev_b0, zev_bo, true_and, and_true, h4.O, h4.r (show 0 < 14 by decide), h4.bl.O, zev_eq (zCe_size h4), if_pos c1]
        refine ⟨_, rfl, ?_⟩
        dsimp only
        unfold cstr
        refine zev_up (τ := Zm × Int32 × Int32) (fun i (z : Zm × Int32 × Int32) => z = (M4, nI ((List.range i).countP (cstrB nb bs ro)), nI i)) nb (Nat.zero_le _) rfl ?_ ?_
        · rintro i z hi rfl
          have c3 : ¬ nI nb ≤ nI i := nI_ge hi (by omega)
          simp only [zf_X11_strays_L89, zf_X11_strays_J120, zev_b1, zev_bd, zev_some, zev_gi, zev_gj, zev_gr, zev_pi, zev_pz, zev_pj, zev_pr, zev_rc, zev_cc, zev_b0, zev_bo, true_and, and_true, h4.O, h4.r (show 0 < 14 by decide), h4.bl.O, zev_eq (zCe_size h4), if_neg c3, zev_eq (zCe_get h4 hi), (h4.bs hi).O, zev_eq (zCe_isStray h4 s4 hi)]
          rw [range_snoc, List.countP_append]
          by_cases e : cstrB nb bs ro i = true
          · rw [e, if_pos rfl, if_neg z10, zev_some]
            refine ⟨_, rfl, ?_⟩
            simp [e, nI_1]
          · have e' : cstrB nb bs ro i = false := by simpa using e
            rw [e', if_pos (show (if false = true then (1 : Int32) else 0) = 0 from rfl), zev_some]
            refine ⟨_, rfl, ?_⟩
            simp [e', nI_1]
        · rintro z rfl
          simp only [zf_X11_strays_L89, zev_b1, zev_bd, zev_some, zev_gi, zev_gj, zev_gr, zev_pi, zev_pz, zev_pj, zev_pr, zev_rc, zev_cc, zev_b0, zev_bo, true_and, and_true, h4.O, h4.r (show 0 < 14 by decide), h4.bl.O, zev_eq (zCe_size h4), if_pos c1]
          exact ⟨_, rfl, h4, rfl, f4, b4⟩
