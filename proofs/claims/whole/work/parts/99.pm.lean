/-! What the class's acts ask for, from what always holds. -/
theorem G_dok {nb n : Nat} {bs : Nat → Bv} {ro : Nat → Rw} {ac : Nat → Wn} (h : Ic nb bs ro ac) (hn : n < nb) {v : Int64} (h0 : 0 < v.toInt) (hv : v ≤ bspa bs (bs n)) : Dok bs nb (dlst bs n v) := by
  obtain ⟨dg, dn, -, -⟩ := D_lst h hn h0 hv
  exact (Dgo.dok h.wp h.i60 dg (Nodup_idx dn)).1
theorem G_dokV {nb n : Nat} {bs : Nat → Bv} {ro : Nat → Rw} {ac : Nat → Wn} (h : Ic nb bs ro ac) (hn : n < nb) (h5 : (bs n).1.1 ≠ 5) {v : Int64} (h0 : 0 < v.toInt) (hv : v.toInt ≤ (nT (bs n).2.1.2.2.2 : Int)) : Dok bs nb (dlst bs n v) := by
  rw [(dlst_v h5 h0).1]
  refine (Dgo.dok h.wp h.i60 (fun q hq => ?_) (fun i j q r hi hj hne => ?_)).1
  · rw [List.mem_singleton] at hq; subst hq; exact ⟨hn, h0, hv⟩
  · have h1 := (List.getElem?_eq_some_iff.mp hi).1
    have h2 := (List.getElem?_eq_some_iff.mp hj).1
    simp only [List.length_cons, List.length_nil] at h1 h2
    omega
theorem cpr_0 {nb n m : Nat} {bs : Nat → Bv} (hN : nb ≤ 1000) (hn : n < nb) (hm : m < nb) (h : cpr bs (nI n) (nI m) = 0) : n ≠ m ∧ (bs n).2.1.2.1 < 10000 ∧ (bs m).2.1.2.1 < 10000 := by
  unfold cpr at h
  rw [nI_clamp (show n < 2 ^ 31 by omega), nI_clamp (show m < 2 ^ 31 by omega)] at h
  by_cases c1 : nI n = nI m
  · rw [if_pos c1] at h; exact absurd h (by decide)
  · rw [if_neg c1] at h
    by_cases c2 : (bs n).2.1.2.1 < 10000
    · rw [if_pos c2] at h
      by_cases c3 : (bs m).2.1.2.1 < 10000
      · exact ⟨fun e => c1 (by rw [e]), c2, c3⟩
      · rw [if_neg c3] at h; exact absurd h (by decide)
    · rw [if_neg c2] at h; exact absurd h (by decide)
theorem G_pok {nb n m : Nat} {bs : Nat → Bv} {ro : Nat → Rw} {ac : Nat → Wn} (h : Ic nb bs ro ac) (hn : n < nb) (hm : m < nb) (hc : cpr bs (nI n) (nI m) = 0) {v : Int64} (h0 : 0 < v.toInt) (hv : v ≤ bspa bs (bs n)) : Pok nb bs n m v := by
  obtain ⟨c1, c2, c3⟩ := cpr_0 h.1 hn hm hc
  obtain ⟨dg, dn, -, dm⟩ := D_lst h hn h0 hv
  refine ⟨(Dgo.dok h.wp h.i60 dg (Nodup_idx dn)).1, draw_ne h hn c1 c3 dm, fun hw => wroomy_of ?_⟩
  rw [dmix_with (h.w hm).1 bs (dlst bs n v)]
  omega
theorem G_bok {nb m : Nat} {bs : Nat → Bv} {ro : Nat → Rw} {ac : Nat → Wn} {ps : List (Nat × Int64)} (h : Ic nb bs ro ac) (hP : Ips nb ps) (hm : m < nb) (c6 : phas (nI m) ps = 0) (c7 : (bs m).2.1.2.1 < 10000) (c8 : pcsk bs ps = 0) (c9 : (pspa bs ps).1 ≠ 0) : Bok nb bs ps m := by
  obtain ⟨dg, dn, -, dm⟩ := D_pick h ps hP.1 hP.nd (pcsk_ok c8) (pspa_ok c9)
  refine ⟨(Dgo.dok h.wp h.i60 dg (Nodup_idx dn)).1, fun q hq e => ?_, fun hw => wroomy_of ?_⟩
  · obtain ⟨p, hp, z | z⟩ := dm q hq
    · refine absurd c6 ?_
      unfold phas
      rw [if_pos (List.any_eq_true.mpr ⟨p, hp, decide_eq_true (by rw [← z.1, e])⟩)]
      decide
    · have z1 := z.1
      rw [e] at z1
      exact h.plcn (hP.1 p hp).1 z1 c7
  · rw [dmix_with (h.w hm).1 bs (dpick bs ps)]
    omega
theorem G_wok {nb b : Nat} {bs : Nat → Bv} {ro : Nat → Rw} {ac : Nat → Wn} (h : Ic nb bs ro ac) (hb : b < nb) : wok (bs b).2.1.2.2.2 := ⟨(h.wp b hb).1, (h.wp b hb).2, (h.i60 b hb).2, (h.i60 b hb).1⟩
theorem G_ca {nb : Nat} {bs : Nat → Bv} {ro : Nat → Rw} {ac : Nat → Wn} (h : Ic nb bs ro ac) : ∀ i, i < 5 → wcod (ac i) := fun i hi => (h.2.2.2 i hi).2
