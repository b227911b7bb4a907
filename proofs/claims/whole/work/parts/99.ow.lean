/-! The reference's acts: what one vessel breathes away. -/
def brk1 (r : Int64) (s : Wn × Wn × Int64) : Wn × Wn × Int64 := if wsum s.1 * r / 10000 = 0 then s else (wles s.1 (wshr (wsum s.1 * r / 10000) s.1), wputs s.2.1 (wgng s.1 (wshr (wsum s.1 * r / 10000) s.1)), s.2.2 + wsum s.1 * r / 10000)
def brkN (r : Int64) : Nat → Wn × Wn × Int64 → Wn × Wn × Int64
  | 0, s => s
  | n + 1, s => brk1 r (brkN r n s)
theorem brkN_fix {r : Int64} {s : Wn × Wn × Int64} (h : wsum s.1 * r / 10000 = 0) : ∀ n, brkN r n s = s
  | 0 => rfl
  | n + 1 => by
    show brk1 r (brkN r n s) = s
    rw [brkN_fix h n]
    unfold brk1
    rw [if_pos h]
theorem bup_same (bs : Nat → Bv) (b : Nat) : bup bs b (bwin (bs b) (bs b).2.1.2.2.2) = bs := by
  funext c
  unfold bup
  split
  · rename_i e; subst e; rfl
  · rfl
theorem brat_N (kd : Int32) : ∃ ρ : Nat, ρ ≤ 35 ∧ brat kd = lN ρ := by
  unfold brat
  split
  · exact ⟨20, by decide, rfl⟩
  · split
    · exact ⟨35, by decide, rfl⟩
    · split
      · exact ⟨0, by decide, rfl⟩
      · split
        · exact ⟨1, by decide, rfl⟩
        · exact ⟨0, by decide, rfl⟩
theorem brth_N {n : Nat} (hn : n ≤ 1000000000) (kd : Int32) : ∃ k : Nat, k ≤ n ∧ lN n * brat kd / 10000 = lN k := by
  obtain ⟨ρ, h1, h2⟩ := brat_N kd
  have h3 : n * ρ ≤ n * 35 := Nat.mul_le_mul_left n h1
  refine ⟨n * ρ / 10000, by omega, ?_⟩
  rw [h2, lN_mul]
  exact pk_lDiv (b := 10000) (by omega) (by decide) (by decide)
/-- what m_take says, with what always holds -/
theorem B_one {Q : Mq} {nb b : Nat} {bs : Nat → Bv} {ro : Nat → Rw} {ac : Nat → Wn} {kc : List Int32} (h : mBs Q nb bs) (hK : mKn Q kc) (hA : mAk Q kc ac) (hC : mCd kc nb bs ac) (hI : Ic nb bs ro ac) (hb : b < nb) {v : Int64} (h0 : 0 < v.toInt) (hv : v.toInt ≤ (nT (bs b).2.1.2.2.2 : Int)) : zev (mf_take Q (nI b) v 1) (fun y => ∃ kc', (∃ t, kc' = kc ++ t) ∧ mBs y.1 nb (bup bs b (bwin (bs b) (wles (bs b).2.1.2.2.2 (wshr v (bs b).2.1.2.2.2)))) ∧ mKn y.1 kc' ∧ mAk y.1 kc' (aup ac 1 (wputs (ac 1) (wgng (bs b).2.1.2.2.2 (wshr v (bs b).2.1.2.2.2)))) ∧ mCd kc' nb (bup bs b (bwin (bs b) (wles (bs b).2.1.2.2.2 (wshr v (bs b).2.1.2.2.2)))) (aup ac 1 (wputs (ac 1) (wgng (bs b).2.1.2.2.2 (wshr v (bs b).2.1.2.2.2)))) ∧ Ic nb (bup bs b (bwin (bs b) (wles (bs b).2.1.2.2.2 (wshr v (bs b).2.1.2.2.2)))) ro (aup ac 1 (wputs (ac 1) (wgng (bs b).2.1.2.2.2 (wshr v (bs b).2.1.2.2.2)))) ∧ qfr Q y.1 [8, 9, 10, 14, 15, 16, 17, 63]) := by
  have hd : ∀ q, q ∈ [(b, v)] → Dgo bs nb q := fun q hq => by rw [List.mem_singleton] at hq; subst hq; exact ⟨hb, h0, hv⟩
  have hx : ∀ (i j : Nat) (q r : Nat × Int64), [(b, v)][i]? = some q → [(b, v)][j]? = some r → i ≠ j → q.1 ≠ r.1 := fun i j q r hi hj hne => by
    have h1 := (List.getElem?_eq_some_iff.mp hi).1
    have h2 := (List.getElem?_eq_some_iff.mp hj).1
    simp only [List.length_cons, List.length_nil] at h1 h2
    omega
  obtain ⟨dok, dsk⟩ := Dgo.dok hI.wp hI.i60 hd hx
  obtain ⟨-, e1, e2⟩ := dsk (b, v) (List.mem_singleton.mpr rfl)
  have a1 := hI.2.2.2 1 (by decide)
  refine zev_mono (m_take h hK hA hC.1 hI.1 hb hI.i60 e1 v e2 (some 1) (fun i hi => by cases hi; exact ⟨by decide, a1.1⟩)) ?_
  rintro ⟨Q2, u⟩ ⟨kc', ek, b3, k3, a3, c3, f3⟩
  refine ⟨kc', ek, b3, k3, a3, ⟨c3, fun c hc q hq => ?_⟩, ?_, f3⟩
  · obtain ⟨t, et⟩ := ek
    have := car_kc (ds := [(b, v)]) (kc := kc') (fun b' hb' q hq => by rw [et]; exact List.mem_append_left _ (hC.2 b' hb' q hq)) c hc q
    rw [(scarry1 c).2.1] at this
    exact this hq
  · have := V_car hI hd (Iac_up (hw := 1) hI.2.2.2 (wris_dmix bs [(b, v)] _ a1.1) (wcod_dmix bs [(b, v)] _ a1.2 (hI.wcds hd)))
    exact this.cong ⟨rfl, fun c _ => ⟨(scarry1 c).1.symm, (scarry1 c).2.1.symm, (scarry1 c).2.2.symm⟩, fun _ _ => rfl, fun _ _ => rfl⟩
theorem m_br77 {Q : Mq} {nb b m G : Nat} {bs : Nat → Bv} {ro : Nat → Rw} {ac : Nat → Wn} {kc : List Int32} (h : mBs Q nb bs) (hK : mKn Q kc) (hA : mAk Q kc ac) (hC : mCd kc nb bs ac) (hI : Ic nb bs ro ac) (hb : b < nb) (h5 : (bs b).1.1 ≠ 5) (hm : m ≤ 12) : zev (zwhile (mf_breathe_L77 (nI m) (nI b)) (Q, lN G, 0)) (fun y => ∃ Q2 u kc' G', y = (Q2, (brkN (brat (bs b).1.1) m ((bs b).2.1.2.2.2, ac 1, lN G)).2.2, u) ∧ (∃ t, kc' = kc ++ t) ∧ mBs Q2 nb (bup bs b (bwin (bs b) (brkN (brat (bs b).1.1) m ((bs b).2.1.2.2.2, ac 1, lN G)).1)) ∧ mKn Q2 kc' ∧ mAk Q2 kc' (aup ac 1 (brkN (brat (bs b).1.1) m ((bs b).2.1.2.2.2, ac 1, lN G)).2.1) ∧ mCd kc' nb (bup bs b (bwin (bs b) (brkN (brat (bs b).1.1) m ((bs b).2.1.2.2.2, ac 1, lN G)).1)) (aup ac 1 (brkN (brat (bs b).1.1) m ((bs b).2.1.2.2.2, ac 1, lN G)).2.1) ∧ Ic nb (bup bs b (bwin (bs b) (brkN (brat (bs b).1.1) m ((bs b).2.1.2.2.2, ac 1, lN G)).1)) ro (aup ac 1 (brkN (brat (bs b).1.1) m ((bs b).2.1.2.2.2, ac 1, lN G)).2.1) ∧ qfr Q Q2 [8, 9, 10, 14, 15, 16, 17, 63] ∧ (brkN (brat (bs b).1.1) m ((bs b).2.1.2.2.2, ac 1, lN G)).2.2 = lN G' ∧ G' ≤ G + 1000000000 * m) := by
  have hN := hI.1
  refine zev_up (τ := Mq × Int64 × Int32) (fun i (z : Mq × Int64 × Int32) => ∃ Q2 kc' G', z = (Q2, (brkN (brat (bs b).1.1) i ((bs b).2.1.2.2.2, ac 1, lN G)).2.2, nI i) ∧ (∃ t, kc' = kc ++ t) ∧ mBs Q2 nb (bup bs b (bwin (bs b) (brkN (brat (bs b).1.1) i ((bs b).2.1.2.2.2, ac 1, lN G)).1)) ∧ mKn Q2 kc' ∧ mAk Q2 kc' (aup ac 1 (brkN (brat (bs b).1.1) i ((bs b).2.1.2.2.2, ac 1, lN G)).2.1) ∧ mCd kc' nb (bup bs b (bwin (bs b) (brkN (brat (bs b).1.1) i ((bs b).2.1.2.2.2, ac 1, lN G)).1)) (aup ac 1 (brkN (brat (bs b).1.1) i ((bs b).2.1.2.2.2, ac 1, lN G)).2.1) ∧ Ic nb (bup bs b (bwin (bs b) (brkN (brat (bs b).1.1) i ((bs b).2.1.2.2.2, ac 1, lN G)).1)) ro (aup ac 1 (brkN (brat (bs b).1.1) i ((bs b).2.1.2.2.2, ac 1, lN G)).2.1) ∧ qfr Q Q2 [8, 9, 10, 14, 15, 16, 17, 63] ∧ (brkN (brat (bs b).1.1) i ((bs b).2.1.2.2.2, ac 1, lN G)).2.2 = lN G' ∧ G' ≤ G + 1000000000 * i) m (Nat.zero_le _) ⟨Q, kc, G, rfl, ⟨[], by simp⟩, by show mBs Q nb (bup bs b (bwin (bs b) (bs b).2.1.2.2.2)); rw [bup_same]; exact h, hK, by show mAk Q kc (aup ac 1 (ac 1)); rw [aup_self]; exact hA, by show mCd kc nb (bup bs b (bwin (bs b) (bs b).2.1.2.2.2)) (aup ac 1 (ac 1)); rw [bup_same, aup_self]; exact hC, by show Ic nb (bup bs b (bwin (bs b) (bs b).2.1.2.2.2)) ro (aup ac 1 (ac 1)); rw [bup_same, aup_self]; exact hI, qfr.rf, rfl, by omega⟩ ?_ ?_
  · rintro i z hi ⟨Q2, kc', G', rfl, ⟨t, ek⟩, b2, k2, a2, c2, i2, f2, g2, g3⟩
    show zev _ _
    generalize hs : brkN (brat (bs b).1.1) i ((bs b).2.1.2.2.2, ac 1, lN G) = s at b2 a2 c2 i2 g2 ⊢
    have hnx : brkN (brat (bs b).1.1) (i + 1) ((bs b).2.1.2.2.2, ac 1, lN G) = brk1 (brat (bs b).1.1) s := by rw [← hs]; rfl
    rw [hnx]
    have ew : (bup bs b (bwin (bs b) s.1) b).2.1.2.2.2 = s.1 := by rw [bup_self]; rfl
    have ekd : (bup bs b (bwin (bs b) s.1) b).1.1 = (bs b).1.1 := by rw [bup_self]; rfl
    have hw := i2.w hb
    have hwp := i2.wp b hb
    have hsum := i2.sum hb
    rw [ew] at hsum
    have hr := m_rate b2 hN hb i2.kd
    rw [ekd] at hr
    have hv := m_inVessel b2 hN hb hw.2.2.1
    rw [ew] at hv
    rw [ew] at hwp
    obtain ⟨k, hk1, hk2⟩ := brth_N hwp.2 (bs b).1.1
    rw [← hsum] at hk2
    unfold mf_breathe_L77 mf_breathe_J126
    dsimp only
    rw [if_neg (nI_ge hi (by omega)), zev_mbd, zev_eq hv]
    dsimp only
    rw [zev_mbd, zev_eq hr]
    dsimp only
    rw [zev_b1, zev_ldw]
    unfold brk1
    by_cases c : k = 0
    · have c' : wsum s.1 * brat (bs b).1.1 / 10000 = 0 := by rw [hk2, c]; rfl
      rw [if_pos c', if_pos c', zev_some]
      exact ⟨_, rfl, Q2, kc', G', by rw [nI_1], ⟨t, ek⟩, b2, k2, a2, c2, i2, f2, g2, by omega⟩
    · have c' : ¬ wsum s.1 * brat (bs b).1.1 / 10000 = 0 := by
        rw [hk2]
        intro e
        have := congrArg Int64.toInt e
        rw [pk_lT (by omega)] at this
        exact c (by simpa using this)
      rw [if_neg c', if_neg c', zev_mbd]
      have hone := B_one (v := wsum s.1 * brat (bs b).1.1 / 10000) b2 k2 a2 c2 i2 hb (by rw [hk2, pk_lT (by omega)]; omega) (by rw [ew, hk2, pk_lT (by omega)]; omega)
      rw [ew] at hone
      refine zev_mono hone ?_
      rintro ⟨Q3, u3⟩ ⟨kc3, ⟨t3, ek3⟩, b3, k3, a3, c3, i3, f3⟩
      have ebw : ∀ x : Wn, bwin (bup bs b (bwin (bs b) s.1) b) x = bwin (bs b) x := fun x => by rw [bup_self]; rfl
      have eac : ∀ x : Wn, aup ac 1 x 1 = x := fun x => by unfold aup; rw [if_pos rfl]
      dsimp only at b3 k3 a3 c3 i3 f3 ⊢
      rw [ebw, bup_bup] at b3 c3 i3
      rw [aup_aup, eac] at a3 c3 i3
      rw [zev_some]
      refine ⟨_, rfl, Q3, kc3, G' + k, by rw [nI_1], ⟨t ++ t3, by rw [ek3, ek, List.append_assoc]⟩, b3, k3, a3, c3, i3, f2.tr0 f3, ?_, by omega⟩
      show s.2.2 + wsum s.1 * brat (bs b).1.1 / 10000 = _
      rw [g2, hk2, lN_add]
  · rintro z ⟨Q2, kc', G', rfl, ek, b2, k2, a2, c2, i2, f2, g2, g3⟩
    unfold mf_breathe_L77
    dsimp only
    rw [if_pos (nI_le (Nat.le_refl m) (by omega)), zev_some]
    exact ⟨_, rfl, Q2, _, kc', G', rfl, ek, b2, k2, a2, c2, i2, f2, g2, g3⟩
