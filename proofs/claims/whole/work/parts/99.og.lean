/-! Draws: who gives what; what undo gives back; what still holds. -/
theorem Ic.wp {nb : Nat} {bs : Nat → Bv} {ro : Nat → Rw} {ac : Nat → Wn} (h : Ic nb bs ro ac) : Iwp bs nb := by
  intro b hb
  obtain ⟨q1, q2, q3, q4, -⟩ := h.2.1 b hb
  obtain ⟨w1, w2, w3, w4, w5, w6⟩ := q4
  refine ⟨w4, ?_⟩
  by_cases e : (bs b).1.1 = 5
  · rw [w6 e]; simp [nT]
  · obtain ⟨n, n1, n2⟩ := vt_N e (q2 e)
    have := w5 e
    rw [n2, pk_lT (by omega), wtot_nT _ w4] at this
    omega
theorem Ic.sum {nb b : Nat} {bs : Nat → Bv} {ro : Nat → Rw} {ac : Nat → Wn} (h : Ic nb bs ro ac) (hb : b < nb) : wsum (bs b).2.1.2.2.2 = lN (nT (bs b).2.1.2.2.2) := wsum_lN _ (h.wp b hb).1
theorem Ic.vs {nb b : Nat} {bs : Nat → Bv} {ro : Nat → Rw} {ac : Nat → Wn} (h : Ic nb bs ro ac) (hb : b < nb) (h5 : (bs b).1.1 ≠ 5) : ∃ n : Nat, n ≤ nT (bs b).2.1.2.2.2 ∧ vs (bs b).1 (wsum (bs b).2.1.2.2.2) = lN n := by
  rw [h.sum hb]
  exact vs_N h5 ((h.2.1 b hb).2.1 h5) (h.wp b hb).2
def SV (bs : Nat → Bv) : List Nat → Nat
  | [] => 0
  | m :: r => (vs (bs m).1 (wsum (bs m).2.1.2.2.2)).toInt.toNat + SV bs r
theorem dsum_snoc : ∀ (l : List (Nat × Int64)) (q : Nat × Int64), dsum (l ++ [q]) = dsum l + q.2.toInt.toNat
  | [], q => by simp [dsum]
  | y :: r, q => by simp only [List.cons_append, dsum, dsum_snoc r q]; omega
theorem dsum_app : ∀ (a b : List (Nat × Int64)), dsum (a ++ b) = dsum a + dsum b
  | [], b => by simp [dsum]
  | y :: r, b => by simp only [List.cons_append, dsum, dsum_app r b]; omega
theorem dfold {nb : Nat} {bs : Nat → Bv} {ro : Nat → Rw} {ac : Nat → Wn} (h : Ic nb bs ro ac) : ∀ (ms : List Nat) (W : Nat) (dd : List (Nat × Int64)) (T : List Int32), (∀ m, m ∈ ms → m < nb ∧ (bs m).1.1 ≠ 5) → W < 2 ^ 62 → ((ms.foldl (dstep bs) (lN W, dd, T)).1 = lN (W - SV bs ms) ∧ dsum (ms.foldl (dstep bs) (lN W, dd, T)).2.1 = dsum dd + min W (SV bs ms) ∧ (∀ q, q ∈ (ms.foldl (dstep bs) (lN W, dd, T)).2.1 → q ∈ dd ∨ (q.1 ∈ ms ∧ Dgo bs nb q)) ∧ ((ms.foldl (dstep bs) (lN W, dd, T)).2.1.map (fun q => q.1)).Sublist (dd.map (fun q => q.1) ++ ms))
  | [], W, dd, T, _, _ => ⟨by simp [SV], by simp [SV], fun q hq => Or.inl hq, by simp⟩
  | m :: r, W, dd, T, hm, hW => by
    obtain ⟨hm1, hm5⟩ := hm m List.mem_cons_self
    obtain ⟨k, hk, hvs⟩ := h.vs hm1 hm5
    have hw9 := (h.wp m hm1).2
    have hkv : (vs (bs m).1 (wsum (bs m).2.1.2.2.2)).toInt.toNat = k := by rw [hvs, pk_lT (by omega)]; rfl
    have hr : ∀ m, m ∈ r → m < nb ∧ (bs m).1.1 ≠ 5 := fun z hz => hm z (List.mem_cons_of_mem _ hz)
    rw [List.foldl_cons]
    simp only [SV, hkv]
    by_cases c : W = 0
    · subst c
      have e : dstep bs (lN 0, dd, T) m = (lN 0, dd, T) := by unfold dstep; rw [if_pos (show lN 0 ≤ 0 by decide)]
      rw [e]
      obtain ⟨i1, i2, i3, i4⟩ := dfold h r 0 dd T hr (by decide)
      refine ⟨by rw [i1]; congr 1; omega, by rw [i2]; omega, fun q hq => ?_, i4.trans ?_⟩
      · rcases i3 q hq with z | ⟨z1, z2⟩
        · exact Or.inl z
        · exact Or.inr ⟨List.mem_cons_of_mem _ z1, z2⟩
      · exact List.Sublist.append_left (List.sublist_cons_self m r) _
    · have hmin : zminl (lN W) (lN k) = lN (min W k) := by
        unfold zminl
        by_cases c2 : k < W
        · rw [if_pos ((pk_lLT (by omega) (by omega)).mpr c2), Nat.min_eq_right (by omega)]
        · rw [if_neg (fun z => c2 ((pk_lLT (by omega) (by omega)).mp z)), Nat.min_eq_left (by omega)]
      have hW0 : ¬ lN W ≤ 0 := fun z => by have := (pk_lLE (b := 0) (by omega) (by decide)).mp z; omega
      have e : dstep bs (lN W, dd, T) m = (lN (W - min W k), (if min W k = 0 then dd else dd ++ [(m, lN (min W k))]), T ++ vsT (bs m).1) := by
        unfold dstep
        rw [if_neg hW0, hvs]
        dsimp only
        rw [hmin, lN_sub (Nat.min_le_left _ _)]
        by_cases c3 : min W k = 0
        · rw [if_pos c3, if_pos (by rw [c3]; decide)]
        · rw [if_neg c3, if_neg (fun z => by have := (pk_lLE (b := 0) (by omega) (by decide)).mp z; omega)]
      rw [e]
      have hb0 : (lN (min W k)).toInt = ((min W k : Nat) : Int) := pk_lT (by omega)
      by_cases c3 : min W k = 0
      · rw [if_pos c3]
        obtain ⟨i1, i2, i3, i4⟩ := dfold h r (W - min W k) dd (T ++ vsT (bs m).1) hr (by omega)
        refine ⟨by rw [i1]; congr 1; omega, by rw [i2]; omega, fun q hq => ?_, i4.trans ?_⟩
        · rcases i3 q hq with z | ⟨z1, z2⟩
          · exact Or.inl z
          · exact Or.inr ⟨List.mem_cons_of_mem _ z1, z2⟩
        · exact List.Sublist.append_left (List.sublist_cons_self m r) _
      · rw [if_neg c3]
        obtain ⟨i1, i2, i3, i4⟩ := dfold h r (W - min W k) (dd ++ [(m, lN (min W k))]) (T ++ vsT (bs m).1) hr (by omega)
        refine ⟨by rw [i1]; congr 1; omega, ?_, fun q hq => ?_, ?_⟩
        · rw [i2, dsum_snoc, hb0]
          show dsum dd + (min W k) + _ = _
          omega
        · rcases i3 q hq with z | ⟨z1, z2⟩
          · rcases List.mem_append.mp z with z | z
            · exact Or.inl z
            · rw [List.mem_singleton] at z
              subst z
              exact Or.inr ⟨List.mem_cons_self, hm1, by rw [hb0]; omega, by dsimp only; rw [hb0]; omega⟩
          · exact Or.inr ⟨List.mem_cons_of_mem _ z1, z2⟩
        · rw [List.map_append, List.append_assoc] at i4
          exact i4
theorem SV_sum {nb : Nat} {bs : Nat → Bv} {ro : Nat → Rw} {ac : Nat → Wn} (h : Ic nb bs ro ac) : ∀ (ms : List Nat) (a : Nat), (∀ m, m ∈ ms → m < nb ∧ (bs m).1.1 ≠ 5) → ms.foldl (fun a m => a + vs (bs m).1 (wsum (bs m).2.1.2.2.2)) (lN a) = lN (a + SV bs ms)
  | [], a, _ => by simp [SV]
  | m :: r, a, hm => by
    obtain ⟨hm1, hm5⟩ := hm m List.mem_cons_self
    obtain ⟨k, hk, hvs⟩ := h.vs hm1 hm5
    have hw9 := (h.wp m hm1).2
    have hkv : (vs (bs m).1 (wsum (bs m).2.1.2.2.2)).toInt.toNat = k := by rw [hvs, pk_lT (by omega)]; rfl
    rw [List.foldl_cons, hvs, lN_add, SV_sum h r _ (fun z hz => hm z (List.mem_cons_of_mem _ hz))]
    simp only [SV, hkv]
    congr 1; omega
theorem SV_le {nb : Nat} {bs : Nat → Bv} {ro : Nat → Rw} {ac : Nat → Wn} (h : Ic nb bs ro ac) : ∀ (ms : List Nat), (∀ m, m ∈ ms → m < nb ∧ (bs m).1.1 ≠ 5) → SV bs ms ≤ 1000000000 * ms.length
  | [], _ => by simp [SV]
  | m :: r, hm => by
    obtain ⟨hm1, hm5⟩ := hm m List.mem_cons_self
    obtain ⟨k, hk, hvs⟩ := h.vs hm1 hm5
    have hw9 := (h.wp m hm1).2
    have hkv : (vs (bs m).1 (wsum (bs m).2.1.2.2.2)).toInt.toNat = k := by rw [hvs, pk_lT (by omega)]; rfl
    have := SV_le h r (fun z hz => hm z (List.mem_cons_of_mem _ hz))
    simp only [SV, hkv, List.length_cons]
    omega
theorem Nodup_idx {ds : List (Nat × Int64)} (h : (ds.map (fun q => q.1)).Nodup) (i j : Nat) (q r : Nat × Int64) (hi : ds[i]? = some q) (hj : ds[j]? = some r) (hne : i ≠ j) : q.1 ≠ r.1 := by
  intro e
  have h1 : (ds.map (fun q => q.1))[i]? = some q.1 := by rw [List.getElem?_map, hi]; rfl
  have h2 : (ds.map (fun q => q.1))[j]? = some r.1 := by rw [List.getElem?_map, hj]; rfl
  rw [← e] at h2
  exact hne ((List.getElem?_inj (List.getElem?_eq_some_iff.mp h1).1 h).mp (h1.trans h2.symm))
/-- what a barrel is asked for, it gives -/
theorem D_lst {nb n : Nat} {bs : Nat → Bv} {ro : Nat → Rw} {ac : Nat → Wn} (h : Ic nb bs ro ac) (hn : n < nb) {v : Int64} (h0 : 0 < v.toInt) (hv : v ≤ bspa bs (bs n)) : (∀ q, q ∈ dlst bs n v → Dgo bs nb q) ∧ ((dlst bs n v).map (fun q => q.1)).Nodup ∧ dsum (dlst bs n v) = v.toInt.toNat ∧ (∀ q, q ∈ dlst bs n v → (q.1 = n ∧ (bs n).1.1 ≠ 5) ∨ (q.1 ∈ bms (bs n) ∧ (bs n).1.1 = 5)) := by
  obtain ⟨hvn, hvn2⟩ := lN_of (Int.le_of_lt h0)
  have hv0 : ¬ v ≤ 0 := fun z => by have := le0_toInt.mp z; omega
  unfold dlst
  unfold bspa at hv
  by_cases e : (bs n).1.1 = 5
  · rw [if_pos e] at hv ⊢
    have hm := fun m hm => h.mem n hn m hm
    have hml := h.ml n hn
    have hb := SV_le h (bms (bs n)) hm
    have hs := SV_sum h (bms (bs n)) 0 hm
    rw [show (0 : Int64) = lN 0 from rfl, hs, hvn, Nat.zero_add] at hv
    have hle := (pk_lLE hvn2 (by omega)).mp hv
    obtain ⟨i1, i2, i3, i4⟩ := dfold h (bms (bs n)) v.toInt.toNat [] [] hm (by omega)
    rw [← hvn] at i1 i2 i3 i4
    refine ⟨fun q hq => ?_, ?_, ?_, fun q hq => ?_⟩
    · rcases i3 q hq with z | ⟨z1, z2⟩
      · simp at z
      · exact z2
    · exact ((h.2.1 n hn).2.2.2.2.2.2.1).sublist (by simpa using i4)
    · rw [i2]; simp only [dsum]; omega
    · rcases i3 q hq with z | ⟨z1, z2⟩
      · simp at z
      · exact Or.inr ⟨z1, e⟩
  · rw [if_neg e] at hv ⊢
    rw [if_neg hv0]
    obtain ⟨k, hk, hvs⟩ := h.vs hn e
    have hw9 := (h.wp n hn).2
    rw [hvs, hvn] at hv
    have hle := (pk_lLE hvn2 (by omega)).mp hv
    refine ⟨fun q hq => ?_, by simp, by simp [dsum], fun q hq => ?_⟩
    · rw [List.mem_singleton] at hq; subst hq
      exact ⟨hn, h0, by dsimp only; omega⟩
    · rw [List.mem_singleton] at hq; subst hq
      exact Or.inl ⟨rfl, e⟩
/-! undo -/
theorem dfind_in {ds : List (Nat × Int64)} {b : Nat} : b ∈ ds.map (fun q => q.1) → ∃ q, dfind ds b = some q := by
  intro h
  cases hf : dfind ds b with
  | some q => exact ⟨q, rfl⟩
  | none =>
    obtain ⟨q, hq, e⟩ := List.mem_map.mp h
    exact absurd e (dfind_none hf q hq)
theorem sres_car {bs : Nat → Bv} {ds : List (Nat × Int64)} (b : Nat) : (sres (scarry bs ds) (ds.map (fun q => q.1)) b).1 = (bs b).1 ∧ (sres (scarry bs ds) (ds.map (fun q => q.1)) b).2.1 = (bs b).2.1 ∧ bms (sres (scarry bs ds) (ds.map (fun q => q.1)) b) = bms (bs b) := by
  refine sres_ok (fun hb => ?_) (fun hb => ?_)
  · obtain ⟨q, hq⟩ := dfind_in hb
    unfold scarry
    rw [hq]
    exact ⟨rfl, rfl, rfl⟩
  · unfold scarry
    cases hf : dfind ds b with
    | none => exact ⟨rfl, rfl, rfl⟩
    | some q =>
      have := dfind_mem hf
      exact absurd (List.mem_map.mpr ⟨q, this.1, this.2⟩) hb
theorem U_off {nb hw : Nat} {bs : Nat → Bv} {ro : Nat → Rw} {ac : Nat → Wn} {w : Wn} {bf : Nat → Int32} {mo : Int32} {jl bl : Nat} {ds : List (Nat × Int64)} (hn : nb ≤ 1000) (hh : hw < 5) : Ceq nb bs ro ac ((fu (bfB bf nb mo jl bl) 8 (nI hw)) 1).toNatClampNeg (sres (scarry bs ds) (ds.map (fun q => q.1))) (sresR ro (fu (bfB bf nb mo jl bl) 8 (nI hw))) (sresA (aup ac hw w) (fu (bfB bf nb mo jl bl) 8 (nI hw)) (ac hw)) := by
  refine ⟨(show (bfB bf nb mo jl bl 1).toNatClampNeg = nb from bfB_1 (by omega)), fun b _ => sres_car b, fun _ _ => rfl, fun i _ => ?_⟩
  unfold sresA
  rw [if_neg (show ¬ (fu (bfB bf nb mo jl bl) 8 (nI hw)) 8 = -1 from nIne (by omega))]
  show aup (aup ac hw w) (nI hw).toNatClampNeg (ac hw) i = ac i
  rw [nI_clamp (by omega), aup_aup, aup_self]
theorem U_pour {nb to : Nat} {bs : Nat → Bv} {ro : Nat → Rw} {ac : Nat → Wn} {ba : Wn} {bf : Nat → Int32} {mo : Int32} {jl bl : Nat} {ds : List (Nat × Int64)} (hn : nb ≤ 1000) : Ceq nb bs ro ac (bfB bf nb mo jl bl 1).toNatClampNeg (sres (spour bs to ds) ([to] ++ ds.map (fun q => q.1))) (sresR ro (bfB bf nb mo jl bl)) (sresA ac (bfB bf nb mo jl bl) ba) := by
  refine ⟨bfB_1 (by omega), fun b _ => sres_ok (fun hb => ?_) (fun hb => ?_), fun _ _ => rfl, fun _ _ => rfl⟩
  · unfold spour
    by_cases e : b = to
    · subst e; rw [bup_self]; exact ⟨rfl, rfl, rfl⟩
    · rw [bup_ne _ _ e]
      have hb' : b ∈ ds.map (fun q => q.1) := by
        rcases List.mem_append.mp hb with z | z
        · rw [List.mem_singleton] at z; exact absurd z e
        · exact z
      obtain ⟨q, hq⟩ := dfind_in hb'
      unfold scarry
      rw [hq]
      exact ⟨rfl, rfl, rfl⟩
  · have e : b ≠ to := fun e => hb (List.mem_append_left _ (List.mem_singleton.mpr e))
    unfold spour
    rw [bup_ne _ _ e]
    unfold scarry
    cases hf : dfind ds b with
    | none => exact ⟨rfl, rfl, rfl⟩
    | some q =>
      have := dfind_mem hf
      exact absurd (List.mem_append_right _ (List.mem_map.mpr ⟨q, this.1, this.2⟩)) hb
/-! what still holds -/
theorem Iw_les {x : Int32 × Int32} {l : Wn} {v : Int64} (h : Iw x l) (hT : nT l ≤ 1000000000) (h0 : 0 ≤ v.toInt) (hv : v.toInt ≤ (nT l : Int)) : Iw x (wles l (wshr v l)) := by
  obtain ⟨w1, w2, w3, w4, w5, w6⟩ := h
  obtain ⟨s1, s2, s3, s4, s5⟩ := wshr_all w4 hT h0 hv
  refine ⟨wris_wles _ _ w1, fun q hq => ?_, Nat.le_trans (wles_len _ _) w3, s3, fun e => ?_, fun e => ?_⟩
  · obtain ⟨q', hq', e⟩ := wles_mem _ _ _ hq
    rw [← e]; exact w2 q' hq'
  · have := w5 e
    rw [wtot_nT _ w4] at this
    rw [wtot_nT _ s3]; omega
  · rw [w6 e]; exact wles_nil _
theorem V_car {nb : Nat} {bs : Nat → Bv} {ro : Nat → Rw} {ac ac' : Nat → Wn} {ds : List (Nat × Int64)} (h : Ic nb bs ro ac) (hd : ∀ q, q ∈ ds → Dgo bs nb q) (ha : Iac ac') : Ic nb (scarry bs ds) ro ac' := by
  refine h.win (fun b hb => ?_) ha
  unfold scarry
  cases hf : dfind ds b with
  | none => exact ⟨rfl, Or.inl rfl, rfl, rfl, rfl, h.w hb⟩
  | some q =>
    obtain ⟨m1, rfl⟩ := dfind_mem hf
    obtain ⟨d1, d2, d3⟩ := hd q m1
    exact ⟨rfl, Or.inl rfl, rfl, rfl, rfl, Iw_les (h.w hb) (h.wp q.1 hb).2 (Int.le_of_lt d2) d3⟩
theorem Iac_up {ac : Nat → Wn} {hw : Nat} {w : Wn} (h : Iac ac) (h1 : wris w) (h2 : wcod w) : Iac (aup ac hw w) := by
  intro i hi
  unfold aup
  split
  · exact ⟨h1, h2⟩
  · exact h i hi
theorem Ic.wcds {nb : Nat} {bs : Nat → Bv} {ro : Nat → Rw} {ac : Nat → Wn} (h : Ic nb bs ro ac) {ds : List (Nat × Int64)} (hd : ∀ q, q ∈ ds → Dgo bs nb q) : ∀ q, q ∈ ds → wcod (bs q.1).2.1.2.2.2 := fun q hq => (h.i60 q.1 (hd q hq).1).2
theorem V_pour {nb to : Nat} {bs : Nat → Bv} {ro : Nat → Rw} {ac : Nat → Wn} {ds : List (Nat × Int64)} {v : Nat} (h : Ic nb bs ro ac) (hto : to < nb) (hd : ∀ q, q ∈ ds → Dgo bs nb q) (h5 : (bs to).1.1 ≠ 5) (hs : dsum ds = v) (hv : ((nT (bs to).2.1.2.2.2 + v : Nat) : Int) ≤ (vt (bs to).1).toInt) (hl : (dmix bs (bs to).2.1.2.2.2 ds).length ≤ 60) : Ic nb (spour bs to ds) ro ac := by
  have hc := V_car (ac' := ac) h hd h.2.2.2
  obtain ⟨w1, w2, w3, w4, w5, w6⟩ := h.w hto
  have hv9 : (vt (bs to).1).toInt ≤ 1000000000 := by
    obtain ⟨n, n1, n2⟩ := vt_N h5 ((h.2.1 to hto).2.1 h5)
    rw [n2, pk_lT (by omega)]; omega
  obtain ⟨m1, m2⟩ := nT_mix h.wp ds (bs to).2.1.2.2.2 hd w4 (by omega)
  have hW : Iw (bs to).1 (dmix bs (bs to).2.1.2.2.2 ds) := ⟨wris_dmix bs _ _ w1, wcod_dmix bs _ _ w2 (h.wcds hd), hl, m1, fun _ => by rw [wtot_nT _ m1, m2]; omega, fun e => absurd e h5⟩
  refine h.win (fun b hb => ?_) h.2.2.2
  unfold spour
  by_cases e : b = to
  · subst e
    rw [bup_self]
    exact ⟨rfl, Or.inl rfl, rfl, rfl, rfl, hW⟩
  · rw [bup_ne _ _ e]
    unfold scarry
    cases hf : dfind ds b with
    | none => exact ⟨rfl, Or.inl rfl, rfl, rfl, rfl, h.w hb⟩
    | some q =>
      obtain ⟨m1, rfl⟩ := dfind_mem hf
      obtain ⟨d1, d2, d3⟩ := hd q m1
      exact ⟨rfl, Or.inl rfl, rfl, rfl, rfl, Iw_les (h.w hb) (h.wp q.1 hb).2 (Int.le_of_lt d2) d3⟩
theorem Ira_car {nb : Nat} {bs : Nat → Bv} {ds : List (Nat × Int64)} (h : Ira nb bs) : Ira nb (scarry bs ds) := by
  intro b hb m hm
  unfold scarry at hm
  cases hf : dfind ds b with
  | none => rw [hf] at hm; exact h b hb m hm
  | some q => rw [hf] at hm; exact h b hb m hm
theorem Ira_pour {nb to : Nat} {bs : Nat → Bv} {ds : List (Nat × Int64)} (h : Ira nb bs) : Ira nb (spour bs to ds) := by
  intro b hb m hm
  unfold spour bup at hm
  split at hm
  · rename_i e; subst e; exact h b hb m hm
  · exact Ira_car h b hb m hm
/-! known codes -/
theorem wputs_cod : ∀ (zs acc : Wn) (q : Int32 × Int64), q ∈ wputs acc zs → (∃ y, y ∈ acc ∧ y.1 = q.1) ∨ (∃ y, y ∈ zs ∧ y.1 = q.1)
  | [], acc, q, h => Or.inl ⟨q, h, rfl⟩
  | z :: r, acc, q, h => by
    have h' : q ∈ wputs (if z.2 ≤ 0 then acc else wadd z.1 z.2 acc) r := h
    rcases wputs_cod r _ q h' with ⟨y, hy, e⟩ | ⟨y, hy, e⟩
    · by_cases c : z.2 ≤ 0
      · rw [if_pos c] at hy; exact Or.inl ⟨y, hy, e⟩
      · rw [if_neg c] at hy
        rcases wadd_mem _ _ _ _ hy with e2 | ⟨y', hy', e2⟩
        · exact Or.inr ⟨z, List.mem_cons_self, by rw [← e2]; exact e⟩
        · exact Or.inl ⟨y', hy', e2.trans e⟩
    · exact Or.inr ⟨y, List.mem_cons_of_mem _ hy, e⟩
theorem wgng_cod {l : Wn} {s : List Int64} {q : Int32 × Int64} (h : q ∈ wgng l s) : ∃ y, y ∈ l ∧ y.1 = q.1 := by
  unfold wgng at h
  obtain ⟨i, hi⟩ := List.getElem?_of_mem h
  rw [List.getElem?_zipWith] at hi
  cases h1 : l[i]? with
  | none => rw [h1] at hi; cases hi
  | some y =>
    cases h2 : s[i]? with
    | none => rw [h1, h2] at hi; cases hi
    | some v => rw [h1, h2] at hi; cases hi; exact ⟨y, List.mem_of_getElem? h1, rfl⟩
theorem dmix_kc {bs : Nat → Bv} {nb : Nat} {kc : List Int32} (hk : ∀ b, b < nb → ∀ q, q ∈ (bs b).2.1.2.2.2 → q.1 ∈ kc) : ∀ (ds : List (Nat × Int64)) (acc : Wn), (∀ q, q ∈ ds → q.1 < nb) → (∀ q, q ∈ acc → q.1 ∈ kc) → ∀ q, q ∈ dmix bs acc ds → q.1 ∈ kc
  | [], _, _, ha, q, h => ha q h
  | z :: r, acc, hd, ha, q, h => by
    refine dmix_kc hk r _ (fun y hy => hd y (List.mem_cons_of_mem _ hy)) (fun y hy => ?_) q h
    rcases wputs_cod _ _ _ hy with ⟨y', hy', e⟩ | ⟨y', hy', e⟩
    · rw [← e]; exact ha y' hy'
    · obtain ⟨y2, hy2, e2⟩ := wgng_cod hy'
      rw [← e, ← e2]
      exact hk z.1 (hd z List.mem_cons_self) y2 hy2
theorem car_kc {bs : Nat → Bv} {nb : Nat} {kc : List Int32} {ds : List (Nat × Int64)} (hk : ∀ b, b < nb → ∀ q, q ∈ (bs b).2.1.2.2.2 → q.1 ∈ kc) : ∀ b, b < nb → ∀ q, q ∈ (scarry bs ds b).2.1.2.2.2 → q.1 ∈ kc := by
  intro b hb q hq
  unfold scarry at hq
  cases hf : dfind ds b with
  | none => rw [hf] at hq; exact hk b hb q hq
  | some z =>
    rw [hf] at hq
    obtain ⟨y, hy, e⟩ := wles_mem _ _ _ hq
    rw [← e]; exact hk b hb y hy
