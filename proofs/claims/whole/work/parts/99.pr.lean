/-! plan: the search without its cut, the search over others' numbers, what is searched. -/
def ufr (cnt : Nat) (Mo : Nat → Nat) (D : Nat → Int64) (ok : (Nat → Nat) → Prop) [DecidablePred ok] : Nat → Nat → Nat → Int64 → (Nat → Nat) → Int64 × (Nat → Nat) → Int64 × (Nat → Nat)
  | 0, _, left, dear, tr, a => if a.1 ≠ -1 ∧ ¬ dear < a.1 then a else if left = 0 ∧ ok tr then (dear, tr) else a
  | n + 1, s, left, dear, tr, a => (List.range' (if s = cnt - 1 then left else 0) (min left (Mo s) + 1 - (if s = cnt - 1 then left else 0))).foldl (fun a j => ufr cnt Mo D ok n (s + 1) (left - j) (dear + D (13 * s + j)) (fuN tr s j) a) a
theorem foldl_fix {α β : Type} {f : β → α → β} {a : β} : ∀ (l : List α), (∀ x, x ∈ l → f a x = a) → l.foldl f a = a
  | [], _ => rfl
  | x :: r, h => by
    rw [List.foldl_cons, h x List.mem_cons_self]
    exact foldl_fix r (fun y hy => h y (List.mem_cons_of_mem _ hy))
theorem rng_le {lo m j : Nat} (h : j ∈ List.range' lo (m + 1 - lo)) : lo ≤ j ∧ j ≤ m := by
  have := List.mem_range'_1.mp h
  omega
theorem ufr_keep {cnt : Nat} {Mo : Nat → Nat} {D : Nat → Int64} {ok : (Nat → Nat) → Prop} [DecidablePred ok] (h6 : cnt ≤ 6) (hD : ∀ s j, s < cnt → j ≤ 12 → ∃ v : Nat, v ≤ 100000000000000000 ∧ D (13 * s + j) = lN v) : ∀ (n s left e : Nat) (tr : Nat → Nat) (a : Int64 × (Nat → Nat)), s + n = cnt → left ≤ 12 → e ≤ s * 100000000000000000 → (a.1 ≠ -1 ∧ ¬ lN e < a.1) → (∃ k : Nat, k < 2 ^ 62 ∧ a.1 = lN k) → ufr cnt Mo D ok n s left (lN e) tr a = a
  | 0, s, left, e, tr, a, _, _, _, h, _ => by
    unfold ufr
    rw [if_pos h]
  | n + 1, s, left, e, tr, a, hs, hl, he, h, hk => by
    unfold ufr
    refine foldl_fix _ (fun j hj => ?_)
    have hj2 := rng_le hj
    obtain ⟨v, hv, ev⟩ := hD s j (by omega) (by omega)
    rw [ev, lN_add]
    refine ufr_keep h6 hD n (s + 1) (left - j) (e + v) _ a (by omega) (by omega) (by omega) ⟨h.1, fun q => h.2 ?_⟩ hk
    obtain ⟨k, hk1, hk2⟩ := hk
    rw [hk2] at q ⊢
    rw [pk_lLT (by omega) (by omega)] at q ⊢
    omega
theorem ufr_at {cnt : Nat} {Mo : Nat → Nat} {D : Nat → Int64} {ok : (Nat → Nat) → Prop} [DecidablePred ok] (h6 : cnt ≤ 6) (hD : ∀ s j, s < cnt → j ≤ 12 → ∃ v : Nat, v ≤ 100000000000000000 ∧ D (13 * s + j) = lN v) : ∀ (n s left e : Nat) (tr : Nat → Nat) (a : Int64 × (Nat → Nat)), s + n = cnt → left ≤ 12 → e ≤ s * 100000000000000000 → (a.1 = -1 ∨ ∃ k : Nat, k < 2 ^ 62 ∧ a.1 = lN k) → ((ufr cnt Mo D ok n s left (lN e) tr a).1 = -1 ∨ ∃ k : Nat, k < 2 ^ 62 ∧ (ufr cnt Mo D ok n s left (lN e) tr a).1 = lN k) ∧ ufr cnt Mo D ok n s left (lN e) tr a = cfr cnt Mo D ok n s left (lN e) tr a
  | 0, s, left, e, tr, a, hs, _, he, hk => by
    unfold ufr cfr
    refine ⟨?_, rfl⟩
    by_cases h1 : a.1 ≠ -1 ∧ ¬ lN e < a.1
    · rw [if_pos h1]; exact hk
    · rw [if_neg h1]
      by_cases h2 : left = 0 ∧ ok tr
      · rw [if_pos h2]; exact Or.inr ⟨e, by omega, rfl⟩
      · rw [if_neg h2]; exact hk
  | n + 1, s, left, e, tr, a, hs, hl, he, hk => by
    have key : ∀ (l : List Nat), (∀ j, j ∈ l → j ≤ left) → ∀ (a : Int64 × (Nat → Nat)), (a.1 = -1 ∨ ∃ k : Nat, k < 2 ^ 62 ∧ a.1 = lN k) → ((l.foldl (fun a j => ufr cnt Mo D ok n (s + 1) (left - j) (lN e + D (13 * s + j)) (fuN tr s j) a) a).1 = -1 ∨ ∃ k : Nat, k < 2 ^ 62 ∧ (l.foldl (fun a j => ufr cnt Mo D ok n (s + 1) (left - j) (lN e + D (13 * s + j)) (fuN tr s j) a) a).1 = lN k) ∧ l.foldl (fun a j => ufr cnt Mo D ok n (s + 1) (left - j) (lN e + D (13 * s + j)) (fuN tr s j) a) a = l.foldl (fun a j => cfr cnt Mo D ok n (s + 1) (left - j) (lN e + D (13 * s + j)) (fuN tr s j) a) a := by
      intro l
      induction l with
      | nil => intro _ a h; exact ⟨h, rfl⟩
      | cons j r ih =>
        intro hl2 a h
        have hj := hl2 j List.mem_cons_self
        obtain ⟨v, hv, ev⟩ := hD s j (by omega) (by omega)
        obtain ⟨i1, i2⟩ := ufr_at (Mo := Mo) (ok := ok) h6 hD n (s + 1) (left - j) (e + v) (fuN tr s j) a (by omega) (by omega) (by omega) h
        rw [List.foldl_cons, List.foldl_cons, ev, lN_add, ← i2]
        exact ih (fun x hx => hl2 x (List.mem_cons_of_mem _ hx)) _ i1
    obtain ⟨k1, k2⟩ := key (List.range' (if s = cnt - 1 then left else 0) (min left (Mo s) + 1 - (if s = cnt - 1 then left else 0))) (fun j hj => by have := rng_le hj; omega) a hk
    by_cases hp : a.1 ≠ -1 ∧ ¬ lN e < a.1
    · have hk2 : ∃ k : Nat, k < 2 ^ 62 ∧ a.1 = lN k := by
        rcases hk with q | q
        · exact absurd q hp.1
        · exact q
      have e1 := ufr_keep h6 hD (n + 1) s left e tr a hs hl he hp hk2 (Mo := Mo) (ok := ok)
      rw [e1]
      refine ⟨hk, ?_⟩
      unfold cfr
      rw [if_pos hp]
    · unfold ufr cfr
      rw [if_neg hp]
      exact ⟨k1, k2⟩
theorem cfr_cong {cnt : Nat} {Mo Mo' : Nat → Nat} {D D' : Nat → Int64} {ok ok' : (Nat → Nat) → Prop} [DecidablePred ok] [DecidablePred ok'] (hM : ∀ s, s < cnt → Mo s = Mo' s) (hD : ∀ s j, s < cnt → j ≤ Mo s → j ≤ 12 → D (13 * s + j) = D' (13 * s + j)) (hok : ∀ tr tr' : Nat → Nat, (∀ i, i < cnt → tr i = tr' i ∧ tr i ≤ Mo i ∧ tr i ≤ 12) → (ok tr ↔ ok' tr')) : ∀ (n s left : Nat) (dear : Int64) (tr tr' : Nat → Nat) (a a' : Int64 × (Nat → Nat)), s + n = cnt → left ≤ 12 → (∀ i, i < s → tr i = tr' i ∧ tr i ≤ Mo i ∧ tr i ≤ 12) → a.1 = a'.1 → (a.1 ≠ -1 → ∀ i, i < cnt → a.2 i = a'.2 i) → (cfr cnt Mo D ok n s left dear tr a).1 = (cfr cnt Mo' D' ok' n s left dear tr' a').1 ∧ ((cfr cnt Mo D ok n s left dear tr a).1 ≠ -1 → ∀ i, i < cnt → (cfr cnt Mo D ok n s left dear tr a).2 i = (cfr cnt Mo' D' ok' n s left dear tr' a').2 i)
  | 0, s, left, dear, tr, tr', a, a', hs, hl, ht, e1, e2 => by
    have hs' : s = cnt := by omega
    subst hs'
    unfold cfr
    rw [← e1]
    by_cases h1 : a.1 ≠ -1 ∧ ¬ dear < a.1
    · rw [if_pos h1, if_pos h1]; exact ⟨e1, e2⟩
    · rw [if_neg h1, if_neg h1]
      have ho := hok tr tr' ht
      by_cases h2 : left = 0 ∧ ok tr
      · rw [if_pos h2, if_pos ⟨h2.1, ho.mp h2.2⟩]
        exact ⟨rfl, fun _ i hi => (ht i hi).1⟩
      · rw [if_neg h2, if_neg (fun q => h2 ⟨q.1, ho.mpr q.2⟩)]
        exact ⟨e1, e2⟩
  | n + 1, s, left, dear, tr, tr', a, a', hs, hl, ht, e1, e2 => by
    have key : ∀ (l : List Nat), (∀ j, j ∈ l → j ≤ left ∧ j ≤ Mo s) → ∀ (a a' : Int64 × (Nat → Nat)), a.1 = a'.1 → (a.1 ≠ -1 → ∀ i, i < cnt → a.2 i = a'.2 i) → (l.foldl (fun a j => cfr cnt Mo D ok n (s + 1) (left - j) (dear + D (13 * s + j)) (fuN tr s j) a) a).1 = (l.foldl (fun a j => cfr cnt Mo' D' ok' n (s + 1) (left - j) (dear + D' (13 * s + j)) (fuN tr' s j) a) a').1 ∧ ((l.foldl (fun a j => cfr cnt Mo D ok n (s + 1) (left - j) (dear + D (13 * s + j)) (fuN tr s j) a) a).1 ≠ -1 → ∀ i, i < cnt → (l.foldl (fun a j => cfr cnt Mo D ok n (s + 1) (left - j) (dear + D (13 * s + j)) (fuN tr s j) a) a).2 i = (l.foldl (fun a j => cfr cnt Mo' D' ok' n (s + 1) (left - j) (dear + D' (13 * s + j)) (fuN tr' s j) a) a').2 i) := by
      intro l
      induction l with
      | nil => intro _ a a' h1 h2; exact ⟨h1, h2⟩
      | cons j r ih =>
        intro hl2 a a' h1 h2
        have hj := hl2 j List.mem_cons_self
        rw [List.foldl_cons, List.foldl_cons, hD s j (by omega) hj.2 (by omega)]
        obtain ⟨i1, i2⟩ := cfr_cong hM hD hok n (s + 1) (left - j) (dear + D' (13 * s + j)) (fuN tr s j) (fuN tr' s j) a a' (by omega) (by omega) (fun i hi => by
          unfold fuN
          by_cases q : i = s
          · rw [if_pos q, if_pos q, q]; exact ⟨rfl, hj.2, by omega⟩
          · rw [if_neg q, if_neg q]; exact ht i (by omega)) h1 h2
        exact ih (fun x hx => hl2 x (List.mem_cons_of_mem _ hx)) _ _ i1 i2
    unfold cfr
    rw [← e1, ← hM s (by omega)]
    by_cases h1 : a.1 ≠ -1 ∧ ¬ dear < a.1
    · rw [if_pos h1, if_pos h1]; exact ⟨e1, e2⟩
    · rw [if_neg h1, if_neg h1]
      exact key _ (fun j hj => by have := rng_le hj; omega) a a' e1 e2
/-- what is searched -/
def pB (ps : List (Nat × Int64)) (i : Nat) : Nat := ((ps[i]?).getD (0, 0)).1
def pX (step : Int64) (j : Nat) : Int64 := (nI j).toInt64 * step
def pDv (bs : Nat → Bv) (b : Nat) (step : Int64) (j : Nat) : Int64 := if j = 0 then 0 else bdea (bs b).1.1 (bs b).2.1.1 (pX step j)
def pSv (bs : Nat → Bv) (b : Nat) (step : Int64) (j off : Nat) : Int64 := if j = 0 then 0 else tsm 0 (dmix bs [] (dlst bs b (pX step j))) off
def pMv (bs : Nat → Bv) (b : Nat) (step : Int64) (n : Nat) : Nat := min n ((bspa bs (bs b)).toInt.toNat / step.toInt.toNat)
def pH (bs : Nat → Bv) (ps : List (Nat × Int64)) (step : Int64) (tr : Nat → Nat) (off : Nat) : Int64 := (List.range ps.length).foldl (fun a i => a + pSv bs (pB ps i) step (tr i) off) 0
def pR (bs : Nat → Bv) (ps : List (Nat × Int64)) (rs : List (List Lf)) (ml step : Int64) (n : Nat) : Int64 × (Nat → Nat) := cfr ps.length (fun i => pMv bs (pB ps i) step n) (fun z => pDv bs (pB ps (z / 13)) step (z % 13)) (fun tr => fbrk (lans (pH bs ps step tr) ml) 0 rs = -1) ps.length 0 n 0 (fun _ => 0) (-1, fun _ => 0)
def pT (bs : Nat → Bv) (n : Nat) (ps : List (Nat × Int64)) : List Int32 := ps.flatMap (fun q => bspaT bs (bs q.1) ++ (List.range n).flatMap (fun _ => bdeaT (bs q.1).1.1))
def pW (bs : Nat → Bv) (step : Int64) (n : Nat) (a : List (Nat × Int64) × Wn) (ps : List (Nat × Int64)) : List (Nat × Int64) × Wn := ps.foldl (fun a q => if pMv bs q.1 step n = 0 then a else (dlst bs q.1 (pX step (pMv bs q.1 step n)), dmix bs [] (dlst bs q.1 (pX step (pMv bs q.1 step n))))) a
def cst (ml : Int64) (step : Int32) : Int32 := if isml ml then (if 0 ≤ step then (if step = 0 then 5 else if ml - ml / step.toInt64 * step.toInt64 = 0 then (if ml / step.toInt64 ≤ 12 then 0 else 1) else 1) else 1) else 1
def nst (ml : Int64) (step : Int32) : Nat := (ml / step.toInt64).toInt32.toNatClampNeg
def sPlanOk (l : Int32) (ml : Int64) (step : Int32) (c : Cs) : Int64 × Cs := match c with
  | (nb, bs, ro, lb, ps, ac, jr, bo, mo, gi, tr, tp, wy, wh, tc, st, ds, dw, bf, ba, bc) => if 0 ≤ (pR bs ps ((lb[l.toNatClampNeg]?).getD ([], 0)).1 ml step.toInt64 (nst ml step)).1 then ((pR bs ps ((lb[l.toNatClampNeg]?).getD ([], 0)).1 ml step.toInt64 (nst ml step)).1, (nb, bs, ro, lb, ps, ac, jr, bo, mo, gi, tr, tp, wy, wh, tapp 200 tc (pT bs (nst ml step) ps), pset (pR bs ps ((lb[l.toNatClampNeg]?).getD ([], 0)).1 ml step.toInt64 (nst ml step)).2 ps.length step.toInt64, (pW bs step.toInt64 (nst ml step) (ds, dw) ps).1, (pW bs step.toInt64 (nst ml step) (ds, dw) ps).2, bf, ba, bc)) else (-14, (nb, bs, ro, lb, ps, ac, jr, bo, mo, gi, tr, tp, wy, wh, tapp 200 tc (pT bs (nst ml step) ps), st, (pW bs step.toInt64 (nst ml step) (ds, dw) ps).1, (pW bs step.toInt64 (nst ml step) (ds, dw) ps).2, bf, ba, bc))
def sPlan (l : Int32) (ml : Int64) (step : Int32) (c : Cs) : Int64 × Cs := match c with
  | (nb, bs, ro, lb, ps, ac, jr, bo, mo, gi, tr, tp, wy, wh, tc, st, ds, dw, bf, ba, bc) => if fst0 (cst ml step) (lkl lb.length l) = 0 then (if nI ps.length = 0 then (-10, (nb, bs, ro, lb, ps, ac, jr, bo, mo, gi, tr, tp, wy, wh, tc, st, ds, dw, bf, ba, bc)) else if nI ps.length ≤ 6 then (if pcsk bs ps = 0 then sPlanOk l ml step (nb, bs, ro, lb, ps, ac, jr, bo, mo, gi, tr, tp, wy, wh, tc, st, ds, dw, bf, ba, bc) else (-9, (nb, bs, ro, lb, ps, ac, jr, bo, mo, gi, tr, tp, wy, wh, tc, st, ds, dw, bf, ba, bc))) else (-12, (nb, bs, ro, lb, ps, ac, jr, bo, mo, gi, tr, tp, wy, wh, tc, st, ds, dw, bf, ba, bc))) else ((-(fst0 (cst ml step) (lkl lb.length l))).toInt64, (nb, bs, ro, lb, ps, ac, jr, bo, mo, gi, tr, tp, wy, wh, tc, st, ds, dw, bf, ba, bc))
/-- a good number of steps -/
theorem cst_0 {ml : Int64} {step : Int32} (h : cst ml step = 0) : ∃ sn mn : Nat, 0 < sn ∧ sn < 2 ^ 31 ∧ step = nI sn ∧ step.toInt64 = lN sn ∧ ml = lN mn ∧ 1 ≤ mn ∧ mn ≤ 1000000000 ∧ mn = nst ml step * sn ∧ nst ml step ≤ 12 ∧ 1 ≤ nst ml step ∧ ml / step.toInt64 = lN (nst ml step) ∧ (ml / step.toInt64).toInt32 = nI (nst ml step) ∧ isml ml ∧ 0 ≤ step ∧ step ≠ 0 ∧ step.toInt64 ≠ 0 ∧ ml - ml / step.toInt64 * step.toInt64 = 0 ∧ ml / step.toInt64 ≤ 12 := by
  unfold cst at h
  by_cases h1 : isml ml
  · rw [if_pos h1] at h
    by_cases h2 : 0 ≤ step
    · rw [if_pos h2] at h
      by_cases h3 : step = 0
      · rw [if_pos h3] at h; exact absurd h (by decide)
      · rw [if_neg h3] at h
        by_cases h4 : ml - ml / step.toInt64 * step.toInt64 = 0
        · rw [if_pos h4] at h
          by_cases h5 : ml / step.toInt64 ≤ 12
          · obtain ⟨sn, hs, rfl⟩ := nI_of (show ¬ step < 0 from fun q => by rw [Int32.lt_iff_toInt_lt] at q; rw [Int32.le_iff_toInt_le] at h2; omega)
            have h0 : 0 < sn := by
              rcases Nat.eq_zero_or_pos sn with q | q
              · exact absurd (by rw [q]; rfl) h3
              · exact q
            have m3 := isml_i h1
            obtain ⟨e1, e2⟩ := lN_of (show 0 ≤ ml.toInt by omega)
            obtain ⟨mn, hmn⟩ : ∃ mn, mn = ml.toInt.toNat := ⟨_, rfl⟩
            rw [← hmn] at e1 e2
            have b1 : 1 ≤ mn ∧ mn ≤ 1000000000 := by omega
            have h6 := i64_0 h3
            have es : (nI sn).toInt64 = lN sn := nI_64 hs
            have ed : ml / (nI sn).toInt64 = lN (mn / sn) := by rw [e1, es]; exact pk_lDiv (by omega) h0 (by omega)
            have em : lN (mn % sn) = 0 := by
              rw [← h4]
              conv => rhs; rw [e1, es]
              exact (pk_lRem (by omega) h0 (by omega)).symm
            have hmod : mn % sn = 0 := by
              have hlt := Nat.mod_lt mn h0
              exact (pk_lEQ (b := 0) (by omega) (by omega)).mp em
            have hd12 : mn / sn ≤ 12 := by
              have : lN (mn / sn) ≤ lN 12 := by rw [← ed]; exact h5
              have hle : mn / sn ≤ mn := Nat.div_le_self _ _
              exact (pk_lLE (by omega) (by omega)).mp this
            have e32 : (ml / (nI sn).toInt64).toInt32 = nI (mn / sn) := by
              rw [ed]
              exact lN_i _
            have en : nst ml (nI sn) = mn / sn := by unfold nst; rw [e32, nI_clamp (by omega)]
            have hmul : mn = mn / sn * sn := by
              have := Nat.div_add_mod mn sn
              rw [hmod, Nat.add_zero, Nat.mul_comm] at this
              exact this.symm
            have h1n : 1 ≤ mn / sn := by
              rcases Nat.eq_zero_or_pos (mn / sn) with q | q
              · rw [q, Nat.zero_mul] at hmul; omega
              · exact q
            rw [en]
            exact ⟨sn, mn, h0, hs, rfl, es, e1, b1.1, b1.2, hmul, hd12, h1n, ed, e32, h1, h2, h3, h6, h4, h5⟩
          · rw [if_neg h5] at h; exact absurd h (by decide)
        · rw [if_neg h4] at h; exact absurd h (by decide)
    · rw [if_neg h2] at h; exact absurd h (by decide)
  · rw [if_neg h1] at h; exact absurd h (by decide)
theorem cst_n {ml : Int64} {step : Int32} (h : cst ml step ≠ 0) : cst ml step = 1 ∨ cst ml step = 5 := by
  unfold cst at h ⊢
  repeat' split
  all_goals simp_all
theorem tsm_out {st j : Nat} (h1 : ¬ (st ≤ j ∧ j < st + 48)) : ∀ l : Wn, tsm st l j = 0
  | [] => rfl
  | q :: r => by
    show tk st q j + tsm st r j = 0
    rw [tsm_out h1 r]
    unfold tk
    have a1 : q.1.toNatClampNeg % 16 < 16 := Nat.mod_lt _ (by decide)
    have a2 : q.1.toNatClampNeg / 16 % 16 < 16 := Nat.mod_lt _ (by decide)
    have a3 : q.1.toNatClampNeg / 256 % 16 < 16 := Nat.mod_lt _ (by decide)
    rw [if_neg (by omega), if_neg (by omega), if_neg (by omega)]
    rfl
theorem ite_iff64 {P R : Prop} [Decidable P] [Decidable R] (h : P ↔ R) (a b : Int64) : (if P then a else b) = if R then a else b := by
  by_cases e : P
  · rw [if_pos e, if_pos (h.mp e)]
  · rw [if_neg e, if_neg (fun q => e (h.mpr q))]
theorem tsm_sh (st off : Nat) : ∀ l : Wn, tsm st l (st + off) = tsm 0 l off
  | [] => rfl
  | q :: r => by
    show tk st q (st + off) + tsm st r (st + off) = tk 0 q off + tsm 0 r off
    rw [tsm_sh st off r]
    congr 1
    unfold tk
    rw [ite_iff64 (show st + off = st + 32 + q.1.toNatClampNeg % 16 ↔ off = 0 + 32 + q.1.toNatClampNeg % 16 by omega), ite_iff64 (show st + off = st + 16 + q.1.toNatClampNeg / 16 % 16 ↔ off = 0 + 16 + q.1.toNatClampNeg / 16 % 16 by omega), ite_iff64 (show st + off = st + q.1.toNatClampNeg / 256 % 16 ↔ off = 0 + q.1.toNatClampNeg / 256 % 16 by omega)]
/-- DEAR stays small -/
theorem bdea_N {k c : Int32} {x : Nat} (hc : 0 ≤ c.toInt ∧ c.toInt ≤ 1000000) (hx : x ≤ 12000000000) : ∃ v : Nat, v ≤ 100000000000000000 ∧ bdea k c (lN x) = lN v := by
  obtain ⟨n, hn, rfl⟩ := nI_of (show ¬ c < 0 from fun q => by rw [Int32.lt_iff_toInt_lt] at q; simp at q; omega)
  rw [nI_toInt hn] at hc
  have hn2 : n ≤ 1000000 := by omega
  have e : (nI n).toInt64 * lN x = lN (n * x) := by rw [nI_64 hn, lN_mul]
  have hb : n * x ≤ 1000000 * 12000000000 := Nat.mul_le_mul hn2 hx
  unfold bdea
  rw [e]
  by_cases h2 : k = 2
  · rw [if_pos h2]
    have e10 : lN (n * x) / 10 = lN (n * x / 10) := pk_lDiv (b := 10) (by omega) (by decide) (by decide)
    rw [e10, lN_add]
    exact ⟨_, by omega, rfl⟩
  · rw [if_neg h2]
    by_cases h5 : k = 5
    · rw [if_pos h5]
      have e2 : (2 : Int64) * lN (n * x) = lN (2 * (n * x)) := lN_mul 2 _
      rw [e2]
      exact ⟨_, by omega, rfl⟩
    · rw [if_neg h5]
      exact ⟨_, by omega, rfl⟩
