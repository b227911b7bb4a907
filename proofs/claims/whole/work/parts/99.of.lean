/-! What is drawn, and what becomes of it: sums, lengths. -/
def cods (l : Wn) : List Int32 := l.map (fun q => q.1)
theorem cods_mem {l : Wn} {p : Int32} : p ∈ cods l ↔ ∃ q, q ∈ l ∧ q.1 = p := by
  unfold cods
  rw [List.mem_map]
theorem wabs_iff {l : Wn} (hr : wris l) (p : Int32) : wabs l p = true ↔ p ∉ cods l := by
  unfold wabs
  rw [cods_mem]
  simp only [Bool.not_eq_true', decide_eq_false_iff_not]
  constructor
  · rintro h ⟨q, hq, rfl⟩
    exact h (by rw [wfind q.1 l q hr hq rfl]; rfl)
  · intro h e
    cases hf : l[widx p l]? with
    | none => rw [hf] at e; cases e
    | some q =>
      rw [hf] at e
      simp only [Option.map_some, Option.some.injEq] at e
      exact h ⟨q, List.mem_of_getElem? hf, e⟩
theorem wadd_cin {m : Wn} (hr : wris m) {p : Int32} (x : Int64) (h : p ∈ cods m) : cods (wadd p x m) = cods m := by
  obtain ⟨q, hq, e⟩ := cods_mem.mp h
  have hf := wfind p m q hr hq e
  rw [wadd_pre p x m q hf e]
  unfold cods
  rw [List.map_set]
  exact set_same (by rw [List.getElem?_map, hf]; rfl)
theorem wadd_cout {m : Wn} (hr : wris m) {p : Int32} (x : Int64) (h : p ∉ cods m) : cods (wadd p x m) = (cods m).take (widx p m) ++ p :: (cods m).drop (widx p m) := by
  rw [wadd_abs p x m (fun q hq e => h (cods_mem.mpr ⟨q, List.mem_of_getElem? hq, e⟩))]
  unfold cods
  rw [List.map_append, List.map_cons, List.map_take, List.map_drop]
theorem wadd_cmem {m : Wn} (hr : wris m) {p p' : Int32} (x : Int64) : p' ∈ cods (wadd p x m) ↔ p' = p ∨ p' ∈ cods m := by
  by_cases h : p ∈ cods m
  · rw [wadd_cin hr x h]
    constructor
    · exact Or.inr
    · rintro (rfl | e)
      · exact h
      · exact e
  · rw [wadd_cout hr x h, List.mem_append, List.mem_cons]
    constructor
    · rintro (e | e | e)
      · exact Or.inr (List.mem_of_mem_take e)
      · exact Or.inl e
      · exact Or.inr (List.mem_of_mem_drop e)
    · rintro (e | e)
      · exact Or.inr (Or.inl e)
      · rw [← List.take_append_drop (widx p m) (cods m), List.mem_append] at e
        rcases e with e | e
        · exact Or.inl e
        · exact Or.inr (Or.inr e)
/-- n has what l has and what m has -/
def wmer (l m n : Wn) : Prop := wris m ∧ wris n ∧ n.length = wwith l m ∧ ∀ p, p ∈ cods n ↔ p ∈ cods l ∨ p ∈ cods m
theorem wwith_c {l m : Wn} : wwith l m = l.length + (cods m).countP (fun p => wabs l p) := by
  unfold wwith cods
  rw [List.countP_map]
  rfl
theorem wmer.add {l m n : Wn} (hl : wris l) (h : wmer l m n) (p : Int32) (x y : Int64) : wmer l (wadd p x m) (wadd p y n) := by
  obtain ⟨h1, h2, h3, h4⟩ := h
  refine ⟨wris_wadd _ _ _ h1, wris_wadd _ _ _ h2, ?_, fun p' => ?_⟩
  · have ln : ∀ z : Wn, z.length = (cods z).length := fun z => by unfold cods; rw [List.length_map]
    rw [wwith_c] at h3 ⊢
    by_cases hm : p ∈ cods m
    · have hn : p ∈ cods n := (h4 p).mpr (Or.inr hm)
      rw [ln, wadd_cin h2 y hn, wadd_cin h1 x hm, ← ln]; exact h3
    · rw [wadd_cout h1 x hm, List.countP_append, List.countP_cons]
      have hsum : (cods m).countP (fun p => wabs l p) = ((cods m).take (widx p m)).countP (fun p => wabs l p) + ((cods m).drop (widx p m)).countP (fun p => wabs l p) := by
        conv => lhs; rw [← List.take_append_drop (widx p m) (cods m)]
        rw [List.countP_append]
      by_cases hpl : p ∈ cods l
      · have hn : p ∈ cods n := (h4 p).mpr (Or.inl hpl)
        rw [ln, wadd_cin h2 y hn, ← ln, if_neg (fun e => (wabs_iff hl p).mp e hpl)]
        omega
      · have hn : p ∉ cods n := fun e => by
          rcases (h4 p).mp e with e | e
          · exact hpl e
          · exact hm e
        rw [ln, wadd_cout h2 y hn, if_pos ((wabs_iff hl p).mpr hpl)]
        have : ((cods n).take (widx p n) ++ p :: (cods n).drop (widx p n)).length = (cods n).length + 1 := by
          rw [List.length_append, List.length_cons, List.length_take, List.length_drop]; have := widx_le p n; rw [ln] at this; omega
        rw [this, ← ln]
        omega
  · rw [wadd_cmem h2, wadd_cmem h1, h4]
    constructor
    · rintro (e | e | e)
      · exact Or.inr (Or.inl e)
      · exact Or.inl e
      · exact Or.inr (Or.inr e)
    · rintro (e | e | e)
      · exact Or.inr (Or.inl e)
      · exact Or.inl e
      · exact Or.inr (Or.inr e)
theorem wmer.puts {l : Wn} (hl : wris l) : ∀ (zs m n : Wn), wmer l m n → wmer l (wputs m zs) (wputs n zs)
  | [], _, _, h => h
  | z :: r, m, n, h => by
    show wmer l (wputs (if z.2 ≤ 0 then m else wadd z.1 z.2 m) r) (wputs (if z.2 ≤ 0 then n else wadd z.1 z.2 n) r)
    apply wmer.puts hl r
    by_cases c : z.2 ≤ 0
    · rw [if_pos c, if_pos c]; exact h
    · rw [if_neg c, if_neg c]; exact h.add hl z.1 z.2 z.2
theorem wmer.mix {l : Wn} (hl : wris l) (bs : Nat → Bv) : ∀ (ds : List (Nat × Int64)) (m n : Wn), wmer l m n → wmer l (dmix bs m ds) (dmix bs n ds)
  | [], _, _, h => h
  | q :: r, m, n, h => wmer.mix hl bs r _ _ (wmer.puts hl _ _ _ h)
theorem dmix_with {l : Wn} (hl : wris l) (bs : Nat → Bv) (ds : List (Nat × Int64)) : (dmix bs l ds).length = wwith l (dmix bs [] ds) := (wmer.mix hl bs ds [] l ⟨trivial, hl, by rw [wwith_c]; rfl, fun p => by simp [cods]⟩).2.2.1
theorem dmix_cods {l : Wn} (hl : wris l) (bs : Nat → Bv) (ds : List (Nat × Int64)) (p : Int32) : p ∈ cods (dmix bs l ds) → p ∈ cods l ∨ p ∈ cods (dmix bs [] ds) := ((wmer.mix hl bs ds [] l ⟨trivial, hl, by rw [wwith_c]; rfl, fun p => by simp [cods]⟩).2.2.2 p).mp
/-! lengths only grow -/
theorem wadd_ge (p : Int32) (x : Int64) : ∀ l : Wn, l.length ≤ (wadd p x l).length
  | [] => Nat.zero_le _
  | q :: r => by
    simp only [wadd]
    split
    · simp only [List.length_cons]; have := wadd_ge p x r; omega
    · split
      · simp
      · simp
theorem wputs_ge : ∀ (zs acc : Wn), acc.length ≤ (wputs acc zs).length
  | [], acc => Nat.le_refl _
  | z :: r, acc => by
    show acc.length ≤ (wputs (if z.2 ≤ 0 then acc else wadd z.1 z.2 acc) r).length
    have h1 := wputs_ge r (if z.2 ≤ 0 then acc else wadd z.1 z.2 acc)
    split at h1
    · rename_i c; rw [if_pos c]; exact h1
    · rename_i c; rw [if_neg c]; exact Nat.le_trans (wadd_ge _ _ _) h1
theorem dmix_ge (bs : Nat → Bv) : ∀ (ds : List (Nat × Int64)) (acc : Wn), acc.length ≤ (dmix bs acc ds).length
  | [], _ => Nat.le_refl _
  | q :: r, acc => Nat.le_trans (wputs_ge _ _) (dmix_ge bs r _)
theorem wroomy_of {bs : Nat → Bv} {acc : Wn} {ds : List (Nat × Int64)} {n : Nat} (h : (dmix bs acc ds).length < n) : wroomy bs acc ds n := by
  intro j q hq i z hz
  refine Or.inl (Nat.lt_of_le_of_lt ?_ h)
  have e1 : dmix bs acc ds = dmix bs (dmix bs acc (ds.take (j + 1))) (ds.drop (j + 1)) := by rw [← dmix_app, List.take_append_drop]
  have e2 : dmix bs acc (ds.take (j + 1)) = wputs (dmix bs acc (ds.take j)) (wgng (bs q.1).2.1.2.2.2 (wshr q.2 (bs q.1).2.1.2.2.2)) := by rw [take_snoc hq, dmix_snoc]
  rw [e1]
  refine Nat.le_trans ?_ (dmix_ge bs _ _)
  rw [e2]
  generalize wgng (bs q.1).2.1.2.2.2 (wshr q.2 (bs q.1).2.1.2.2.2) = zs
  have e3 : wputs (dmix bs acc (ds.take j)) zs = wputs (wputs (dmix bs acc (ds.take j)) (zs.take i)) (zs.drop i) := by
    conv => lhs; rw [← List.take_append_drop i zs]
    unfold wputs; rw [List.foldl_append]
  rw [e3]
  exact wputs_ge _ _
/-! sums -/
theorem nT_add (p : Int32) (x : Int64) (hx : 0 < x.toInt) : ∀ l : Wn, wpos l → nT l + x.toInt.toNat < 2 ^ 62 → wpos (wadd p x l) ∧ nT (wadd p x l) = nT l + x.toInt.toNat
  | [], _, _ => ⟨fun q hq => by simp only [wadd, List.mem_singleton] at hq; rw [hq]; exact hx, by simp [wadd, nT]⟩
  | q :: r, h, hb => by
    have hq := h q List.mem_cons_self
    simp only [nT] at hb
    obtain ⟨i1, i2⟩ := nT_add p x hx r h.tl (by omega)
    simp only [wadd]
    by_cases c1 : q.1 < p
    · rw [if_pos c1]
      refine ⟨fun z hz => ?_, by simp only [nT]; omega⟩
      rcases List.mem_cons.mp hz with rfl | hz
      · exact hq
      · exact i1 z hz
    · rw [if_neg c1]
      by_cases c2 : q.1 = p
      · rw [if_pos c2]
        have e : (q.2 + x).toInt = q.2.toInt + x.toInt := by
          rw [Int64.toInt_add, Int.bmod_eq_of_le (by omega) (by omega)]
        refine ⟨fun z hz => ?_, by simp only [nT]; rw [e]; omega⟩
        rcases List.mem_cons.mp hz with rfl | hz
        · show 0 < (q.2 + x).toInt
          rw [e]; omega
        · exact h.tl z hz
      · rw [if_neg c2]
        refine ⟨fun z hz => ?_, by simp only [nT]; omega⟩
        rcases List.mem_cons.mp hz with rfl | hz
        · exact hx
        · exact h z hz
theorem nT_puts : ∀ (l : Wn) (s : List Int64) (acc : Wn), s.length = l.length → wpos acc → (∀ v, v ∈ s → 0 ≤ v.toInt) → nT acc + isum s < 2 ^ 62 → wpos (wputs acc (wgng l s)) ∧ nT (wputs acc (wgng l s)) = nT acc + isum s
  | [], [], acc, _, h, _, _ => ⟨h, rfl⟩
  | [], _ :: _, _, h, _, _, _ => by simp at h
  | _ :: _, [], _, h, _, _, _ => by simp at h
  | q :: r, v :: s, acc, hl, h, hv, hb => by
    simp only [isum] at hb ⊢
    have hv0 := hv v List.mem_cons_self
    show wpos (wputs (if v ≤ 0 then acc else wadd q.1 v acc) (wgng r s)) ∧ nT (wputs (if v ≤ 0 then acc else wadd q.1 v acc) (wgng r s)) = _
    by_cases c : v ≤ 0
    · rw [if_pos c]
      have := le0_toInt.mp c
      obtain ⟨a, b⟩ := nT_puts r s acc (by simpa using hl) h (fun z hz => hv z (List.mem_cons_of_mem _ hz)) (by omega)
      exact ⟨a, by omega⟩
    · rw [if_neg c]
      have hv1 : 0 < v.toInt := by
        have : ¬ v.toInt ≤ 0 := fun z => c (le0_toInt.mpr z)
        omega
      obtain ⟨a1, b1⟩ := nT_add q.1 v hv1 acc h (by omega)
      obtain ⟨a, b⟩ := nT_puts r s (wadd q.1 v acc) (by simpa using hl) a1 (fun z hz => hv z (List.mem_cons_of_mem _ hz)) (by omega)
      exact ⟨a, by omega⟩
def dsum : List (Nat × Int64) → Nat
  | [] => 0
  | q :: r => q.2.toInt.toNat + dsum r
/-- a draw that a vessel can give -/
def Dgo (bs : Nat → Bv) (nb : Nat) (q : Nat × Int64) : Prop := q.1 < nb ∧ 0 < q.2.toInt ∧ q.2.toInt ≤ (nT (bs q.1).2.1.2.2.2 : Int)
def Iwp (bs : Nat → Bv) (nb : Nat) : Prop := ∀ b, b < nb → wpos (bs b).2.1.2.2.2 ∧ nT (bs b).2.1.2.2.2 ≤ 1000000000
theorem nT_mix {bs : Nat → Bv} {nb : Nat} (hI : Iwp bs nb) : ∀ (ds : List (Nat × Int64)) (acc : Wn), (∀ q, q ∈ ds → Dgo bs nb q) → wpos acc → nT acc + dsum ds < 2 ^ 62 → wpos (dmix bs acc ds) ∧ nT (dmix bs acc ds) = nT acc + dsum ds
  | [], acc, _, h, _ => ⟨h, rfl⟩
  | q :: r, acc, hd, h, hb => by
    obtain ⟨d1, d2, d3⟩ := hd q List.mem_cons_self
    obtain ⟨w1, w2⟩ := hI q.1 d1
    obtain ⟨s1, s2, s3, s4, s5⟩ := wshr_all w1 w2 (Int.le_of_lt d2) d3
    simp only [dsum] at hb ⊢
    have hpos : ∀ v, v ∈ wshr q.2 (bs q.1).2.1.2.2.2 → 0 ≤ v.toInt := fun v hv => by
      obtain ⟨j, hj⟩ := List.getElem?_of_mem hv
      have hjl := (List.getElem?_eq_some_iff.mp hj).1
      rw [wshr_len] at hjl
      obtain ⟨y, hy⟩ := getElem?_lt hjl
      exact (s1 j y v hy hj).1
    obtain ⟨a1, b1⟩ := nT_puts (bs q.1).2.1.2.2.2 (wshr q.2 (bs q.1).2.1.2.2.2) acc (wshr_len _ _) h hpos (by omega)
    obtain ⟨a, b⟩ := nT_mix hI r (wputs acc (wgng (bs q.1).2.1.2.2.2 (wshr q.2 (bs q.1).2.1.2.2.2))) (fun z hz => hd z (List.mem_cons_of_mem _ hz)) a1 (by omega)
    exact ⟨a, by rw [show dmix bs acc (q :: r) = dmix bs (wputs acc (wgng (bs q.1).2.1.2.2.2 (wshr q.2 (bs q.1).2.1.2.2.2))) r from rfl, b]; omega⟩
theorem Dgo.dok {bs : Nat → Bv} {nb : Nat} {ds : List (Nat × Int64)} (hI : Iwp bs nb) (h6 : I60 nb bs) (hd : ∀ q, q ∈ ds → Dgo bs nb q) (hx : ∀ (i j : Nat) (q r : Nat × Int64), ds[i]? = some q → ds[j]? = some r → i ≠ j → q.1 ≠ r.1) : Dok bs nb ds ∧ Dsk bs nb ds := by
  refine ⟨⟨fun q hq => ?_, hx⟩, fun q hq => ?_⟩
  · obtain ⟨d1, d2, d3⟩ := hd q hq
    obtain ⟨w1, w2⟩ := hI q.1 d1
    obtain ⟨s1, s2, s3, s4, s5⟩ := wshr_all w1 w2 (Int.le_of_lt d2) d3
    exact ⟨d1, (h6 q.1 d1).1, s2⟩
  · obtain ⟨d1, d2, d3⟩ := hd q hq
    obtain ⟨w1, w2⟩ := hI q.1 d1
    obtain ⟨s1, s2, s3, s4, s5⟩ := wshr_all w1 w2 (Int.le_of_lt d2) d3
    refine ⟨d1, fun _ e => ?_, s1⟩
    rw [wsum_lN _ w1] at e
    have := (pk_lEQ (b := 0) (by omega) (by decide)).mp e
    omega
/-! MOST and SPARE as numbers -/
theorem tdiv_nI {s d : Nat} (hs : s ≤ 1000000000) (hd : 0 < d) (hd2 : d < 2 ^ 31) : nI s / nI d = nI (s / d) := pk_div (by omega) hd hd2
theorem s_nI {s : Int32} (h : 1 ≤ s.toInt ∧ s.toInt ≤ 1000000000) : ∃ n : Nat, n ≤ 1000000000 ∧ 1 ≤ n ∧ s = nI n := ⟨s.toInt.toNat, by omega, by omega, Int32.toInt_inj.mp (by rw [nI_toInt (by omega)]; omega)⟩
theorem nI_64 {n : Nat} (h : n < 2 ^ 31) : (nI n).toInt64 = lN n := nI_l h
theorem zmaxl_N {a b : Nat} (ha : a < 2 ^ 62) (hb : b < 2 ^ 62) : zmaxl (lN a - lN b) 0 = lN (a - b) := by
  unfold zmaxl
  by_cases c : b ≤ a
  · rw [lN_sub c]
    by_cases c2 : a - b = 0
    · rw [c2, if_neg (by decide)]; rfl
    · rw [if_pos (show (0 : Int64) < lN (a - b) from (pk_lLT (a := 0) (b := a - b) (by decide) (by omega)).mpr (by omega))]
  · have e : a - b = 0 := by omega
    rw [e]
    have : (lN a - lN b).toInt = (a : Int) - b := by
      rw [Int64.toInt_sub, pk_lT (by omega), pk_lT (by omega), Int.bmod_eq_of_le (by omega) (by omega)]
    rw [if_neg (fun z => by
      rw [Int64.lt_iff_toInt_lt, this] at z
      have e0 : (0 : Int64).toInt = 0 := rfl
      omega)]
    rfl
theorem vt_N {x : Int32 × Int32} (hk : x.1 ≠ 5) (hs : 1 ≤ x.2.toInt ∧ x.2.toInt ≤ 1000000000) : ∃ n : Nat, n ≤ 1000000000 ∧ vt x = lN n := by
  obtain ⟨s, s1, s2, e⟩ := s_nI hs
  unfold vt
  rw [e]
  have hd : nI s - nI s / 50 = nI (s - s / 50) := by
    rw [show (50 : Int32) = nI 50 from rfl, tdiv_nI s1 (by decide) (by decide), pk_sub (by omega)]
  split
  · rw [hd, nI_64 (by omega)]; exact ⟨_, by omega, rfl⟩
  · split
    · rw [hd, nI_64 (by omega), show (10 : Int64) = lN 10 from rfl, zmaxl_N (by omega) (by decide)]; exact ⟨_, by omega, rfl⟩
    · rw [nI_64 (by omega)]; exact ⟨_, s1, rfl⟩
theorem vs_N {x : Int32 × Int32} {T : Nat} (hk : x.1 ≠ 5) (hs : 1 ≤ x.2.toInt ∧ x.2.toInt ≤ 1000000000) (hT : T ≤ 1000000000) : ∃ n : Nat, n ≤ T ∧ vs x (lN T) = lN n := by
  obtain ⟨s, s1, s2, e⟩ := s_nI hs
  unfold vs
  rw [e]
  have h1 : (nI s / 1000).toInt64 = lN (s / 1000) := by rw [show (1000 : Int32) = nI 1000 from rfl, tdiv_nI s1 (by decide) (by decide), nI_64 (by omega)]
  have h2 : (nI s / 2000).toInt64 = lN (s / 2000) := by rw [show (2000 : Int32) = nI 2000 from rfl, tdiv_nI s1 (by decide) (by decide), nI_64 (by omega)]
  split
  · rw [h1, zmaxl_N (by omega) (by omega)]; exact ⟨_, by omega, rfl⟩
  · split
    · rw [h1, h2, zmaxl_N (by omega) (by omega), zmaxl_N (by omega) (by omega)]; exact ⟨_, by omega, rfl⟩
    · exact ⟨T, Nat.le_refl _, rfl⟩
