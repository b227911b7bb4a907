/-! Tally. -/
def zTa (M : Zm) (g : Zg) (o t n : Nat) (S : Nat → Int64) (C : Nat → Nat) (cnt : Nat) (tot : Int64) : Prop := zO M t 9 ∧ g.1 t = o ∧ zm_i M t 2 = nI cnt ∧ cnt ≤ 6 ∧ zm_j M t 3 = tot ∧ n ≤ 1000 ∧ ∃ sa ca, zm_r M t 0 = some sa ∧ zm_r M t 1 = some ca ∧ zO M sa 15 ∧ zm_l M sa = 48 * n ∧ g.1 sa = o ∧ zO M ca 14 ∧ zm_l M ca = 6 ∧ g.1 ca = o ∧ (∀ i, i < 48 * n → zm_j M sa i = S i) ∧ (∀ i, i < 6 → zm_i M ca i = nI (48 * C i))
theorem zTa.fr {M M' : Zm} {g g' : Zg} {T : Nat → Prop} {o t n : Nat} {S : Nat → Int64} {C : Nat → Nat} {cnt : Nat} {tot : Int64} (h : zTa M g o t n S C cnt tot) (f : zFo M g M' g' T) (n1 : ¬ T o) : zTa M' g' o t n S C cnt tot := by
  obtain ⟨h1, h2, h3, h4, h5, h6, sa, ca, r1, r2, r3, r4, r5, r6, r7, r8, r9, r10⟩ := h
  have e1 := f.at h1.1 h2 n1
  have e2 := f.at r3.1 r5 n1
  have e3 := f.at r6.1 r8 n1
  exact ⟨f.O h1, f.own h1.1 h2, by rw [e1.1]; exact h3, h4, by rw [e1.2.1]; exact h5, h6, sa, ca, by rw [e1.2.2]; exact r1, by rw [e1.2.2]; exact r2, f.O r3, (f.A (show zA M sa 15 (48 * n) from ⟨r3, r4⟩)).2, f.own r3.1 r5, f.O r6, (f.A (show zA M ca 14 6 from ⟨r6, r7⟩)).2, f.own r6.1 r8, fun i hi => by rw [e2.2.1]; exact r9 i hi, fun i hi => by rw [e3.1]; exact r10 i hi⟩
def thav (S : Nat → Int64) (C : Nat → Nat) (cnt off : Nat) : Int64 := (List.range cnt).foldl (fun a i => a + S (48 * C i + off)) 0
theorem range_snoc (n : Nat) : List.range (n + 1) = List.range n ++ [n] := List.range_succ
theorem zTa_having {M : Zm} {g : Zg} {o t n : Nat} {S : Nat → Int64} {C : Nat → Nat} {cnt : Nat} {tot : Int64} (h : zTa M g o t n S C cnt tot) (hC : ∀ i, i < cnt → C i < n) {d v : Nat} (hd : 1 ≤ d ∧ d ≤ 3) (hv : v ≤ 15) : zf_X8_having M (some t) (nI d) (nI v) = some (M, thav S C cnt (16 * (d - 1) + v)) := by
  have hz : zev (zf_X8_having M (some t) (nI d) (nI v)) (fun y => y = (M, thav S C cnt (16 * (d - 1) + v))) := by
    obtain ⟨h1, h2, h3, h4, h5, h6, sa, ca, r1, r2, r3, r4, r5, r6, r7, r8, r9, r10⟩ := h
    have eo : (nI d - 1) * 16 + nI v = nI (16 * (d - 1) + v) := by
      rw [show nI d - 1 = nI (d - 1) from pk_sub (b := 1) (by omega)]
      rw [show nI (d - 1) * 16 = nI ((d - 1) * 16) from pk_mul _ 16, nI_add, Nat.mul_comm]
    simp only [zf_X8_having, zev_b1, zev_bd, zev_some, zev_gi, zev_gj, zev_gr, zev_pi, zev_pz, zev_pj, zev_pr, zev_rc, zev_cc, zev_b0, zev_bo, true_and, and_true, eo]
    refine zev_up (τ := Zm × Int64 × Int32) (fun i (z : Zm × Int64 × Int32) => z = (M, thav S C i (16 * (d - 1) + v), nI i)) cnt (i := 0) (Nat.zero_le _) rfl ?_ ?_
    · rintro i z hi rfl
      have i31 : i < 2 ^ 31 := by omega
      have hci := hC i hi
      have c1 : ¬ nI cnt ≤ nI i := nI_ge (by omega) (by omega)
      simp only [zf_X8_having_L15, zev_b1, zev_bd, zev_some, zev_gi, zev_gj, zev_gr, zev_pi, zev_pz, zev_pj, zev_pr, zev_rc, zev_cc, zev_b0, zev_bo, true_and, and_true, h1, h3, if_neg c1, r1, r2, zev_ai2 i31, r6, r7, show i < 6 by omega, r10 i (by omega), nI_add, zev_aj2 (show 48 * C i + (16 * (d - 1) + v) < 2 ^ 31 by omega), r3, r4, show 48 * C i + (16 * (d - 1) + v) < 48 * n by omega, r9 (48 * C i + (16 * (d - 1) + v)) (by omega)]
      refine ⟨_, rfl, ?_⟩
      unfold thav
      rw [range_snoc, List.foldl_append, nI_1]; rfl
    · rintro z rfl
      have c1 : nI cnt ≤ nI cnt := nI_le (Nat.le_refl _) (by omega)
      simp only [zf_X8_having_L15, zev_b1, zev_bd, zev_some, zev_gi, zev_gj, zev_gr, zev_pi, zev_pz, zev_pj, zev_pr, zev_rc, zev_cc, zev_b0, zev_bo, true_and, and_true, h1, h3, if_pos c1]
      exact ⟨_, rfl, rfl⟩
  obtain ⟨y, hy, rfl⟩ := hz
  exact hy
theorem zTa_begin {M : Zm} {g : Zg} {o t n k : Nat} {S : Nat → Int64} {C : Nat → Nat} {cnt : Nat} {tot : Int64} (h : zTa M g o t n S C cnt tot) {m : Nat} (hm : m ≤ 6) (v : Int64) (hb : zBu M g k) : zev (zf_X8_begin M (some t) (nI m) v) (fun y => zTa y.1 g o t n S C m v ∧ zFo M g y.1 g (fun z => z = o) ∧ zBu y.1 g k) := by
  obtain ⟨h1, h2, h3, h4, h5, h6, sa, ca, r1, r2, r3, r4, r5, r6, r7, r8, r9, r10⟩ := h
  have em : zmini (nI m) (nI 6) = nI m := by
    unfold zmini
    by_cases e : 6 < m
    · omega
    · rw [if_neg (nI_nlt (by omega) (by decide))]
  have ts : ¬ sa = t := zkne r3.2 h1.2 (by decide)
  simp only [zf_X8_begin, zev_b1, zev_bd, zev_some, zev_gi, zev_gj, zev_gr, zev_pi, zev_pz, zev_pj, zev_pr, zev_rc, zev_cc, zev_b0, zev_bo, true_and, and_true, ypi_i, ypj_j, ypr_r, zpi_j, zpi_r, zpj_i, zpj_r, zpr_i, zpr_j, ypi_O, ypj_O, ypr_O, zpi_l, zpj_l, zpr_l, zpi_b, zpi_c, zpj_b, zpj_c, zpr_b, zpr_c, zpi_s, zpj_s, zpr_s, h1, r2, zev_al2 r6 (by decide) (by decide), r7, em]
  refine ⟨⟨h1, h2, ?_, hm, ?_, h6, sa, ca, r1, r2, r3, r4, r5, r6, r7, r8, fun i hi => ?_, fun i hi => ?_⟩, (zFo.pi h2).tr (zFo.pj h2), hb.same rfl rfl⟩
  · rw [zpj_i, ypi_i, if_pos ⟨rfl, rfl⟩]
  · rw [ypj_j, if_pos ⟨rfl, rfl⟩]
  · rw [ypj_j, if_neg (fun e => ts e.1)]; exact r9 i hi
  · rw [zpj_i, ypi_i, if_neg (fun e => zkne r6.2 h1.2 (by decide) e.1)]; exact r10 i hi
def fuN (f : Nat → Nat) (i v : Nat) : Nat → Nat := fun j => if j = i then v else f j
theorem zTa_choose {M : Zm} {g : Zg} {o t n k : Nat} {S : Nat → Int64} {C : Nat → Nat} {cnt : Nat} {tot : Int64} (h : zTa M g o t n S C cnt tot) {s c : Nat} (hs : s < 6) (hc : c < 1000) (hb : zBu M g k) : zev (zf_X8_choose M (some t) (nI s) (nI c)) (fun y => zTa y.1 g o t n S (fuN C s c) cnt tot ∧ zFo M g y.1 g (fun z => z = o) ∧ zBu y.1 g k) := by
  obtain ⟨h1, h2, h3, h4, h5, h6, sa, ca, r1, r2, r3, r4, r5, r6, r7, r8, r9, r10⟩ := h
  have tc : ¬ t = ca := zkne h1.2 r6.2 (by decide)
  have em : nI c * 48 = nI (48 * c) := (pk_mul c 48).trans (congrArg nI (Nat.mul_comm c 48))
  simp only [zf_X8_choose, zev_b1, zev_bd, zev_some, zev_gi, zev_gj, zev_gr, zev_pi, zev_pz, zev_pj, zev_pr, zev_rc, zev_cc, zev_b0, zev_bo, true_and, and_true, h1, r2, zev_si2 (show s < 2 ^ 31 by omega), r6, r7, hs, em]
  refine ⟨⟨h1, h2, ?_, h4, h5, h6, sa, ca, r1, r2, r3, r4, r5, r6, r7, r8, r9, fun i hi => ?_⟩, zFo.pi r8, hb.same rfl rfl⟩
  · rw [ypi_i, if_neg (fun e => tc e.1)]; exact h3
  · rw [ypi_i]
    unfold fuN
    by_cases e : i = s
    · rw [if_pos ⟨rfl, e⟩, if_pos e]
    · rw [if_neg (fun q => e q.2), if_neg e]; exact r10 i hi
/-- what a wine adds to the three sums of each part -/
def tone (S : Nat → Int64) (st : Nat) (q : Int32 × Int64) : Nat → Int64 := fun i => (if i = st + 32 + (q.1.toNatClampNeg % 16) then q.2 else 0) + (if i = st + 16 + (q.1.toNatClampNeg / 16 % 16) then q.2 else 0) + (if i = st + (q.1.toNatClampNeg / 256 % 16) then q.2 else 0) + S i
def tadd (S : Nat → Int64) (st : Nat) (l : Wn) : Nat → Int64 := l.foldl (fun s q => tone s st q) S
theorem zev_id256 {x : Int32} {Q : Int32 → Prop} : zev (zo_id x 256) Q ↔ Q (x / 256) := zev_id.trans (and_iff_right (by decide))
theorem zev_id16 {x : Int32} {Q : Int32 → Prop} : zev (zo_id x 16) Q ↔ Q (x / 16) := zev_id.trans (and_iff_right (by decide))
theorem zev_im16 {x : Int32} {Q : Int32 → Prop} : zev (zo_im x 16) Q ↔ Q (x - x / 16 * 16) := zev_im.trans (and_iff_right (by decide))
theorem zTa_add {M : Zm} {g : Zg} {o t n k ow w : Nat} {S : Nat → Int64} {C : Nat → Nat} {cnt : Nat} {tot : Int64} {l : Wn} (h : zTa M g o t n S C cnt tot) (hw : zWo M g ow w l) (hne : ow ≠ o) (hcod : wcod l) {c : Nat} (hc : c < n) (hb : zBu M g k) : zev (zf_X8_addToSlot M (some t) (nI c) (some w)) (fun y => zTa y.1 g o t n (tadd S (48 * c) l) C cnt tot ∧ zFo M g y.1 g (fun z => z = o) ∧ zBu y.1 g k) := by
  have em : nI c * 48 = nI (48 * c) := (pk_mul c 48).trans (congrArg nI (Nat.mul_comm c 48))
  simp only [zf_X8_addToSlot, zev_b1, zev_bd, zev_some, zev_gi, zev_gj, zev_gr, zev_pi, zev_pz, zev_pj, zev_pr, zev_rc, zev_cc, zev_b0, zev_bo, true_and, and_true, em]
  refine zev_up (τ := Zm × Int32) (fun i (z : Zm × Int32) => ∃ M1, z = (M1, nI i) ∧ zTa M1 g o t n (tadd S (48 * c) (l.take i)) C cnt tot ∧ zFo M g M1 g (fun z => z = o) ∧ zBu M1 g k) l.length (i := 0) (Nat.zero_le _) ⟨M, rfl, h, zFo.rf, hb⟩ ?_ ?_
  · rintro i z hi ⟨M1, rfl, h1', f1, b1⟩
    obtain ⟨q, hq⟩ := getElem?_lt hi
    have hw1 := hw.fr f1 hne
    obtain ⟨pa, aa, m, a1, a2, a3, a4, a5, a6, a7, a8, a9, a10, a11⟩ := hw1.rows
    obtain ⟨h1, h2, h3, h4, h5, h6, sa, ca, r1, r2, r3, r4, r5, r6, r7, r8, r9, r10⟩ := h1'
    have i31 : i < 2 ^ 31 := by omega
    have c1 : ¬ nI l.length ≤ nI i := nI_ge (by omega) (by omega)
    have hcq := hcod q (List.mem_of_getElem? hq)
    obtain ⟨p, hp31, hpe⟩ : ∃ p : Nat, p < 2 ^ 31 ∧ q.1 = nI p := nI_of (fun e => by have := Int32.lt_iff_toInt_lt.mp e; simp at this; omega)
    have hp : p < 4096 := by
      have := hcq.2
      rw [hpe, nI_toInt hp31] at this
      omega
    have ta : ¬ t = sa := zkne h1.2 r3.2 (by decide)
    have wa1 : ¬ w = sa := zkne hw1.O.2 r3.2 (by decide)
    have as : ¬ aa = sa := fun e => by rw [e, r5] at a11; exact hne a11.symm
    have e1 : nI p / 256 = nI (p / 256) := pk_div (d := 256) (by omega) (by decide) (by decide)
    have e2 : nI (p / 256) - nI (p / 256) / 16 * 16 = nI (p / 256 % 16) := pk_rem (d := 16) (by omega) (by decide) (by decide)
    have e3 : nI p / 16 = nI (p / 16) := pk_div (d := 16) (by omega) (by decide) (by decide)
    have e4 : nI (p / 16) - nI (p / 16) / 16 * 16 = nI (p / 16 % 16) := pk_rem (d := 16) (by omega) (by decide) (by decide)
    have e5 : nI p - nI (p / 16) * 16 = nI (p % 16) := by rw [← e3]; exact pk_rem (d := 16) (by omega) (by decide) (by decide)
    have e6 : nI (48 * c) + 16 = nI (48 * c + 16) := nI_add _ 16
    have e7 : nI (48 * c) + 32 = nI (48 * c + 32) := nI_add _ 32
    have k1 : p / 256 % 16 < 16 := Nat.mod_lt _ (by decide)
    have k2 : p / 16 % 16 < 16 := Nat.mod_lt _ (by decide)
    have k3 : p % 16 < 16 := Nat.mod_lt _ (by decide)
    have d1 : ¬ 48 * c + 16 + p / 16 % 16 = 48 * c + p / 256 % 16 := by omega
    have d2 : ¬ 48 * c + 32 + p % 16 = 48 * c + 16 + p / 16 % 16 := by omega
    have d3 : ¬ 48 * c + 32 + p % 16 = 48 * c + p / 256 % 16 := by omega
    simp only [zf_X8_addToSlot_L8, zev_b1, zev_bd, zev_some, zev_gi, zev_gj, zev_gr, zev_pi, zev_pz, zev_pj, zev_pr, zev_rc, zev_cc, zev_b0, zev_bo, true_and, and_true, ypi_i, ypj_j, ypr_r, zpi_j, zpi_r, zpj_i, zpj_r, zpr_i, zpr_j, ypi_O, ypj_O, ypr_O, zpi_l, zpj_l, zpr_l, zpi_b, zpi_c, zpj_b, zpj_c, zpr_b, zpr_c, zpi_s, zpj_s, zpr_s, zev_id256, zev_id16, hw1.O, hw1.cnt, if_neg c1, a1, a2, zev_ai2 i31, zev_aj2 i31, a3, a4, a5, a6, show i < m by omega, (a9 i q hq).1, (a9 i q hq).2, hpe, e1, e3, zev_im16, e2, e4, e5, nI_add, e6, e7, h1, r1, zev_aj2 (show 48 * c + p / 256 % 16 < 2 ^ 31 by omega), zev_sj2 (show 48 * c + p / 256 % 16 < 2 ^ 31 by omega), zev_aj2 (show 48 * c + 16 + p / 16 % 16 < 2 ^ 31 by omega), zev_sj2 (show 48 * c + 16 + p / 16 % 16 < 2 ^ 31 by omega), zev_aj2 (show 48 * c + 32 + p % 16 < 2 ^ 31 by omega), zev_sj2 (show 48 * c + 32 + p % 16 < 2 ^ 31 by omega), r3, r4, show 48 * c + p / 256 % 16 < 48 * n by omega, show 48 * c + 16 + p / 16 % 16 < 48 * n by omega, show 48 * c + 32 + p % 16 < 48 * n by omega, as, false_and, if_false, d1, d2, d3, and_false, r9 (48 * c + p / 256 % 16) (by omega), r9 (48 * c + 16 + p / 16 % 16) (by omega), r9 (48 * c + 32 + p % 16) (by omega)]
    refine ⟨_, rfl, _, p2 (nI_1 _), ⟨h1, h2, h3, h4, ?_, h6, sa, ca, r1, r2, r3, r4, r5, r6, r7, r8, fun j hj => ?_, r10⟩, ((f1.tr (zFo.pj r5)).tr (zFo.pj r5)).tr (zFo.pj r5), b1.same rfl rfl⟩
    · rw [ypj_j, if_neg (fun e => ta e.1), ypj_j, if_neg (fun e => ta e.1), ypj_j, if_neg (fun e => ta e.1)]; exact h5
    · have et : tadd S (48 * c) (l.take (i + 1)) j = tone (tadd S (48 * c) (l.take i)) (48 * c) q j := by
        rw [take_snoc hq]; unfold tadd; rw [List.foldl_append]; rfl
      rw [et]
      unfold tone
      rw [hpe, nI_clamp hp31]
      have hS := r9 j hj
      simp only [ypj_j, true_and]
      by_cases j1 : j = 48 * c + 32 + p % 16
      · have j2 : ¬ j = 48 * c + 16 + p / 16 % 16 := by omega
        have j3 : ¬ j = 48 * c + p / 256 % 16 := by omega
        simp only [if_pos j1, if_neg j2, if_neg j3, Int64.add_zero]
        rw [j1, Int64.add_comm]
      · by_cases j2 : j = 48 * c + 16 + p / 16 % 16
        · have j3 : ¬ j = 48 * c + p / 256 % 16 := by omega
          simp only [if_neg j1, if_pos j2, if_neg j3, Int64.add_zero, Int64.zero_add]
          rw [j2, Int64.add_comm]
        · by_cases j3 : j = 48 * c + p / 256 % 16
          · simp only [if_neg j1, if_neg j2, if_pos j3, Int64.add_zero, Int64.zero_add]
            rw [j3, Int64.add_comm]
          · simp only [if_neg j1, if_neg j2, if_neg j3, Int64.zero_add]
            exact hS
  · rintro z ⟨M1, rfl, h1', f1, b1⟩
    have hw1 := hw.fr f1 hne
    have hlen := hw1.len
    have c1 : nI l.length ≤ nI l.length := nI_le (Nat.le_refl _) (by omega)
    simp only [zf_X8_addToSlot_L8, zev_b1, zev_bd, zev_some, zev_gi, zev_gj, zev_gr, zev_pi, zev_pz, zev_pj, zev_pr, zev_rc, zev_cc, zev_b0, zev_bo, true_and, and_true, hw1.O, hw1.cnt, if_pos c1]
    rw [List.take_of_length_le (Nat.le_refl _)] at h1'
    exact ⟨_, rfl, h1', f1, b1⟩
def tclr (S : Nat → Int64) (st : Nat) : Nat → Int64 := fun i => if st ≤ i ∧ i < st + 48 then 0 else S i
theorem zTa_clear {M : Zm} {g : Zg} {o t n k : Nat} {S : Nat → Int64} {C : Nat → Nat} {cnt : Nat} {tot : Int64} (h : zTa M g o t n S C cnt tot) {c : Nat} (hc : c < n) (hb : zBu M g k) : zev (zf_X8_clearSlot M (some t) (nI c)) (fun y => zTa y.1 g o t n (tclr S (48 * c)) C cnt tot ∧ zFo M g y.1 g (fun z => z = o) ∧ zBu y.1 g k) := by
  have em : nI c * 48 = nI (48 * c) := (pk_mul c 48).trans (congrArg nI (Nat.mul_comm c 48))
  simp only [zf_X8_clearSlot, zev_b1, zev_bd, zev_some, zev_gi, zev_gj, zev_gr, zev_pi, zev_pz, zev_pj, zev_pr, zev_rc, zev_cc, zev_b0, zev_bo, true_and, and_true]
  refine zev_up (τ := Zm × Int32) (fun i (z : Zm × Int32) => ∃ M1, z = (M1, nI i) ∧ zTa M1 g o t n (fun j => if 48 * c ≤ j ∧ j < 48 * c + i then 0 else S j) C cnt tot ∧ zFo M g M1 g (fun z => z = o) ∧ zBu M1 g k) 48 (i := 0) (Nat.zero_le _) ⟨M, rfl, by
    have e : (fun j => if 48 * c ≤ j ∧ j < 48 * c + 0 then 0 else S j) = S := by funext j; rw [if_neg (by omega)]
    rw [e]; exact h, zFo.rf, hb⟩ ?_ ?_
  · rintro i z hi ⟨M1, rfl, h1', f1, b1⟩
    obtain ⟨h1, h2, h3, h4, h5, h6, sa, ca, r1, r2, r3, r4, r5, r6, r7, r8, r9, r10⟩ := h1'
    have c1 : ¬ (48 : Int32) ≤ nI i := nI_ge (b := 48) hi (by decide)
    have ta : ¬ t = sa := zkne h1.2 r3.2 (by decide)
    simp only [zf_X8_clearSlot_L2, if_neg c1, zev_b1, zev_bd, zev_some, zev_gi, zev_gj, zev_gr, zev_pi, zev_pz, zev_pj, zev_pr, zev_rc, zev_cc, zev_b0, zev_bo, true_and, and_true, h1, r1, em, nI_add, zev_sj2 (show 48 * c + i < 2 ^ 31 by omega), r3, r4, show 48 * c + i < 48 * n by omega]
    refine ⟨_, rfl, _, p2 (nI_1 _), ⟨h1, h2, h3, h4, ?_, h6, sa, ca, r1, r2, r3, r4, r5, r6, r7, r8, fun j hj => ?_, r10⟩, f1.tr (zFo.pj r5), b1.same rfl rfl⟩
    · rw [ypj_j, if_neg (fun e => ta e.1)]; exact h5
    · have hr9 := r9 j hj
      rw [ypj_j]
      dsimp only at hr9 ⊢
      by_cases e : j = 48 * c + i
      · rw [if_pos ⟨rfl, e⟩, if_pos (by omega)]
      · rw [if_neg (fun q => e q.2), hr9]
        by_cases e2 : 48 * c ≤ j ∧ j < 48 * c + i
        · rw [if_pos e2, if_pos (by omega)]
        · rw [if_neg e2, if_neg (by omega)]
  · rintro z ⟨M1, rfl, h1', f1, b1⟩
    have c1 : (48 : Int32) ≤ nI 48 := by decide
    simp only [zf_X8_clearSlot_L2, if_pos c1, zev_b1, zev_bd, zev_some, zev_gi, zev_gj, zev_gr, zev_pi, zev_pz, zev_pj, zev_pr, zev_rc, zev_cc, zev_b0, zev_bo, true_and, and_true]
    exact ⟨_, rfl, h1', f1, b1⟩
