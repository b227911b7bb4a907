/-! Wine with its owner: add, clear, copyFrom; lessen, countWith, subtract, countUneven. -/
def zWo (M : Zm) (g : Zg) (o w : Nat) (l : Wn) : Prop := ∃ pa aa, zWi M w pa aa (g.2 o) l ∧ g.1 w = o ∧ g.1 pa = o ∧ g.1 aa = o ∧ g.2 o ≤ zcm o ∧ ∃ k, g.2 o = 4 * 2 ^ k
theorem zWo.fr {M M' : Zm} {g g' : Zg} {T : Nat → Prop} {o w : Nat} {l : Wn} (h : zWo M g o w l) (f : zFo M g M' g' T) (hn : ¬ T o) : zWo M' g' o w l := by
  obtain ⟨pa, aa, h1, h2, h3, h4, h5⟩ := h
  have hc := f.2.2 o hn
  refine ⟨pa, aa, ?_, f.own h1.1.1 h2, f.own h1.2.2.2.1.1.1 h3, f.own h1.2.2.2.2.1.1.1 h4, by rw [hc]; exact h5⟩
  rw [hc]
  exact h1.kept f.1 (fun q => hn (h2 ▸ q)) (fun q => hn (h3 ▸ q)) (fun q => hn (h4 ▸ q))
theorem zWo.O {M : Zm} {g : Zg} {o w : Nat} {l : Wn} (h : zWo M g o w l) : zO M w 11 := by
  obtain ⟨pa, aa, h1, h2, h3, h4, h5⟩ := h
  exact h1.1
theorem zWo.ris {M : Zm} {g : Zg} {o w : Nat} {l : Wn} (h : zWo M g o w l) : wris l := by
  obtain ⟨pa, aa, h1, h2, h3, h4, h5⟩ := h
  exact h1.2.2.2.2.2.2.2.2.2.2
theorem zWo.len {M : Zm} {g : Zg} {o w : Nat} {l : Wn} (h : zWo M g o w l) : l.length < 2 ^ 20 := by
  obtain ⟨pa, aa, h1, h2, h3, h4, h5⟩ := h
  exact Nat.lt_of_le_of_lt h1.2.2.2.2.2.2.2.1 h1.2.2.2.2.2.2.2.2.1
theorem zWo.cnt {M : Zm} {g : Zg} {o w : Nat} {l : Wn} (h : zWo M g o w l) : zm_i M w 2 = nI l.length := by
  obtain ⟨pa, aa, h1, h2, h3, h4, h5⟩ := h
  exact h1.2.2.2.2.2.1
theorem zWo.tot {M : Zm} {g : Zg} {o w : Nat} {l : Wn} (h : zWo M g o w l) : zm_j M w 3 = wsum l := by
  obtain ⟨pa, aa, h1, h2, h3, h4, h5⟩ := h
  exact h1.2.2.2.2.2.2.1
theorem zWo.cap {M : Zm} {g : Zg} {o w : Nat} {l : Wn} (h : zWo M g o w l) : g.2 o ≤ zcm o := by
  obtain ⟨pa, aa, h1, h2, h3, h4, h6, kk, h5⟩ := h
  exact h6
theorem zWo.own {M : Zm} {g : Zg} {o w : Nat} {l : Wn} (h : zWo M g o w l) : g.1 w = o := by
  obtain ⟨pa, aa, h1, h2, h3, h4, h5⟩ := h
  exact h2
/-- its rows -/
theorem zWo.rows {M : Zm} {g : Zg} {o w : Nat} {l : Wn} (h : zWo M g o w l) : ∃ pa aa n, zm_r M w 0 = some pa ∧ zm_r M w 1 = some aa ∧ zO M pa 14 ∧ zm_l M pa = n ∧ zO M aa 15 ∧ zm_l M aa = n ∧ l.length ≤ n ∧ n < 2 ^ 20 ∧ (∀ i q, l[i]? = some q → zm_i M pa i = q.1 ∧ zm_j M aa i = q.2) ∧ g.1 pa = o ∧ g.1 aa = o := by
  obtain ⟨pa, aa, h1, h2, h3, h4, h5⟩ := h
  obtain ⟨a1, a2, a3, a4, a5, a6, a7, a8, a9, a10, a11⟩ := h1
  exact ⟨pa, aa, _, a2, a3, a4.1, a4.2, a5.1, a5.2, a8, a9, a10, h3, h4⟩
theorem wfind (p : Int32) : ∀ (l : Wn) (q : Int32 × Int64), wris l → q ∈ l → q.1 = p → l[widx p l]? = some q
  | [], q, _, h, _ => by simp at h
  | y :: r, q, hr, h, hp => by
    simp only [widx]
    rcases List.mem_cons.mp h with rfl | h
    · rw [if_neg (by rw [hp]; exact Int32.lt_irrefl)]
      rfl
    · rw [if_pos (by rw [← hp]; exact hr.1 q h)]
      simp only [List.getElem?_cons_succ]
      exact wfind p r q hr.2 h hp
theorem p2lt {a b : Nat} (h : 4 * 2 ^ a < 4 * 2 ^ b) : 2 * (4 * 2 ^ a) ≤ 4 * 2 ^ b := by
  have h1 : 2 ^ a < 2 ^ b := by omega
  have h2 : a < b := (Nat.pow_lt_pow_iff_right (by decide)).mp h1
  have h3 : 2 ^ (a + 1) ≤ 2 ^ b := Nat.pow_le_pow_right (by decide) h2
  have h4 : 2 ^ (a + 1) = 2 * 2 ^ a := by rw [Nat.pow_succ]; omega
  omega
/-- two new cells for an owner, and a new number of places -/
def zgx (g : Zg) (o p a c : Nat) : Zg := (fun x => if x = p ∨ x = a then o else g.1 x, fun x => if x = o then c else g.2 x)
theorem zgx_fo {M M' : Zm} {g : Zg} {o p a c : Nat} {T : Nat → Prop} (hf : zFr M M' (fun x => T (g.1 x))) (ho : T o) (hp : ¬ zm_ok M p) (ha : ¬ zm_ok M a) : zFo M g M' (zgx g o p a c) T := by
  refine ⟨hf, fun x hx => ?_, fun x hx => ?_⟩
  · have h1 : x ≠ p := fun e => hp (e ▸ hx)
    have h2 : x ≠ a := fun e => ha (e ▸ hx)
    simp [zgx, h1, h2]
  · have : x ≠ o := fun e => hx (e ▸ ho)
    simp [zgx, this]
theorem zgx_1p {g : Zg} {o p a c : Nat} : (zgx g o p a c).1 p = o := by simp [zgx]
theorem zgx_1a {g : Zg} {o p a c : Nat} : (zgx g o p a c).1 a = o := by simp [zgx]
theorem zgx_2 {g : Zg} {o p a c : Nat} : (zgx g o p a c).2 o = c := by simp [zgx]
theorem zgx_2n {g : Zg} {o p a c x : Nat} (h : x ≠ o) : (zgx g o p a c).2 x = g.2 x := by simp [zgx, h]
theorem zBu_gx {M M' : Zm} {g : Zg} {o p a c k ds dc : Nat} (h : zBu M g k) (ho : o < 3100) (h1 : g.2 o ≤ c) (h2 : c ≤ zcm o) (hs : zm_s M' = zm_s M + ds) (hc : zm_c M' = zm_c M + dc) (h3 : ds ≤ 4 * (c - g.2 o)) (h4 : dc ≤ c - g.2 o) : zBu M' (zgx g o p a c) k := by
  have e := zcd_up (f := g.2) (f' := (zgx g o p a c).2) (o := o) (fun x hx => zgx_2n hx) (by rw [zgx_2]; exact h1) (by rw [zgx_2]; exact h2) 3100 ho
  rw [zgx_2] at e
  unfold zBu at *
  rw [hs, hc]
  omega
theorem zWo_add {M : Zm} {g : Zg} {o w k : Nat} {l : Wn} (h : zWo M g o w l) (p : Int32) (x : Int64) (ho : o < 3100) (hm : ∃ j, j ≤ 16 ∧ zcm o = 4 * 2 ^ j) (hl : l.length < zcm o ∨ ∃ q ∈ l, q.1 = p) (hb : zBu M g k) : zev (zf_X10_add M (some w) p x) (fun y => ∃ g', zWo y.1 g' o w (wadd p x l) ∧ zFo M g y.1 g' (fun z => z = o) ∧ zBu y.1 g' k) := by
  have hris := h.ris
  obtain ⟨pa, aa, h1, h2, h3, h4, h6, kk, h5⟩ := h
  obtain ⟨jm, hjm, hzm⟩ := hm
  have hjp : 2 ^ jm ≤ 2 ^ 16 := Nat.pow_le_pow_right (by decide) hjm
  have hle : l.length ≤ g.2 o := h1.2.2.2.2.2.2.2.1
  have hpos : 0 < 2 ^ kk := Nat.pow_pos (by decide)
  have hd : g.2 o = l.length → (∀ q, l[widx p l]? = some q → q.1 ≠ p) → 2 * g.2 o ≤ zcm o := by
    intro hgr hab
    have hl2 : l.length < zcm o := by
      rcases hl with hl | ⟨q, hq, hqp⟩
      · exact hl
      · exact absurd hqp (hab q (wfind p l q hris hq hqp))
    rw [h5, hzm]; apply p2lt; rw [← h5, ← hzm]; omega
  obtain ⟨M', pa', aa', cap', e, hw, hf, hcase⟩ := zWi_add h1 p x (by omega) (fun hgr hab => by
    have hd := hd hgr hab
    have hup := zcd_up (f := g.2) (f' := fun x => if x = o then zcm o else g.2 x) (o := o) (fun x hx => by simp [hx]) (by simp; omega) (by simp) 3100 ho
    simp only [if_true] at hup
    refine ⟨by omega, by have := hb.2; omega, by have := hb.1; omega⟩)
  refine ⟨(M', ()), e, ?_⟩
  have hf' : zFr M M' (fun x => (fun z => z = o) (g.1 x)) := hf.mono (fun a _ q => by rcases q with rfl | rfl | rfl <;> assumption)
  rcases hcase with ⟨rfl, rfl, rfl, hc, hs⟩ | ⟨rfl, hcl, hab, hpn, han, hc, hs⟩
  · exact ⟨g, ⟨pa', aa', hw, h2, h3, h4, h6, kk, h5⟩, ⟨hf', fun _ _ => rfl, fun _ _ => rfl⟩, hb.same hs hc⟩
  · refine ⟨zgx g o pa' aa' (2 * g.2 o), ⟨pa', aa', ?_, ?_, zgx_1p, zgx_1a, by rw [zgx_2]; exact hd hcl hab, kk + 1, ?_⟩, zgx_fo hf' rfl hpn han, zBu_gx hb ho (by omega) (hd hcl hab) hs hc (by omega) (by omega)⟩
    · rw [zgx_2]; exact hw
    · have e1 : w ≠ pa' := fun e => hpn (e ▸ h1.1.1)
      have e2 : w ≠ aa' := fun e => han (e ▸ h1.1.1)
      simp [zgx, e1, e2, h2]
    · rw [zgx_2, h5, Nat.pow_succ]; omega
theorem zWo_clear {M : Zm} {g : Zg} {o w k : Nat} {l : Wn} (h : zWo M g o w l) (hb : zBu M g k) : zev (zf_X10_clear M (some w)) (fun y => zWo y.1 g o w [] ∧ zFo M g y.1 g (fun z => z = o) ∧ zBu y.1 g k) := by
  obtain ⟨pa, aa, h1, h2, h3, h4, h5⟩ := h
  obtain ⟨M', e, hw, hf, hc, hs⟩ := zWi_clear h1
  exact ⟨(M', ()), e, ⟨pa, aa, hw, h2, h3, h4, h5⟩, ⟨hf.mono (fun a _ q => by rw [q]; exact h2), fun _ _ => rfl, fun _ _ => rfl⟩, hb.same hs hc⟩
theorem zWo_copy {M : Zm} {g : Zg} {o w k o2 v : Nat} {l m : Wn} (h : zWo M g o w l) (hv : zWo M g o2 v m) (hoo : o ≠ o2) (ho : o < 3100) (hmax : g.2 o2 ≤ zcm o) (hb : zBu M g k) : zev (zf_X10_copyFrom M (some w) (some v)) (fun y => ∃ g', zWo y.1 g' o w m ∧ zFo M g y.1 g' (fun z => z = o) ∧ zBu y.1 g' k) := by
  have hlm := hv.len
  obtain ⟨pa, aa, h1, h2, h3, h4, h6, kk, h5⟩ := h
  obtain ⟨pb, ab, k1, k2, k3, k4, k6, kk2, k5⟩ := hv
  have hle : m.length ≤ g.2 o2 := k1.2.2.2.2.2.2.2.1
  have hd : g.2 o < m.length → 2 * g.2 o ≤ g.2 o2 := by
    intro hlt
    rw [h5, k5]; apply p2lt; rw [← h5, ← k5]; omega
  have hne : ∀ a b, g.1 a = o → g.1 b = o2 → a ≠ b := fun a b e1 e2 e => hoo (by rw [← e1, ← e2, e])
  have hpos : 0 < 2 ^ kk := Nat.pow_pos (by decide)
  obtain ⟨M', pa', aa', cap', e, hw, hf, hcase⟩ := zWi_copy h1.sh k1 (hne _ _ h2 k2) (hne _ _ h3 k3) (hne _ _ h4 k4) (fun hlt => by
    have hd := hd hlt
    have hup := zcd_up (f := g.2) (f' := fun x => if x = o then zcm o else g.2 x) (o := o) (fun x hx => by simp [hx]) (by simp; omega) (by simp) 3100 ho
    simp only [if_true] at hup
    refine ⟨by have := hb.2; omega, by have := hb.1; omega⟩)
  refine ⟨(M', ()), e, ?_⟩
  have hf' : zFr M M' (fun x => (fun z => z = o) (g.1 x)) := hf.mono (fun a _ q => by rcases q with rfl | rfl | rfl <;> assumption)
  rcases hcase with ⟨rfl, rfl, rfl, hml, hc, hs⟩ | ⟨rfl, hcl, hpn, han, hc, hs⟩
  · exact ⟨g, ⟨pa', aa', hw, h2, h3, h4, h6, kk, h5⟩, ⟨hf', fun _ _ => rfl, fun _ _ => rfl⟩, hb.same hs hc⟩
  · have hd := hd hcl
    refine ⟨zgx g o pa' aa' (g.2 o2), ⟨pa', aa', ?_, ?_, zgx_1p, zgx_1a, by rw [zgx_2]; exact hmax, kk2, ?_⟩, zgx_fo hf' rfl hpn han, zBu_gx hb ho (by omega) hmax hs hc (by omega) (by omega)⟩
    · rw [zgx_2]; exact hw
    · have e1 : w ≠ pa' := fun e => hpn (e ▸ h1.1.1)
      have e2 : w ≠ aa' := fun e => han (e ▸ h1.1.1)
      simp [zgx, e1, e2, h2]
    · rw [zgx_2, k5]
theorem zWo_amountOf {M : Zm} {g : Zg} {o w : Nat} {l : Wn} (h : zWo M g o w l) (p : Int32) : zf_X10_amountOf M (some w) p = some (M, wlook p l) := by
  obtain ⟨pa, aa, h1, h2, h3, h4, h5⟩ := h
  exact zWi_amountOf h1 p
