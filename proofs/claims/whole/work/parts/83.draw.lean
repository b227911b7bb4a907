/-! Drawing: in thought, then carried out. -/
theorem wris_wputs : ∀ (zs acc : Wn), wris acc → wris (wputs acc zs)
  | [], _, h => h
  | z :: r, acc, h => by
    show wris (wputs (if z.2 ≤ 0 then acc else wadd z.1 z.2 acc) r)
    split
    · exact wris_wputs r _ h
    · exact wris_wputs r _ (wris_wadd _ _ _ h)
theorem wcod_wputs : ∀ (zs acc : Wn), wcod acc → wcod zs → wcod (wputs acc zs)
  | [], _, h, _ => h
  | z :: r, acc, h, hz => by
    show wcod (wputs (if z.2 ≤ 0 then acc else wadd z.1 z.2 acc) r)
    have hr : wcod r := fun x hx => hz x (List.mem_cons_of_mem _ hx)
    split
    · exact wcod_wputs r _ h hr
    · exact wcod_wputs r _ (wcod_wadd _ _ _ h (hz z List.mem_cons_self)) hr
theorem wcod_wgng : ∀ (l : Wn) (s : List Int64), wcod l → wcod (wgng l s)
  | [], _, _ => fun q hq => by simp [wgng] at hq
  | _ :: _, [], _ => fun q hq => by simp [wgng] at hq
  | y :: r, v :: s, h => fun q hq => by
    have hr : wcod r := fun x hx => h x (List.mem_cons_of_mem _ hx)
    rcases List.mem_cons.mp (show q ∈ (y.1, v) :: wgng r s from hq) with rfl | hq
    · exact h y List.mem_cons_self
    · exact wcod_wgng r s hr q hq
theorem wput_room {acc zs : Wn} (hr : wris acc) (ha : wcod acc) (hz : wcod zs) : ∀ i z, zs[i]? = some z → (wputs acc (zs.take i)).length < 4096 ∨ ∃ q ∈ wputs acc (zs.take i), q.1 = z.1 :=
  fun i z h => wroom z.1 _ (wris_wputs _ _ hr) (wcod_wputs _ _ ha (wcod_take i hz)) (hz z (List.mem_of_getElem? h))
def zDr (M : Zm) (g : Zg) (A : Nat → Nat) (d ga : Nat) (ds : List (Nat × Int64)) (dw : Wn) : Prop := zO M d 3 ∧ g.1 d = 10 ∧ zm_i M d 3 = nI ds.length ∧ ds.length ≤ 32 ∧ zm_r M d 2 = some ga ∧ zO M ga 15 ∧ zm_l M ga = 60 ∧ g.1 ga = 10 ∧ ∃ va aa w, zm_r M d 0 = some va ∧ zm_r M d 1 = some aa ∧ zm_r M d 4 = some w ∧ zO M va 16 ∧ zm_l M va = 32 ∧ g.1 va = 10 ∧ zO M aa 15 ∧ zm_l M aa = 32 ∧ g.1 aa = 10 ∧ aa ≠ ga ∧ zWo M g 26 w dw ∧ (∀ i q, ds[i]? = some q → zm_r M va i = some (A q.1) ∧ zm_j M aa i = q.2)
theorem zDr.G {M : Zm} {g : Zg} {A : Nat → Nat} {d ga : Nat} {ds : List (Nat × Int64)} {dw : Wn} (h : zDr M g A d ga ds dw) : zGa M g d ga [] := by
  obtain ⟨h1, h2, h3, h4, h5, h6, h7, h8, va, aa, w, r1, r2, r3, r4, r5, r6, r7, r8, r9, r10, r11, r12⟩ := h
  exact ⟨h1, h2, h5, h6, h7, h8, fun i v hv => by simp at hv⟩
theorem zDr.fr {M M' : Zm} {g g' : Zg} {T : Nat → Prop} {A : Nat → Nat} {d ga : Nat} {ds : List (Nat × Int64)} {dw : Wn} (h : zDr M g A d ga ds dw) (f : zFo M g M' g' T) (n1 : ¬ T 10) (n2 : ¬ T 26) : zDr M' g' A d ga ds dw := by
  obtain ⟨h1, h2, h3, h4, h5, h6, h7, h8, va, aa, w, r1, r2, r3, r4, r5, r6, r7, r8, r9, r10, r11, r12⟩ := h
  have e1 := f.at h1.1 h2 n1
  have e2 := f.at r4.1 r6 n1
  have e3 := f.at r7.1 r9 n1
  exact ⟨f.O h1, f.own h1.1 h2, by rw [e1.1]; exact h3, h4, by rw [e1.2.2]; exact h5, f.O h6, (f.A (show zA M ga 15 60 from ⟨h6, h7⟩)).2, f.own h6.1 h8, va, aa, w, by rw [e1.2.2]; exact r1, by rw [e1.2.2]; exact r2, by rw [e1.2.2]; exact r3, f.O r4, (f.A (show zA M va 16 32 from ⟨r4, r5⟩)).2, f.own r4.1 r6, f.O r7, (f.A (show zA M aa 15 32 from ⟨r7, r8⟩)).2, f.own r7.1 r9, r10, r11.fr f n2, fun i q hq => by rw [e2.2.2, e3.2.1]; exact r12 i q hq⟩
theorem zDr.fg {M M' : Zm} {g : Zg} {A : Nat → Nat} {d ga : Nat} {ds : List (Nat × Int64)} {dw : Wn} (h : zDr M g A d ga ds dw) (f : zFr M M' (fun a => a = ga)) : zDr M' g A d ga ds dw := by
  obtain ⟨h1, h2, h3, h4, h5, h6, h7, h8, va, aa, w, r1, r2, r3, r4, r5, r6, r7, r8, r9, r10, r11, r12⟩ := h
  have fo : zFo M g M' g (fun z => z = 10) := ⟨f.mono (fun a _ q => by rw [q]; exact h8), fun _ _ => rfl, fun _ _ => rfl⟩
  have e1 := f.2.2.2.2.2 d h1.1 (zkne h1.2 h6.2 (by decide))
  have e2 := f.2.2.2.2.2 va r4.1 (zkne r4.2 h6.2 (by decide))
  have e3 := f.2.2.2.2.2 aa r7.1 r10
  exact ⟨f.ob h1, h2, by rw [e1.1]; exact h3, h4, by rw [e1.2.2]; exact h5, f.ob h6, (f.ar (show zAr M ga 15 60 from ⟨h6, h7⟩)).2, h8, va, aa, w, by rw [e1.2.2]; exact r1, by rw [e1.2.2]; exact r2, by rw [e1.2.2]; exact r3, f.ob r4, (f.ar (show zAr M va 16 32 from ⟨r4, r5⟩)).2, r6, f.ob r7, (f.ar (show zAr M aa 15 32 from ⟨r7, r8⟩)).2, r9, r10, r11.fr fo (by decide), fun i q hq => by rw [e2.2.2, e3.2.1]; exact r12 i q hq⟩
theorem zDr.putw {M M' : Zm} {g g' : Zg} {T : Nat → Prop} {A : Nat → Nat} {d ga w : Nat} {ds : List (Nat × Int64)} {dw dw' : Wn} (h : zDr M g A d ga ds dw) (hw : zm_r M d 4 = some w) (f : zFo M g M' g' T) (n1 : ¬ T 10) (hw' : zWo M' g' 26 w dw') : zDr M' g' A d ga ds dw' := by
  obtain ⟨h1, h2, h3, h4, h5, h6, h7, h8, va, aa, w0, r1, r2, r3, r4, r5, r6, r7, r8, r9, r10, r11, r12⟩ := h
  have e1 := f.at h1.1 h2 n1
  have e2 := f.at r4.1 r6 n1
  have e3 := f.at r7.1 r9 n1
  exact ⟨f.O h1, f.own h1.1 h2, by rw [e1.1]; exact h3, h4, by rw [e1.2.2]; exact h5, f.O h6, (f.A (show zA M ga 15 60 from ⟨h6, h7⟩)).2, f.own h6.1 h8, va, aa, w, by rw [e1.2.2]; exact r1, by rw [e1.2.2]; exact r2, by rw [e1.2.2]; exact hw, f.O r4, (f.A (show zA M va 16 32 from ⟨r4, r5⟩)).2, f.own r4.1 r6, f.O r7, (f.A (show zA M aa 15 32 from ⟨r7, r8⟩)).2, f.own r7.1 r9, r10, hw', fun i q hq => by rw [e2.2.2, e3.2.1]; exact r12 i q hq⟩
theorem zDr_clear {M : Zm} {g : Zg} {A : Nat → Nat} {d ga k : Nat} {ds : List (Nat × Int64)} {dw : Wn} (h : zDr M g A d ga ds dw) (hb : zBu M g k) : zev (zf_X2_clear M (some d)) (fun y => zDr y.1 g A d ga [] [] ∧ zFo M g y.1 g (fun z => z = 10 ∨ z = 26) ∧ zBu y.1 g k) := by
  obtain ⟨h1, h2, h3, h4, h5, h6, h7, h8, va, aa, w, r1, r2, r3, r4, r5, r6, r7, r8, r9, r10, r11, r12⟩ := h
  have fo : zFo M g (zm_pi M d 3 0) g (fun z => z = 10) := zFo.pi h2
  simp only [zf_X2_clear, zev_b1, zev_bd, zev_some, zev_gi, zev_gj, zev_gr, zev_pi, zev_pz, zev_pj, zev_pr, zev_rc, zev_cc, zev_b0, zev_bo, true_and, and_true, ypi_i, ypj_j, ypr_r, zpi_j, zpi_r, zpj_i, zpj_r, zpr_i, zpr_j, ypi_O, ypj_O, ypr_O, zpi_l, zpj_l, zpr_l, zpi_b, zpi_c, zpj_b, zpj_c, zpr_b, zpr_c, zpi_s, zpj_s, zpr_s, h1, r3, r11.O]
  refine zev_mono (zWo_clear (r11.fr fo (by decide)) (hb.same rfl rfl)) ?_
  rintro ⟨M7, u0⟩ hh
  dsimp only at hh ⊢
  obtain ⟨w7, f7, b7⟩ := hh
  have e1 := f7.at (a := d) (o := 10) h1.1 h2 (by decide)
  refine ⟨⟨f7.O h1, h2, ?_, Nat.zero_le _, ?_, f7.O h6, (f7.A (show zA M ga 15 60 from ⟨h6, h7⟩)).2, h8, va, aa, w, ?_, ?_, ?_, f7.O r4, (f7.A (show zA M va 16 32 from ⟨r4, r5⟩)).2, r6, f7.O r7, (f7.A (show zA M aa 15 32 from ⟨r7, r8⟩)).2, r9, r10, w7, fun i q hq => by simp at hq⟩, fo.tr3 f7 (fun z e => Or.inl e) (fun z e => Or.inr e), b7⟩
  · rw [e1.1, ypi_i, if_pos ⟨rfl, rfl⟩]; rfl
  · rw [e1.2.2]; exact h5
  · rw [e1.2.2]; exact r1
  · rw [e1.2.2]; exact r2
  · rw [e1.2.2]; exact r3
theorem zDr_vessel {M : Zm} {g : Zg} {A : Nat → Nat} {d ga b k : Nat} {x : Bv} {ds : List (Nat × Int64)} {dw : Wn} (h : zDr M g A d ga ds dw) (hx : zBa M g A b x) (v : Int64) (hl : ds.length < 32) (h60 : x.2.1.2.2.2.length ≤ 60) (hcd : wcod dw) (hcx : wcod x.2.1.2.2.2) (hb : zBu M g k) : zev (zf_X2_drawFromVessel M (some d) (some (A b)) v) (fun y => ∃ g', zDr y.1 g' A d ga (if v ≤ 0 then ds else ds ++ [(b, v)]) (if v ≤ 0 then dw else wputs dw (wgng x.2.1.2.2.2 (wshr v x.2.1.2.2.2))) ∧ zFo M g y.1 g' (fun z => z = 10 ∨ z = 26) ∧ zBu y.1 g' k) := by
  by_cases hv : v ≤ 0
  · simp only [zf_X2_drawFromVessel, if_pos hv, zev_some]
    exact ⟨g, h, zFo.rf, hb⟩
  · obtain ⟨wb, w1, w2⟩ := hx.wn
    have hxO := hx.O
    obtain ⟨h1, h2, h3, h4, h5, h6, h7, h8, va, aa, w, r1, r2, r3, r4, r5, r6, r7, r8, r9, r10, r11, r12⟩ := h
    have hl31 : ds.length < 2 ^ 31 := by omega
    have c1 : nI ds.length < nI 32 := nI_lt hl (by decide)
    have hvv : ∀ z ∈ some (A b), zm_ok M z ∧ ((1 : Nat) ≠ 14 ∧ zm_k M z = 1 ∨ (1 : Nat) = 14 ∧ (zm_k M z = 1 ∨ zm_k M z = 4)) := fun z hz => by cases hz; exact ⟨hxO.1, Or.inl ⟨by decide, hxO.2⟩⟩
    have dv : ¬ d = va := zkne h1.2 r4.2 (by decide)
    have da : ¬ d = aa := zkne h1.2 r7.2 (by decide)
    have fo : zFo M g (zm_pi (zm_pj (zm_pr M va ds.length (some (A b))) aa ds.length v) d 3 (nI (ds.length + 1))) g (fun z => z = 10) := ((zFo.pr r6).tr (zFo.pj r9)).tr (zFo.pi h2)
    have D1 : zDr (zm_pi (zm_pj (zm_pr M va ds.length (some (A b))) aa ds.length v) d 3 (nI (ds.length + 1))) g A d ga (ds ++ [(b, v)]) dw := by
      refine ⟨h1, h2, ?_, by simp; omega, ?_, h6, h7, h8, va, aa, w, ?_, ?_, ?_, r4, r5, r6, r7, r8, r9, r10, r11.fr fo (by decide), fun i q hq => ?_⟩
      · rw [ypi_i, if_pos ⟨rfl, rfl⟩]; simp
      · rw [zpi_r, zpj_r, ypr_r, if_neg (fun e => dv e.1)]; exact h5
      · rw [zpi_r, zpj_r, ypr_r, if_neg (fun e => dv e.1)]; exact r1
      · rw [zpi_r, zpj_r, ypr_r, if_neg (fun e => dv e.1)]; exact r2
      · rw [zpi_r, zpj_r, ypr_r, if_neg (fun e => dv e.1)]; exact r3
      · rw [zpi_r, zpj_r, ypr_r, zpi_j, ypj_j, zpr_j]
        have hl2 := (List.getElem?_eq_some_iff.mp hq).1
        simp only [List.length_append, List.length_singleton] at hl2
        by_cases hi : i = ds.length
        · subst hi
          rw [List.getElem?_append_right (Nat.le_refl _)] at hq
          simp at hq
          subst hq
          rw [if_pos ⟨rfl, rfl⟩, if_pos ⟨rfl, rfl⟩]
          exact ⟨rfl, rfl⟩
        · rw [List.getElem?_append_left (by omega)] at hq
          rw [if_neg (fun e => hi e.2), if_neg (fun e => hi e.2)]
          exact r12 i q hq
    have x1 := hx.fro fo (by decide)
    have w1' : zm_r (zm_pi (zm_pj (zm_pr M va ds.length (some (A b))) aa ds.length v) d 3 (nI (ds.length + 1))) (A b) 5 = some wb := by
      rw [zpi_r, zpj_r, ypr_r, if_neg (fun e => zkne hxO.2 r4.2 (by decide) e.1)]; exact w1
    have W1 := w2.fr fo (fun (q : 101 + 3 * b = 10) => by omega)
    have nbv : ¬ A b = va := zkne hxO.2 r4.2 (by decide)
    have nbg : ¬ A b = ga := zkne hxO.2 h6.2 (by decide)
    have ndg : ¬ d = ga := zkne h1.2 h6.2 (by decide)
    simp only [zf_X2_drawFromVessel, if_neg hv, zev_b1, zev_bd, zev_some, zev_gi, zev_gj, zev_gr, zev_pi, zev_pz, zev_pj, zev_pr, zev_rc, zev_cc, zev_b0, zev_bo, true_and, and_true, ypi_i, ypj_j, ypr_r, zpi_j, zpi_r, zpj_i, zpj_r, zpr_i, zpr_j, ypi_O, ypj_O, ypr_O, zpi_l, zpj_l, zpr_l, zpi_b, zpi_c, zpj_b, zpj_c, zpr_b, zpr_c, zpi_s, zpj_s, zpr_s, h1, h3, r1, zev_al2 r4 (by decide) (by decide), r5, if_pos c1, zev_sr hl31 hvv, r4, hl, dv, da, nbv, false_and, if_false, r2, zev_sj2 hl31, r7, r8, nI_1, hxO, w1]
    refine zev_mono (zGa_reckon v D1.G W1 (by omega) h60) ?_
    rintro ⟨M6, u0⟩ hh
    dsimp only at hh ⊢
    obtain ⟨G1, f1, q1, q2⟩ := hh
    have fo1 : zFo (zm_pi (zm_pj (zm_pr M va ds.length (some (A b))) aa ds.length v) d 3 (nI (ds.length + 1))) g M6 g (fun z => z = 10) := ⟨f1.mono (fun a _ q => by rw [q]; exact h8), fun _ _ => rfl, fun _ _ => rfl⟩
    have x6 := x1.fro fo1 (by decide)
    have W6 := W1.fr fo1 (fun (q : 101 + 3 * b = 10) => by omega)
    have D6 := D1.fg f1
    have wb6 : zm_r M6 (A b) 5 = some wb := by rw [(f1.2.2.2.2.2 (A b) hxO.1 nbg).2.2]; exact w1'
    have w6 : zm_r M6 d 4 = some w := by
      rw [(f1.2.2.2.2.2 d h1.1 ndg).2.2, zpi_r, zpj_r, ypr_r, if_neg (fun e => dv e.1)]; exact r3
    have V6 := (r11.fr fo (by decide)).fr fo1 (by decide)
    simp only [x6.O, wb6, w6, G1.1, zev_b1, zev_bd, zev_some, zev_gi, zev_gj, zev_gr, zev_pi, zev_pz, zev_pj, zev_pr, zev_rc, zev_cc, zev_b0, zev_bo, true_and, and_true]
    refine zev_mono (zGa_add (k := k) G1 W6 V6 (by omega) (by decide) (wshr_len _ _) h60 (by decide) ⟨10, by decide, by decide⟩ (fun i z hz => by rw [show zcm 26 = 4096 from by decide]; exact wput_room V6.ris hcd (wcod_wgng _ _ hcx) i z hz) (hb.same q2 q1)) ?_
    rintro ⟨M9, u0⟩ hh
    dsimp only at hh ⊢
    obtain ⟨g', V9, f9, b9⟩ := hh
    exact ⟨g', D6.putw w6 f9 (by decide) V9, (fo.tr fo1).tr3 f9 (fun z e => Or.inl e) (fun z e => Or.inr e), b9⟩
/-! from a vessel, or from a cask's members one by one -/
def dstep (bs : Nat → Bv) (a : Int64 × List (Nat × Int64) × List Int32) (m : Nat) : Int64 × List (Nat × Int64) × List Int32 :=
  if a.1 ≤ 0 then a else (a.1 - zminl a.1 (vs (bs m).1 (wsum (bs m).2.1.2.2.2)), (if zminl a.1 (vs (bs m).1 (wsum (bs m).2.1.2.2.2)) ≤ 0 then a.2.1 else a.2.1 ++ [(m, zminl a.1 (vs (bs m).1 (wsum (bs m).2.1.2.2.2)))]), a.2.2 ++ vsT (bs m).1)
theorem dstep_stop (bs : Nat → Bv) : ∀ (ms : List Nat) (a : Int64 × List (Nat × Int64) × List Int32), a.1 ≤ 0 → ms.foldl (dstep bs) a = a
  | [], _, _ => rfl
  | m :: r, a, h => by
    have e : dstep bs a m = a := by unfold dstep; rw [if_pos h]
    rw [List.foldl_cons, e]
    exact dstep_stop bs r a h
theorem dstep_len (bs : Nat → Bv) : ∀ (ms : List Nat) (a : Int64 × List (Nat × Int64) × List Int32), (ms.foldl (dstep bs) a).2.1.length ≤ a.2.1.length + ms.length
  | [], _ => Nat.le_refl _
  | m :: r, a => by
    rw [List.foldl_cons]
    refine Nat.le_trans (dstep_len bs r _) ?_
    have : (dstep bs a m).2.1.length ≤ a.2.1.length + 1 := by
      unfold dstep
      split
      · omega
      · dsimp only
        split
        · omega
        · simp
    simp only [List.length_cons]
    omega
def dlst (bs : Nat → Bv) (b : Nat) (x : Int64) : List (Nat × Int64) := if (bs b).1.1 = 5 then ((bms (bs b)).foldl (dstep bs) (x, [], [])).2.1 else if x ≤ 0 then [] else [(b, x)]
def dlstT (bs : Nat → Bv) (b : Nat) (x : Int64) : List Int32 := if (bs b).1.1 = 5 then ((bms (bs b)).foldl (dstep bs) (x, [], [])).2.2 else []
def dmix (bs : Nat → Bv) (dw : Wn) (ds : List (Nat × Int64)) : Wn := ds.foldl (fun a q => wputs a (wgng (bs q.1).2.1.2.2.2 (wshr q.2 (bs q.1).2.1.2.2.2))) dw
theorem dmix_snoc (bs : Nat → Bv) (dw : Wn) (ds : List (Nat × Int64)) (q : Nat × Int64) : dmix bs dw (ds ++ [q]) = wputs (dmix bs dw ds) (wgng (bs q.1).2.1.2.2.2 (wshr q.2 (bs q.1).2.1.2.2.2)) := by
  unfold dmix; rw [List.foldl_append]; rfl
theorem wcod_dmix (bs : Nat → Bv) : ∀ (ds : List (Nat × Int64)) (dw : Wn), wcod dw → (∀ q ∈ ds, wcod (bs q.1).2.1.2.2.2) → wcod (dmix bs dw ds)
  | [], _, h, _ => h
  | q :: r, dw, h, hq => wcod_dmix bs r _ (wcod_wputs _ _ h (wcod_wgng _ _ (hq q List.mem_cons_self))) (fun x hx => hq x (List.mem_cons_of_mem _ hx))
theorem dstep_mem (bs : Nat → Bv) : ∀ (ms : List Nat) (a : Int64 × List (Nat × Int64) × List Int32) (q : Nat × Int64), q ∈ (ms.foldl (dstep bs) a).2.1 → q ∈ a.2.1 ∨ q.1 ∈ ms
  | [], _, _, h => Or.inl h
  | m :: r, a, q, h => by
    rw [List.foldl_cons] at h
    rcases dstep_mem bs r _ q h with h | h
    · unfold dstep at h
      split at h
      · exact Or.inl h
      · dsimp only at h
        split at h
        · exact Or.inl h
        · rcases List.mem_append.mp h with h | h
          · exact Or.inl h
          · right
            rw [List.mem_singleton.mp h]
            exact List.mem_cons_self
    · exact Or.inr (List.mem_cons_of_mem _ h)
theorem zDr_from {M : Zm} {g : Zg} {A : Nat → Nat} {d ga b o t cap nb k : Nat} {bs : Nat → Bv} {ds : List (Nat × Int64)} {dw : Wn} {l : List Int32} (h : zDr M g A d ga ds dw) (x : Int64) (ht : zTr M g o t cap l) (ho : o = 12 ∨ o = 13) (hB : ∀ c, c < nb → zBa M g A c (bs c)) (hbn : b < nb) (hmem : ∀ m, m ∈ bms (bs b) → m < nb ∧ (bs m).1.1 ≠ 5) (hlen : ds.length + 4 ≤ 32) (h60 : ∀ c, c < nb → (bs c).2.1.2.2.2.length ≤ 60 ∧ wcod (bs c).2.1.2.2.2) (hcd : wcod dw) (hb : zBu M g k) : zev (zf_X2_drawFrom M (some d) (some (A b)) x (some t)) (fun y => ∃ g', zDr y.1 g' A d ga (ds ++ dlst bs b x) (dmix bs dw (dlst bs b x)) ∧ zTr y.1 g' o t cap (tapp cap l (dlstT bs b x)) ∧ zFo M g y.1 g' (fun z => z = 10 ∨ z = 26 ∨ z = o) ∧ zBu y.1 g' k) := by
  have hx := hB b hbn
  simp only [zf_X2_drawFrom, zev_b1, zev_bd, zev_some, zev_gi, zev_gj, zev_gr, zev_pi, zev_pz, zev_pj, zev_pr, zev_rc, zev_cc, zev_b0, zev_bo, true_and, and_true, hx.O, hx.kd, dlst, dlstT]
  by_cases c5 : (bs b).1.1 = 5
  · simp only [if_pos c5, zev_b1, zev_bd, zev_some, zev_gi, zev_gj, zev_gr, zev_pi, zev_pz, zev_pj, zev_pr, zev_rc, zev_cc, zev_b0, zev_bo, true_and, and_true]
    obtain ⟨ma, -, -, -, q4, q5, -⟩ := hx.me
    refine zev_lp (τ := Zm × Int64 × Int32) (fun n (z : Zm × Int64 × Int32) => ∃ M1 g1 i a, z = (M1, a.1, nI i) ∧ i + n = (bms (bs b)).length ∧ ((bms (bs b)).drop i).foldl (dstep bs) a = (bms (bs b)).foldl (dstep bs) (x, [], []) ∧ a.2.1.length ≤ i ∧ (∀ q ∈ a.2.1, q.1 < nb) ∧ zDr M1 g1 A d ga (ds ++ a.2.1) (dmix bs dw a.2.1) ∧ zTr M1 g1 o t cap (tapp cap l a.2.2) ∧ zFo M g M1 g1 (fun z => z = 10 ∨ z = 26 ∨ z = o) ∧ zBu M1 g1 k) (n := (bms (bs b)).length) ⟨M, g, 0, (x, [], []), rfl, by omega, rfl, Nat.zero_le _, fun q hq => by simp at hq, (by show zDr M g A d ga (ds ++ []) dw; rw [List.append_nil]; exact h), by rw [tapp_nil ht.len]; exact ht, zFo.rf, hb⟩ ?_
    rintro n z ⟨M1, g1, i, a, rfl, hin, ha, hal, haq, D1, T1, f1, b1⟩
    have x1 := hx.fr f1 (fun (q : 100 + 3 * b = 10 ∨ 100 + 3 * b = 26 ∨ 100 + 3 * b = o) => by omega) (fun (q : 101 + 3 * b = 10 ∨ 101 + 3 * b = 26 ∨ 101 + 3 * b = o) => by omega) (fun (q : 102 + 3 * b = 10 ∨ 102 + 3 * b = 26 ∨ 102 + 3 * b = o) => by omega)
    obtain ⟨ma, p1, p2, p3, p4, p5, p6⟩ := x1.me
    have fin : a = (bms (bs b)).foldl (dstep bs) (x, [], []) → ∃ g', zDr M1 g' A d ga (ds ++ ((bms (bs b)).foldl (dstep bs) (x, [], [])).2.1) (dmix bs dw ((bms (bs b)).foldl (dstep bs) (x, [], [])).2.1) ∧ zTr M1 g' o t cap (tapp cap l ((bms (bs b)).foldl (dstep bs) (x, [], [])).2.2) ∧ zFo M g M1 g' (fun z => z = 10 ∨ z = 26 ∨ z = o) ∧ zBu M1 g' k := fun e => by rw [← e]; exact ⟨g1, D1, T1, f1, b1⟩
    cases n with
    | zero =>
      have c1 : nI (bs b).2.1.2.2.1 ≤ nI i := nI_le (by omega) (by omega)
      simp only [zf_X2_drawFrom_L21, zev_b1, zev_bd, zev_some, zev_gi, zev_gj, zev_gr, zev_pi, zev_pz, zev_pj, zev_pr, zev_rc, zev_cc, zev_b0, zev_bo, true_and, and_true, x1.O, x1.mc, if_pos c1]
      refine Or.inr ⟨_, rfl, fin ?_⟩
      rw [List.drop_of_length_le (by omega)] at ha
      exact ha
    | succ n =>
      have hi : i < (bms (bs b)).length := by omega
      obtain ⟨m, hm⟩ := getElem?_lt hi
      have hmn := hmem m (List.mem_of_getElem? hm)
      have i31 : i < 2 ^ 31 := by omega
      have c1 : ¬ nI (bs b).2.1.2.2.1 ≤ nI i := nI_ge (by omega) (by omega)
      simp only [zf_X2_drawFrom_L21, zev_b1, zev_bd, zev_some, zev_gi, zev_gj, zev_gr, zev_pi, zev_pz, zev_pj, zev_pr, zev_rc, zev_cc, zev_b0, zev_bo, true_and, and_true, x1.O, x1.mc, if_neg c1]
      by_cases hw : a.1 ≤ 0
      · rw [if_pos hw]
        simp only [zev_some]
        refine Or.inr ⟨_, rfl, fin ?_⟩
        rw [dstep_stop bs _ a hw] at ha
        exact ha
      · rw [if_neg hw]
        have xm := (hB m hmn.1).fr f1 (fun (q : 100 + 3 * m = 10 ∨ 100 + 3 * m = 26 ∨ 100 + 3 * m = o) => by omega) (fun (q : 101 + 3 * m = 10 ∨ 101 + 3 * m = 26 ∨ 101 + 3 * m = o) => by omega) (fun (q : 102 + 3 * m = 10 ∨ 102 + 3 * m = 26 ∨ 102 + 3 * m = o) => by omega)
        simp only [zev_b1, zev_bd, zev_some, zev_gi, zev_gj, zev_gr, zev_pi, zev_pz, zev_pj, zev_pr, zev_rc, zev_cc, zev_b0, zev_bo, true_and, and_true, x1.O, p1, zev_ar2 i31, p2, p3, show i < 4 by omega, p6 i m hm, xm.O, zf_X0_maySpare, xm.kd, if_neg hmn.2]
        refine zev_mono (zBa_vspa xm T1 (by omega) b1) ?_
        rintro ⟨M2, v⟩ hh
        dsimp only at hh ⊢
        obtain ⟨e, T2, f2, b2⟩ := hh
        subst e
        have D2 := D1.fr f2 (fun (q : 10 = o) => by omega) (fun (q : 26 = o) => by omega)
        have xm2 := xm.fro f2 (by omega)
        refine ⟨D2.1, zev_mono (zDr_vessel D2 xm2 (zminl a.1 (vs (bs m).1 (wsum (bs m).2.1.2.2.2))) (by rw [List.length_append]; omega) (h60 m hmn.1).1 (wcod_dmix bs _ _ hcd (fun q hq => (h60 q.1 (haq q hq)).2)) (h60 m hmn.1).2 b2) ?_⟩
        rintro ⟨M3, u0⟩ hh
        dsimp only at hh ⊢
        obtain ⟨g3, D3, f3, b3⟩ := hh
        have T3 := T2.fr f3 (fun (q : o = 10 ∨ o = 26) => by omega)
        rw [tapp_tapp] at T3
        have hdrop : (bms (bs b)).drop i = m :: (bms (bs b)).drop (i + 1) := by
          rw [List.drop_eq_getElem_cons hi]
          congr 1
          exact (List.getElem?_eq_some_iff.mp hm).2
        rw [hdrop, List.foldl_cons] at ha
        have hst : dstep bs a m = (a.1 - zminl a.1 (vs (bs m).1 (wsum (bs m).2.1.2.2.2)), (if zminl a.1 (vs (bs m).1 (wsum (bs m).2.1.2.2.2)) ≤ 0 then a.2.1 else a.2.1 ++ [(m, zminl a.1 (vs (bs m).1 (wsum (bs m).2.1.2.2.2)))]), a.2.2 ++ vsT (bs m).1) := by unfold dstep; rw [if_neg hw]
        have f13 := (f1.tr3 f2 (T := fun z => z = 10 ∨ z = 26 ∨ z = o) (fun z q => q) (fun z q => Or.inr (Or.inr q))).tr3 f3 (T := fun z => z = 10 ∨ z = 26 ∨ z = o) (fun z q => q) (fun z q => q.elim Or.inl (fun q => Or.inr (Or.inl q)))
        refine Or.inl ⟨_, n, rfl, ⟨M3, g3, i + 1, dstep bs a m, ?_, by omega, ha, ?_, ?_, ?_, ?_, f13, b3⟩, by omega⟩
        · rw [hst, nI_1]
        · rw [hst]; dsimp only; split
          · omega
          · simp; omega
        · intro q hq
          rw [hst] at hq; dsimp only at hq
          split at hq
          · exact haq q hq
          · rcases List.mem_append.mp hq with hq | hq
            · exact haq q hq
            · rw [List.mem_singleton.mp hq]; exact hmn.1
        · rw [hst]; dsimp only
          by_cases hz : zminl a.1 (vs (bs m).1 (wsum (bs m).2.1.2.2.2)) ≤ 0
          · rw [if_pos hz, if_pos hz] at D3
            rw [if_pos hz]; exact D3
          · rw [if_neg hz, if_neg hz, List.append_assoc, ← dmix_snoc bs dw a.2.1 (m, zminl a.1 (vs (bs m).1 (wsum (bs m).2.1.2.2.2)))] at D3
            rw [if_neg hz]; exact D3
        · rw [hst]; exact T3
  · simp only [if_neg c5, zev_b1, zev_bd, zev_some, zev_gi, zev_gj, zev_gr, zev_pi, zev_pz, zev_pj, zev_pr, zev_rc, zev_cc, zev_b0, zev_bo, true_and, and_true, h.1]
    refine zev_mono (zDr_vessel h hx x (by omega) (h60 b hbn).1 hcd (h60 b hbn).2 hb) ?_
    rintro ⟨M3, u0⟩ hh
    dsimp only at hh ⊢
    obtain ⟨g3, D3, f3, b3⟩ := hh
    have T3 := ht.fr f3 (fun (q : o = 10 ∨ o = 26) => by omega)
    refine ⟨g3, ?_, by rw [tapp_nil ht.len]; exact T3, f3.mono (fun z q => q.elim Or.inl (fun q => Or.inr (Or.inl q))), b3⟩
    by_cases hz : x ≤ 0
    · rw [if_pos hz, if_pos hz] at D3
      rw [if_pos hz, List.append_nil]; exact D3
    · rw [if_neg hz, if_neg hz] at D3
      rw [if_neg hz]; exact D3
