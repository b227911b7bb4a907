/-! ArrayList. -/
theorem zFr.rr {M : Zm} {a : Nat} {g : Nat → Option Nat} {S : Nat → Prop} (h : S a) : zFr M (zm_rr M a g) S := ⟨rfl, rfl, Nat.le_refl _, Nat.le_refl _, fun _ _ => ⟨rfl, rfl⟩, fun x _ hs => ⟨rfl, rfl, zm_zN (fun e => hs (e ▸ h))⟩⟩
theorem yrr_r {M : Zm} {a x j : Nat} {g : Nat → Option Nat} : zm_r (zm_rr M a g) x j = if x = a then g j else zm_r M x j := by
  show zm_z _ _ _ _ _ = _
  by_cases h : x = a
  · simp [zm_z, h]
  · simp [zm_z, h]
theorem zev_sr {M : Zm} {a i t ck : Nat} {v : Option Nat} {Q : Zm → Prop} (h : i < 2 ^ 31) (hv : ∀ x ∈ v, zm_ok M x ∧ (ck ≠ 14 ∧ zm_k M x = ck ∨ ck = 14 ∧ (zm_k M x = 1 ∨ zm_k M x = 4))) : zev (zo_sr M t ck (some a) (nI i) v) Q ↔ ((zO M a t ∧ i < zm_l M a) ∧ Q (zm_pr M a i v)) := by
  refine zev_if.trans ?_
  rw [nI_clamp h]
  refine and_congr ⟨fun q => ⟨q.1.1, Nat.lt_of_not_le (fun z => q.1.2 (Or.inr z))⟩, fun q => ⟨⟨q.1, ?_⟩, hv⟩⟩ Iff.rfl
  have hq := q.2
  rintro (z | z)
  · exact nI_pos h z
  · omega
theorem zev_ae {M : Zm} {Q : Int32 → Prop} (h : zm_e M < zm_b M) : zev (zo_al M (some (zm_e M))) Q ↔ Q 0 := zev_eq (by
  unfold zo_al
  dsimp only
  rw [if_neg (fun q => by have := q.1.1; omega), if_pos rfl])
theorem zev_cr {M : Zm} {a b na nb n : Nat} {Q : Zm → Prop} (ha : zA M a 19 na) (hb : zA M b 19 nb) (hn : n < 2 ^ 31) (h1 : n ≤ na) (h2 : n ≤ nb) (hel : ∀ i, i < n → ∀ x ∈ zm_r M a i, zm_ok M x ∧ (zm_k M x = 1 ∨ zm_k M x = 4)) : zev (zo_cr M (some a) 0 (some b) 0 (nI n)) Q ↔ Q (zm_rr M b (va_cpy (zm_r M a) (zm_r M b) 0 0 n)) := by
  show zev (zo_cr M (some a) (nI 0) (some b) (nI 0) (nI n)) Q ↔ _
  obtain ⟨ha1, rfl⟩ := ha
  obtain ⟨hb1, rfl⟩ := hb
  refine zev_eq ?_
  have p0 : ¬ nI 0 < 0 := nI_pos (by decide)
  simp only [zo_cr, nI_clamp hn, nI_clamp (show 0 < 2 ^ 31 by decide)]
  rw [if_pos ⟨⟨⟨ha1, hb1⟩, ⟨p0, p0, nI_pos hn⟩, by omega, by omega⟩, fun i hi x hx => hel i hi x (by rw [Nat.zero_add] at hx; exact hx)⟩]
def zAl (M : Zm) (g : Zg) (o a : Nat) (el : List Nat) : Prop := zO M a 0 ∧ g.1 a = o ∧ zm_i M a 2 = nI el.length ∧ g.2 o ≤ 2000 ∧ (∀ m ∈ el, zm_ok M m ∧ (zm_k M m = 1 ∨ zm_k M m = 4)) ∧ ((zm_r M a 1 = some (zm_e M) ∧ zm_e M < zm_b M ∧ el = [] ∧ g.2 o = 0) ∨ (∃ da, zm_r M a 1 = some da ∧ zO M da 19 ∧ zm_l M da = g.2 o ∧ g.1 da = o ∧ el.length ≤ g.2 o ∧ 10 ≤ g.2 o ∧ (∀ i, i < g.2 o → zm_r M da i = el[i]?)))
theorem zFr.kd {M M' : Zm} {S : Nat → Prop} (f : zFr M M' S) {m : Nat} (h : zm_ok M m ∧ (zm_k M m = 1 ∨ zm_k M m = 4)) : zm_ok M' m ∧ (zm_k M' m = 1 ∨ zm_k M' m = 4) := ⟨f.ok h.1, by rw [(f.2.2.2.2.1 m h.1).1]; exact h.2⟩
theorem zAl.fr {M M' : Zm} {g g' : Zg} {T : Nat → Prop} {o a : Nat} {el : List Nat} (h : zAl M g o a el) (f : zFo M g M' g' T) (hn : ¬ T o) : zAl M' g' o a el := by
  obtain ⟨h1, h2, h3, h4, h5, h6⟩ := h
  have e1 := f.at h1.1 h2 hn
  have ec := f.2.2 o hn
  refine ⟨f.O h1, f.own h1.1 h2, by rw [e1.1]; exact h3, by rw [ec]; exact h4, fun m hm => f.1.kd (h5 m hm), ?_⟩
  rw [ec, e1.2.2]
  rcases h6 with ⟨r1, r2, r3, r4⟩ | ⟨da, r1, r2, r3, r4, r5, r6, r7⟩
  · have ee : zm_e M' = zm_e M := congrArg Prod.fst f.1.1
    left
    rw [ee, f.1.2.1]
    exact ⟨r1, r2, r3, r4⟩
  · have e2 := f.at r2.1 r4 hn
    exact Or.inr ⟨da, r1, f.O r2, (f.A (show zA M da 19 (g.2 o) from ⟨r2, r3⟩)).2, f.own r2.1 r4, r5, r6, fun i hi => by rw [e2.2.2]; exact r7 i hi⟩
theorem zAl.O {M : Zm} {g : Zg} {o a : Nat} {el : List Nat} (h : zAl M g o a el) : zO M a 0 := h.1
theorem zAl.cnt {M : Zm} {g : Zg} {o a : Nat} {el : List Nat} (h : zAl M g o a el) : zm_i M a 2 = nI el.length := h.2.2.1
theorem zAl.len {M : Zm} {g : Zg} {o a : Nat} {el : List Nat} (h : zAl M g o a el) : el.length ≤ 2000 := by
  obtain ⟨h1, h2, h3, h4, h5, h6⟩ := h
  rcases h6 with ⟨r1, r2, r3, r4⟩ | ⟨da, r1, r2, r3, r4, r5, r6, r7⟩
  · rw [r3]; exact Nat.zero_le _
  · omega
theorem zAl_size {M : Zm} {g : Zg} {o a : Nat} {el : List Nat} (h : zAl M g o a el) : zf_Jx4a65c_size_8abf5 M (some a) = some (M, nI el.length) := by
  have hz : zev (zf_Jx4a65c_size_8abf5 M (some a)) (fun y => y = (M, nI el.length)) := by
    simp only [zf_Jx4a65c_size_8abf5, zev_b1, zev_bd, zev_some, zev_gi, zev_gj, zev_gr, zev_pi, zev_pz, zev_pj, zev_pr, zev_rc, zev_cc, zev_b0, zev_bo, true_and, and_true, h.O, h.cnt]
  obtain ⟨y, hy, rfl⟩ := hz
  exact hy
theorem zAl_get {M : Zm} {g : Zg} {o a i m : Nat} {el : List Nat} (h : zAl M g o a el) (hi : el[i]? = some m) : zf_Jx4a65c_get_915e3 M (some a) (nI i) = some (M, some m) := by
  have hO := h.O
  have hcnt := h.cnt
  have hlen := h.len
  have hlt := (List.getElem?_eq_some_iff.mp hi).1
  have i31 : i < 2 ^ 31 := by omega
  have hz : zev (zf_Jx4a65c_get_915e3 M (some a) (nI i)) (fun y => y = (M, some m)) := by
    obtain ⟨h1, h2, h3, h4, h5, h6⟩ := h
    rcases h6 with ⟨r1, r2, r3, r4⟩ | ⟨da, r1, r2, r3, r4, r5, r6, r7⟩
    · rw [r3] at hlt; simp at hlt
    · have c1 : nI i < nI el.length := nI_lt hlt (by omega)
      simp only [zf_Jx4a65c_get_915e3, zf_J15_checkIndex_7cf53, zf_J3_checkIndex_8e157, zf_Jx4a65c_elementData_915e3, zev_b1, zev_bd, zev_some, zev_gi, zev_gj, zev_gr, zev_pi, zev_pz, zev_pj, zev_pr, zev_rc, zev_cc, zev_b0, zev_bo, true_and, and_true, hO, hcnt, if_neg (nI_pos i31), if_pos c1, r1, zev_ar2 i31, r2, r3, show i < g.2 o by omega, r7 i (by omega), hi]
  obtain ⟨y, hy, rfl⟩ := hz
  exact hy
theorem zAl_put {M : Zm} {g : Zg} {o a da m k : Nat} {el : List Nat} (hA : zO M a 0) (ga : g.1 a = o) (hd : zO M da 19) (gd : g.1 da = o) (hl : zm_l M da = g.2 o) (h1 : el.length < g.2 o) (h10 : 10 ≤ g.2 o) (h2k : g.2 o ≤ 2000) (hr : zm_r M a 1 = some da) (hc : ∀ i, i < g.2 o → zm_r M da i = el[i]?) (hel : ∀ m ∈ el, zm_ok M m ∧ (zm_k M m = 1 ∨ zm_k M m = 4)) (hm : zm_ok M m ∧ (zm_k M m = 1 ∨ zm_k M m = 4)) (hb : zBu M g k) : zev (zf_Jx4a65c_add_72be8_J11 M (some a) (some m) (some da) (nI el.length)) (fun y => zAl y.1 g o a (el ++ [m]) ∧ zFo M g y.1 g (fun z => z = o) ∧ zBu y.1 g k) := by
  have ad : ¬ a = da := zkne hA.2 hd.2 (by decide)
  have hv : ∀ x ∈ some m, zm_ok M x ∧ ((14 : Nat) ≠ 14 ∧ zm_k M x = 14 ∨ (14 : Nat) = 14 ∧ (zm_k M x = 1 ∨ zm_k M x = 4)) := fun x hx => by cases hx; exact ⟨hm.1, Or.inr ⟨rfl, hm.2⟩⟩
  simp only [zf_Jx4a65c_add_72be8_J11, zev_b1, zev_bd, zev_some, zev_gi, zev_gj, zev_gr, zev_pi, zev_pz, zev_pj, zev_pr, zev_rc, zev_cc, zev_b0, zev_bo, true_and, and_true, ypi_i, ypj_j, ypr_r, zpi_j, zpi_r, zpj_i, zpj_r, zpr_i, zpr_j, ypi_O, ypj_O, ypr_O, zpi_l, zpj_l, zpr_l, zpi_b, zpi_c, zpj_b, zpj_c, zpr_b, zpr_c, zpi_s, zpj_s, zpr_s, zev_sr (show el.length < 2 ^ 31 by omega) hv, hd, hl, h1, hA]
  refine ⟨⟨hA, ga, ?_, h2k, fun x hx => ?_, Or.inr ⟨da, ?_, hd, hl, gd, by simp; omega, h10, fun i hi => ?_⟩⟩, (zFo.pr gd).tr (zFo.pi ga), hb.same rfl rfl⟩
  · rw [ypi_i, if_pos ⟨rfl, rfl⟩, nI_1]; simp
  · rcases List.mem_append.mp hx with q | q
    · exact hel x q
    · rw [List.mem_singleton.mp q]; exact hm
  · rw [zpi_r, ypr_r, if_neg (fun e => ad e.1)]; exact hr
  · rw [zpi_r, ypr_r]
    by_cases hj : i = el.length
    · rw [if_pos ⟨rfl, hj⟩, hj, List.getElem?_append_right (Nat.le_refl _)]; simp
    · rw [if_neg (fun e => hj e.2), hc i hi]
      by_cases hlt : i < el.length
      · rw [List.getElem?_append_left hlt]
      · rw [List.getElem?_eq_none (by omega), List.getElem?_eq_none (by simp; omega)]
theorem zAl.mc {M : Zm} {g : Zg} {o a : Nat} {el : List Nat} {v : Int32} (h : zAl M g o a el) : zAl (zm_pi M a 0 v) g o a el := by
  obtain ⟨h1, h2, h3, h4, h5, h6⟩ := h
  exact ⟨h1, h2, by rw [ypi_i, if_neg (fun e => by have := e.2; omega)]; exact h3, h4, h5, h6⟩
theorem zAl_add2 {M : Zm} {g : Zg} {o a m k : Nat} {el : List Nat} {r : Option Nat} (h : zAl M g o a el) (hr : zm_r M a 1 = r) (hl : el.length < 1000) (ho : o < 3100) (hz : 2000 ≤ zcm o) (hm : zm_ok M m ∧ (zm_k M m = 1 ∨ zm_k M m = 4)) (hb : zBu M g k) : zev (zf_Jx4a65c_add_72be8 M (some a) (some m) r (nI el.length)) (fun y => ∃ g', zAl y.1 g' o a (el ++ [m]) ∧ zFo M g y.1 g' (fun z => z = o) ∧ zBu y.1 g' k) := by
  obtain ⟨h1, h2, h3, h4, h5, h6⟩ := h
  have hup : ∀ c, g.2 o ≤ c → c ≤ zcm o → zcd (zgx g o (zm_b M + zm_c M) (zm_b M + zm_c M) c).2 3100 + (c - g.2 o) = zcd g.2 3100 := fun c q1 q2 => by
    have := zcd_up (f := g.2) (f' := (zgx g o (zm_b M + zm_c M) (zm_b M + zm_c M) c).2) (o := o) (fun x hx => zgx_2n hx) (by rw [zgx_2]; exact q1) (by rw [zgx_2]; exact q2) 3100 ho
    rw [zgx_2] at this
    exact this
  have na : a ≠ zm_b M + zm_c M := zO_ne h1
  have nok : ¬ zm_ok M (zm_b M + zm_c M) := fun q => by have := q.2; omega
  have b1 := hb.1
  have b2 := hb.2
  rcases h6 with ⟨r1, r2, r3, r4⟩ | ⟨da, r1, r2, r3, r4, r5, r6, r7⟩
  · subst r3
    rw [r1] at hr
    subst hr
    have hu := hup 10 (by omega) (by omega)
    have e10 : zmaxi 10 (nI ([] : List Nat).length + 1) = nI 10 := by decide
    have z00 : ¬ (0 : Int32) < 0 := by decide
    have e0 : nI ([] : List Nat).length = 0 := rfl
    simp only [zf_Jx4a65c_add_72be8, zev_b1, zev_bd, zev_some, zev_gi, zev_gj, zev_gr, zev_pi, zev_pz, zev_pj, zev_pr, zev_rc, zev_cc, zev_b0, zev_bo, true_and, and_true, zev_ae r2, if_pos e0, h1, zf_Jx4a65c_grow_d5877, h3, zf_Jx4a65c_grow_92f84, r1, if_neg z00, if_true, e10, zm_nx]
    refine zev_new (n := 10) rfl (by decide) (by omega) (by omega) (fun M2 f2 A2 c2 s2 z2 => ?_)
    refine ⟨f2.ob h1, ?_⟩
    have f3 : zFr M2 (zm_pr M2 a 1 (some (zm_b M + zm_c M))) (fun x => x = a) := zFr.pr rfl
    have r3 : zm_r (zm_pr M2 a 1 (some (zm_b M + zm_c M))) a 1 = some (zm_b M + zm_c M) := by rw [ypr_r, if_pos ⟨rfl, rfl⟩]
    have z3 : ∀ j, zm_r (zm_pr M2 a 1 (some (zm_b M + zm_c M))) (zm_b M + zm_c M) j = none := fun j => by rw [ypr_r, if_neg (fun e => na e.1.symm)]; exact (z2 j).2.2
    have c3 : zm_c (zm_pr M2 a 1 (some (zm_b M + zm_c M))) = zm_c M + 1 := c2
    have s3 : zm_s (zm_pr M2 a 1 (some (zm_b M + zm_c M))) = zm_s M + 10 := s2
    generalize zm_pr M2 a 1 (some (zm_b M + zm_c M)) = M3 at f3 r3 z3 c3 s3 ⊢
    have ff : zFr M M3 (fun x => x = a) := (f2.mono (fun _ _ q => q.elim)).tr f3
    have fo : zFo M g M3 (zgx g o (zm_b M + zm_c M) (zm_b M + zm_c M) 10) (fun z => z = o) := zgx_fo (ff.mono (fun x _ q => by rw [q]; exact h2)) rfl nok nok
    have hb' : zBu M3 (zgx g o (zm_b M + zm_c M) (zm_b M + zm_c M) 10) k := zBu_gx (ds := 10) (dc := 1) hb ho (by omega) (by omega) s3 c3 (by omega) (by omega)
    have A3 := f3.ar A2
    refine zev_mono (zAl_put (g := zgx g o (zm_b M + zm_c M) (zm_b M + zm_c M) 10) (ff.ob h1) (fo.own h1.1 h2) A3.1 zgx_1p (by rw [zgx_2]; exact A3.2) (by rw [zgx_2]; decide) (by rw [zgx_2]; decide) (by rw [zgx_2]; decide) r3 (fun i _ => z3 i) (fun x hx => by cases hx) (ff.kd hm) hb') ?_
    rintro y ⟨q1, q2, q3⟩
    exact ⟨_, q1, fo.tr q2, q3⟩
  · rw [r1] at hr
    subst hr
    by_cases hfull : el.length = g.2 o
    · have hcap : 10 ≤ g.2 o := r6
      have hn31 : g.2 o + g.2 o / 2 < 2 ^ 31 := by omega
      have hu := hup (g.2 o + g.2 o / 2) (by omega) (by omega)
      have cpos : (0 : Int32) < nI (g.2 o) := nI_lt (a := 0) (by omega) (by omega)
      have eS : nI (el.length + 1) - nI (g.2 o) = nI 1 := by rw [pk_sub (by omega)]; congr 1; omega
      have eH : nI (g.2 o) >>> ((1 : Int32) &&& 31) = nI (g.2 o / 2) := by rw [pk_shrN (by omega) _ 1 (by decide)]
      have eM : zmaxi (nI 1) (nI (g.2 o / 2)) = nI (g.2 o / 2) := by
        unfold zmaxi; rw [if_pos (nI_lt (by omega) (by omega))]
      have cA : ¬ nI (g.2 o + g.2 o / 2) ≤ 0 := nI_ge (a := 0) (by omega) (by omega)
      have cB : ¬ (2147483639 : Int32) < nI (g.2 o + g.2 o / 2) := nI_nlt (b := g.2 o + g.2 o / 2) (a := 2147483639) (by omega) (by decide)
      have eN : zmini (nI (g.2 o)) (nI (g.2 o + g.2 o / 2)) = nI (g.2 o) := by
        unfold zmini; rw [if_neg (nI_nlt (by omega) (by omega))]
      have eF : nI el.length = nI (g.2 o) := by rw [hfull]
      simp only [zf_Jx4a65c_add_72be8, zev_b1, zev_bd, zev_some, zev_gi, zev_gj, zev_gr, zev_pi, zev_pz, zev_pj, zev_pr, zev_rc, zev_cc, zev_b0, zev_bo, true_and, and_true, zev_al2 r2 (by decide) (by decide), r3, if_pos eF, h1, zf_Jx4a65c_grow_d5877, h3, zf_Jx4a65c_grow_92f84, r1, if_pos cpos, zf_Jx4a65c_grow_92f84_J20, zf_J8_newLength_cabcc, nI_1, eS, eH, eM, if_neg cA, if_neg cB, zf_J7_copyOf_1904c, zf_J7_copyOf_6403c, zf_J7_copyOf_6403c_J24, r2, if_true, nI_add, zm_nx]
      have b3 : zm_c M + 1 ≤ 600000 := by omega
      have b4 : zm_s M + (g.2 o + g.2 o / 2) ≤ 7302250 := by omega
      refine zev_new (n := g.2 o + g.2 o / 2) rfl hn31 b3 b4 (fun M2 f2 A2 c2 s2 z2 => ?_)
      have hA0 : zA M2 da 19 (g.2 o) := f2.ar (show zAr M da 19 (g.2 o) from ⟨r2, r3⟩)
      have dn : da ≠ zm_b M + zm_c M := zO_ne r2
      have rd : ∀ i, zm_r M2 da i = zm_r M da i := fun i => by rw [(f2.2.2.2.2.2 da r2.1 id).2.2]
      refine (zev_al2 hA0.1 (by decide) (by decide)).mpr ?_
      rw [hA0.2, eN]
      refine (zev_cr hA0 A2 (by omega) (Nat.le_refl _) (by omega) (fun i hi x hx => ?_)).mpr ?_
      · rw [rd i, r7 i hi] at hx
        exact f2.kd (h5 x (List.mem_of_getElem? hx))
      have f3 : zFr M2 (zm_rr M2 (zm_b M + zm_c M) (va_cpy (zm_r M2 da) (zm_r M2 (zm_b M + zm_c M)) 0 0 (g.2 o))) (fun x => x = zm_b M + zm_c M) := zFr.rr rfl
      have z3 : ∀ j, zm_r (zm_rr M2 (zm_b M + zm_c M) (va_cpy (zm_r M2 da) (zm_r M2 (zm_b M + zm_c M)) 0 0 (g.2 o))) (zm_b M + zm_c M) j = if j < g.2 o then zm_r M da j else none := fun j => by
        rw [yrr_r, if_pos rfl]
        by_cases hj : j < g.2 o
        · rw [if_pos hj, pk_cpy_in (Nat.zero_le _) (by omega), Nat.zero_add, Nat.sub_zero, rd]
        · rw [if_neg hj, pk_cpy_out (Or.inr (by omega))]; exact (z2 j).2.2
      have c3 : zm_c (zm_rr M2 (zm_b M + zm_c M) (va_cpy (zm_r M2 da) (zm_r M2 (zm_b M + zm_c M)) 0 0 (g.2 o))) = zm_c M + 1 := c2
      have s3 : zm_s (zm_rr M2 (zm_b M + zm_c M) (va_cpy (zm_r M2 da) (zm_r M2 (zm_b M + zm_c M)) 0 0 (g.2 o))) = zm_s M + (g.2 o + g.2 o / 2) := s2
      generalize zm_rr M2 (zm_b M + zm_c M) (va_cpy (zm_r M2 da) (zm_r M2 (zm_b M + zm_c M)) 0 0 (g.2 o)) = M3 at f3 z3 c3 s3 ⊢
      have f03 : zFr M M3 (fun x => x = a) := (f2.mono (S' := fun x => x = a) (fun _ _ q => q.elim)).tr2 f3 (fun x hx e => absurd (e ▸ hx) nok)
      refine ⟨f03.ob h1, ?_⟩
      have f4 : zFr M3 (zm_pr M3 a 1 (some (zm_b M + zm_c M))) (fun x => x = a) := zFr.pr rfl
      have r4' : zm_r (zm_pr M3 a 1 (some (zm_b M + zm_c M))) a 1 = some (zm_b M + zm_c M) := by rw [ypr_r, if_pos ⟨rfl, rfl⟩]
      have z4 : ∀ j, zm_r (zm_pr M3 a 1 (some (zm_b M + zm_c M))) (zm_b M + zm_c M) j = if j < g.2 o then zm_r M da j else none := fun j => by rw [ypr_r, if_neg (fun e => na e.1.symm)]; exact z3 j
      have c4 : zm_c (zm_pr M3 a 1 (some (zm_b M + zm_c M))) = zm_c M + 1 := c3
      have s4 : zm_s (zm_pr M3 a 1 (some (zm_b M + zm_c M))) = zm_s M + (g.2 o + g.2 o / 2) := s3
      generalize zm_pr M3 a 1 (some (zm_b M + zm_c M)) = M4 at f4 r4' z4 c4 s4 ⊢
      have ff : zFr M M4 (fun x => x = a) := f03.tr f4
      have A4 := f4.ar (f3.ar A2)
      have fo : zFo M g M4 (zgx g o (zm_b M + zm_c M) (zm_b M + zm_c M) (g.2 o + g.2 o / 2)) (fun z => z = o) := zgx_fo (ff.mono (fun x _ q => by rw [q]; exact h2)) rfl nok nok
      have hb' : zBu M4 (zgx g o (zm_b M + zm_c M) (zm_b M + zm_c M) (g.2 o + g.2 o / 2)) k := zBu_gx (ds := g.2 o + g.2 o / 2) (dc := 1) hb ho (by omega) (by omega) s4 c4 (by omega) (by omega)
      refine zev_mono (zAl_put (g := zgx g o (zm_b M + zm_c M) (zm_b M + zm_c M) (g.2 o + g.2 o / 2)) (ff.ob h1) (fo.own h1.1 h2) A4.1 zgx_1p (by rw [zgx_2]; exact A4.2) (by rw [zgx_2]; omega) (by rw [zgx_2]; omega) (by rw [zgx_2]; omega) r4' (fun i hi => ?_) (fun x hx => ff.kd (h5 x hx)) (ff.kd hm) hb') ?_
      · rw [z4 i]
        by_cases hlt : i < g.2 o
        · rw [if_pos hlt]; exact r7 i hlt
        · rw [if_neg hlt, List.getElem?_eq_none (by omega)]
      · rintro y ⟨q1, q2, q3⟩
        exact ⟨_, q1, fo.tr q2, q3⟩
    · have c1 : ¬ nI el.length = nI (g.2 o) := fun e => hfull ((nI_eq (by omega) (by omega)).mp e)
      simp only [zf_Jx4a65c_add_72be8, zev_b1, zev_bd, zev_some, zev_gi, zev_gj, zev_gr, zev_pi, zev_pz, zev_pj, zev_pr, zev_rc, zev_cc, zev_b0, zev_bo, true_and, and_true, zev_al2 r2 (by decide) (by decide), r3, if_neg c1]
      refine zev_mono (zAl_put h1 h2 r2 r4 r3 (by omega) r6 h4 r1 r7 h5 hm hb) ?_
      rintro y ⟨q1, q2, q3⟩
      exact ⟨g, q1, q2, q3⟩
theorem zAl_add {M : Zm} {g : Zg} {o a m k : Nat} {el : List Nat} (h : zAl M g o a el) (hl : el.length < 1000) (ho : o < 3100) (hz : 2000 ≤ zcm o) (hm : zm_ok M m ∧ (zm_k M m = 1 ∨ zm_k M m = 4)) (hb : zBu M g k) : zev (zf_Jx4a65c_add_9ea2d M (some a) (some m)) (fun y => ∃ g', zAl y.1 g' o a (el ++ [m]) ∧ zFo M g y.1 g' (fun z => z = o) ∧ zBu y.1 g' k) := by
  have h1 := h.O
  have hc : zm_i (zm_pi M a 0 (zm_i M a 0 + 1)) a 2 = nI el.length := h.mc.cnt
  simp only [zf_Jx4a65c_add_9ea2d, zev_b1, zev_bd, zev_some, zev_gi, zev_gj, zev_gr, zev_pi, zev_pz, zev_pj, zev_pr, zev_rc, zev_cc, zev_b0, zev_bo, true_and, and_true, h1, ypi_O, hc]
  refine zev_mono (zAl_add2 (g := g) (k := k) (h.mc (v := zm_i M a 0 + 1)) rfl hl ho hz hm (hb.same rfl rfl)) ?_
  rintro y ⟨g', q1, q2, q3⟩
  exact ⟨g', q1, (zFo.pi h.2.1).tr q2, q3⟩
theorem zAl_clear {M : Zm} {g : Zg} {o a k : Nat} {el : List Nat} (h : zAl M g o a el) (hb : zBu M g k) : zev (zf_Jx4a65c_clear_da8c8 M (some a)) (fun y => zAl y.1 g o a [] ∧ zFo M g y.1 g (fun z => z = o) ∧ zBu y.1 g k) := by
  have hlen := h.len
  obtain ⟨h1, h2, h3, h4, h5, h6⟩ := h
  have hc : zm_i (zm_pi M a 0 (zm_i M a 0 + 1)) a 2 = nI el.length := by rw [ypi_i, if_neg (fun e => by have := e.2; omega)]; exact h3
  rcases h6 with ⟨r1, r2, r3, r4⟩ | ⟨da, r1, r2, r3, r4, r5, r6, r7⟩
  · subst r3
    have e0 : nI ([] : List Nat).length ≤ (0 : Int32) := by decide
    simp only [zf_Jx4a65c_clear_da8c8, zev_b1, zev_bd, zev_some, zev_gi, zev_gj, zev_gr, zev_pi, zev_pz, zev_pj, zev_pr, zev_rc, zev_cc, zev_b0, zev_bo, true_and, and_true, ypi_i, ypj_j, ypr_r, zpi_j, zpi_r, zpj_i, zpj_r, zpr_i, zpr_j, ypi_O, ypj_O, ypr_O, zpi_l, zpj_l, zpr_l, zpi_b, zpi_c, zpj_b, zpj_c, zpr_b, zpr_c, zpi_s, zpj_s, zpr_s, h1, Nat.reduceEqDiff, if_false, h3, r1]
    rw [zev_eq (zwhile_end (y := (_, (0 : Int32))) (by simp only [zf_Jx4a65c_clear_da8c8_L27]; rw [if_pos e0]))]
    exact ⟨⟨h1, h2, by rw [ypi_i, if_pos ⟨rfl, rfl⟩]; rfl, h4, h5, Or.inl ⟨r1, r2, rfl, r4⟩⟩, (zFo.pi h2).tr (zFo.pi h2), hb.same rfl rfl⟩
  · have ad : ¬ a = da := zkne h1.2 r2.2 (by decide)
    simp only [zf_Jx4a65c_clear_da8c8, zev_b1, zev_bd, zev_some, zev_gi, zev_gj, zev_gr, zev_pi, zev_pz, zev_pj, zev_pr, zev_rc, zev_cc, zev_b0, zev_bo, true_and, and_true, ypi_i, ypj_j, ypr_r, zpi_j, zpi_r, zpj_i, zpj_r, zpr_i, zpr_j, ypi_O, ypj_O, ypr_O, zpi_l, zpj_l, zpr_l, zpi_b, zpi_c, zpj_b, zpj_c, zpr_b, zpr_c, zpi_s, zpj_s, zpr_s, h1, Nat.reduceEqDiff, if_false, h3, r1]
    refine zev_up (τ := Zm × Int32) (fun i (z : Zm × Int32) => ∃ M1, z = (M1, nI i) ∧ zFo M g M1 g (fun z => z = o) ∧ zm_i M1 a 2 = 0 ∧ zm_r M1 a = zm_r M a ∧ (∀ j, j < g.2 o → zm_r M1 da j = if j < i then none else el[j]?) ∧ zm_c M1 = zm_c M ∧ zm_s M1 = zm_s M) el.length (i := 0) (Nat.zero_le _) ⟨_, rfl, (zFo.pi h2).tr (zFo.pi h2), by rw [ypi_i, if_pos ⟨rfl, rfl⟩], rfl, fun j hj => by rw [if_neg (by omega)]; exact r7 j hj, rfl, rfl⟩ ?_ ?_
    · rintro i z hi ⟨M1, rfl, f, e2, er, hc1, hcc, hss⟩
      have hd := f.O r2
      have ld : zm_l M1 da = g.2 o := (f.A (show zA M da 19 (g.2 o) from ⟨r2, r3⟩)).2
      have c1 : ¬ nI el.length ≤ nI i := nI_ge hi (by omega)
      simp only [zf_Jx4a65c_clear_da8c8_L27, if_neg c1, zev_b1, zev_bd, zev_some, zev_gi, zev_gj, zev_gr, zev_pi, zev_pz, zev_pj, zev_pr, zev_rc, zev_cc, zev_b0, zev_bo, true_and, and_true, zev_sr (v := none) (ck := 14) (M := M1) (show i < 2 ^ 31 by omega) (fun x hx => by cases hx), hd, ld, show i < g.2 o by omega]
      refine ⟨_, rfl, _, p2 (nI_1 _), f.tr (zFo.pr r4), e2, ?_, fun j hj => ?_, hcc, hss⟩
      · funext j
        rw [ypr_r, if_neg (fun e => ad e.1), er]
      · rw [ypr_r]
        by_cases hj2 : j = i
        · rw [if_pos ⟨rfl, hj2⟩, if_pos (by omega)]
        · rw [if_neg (fun e => hj2 e.2), hc1 j hj]
          by_cases hlt : j < i
          · rw [if_pos hlt, if_pos (by omega)]
          · rw [if_neg hlt, if_neg (by omega)]
    · rintro z ⟨M1, rfl, f, e2, er, hc1, hcc, hss⟩
      have c1 : nI el.length ≤ nI el.length := nI_le (Nat.le_refl _) (by omega)
      simp only [zf_Jx4a65c_clear_da8c8_L27, if_pos c1, zev_b1, zev_bd, zev_some, zev_gi, zev_gj, zev_gr, zev_pi, zev_pz, zev_pj, zev_pr, zev_rc, zev_cc, zev_b0, zev_bo, true_and, and_true]
      have hd := f.O r2
      have ld : zm_l M1 da = g.2 o := (f.A (show zA M da 19 (g.2 o) from ⟨r2, r3⟩)).2
      refine ⟨_, rfl, ⟨f.O h1, h2, e2, h4, fun m hm => (by cases hm), Or.inr ⟨da, by rw [er]; exact r1, hd, ld, r4, Nat.zero_le _, r6, fun j hj => ?_⟩⟩, f, hb.same hss hcc⟩
      rw [hc1 j hj]
      by_cases hlt : j < el.length
      · rw [if_pos hlt]; rfl
      · rw [if_neg hlt, List.getElem?_eq_none (by omega)]; rfl
/-- the last one goes -/
theorem zAl_remove {M : Zm} {g : Zg} {o a m k : Nat} {el : List Nat} (h : zAl M g o a (el ++ [m])) (hb : zBu M g k) : zev (zf_Jx4a65c_remove_915e3 M (some a) (nI el.length)) (fun y => zAl y.1 g o a el ∧ zFo M g y.1 g (fun z => z = o) ∧ zBu y.1 g k) := by
  have hlen := h.len
  obtain ⟨h1, h2, h3, h4, h5, h6⟩ := h
  simp only [List.length_append, List.length_singleton] at hlen h3
  have hc : zm_i (zm_pi M a 0 (zm_i M a 0 + 1)) a 2 = nI (el.length + 1) := by rw [ypi_i, if_neg (fun e => by have := e.2; omega)]; exact h3
  rcases h6 with ⟨r1, r2, r3, r4⟩ | ⟨da, r1, r2, r3, r4, r5, r6, r7⟩
  · simp at r3
  · have ad : ¬ a = da := zkne h1.2 r2.2 (by decide)
    simp only [List.length_append, List.length_singleton] at r5
    have i31 : el.length < 2 ^ 31 := by omega
    have c1 : nI el.length < nI (el.length + 1) := nI_lt (by omega) (by omega)
    have e1 : nI (el.length + 1) - 1 = nI el.length := nI_pred _
    have c2 : nI el.length ≤ nI el.length := nI_le (Nat.le_refl _) i31
    simp only [zf_Jx4a65c_remove_915e3, zf_J15_checkIndex_7cf53, zf_J3_checkIndex_8e157, zf_Jx4a65c_fastRemove_b59b0, zf_Jx4a65c_fastRemove_b59b0_J34, zev_b1, zev_bd, zev_some, zev_gi, zev_gj, zev_gr, zev_pi, zev_pz, zev_pj, zev_pr, zev_rc, zev_cc, zev_b0, zev_bo, true_and, and_true, ypi_i, ypj_j, ypr_r, zpi_j, zpi_r, zpj_i, zpj_r, zpr_i, zpr_j, ypi_O, ypj_O, ypr_O, zpi_l, zpj_l, zpr_l, zpi_b, zpi_c, zpj_b, zpj_c, zpr_b, zpr_c, zpi_s, zpj_s, zpr_s, h1, h3, if_neg (nI_pos i31), if_pos c1, r1, zev_ar2 i31, r2, r3, show el.length < g.2 o by omega, Nat.reduceEqDiff, if_false, e1, if_pos c2]
    refine (zev_sr (v := none) (ck := 14) i31 (fun x hx => by cases hx)).mpr ⟨⟨r2, by show _ < zm_l M da; omega⟩, ?_⟩
    refine ⟨⟨h1, h2, ?_, h4, fun x hx => h5 x (List.mem_append_left _ hx), Or.inr ⟨da, ?_, r2, r3, r4, by omega, r6, fun j hj => ?_⟩⟩, ((zFo.pi h2).tr (zFo.pi h2)).tr (zFo.pr r4), hb.same rfl rfl⟩
    · rw [zpr_i, ypi_i, if_pos ⟨rfl, rfl⟩]
    · rw [ypr_r, if_neg (fun e => ad e.1)]; exact r1
    · rw [ypr_r]
      by_cases hj2 : j = el.length
      · rw [if_pos ⟨rfl, hj2⟩, List.getElem?_eq_none (by omega)]
      · rw [if_neg (fun e => hj2 e.2)]
        show zm_r M da j = _
        rw [r7 j hj]
        by_cases hlt : j < el.length
        · rw [List.getElem?_append_left hlt]
        · rw [List.getElem?_eq_none (by simp; omega), List.getElem?_eq_none (by omega)]
