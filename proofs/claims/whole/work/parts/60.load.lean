/-! THE CLASS LOADS ITS MATCHING -/
abbrev lm_c (M : gq_M) : Nat := (gq_f M 1).toInt.toNat
def rn_A (M : gq_M) : Prop := ∀ p : Int, 0 ≤ p → p < (gq_f M 1).toInt → 0 ≤ (gq_i M 3 p).toInt ∧ (gq_i M 3 p).toInt < 200
def ru_c (M : gq_M) (pr : Int32) (N : Int → Int) (t q : Int) : Int := rc_c M (N q) t + (if pr = 0 then 0 else rc_c M (N (gq_i M 5 q).toInt) (gq_i M 5 t).toInt)
/-- arrays that tell of pins and nets are the same -/
def rs_E (M M2 : gq_M) : Prop := gq_i M2 1 = gq_i M 1 ∧ gq_i M2 2 = gq_i M 2 ∧ gq_i M2 4 = gq_i M 4 ∧ gq_i M2 5 = gq_i M 5 ∧ gq_i M2 6 = gq_i M 6 ∧ gq_i M2 7 = gq_i M 7 ∧ gq_i M2 8 = gq_i M 8 ∧ gq_i M2 9 = gq_i M 9 ∧ (gq_l M2 0 = gq_l M 0 ∧ gq_l M2 1 = gq_l M 1 ∧ gq_l M2 2 = gq_l M 2 ∧ gq_l M2 3 = gq_l M 3) ∧ gq_f M2 0 = gq_f M 0 ∧ gq_f M2 1 = gq_f M 1
theorem rs_of {P Q E : Nat → Prop} {M M2 : gq_M} (h : pf_G P Q E M M2) (hP : ∀ a, a < 10 → a ≠ 3 → ¬ P a) (hQ : ∀ a, a < 4 → ¬ Q a) (hE : ∀ a, a < 2 → ¬ E a) : rs_E M M2 :=
  ⟨h.1 1 (hP 1 (by omega) (by omega)), h.1 2 (hP 2 (by omega) (by omega)), h.1 4 (hP 4 (by omega) (by omega)), h.1 5 (hP 5 (by omega) (by omega)), h.1 6 (hP 6 (by omega) (by omega)), h.1 7 (hP 7 (by omega) (by omega)), h.1 8 (hP 8 (by omega) (by omega)), h.1 9 (hP 9 (by omega) (by omega)),
   ⟨h.2.1 0 (hQ 0 (by omega)), h.2.1 1 (hQ 1 (by omega)), h.2.1 2 (hQ 2 (by omega)), h.2.1 3 (hQ 3 (by omega))⟩, h.2.2.1 0 (hE 0 (by omega)), h.2.2.1 1 (hE 1 (by omega))⟩
theorem rs_C {M M2 W : gq_M} (h : rs_E M M2) (hC : rp_C M W) : rp_C M2 W := by
  obtain ⟨e1, e2, e4, e5, e6, e7, e8, e9, ⟨l0, l1, l2, l3⟩, f0, f1⟩ := h
  unfold rp_C
  rw [f0, f1]
  exact hC
theorem rs_S {M M2 W : gq_M} (h : rs_E M M2) (hS : rp_S M W) : rp_S M2 W := by
  obtain ⟨e1, e2, e4, e5, e6, e7, e8, e9, ⟨l0, l1, l2, l3⟩, f0, f1⟩ := h
  unfold rp_S rp_pp
  rw [e1, e2, e4, e5, e6, e7, l0, l1, f0, f1]
  exact hS
theorem rs_T {M M2 W : gq_M} (h : rs_E M M2) (hT : rp_T M W) : rp_T M2 W := by
  obtain ⟨e1, e2, e4, e5, e6, e7, e8, e9, ⟨l0, l1, l2, l3⟩, f0, f1⟩ := h
  unfold rp_T
  rw [e8, e9, l2, l3]
  exact hT
theorem rs_c {M M2 : gq_M} (h : rs_E M M2) : rc_c M2 = rc_c M := by
  obtain ⟨e1, e2, e4, e5, e6, e7, e8, e9, ⟨l0, l1, l2, l3⟩, f0, f1⟩ := h
  funext q p
  unfold rc_c
  rw [e8, e9, e2, l0, l1, l2, l3]
theorem rs_u {M M2 : gq_M} (h : rs_E M M2) (pr : Int32) (N : Int → Int) : ru_c M2 pr N = ru_c M pr N := by
  have hc := rs_c h
  obtain ⟨e1, e2, e4, e5, -⟩ := h
  funext t q
  unfold ru_c
  rw [hc, e5]
theorem rs_L {M M2 : gq_M} (h : rs_E M M2) (g pr : Int32) (c : Nat) : un_L M2 g pr c = un_L M g pr c := un_Lc h.1 h.2.2.2.1 h.2.2.2.2.1 h.2.2.2.2.2.1 c
/-- what a unit is -/
theorem un_is {M W : gq_M} {g pr : Int32} {p : Int} (hS : rp_S M W) (hp : 0 ≤ p ∧ p < (gq_f M 1).toInt) (h : un_b M g pr p = true) : gq_i M 1 p = g ∧ gq_i M 6 p = 0 ∧ ((pr = 0 ∧ gq_i M 5 p = -1) ∨ (pr = 1 ∧ 0 ≤ (gq_i M 5 p).toInt ∧ (gq_i M 5 p).toInt < (gq_f M 1).toInt ∧ (gq_i M 5 p).toInt ≠ p ∧ (gq_i M 5 (gq_i M 5 p).toInt).toInt = p ∧ gq_i M 1 (gq_i M 5 p).toInt = g ∧ gq_i M 6 (gq_i M 5 p).toInt = 1 ∧ gq_i M 5 p ≠ -1)) := by
  obtain ⟨-, -, -, -, -, -, hpp⟩ := hS p hp.1 hp.2
  unfold un_b at h
  simp only [Bool.and_eq_true, decide_eq_true_eq] at h
  obtain ⟨h1, h2, h3, h4, h5⟩ := h
  refine ⟨h1, h2, ?_⟩
  by_cases e5 : gq_i M 5 p = -1
  · rw [if_pos e5] at h3
    exact Or.inl ⟨by simpa using h3, e5⟩
  · rw [if_neg e5] at h3
    rcases hpp with g1 | ⟨g1, g2, g3, g4, g5, g6⟩
    · exact absurd g1.1 e5
    · refine Or.inr ⟨by simpa using h3, g1, g2, g3, g4, g5.trans h1, ?_, e5⟩
      rcases g6 with k | k
      · exact k.2.2
      · rw [h2] at k
        exact absurd k.1 (by decide)
theorem lm_uc {M W : gq_M} {g pr t q : Int32} (hC : rp_C M W) (hS : rp_S M W) (hT : rp_T M W) (hN : rn_A M) (ht : 0 ≤ t.toInt ∧ t.toInt < (gq_f M 1).toInt) (hq : 0 ≤ q.toInt ∧ q.toInt < (gq_f M 1).toInt) (ut : un_b M g pr t.toInt = true) (uq : un_b M g pr q.toInt = true) : ∃ z : Int64, fn_PS_unitCost t q M = some z ∧ z.toInt = ru_c M pr (pv_i M 3) t.toInt q.toInt ∧ 0 ≤ z.toInt ∧ z.toInt ≤ 2008000000 := by
  have h80 := hC.2.2
  obtain ⟨-, -, it⟩ := un_is hS ht ut
  obtain ⟨-, -, iq⟩ := un_is hS hq uq
  have hn := hN q.toInt hq.1 hq.2
  obtain ⟨z1, a1, a2⟩ := rc_cls (a := gq_i M 3 q.toInt) (b := t) hC hS hT hn ht
  have b1 := rc_bd hS hT hn ht
  unfold fn_PS_unitCost ru_c
  rw [if_pos (by omega), a1, Option.bind_some]
  unfold fn_Pi_isPaired
  rw [if_pos (by omega)]
  rcases it with ⟨e, i5⟩ | ⟨e, i1, i2, i3, i4, -, -, i5⟩
  · rw [if_pos i5, Option.bind_some, if_pos rfl, if_pos e]
    exact ⟨z1, rfl, by rw [a2]; show _ = rc_c M (gq_i M 3 q.toInt).toInt _ + 0; omega, by omega, by omega⟩
  · rcases iq with ⟨e2, -⟩ | ⟨-, j1, j2, j3, j4, -, -, j5⟩
    · rw [e] at e2
      exact absurd e2 (by decide)
    · rw [if_neg i5, Option.bind_some, if_neg (by decide), if_pos (by omega), if_neg j5, Option.bind_some, if_neg (by decide), if_pos (by omega), if_pos (by omega), if_neg (by rw [e]; decide)]
      have hn2 := hN (gq_i M 5 q.toInt).toInt j1 j2
      obtain ⟨z2, a3, a4⟩ := rc_cls (a := gq_i M 3 (gq_i M 5 q.toInt).toInt) (b := gq_i M 5 t.toInt) hC hS hT hn2 ⟨i1, i2⟩
      have b2 := rc_bd hS hT hn2 ⟨i1, i2⟩
      rw [a3, Option.bind_some]
      have f := h64_add (a := z1) (b := z2) (by omega) (by omega)
      refine ⟨_, rfl, ?_, ?_, ?_⟩
      · rw [f, a2, a4]
      · rw [f]; omega
      · rw [f]; omega
theorem un_up {M : gq_M} {g pr : Int32} (c : Nat) : ∀ d : Nat, (un_L M g pr c).length ≤ (un_L M g pr (c + d)).length
  | 0 => Nat.le_refl _
  | d + 1 => by
    refine Nat.le_trans (un_up c d) ?_
    rw [show c + (d + 1) = (c + d) + 1 from rfl, un_L]
    by_cases hb2 : un_b M g pr ((c + d : Nat) : Int) = true
    · rw [if_pos hb2, List.length_append]; omega
    · rw [if_neg hb2]; exact Nat.le_refl _
theorem lm_col {M0 W : gq_M} {g pr : Int32} (hC : rp_C M0 W) (hS : rp_S M0 W) (hpr : pr = 0 ∨ pr = 1) (h12 : (un_L M0 g pr (lm_c M0)).length ≤ 12) : ∀ (k c : Nat) (v : Int32) (M : gq_M) (f : Nat), v.toInt = c → c + k = lm_c M0 → pf_G (fun a => a = 10) (fun _ => False) (fun i => i = 2) M0 M → (gq_f M 2).toInt = (un_L M0 g pr c).length → (∀ i : Nat, i < (un_L M0 g pr c).length → (gq_i M 10 ((i : Int) + 1)).toInt = (un_L M0 g pr c).getD i 0) →
    ∃ M2, fl_PS_loadMatching_10 (f + (k + 1)) g pr v M = fl_PS_loadMatching_62 5000 1 M2 ∧ pf_G (fun a => a = 10) (fun _ => False) (fun i => i = 2) M0 M2 ∧ (gq_f M2 2).toInt = (un_L M0 g pr (lm_c M0)).length ∧ ∀ i : Nat, i < (un_L M0 g pr (lm_c M0)).length → (gq_i M2 10 ((i : Int) + 1)).toInt = (un_L M0 g pr (lm_c M0)).getD i 0
  | 0, c, v, M, f, hv, hk, hf, hn, hu => by
    have e : c = lm_c M0 := by omega
    rw [e] at hn hu
    refine ⟨M, ?_, hf, hn, hu⟩
    show fl_PS_loadMatching_10 (f + 1) g pr v M = _
    rw [fl_PS_loadMatching_10, if_pos (by rw [pa_le, hf.2.2.1 1 (by decide), hv]; unfold lm_c at e; omega)]
  | k + 1, c, v, M, f, hv, hk, hf, hn, hu => by
    have h80 := hC.2.2
    have hrs : rs_E M0 M := rs_of hf (fun a h _ z => by omega) (fun _ _ z => z) (fun a h z => by omega)
    have hcl : (c : Int) < (gq_f M0 1).toInt := by unfold lm_c at hk; omega
    have e1 : (v + 1).toInt = ((c + 1 : Nat) : Int) := by rw [pa_1 (by omega)]; omega
    have hz : ¬ gq_f M 1 ≤ v := by rw [pa_le, hf.2.2.1 1 (by decide), hv]; omega
    have hvr : 0 ≤ v.toInt ∧ v.toInt < ((80 : Nat) : Int) := by omega
    have hpv : 0 ≤ v.toInt ∧ v.toInt < (gq_f M0 1).toInt := by omega
    have hg1 : gq_i M 1 = gq_i M0 1 := hrs.1
    have skip : un_b M0 g pr (c : Int) = false → (∀ f, fl_PS_loadMatching_10 (f + (k + 1) + 1) g pr v M = fl_PS_loadMatching_10 (f + (k + 1)) g pr (v + 1) M) → ∃ M2, fl_PS_loadMatching_10 (f + (k + 1 + 1)) g pr v M = fl_PS_loadMatching_62 5000 1 M2 ∧ pf_G (fun a => a = 10) (fun _ => False) (fun i => i = 2) M0 M2 ∧ (gq_f M2 2).toInt = (un_L M0 g pr (lm_c M0)).length ∧ ∀ i : Nat, i < (un_L M0 g pr (lm_c M0)).length → (gq_i M2 10 ((i : Int) + 1)).toInt = (un_L M0 g pr (lm_c M0)).getD i 0 := by
      intro hb hfl
      have eL : un_L M0 g pr (c + 1) = un_L M0 g pr c := by
        show (if _ then _ else _) = _
        rw [if_neg (by rw [hb]; decide)]
      obtain ⟨M2, g1, g2⟩ := lm_col hC hS hpr h12 k (c + 1) (v + 1) M f e1 (by omega) hf (by rw [eL]; exact hn) (by rw [eL]; exact hu)
      exact ⟨M2, (hfl f).trans g1, g2⟩
    by_cases hgr : gq_i M0 1 (c : Int) = g
    · obtain ⟨x, x1, x2⟩ := un_cls (g := g) (rs_C hrs hC) (rs_S hrs hS) (by rw [hrs.2.2.2.2.2.2.2.2.2.2]; exact hpv) hpr (by rw [hg1, hv]; exact hgr)
      rw [un_bc hrs.1 hrs.2.2.2.1 hrs.2.2.2.2.1 hrs.2.2.2.2.2.1, hv] at x2
      by_cases hx : x = 0
      · refine skip (x2.mp hx) (fun f => ?_)
        rw [fl_PS_loadMatching_10, if_neg hz, if_pos hvr, if_pos (by rw [hg1, hv]; exact hgr), x1, Option.bind_some, if_pos hx]
      · have hb : un_b M0 g pr (c : Int) = true := by
          cases hb : un_b M0 g pr (c : Int) with
          | true => rfl
          | false => exact absurd (x2.mpr hb) hx
        have eL : un_L M0 g pr (c + 1) = un_L M0 g pr c ++ [(c : Int)] := by
          show (if _ then _ else _) = _
          rw [if_pos hb]
        have hlen : (un_L M0 g pr c).length + 1 ≤ 12 := by
          have h1 : (un_L M0 g pr (c + 1)).length ≤ (un_L M0 g pr (lm_c M0)).length := by
            have := un_up (M := M0) (g := g) (pr := pr) (c + 1) k
            rw [show c + 1 + k = lm_c M0 by omega] at this
            exact this
          rw [eL, List.length_append] at h1
          simp only [List.length_cons, List.length_nil] at h1
          omega
        have en : (gq_f M 2 + 1).toInt = ((un_L M0 g pr c).length : Int) + 1 := by rw [pa_1 (by omega), hn]
        obtain ⟨M2, g1, g2⟩ := lm_col hC hS hpr h12 k (c + 1) (v + 1) (gs_i (gs_f M 2 (gq_f M 2 + 1)) 10 (gz_u (gq_i M 10) (gq_f M 2 + 1).toInt v)) f e1 (by omega) (pg_i rfl (pg_f rfl hf)) (by
            rw [eL, List.length_append]
            show (gq_f M 2 + 1).toInt = _
            rw [en]
            simp) (fun i hi => by
            rw [eL]
            show (gz_u (gq_i M 10) (gq_f M 2 + 1).toInt v ((i : Int) + 1)).toInt = _
            rw [eL, List.length_append] at hi
            simp only [List.length_cons, List.length_nil] at hi
            by_cases hi2 : i < (un_L M0 g pr c).length
            · rw [gz_un _ _ (by omega), hu i hi2, List.getD_eq_getElem?_getD, List.getD_eq_getElem?_getD, List.getElem?_append_left hi2]
            · have ei : i = (un_L M0 g pr c).length := by omega
              rw [ei, en, gz_us, List.getD_eq_getElem?_getD, List.getElem?_append_right (Nat.le_refl _), Nat.sub_self, hv]
              rfl)
        refine ⟨M2, ?_, g2⟩
        show fl_PS_loadMatching_10 (f + (k + 1) + 1) g pr v M = _
        rw [fl_PS_loadMatching_10, if_neg hz, if_pos hvr, if_pos (by rw [hg1, hv]; exact hgr), x1, Option.bind_some, if_neg hx]
        have ea : fn_Ma_add v M = some (gs_i (gs_f M 2 (gq_f M 2 + 1)) 10 (gz_u (gq_i M 10) (gq_f M 2 + 1).toInt v)) := by
          unfold fn_Ma_add
          rw [if_neg (by rw [pa_le, hn]; show ¬ (12 : Int) ≤ _; omega), if_pos (by rw [en]; omega)]
        rw [ea, Option.bind_some]
        exact g1
    · refine skip ?_ (fun f => ?_)
      · unfold un_b
        simp [hgr]
      · rw [fl_PS_loadMatching_10, if_neg hz, if_pos hvr, if_neg (by rw [hg1, hv]; exact hgr)]
/-- one row of costs -/
theorem lm_row {M0 W : gq_M} {g pr : Int32} {L : List Int} {i : Nat} {K : Int32 → gq_M → Option gq_M} {a : Int32} (hC : rp_C M0 W) (hS : rp_S M0 W) (hT : rp_T M0 W) (hN : rn_A M0) (hL : ∀ p ∈ L, 0 ≤ p ∧ p < (gq_f M0 1).toInt ∧ un_b M0 g pr p = true) (h12 : L.length ≤ 12) (ha : a.toInt = (i : Int) + 1) (hi : i < L.length) : ∀ (k j : Nat) (v : Int32) (M : gq_M) (f : Nat), v.toInt = (j : Int) + 1 → j + k = L.length → pf_G (fun a => a = 10) (fun a => 7 ≤ a ∧ a ≤ 19) (fun i => i = 2) M0 M → (gq_f M 2).toInt = L.length → (∀ i : Nat, i < L.length → (gq_i M 10 ((i : Int) + 1)).toInt = L.getD i 0) →
    ∃ M2, fl_PS_loadMatching_76 K (f + (k + 1)) a v M = K (a + 1) M2 ∧ pf_G (fun _ => False) (fun x => x = 8 + i) (fun _ => False) M M2 ∧ (∀ z : Nat, j ≤ z → z < L.length → (gq_l M2 (8 + i) ((z : Int) + 1)).toInt = ru_c M0 pr (pv_i M0 3) (L.getD i 0) (L.getD z 0)) ∧ ∀ z : Nat, z < j → gq_l M2 (8 + i) ((z : Int) + 1) = gq_l M (8 + i) ((z : Int) + 1)
  | 0, j, v, M, f, hv, hk, hf, hn, hu => by
    refine ⟨M, ?_, pg_r _ _ _ _, fun z z1 z2 => absurd z2 (by omega), fun z _ => rfl⟩
    show fl_PS_loadMatching_76 K (f + 1) a v M = _
    rw [fl_PS_loadMatching_76, if_pos (by rw [pa_lt, hn]; omega)]
  | k + 1, j, v, M, f, hv, hk, hf, hn, hu => by
    have hrs : rs_E M0 M := rs_of hf (fun a h _ z => by omega) (fun a h z => by omega) (fun a h z => by omega)
    have e3 : gq_i M 3 = gq_i M0 3 := hf.1 3 (by decide)
    have hN2 : rn_A M := by
      intro p h1 h2
      rw [e3]
      rw [hrs.2.2.2.2.2.2.2.2.2.2] at h2
      exact hN p h1 h2
    have e1 : (v + 1).toInt = ((j + 1 : Nat) : Int) + 1 := by rw [pa_1 (by omega)]; omega
    have ht := hL _ (un_at hi)
    have hq := hL _ (un_at (L := L) (i := j) (by omega))
    have et : (gq_i M 10 a.toInt).toInt = L.getD i 0 := by rw [ha]; exact hu i hi
    have eq : (gq_i M 10 v.toInt).toInt = L.getD j 0 := by rw [hv]; exact hu j (by omega)
    have hub : ∀ p, un_b M g pr p = un_b M0 g pr p := fun p => un_bc hrs.1 hrs.2.2.2.1 hrs.2.2.2.2.1 hrs.2.2.2.2.2.1
    have f1 : gq_f M 1 = gq_f M0 1 := hrs.2.2.2.2.2.2.2.2.2.2
    obtain ⟨z, z1, z2, z3, z4⟩ := lm_uc (g := g) (pr := pr) (t := gq_i M 10 a.toInt) (q := gq_i M 10 v.toInt) (rs_C hrs hC) (rs_S hrs hS) (rs_T hrs hT) hN2 (by rw [et, f1]; exact ⟨ht.1, ht.2.1⟩) (by rw [eq, f1]; exact ⟨hq.1, hq.2.1⟩) (by rw [et, hub]; exact ht.2.2) (by rw [eq, hub]; exact hq.2.2)
    rw [et, eq, rs_u hrs, show pv_i M 3 = pv_i M0 3 by unfold pv_i; rw [e3]] at z2
    have e7 : 7 + a.toInt.toNat = 8 + i := by omega
    obtain ⟨M2, g1, g2, g3, g4⟩ := lm_row (K := K) hC hS hT hN hL h12 ha hi k (j + 1) (v + 1) (gs_l M (8 + i) (gz_ul (gq_l M (8 + i)) v.toInt z)) f e1 (by omega) (pg_l (by omega) hf) hn hu
    refine ⟨M2, ?_, pg_t (pg_l rfl (pg_r _ _ _ _)) g2, fun y y1 y2 => ?_, fun y y1 => ?_⟩
    · show fl_PS_loadMatching_76 K (f + (k + 1) + 1) a v M = _
      rw [fl_PS_loadMatching_76, if_neg (by rw [pa_lt, hn]; omega), if_pos (by omega), if_pos (by omega), z1, Option.bind_some, e7]
      exact g1
    · by_cases e : y = j
      · rw [g4 y (by omega), e]
        show (gq_up M.2.1 (8 + i) (gz_ul (gq_l M (8 + i)) v.toInt z) (8 + i) ((j : Int) + 1)).toInt = _
        rw [gq_us, ← hv, gz_uls]
        exact z2
      · exact g3 y (by omega) y2
    · rw [g4 y (by omega)]
      show gq_up M.2.1 (8 + i) (gz_ul (gq_l M (8 + i)) v.toInt z) (8 + i) ((y : Int) + 1) = _
      rw [gq_us, gz_uln _ _ (by omega)]
theorem lm_rows {M0 W : gq_M} {g pr : Int32} {L : List Int} (hC : rp_C M0 W) (hS : rp_S M0 W) (hT : rp_T M0 W) (hN : rn_A M0) (hL : ∀ p ∈ L, 0 ≤ p ∧ p < (gq_f M0 1).toInt ∧ un_b M0 g pr p = true) (h12 : L.length ≤ 12) : ∀ (k i : Nat) (a : Int32) (M : gq_M) (f : Nat), a.toInt = (i : Int) + 1 → i + k = L.length → pf_G (fun a => a = 10) (fun a => 7 ≤ a ∧ a ≤ 19) (fun i => i = 2) M0 M → (gq_f M 2).toInt = L.length → (∀ i : Nat, i < L.length → (gq_i M 10 ((i : Int) + 1)).toInt = L.getD i 0) →
    (∀ x : Nat, x < i → ∀ z : Nat, z < L.length → (gq_l M (8 + x) ((z : Int) + 1)).toInt = ru_c M0 pr (pv_i M0 3) (L.getD x 0) (L.getD z 0)) →
    ∃ M2, fl_PS_loadMatching_62 (f + (k + 1)) a M = some M2 ∧ pf_G (fun a => a = 10) (fun a => 7 ≤ a ∧ a ≤ 19) (fun i => i = 2) M0 M2 ∧ (gq_f M2 2).toInt = L.length ∧ (∀ i : Nat, i < L.length → (gq_i M2 10 ((i : Int) + 1)).toInt = L.getD i 0) ∧ ∀ x : Nat, x < L.length → ∀ z : Nat, z < L.length → (gq_l M2 (8 + x) ((z : Int) + 1)).toInt = ru_c M0 pr (pv_i M0 3) (L.getD x 0) (L.getD z 0)
  | 0, i, a, M, f, ha, hk, hf, hn, hu, hr => by
    refine ⟨M, ?_, hf, hn, hu, fun x hx => hr x (by omega)⟩
    show fl_PS_loadMatching_62 (f + 1) a M = some M
    rw [fl_PS_loadMatching_62, if_pos (by rw [pa_lt, hn]; omega)]
  | k + 1, i, a, M, f, ha, hk, hf, hn, hu, hr => by
    have e1 : (a + 1).toInt = ((i + 1 : Nat) : Int) + 1 := by rw [pa_1 (by omega)]; omega
    obtain ⟨M1, a1, a2, a3, a4⟩ := lm_row (K := fl_PS_loadMatching_62 (f + (k + 1))) (g := g) hC hS hT hN hL h12 ha (by omega) L.length 0 1 M (4999 - L.length) (by show (1 : Int) = 0 + 1; omega) (by omega) hf hn hu
    have h10 : gq_i M1 10 = gq_i M 10 := a2.1 10 (fun z => z)
    obtain ⟨M2, g1, g2⟩ := lm_rows hC hS hT hN hL h12 k (i + 1) (a + 1) M1 f e1 (by omega) (pg_t hf (pg_w a2 (fun _ z => z.elim) (fun x z => by omega) (fun _ z => z.elim))) (by rw [a2.2.2.1 2 (fun z => z)]; exact hn) (by rw [h10]; exact hu) (fun x hx z hz => by
      by_cases e : x = i
      · rw [e]; exact a3 z (by omega) hz
      · rw [a2.2.1 (8 + x) (by omega)]
        exact hr x (by omega) z hz)
    refine ⟨M2, ?_, g2⟩
    show fl_PS_loadMatching_62 (f + (k + 1) + 1) a M = some M2
    rw [fl_PS_loadMatching_62, if_neg (by rw [pa_lt, hn]; omega), show 5000 = 4999 - L.length + (L.length + 1) by omega, a1]
    exact g1
theorem lm_load {M W : gq_M} {g pr : Int32} (hC : rp_C M W) (hS : rp_S M W) (hT : rp_T M W) (hN : rn_A M) (hpr : pr = 0 ∨ pr = 1) (h12 : (un_L M g pr (lm_c M)).length ≤ 12) :
    ∃ M2, fn_PS_loadMatching g pr M = some M2 ∧ pf_G (fun a => a = 10) (fun a => 7 ≤ a ∧ a ≤ 19) (fun i => i = 2) M M2 ∧ (gq_f M2 2).toInt = (un_L M g pr (lm_c M)).length ∧ (∀ i : Nat, i < (un_L M g pr (lm_c M)).length → (gq_i M2 10 ((i : Int) + 1)).toInt = (un_L M g pr (lm_c M)).getD i 0) ∧ ∀ i j : Int, 1 ≤ i → i ≤ (un_L M g pr (lm_c M)).length → 1 ≤ j → j ≤ (un_L M g pr (lm_c M)).length → (pv_c M2 i j).toInt = ru_c M pr (pv_i M 3) ((un_L M g pr (lm_c M)).getD (i - 1).toNat 0) ((un_L M g pr (lm_c M)).getD (j - 1).toNat 0) := by
  have h80 := hC.2.2
  obtain ⟨M1, a1, a2, a3, a4⟩ := lm_col (g := g) hC hS hpr h12 (lm_c M) 0 0 (gs_f M 2 0) (4999 - lm_c M) rfl (by omega) (pg_f rfl (pg_r _ _ _ _)) rfl (fun i hi => absurd hi (Nat.not_lt_zero i))
  obtain ⟨M2, g1, g2, g3, g4, g5⟩ := lm_rows (g := g) (L := un_L M g pr (lm_c M)) hC hS hT hN (fun p hp => by
    have h := un_mem hp
    exact ⟨h.1, by have := h.2.1; unfold lm_c at this; omega, h.2.2⟩) h12 (un_L M g pr (lm_c M)).length 0 1 M1 (4999 - (un_L M g pr (lm_c M)).length) (by show (1 : Int) = 0 + 1; omega) (by omega) (pg_w a2 (fun _ z => z) (fun _ z => z.elim) (fun _ z => z)) a3 a4 (fun x hx => absurd hx (Nat.not_lt_zero x))
  refine ⟨M2, ?_, g2, g3, g4, fun i j i1 i2 j1 j2 => ?_⟩
  · unfold fn_PS_loadMatching
    rw [show 5000 = 4999 - lm_c M + (lm_c M + 1) by unfold lm_c; omega, a1, show 5000 = 4999 - (un_L M g pr (lm_c M)).length + ((un_L M g pr (lm_c M)).length + 1) by omega]
    exact g1
  · have h := g5 (i - 1).toNat (by omega) (j - 1).toNat (by omega)
    rw [show 8 + (i - 1).toNat = 7 + i.toNat by omega, show (((j - 1).toNat : Nat) : Int) + 1 = j by omega] at h
    exact h
