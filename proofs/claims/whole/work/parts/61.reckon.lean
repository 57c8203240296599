/-! THE MODEL RECKONS OVER THE SAME UNITS -/
def rn_W (M W : gq_M) : Prop := ∀ p : Int, 0 ≤ p → p < (gq_f M 1).toInt → 0 ≤ (gq_i W 2 p).toInt ∧ (gq_i W 2 p).toInt < 200
def rw_E (W W2 : gq_M) : Prop := gq_i W2 0 = gq_i W 0 ∧ gq_i W2 1 = gq_i W 1 ∧ gq_i W2 3 = gq_i W 3 ∧ gq_i W2 4 = gq_i W 4 ∧ gq_i W2 5 = gq_i W 5 ∧ gq_i W2 6 = gq_i W 6 ∧ gq_i W2 7 = gq_i W 7 ∧ gq_i W2 8 = gq_i W 8 ∧ (gq_l W2 0 = gq_l W 0 ∧ gq_l W2 1 = gq_l W 1 ∧ gq_l W2 2 = gq_l W 2 ∧ gq_l W2 3 = gq_l W 3) ∧ gq_f W2 1 = gq_f W 1 ∧ gq_f W2 2 = gq_f W 2
theorem rw_of {P Q E : Nat → Prop} {W W2 : gq_M} (h : pf_G P Q E W W2) (hP : ∀ a, a < 9 → a ≠ 2 → ¬ P a) (hQ : ∀ a, a < 4 → ¬ Q a) (hE : ∀ a, 1 ≤ a → a ≤ 2 → ¬ E a) : rw_E W W2 :=
  ⟨h.1 0 (hP 0 (by omega) (by omega)), h.1 1 (hP 1 (by omega) (by omega)), h.1 3 (hP 3 (by omega) (by omega)), h.1 4 (hP 4 (by omega) (by omega)), h.1 5 (hP 5 (by omega) (by omega)), h.1 6 (hP 6 (by omega) (by omega)), h.1 7 (hP 7 (by omega) (by omega)), h.1 8 (hP 8 (by omega) (by omega)),
   ⟨h.2.1 0 (hQ 0 (by omega)), h.2.1 1 (hQ 1 (by omega)), h.2.1 2 (hQ 2 (by omega)), h.2.1 3 (hQ 3 (by omega))⟩, h.2.2.1 1 (hE 1 (by omega) (by omega)), h.2.2.1 2 (hE 2 (by omega) (by omega))⟩
theorem rw_C {M W W2 : gq_M} (h : rw_E W W2) (hC : rp_C M W) : rp_C M W2 := by
  obtain ⟨e0, e1, e3, e4, e5, e6, e7, e8, ⟨l0, l1, l2, l3⟩, f1, f2⟩ := h
  unfold rp_C
  rw [f1, f2]
  exact hC
theorem rw_S {M W W2 : gq_M} (h : rw_E W W2) (hS : rp_S M W) : rp_S M W2 := by
  obtain ⟨e0, e1, e3, e4, e5, e6, e7, e8, ⟨l0, l1, l2, l3⟩, f1, f2⟩ := h
  unfold rp_S rp_pp
  rw [e0, e1, e3, e4, e5, e6, l0, l1]
  exact hS
theorem rw_T {M W W2 : gq_M} (h : rw_E W W2) (hT : rp_T M W) : rp_T M W2 := by
  obtain ⟨e0, e1, e3, e4, e5, e6, e7, e8, ⟨l0, l1, l2, l3⟩, f1, f2⟩ := h
  unfold rp_T
  rw [e7, e8, l2, l3]
  exact hT
abbrev rk_b (L : List Int) (only how : Int32) (i j : Int) : Prop := L.getD (i - 1).toNat 0 = only.toInt ∧ ((how = 1 ∧ i ≠ j) ∨ (how = -1 ∧ i = j))
def rk_m (M W : gq_M) (pr only how : Int32) (L : List Int) : Int → Int → Int := fun i j => if rk_b L only how i j then 1000000000000000 else ru_c M pr (pv_i W 2) (L.getD (i - 1).toNat 0) (L.getD (j - 1).toNat 0)
theorem rk_uc {M W : gq_M} {g pr t q : Int32} (hC : rp_C M W) (hS : rp_S M W) (hT : rp_T M W) (hN : rn_W M W) (ht : 0 ≤ t.toInt ∧ t.toInt < (gq_f M 1).toInt) (hq : 0 ≤ q.toInt ∧ q.toInt < (gq_f M 1).toInt) (ut : un_b M g pr t.toInt = true) (uq : un_b M g pr q.toInt = true) : ∃ z : Int64, fn_Mo_unitCost t q pr W = some z ∧ z.toInt = ru_c M pr (pv_i W 2) t.toInt q.toInt ∧ 0 ≤ z.toInt ∧ z.toInt ≤ 2008000000 := by
  have h80 := hC.2.2
  have z0 : (Int64.ofNat (0 : Fin 2).val).toInt = 0 := rfl
  obtain ⟨-, -, it⟩ := un_is hS ht ut
  obtain ⟨-, -, iq⟩ := un_is hS hq uq
  have w5t := (hS t.toInt ht.1 ht.2).2.2.2.2.2.1
  have w5q := (hS q.toInt hq.1 hq.2).2.2.2.2.2.1
  have hn := hN q.toInt hq.1 hq.2
  obtain ⟨z1, a1, a2⟩ := rc_mod (a := gq_i W 2 q.toInt) (b := t) hC hS hT hn ht
  have b1 := rc_bd hS hT hn ht
  unfold fn_Mo_unitCost ru_c
  rw [if_pos (by omega), a1, Option.bind_some]
  rcases it with ⟨e, i5⟩ | ⟨e, i1, i2, i3, i4, -, -, i5⟩
  · rw [if_pos e, if_pos e]
    have f := h64_add (a := z1) (b := Int64.ofNat (0 : Fin 2).val) (by omega) (by rw [z0]; omega)
    rw [z0] at f
    exact ⟨_, rfl, by rw [f, a2], by rw [f]; omega, by rw [f]; omega⟩
  · rcases iq with ⟨e2, -⟩ | ⟨-, j1, j2, j3, j4, -, -, j5⟩
    · rw [e] at e2
      exact absurd e2 (by decide)
    · have hp0 : ¬ pr = 0 := by rw [e]; decide
      rw [if_neg hp0, w5q, w5t, if_pos (by omega), if_pos (by omega), if_neg hp0]
      have hn2 := hN (gq_i M 5 q.toInt).toInt j1 j2
      obtain ⟨z2, a3, a4⟩ := rc_mod (a := gq_i W 2 (gq_i M 5 q.toInt).toInt) (b := gq_i M 5 t.toInt) hC hS hT hn2 ⟨i1, i2⟩
      have b2 := rc_bd hS hT hn2 ⟨i1, i2⟩
      rw [a3, Option.bind_some]
      have f := h64_add (a := z1) (b := z2) (by omega) (by omega)
      refine ⟨_, rfl, ?_, ?_, ?_⟩
      · rw [f, a2, a4]
      · rw [f]; omega
      · rw [f]; omega
theorem rk_bd {M W : gq_M} {g pr : Int32} {L : List Int} {only how : Int32} (hS : rp_S M W) (hT : rp_T M W) (hN : rn_W M W) (hL : ∀ p ∈ L, 0 ≤ p ∧ p < (gq_f M 1).toInt ∧ un_b M g pr p = true) : dp_c L.length (rk_m M W pr only how L) := by
  intro i j i1 i2 j1 j2
  have hV : dp_V = 1000000000000000 := rfl
  unfold rk_m
  by_cases hb : rk_b L only how i j
  · rw [if_pos hb]; omega
  · rw [if_neg hb]
    have ht := hL _ (un_at (L := L) (i := (i - 1).toNat) (by omega))
    have hq := hL _ (un_at (L := L) (i := (j - 1).toNat) (by omega))
    have b1 := rc_bd hS hT (hN _ hq.1 hq.2.1) ⟨ht.1, ht.2.1⟩
    obtain ⟨-, -, it⟩ := un_is hS ⟨ht.1, ht.2.1⟩ ht.2.2
    obtain ⟨-, -, iq⟩ := un_is hS ⟨hq.1, hq.2.1⟩ hq.2.2
    unfold ru_c
    by_cases e : pr = 0
    · rw [if_pos e]
      have : pv_i W 2 (L.getD (j - 1).toNat 0) = (gq_i W 2 (L.getD (j - 1).toNat 0)).toInt := rfl
      rw [this]
      omega
    · rw [if_neg e]
      rcases it with ⟨e2, -⟩ | ⟨-, i1', i2', -⟩
      · exact absurd e2 e
      · rcases iq with ⟨e2, -⟩ | ⟨-, j1', j2', -⟩
        · exact absurd e2 e
        · have b2 := rc_bd hS hT (hN _ j1' j2') ⟨i1', i2'⟩
          have t1 : pv_i W 2 (L.getD (j - 1).toNat 0) = (gq_i W 2 (L.getD (j - 1).toNat 0)).toInt := rfl
          have t2 : pv_i W 2 (gq_i M 5 (L.getD (j - 1).toNat 0)).toInt = (gq_i W 2 (gq_i M 5 (L.getD (j - 1).toNat 0)).toInt).toInt := rfl
          rw [t1, t2]
          omega
theorem rk_col {M W0 : gq_M} {g pr o h : Int32} (hC : rp_C M W0) (hS : rp_S M W0) (hpr : pr = 0 ∨ pr = 1) (h12 : (un_L M g pr (lm_c M)).length ≤ 12) : ∀ (k c : Nat) (v : Int32) (W : gq_M) (f : Nat), v.toInt = c → c + k = lm_c M → pf_G (fun a => a = 13) (fun _ => False) (fun i => i = 5) W0 W → (gq_f W 5).toInt = (un_L M g pr c).length → (∀ i : Nat, i < (un_L M g pr c).length → (gq_i W 13 (i : Int)).toInt = (un_L M g pr c).getD i 0) →
    ∃ W2, fl_Mo_reckon_8 (f + (k + 1)) g pr o h v W = fl_Mo_reckon_61 5000 pr o h 0 W2 ∧ pf_G (fun a => a = 13) (fun _ => False) (fun i => i = 5) W0 W2 ∧ (gq_f W2 5).toInt = (un_L M g pr (lm_c M)).length ∧ ∀ i : Nat, i < (un_L M g pr (lm_c M)).length → (gq_i W2 13 (i : Int)).toInt = (un_L M g pr (lm_c M)).getD i 0
  | 0, c, v, W, f, hv, hk, hf, hn, hu => by
    have e : c = lm_c M := by omega
    rw [e] at hn hu
    refine ⟨W, ?_, hf, hn, hu⟩
    show fl_Mo_reckon_8 (f + 1) g pr o h v W = _
    rw [fl_Mo_reckon_8, if_pos (by rw [pa_le, hf.2.2.1 2 (by decide), hC.1.2, hv]; unfold lm_c at e; omega)]
  | k + 1, c, v, W, f, hv, hk, hf, hn, hu => by
    have h80 := hC.2.2
    have hrs : rw_E W0 W := rw_of hf (fun a h _ z => by omega) (fun _ _ z => z) (fun a h1 h2 z => by omega)
    have hcl : (c : Int) < (gq_f M 1).toInt := by unfold lm_c at hk; omega
    have e1 : (v + 1).toInt = ((c + 1 : Nat) : Int) := by rw [pa_1 (by omega)]; omega
    have hz : ¬ gq_f W 2 ≤ v := by rw [pa_le, hf.2.2.1 2 (by decide), hC.1.2, hv]; omega
    obtain ⟨x, x1, x2⟩ := un_mod (g := g) (p := v) (rw_C hrs hC) (rw_S hrs hS) (by omega) hpr
    rw [hv] at x2
    by_cases hx : x = 0
    · have eL : un_L M g pr (c + 1) = un_L M g pr c := by
        show (if _ then _ else _) = _
        rw [if_neg (by rw [x2.mp hx]; decide)]
      obtain ⟨W2, g1, g2⟩ := rk_col hC hS hpr h12 k (c + 1) (v + 1) W f e1 (by omega) hf (by rw [eL]; exact hn) (by rw [eL]; exact hu)
      refine ⟨W2, ?_, g2⟩
      show fl_Mo_reckon_8 (f + (k + 1) + 1) g pr o h v W = _
      rw [fl_Mo_reckon_8, if_neg hz, x1, Option.bind_some, if_pos hx]
      exact g1
    · have hb : un_b M g pr (c : Int) = true := by
        cases hb : un_b M g pr (c : Int) with
        | true => rfl
        | false => exact absurd (x2.mpr hb) hx
      have eL : un_L M g pr (c + 1) = un_L M g pr c ++ [(c : Int)] := by
        show (if _ then _ else _) = _
        rw [if_pos hb]
      have hlen : (un_L M g pr c).length + 1 ≤ 12 := by
        have h1 := un_up (M := M) (g := g) (pr := pr) (c + 1) k
        rw [show c + 1 + k = lm_c M by omega, eL, List.length_append] at h1
        simp only [List.length_cons, List.length_nil] at h1
        omega
      have en : (gq_f W 5 + 1).toInt = ((un_L M g pr c).length : Int) + 1 := by rw [pa_1 (by omega), hn]
      obtain ⟨W2, g1, g2⟩ := rk_col hC hS hpr h12 k (c + 1) (v + 1) (gs_f (gs_i W 13 (gz_u (gq_i W 13) (gq_f W 5).toInt v)) 5 (gq_f W 5 + 1)) f e1 (by omega) (pg_f rfl (pg_i rfl hf)) (by
          rw [eL, List.length_append]
          show (gq_f W 5 + 1).toInt = _
          rw [en]
          simp) (fun i hi => by
          rw [eL]
          show (gz_u (gq_i W 13) (gq_f W 5).toInt v (i : Int)).toInt = _
          rw [eL, List.length_append] at hi
          simp only [List.length_cons, List.length_nil] at hi
          by_cases hi2 : i < (un_L M g pr c).length
          · rw [gz_un _ _ (by omega), hu i hi2, List.getD_eq_getElem?_getD, List.getD_eq_getElem?_getD, List.getElem?_append_left hi2]
          · have ei : i = (un_L M g pr c).length := by omega
            rw [ei, hn, gz_us, List.getD_eq_getElem?_getD, List.getElem?_append_right (Nat.le_refl _), Nat.sub_self, hv]
            rfl)
      refine ⟨W2, ?_, g2⟩
      show fl_Mo_reckon_8 (f + (k + 1) + 1) g pr o h v W = _
      rw [fl_Mo_reckon_8, if_neg hz, x1, Option.bind_some, if_neg hx, if_pos (by omega)]
      exact g1
theorem rk_row {M W0 : gq_M} {g pr only how : Int32} {L : List Int} {i : Nat} {K : Int32 → Int32 → Int32 → Int32 → gq_M → Option gq_M} {a : Int32} (hC : rp_C M W0) (hS : rp_S M W0) (hT : rp_T M W0) (hN : rn_W M W0) (hhow : how = 0 ∨ how = 1 ∨ how = -1) (hL : ∀ p ∈ L, 0 ≤ p ∧ p < (gq_f M 1).toInt ∧ un_b M g pr p = true) (h12 : L.length ≤ 12) (ha : a.toInt = i) (hi : i < L.length) : ∀ (k j : Nat) (v : Int32) (W : gq_M) (f : Nat), v.toInt = j → j + k = L.length → pf_G (fun a => a = 13) (fun a => a = 4) (fun i => i = 5) W0 W → (gq_f W 5).toInt = L.length → (∀ i : Nat, i < L.length → (gq_i W 13 (i : Int)).toInt = L.getD i 0) →
    ∃ W2, fl_Mo_reckon_73 K (f + (k + 1)) pr only how a v W = K pr only how (a + 1) W2 ∧ pf_G (fun _ => False) (fun x => x = 4) (fun _ => False) W W2 ∧ (∀ z : Nat, j ≤ z → z < L.length → (gq_l W2 4 (12 * (i : Int) + z)).toInt = rk_m M W0 pr only how L ((i : Int) + 1) ((z : Int) + 1)) ∧ ∀ z : Int, (z < 12 * (i : Int) + j ∨ 12 * (i : Int) + 12 ≤ z) → gq_l W2 4 z = gq_l W 4 z
  | 0, j, v, W, f, hv, hk, hf, hn, hu => by
    refine ⟨W, ?_, pg_r _ _ _ _, fun z z1 z2 => absurd z2 (by omega), fun z _ => rfl⟩
    show fl_Mo_reckon_73 K (f + 1) pr only how a v W = _
    rw [fl_Mo_reckon_73, if_pos (by rw [pa_le, hn]; omega)]
  | k + 1, j, v, W, f, hv, hk, hf, hn, hu => by
    have hrs : rw_E W0 W := rw_of hf (fun a h _ z => by omega) (fun a h z => by omega) (fun a h1 h2 z => by omega)
    have e2 : gq_i W 2 = gq_i W0 2 := hf.1 2 (by decide)
    have hN2 : rn_W M W := by
      intro p h1 h2
      rw [e2]
      exact hN p h1 h2
    have e1 : (v + 1).toInt = ((j + 1 : Nat) : Int) := by rw [pa_1 (by omega)]; omega
    have ht := hL _ (un_at hi)
    have hq := hL _ (un_at (L := L) (i := j) (by omega))
    have et : (gq_i W 13 a.toInt).toInt = L.getD i 0 := by rw [ha]; exact hu i hi
    have eq : (gq_i W 13 v.toInt).toInt = L.getD j 0 := by rw [hv]; exact hu j (by omega)
    obtain ⟨z, z1, z2, z3, z4⟩ := rk_uc (g := g) (pr := pr) (t := gq_i W 13 a.toInt) (q := gq_i W 13 v.toInt) (rw_C hrs hC) (rw_S hrs hS) (rw_T hrs hT) hN2 (by rw [et]; exact ⟨ht.1, ht.2.1⟩) (by rw [eq]; exact ⟨hq.1, hq.2.1⟩) (by rw [et]; exact ht.2.2) (by rw [eq]; exact hq.2.2)
    rw [et, eq, show pv_i W 2 = pv_i W0 2 by unfold pv_i; rw [e2]] at z2
    have ei : ((12 * a) + v).toInt = 12 * (i : Int) + j := dp_12 ha hv (by omega) (by omega)
    have hir : 0 ≤ ((12 * a) + v).toInt ∧ ((12 * a) + v).toInt < ((144 : Nat) : Int) := by rw [ei]; omega
    have hzf : ¬ gq_f W 5 ≤ v := by rw [pa_le, hn]; omega
    have har : 0 ≤ a.toInt ∧ a.toInt < ((12 : Nat) : Int) := by omega
    have hvr : 0 ≤ v.toInt ∧ v.toInt < ((12 : Nat) : Int) := by omega
    have hnv : (1000000000000000 : Int64).toInt = 1000000000000000 := rfl
    have eg1 : L.getD (((i : Int) + 1 - 1)).toNat 0 = L.getD i 0 := by rw [show ((i : Int) + 1 - 1).toNat = i by omega]
    have eg2 : L.getD (((j : Int) + 1 - 1)).toNat 0 = L.getD j 0 := by rw [show ((j : Int) + 1 - 1).toNat = j by omega]
    have eav : a = v ↔ i = j := by rw [pa_eq, ha, hv]; omega
    have eo : gq_i W 13 a.toInt = only ↔ L.getD i 0 = only.toInt := by rw [pa_eq, et]
    have go : ∀ y : Int64, y.toInt = rk_m M W0 pr only how L ((i : Int) + 1) ((j : Int) + 1) → (∀ f, fl_Mo_reckon_73 K (f + (k + 1) + 1) pr only how a v W = fl_Mo_reckon_73 K (f + (k + 1)) pr only how a (v + 1) (gs_l W 4 (gz_ul (gq_l W 4) ((12 * a) + v).toInt y))) → ∃ W2, fl_Mo_reckon_73 K (f + (k + 1 + 1)) pr only how a v W = K pr only how (a + 1) W2 ∧ pf_G (fun _ => False) (fun x => x = 4) (fun _ => False) W W2 ∧ (∀ z : Nat, j ≤ z → z < L.length → (gq_l W2 4 (12 * (i : Int) + z)).toInt = rk_m M W0 pr only how L ((i : Int) + 1) ((z : Int) + 1)) ∧ ∀ z : Int, (z < 12 * (i : Int) + j ∨ 12 * (i : Int) + 12 ≤ z) → gq_l W2 4 z = gq_l W 4 z := by
      intro y hy hfl
      obtain ⟨W2, g1, g2, g3, g4⟩ := rk_row (K := K) hC hS hT hN hhow hL h12 ha hi k (j + 1) (v + 1) (gs_l W 4 (gz_ul (gq_l W 4) ((12 * a) + v).toInt y)) f e1 (by omega) (pg_l rfl hf) hn hu
      refine ⟨W2, (hfl f).trans g1, pg_t (pg_l rfl (pg_r _ _ _ _)) g2, fun x x1 x2 => ?_, fun x hx => ?_⟩
      · by_cases e : x = j
        · rw [g4 _ (Or.inl (by omega)), e]
          show (gz_ul (gq_l W 4) ((12 * a) + v).toInt y (12 * (i : Int) + (j : Nat))).toInt = _
          rw [ei, gz_uls]
          exact hy
        · exact g3 x (by omega) x2
      · rw [g4 x (by omega)]
        show gz_ul (gq_l W 4) ((12 * a) + v).toInt y x = _
        rw [gz_uln _ _ (by rw [ei]; omega)]
    have hbar : rk_b L only how ((i : Int) + 1) ((j : Int) + 1) ↔ (L.getD i 0 = only.toInt ∧ ((how = 1 ∧ i ≠ j) ∨ (how = -1 ∧ i = j))) := by
      unfold rk_b
      rw [eg1]
      constructor
      · rintro ⟨h1, h2⟩
        refine ⟨h1, ?_⟩
        rcases h2 with ⟨h2, h3⟩ | ⟨h2, h3⟩
        · exact Or.inl ⟨h2, by omega⟩
        · exact Or.inr ⟨h2, by omega⟩
      · rintro ⟨h1, h2⟩
        refine ⟨h1, ?_⟩
        rcases h2 with ⟨h2, h3⟩ | ⟨h2, h3⟩
        · exact Or.inl ⟨h2, by omega⟩
        · exact Or.inr ⟨h2, by omega⟩
    have free : ¬ (L.getD i 0 = only.toInt ∧ ((how = 1 ∧ i ≠ j) ∨ (how = -1 ∧ i = j))) → z.toInt = rk_m M W0 pr only how L ((i : Int) + 1) ((j : Int) + 1) := by
      intro hb
      unfold rk_m
      rw [if_neg (fun w => hb (hbar.mp w)), eg1, eg2]
      exact z2
    have barred : (L.getD i 0 = only.toInt ∧ ((how = 1 ∧ i ≠ j) ∨ (how = -1 ∧ i = j))) → (1000000000000000 : Int64).toInt = rk_m M W0 pr only how L ((i : Int) + 1) ((j : Int) + 1) := by
      intro hb
      unfold rk_m
      rw [if_pos (hbar.mpr hb)]
      rfl
    by_cases ho : gq_i W 13 a.toInt = only
    · rcases hhow with hh | hh | hh
      · subst hh
        refine go z (free (fun w => ?_)) (fun f => ?_)
        · rcases w.2 with ⟨w, -⟩ | ⟨w, -⟩ <;> exact absurd w (by decide)
        · rw [fl_Mo_reckon_73, if_neg hzf, if_pos har, if_pos ho, if_neg (by decide), if_neg (by decide), if_pos hvr, z1, Option.bind_some, if_pos hir]
      · subst hh
        by_cases hav : a = v
        · refine go z (free (fun w => ?_)) (fun f => ?_)
          · rcases w.2 with ⟨-, w⟩ | ⟨w, -⟩
            · exact w (eav.mp hav)
            · exact absurd w (by decide)
          · rw [fl_Mo_reckon_73, if_neg hzf, if_pos har, if_pos ho, if_pos rfl, if_pos hav, if_neg (by decide), if_pos hvr, z1, Option.bind_some, if_pos hir]
        · refine go 1000000000000000 (barred ⟨eo.mp ho, Or.inl ⟨rfl, fun w => hav (eav.mpr w)⟩⟩) (fun f => ?_)
          rw [fl_Mo_reckon_73, if_neg hzf, if_pos har, if_pos ho, if_pos rfl, if_neg hav, if_pos hir]
      · subst hh
        by_cases hav : a = v
        · refine go 1000000000000000 (barred ⟨eo.mp ho, Or.inr ⟨rfl, eav.mp hav⟩⟩) (fun f => ?_)
          rw [fl_Mo_reckon_73, if_neg hzf, if_pos har, if_pos ho, if_neg (by decide), if_pos rfl, if_pos hav, if_pos hir]
        · refine go z (free (fun w => ?_)) (fun f => ?_)
          · rcases w.2 with ⟨w, -⟩ | ⟨-, w⟩
            · exact absurd w (by decide)
            · exact hav (eav.mpr w)
          · rw [fl_Mo_reckon_73, if_neg hzf, if_pos har, if_pos ho, if_neg (by decide), if_pos rfl, if_neg hav, if_pos hvr, z1, Option.bind_some, if_pos hir]
    · refine go z (free (fun w => ho (eo.mpr w.1))) (fun f => ?_)
      rw [fl_Mo_reckon_73, if_neg hzf, if_pos har, if_neg ho, if_pos hvr, z1, Option.bind_some, if_pos hir]
theorem rk_all {M W0 : gq_M} {g pr only how : Int32} {L : List Int} (hC : rp_C M W0) (hS : rp_S M W0) (hT : rp_T M W0) (hN : rn_W M W0) (hhow : how = 0 ∨ how = 1 ∨ how = -1) (hL : ∀ p ∈ L, 0 ≤ p ∧ p < (gq_f M 1).toInt ∧ un_b M g pr p = true) (h12 : L.length ≤ 12) : ∀ (k i : Nat) (a : Int32) (W : gq_M) (f : Nat), a.toInt = i → i + k = L.length → pf_G (fun a => a = 13) (fun a => a = 4) (fun i => i = 5) W0 W → (gq_f W 5).toInt = L.length → (∀ i : Nat, i < L.length → (gq_i W 13 (i : Int)).toInt = L.getD i 0) →
    (∀ x : Nat, x < i → ∀ z : Nat, z < L.length → (gq_l W 4 (12 * (x : Int) + z)).toInt = rk_m M W0 pr only how L ((x : Int) + 1) ((z : Int) + 1)) →
    ∃ W2, fl_Mo_reckon_61 (f + (k + 1)) pr only how a W = some W2 ∧ pf_G (fun a => a = 13) (fun a => a = 4 ∨ a = 5) (fun i => i = 5) W0 W2 ∧ dc_W L.length (rk_m M W0 pr only how L) W2 ∧ ∀ i : Nat, i < L.length → (gq_i W2 13 (i : Int)).toInt = L.getD i 0
  | 0, i, a, W, f, ha, hk, hf, hn, hu, hr => by
    have hp := bt_pow h12
    have hp0 := Nat.two_pow_pos L.length
    have en : gq_f W 5 = nI L.length := pa_eq.mpr (by rw [hn, pa_nI (by omega)])
    have hall : ((1 : Int32) <<< ((gq_f W 5) &&& 31)) - 1 = nI (2 ^ L.length - 1) := by rw [en]; exact bt_d L.length (by omega)
    have eA : (nI (2 ^ L.length - 1)).toInt = ((2 ^ L.length - 1 : Nat) : Int) := pa_nI (by omega)
    have hbd := rk_bd (only := only) (how := how) hS hT hN hL
    have hm : ∀ i j : Int, 1 ≤ i → i ≤ L.length → 1 ≤ j → j ≤ L.length → dp_m W i j = rk_m M W0 pr only how L i j := by
      intro x y x1 x2 y1 y2
      have h := hr (x - 1).toNat (by omega) (y - 1).toNat (by omega)
      rw [show (((x - 1).toNat : Nat) : Int) + 1 = x by omega, show (((y - 1).toNat : Nat) : Int) + 1 = y by omega, show 12 * (((x - 1).toNat : Nat) : Int) + (((y - 1).toNat : Nat) : Int) = 12 * (x - 1) + (y - 1) by omega] at h
      exact h
    obtain ⟨W2, g1, g2, g3⟩ := dp_all hbd (2 ^ L.length - 1) (gs_l W 5 (gz_ul (gq_l W 5) ((2 ^ L.length - 1 : Nat) : Int) (Int64.ofNat (0 : Fin 2).val))) (4999 - (2 ^ L.length - 1)) (Nat.le_refl _) ⟨hn, h12⟩ hm (by
      intro S s1 s2
      have eS : S = 2 ^ L.length - 1 := by omega
      rw [eS]
      show (gz_ul (gq_l W 5) ((2 ^ L.length - 1 : Nat) : Int) (Int64.ofNat (0 : Fin 2).val) ((2 ^ L.length - 1 : Nat) : Int)).toInt = _
      rw [gz_uls]
      have hk0 : dp_k L.length (2 ^ L.length - 1) = 0 := by
        have hfull : pl_n L.length (2 ^ L.length - 1) = L.length := by
          have h1 : pl_n L.length (2 ^ L.length - 1) = pm_S (fun _ => 1) L.length := pm_S_congr (fun j j1 j2 => by
            show (if pl_b (2 ^ L.length - 1) j = true then (1 : Int) else 0) = 1
            rw [if_pos]
            show (2 ^ L.length - 1).testBit (j - 1).toNat = true
            rw [Nat.testBit_two_pow_sub_one]
            simp
            omega)
          rw [h1]
          have h2 : ∀ n : Nat, pm_S (fun _ => (1 : Int)) n = n := by
            intro n
            induction n with
            | zero => rfl
            | succ n ih =>
              show pm_S (fun _ => (1 : Int)) n + 1 = _
              rw [ih]
              omega
          exact h2 _
        unfold dp_k
        rw [hfull]
        omega
      rw [hk0]
      rfl)
    refine ⟨W2, ?_, pg_t (pg_l (Or.inr rfl) (pg_w hf (fun _ z => z) (fun _ z => Or.inl z) (fun _ z => z))) (pg_of g2 (fun _ z => z.elim) (fun _ z => Or.inr z)), ⟨⟨by rw [g2.2.2.1 5]; exact hn, h12⟩, hbd, fun x y x1 x2 y1 y2 => ?_, g3⟩, fun x hx => ?_⟩
    · show fl_Mo_reckon_61 (f + 1) pr only how a W = some W2
      rw [fl_Mo_reckon_61, if_pos (by rw [pa_le, hn]; omega), hall, eA, if_pos (by omega), show nI (2 ^ L.length - 1) - 1 = nI (2 ^ L.length - 1) + (-1) from Int32.sub_eq_add_neg _ _, show 5000 = 4999 - (2 ^ L.length - 1) + (2 ^ L.length - 1 + 1) by omega]
      exact g1
    · rw [← hm x y x1 x2 y1 y2]
      show (gq_l W2 4 _).toInt = _
      rw [g2.2.1 4 (by decide)]
      rfl
    · rw [g2.1 13 (fun z => z)]
      exact hu x hx
  | k + 1, i, a, W, f, ha, hk, hf, hn, hu, hr => by
    have e1 : (a + 1).toInt = ((i + 1 : Nat) : Int) := by rw [pa_1 (by omega)]; omega
    obtain ⟨W1, a1, a2, a3, a4⟩ := rk_row (K := fl_Mo_reckon_61 (f + (k + 1))) (g := g) hC hS hT hN hhow hL h12 ha (by omega) L.length 0 0 W (4999 - L.length) rfl (by omega) hf hn hu
    have h13 : gq_i W1 13 = gq_i W 13 := a2.1 13 (fun z => z)
    obtain ⟨W2, g1, g2⟩ := rk_all hC hS hT hN hhow hL h12 k (i + 1) (a + 1) W1 f e1 (by omega) (pg_t hf (pg_w a2 (fun _ z => z.elim) (fun x z => z) (fun _ z => z.elim))) (by rw [a2.2.2.1 5 (fun z => z)]; exact hn) (by rw [h13]; exact hu) (fun x hx z hz => by
      by_cases e : x = i
      · rw [e]; exact a3 z (by omega) hz
      · rw [a4 _ (by omega)]
        exact hr x (by omega) z hz)
    refine ⟨W2, ?_, g2⟩
    show fl_Mo_reckon_61 (f + (k + 1) + 1) pr only how a W = some W2
    rw [fl_Mo_reckon_61, if_neg (by rw [pa_le, hn]; omega), show 5000 = 4999 - L.length + (L.length + 1) by omega, a1]
    exact g1
theorem rk_reckon {M W : gq_M} {g pr only how : Int32} (hC : rp_C M W) (hS : rp_S M W) (hT : rp_T M W) (hN : rn_W M W) (hpr : pr = 0 ∨ pr = 1) (hhow : how = 0 ∨ how = 1 ∨ how = -1) (h12 : (un_L M g pr (lm_c M)).length ≤ 12) :
    ∃ W2, fn_Mo_reckon g pr only how W = some W2 ∧ pf_G (fun a => a = 13) (fun a => a = 4 ∨ a = 5) (fun i => i = 5) W W2 ∧ dc_W (un_L M g pr (lm_c M)).length (rk_m M W pr only how (un_L M g pr (lm_c M))) W2 ∧ ∀ i : Nat, i < (un_L M g pr (lm_c M)).length → (gq_i W2 13 (i : Int)).toInt = (un_L M g pr (lm_c M)).getD i 0 := by
  have h80 := hC.2.2
  obtain ⟨W1, a1, a2, a3, a4⟩ := rk_col (g := g) (o := only) (h := how) hC hS hpr h12 (lm_c M) 0 0 (gs_f W 5 0) (4999 - lm_c M) rfl (by omega) (pg_f rfl (pg_r _ _ _ _)) rfl (fun i hi => absurd hi (Nat.not_lt_zero i))
  obtain ⟨W2, g1, g2, g3, g4⟩ := rk_all (g := g) (only := only) (how := how) (L := un_L M g pr (lm_c M)) hC hS hT hN hhow (fun p hp => by
    have h := un_mem hp
    exact ⟨h.1, by have := h.2.1; unfold lm_c at this; omega, h.2.2⟩) h12 (un_L M g pr (lm_c M)).length 0 0 W1 (4999 - (un_L M g pr (lm_c M)).length) rfl (by omega) (pg_w a2 (fun _ z => z) (fun _ z => z.elim) (fun _ z => z)) a3 a4 (fun x hx => absurd hx (Nat.not_lt_zero x))
  refine ⟨W2, ?_, g2, g3, g4⟩
  unfold fn_Mo_reckon
  rw [show 5000 = 4999 - lm_c M + (lm_c M + 1) by unfold lm_c; omega, a1, show 5000 = 4999 - (un_L M g pr (lm_c M)).length + ((un_L M g pr (lm_c M)).length + 1) by omega]
  exact g1
