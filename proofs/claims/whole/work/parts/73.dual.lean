/-! dual -/
theorem du_he {n : Nat} {c : Int → Int → Int64} {u v : Int → Int64} {ro t0 : Int → Int} (h12 : n ≤ 12) (hc : hi_c n c) (hA : hi_A n n ro) (hP : hi_P n c n u v ro) (h1 : pm_into n t0) (h2 : pm_inj n t0) (hb : ∀ i : Int, 1 ≤ i → i ≤ n → (c i (t0 i)).toInt ≤ 2008000000) : ∀ j : Int, 1 ≤ j → j ≤ n → (c (ro j) j).toInt < 1000000000000 := by
  obtain ⟨t, ht1, ht2⟩ := hi_tau hA
  have hT : pm_S (hi_u u) n + pm_S (hi_u v) n ≤ n * 2008000000 := by
    have a1 : pm_S (fun i => hi_u u i + hi_u v (t0 i)) n ≤ pm_S (fun i => (c i (t0 i)).toInt) n := pm_S_le (fun i a b => hP.1 i (t0 i) a b (h1 i a b).1 (h1 i a b).2)
    rw [pm_S_add (hi_u u) (fun i => hi_u v (t0 i)), pm_S_perm n t0 h1 h2 (hi_u v)] at a1
    have a2 := pm_S_bound (n := n) hb
    omega
  have hE : pm_S (fun j => (c (ro j) j).toInt) n = pm_S (hi_u u) n + pm_S (hi_u v) n := by
    rw [← pm_S_perm n ro (fun i a b => ⟨(ht2 i a b).1, (ht2 i a b).2.1⟩) (fun i j a b a2 b2 h => by
      have h3 := (ht2 i a b).2.2
      rw [h, (ht2 j a2 b2).2.2] at h3
      exact h3.symm) (hi_u u), ← pm_S_add]
    exact pm_S_congr (fun j a b => (hP.2.1 j a b (by have := (ht2 j a b).1; omega)).symm)
  intro j a b
  have h3 := pm_S_ge (f := fun j => (c (ro j) j).toInt) (n := n) (fun j a b => (hc _ _ (ht2 j a b).1 (ht2 j a b).2.1 a b).1) a b
  have h4 : (c (ro j) j).toInt ≤ pm_S (fun j => (c (ro j) j).toInt) n := h3
  omega
theorem du_row {M : gq_M} {L : List Int} {U : Int32} {i0 : Nat} (hn : (gq_f M 2).toInt = L.length) (h12 : L.length ≤ 12) (hu : ∀ i : Nat, i < L.length → (gq_i M 10 ((i : Int) + 1)).toInt = L.getD i 0) (hi0 : i0 < L.length) (hU : U.toInt = L.getD i0 0) (hinj : ∀ i j : Nat, i < L.length → j < L.length → L.getD i 0 = L.getD j 0 → i = j) : ∀ (k i : Nat) (v : Int32) (f : Nat), v.toInt = (i : Int) + 1 → i + k = i0 → ∃ w : Int32, fl_Ma_rowOfUnit_2 M (f + (k + 1)) U v = some w ∧ w.toInt = (i0 : Int) + 1
  | 0, i, v, f, hv, hk => by
    have e : i = i0 := by omega
    refine ⟨v, ?_, by rw [hv, e]⟩
    show fl_Ma_rowOfUnit_2 M (f + 1) U v = _
    rw [fl_Ma_rowOfUnit_2, if_neg (by rw [pa_lt, hn, hv]; omega), if_pos (by omega), if_pos (by rw [pa_eq, hv, e, hu i0 hi0, hU])]
  | k + 1, i, v, f, hv, hk => by
    have e1 : (v + 1).toInt = ((i + 1 : Nat) : Int) + 1 := by rw [pa_1 (by omega)]; omega
    obtain ⟨w, w1, w2⟩ := du_row hn h12 hu hi0 hU hinj k (i + 1) (v + 1) f e1 (by omega)
    refine ⟨w, ?_, w2⟩
    show fl_Ma_rowOfUnit_2 M (f + (k + 1) + 1) U v = _
    rw [fl_Ma_rowOfUnit_2, if_neg (by rw [pa_lt, hn, hv]; omega), if_pos (by omega), if_neg (fun z => by
      rw [pa_eq, hv, hu i (by omega), hU] at z
      have := hinj i i0 (by omega) hi0 z
      omega)]
    exact w1
theorem du_rw {M : gq_M} {L : List Int} {U : Int32} {i0 : Nat} (hn : (gq_f M 2).toInt = L.length) (h12 : L.length ≤ 12) (hu : ∀ i : Nat, i < L.length → (gq_i M 10 ((i : Int) + 1)).toInt = L.getD i 0) (hi0 : i0 < L.length) (hU : U.toInt = L.getD i0 0) (hinj : ∀ i j : Nat, i < L.length → j < L.length → L.getD i 0 = L.getD j 0 → i = j) : ∃ w : Int32, fn_Ma_rowOfUnit U M = some w ∧ w.toInt = (i0 : Int) + 1 := by
  obtain ⟨w, w1, w2⟩ := du_row hn h12 hu hi0 hU hinj i0 0 1 (4999 - i0) rfl (by omega)
  refine ⟨w, ?_, w2⟩
  unfold fn_Ma_rowOfUnit
  rw [show 5000 = 4999 - i0 + (i0 + 1) by omega]
  exact w1
abbrev du_B : Int64 := 1000000000000
theorem du_own {M : gq_M} {L : List Int} {U : Int32} {i0 : Nat} (hn : (gq_f M 2).toInt = L.length) (h12 : L.length ≤ 12) (hu : ∀ i : Nat, i < L.length → (gq_i M 10 ((i : Int) + 1)).toInt = L.getD i 0) (hi0 : i0 < L.length) (hU : U.toInt = L.getD i0 0) (hinj : ∀ i j : Nat, i < L.length → j < L.length → L.getD i 0 = L.getD j 0 → i = j) : ∃ M3, fn_Ma_forbidOwn U M = some M3 ∧ pf_F (fun _ => False) (fun a => 7 ≤ a ∧ a ≤ 19) M M3 ∧ ∀ i j : Int, 1 ≤ i → i ≤ L.length → 1 ≤ j → j ≤ L.length → pv_c M3 i j = if i = (i0 : Int) + 1 ∧ i = j then du_B else pv_c M i j := by
  obtain ⟨w, w1, w2⟩ := du_rw hn h12 hu hi0 hU hinj
  refine ⟨gs_l M (7 + (w.toInt.toNat)) (gz_ul (gq_l M (7 + (w.toInt.toNat))) w.toInt 1000000000000), ?_, pf_l (by omega) (pf_r _ _ _), fun i j i1 i2 j1 j2 => ?_⟩
  · unfold fn_Ma_forbidOwn
    rw [w1, Option.bind_some, if_pos (by omega)]
  · show gq_l (gs_l M (7 + (w.toInt.toNat)) (gz_ul (gq_l M (7 + (w.toInt.toNat))) w.toInt 1000000000000)) (7 + i.toNat) j = _
    by_cases e : i = (i0 : Int) + 1
    · have e2 : w.toInt = i := by omega
      rw [e2]
      have e3 : gq_l (gs_l M (7 + i.toNat) (gz_ul (gq_l M (7 + i.toNat)) i 1000000000000)) (7 + i.toNat) = gz_ul (gq_l M (7 + i.toNat)) i 1000000000000 := gq_us _ _ _
      rw [e3]
      by_cases e4 : i = j
      · rw [if_pos ⟨e, e4⟩, e4, gz_uls]
      · rw [if_neg (fun z => e4 z.2), gz_uln _ _ (fun z => e4 z.symm)]
    · have e3 : gq_l (gs_l M (7 + w.toInt.toNat) (gz_ul (gq_l M (7 + w.toInt.toNat)) w.toInt 1000000000000)) (7 + i.toNat) = gq_l M (7 + i.toNat) := gq_un _ _ (by omega)
      rw [e3, if_neg (fun z => e z.1)]
theorem du_oth {w : Int32} {n i0 : Nat} (h12 : n ≤ 12) (hw : w.toInt = (i0 : Int) + 1) (hi0 : i0 < n) : ∀ (k c : Nat) (v : Int32) (M : gq_M) (f : Nat), v.toInt = (c : Int) + 1 → c + k = n → (gq_f M 2).toInt = n → ∃ M3, fl_Ma_forbidOthers_8 (f + (k + 1)) w v M = some M3 ∧ pf_F (fun _ => False) (fun a => 7 ≤ a ∧ a ≤ 19) M M3 ∧ ∀ i j : Int, 1 ≤ i → i ≤ n → 1 ≤ j → j ≤ n → pv_c M3 i j = if i = (i0 : Int) + 1 ∧ (c : Int) + 1 ≤ j ∧ i ≠ j then du_B else pv_c M i j
  | 0, c, v, M, f, hv, hk, hn => by
    refine ⟨M, ?_, pf_r _ _ _, fun i j i1 i2 j1 j2 => by rw [if_neg (by omega)]⟩
    show fl_Ma_forbidOthers_8 (f + 1) w v M = _
    rw [fl_Ma_forbidOthers_8, if_pos (by rw [pa_lt, hn, hv]; omega)]
  | k + 1, c, v, M, f, hv, hk, hn => by
    have e1 : (v + 1).toInt = ((c + 1 : Nat) : Int) + 1 := by rw [pa_1 (by omega)]; omega
    have a1 : ¬ gq_f M 2 < v := by rw [pa_lt, hn, hv]; omega
    by_cases e : v = w
    · obtain ⟨M3, g1, g2, g3⟩ := du_oth h12 hw hi0 k (c + 1) (v + 1) M f e1 (by omega) hn
      refine ⟨M3, ?_, g2, fun i j i1 i2 j1 j2 => ?_⟩
      · show fl_Ma_forbidOthers_8 (f + (k + 1) + 1) w v M = _
        rw [fl_Ma_forbidOthers_8, if_neg a1, if_pos e]
        exact g1
      · have hvw : v.toInt = w.toInt := by rw [e]
        rw [g3 i j i1 i2 j1 j2]
        by_cases z : i = (i0 : Int) + 1 ∧ (c : Int) + 1 ≤ j ∧ i ≠ j
        · rw [if_pos z, if_pos (by omega)]
        · rw [if_neg z, if_neg (by omega)]
    · have hvw : v.toInt ≠ w.toInt := fun z => e (pa_eq.mpr z)
      obtain ⟨M3, g1, g2, g3⟩ := du_oth h12 hw hi0 k (c + 1) (v + 1) (gs_l M (7 + (w.toInt.toNat)) (gz_ul (gq_l M (7 + (w.toInt.toNat))) v.toInt 1000000000000)) f e1 (by omega) hn
      refine ⟨M3, ?_, pf_t (pf_l (by omega) (pf_r _ _ _)) g2, fun i j i1 i2 j1 j2 => ?_⟩
      · show fl_Ma_forbidOthers_8 (f + (k + 1) + 1) w v M = _
        rw [fl_Ma_forbidOthers_8, if_neg a1, if_neg e, if_pos (by omega), if_pos (by omega)]
        exact g1
      · rw [g3 i j i1 i2 j1 j2]
        by_cases z : i = (i0 : Int) + 1 ∧ ((c + 1 : Nat) : Int) + 1 ≤ j ∧ i ≠ j
        · rw [if_pos z, if_pos (by omega)]
        · rw [if_neg z]
          show gq_l (gs_l M (7 + (w.toInt.toNat)) (gz_ul (gq_l M (7 + (w.toInt.toNat))) v.toInt 1000000000000)) (7 + i.toNat) j = _
          by_cases e4 : i = (i0 : Int) + 1
          · have e2 : w.toInt = i := by omega
            rw [e2]
            have e3 : gq_l (gs_l M (7 + i.toNat) (gz_ul (gq_l M (7 + i.toNat)) v.toInt 1000000000000)) (7 + i.toNat) = gz_ul (gq_l M (7 + i.toNat)) v.toInt 1000000000000 := gq_us _ _ _
            rw [e3]
            by_cases e5 : j = v.toInt
            · rw [if_pos (by omega), e5, gz_uls]
            · rw [if_neg (by omega), gz_uln _ _ e5]
          · have e3 : gq_l (gs_l M (7 + w.toInt.toNat) (gz_ul (gq_l M (7 + w.toInt.toNat)) v.toInt 1000000000000)) (7 + i.toNat) = gq_l M (7 + i.toNat) := gq_un _ _ (by omega)
            rw [e3, if_neg (fun z => e4 z.1)]
theorem du_others {M : gq_M} {L : List Int} {U : Int32} {i0 : Nat} (hn : (gq_f M 2).toInt = L.length) (h12 : L.length ≤ 12) (hu : ∀ i : Nat, i < L.length → (gq_i M 10 ((i : Int) + 1)).toInt = L.getD i 0) (hi0 : i0 < L.length) (hU : U.toInt = L.getD i0 0) (hinj : ∀ i j : Nat, i < L.length → j < L.length → L.getD i 0 = L.getD j 0 → i = j) : ∃ M3, fn_Ma_forbidOthers U M = some M3 ∧ pf_F (fun _ => False) (fun a => 7 ≤ a ∧ a ≤ 19) M M3 ∧ ∀ i j : Int, 1 ≤ i → i ≤ L.length → 1 ≤ j → j ≤ L.length → pv_c M3 i j = if i = (i0 : Int) + 1 ∧ i ≠ j then du_B else pv_c M i j := by
  obtain ⟨w, w1, w2⟩ := du_rw hn h12 hu hi0 hU hinj
  obtain ⟨M3, g1, g2, g3⟩ := du_oth h12 w2 hi0 L.length 0 1 M (4999 - L.length) rfl (by omega) hn
  refine ⟨M3, ?_, g2, fun i j i1 i2 j1 j2 => ?_⟩
  · unfold fn_Ma_forbidOthers
    rw [w1, Option.bind_some, show 5000 = 4999 - L.length + (L.length + 1) by omega]
    exact g1
  · rw [g3 i j i1 i2 j1 j2]
    by_cases z : i = (i0 : Int) + 1 ∧ i ≠ j
    · rw [if_pos z, if_pos (by omega)]
    · rw [if_neg z, if_neg (by omega)]
theorem du_R {M W M4 W2 : gq_M} (hR : rl_R M W) (hm : pf_G (fun a => 10 ≤ a ∧ a ≤ 14) (fun a => 4 ≤ a ∧ a ≤ 19) (fun i => i = 2) M M4) (hw : pf_G (fun a => a = 13) (fun a => a = 4 ∨ a = 5) (fun i => i = 5) W W2) (hcm : px_cm M4) : rl_R M4 W2 := by
  obtain ⟨hKK, hN, hH, hJ, -⟩ := hR
  refine ⟨rl_Kgo hKK ⟨fun a a1 a2 => hm.1 a (by omega), ⟨hm.1 16 (by decide), hm.1 17 (by decide)⟩, fun a h => hm.2.1 a (by omega), hm.2.2.1 0 (by decide), hm.2.2.1 1 (by decide), hm.2.2.1 5 (by decide)⟩ ⟨fun a a1 a2 => hw.1 a (by omega), ⟨hw.1 11 (by decide), hw.1 12 (by decide)⟩, fun a h => hw.2.1 a (by omega), hw.2.2.1 1 (by decide), hw.2.2.1 2 (by decide), hw.2.2.1 4 (by decide)⟩, ?_, rp_Hgo hH (hw.1 9 (by decide)) (hw.1 10 (by decide)) (hm.1 15 (by decide)) (fun r hr => hm.1 _ (by omega)) (by rw [hm.2.2.1 1 (by decide)]; exact Int.le_refl _) (hm.2.2.1 3 (by decide)) (hm.2.2.1 4 (by decide)) (hw.2.2.1 3 (by decide)), by rw [hw.2.2.2 0, hm.2.2.2 0]; exact hJ, hcm⟩
  unfold rp_N
  rw [hm.1 3 (by decide), hm.2.2.1 1 (by decide), hw.1 2 (by decide)]
  exact hN
def du_C (s U pr : Int32) (M : gq_M) : Option (Int64 × gq_M) := (fn_PS_loadMatching ((gq_i M 1) U.toInt) pr M).bind fun q12 => if s = 1 then if 2 ≤ (gq_f q12 2) then (fn_Ma_solve  q12).bind fun q16 => if s = 0 then (fn_Ma_forbidOthers U q16.2).bind fun q19 => (fn_Ma_solve  q19).bind fun q21 => some ((q21.1 - q16.1), q21.2) else (fn_Ma_forbidOwn U q16.2).bind fun q23 => (fn_Ma_solve  q23).bind fun q25 => some ((q25.1 - q16.1), q25.2) else some ((-1), q12) else (fn_Ma_solve  q12).bind fun q27 => if s = 0 then (fn_Ma_forbidOthers U q27.2).bind fun q30 => (fn_Ma_solve  q30).bind fun q32 => some ((q32.1 - q27.1), q32.2) else (fn_Ma_forbidOwn U q27.2).bind fun q34 => (fn_Ma_solve  q34).bind fun q36 => some ((q36.1 - q27.1), q36.2)
def du_W (s p pr : Int32) (W : gq_M) : Option (Int64 × gq_M) := (fn_Mo_reckon ((gq_i W 0) p.toInt) pr (-1) 0 W).bind fun q13 => if s = 1 then if (gq_f q13 5) = 1 then some ((-1), q13) else if s = 0 then (fn_Mo_reckon ((gq_i q13 0) p.toInt) pr p 1 q13).bind fun q19 => some ((((gq_l q19 5) 0) - ((gq_l q13 5) 0)), q19) else (fn_Mo_reckon ((gq_i q13 0) p.toInt) pr p (-1) q13).bind fun q21 => some ((((gq_l q21 5) 0) - ((gq_l q13 5) 0)), q21) else if s = 0 then (fn_Mo_reckon ((gq_i q13 0) p.toInt) pr p 1 q13).bind fun q24 => some ((((gq_l q24 5) 0) - ((gq_l q13 5) 0)), q24) else (fn_Mo_reckon ((gq_i q13 0) p.toInt) pr p (-1) q13).bind fun q26 => some ((((gq_l q26 5) 0) - ((gq_l q13 5) 0)), q26)
theorem du_l0 {n : Nat} {m : Int → Int → Int} {W : gq_M} (h : dc_W n m W) : (gq_l W 5 0).toInt = pl_F n m dp_V n 0 := by
  have h1 := h.2.2.2 0 (Nat.le_refl _) (Nat.two_pow_pos n)
  have h2 : dp_k n 0 = n := by unfold dp_k; rw [pl_n_0]; omega
  rw [h2] at h1
  exact h1
/-- a matching that takes nothing forbidden -/
theorem du_t0 {n i0 : Nat} {how : Int32} (hi0 : i0 < n) (hh : how = 1 ∨ (how = -1 ∧ 2 ≤ n)) : ∃ t0 : Int → Int, pm_into n t0 ∧ pm_inj n t0 ∧ ∀ i : Int, 1 ≤ i → i ≤ n → ¬ (i = (i0 : Int) + 1 ∧ ((how = 1 ∧ i ≠ t0 i) ∨ (how = -1 ∧ i = t0 i))) := by
  rcases hh with rfl | ⟨rfl, h2⟩
  · refine ⟨fun i => i, fun i a b => ⟨a, b⟩, fun i j _ _ _ _ h => h, fun i a b => ?_⟩
    rintro ⟨-, ⟨-, z⟩ | ⟨z, -⟩⟩
    · exact z rfl
    · exact absurd z (by decide)
  · have ⟨r, r1, r2, r3⟩ : ∃ r : Int, 1 ≤ r ∧ r ≤ n ∧ r ≠ (i0 : Int) + 1 := by
      by_cases e : i0 = 0
      · exact ⟨2, by omega, by omega, by omega⟩
      · exact ⟨1, by omega, by omega, by omega⟩
    have e1 : ∀ i : Int, i = (i0 : Int) + 1 → (if i = (i0 : Int) + 1 then r else if i = r then (i0 : Int) + 1 else i) = r := fun i h => if_pos h
    have e2 : ∀ i : Int, i ≠ (i0 : Int) + 1 → i = r → (if i = (i0 : Int) + 1 then r else if i = r then (i0 : Int) + 1 else i) = (i0 : Int) + 1 := fun i h g => by rw [if_neg h, if_pos g]
    have e3 : ∀ i : Int, i ≠ (i0 : Int) + 1 → i ≠ r → (if i = (i0 : Int) + 1 then r else if i = r then (i0 : Int) + 1 else i) = i := fun i h g => by rw [if_neg h, if_neg g]
    refine ⟨fun i => if i = (i0 : Int) + 1 then r else if i = r then (i0 : Int) + 1 else i, fun i a b => ?_, fun i j a b a2 b2 h => ?_, fun i a b => ?_⟩
    · show 1 ≤ (if i = (i0 : Int) + 1 then r else if i = r then (i0 : Int) + 1 else i) ∧ (if i = (i0 : Int) + 1 then r else if i = r then (i0 : Int) + 1 else i) ≤ n
      by_cases c1 : i = (i0 : Int) + 1
      · rw [e1 i c1]; exact ⟨r1, r2⟩
      · by_cases c2 : i = r
        · rw [e2 i c1 c2]; omega
        · rw [e3 i c1 c2]; exact ⟨a, b⟩
    · have h' : (if i = (i0 : Int) + 1 then r else if i = r then (i0 : Int) + 1 else i) = (if j = (i0 : Int) + 1 then r else if j = r then (i0 : Int) + 1 else j) := h
      by_cases c1 : i = (i0 : Int) + 1 <;> by_cases d1 : j = (i0 : Int) + 1
      · omega
      · rw [e1 i c1] at h'
        by_cases d2 : j = r
        · rw [e2 j d1 d2] at h'; omega
        · rw [e3 j d1 d2] at h'; omega
      · rw [e1 j d1] at h'
        by_cases d2 : i = r
        · rw [e2 i c1 d2] at h'; omega
        · rw [e3 i c1 d2] at h'; omega
      · by_cases c2 : i = r <;> by_cases d2 : j = r
        · omega
        · rw [e2 i c1 c2, e3 j d1 d2] at h'; omega
        · rw [e3 i c1 c2, e2 j d1 d2] at h'; omega
        · rw [e3 i c1 c2, e3 j d1 d2] at h'; exact h'
    · show ¬ (i = (i0 : Int) + 1 ∧ (((-1 : Int32) = 1 ∧ i ≠ (if i = (i0 : Int) + 1 then r else if i = r then (i0 : Int) + 1 else i)) ∨ ((-1 : Int32) = -1 ∧ i = (if i = (i0 : Int) + 1 then r else if i = r then (i0 : Int) + 1 else i))))
      rintro ⟨z1, ⟨z, -⟩ | ⟨-, z⟩⟩
      · exact absurd z (by decide)
      · rw [e1 i z1] at z; omega
set_option maxHeartbeats 1000000 in
theorem du_core {M W : gq_M} {U pr s : Int32} (hR : rl_R M W) (hs : s = 0 ∨ s = 1) (hU : sw_in M U.toInt) (hpr : pr = 0 ∨ pr = 1) (hub : un_b M (gq_i M 1 U.toInt) pr U.toInt = true) :
    ∃ (b : Int64) (M2 W2 : gq_M), du_C s U pr M = some (b, M2) ∧ du_W s U pr W = some (b, W2) ∧ gq_f W2 0 = gq_f W 0 ∧ rl_R M2 W2 := by
  obtain ⟨⟨hC, hS, hZ, hT, hG, hQ⟩, hN, hH, hJ, hcm⟩ := id hR
  have hV : dp_V = 1000000000000000 := rfl
  have h80 := hC.2.2
  have hg12 := hC.2.1
  have hNA : rn_A M := fun p h1 h2 => (hN p h1 h2).2
  have hNW : rn_W M W := fun p h1 h2 => by rw [(hN p h1 h2).1]; exact (hN p h1 h2).2
  obtain ⟨wg, gg1, gg2⟩ := (hS U.toInt hU.1 hU.2).1
  generalize hgg : gq_i M 1 U.toInt = g at hub wg gg1 gg2
  have h12 : (un_L M g pr (lm_c M)).length ≤ 12 := by
    have := un_len (M := M) (g := g) (pr := pr) (lm_c M)
    have := (hG g gg1 (by omega)).2
    omega
  have hmem : ∀ p ∈ un_L M g pr (lm_c M), sw_in M p ∧ un_b M g pr p = true := by
    intro p hp
    have h := un_mem hp
    exact ⟨⟨h.1, by have := h.2.1; unfold lm_c at this; omega⟩, h.2.2⟩
  have hLs := sw_Lof (g := g) hC hS h12
  have hUL : U.toInt ∈ un_L M g pr (lm_c M) := un_has hU.1 (by have := hU.2; unfold lm_c; omega) hub
  obtain ⟨M1, a1, a2, a3, a4, a5⟩ := lm_load (g := g) (pr := pr) hC hS hT hNA hpr h12
  obtain ⟨W1, c1, c2, c3, c4⟩ := rk_reckon (g := g) (pr := pr) (only := -1) (how := 0) hC hS hT hNW hpr (Or.inl rfl) h12
  have hrw1 : rw_E W W1 := rw_of c2 (fun a h1 h2 z => by omega) (fun a h1 z => by omega) (fun a h1 h2 z => by omega)
  have hW1 : ∀ how : Int32, (how = 1 ∨ how = -1) → ∃ W2, fn_Mo_reckon g pr U how W1 = some W2 ∧ pf_G (fun a => a = 13) (fun a => a = 4 ∨ a = 5) (fun i => i = 5) W1 W2 ∧ dc_W (un_L M g pr (lm_c M)).length (rk_m M W1 pr U how (un_L M g pr (lm_c M))) W2 := fun how hh => by
    obtain ⟨W2, d1, d2, d3, -⟩ := rk_reckon (M := M) (W := W1) (g := g) (pr := pr) (only := U) (how := how) (rw_C hrw1 hC) (rw_S hrw1 hS) (rw_T hrw1 hT) (fun p h1 h2 => by rw [c2.1 2 (by decide)]; exact hNW p h1 h2) hpr (Or.inr hh) h12
    exact ⟨W2, d1, d2, d3⟩
  generalize hL : un_L M g pr (lm_c M) = L at h12 hmem hLs hUL a3 a4 a5 c3 c4 hW1
  obtain ⟨i0, hi0, hUi⟩ := un_idx hUL
  have hUi' : U.toInt = L.getD i0 0 := hUi.symm
  have hinj := hLs.2.1
  have hru : ∀ i j : Nat, i < L.length → j < L.length → ru_c M pr (pv_i M 3) (L.getD i 0) (L.getD j 0) = ru_c M pr (pv_i W 2) (L.getD i 0) (L.getD j 0) := by
    intro i j hi hj
    obtain ⟨h1, h2⟩ := hmem _ (un_at hj)
    have e1 : gq_i W 2 (L.getD j 0) = gq_i M 3 (L.getD j 0) := (hN _ h1.1 h1.2).1
    unfold ru_c
    have e2 : pv_i M 3 (L.getD j 0) = pv_i W 2 (L.getD j 0) := by show (gq_i M 3 _).toInt = (gq_i W 2 _).toInt; rw [e1]
    rw [e2]
    by_cases e : pr = 0
    · rw [if_pos e, if_pos e]
    · rw [if_neg e, if_neg e]
      obtain ⟨-, -, it⟩ := un_is hS h1 h2
      rcases it with ⟨e9, -⟩ | ⟨-, k1, k2, -⟩
      · exact absurd e9 e
      · have e3 : pv_i M 3 (gq_i M 5 (L.getD j 0)).toInt = pv_i W 2 (gq_i M 5 (L.getD j 0)).toInt := by
          show (gq_i M 3 (gq_i M 5 (L.getD j 0)).toInt).toInt = (gq_i W 2 (gq_i M 5 (L.getD j 0)).toInt).toInt
          rw [(hN _ k1 k2).1]
        rw [e3]
  have hbb : ∀ i j : Int, 1 ≤ i → i ≤ L.length → 1 ≤ j → j ≤ L.length → 0 ≤ (pv_c M1 i j).toInt ∧ (pv_c M1 i j).toInt ≤ 2008000000 := by
    intro i j i1 i2 j1 j2
    rw [a5 i j i1 i2 j1 j2]
    obtain ⟨h1, h2⟩ := hmem _ (un_at (L := L) (i := (i - 1).toNat) (by omega))
    obtain ⟨h3, h4⟩ := hmem _ (un_at (L := L) (i := (j - 1).toNat) (by omega))
    exact ru_bd (N := pv_i M 3) hS hT hNA h1 h3 h2 h4
  have hmc : ∀ i j : Int, 1 ≤ i → i ≤ L.length → 1 ≤ j → j ≤ L.length → (pv_c M1 i j).toInt = rk_m M W pr (-1) 0 L i j := by
    intro i j i1 i2 j1 j2
    rw [a5 i j i1 i2 j1 j2, hru _ _ (by omega) (by omega)]
    unfold rk_m
    rw [if_neg]
    rintro ⟨-, z⟩
    rcases z with ⟨z, -⟩ | ⟨z, -⟩ <;> exact absurd z (by decide)
  have hc1 : hi_c L.length (pv_c M1) := fun i j i1 i2 j1 j2 => by
    have := hbb i j i1 i2 j1 j2
    omega
  have hcm1 : px_cm M1 := by
    intro z z1 z2
    have e : gq_i M1 12 = gq_i M 12 := a2.1 12 (by decide)
    show 0 ≤ (gq_i M1 12 z).toInt ∧ (gq_i M1 12 z).toInt ≤ 12
    rw [e]
    exact hcm z z1 z2
  have hf1 : pf_G (fun a => 10 ≤ a ∧ a ≤ 14) (fun a => 4 ≤ a ∧ a ≤ 19) (fun i => i = 2) M M1 := pg_w a2 (fun a h => by omega) (fun a h => by omega) (fun _ h => h)
  -- the first solve
  obtain ⟨T, M2, b1, b2, b3, b4, b5, b6⟩ := px_solve ⟨a3, h12⟩ hc1 hcm1
  have ec2 : pv_c M2 = pv_c M1 := px_c b2 (fun a p q => by have := q.2; omega)
  have hf2 : pf_G (fun a => 10 ≤ a ∧ a ≤ 14) (fun a => 4 ≤ a ∧ a ≤ 19) (fun i => i = 2) M M2 := pg_t hf1 (pg_of b2 (fun a h => by omega) (fun a h => by have h1 := h.1; have h2 := h.2; omega))
  have hsum : pm_S (hi_u (gq_l M2 4)) L.length + pm_S (hi_u (gq_l M2 5)) L.length < dp_V := by
    have := sw_lt h12 b4 L.length 0 (Nat.le_refl _)
    rw [pl_d_0] at this
    exact this
  have hF : pl_F L.length (rk_m M W pr (-1) 0 L) dp_V L.length 0 = pm_S (hi_u (gq_l M2 4)) L.length + pm_S (hi_u (gq_l M2 5)) L.length := by
    refine hi_least hc1 (fun i j i1 i2 j1 j2 => by rw [hmc i j i1 i2 j1 j2]; exact Int.le_refl _) b3 b4 (fun j j1 j2 => ?_) (by omega)
    obtain ⟨t, ht1, ht2⟩ := hi_tau b3
    obtain ⟨r1, r2, -⟩ := ht2 j j1 j2
    rw [hmc _ j r1 r2 j1 j2]
  have hT1 : gq_l W1 5 0 = T := by
    apply pb_eq.mpr
    rw [du_l0 c3, hF, b6]
  have hn2 : (gq_f M2 2).toInt = L.length := by rw [b2.2.2.1 2]; exact a3
  have hu2 : ∀ i : Nat, i < L.length → (gq_i M2 10 ((i : Int) + 1)).toInt = L.getD i 0 := fun i hi => by rw [b2.1 10 (by decide)]; exact a4 i hi
  -- what is forbidden, and the second solve
  have key : ∀ (how : Int32) (F : gq_M → Option gq_M), (how = 1 ∨ (how = -1 ∧ 2 ≤ L.length)) → (∃ M3, F M2 = some M3 ∧ pf_F (fun _ => False) (fun a => 7 ≤ a ∧ a ≤ 19) M2 M3 ∧ ∀ i j : Int, 1 ≤ i → i ≤ L.length → 1 ≤ j → j ≤ L.length → pv_c M3 i j = if i = (i0 : Int) + 1 ∧ ((how = 1 ∧ i ≠ j) ∨ (how = -1 ∧ i = j)) then du_B else pv_c M2 i j) →
      ∃ (T2 : Int64) (M4 W2 : gq_M), ((F M2).bind fun q => (fn_Ma_solve q).bind fun r => some (r.1 - T, r.2)) = some (T2 - T, M4) ∧ fn_Mo_reckon g pr U how W1 = some W2 ∧ gq_l W2 5 0 = T2 ∧ gq_f W2 0 = gq_f W 0 ∧ rl_R M4 W2 := by
    intro how F hh hF3
    obtain ⟨M3, e1, e2, e3⟩ := hF3
    have e12 : du_B.toInt = 1000000000000 := rfl
    have hc3 : hi_c L.length (pv_c M3) := fun i j i1 i2 j1 j2 => by
      rw [e3 i j i1 i2 j1 j2]
      by_cases z : i = (i0 : Int) + 1 ∧ ((how = 1 ∧ i ≠ j) ∨ (how = -1 ∧ i = j))
      · rw [if_pos z, e12]; omega
      · rw [if_neg z, ec2]; exact hc1 i j i1 i2 j1 j2
    have hcm3 : px_cm M3 := fun z z1 z2 => by
      show 0 ≤ (gq_i M3 12 z).toInt ∧ (gq_i M3 12 z).toInt ≤ 12
      rw [e2.1 12 (fun z => z)]
      exact b5 z z1 z2
    obtain ⟨T2, M4, k1, k2, k3, k4, k5, k6⟩ := px_solve (n := L.length) (M := M3) ⟨by rw [e2.2.2.1 2]; exact hn2, h12⟩ hc3 hcm3
    obtain ⟨W2, d1, d2, d3⟩ := hW1 how (by rcases hh with h | h; exact Or.inl h; exact Or.inr h.1)
    obtain ⟨t0, t1, t2, t3⟩ := du_t0 hi0 hh
    have hlt := du_he h12 hc3 k3 k4 t1 t2 (fun i i1 i2 => by
      have := t1 i i1 i2
      rw [e3 i (t0 i) i1 i2 this.1 this.2, if_neg (t3 i i1 i2), ec2]
      exact (hbb i (t0 i) i1 i2 this.1 this.2).2)
    have hrb : ∀ i j : Int, 1 ≤ i → i ≤ L.length → (rk_b L U how i j ↔ (i = (i0 : Int) + 1 ∧ ((how = 1 ∧ i ≠ j) ∨ (how = -1 ∧ i = j)))) := by
      intro i j i1 i2
      unfold rk_b
      have : L.getD (i - 1).toNat 0 = U.toInt ↔ i = (i0 : Int) + 1 := by
        constructor
        · intro z
          rw [hUi'] at z
          have := hinj _ _ (by omega) hi0 z
          omega
        · intro z
          rw [hUi', show (i - 1).toNat = i0 by omega]
      rw [this]
    have hw12 : pv_i W1 2 = pv_i W 2 := by
      funext z
      show (gq_i W1 2 z).toInt = (gq_i W 2 z).toInt
      rw [c2.1 2 (by decide)]
    have hm3 : ∀ i j : Int, 1 ≤ i → i ≤ L.length → 1 ≤ j → j ≤ L.length → (¬ rk_b L U how i j → rk_m M W1 pr U how L i j = (pv_c M3 i j).toInt) ∧ (pv_c M3 i j).toInt ≤ rk_m M W1 pr U how L i j ∧ (rk_b L U how i j → (pv_c M3 i j).toInt = 1000000000000) := by
      intro i j i1 i2 j1 j2
      rw [e3 i j i1 i2 j1 j2]
      unfold rk_m
      by_cases z : rk_b L U how i j
      · rw [if_pos z, if_pos ((hrb i j i1 i2).mp z), e12]
        exact ⟨fun y => absurd z y, by omega, fun _ => rfl⟩
      · rw [if_neg z, if_neg (fun y => z ((hrb i j i1 i2).mpr y)), ec2, a5 i j i1 i2 j1 j2, hru _ _ (by omega) (by omega), hw12]
        exact ⟨fun _ => rfl, Int.le_refl _, fun y => absurd y z⟩
    have hs4 : pm_S (hi_u (gq_l M4 4)) L.length + pm_S (hi_u (gq_l M4 5)) L.length < dp_V := by
      have := sw_lt h12 k4 L.length 0 (Nat.le_refl _)
      rw [pl_d_0] at this
      exact this
    have hF4 : pl_F L.length (rk_m M W1 pr U how L) dp_V L.length 0 = pm_S (hi_u (gq_l M4 4)) L.length + pm_S (hi_u (gq_l M4 5)) L.length := by
      refine hi_least hc3 (fun i j i1 i2 j1 j2 => (hm3 i j i1 i2 j1 j2).2.1) k3 k4 (fun j j1 j2 => ?_) (by omega)
      obtain ⟨t, ht1, ht2⟩ := hi_tau k3
      obtain ⟨r1, r2, -⟩ := ht2 j j1 j2
      refine (hm3 _ j r1 r2 j1 j2).1 (fun z => ?_)
      have h1 := (hm3 _ j r1 r2 j1 j2).2.2 z
      have h2 := hlt j j1 j2
      omega
    have hf3 : pf_G (fun a => 10 ≤ a ∧ a ≤ 14) (fun a => 4 ≤ a ∧ a ≤ 19) (fun i => i = 2) M M3 := pg_t hf2 (pg_of e2 (fun a h => h.elim) (fun a h => by have h1 := h.1; have h2 := h.2; omega))
    have hf4 : pf_G (fun a => 10 ≤ a ∧ a ≤ 14) (fun a => 4 ≤ a ∧ a ≤ 19) (fun i => i = 2) M M4 := pg_t hf3 (pg_of k2 (fun a h => by omega) (fun a h => by have h1 := h.1; have h2 := h.2; omega))
    refine ⟨T2, M4, W2, by rw [e1, Option.bind_some, k1, Option.bind_some], d1, ?_, ?_, du_R hR hf4 (pg_t c2 d2) k5⟩
    · apply pb_eq.mpr
      rw [du_l0 d3, hF4, k6]
    · rw [d2.2.2.1 0 (by decide), c2.2.2.1 0 (by decide)]
  have hg1 : gq_i W1 0 U.toInt = g := by rw [c2.1 0 (by decide)]; exact wg
  have n10 : ¬ ((1 : Int32) = 0) := by decide
  have n01 : ¬ ((0 : Int32) = 1) := by decide
  unfold du_C du_W
  rw [hgg, wg, a1, c1, Option.bind_some, Option.bind_some, hg1]
  rcases hs with rfl | rfl
  · obtain ⟨T2, M4, W2, k1, k2, k3, k4, k5⟩ := key 1 (fn_Ma_forbidOthers U) (Or.inl rfl) (by
      obtain ⟨M3, e1, e2, e3⟩ := du_others hn2 h12 hu2 hi0 hUi' hinj
      refine ⟨M3, e1, e2, fun i j i1 i2 j1 j2 => ?_⟩
      rw [e3 i j i1 i2 j1 j2]
      by_cases z : i = (i0 : Int) + 1 ∧ i ≠ j
      · rw [if_pos z, if_pos ⟨z.1, Or.inl ⟨rfl, z.2⟩⟩]
      · rw [if_neg z, if_neg (fun y => by
          obtain ⟨y1, ⟨-, y2⟩ | ⟨y2, -⟩⟩ := y
          · exact z ⟨y1, y2⟩
          · exact absurd y2 (by decide))])
    refine ⟨T2 - T, M4, W2, ?_, ?_, k4, k5⟩
    · rw [if_neg n01, b1, Option.bind_some, if_pos rfl]
      exact k1
    · rw [if_neg n01, if_pos rfl, k2, Option.bind_some, k3, hT1]
  · have hn1 : (gq_f M1 2).toInt = L.length := a3
    have hnw : (gq_f W1 5).toInt = L.length := c3.1.1
    by_cases e : L.length = 1
    · refine ⟨-1, M1, W1, ?_, ?_, c2.2.2.1 0 (by decide), du_R hR hf1 c2 hcm1⟩
      · rw [if_pos rfl, if_neg (by rw [pa_le, hn1, show (2 : Int32).toInt = 2 from rfl]; omega)]
      · rw [if_pos rfl, if_pos (by rw [pa_eq, hnw, show (1 : Int32).toInt = 1 from rfl]; omega)]
    · obtain ⟨T2, M4, W2, k1, k2, k3, k4, k5⟩ := key (-1) (fn_Ma_forbidOwn U) (Or.inr ⟨rfl, by omega⟩) (by
        obtain ⟨M3, e1, e2, e3⟩ := du_own hn2 h12 hu2 hi0 hUi' hinj
        refine ⟨M3, e1, e2, fun i j i1 i2 j1 j2 => ?_⟩
        rw [e3 i j i1 i2 j1 j2]
        by_cases z : i = (i0 : Int) + 1 ∧ i = j
        · rw [if_pos z, if_pos ⟨z.1, Or.inr ⟨rfl, z.2⟩⟩]
        · rw [if_neg z, if_neg (fun y => by
            obtain ⟨y1, ⟨y2, -⟩ | ⟨-, y2⟩⟩ := y
            · exact absurd y2 (by decide)
            · exact z ⟨y1, y2⟩)])
      refine ⟨T2 - T, M4, W2, ?_, ?_, k4, k5⟩
      · rw [if_pos rfl, if_pos (by rw [pa_le, hn1, show (2 : Int32).toInt = 2 from rfl]; omega), b1, Option.bind_some, if_neg n10]
        exact k1
      · rw [if_pos rfl, if_neg (by rw [pa_eq, hnw, show (1 : Int32).toInt = 1 from rfl]; omega), if_neg n10, k2, Option.bind_some, k3, hT1]
/-- a unit, in either way: locked or not -/
theorem du_unit {M W : gq_M} {U pr s : Int32} (hR : rl_R M W) (hs : s = 0 ∨ s = 1) (hU : sw_in M U.toInt) (h6 : gq_i M 6 U.toInt = 0) (hpr : (pr = 0 ∧ gq_i M 5 U.toInt = -1) ∨ (pr = 1 ∧ gq_i M 5 U.toInt ≠ -1)) :
    ∃ (b : Int64) (M2 W2 : gq_M), ((fn_Pi_isUnitLocked U M).bind fun q6 => if q6 = 0 then if 0 ≤ U.toInt ∧ U.toInt < ((80 : Nat) : Int) then (fn_Pi_isPaired U M).bind fun q10 => du_C s U q10 M else none else some ((-1), M)) = some (b, M2) ∧ ((fn_Mo_isUnit U (gq_i W 0 U.toInt) pr (gs_f W 0 0)).bind fun q10 => if q10 = 0 then some ((-1), gs_f W 0 0) else du_W s U pr (gs_f W 0 0)) = some (b, W2) ∧ gq_f W2 0 = 0 ∧ rl_R M2 W2 := by
  obtain ⟨⟨hC, hS, hZ, hT, hG, hQ⟩, hN, hH, hJ, hcm⟩ := id (rl_0 hR 0)
  have h80 := hC.2.2
  have hr : 0 ≤ U.toInt ∧ U.toInt < ((80 : Nat) : Int) := by have := hU.1; have := hU.2; omega
  have hp01 : pr = 0 ∨ pr = 1 := by rcases hpr with h | h; exact Or.inl h.1; exact Or.inr h.1
  have wg : gq_i W 0 U.toInt = gq_i M 1 U.toInt := (hS U.toInt hU.1 hU.2).1.1
  have n10 : ¬ ((1 : Int32) = 0) := by decide
  obtain ⟨x, x1, x2⟩ := un_mod (g := gq_i M 1 U.toInt) (p := U) (pr := pr) hC hS hU hp01
  have hpd : fn_Pi_isPaired U M = some pr := by
    rw [sw_pd hr]
    rcases hpr with ⟨p1, p2⟩ | ⟨p1, p2⟩
    · rw [if_pos p2, p1]
    · rw [if_neg p2, p1]
  -- whether it is locked
  have hlk : ∃ q : Int32, fn_Pi_isUnitLocked U M = some q ∧ (q = 0 ↔ un_b M (gq_i M 1 U.toInt) pr U.toInt = true) := by
    unfold fn_Pi_isUnitLocked
    rw [if_pos hr, hpd, Option.bind_some]
    have hub : un_b M (gq_i M 1 U.toInt) pr U.toInt = (decide (gq_i M 7 U.toInt = 0) && (decide (gq_i M 5 U.toInt = -1) || decide (gq_i M 7 (gq_i M 5 U.toInt).toInt = 0))) := by
      unfold un_b
      rcases hpr with ⟨p1, p2⟩ | ⟨p1, p2⟩
      · rw [if_pos p2]; simp [p1, h6]
      · rw [if_neg p2]; simp [p1, h6]
    rw [hub]
    by_cases e7 : gq_i M 7 U.toInt = 0
    · rw [if_pos e7]
      rcases hpr with ⟨p1, p2⟩ | ⟨p1, p2⟩
      · refine ⟨0, by rw [if_pos p1], ?_⟩
        simp [e7, p2]
      · rw [if_neg (by rw [p1]; exact n10)]
        obtain ⟨-, -, -, -, -, -, pp⟩ := hS U.toInt hU.1 hU.2
        rcases pp with h | ⟨k1, k2, -⟩
        · exact absurd h.1 p2
        · rw [if_pos (by omega)]
          by_cases e8 : gq_i M 7 (gq_i M 5 U.toInt).toInt = 0
          · refine ⟨0, by rw [if_pos e8], ?_⟩
            simp [e7, e8]
          · refine ⟨1, by rw [if_neg e8], ?_⟩
            simp [e8, p2]
    · refine ⟨1, by rw [if_neg e7], ?_⟩
      simp [e7]
  obtain ⟨q, q1, q2⟩ := hlk
  rw [wg, q1, x1, Option.bind_some, Option.bind_some]
  by_cases e : un_b M (gq_i M 1 U.toInt) pr U.toInt = true
  · obtain ⟨b, M2, W2, k1, k2, k3, k4⟩ := du_core (rl_0 hR 0) hs hU hp01 e
    refine ⟨b, M2, W2, ?_, ?_, k3, k4⟩
    · rw [if_pos (q2.mpr e), if_pos hr, hpd, Option.bind_some]
      exact k1
    · rw [if_neg (fun z => by rw [x2.mp z] at e; cases e)]
      exact k2
  · have e' : un_b M (gq_i M 1 U.toInt) pr U.toInt = false := by
      cases h : un_b M (gq_i M 1 U.toInt) pr U.toInt with
      | true => exact absurd h e
      | false => rfl
    exact ⟨-1, M, gs_f W 0 0, by rw [if_neg (fun z => e (q2.mp z))], by rw [if_pos (x2.mpr e')], rfl, rl_0 hR 0⟩
theorem op_dual {M W : gq_M} (hR : rl_R M W) (s k : Int32) : rt_J M (fn_PS_dual s k M) (fn_Mo_dual s k W) rt_k := by
  obtain ⟨⟨hC, hS, hZ, hT, hG, hQ⟩, hN, hH, hJ, hcm⟩ := id hR
  have h80 := hC.2.2
  have n10 : ¬ ((1 : Int32) = 0) := by decide
  have n01 : ¬ ((0 : Int32) = 1) := by decide
  rcases op_pin? hC k with ⟨a1, a2, a3, a4⟩ | ⟨a3, a4⟩
  · have hr : 0 ≤ k.toInt ∧ k.toInt < ((80 : Nat) : Int) := by omega
    obtain ⟨-, -, -, -, -, w5, pp⟩ := hS k.toInt a1 a2
    by_cases hs : s = 0 ∨ s = 1
    · -- what either comes to
      have key : ∀ (U pr : Int32), sw_in M U.toInt → gq_i M 6 U.toInt = 0 → ((pr = 0 ∧ gq_i M 5 U.toInt = -1) ∨ (pr = 1 ∧ gq_i M 5 U.toInt ≠ -1)) → fn_Pi_unitOf k M = some U → fn_Mo_dual s k W = ((fn_Mo_isUnit U (gq_i W 0 U.toInt) pr (gs_f W 0 0)).bind fun q10 => if q10 = 0 then some ((-1), gs_f W 0 0) else du_W s U pr (gs_f W 0 0)) → rt_J M (fn_PS_dual s k M) (fn_Mo_dual s k W) rt_k := by
        intro U pr h1 h2 h3 h4 h5
        obtain ⟨b, M2, W2, k1, k2, k3, k4⟩ := du_unit hR hs h1 h2 h3
        refine ⟨b, W2, by rw [h5]; exact k2, Or.inr ⟨M2, ?_, k3, k4⟩⟩
        unfold fn_PS_dual
        rw [a3]
        show (if s = 0 then _ else _) = _
        rw [h4]
        have k1' : gb_r ((some U).bind fun q4 => (fn_Pi_isUnitLocked q4 M).bind fun q6 => if q6 = 0 then if 0 ≤ q4.toInt ∧ q4.toInt < ((80 : Nat) : Int) then (fn_Pi_isPaired q4 M).bind fun q10 => du_C s q4 q10 M else none else some ((-1), M)) = some (.inr (b, M2)) := by
          rw [Option.bind_some, k1]
          rfl
        rcases hs with e | e
        · rw [if_pos e]; exact k1'
        · rw [if_neg (by rw [e]; exact n10), if_pos e]; exact k1'
      rcases pp with ⟨p1, p2, p3⟩ | ⟨p1, p2, p3, p4, p5, p6⟩
      · refine key k 0 ⟨a1, a2⟩ p2 (Or.inl ⟨rfl, p1⟩) (by unfold fn_Pi_unitOf; rw [if_pos hr, if_pos p2]) ?_
        unfold fn_Mo_dual
        rw [a4, Option.bind_some, if_neg n10, w5]
        rcases hs with e | e
        · rw [if_pos e, if_pos hr, if_pos p1]; rfl
        · rw [if_neg (by rw [e]; exact n10), if_pos e, if_pos hr, if_pos p1]; rfl
      · have hne : gq_i M 5 k.toInt ≠ -1 := fun z => by
          rw [z] at p1
          exact absurd p1 (by decide)
        rcases p6 with ⟨q1, q2, q3⟩ | ⟨q1, q2, q3⟩
        · refine key k 1 ⟨a1, a2⟩ q1 (Or.inr ⟨rfl, hne⟩) (by unfold fn_Pi_unitOf; rw [if_pos hr, if_pos q1]) ?_
          unfold fn_Mo_dual
          rw [a4, Option.bind_some, if_neg n10, w5]
          have q2' : ¬ gq_i W 6 k.toInt = 0 := by rw [q2]; exact n10
          rcases hs with e | e
          · rw [if_pos e, if_pos hr, if_neg hne, if_neg q2']; rfl
          · rw [if_neg (by rw [e]; exact n10), if_pos e, if_pos hr, if_neg hne, if_neg q2']; rfl
        · refine key (gq_i M 5 k.toInt) 1 ⟨p1, p2⟩ q3 (Or.inr ⟨rfl, fun z => by
              rw [z] at p4
              have : (-1 : Int32).toInt = -1 := rfl
              omega⟩) (by unfold fn_Pi_unitOf; rw [if_pos hr, if_neg (by rw [q1]; exact n10)]) ?_
          unfold fn_Mo_dual
          rw [a4, Option.bind_some, if_neg n10, w5]
          have hpr : 0 ≤ (gq_i M 5 k.toInt).toInt ∧ (gq_i M 5 k.toInt).toInt < ((80 : Nat) : Int) := by omega
          rcases hs with e | e
          · rw [if_pos e, if_pos hr, if_neg hne, if_pos q2, if_pos hpr]; rfl
          · rw [if_neg (by rw [e]; exact n10), if_pos e, if_pos hr, if_neg hne, if_pos q2, if_pos hpr]; rfl
    · have s0 : ¬ s = 0 := fun z => hs (Or.inl z)
      have s1 : ¬ s = 1 := fun z => hs (Or.inr z)
      refine ⟨Int64.ofNat (0 : Fin 2).val, gs_f W 0 1, ?_, Or.inl ⟨1, ?_, Or.inl rfl, rfl, rl_0 hR 1⟩⟩
      · unfold fn_Mo_dual
        rw [a4, Option.bind_some, if_neg n10, if_neg s0, if_neg s1]
      · unfold fn_PS_dual
        rw [a3]
        show (if s = 0 then _ else _) = _
        rw [if_neg s0, if_neg s1]
  · refine ⟨Int64.ofNat (0 : Fin 2).val, gs_f W 0 1, ?_, Or.inl ⟨1, ?_, Or.inl rfl, rfl, rl_0 hR 1⟩⟩
    · unfold fn_Mo_dual
      rw [a4, Option.bind_some, if_pos rfl]
    · unfold fn_PS_dual
      rw [a3]
      rfl
