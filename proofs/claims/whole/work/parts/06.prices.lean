/-! PURE: the class's search by prices: its functions, and what they keep -/
theorem h64_sub {a b : Int64} (ha : -4611686018427387904 ≤ a.toInt ∧ a.toInt ≤ 4611686018427387904) (hb : -4611686018427387904 < b.toInt ∧ b.toInt ≤ 4611686018427387904) : (a - b).toInt = a.toInt - b.toInt := by
  rw [Int64.toInt_sub]
  apply Int.bmod_eq_of_le <;> omega
theorem h64_add {a b : Int64} (ha : -4611686018427387904 ≤ a.toInt ∧ a.toInt < 4611686018427387904) (hb : -4611686018427387904 ≤ b.toInt ∧ b.toInt ≤ 4611686018427387904) : (a + b).toInt = a.toInt + b.toInt := by
  rw [Int64.toInt_add]
  apply Int.bmod_eq_of_le <;> omega
def hm_x (c : Int → Int → Int64) (u v : Int → Int64) (r j : Int) : Int64 := c r j - u r - v j
/-- nextColumn: one column; all columns from j on -/
def hm_n1 (c : Int → Int → Int64) (u v : Int → Int64) (sn : Int → Int) (row fr j : Int) (s : (Int → Int64) × (Int → Int) × Int) : (Int → Int64) × (Int → Int) × Int :=
  if sn j = 0 then
    if hm_x c u v row j < s.1 j then
      (gz_ul s.1 j (hm_x c u v row j), gz_u s.2.1 j fr, if s.2.2 = 0 then j else if gz_ul s.1 j (hm_x c u v row j) j < gz_ul s.1 j (hm_x c u v row j) s.2.2 then j else s.2.2)
    else (s.1, s.2.1, if s.2.2 = 0 then j else if s.1 j < s.1 s.2.2 then j else s.2.2)
  else s
def hm_nx (c : Int → Int → Int64) (u v : Int → Int64) (sn : Int → Int) (row fr : Int) : Nat → Int → (Int → Int64) × (Int → Int) × Int → (Int → Int64) × (Int → Int) × Int
  | 0, _, s => s
  | k + 1, j, s => hm_nx c u v sn row fr k (j + 1) (hm_n1 c u v sn row fr j s)
/-- what stands behind the columns below j -/
def hm_nI (c : Int → Int → Int64) (u v : Int → Int64) (sn : Int → Int) (row fr : Int) (sl0 : Int → Int64) (cm0 : Int → Int) (j : Int) (s : (Int → Int64) × (Int → Int) × Int) : Prop :=
  (∀ i : Int, 1 ≤ i → i < j → sn i = 0 → (hm_x c u v row i < sl0 i ∧ s.1 i = hm_x c u v row i ∧ s.2.1 i = fr) ∨ (¬ hm_x c u v row i < sl0 i ∧ s.1 i = sl0 i ∧ s.2.1 i = cm0 i)) ∧
  (∀ i : Int, (i < 1 ∨ j ≤ i ∨ sn i ≠ 0) → s.1 i = sl0 i ∧ s.2.1 i = cm0 i) ∧
  ((s.2.2 = 0 ∧ ∀ i : Int, 1 ≤ i → i < j → sn i ≠ 0) ∨ (1 ≤ s.2.2 ∧ s.2.2 < j ∧ sn s.2.2 = 0 ∧ ∀ i : Int, 1 ≤ i → i < j → sn i = 0 → (s.1 s.2.2).toInt ≤ (s.1 i).toInt))
theorem hm_n1_keeps {c : Int → Int → Int64} {u v : Int → Int64} {sn : Int → Int} {row fr : Int} {sl0 : Int → Int64} {cm0 : Int → Int} {j : Int} {s : (Int → Int64) × (Int → Int) × Int} (hj : 1 ≤ j) (h : hm_nI c u v sn row fr sl0 cm0 j s) : hm_nI c u v sn row fr sl0 cm0 (j + 1) (hm_n1 c u v sn row fr j s) := by
  obtain ⟨sl, cm, nr⟩ := s
  obtain ⟨h1, h2, h3⟩ := h
  dsimp only at h1 h2 h3
  obtain ⟨e1, e2⟩ := h2 j (Or.inr (Or.inl (Int.le_refl j)))
  unfold hm_n1
  by_cases hs : sn j = 0
  · rw [if_pos hs]
    dsimp only
    by_cases hx : hm_x c u v row j < sl j
    · rw [if_pos hx]
      rw [e1] at hx
      refine ⟨fun i a b d => ?_, fun i a => ?_, Or.inr ?_⟩ <;> dsimp only
      · by_cases e : i = j
        · subst e
          exact Or.inl ⟨hx, gz_uls .., gz_us ..⟩
        · rw [gz_uln _ _ e, gz_un _ _ e]
          exact h1 i a (by omega) d
      · have e : i ≠ j := fun z => by
          subst z
          rcases a with a | a | a
          · omega
          · omega
          · exact a hs
        rw [gz_uln _ _ e, gz_un _ _ e]
        exact h2 i (by omega)
      · have hsj : (gz_ul sl j (hm_x c u v row j) j) = hm_x c u v row j := gz_uls ..
        by_cases hn : nr = 0
        · rw [if_pos hn]
          refine ⟨hj, by omega, hs, fun i a b d => ?_⟩
          by_cases e : i = j
          · rw [e]
            exact Int.le_refl _
          · rcases h3 with h3 | h3
            · exact absurd d (h3.2 i a (by omega))
            · omega
        · rw [if_neg hn]
          rcases h3 with h3 | ⟨g1, g2, g3, g4⟩
          · exact absurd h3.1 hn
          · have hne : nr ≠ j := by omega
            by_cases hl : gz_ul sl j (hm_x c u v row j) j < gz_ul sl j (hm_x c u v row j) nr
            · rw [if_pos hl]
              refine ⟨hj, by omega, hs, fun i a b d => ?_⟩
              by_cases e : i = j
              · rw [e]
                exact Int.le_refl _
              · rw [gz_uln _ _ hne] at hl
                rw [gz_uln _ _ e]
                have := g4 i a (by omega) d
                have := Int64.lt_iff_toInt_lt.mp hl
                omega
            · rw [if_neg hl]
              refine ⟨g1, by omega, g3, fun i a b d => ?_⟩
              rw [gz_uln _ _ hne] at hl ⊢
              by_cases e : i = j
              · rw [e]
                have h7 : ¬ (gz_ul sl j (hm_x c u v row j) j).toInt < (sl nr).toInt := fun z => hl (Int64.lt_iff_toInt_lt.mpr z)
                omega
              · rw [gz_uln _ _ e]
                exact g4 i a (by omega) d
    · rw [if_neg hx]
      rw [e1] at hx
      refine ⟨fun i a b d => ?_, fun i a => ?_, Or.inr ?_⟩ <;> dsimp only
      · by_cases e : i = j
        · subst e
          exact Or.inr ⟨hx, e1, e2⟩
        · exact h1 i a (by omega) d
      · exact h2 i (by omega)
      · by_cases hn : nr = 0
        · rw [if_pos hn]
          refine ⟨hj, by omega, hs, fun i a b d => ?_⟩
          by_cases e : i = j
          · rw [e]
            exact Int.le_refl _
          · rcases h3 with h3 | h3
            · exact absurd d (h3.2 i a (by omega))
            · omega
        · rw [if_neg hn]
          rcases h3 with h3 | ⟨g1, g2, g3, g4⟩
          · exact absurd h3.1 hn
          · by_cases hl : sl j < sl nr
            · rw [if_pos hl]
              refine ⟨hj, by omega, hs, fun i a b d => ?_⟩
              by_cases e : i = j
              · rw [e]
                exact Int.le_refl _
              · have := g4 i a (by omega) d
                have := Int64.lt_iff_toInt_lt.mp hl
                omega
            · rw [if_neg hl]
              refine ⟨g1, by omega, g3, fun i a b d => ?_⟩
              by_cases e : i = j
              · rw [e]
                have h7 : ¬ (sl j).toInt < (sl nr).toInt := fun z => hl (Int64.lt_iff_toInt_lt.mpr z)
                omega
              · exact g4 i a (by omega) d
  · rw [if_neg hs]
    refine ⟨fun i a b d => ?_, fun i a => ?_, ?_⟩ <;> dsimp only
    · have e : i ≠ j := fun z => hs (z ▸ d)
      exact h1 i a (by omega) d
    · by_cases e : i = j
      · rw [e]
        exact ⟨e1, e2⟩
      · exact h2 i (by omega)
    · rcases h3 with h3 | ⟨g1, g2, g3, g4⟩
      · exact Or.inl ⟨h3.1, fun i a b => by
          by_cases e : i = j
          · rw [e]
            exact hs
          · exact h3.2 i a (by omega)⟩
      · refine Or.inr ⟨g1, by omega, g3, fun i a b d => ?_⟩
        have e : i ≠ j := fun z => hs (z ▸ d)
        exact g4 i a (by omega) d
theorem hm_nx_keeps {c : Int → Int → Int64} {u v : Int → Int64} {sn : Int → Int} {row fr : Int} {sl0 : Int → Int64} {cm0 : Int → Int} : ∀ (k : Nat) (j : Int) (s : (Int → Int64) × (Int → Int) × Int), 1 ≤ j → hm_nI c u v sn row fr sl0 cm0 j s → hm_nI c u v sn row fr sl0 cm0 (j + k) (hm_nx c u v sn row fr k j s)
  | 0, j, s, _, h => by
    rw [show j + ((0 : Nat) : Int) = j by omega]
    exact h
  | k + 1, j, s, hj, h => by
    have ih := hm_nx_keeps k (j + 1) _ (by omega) (hm_n1_keeps hj h)
    rw [show j + ((k + 1 : Nat) : Int) = j + 1 + (k : Int) by omega]
    exact ih
theorem hm_nI_0 {c : Int → Int → Int64} {u v : Int → Int64} {sn : Int → Int} {row fr : Int} {sl0 : Int → Int64} {cm0 : Int → Int} : hm_nI c u v sn row fr sl0 cm0 1 (sl0, cm0, 0) :=
  ⟨fun i a b => absurd b (by omega), fun i _ => ⟨rfl, rfl⟩, Or.inl ⟨rfl, fun i a b => absurd b (by omega)⟩⟩
/-- changePrices: one column; all columns from j on -/
def hm_c1 (ro sn : Int → Int) (d : Int64) (j : Int) (s : (Int → Int64) × (Int → Int64) × (Int → Int64)) : (Int → Int64) × (Int → Int64) × (Int → Int64) :=
  if sn j = 0 then (s.1, s.2.1, gz_ul s.2.2 j (s.2.2 j - d)) else (gz_ul s.1 (ro j) (s.1 (ro j) + d), gz_ul s.2.1 j (s.2.1 j - d), s.2.2)
def hm_cp (ro sn : Int → Int) (d : Int64) : Nat → Int → (Int → Int64) × (Int → Int64) × (Int → Int64) → (Int → Int64) × (Int → Int64) × (Int → Int64)
  | 0, _, s => s
  | k + 1, j, s => hm_cp ro sn d k (j + 1) (hm_c1 ro sn d j s)
def hm_cI (ro sn : Int → Int) (d : Int64) (u0 v0 sl0 : Int → Int64) (j : Int) (s : (Int → Int64) × (Int → Int64) × (Int → Int64)) : Prop :=
  (∀ i : Int, 0 ≤ i → i < j → sn i = 0 → s.2.1 i = v0 i ∧ s.2.2 i = sl0 i - d) ∧
  (∀ i : Int, 0 ≤ i → i < j → sn i ≠ 0 → s.2.1 i = v0 i - d ∧ s.2.2 i = sl0 i ∧ s.1 (ro i) = u0 (ro i) + d) ∧
  (∀ i : Int, j ≤ i → s.2.1 i = v0 i ∧ s.2.2 i = sl0 i) ∧
  (∀ r : Int, (∀ i : Int, 0 ≤ i → i < j → sn i ≠ 0 → ro i ≠ r) → s.1 r = u0 r)
theorem hm_c1_keeps {ro sn : Int → Int} {d : Int64} {u0 v0 sl0 : Int → Int64} {j : Int} {s : (Int → Int64) × (Int → Int64) × (Int → Int64)} (hj : 0 ≤ j) (hi : ∀ i : Int, 0 ≤ i → i < j → sn i ≠ 0 → sn j ≠ 0 → ro i ≠ ro j) (h : hm_cI ro sn d u0 v0 sl0 j s) : hm_cI ro sn d u0 v0 sl0 (j + 1) (hm_c1 ro sn d j s) := by
  obtain ⟨u, v, sl⟩ := s
  obtain ⟨h1, h2, h3, h4⟩ := h
  dsimp only at h1 h2 h3 h4
  obtain ⟨e1, e2⟩ := h3 j (Int.le_refl j)
  unfold hm_c1
  by_cases hs : sn j = 0
  · rw [if_pos hs]
    refine ⟨fun i a b g => ?_, fun i a b g => ?_, fun i a => ?_, fun r g => ?_⟩ <;> dsimp only
    · by_cases e : i = j
      · subst e
        exact ⟨e1, by rw [gz_uls, e2]⟩
      · rw [gz_uln _ _ e]
        exact h1 i a (by omega) g
    · have e : i ≠ j := fun z => g (z ▸ hs)
      rw [gz_uln _ _ e]
      exact h2 i a (by omega) g
    · rw [gz_uln _ _ (by omega)]
      exact h3 i (by omega)
    · exact h4 r (fun i a b g2 => g i a (by omega) g2)
  · rw [if_neg hs]
    have h5 : u (ro j) = u0 (ro j) := h4 (ro j) (fun i a b g => hi i a b g hs)
    refine ⟨fun i a b g => ?_, fun i a b g => ?_, fun i a => ?_, fun r g => ?_⟩ <;> dsimp only
    · have e : i ≠ j := fun z => hs (z ▸ g)
      rw [gz_uln _ _ e]
      exact h1 i a (by omega) g
    · by_cases e : i = j
      · subst e
        exact ⟨by rw [gz_uls, e1], e2, by rw [gz_uls, h5]⟩
      · obtain ⟨g1, g2, g3⟩ := h2 i a (by omega) g
        rw [gz_uln _ _ e, gz_uln _ _ (hi i a (by omega) g hs)]
        exact ⟨g1, g2, g3⟩
    · rw [gz_uln _ _ (by omega)]
      exact h3 i (by omega)
    · rw [gz_uln _ _ (fun z => g j hj (by omega) hs z.symm)]
      exact h4 r (fun i a b g2 => g i a (by omega) g2)
theorem hm_cp_keeps {ro sn : Int → Int} {d : Int64} {u0 v0 sl0 : Int → Int64} {n : Int} (hi : ∀ i j : Int, 0 ≤ i → i < j → j ≤ n → sn i ≠ 0 → sn j ≠ 0 → ro i ≠ ro j) : ∀ (k : Nat) (j : Int) (s : (Int → Int64) × (Int → Int64) × (Int → Int64)), 0 ≤ j → j + k = n + 1 → hm_cI ro sn d u0 v0 sl0 j s → hm_cI ro sn d u0 v0 sl0 (n + 1) (hm_cp ro sn d k j s)
  | 0, j, s, _, hk, h => by
    rw [show n + 1 = j by omega]
    exact h
  | k + 1, j, s, hj, hk, h => hm_cp_keeps hi k (j + 1) _ (by omega) (by omega) (hm_c1_keeps hj (fun i a b g1 g2 => hi i j a b (by omega) g1 g2) h)
theorem hm_cI_0 {ro sn : Int → Int} {d : Int64} {u0 v0 sl0 : Int → Int64} : hm_cI ro sn d u0 v0 sl0 0 (u0, v0, sl0) :=
  ⟨fun i a b => absurd b (by omega), fun i a b => absurd b (by omega), fun i _ => ⟨rfl, rfl⟩, fun r _ => rfl⟩
/-- nextColumn, whole: seen, slack, cameFrom, the row prices, the column prices, the column -/
def hm_next (n : Nat) (c : Int → Int → Int64) (ro : Int → Int) (fr : Int) (sn : Int → Int) (u v sl : Int → Int64) (cm : Int → Int) : (Int → Int) × ((Int → Int64) × (Int → Int64) × (Int → Int64)) × (Int → Int) × Int :=
  let s := hm_nx c u v (gz_u sn fr 1) (ro fr) fr n 1 (sl, cm, 0)
  (gz_u sn fr 1, hm_cp ro (gz_u sn fr 1) (s.1 s.2.2) (n + 1) 0 (u, v, s.1), s.2.1, s.2.2)
/-! what is kept -/
def hi_A (n : Nat) (k : Int) (ro : Int → Int) : Prop :=
  (∀ j : Int, 1 ≤ j → j ≤ n → 0 ≤ ro j ∧ ro j ≤ k) ∧ (∀ i j : Int, 1 ≤ i → i ≤ n → 1 ≤ j → j ≤ n → ro i ≠ 0 → ro i = ro j → i = j) ∧ (∀ i : Int, 1 ≤ i → i ≤ k → ∃ j : Int, 1 ≤ j ∧ j ≤ n ∧ ro j = i)
def hi_c (n : Nat) (c : Int → Int → Int64) : Prop := ∀ i j : Int, 1 ≤ i → i ≤ n → 1 ≤ j → j ≤ n → 0 ≤ (c i j).toInt ∧ (c i j).toInt ≤ 1000000000000
def hi_P (n : Nat) (c : Int → Int → Int64) (k : Int) (u v : Int → Int64) (ro : Int → Int) : Prop :=
  (∀ i j : Int, 1 ≤ i → i ≤ k → 1 ≤ j → j ≤ n → (u i).toInt + (v j).toInt ≤ (c i j).toInt) ∧
  (∀ j : Int, 1 ≤ j → j ≤ n → ro j ≠ 0 → (u (ro j)).toInt + (v j).toInt = (c (ro j) j).toInt) ∧
  (∀ j : Int, 1 ≤ j → j ≤ n → -1000000000000 ≤ (v j).toInt ∧ (v j).toInt ≤ 0) ∧
  (∀ j : Int, 1 ≤ j → j ≤ n → ro j = 0 → (v j).toInt = 0) ∧
  (∀ i : Int, 1 ≤ i → i ≤ k → 0 ≤ (u i).toInt ∧ (u i).toInt ≤ 1000000000000) ∧
  (∀ i : Int, k < i → i ≤ n → u i = 0)
/-- the seen columns, each reached by a place that the prices just reach, from an earlier one; j0 is the next -/
def hi_T (n : Nat) (c : Int → Int → Int64) (u v : Int → Int64) (ro sn cm : Int → Int) (j0 : Int) (t : Nat) : Prop :=
  (∀ j : Int, 0 ≤ j → j ≤ n → sn j = 0 ∨ sn j = 1) ∧ (0 ≤ j0 ∧ j0 ≤ n ∧ sn j0 = 0) ∧ (∀ j : Int, 1 ≤ j → j ≤ n → sn j = 1 → ro j ≠ 0) ∧
  ((t = 0 ∧ j0 = 0) ∨ (1 ≤ t ∧ 1 ≤ j0 ∧ sn 0 = 1)) ∧ sn 0 + pm_S sn n = t ∧
  ∃ rk : Int → Nat, (∀ j : Int, 0 ≤ j → j ≤ n → (sn j = 1 ∨ j = j0) → rk j ≤ t) ∧
    ∀ j : Int, 1 ≤ j → j ≤ n → (sn j = 1 ∨ j = j0) → 0 ≤ cm j ∧ cm j ≤ n ∧ sn (cm j) = 1 ∧ rk (cm j) < rk j ∧ (c (ro (cm j)) j).toInt = (u (ro (cm j))).toInt + (v j).toInt
def hi_K (n : Nat) (c : Int → Int → Int64) (u v : Int → Int64) (ro sn cm : Int → Int) (sl : Int → Int64) (t : Nat) : Prop :=
  ∀ j : Int, 1 ≤ j → j ≤ n → sn j = 0 → (t = 0 ∧ (sl j).toInt = 1152921504606846976) ∨ (1 ≤ t ∧ 0 ≤ cm j ∧ cm j ≤ n ∧ sn (cm j) = 1 ∧ (sl j).toInt = (c (ro (cm j)) j).toInt - (u (ro (cm j))).toInt - (v j).toInt ∧ ∀ i : Int, 0 ≤ i → i ≤ n → sn i = 1 → (sl j).toInt ≤ (c (ro i) j).toInt - (u (ro i)).toInt - (v j).toInt)
/-- there is a column without a row -/
theorem hi_free {n : Nat} {k : Int} {ro : Int → Int} (hA : hi_A n k ro) (hk0 : 0 ≤ k) (hk : k < n) : ∃ j : Int, 1 ≤ j ∧ j ≤ n ∧ ro j = 0 := by
  apply Classical.byContradiction
  intro h
  have h0 : ∀ j : Int, 1 ≤ j → j ≤ n → ro j ≠ 0 := fun j a b z => h ⟨j, a, b, z⟩
  obtain ⟨x, a1, a2, a3⟩ := pm_php n ro (fun i a b => ⟨by have := hA.1 i a b; have := h0 i a b; omega, by have := hA.1 i a b; omega⟩) (fun i j a b c d e => hA.2.1 i j a b c d (h0 i a b) e) (n : Int) (by omega) (Int.le_refl _)
  have := hA.1 x a1 a2
  omega
theorem hi_sn0 {n : Nat} {sn : Int → Int} (h1 : ∀ j : Int, 0 ≤ j → j ≤ n → sn j = 0 ∨ sn j = 1) (h : sn 0 + pm_S sn n = 0) : ∀ j : Int, 0 ≤ j → j ≤ n → sn j = 0 := by
  intro j a b
  have hn : ∀ i : Int, 1 ≤ i → i ≤ n → 0 ≤ sn i := fun i a b => by
    rcases h1 i (by omega) b with z | z <;> omega
  have h2 := pm_S_nonneg hn
  have h3 := h1 0 (by omega) (by omega)
  by_cases e : j = 0
  · rw [e]
    omega
  · have h4 := pm_S_ge hn (i0 := j) (by omega) b
    have h5 := h1 j a b
    omega
theorem hi_next {n : Nat} {c : Int → Int → Int64} {k : Int} {u v : Int → Int64} {ro sn cm : Int → Int} {sl : Int → Int64} {j0 : Int} {t : Nat} (hc : hi_c n c) (hk0 : 0 ≤ k) (hk : k < n) (hA : hi_A n k ro) (h0 : ro 0 = k + 1) (hP : hi_P n c (k + 1) u v ro) (hT : hi_T n c u v ro sn cm j0 t) (hK : hi_K n c u v ro sn cm sl t) (hr : ro j0 ≠ 0)
    {s : (Int → Int) × ((Int → Int64) × (Int → Int64) × (Int → Int64)) × (Int → Int) × Int} (hs : s = hm_next n c ro j0 sn u v sl cm) :
    hi_P n c (k + 1) s.2.1.1 s.2.1.2.1 ro ∧ hi_T n c s.2.1.1 s.2.1.2.1 ro s.1 s.2.2.1 s.2.2.2 (t + 1) ∧ hi_K n c s.2.1.1 s.2.1.2.1 ro s.1 s.2.2.1 s.2.1.2.2 (t + 1) := by
  obtain ⟨t1, ⟨a1, a2, a3⟩, t3, t4, t5, rk, t6, t7⟩ := hT
  obtain ⟨p1, p2, p3, p4, p5, p6⟩ := hP
  obtain ⟨A1, A2, A3⟩ := hA
  have hs1 : ∀ j : Int, j ≠ j0 → gz_u sn j0 1 j = sn j := fun j e => gz_un _ _ e
  have hs2 : gz_u sn j0 1 j0 = 1 := gz_us ..
  unfold hm_next at hs
  generalize hw : gz_u sn j0 1 = w at hs hs1 hs2
  have w01 : ∀ j : Int, 0 ≤ j → j ≤ n → w j = 0 ∨ w j = 1 := fun j a b => by
    by_cases e : j = j0
    · rw [e]; exact Or.inr hs2
    · rw [hs1 j e]; exact t1 j a b
  have wseen : ∀ j : Int, w j = 1 → sn j = 1 ∨ j = j0 := fun j h => by
    by_cases e : j = j0
    · exact Or.inr e
    · rw [hs1 j e] at h; exact Or.inl h
  have wup : ∀ j : Int, sn j = 1 → w j = 1 := fun j h => by
    by_cases e : j = j0
    · rw [e]; exact hs2
    · rw [hs1 j e]; exact h
  have wun : ∀ j : Int, w j = 0 → sn j = 0 ∧ j ≠ j0 := fun j h => by
    have e : j ≠ j0 := fun z => by rw [z, hs2] at h; omega
    exact ⟨by rw [← hs1 j e]; exact h, e⟩
  have hrx : ∀ i : Int, 0 ≤ i → i ≤ n → w i = 1 → 1 ≤ ro i ∧ ro i ≤ k + 1 ∧ (1 ≤ i → ro i ≤ k) := fun i a b h => by
    by_cases e : i = 0
    · rw [e, h0]
      exact ⟨by omega, by omega, fun z => absurd z (by omega)⟩
    · have h1 := A1 i (by omega) b
      have h2 : ro i ≠ 0 := by
        rcases wseen i h with z | z
        · exact t3 i (by omega) b z
        · rw [z]; exact hr
      exact ⟨by omega, by omega, fun _ => h1.2⟩
  have hinj : ∀ i j : Int, 0 ≤ i → i < j → j ≤ n → w i ≠ 0 → w j ≠ 0 → ro i ≠ ro j := fun i j a b d e f z => by
    have ei : w i = 1 := by rcases w01 i a (by omega) with y | y <;> omega
    have ej : w j = 1 := by rcases w01 j (by omega) d with y | y <;> omega
    have hj := hrx j (by omega) d ej
    by_cases e0 : i = 0
    · rw [e0, h0] at z
      have := hj.2.2 (by omega)
      omega
    · have hi := hrx i a (by omega) ei
      have := A2 i j (by omega) (by omega) (by omega) d (by omega) z
      omega
  obtain ⟨f, f1, f2, f3⟩ := hi_free ⟨A1, A2, A3⟩ hk0 hk
  have hfun : w f = 0 := by
    rcases w01 f (by omega) f2 with z | z
    · exact z
    · rcases wseen f z with y | y
      · exact absurd f3 (t3 f f1 f2 y)
      · exact absurd f3 (y ▸ hr)
  have hnx := hm_nx_keeps (c := c) (u := u) (v := v) (sn := w) (row := ro j0) (fr := j0) (sl0 := sl) (cm0 := cm) n 1 (sl, cm, 0) (by omega) hm_nI_0
  generalize hS : hm_nx c u v w (ro j0) j0 n 1 (sl, cm, 0) = S at hs hnx
  obtain ⟨S1, S2, nr⟩ := S
  obtain ⟨n1, n2, n3⟩ := hnx
  dsimp only at hs n1 n2 n3
  have n3' : 1 ≤ nr ∧ nr ≤ n ∧ w nr = 0 ∧ ∀ i : Int, 1 ≤ i → i ≤ n → w i = 0 → (S1 nr).toInt ≤ (S1 i).toInt := by
    rcases n3 with z | ⟨z1, z2, z3, z4⟩
    · exact absurd hfun (z.2 f f1 (by omega))
    · exact ⟨z1, by omega, z3, fun i a b d => z4 i a (by omega) d⟩
  obtain ⟨m1, m2, m3, m4⟩ := n3'
  have hrow := hrx j0 a1 a2 hs2
  have hxv : ∀ j : Int, 1 ≤ j → j ≤ n → (hm_x c u v (ro j0) j).toInt = (c (ro j0) j).toInt - (u (ro j0)).toInt - (v j).toInt := fun j a b => by
    have h1 := hc (ro j0) j hrow.1 (by omega) a b
    have h2 := p5 (ro j0) hrow.1 hrow.2.1
    have h3 := p3 j a b
    have e1 : (c (ro j0) j - u (ro j0)).toInt = (c (ro j0) j).toInt - (u (ro j0)).toInt := h64_sub (by omega) (by omega)
    unfold hm_x
    rw [h64_sub (by rw [e1]; omega) (by omega), e1]
  have hsl : ∀ j : Int, 1 ≤ j → j ≤ n → w j = 0 → 0 ≤ S2 j ∧ S2 j ≤ n ∧ w (S2 j) = 1 ∧ (S1 j).toInt = (c (ro (S2 j)) j).toInt - (u (ro (S2 j))).toInt - (v j).toInt ∧ ∀ i : Int, 0 ≤ i → i ≤ n → w i = 1 → (S1 j).toInt ≤ (c (ro i) j).toInt - (u (ro i)).toInt - (v j).toInt := fun j a b d => by
    obtain ⟨d1, d2⟩ := wun j d
    have hKj := hK j a b d1
    rcases n1 j a (by omega) d with ⟨g1, g2, g3⟩ | ⟨g1, g2, g3⟩
    · rw [g2, g3]
      refine ⟨a1, a2, hs2, hxv j a b, fun i ai bi wi => ?_⟩
      rcases wseen i wi with z | z
      · rcases hKj with ⟨y1, y2⟩ | ⟨y1, y2, y3, y4, y5, y6⟩
        · have := hi_sn0 t1 (by omega) i ai bi
          omega
        · have := y6 i ai bi z
          have := Int64.lt_iff_toInt_lt.mp g1
          omega
      · rw [z, hxv j a b]
        exact Int.le_refl _
    · rw [g2, g3]
      have g1' : ¬ (hm_x c u v (ro j0) j).toInt < (sl j).toInt := fun z => g1 (Int64.lt_iff_toInt_lt.mpr z)
      rw [hxv j a b] at g1'
      rcases hKj with ⟨y1, y2⟩ | ⟨y1, y2, y3, y4, y5, y6⟩
      · have h1 := hc (ro j0) j hrow.1 (by omega) a b
        have h2 := p5 (ro j0) hrow.1 hrow.2.1
        have h3 := p3 j a b
        omega
      · refine ⟨y2, y3, wup _ y4, y5, fun i ai bi wi => ?_⟩
        rcases wseen i wi with z | z
        · exact y6 i ai bi z
        · rw [z]
          omega
  -- the step
  obtain ⟨e1, e2, e3, e4, e5⟩ := hsl nr m1 m2 m3
  have hrn := hrx (S2 nr) e1 e2 e3
  have hd0 : 0 ≤ (S1 nr).toInt := by
    have := p1 (ro (S2 nr)) nr hrn.1 hrn.2.1 m1 m2
    omega
  have hd1 : (S1 nr).toInt ≤ 2000000000000 := by
    have h1 := hc (ro (S2 nr)) nr hrn.1 (by omega) m1 m2
    have h2 := p5 (ro (S2 nr)) hrn.1 hrn.2.1
    have h3 := p3 nr m1 m2
    omega
  have hcp := hm_cp_keeps (d := S1 nr) (u0 := u) (v0 := v) (sl0 := S1) (n := (n : Int)) hinj (n + 1) 0 (u, v, S1) (by omega) (by omega) hm_cI_0
  generalize hR : hm_cp ro w (S1 nr) (n + 1) 0 (u, v, S1) = Rr at hs hcp
  obtain ⟨u1, v1, sl1⟩ := Rr
  obtain ⟨q1, q2, q3, q4⟩ := hcp
  dsimp only at q1 q2 q3 q4
  subst hs
  dsimp only
  have uS : ∀ i : Int, 0 ≤ i → i ≤ n → w i = 1 → (u1 (ro i)).toInt = (u (ro i)).toInt + (S1 nr).toInt := fun i a b d => by
    have h1 := hrx i a b d
    have h2 := p5 (ro i) h1.1 h1.2.1
    rw [(q2 i a (by omega) (by omega)).2.2, h64_add (by omega) (by omega)]
  have vS : ∀ j : Int, 1 ≤ j → j ≤ n → w j = 1 → (v1 j).toInt = (v j).toInt - (S1 nr).toInt := fun j a b d => by
    have h2 := p3 j a b
    rw [(q2 j (by omega) (by omega) (by omega)).1, h64_sub (by omega) (by omega)]
  have vU : ∀ j : Int, 1 ≤ j → j ≤ n → w j = 0 → v1 j = v j := fun j a b d => (q1 j (by omega) (by omega) d).1
  have hrowcase : ∀ r : Int, (∃ i : Int, 0 ≤ i ∧ i ≤ n ∧ w i = 1 ∧ ro i = r) ∨ u1 r = u r := fun r => by
    by_cases h : ∃ i : Int, 0 ≤ i ∧ i ≤ n ∧ w i = 1 ∧ ro i = r
    · exact Or.inl h
    · refine Or.inr (q4 r (fun i a b d z => h ⟨i, a, by omega, ?_, z⟩))
      rcases w01 i a (by omega) with y | y
      · exact absurd y d
      · exact y
  have P1 : ∀ i j : Int, 1 ≤ i → i ≤ k + 1 → 1 ≤ j → j ≤ n → (u1 i).toInt + (v1 j).toInt ≤ (c i j).toInt := fun i j ai bi aj bj => by
    have h1 := p1 i j ai bi aj bj
    rcases w01 j (by omega) bj with wj | wj
    · rw [vU j aj bj wj]
      rcases hrowcase i with ⟨x, x1, x2, x3, x4⟩ | h
      · have h2 := uS x x1 x2 x3
        rw [x4] at h2
        have h3 := (hsl j aj bj wj).2.2.2.2 x x1 x2 x3
        have h4 := m4 j aj bj wj
        rw [x4] at h3
        omega
      · rw [h]
        exact h1
    · rw [vS j aj bj wj]
      rcases hrowcase i with ⟨x, x1, x2, x3, x4⟩ | h
      · have h2 := uS x x1 x2 x3
        rw [x4] at h2
        omega
      · rw [h]
        omega
  have P2 : ∀ j : Int, 1 ≤ j → j ≤ n → ro j ≠ 0 → (u1 (ro j)).toInt + (v1 j).toInt = (c (ro j) j).toInt := fun j aj bj hj => by
    have h1 := p2 j aj bj hj
    rcases w01 j (by omega) bj with wj | wj
    · rw [vU j aj bj wj]
      rcases hrowcase (ro j) with ⟨x, x1, x2, x3, x4⟩ | h
      · exfalso
        have hx := hrx x x1 x2 x3
        have hj1 := A1 j aj bj
        by_cases e : x = 0
        · rw [e, h0] at x4
          omega
        · have := A2 x j (by omega) x2 aj bj (by omega) x4
          rw [this, wj] at x3
          omega
      · rw [h]
        exact h1
    · have h2 := uS j (by omega) bj wj
      rw [vS j aj bj wj, h2]
      omega
  have P5 : ∀ i : Int, 1 ≤ i → i ≤ k + 1 → 0 ≤ (u1 i).toInt ∧ (u1 i).toInt ≤ 1000000000000 := fun i a b => by
    have h1 := P1 i f a b f1 f2
    have h2 := hc i f a (by omega) f1 f2
    have h3 := p4 f f1 f2 f3
    rw [vU f f1 f2 hfun] at h1
    have h4 := p5 i a b
    refine ⟨?_, by omega⟩
    rcases hrowcase i with ⟨x, x1, x2, x3, x4⟩ | h
    · have h5 := uS x x1 x2 x3
      rw [x4] at h5
      omega
    · rw [h]
      exact h4.1
  refine ⟨⟨P1, P2, fun j a b => ?_, fun j a b h => ?_, P5, fun i a b => ?_⟩, ⟨w01, ⟨by omega, m2, m3⟩, fun j a b h => ?_, Or.inr ⟨by omega, m1, ?_⟩, ?_, fun j => if j = nr then t + 1 else rk j, fun j a b h => ?_, fun j a b h => ?_⟩, fun j a b h => Or.inr ?_⟩
  · have h1 := p3 j a b
    rcases w01 j (by omega) b with wj | wj
    · rw [vU j a b wj]
      exact h1
    · have h2 := vS j a b wj
      have h3 := hrx j (by omega) b wj
      have h4 := P2 j a b (by omega)
      have h5 := P5 (ro j) h3.1 h3.2.1
      have h6 := hc (ro j) j h3.1 (by omega) a b
      omega
  · have wj : w j = 0 := by
      rcases w01 j (by omega) b with y | y
      · exact y
      · have := hrx j (by omega) b y
        omega
    rw [vU j a b wj]
    exact p4 j a b h
  · rcases hrowcase i with ⟨x, x1, x2, x3, x4⟩ | h
    · have := hrx x x1 x2 x3
      omega
    · rw [h]
      exact p6 i a b
  · have := hrx j (by omega) b h
    omega
  · by_cases e : j0 = 0
    · rw [← e]
      exact hs2
    · rcases t4 with z | z
      · exact absurd z.2 e
      · exact wup 0 z.2.2
  · by_cases e : j0 = 0
    · have h1 : pm_S w n = pm_S sn n := pm_S_congr (fun i a b => hs1 i (by omega))
      have h2 : w 0 = 1 := by rw [← e]; exact hs2
      have h3 : sn 0 = 0 := by
        have h9 := a3
        rw [e] at h9
        exact h9
      rw [h1, h2]
      omega
    · have h1 : pm_S w n = pm_S (fun i => sn i + (if i = j0 then 1 else 0)) n := pm_S_congr (fun i a b => by
        by_cases e2 : i = j0
        · rw [e2, hs2, a3]
          simp
        · rw [hs1 i e2]
          simp [e2])
      rw [h1, pm_S_add, pm_S_one (by omega) a2, hs1 0 (fun z => e z.symm)]
      omega
  · dsimp only
    by_cases e : j = nr
    · rw [if_pos e]
      exact Nat.le_refl _
    · rw [if_neg e]
      have h1 : sn j = 1 ∨ j = j0 := by
        rcases h with h | h
        · exact wseen j h
        · exact absurd h e
      have := t6 j a b h1
      omega
  · dsimp only
    by_cases e : j = nr
    · subst e
      have hne : S2 j ≠ j := fun z => by rw [z, m3] at e3; omega
      rw [if_pos rfl, if_neg hne]
      have h1 := t6 (S2 j) e1 e2 (wseen _ e3)
      have h2 := uS (S2 j) e1 e2 e3
      rw [vU j m1 m2 m3]
      exact ⟨e1, e2, e3, by omega, by omega⟩
    · have hj : w j = 1 := by
        rcases h with h | h
        · exact h
        · exact absurd h e
      have hcmj : S2 j = cm j := (n2 j (Or.inr (Or.inr (by omega)))).2
      obtain ⟨g1, g2, g3, g4, g5⟩ := t7 j a b (wseen j hj)
      have hne : cm j ≠ nr := fun z => by
        have := wup _ g3
        rw [z, m3] at this
        omega
      rw [hcmj, if_neg hne, if_neg e]
      have h2 := uS (cm j) g1 g2 (wup _ g3)
      have h3 := vS j a b hj
      exact ⟨g1, g2, wup _ g3, g4, by omega⟩
  · obtain ⟨g1, g2, g3, g4, g5⟩ := hsl j a b h
    have h1 : sl1 j = S1 j - S1 nr := (q1 j (by omega) (by omega) h).2
    have h2 := m4 j a b h
    have hx := hrx (S2 j) g1 g2 g3
    have h3 := hc (ro (S2 j)) j hx.1 (by omega) a b
    have h4 := p5 (ro (S2 j)) hx.1 hx.2.1
    have h5 := p3 j a b
    have h6 : (sl1 j).toInt = (S1 j).toInt - (S1 nr).toInt := by
      rw [h1, h64_sub (by omega) (by omega)]
    rw [vU j a b h]
    refine ⟨by omega, g1, g2, g3, ?_, fun i ai bi wi => ?_⟩
    · rw [uS (S2 j) g1 g2 g3]
      omega
    · have := g5 i ai bi wi
      rw [uS i ai bi wi]
      omega
/-! moveAlong -/
def hm_mv (cm : Int → Int) : Nat → Int → (Int → Int) → Int → Int
  | 0, _, p => p
  | k + 1, j, p => if j = 0 then p else hm_mv cm k (cm j) (gz_u p j (p (cm j)))
/-- p with the row of column j open; all rows but r0 stand elsewhere -/
def hv_H (n : Nat) (K : Int) (E : Int → Int → Prop) (r0 : Int) (p : Int → Int) (j : Int) : Prop :=
  (∀ i : Int, 1 ≤ i → i ≤ n → i ≠ j → 0 ≤ p i ∧ p i ≤ K ∧ p i ≠ r0) ∧ (∀ i i2 : Int, 1 ≤ i → i ≤ n → i ≠ j → 1 ≤ i2 → i2 ≤ n → i2 ≠ j → p i ≠ 0 → p i = p i2 → i = i2) ∧
  (∀ r : Int, 1 ≤ r → r ≤ K → r ≠ r0 → ∃ i : Int, 1 ≤ i ∧ i ≤ n ∧ i ≠ j ∧ p i = r) ∧ (∀ i : Int, 1 ≤ i → i ≤ n → i ≠ j → p i ≠ 0 → E (p i) i)
theorem hv_move {n : Nat} {K : Int} {E : Int → Int → Prop} {r0 : Int} {p0 cm : Int → Int} {Q : Int → Prop} {rk : Int → Nat} (hr0 : 1 ≤ r0 ∧ r0 ≤ K) (hp0 : p0 0 = r0)
    (hQ : ∀ x : Int, Q x → 1 ≤ x → x ≤ n → Q (cm x) ∧ 0 ≤ cm x ∧ cm x ≤ n ∧ rk (cm x) < rk x ∧ E (p0 (cm x)) x) (hQz : ∀ x : Int, Q x → 1 ≤ x → x ≤ n → ∀ y, y = cm x → 1 ≤ y → p0 y ≠ 0) :
    ∀ (k : Nat) (j : Int) (p : Int → Int), 1 ≤ j → j ≤ n → Q j → rk j ≤ k → p 0 = r0 → (∀ x : Int, 0 ≤ x → x ≤ n → Q x → rk x < rk j → p x = p0 x) → hv_H n K E r0 p j →
      hi_A n K (hm_mv cm k j p) ∧ (∀ i : Int, 1 ≤ i → i ≤ n → hm_mv cm k j p i ≠ 0 → E (hm_mv cm k j p i) i) ∧ (∀ i : Int, ¬ Q i ∨ i = 0 → hm_mv cm k j p i = p i) ∧ (∃ i : Int, 1 ≤ i ∧ i ≤ n ∧ Q i ∧ cm i = 0 ∧ hm_mv cm k j p i = r0) ∧ ∀ i : Int, 1 ≤ i → i ≤ n → hm_mv cm k j p i = 0 → p i = 0 ∧ i ≠ j
  | 0, j, p, a, b, hj, hk, _, _, _ => by
    have := (hQ j hj a b).2.2.2.1
    omega
  | k + 1, j, p, a, b, hj, hk, hz, hpx, ⟨H1, H2, H3, H4⟩ => by
    obtain ⟨c1, c2, c3, c4, c5⟩ := hQ j hj a b
    have hpy : p (cm j) = p0 (cm j) := hpx (cm j) c2 c3 c1 c4
    have hne : cm j ≠ j := fun z => by rw [z] at c4; omega
    unfold hm_mv
    rw [if_neg (by omega)]
    by_cases e : cm j = 0
    · -- the chain ends here
      have hfin : hm_mv cm k (cm j) (gz_u p j (p (cm j))) = gz_u p j r0 := by
        rw [hpy, e, hp0]
        cases k with
        | zero => rfl
        | succ k => unfold hm_mv; rw [if_pos rfl]
      rw [hfin]
      refine ⟨⟨fun i ai bi => ?_, fun i i2 ai bi ai2 bi2 hi he => ?_, fun r ar br => ?_⟩, fun i ai bi hi => ?_, fun i hi => ?_, ⟨j, a, b, hj, e, gz_us ..⟩, fun i ai bi hi => ?_⟩
      · by_cases ei : i = j
        · rw [ei, gz_us]
          omega
        · rw [gz_un _ _ ei]
          have := H1 i ai bi ei
          omega
      · by_cases ei : i = j
        · by_cases ei2 : i2 = j
          · omega
          · rw [ei, gz_us, gz_un _ _ ei2] at he
            exact absurd he.symm (H1 i2 ai2 bi2 ei2).2.2
        · by_cases ei2 : i2 = j
          · rw [ei2, gz_us, gz_un _ _ ei] at he
            exact absurd he (H1 i ai bi ei).2.2
          · rw [gz_un _ _ ei] at hi he
            rw [gz_un _ _ ei2] at he
            exact H2 i i2 ai bi ei ai2 bi2 ei2 hi he
      · by_cases er : r = r0
        · exact ⟨j, a, b, by rw [gz_us, er]⟩
        · obtain ⟨i, i1, i2, i3, i4⟩ := H3 r ar br er
          exact ⟨i, i1, i2, by rw [gz_un _ _ i3]; exact i4⟩
      · by_cases ei : i = j
        · rw [ei, gz_us]
          rw [e, hp0] at c5
          exact c5
        · rw [gz_un _ _ ei] at hi ⊢
          exact H4 i ai bi ei hi
      · have ei : i ≠ j := fun z => by
          rcases hi with hi | hi
          · exact hi (z ▸ hj)
          · omega
        exact gz_un _ _ ei
      · have ei : i ≠ j := fun z => by
          rw [z, gz_us] at hi
          omega
        rw [gz_un _ _ ei] at hi
        exact ⟨hi, ei⟩
    · -- on to the next one
      have hy1 : 1 ≤ cm j := by omega
      have hyz : p0 (cm j) ≠ 0 := hQz j hj a b (cm j) rfl hy1
      have hHy := H1 (cm j) hy1 c3 hne
      obtain ⟨R1, R2, R3, R4, R5⟩ := hv_move hr0 hp0 hQ hQz k (cm j) (gz_u p j (p (cm j))) hy1 c3 c1 (by omega) (by rw [gz_un _ _ (by omega)]; exact hz) (fun x ax bx qx rx => by
        have ex : x ≠ j := fun z => by rw [z] at rx; omega
        rw [gz_un _ _ ex]
        exact hpx x ax bx qx (by omega)) ⟨fun i ai bi ei => by
          by_cases e2 : i = j
          · rw [e2, gz_us]
            exact hHy
          · rw [gz_un _ _ e2]
            exact H1 i ai bi e2, fun i i2 ai bi ei ai2 bi2 ei2 hi he => by
          by_cases e2 : i = j
          · by_cases e3 : i2 = j
            · omega
            · rw [e2, gz_us] at hi
              rw [e2, gz_us, gz_un _ _ e3] at he
              exact absurd (H2 (cm j) i2 hy1 c3 hne ai2 bi2 e3 hi he).symm ei2
          · by_cases e3 : i2 = j
            · rw [gz_un _ _ e2] at hi he
              rw [e3, gz_us] at he
              exact absurd (H2 i (cm j) ai bi e2 hy1 c3 hne hi he) ei
            · rw [gz_un _ _ e2] at hi he
              rw [gz_un _ _ e3] at he
              exact H2 i i2 ai bi e2 ai2 bi2 e3 hi he, fun r ar br er => by
          obtain ⟨i, i1, i2, i3, i4⟩ := H3 r ar br er
          by_cases e2 : i = cm j
          · exact ⟨j, a, b, fun z => hne z.symm, by rw [gz_us, ← e2]; exact i4⟩
          · exact ⟨i, i1, i2, e2, by rw [gz_un _ _ i3]; exact i4⟩, fun i ai bi ei hi => by
          by_cases e2 : i = j
          · rw [e2, gz_us, hpy]
            exact c5
          · rw [gz_un _ _ e2] at hi ⊢
            exact H4 i ai bi e2 hi⟩
      refine ⟨R1, R2, fun i hi => ?_, R4, fun i ai bi hi => ?_⟩
      · have ei : i ≠ j := fun z => by
          rcases hi with hi | hi
          · exact hi (z ▸ hj)
          · omega
        rw [R3 i hi, gz_un _ _ ei]
      · have h := (R5 i ai bi hi).1
        by_cases ei : i = j
        · rw [ei, gz_us, hpy] at h
          exact absurd h hyz
        · rw [gz_un _ _ ei] at h
          exact ⟨h, ei⟩
/-! insert, solve -/
def hm_lp (n : Nat) (c : Int → Int → Int64) (ro : Int → Int) : Nat → (Int → Int) × ((Int → Int64) × (Int → Int64) × (Int → Int64)) × (Int → Int) × Int → (Int → Int) × ((Int → Int64) × (Int → Int64) × (Int → Int64)) × (Int → Int) × Int
  | 0, s => s
  | k + 1, s => if ro s.2.2.2 = 0 then s else hm_lp n c ro k (hm_next n c ro s.2.2.2 s.1 s.2.1.1 s.2.1.2.1 s.2.1.2.2 s.2.2.1)
def hi_All (n : Nat) (c : Int → Int → Int64) (k : Int) (ro : Int → Int) (t : Nat) (s : (Int → Int) × ((Int → Int64) × (Int → Int64) × (Int → Int64)) × (Int → Int) × Int) : Prop :=
  hi_P n c k s.2.1.1 s.2.1.2.1 ro ∧ hi_T n c s.2.1.1 s.2.1.2.1 ro s.1 s.2.2.1 s.2.2.2 t ∧ hi_K n c s.2.1.1 s.2.1.2.1 ro s.1 s.2.2.1 s.2.1.2.2 t
theorem hi_loop {n : Nat} {c : Int → Int → Int64} {k : Int} {ro : Int → Int} (hc : hi_c n c) (hk0 : 0 ≤ k) (hk : k < n) (hA : hi_A n k ro) (h0 : ro 0 = k + 1) :
    ∀ (m t : Nat) (s : (Int → Int) × ((Int → Int64) × (Int → Int64) × (Int → Int64)) × (Int → Int) × Int), t + m = n → hi_All n c (k + 1) ro t s → ∃ t2, t2 ≤ n ∧ hi_All n c (k + 1) ro t2 (hm_lp n c ro m s) ∧ ro (hm_lp n c ro m s).2.2.2 = 0
  | 0, t, s, htm, h => by
    refine ⟨t, by omega, h, ?_⟩
    show ro s.2.2.2 = 0
    apply Classical.byContradiction
    intro hr
    obtain ⟨f, f1, f2, f3⟩ := hi_free hA hk0 hk
    obtain ⟨-, ⟨t1, ⟨a1, a2, a3⟩, t3, t4, t5, -⟩, -⟩ := h
    have hj1 : 1 ≤ s.2.2.2 ∧ s.1 0 = 1 := by
      rcases t4 with z | z
      · omega
      · exact z.2
    have hf : s.1 f = 0 := by
      rcases t1 f (by omega) f2 with z | z
      · exact z
      · exact absurd f3 (t3 f f1 f2 z)
    have hne : f ≠ s.2.2.2 := fun z => hr (z ▸ f3)
    have h1 : pm_S (fun i => s.1 i + ((if i = f then 1 else 0) + (if i = s.2.2.2 then 1 else 0))) n ≤ pm_S (fun _ => 1) n := pm_S_le (fun i a b => by
      by_cases e1 : i = f
      · have e2 : i ≠ s.2.2.2 := fun z => hne (e1.symm.trans z)
        rw [if_pos e1, if_neg e2, e1, hf]
        omega
      · by_cases e2 : i = s.2.2.2
        · rw [if_neg e1, if_pos e2, e2, a3]
          omega
        · rw [if_neg e1, if_neg e2]
          rcases t1 i (by omega) b with z | z <;> omega)
    rw [pm_S_add, pm_S_add, pm_S_one f1 f2, pm_S_one hj1.1 a2] at h1
    have h2 : pm_S (fun _ => (1 : Int)) n ≤ n * 1 := pm_S_bound (fun _ _ _ => Int.le_refl _)
    omega
  | m + 1, t, s, htm, h => by
    by_cases hr : ro s.2.2.2 = 0
    · refine ⟨t, by omega, ?_⟩
      unfold hm_lp
      rw [if_pos hr]
      exact ⟨h, hr⟩
    · unfold hm_lp
      rw [if_neg hr]
      obtain ⟨h1, h2, h3⟩ := h
      exact hi_loop hc hk0 hk hA h0 m (t + 1) _ (by omega) (hi_next hc hk0 hk hA h0 h1 h2 h3 hr rfl)
/-- a new row: the prices and the rows behind it -/
theorem hi_ins {n : Nat} {c : Int → Int → Int64} {k : Int} {u v : Int → Int64} {ro sn cm : Int → Int} {sl : Int → Int64} (hc : hi_c n c) (hk0 : 0 ≤ k) (hk : k < n) (hA : hi_A n k ro) (hP : hi_P n c k u v ro)
    (hsn : ∀ j : Int, 0 ≤ j → j ≤ n → sn j = 0) (hsl : ∀ j : Int, 1 ≤ j → j ≤ n → (sl j).toInt = 1152921504606846976)
    {s : (Int → Int) × ((Int → Int64) × (Int → Int64) × (Int → Int64)) × (Int → Int) × Int} (hs : s = hm_lp n c (gz_u ro 0 (k + 1)) n (sn, (u, v, sl), cm, 0)) {ro2 : Int → Int} (hro : ro2 = hm_mv s.2.2.1 n s.2.2.2 (gz_u ro 0 (k + 1))) :
    hi_A n (k + 1) ro2 ∧ hi_P n c (k + 1) s.2.1.1 s.2.1.2.1 ro2 := by
  have hr1 : ∀ j : Int, 1 ≤ j → gz_u ro 0 (k + 1) j = ro j := fun j a => gz_un _ _ (by omega)
  have hr0 : gz_u ro 0 (k + 1) 0 = k + 1 := gz_us ..
  generalize gz_u ro 0 (k + 1) = r1 at hr1 hr0 hs hro
  obtain ⟨A1, A2, A3⟩ := hA
  obtain ⟨p1, p2, p3, p4, p5, p6⟩ := hP
  have hA1 : hi_A n k r1 := ⟨fun j a b => by rw [hr1 j a]; exact A1 j a b, fun i j a b a2 b2 h e => by
    rw [hr1 i a] at h e
    rw [hr1 j a2] at e
    exact A2 i j a b a2 b2 h e, fun i a b => by
    obtain ⟨j, j1, j2, j3⟩ := A3 i a b
    exact ⟨j, j1, j2, by rw [hr1 j j1]; exact j3⟩⟩
  have hu0 : u (k + 1) = 0 := p6 (k + 1) (by omega) (by omega)
  have hP1 : hi_P n c (k + 1) u v r1 := ⟨fun i j a b a2 b2 => by
    by_cases e : i = k + 1
    · have h1 := hc i j a (by omega) a2 b2
      have h2 := p3 j a2 b2
      have h3 : (u i).toInt = 0 := by rw [e, hu0]; rfl
      omega
    · exact p1 i j a (by omega) a2 b2, fun j a b h => by
    rw [hr1 j a] at h ⊢
    exact p2 j a b h, p3, fun j a b h => by
    rw [hr1 j a] at h
    exact p4 j a b h, fun i a b => by
    by_cases e : i = k + 1
    · have h3 : (u i).toInt = 0 := by rw [e, hu0]; rfl
      omega
    · exact p5 i a (by omega), fun i a b => p6 i (by omega) b⟩
  have h01 : ∀ j : Int, 0 ≤ j → j ≤ n → sn j = 0 ∨ sn j = 1 := fun j a b => Or.inl (hsn j a b)
  have hstart : hi_All n c (k + 1) r1 0 (sn, (u, v, sl), cm, 0) := by
    refine ⟨hP1, ⟨h01, ⟨Int.le_refl _, by dsimp only; omega, hsn 0 (by omega) (by omega)⟩, fun j a b h => ?_, Or.inl ⟨rfl, rfl⟩, ?_, fun _ => 0, fun j a b h => Nat.le_refl _, fun j a b h => ?_⟩, fun j a b h => Or.inl ⟨rfl, hsl j a b⟩⟩
    · have := hsn j (by omega) b
      dsimp only at h
      omega
    · have h1 : pm_S sn n = 0 := pm_S_zero (fun i a b => hsn i (by omega) b)
      have h2 := hsn 0 (by omega) (by omega)
      show sn 0 + pm_S sn n = ((0 : Nat) : Int)
      omega
    · have h1 := hsn j (by omega) b
      dsimp only at h
      omega
  obtain ⟨t, ht, hall, hz⟩ := hi_loop hc hk0 hk hA1 hr0 n 0 _ (by omega) hstart
  rw [← hs] at hall hz
  obtain ⟨sn2, ⟨u2, v2, sl2⟩, cm2, j0⟩ := s
  obtain ⟨⟨P1, P2, P3, P4, P5, P6⟩, ⟨T1, ⟨b1, b2, b3⟩, T3, T4, T5, rk, T6, T7⟩, -⟩ := hall
  dsimp only at *
  have hj0 : 1 ≤ j0 := by
    by_cases e : j0 = 0
    · rw [e, hr0] at hz
      omega
    · omega
  obtain ⟨B1, B2, B3⟩ := hA1
  have hmv := hv_move (n := n) (K := k + 1) (E := fun r x => (c r x).toInt = (u2 r).toInt + (v2 x).toInt) (r0 := k + 1) (p0 := r1) (cm := cm2) (Q := fun x => (0 ≤ x ∧ x ≤ n) ∧ (sn2 x = 1 ∨ x = j0)) (rk := rk) ⟨by omega, Int.le_refl _⟩ hr0
    (fun x hx a b => by
      obtain ⟨g1, g2, g3, g4, g5⟩ := T7 x a b hx.2
      exact ⟨⟨⟨g1, g2⟩, Or.inl g3⟩, g1, g2, g4, g5⟩)
    (fun x hx a b y hy hy1 => by
      obtain ⟨g1, g2, g3, g4, g5⟩ := T7 x a b hx.2
      rw [hy] at hy1 ⊢
      exact T3 _ hy1 g2 g3)
    n j0 r1 hj0 b2 ⟨⟨b1, b2⟩, Or.inr rfl⟩ (Nat.le_trans (T6 j0 b1 b2 (Or.inr rfl)) ht) hr0 (fun x _ _ _ _ => rfl)
    ⟨fun i a b e => by have := B1 i a b; omega, fun i i2 a b e a2 b2' e2 h he => B2 i i2 a b a2 b2' h he, fun r a b e => by
      obtain ⟨j, j1, j2, j3⟩ := B3 r a (by omega)
      exact ⟨j, j1, j2, fun z => by rw [z, hz] at j3; omega, j3⟩, fun i a b e h => (P2 i a b h).symm⟩
  rw [← hro] at hmv
  obtain ⟨M1, M2, M3, M4, M5⟩ := hmv
  exact ⟨M1, P1, fun j a b h => (M2 j a b h).symm, P3, fun j a b h => P4 j a b (M5 j a b h).1, P5, P6⟩
