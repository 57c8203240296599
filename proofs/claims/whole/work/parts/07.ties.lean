/-! PURE: the whole matching: its sum; the search for another one of the same sum -/
def hs_S (f : Int → Int64) : Nat → Int → Int64 → Int64
  | 0, _, a => a
  | k + 1, j, a => hs_S f k (j + 1) (a + f j)
theorem hs_toInt {f : Int → Int64} {B : Int} (hB : 0 ≤ B) : ∀ (k : Nat) (m : Nat) (a : Int64), (∀ i : Int, 1 ≤ i → i ≤ ((m + k : Nat) : Int) → 0 ≤ (f i).toInt ∧ (f i).toInt ≤ B) → a.toInt = pm_S (fun i => (f i).toInt) m → ((m + k : Nat) : Int) * B ≤ 1152921504606846976 → (hs_S f k ((m : Int) + 1) a).toInt = pm_S (fun i => (f i).toInt) (m + k)
  | 0, m, a, _, ha, _ => ha
  | k + 1, m, a, hf, ha, hb => by
    have h1 := hf ((m : Int) + 1) (by omega) (by omega)
    have h2 : 0 ≤ pm_S (fun i => (f i).toInt) m := pm_S_nonneg (fun i x y => (hf i x (by omega)).1)
    have h3 : pm_S (fun i => (f i).toInt) m ≤ m * B := pm_S_bound (fun i x y => (hf i x (by omega)).2)
    have h4 : (m : Int) * B + B ≤ ((m + (k + 1) : Nat) : Int) * B := by
      have h5 : ((m + (k + 1) : Nat) : Int) * B = (m : Int) * B + ((k : Int) * B + B) := by
        rw [Int.natCast_add, Int.natCast_add, Int.add_mul, Int.add_mul]
        simp
      have h6 : 0 ≤ (k : Int) * B := Int.mul_nonneg (by omega) hB
      omega
    have e : (a + f ((m : Int) + 1)).toInt = pm_S (fun i => (f i).toInt) (m + 1) := by
      rw [h64_add (by omega) (by omega), ha]
      rfl
    have ih := hs_toInt hB k (m + 1) (a + f ((m : Int) + 1)) (fun i x y => hf i x (by omega)) e (by rw [show m + 1 + k = m + (k + 1) by omega]; exact hb)
    rw [show m + (k + 1) = m + 1 + k by omega, ← ih]
    rfl
/-- the column of each row -/
theorem hi_tau {n : Nat} {ro : Int → Int} (hA : hi_A n n ro) : ∃ t : Int → Int, (∀ i : Int, 1 ≤ i → i ≤ n → 1 ≤ t i ∧ t i ≤ n ∧ ro (t i) = i) ∧ (∀ j : Int, 1 ≤ j → j ≤ n → 1 ≤ ro j ∧ ro j ≤ n ∧ t (ro j) = j) := by
  obtain ⟨A1, A2, A3⟩ := hA
  have hch : ∀ i : Int, ∃ j : Int, 1 ≤ i → i ≤ n → (1 ≤ j ∧ j ≤ n ∧ ro j = i) := fun i => by
    by_cases h : 1 ≤ i ∧ i ≤ n
    · obtain ⟨j, h1⟩ := A3 i h.1 h.2
      exact ⟨j, fun _ _ => h1⟩
    · exact ⟨0, fun a b => absurd ⟨a, b⟩ h⟩
  have hex : ∃ t : Int → Int, ∀ i : Int, 1 ≤ i → i ≤ n → (1 ≤ t i ∧ t i ≤ n ∧ ro (t i) = i) := ⟨fun i => Classical.choose (hch i), fun i => Classical.choose_spec (hch i)⟩
  obtain ⟨t, ht⟩ := hex
  have hinj : pm_inj n t := fun i j a b a2 b2 h => by
    have h1 := (ht i a b).2.2
    rw [h, (ht j a2 b2).2.2] at h1
    exact h1.symm
  refine ⟨t, ht, fun j a b => ?_⟩
  obtain ⟨i, i1, i2, i3⟩ := pm_php n t (fun i x y => ⟨(ht i x y).1, (ht i x y).2.1⟩) hinj j a b
  have h1 := (ht i i1 i2).2.2
  rw [i3] at h1
  rw [h1]
  exact ⟨i1, i2, i3⟩
theorem hi_sum {n : Nat} {c : Int → Int → Int64} {u v : Int → Int64} {ro : Int → Int} (hA : hi_A n n ro) (hP : hi_P n c n u v ro) : pm_S (fun j => (c (ro j) j).toInt) n = pm_S (fun i => (u i).toInt) n + pm_S (fun j => (v j).toInt) n := by
  obtain ⟨t, h1, h2⟩ := hi_tau hA
  have e1 : pm_S (fun j => (c (ro j) j).toInt) n = pm_S (fun j => (u (ro j)).toInt + (v j).toInt) n := pm_S_congr (fun j a b => (hP.2.1 j a b (by have := h2 j a b; omega)).symm)
  rw [e1, pm_S_add, pm_S_perm n ro (fun j a b => ⟨(h2 j a b).1, (h2 j a b).2.1⟩) (fun i j a b a2 b2 h => hA.2.1 i j a b a2 b2 (by have := h2 i a b; omega) h) (fun i => (u i).toInt)]
abbrev hi_u (u : Int → Int64) : Int → Int := fun i => (u i).toInt
theorem pl_d_0 (r q : Int → Int) (n : Nat) : pl_d r q n n 0 = pm_S r n + pm_S q n := by
  unfold pl_d
  have h1 : pl_q q n 0 = pm_S q n := pm_S_congr (fun j a b => by simp [pl_b])
  have h2 : pm_S r (n - n) = 0 := by
    rw [Nat.sub_self]
    rfl
  rw [h1, h2]
  omega
theorem pl_n_0 (n : Nat) : pl_n n 0 = 0 := pm_S_zero (fun j a b => by simp [pl_b])
/-- the model's costs m stand above the class's c, and are the same where the matching lies: the sums are one -/
theorem hi_least {n : Nat} {c : Int → Int → Int64} {m : Int → Int → Int} {NV : Int} {u v : Int → Int64} {ro : Int → Int} (hc : hi_c n c) (hm : ∀ i j : Int, 1 ≤ i → i ≤ n → 1 ≤ j → j ≤ n → (c i j).toInt ≤ m i j) (hA : hi_A n n ro) (hP : hi_P n c n u v ro) (he : ∀ j : Int, 1 ≤ j → j ≤ n → m (ro j) j = (c (ro j) j).toInt) (hNV : pm_S (hi_u u) n + pm_S (hi_u v) n ≤ NV) :
    pl_F n m NV n 0 = pm_S (hi_u u) n + pm_S (hi_u v) n := by
  obtain ⟨t, h1, h2⟩ := hi_tau hA
  have hok : pl_ok (hi_u u) (hi_u v) m n := fun i j a b a2 b2 => Int.le_trans (hP.1 i j a b a2 b2) (hm i j a b a2 b2)
  have hm0 : ∀ i j : Int, 1 ≤ i → i ≤ n → 1 ≤ j → j ≤ n → 0 ≤ m i j := fun i j a b a2 b2 => Int.le_trans (hc i j a b a2 b2).1 (hm i j a b a2 b2)
  have hlow := pl_low (NV := NV) hok hm0 n 0 (Nat.le_refl n) (by rw [pl_n_0]; omega) (pm_S (hi_u u) n + pm_S (hi_u v) n) hNV (by rw [pl_d_0]; exact Int.le_refl _)
  have hup := pl_up (c := m) (NV := NV) (t := t) n 0 (Nat.le_refl n) ⟨fun i a b => ⟨(h1 i (by omega) b).1, (h1 i (by omega) b).2.1, by simp [pl_b]⟩, fun i j a b a2 b2 h => by
    have h3 := (h1 i (by omega) b).2.2
    rw [h, (h1 j (by omega) b2).2.2] at h3
    exact h3.symm⟩
  have e1 : pm_S (fun i => m i (t i)) n = pm_S (hi_u u) n + pm_S (hi_u v) n := by
    have e2 : pm_S (fun i => m i (t i)) n = pm_S (fun i => hi_u u i + hi_u v (t i)) n := pm_S_congr (fun i a b => by
      obtain ⟨g1, g2, g3⟩ := h1 i a b
      have g4 := he (t i) g1 g2
      have g5 := hP.2.1 (t i) g1 g2 (by omega)
      rw [g3] at g4 g5
      show m i (t i) = (u i).toInt + (v (t i)).toInt
      omega)
    rw [e2, pm_S_add, pm_S_perm n t (fun i a b => ⟨(h1 i a b).1, (h1 i a b).2.1⟩) (fun i j a b a2 b2 h => by
      have h3 := (h1 i a b).2.2
      rw [h, (h1 j a2 b2).2.2] at h3
      exact h3.symm) (hi_u v)]
  rw [e1, Nat.sub_self] at hup
  have h3 : pm_S (fun i => m i (t i)) 0 = 0 := rfl
  omega
/-! the search: queueFrom, one column, and all from j on; reaches -/
abbrev bq_S : Type := (Int → Int) × (Int → Int) × (Int → Int) × Int
def bq_1 (c : Int → Int → Int64) (u v : Int → Int64) (ro : Int → Int) (row fr j : Int) (s : bq_S) : bq_S :=
  if s.1 j = 0 then if row ≤ ro j then if hm_x c u v (ro fr) j = 0 then (gz_u s.1 j 1, gz_u s.2.1 j fr, gz_u s.2.2.1 s.2.2.2 j, s.2.2.2 + 1) else s else s else s
def bq_F (c : Int → Int → Int64) (u v : Int → Int64) (ro : Int → Int) (row fr : Int) : Nat → Int → bq_S → bq_S
  | 0, _, s => s
  | k + 1, j, s => bq_F c u v ro row fr k (j + 1) (bq_1 c u v ro row fr j s)
def bq_L (n : Nat) (c : Int → Int → Int64) (u v : Int → Int64) (ro : Int → Int) (row left : Int) : Nat → Int → bq_S → bq_S
  | 0, _, s => s
  | k + 1, nx, s => if nx < s.2.2.2 then if s.1 left = 0 then bq_L n c u v ro row left k (nx + 1) (bq_F c u v ro row (s.2.2.1 nx) n 1 s) else s else s
/-- what is seen: in the queue, open, reached from an earlier one -/
def bq_I (n : Nat) (c : Int → Int → Int64) (u v : Int → Int64) (ro : Int → Int) (row wanted : Int) (s : bq_S) : Prop :=
  (∀ j : Int, 0 ≤ j → j ≤ n → s.1 j = 0 ∨ s.1 j = 1) ∧ (∀ i : Int, 0 ≤ i → i < s.2.2.2 → 1 ≤ s.2.2.1 i ∧ s.2.2.1 i ≤ n ∧ s.1 (s.2.2.1 i) = 1) ∧
  (∀ j : Int, 1 ≤ j → j ≤ n → s.1 j = 1 → row ≤ ro j ∧ ∃ i : Int, 0 ≤ i ∧ i < s.2.2.2 ∧ s.2.2.1 i = j) ∧ pm_S s.1 n = s.2.2.2 ∧ 1 ≤ s.2.2.2 ∧ s.1 wanted = 1 ∧
  ∃ rk : Int → Nat, rk 0 = 0 ∧ ∀ j : Int, 1 ≤ j → j ≤ n → s.1 j = 1 → 1 ≤ rk j ∧ (rk j : Int) ≤ s.2.2.2 ∧ 0 ≤ s.2.1 j ∧ s.2.1 j ≤ n ∧ ((s.2.1 j = 0 ∧ j = wanted) ∨ (1 ≤ s.2.1 j ∧ s.1 (s.2.1 j) = 1)) ∧ rk (s.2.1 j) < rk j ∧ hm_x c u v (ro (s.2.1 j)) j = 0
theorem bq_1_keeps {n : Nat} {c : Int → Int → Int64} {u v : Int → Int64} {ro : Int → Int} {row wanted fr j : Int} {s : bq_S} (hfr : 1 ≤ fr ∧ fr ≤ n ∧ s.1 fr = 1) (hj : 1 ≤ j ∧ j ≤ n) (h : bq_I n c u v ro row wanted s) :
    bq_I n c u v ro row wanted (bq_1 c u v ro row fr j s) ∧ (∀ i : Int, s.1 i = 1 → (bq_1 c u v ro row fr j s).1 i = 1) ∧ (∀ i : Int, i < s.2.2.2 → (bq_1 c u v ro row fr j s).2.2.1 i = s.2.2.1 i) ∧ s.2.2.2 ≤ (bq_1 c u v ro row fr j s).2.2.2 ∧ (row ≤ ro j → hm_x c u v (ro fr) j = 0 → (bq_1 c u v ro row fr j s).1 j = 1) := by
  obtain ⟨sn, cm, qu, qn⟩ := s
  have h' := h
  obtain ⟨h1, h2, h3, h4, h5, h6, rk, h7, h8⟩ := h
  dsimp only at h1 h2 h3 h4 h5 h6 h7 h8 hfr
  by_cases a : sn j = 0
  · by_cases b : row ≤ ro j
    · by_cases d : hm_x c u v (ro fr) j = 0
      · have hE : bq_1 c u v ro row fr j (sn, cm, qu, qn) = (gz_u sn j 1, gz_u cm j fr, gz_u qu qn j, qn + 1) := by
          unfold bq_1
          rw [if_pos a, if_pos b, if_pos d]
        rw [hE]
        have hfj : fr ≠ j := fun z => by rw [z, a] at hfr; omega
        have sup : ∀ i : Int, sn i = 1 → gz_u sn j 1 i = 1 := fun i hi => by
          by_cases e : i = j
          · rw [e, gz_us]
          · rw [gz_un _ _ e]; exact hi
        have sdn : ∀ i : Int, gz_u sn j 1 i = 1 → sn i = 1 ∨ i = j := fun i hi => by
          by_cases e : i = j
          · exact Or.inr e
          · rw [gz_un _ _ e] at hi; exact Or.inl hi
        refine ⟨⟨fun i x y => ?_, fun i x y => ?_, fun i x y z => ?_, ?_, ?_, sup _ h6, fun i => if i = j then (qn + 1).toNat else rk i, ?_, fun i x y z => ?_⟩, sup, fun i x => gz_un _ _ (by dsimp only at x; omega), by show qn ≤ qn + 1; omega, fun _ _ => gz_us ..⟩ <;> (try dsimp only)
        · by_cases e : i = j
          · rw [e, gz_us]; exact Or.inr rfl
          · rw [gz_un _ _ e]; exact h1 i x y
        · by_cases e : i = qn
          · rw [e, gz_us]
            exact ⟨hj.1, hj.2, gz_us ..⟩
          · rw [gz_un _ _ e]
            obtain ⟨g1, g2, g3⟩ := h2 i x (by dsimp only at y; omega)
            exact ⟨g1, g2, sup _ g3⟩
        · rcases sdn i z with z | z
          · obtain ⟨g1, q, q1, q2, q3⟩ := h3 i x y z
            exact ⟨g1, q, q1, by omega, by rw [gz_un _ _ (by omega)]; exact q3⟩
          · rw [z]
            exact ⟨b, qn, by omega, by omega, gz_us ..⟩
        · have e1 : pm_S (gz_u sn j 1) n = pm_S (fun i => sn i + (if i = j then 1 else 0)) n := pm_S_congr (fun i x y => by
            by_cases e : i = j
            · rw [e, gz_us, a]
              simp
            · rw [gz_un _ _ e]
              simp [e])
          rw [e1, pm_S_add, pm_S_one hj.1 hj.2, h4]
        · omega
        · rw [if_neg (by omega)]
          exact h7
        · by_cases e : i = j
          · obtain ⟨g1, g2, -⟩ := h8 fr hfr.1 hfr.2.1 hfr.2.2
            rw [e, if_pos rfl, gz_us, if_neg hfj]
            exact ⟨by omega, by omega, by omega, hfr.2.1, Or.inr ⟨hfr.1, sup _ hfr.2.2⟩, by omega, d⟩
          · have hi : sn i = 1 := by
              rcases sdn i z with z | z
              · exact z
              · exact absurd z e
            obtain ⟨g1, g2, g3, g4, g5, g6, g7⟩ := h8 i x y hi
            rw [if_neg e, gz_un _ _ e]
            have hcj : cm i ≠ j := fun z => by
              rcases g5 with g5 | g5
              · omega
              · rw [z, a] at g5
                omega
            rw [if_neg hcj]
            refine ⟨g1, by omega, g3, g4, ?_, g6, g7⟩
            rcases g5 with g5 | g5
            · exact Or.inl g5
            · exact Or.inr ⟨g5.1, sup _ g5.2⟩
      · have hE : bq_1 c u v ro row fr j (sn, cm, qu, qn) = (sn, cm, qu, qn) := by
          unfold bq_1
          rw [if_pos a, if_pos b, if_neg d]
        rw [hE]
        exact ⟨h', fun i hi => hi, fun i _ => rfl, Int.le_refl _, fun _ z => absurd z d⟩
    · have hE : bq_1 c u v ro row fr j (sn, cm, qu, qn) = (sn, cm, qu, qn) := by
        unfold bq_1
        rw [if_pos a, if_neg b]
      rw [hE]
      exact ⟨h', fun i hi => hi, fun i _ => rfl, Int.le_refl _, fun z => absurd z b⟩
  · have hE : bq_1 c u v ro row fr j (sn, cm, qu, qn) = (sn, cm, qu, qn) := by
      unfold bq_1
      rw [if_neg a]
    rw [hE]
    have aj : sn j = 1 := by
      rcases h1 j (by omega) hj.2 with z | z
      · exact absurd z a
      · exact z
    exact ⟨h', fun i hi => hi, fun i _ => rfl, Int.le_refl _, fun _ _ => aj⟩
theorem bq_F_keeps {n : Nat} {c : Int → Int → Int64} {u v : Int → Int64} {ro : Int → Int} {row wanted fr : Int} : ∀ (k : Nat) (j : Int) (s : bq_S), 1 ≤ j → j + k = (n : Int) + 1 → (1 ≤ fr ∧ fr ≤ n ∧ s.1 fr = 1) → bq_I n c u v ro row wanted s →
    bq_I n c u v ro row wanted (bq_F c u v ro row fr k j s) ∧ (∀ i : Int, s.1 i = 1 → (bq_F c u v ro row fr k j s).1 i = 1) ∧ (∀ i : Int, i < s.2.2.2 → (bq_F c u v ro row fr k j s).2.2.1 i = s.2.2.1 i) ∧ s.2.2.2 ≤ (bq_F c u v ro row fr k j s).2.2.2 ∧ (∀ i : Int, j ≤ i → i ≤ n → row ≤ ro i → hm_x c u v (ro fr) i = 0 → (bq_F c u v ro row fr k j s).1 i = 1)
  | 0, j, s, hj, hk, hfr, h => ⟨h, fun i hi => hi, fun i _ => rfl, Int.le_refl _, fun i a b => absurd b (by omega)⟩
  | k + 1, j, s, hj, hk, hfr, h => by
    obtain ⟨g1, g2, g3, g4, g5⟩ := bq_1_keeps hfr ⟨hj, by omega⟩ h
    obtain ⟨i1, i2, i3, i4, i5⟩ := bq_F_keeps (wanted := wanted) k (j + 1) (bq_1 c u v ro row fr j s) (by omega) (by omega) ⟨hfr.1, hfr.2.1, g2 _ hfr.2.2⟩ g1
    refine ⟨i1, fun i hi => i2 i (g2 i hi), fun i hi => (i3 i (by omega)).trans (g3 i hi), Int.le_trans g4 i4, fun i a b d e => ?_⟩
    by_cases ei : i = j
    · rw [ei] at d e ⊢
      exact i2 j (g5 d e)
    · exact i5 i (by omega) b d e
theorem bq_L_keeps {n : Nat} {c : Int → Int → Int64} {u v : Int → Int64} {ro : Int → Int} {row wanted left : Int} (hl : 1 ≤ left ∧ left ≤ n) : ∀ (k : Nat) (nx : Int) (s : bq_S), 0 ≤ nx → nx + k = (n : Int) → bq_I n c u v ro row wanted s → (∀ i : Int, 0 ≤ i → i < nx → i < s.2.2.2 ∧ ∀ j : Int, 1 ≤ j → j ≤ n → row ≤ ro j → hm_x c u v (ro (s.2.2.1 i)) j = 0 → s.1 j = 1) →
    bq_I n c u v ro row wanted (bq_L n c u v ro row left k nx s) ∧ ((bq_L n c u v ro row left k nx s).1 left = 1 ∨ ∀ i : Int, 0 ≤ i → i < (bq_L n c u v ro row left k nx s).2.2.2 → ∀ j : Int, 1 ≤ j → j ≤ n → row ≤ ro j → hm_x c u v (ro ((bq_L n c u v ro row left k nx s).2.2.1 i)) j = 0 → (bq_L n c u v ro row left k nx s).1 j = 1)
  | 0, nx, s, h0, hk, h, hcl => by
    refine ⟨h, Or.inr (fun i a b => (hcl i a ?_).2)⟩
    have h4 : pm_S s.1 n = s.2.2.2 := h.2.2.2.1
    have h5 : pm_S s.1 n ≤ n * 1 := pm_S_bound (fun i x y => by
      rcases h.1 i (by omega) y with z | z <;> omega)
    have b' : i < s.2.2.2 := b
    omega
  | k + 1, nx, s, h0, hk, h, hcl => by
    unfold bq_L
    by_cases a : nx < s.2.2.2
    · rw [if_pos a]
      by_cases b : s.1 left = 0
      · rw [if_pos b]
        have hq := h.2.1 nx h0 a
        obtain ⟨g1, g2, g3, g4, g5⟩ := bq_F_keeps (wanted := wanted) n 1 s (by omega) (by omega) ⟨hq.1, hq.2.1, hq.2.2⟩ h
        refine bq_L_keeps hl k (nx + 1) _ (by omega) (by omega) g1 (fun i ai bi => ?_)
        by_cases e : i = nx
        · rw [e]
          refine ⟨by omega, fun j aj bj d f => ?_⟩
          rw [g3 nx a] at f
          exact g5 j aj bj d f
        · obtain ⟨k1, k2⟩ := hcl i ai (by omega)
          refine ⟨by omega, fun j aj bj d f => ?_⟩
          rw [g3 i k1] at f
          exact g2 j (k2 j aj bj d f)
      · rw [if_neg b]
        refine ⟨h, Or.inl ?_⟩
        rcases h.1 left (by omega) hl.2 with z | z
        · exact absurd z b
        · exact z
    · rw [if_neg a]
      exact ⟨h, Or.inr (fun i x y => (hcl i x (by omega)).2)⟩
