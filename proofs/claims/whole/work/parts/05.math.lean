/-! PURE: sums over 1 .. n, the pigeonhole, sums over a permutation, the least sum by rows and sets of columns, and prices -/
def pm_S (f : Int → Int) : Nat → Int
  | 0 => 0
  | n + 1 => pm_S f n + f ((n : Int) + 1)
theorem pm_S_congr {f g : Int → Int} : ∀ {n : Nat}, (∀ i : Int, 1 ≤ i → i ≤ n → f i = g i) → pm_S f n = pm_S g n
  | 0, _ => rfl
  | n + 1, h => by
    have h1 : pm_S f n = pm_S g n := pm_S_congr (fun i a b => h i a (by omega))
    have h2 := h ((n : Int) + 1) (by omega) (by omega)
    show pm_S f n + f ((n : Int) + 1) = pm_S g n + g ((n : Int) + 1)
    rw [h1, h2]
theorem pm_S_le {f g : Int → Int} : ∀ {n : Nat}, (∀ i : Int, 1 ≤ i → i ≤ n → f i ≤ g i) → pm_S f n ≤ pm_S g n
  | 0, _ => Int.le_refl _
  | n + 1, h => by
    have h1 : pm_S f n ≤ pm_S g n := pm_S_le (fun i a b => h i a (by omega))
    have h2 := h ((n : Int) + 1) (by omega) (by omega)
    show pm_S f n + f ((n : Int) + 1) ≤ pm_S g n + g ((n : Int) + 1)
    omega
theorem pm_S_add (f g : Int → Int) : ∀ n : Nat, pm_S (fun i => f i + g i) n = pm_S f n + pm_S g n
  | 0 => rfl
  | n + 1 => by
    have h := pm_S_add f g n
    show pm_S (fun i => f i + g i) n + (f ((n : Int) + 1) + g ((n : Int) + 1)) = pm_S f n + f ((n : Int) + 1) + (pm_S g n + g ((n : Int) + 1))
    omega
theorem pm_S_zero {f : Int → Int} {n : Nat} (h : ∀ i : Int, 1 ≤ i → i ≤ n → f i = 0) : pm_S f n = 0 := by
  have h1 : pm_S f n = pm_S (fun _ => 0) n := pm_S_congr h
  rw [h1]
  clear h h1
  induction n with
  | zero => rfl
  | succ n ih =>
    show pm_S (fun _ => 0) n + 0 = 0
    omega
theorem pm_S_nonneg {f : Int → Int} {n : Nat} (h : ∀ i : Int, 1 ≤ i → i ≤ n → 0 ≤ f i) : 0 ≤ pm_S f n := by
  have h1 : pm_S (fun _ => 0) n ≤ pm_S f n := pm_S_le h
  rw [pm_S_zero (f := fun _ => 0) (fun _ _ _ => rfl)] at h1
  exact h1
theorem pm_S_bound {f : Int → Int} {B : Int} : ∀ {n : Nat}, (∀ i : Int, 1 ≤ i → i ≤ n → f i ≤ B) → pm_S f n ≤ n * B
  | 0, _ => by
    show (0 : Int) ≤ ((0 : Nat) : Int) * B
    simp
  | n + 1, h => by
    have h1 : pm_S f n ≤ n * B := pm_S_bound (fun i a b => h i a (by omega))
    have h2 := h ((n : Int) + 1) (by omega) (by omega)
    show pm_S f n + f ((n : Int) + 1) ≤ ((n + 1 : Nat) : Int) * B
    have h3 : ((n + 1 : Nat) : Int) * B = (n : Int) * B + B := by
      rw [Int.natCast_add, Int.add_mul]
      simp
    omega
/-- one term, the others 0 -/
theorem pm_S_one {a : Int} {i0 : Int} : ∀ {n : Nat}, 1 ≤ i0 → i0 ≤ n → pm_S (fun i => if i = i0 then a else 0) n = a
  | 0, h1, h2 => absurd h2 (by omega)
  | n + 1, h1, h2 => by
    show pm_S (fun i => if i = i0 then a else 0) n + (if (n : Int) + 1 = i0 then a else 0) = a
    by_cases h : (n : Int) + 1 = i0
    · rw [if_pos h, pm_S_zero (fun i a1 b1 => if_neg (by omega))]
      omega
    · rw [if_neg h, pm_S_one h1 (by omega)]
      omega
theorem pm_S_ge {f : Int → Int} {n : Nat} (h : ∀ i : Int, 1 ≤ i → i ≤ n → 0 ≤ f i) {i0 : Int} (h1 : 1 ≤ i0) (h2 : i0 ≤ n) : f i0 ≤ pm_S f n := by
  have h3 : pm_S (fun i => if i = i0 then f i0 else 0) n ≤ pm_S f n := pm_S_le (fun i a b => by
    by_cases e : i = i0
    · rw [if_pos e, e]
      exact Int.le_refl _
    · rw [if_neg e]
      exact h i a b)
  rw [pm_S_one h1 h2] at h3
  exact h3
abbrev pm_into (n : Nat) (f : Int → Int) : Prop := ∀ i : Int, 1 ≤ i → i ≤ n → 1 ≤ f i ∧ f i ≤ n
abbrev pm_inj (n : Nat) (f : Int → Int) : Prop := ∀ i j : Int, 1 ≤ i → i ≤ n → 1 ≤ j → j ≤ n → f i = f j → i = j
theorem pm_cut {n : Nat} {f : Int → Int} (hm : pm_into (n + 1) f) (hi : pm_inj (n + 1) f) :
    pm_into n (fun i => if f i = (n : Int) + 1 then f ((n : Int) + 1) else f i) ∧ pm_inj n (fun i => if f i = (n : Int) + 1 then f ((n : Int) + 1) else f i) := by
  have hN := hm ((n : Int) + 1) (by omega) (by omega)
  refine ⟨fun i h1 h2 => ?_, fun i j h1 h2 h3 h4 h5 => ?_⟩
  · have hmi := hm i h1 (by omega)
    by_cases e : f i = (n : Int) + 1
    · simp only [e, if_true]
      have h6 : f ((n : Int) + 1) ≠ (n : Int) + 1 := fun z => by
        have := hi i ((n : Int) + 1) h1 (by omega) (by omega) (by omega) (e.trans z.symm)
        omega
      omega
    · simp only [e, if_false]
      omega
  · by_cases e1 : f i = (n : Int) + 1
    · by_cases e2 : f j = (n : Int) + 1
      · exact hi i j h1 (by omega) h3 (by omega) (e1.trans e2.symm)
      · simp only [e1, e2, if_true, if_false] at h5
        have := hi ((n : Int) + 1) j (by omega) (by omega) h3 (by omega) h5
        omega
    · by_cases e2 : f j = (n : Int) + 1
      · simp only [e1, e2, if_true, if_false] at h5
        have := hi i ((n : Int) + 1) h1 (by omega) (by omega) (by omega) h5
        omega
      · simp only [e1, e2, if_false] at h5
        exact hi i j h1 (by omega) h3 (by omega) h5
theorem pm_php : ∀ (n : Nat) (f : Int → Int), pm_into n f → pm_inj n f → ∀ y : Int, 1 ≤ y → y ≤ n → ∃ x : Int, 1 ≤ x ∧ x ≤ n ∧ f x = y
  | 0, _, _, _, y, h1, h2 => absurd h2 (by omega)
  | n + 1, f, hm, hi, y, h1, h2 => by
    obtain ⟨gm, gi⟩ := pm_cut hm hi
    have hN := hm ((n : Int) + 1) (by omega) (by omega)
    have ih := pm_php n _ gm gi
    by_cases e : y = f ((n : Int) + 1)
    · exact ⟨(n : Int) + 1, by omega, by omega, e.symm⟩
    · by_cases e2 : y = (n : Int) + 1
      · obtain ⟨z, a1, a2, a3⟩ := ih (f ((n : Int) + 1)) hN.1 (by omega)
        by_cases e3 : f z = (n : Int) + 1
        · exact ⟨z, a1, by omega, by omega⟩
        · simp only [e3, if_false] at a3
          have := hi z ((n : Int) + 1) a1 (by omega) (by omega) (by omega) a3
          omega
      · obtain ⟨z, a1, a2, a3⟩ := ih y h1 (by omega)
        by_cases e3 : f z = (n : Int) + 1
        · simp only [e3, if_true] at a3
          exact absurd a3.symm e
        · simp only [e3, if_false] at a3
          exact ⟨z, a1, by omega, a3⟩
/-- the same on a part P of 1 .. n -/
theorem pm_phpP {n : Nat} {P : Int → Prop} (hP : ∀ i, P i ∨ ¬ P i) {f : Int → Int} (hr : ∀ i, P i → 1 ≤ i ∧ i ≤ n) (hm : ∀ i, P i → P (f i)) (hi : ∀ i j, P i → P j → f i = f j → i = j) {y : Int} (hy : P y) : ∃ x, P x ∧ f x = y := by
  have hd : ∀ i, Decidable (P i) := fun i => Classical.propDecidable _
  obtain ⟨z, a1, a2, a3⟩ := pm_php n (fun i => if P i then f i else i) (fun i h1 h2 => by
    by_cases h : P i
    · simp only [h, if_true]
      exact hr _ (hm i h)
    · simp only [h, if_false]
      exact ⟨h1, h2⟩) (fun i j h1 h2 h3 h4 h5 => by
    by_cases h : P i
    · by_cases h' : P j
      · simp only [h, h', if_true] at h5
        exact hi i j h h' h5
      · simp only [h, h', if_true, if_false] at h5
        exact absurd (h5 ▸ hm i h) h'
    · by_cases h' : P j
      · simp only [h, h', if_true, if_false] at h5
        exact absurd (h5 ▸ hm j h') h
      · simp only [h, h', if_false] at h5
        exact h5) y (hr y hy).1 (hr y hy).2
  by_cases h : P z
  · simp only [h, if_true] at a3
    exact ⟨z, h, a3⟩
  · simp only [h, if_false] at a3
    exact absurd (a3 ▸ hy) h
theorem pm_S_perm : ∀ (n : Nat) (p : Int → Int), pm_into n p → pm_inj n p → ∀ f : Int → Int, pm_S (fun i => f (p i)) n = pm_S f n
  | 0, _, _, _, _ => rfl
  | n + 1, p, hm, hi, f => by
    obtain ⟨gm, gi⟩ := pm_cut hm hi
    have ih := pm_S_perm n _ gm gi f
    have hN := hm ((n : Int) + 1) (by omega) (by omega)
    show pm_S (fun i => f (p i)) n + f (p ((n : Int) + 1)) = pm_S f n + f ((n : Int) + 1)
    by_cases e : p ((n : Int) + 1) = (n : Int) + 1
    · have h1 : pm_S (fun i => f (if p i = (n : Int) + 1 then p ((n : Int) + 1) else p i)) n = pm_S (fun i => f (p i)) n := pm_S_congr (fun i a b => by
        have h2 : p i ≠ (n : Int) + 1 := fun z => by
          have := hi i ((n : Int) + 1) a (by omega) (by omega) (by omega) (z.trans e.symm)
          omega
        simp only [h2, if_false])
      rw [← ih, h1, e]
    · obtain ⟨i0, a1, a2, a3⟩ := pm_php (n + 1) p hm hi ((n : Int) + 1) (by omega) (by omega)
      have a4 : i0 ≠ (n : Int) + 1 := fun z => e (z ▸ a3)
      have h1 : pm_S (fun i => f (if p i = (n : Int) + 1 then p ((n : Int) + 1) else p i)) n = pm_S (fun i => f (p i) + (if i = i0 then f (p ((n : Int) + 1)) - f ((n : Int) + 1) else 0)) n := pm_S_congr (fun i a b => by
        by_cases h2 : p i = (n : Int) + 1
        · have h3 : i = i0 := hi i i0 a (by omega) a1 a2 (h2.trans a3.symm)
          rw [if_pos h2, if_pos h3, h2]
          omega
        · have h3 : i ≠ i0 := fun z => h2 (z ▸ a3)
          simp only [h2, h3, if_false]
          omega)
      rw [pm_S_add, pm_S_one a1 (by omega)] at h1
      rw [h1] at ih
      omega
/-! the least sum, row after row, by the set of the columns that are taken -/
def pl_m (P : Nat → Bool) (w : Nat → Int) (NV : Int) : Nat → Int
  | 0 => NV
  | v + 1 => if P v = true then pl_m P w NV v else if w v < pl_m P w NV v then w v else pl_m P w NV v
theorem pl_m_top (P : Nat → Bool) (w : Nat → Int) (NV : Int) : ∀ n, pl_m P w NV n ≤ NV
  | 0 => Int.le_refl _
  | n + 1 => by
    have h := pl_m_top P w NV n
    unfold pl_m
    by_cases h1 : P n = true
    · rw [if_pos h1]
      exact h
    · rw [if_neg h1]
      by_cases h2 : w n < pl_m P w NV n
      · rw [if_pos h2]
        omega
      · rw [if_neg h2]
        exact h
theorem pl_m_le {P : Nat → Bool} {w : Nat → Int} {NV : Int} : ∀ {n v : Nat}, v < n → P v = false → pl_m P w NV n ≤ w v
  | 0, v, h, _ => absurd h (Nat.not_lt_zero v)
  | n + 1, v, h, hv => by
    unfold pl_m
    by_cases e : v = n
    · subst e
      rw [if_neg (by rw [hv]; decide)]
      by_cases h2 : w v < pl_m P w NV v
      · rw [if_pos h2]
        exact Int.le_refl _
      · rw [if_neg h2]
        omega
    · have ih : pl_m P w NV n ≤ w v := pl_m_le (by omega) hv
      by_cases h1 : P n = true
      · rw [if_pos h1]
        exact ih
      · rw [if_neg h1]
        by_cases h2 : w n < pl_m P w NV n
        · rw [if_pos h2]
          omega
        · rw [if_neg h2]
          exact ih
theorem pl_m_ge {P : Nat → Bool} {w : Nat → Int} {NV L : Int} (h0 : L ≤ NV) : ∀ {n : Nat}, (∀ v, v < n → P v = false → L ≤ w v) → L ≤ pl_m P w NV n
  | 0, _ => h0
  | n + 1, h => by
    have ih : L ≤ pl_m P w NV n := pl_m_ge h0 (fun v a b => h v (by omega) b)
    unfold pl_m
    by_cases h1 : P n = true
    · rw [if_pos h1]
      exact ih
    · rw [if_neg h1]
      by_cases h2 : w n < pl_m P w NV n
      · rw [if_pos h2]
        exact h n (by omega) (by simpa using h1)
      · rw [if_neg h2]
        exact ih
theorem pl_m_at (P : Nat → Bool) (w : Nat → Int) (NV : Int) : ∀ n, pl_m P w NV n = NV ∨ ∃ v, v < n ∧ P v = false ∧ pl_m P w NV n = w v
  | 0 => Or.inl rfl
  | n + 1 => by
    have ih := pl_m_at P w NV n
    have up : (pl_m P w NV n = NV ∨ ∃ v, v < n ∧ P v = false ∧ pl_m P w NV n = w v) → (pl_m P w NV n = NV ∨ ∃ v, v < n + 1 ∧ P v = false ∧ pl_m P w NV n = w v) := fun h => by
      rcases h with h | ⟨v, a, b, c⟩
      · exact Or.inl h
      · exact Or.inr ⟨v, by omega, b, c⟩
    unfold pl_m
    by_cases h1 : P n = true
    · rw [if_pos h1]
      exact up ih
    · rw [if_neg h1]
      by_cases h2 : w n < pl_m P w NV n
      · rw [if_pos h2]
        exact Or.inr ⟨n, by omega, by simpa using h1, rfl⟩
      · rw [if_neg h2]
        exact up ih
/-- the least sum of the last k of n rows, over the columns that are not in S (column v + 1 is bit v) -/
def pl_F (n : Nat) (c : Int → Int → Int) (NV : Int) : Nat → Nat → Int
  | 0, _ => 0
  | k + 1, S => pl_m (fun v => S.testBit v) (fun v => c ((n : Int) - k) ((v : Int) + 1) + pl_F n c NV k (S ||| 1 <<< v)) NV n
abbrev pl_b (S : Nat) (j : Int) : Bool := S.testBit (j - 1).toNat
theorem pl_b_v (S v : Nat) : pl_b S ((v : Int) + 1) = S.testBit v := by
  show S.testBit ((v : Int) + 1 - 1).toNat = _
  congr 1
  omega
theorem pl_b_or {S v : Nat} {j : Int} (hj : 1 ≤ j) : pl_b (S ||| 1 <<< v) j = (pl_b S j || decide (j = (v : Int) + 1)) := by
  show (S ||| 1 <<< v).testBit (j - 1).toNat = _
  rw [Nat.testBit_or, Nat.one_shiftLeft, Nat.testBit_two_pow]
  congr 1
  apply decide_eq_decide.mpr
  omega
def pl_n (n S : Nat) : Int := pm_S (fun j => if pl_b S j = true then 1 else 0) n
def pl_q (q : Int → Int) (n S : Nat) : Int := pm_S (fun j => if pl_b S j = true then 0 else q j) n
def pl_d (r q : Int → Int) (n k S : Nat) : Int := (pm_S r n - pm_S r (n - k)) + pl_q q n S
theorem pl_q_step {q : Int → Int} {n S v : Nat} (hv : v < n) (h : S.testBit v = false) : pl_q q n S = q ((v : Int) + 1) + pl_q q n (S ||| 1 <<< v) := by
  have h1 : pl_q q n S = pm_S (fun j => (if j = (v : Int) + 1 then q ((v : Int) + 1) else 0) + (if pl_b (S ||| 1 <<< v) j = true then 0 else q j)) n := pm_S_congr (fun j a b => by
    rw [pl_b_or a]
    by_cases e : j = (v : Int) + 1
    · rw [e, pl_b_v, h]
      simp
    · simp [e])
  rw [h1, pm_S_add, pm_S_one (by omega) (by omega)]
  rfl
theorem pl_n_step {n S v : Nat} (hv : v < n) (h : S.testBit v = false) : pl_n n (S ||| 1 <<< v) = pl_n n S + 1 := by
  have h1 : pl_n n (S ||| 1 <<< v) = pm_S (fun j => (if pl_b S j = true then 1 else 0) + (if j = (v : Int) + 1 then 1 else 0)) n := pm_S_congr (fun j a b => by
    rw [pl_b_or a]
    by_cases e : j = (v : Int) + 1
    · rw [e, pl_b_v, h]
      simp
    · simp [e])
  rw [h1, pm_S_add, pm_S_one (by omega) (by omega)]
  rfl
theorem pl_n_full {n S : Nat} (h : pl_n n S = n) : ∀ j : Int, 1 ≤ j → j ≤ n → pl_b S j = true := by
  intro j h1 h2
  cases e : pl_b S j with
  | true => rfl
  | false =>
    exfalso
    have h3 : pl_n n S + pm_S (fun i => if i = j then 1 else 0) n ≤ pm_S (fun _ => 1) n := by
      unfold pl_n
      rw [← pm_S_add]
      refine pm_S_le (fun i a b => ?_)
      by_cases e2 : i = j
      · rw [e2, e]
        simp
      · rw [if_neg e2]
        by_cases e3 : pl_b S i = true
        · rw [if_pos e3]
          omega
        · rw [if_neg e3]
          omega
    rw [pm_S_one h1 h2, h] at h3
    have h4 : pm_S (fun _ => (1 : Int)) n ≤ n * 1 := pm_S_bound (fun _ _ _ => Int.le_refl _)
    omega
theorem pl_r_step {r : Int → Int} {n k : Nat} (hk : k + 1 ≤ n) : pm_S r (n - k) = pm_S r (n - (k + 1)) + r ((n : Int) - k) := by
  have h : n - k = (n - (k + 1)) + 1 := by omega
  rw [h]
  show pm_S r (n - (k + 1)) + r (((n - (k + 1) : Nat) : Int) + 1) = _
  congr 2
  omega
theorem pl_d_step {r q : Int → Int} {n k S v : Nat} (hk : k + 1 ≤ n) (hv : v < n) (h : S.testBit v = false) : pl_d r q n (k + 1) S = r ((n : Int) - k) + q ((v : Int) + 1) + pl_d r q n k (S ||| 1 <<< v) := by
  unfold pl_d
  rw [pl_q_step hv h]
  have h1 := pl_r_step (r := r) hk
  omega
/-- prices that no place exceeds -/
def pl_ok (r q : Int → Int) (c : Int → Int → Int) (n : Nat) : Prop := ∀ i j : Int, 1 ≤ i → i ≤ n → 1 ≤ j → j ≤ n → r i + q j ≤ c i j
theorem pl_low {r q : Int → Int} {c : Int → Int → Int} {n : Nat} {NV : Int} (hok : pl_ok r q c n) (hc : ∀ i j : Int, 1 ≤ i → i ≤ n → 1 ≤ j → j ≤ n → 0 ≤ c i j) :
    ∀ (k S : Nat), k ≤ n → pl_n n S = (n : Int) - k → ∀ L : Int, L ≤ NV → L ≤ pl_d r q n k S → L ≤ pl_F n c NV k S
  | 0, S, _, hS, L, _, h2 => by
    have h3 : pl_q q n S = 0 := pm_S_zero (fun j a b => if_pos (pl_n_full (by omega) j a b))
    unfold pl_d at h2
    rw [h3, Nat.sub_zero] at h2
    show L ≤ 0
    omega
  | k + 1, S, hk, hS, L, h1, h2 => by
    unfold pl_F
    refine pl_m_ge h1 (fun v hv hb => ?_)
    have hcv := hc ((n : Int) - k) ((v : Int) + 1) (by omega) (by omega) (by omega) (by omega)
    have hov := hok ((n : Int) - k) ((v : Int) + 1) (by omega) (by omega) (by omega) (by omega)
    rw [pl_d_step hk hv hb] at h2
    have ih := pl_low (NV := NV) hok hc k (S ||| 1 <<< v) (by omega) (by rw [pl_n_step hv hb]; omega) (L - c ((n : Int) - k) ((v : Int) + 1)) (by omega) (by omega)
    omega
/-- a way of the last k rows to columns that are not in S, no two to one -/
def pl_way (n k S : Nat) (t : Int → Int) : Prop := (∀ i : Int, (n : Int) - k < i → i ≤ n → 1 ≤ t i ∧ t i ≤ n ∧ pl_b S (t i) = false) ∧ ∀ i j : Int, (n : Int) - k < i → i ≤ n → (n : Int) - k < j → j ≤ n → t i = t j → i = j
theorem pl_way_step {n k S : Nat} {t : Int → Int} (hk : k + 1 ≤ n) (h : pl_way n (k + 1) S t) : pl_way n k (S ||| 1 <<< (t ((n : Int) - k) - 1).toNat) t := by
  have hr := h.1 ((n : Int) - k) (by omega) (by omega)
  refine ⟨fun i h1 h2 => ?_, fun i j h1 h2 h3 h4 => h.2 i j (by omega) h2 (by omega) h4⟩
  have hi := h.1 i (by omega) h2
  refine ⟨hi.1, hi.2.1, ?_⟩
  rw [pl_b_or hi.1, hi.2.2]
  have hne : t i ≠ t ((n : Int) - k) := fun z => by
    have := h.2 i ((n : Int) - k) (by omega) h2 (by omega) (by omega) z
    omega
  simp
  omega
theorem pl_up {c : Int → Int → Int} {n : Nat} {NV : Int} {t : Int → Int} : ∀ (k S : Nat), k ≤ n → pl_way n k S t → pl_F n c NV k S ≤ pm_S (fun i => c i (t i)) n - pm_S (fun i => c i (t i)) (n - k)
  | 0, S, _, _ => by
    rw [Nat.sub_zero]
    show (0 : Int) ≤ _
    omega
  | k + 1, S, hk, h => by
    obtain ⟨hr1, hr2, hr3⟩ := h.1 ((n : Int) - k) (by omega) (by omega)
    have ih := pl_up (c := c) (NV := NV) k _ (by omega) (pl_way_step hk h)
    have hb : S.testBit (t ((n : Int) - k) - 1).toNat = false := hr3
    have hle : pl_F n c NV (k + 1) S ≤ c ((n : Int) - k) (((t ((n : Int) - k) - 1).toNat : Int) + 1) + pl_F n c NV k (S ||| 1 <<< (t ((n : Int) - k) - 1).toNat) := by
      have hvn : (t ((n : Int) - k) - 1).toNat < n := by omega
      exact pl_m_le (P := fun v => S.testBit v) (w := fun v => c ((n : Int) - k) ((v : Int) + 1) + pl_F n c NV k (S ||| 1 <<< v)) hvn hb
    have e : ((t ((n : Int) - k) - 1).toNat : Int) + 1 = t ((n : Int) - k) := by omega
    rw [e] at hle
    have h3 := pl_r_step (r := fun i => c i (t i)) hk
    omega
/-- where the least sum is that of the prices: a way along places that the prices just reach -/
theorem pl_tight {r q : Int → Int} {c : Int → Int → Int} {n : Nat} {NV : Int} (hok : pl_ok r q c n) (hc : ∀ i j : Int, 1 ≤ i → i ≤ n → 1 ≤ j → j ≤ n → 0 ≤ c i j) (hB : ∀ k S : Nat, k ≤ n → pl_d r q n k S < NV) :
    ∀ (k S : Nat), k ≤ n → pl_n n S = (n : Int) - k → pl_F n c NV k S = pl_d r q n k S → ∃ t : Int → Int, pl_way n k S t ∧ ∀ i : Int, (n : Int) - k < i → i ≤ n → c i (t i) = r i + q (t i)
  | 0, S, _, _, _ => ⟨fun i => i, ⟨fun i h1 h2 => absurd h2 (by omega), fun i j h1 h2 => absurd h2 (by omega)⟩, fun i h1 h2 => absurd h2 (by omega)⟩
  | k + 1, S, hk, hS, he => by
    have hat := pl_m_at (fun v => S.testBit v) (fun v => c ((n : Int) - k) ((v : Int) + 1) + pl_F n c NV k (S ||| 1 <<< v)) NV n
    have hlt := hB (k + 1) S hk
    have hun : pl_F n c NV (k + 1) S = pl_m (fun v => S.testBit v) (fun v => c ((n : Int) - k) ((v : Int) + 1) + pl_F n c NV k (S ||| 1 <<< v)) NV n := rfl
    rcases hat with h | ⟨v, hv, hb, h⟩
    · rw [hun, h] at he
      omega
    · have hn2 : pl_n n (S ||| 1 <<< v) = (n : Int) - k := by
        rw [pl_n_step hv hb]
        omega
      have hov := hok ((n : Int) - k) ((v : Int) + 1) (by omega) (by omega) (by omega) (by omega)
      have hlow := pl_low (NV := NV) hok hc k (S ||| 1 <<< v) (by omega) hn2 (pl_d r q n k (S ||| 1 <<< v)) (Int.le_of_lt (hB k _ (by omega))) (Int.le_refl _)
      rw [hun, h, pl_d_step hk hv hb] at he
      obtain ⟨t, ht, htt⟩ := pl_tight hok hc hB k (S ||| 1 <<< v) (by omega) hn2 (by omega)
      refine ⟨fun i => if i = (n : Int) - k then (v : Int) + 1 else t i, ⟨fun i h1 h2 => ?_, fun i j h1 h2 h3 h4 h5 => ?_⟩, fun i h1 h2 => ?_⟩
      · by_cases e : i = (n : Int) - k
        · simp only [e, if_true]
          exact ⟨by omega, by omega, by rw [pl_b_v]; exact hb⟩
        · simp only [e, if_false]
          obtain ⟨a1, a2, a3⟩ := ht.1 i (by omega) h2
          rw [pl_b_or a1] at a3
          simp only [Bool.or_eq_false_iff] at a3
          exact ⟨a1, a2, a3.1⟩
      · by_cases e : i = (n : Int) - k
        · by_cases e' : j = (n : Int) - k
          · omega
          · simp only [e, e', if_true, if_false] at h5
            obtain ⟨a1, a2, a3⟩ := ht.1 j (by omega) h4
            rw [pl_b_or a1] at a3
            simp only [Bool.or_eq_false_iff, decide_eq_false_iff_not] at a3
            exact absurd h5.symm a3.2
        · by_cases e' : j = (n : Int) - k
          · simp only [e, e', if_true, if_false] at h5
            obtain ⟨a1, a2, a3⟩ := ht.1 i (by omega) h2
            rw [pl_b_or a1] at a3
            simp only [Bool.or_eq_false_iff, decide_eq_false_iff_not] at a3
            exact absurd h5 a3.2
          · simp only [e, e', if_false] at h5
            exact ht.2 i j (by omega) h2 (by omega) h4 h5
      · by_cases e : i = (n : Int) - k
        · simp only [e, if_true]
          omega
        · simp only [e, if_false]
          exact htt i (by omega) h2
/-- the place v of the next row can be taken, by sums, just when the prices reach it and the rest goes on so -/
theorem pl_fits {r q : Int → Int} {c : Int → Int → Int} {n : Nat} {NV : Int} (hok : pl_ok r q c n) (hc : ∀ i j : Int, 1 ≤ i → i ≤ n → 1 ≤ j → j ≤ n → 0 ≤ c i j) (hB : ∀ k S : Nat, k ≤ n → pl_d r q n k S < NV)
    {k S v : Nat} (hk : k + 1 ≤ n) (hS : pl_n n S = (n : Int) - (k + 1 : Nat)) (he : pl_F n c NV (k + 1) S = pl_d r q n (k + 1) S) (hv : v < n) (hb : S.testBit v = false) :
    c ((n : Int) - k) ((v : Int) + 1) + pl_F n c NV k (S ||| 1 <<< v) = pl_F n c NV (k + 1) S ↔ (c ((n : Int) - k) ((v : Int) + 1) = r ((n : Int) - k) + q ((v : Int) + 1) ∧ pl_F n c NV k (S ||| 1 <<< v) = pl_d r q n k (S ||| 1 <<< v)) := by
  have hn2 : pl_n n (S ||| 1 <<< v) = (n : Int) - k := by
    rw [pl_n_step hv hb]
    omega
  have hov := hok ((n : Int) - k) ((v : Int) + 1) (by omega) (by omega) (by omega) (by omega)
  have hlow := pl_low (NV := NV) hok hc k (S ||| 1 <<< v) (by omega) hn2 (pl_d r q n k (S ||| 1 <<< v)) (Int.le_of_lt (hB k _ (by omega))) (Int.le_refl _)
  rw [he, pl_d_step hk hv hb]
  omega
