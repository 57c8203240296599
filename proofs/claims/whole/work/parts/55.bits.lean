/-! SETS AS BITS -/
theorem bt_sh {S v : Nat} (hS : S < 4096) (hv : v < 12) : ((nI S) >>> ((nI v) &&& 31)) &&& 1 = if S.testBit v then 1 else 0 := by
  have h := bt_a (S / 64) (by omega) (S % 64) (by omega) v hv
  rw [show 64 * (S / 64) + S % 64 = S by omega] at h
  exact h
theorem bt_or {S v : Nat} (hS : S < 4096) (hv : v < 12) : (nI S) ||| ((1 : Int32) <<< ((nI v) &&& 31)) = nI (S ||| 1 <<< v) := by
  have h := bt_b (S / 64) (by omega) (S % 64) (by omega) v hv
  rw [show 64 * (S / 64) + S % 64 = S by omega] at h
  exact h
theorem bt_1 {S : Nat} (hS : S < 4096) : (nI S) &&& 1 = nI (S % 2) ∧ (nI S) >>> ((1 : Int32) &&& 31) = nI (S / 2) := by
  have h := bt_c (S / 64) (by omega) (S % 64) (by omega)
  rw [show 64 * (S / 64) + S % 64 = S by omega] at h
  exact h
theorem bt_lt {S v n : Nat} (hS : S < 2 ^ n) (hv : v < n) : S ||| 1 <<< v < 2 ^ n := by
  apply Nat.or_lt_two_pow hS
  rw [Nat.one_shiftLeft]
  exact Nat.pow_lt_pow_right (by omega) hv
theorem bt_up {S v : Nat} (h : S.testBit v = false) : S < S ||| 1 <<< v := by
  have h1 : S ≤ S ||| 1 <<< v := Nat.left_le_or
  have h2 : S ≠ S ||| 1 <<< v := by
    intro e
    have h3 : (S ||| 1 <<< v).testBit v = true := by
      rw [Nat.testBit_or, Nat.one_shiftLeft, Nat.testBit_two_pow_self, Bool.or_true]
    rw [← e, h] at h3
    cases h3
  omega
theorem bt_pow {n : Nat} (h : n ≤ 12) : 2 ^ n ≤ 4096 := Nat.pow_le_pow_right (n := 2) (by omega) h
theorem bt_full {n S : Nat} (hS : S < 2 ^ n) (h : ∀ v, v < n → S.testBit v = true) : S = 2 ^ n - 1 := by
  apply Nat.eq_of_testBit_eq
  intro i
  rw [Nat.testBit_two_pow_sub_one]
  by_cases hi : i < n
  · rw [h i hi]; simp [hi]
  · rw [Nat.testBit_lt_two_pow (Nat.lt_of_lt_of_le hS (Nat.pow_le_pow_right (by omega) (by omega)))]
    simp [hi]
theorem bt_hole {n S : Nat} (hS : S < 2 ^ n - 1) : ∃ v, v < n ∧ S.testBit v = false := by
  apply Classical.byContradiction
  intro h
  have h1 := bt_full (n := n) (S := S) (by omega) (fun v hv => by
    cases hb : S.testBit v with
    | true => rfl
    | false => exact absurd ⟨v, hv, hb⟩ h)
  omega
/-- how many bits -/
theorem bt_n {n : Nat} : ∀ S : Nat, pl_n (n + 1) S = (S % 2 : Nat) + pl_n n (S / 2) := by
  intro S
  have key : ∀ k : Nat, pm_S (fun j => if pl_b S j = true then (1 : Int) else 0) (k + 1) = (S % 2 : Nat) + pm_S (fun j => if pl_b (S / 2) j = true then (1 : Int) else 0) k := by
    intro k
    induction k with
    | zero =>
      show (0 : Int) + (if pl_b S (((0 : Nat) : Int) + 1) = true then 1 else 0) = _ + 0
      have e : pl_b S (((0 : Nat) : Int) + 1) = S.testBit 0 := pl_b_v S 0
      rw [e, Nat.testBit_zero]
      by_cases h : S % 2 = 1
      · simp [h]
      · have h2 : S % 2 = 0 := by omega
        simp [h2]
    | succ k ih =>
      show pm_S (fun j => if pl_b S j = true then (1 : Int) else 0) (k + 1) + (if pl_b S (((k + 1 : Nat) : Int) + 1) = true then 1 else 0) = _ + (pm_S (fun j => if pl_b (S / 2) j = true then (1 : Int) else 0) k + (if pl_b (S / 2) ((k : Int) + 1) = true then 1 else 0))
      rw [ih, pl_b_v S (k + 1), pl_b_v (S / 2) k, Nat.testBit_succ]
      omega
  exact key n
theorem bt_bits {n : Nat} : ∀ (k : Nat) (a : Int32) (S : Nat) (M : gq_M) (f : Nat), S < 2 ^ k → k ≤ 12 → 0 ≤ a.toInt → a.toInt + k ≤ 100 → ∃ x : Int32, fl_Mo_bits_4 M (f + (k + 1)) a (nI S) = some x ∧ x.toInt = a.toInt + pl_n k S
  | 0, a, S, M, f, hS, hk, h0, h1 => by
    have e : S = 0 := by omega
    refine ⟨a, ?_, ?_⟩
    · show fl_Mo_bits_4 M (f + 1) a (nI S) = some a
      rw [fl_Mo_bits_4, if_pos (by rw [e]; rfl)]
    · show a.toInt = a.toInt + 0
      omega
  | k + 1, a, S, M, f, hS, hk, h0, h1 => by
    have hp := bt_pow hk
    by_cases e : S = 0
    · refine ⟨a, ?_, ?_⟩
      · show fl_Mo_bits_4 M (f + (k + 1) + 1) a (nI S) = some a
        rw [fl_Mo_bits_4, if_pos (by rw [e]; rfl)]
      · rw [e, pl_n_0]; omega
    · have hb := bt_1 (S := S) (by omega)
      have e2 : (nI (S % 2)).toInt = (S % 2 : Nat) := pa_nI (by omega)
      have ea : (a + nI (S % 2)).toInt = a.toInt + (S % 2 : Nat) := by
        rw [pa_add (by rw [e2]; omega) (by rw [e2]; omega), e2]
      obtain ⟨x, g1, g2⟩ := bt_bits (n := n) k (a + nI (S % 2)) (S / 2) M f (by rw [Nat.pow_succ] at hS; omega) (by omega) (by omega) (by omega)
      refine ⟨x, ?_, ?_⟩
      · show fl_Mo_bits_4 M (f + (k + 1) + 1) a (nI S) = some x
        rw [fl_Mo_bits_4, if_neg (nI_ne0 (by omega) (by omega)), hb.1, hb.2]
        exact g1
      · rw [g2, ea, bt_n]; omega
theorem bt_cnt {n S : Nat} {M : gq_M} (hn : n ≤ 12) (hS : S < 2 ^ n) : ∃ x : Int32, fn_Mo_bits (nI S) M = some x ∧ x.toInt = pl_n n S := by
  obtain ⟨x, g1, g2⟩ := bt_bits (n := n) n 0 S M (4999 - n) hS hn (by decide) (by show (0 : Int) + n ≤ 100; omega)
  refine ⟨x, ?_, by rw [g2]; show (0 : Int) + _ = _; omega⟩
  unfold fn_Mo_bits
  rw [show 5000 = 4999 - n + (n + 1) by omega]
  exact g1
