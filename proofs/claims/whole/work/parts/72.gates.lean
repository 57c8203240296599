/-! gates of equal function -/
def eg_r : Nat → Int32 → Int32 → Int32 → Int32 → Int32 → Option Int32
  | 0, _, _, _, _, _ => none
  | k + 1, v0, v1, v2, v3, v4 => if v1 ≤ v4 then some v3 else eg_r k v0 v1 v2 (v3 ||| (((((v0 >>> (v4 &&& 31)) : Int32) &&& 1) <<< ((((v2 >>> ((4 * v4) &&& 31)) : Int32) &&& 3) &&& 31)) : Int32)) (v4 + 1)
def eg_j : Nat → Int32 → Int32 → Int32 → Int32 → Int32 → Option Int32
  | 0, _, _, _, _, _ => none
  | k + 1, v0, v1, v2, v3, v4 => if v1 ≤ v4 then some v3 else eg_j k v0 v1 v2 (v3 ||| (((((v0 >>> (v4 &&& 31)) : Int32) &&& 1) <<< ((((v2 >>> ((2 * v4) &&& 31)) : Int32) &&& 3) &&& 31)) : Int32)) (v4 + 1)
def eg_o : Nat → Int32 → Int32 → Int32 → Int32 → Option Int32
  | 0, _, _, _, _ => none
  | k + 1, v0, v1, v2, v3 => if v1 ≤ v3 then if v2 = ((((1 : Int32) <<< (v1 &&& 31)) : Int32) - 1) then some 1 else some 0 else eg_o k v0 v1 (v2 ||| (((1 : Int32) <<< ((((v0 >>> ((2 * v3) &&& 31)) : Int32) &&& 3) &&& 31)) : Int32)) (v3 + 1)
theorem eg_ru {x : Int32} (f : Nat) : ∀ (k : Nat) (M : gq_M) (v0 v1 v2 v3 v4 : Int32), eg_r k v0 v1 v2 v3 v4 = some x → fl_Gt_reorderedInputs_5 M (k + f) v0 v1 v2 v3 v4 = some x
  | 0, _, _, _, _, _, _, h => by cases h
  | k + 1, M, v0, v1, v2, v3, v4, h => by
    rw [show k + 1 + f = k + f + 1 by omega, fl_Gt_reorderedInputs_5]
    rw [eg_r] at h
    by_cases c : v1 ≤ v4
    · rw [if_pos c] at h ⊢; exact h
    · rw [if_neg c] at h ⊢; exact eg_ru f k M _ _ _ _ _ h
theorem eg_ou {x : Int32} (f : Nat) : ∀ (k : Nat) (M : gq_M) (v0 v1 v2 v3 : Int32), eg_o k v0 v1 v2 v3 = some x → fl_Mo_isOrder_4 M (k + f) v0 v1 v2 v3 = some x
  | 0, _, _, _, _, _, h => by cases h
  | k + 1, M, v0, v1, v2, v3, h => by
    rw [show k + 1 + f = k + f + 1 by omega, fl_Mo_isOrder_4]
    rw [eg_o] at h
    by_cases c : v1 ≤ v3
    · rw [if_pos c] at h ⊢; exact h
    · rw [if_neg c] at h ⊢; exact eg_ou f k M _ _ _ _ h
theorem eg_ju {x : Int32} {K11 : Int32 → Int32 → Int32 → Int32 → Int32 → Option Int32} (f : Nat) : ∀ (k : Nat) (M : gq_M) (a b v0 v1 v2 v3 v4 : Int32), eg_j k v0 v1 v2 v3 v4 = some x → fl_Mo_isSo_26 M K11 (k + f) a b v2 v1 v0 v3 v4 = if 0 ≤ a.toInt ∧ a.toInt < ((20 : Nat) : Int) then if 0 ≤ b.toInt ∧ b.toInt < ((20 : Nat) : Int) then if (((((gq_i M 12) a.toInt) >>> (v0 &&& 31)) : Int32) &&& 1) = (((((gq_i M 12) b.toInt) >>> (x &&& 31)) : Int32) &&& 1) then K11 a b v2 v1 (v0 + 1) else some 0 else none else none
  | 0, _, _, _, _, _, _, _, _, h => by cases h
  | k + 1, M, a, b, v0, v1, v2, v3, v4, h => by
    rw [show k + 1 + f = k + f + 1 by omega, fl_Mo_isSo_26]
    rw [eg_j] at h
    by_cases c : v1 ≤ v4
    · rw [if_pos c] at h ⊢
      cases h
      rfl
    · rw [if_neg c] at h ⊢; exact eg_ju f k M a b _ _ _ _ _ h
def eg_inv : Nat → List Nat
  | 1 => [0]
  | 2 => [4, 1]
  | 3 => [36, 33, 24, 9, 18, 6]
  | 4 => [228, 225, 216, 201, 210, 198, 180, 177, 120, 57, 114, 54, 156, 141, 108, 45, 78, 30, 147, 135, 99, 39, 75, 27]
  | _ => []
def eg_R (n k i : Nat) : Nat := ((eg_r 6 (nI i) (nI n) (gk_ord.getD k 0) 0 0).getD 0).toInt.toNat
def eg_J (n c i : Nat) : Nat := ((eg_j 6 (nI i) (nI n) (nI c) 0 0).getD 0).toInt.toNat
theorem eg_A1 : ∀ n, n < 5 → 1 ≤ n → gk_cnt.getD n 0 = nI (eg_inv n).length ∧ (eg_inv n).length ≤ 24 := by decide +kernel
theorem eg_A2 : ∀ n, n < 5 → 1 ≤ n → ∀ k, k < (eg_inv n).length → eg_o 6 (nI ((eg_inv n).getD k 0)) (nI n) 0 0 = some 1 ∧ (eg_inv n).getD k 0 < 4 ^ n := by decide +kernel
theorem eg_A3 : ∀ n, n < 5 → 1 ≤ n → ∀ k, k < (eg_inv n).length → ∀ i, i < 2 ^ n → eg_r 6 (nI i) (nI n) (gk_ord.getD k 0) 0 0 = some (nI (eg_R n k i)) ∧ eg_R n k i < 2 ^ n := by decide +kernel
theorem eg_A4 : ∀ n, n < 5 → 1 ≤ n → ∀ k, k < (eg_inv n).length → ∀ i, i < 2 ^ n → eg_j 6 (nI i) (nI n) (nI ((eg_inv n).getD k 0)) 0 0 = some (nI (eg_J n ((eg_inv n).getD k 0) i)) ∧ eg_J n ((eg_inv n).getD k 0) i < 2 ^ n := by decide +kernel
theorem eg_A5 : ∀ n, n < 5 → 1 ≤ n → ∀ k, k < (eg_inv n).length → ∀ i, i < 2 ^ n → eg_J n ((eg_inv n).getD k 0) (eg_R n k i) = i ∧ eg_R n k (eg_J n ((eg_inv n).getD k 0) i) = i := by decide +kernel
theorem eg_A : ∀ n, n < 5 → 1 ≤ n → (gk_cnt.getD n 0 = nI (eg_inv n).length ∧ (eg_inv n).length ≤ 24) ∧ ∀ k, k < (eg_inv n).length → (eg_o 6 (nI ((eg_inv n).getD k 0)) (nI n) 0 0 = some 1 ∧ (eg_inv n).getD k 0 < 4 ^ n) ∧ ∀ i, i < 2 ^ n → (eg_r 6 (nI i) (nI n) (gk_ord.getD k 0) 0 0 = some (nI (eg_R n k i)) ∧ eg_R n k i < 2 ^ n) ∧ (eg_j 6 (nI i) (nI n) (nI ((eg_inv n).getD k 0)) 0 0 = some (nI (eg_J n ((eg_inv n).getD k 0) i)) ∧ eg_J n ((eg_inv n).getD k 0) i < 2 ^ n) ∧ eg_J n ((eg_inv n).getD k 0) (eg_R n k i) = i ∧ eg_R n k (eg_J n ((eg_inv n).getD k 0) i) = i :=
  fun n h1 h2 => ⟨eg_A1 n h1 h2, fun k hk => ⟨eg_A2 n h1 h2 k hk, fun i hi => ⟨eg_A3 n h1 h2 k hk i hi, eg_A4 n h1 h2 k hk i hi, eg_A5 n h1 h2 k hk i hi⟩⟩⟩
theorem eg_B : ∀ n, n < 5 → 1 ≤ n → ∀ c, c < 4 ^ n → eg_o 6 (nI c) (nI n) 0 0 = some 0 ∨ (eg_o 6 (nI c) (nI n) 0 0 = some 1 ∧ (eg_inv n).idxOf c < (eg_inv n).length ∧ (eg_inv n).getD ((eg_inv n).idxOf c) 0 = c) := by decide +kernel
theorem eg_C : ∀ n, n < 5 → 1 ≤ n → ((1 : Int32) <<< ((nI n) &&& 31) = nI (2 ^ n) ∧ (1 : Int32) <<< ((2 * (nI n)) &&& 31) = nI (4 ^ n)) ∧ 2 ^ n ≤ 16 ∧ 4 ^ n ≤ 256 := by decide +kernel
theorem eg_D : ∀ i, i < 16 → (nI i &&& 31) = nI i ∧ (nI i).toBitVec.smod 32 = BitVec.ofNat 32 i ∧ ∀ b, b < 2 → (nI b) <<< (nI i) = nI (b <<< i) := by decide +kernel
theorem eg_or (a b : Nat) : nI a ||| nI b = nI (a ||| b) := by
  apply Int32.toBitVec_inj.mp
  rw [Int32.toBitVec_or]
  show BitVec.ofNat 32 a ||| BitVec.ofNat 32 b = BitVec.ofNat 32 (a ||| b)
  rw [BitVec.ofNat_or]
theorem eg_and (a b : Nat) : nI a &&& nI b = nI (a &&& b) := by
  apply Int32.toBitVec_inj.mp
  rw [Int32.toBitVec_and]
  show BitVec.ofNat 32 a &&& BitVec.ofNat 32 b = BitVec.ofNat 32 (a &&& b)
  rw [BitVec.ofNat_and]
theorem eg_sr {T i : Nat} (hT : T < 2 ^ 31) (hi : i < 16) : (nI T) >>> (nI i &&& 31) = nI (T / 2 ^ i) := by
  obtain ⟨e1, e2, -⟩ := eg_D i hi
  rw [e1]
  apply pa_eq.mpr
  have h1 : ((nI T) >>> (nI i)).toBitVec = (nI T).toBitVec.sshiftRight' ((nI i).toBitVec.smod 32) := Int32.toBitVec_shiftRight ..
  have h2 : ((nI T) >>> (nI i)).toInt = (nI T).toInt >>> i := by
    show ((nI T) >>> (nI i)).toBitVec.toInt = _
    rw [h1, e2]
    show ((nI T).toBitVec.sshiftRight (BitVec.ofNat 32 i).toNat).toInt = _
    rw [BitVec.toInt_sshiftRight, BitVec.toNat_ofNat, Nat.mod_eq_of_lt (by omega)]
    rfl
  have h3 : T / 2 ^ i ≤ T := Nat.div_le_self _ _
  rw [h2, nI_toInt hT, nI_toInt (by omega), Int.shiftRight_eq_div_pow]
  norm_cast
theorem eg_bit {T i : Nat} (hT : T < 2 ^ 31) (hi : i < 16) : ((nI T) >>> (nI i &&& 31)) &&& 1 = nI (T.testBit i).toNat := by
  rw [eg_sr hT hi]
  show nI (T / 2 ^ i) &&& nI 1 = _
  rw [eg_and, Nat.and_one_is_mod, Nat.testBit_eq_decide_div_mod_eq]
  have : T / 2 ^ i % 2 < 2 := Nat.mod_lt _ (by omega)
  by_cases h : T / 2 ^ i % 2 = 1
  · rw [h]; rfl
  · rw [show T / 2 ^ i % 2 = 0 by omega]; rfl
theorem eg_inj {a b : Nat} (ha : a < 2 ^ 31) (hb : b < 2 ^ 31) (h : nI a = nI b) : a = b := by
  have := congrArg Int32.toInt h
  rw [nI_toInt ha, nI_toInt hb] at this
  omega
theorem eg_b2 {x y : Bool} (h : nI x.toNat = nI y.toNat) : x = y := by
  have := eg_inj (a := x.toNat) (b := y.toNat) (by cases x <;> decide) (by cases y <;> decide) h
  cases x <;> cases y <;> first | rfl | (exact absurd this (by decide))
/-- what the class's reordered gives -/
theorem eg_rd {M : gq_M} {n k T : Nat} (hn : n < 5) (h1 : 1 ≤ n) (hk : k < (eg_inv n).length) (hT : T < 2 ^ 16) : ∀ (j c X : Nat) (f : Nat), c + j = 2 ^ n → X < 2 ^ c → (∀ i, i < c → X.testBit i = T.testBit (eg_R n k i)) → ∃ Y : Nat, fl_Gt_reordered_5 M (f + (j + 1)) (nI T) (nI n) (gk_ord.getD k 0) (nI X) (nI c) = some (nI Y) ∧ Y < 2 ^ (2 ^ n) ∧ ∀ i, i < 2 ^ n → Y.testBit i = T.testBit (eg_R n k i)
  | 0, c, X, f, hc, hX, hb => by
    obtain ⟨⟨c1, -⟩, c3, -⟩ := eg_C n hn h1
    have e : c = 2 ^ n := by omega
    refine ⟨X, ?_, by rw [← e]; exact hX, fun i hi => hb i (by omega)⟩
    show fl_Gt_reordered_5 M (f + 1) _ _ _ _ _ = _
    rw [fl_Gt_reordered_5, c1, if_pos (by rw [e]; exact Int32.le_refl _)]
  | j + 1, c, X, f, hc, hX, hb => by
    obtain ⟨⟨c1, -⟩, c3, -⟩ := eg_C n hn h1
    have hc16 : c < 16 := by omega
    obtain ⟨⟨g1, g2⟩, -⟩ := (eg_A n hn h1).2 k hk |>.2 c (by omega)
    have hru : fn_Gt_reorderedInputs (nI c) (nI n) (gk_ord.getD k 0) M = some (nI (eg_R n k c)) := by
      unfold fn_Gt_reorderedInputs
      exact eg_ru 4994 6 M _ _ _ _ _ g1
    obtain ⟨d1, -, d3⟩ := eg_D c hc16
    have hbt := eg_bit (T := T) (i := eg_R n k c) (by omega) (by omega)
    have hb2 : (T.testBit (eg_R n k c)).toNat < 2 := by cases T.testBit (eg_R n k c) <;> decide
    have hX16 : X < 2 ^ 16 := Nat.lt_of_lt_of_le hX (Nat.pow_le_pow_right (by omega) (by omega))
    have hX2 : X ||| (T.testBit (eg_R n k c)).toNat <<< c < 2 ^ (c + 1) := by
      apply Nat.or_lt_two_pow
      · exact Nat.lt_of_lt_of_le hX (Nat.pow_le_pow_right (by omega) (by omega))
      · rw [Nat.shiftLeft_eq, Nat.pow_succ, Nat.mul_comm]
        exact (Nat.mul_lt_mul_left (Nat.two_pow_pos c)).mpr hb2
    have hX3 : ∀ i, i < c + 1 → (X ||| (T.testBit (eg_R n k c)).toNat <<< c).testBit i = T.testBit (eg_R n k i) := by
      intro i hi
      rw [Nat.testBit_or, Nat.testBit_shiftLeft]
      by_cases e : i = c
      · subst e
        rw [Nat.testBit_lt_two_pow hX]
        cases hh : T.testBit (eg_R n k i) <;> simp
      · rw [hb i (by omega)]
        have : ¬ c ≤ i := by omega
        simp [this]
    obtain ⟨Y, y1, y2, y3⟩ := eg_rd (M := M) hn h1 hk hT j (c + 1) _ f (by omega) hX2 hX3
    refine ⟨Y, ?_, y2, y3⟩
    show fl_Gt_reordered_5 M (f + (j + 1) + 1) _ _ _ _ _ = _
    rw [fl_Gt_reordered_5, c1, if_neg (nI_ge (by omega) (by omega)), hru, Option.bind_some, hbt, d1, d3 _ hb2, eg_or, ← nI_succ]
    exact y1
def eg_P (n Ta Tb k : Nat) : Prop := ∀ i, i < 2 ^ n → Ta.testBit (eg_R n k i) = Tb.testBit i
def eg_Q (n Ta Tb c : Nat) : Prop := ∀ i, i < 2 ^ n → Ta.testBit i = Tb.testBit (eg_J n c i)
theorem eg_PQ {n Ta Tb k : Nat} (hn : n < 5) (h1 : 1 ≤ n) (hk : k < (eg_inv n).length) : eg_P n Ta Tb k ↔ eg_Q n Ta Tb ((eg_inv n).getD k 0) := by
  have hA := (eg_A n hn h1).2 k hk |>.2
  constructor
  · intro h i hi
    obtain ⟨-, ⟨-, a2⟩, -, a4⟩ := hA i hi
    have := h _ a2
    rw [a4] at this
    exact this
  · intro h i hi
    obtain ⟨⟨-, a2⟩, -, a3, -⟩ := hA i hi
    have := h _ a2
    rw [a3] at this
    exact this
theorem eg_eq {m X Y : Nat} (hX : X < 2 ^ m) (hY : Y < 2 ^ m) (h : ∀ i, i < m → X.testBit i = Y.testBit i) : X = Y := by
  apply Nat.eq_of_testBit_eq
  intro i
  by_cases hi : i < m
  · exact h i hi
  · have hp : 2 ^ m ≤ 2 ^ i := Nat.pow_le_pow_right (by omega) (by omega)
    rw [Nat.testBit_lt_two_pow (by omega), Nat.testBit_lt_two_pow (by omega)]
/-- the class's search -/
theorem eg_cl {M : gq_M} {n Ta Tb : Nat} {a b : Int32} (hn : n < 5) (h1 : 1 ≤ n) (ha : 0 ≤ a.toInt ∧ a.toInt < ((20 : Nat) : Int)) (hb : 0 ≤ b.toInt ∧ b.toInt < ((20 : Nat) : Int)) (hna : gq_i M 16 a.toInt = nI n) (hta : gq_i M 17 a.toInt = nI Ta) (htb : gq_i M 17 b.toInt = nI Tb) (hTa : Ta < 2 ^ (2 ^ n)) (hTb : Tb < 2 ^ (2 ^ n)) : ∀ (j c : Nat) (f : Nat), c + j = (eg_inv n).length → ∃ y : Int32, fl_Gt_areEqual_19 M (f + (j + 1)) a b (nI c) = some y ∧ ((y = 1 ∧ ∃ k, c ≤ k ∧ k < (eg_inv n).length ∧ eg_P n Ta Tb k) ∨ (y = 0 ∧ ∀ k, c ≤ k → k < (eg_inv n).length → ¬ eg_P n Ta Tb k))
  | 0, c, f, hc => by
    obtain ⟨⟨a1, a2⟩, -⟩ := eg_A n hn h1
    have hnI : (nI n).toInt = n := nI_toInt (by omega)
    refine ⟨0, ?_, Or.inr ⟨rfl, fun k h2 h3 => absurd h3 (by omega)⟩⟩
    show fl_Gt_areEqual_19 M (f + 1) a b (nI c) = _
    rw [fl_Gt_areEqual_19, if_pos ha, hna, hnI, if_pos (by omega), Int.toNat_natCast, a1, if_pos (nI_le (by omega) (by omega))]
  | j + 1, c, f, hc => by
    obtain ⟨⟨a1, a2⟩, -⟩ := eg_A n hn h1
    obtain ⟨-, c3, -⟩ := eg_C n hn h1
    have hnI : (nI n).toInt = n := nI_toInt (by omega)
    have hcI : (nI c).toInt = c := nI_toInt (by omega)
    have hp : 2 ^ (2 ^ n) ≤ 2 ^ 16 := Nat.pow_le_pow_right (by omega) c3
    obtain ⟨Y, y1, y2, y3⟩ := eg_rd (M := M) (n := n) (k := c) (T := Ta) hn h1 (by omega) (by omega) (2 ^ n) 0 0 (4999 - 2 ^ n) (by omega) (by decide) (fun i hi => absurd hi (by omega))
    have hre : fn_Gt_reordered (nI Ta) (nI n) (gk_ord.getD c 0) M = some (nI Y) := by
      unfold fn_Gt_reordered
      rw [show 5000 = 4999 - 2 ^ n + (2 ^ n + 1) by omega]
      exact y1
    have step : fl_Gt_areEqual_19 M (f + (j + 1 + 1)) a b (nI c) = if nI Y = nI Tb then some 1 else fl_Gt_areEqual_19 M (f + (j + 1)) a b (nI (c + 1)) := by
      show fl_Gt_areEqual_19 M (f + (j + 1) + 1) a b (nI c) = _
      rw [fl_Gt_areEqual_19, if_pos ha, hna, hnI, if_pos (by omega), Int.toNat_natCast, a1, if_neg (nI_ge (by omega) (by omega)), hcI, if_pos (by omega), Int.toNat_natCast, hta, hre, Option.bind_some, if_pos hb, htb, nI_succ]
    have hiff : nI Y = nI Tb ↔ eg_P n Ta Tb c := by
      constructor
      · intro h i hi
        rw [← y3 i hi, eg_inj (by omega) (by omega) h]
      · intro h
        rw [eg_eq y2 hTb (fun i hi => (y3 i hi).trans (h i hi))]
    rw [step]
    by_cases e : nI Y = nI Tb
    · exact ⟨1, by rw [if_pos e], Or.inl ⟨rfl, c, Nat.le_refl _, by omega, hiff.mp e⟩⟩
    · obtain ⟨y, z1, z2⟩ := eg_cl hn h1 ha hb hna hta htb hTa hTb j (c + 1) f (by omega)
      refine ⟨y, by rw [if_neg e]; exact z1, ?_⟩
      rcases z2 with ⟨q1, k, q2, q3, q4⟩ | ⟨q1, q2⟩
      · exact Or.inl ⟨q1, k, by omega, q3, q4⟩
      · refine Or.inr ⟨q1, fun k k1 k2 => ?_⟩
        by_cases e2 : k = c
        · rw [e2]; exact fun z => e (hiff.mpr z)
        · exact q2 k (by omega) k2
/-- the model's isSo -/
theorem eg_so {W : gq_M} {n Ta Tb k : Nat} {a b : Int32} (hn : n < 5) (h1 : 1 ≤ n) (hk : k < (eg_inv n).length) (ha : 0 ≤ a.toInt ∧ a.toInt < ((20 : Nat) : Int)) (hb : 0 ≤ b.toInt ∧ b.toInt < ((20 : Nat) : Int)) (hta : gq_i W 12 a.toInt = nI Ta) (htb : gq_i W 12 b.toInt = nI Tb) (hTa : Ta < 2 ^ 16) (hTb : Tb < 2 ^ 16) : ∀ (j c : Nat) (f : Nat), c + j = 2 ^ n → ∃ y : Int32, fl_Mo_isSo_11 W (f + (j + 1)) a b (nI ((eg_inv n).getD k 0)) (nI n) (nI c) = some y ∧ ((y = 1 ∧ ∀ i, c ≤ i → i < 2 ^ n → Ta.testBit i = Tb.testBit (eg_J n ((eg_inv n).getD k 0) i)) ∨ (y = 0 ∧ ∃ i, i < 2 ^ n ∧ Ta.testBit i ≠ Tb.testBit (eg_J n ((eg_inv n).getD k 0) i)))
  | 0, c, f, hc => by
    obtain ⟨⟨c1, -⟩, c3, -⟩ := eg_C n hn h1
    refine ⟨1, ?_, Or.inl ⟨rfl, fun i i1 i2 => absurd i2 (by omega)⟩⟩
    show fl_Mo_isSo_11 W (f + 1) _ _ _ _ _ = _
    rw [fl_Mo_isSo_11, c1, if_pos (nI_le (by omega) (by omega))]
  | j + 1, c, f, hc => by
    obtain ⟨⟨c1, -⟩, c3, -⟩ := eg_C n hn h1
    obtain ⟨-, ⟨g1, g2⟩, -⟩ := (eg_A n hn h1).2 k hk |>.2 c (by omega)
    have hj := eg_ju (K11 := fl_Mo_isSo_11 W (f + (j + 1))) 4994 6 W a b (nI c) (nI n) (nI ((eg_inv n).getD k 0)) 0 0 g1
    have step : fl_Mo_isSo_11 W (f + (j + 1 + 1)) a b (nI ((eg_inv n).getD k 0)) (nI n) (nI c) = if nI (Ta.testBit c).toNat = nI (Tb.testBit (eg_J n ((eg_inv n).getD k 0) c)).toNat then fl_Mo_isSo_11 W (f + (j + 1)) a b (nI ((eg_inv n).getD k 0)) (nI n) (nI (c + 1)) else some 0 := by
      show fl_Mo_isSo_11 W (f + (j + 1) + 1) a b _ _ _ = _
      rw [fl_Mo_isSo_11, c1, if_neg (nI_ge (by omega) (by omega)), show 5000 = 6 + 4994 from rfl, hj, if_pos ha, if_pos hb, hta, htb, eg_bit (by omega) (by omega), eg_bit (by omega) (by omega), nI_succ]
    rw [step]
    by_cases e : Ta.testBit c = Tb.testBit (eg_J n ((eg_inv n).getD k 0) c)
    · obtain ⟨y, z1, z2⟩ := eg_so hn h1 hk ha hb hta htb hTa hTb j (c + 1) f (by omega)
      refine ⟨y, by rw [if_pos (by rw [e])]; exact z1, ?_⟩
      rcases z2 with ⟨q1, q2⟩ | ⟨q1, q2⟩
      · refine Or.inl ⟨q1, fun i i1 i2 => ?_⟩
        by_cases e2 : i = c
        · rw [e2]; exact e
        · exact q2 i (by omega) i2
      · exact Or.inr ⟨q1, q2⟩
    · exact ⟨0, by rw [if_neg (fun z => e (eg_b2 z))], Or.inr ⟨rfl, c, by omega, e⟩⟩
/-- the model's search, once it has found -/
theorem eg_m1 {W : gq_M} {n : Nat} {a b : Int32} (hn : n < 5) (h1 : 1 ≤ n) (ha : 0 ≤ a.toInt ∧ a.toInt < ((20 : Nat) : Int)) (hna : gq_i W 11 a.toInt = nI n) : ∀ (j c : Nat) (f : Nat), c + j = 4 ^ n → fl_Mo_equalGate_73 (f + (j + 1)) a b 1 (nI c) W = some (1, W)
  | 0, c, f, hc => by
    obtain ⟨⟨-, c2⟩, -, c4⟩ := eg_C n hn h1
    show fl_Mo_equalGate_73 (f + 1) a b 1 (nI c) W = _
    rw [fl_Mo_equalGate_73, if_pos ha, hna, c2, if_pos (nI_le (by omega) (by omega)), if_pos (py_nar (Or.inr rfl))]
  | j + 1, c, f, hc => by
    obtain ⟨⟨-, c2⟩, -, c4⟩ := eg_C n hn h1
    show fl_Mo_equalGate_73 (f + (j + 1) + 1) a b 1 (nI c) W = _
    rw [fl_Mo_equalGate_73, if_pos ha, hna, c2, if_neg (nI_ge (by omega) (by omega)), if_neg (by decide), ← nI_succ]
    exact eg_m1 hn h1 ha hna j (c + 1) f (by omega)
theorem eg_mo {W : gq_M} {n Ta Tb : Nat} {a b : Int32} (hn : n < 5) (h1 : 1 ≤ n) (ha : 0 ≤ a.toInt ∧ a.toInt < ((20 : Nat) : Int)) (hb : 0 ≤ b.toInt ∧ b.toInt < ((20 : Nat) : Int)) (hna : gq_i W 11 a.toInt = nI n) (hta : gq_i W 12 a.toInt = nI Ta) (htb : gq_i W 12 b.toInt = nI Tb) (hTa : Ta < 2 ^ 16) (hTb : Tb < 2 ^ 16) : ∀ (j c : Nat) (f : Nat), c + j = 4 ^ n → ∃ y : Int32, fl_Mo_equalGate_73 (f + (j + 1)) a b 0 (nI c) W = some (y, W) ∧ ((y = 1 ∧ ∃ k, k < (eg_inv n).length ∧ eg_P n Ta Tb k) ∨ (y = 0 ∧ ∀ k, k < (eg_inv n).length → c ≤ (eg_inv n).getD k 0 → ¬ eg_P n Ta Tb k))
  | 0, c, f, hc => by
    obtain ⟨⟨-, c2⟩, -, c4⟩ := eg_C n hn h1
    refine ⟨0, ?_, Or.inr ⟨rfl, fun k hk h2 => ?_⟩⟩
    · show fl_Mo_equalGate_73 (f + 1) a b 0 (nI c) W = _
      rw [fl_Mo_equalGate_73, if_pos ha, hna, c2, if_pos (nI_le (by omega) (by omega)), if_pos (py_nar (Or.inl rfl))]
    · have := ((eg_A n hn h1).2 k hk).1.2
      omega
  | j + 1, c, f, hc => by
    obtain ⟨⟨c1, c2⟩, c3, c4⟩ := eg_C n hn h1
    obtain ⟨y, z1, z2⟩ := eg_mo hn h1 ha hb hna hta htb hTa hTb j (c + 1) f (by omega)
    have step : fl_Mo_equalGate_73 (f + (j + 1 + 1)) a b 0 (nI c) W = (fn_Mo_isOrder (nI c) (nI n) W).bind fun q22 => if q22 = 0 then fl_Mo_equalGate_73 (f + (j + 1)) a b 0 (nI (c + 1)) W else (fn_Mo_isSo a b (nI c) W).bind fun q25 => if q25 = 0 then fl_Mo_equalGate_73 (f + (j + 1)) a b 0 (nI (c + 1)) W else fl_Mo_equalGate_73 (f + (j + 1)) a b 1 (nI (c + 1)) W := by
      show fl_Mo_equalGate_73 (f + (j + 1) + 1) a b 0 (nI c) W = _
      rw [fl_Mo_equalGate_73, if_pos ha, hna, c2, if_neg (nI_ge (by omega) (by omega)), if_pos rfl, ← nI_succ]
    rw [step]
    have n1 : ¬ ((1 : Int32) = 0) := by decide
    rcases eg_B n hn h1 c (by omega) with g | ⟨g, g2, g3⟩
    · have ho : fn_Mo_isOrder (nI c) (nI n) W = some 0 := by
        unfold fn_Mo_isOrder
        exact eg_ou 4994 6 W _ _ _ _ g
      refine ⟨y, by rw [ho, Option.bind_some, if_pos rfl]; exact z1, ?_⟩
      rcases z2 with q | ⟨q1, q2⟩
      · exact Or.inl q
      · refine Or.inr ⟨q1, fun k hk h2 => ?_⟩
        have hne : (eg_inv n).getD k 0 ≠ c := fun z => by
          have := ((eg_A n hn h1).2 k hk).1.1
          rw [z, g] at this
          exact absurd this (by decide)
        exact q2 k hk (by omega)
    · have ho : fn_Mo_isOrder (nI c) (nI n) W = some 1 := by
        unfold fn_Mo_isOrder
        exact eg_ou 4994 6 W _ _ _ _ g
      obtain ⟨w, w1, w2⟩ := eg_so hn h1 g2 ha hb hta htb hTa hTb (2 ^ n) 0 (4999 - 2 ^ n) (by omega)
      rw [g3] at w1 w2
      have hso : fn_Mo_isSo a b (nI c) W = some w := by
        unfold fn_Mo_isSo
        rw [if_pos ha, hna, show 5000 = 4999 - 2 ^ n + (2 ^ n + 1) by omega]
        exact w1
      rw [ho, Option.bind_some, if_neg n1, hso, Option.bind_some]
      rcases w2 with ⟨rfl, w3⟩ | ⟨rfl, i, i1, i2⟩
      · refine ⟨1, ?_, Or.inl ⟨rfl, _, g2, (eg_PQ hn h1 g2).mpr (by rw [g3]; exact fun i hi => w3 i (by omega) hi)⟩⟩
        rw [if_neg n1]
        exact eg_m1 hn h1 ha hna j (c + 1) f (by omega)
      · refine ⟨y, by rw [if_pos rfl]; exact z1, ?_⟩
        rcases z2 with q | ⟨q1, q2⟩
        · exact Or.inl q
        · refine Or.inr ⟨q1, fun k hk h2 => ?_⟩
          by_cases e : (eg_inv n).getD k 0 = c
          · intro z
            have := (eg_PQ hn h1 hk).mp z
            rw [e] at this
            exact i2 (this i i1)
          · exact q2 k hk (by omega)
theorem op_equalGate {M W : gq_M} (hR : rl_R M W) (a b : Int32) : rt_P M (fn_PS_equalGate a b M) (fn_Mo_equalGate a b W) rt_k := by
  obtain ⟨⟨hC, hS, hZ, hT, hG, ⟨⟨Q1, Q2, Q3⟩, Q4⟩⟩, hN, hH, hJ, hcm⟩ := id hR
  have e0 : (0 : Int32).toInt = 0 := rfl
  have bad : ∀ F : Option (Nat ⊕ Int32), F = some (.inl 1) → ∀ G, G = some (0, gs_f W 0 1) → rt_P M F G rt_k := fun F hF G hG => ⟨0, gs_f W 0 1, hG, Or.inl ⟨1, hF, Or.inl rfl, rfl, rl_0 hR 1⟩⟩
  unfold fn_PS_equalGate fn_Mo_equalGate
  rw [Q1]
  by_cases c1 : a < 0
  · exact bad _ (by rw [if_pos c1]) _ (by rw [if_pos c1])
  by_cases c2 : gq_f M 5 ≤ a
  · exact bad _ (by rw [if_neg c1, if_pos c2]) _ (by rw [if_neg c1, if_pos c2])
  by_cases c3 : b < 0
  · exact bad _ (by rw [if_neg c1, if_neg c2, if_pos c3]) _ (by rw [if_neg c1, if_neg c2, if_pos c3])
  by_cases c4 : b < gq_f M 5
  · have c4' : ¬ gq_f M 5 ≤ b := by rw [pa_le]; rw [pa_lt] at c4; omega
    rw [pa_lt, e0] at c1 c3
    rw [pa_le] at c2
    rw [pa_lt] at c4
    have ha : 0 ≤ a.toInt ∧ a.toInt < ((20 : Nat) : Int) := by omega
    have hb : 0 ≤ b.toInt ∧ b.toInt < ((20 : Nat) : Int) := by omega
    obtain ⟨a1, a2, a3, a4, a5, a6⟩ := Q4 a.toInt (by omega) (by omega)
    obtain ⟨b1, b2, b3, b4, b5, b6⟩ := Q4 b.toInt (by omega) (by omega)
    have c1' : ¬ a < 0 := by rw [pa_lt, e0]; omega
    have c2' : ¬ gq_f M 5 ≤ a := by rw [pa_le]; omega
    have c3' : ¬ b < 0 := by rw [pa_lt, e0]; omega
    have c5 : b < gq_f M 5 := by rw [pa_lt]; exact c4
    rw [if_neg c1', if_neg c2', if_neg c3', if_pos c5, if_neg c1', if_neg c2', if_neg c3', if_neg c4', if_pos ha, if_pos hb, a1, b1]
    unfold fn_Gt_areEqual
    rw [if_pos ha, if_pos hb]
    have good : ∀ y : Int32, (y = 0 ∨ y = 1) → ∀ F : Option Int32, F = some y → ∀ G, G = some (y, gs_f W 0 0) → rt_P M (gb_r (F.bind fun q5 => if vp_nar .boolean q5 = q5 then some q5 else none)) G rt_k := fun y hy F hF G hG => ⟨y, gs_f W 0 0, hG, Or.inr ⟨by
      rw [hF, Option.bind_some, if_pos (py_nar (by rcases hy with rfl | rfl; exact Or.inl rfl; exact Or.inr rfl))]
      rfl, rfl, rl_0 hR 0⟩⟩
    by_cases c6 : gq_i M 16 a.toInt = gq_i M 16 b.toInt
    · rw [if_pos c6, if_pos c6]
      have hn : (gq_i M 16 a.toInt).toInt.toNat < 5 := by omega
      have h1 : 1 ≤ (gq_i M 16 a.toInt).toInt.toNat := by omega
      have ena : gq_i M 16 a.toInt = nI (gq_i M 16 a.toInt).toInt.toNat := (nz_of (by omega)).symm
      have eta : gq_i M 17 a.toInt = nI (gq_i M 17 a.toInt).toInt.toNat := (nz_of a5).symm
      have etb : gq_i M 17 b.toInt = nI (gq_i M 17 b.toInt).toInt.toNat := (nz_of b5).symm
      rw [← c6] at b6
      generalize hnn : (gq_i M 16 a.toInt).toInt.toNat = n at hn h1 ena a6 b6
      generalize hTT : (gq_i M 17 a.toInt).toInt.toNat = Ta at eta
      generalize hUU : (gq_i M 17 b.toInt).toInt.toNat = Tb at etb
      have hTa : Ta < 2 ^ (2 ^ n) := by
        have h2 : ((Ta : Nat) : Int) < ((2 ^ (2 ^ n) : Nat) : Int) := by push_cast; omega
        exact_mod_cast h2
      have hTb : Tb < 2 ^ (2 ^ n) := by
        have h2 : ((Tb : Nat) : Int) < ((2 ^ (2 ^ n) : Nat) : Int) := by push_cast; omega
        exact_mod_cast h2
      obtain ⟨⟨q1, q2⟩, q3, q4⟩ := eg_C n hn h1
      have hp : 2 ^ (2 ^ n) ≤ 2 ^ 16 := Nat.pow_le_pow_right (by omega) q3
      obtain ⟨⟨-, l24⟩, -⟩ := eg_A n hn h1
      obtain ⟨y, y1, y2⟩ := eg_cl (M := M) hn h1 ha hb ena eta etb hTa hTb (eg_inv n).length 0 (4999 - (eg_inv n).length) (by omega)
      obtain ⟨z, z1, z2⟩ := eg_mo (W := gs_f W 0 0) hn h1 ha hb (a1.trans ena) (a2.trans eta) (b2.trans etb) (by omega) (by omega) (4 ^ n) 0 (4999 - 4 ^ n) (by omega)
      have ezy : z = y := by
        rcases y2 with ⟨k1, k, -, k2, k3⟩ | ⟨k1, k2⟩ <;> rcases z2 with ⟨l1, l, l2, l3⟩ | ⟨l1, l2⟩
        · rw [k1, l1]
        · exact absurd k3 (l2 k k2 (by omega))
        · exact absurd l3 (k2 l (by omega) l2)
        · rw [k1, l1]
      refine good y (by rcases y2 with ⟨k1, -⟩ | ⟨k1, -⟩; exact Or.inr k1; exact Or.inl k1) _ ?_ _ ?_
      · rw [show 5000 = 4999 - (eg_inv n).length + ((eg_inv n).length + 1) by omega]; exact y1
      · rw [show 5000 = 4999 - 4 ^ n + (4 ^ n + 1) by omega, ← ezy]; exact z1
    · rw [if_neg c6, if_neg c6]
      exact good 0 (Or.inl rfl) _ rfl _ rfl
  · have c4' : gq_f M 5 ≤ b := by rw [pa_le]; rw [pa_lt] at c4; omega
    exact bad _ (by rw [if_neg c1, if_neg c2, if_neg c3, if_neg c4]) _ (by rw [if_neg c1, if_neg c2, if_neg c3, if_pos c4'])
