/-! THE MODEL'S TABLE IS pl_F -/
abbrev dp_V : Int := 1000000000000000
abbrev dp_m (W : gq_M) : Int → Int → Int := fun i j => (gq_l W 4 (12 * (i - 1) + (j - 1))).toInt
def dp_k (n S : Nat) : Nat := ((n : Int) - pl_n n S).toNat
def dp_n (n : Nat) (W : gq_M) : Prop := (gq_f W 5).toInt = n ∧ n ≤ 12
def dp_c (n : Nat) (m : Int → Int → Int) : Prop := ∀ i j : Int, 1 ≤ i → i ≤ n → 1 ≤ j → j ≤ n → 0 ≤ m i j ∧ m i j ≤ dp_V
def dp_T (n : Nat) (m : Int → Int → Int) (s0 : Nat) (W : gq_M) : Prop := ∀ S : Nat, s0 ≤ S → S < 2 ^ n → (gq_l W 5 (S : Int)).toInt = pl_F n m dp_V (dp_k n S) S
theorem dp_pop {n : Nat} (S : Nat) : 0 ≤ pl_n n S ∧ pl_n n S ≤ n := by
  constructor
  · exact pm_S_nonneg (fun i a b => by
      by_cases h : pl_b S i = true
      · rw [if_pos h]; omega
      · rw [if_neg h]; omega)
  · have := pm_S_bound (f := fun j => if pl_b S j = true then (1 : Int) else 0) (B := 1) (n := n) (fun i a b => by
      by_cases h : pl_b S i = true
      · rw [if_pos h]; omega
      · rw [if_neg h]; omega)
    unfold pl_n
    omega
theorem dp_b {n : Nat} {m : Int → Int → Int} {NV : Int} (h0 : 0 ≤ NV) (hc : ∀ i j : Int, 1 ≤ i → i ≤ n → 1 ≤ j → j ≤ n → 0 ≤ m i j) : ∀ (k S : Nat), k ≤ n → 0 ≤ pl_F n m NV k S ∧ pl_F n m NV k S ≤ NV
  | 0, S, _ => by
    show (0 : Int) ≤ 0 ∧ (0 : Int) ≤ NV
    omega
  | k + 1, S, hk => by
    constructor
    · exact pl_m_ge h0 (fun v hv _ => by
        have h1 := hc ((n : Int) - k) ((v : Int) + 1) (by omega) (by omega) (by omega) (by omega)
        have h2 := (dp_b h0 hc k (S ||| 1 <<< v) (by omega)).1
        omega)
    · exact pl_m_top _ _ _ _
theorem dp_mc {P : Nat → Bool} {w w2 : Nat → Int} {NV : Int} : ∀ {n : Nat}, (∀ v, v < n → P v = false → w v = w2 v) → pl_m P w NV n = pl_m P w2 NV n
  | 0, _ => rfl
  | n + 1, h => by
    have ih := dp_mc (NV := NV) (n := n) (fun v hv => h v (by omega))
    show (if P n = true then _ else _) = (if P n = true then _ else _)
    cases hP : P n with
    | true => rw [if_pos rfl, if_pos rfl]; exact ih
    | false => rw [if_neg (show ¬ (false = true) by decide), if_neg (show ¬ (false = true) by decide), ih, h n (by omega) hP]
theorem dp_12 {a b : Int32} {x y : Int} (ha : a.toInt = x) (hb : b.toInt = y) (hx : 0 ≤ x ∧ x ≤ 12) (hy : 0 ≤ y ∧ y ≤ 12) : ((12 * a) + b).toInt = 12 * x + y := by
  have e : (12 : Int32).toInt = 12 := rfl
  have h1 : (12 * a).toInt = 12 * x := by
    rw [pa_mul (by rw [e, ha]; omega) (by rw [e, ha]; omega), e, ha]
  rw [pa_add (by rw [h1, hb]; omega) (by rw [h1, hb]; omega), h1, hb]
theorem dp_in {n S : Nat} {m : Int → Int → Int} {u : Int32} {K : Int32 → gq_M → Option gq_M} {W : gq_M} (hn : dp_n n W) (hc : dp_c n m) (hm : ∀ i j : Int, 1 ≤ i → i ≤ n → 1 ≤ j → j ≤ n → dp_m W i j = m i j) (hT : dp_T n m (S + 1) W) (hS : S < 2 ^ n - 1) (hu : u.toInt = pl_n n S) (hun : pl_n n S < n) : ∀ (k : Nat) (b : Int64) (v : Int32) (f : Nat), v.toInt + k = n → 0 ≤ v.toInt → b.toInt = pl_m (fun v => S.testBit v) (fun v => m (pl_n n S + 1) ((v : Int) + 1) + pl_F n m dp_V (dp_k n (S ||| 1 <<< v)) (S ||| 1 <<< v)) dp_V v.toInt.toNat →
    ∃ b2 : Int64, fl_Mo_reckon_225 K (f + (k + 1)) (nI S) u b v W = K (nI S + (-1)) (gs_l W 5 (gz_ul (gq_l W 5) (S : Int) b2)) ∧ b2.toInt = pl_m (fun v => S.testBit v) (fun v => m (pl_n n S + 1) ((v : Int) + 1) + pl_F n m dp_V (dp_k n (S ||| 1 <<< v)) (S ||| 1 <<< v)) dp_V n
  | 0, b, v, f, hk, h0, hb => by
    have hp := bt_pow hn.2
    have eS : (nI S).toInt = (S : Int) := pa_nI (by omega)
    refine ⟨b, ?_, ?_⟩
    · show fl_Mo_reckon_225 K (f + 1) (nI S) u b v W = _
      rw [fl_Mo_reckon_225, if_pos (by rw [pa_le, hn.1]; omega), if_pos (by rw [eS]; omega), eS]
    · rw [hb, show v.toInt.toNat = n by omega]
  | k + 1, b, v, f, hk, h0, hb => by
    have h12 := hn.2
    have hp := bt_pow hn.2
    have hpop := dp_pop (n := n) S
    have eS : (nI S).toInt = (S : Int) := pa_nI (by omega)
    have e1 : (v + 1).toInt = v.toInt + 1 := pa_1 (by omega)
    have ev : v = nI v.toInt.toNat := pa_eq.mpr (by rw [pa_nI (by omega)]; omega)
    have hz : ¬ gq_f W 5 ≤ v := by rw [pa_le, hn.1]; omega
    have hvn : v.toInt.toNat < n := by omega
    have hsh : ((nI S) >>> (v &&& 31)) &&& 1 = if S.testBit v.toInt.toNat then 1 else 0 := by
      have h := bt_sh (S := S) (v := v.toInt.toNat) (by omega) (by omega)
      rw [← ev] at h
      exact h
    have hstep : pl_m (fun v => S.testBit v) (fun v => m (pl_n n S + 1) ((v : Int) + 1) + pl_F n m dp_V (dp_k n (S ||| 1 <<< v)) (S ||| 1 <<< v)) dp_V (v + 1).toInt.toNat = (if S.testBit v.toInt.toNat = true then b.toInt else if m (pl_n n S + 1) ((v.toInt.toNat : Int) + 1) + pl_F n m dp_V (dp_k n (S ||| 1 <<< v.toInt.toNat)) (S ||| 1 <<< v.toInt.toNat) < b.toInt then m (pl_n n S + 1) ((v.toInt.toNat : Int) + 1) + pl_F n m dp_V (dp_k n (S ||| 1 <<< v.toInt.toNat)) (S ||| 1 <<< v.toInt.toNat) else b.toInt) := by
      rw [show (v + 1).toInt.toNat = v.toInt.toNat + 1 by omega, hb]
      rfl
    cases hbit : S.testBit v.toInt.toNat with
    | true =>
      obtain ⟨b2, g1, g2⟩ := dp_in (K := K) hn hc hm hT hS hu hun k b (v + 1) f (by omega) (by omega) (by rw [hstep, hbit, if_pos rfl])
      refine ⟨b2, ?_, g2⟩
      show fl_Mo_reckon_225 K (f + (k + 1) + 1) (nI S) u b v W = _
      rw [fl_Mo_reckon_225, if_neg hz, if_pos (by rw [hsh, hbit]; rfl)]
      exact g1
    | false =>
      have hor : (nI S) ||| ((1 : Int32) <<< (v &&& 31)) = nI (S ||| 1 <<< v.toInt.toNat) := by
        have h := bt_or (S := S) (v := v.toInt.toNat) (by omega) (by omega)
        rw [← ev] at h
        exact h
      have hlt := bt_lt (S := S) (v := v.toInt.toNat) (n := n) (by omega) hvn
      have hup := bt_up hbit
      have eO : (nI (S ||| 1 <<< v.toInt.toNat)).toInt = ((S ||| 1 <<< v.toInt.toNat : Nat) : Int) := pa_nI (by omega)
      have ei : ((12 * u) + v).toInt = 12 * (pl_n n S) + v.toInt := dp_12 hu rfl (by omega) (by omega)
      have ec : (gq_l W 4 (12 * (pl_n n S) + v.toInt)).toInt = m (pl_n n S + 1) ((v.toInt.toNat : Int) + 1) := by
        have h := hm (pl_n n S + 1) ((v.toInt.toNat : Int) + 1) (by omega) (by omega) (by omega) (by omega)
        rw [← h]
        show _ = (gq_l W 4 (12 * (pl_n n S + 1 - 1) + ((v.toInt.toNat : Int) + 1 - 1))).toInt
        congr 2
        omega
      have et : (gq_l W 5 ((S ||| 1 <<< v.toInt.toNat : Nat) : Int)).toInt = pl_F n m dp_V (dp_k n (S ||| 1 <<< v.toInt.toNat)) (S ||| 1 <<< v.toInt.toNat) := hT _ (by omega) hlt
      have hV : dp_V = 1000000000000000 := rfl
      have hcb := hc (pl_n n S + 1) ((v.toInt.toNat : Int) + 1) (by omega) (by omega) (by omega) (by omega)
      have hfb := dp_b (n := n) (m := m) (NV := dp_V) (by decide) (fun i j a b c d => (hc i j a b c d).1) (dp_k n (S ||| 1 <<< v.toInt.toNat)) (S ||| 1 <<< v.toInt.toNat) (by unfold dp_k; have := (dp_pop (n := n) (S ||| 1 <<< v.toInt.toNat)).1; omega)
      have eadd : (gq_l W 4 (12 * (pl_n n S) + v.toInt) + gq_l W 5 ((S ||| 1 <<< v.toInt.toNat : Nat) : Int)).toInt = m (pl_n n S + 1) ((v.toInt.toNat : Int) + 1) + pl_F n m dp_V (dp_k n (S ||| 1 <<< v.toInt.toNat)) (S ||| 1 <<< v.toInt.toNat) := by
        rw [h64_add (by rw [ec]; omega) (by rw [et]; omega), ec, et]
      have hnb : ¬ (if S.testBit v.toInt.toNat = true then (1 : Int32) else 0) = 1 := by rw [hbit]; decide
      by_cases hle : b ≤ gq_l W 4 (12 * (pl_n n S) + v.toInt) + gq_l W 5 ((S ||| 1 <<< v.toInt.toNat : Nat) : Int)
      · obtain ⟨b2, g1, g2⟩ := dp_in (K := K) hn hc hm hT hS hu hun k b (v + 1) f (by omega) (by omega) (by
          rw [hstep, hbit, if_neg (by decide), if_neg]
          have := pb_le.mp hle
          rw [eadd] at this
          omega)
        refine ⟨b2, ?_, g2⟩
        show fl_Mo_reckon_225 K (f + (k + 1) + 1) (nI S) u b v W = _
        rw [fl_Mo_reckon_225, if_neg hz, if_neg (by rw [hsh]; exact hnb), if_pos (by rw [ei]; omega), hor, eO, ei, if_pos (by omega), if_pos hle]
        exact g1
      · obtain ⟨b2, g1, g2⟩ := dp_in (K := K) hn hc hm hT hS hu hun k (gq_l W 4 (12 * (pl_n n S) + v.toInt) + gq_l W 5 ((S ||| 1 <<< v.toInt.toNat : Nat) : Int)) (v + 1) f (by omega) (by omega) (by
          rw [hstep, hbit, if_neg (by decide), if_pos, eadd]
          rw [pb_le, eadd] at hle
          omega)
        refine ⟨b2, ?_, g2⟩
        show fl_Mo_reckon_225 K (f + (k + 1) + 1) (nI S) u b v W = _
        rw [fl_Mo_reckon_225, if_neg hz, if_neg (by rw [hsh]; exact hnb), if_pos (by rw [ei]; omega), hor, eO, ei, if_pos (by omega), if_neg hle]
        exact g1
/-- all sets below s0 -/
theorem dp_all {n : Nat} {m : Int → Int → Int} (hc : dp_c n m) : ∀ (s0 : Nat) (W : gq_M) (f : Nat), s0 ≤ 2 ^ n - 1 → dp_n n W → (∀ i j : Int, 1 ≤ i → i ≤ n → 1 ≤ j → j ≤ n → dp_m W i j = m i j) → dp_T n m s0 W →
    ∃ W2, fl_Mo_reckon_205 (f + (s0 + 1)) (nI s0 + (-1)) W = some W2 ∧ pf_F (fun _ => False) (fun a => a = 5) W W2 ∧ dp_T n m 0 W2
  | 0, W, f, hs, hn, hm, hT => by
    refine ⟨W, ?_, pf_r _ _ _, hT⟩
    show fl_Mo_reckon_205 (f + 1) _ W = some W
    rw [fl_Mo_reckon_205, if_pos (by decide)]
  | s0 + 1, W, f, hs, hn, hm, hT => by
    have h12 := hn.2
    have hp := bt_pow hn.2
    have e1 : nI (s0 + 1) + (-1) = nI s0 := by
      rw [show nI (s0 + 1) + (-1) = nI (s0 + 1) - 1 from (Int32.sub_eq_add_neg _ _).symm]
      exact nI_pred s0
    obtain ⟨v, hv, hb⟩ := bt_hole (n := n) (S := s0) (by omega)
    have hst := pl_n_step (n := n) (S := s0) hv hb
    have hun : pl_n n s0 < n := by
      have := (dp_pop (n := n) (s0 ||| 1 <<< v)).2
      omega
    obtain ⟨x, x1, x2⟩ := bt_cnt (n := n) (S := s0) (M := W) h12 (by omega)
    obtain ⟨b2, g1, g2⟩ := dp_in (K := fl_Mo_reckon_205 (f + (s0 + 1))) hn hc hm hT (by omega) x2 hun n 1000000000000000 0 (4999 - n) (by show (0 : Int) + n = n; omega) (by decide) rfl
    have hkk : dp_k n s0 = (dp_k n s0 - 1) + 1 := by
      unfold dp_k
      omega
    have hF : pl_F n m dp_V (dp_k n s0) s0 = b2.toInt := by
      rw [g2, hkk]
      show pl_m _ (fun v => m ((n : Int) - ((dp_k n s0 - 1 : Nat) : Int)) ((v : Int) + 1) + pl_F n m dp_V (dp_k n s0 - 1) (s0 ||| 1 <<< v)) dp_V n = _
      apply dp_mc
      intro y hy hyb
      have hs2 := pl_n_step (n := n) (S := s0) hy hyb
      have hpp := (dp_pop (n := n) s0).1
      have ea : (n : Int) - ((dp_k n s0 - 1 : Nat) : Int) = pl_n n s0 + 1 := by
        unfold dp_k
        omega
      have eb : dp_k n (s0 ||| 1 <<< y) = dp_k n s0 - 1 := by
        unfold dp_k
        omega
      rw [ea, eb]
    obtain ⟨W2, k1, k2, k3⟩ := dp_all hc s0 (gs_l W 5 (gz_ul (gq_l W 5) (s0 : Int) b2)) f (by omega) hn hm (by
      intro S h1 h2
      show (gz_ul (gq_l W 5) (s0 : Int) b2 (S : Int)).toInt = _
      by_cases e : S = s0
      · rw [e, gz_uls]
        exact hF.symm
      · rw [gz_uln _ _ (by omega)]
        exact hT S (by omega) h2)
    refine ⟨W2, ?_, pf_t (pf_l rfl (pf_r _ _ _)) k2, k3⟩
    show fl_Mo_reckon_205 (f + (s0 + 1) + 1) (nI (s0 + 1) + (-1)) W = some W2
    rw [e1, fl_Mo_reckon_205, if_neg (nI_pos (by omega)), x1, Option.bind_some, show 5000 = 4999 - n + (n + 1) by omega, g1]
    exact k1
