/-! crossings -/
abbrev cr_0 : Int64 := Int64.ofNat (0 : Fin 2).val
theorem cr_1 {v : Int64} : cr_0 ≤ v ↔ 0 ≤ v.toInt := pb_le
theorem cr_2 {v : Int64} : v ≤ cr_0 ↔ v.toInt ≤ 0 := pb_le
theorem cr_3 {v : Int64} : cr_0 < v ↔ 0 < v.toInt := pb_lt
def cr_s (v : Int64) : Int32 := if cr_0 ≤ v then if v ≤ cr_0 then 0 else 1 else -1
def cr_e (s e : Int64) : Int32 := if cr_0 ≤ s then if s ≤ cr_0 then 0 else if cr_0 ≤ e then 0 else 1 else if cr_0 < e then 1 else if s ≤ cr_0 then 0 else if cr_0 ≤ e then 0 else 1
theorem cr_se (s e : Int64) : (cr_e s e = 0 ∧ 0 ≤ cr_s s * cr_s e) ∨ (cr_e s e = 1 ∧ ¬ 0 ≤ cr_s s * cr_s e) := by
  unfold cr_e cr_s
  simp only [cr_1, cr_2, cr_3]
  rcases Int.lt_trichotomy s.toInt 0 with h | h | h <;> rcases Int.lt_trichotomy e.toInt 0 with g | g | g <;> (repeat first | rw [if_pos (by omega)] | rw [if_neg (by omega)]) <;> first | (left; decide) | (right; decide)
def cr_d (M : gq_M) (p : Int) (x y : Int64) : Int64 := (((gq_l M 2 (gq_i M 3 p).toInt) - (gq_l M 0 p)) * (y - (gq_l M 1 p))) - (((gq_l M 3 (gq_i M 3 p).toInt) - (gq_l M 1 p)) * (x - (gq_l M 0 p)))
def cr_a (M : gq_M) (p q : Int) : Int64 := cr_d M p (gq_l M 0 q) (gq_l M 1 q)
def cr_b (M : gq_M) (p q : Int) : Int64 := cr_d M p (gq_l M 2 (gq_i M 3 q).toInt) (gq_l M 3 (gq_i M 3 q).toInt)
def cr_p (M : gq_M) (p q : Int) : Int32 := cr_e (cr_a M p q) (cr_b M p q)
def cr_w (M : gq_M) (p q : Int) : Int32 := if gq_i M 8 (gq_i M 3 p).toInt = 0 then 0 else if gq_i M 8 (gq_i M 3 q).toInt = 0 then 0 else if cr_p M p q = 0 then 0 else if cr_p M q p = 0 then 0 else 1
theorem cr_sym (M : gq_M) (p q : Int) : cr_w M p q = cr_w M q p := by
  unfold cr_w
  by_cases h1 : gq_i M 8 (gq_i M 3 p).toInt = 0 <;> by_cases h2 : gq_i M 8 (gq_i M 3 q).toInt = 0 <;> by_cases h3 : cr_p M p q = 0 <;> by_cases h4 : cr_p M q p = 0 <;> simp only [h1, h2, h3, h4, ↓reduceIte]
theorem cr_parts {M W : gq_M} (hC : rp_C M W) (hN : rp_N M W) {a b : Int32} (ha : sw_in M a.toInt) (hb : sw_in M b.toInt) : fn_PS_partsEnds a b M = some (cr_p M a.toInt b.toInt) := by
  have h80 := hC.2.2
  have ra : 0 ≤ a.toInt ∧ a.toInt < ((80 : Nat) : Int) := by obtain ⟨x, y⟩ := ha; omega
  have rb : 0 ≤ b.toInt ∧ b.toInt < ((80 : Nat) : Int) := by obtain ⟨x, y⟩ := hb; omega
  have na := (hN a.toInt ha.1 ha.2).2
  have nb := (hN b.toInt hb.1 hb.2).2
  have na' : 0 ≤ (gq_i M 3 a.toInt).toInt ∧ (gq_i M 3 a.toInt).toInt < ((200 : Nat) : Int) := by omega
  have nb' : 0 ≤ (gq_i M 3 b.toInt).toInt ∧ (gq_i M 3 b.toInt).toInt < ((200 : Nat) : Int) := by omega
  have hs : ∀ x y, fn_PS_sideOfWay a x y M = some (cr_d M a.toInt x y) := by
    intro x y
    unfold fn_PS_sideOfWay
    rw [if_pos ra, if_pos na']
    rfl
  unfold fn_PS_partsEnds
  rw [if_pos rb, hs, Option.bind_some, if_pos nb', hs, Option.bind_some]
  show _ = some (cr_e (cr_a M a.toInt b.toInt) (cr_b M a.toInt b.toInt))
  unfold cr_e
  show (if cr_0 ≤ cr_a M a.toInt b.toInt then if cr_a M a.toInt b.toInt ≤ cr_0 then some (0 : Int32) else if cr_0 ≤ cr_b M a.toInt b.toInt then some 0 else some 1 else if cr_0 < cr_b M a.toInt b.toInt then some 1 else if cr_a M a.toInt b.toInt ≤ cr_0 then some 0 else if cr_0 ≤ cr_b M a.toInt b.toInt then some 0 else some 1) = _
  by_cases h1 : cr_0 ≤ cr_a M a.toInt b.toInt <;> by_cases h2 : cr_a M a.toInt b.toInt ≤ cr_0 <;> by_cases h3 : cr_0 ≤ cr_b M a.toInt b.toInt <;> by_cases h4 : cr_0 < cr_b M a.toInt b.toInt <;> simp only [h1, h2, h3, h4, ↓reduceIte]
theorem cr_ways {M W : gq_M} (hC : rp_C M W) (hN : rp_N M W) {a b : Int32} (ha : sw_in M a.toInt) (hb : sw_in M b.toInt) : fn_PS_waysCross a b M = some (cr_w M a.toInt b.toInt) := by
  have h80 := hC.2.2
  have ra : 0 ≤ a.toInt ∧ a.toInt < ((80 : Nat) : Int) := by obtain ⟨x, y⟩ := ha; omega
  have rb : 0 ≤ b.toInt ∧ b.toInt < ((80 : Nat) : Int) := by obtain ⟨x, y⟩ := hb; omega
  have na := (hN a.toInt ha.1 ha.2).2
  have nb := (hN b.toInt hb.1 hb.2).2
  have na' : 0 ≤ (gq_i M 3 a.toInt).toInt ∧ (gq_i M 3 a.toInt).toInt < ((200 : Nat) : Int) := by omega
  have nb' : 0 ≤ (gq_i M 3 b.toInt).toInt ∧ (gq_i M 3 b.toInt).toInt < ((200 : Nat) : Int) := by omega
  unfold fn_PS_waysCross cr_w
  rw [if_pos ra, if_pos na', cr_parts hC hN ha hb, cr_parts hC hN hb ha, Option.bind_some, Option.bind_some]
  by_cases h1 : gq_i M 8 (gq_i M 3 a.toInt).toInt = 0
  · rw [if_pos h1, if_pos h1]
  rw [if_neg h1, if_neg h1, if_pos rb, if_pos nb']
  by_cases h2 : gq_i M 8 (gq_i M 3 b.toInt).toInt = 0
  · rw [if_pos h2, if_pos h2]
  rw [if_neg h2, if_neg h2]
  by_cases h3 : cr_p M a.toInt b.toInt = 0
  · rw [if_pos h3, if_pos h3]
  rw [if_neg h3, if_neg h3]
  by_cases h4 : cr_p M b.toInt a.toInt = 0
  · rw [if_pos h4, if_pos h4]
  rw [if_neg h4, if_neg h4]
theorem cr_turn {x0 x1 x2 x3 x4 x5 : Int64} {W : gq_M} : fn_Mo_turn x0 x1 x2 x3 x4 x5 W = some (cr_s (((x2 - x0) * (x5 - x1)) - ((x3 - x1) * (x4 - x0)))) := by
  unfold fn_Mo_turn cr_s
  generalize ((x2 - x0) * (x5 - x1)) - ((x3 - x1) * (x4 - x0)) = v
  show (if cr_0 ≤ v then if v ≤ cr_0 then some (0 : Int32) else some 1 else some (-1)) = _
  by_cases h1 : cr_0 ≤ v <;> by_cases h2 : v ≤ cr_0 <;> simp only [h1, h2, ↓reduceIte]
theorem cr_cross {M W : gq_M} (hC : rp_C M W) (hS : rp_S M W) (hT : rp_T M W) (hN : rp_N M W) {a b : Int32} (ha : sw_in M a.toInt) (hb : sw_in M b.toInt) : fn_Mo_cross a b W = some (cr_w M a.toInt b.toInt) := by
  have h80 := hC.2.2
  have ra : 0 ≤ a.toInt ∧ a.toInt < ((80 : Nat) : Int) := by obtain ⟨x, y⟩ := ha; omega
  have rb : 0 ≤ b.toInt ∧ b.toInt < ((80 : Nat) : Int) := by obtain ⟨x, y⟩ := hb; omega
  obtain ⟨ea, na⟩ := hN a.toInt ha.1 ha.2
  obtain ⟨eb, nb⟩ := hN b.toInt hb.1 hb.2
  have na' : 0 ≤ (gq_i M 3 a.toInt).toInt ∧ (gq_i M 3 a.toInt).toInt < ((200 : Nat) : Int) := by omega
  have nb' : 0 ≤ (gq_i M 3 b.toInt).toInt ∧ (gq_i M 3 b.toInt).toInt < ((200 : Nat) : Int) := by omega
  obtain ⟨-, ⟨ax, ay, -⟩, -⟩ := hS a.toInt ha.1 ha.2
  obtain ⟨-, ⟨bx, by', -⟩, -⟩ := hS b.toInt hb.1 hb.2
  obtain ⟨⟨at7, -⟩, ⟨at2, at3, -⟩, -⟩ := hT _ na.1 na.2
  obtain ⟨⟨bt7, -⟩, ⟨bt2, bt3, -⟩, -⟩ := hT _ nb.1 nb.2
  unfold fn_Mo_cross cr_w
  rw [if_pos ra, if_pos rb, ea, eb, at7, bt7, at2, at3, bt2, bt3, ax, ay, bx, by', if_pos na', if_pos nb', cr_turn, cr_turn, cr_turn, cr_turn, Option.bind_some, Option.bind_some, Option.bind_some, Option.bind_some]
  by_cases h1 : gq_i M 8 (gq_i M 3 a.toInt).toInt = 0
  · rw [if_pos h1, if_pos h1]
  rw [if_neg h1, if_neg h1]
  by_cases h2 : gq_i M 8 (gq_i M 3 b.toInt).toInt = 0
  · rw [if_pos h2, if_pos h2]
  rw [if_neg h2, if_neg h2]
  show (if 0 ≤ cr_s (cr_a M a.toInt b.toInt) * cr_s (cr_b M a.toInt b.toInt) then some (0 : Int32) else if 0 ≤ cr_s (cr_a M b.toInt a.toInt) * cr_s (cr_b M b.toInt a.toInt) then some 0 else some 1) = _
  have n1 : ¬ ((1 : Int32) = 0) := by decide
  unfold cr_p
  rcases cr_se (cr_a M a.toInt b.toInt) (cr_b M a.toInt b.toInt) with ⟨g1, g2⟩ | ⟨g1, g2⟩
  · rw [if_pos g2, g1, if_pos rfl]
  rw [if_neg g2, g1, if_neg n1]
  rcases cr_se (cr_a M b.toInt a.toInt) (cr_b M b.toInt a.toInt) with ⟨k1, k2⟩ | ⟨k1, k2⟩
  · rw [if_pos k2, k1, if_pos rfl]
  rw [if_neg k2, k1, if_neg n1]
/-- sums of counts -/
def cr_m (f : Nat → Nat) : Nat → Nat
  | 0 => 0
  | n + 1 => cr_m f n + f n
theorem cr_mc {f g : Nat → Nat} : ∀ {n : Nat}, (∀ i, i < n → f i = g i) → cr_m f n = cr_m g n
  | 0, _ => rfl
  | n + 1, h => by
    show cr_m f n + f n = cr_m g n + g n
    rw [cr_mc (n := n) (fun i hi => h i (by omega)), h n (by omega)]
theorem cr_ma {f g : Nat → Nat} : ∀ n : Nat, cr_m (fun i => f i + g i) n = cr_m f n + cr_m g n
  | 0 => rfl
  | n + 1 => by
    show cr_m (fun i => f i + g i) n + (f n + g n) = cr_m f n + f n + (cr_m g n + g n)
    rw [cr_ma n]; omega
theorem cr_m0 {f : Nat → Nat} : ∀ {n : Nat}, (∀ i, i < n → f i = 0) → cr_m f n = 0
  | 0, _ => rfl
  | n + 1, h => by
    show cr_m f n + f n = 0
    rw [cr_m0 (n := n) (fun i hi => h i (by omega)), h n (by omega)]
theorem cr_ml {f : Nat → Nat} {c : Nat} : ∀ {n : Nat}, (∀ i, i < n → f i ≤ c) → cr_m f n ≤ n * c
  | 0, _ => Nat.zero_le _
  | n + 1, h => by
    have := cr_ml (n := n) (fun i hi => h i (by omega))
    have := h n (by omega)
    show cr_m f n + f n ≤ (n + 1) * c
    rw [Nat.succ_mul]; omega
theorem cr_tw {X : Nat → Nat → Nat} (hX : ∀ a b, X a b = X b a) : ∀ n : Nat, cr_m (fun a => cr_m (fun b => if a < b then X a b else 0) n) n = cr_m (fun p => cr_m (X p) p) n
  | 0 => rfl
  | n + 1 => by
    have e1 : cr_m (fun b => if n < b then X n b else 0) (n + 1) = 0 := cr_m0 (fun i hi => if_neg (by omega))
    have e2 : cr_m (fun a => cr_m (fun b => if a < b then X a b else 0) (n + 1)) n = cr_m (fun a => cr_m (fun b => if a < b then X a b else 0) n) n + cr_m (fun a => X n a) n := by
      rw [← cr_ma n]
      refine cr_mc (fun a ha => ?_)
      show cr_m (fun b => if a < b then X a b else 0) n + (if a < n then X a n else 0) = _
      rw [if_pos ha, hX a n]
    show cr_m (fun a => cr_m (fun b => if a < b then X a b else 0) (n + 1)) n + cr_m (fun b => if n < b then X n b else 0) (n + 1) = cr_m (fun p => cr_m (X p) p) n + cr_m (X n) n
    rw [e1, e2, cr_tw hX n]
    rfl
def cr_X (M : gq_M) (a b : Nat) : Nat := if gq_i M 1 (a : Int) = gq_i M 1 (b : Int) then if cr_w M (a : Int) (b : Int) = 0 then 0 else 1 else 0
theorem cr_Xs (M : gq_M) (a b : Nat) : cr_X M a b = cr_X M b a := by
  unfold cr_X
  rw [cr_sym M a b]
  by_cases h : gq_i M 1 (a : Int) = gq_i M 1 (b : Int)
  · rw [if_pos h, if_pos h.symm]
  · rw [if_neg h, if_neg (fun z => h z.symm)]
theorem cr_X1 (M : gq_M) (a b : Nat) : cr_X M a b ≤ 1 := by
  unfold cr_X
  by_cases h : gq_i M 1 (a : Int) = gq_i M 1 (b : Int)
  · rw [if_pos h]
    by_cases g : cr_w M (a : Int) (b : Int) = 0
    · rw [if_pos g]; omega
    · rw [if_neg g]; omega
  · rw [if_neg h]; omega
def cr_g (M : gq_M) (a b : Nat) : Nat := if a < b then cr_X M a b else 0
theorem cr_g1 (M : gq_M) (a b : Nat) : cr_g M a b ≤ 1 := by
  unfold cr_g
  by_cases h : a < b
  · rw [if_pos h]; exact cr_X1 M a b
  · rw [if_neg h]; omega
theorem cr_in {M W : gq_M} (hC : rp_C M W) (hN : rp_N M W) {K4 : Int32 → Int32 → Option Int32} {a B : Nat} {v2 : Int32} (hv2 : v2.toInt = a) (hB : B ≤ 6400) : ∀ (k c : Nat) (v1 v3 : Int32) (f : Nat), v3.toInt = c → c + k = lm_c M → a < c → v1.toInt = ((B + cr_m (cr_g M a) c : Nat) : Int) →
    ∃ y : Int32, fl_PS_crossings_19 M K4 (f + (k + 1)) v1 v2 v3 = K4 y (v2 + 1) ∧ y.toInt = ((B + cr_m (cr_g M a) (lm_c M) : Nat) : Int)
  | 0, c, v1, v3, f, h3, hk, hac, h1 => by
    have h80 := hC.2.2
    refine ⟨v1, ?_, by rw [h1, show c = lm_c M by omega]⟩
    show fl_PS_crossings_19 M K4 (f + 1) v1 v2 v3 = _
    rw [fl_PS_crossings_19, if_pos (by rw [pa_le, h3]; unfold lm_c at hk; omega)]
  | k + 1, c, v1, v3, f, h3, hk, hac, h1 => by
    have h80 := hC.2.2
    have hcl : (c : Int) < (gq_f M 1).toInt := by unfold lm_c at hk; omega
    have e3 : (v3 + 1).toInt = ((c + 1 : Nat) : Int) := by rw [pa_1 (by omega)]; omega
    have hle := cr_ml (f := cr_g M a) (c := 1) (n := c) (fun i _ => cr_g1 M a i)
    have hsu : cr_m (cr_g M a) (c + 1) = cr_m (cr_g M a) c + cr_X M a c := by
      show _ + cr_g M a c = _
      unfold cr_g
      rw [if_pos hac]
    have e1 : (v1 + 1).toInt = v1.toInt + 1 := pa_1 (by omega)
    have hw := cr_ways hC hN (a := v2) (b := v3) ⟨by omega, by omega⟩ ⟨by omega, by omega⟩
    rw [hv2, h3] at hw
    have step : fl_PS_crossings_19 M K4 (f + (k + 1 + 1)) v1 v2 v3 = if gq_i M 1 (a : Int) = gq_i M 1 (c : Int) then if cr_w M (a : Int) (c : Int) = 0 then fl_PS_crossings_19 M K4 (f + (k + 1)) v1 v2 (v3 + 1) else fl_PS_crossings_19 M K4 (f + (k + 1)) (v1 + 1) v2 (v3 + 1) else fl_PS_crossings_19 M K4 (f + (k + 1)) v1 v2 (v3 + 1) := by
      show fl_PS_crossings_19 M K4 (f + (k + 1) + 1) v1 v2 v3 = _
      rw [fl_PS_crossings_19, if_neg (by rw [pa_le, h3]; omega), if_pos (by omega), if_pos (by omega), hw, Option.bind_some, hv2, h3]
    rw [step]
    unfold cr_X at hsu
    by_cases d1 : gq_i M 1 (a : Int) = gq_i M 1 (c : Int)
    · rw [if_pos d1] at hsu ⊢
      by_cases d2 : cr_w M (a : Int) (c : Int) = 0
      · rw [if_pos d2] at hsu ⊢
        exact cr_in hC hN hv2 hB k (c + 1) v1 (v3 + 1) f e3 (by omega) (by omega) (by rw [h1, hsu]; rfl)
      · rw [if_neg d2] at hsu ⊢
        exact cr_in hC hN hv2 hB k (c + 1) (v1 + 1) (v3 + 1) f e3 (by omega) (by omega) (by rw [e1, h1, hsu]; omega)
    · rw [if_neg d1] at hsu ⊢
      exact cr_in hC hN hv2 hB k (c + 1) v1 (v3 + 1) f e3 (by omega) (by omega) (by rw [h1, hsu]; rfl)
theorem cr_out {M W : gq_M} (hC : rp_C M W) (hN : rp_N M W) : ∀ (k a : Nat) (v1 v2 : Int32) (f : Nat), v2.toInt = a → a + k = lm_c M → v1.toInt = (cr_m (fun a => cr_m (cr_g M a) (lm_c M)) a : Nat) →
    ∃ y : Int32, fl_PS_crossings_4 M (f + (k + 1)) v1 v2 = some y ∧ y.toInt = (cr_m (fun a => cr_m (cr_g M a) (lm_c M)) (lm_c M) : Nat)
  | 0, a, v1, v2, f, h2, hk, h1 => by
    have h80 := hC.2.2
    refine ⟨v1, ?_, by rw [h1, show a = lm_c M by omega]⟩
    show fl_PS_crossings_4 M (f + 1) v1 v2 = _
    rw [fl_PS_crossings_4, if_pos (by rw [pa_le, h2]; unfold lm_c at hk; omega)]
  | k + 1, a, v1, v2, f, h2, hk, h1 => by
    have h80 := hC.2.2
    have hlc : lm_c M ≤ 80 := by unfold lm_c; omega
    have hcl : (a : Int) < (gq_f M 1).toInt := by unfold lm_c at hk; omega
    have e2 : (v2 + 1).toInt = ((a + 1 : Nat) : Int) := by rw [pa_1 (by omega)]; omega
    have hin : ∀ a, cr_m (cr_g M a) (lm_c M) ≤ 80 := fun a => by
      have := cr_ml (f := cr_g M a) (c := 1) (n := lm_c M) (fun i _ => cr_g1 M a i)
      omega
    have hB := cr_ml (f := fun a => cr_m (cr_g M a) (lm_c M)) (c := 80) (n := a) (fun i _ => hin i)
    have h0 : cr_m (cr_g M a) (a + 1) = 0 := cr_m0 (fun i hi => if_neg (by omega))
    obtain ⟨y, y1, y2⟩ := cr_in hC hN (K4 := fl_PS_crossings_4 M (f + (k + 1))) (a := a) (B := cr_m (fun a => cr_m (cr_g M a) (lm_c M)) a) h2 (by omega) (lm_c M - (a + 1)) (a + 1) v1 (v2 + 1) (4999 - (lm_c M - (a + 1))) e2 (by omega) (by omega) (by rw [h0, h1]; rfl)
    obtain ⟨z, z1, z2⟩ := cr_out hC hN k (a + 1) y (v2 + 1) f e2 (by omega) (by rw [y2]; rfl)
    refine ⟨z, ?_, z2⟩
    show fl_PS_crossings_4 M (f + (k + 1) + 1) v1 v2 = _
    rw [fl_PS_crossings_4, if_neg (by rw [pa_le, h2]; omega), show 5000 = 4999 - (lm_c M - (a + 1)) + (lm_c M - (a + 1) + 1) by omega, y1, z1]
theorem cr_min {M W : gq_M} (hC : rp_C M W) (hS : rp_S M W) (hT : rp_T M W) (hN : rp_N M W) {K9 : Int32 → Int32 → gq_M → Option (Int32 × gq_M)} {a B : Nat} {v2 : Int32} (hv2 : v2.toInt = a) (ha : a < lm_c M) (hB : B ≤ 6400) : ∀ (k c : Nat) (v1 v3 : Int32) (f : Nat), v3.toInt = c → c + k = a → v1.toInt = ((B + cr_m (cr_X M a) c : Nat) : Int) →
    ∃ y : Int32, fl_Mo_crossings_19 K9 (f + (k + 1)) v1 v2 v3 W = K9 y (v2 + 1) W ∧ y.toInt = ((B + cr_m (cr_X M a) a : Nat) : Int)
  | 0, c, v1, v3, f, h3, hk, h1 => by
    refine ⟨v1, ?_, by rw [h1, show c = a by omega]⟩
    show fl_Mo_crossings_19 K9 (f + 1) v1 v2 v3 W = _
    rw [fl_Mo_crossings_19, if_pos (by rw [pa_le, h3]; omega)]
  | k + 1, c, v1, v3, f, h3, hk, h1 => by
    have h80 := hC.2.2
    have hal : (a : Int) < (gq_f M 1).toInt := by unfold lm_c at ha; omega
    have e3 : (v3 + 1).toInt = ((c + 1 : Nat) : Int) := by rw [pa_1 (by omega)]; omega
    have hle := cr_ml (f := cr_X M a) (c := 1) (n := c) (fun i _ => cr_X1 M a i)
    have hsu : cr_m (cr_X M a) (c + 1) = cr_m (cr_X M a) c + cr_X M a c := rfl
    have e1 : (v1 + 1).toInt = v1.toInt + 1 := pa_1 (by omega)
    have e0 : (v1 + 0).toInt = v1.toInt := by rw [Int32.add_zero]
    have hw := cr_cross hC hS hT hN (a := v2) (b := v3) ⟨by omega, by omega⟩ ⟨by omega, by omega⟩
    rw [hv2, h3] at hw
    have wa := (hS (a : Int) (by omega) (by omega)).1.1
    have wc := (hS (c : Int) (by omega) (by omega)).1.1
    have step : fl_Mo_crossings_19 K9 (f + (k + 1 + 1)) v1 v2 v3 W = if gq_i M 1 (a : Int) = gq_i M 1 (c : Int) then if cr_w M (a : Int) (c : Int) = 0 then fl_Mo_crossings_19 K9 (f + (k + 1)) (v1 + 0) v2 (v3 + 1) W else fl_Mo_crossings_19 K9 (f + (k + 1)) (v1 + 1) v2 (v3 + 1) W else fl_Mo_crossings_19 K9 (f + (k + 1)) (v1 + 0) v2 (v3 + 1) W := by
      show fl_Mo_crossings_19 K9 (f + (k + 1) + 1) v1 v2 v3 W = _
      rw [fl_Mo_crossings_19, if_neg (by rw [pa_le, h3]; omega), if_pos (by omega), if_pos (by omega), hw, Option.bind_some, hv2, h3, wa, wc]
    rw [step]
    unfold cr_X at hsu
    by_cases d1 : gq_i M 1 (a : Int) = gq_i M 1 (c : Int)
    · rw [if_pos d1] at hsu ⊢
      by_cases d2 : cr_w M (a : Int) (c : Int) = 0
      · rw [if_pos d2] at hsu ⊢
        exact cr_min hC hS hT hN hv2 ha hB k (c + 1) (v1 + 0) (v3 + 1) f e3 (by omega) (by rw [e0, h1]; unfold cr_X; rw [hsu]; rfl)
      · rw [if_neg d2] at hsu ⊢
        exact cr_min hC hS hT hN hv2 ha hB k (c + 1) (v1 + 1) (v3 + 1) f e3 (by omega) (by rw [e1, h1]; unfold cr_X; rw [hsu]; omega)
    · rw [if_neg d1] at hsu ⊢
      exact cr_min hC hS hT hN hv2 ha hB k (c + 1) (v1 + 0) (v3 + 1) f e3 (by omega) (by rw [e0, h1]; unfold cr_X; rw [hsu]; rfl)
theorem cr_mout {M W : gq_M} (hC : rp_C M W) (hS : rp_S M W) (hT : rp_T M W) (hN : rp_N M W) : ∀ (k a : Nat) (v1 v2 : Int32) (f : Nat), v2.toInt = a → a + k = lm_c M → v1.toInt = (cr_m (fun p => cr_m (cr_X M p) p) a : Nat) →
    ∃ y : Int32, fl_Mo_crossings_9 (f + (k + 1)) v1 v2 W = some (y, W) ∧ y.toInt = (cr_m (fun p => cr_m (cr_X M p) p) (lm_c M) : Nat)
  | 0, a, v1, v2, f, h2, hk, h1 => by
    have h80 := hC.2.2
    refine ⟨v1, ?_, by rw [h1, show a = lm_c M by omega]⟩
    show fl_Mo_crossings_9 (f + 1) v1 v2 W = _
    rw [fl_Mo_crossings_9, if_pos (by rw [hC.1.2, pa_le, h2]; unfold lm_c at hk; omega)]
  | k + 1, a, v1, v2, f, h2, hk, h1 => by
    have h80 := hC.2.2
    have hlc : lm_c M ≤ 80 := by unfold lm_c; omega
    have hcl : (a : Int) < (gq_f M 1).toInt := by unfold lm_c at hk; omega
    have e2 : (v2 + 1).toInt = ((a + 1 : Nat) : Int) := by rw [pa_1 (by omega)]; omega
    have hB := cr_ml (f := fun p => cr_m (cr_X M p) p) (c := 80) (n := a) (fun i hi => by
      have := cr_ml (f := cr_X M i) (c := 1) (n := i) (fun j _ => cr_X1 M i j)
      show cr_m (cr_X M i) i ≤ 80
      omega)
    obtain ⟨y, y1, y2⟩ := cr_min hC hS hT hN (K9 := fl_Mo_crossings_9 (f + (k + 1))) (a := a) (B := cr_m (fun p => cr_m (cr_X M p) p) a) h2 (by omega) (by omega) a 0 v1 0 (4999 - a) rfl (by omega) (by rw [h1]; rfl)
    obtain ⟨z, z1, z2⟩ := cr_mout hC hS hT hN k (a + 1) y (v2 + 1) f e2 (by omega) (by rw [y2]; rfl)
    refine ⟨z, ?_, z2⟩
    show fl_Mo_crossings_9 (f + (k + 1) + 1) v1 v2 W = _
    rw [fl_Mo_crossings_9, if_neg (by rw [hC.1.2, pa_le, h2]; omega), show 5000 = 4999 - a + (a + 1) by omega, y1, z1]
theorem op_crossings {M W : gq_M} (hR : rl_R M W) : ∃ (y : Int32) (W2 : gq_M), fn_PS_crossings M = some y ∧ fn_Mo_crossings W = some (y, W2) ∧ rl_R M W2 := by
  obtain ⟨⟨hC, hS, hZ, hT, hG, hQ⟩, hN, hH, hJ, hcm⟩ := id (rl_0 hR 0)
  have hlc : lm_c M ≤ 80 := by have := hC.2.2; unfold lm_c; omega
  obtain ⟨y, y1, y2⟩ := cr_out hC hN (lm_c M) 0 0 0 (4999 - lm_c M) rfl (by omega) rfl
  obtain ⟨z, z1, z2⟩ := cr_mout hC hS hT hN (lm_c M) 0 0 0 (4999 - lm_c M) rfl (by omega) rfl
  have e : z = y := by
    apply pa_eq.mpr
    rw [y2, z2]
    have := cr_tw (X := cr_X M) (cr_Xs M) (lm_c M)
    rw [← this]
    rfl
  have hl : 5000 = 4999 - lm_c M + (lm_c M + 1) := by omega
  refine ⟨y, gs_f W 0 0, ?_, ?_, rl_0 hR 0⟩
  · unfold fn_PS_crossings
    rw [hl]; exact y1
  · unfold fn_Mo_crossings
    rw [hl, ← e]; exact z1
