/-! WHAT TIES THE CLASS'S MEMORY M TO THE MODEL'S W -/
def rp_C (M W : gq_M) : Prop := (gq_f W 1 = gq_f M 0 ∧ gq_f W 2 = gq_f M 1) ∧ (0 ≤ (gq_f M 0).toInt ∧ (gq_f M 0).toInt ≤ 12) ∧ (0 ≤ (gq_f M 1).toInt ∧ (gq_f M 1).toInt ≤ 80)
/-- a pin alone, or one of a pair -/
def rp_pp (M W : gq_M) (p : Int) : Prop := (gq_i M 5 p = -1 ∧ gq_i M 6 p = 0 ∧ gq_i W 6 p = 0) ∨
  (0 ≤ (gq_i M 5 p).toInt ∧ (gq_i M 5 p).toInt < (gq_f M 1).toInt ∧ (gq_i M 5 p).toInt ≠ p ∧ (gq_i M 5 (gq_i M 5 p).toInt).toInt = p ∧ gq_i M 1 (gq_i M 5 p).toInt = gq_i M 1 p ∧ ((gq_i M 6 p = 0 ∧ gq_i W 6 p = 1 ∧ gq_i M 6 (gq_i M 5 p).toInt = 1) ∨ (gq_i M 6 p = 1 ∧ gq_i W 6 p = 0 ∧ gq_i M 6 (gq_i M 5 p).toInt = 0)))
def rp_S (M W : gq_M) : Prop := ∀ p : Int, 0 ≤ p → p < (gq_f M 1).toInt →
  (gq_i W 0 p = gq_i M 1 p ∧ 0 ≤ (gq_i M 1 p).toInt ∧ (gq_i M 1 p).toInt < (gq_f M 0).toInt) ∧
  (gq_l W 0 p = gq_l M 0 p ∧ gq_l W 1 p = gq_l M 1 p ∧ -1000000 ≤ (gq_l M 0 p).toInt ∧ (gq_l M 0 p).toInt ≤ 1000000 ∧ -1000000 ≤ (gq_l M 1 p).toInt ∧ (gq_l M 1 p).toInt ≤ 1000000) ∧
  (gq_i W 1 p = gq_i M 2 p ∧ 0 ≤ (gq_i M 2 p).toInt ∧ (gq_i M 2 p).toInt ≤ 15) ∧
  (gq_i W 3 p = gq_i M 4 p) ∧ (gq_i W 4 p = gq_i M 7 p ∧ (gq_i M 7 p = 0 ∨ gq_i M 7 p = 1)) ∧ gq_i W 5 p = gq_i M 5 p ∧ rp_pp M W p
def rp_Z (M W : gq_M) : Prop := ∀ p : Int, (gq_f M 1).toInt ≤ p → p < 80 → gq_i M 2 p = 0 ∧ gq_i W 1 p = 0 ∧ gq_i M 6 p = 0 ∧ gq_i W 6 p = 0 ∧ gq_i M 7 p = 0 ∧ gq_i W 4 p = 0
def rp_N (M W : gq_M) : Prop := ∀ p : Int, 0 ≤ p → p < (gq_f M 1).toInt → gq_i W 2 p = gq_i M 3 p ∧ 0 ≤ (gq_i M 3 p).toInt ∧ (gq_i M 3 p).toInt < 200
def rp_T (M W : gq_M) : Prop := ∀ q : Int, 0 ≤ q → q < 200 → (gq_i W 7 q = gq_i M 8 q ∧ (gq_i M 8 q = 0 ∨ gq_i M 8 q = 1)) ∧
  (gq_l W 2 q = gq_l M 2 q ∧ gq_l W 3 q = gq_l M 3 q ∧ -1000000 ≤ (gq_l M 2 q).toInt ∧ (gq_l M 2 q).toInt ≤ 1000000 ∧ -1000000 ≤ (gq_l M 3 q).toInt ∧ (gq_l M 3 q).toInt ≤ 1000000) ∧
  ((gq_i W 8 q).toInt = (gq_i M 9 q).toInt + 1 ∧ -1 ≤ (gq_i M 9 q).toInt ∧ (gq_i M 9 q).toInt ≤ 15)
/-! costs -/
def rc_a (x : Int) : Int := if 0 < x then x else -x
theorem rc_a0 {x : Int} (h : -2000000 ≤ x ∧ x ≤ 2000000) : 0 ≤ rc_a x ∧ rc_a x ≤ 2000000 := by
  unfold rc_a
  by_cases e : 0 < x
  · rw [if_pos e]; omega
  · rw [if_neg e]; omega
/-- what net q costs on pin p -/
def rc_c (M : gq_M) (q p : Int) : Int := (if gq_i M 8 q = 0 then 0 else rc_a ((gq_l M 2 q).toInt - (gq_l M 0 p).toInt) + rc_a ((gq_l M 3 q).toInt - (gq_l M 1 p).toInt)) + (if gq_i M 9 q = -1 then 0 else if gq_i M 9 q = gq_i M 2 p then 0 else 1000000000)
theorem rc_neg {z : Int64} (h : -2000000 ≤ z.toInt ∧ z.toInt ≤ 2000000) : (-z).toInt = -z.toInt := by
  have e : -z = 0 - z := by rw [Int64.zero_sub]
  have z0 : (0 : Int64).toInt = 0 := rfl
  rw [e, h64_sub (by omega) (by omega), z0]
  omega
theorem rc_abs {z : Int64} (h : -2000000 ≤ z.toInt ∧ z.toInt ≤ 2000000) : (if 0 < z then z else -z).toInt = rc_a z.toInt := by
  have z0 : (0 : Int64).toInt = 0 := rfl
  unfold rc_a
  by_cases e : 0 < z
  · rw [if_pos e, if_pos (by have := pb_lt.mp e; omega)]
  · rw [if_neg e, if_neg (fun w => e (pb_lt.mpr (by omega))), rc_neg h]
theorem rc_size {z : Int64} {W : gq_M} (h : -2000000 ≤ z.toInt ∧ z.toInt ≤ 2000000) : ∃ y : Int64, fn_Mo_size z W = some y ∧ y.toInt = rc_a z.toInt := by
  have z0 : (Int64.ofNat (0 : Fin 2).val).toInt = 0 := rfl
  unfold fn_Mo_size rc_a
  by_cases e : (Int64.ofNat (0 : Fin 2).val) ≤ z
  · rw [if_pos e]
    have e' := pb_le.mp e
    rw [z0] at e'
    refine ⟨z, rfl, ?_⟩
    by_cases g : 0 < z.toInt
    · rw [if_pos g]
    · rw [if_neg g]; omega
  · rw [if_neg e]
    have e' : ¬ (0 : Int) ≤ z.toInt := fun w => e (pb_le.mpr (by rw [z0]; exact w))
    refine ⟨_, rfl, ?_⟩
    rw [h64_sub (by rw [z0]; omega) (by omega), z0, if_neg (by omega)]
    omega
theorem rc_bd {M W : gq_M} {q p : Int} (hS : rp_S M W) (hT : rp_T M W) (hq : 0 ≤ q ∧ q < 200) (hp : 0 ≤ p ∧ p < (gq_f M 1).toInt) : 0 ≤ rc_c M q p ∧ rc_c M q p ≤ 1004000000 := by
  obtain ⟨-, ⟨-, -, s1, s2, s3, s4⟩, -⟩ := hS p hp.1 hp.2
  obtain ⟨-, ⟨-, -, t1, t2, t3, t4⟩, -⟩ := hT q hq.1 hq.2
  have a1 := rc_a0 (x := (gq_l M 2 q).toInt - (gq_l M 0 p).toInt) (by omega)
  have a2 := rc_a0 (x := (gq_l M 3 q).toInt - (gq_l M 1 p).toInt) (by omega)
  unfold rc_c
  by_cases e1 : gq_i M 8 q = 0
  · rw [if_pos e1]
    by_cases e2 : gq_i M 9 q = -1
    · rw [if_pos e2]; omega
    · rw [if_neg e2]
      by_cases e3 : gq_i M 9 q = gq_i M 2 p
      · rw [if_pos e3]; omega
      · rw [if_neg e3]; omega
  · rw [if_neg e1]
    by_cases e2 : gq_i M 9 q = -1
    · rw [if_pos e2]; omega
    · rw [if_neg e2]
      by_cases e3 : gq_i M 9 q = gq_i M 2 p
      · rw [if_pos e3]; omega
      · rw [if_neg e3]; omega
theorem rc_cls {M W : gq_M} {a b : Int32} (hC : rp_C M W) (hS : rp_S M W) (hT : rp_T M W) (hq : 0 ≤ a.toInt ∧ a.toInt < 200) (hp : 0 ≤ b.toInt ∧ b.toInt < (gq_f M 1).toInt) : ∃ z : Int64, fn_PS_cost a b M = some z ∧ z.toInt = rc_c M a.toInt b.toInt := by
  have h80 := hC.2.2
  have z0 : (Int64.ofNat (0 : Fin 2).val).toInt = 0 := rfl
  have zW : (1000000000 : Int64).toInt = 1000000000 := rfl
  obtain ⟨-, ⟨-, -, s1, s2, s3, s4⟩, -⟩ := hS b.toInt hp.1 hp.2
  obtain ⟨-, ⟨-, -, t1, t2, t3, t4⟩, -⟩ := hT a.toInt hq.1 hq.2
  have d1 : (gq_l M 2 a.toInt - gq_l M 0 b.toInt).toInt = (gq_l M 2 a.toInt).toInt - (gq_l M 0 b.toInt).toInt := h64_sub (by omega) (by omega)
  have d2 : (gq_l M 3 a.toInt - gq_l M 1 b.toInt).toInt = (gq_l M 3 a.toInt).toInt - (gq_l M 1 b.toInt).toInt := h64_sub (by omega) (by omega)
  have a1 := rc_a0 (x := (gq_l M 2 a.toInt).toInt - (gq_l M 0 b.toInt).toInt) (by omega)
  have a2 := rc_a0 (x := (gq_l M 3 a.toInt).toInt - (gq_l M 1 b.toInt).toInt) (by omega)
  have f1 : (if 0 < gq_l M 2 a.toInt - gq_l M 0 b.toInt then gq_l M 2 a.toInt - gq_l M 0 b.toInt else -(gq_l M 2 a.toInt - gq_l M 0 b.toInt)).toInt = rc_a ((gq_l M 2 a.toInt).toInt - (gq_l M 0 b.toInt).toInt) := by rw [rc_abs (by omega), d1]
  have f2 : (if 0 < gq_l M 3 a.toInt - gq_l M 1 b.toInt then gq_l M 3 a.toInt - gq_l M 1 b.toInt else -(gq_l M 3 a.toInt - gq_l M 1 b.toInt)).toInt = rc_a ((gq_l M 3 a.toInt).toInt - (gq_l M 1 b.toInt).toInt) := by rw [rc_abs (by omega), d2]
  have f3 := h64_add (a := if 0 < gq_l M 2 a.toInt - gq_l M 0 b.toInt then gq_l M 2 a.toInt - gq_l M 0 b.toInt else -(gq_l M 2 a.toInt - gq_l M 0 b.toInt)) (b := if 0 < gq_l M 3 a.toInt - gq_l M 1 b.toInt then gq_l M 3 a.toInt - gq_l M 1 b.toInt else -(gq_l M 3 a.toInt - gq_l M 1 b.toInt)) (by rw [f1]; omega) (by rw [f2]; omega)
  rw [f1, f2] at f3
  unfold fn_PS_cost rc_c
  rw [if_pos (by omega)]
  by_cases e1 : gq_i M 8 a.toInt = 0
  · rw [if_pos e1, if_pos e1]
    by_cases e2 : gq_i M 9 a.toInt = -1
    · rw [if_pos e2, if_pos e2]
      exact ⟨_, rfl, by rw [z0]; rfl⟩
    · rw [if_neg e2, if_neg e2, if_pos (by omega)]
      by_cases e3 : gq_i M 9 a.toInt = gq_i M 2 b.toInt
      · rw [if_pos e3, if_pos e3]
        exact ⟨_, rfl, by rw [z0]; rfl⟩
      · rw [if_neg e3, if_neg e3]
        exact ⟨_, rfl, rfl⟩
  · rw [if_neg e1, if_neg e1, if_pos (by omega)]
    by_cases e2 : gq_i M 9 a.toInt = -1
    · rw [if_pos e2, if_pos e2]
      exact ⟨_, rfl, by rw [f3]; omega⟩
    · rw [if_neg e2, if_neg e2]
      by_cases e3 : gq_i M 9 a.toInt = gq_i M 2 b.toInt
      · rw [if_pos e3, if_pos e3]
        exact ⟨_, rfl, by rw [f3]; omega⟩
      · rw [if_neg e3, if_neg e3]
        refine ⟨_, rfl, ?_⟩
        rw [h64_add (by rw [f3]; omega) (by rw [zW]; omega), f3, zW]
theorem rc_mod {M W : gq_M} {a b : Int32} (hC : rp_C M W) (hS : rp_S M W) (hT : rp_T M W) (hq : 0 ≤ a.toInt ∧ a.toInt < 200) (hp : 0 ≤ b.toInt ∧ b.toInt < (gq_f M 1).toInt) : ∃ z : Int64, fn_Mo_cost a b W = some z ∧ z.toInt = rc_c M a.toInt b.toInt := by
  have h80 := hC.2.2
  have z0 : (Int64.ofNat (0 : Fin 2).val).toInt = 0 := rfl
  have zW : (1000000000 : Int64).toInt = 1000000000 := rfl
  have i1 : (1 : Int32).toInt = 1 := rfl
  have i0 : (0 : Int32).toInt = 0 := rfl
  have im : (-1 : Int32).toInt = -1 := rfl
  obtain ⟨-, ⟨w1, w2, s1, s2, s3, s4⟩, ⟨w3, s5, s6⟩, -⟩ := hS b.toInt hp.1 hp.2
  obtain ⟨⟨w4, -⟩, ⟨w5, w6, t1, t2, t3, t4⟩, ⟨w7, t5, t6⟩⟩ := hT a.toInt hq.1 hq.2
  have d1 : (gq_l M 2 a.toInt - gq_l M 0 b.toInt).toInt = (gq_l M 2 a.toInt).toInt - (gq_l M 0 b.toInt).toInt := h64_sub (by omega) (by omega)
  have d2 : (gq_l M 3 a.toInt - gq_l M 1 b.toInt).toInt = (gq_l M 3 a.toInt).toInt - (gq_l M 1 b.toInt).toInt := h64_sub (by omega) (by omega)
  have a1 := rc_a0 (x := (gq_l M 2 a.toInt).toInt - (gq_l M 0 b.toInt).toInt) (by omega)
  have a2 := rc_a0 (x := (gq_l M 3 a.toInt).toInt - (gq_l M 1 b.toInt).toInt) (by omega)
  have n1 : gq_i W 8 a.toInt ≤ 0 ↔ gq_i M 9 a.toInt = -1 := by
    rw [pa_le, pa_eq, w7, i0, im]
    omega
  have hb1 : (gq_i M 2 b.toInt + 1).toInt = (gq_i M 2 b.toInt).toInt + 1 := pa_1 (by omega)
  have n2 : gq_i W 8 a.toInt = gq_i W 1 b.toInt + 1 ↔ gq_i M 9 a.toInt = gq_i M 2 b.toInt := by
    rw [pa_eq, w7, w3, hb1, pa_eq (a := gq_i M 9 a.toInt)]
    omega
  unfold fn_Mo_cost rc_c
  rw [if_pos (by omega), w4]
  by_cases e1 : gq_i M 8 a.toInt = 0
  · rw [if_pos e1, if_pos e1]
    by_cases e2 : gq_i M 9 a.toInt = -1
    · rw [if_pos (n1.mpr e2), if_pos e2]
      exact ⟨_, rfl, by rw [z0]; rfl⟩
    · rw [if_neg (fun z => e2 (n1.mp z)), if_neg e2, if_pos (by omega)]
      by_cases e3 : gq_i M 9 a.toInt = gq_i M 2 b.toInt
      · rw [if_pos (n2.mpr e3), if_pos e3]
        exact ⟨_, rfl, by rw [z0]; rfl⟩
      · rw [if_neg (fun z => e3 (n2.mp z)), if_neg e3]
        exact ⟨_, rfl, rfl⟩
  · rw [if_neg e1, if_neg e1, if_pos (by omega), w1, w2, w5, w6]
    obtain ⟨y1, g1, g2⟩ := rc_size (z := gq_l M 2 a.toInt - gq_l M 0 b.toInt) (W := W) (by omega)
    obtain ⟨y2, g3, g4⟩ := rc_size (z := gq_l M 3 a.toInt - gq_l M 1 b.toInt) (W := W) (by omega)
    rw [g1, Option.bind_some, g3, Option.bind_some]
    rw [d1] at g2
    rw [d2] at g4
    have f3 := h64_add (a := y1) (b := y2) (by omega) (by omega)
    rw [g2, g4] at f3
    by_cases e2 : gq_i M 9 a.toInt = -1
    · rw [if_pos (n1.mpr e2), if_pos e2]
      exact ⟨_, rfl, by rw [f3]; omega⟩
    · rw [if_neg (fun z => e2 (n1.mp z)), if_neg e2]
      by_cases e3 : gq_i M 9 a.toInt = gq_i M 2 b.toInt
      · rw [if_pos (n2.mpr e3), if_pos e3]
        exact ⟨_, rfl, by rw [f3]; omega⟩
      · rw [if_neg (fun z => e3 (n2.mp z)), if_neg e3]
        refine ⟨_, rfl, ?_⟩
        rw [h64_add (by rw [f3]; omega) (by rw [zW]; omega), f3, zW]
