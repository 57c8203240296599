/-! THE SIMPLE CALLS -/
theorem rp_Hgo {M W M2 W2 : gq_M} (h : rp_H M W) (h1 : gq_i W2 9 = gq_i W 9) (h2 : gq_i W2 10 = gq_i W 10) (h3 : gq_i M2 15 = gq_i M 15) (h4 : ∀ r, r < 11 → gq_i M2 (18 + r) = gq_i M (18 + r)) (h5 : (gq_f M 1).toInt ≤ (gq_f M2 1).toInt) (h6 : gq_f M2 3 = gq_f M 3) (h7 : gq_f M2 4 = gq_f M 4) (h8 : gq_f W2 3 = gq_f W 3) : rp_H M2 W2 := by
  obtain ⟨⟨a1, a2, a3, a4, a5⟩, hh⟩ := h
  refine ⟨⟨by rw [h8, h7]; exact a1, by rw [h7]; exact a2, by rw [h7]; exact a3, by rw [h6]; exact a4, by rw [h6]; exact a5⟩, fun k hk => ?_⟩
  have es : rh_s M2 = rh_s M := by unfold rh_s; rw [h6]
  have ek : rh_k M2 = rh_k M := by unfold rh_k; rw [h7]
  rw [ek] at hk
  rw [es, ek]
  obtain ⟨b1, b2, b3, b4⟩ := hh k hk
  have hr := (rh_ne (s := rh_s M) (K := rh_k M) (k := k) (by unfold rh_s; omega) (by unfold rh_k; omega) hk).2
  unfold rp_h
  rw [h1, h2, h3, h4 _ hr]
  exact ⟨b1, b2, by omega, b4⟩
theorem rp_Gm {M M2 : gq_M} (h0 : gq_i M2 0 = gq_i M 0) (h1 : gq_i M2 1 = gq_i M 1) (hf : gq_f M2 1 = gq_f M 1) (h : rp_G M) : rp_G M2 := by
  intro g g1 g2
  have hlc : lm_c M2 = lm_c M := by unfold lm_c; rw [hf]
  rw [un_nc h1, hlc, h0]
  exact h g g1 g2
theorem rl_0 {M W : gq_M} (h : rl_R M W) (x : Int32) : rl_R M (gs_f W 0 x) := h
/-- a call that may throw: what the class does, what the model does, the code of what is thrown -/
def rt_I (M : gq_M) (F : Option (Nat ⊕ (Int32 × gq_M))) (G : Option (Int32 × gq_M)) (th : Nat → Int32) : Prop := ∃ (b : Int32) (W2 : gq_M), G = some (b, W2) ∧ ((∃ kd : Nat, F = some (.inl kd) ∧ (kd = 1 ∨ kd = 2) ∧ gq_f W2 0 = th kd ∧ rl_R M W2) ∨ (∃ M2 : gq_M, F = some (.inr (b, M2)) ∧ gq_f W2 0 = 0 ∧ rl_R M2 W2))
def rt_P (M : gq_M) (F : Option (Nat ⊕ Int32)) (G : Option (Int32 × gq_M)) (th : Nat → Int32) : Prop := ∃ (b : Int32) (W2 : gq_M), G = some (b, W2) ∧ ((∃ kd : Nat, F = some (.inl kd) ∧ (kd = 1 ∨ kd = 2) ∧ gq_f W2 0 = th kd ∧ rl_R M W2) ∨ (F = some (.inr b) ∧ gq_f W2 0 = 0 ∧ rl_R M W2))
def rt_J (M : gq_M) (F : Option (Nat ⊕ (Int64 × gq_M))) (G : Option (Int64 × gq_M)) (th : Nat → Int32) : Prop := ∃ (b : Int64) (W2 : gq_M), G = some (b, W2) ∧ ((∃ kd : Nat, F = some (.inl kd) ∧ (kd = 1 ∨ kd = 2) ∧ gq_f W2 0 = th kd ∧ rl_R M W2) ∨ (∃ M2 : gq_M, F = some (.inr (b, M2)) ∧ gq_f W2 0 = 0 ∧ rl_R M2 W2))
abbrev rt_k : Nat → Int32 := fun kd => nI kd
theorem op_group {M W : gq_M} (hR : rl_R M W) : ∃ (y : Int32) (M2 W2 : gq_M), fn_PS_group M = some (y, M2) ∧ fn_Mo_group W = some (y, W2) ∧ rl_R M2 W2 := by
  obtain ⟨⟨hC, hS, hZ, hT, hG, hQ⟩, hN, hH, hJ, hcm⟩ := id hR
  have e12 : (12 : Int32).toInt = 12 := rfl
  have hg := hC.2.1
  unfold fn_PS_group fn_Mo_group
  rw [hC.1.1]
  by_cases e : gq_f M 0 = 12
  · rw [if_neg (by rw [e]; decide), if_pos e]
    exact ⟨_, _, _, rfl, rfl, rl_0 hR 0⟩
  · have hlt : gq_f M 0 < 12 := by
      rw [pa_lt, e12]
      have : ¬ (gq_f M 0).toInt = 12 := fun z => e (pa_eq.mpr z)
      omega
    have hlt' := pa_lt.mp hlt
    rw [e12] at hlt'
    have e1 : (gq_f M 0 + 1).toInt = (gq_f M 0).toInt + 1 := pa_1 (by omega)
    rw [if_pos hlt, if_neg e]
    refine ⟨_, _, _, rfl, rfl, ⟨⟨⟨rfl, hC.1.2⟩, ?_, hC.2.2⟩, fun p h1 h2 => ?_, hZ, hT, rp_Gm (M := M) rfl rfl rfl hG, hQ⟩, hN, rp_Hgo hH rfl rfl rfl (fun r _ => rfl) (Int.le_refl _) rfl rfl rfl, hJ, hcm⟩
    · show 0 ≤ (gq_f M 0 + 1).toInt ∧ (gq_f M 0 + 1).toInt ≤ 12
      omega
    · obtain ⟨⟨a1, a2, a3⟩, rest⟩ := hS p h1 h2
      refine ⟨⟨a1, a2, ?_⟩, rest⟩
      show (gq_i M 1 p).toInt < (gq_f M 0 + 1).toInt
      omega
theorem op_sum {M W : gq_M} (hR : rl_R M W) : ∃ (z : Int64) (W2 : gq_M), fn_PS_sum M = some z ∧ fn_Mo_sum W = some (z, W2) ∧ rl_R M W2 := by
  obtain ⟨⟨hC, hS, hZ, hT, hG, hQ⟩, hN, hH, hJ, hcm⟩ := id hR
  obtain ⟨z, q1, q2⟩ := rr_sums (M := M) (W := gs_f W 0 0) hC hS hT hN
  refine ⟨z, gs_f W 0 0, q1, ?_, rl_0 hR 0⟩
  unfold fn_Mo_sum
  rw [q2, Option.bind_some]
theorem op_before {M W : gq_M} (hR : rl_R M W) : ∃ (z : Int64) (W2 : gq_M), fn_PS_before M = some z ∧ fn_Mo_before W = some (z, W2) ∧ rl_R M W2 := by
  refine ⟨gq_j M 0, gs_f W 0 0, rfl, ?_, rl_0 hR 0⟩
  unfold fn_Mo_before
  rw [hR.2.2.2.1]
/-! checks -/
theorem op_pin? {M W : gq_M} (hC : rp_C M W) (p : Int32) : (0 ≤ p.toInt ∧ p.toInt < (gq_f M 1).toInt ∧ fn_PS_checkPin p M = some (.inr ()) ∧ fn_Mo_isPin p W = some 1) ∨ (fn_PS_checkPin p M = some (.inl 1) ∧ fn_Mo_isPin p W = some 0) := by
  have e0 : (0 : Int32).toInt = 0 := rfl
  unfold fn_PS_checkPin fn_Mo_isPin
  rw [hC.1.2]
  by_cases e1 : p < 0
  · rw [if_pos e1, if_pos e1]
    exact Or.inr ⟨rfl, rfl⟩
  · rw [if_neg e1, if_neg e1]
    rw [pa_lt, e0] at e1
    by_cases e2 : p < gq_f M 1
    · rw [if_pos e2, if_neg (by rw [pa_le]; have := pa_lt.mp e2; omega)]
      exact Or.inl ⟨by omega, pa_lt.mp e2, rfl, rfl⟩
    · rw [if_neg e2, if_pos (by rw [pa_le]; rw [pa_lt] at e2; omega)]
      exact Or.inr ⟨rfl, rfl⟩
theorem op_net? (q : Int32) (M W : gq_M) : (0 ≤ q.toInt ∧ q.toInt < 200 ∧ fn_PS_isNet q M = some 1 ∧ fn_Mo_isNet q W = some 1) ∨ (fn_PS_isNet q M = some 0 ∧ fn_Mo_isNet q W = some 0) := by
  have e0 : (0 : Int32).toInt = 0 := rfl
  have e200 : (200 : Int32).toInt = 200 := rfl
  unfold fn_PS_isNet fn_Mo_isNet
  by_cases e1 : q < 0
  · rw [if_pos e1]
    exact Or.inr ⟨rfl, rfl⟩
  · rw [if_neg e1]
    rw [pa_lt, e0] at e1
    by_cases e2 : (200 : Int32) ≤ q
    · rw [if_pos e2]
      exact Or.inr ⟨rfl, rfl⟩
    · rw [if_neg e2]
      rw [pa_le, e200] at e2
      exact Or.inl ⟨by omega, by omega, rfl, rfl⟩
theorem op_place? (x y : Int64) (M W : gq_M) : (-1000000 ≤ x.toInt ∧ x.toInt ≤ 1000000 ∧ -1000000 ≤ y.toInt ∧ y.toInt ≤ 1000000 ∧ fn_PS_checkPlace x y M = some (.inr ()) ∧ fn_Mo_isPlace x y W = some 1) ∨ (fn_PS_checkPlace x y M = some (.inl 2) ∧ fn_Mo_isPlace x y W = some 0) := by
  have em : (-1000000 : Int64).toInt = -1000000 := rfl
  have ep : (1000000 : Int64).toInt = 1000000 := rfl
  unfold fn_PS_checkPlace fn_Mo_isPlace
  by_cases e1 : x < -1000000
  · rw [if_pos e1, if_pos e1]
    exact Or.inr ⟨rfl, rfl⟩
  · rw [if_neg e1, if_neg e1]
    rw [pb_lt, em] at e1
    by_cases e2 : (1000000 : Int64) < x
    · rw [if_pos e2, if_pos e2]
      exact Or.inr ⟨rfl, rfl⟩
    · rw [if_neg e2, if_neg e2]
      rw [pb_lt, ep] at e2
      by_cases e3 : y < -1000000
      · rw [if_pos e3, if_pos e3]
        exact Or.inr ⟨rfl, rfl⟩
      · rw [if_neg e3, if_neg e3]
        rw [pb_lt, em] at e3
        by_cases e4 : y ≤ 1000000
        · rw [if_pos e4, if_neg (by rw [pb_lt, ep]; rw [pb_le, ep] at e4; omega)]
          rw [pb_le, ep] at e4
          exact Or.inl ⟨by omega, by omega, by omega, by omega, rfl, rfl⟩
        · rw [if_neg e4, if_pos (by rw [pb_lt, ep]; rw [pb_le, ep] at e4; omega)]
          exact Or.inr ⟨rfl, rfl⟩
theorem op_netOf {M W : gq_M} (hR : rl_R M W) (p : Int32) : rt_P M (fn_PS_netOf p M) (fn_Mo_netOf p W) rt_k := by
  obtain ⟨⟨hC, hS, hZ, hT, hG, hQ⟩, hN, hH, hJ, hcm⟩ := id hR
  rcases op_pin? hC p with ⟨h1, h2, h3, h4⟩ | ⟨h3, h4⟩
  · have hr : 0 ≤ p.toInt ∧ p.toInt < ((80 : Nat) : Int) := by have := hC.2.2; omega
    have hF : fn_PS_netOf p M = some (.inr (gq_i M 3 p.toInt)) := by
      unfold fn_PS_netOf
      rw [h3]
      show gb_r (if _ then _ else _) = _
      rw [if_pos hr]
      rfl
    have hW : fn_Mo_netOf p W = some (gq_i M 3 p.toInt, gs_f W 0 0) := by
      unfold fn_Mo_netOf
      rw [h4, Option.bind_some, if_neg (show ¬ ((1 : Int32) = 0) by decide), if_pos hr, (hN p.toInt h1 h2).1]
    exact ⟨_, _, hW, Or.inr ⟨hF, rfl, rl_0 hR 0⟩⟩
  · refine ⟨0, gs_f W 0 1, ?_, Or.inl ⟨1, ?_, Or.inl rfl, rfl, rl_0 hR 1⟩⟩
    · unfold fn_Mo_netOf
      rw [h4, Option.bind_some, if_pos rfl]
    · unfold fn_PS_netOf
      rw [h3]
      rfl
theorem op_lock {M W : gq_M} (hR : rl_R M W) (p : Int32) : rt_I M (fn_PS_lock p M) (fn_Mo_lock p W) rt_k := by
  obtain ⟨⟨hC, hS, hZ, hT, hG, hQ⟩, hN, hH, hJ, hcm⟩ := id hR
  rcases op_pin? hC p with ⟨h1, h2, h3, h4⟩ | ⟨h3, h4⟩
  · have hr : 0 ≤ p.toInt ∧ p.toInt < ((80 : Nat) : Int) := by have := hC.2.2; omega
    obtain ⟨-, -, -, -, ⟨w4, hl⟩, -⟩ := hS p.toInt h1 h2
    have key : ∀ W2 : gq_M, (∀ q, 0 ≤ q → q < 80 → gq_i W2 4 q = gz_u (gq_i M 7) p.toInt 1 q ∨ (q ≠ p.toInt ∧ gq_i W2 4 q = gq_i W 4 q)) → rw_E W (gs_i W2 4 (gq_i W 4)) → gq_i W2 2 = gq_i W 2 → gq_i W2 9 = gq_i W 9 → gq_i W2 10 = gq_i W 10 → gq_i W2 11 = gq_i W 11 → gq_i W2 12 = gq_i W 12 → gq_f W2 3 = gq_f W 3 → gq_f W2 4 = gq_f W 4 → gq_j W2 0 = gq_j W 0 → rl_R (gs_i M 7 (gz_u (gq_i M 7) p.toInt 1)) W2 := by
      intro W2 k4 ke k2 k9 k10 k11 k12 kf3 kf4 kj
      obtain ⟨e0, e1, e3, -, e5, e6, e7, e8, ⟨l0, l1, l2, l3⟩, f1, f2⟩ := ke
      have e0' : gq_i W2 0 = gq_i W 0 := e0
      have e1' : gq_i W2 1 = gq_i W 1 := e1
      have e3' : gq_i W2 3 = gq_i W 3 := e3
      have e5' : gq_i W2 5 = gq_i W 5 := e5
      have e6' : gq_i W2 6 = gq_i W 6 := e6
      have e7' : gq_i W2 7 = gq_i W 7 := e7
      have e8' : gq_i W2 8 = gq_i W 8 := e8
      have l0' : gq_l W2 0 = gq_l W 0 := l0
      have l1' : gq_l W2 1 = gq_l W 1 := l1
      have l2' : gq_l W2 2 = gq_l W 2 := l2
      have l3' : gq_l W2 3 = gq_l W 3 := l3
      have f1' : gq_f W2 1 = gq_f W 1 := f1
      have f2' : gq_f W2 2 = gq_f W 2 := f2
      refine ⟨⟨⟨⟨f1'.trans hC.1.1, f2'.trans hC.1.2⟩, hC.2⟩, fun q q1 q2 => ?_, fun q q1 q2 => ?_, ?_, rp_Gm (M := M) rfl rfl rfl hG, ?_⟩, fun q q1 q2 => ?_, rp_Hgo hH k9 k10 rfl (fun r hr => gq_un _ _ (by omega)) (Int.le_refl _) rfl rfl kf3, kj.trans hJ, hcm⟩
      · obtain ⟨a1, a2, a3, a4, ⟨a5, a6⟩, a7, a8⟩ := hS q q1 q2
        have q2' : q < (gq_f M 1).toInt := q2
        refine ⟨by rw [e0']; exact a1, by rw [l0', l1']; exact a2, by rw [e1']; exact a3, by rw [e3']; exact a4, ?_, by rw [e5']; exact a7, ?_⟩
        · show gq_i W2 4 q = gz_u (gq_i M 7) p.toInt 1 q ∧ (gz_u (gq_i M 7) p.toInt 1 q = 0 ∨ gz_u (gq_i M 7) p.toInt 1 q = 1)
          refine ⟨?_, ?_⟩
          · rcases k4 q q1 (by have := hC.2.2; omega) with h | ⟨h, h'⟩
            · exact h
            · rw [h', gz_un _ _ h]; exact a5
          · by_cases e : q = p.toInt
            · rw [e, gz_us]; exact Or.inr rfl
            · rw [gz_un _ _ e]; exact a6
        · unfold rp_pp
          rw [e6']
          exact a8
      · obtain ⟨a1, a2, a3, a4, a5, a6⟩ := hZ q q1 q2
        have q1' : (gq_f M 1).toInt ≤ q := q1
        refine ⟨a1, by rw [e1']; exact a2, a3, by rw [e6']; exact a4, ?_, ?_⟩
        · show gz_u (gq_i M 7) p.toInt 1 q = 0
          rw [gz_un _ _ (by omega)]; exact a5
        · rcases k4 q (by omega) q2 with h | ⟨h, h'⟩
          · rw [h, gz_un _ _ (by omega)]; exact a5
          · rw [h']; exact a6
      · unfold rp_T
        rw [e7', e8', l2', l3']
        exact hT
      · unfold rp_Q
        rw [k11, k12, kf4]
        exact hQ
      · rw [k2]
        exact hN q q1 q2
    by_cases e : gq_i M 7 p.toInt = 0
    · refine ⟨1, gs_i (gs_f W 0 0) 4 (gz_u (gq_i W 4) p.toInt 1), ?_, Or.inr ⟨gs_i M 7 (gz_u (gq_i M 7) p.toInt 1), ?_, rfl, key _ (fun q q1 q2 => ?_) ⟨rfl, rfl, rfl, rfl, rfl, rfl, rfl, rfl, ⟨rfl, rfl, rfl, rfl⟩, rfl, rfl⟩ rfl rfl rfl rfl rfl rfl rfl rfl⟩⟩
      · unfold fn_Mo_lock
        rw [h4, Option.bind_some, if_neg (show ¬ ((1 : Int32) = 0) by decide), if_pos hr, if_pos (by rw [w4]; exact e)]
      · unfold fn_PS_lock
        rw [h3]
        show gb_r (if _ then _ else _) = _
        rw [if_pos hr, if_pos e]
        rfl
      · show gz_u (gq_i W 4) p.toInt 1 q = _ ∨ (_ ∧ gz_u (gq_i W 4) p.toInt 1 q = _)
        by_cases e9 : q = p.toInt
        · rw [e9, gz_us, gz_us]; exact Or.inl rfl
        · exact Or.inr ⟨e9, gz_un _ _ e9⟩
    · refine ⟨0, gs_f W 0 0, ?_, Or.inr ⟨gs_i M 7 (gz_u (gq_i M 7) p.toInt 1), ?_, rfl, key _ (fun q q1 q2 => ?_) ⟨rfl, rfl, rfl, rfl, rfl, rfl, rfl, rfl, ⟨rfl, rfl, rfl, rfl⟩, rfl, rfl⟩ rfl rfl rfl rfl rfl rfl rfl rfl⟩⟩
      · unfold fn_Mo_lock
        rw [h4, Option.bind_some, if_neg (show ¬ ((1 : Int32) = 0) by decide), if_pos hr, if_neg (by rw [w4]; exact e)]
      · unfold fn_PS_lock
        rw [h3]
        show gb_r (if _ then _ else _) = _
        rw [if_pos hr, if_neg e]
        rfl
      · show gq_i W 4 q = _ ∨ (_ ∧ gq_i W 4 q = _)
        by_cases e9 : q = p.toInt
        · rw [e9, gz_us, w4]
          rcases hl with h | h
          · exact absurd h e
          · exact Or.inl h
        · exact Or.inr ⟨e9, rfl⟩
  · refine ⟨0, gs_f W 0 1, ?_, Or.inl ⟨1, ?_, Or.inl rfl, rfl, rl_0 hR 1⟩⟩
    · unfold fn_Mo_lock
      rw [h4, Option.bind_some, if_pos rfl]
    · unfold fn_PS_lock
      rw [h3]
      rfl
