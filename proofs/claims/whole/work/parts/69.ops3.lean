/-! pair, pin, undo, note -/
theorem op_pair {M W : gq_M} (hR : rl_R M W) (a b : Int32) : rt_I M (fn_PS_pair a b M) (fn_Mo_pair a b W) rt_k := by
  obtain ⟨⟨hC, hS, hZ, hT, hG, hQ⟩, hN, hH, hJ, hcm⟩ := id hR
  have h80 := hC.2.2
  have n1 : ¬ ((1 : Int32) = 0) := by decide
  rcases op_pin? hC a with ⟨a1, a2, a3, a4⟩ | ⟨a3, a4⟩
  · rcases op_pin? hC b with ⟨b1, b2, b3, b4⟩ | ⟨b3, b4⟩
    · have har : 0 ≤ a.toInt ∧ a.toInt < ((80 : Nat) : Int) := by omega
      have hbr : 0 ≤ b.toInt ∧ b.toInt < ((80 : Nat) : Int) := by omega
      obtain ⟨⟨wa0, -⟩, -, -, -, -, wa5, ppa⟩ := hS a.toInt a1 a2
      obtain ⟨⟨wb0, -⟩, -, -, -, -, wb5, ppb⟩ := hS b.toInt b1 b2
      have hF : ∀ r, (if a = b then some (0, M) else if 0 ≤ a.toInt ∧ a.toInt < ((80 : Nat) : Int) then if 0 ≤ b.toInt ∧ b.toInt < ((80 : Nat) : Int) then if gq_i M 1 a.toInt = gq_i M 1 b.toInt then (fn_Pi_isPaired a M).bind fun q9 => if q9 = 0 then (fn_Pi_isPaired b M).bind fun q12 => if q12 = 0 then (fn_Pi_join a b M).bind fun q15 => some (1, q15) else some (0, M) else some (0, M) else some (0, M) else none else none) = some r → fn_PS_pair a b M = some (.inr r) := by
        intro r hr
        unfold fn_PS_pair
        rw [a3]
        show gb_x _ _ = _
        rw [b3]
        show gb_r _ = _
        rw [hr]
        rfl
      have hW : ∀ r, (if a = b then some (0, gs_f W 0 0) else if 0 ≤ a.toInt ∧ a.toInt < ((80 : Nat) : Int) then if 0 ≤ b.toInt ∧ b.toInt < ((80 : Nat) : Int) then if gq_i W 0 a.toInt = gq_i W 0 b.toInt then if gq_i W 5 a.toInt = -1 then if gq_i W 5 b.toInt = -1 then some (1, gs_i (gs_i (gs_i (gs_f W 0 0) 5 (gz_u (gq_i W 5) a.toInt b)) 5 (gz_u (gz_u (gq_i W 5) a.toInt b) b.toInt a)) 6 (gz_u (gq_i W 6) a.toInt 1)) else some (0, gs_f W 0 0) else some (0, gs_f W 0 0) else some (0, gs_f W 0 0) else none else none) = some r → fn_Mo_pair a b W = some r := by
        intro r hr
        unfold fn_Mo_pair
        rw [a4, Option.bind_some, if_neg n1, b4, Option.bind_some, if_neg n1]
        exact hr
      have no : (∃ x, x = (0 : Int32)) → fn_PS_pair a b M = some (.inr (0, M)) → fn_Mo_pair a b W = some (0, gs_f W 0 0) → rt_I M (fn_PS_pair a b M) (fn_Mo_pair a b W) rt_k := fun _ h1 h2 => ⟨0, gs_f W 0 0, h2, Or.inr ⟨M, h1, rfl, rl_0 hR 0⟩⟩
      by_cases e1 : a = b
      · exact no ⟨0, rfl⟩ (hF _ (by rw [if_pos e1])) (hW _ (by rw [if_pos e1]))
      · by_cases e2 : gq_i M 1 a.toInt = gq_i M 1 b.toInt
        · have e2' : gq_i W 0 a.toInt = gq_i W 0 b.toInt := by rw [wa0, wb0]; exact e2
          by_cases e3 : gq_i M 5 a.toInt = -1
          · by_cases e4 : gq_i M 5 b.toInt = -1
            · have e1' : a.toInt ≠ b.toInt := fun z => e1 (pa_eq.mpr z)
              refine ⟨1, gs_i (gs_i (gs_i (gs_f W 0 0) 5 (gz_u (gq_i W 5) a.toInt b)) 5 (gz_u (gz_u (gq_i W 5) a.toInt b) b.toInt a)) 6 (gz_u (gq_i W 6) a.toInt 1), hW _ (by rw [if_neg e1, if_pos har, if_pos hbr, if_pos e2', if_pos (by rw [wa5]; exact e3), if_pos (by rw [wb5]; exact e4)]), Or.inr ⟨gs_i (gs_i (gs_i M 5 (gz_u (gq_i M 5) a.toInt b)) 5 (gz_u (gz_u (gq_i M 5) a.toInt b) b.toInt a)) 6 (gz_u (gq_i M 6) b.toInt 1), hF _ ?_, rfl, ?_⟩⟩
              · rw [if_neg e1, if_pos har, if_pos hbr, if_pos e2, sw_pd har, if_pos e3, Option.bind_some, if_pos rfl, sw_pd hbr, if_pos e4, Option.bind_some, if_pos rfl]
                unfold fn_Pi_join
                rw [if_pos har, if_pos hbr, Option.bind_some]
              · have u6a : gq_i M 6 a.toInt = 0 := by
                  rcases ppa with h | h
                  · exact h.2.1
                  · rw [e3] at h
                    exact absurd h.1 (by decide)
                have u6b : gq_i W 6 b.toInt = 0 := by
                  rcases ppb with h | h
                  · exact h.2.2
                  · rw [e4] at h
                    exact absurd h.1 (by decide)
                refine ⟨⟨hC, fun q q1 q2 => ?_, fun q q1 q2 => ?_, hT, rp_Gm (M := M) rfl rfl rfl hG, hQ⟩, hN, rp_Hgo hH rfl rfl rfl (fun r hr => (gq_un _ _ (by omega)).trans ((gq_un _ _ (by omega)).trans (gq_un _ _ (by omega)))) (Int.le_refl _) rfl rfl rfl, hJ, hcm⟩
                · obtain ⟨s1, s2, s3, s4, s5, s7, s8⟩ := hS q q1 q2
                  refine ⟨s1, s2, s3, s4, s5, ?_, ?_⟩
                  · show gz_u (gz_u (gq_i W 5) a.toInt b) b.toInt a q = gz_u (gz_u (gq_i M 5) a.toInt b) b.toInt a q
                    by_cases z1 : q = b.toInt
                    · rw [z1, gz_us, gz_us]
                    · rw [gz_un _ _ z1, gz_un _ _ z1]
                      by_cases z2 : q = a.toInt
                      · rw [z2, gz_us, gz_us]
                      · rw [gz_un _ _ z2, gz_un _ _ z2]; exact s7
                  · have p5 : ∀ x, gq_i (gs_i (gs_i (gs_i M 5 (gz_u (gq_i M 5) a.toInt b)) 5 (gz_u (gz_u (gq_i M 5) a.toInt b) b.toInt a)) 6 (gz_u (gq_i M 6) b.toInt 1)) 5 x = gz_u (gz_u (gq_i M 5) a.toInt b) b.toInt a x := fun _ => rfl
                    have p6 : ∀ x, gq_i (gs_i (gs_i (gs_i M 5 (gz_u (gq_i M 5) a.toInt b)) 5 (gz_u (gz_u (gq_i M 5) a.toInt b) b.toInt a)) 6 (gz_u (gq_i M 6) b.toInt 1)) 6 x = gz_u (gq_i M 6) b.toInt 1 x := fun _ => rfl
                    have w6 : ∀ x, gq_i (gs_i (gs_i (gs_i (gs_f W 0 0) 5 (gz_u (gq_i W 5) a.toInt b)) 5 (gz_u (gz_u (gq_i W 5) a.toInt b) b.toInt a)) 6 (gz_u (gq_i W 6) a.toInt 1)) 6 x = gz_u (gq_i W 6) a.toInt 1 x := fun _ => rfl
                    have p1 : ∀ x, gq_i (gs_i (gs_i (gs_i M 5 (gz_u (gq_i M 5) a.toInt b)) 5 (gz_u (gz_u (gq_i M 5) a.toInt b) b.toInt a)) 6 (gz_u (gq_i M 6) b.toInt 1)) 1 x = gq_i M 1 x := fun _ => rfl
                    have va : gz_u (gz_u (gq_i M 5) a.toInt b) b.toInt a a.toInt = b := by rw [gz_un _ _ e1', gz_us]
                    have vb : gz_u (gz_u (gq_i M 5) a.toInt b) b.toInt a b.toInt = a := gz_us _ _ _
                    unfold rp_pp
                    rw [p5, p6, w6]
                    by_cases z1 : q = a.toInt
                    · subst z1
                      refine Or.inr ?_
                      rw [va, p5, p6, p1, p1, vb, gz_un _ _ e1', gz_us, gz_us]
                      exact ⟨b1, b2, fun z => e1' z.symm, rfl, e2.symm, Or.inl ⟨u6a, rfl, rfl⟩⟩
                    · by_cases z2 : q = b.toInt
                      · subst z2
                        refine Or.inr ?_
                        rw [vb, p5, p6, p1, p1, va, gz_us, gz_un _ _ (fun z => e1' z.symm), gz_un _ _ e1']
                        exact ⟨a1, a2, e1', rfl, e2, Or.inr ⟨rfl, u6b, u6a⟩⟩
                      · rw [gz_un _ _ z2, gz_un _ _ z1, gz_un _ _ z2, gz_un _ _ z1]
                        rcases s8 with h | ⟨h1, h2, h3, h4, h5, h6⟩
                        · exact Or.inl h
                        · have za : (gq_i M 5 q).toInt ≠ a.toInt := fun z => by
                            rw [z, e3] at h4
                            have : (-1 : Int32).toInt = -1 := rfl
                            have q1' : 0 ≤ q := q1
                            omega
                          have zb : (gq_i M 5 q).toInt ≠ b.toInt := fun z => by
                            rw [z, e4] at h4
                            have : (-1 : Int32).toInt = -1 := rfl
                            have q1' : 0 ≤ q := q1
                            omega
                          refine Or.inr ?_
                          rw [p5, p6, p1, p1, gz_un _ _ zb, gz_un _ _ za, gz_un _ _ zb]
                          exact ⟨h1, h2, h3, h4, h5, h6⟩
                · obtain ⟨s1, s2, s3, s4, s5, s6⟩ := hZ q q1 q2
                  have q1' : (gq_f M 1).toInt ≤ q := q1
                  refine ⟨s1, s2, ?_, ?_, s5, s6⟩
                  · show gz_u (gq_i M 6) b.toInt 1 q = 0
                    rw [gz_un _ _ (by omega)]; exact s3
                  · show gz_u (gq_i W 6) a.toInt 1 q = 0
                    rw [gz_un _ _ (by omega)]; exact s4
            · refine no ⟨0, rfl⟩ (hF _ ?_) (hW _ ?_)
              · rw [if_neg e1, if_pos har, if_pos hbr, if_pos e2, sw_pd har, if_pos e3, Option.bind_some, if_pos rfl, sw_pd hbr, if_neg e4, Option.bind_some, if_neg n1]
              · rw [if_neg e1, if_pos har, if_pos hbr, if_pos e2', if_pos (by rw [wa5]; exact e3), if_neg (by rw [wb5]; exact e4)]
          · refine no ⟨0, rfl⟩ (hF _ ?_) (hW _ ?_)
            · rw [if_neg e1, if_pos har, if_pos hbr, if_pos e2, sw_pd har, if_neg e3, Option.bind_some, if_neg n1]
            · rw [if_neg e1, if_pos har, if_pos hbr, if_pos e2', if_neg (by rw [wa5]; exact e3)]
        · refine no ⟨0, rfl⟩ (hF _ ?_) (hW _ ?_)
          · rw [if_neg e1, if_pos har, if_pos hbr, if_neg e2]
          · rw [if_neg e1, if_pos har, if_pos hbr, if_neg (by rw [wa0, wb0]; exact e2)]
    · refine ⟨0, gs_f W 0 1, ?_, Or.inl ⟨1, ?_, Or.inl rfl, rfl, rl_0 hR 1⟩⟩
      · unfold fn_Mo_pair
        rw [a4, Option.bind_some, if_neg n1, b4, Option.bind_some, if_pos rfl]
      · unfold fn_PS_pair
        rw [a3]
        show gb_x _ _ = _
        rw [b3]
        rfl
  · refine ⟨0, gs_f W 0 1, ?_, Or.inl ⟨1, ?_, Or.inl rfl, rfl, rl_0 hR 1⟩⟩
    · unfold fn_Mo_pair
      rw [a4, Option.bind_some, if_pos rfl]
    · unfold fn_PS_pair
      rw [a3]
      rfl
theorem un_nd {M M2 : gq_M} {g : Int32} : ∀ {c : Nat}, (∀ p : Int, 0 ≤ p → p < c → gq_i M2 1 p = gq_i M 1 p) → un_n M2 g c = un_n M g c
  | 0, _ => rfl
  | c + 1, h => by
    unfold un_n
    rw [un_nd (c := c) (fun p a b => h p a (by omega)), h (c : Int) (by omega) (by omega)]
theorem un_nle {M : gq_M} {g : Int32} : ∀ c : Nat, un_n M g c ≤ c
  | 0 => Nat.le_refl _
  | c + 1 => by
    have := un_nle (M := M) (g := g) c
    unfold un_n
    by_cases h : gq_i M 1 (c : Int) = g
    · rw [if_pos h]; omega
    · rw [if_neg h]; omega
/-- the model counts the group's pins -/
theorem op_cnt {M W : gq_M} {g n : Int32} {x y : Int64} (hC : rp_C M W) (hS : rp_S M W) : ∀ (k c : Nat) (u v : Int32) (f : Nat), v.toInt = c → c + k = lm_c M → u.toInt = un_n M g c → ∃ u2 v2 : Int32, fl_Mo_pin_69 (f + (k + 1)) g x y n u v W = fl_Mo_pin_69 (f + 1) g x y n u2 v2 W ∧ v2.toInt = lm_c M ∧ u2.toInt = un_n M g (lm_c M)
  | 0, c, u, v, f, hv, hk, hu => ⟨u, v, rfl, by rw [hv]; omega, by rw [hu, show c = lm_c M by omega]⟩
  | k + 1, c, u, v, f, hv, hk, hu => by
    have h80 := hC.2.2
    have hcl : (c : Int) < (gq_f M 1).toInt := by unfold lm_c at hk; omega
    have e1 : (v + 1).toInt = ((c + 1 : Nat) : Int) := by rw [pa_1 (by omega)]; omega
    have hle := un_nle (M := M) (g := g) c
    have hn : un_n M g (c + 1) = un_n M g c + (if gq_i M 1 (c : Int) = g then 1 else 0) := rfl
    have w0 := (hS (c : Int) (by omega) hcl).1.1
    have ex0 : (u + 0).toInt = u.toInt := by rw [Int32.add_zero]
    by_cases e : gq_i M 1 (c : Int) = g
    · rw [if_pos e] at hn
      have ex : (u + 1).toInt = u.toInt + 1 := pa_1 (by omega)
      obtain ⟨u2, v2, g1, g2⟩ := op_cnt (g := g) (n := n) (x := x) (y := y) hC hS k (c + 1) (u + 1) (v + 1) f e1 (by omega) (by rw [hn, ex, hu]; omega)
      refine ⟨u2, v2, ?_, g2⟩
      show fl_Mo_pin_69 (f + (k + 1) + 1) g x y n u v W = _
      rw [fl_Mo_pin_69, if_neg (by rw [pa_le, hC.1.2, hv]; omega), if_pos (by omega), hv, if_pos (by rw [w0]; exact e)]
      exact g1
    · rw [if_neg e] at hn
      obtain ⟨u2, v2, g1, g2⟩ := op_cnt (g := g) (n := n) (x := x) (y := y) hC hS k (c + 1) (u + 0) (v + 1) f e1 (by omega) (by rw [hn, ex0, hu]; omega)
      refine ⟨u2, v2, ?_, g2⟩
      show fl_Mo_pin_69 (f + (k + 1) + 1) g x y n u v W = _
      rw [fl_Mo_pin_69, if_neg (by rw [pa_le, hC.1.2, hv]; omega), if_pos (by omega), hv, if_neg (by rw [w0]; exact e)]
      exact g1
set_option maxHeartbeats 1000000 in
theorem op_pin {M W : gq_M} (hR : rl_R M W) (g : Int32) (x y : Int64) (n : Int32) : rt_I M (fn_PS_pin g x y n M) (fn_Mo_pin g x y n W) rt_k := by
  obtain ⟨⟨hC, hS, hZ, hT, hG, hQ⟩, hN, hH, hJ, hcm⟩ := id hR
  have h80 := hC.2.2
  have h12 := hC.2.1
  have e0 : (0 : Int32).toInt = 0 := rfl
  have e12 : (12 : Int32).toInt = 12 := rfl
  have e80 : (80 : Int32).toInt = 80 := rfl
  have n1 : ¬ ((1 : Int32) = 0) := by decide
  by_cases c1 : g < 0
  · refine ⟨0, gs_f W 0 1, by unfold fn_Mo_pin; rw [if_pos c1], Or.inl ⟨1, by unfold fn_PS_pin; rw [if_pos c1], Or.inl rfl, rfl, rl_0 hR 1⟩⟩
  · by_cases c2 : g < gq_f M 0
    · have c2' : ¬ gq_f W 1 ≤ g := by rw [hC.1.1, pa_le]; have := pa_lt.mp c2; omega
      have g0 : 0 ≤ g.toInt := by rw [pa_lt, e0] at c1; omega
      have g1 := pa_lt.mp c2
      rcases op_place? x y M W with ⟨p1, p2, p3, p4, p5, p6⟩ | ⟨p5, p6⟩
      · rcases op_net? n M W with ⟨nn1, nn2, q3, q4⟩ | ⟨q3, q4⟩
        · -- all is well told
          obtain ⟨u2, v2, k1, k2, k3⟩ := op_cnt (M := M) (W := gs_f W 0 0) (g := g) (n := n) (x := x) (y := y) hC hS (lm_c M) 0 0 0 (4999 - lm_c M) rfl (by omega) rfl
          have hgg := hG g g0 (by omega)
          have hlc : ((lm_c M : Nat) : Int) = (gq_f M 1).toInt := by unfold lm_c; omega
          have hmodel : fn_Mo_pin g x y n W = fl_Mo_pin_69 (4999 - lm_c M + 1) g x y n u2 v2 (gs_f W 0 0) := by
            unfold fn_Mo_pin
            rw [if_neg c1, if_neg c2', p6, Option.bind_some, if_neg n1, q4, Option.bind_some, if_neg n1, show 5000 = 4999 - lm_c M + (lm_c M + 1) by unfold lm_c; omega]
            exact k1
          have hcls : ∀ r, (if (80 : Int32) ≤ gq_f M 1 then some (-1, M) else if 0 ≤ g.toInt ∧ g.toInt < ((12 : Nat) : Int) then if gq_i M 0 g.toInt < 12 then (fn_Pi_add g x y n M).bind fun q11 => some (q11.1, q11.2) else some (-1, M) else none) = some r → fn_PS_pin g x y n M = some (.inr r) := by
            intro r hr
            unfold fn_PS_pin
            rw [if_neg c1, if_pos c2, p5]
            show (fn_PS_isNet n M).bind _ = _
            rw [q3, Option.bind_some, if_neg n1, hr]
            rfl
          have hend : fl_Mo_pin_69 (4999 - lm_c M + 1) g x y n u2 v2 (gs_f W 0 0) = (if u2 = 12 then some (-1, gs_f W 0 0) else if gq_f W 2 = 80 then some (-1, gs_f W 0 0) else if 0 ≤ (gq_f W 2).toInt ∧ (gq_f W 2).toInt < ((80 : Nat) : Int) then some (((gq_f W 2) + 1) - 1, gs_f (gs_i (gs_i (gs_i (gs_l (gs_l (gs_i (gs_f W 0 0) 0 (gz_u (gq_i W 0) (gq_f W 2).toInt g)) 0 (gz_ul (gq_l W 0) (gq_f W 2).toInt x)) 1 (gz_ul (gq_l W 1) (gq_f W 2).toInt y)) 2 (gz_u (gq_i W 2) (gq_f W 2).toInt n)) 3 (gz_u (gq_i W 3) (gq_f W 2).toInt n)) 5 (gz_u (gq_i W 5) (gq_f W 2).toInt (-1))) 2 ((gq_f W 2) + 1)) else none) := by
            rw [fl_Mo_pin_69, if_pos (by show gq_f W 2 ≤ v2; rw [pa_le, hC.1.2, k2]; omega)]
            rfl
          by_cases d1 : gq_f M 1 = 80
          · have d1' : gq_f W 2 = 80 := by rw [hC.1.2]; exact d1
            refine ⟨-1, gs_f W 0 0, ?_, Or.inr ⟨M, hcls _ ?_, rfl, rl_0 hR 0⟩⟩
            · rw [hmodel, hend]
              by_cases d2 : u2 = 12
              · rw [if_pos d2]
              · rw [if_neg d2, if_pos d1']
            · rw [if_pos (by rw [d1]; decide)]
          · have d1n : ¬ (gq_f M 1).toInt = 80 := fun z => d1 (pa_eq.mpr z)
            by_cases d2 : u2 = 12
            · have d2' : (gq_i M 0 g.toInt).toInt = 12 := by
                rw [hgg.1, ← k3, d2]; rfl
              refine ⟨-1, gs_f W 0 0, ?_, Or.inr ⟨M, hcls _ ?_, rfl, rl_0 hR 0⟩⟩
              · rw [hmodel, hend, if_pos d2]
              · rw [if_neg (by rw [pa_le, e80]; omega), if_pos (by omega), if_neg (by rw [pa_lt, e12]; omega)]
            · have d2' : (gq_i M 0 g.toInt).toInt < 12 := by
                have h9 : ¬ u2.toInt = 12 := fun z => d2 (pa_eq.mpr z)
                rw [hgg.1]
                have h10 := hgg.2
                rw [k3] at h9
                omega
              have ec : (gq_f M 1 + 1).toInt = (gq_f M 1).toInt + 1 := pa_1 (by omega)
              have em : gq_f M 1 + 1 - 1 = gq_f M 1 := by
                apply pa_eq.mpr
                have e1' : (1 : Int32).toInt = 1 := rfl
                rw [pa_sub (by rw [ec, e1']; omega) (by rw [ec, e1']; omega), ec, e1']
                omega
              refine ⟨gq_f M 1, gs_f (gs_i (gs_i (gs_i (gs_l (gs_l (gs_i (gs_f W 0 0) 0 (gz_u (gq_i W 0) (gq_f M 1).toInt g)) 0 (gz_ul (gq_l W 0) (gq_f M 1).toInt x)) 1 (gz_ul (gq_l W 1) (gq_f M 1).toInt y)) 2 (gz_u (gq_i W 2) (gq_f M 1).toInt n)) 3 (gz_u (gq_i W 3) (gq_f M 1).toInt n)) 5 (gz_u (gq_i W 5) (gq_f M 1).toInt (-1))) 2 ((gq_f M 1) + 1), ?_, Or.inr ⟨gs_i (gs_i (gs_i (gs_l (gs_l (gs_i (gs_i (gs_f M 1 ((gq_f M 1) + 1)) 0 (gz_u (gq_i M 0) g.toInt ((gq_i M 0 g.toInt) + 1))) 1 (gz_u (gq_i M 1) (gq_f M 1).toInt g)) 0 (gz_ul (gq_l M 0) (gq_f M 1).toInt x)) 1 (gz_ul (gq_l M 1) (gq_f M 1).toInt y)) 3 (gz_u (gq_i M 3) (gq_f M 1).toInt n)) 4 (gz_u (gq_i M 4) (gq_f M 1).toInt n)) 5 (gz_u (gq_i M 5) (gq_f M 1).toInt (-1)), hcls _ ?_, rfl, ?_⟩⟩
              · rw [hmodel, hend, hC.1.2, if_neg d2, if_neg d1, if_pos (by omega), em]
              · rw [if_neg (by rw [pa_le, e80]; omega), if_pos (by omega), if_pos (by rw [pa_lt, e12]; omega)]
                unfold fn_Pi_add
                rw [if_pos (by omega), if_pos (by omega), Option.bind_some]
              · -- the relation with one pin more
                generalize hM2 : gs_i (gs_i (gs_i (gs_l (gs_l (gs_i (gs_i (gs_f M 1 ((gq_f M 1) + 1)) 0 (gz_u (gq_i M 0) g.toInt ((gq_i M 0 g.toInt) + 1))) 1 (gz_u (gq_i M 1) (gq_f M 1).toInt g)) 0 (gz_ul (gq_l M 0) (gq_f M 1).toInt x)) 1 (gz_ul (gq_l M 1) (gq_f M 1).toInt y)) 3 (gz_u (gq_i M 3) (gq_f M 1).toInt n)) 4 (gz_u (gq_i M 4) (gq_f M 1).toInt n)) 5 (gz_u (gq_i M 5) (gq_f M 1).toInt (-1)) = M2
                have i0 : gq_i M2 0 = gz_u (gq_i M 0) g.toInt ((gq_i M 0 g.toInt) + 1) := by rw [← hM2]; rfl
                have i1 : gq_i M2 1 = gz_u (gq_i M 1) (gq_f M 1).toInt g := by rw [← hM2]; rfl
                have i2 : gq_i M2 2 = gq_i M 2 := by rw [← hM2]; rfl
                have i3 : gq_i M2 3 = gz_u (gq_i M 3) (gq_f M 1).toInt n := by rw [← hM2]; rfl
                have i4 : gq_i M2 4 = gz_u (gq_i M 4) (gq_f M 1).toInt n := by rw [← hM2]; rfl
                have i5 : gq_i M2 5 = gz_u (gq_i M 5) (gq_f M 1).toInt (-1) := by rw [← hM2]; rfl
                have i6 : gq_i M2 6 = gq_i M 6 := by rw [← hM2]; rfl
                have i7 : gq_i M2 7 = gq_i M 7 := by rw [← hM2]; rfl
                have i8 : gq_i M2 8 = gq_i M 8 := by rw [← hM2]; rfl
                have i9 : gq_i M2 9 = gq_i M 9 := by rw [← hM2]; rfl
                have i12 : gq_i M2 12 = gq_i M 12 := by rw [← hM2]; rfl
                have i15 : gq_i M2 15 = gq_i M 15 := by rw [← hM2]; rfl
                have i16 : gq_i M2 16 = gq_i M 16 := by rw [← hM2]; rfl
                have i17 : gq_i M2 17 = gq_i M 17 := by rw [← hM2]; rfl
                have i18 : ∀ r, r < 11 → gq_i M2 (18 + r) = gq_i M (18 + r) := by
                  intro r hr
                  rw [← hM2]
                  exact (gq_un _ _ (by omega)).trans ((gq_un _ _ (by omega)).trans ((gq_un _ _ (by omega)).trans ((gq_un _ _ (by omega)).trans (gq_un _ _ (by omega)))))
                have l0 : gq_l M2 0 = gz_ul (gq_l M 0) (gq_f M 1).toInt x := by rw [← hM2]; rfl
                have l1 : gq_l M2 1 = gz_ul (gq_l M 1) (gq_f M 1).toInt y := by rw [← hM2]; rfl
                have l2 : gq_l M2 2 = gq_l M 2 := by rw [← hM2]; rfl
                have l3 : gq_l M2 3 = gq_l M 3 := by rw [← hM2]; rfl
                have f0 : gq_f M2 0 = gq_f M 0 := by rw [← hM2]; rfl
                have f1 : gq_f M2 1 = gq_f M 1 + 1 := by rw [← hM2]; rfl
                have f3 : gq_f M2 3 = gq_f M 3 := by rw [← hM2]; rfl
                have f4 : gq_f M2 4 = gq_f M 4 := by rw [← hM2]; rfl
                have f5 : gq_f M2 5 = gq_f M 5 := by rw [← hM2]; rfl
                have fj : gq_j M2 0 = gq_j M 0 := by rw [← hM2]
                clear hM2
                have hz := hZ (gq_f M 1).toInt (by omega) (by omega)
                refine ⟨⟨⟨⟨by rw [f0]; exact hC.1.1, by rw [f1]; rfl⟩, by rw [f0]; exact h12, by rw [f1, ec]; omega⟩, fun q q1 q2 => ?_, fun q q1 q2 => ?_, ?_, fun gg gg0 gg1 => ?_, ?_⟩, fun q q1 q2 => ?_, rp_Hgo hH rfl rfl i15 i18 (by rw [f1, ec]; omega) f3 f4 rfl, by rw [fj]; exact hJ, fun z z1 z2 => ?_⟩
                · rw [f1, ec] at q2
                  rw [i1, i2, i4, i5, i7, l0, l1, f0]
                  show (gz_u (gq_i W 0) (gq_f M 1).toInt g q = _ ∧ _) ∧ (gz_ul (gq_l W 0) (gq_f M 1).toInt x q = _ ∧ gz_ul (gq_l W 1) (gq_f M 1).toInt y q = _ ∧ _) ∧ (gq_i W 1 q = _ ∧ _) ∧ gz_u (gq_i W 3) (gq_f M 1).toInt n q = _ ∧ (gq_i W 4 q = _ ∧ _) ∧ gz_u (gq_i W 5) (gq_f M 1).toInt (-1) q = _ ∧ _
                  by_cases e : q = (gq_f M 1).toInt
                  · subst e
                    simp only [gz_us, gz_uls]
                    refine ⟨⟨trivial, g0, g1⟩, ⟨trivial, trivial, p1, p2, p3, p4⟩, ⟨by rw [hz.1, hz.2.1], by rw [hz.1]; decide, by rw [hz.1]; decide⟩, trivial, ⟨by rw [hz.2.2.2.2.1, hz.2.2.2.2.2], Or.inl hz.2.2.2.2.1⟩, trivial, ?_⟩
                    unfold rp_pp
                    rw [i5, i6]
                    exact Or.inl ⟨gz_us _ _ _, hz.2.2.1, hz.2.2.2.1⟩
                  · obtain ⟨s1, s2, s3, s4, s5, s7, s8⟩ := hS q q1 (by omega)
                    rw [gz_un _ _ e, gz_un _ _ e, gz_uln _ _ e, gz_uln _ _ e, gz_uln _ _ e, gz_uln _ _ e, gz_un _ _ e, gz_un _ _ e, gz_un _ _ e, gz_un _ _ e]
                    refine ⟨s1, s2, s3, s4, s5, s7, ?_⟩
                    unfold rp_pp
                    rw [i5, i6, i1, f1, ec, gz_un _ _ e, gz_un _ _ e]
                    rcases s8 with h | ⟨t1, t2, t3, t4, t5, t6⟩
                    · exact Or.inl h
                    · refine Or.inr ?_
                      rw [gz_un _ _ (by omega), gz_un _ _ (by omega)]
                      exact ⟨t1, by omega, t3, t4, t5, t6⟩
                · rw [f1, ec] at q1
                  obtain ⟨s1, s2, s3, s4, s5, s6⟩ := hZ q (by omega) q2
                  rw [i2, i6, i7]
                  exact ⟨s1, s2, s3, s4, s5, s6⟩
                · unfold rp_T
                  rw [i8, i9, l2, l3]
                  exact hT
                · have hl2 : lm_c M2 = lm_c M + 1 := by unfold lm_c; rw [f1, ec]; omega
                  obtain ⟨t1, t2⟩ := hG gg gg0 gg1
                  have hu : un_n M2 gg (lm_c M2) = un_n M gg (lm_c M) + (if g = gg then 1 else 0) := by
                    rw [hl2]
                    show un_n M2 gg (lm_c M) + (if gq_i M2 1 ((lm_c M : Nat) : Int) = gg then 1 else 0) = _
                    rw [un_nd (M := M) (fun p h1 h2 => by rw [i1, gz_un _ _ (by omega)]), i1, hlc, gz_us]
                  rw [hu, i0]
                  by_cases e : g = gg
                  · rw [if_pos e, ← e, gz_us, pa_1 (by omega)]
                    rw [← e] at t1 t2
                    exact ⟨by omega, by omega⟩
                  · rw [if_neg e, gz_un _ _ (fun z => e (pa_eq.mpr z.symm))]
                    exact ⟨by omega, by omega⟩
                · unfold rp_Q
                  rw [i16, i17, f5]
                  exact hQ
                · rw [f1, ec] at q2
                  rw [i3]
                  show gz_u (gq_i W 2) (gq_f M 1).toInt n q = _ ∧ _
                  by_cases e : q = (gq_f M 1).toInt
                  · rw [e, gz_us, gz_us]; exact ⟨rfl, nn1, nn2⟩
                  · rw [gz_un _ _ e, gz_un _ _ e]
                    exact hN q q1 (by omega)
                · show 0 ≤ (gq_i M2 12 z).toInt ∧ (gq_i M2 12 z).toInt ≤ 12
                  rw [i12]
                  exact hcm z z1 z2
        · refine ⟨0, gs_f W 0 2, ?_, Or.inl ⟨2, ?_, Or.inr rfl, rfl, rl_0 hR 2⟩⟩
          · unfold fn_Mo_pin
            rw [if_neg c1, if_neg c2', p6, Option.bind_some, if_neg n1, q4, Option.bind_some, if_pos rfl]
          · unfold fn_PS_pin
            rw [if_neg c1, if_pos c2, p5]
            show (fn_PS_isNet n M).bind _ = _
            rw [q3, Option.bind_some, if_pos rfl]
      · refine ⟨0, gs_f W 0 2, ?_, Or.inl ⟨2, ?_, Or.inr rfl, rfl, rl_0 hR 2⟩⟩
        · unfold fn_Mo_pin
          rw [if_neg c1, if_neg c2', p6, Option.bind_some, if_pos rfl]
        · unfold fn_PS_pin
          rw [if_neg c1, if_pos c2, p5]
          rfl
    · refine ⟨0, gs_f W 0 1, ?_, Or.inl ⟨1, ?_, Or.inl rfl, rfl, rl_0 hR 1⟩⟩
      · unfold fn_Mo_pin
        rw [if_neg c1, if_pos (by rw [hC.1.1, pa_le]; rw [pa_lt] at c2; omega)]
      · unfold fn_PS_pin
        rw [if_neg c1, if_neg c2]
