/-! bank, needs, target, pair -/
abbrev we_0 : Nat → Prop := fun i => i = 0
theorem op_bank {M W : gq_M} (hR : rl_R M W) (p b : Int32) : rt_I M (fn_PS_bank p b M) (fn_Mo_bank p b W) rt_k := by
  obtain ⟨⟨hC, hS, hZ, hT, hG, hQ⟩, hN, hH, hJ, hcm⟩ := id hR
  have e0 : (0 : Int32).toInt = 0 := rfl
  have e15 : (15 : Int32).toInt = 15 := rfl
  have e16 : (16 : Int32).toInt = 16 := rfl
  rcases op_pin? hC p with ⟨h1, h2, h3, h4⟩ | ⟨h3, h4⟩
  · have hr : 0 ≤ p.toInt ∧ p.toInt < ((80 : Nat) : Int) := by have := hC.2.2; omega
    by_cases c1 : b < 0
    · refine ⟨0, gs_f W 0 2, ?_, Or.inl ⟨2, ?_, Or.inr rfl, rfl, rl_0 hR 2⟩⟩
      · unfold fn_Mo_bank
        rw [h4, Option.bind_some, if_neg (show ¬ ((1 : Int32) = 0) by decide), if_pos c1]
      · unfold fn_PS_bank
        rw [h3]
        show (if _ then _ else _) = _
        rw [if_pos c1]
    · by_cases c2 : b < 16
      · have c3 : b ≤ 15 := by rw [pa_le, e15]; have := pa_lt.mp c2; omega
        have c1' : 0 ≤ b.toInt := by rw [pa_lt, e0] at c1; omega
        have c3' := pa_le.mp c3
        rw [e15] at c3'
        obtain ⟨-, -, ⟨w1, -⟩, -⟩ := hS p.toInt h1 h2
        have key : ∀ W2 : gq_M, pf_G (fun a => a = 1) (fun _ => False) we_0 W W2 → gq_i W2 1 p.toInt = b → (∀ q, q ≠ p.toInt → gq_i W2 1 q = gq_i W 1 q) → rl_R (gs_i M 2 (gz_u (gq_i M 2) p.toInt b)) W2 := by
          intro W2 hf k1 k2
          refine ⟨⟨⟨⟨(hf.2.2.1 1 (by decide)).trans hC.1.1, (hf.2.2.1 2 (by decide)).trans hC.1.2⟩, hC.2⟩, fun q q1 q2 => ?_, fun q q1 q2 => ?_, ?_, rp_Gm (M := M) rfl rfl rfl hG, ?_⟩, fun q q1 q2 => ?_, rp_Hgo hH (hf.1 9 (by decide)) (hf.1 10 (by decide)) rfl (fun r hr => gq_un _ _ (by omega)) (Int.le_refl _) rfl rfl (hf.2.2.1 3 (by decide)), (hf.2.2.2 0).trans hJ, hcm⟩
          · obtain ⟨a1, a2, a3, a4, a5, a7, a8⟩ := hS q q1 q2
            refine ⟨by rw [hf.1 0 (by decide)]; exact a1, by rw [hf.2.1 0 (fun z => z), hf.2.1 1 (fun z => z)]; exact a2, ?_, by rw [hf.1 3 (by decide)]; exact a4, by rw [hf.1 4 (by decide)]; exact a5, by rw [hf.1 5 (by decide)]; exact a7, ?_⟩
            · show gq_i W2 1 q = gz_u (gq_i M 2) p.toInt b q ∧ 0 ≤ (gz_u (gq_i M 2) p.toInt b q).toInt ∧ (gz_u (gq_i M 2) p.toInt b q).toInt ≤ 15
              by_cases e : q = p.toInt
              · rw [e, gz_us]; exact ⟨k1, c1', c3'⟩
              · rw [gz_un _ _ e, k2 q e]; exact a3
            · unfold rp_pp
              rw [hf.1 6 (by decide)]
              exact a8
          · obtain ⟨a1, a2, a3, a4, a5, a6⟩ := hZ q q1 q2
            have q1' : (gq_f M 1).toInt ≤ q := q1
            refine ⟨?_, by rw [k2 q (by omega)]; exact a2, a3, by rw [hf.1 6 (by decide)]; exact a4, a5, by rw [hf.1 4 (by decide)]; exact a6⟩
            show gz_u (gq_i M 2) p.toInt b q = 0
            rw [gz_un _ _ (by omega)]; exact a1
          · unfold rp_T
            rw [hf.1 7 (by decide), hf.1 8 (by decide), hf.2.1 2 (fun z => z), hf.2.1 3 (fun z => z)]
            exact hT
          · unfold rp_Q
            rw [hf.1 11 (by decide), hf.1 12 (by decide), hf.2.2.1 4 (by decide)]
            exact hQ
          · rw [hf.1 2 (by decide)]
            exact hN q q1 q2
        by_cases e : gq_i M 2 p.toInt = b
        · refine ⟨0, gs_f W 0 0, ?_, Or.inr ⟨_, ?_, rfl, key _ (pg_f rfl (pg_r _ _ _ _)) (w1.trans e) (fun _ _ => rfl)⟩⟩
          · unfold fn_Mo_bank
            rw [h4, Option.bind_some, if_neg (show ¬ ((1 : Int32) = 0) by decide), if_neg c1, if_pos c3, if_pos hr, if_pos (by rw [w1]; exact e)]
          · unfold fn_PS_bank
            rw [h3]
            show (if _ then _ else _) = _
            rw [if_neg c1, if_pos c2, if_pos hr, if_pos e]
            rfl
        · refine ⟨1, gs_i (gs_f W 0 0) 1 (gz_u (gq_i W 1) p.toInt b), ?_, Or.inr ⟨_, ?_, rfl, key _ (pg_i rfl (pg_f rfl (pg_r _ _ _ _))) (gz_us _ _ _) (fun q hq => gz_un _ _ hq)⟩⟩
          · unfold fn_Mo_bank
            rw [h4, Option.bind_some, if_neg (show ¬ ((1 : Int32) = 0) by decide), if_neg c1, if_pos c3, if_pos hr, if_neg (by rw [w1]; exact e)]
          · unfold fn_PS_bank
            rw [h3]
            show (if _ then _ else _) = _
            rw [if_neg c1, if_pos c2, if_pos hr, if_neg e]
            rfl
      · refine ⟨0, gs_f W 0 2, ?_, Or.inl ⟨2, ?_, Or.inr rfl, rfl, rl_0 hR 2⟩⟩
        · unfold fn_Mo_bank
          rw [h4, Option.bind_some, if_neg (show ¬ ((1 : Int32) = 0) by decide), if_neg c1, if_neg (by rw [pa_le, e15]; rw [pa_lt, e16] at c2; omega)]
        · unfold fn_PS_bank
          rw [h3]
          show (if _ then _ else _) = _
          rw [if_neg c1, if_neg c2]
  · refine ⟨0, gs_f W 0 1, ?_, Or.inl ⟨1, ?_, Or.inl rfl, rfl, rl_0 hR 1⟩⟩
    · unfold fn_Mo_bank
      rw [h4, Option.bind_some, if_pos rfl]
    · unfold fn_PS_bank
      rw [h3]
      rfl
theorem op_cnet {q : Int32} {M W : gq_M} : (0 ≤ q.toInt ∧ q.toInt < 200 ∧ fn_PS_checkNet q M = some (.inr ()) ∧ fn_Mo_isNet q W = some 1) ∨ (fn_PS_checkNet q M = some (.inl 1) ∧ fn_Mo_isNet q W = some 0) := by
  unfold fn_PS_checkNet
  rcases op_net? q M W with ⟨h1, h2, h3, h4⟩ | ⟨h3, h4⟩
  · rw [h3, Option.bind_some, if_neg (by decide)]
    exact Or.inl ⟨h1, h2, rfl, h4⟩
  · rw [h3, Option.bind_some, if_pos rfl]
    exact Or.inr ⟨rfl, h4⟩
/-- only what is told of nets has changed -/
theorem op_T {M W M2 W2 : gq_M} (hR : rl_R M W) (hm : pf_F (fun a => a = 8 ∨ a = 9) (fun a => a = 2 ∨ a = 3) M M2) (hw : pf_G (fun a => a = 7 ∨ a = 8) (fun a => a = 2 ∨ a = 3) we_0 W W2) (hT : rp_T M2 W2) : rl_R M2 W2 := by
  obtain ⟨⟨hC, hS, hZ, -, hG, hQ⟩, hN, hH, hJ, hcm⟩ := hR
  have f1 : gq_f M2 1 = gq_f M 1 := hm.2.2.1 1
  refine ⟨⟨⟨⟨?_, ?_⟩, ?_⟩, ?_, ?_, hT, rp_Gm (M := M) (hm.1 0 (by decide)) (hm.1 1 (by decide)) f1 hG, ?_⟩, ?_, rp_Hgo hH (hw.1 9 (by decide)) (hw.1 10 (by decide)) (hm.1 15 (by decide)) (fun r hr => hm.1 _ (by omega)) (by rw [f1]; exact Int.le_refl _) (hm.2.2.1 3) (hm.2.2.1 4) (hw.2.2.1 3 (by decide)), by rw [hw.2.2.2 0, hm.2.2.2 0]; exact hJ, fun z z1 z2 => ?_⟩
  · rw [hw.2.2.1 1 (by decide), hm.2.2.1 0]; exact hC.1.1
  · rw [hw.2.2.1 2 (by decide), f1]; exact hC.1.2
  · rw [hm.2.2.1 0, f1]; exact hC.2
  · unfold rp_S rp_pp
    rw [hm.1 1 (by decide), hm.1 2 (by decide), hm.1 4 (by decide), hm.1 5 (by decide), hm.1 6 (by decide), hm.1 7 (by decide), hm.2.1 0 (by decide), hm.2.1 1 (by decide), hm.2.2.1 0, f1, hw.1 0 (by decide), hw.1 1 (by decide), hw.1 3 (by decide), hw.1 4 (by decide), hw.1 5 (by decide), hw.1 6 (by decide), hw.2.1 0 (by decide), hw.2.1 1 (by decide)]
    exact hS
  · unfold rp_Z
    rw [hm.1 2 (by decide), hm.1 6 (by decide), hm.1 7 (by decide), f1, hw.1 1 (by decide), hw.1 4 (by decide), hw.1 6 (by decide)]
    exact hZ
  · unfold rp_Q
    rw [hm.1 16 (by decide), hm.1 17 (by decide), hm.2.2.1 5, hw.1 11 (by decide), hw.1 12 (by decide), hw.2.2.1 4 (by decide)]
    exact hQ
  · unfold rp_N
    rw [hm.1 3 (by decide), f1, hw.1 2 (by decide)]
    exact hN
  · show 0 ≤ (gq_i M2 12 z).toInt ∧ (gq_i M2 12 z).toInt ≤ 12
    rw [hm.1 12 (by decide)]
    exact hcm z z1 z2
theorem op_needs {M W : gq_M} (hR : rl_R M W) (p b : Int32) : rt_I M (fn_PS_needs p b M) (fn_Mo_needs p b W) rt_k := by
  have hT := hR.1.2.2.2.1
  have em : (-1 : Int32).toInt = -1 := rfl
  have e15 : (15 : Int32).toInt = 15 := rfl
  have e16 : (16 : Int32).toInt = 16 := rfl
  rcases op_cnet (q := p) (M := M) (W := W) with ⟨h1, h2, h3, h4⟩ | ⟨h3, h4⟩
  · have hr : 0 ≤ p.toInt ∧ p.toInt < ((200 : Nat) : Int) := by omega
    by_cases c1 : b < -1
    · refine ⟨0, gs_f W 0 2, ?_, Or.inl ⟨2, ?_, Or.inr rfl, rfl, rl_0 hR 2⟩⟩
      · unfold fn_Mo_needs
        rw [h4, Option.bind_some, if_neg (show ¬ ((1 : Int32) = 0) by decide), if_pos c1]
      · unfold fn_PS_needs
        rw [h3]
        show (if _ then _ else _) = _
        rw [if_pos c1]
    · by_cases c2 : b < 16
      · have c3 : b ≤ 15 := by rw [pa_le, e15]; have := pa_lt.mp c2; omega
        have c1' : -1 ≤ b.toInt := by rw [pa_lt, em] at c1; omega
        have c3' := pa_le.mp c3
        rw [e15] at c3'
        have eb : (b + 1).toInt = b.toInt + 1 := pa_1 (by omega)
        obtain ⟨-, -, ⟨w8, -⟩⟩ := hT p.toInt h1 h2
        have key : ∀ W2 : gq_M, pf_G (fun a => a = 7 ∨ a = 8) (fun a => a = 2 ∨ a = 3) we_0 W W2 → gq_i W2 7 = gq_i W 7 → gq_l W2 2 = gq_l W 2 → gq_l W2 3 = gq_l W 3 → (gq_i W2 8 p.toInt).toInt = b.toInt + 1 → (∀ q, q ≠ p.toInt → gq_i W2 8 q = gq_i W 8 q) → rl_R (gs_i M 9 (gz_u (gq_i M 9) p.toInt b)) W2 := by
          intro W2 hf k7 l2 l3 k1 k2
          refine op_T hR (pf_i (Or.inr rfl) (pf_r _ _ _)) hf (fun q q1 q2 => ?_)
          obtain ⟨a1, a2, a3⟩ := hT q q1 q2
          refine ⟨by rw [k7]; exact a1, by rw [l2, l3]; exact a2, ?_⟩
          show (gq_i W2 8 q).toInt = (gz_u (gq_i M 9) p.toInt b q).toInt + 1 ∧ -1 ≤ (gz_u (gq_i M 9) p.toInt b q).toInt ∧ (gz_u (gq_i M 9) p.toInt b q).toInt ≤ 15
          by_cases e : q = p.toInt
          · rw [e, gz_us]; exact ⟨k1, c1', c3'⟩
          · rw [gz_un _ _ e, k2 q e]; exact a3
        have hiff : gq_i W 8 p.toInt = b + 1 ↔ gq_i M 9 p.toInt = b := by
          rw [pa_eq, w8, eb, pa_eq (a := gq_i M 9 p.toInt)]
          omega
        by_cases e : gq_i M 9 p.toInt = b
        · refine ⟨0, gs_f W 0 0, ?_, Or.inr ⟨_, ?_, rfl, key _ (pg_f rfl (pg_r _ _ _ _)) rfl rfl rfl (by show (gq_i W 8 p.toInt).toInt = _; rw [w8, e]) (fun _ _ => rfl)⟩⟩
          · unfold fn_Mo_needs
            rw [h4, Option.bind_some, if_neg (show ¬ ((1 : Int32) = 0) by decide), if_neg c1, if_pos c3, if_pos hr, if_pos (hiff.mpr e)]
          · unfold fn_PS_needs
            rw [h3]
            show (if _ then _ else _) = _
            rw [if_neg c1, if_pos c2, if_pos hr, if_pos e]
            rfl
        · refine ⟨1, gs_i (gs_f W 0 0) 8 (gz_u (gq_i W 8) p.toInt (b + 1)), ?_, Or.inr ⟨_, ?_, rfl, key _ (pg_i (Or.inr rfl) (pg_f rfl (pg_r _ _ _ _))) rfl rfl rfl (by show (gz_u (gq_i W 8) p.toInt (b + 1) p.toInt).toInt = _; rw [gz_us, eb]) (fun q hq => gz_un _ _ hq)⟩⟩
          · unfold fn_Mo_needs
            rw [h4, Option.bind_some, if_neg (show ¬ ((1 : Int32) = 0) by decide), if_neg c1, if_pos c3, if_pos hr, if_neg (fun z => e (hiff.mp z))]
          · unfold fn_PS_needs
            rw [h3]
            show (if _ then _ else _) = _
            rw [if_neg c1, if_pos c2, if_pos hr, if_neg e]
            rfl
      · refine ⟨0, gs_f W 0 2, ?_, Or.inl ⟨2, ?_, Or.inr rfl, rfl, rl_0 hR 2⟩⟩
        · unfold fn_Mo_needs
          rw [h4, Option.bind_some, if_neg (show ¬ ((1 : Int32) = 0) by decide), if_neg c1, if_neg (by rw [pa_le, e15]; rw [pa_lt, e16] at c2; omega)]
        · unfold fn_PS_needs
          rw [h3]
          show (if _ then _ else _) = _
          rw [if_neg c1, if_neg c2]
  · refine ⟨0, gs_f W 0 1, ?_, Or.inl ⟨1, ?_, Or.inl rfl, rfl, rl_0 hR 1⟩⟩
    · unfold fn_Mo_needs
      rw [h4, Option.bind_some, if_pos rfl]
    · unfold fn_PS_needs
      rw [h3]
      rfl
theorem op_target {M W : gq_M} (hR : rl_R M W) (p : Int32) (x y : Int64) : rt_I M (fn_PS_target p x y M) (fn_Mo_target p x y W) rt_k := by
  have hT := hR.1.2.2.2.1
  rcases op_cnet (q := p) (M := M) (W := W) with ⟨h1, h2, h3, h4⟩ | ⟨h3, h4⟩
  · have hr : 0 ≤ p.toInt ∧ p.toInt < ((200 : Nat) : Int) := by omega
    rcases op_place? x y M W with ⟨p1, p2, p3, p4, p5, p6⟩ | ⟨p5, p6⟩
    · obtain ⟨⟨w7, hl⟩, ⟨w2, w3, -⟩, -⟩ := hT p.toInt h1 h2
      have key : ∀ W2 : gq_M, pf_G (fun a => a = 7 ∨ a = 8) (fun a => a = 2 ∨ a = 3) we_0 W W2 → gq_i W2 8 = gq_i W 8 → (gq_i W2 7 p.toInt = 1 ∧ gq_l W2 2 p.toInt = x ∧ gq_l W2 3 p.toInt = y) → (∀ q, q ≠ p.toInt → gq_i W2 7 q = gq_i W 7 q ∧ gq_l W2 2 q = gq_l W 2 q ∧ gq_l W2 3 q = gq_l W 3 q) → rl_R (gs_l (gs_l (gs_i M 8 (gz_u (gq_i M 8) p.toInt 1)) 2 (gz_ul (gq_l M 2) p.toInt x)) 3 (gz_ul (gq_l M 3) p.toInt y)) W2 := by
        intro W2 hf k8 k1 k2
        refine op_T hR (pf_l (Or.inr rfl) (pf_l (Or.inl rfl) (pf_i (Or.inl rfl) (pf_r _ _ _)))) hf (fun q q1 q2 => ?_)
        obtain ⟨a1, a2, a3⟩ := hT q q1 q2
        refine ⟨?_, ?_, by rw [k8]; exact a3⟩
        · show gq_i W2 7 q = gz_u (gq_i M 8) p.toInt 1 q ∧ (gz_u (gq_i M 8) p.toInt 1 q = 0 ∨ gz_u (gq_i M 8) p.toInt 1 q = 1)
          by_cases e : q = p.toInt
          · rw [e, gz_us]; exact ⟨k1.1, Or.inr rfl⟩
          · rw [gz_un _ _ e, (k2 q e).1]; exact a1
        · show gq_l W2 2 q = gz_ul (gq_l M 2) p.toInt x q ∧ gq_l W2 3 q = gz_ul (gq_l M 3) p.toInt y q ∧ -1000000 ≤ (gz_ul (gq_l M 2) p.toInt x q).toInt ∧ (gz_ul (gq_l M 2) p.toInt x q).toInt ≤ 1000000 ∧ -1000000 ≤ (gz_ul (gq_l M 3) p.toInt y q).toInt ∧ (gz_ul (gq_l M 3) p.toInt y q).toInt ≤ 1000000
          by_cases e : q = p.toInt
          · rw [e, gz_uls, gz_uls]; exact ⟨k1.2.1, k1.2.2, p1, p2, p3, p4⟩
          · rw [gz_uln _ _ e, gz_uln _ _ e, (k2 q e).2.1, (k2 q e).2.2]; exact a2
      have changed : rl_R (gs_l (gs_l (gs_i M 8 (gz_u (gq_i M 8) p.toInt 1)) 2 (gz_ul (gq_l M 2) p.toInt x)) 3 (gz_ul (gq_l M 3) p.toInt y)) (gs_l (gs_l (gs_i (gs_f W 0 0) 7 (gz_u (gq_i W 7) p.toInt 1)) 2 (gz_ul (gq_l W 2) p.toInt x)) 3 (gz_ul (gq_l W 3) p.toInt y)) :=
        key _ (pg_l (Or.inr rfl) (pg_l (Or.inl rfl) (pg_i (Or.inl rfl) (pg_f rfl (pg_r _ _ _ _))))) rfl ⟨gz_us _ _ _, gz_uls _ _ _, gz_uls _ _ _⟩ (fun q hq => ⟨gz_un _ _ hq, gz_uln _ _ hq, gz_uln _ _ hq⟩)
      have hF : ∀ (v : Int32) (M2 : gq_M), (v = 0 ∨ v = 1) → fn_Ne_aim p x y M = some (v, M2) → fn_PS_target p x y M = some (.inr (v, M2)) := by
        intro v M2 hv ha
        unfold fn_PS_target
        rw [h3]
        show gb_x _ _ = _
        rw [p5]
        show gb_r _ = _
        rw [ha, Option.bind_some, if_pos (py_nar (by rcases hv with rfl | rfl; exact Or.inl rfl; exact Or.inr rfl))]
        rfl
      by_cases e1 : gq_i M 8 p.toInt = 0
      · refine ⟨1, _, ?_, Or.inr ⟨_, hF 1 _ (Or.inr rfl) ?_, rfl, changed⟩⟩
        · unfold fn_Mo_target
          rw [h4, Option.bind_some, if_neg (show ¬ ((1 : Int32) = 0) by decide), p6, Option.bind_some, if_neg (show ¬ ((1 : Int32) = 0) by decide), if_pos hr, if_pos (by rw [w7]; exact e1)]
        · unfold fn_Ne_aim
          rw [if_pos hr, if_pos e1]
      · have e1' : gq_i M 8 p.toInt = 1 := by
          rcases hl with h | h
          · exact absurd h e1
          · exact h
        by_cases e2 : gq_l M 2 p.toInt = x
        · by_cases e3 : gq_l M 3 p.toInt = y
          · refine ⟨0, gs_f W 0 0, ?_, Or.inr ⟨_, hF 0 _ (Or.inl rfl) ?_, rfl, key _ (pg_f rfl (pg_r _ _ _ _)) rfl ⟨w7.trans e1', w2.trans e2, w3.trans e3⟩ (fun _ _ => ⟨rfl, rfl, rfl⟩)⟩⟩
            · unfold fn_Mo_target
              rw [h4, Option.bind_some, if_neg (show ¬ ((1 : Int32) = 0) by decide), p6, Option.bind_some, if_neg (show ¬ ((1 : Int32) = 0) by decide), if_pos hr, if_neg (by rw [w7]; exact e1), if_pos (by rw [w2]; exact e2), if_pos (by rw [w3]; exact e3)]
            · unfold fn_Ne_aim
              rw [if_pos hr, if_neg e1, if_pos e2, if_pos e3]
          · refine ⟨1, _, ?_, Or.inr ⟨_, hF 1 _ (Or.inr rfl) ?_, rfl, changed⟩⟩
            · unfold fn_Mo_target
              rw [h4, Option.bind_some, if_neg (show ¬ ((1 : Int32) = 0) by decide), p6, Option.bind_some, if_neg (show ¬ ((1 : Int32) = 0) by decide), if_pos hr, if_neg (by rw [w7]; exact e1), if_pos (by rw [w2]; exact e2), if_neg (by rw [w3]; exact e3)]
            · unfold fn_Ne_aim
              rw [if_pos hr, if_neg e1, if_pos e2, if_neg e3]
        · refine ⟨1, _, ?_, Or.inr ⟨_, hF 1 _ (Or.inr rfl) ?_, rfl, changed⟩⟩
          · unfold fn_Mo_target
            rw [h4, Option.bind_some, if_neg (show ¬ ((1 : Int32) = 0) by decide), p6, Option.bind_some, if_neg (show ¬ ((1 : Int32) = 0) by decide), if_pos hr, if_neg (by rw [w7]; exact e1), if_neg (by rw [w2]; exact e2)]
          · unfold fn_Ne_aim
            rw [if_pos hr, if_neg e1, if_neg e2]
    · refine ⟨0, gs_f W 0 2, ?_, Or.inl ⟨2, ?_, Or.inr rfl, rfl, rl_0 hR 2⟩⟩
      · unfold fn_Mo_target
        rw [h4, Option.bind_some, if_neg (show ¬ ((1 : Int32) = 0) by decide), p6, Option.bind_some, if_pos rfl]
      · unfold fn_PS_target
        rw [h3]
        show gb_x _ _ = _
        rw [p5]
        rfl
  · refine ⟨0, gs_f W 0 1, ?_, Or.inl ⟨1, ?_, Or.inl rfl, rfl, rl_0 hR 1⟩⟩
    · unfold fn_Mo_target
      rw [h4, Option.bind_some, if_pos rfl]
    · unfold fn_PS_target
      rw [h3]
      rfl
