/-! ONE GROUP, ONE KIND: the step -/
theorem ru_bd {M W : gq_M} {g pr : Int32} {N : Int → Int} {t q : Int} (hS : rp_S M W) (hT : rp_T M W) (hN : ∀ p : Int, 0 ≤ p → p < (gq_f M 1).toInt → 0 ≤ N p ∧ N p < 200) (ht : 0 ≤ t ∧ t < (gq_f M 1).toInt) (hq : 0 ≤ q ∧ q < (gq_f M 1).toInt) (ut : un_b M g pr t = true) (uq : un_b M g pr q = true) : 0 ≤ ru_c M pr N t q ∧ ru_c M pr N t q ≤ 2008000000 := by
  have b1 := rc_bd hS hT (hN q hq.1 hq.2) ht
  obtain ⟨-, -, it⟩ := un_is hS ht ut
  obtain ⟨-, -, iq⟩ := un_is hS hq uq
  unfold ru_c
  by_cases e : pr = 0
  · rw [if_pos e]; omega
  · rw [if_neg e]
    rcases it with ⟨e2, -⟩ | ⟨-, i1, i2, -⟩
    · exact absurd e2 e
    · rcases iq with ⟨e2, -⟩ | ⟨-, j1, j2, -⟩
      · exact absurd e2 e
      · have b2 := rc_bd hS hT (hN _ j1 j2) ⟨i1, i2⟩
        omega
theorem sw_lt {n : Nat} {c : Int → Int → Int64} {u v : Int → Int64} {ro : Int → Int} (h12 : n ≤ 12) (hP : hi_P n c n u v ro) : ∀ k S : Nat, k ≤ n → pl_d (hi_u u) (hi_u v) n k S < dp_V := by
  intro k S hk
  obtain ⟨-, -, hv, -, hu, -⟩ := hP
  have hV : dp_V = 1000000000000000 := rfl
  have h1 : pm_S (hi_u u) n ≤ n * 1000000000000 := pm_S_bound (fun i a b => (hu i a b).2)
  have h2 : 0 ≤ pm_S (hi_u u) (n - k) := pm_S_nonneg (fun i a b => (hu i a (by omega)).1)
  have h3 : pl_q (hi_u v) n S ≤ n * 0 := pm_S_bound (fun j a b => by
    show (if pl_b S j = true then (0 : Int) else (v j).toInt) ≤ 0
    by_cases h : pl_b S j = true
    · rw [if_pos h]; omega
    · rw [if_neg h]; exact (hv j a b).2)
  unfold pl_d
  omega
def sw_in (M : gq_M) (p : Int) : Prop := 0 ≤ p ∧ p < (gq_f M 1).toInt
set_option maxHeartbeats 1000000 in
theorem sw_step {M W : gq_M} {g pr : Int32} {ro : Nat} (hC : rp_C M W) (hS : rp_S M W) (hT : rp_T M W) (hNW : rn_W M W) (hNA : rn_A M) (hro : ro < 11) (hcm : px_cm M) (hpr : pr = 0 ∨ pr = 1) (h12 : (un_L M g pr (lm_c M)).length ≤ 12)
    (hfr : ∀ p, sw_in M p → gq_i W 15 p = gq_i M 3 p) (hold : ∀ p, sw_in M p → gq_i M (18 + ro) p = gq_i W 2 p) (hun : ∀ p, sw_in M p → un_b M g pr p = true → gq_i M 3 p = gq_i W 2 p ∧ (pr = 1 → gq_i M 3 (sw_q M p) = gq_i W 2 (sw_q M p))) :
    ∃ M2 W2, fn_PS_swapUnits ro g pr M = some M2 ∧ fn_Mo_match g pr W = some W2 ∧ pf_G (fun a => a = 3 ∨ (10 ≤ a ∧ a ≤ 14)) (fun a => 4 ≤ a ∧ a ≤ 19) (fun i => i = 2) M M2 ∧ pf_G (fun a => 13 ≤ a ∧ a ≤ 15) (fun a => a = 4 ∨ a = 5) (fun i => i = 5) W W2 ∧ px_cm M2 ∧ (∀ p, sw_in M p → gq_i W2 15 p = gq_i M2 3 p) ∧ (∀ p, sw_in M p → un_b M g pr p = false → (pr = 1 → gq_i M 5 p = -1 ∨ un_b M g pr (sw_q M p) = false) → gq_i M2 3 p = gq_i M 3 p) ∧ (∀ p, sw_in M p → 0 ≤ (gq_i M2 3 p).toInt ∧ (gq_i M2 3 p).toInt < 200) := by
  have hV : dp_V = 1000000000000000 := rfl
  have h80 := hC.2.2
  have hmem : ∀ p ∈ un_L M g pr (lm_c M), sw_in M p ∧ un_b M g pr p = true := by
    intro p hp
    have h := un_mem hp
    exact ⟨⟨h.1, by have := h.2.1; unfold lm_c at this; omega⟩, h.2.2⟩
  have hLs := sw_Lof (g := g) hC hS h12
  generalize hL : un_L M g pr (lm_c M) = L at h12 hmem hLs
  -- partners of units
  have hpin : pr = 1 → ∀ x : Nat, x < L.length → sw_in M (sw_q M (L.getD x 0)) ∧ gq_i M 3 (sw_q M (L.getD x 0)) = gq_i W 2 (sw_q M (L.getD x 0)) := by
    intro hp x hx
    obtain ⟨h1, h2⟩ := hmem _ (un_at hx)
    obtain ⟨-, -, it⟩ := un_is hS h1 h2
    rcases it with ⟨e, -⟩ | ⟨-, i1, i2, -⟩
    · rw [hp] at e
      exact absurd e (by decide)
    · exact ⟨⟨i1, i2⟩, (hun _ h1 h2).2 hp⟩
  -- the class loads
  obtain ⟨M1, a1, a2, a3, a4, a5⟩ := lm_load (g := g) (pr := pr) hC hS hT hNA hpr (by rw [hL]; exact h12)
  rw [hL] at a3 a4 a5
  have hn1 : px_n L.length M1 := ⟨a3, h12⟩
  have hru : ∀ i j : Nat, i < L.length → j < L.length → ru_c M pr (pv_i M 3) (L.getD i 0) (L.getD j 0) = ru_c M pr (pv_i W 2) (L.getD i 0) (L.getD j 0) := by
    intro i j hi hj
    obtain ⟨h1, h2⟩ := hmem _ (un_at hj)
    have e1 := (hun _ h1 h2).1
    unfold ru_c
    have e2 : pv_i M 3 (L.getD j 0) = pv_i W 2 (L.getD j 0) := by show (gq_i M 3 _).toInt = (gq_i W 2 _).toInt; rw [e1]
    rw [e2]
    by_cases e : pr = 0
    · rw [if_pos e, if_pos e]
    · have hp : pr = 1 := by
        rcases hpr with h | h
        · exact absurd h e
        · exact h
      rw [if_neg e, if_neg e]
      have e3 : pv_i M 3 (gq_i M 5 (L.getD j 0)).toInt = pv_i W 2 (gq_i M 5 (L.getD j 0)).toInt := by
        show (gq_i M 3 (sw_q M (L.getD j 0))).toInt = (gq_i W 2 (sw_q M (L.getD j 0))).toInt
        rw [(hpin hp j hj).2]
      rw [e3]
  have hmc : ∀ i j : Int, 1 ≤ i → i ≤ L.length → 1 ≤ j → j ≤ L.length → (pv_c M1 i j).toInt = rk_m M W pr (-1) 0 L i j := by
    intro i j i1 i2 j1 j2
    rw [a5 i j i1 i2 j1 j2, hru _ _ (by omega) (by omega)]
    unfold rk_m
    rw [if_neg]
    rintro ⟨-, z⟩
    rcases z with ⟨z, -⟩ | ⟨z, -⟩ <;> exact absurd z (by decide)
  have hc1 : hi_c L.length (pv_c M1) := by
    intro i j i1 i2 j1 j2
    rw [a5 i j i1 i2 j1 j2]
    obtain ⟨h1, h2⟩ := hmem _ (un_at (L := L) (i := (i - 1).toNat) (by omega))
    obtain ⟨h3, h4⟩ := hmem _ (un_at (L := L) (i := (j - 1).toNat) (by omega))
    have := ru_bd (N := pv_i M 3) hS hT hNA h1 h3 h2 h4
    omega
  have hcm1 : px_cm M1 := by
    intro z z1 z2
    have e : gq_i M1 12 = gq_i M 12 := a2.1 12 (by decide)
    show 0 ≤ (gq_i M1 12 z).toInt ∧ (gq_i M1 12 z).toInt ≤ 12
    rw [e]
    exact hcm z z1 z2
  -- it solves
  obtain ⟨T, M2, b1, b2, b3, b4, b5, b6⟩ := px_solve hn1 hc1 hcm1
  have ec2 : pv_c M2 = pv_c M1 := px_c b2 (fun a p q => by have := q.2; omega)
  have hn2 : px_n L.length M2 := ⟨by rw [b2.2.2.1 2]; exact a3, h12⟩
  obtain ⟨K, k1, k2⟩ := sw_sum hn2 (by rw [ec2]; exact hc1)
  have hlt := sw_lt h12 b4
  have hsum : pm_S (hi_u (gq_l M2 4)) L.length + pm_S (hi_u (gq_l M2 5)) L.length < dp_V := by
    have := hlt L.length 0 (Nat.le_refl _)
    rw [pl_d_0] at this
    exact this
  have hF : pl_F L.length (rk_m M W pr (-1) 0 L) dp_V L.length 0 = pm_S (hi_u (gq_l M2 4)) L.length + pm_S (hi_u (gq_l M2 5)) L.length := by
    refine hi_least hc1 (fun i j i1 i2 j1 j2 => by rw [hmc i j i1 i2 j1 j2]; exact Int.le_refl _) b3 b4 (fun j j1 j2 => ?_) (by omega)
    obtain ⟨t, ht1, ht2⟩ := hi_tau b3
    obtain ⟨r1, r2, -⟩ := ht2 j j1 j2
    rw [hmc _ j r1 r2 j1 j2]
  have hkk : pm_S (fun i => (pv_c M2 i i).toInt) L.length = pm_S (fun i => rk_m M W pr (-1) 0 L i i) L.length := by
    rw [ec2]
    exact pm_S_congr (fun i i1 i2 => hmc i i i1 i2 i1 i2)
  -- the model
  obtain ⟨W1, c1, c2, c3, c4⟩ := rk_reckon (g := g) (pr := pr) (only := -1) (how := 0) hC hS hT hNW hpr (Or.inl rfl) (by rw [hL]; exact h12)
  rw [hL] at c3 c4
  obtain ⟨W2, G, d1, d2, d3, d4, d5⟩ := dc_choose c3 (by rw [hF]; exact hsum)
  have hG : ∀ r : Nat, r < L.length → 1 ≤ G ((r : Int) + 1) ∧ G ((r : Int) + 1) ≤ L.length := by
    intro r hr
    by_cases h : pm_S (fun i => rk_m M W pr (-1) 0 L i i) L.length = pl_F L.length (rk_m M W pr (-1) 0 L) dp_V L.length 0
    · rw [d4 h]; omega
    · have := d5 h r hr
      exact ⟨this.1, this.2.1⟩
  have f15 : gq_i W2 15 = gq_i W 15 := (d2.1 15 (by decide)).trans (c2.1 15 (by decide))
  have f2 : gq_i W2 2 = gq_i W 2 := (d2.1 2 (by decide)).trans (c2.1 2 (by decide))
  have f5 : gq_i W2 5 = gq_i W 5 := (d2.1 5 (by decide)).trans (c2.1 5 (by decide))
  have f13 : gq_i W2 13 = gq_i W1 13 := d2.1 13 (by decide)
  obtain ⟨W3, e1, e2, e3, e4, e5⟩ := sw_fresh (M := M) (W0 := W2) (G := G) hLs hpr hG (fun x hx => by
      rw [f5]
      obtain ⟨h1, -⟩ := hmem _ (un_at hx)
      exact (hS _ h1.1 h1.2).2.2.2.2.2.1) L.length 0 0 W2 (4999 - L.length) rfl (by omega) (pf_r _ _ _) (by rw [d2.2.2.1 5]; exact c3.1.1) (by rw [f13]; exact c4) d3 (fun x hx => absurd hx (Nat.not_lt_zero x)) (fun _ x hx => absurd hx (Nat.not_lt_zero x)) (fun _ _ _ => rfl)
  have hmatch : fn_Mo_match g pr W = some W3 := by
    unfold fn_Mo_match
    rw [c1, Option.bind_some, d1, Option.bind_some, show 5000 = 4999 - L.length + (L.length + 1) by omega]
    exact e1
  have hWf : pf_G (fun a => 13 ≤ a ∧ a ≤ 15) (fun a => a = 4 ∨ a = 5) (fun i => i = 5) W W3 :=
    pg_t (pg_w c2 (fun a h => by omega) (fun _ h => h) (fun _ h => h)) (pg_t (pg_of d2 (fun a h => by omega) (fun _ h => h.elim)) (pg_of e2 (fun a h => by omega) (fun _ h => h.elim)))
  rw [f2] at e3 e4
  -- a pin is a unit, or a unit's partner, or neither
  have hcase : ∀ p : Int, (∃ x : Nat, x < L.length ∧ p = L.getD x 0) ∨ (pr = 1 ∧ ∃ x : Nat, x < L.length ∧ p = sw_q M (L.getD x 0)) ∨ (p ∉ L ∧ (pr = 1 → ∀ x : Nat, x < L.length → p ≠ sw_q M (L.getD x 0))) := by
    intro p
    by_cases h1 : p ∈ L
    · obtain ⟨i, hi, e⟩ := un_idx h1
      exact Or.inl ⟨i, hi, e.symm⟩
    · by_cases h2 : pr = 1 ∧ ∃ x : Nat, x < L.length ∧ p = sw_q M (L.getD x 0)
      · exact Or.inr (Or.inl h2)
      · exact Or.inr (Or.inr ⟨h1, fun hp x hx z => h2 ⟨hp, x, hx, z⟩⟩)
  have hneither : ∀ p, sw_in M p → un_b M g pr p = false → (pr = 1 → gq_i M 5 p = -1 ∨ un_b M g pr (sw_q M p) = false) → p ∉ L ∧ (pr = 1 → ∀ x : Nat, x < L.length → p ≠ sw_q M (L.getD x 0)) := by
    intro p hp h1 h2
    refine ⟨fun z => ?_, fun hp1 x hx z => ?_⟩
    · rw [(hmem p z).2] at h1
      cases h1
    · obtain ⟨h3, h4⟩ := hmem _ (un_at hx)
      obtain ⟨-, -, it⟩ := un_is hS h3 h4
      rcases it with ⟨e, -⟩ | ⟨-, -, -, -, i4, -⟩
      · rw [hp1] at e
        exact absurd e (by decide)
      · have e9 : sw_q M (sw_q M (L.getD x 0)) = L.getD x 0 := i4
        rcases h2 hp1 with h5 | h5
        · rw [z] at h5
          have h6 : sw_q M (sw_q M (L.getD x 0)) = -1 := by
            show (gq_i M 5 (sw_q M (L.getD x 0))).toInt = -1
            rw [h5]
            rfl
          have h7 := h3.1
          omega
        · rw [z, e9, h4] at h5
          cases h5
  by_cases hTK : T = K
  · -- nothing changes
    have hid := d4 (by rw [hF, ← hkk, ← k2, ← hTK, b6])
    have hfM : pf_G (fun a => a = 3 ∨ (10 ≤ a ∧ a ≤ 14)) (fun a => 4 ≤ a ∧ a ≤ 19) (fun i => i = 2) M M2 := pg_t (pg_w a2 (fun a h => by omega) (fun a h => by omega) (fun _ h => h)) (pg_of b2 (fun a h => by omega) (fun a h => by have := h.1; have := h.2; omega))
    have r3 : gq_i M2 3 = gq_i M 3 := (b2.1 3 (by decide)).trans (a2.1 3 (by decide))
    refine ⟨M2, W3, ?_, hmatch, hfM, hWf, b5, fun p hp => ?_, fun p hp _ _ => by rw [r3], fun p hp => by rw [r3]; exact hNA p hp.1 hp.2⟩
    · unfold fn_PS_swapUnits
      rw [a1, Option.bind_some, b1, Option.bind_some, k1, Option.bind_some, if_pos hTK]
    · rw [r3]
      rcases hcase p with ⟨x, hx, rfl⟩ | ⟨hp1, x, hx, rfl⟩ | ⟨h1, h2⟩
      · obtain ⟨h1, h2⟩ := hmem _ (un_at hx)
        rw [e3 x hx, hid, show ((x : Int) + 1 - 1).toNat = x by omega, (hun _ h1 h2).1]
      · rw [e4 hp1 x hx, hid, show ((x : Int) + 1 - 1).toNat = x by omega, (hpin hp1 x hx).2]
      · rw [e5 p h1 h2, f15]
        exact hfr p hp
  · -- ties are settled, nets given
    have hne : pm_S (fun i => rk_m M W pr (-1) 0 L i i) L.length ≠ pl_F L.length (rk_m M W pr (-1) 0 L) dp_V L.length 0 := fun z => hTK (pb_eq.mpr (by rw [b6, k2, hkk, z, hF]))
    have hpG := d5 hne
    have hH : tk_H L.length (pv_c M1) dp_V (gq_l M2 4) (gq_l M2 5) := ⟨hc1, ⟨_, b4⟩, hlt⟩
    have hFc : pl_F L.length (tk_m (pv_c M1)) dp_V L.length 0 = pl_d (hi_u (gq_l M2 4)) (hi_u (gq_l M2 5)) L.length L.length 0 := by
      rw [sw_F (m2 := rk_m M W pr (-1) 0 L) hmc L.length 0 (Nat.le_refl _), hF, pl_d_0]
    obtain ⟨M3, gg, s1, s2, s3, s4, s5, s6⟩ := pt_settle (n := L.length) (c := pv_c M1) (NV := dp_V) (M := M2) ⟨hn2, ec2, hH, b5⟩ ⟨b3, tk_of hc1 b3 b4, by rw [pl_n_0]; rfl, fun j j1 j2 => by
        obtain ⟨t, ht1, ht2⟩ := hi_tau b3
        obtain ⟨r1, r2, -⟩ := ht2 j j1 j2
        constructor
        · intro z
          simp [pl_b] at z
        · intro z
          omega, by rw [show L.length + 1 - (1 : Int).toNat = L.length by show L.length + 1 - 1 = _; omega]; exact hFc⟩
    have hgg := pj_eq hpG (sw_path (m2 := rk_m M W pr (-1) 0 L) hmc (Nat.le_refl _) s4)
    have q5 : gq_i M3 5 = gq_i M 5 := (s2.1 5 (by decide)).trans ((b2.1 5 (by decide)).trans (a2.1 5 (by decide)))
    have q6 : gq_i M3 6 = gq_i M 6 := (s2.1 6 (by decide)).trans ((b2.1 6 (by decide)).trans (a2.1 6 (by decide)))
    have q3 : gq_i M3 3 = gq_i M 3 := (s2.1 3 (by decide)).trans ((b2.1 3 (by decide)).trans (a2.1 3 (by decide)))
    have q10 : gq_i M3 10 = gq_i M1 10 := (s2.1 10 (by decide)).trans (b2.1 10 (by decide))
    have qro : gq_i M3 (18 + ro) = gq_i M (18 + ro) := (s2.1 _ (by omega)).trans ((b2.1 _ (by omega)).trans (a2.1 _ (by omega)))
    have hsq : sw_q M3 = sw_q M := by funext p; unfold sw_q; rw [q5]
    obtain ⟨M4, t1, t2, t3, t4, t5⟩ := sw_gives (M0 := M3) (R := pv_i M3 11) hro (sw_Lc q5 q6 hLs) s6 L.length 0 1 M3 (4999 - L.length) (by show (1 : Int) = 0 + 1; omega) (by omega) (pf_r _ _ _) (by rw [s2.2.2.1 2]; exact hn2.1) rfl (by rw [q10]; exact a4) (fun x hx => absurd hx (Nat.not_lt_zero x)) (fun _ x hx => absurd hx (Nat.not_lt_zero x)) (fun _ _ _ => rfl)
    rw [qro] at t3 t4
    rw [hsq] at t4 t5
    rw [q3] at t5
    -- what a row has got
    have hrow : ∀ x : Nat, x < L.length → ∃ y : Nat, y < L.length ∧ (y : Int) + 1 = G ((x : Int) + 1) ∧ (pv_i M3 11 ((y : Int) + 1) - 1).toNat = x := by
      intro x hx
      have h1 := hG x hx
      have h2 := hgg.2 x hx
      have h3 := s5 ((x : Int) + 1) (by omega) (by omega)
      rw [← h2] at h3
      refine ⟨(G ((x : Int) + 1) - 1).toNat, by omega, by omega, ?_⟩
      rw [show (((G ((x : Int) + 1) - 1).toNat : Nat) : Int) + 1 = G ((x : Int) + 1) by omega, h3]
      omega
    have hu : ∀ x : Nat, x < L.length → gq_i M4 3 (L.getD x 0) = gq_i W 2 (L.getD (G ((x : Int) + 1) - 1).toNat 0) := by
      intro x hx
      obtain ⟨y, y1, y2, y3⟩ := hrow x hx
      have h := t3 y y1
      rw [y3] at h
      rw [h, ← y2, show ((y : Int) + 1 - 1).toNat = y by omega]
      exact hold _ (hmem _ (un_at y1)).1
    have hu2 : pr = 1 → ∀ x : Nat, x < L.length → gq_i M4 3 (sw_q M (L.getD x 0)) = gq_i W 2 (sw_q M (L.getD (G ((x : Int) + 1) - 1).toNat 0)) := by
      intro hp x hx
      obtain ⟨y, y1, y2, y3⟩ := hrow x hx
      have h := t4 hp y y1
      rw [y3] at h
      rw [h, ← y2, show ((y : Int) + 1 - 1).toNat = y by omega]
      exact hold _ (hpin hp y y1).1
    have hfM : pf_G (fun a => a = 3 ∨ (10 ≤ a ∧ a ≤ 14)) (fun a => 4 ≤ a ∧ a ≤ 19) (fun i => i = 2) M M4 :=
      pg_t (pg_w a2 (fun a h => by omega) (fun a h => by omega) (fun _ h => h)) (pg_t (pg_of b2 (fun a h => by omega) (fun a h => by have := h.1; have := h.2; omega)) (pg_t (pg_of s2 (fun a h => by omega) (fun _ h => h.elim)) (pg_of t2 (fun a h => Or.inl h) (fun _ h => h.elim))))
    refine ⟨M4, W3, ?_, hmatch, hfM, hWf, fun z z1 z2 => ?_, fun p hp => ?_, fun p hp h1 h2 => ?_, fun p hp => ?_⟩
    · unfold fn_PS_swapUnits
      rw [a1, Option.bind_some, b1, Option.bind_some, k1, Option.bind_some, if_neg hTK, s1, Option.bind_some, show 5000 = 4999 - L.length + (L.length + 1) by omega]
      exact t1
    · have e : gq_i M4 12 = gq_i M3 12 := t2.1 12 (by decide)
      show 0 ≤ (gq_i M4 12 z).toInt ∧ (gq_i M4 12 z).toInt ≤ 12
      rw [e]
      exact s3 z z1 z2
    · rcases hcase p with ⟨x, hx, rfl⟩ | ⟨hp1, x, hx, rfl⟩ | ⟨h1, h2⟩
      · rw [e3 x hx, hu x hx]
      · rw [e4 hp1 x hx, hu2 hp1 x hx]
      · rw [e5 p h1 h2, f15, t5 p h1 h2]
        exact hfr p hp
    · obtain ⟨h3, h4⟩ := hneither p hp h1 h2
      exact t5 p h3 h4
    · rcases hcase p with ⟨x, hx, rfl⟩ | ⟨hp1, x, hx, rfl⟩ | ⟨h1, h2⟩
      · rw [hu x hx]
        have h1 := hG x hx
        exact hNW _ (hmem _ (un_at (L := L) (by omega))).1.1 (hmem _ (un_at (L := L) (by omega))).1.2
      · rw [hu2 hp1 x hx]
        have h1 := hG x hx
        have h2 := (hpin hp1 (G ((x : Int) + 1) - 1).toNat (by omega)).1
        exact hNW _ h2.1 h2.2
      · rw [t5 p h1 h2]
        exact hNA p hp.1 hp.2
