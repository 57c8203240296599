/-! THE WHOLE RELATION; run and undo -/
def rp_Q (M W : gq_M) : Prop := (gq_f W 4 = gq_f M 5 ∧ 0 ≤ (gq_f M 5).toInt ∧ (gq_f M 5).toInt ≤ 20) ∧ ∀ i : Int, 0 ≤ i → i < (gq_f M 5).toInt → gq_i W 11 i = gq_i M 16 i ∧ gq_i W 12 i = gq_i M 17 i ∧ 1 ≤ (gq_i M 16 i).toInt ∧ (gq_i M 16 i).toInt ≤ 4 ∧ 0 ≤ (gq_i M 17 i).toInt ∧ (gq_i M 17 i).toInt < 2 ^ (2 ^ (gq_i M 16 i).toInt.toNat)
def rl_K (M W : gq_M) : Prop := rp_C M W ∧ rp_S M W ∧ rp_Z M W ∧ rp_T M W ∧ rp_G M ∧ rp_Q M W
def rl_eM (M M2 : gq_M) : Prop := (∀ a, a < 10 → a ≠ 3 → gq_i M2 a = gq_i M a) ∧ (gq_i M2 16 = gq_i M 16 ∧ gq_i M2 17 = gq_i M 17) ∧ (∀ a, a < 4 → gq_l M2 a = gq_l M a) ∧ gq_f M2 0 = gq_f M 0 ∧ gq_f M2 1 = gq_f M 1 ∧ gq_f M2 5 = gq_f M 5
def rl_eW (W W2 : gq_M) : Prop := (∀ a, a < 9 → a ≠ 2 → gq_i W2 a = gq_i W a) ∧ (gq_i W2 11 = gq_i W 11 ∧ gq_i W2 12 = gq_i W 12) ∧ (∀ a, a < 4 → gq_l W2 a = gq_l W a) ∧ gq_f W2 1 = gq_f W 1 ∧ gq_f W2 2 = gq_f W 2 ∧ gq_f W2 4 = gq_f W 4
theorem rl_Kgo {M W M2 W2 : gq_M} (h : rl_K M W) (hm : rl_eM M M2) (hw : rl_eW W W2) : rl_K M2 W2 := by
  obtain ⟨hC, hS, hZ, hT, hG, hQ⟩ := h
  obtain ⟨m1, ⟨m2, m3⟩, m4, m5, m6, m7⟩ := hm
  obtain ⟨w1, ⟨w2, w3⟩, w4, w5, w6, w7⟩ := hw
  have hrs : rs_E M M2 := ⟨m1 1 (by omega) (by omega), m1 2 (by omega) (by omega), m1 4 (by omega) (by omega), m1 5 (by omega) (by omega), m1 6 (by omega) (by omega), m1 7 (by omega) (by omega), m1 8 (by omega) (by omega), m1 9 (by omega) (by omega), ⟨m4 0 (by omega), m4 1 (by omega), m4 2 (by omega), m4 3 (by omega)⟩, m5, m6⟩
  have hrw : rw_E W W2 := ⟨w1 0 (by omega) (by omega), w1 1 (by omega) (by omega), w1 3 (by omega) (by omega), w1 4 (by omega) (by omega), w1 5 (by omega) (by omega), w1 6 (by omega) (by omega), w1 7 (by omega) (by omega), w1 8 (by omega) (by omega), ⟨w4 0 (by omega), w4 1 (by omega), w4 2 (by omega), w4 3 (by omega)⟩, w5, w6⟩
  refine ⟨rw_C hrw (rs_C hrs hC), rw_S hrw (rs_S hrs hS), ?_, rw_T hrw (rs_T hrs hT), ?_, ?_⟩
  · unfold rp_Z
    rw [m6, m1 2 (by omega) (by omega), w1 1 (by omega) (by omega), m1 6 (by omega) (by omega), w1 6 (by omega) (by omega), m1 7 (by omega) (by omega), w1 4 (by omega) (by omega)]
    exact hZ
  · intro g g1 g2
    have hlc : lm_c M2 = lm_c M := by unfold lm_c; rw [m6]
    rw [un_nc (m1 1 (by omega) (by omega)), hlc, m1 0 (by omega) (by omega)]
    exact hG g g1 g2
  · unfold rp_Q
    rw [m2, m3, m7, w2, w3, w7]
    exact hQ
def rl_R (M W : gq_M) : Prop := rl_K M W ∧ rp_N M W ∧ rp_H M W ∧ gq_j W 0 = gq_j M 0 ∧ px_cm M
theorem rp_hgo {M W M2 W2 : gq_M} {k r : Nat} (h : rp_h M W k r) (h1 : gq_i W2 9 = gq_i W 9) (h2 : gq_i W2 10 = gq_i W 10) (h3 : gq_i M2 15 (r : Int) = gq_i M 15 (r : Int)) (h4 : gq_i M2 (18 + r) = gq_i M (18 + r)) (h5 : gq_f M2 1 = gq_f M 1) : rp_h M2 W2 k r := by
  unfold rp_h
  rw [h1, h2, h3, h4, h5]
  exact h
theorem rh_ne {s K k : Nat} (hs : s ≤ 10) (hK : K ≤ 10) (hk : k < K) : rh_r s K k ≠ s ∧ rh_r s K k < 11 := by
  unfold rh_r
  omega
set_option maxHeartbeats 1000000 in
theorem rl_run {M W : gq_M} (hR : rl_R M W) : ∃ (y : Int32) (M2 W2 : gq_M), fn_PS_run M = some (y, M2) ∧ fn_Mo_run W = some (y, W2) ∧ rl_R M2 W2 := by
  obtain ⟨hKK, hN, hH, hJ, hcm⟩ := hR
  obtain ⟨hC, hS, hZ, hT, hG, hQ⟩ := id hKK
  obtain ⟨⟨H0, H1, H2, H3, H4⟩, HH⟩ := id hH
  have h80 := hC.2.2
  have hg12 := hC.2.1
  obtain ⟨z, z1, z2⟩ := rr_sums hC hS hT hN
  -- the class begins
  have hs : rh_s M < 11 := by unfold rh_s; omega
  generalize hM0 : gs_i (gs_i (gs_j M 0 z) (18 + rh_s M) (gz_cpy (gq_i M 3) (gq_i (gs_j M 0 z) (18 + rh_s M)) (gq_f M 1).toInt)) 15 (gz_u (gq_i (gs_i (gs_j M 0 z) (18 + rh_s M) (gz_cpy (gq_i M 3) (gq_i (gs_j M 0 z) (18 + rh_s M)) (gq_f M 1).toInt)) 15) (gq_f M 3).toInt (gq_f M 1)) = M0
  have hbeg : fn_Hi_begin (gq_f M 1) (gs_j M 0 z) = some (rh_s M, M0) := by
    rw [← hM0]
    unfold fn_Hi_begin
    rw [if_pos (by show 0 ≤ (gq_f M 3).toInt ∧ (gq_f M 3).toInt < _; omega), if_pos (by omega)]
  have m0 : ∀ a, a ≠ 15 → a ≠ 18 + rh_s M → gq_i M0 a = gq_i M a := by
    intro a a1 a2
    rw [← hM0]
    exact (gq_un _ _ a1).trans (gq_un _ _ a2)
  have m15 : gq_i M0 15 = gz_u (gq_i M 15) (gq_f M 3).toInt (gq_f M 1) := by
    rw [← hM0]
    show gz_u (gq_up M.1 (18 + rh_s M) _ 15) _ _ = _
    rw [gq_un _ _ (by omega)]
  have mro : gq_i M0 (18 + rh_s M) = gz_cpy (gq_i M 3) (gq_i M (18 + rh_s M)) (gq_f M 1).toInt := by
    rw [← hM0]
    exact (gq_un _ _ (by omega)).trans (gq_us _ _ _)
  have ml : gq_l M0 = gq_l M := by rw [← hM0]
  have mf : gq_f M0 = gq_f M := by rw [← hM0]
  have mj : gq_j M0 0 = z := by rw [← hM0]; rfl
  -- the model begins
  obtain ⟨W0, b1, b2, b3⟩ := rr_f0 (lm_c M) 0 0 (gs_j (gs_f W 0 0) 0 z) (4999 - lm_c M) rfl (by
    show (gq_f W 2).toInt = _
    rw [hC.1.2]
    unfold lm_c
    omega) (by unfold lm_c; omega) (fun p a b => absurd b (by omega))
  have w0 : ∀ a, a ≠ 15 → gq_i W0 a = gq_i W a := fun a h => b2.1 a h
  have wl : ∀ a, gq_l W0 a = gq_l W a := fun a => b2.2.1 a (fun z => z)
  have wf : ∀ i, i ≠ 0 → gq_f W0 i = gq_f W i := fun i h => (b2.2.2.1 i).trans (gq_un _ _ h)
  have wj : gq_j W0 0 = z := b2.2.2.2 0
  have hKK0 : rl_K M0 W0 := rl_Kgo hKK ⟨fun a a1 a2 => m0 a (by omega) (by omega), ⟨m0 16 (by omega) (by omega), m0 17 (by omega) (by omega)⟩, fun a _ => by rw [ml], by rw [mf], by rw [mf], by rw [mf]⟩ ⟨fun a a1 a2 => w0 a (by omega), ⟨w0 11 (by omega), w0 12 (by omega)⟩, fun a _ => wl a, wf 1 (by omega), wf 2 (by omega), wf 4 (by omega)⟩
  obtain ⟨hC0, hS0, hZ0, hT0, hG0, hQ0⟩ := id hKK0
  have f1 : gq_f M0 1 = gq_f M 1 := by rw [mf]
  have hin : ∀ p, sw_in M0 p ↔ sw_in M p := fun p => by unfold sw_in; rw [f1]
  have hlc : lm_c M0 = lm_c M := by unfold lm_c; rw [f1]
  have n3 : gq_i M0 3 = gq_i M 3 := m0 3 (by omega) (by omega)
  have w2 : gq_i W0 2 = gq_i W 2 := w0 2 (by omega)
  have hB : rr_B M0 W0 (rh_s M) := by
    refine ⟨hC0, hS0, hT0, fun p h1 h2 => ?_, fun g g1 g2 => (hG0 g g1 g2).2, hs, fun p hp => ?_⟩
    · rw [w2]
      rw [f1] at h2
      obtain ⟨a1, a2, a3⟩ := hN p h1 h2
      rw [a1]
      exact ⟨a2, a3⟩
    · have hp' := (hin p).mp hp
      rw [mro, w2, (hN p hp'.1 hp'.2).1]
      exact if_pos hp'
  have hI : rr_I M0 W0 M0 W0 (fun p => ((0 : Nat) : Int) ≤ (gq_i M0 1 p).toInt) := by
    refine ⟨pg_r _ _ _ _, pg_r _ _ _ _, fun x x1 x2 => ?_, fun p hp => ?_, fun p hp => ?_, fun p hp _ => ?_⟩
    · show 0 ≤ (gq_i M0 12 x).toInt ∧ (gq_i M0 12 x).toInt ≤ 12
      rw [m0 12 (by omega) (by omega)]
      exact hcm x x1 x2
    · have hp' := (hin p).mp hp
      rw [b3 p hp'.1 (by have := hp'.2; unfold lm_c; omega), n3]
      exact (hN p hp'.1 hp'.2).1
    · have hp' := (hin p).mp hp
      rw [n3]
      exact (hN p hp'.1 hp'.2).2
    · have hp' := (hin p).mp hp
      rw [n3, w2]
      exact (hN p hp'.1 hp'.2).1.symm
  obtain ⟨M1, W1, c1, c2, c3⟩ := rr_grp hB (gq_f M0 0).toInt.toNat 0 0 M0 W0 (4999 - (gq_f M0 0).toInt.toNat) rfl (by rw [mf]; omega) hI
  obtain ⟨i1, i2, i3, i4, i5, -⟩ := c3
  have g1f : gq_f M1 1 = gq_f M 1 := (i1.2.2.1 1 (by decide)).trans f1
  have hl1 : lm_c M1 = lm_c M := by unfold lm_c; rw [g1f]
  have w12 : gq_i W1 2 = gq_i W 2 := (i2.1 2 (by decide)).trans w2
  have wc1 : (gq_f W1 2).toInt = (lm_c M : Nat) := by
    rw [i2.2.2.1 2 (by decide), wf 2 (by omega), hC.1.2]
    unfold lm_c
    omega
  have h80c : lm_c M ≤ 80 := by unfold lm_c; omega
  obtain ⟨y, y1, y2⟩ := rr_cls (M := M1) (ro := rh_s M) (by rw [g1f]; exact h80) (lm_c M1) 0 0 0 (4999 - lm_c M1) rfl (by omega) rfl
  obtain ⟨y', y3, y4⟩ := rr_mod (W := W1) (c0 := lm_c M) wc1 h80c (lm_c M) 0 0 0 (4999 - lm_c M) rfl (by omega) rfl
  have hyy : y' = y := by
    apply pa_eq.mpr
    rw [y2, y4, hl1]
    have := rr_nc (A := gq_i W1 15) (B := gq_i W1 2) (A2 := gq_i M1 3) (B2 := gq_i M1 (18 + rh_s M)) (c := lm_c M) (fun p p1 p2 => by
      have hp : sw_in M0 p := (hin p).mpr ⟨p1, by unfold lm_c at p2; omega⟩
      refine ⟨i4 p hp, ?_⟩
      rw [i1.1 (18 + rh_s M) (by omega), i2.1 2 (by decide)]
      exact (hB.2.2.2.2.2.2 p hp).symm)
    rw [this]
  rw [hyy] at y3
  have hcc : fn_PS_countChanged (rh_s M) M1 = some y := by
    unfold fn_PS_countChanged
    rw [show 5000 = 4999 - lm_c M1 + (lm_c M1 + 1) by omega]
    exact y1
  have hrunC : fn_PS_run M = (if y ≤ 0 then some (y, M1) else (fn_Hi_keep M1).bind fun q9 => some (y, q9)) := by
    unfold fn_PS_run
    rw [z1, Option.bind_some, show fn_Hi_begin (gq_f M 1) (gs_j M 0 z) = some (rh_s M, M0) from hbeg, Option.bind_some, show 5000 = 4999 - (gq_f M0 0).toInt.toNat + ((gq_f M0 0).toInt.toNat + 1) by rw [mf]; omega, c1, hcc, Option.bind_some]
  have hrunM : fn_Mo_run W = (if y ≤ 0 then fl_Mo_run_120 5000 y 0 W1 else (fn_Mo_keepNets W1).bind fun q9 => fl_Mo_run_120 5000 y 0 q9) := by
    unfold fn_Mo_run
    rw [show fn_Mo_sumOf (gs_f W 0 0) = some z from by
      obtain ⟨z', q1, q2⟩ := rr_sums (M := M) (W := gs_f W 0 0) hC hS hT hN
      rw [q2]
      rw [z1] at q1
      exact q1.symm, Option.bind_some, show 5000 = 4999 - lm_c M + (lm_c M + 1) by omega, b1, show 5000 = 4999 - (gq_f M0 0).toInt.toNat + ((gq_f M0 0).toInt.toNat + 1) by rw [mf]; omega, c2, show 5000 = 4999 - lm_c M + (lm_c M + 1) by omega, y3]
    rw [show 4999 - lm_c M + (lm_c M + 1) = 5000 by omega]
  -- rows that are kept
  have hrow : ∀ k : Nat, k < rh_k M → gq_i M1 15 ((rh_r (rh_s M) (rh_k M) k : Nat) : Int) = gq_i M 15 ((rh_r (rh_s M) (rh_k M) k : Nat) : Int) ∧ gq_i M1 (18 + rh_r (rh_s M) (rh_k M) k) = gq_i M (18 + rh_r (rh_s M) (rh_k M) k) := by
    intro k hk
    obtain ⟨r1, r2⟩ := rh_ne (s := rh_s M) (K := rh_k M) (k := k) (by omega) (by unfold rh_k; omega) hk
    have e15 : gq_i M1 15 = gq_i M0 15 := i1.1 15 (by decide)
    refine ⟨?_, ?_⟩
    · rw [e15, m15, gz_un _ _ (by rw [show (gq_f M 3).toInt = ((rh_s M : Nat) : Int) by unfold rh_s; omega]; omega)]
    · rw [i1.1 _ (by omega), m0 _ (by omega) (by omega)]
  have hcm1 : px_cm M1 := i3
  have hKK1 : ∀ W2, rl_eW W W2 → rl_K M1 W2 := fun W2 h => rl_Kgo hKK ⟨fun a a1 a2 => by rw [i1.1 a (by omega), m0 a (by omega) (by omega)], ⟨by rw [i1.1 16 (by decide), m0 16 (by omega) (by omega)], by rw [i1.1 17 (by decide), m0 17 (by omega) (by omega)]⟩, fun a h => by rw [i1.2.1 a (by omega), ml], by rw [i1.2.2.1 0 (by decide), mf], g1f, by rw [i1.2.2.1 5 (by decide), mf]⟩ h
  have hW1 : rl_eW W W1 := ⟨fun a a1 a2 => by rw [i2.1 a (by omega), w0 a (by omega)], ⟨by rw [i2.1 11 (by decide), w0 11 (by omega)], by rw [i2.1 12 (by decide), w0 12 (by omega)]⟩, fun a h => by rw [i2.2.1 a (by omega), wl], by rw [i2.2.2.1 1 (by decide), wf 1 (by omega)], by rw [i2.2.2.1 2 (by decide), wf 2 (by omega)], by rw [i2.2.2.1 4 (by decide), wf 4 (by omega)]⟩
  have hnet : ∀ p, sw_in M p → gq_i W1 15 p = gq_i M1 3 p ∧ 0 ≤ (gq_i M1 3 p).toInt ∧ (gq_i M1 3 p).toInt < 200 := fun p hp => ⟨i4 p ((hin p).mpr hp), i5 p ((hin p).mpr hp)⟩
  have f3 : gq_f M1 3 = gq_f M 3 := by rw [i1.2.2.1 3 (by decide), mf]
  have f4 : gq_f M1 4 = gq_f M 4 := by rw [i1.2.2.1 4 (by decide), mf]
  have w3 : gq_f W1 3 = gq_f W 3 := by rw [i2.2.2.1 3 (by decide), wf 3 (by omega)]
  have jj : gq_j M1 0 = z := (i1.2.2.2 0).trans mj
  have jw : gq_j W1 0 = z := (i2.2.2.2 0).trans wj
  by_cases hy : y ≤ 0
  · -- nothing changed
    obtain ⟨W2, d1, d2, d3, d4⟩ := rr_cp (y := y) (lm_c M) 0 0 W1 (4999 - lm_c M) rfl (by rw [Nat.zero_add]; exact wc1) (by omega)
    refine ⟨y, M1, W2, by rw [hrunC, if_pos hy], ?_, ?_⟩
    · rw [hrunM, if_pos hy, show 5000 = 4999 - lm_c M + (lm_c M + 1) by omega]
      exact d1
    · refine ⟨hKK1 W2 ⟨fun a a1 a2 => by rw [d2.1 a (by omega)]; exact hW1.1 a a1 a2, ⟨by rw [d2.1 11 (by decide)]; exact hW1.2.1.1, by rw [d2.1 12 (by decide)]; exact hW1.2.1.2⟩, fun a h => by rw [d2.2.1 a (fun z => z)]; exact hW1.2.2.1 a h, by rw [d2.2.2.1]; exact hW1.2.2.2.1, by rw [d2.2.2.1]; exact hW1.2.2.2.2.1, by rw [d2.2.2.1]; exact hW1.2.2.2.2.2⟩, fun p h1 h2 => ?_, ⟨⟨by rw [d2.2.2.1, w3, f4]; exact H0, by rw [f4]; exact H1, by rw [f4]; exact H2, by rw [f3]; exact H3, by rw [f3]; exact H4⟩, fun k hk => ?_⟩, by rw [d2.2.2.2, jw, jj], hcm1⟩
      · rw [g1f] at h2
        obtain ⟨e1, e2⟩ := hnet p ⟨h1, h2⟩
        refine ⟨?_, e2⟩
        rw [d3 p (by omega) (by unfold lm_c; omega)]
        exact e1
      · have ek : rh_k M1 = rh_k M := by unfold rh_k; rw [f4]
        have es : rh_s M1 = rh_s M := by unfold rh_s; rw [f3]
        rw [ek, es]
        rw [ek] at hk
        obtain ⟨r1, r2⟩ := hrow k hk
        exact rp_hgo (HH k hk) (by rw [d2.1 9 (by decide), i2.1 9 (by decide), w0 9 (by omega)]) (by rw [d2.1 10 (by decide), i2.1 10 (by decide), w0 10 (by omega)]) r1 r2 g1f
  · -- the nets are kept
    obtain ⟨W2, d1, d2, d3⟩ := rh_keep (W := W1) (c0 := lm_c M) (K := rh_k M) wc1 h80c (by rw [w3, H0]; unfold rh_k; omega) (by unfold rh_k; omega)
    obtain ⟨W3, e1, e2, e3, e4⟩ := rr_cp (y := y) (lm_c M) 0 0 W2 (4999 - lm_c M) rfl (by rw [Nat.zero_add, d2.2.2.1 2 (by decide)]; exact wc1) (by omega)
    have eW : rl_eW W W3 := ⟨fun a a1 a2 => by rw [e2.1 a (by omega), d2.1 a (by omega)]; exact hW1.1 a a1 a2, ⟨by rw [e2.1 11 (by decide), d2.1 11 (by decide)]; exact hW1.2.1.1, by rw [e2.1 12 (by decide), d2.1 12 (by decide)]; exact hW1.2.1.2⟩, fun a h => by rw [e2.2.1 a (fun z => z), d2.2.1 a (fun z => z)]; exact hW1.2.2.1 a h, by rw [e2.2.2.1, d2.2.2.1 1 (by decide)]; exact hW1.2.2.2.1, by rw [e2.2.2.1, d2.2.2.1 2 (by decide)]; exact hW1.2.2.2.2.1, by rw [e2.2.2.1, d2.2.2.1 4 (by decide)]; exact hW1.2.2.2.2.2⟩
    have q9 : gq_i W3 9 = gq_i W2 9 := e2.1 9 (by decide)
    have q10 : gq_i W3 10 = gq_i W2 10 := e2.1 10 (by decide)
    have v9 : gq_i W1 9 = gq_i W 9 := by rw [i2.1 9 (by decide), w0 9 (by omega)]
    have v10 : gq_i W1 10 = gq_i W 10 := by rw [i2.1 10 (by decide), w0 10 (by omega)]
    have hmw : fn_Mo_run W = some (y, W3) := by
      rw [hrunM, if_neg hy, d1, Option.bind_some, show 5000 = 4999 - lm_c M + (lm_c M + 1) by omega]
      exact e1
    have hnew : ∀ (M2 : gq_M), rl_eM M1 M2 → rl_K M2 W3 := fun M2 h => rl_Kgo (hKK1 W3 eW) h ⟨fun _ _ _ => rfl, ⟨rfl, rfl⟩, fun _ _ => rfl, rfl, rfl, rfl⟩
    have hnetW : ∀ p, sw_in M p → gq_i W3 2 p = gq_i M1 3 p := by
      intro p hp
      rw [e3 p (by have := hp.1; omega) (by have := hp.2; unfold lm_c; omega), d2.1 15 (by decide)]
      exact (hnet p hp).1
    -- the new entry is the row that was begun
    have hent : ∀ k : Nat, gq_i W2 9 (k : Int) = gq_f W1 2 → (∀ p : Int, 0 ≤ p → p < (lm_c M : Nat) → gq_i W2 10 (80 * (k : Int) + p) = gq_i W1 2 p) → ∀ M2 : gq_M, gq_i M2 15 = gq_i M1 15 → gq_i M2 (18 + rh_s M) = gq_i M1 (18 + rh_s M) → gq_f M2 1 = gq_f M1 1 → rp_h M2 W3 k (rh_s M) := by
      intro k hk1 hk2 M2 x1 x2 x3
      have e15 : gq_i M1 15 ((rh_s M : Nat) : Int) = gq_f M 1 := by
        rw [i1.1 15 (by decide), m15, show ((rh_s M : Nat) : Int) = (gq_f M 3).toInt by unfold rh_s; omega, gz_us]
      unfold rp_h
      rw [q9, q10, x1, x2, x3, e15, g1f, hk1, i2.2.2.1 2 (by decide), wf 2 (by omega), hC.1.2]
      refine ⟨rfl, h80.1, Int.le_refl _, fun p p1 p2 => ?_⟩
      rw [hk2 p p1 (by unfold lm_c; omega), i1.1 (18 + rh_s M) (by omega), w12]
      have hp : sw_in M0 p := (hin p).mpr ⟨p1, p2⟩
      have h9 := hB.2.2.2.2.2.2 p hp
      rw [w2] at h9
      rw [h9]
      obtain ⟨t1, t2, t3⟩ := hN p p1 p2
      rw [t1]
      exact ⟨rfl, t2, t3⟩
    have hup : ∀ M2 : gq_M, M2 = gs_f M1 3 (((gq_f M1 3) + 1) - ((gq_f M1 3) + 1) / 11 * 11) ∨ M2 = gs_f (gs_f M1 3 (((gq_f M1 3) + 1) - ((gq_f M1 3) + 1) / 11 * 11)) 4 ((gq_f M1 4) + 1) → rl_eM M1 M2 ∧ gq_i M2 = gq_i M1 ∧ gq_f M2 1 = gq_f M1 1 ∧ gq_j M2 = gq_j M1 ∧ (gq_f M2 3).toInt = ((rh_s M + 1) % 11 : Nat) := by
      intro M2 h
      have e3' : ((gq_f M1 3) + 1) - ((gq_f M1 3) + 1) / 11 * 11 = nI ((rh_s M + 1) % 11) := by
        have : gq_f M1 3 = nI (rh_s M) := pa_eq.mpr (by rw [f3, pa_nI (by omega)]; unfold rh_s; omega)
        rw [this]
        exact rh_up _ hs
      rcases h with rfl | rfl
      · exact ⟨⟨fun _ _ _ => rfl, ⟨rfl, rfl⟩, fun _ _ => rfl, rfl, rfl, rfl⟩, rfl, rfl, rfl, by show (((gq_f M1 3) + 1) - ((gq_f M1 3) + 1) / 11 * 11).toInt = _; rw [e3', pa_nI (by omega)]⟩
      · exact ⟨⟨fun _ _ _ => rfl, ⟨rfl, rfl⟩, fun _ _ => rfl, rfl, rfl, rfl⟩, rfl, rfl, rfl, by show (((gq_f M1 3) + 1) - ((gq_f M1 3) + 1) / 11 * 11).toInt = _; rw [e3', pa_nI (by omega)]⟩
    have e10 : (10 : Int32).toInt = 10 := rfl
    have fin : ∀ (M2 : gq_M), (M2 = gs_f M1 3 (((gq_f M1 3) + 1) - ((gq_f M1 3) + 1) / 11 * 11) ∨ M2 = gs_f (gs_f M1 3 (((gq_f M1 3) + 1) - ((gq_f M1 3) + 1) / 11 * 11)) 4 ((gq_f M1 4) + 1)) → (gq_f W3 3 = gq_f M2 4 ∧ 0 ≤ (gq_f M2 4).toInt ∧ (gq_f M2 4).toInt ≤ 10) → (∀ k : Nat, k < rh_k M2 → rp_h M2 W3 k (rh_r (rh_s M2) (rh_k M2) k)) → rl_R M2 W3 := by
      intro M2 h hh hk
      obtain ⟨u1, u2, u3, u4, u5⟩ := hup M2 h
      refine ⟨hnew M2 u1, fun p p1 p2 => ?_, ⟨⟨hh.1, hh.2.1, hh.2.2, by rw [u5]; omega, by rw [u5]; omega⟩, hk⟩, by rw [e2.2.2.2, d2.2.2.2, jw, u4, jj], fun x x1 x2 => ?_⟩
      · rw [u3, g1f] at p2
        rw [u2]
        exact ⟨hnetW p ⟨p1, p2⟩, (hnet p ⟨p1, p2⟩).2⟩
      · show 0 ≤ (gq_i M2 12 x).toInt ∧ (gq_i M2 12 x).toInt ≤ 12
        rw [u2]
        exact hcm1 x x1 x2
    rcases d3 with ⟨k1, k2, k3, k4, k5⟩ | ⟨k1, k2, k3, k4, k5⟩
    · -- there was room
      have hlt : ¬ (10 : Int32) ≤ gq_f M1 4 := by rw [pa_le, f4, e10]; unfold rh_k at k1; omega
      have e4' : (gq_f M1 4 + 1).toInt = (rh_k M : Int) + 1 := by rw [f4, pa_1 (by unfold rh_k at k1; omega)]; unfold rh_k; omega
      refine ⟨y, gs_f (gs_f M1 3 (((gq_f M1 3) + 1) - ((gq_f M1 3) + 1) / 11 * 11)) 4 ((gq_f M1 4) + 1), W3, ?_, hmw, fin _ (Or.inr rfl) ⟨?_, ?_, ?_⟩ (fun k hk => ?_)⟩
      · rw [hrunC, if_neg hy]
        unfold fn_Hi_keep
        rw [if_neg hlt, Option.bind_some]
      · apply pa_eq.mpr
        rw [e2.2.2.1, k2]
        show _ = (gq_f M1 4 + 1).toInt
        rw [e4']
      · show 0 ≤ (gq_f M1 4 + 1).toInt
        rw [e4']; omega
      · show (gq_f M1 4 + 1).toInt ≤ 10
        rw [e4']; omega
      · obtain ⟨u1, u2, u3, u4, u5⟩ := hup _ (Or.inr rfl)
        have es : rh_s (gs_f (gs_f M1 3 (((gq_f M1 3) + 1) - ((gq_f M1 3) + 1) / 11 * 11)) 4 ((gq_f M1 4) + 1)) = (rh_s M + 1) % 11 := by unfold rh_s at u5 ⊢; omega
        have ek : rh_k (gs_f (gs_f M1 3 (((gq_f M1 3) + 1) - ((gq_f M1 3) + 1) / 11 * 11)) 4 ((gq_f M1 4) + 1)) = rh_k M + 1 := by
          show (gq_f M1 4 + 1).toInt.toNat = _
          rw [e4']; omega
        rw [es, ek]
        rw [ek] at hk
        by_cases hkk : k = rh_k M
        · have er : rh_r ((rh_s M + 1) % 11) (rh_k M + 1) k = rh_s M := by unfold rh_r; omega
          rw [er]
          exact hent k (by rw [hkk]; exact k4) (by rw [hkk]; exact k5) _ rfl rfl rfl
        · have er : rh_r ((rh_s M + 1) % 11) (rh_k M + 1) k = rh_r (rh_s M) (rh_k M) k := by unfold rh_r; omega
          rw [er]
          obtain ⟨r1, r2⟩ := hrow k (by omega)
          obtain ⟨p9, p10⟩ := k3 k (by omega)
          have ho := HH k (by omega)
          unfold rp_h
          rw [q9, q10, u2, u3, g1f, r1, r2, p9, v9]
          refine ⟨ho.1, ho.2.1, ho.2.2.1, fun p p1 p2 => ?_⟩
          have hc2 := ho.2.2.1
          rw [p10 p p1 (by omega), v10]
          exact ho.2.2.2 p p1 p2
    · -- the oldest is dropped
      have hlt : (10 : Int32) ≤ gq_f M1 4 := by rw [pa_le, f4, e10]; unfold rh_k at k1; omega
      have e4' : (gq_f M1 4).toInt = 10 := by rw [f4]; unfold rh_k at k1; omega
      refine ⟨y, gs_f M1 3 (((gq_f M1 3) + 1) - ((gq_f M1 3) + 1) / 11 * 11), W3, ?_, hmw, fin _ (Or.inl rfl) ⟨?_, ?_, ?_⟩ (fun k hk => ?_)⟩
      · rw [hrunC, if_neg hy]
        unfold fn_Hi_keep
        rw [if_pos hlt, Option.bind_some]
      · apply pa_eq.mpr
        rw [e2.2.2.1, k2]
        exact e4'.symm
      · show 0 ≤ (gq_f M1 4).toInt
        rw [e4']; omega
      · show (gq_f M1 4).toInt ≤ 10
        rw [e4']; omega
      · obtain ⟨u1, u2, u3, u4, u5⟩ := hup _ (Or.inl rfl)
        have es : rh_s (gs_f M1 3 (((gq_f M1 3) + 1) - ((gq_f M1 3) + 1) / 11 * 11)) = (rh_s M + 1) % 11 := by unfold rh_s at u5 ⊢; omega
        have ek : rh_k (gs_f M1 3 (((gq_f M1 3) + 1) - ((gq_f M1 3) + 1) / 11 * 11)) = 10 := by
          show (gq_f M1 4).toInt.toNat = _
          rw [e4']; rfl
        rw [es, ek]
        rw [ek] at hk
        by_cases hkk : k = 9
        · have er : rh_r ((rh_s M + 1) % 11) 10 k = rh_s M := by unfold rh_r; omega
          rw [er, hkk]
          exact hent 9 k4 k5 _ rfl rfl rfl
        · have er : rh_r ((rh_s M + 1) % 11) 10 k = rh_r (rh_s M) (rh_k M) (k + 1) := by rw [k1]; unfold rh_r; omega
          rw [er]
          obtain ⟨r1, r2⟩ := hrow (k + 1) (by omega)
          obtain ⟨p9, p10⟩ := k3 k (by omega)
          have ho := HH (k + 1) (by omega)
          unfold rp_h
          rw [q9, q10, u2, u3, g1f, r1, r2, p9, v9]
          refine ⟨ho.1, ho.2.1, ho.2.2.1, fun p p1 p2 => ?_⟩
          have hc2 := ho.2.2.1
          rw [p10 p p1 (by omega), v10]
          exact ho.2.2.2 p p1 p2
