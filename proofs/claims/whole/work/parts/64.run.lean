/-! SUMS, COUNTS, THE HISTORY, A RUN -/
theorem rr_sum {M W : gq_M} (hC : rp_C M W) (hS : rp_S M W) (hT : rp_T M W) (hN : rp_N M W) : ∀ (k c : Nat) (v : Int32) (a : Int64) (f : Nat), v.toInt = c → c + k = lm_c M → ∃ z : Int64, fl_PS_sum_4 M (f + (k + 1)) a v = some z ∧ fl_Mo_sumOf_4 W (f + (k + 1)) a v = some z
  | 0, c, v, a, f, hv, hk => by
    refine ⟨a, ?_, ?_⟩
    · show fl_PS_sum_4 M (f + 1) a v = some a
      rw [fl_PS_sum_4, if_pos (by rw [pa_le, hv]; unfold lm_c at hk; omega)]
    · show fl_Mo_sumOf_4 W (f + 1) a v = some a
      rw [fl_Mo_sumOf_4, if_pos (by rw [pa_le, hC.1.2, hv]; unfold lm_c at hk; omega)]
  | k + 1, c, v, a, f, hv, hk => by
    have h80 := hC.2.2
    have hcl : (c : Int) < (gq_f M 1).toInt := by unfold lm_c at hk; omega
    have e1 : (v + 1).toInt = ((c + 1 : Nat) : Int) := by rw [pa_1 (by omega)]; omega
    obtain ⟨n1, n2, n3⟩ := hN v.toInt (by omega) (by omega)
    obtain ⟨z1, a1, a2⟩ := rc_cls (a := gq_i M 3 v.toInt) (b := v) hC hS hT ⟨n2, n3⟩ (by omega)
    obtain ⟨z2, b1, b2⟩ := rc_mod (a := gq_i M 3 v.toInt) (b := v) hC hS hT ⟨n2, n3⟩ (by omega)
    have e : z2 = z1 := pb_eq.mpr (by rw [a2, b2])
    obtain ⟨z, g1, g2⟩ := rr_sum hC hS hT hN k (c + 1) (v + 1) (a + z1) f e1 (by omega)
    refine ⟨z, ?_, ?_⟩
    · show fl_PS_sum_4 M (f + (k + 1) + 1) a v = some z
      rw [fl_PS_sum_4, if_neg (by rw [pa_le, hv]; omega), if_pos (by omega), a1, Option.bind_some]
      exact g1
    · show fl_Mo_sumOf_4 W (f + (k + 1) + 1) a v = some z
      rw [fl_Mo_sumOf_4, if_neg (by rw [pa_le, hC.1.2, hv]; omega), if_pos (by omega), n1, b1, Option.bind_some, e]
      exact g2
theorem rr_sums {M W : gq_M} (hC : rp_C M W) (hS : rp_S M W) (hT : rp_T M W) (hN : rp_N M W) : ∃ z : Int64, fn_PS_sum M = some z ∧ fn_Mo_sumOf W = some z := by
  have h80 := hC.2.2
  obtain ⟨z, g1, g2⟩ := rr_sum hC hS hT hN (lm_c M) 0 0 (Int64.ofNat (0 : Fin 2).val) (4999 - lm_c M) rfl (by omega)
  have e : 5000 = 4999 - lm_c M + (lm_c M + 1) := by unfold lm_c; omega
  refine ⟨z, ?_, ?_⟩
  · unfold fn_PS_sum
    rw [e]
    exact g1
  · unfold fn_Mo_sumOf
    rw [e]
    exact g2
/-- how many pins below c differ -/
def rr_n (A B : Int → Int32) : Nat → Nat
  | 0 => 0
  | c + 1 => rr_n A B c + (if A (c : Int) = B (c : Int) then 0 else 1)
theorem rr_nle (A B : Int → Int32) : ∀ c, rr_n A B c ≤ c
  | 0 => Nat.le_refl _
  | c + 1 => by
    have := rr_nle A B c
    unfold rr_n
    by_cases h : A (c : Int) = B (c : Int)
    · rw [if_pos h]; omega
    · rw [if_neg h]; omega
theorem rr_nc {A B A2 B2 : Int → Int32} : ∀ {c : Nat}, (∀ p : Int, 0 ≤ p → p < c → A p = A2 p ∧ B p = B2 p) → rr_n A B c = rr_n A2 B2 c
  | 0, _ => rfl
  | c + 1, h => by
    have h1 := h (c : Int) (by omega) (by omega)
    unfold rr_n
    rw [rr_nc (c := c) (fun p a b => h p a (by omega)), h1.1, h1.2]
theorem rr_cls {M : gq_M} {ro : Nat} (h80 : 0 ≤ (gq_f M 1).toInt ∧ (gq_f M 1).toInt ≤ 80) : ∀ (k c : Nat) (x v : Int32) (f : Nat), v.toInt = c → c + k = lm_c M → x.toInt = rr_n (gq_i M 3) (gq_i M (18 + ro)) c → ∃ y : Int32, fl_PS_countChanged_4 ro M (f + (k + 1)) x v = some y ∧ y.toInt = rr_n (gq_i M 3) (gq_i M (18 + ro)) (lm_c M)
  | 0, c, x, v, f, hv, hk, hx => by
    refine ⟨x, ?_, by rw [hx, show c = lm_c M by omega]⟩
    show fl_PS_countChanged_4 ro M (f + 1) x v = some x
    rw [fl_PS_countChanged_4, if_pos (by rw [pa_le, hv]; unfold lm_c at hk; omega)]
  | k + 1, c, x, v, f, hv, hk, hx => by
    have hcl : (c : Int) < (gq_f M 1).toInt := by unfold lm_c at hk; omega
    have e1 : (v + 1).toInt = ((c + 1 : Nat) : Int) := by rw [pa_1 (by omega)]; omega
    have hle := rr_nle (gq_i M 3) (gq_i M (18 + ro)) c
    have hn : rr_n (gq_i M 3) (gq_i M (18 + ro)) (c + 1) = rr_n (gq_i M 3) (gq_i M (18 + ro)) c + (if gq_i M 3 (c : Int) = gq_i M (18 + ro) (c : Int) then 0 else 1) := rfl
    by_cases e : gq_i M 3 (c : Int) = gq_i M (18 + ro) (c : Int)
    · rw [if_pos e] at hn
      obtain ⟨y, g1, g2⟩ := rr_cls h80 k (c + 1) x (v + 1) f e1 (by omega) (by rw [hn, hx]; omega)
      refine ⟨y, ?_, g2⟩
      show fl_PS_countChanged_4 ro M (f + (k + 1) + 1) x v = some y
      rw [fl_PS_countChanged_4, if_neg (by rw [pa_le, hv]; omega), if_pos (by omega), hv, if_pos e]
      exact g1
    · rw [if_neg e] at hn
      have ex : (x + 1).toInt = x.toInt + 1 := pa_1 (by omega)
      obtain ⟨y, g1, g2⟩ := rr_cls h80 k (c + 1) (x + 1) (v + 1) f e1 (by omega) (by rw [hn, ex, hx]; omega)
      refine ⟨y, ?_, g2⟩
      show fl_PS_countChanged_4 ro M (f + (k + 1) + 1) x v = some y
      rw [fl_PS_countChanged_4, if_neg (by rw [pa_le, hv]; omega), if_pos (by omega), hv, if_neg e]
      exact g1
theorem rr_mod {W : gq_M} {c0 : Nat} (hc : (gq_f W 2).toInt = c0) (h80 : c0 ≤ 80) : ∀ (k c : Nat) (x v : Int32) (f : Nat), v.toInt = c → c + k = c0 → x.toInt = rr_n (gq_i W 15) (gq_i W 2) c → ∃ y : Int32, fl_Mo_run_73 (f + (k + 1)) x v W = (if y ≤ 0 then fl_Mo_run_120 5000 y 0 W else (fn_Mo_keepNets W).bind fun q9 => fl_Mo_run_120 5000 y 0 q9) ∧ y.toInt = rr_n (gq_i W 15) (gq_i W 2) c0
  | 0, c, x, v, f, hv, hk, hx => by
    refine ⟨x, ?_, by rw [hx, show c = c0 by omega]⟩
    show fl_Mo_run_73 (f + 1) x v W = _
    rw [fl_Mo_run_73, if_pos (by rw [pa_le, hc, hv]; omega)]
  | k + 1, c, x, v, f, hv, hk, hx => by
    have e1 : (v + 1).toInt = ((c + 1 : Nat) : Int) := by rw [pa_1 (by omega)]; omega
    have hle := rr_nle (gq_i W 15) (gq_i W 2) c
    have hn : rr_n (gq_i W 15) (gq_i W 2) (c + 1) = rr_n (gq_i W 15) (gq_i W 2) c + (if gq_i W 15 (c : Int) = gq_i W 2 (c : Int) then 0 else 1) := rfl
    have ex0 : (x + 0).toInt = x.toInt := by rw [Int32.add_zero]
    by_cases e : gq_i W 15 (c : Int) = gq_i W 2 (c : Int)
    · rw [if_pos e] at hn
      obtain ⟨y, g1, g2⟩ := rr_mod hc h80 k (c + 1) (x + 0) (v + 1) f e1 (by omega) (by rw [hn, ex0, hx]; omega)
      refine ⟨y, ?_, g2⟩
      show fl_Mo_run_73 (f + (k + 1) + 1) x v W = _
      rw [fl_Mo_run_73, if_neg (by rw [pa_le, hc, hv]; omega), if_pos (by omega), hv, if_pos e]
      exact g1
    · rw [if_neg e] at hn
      have ex : (x + 1).toInt = x.toInt + 1 := pa_1 (by omega)
      obtain ⟨y, g1, g2⟩ := rr_mod hc h80 k (c + 1) (x + 1) (v + 1) f e1 (by omega) (by rw [hn, ex, hx]; omega)
      refine ⟨y, ?_, g2⟩
      show fl_Mo_run_73 (f + (k + 1) + 1) x v W = _
      rw [fl_Mo_run_73, if_neg (by rw [pa_le, hc, hv]; omega), if_pos (by omega), hv, if_neg e]
      exact g1
/-- the model copies fresh nets -/
theorem rr_cp {y : Int32} : ∀ (k c : Nat) (v : Int32) (W : gq_M) (f : Nat), v.toInt = c → (gq_f W 2).toInt = ((c + k : Nat) : Int) → c + k ≤ 80 → ∃ W2, fl_Mo_run_120 (f + (k + 1)) y v W = some (y, W2) ∧ pf_F (fun a => a = 2) (fun _ => False) W W2 ∧ (∀ p : Int, (c : Int) ≤ p → p < ((c + k : Nat) : Int) → gq_i W2 2 p = gq_i W 15 p) ∧ ∀ p : Int, (p < c ∨ ((c + k : Nat) : Int) ≤ p) → gq_i W2 2 p = gq_i W 2 p
  | 0, c, v, W, f, hv, hk, h80 => by
    refine ⟨W, ?_, pf_r _ _ _, fun p a b => absurd b (by omega), fun _ _ => rfl⟩
    show fl_Mo_run_120 (f + 1) y v W = _
    rw [fl_Mo_run_120, if_pos (by rw [pa_le, hk, hv]; omega)]
  | k + 1, c, v, W, f, hv, hk, h80 => by
    have e1 : (v + 1).toInt = ((c + 1 : Nat) : Int) := by rw [pa_1 (by omega)]; omega
    obtain ⟨W2, g1, g2, g3, g4⟩ := rr_cp (y := y) k (c + 1) (v + 1) (gs_i W 2 (gz_u (gq_i W 2) v.toInt (gq_i W 15 v.toInt))) f e1 (by rw [show c + 1 + k = c + (k + 1) by omega]; exact hk) (by omega)
    refine ⟨W2, ?_, pf_t (pf_i rfl (pf_r _ _ _)) g2, fun p p1 p2 => ?_, fun p hp => ?_⟩
    · show fl_Mo_run_120 (f + (k + 1) + 1) y v W = _
      rw [fl_Mo_run_120, if_neg (by rw [pa_le, hk, hv]; omega), if_pos (by omega)]
      exact g1
    · by_cases e : p = (c : Int)
      · rw [g4 p (by omega)]
        show gz_u (gq_i W 2) v.toInt _ p = _
        rw [hv, e, gz_us]
      · exact g3 p (by omega) (by omega)
    · rw [g4 p (by omega)]
      show gz_u (gq_i W 2) v.toInt _ p = _
      rw [gz_un _ _ (by omega)]
theorem rr_f0 : ∀ (k c : Nat) (v : Int32) (W : gq_M) (f : Nat), v.toInt = c → (gq_f W 2).toInt = ((c + k : Nat) : Int) → c + k ≤ 80 → (∀ p : Int, 0 ≤ p → p < c → gq_i W 15 p = gq_i W 2 p) → ∃ W2, fl_Mo_run_15 (f + (k + 1)) v W = fl_Mo_run_43 5000 0 W2 ∧ pf_F (fun a => a = 15) (fun _ => False) W W2 ∧ ∀ p : Int, 0 ≤ p → p < ((c + k : Nat) : Int) → gq_i W2 15 p = gq_i W 2 p
  | 0, c, v, W, f, hv, hk, h80, h => by
    refine ⟨W, ?_, pf_r _ _ _, fun p a b => h p a (by omega)⟩
    show fl_Mo_run_15 (f + 1) v W = _
    rw [fl_Mo_run_15, if_pos (by rw [pa_le, hk, hv]; omega)]
  | k + 1, c, v, W, f, hv, hk, h80, h => by
    have e1 : (v + 1).toInt = ((c + 1 : Nat) : Int) := by rw [pa_1 (by omega)]; omega
    obtain ⟨W2, g1, g2, g3⟩ := rr_f0 k (c + 1) (v + 1) (gs_i W 15 (gz_u (gq_i W 15) v.toInt (gq_i W 2 v.toInt))) f e1 (by rw [show c + 1 + k = c + (k + 1) by omega]; exact hk) (by omega) (fun p p1 p2 => by
      show gz_u (gq_i W 15) v.toInt _ p = gq_i W 2 p
      by_cases e : p = (c : Int)
      · rw [hv, e, gz_us]
      · rw [gz_un _ _ (by omega)]
        exact h p p1 (by omega))
    refine ⟨W2, ?_, pf_t (pf_i rfl (pf_r _ _ _)) g2, fun p p1 p2 => g3 p p1 (by omega)⟩
    show fl_Mo_run_15 (f + (k + 1) + 1) v W = _
    rw [fl_Mo_run_15, if_neg (by rw [pa_le, hk, hv]; omega), if_pos (by omega)]
    exact g1
/-! all groups -/
def rp_G (M : gq_M) : Prop := ∀ g : Int32, 0 ≤ g.toInt → g.toInt < 12 → (gq_i M 0 g.toInt).toInt = un_n M g (lm_c M) ∧ un_n M g (lm_c M) ≤ 12
theorem un_nc {M M2 : gq_M} {g : Int32} (h : gq_i M2 1 = gq_i M 1) : ∀ c, un_n M2 g c = un_n M g c
  | 0 => rfl
  | c + 1 => by
    unfold un_n
    rw [un_nc h c, h]
theorem un_out {M : gq_M} {g pr : Int32} {p : Int} (h : gq_i M 1 p ≠ g) : un_b M g pr p = false := by
  unfold un_b
  simp [h]
theorem un_pd {M : gq_M} {g : Int32} {p : Int} (h : gq_i M 5 p ≠ -1) : un_b M g 0 p = false := by
  unfold un_b
  simp [h]
theorem un_gr {M : gq_M} {g pr : Int32} {p : Int} (h : un_b M g pr p = true) : gq_i M 1 p = g := by
  unfold un_b at h
  simp only [Bool.and_eq_true, decide_eq_true_eq] at h
  exact h.1
/-- between the groups of a run: M0, W0 are as it began -/
def rr_I (M0 W0 M W : gq_M) (U : Int → Prop) : Prop := pf_G (fun a => a = 3 ∨ (10 ≤ a ∧ a ≤ 14)) (fun a => 4 ≤ a ∧ a ≤ 19) (fun i => i = 2) M0 M ∧ pf_G (fun a => 13 ≤ a ∧ a ≤ 15) (fun a => a = 4 ∨ a = 5) (fun i => i = 5) W0 W ∧ px_cm M ∧ (∀ p, sw_in M0 p → gq_i W 15 p = gq_i M 3 p) ∧ (∀ p, sw_in M0 p → 0 ≤ (gq_i M 3 p).toInt ∧ (gq_i M 3 p).toInt < 200) ∧ ∀ p, sw_in M0 p → U p → gq_i M 3 p = gq_i W0 2 p
def rr_B (M0 W0 : gq_M) (ro : Nat) : Prop := rp_C M0 W0 ∧ rp_S M0 W0 ∧ rp_T M0 W0 ∧ rn_W M0 W0 ∧ (∀ g : Int32, 0 ≤ g.toInt → g.toInt < 12 → un_n M0 g (lm_c M0) ≤ 12) ∧ ro < 11 ∧ ∀ p, sw_in M0 p → gq_i M0 (18 + ro) p = gq_i W0 2 p
theorem rr_one {M0 W0 M W : gq_M} {ro : Nat} {U : Int → Prop} {g pr : Int32} (hB : rr_B M0 W0 ro) (hI : rr_I M0 W0 M W U) (hg : 0 ≤ g.toInt ∧ g.toInt < 12) (hpr : pr = 0 ∨ pr = 1) (hU : ∀ p, sw_in M0 p → un_b M0 g pr p = true → U p ∧ (pr = 1 → U (sw_q M0 p))) :
    ∃ M2 W2, fn_PS_swapUnits ro g pr M = some M2 ∧ fn_Mo_match g pr W = some W2 ∧ rr_I M0 W0 M2 W2 (fun p => U p ∧ un_b M0 g pr p = false ∧ (pr = 1 → gq_i M0 5 p = -1 ∨ un_b M0 g pr (sw_q M0 p) = false)) := by
  obtain ⟨hC, hS, hT, hNW, hG, hro, hold⟩ := hB
  obtain ⟨i1, i2, i3, i4, i5, i6⟩ := hI
  have hrs : rs_E M0 M := rs_of i1 (fun a h1 h2 z => by omega) (fun a h z => by omega) (fun a h z => by omega)
  have hrw : rw_E W0 W := rw_of i2 (fun a h1 h2 z => by omega) (fun a h z => by omega) (fun a h1 h2 z => by omega)
  have f1 : gq_f M 1 = gq_f M0 1 := hrs.2.2.2.2.2.2.2.2.2.2
  have w2 : gq_i W 2 = gq_i W0 2 := i2.1 2 (by decide)
  have hub : ∀ p, un_b M g pr p = un_b M0 g pr p := fun p => un_bc hrs.1 hrs.2.2.2.1 hrs.2.2.2.2.1 hrs.2.2.2.2.2.1
  have hsq : sw_q M = sw_q M0 := by funext p; unfold sw_q; rw [hrs.2.2.2.1]
  have hin : ∀ p, sw_in M p ↔ sw_in M0 p := fun p => by unfold sw_in; rw [f1]
  have hlc : lm_c M = lm_c M0 := by unfold lm_c; rw [f1]
  obtain ⟨M2, W2, s1, s2, s3, s4, s5, s6, s7, s8⟩ := sw_step (M := M) (W := W) (g := g) (pr := pr) (ro := ro) (rw_C hrw (rs_C hrs hC)) (rw_S hrw (rs_S hrs hS)) (rw_T hrw (rs_T hrs hT)) (fun p h1 h2 => by rw [w2]; rw [f1] at h2; exact hNW p h1 h2) (fun p h1 h2 => i5 p ⟨h1, by rw [← f1]; exact h2⟩) hro i3 hpr (by
      have h1 := un_len (M := M) (g := g) (pr := pr) (lm_c M)
      rw [un_nc hrs.1, hlc] at h1
      have h2 := hG g hg.1 hg.2
      rw [hlc]
      omega) (fun p hp => i4 p ((hin p).mp hp)) (fun p hp => by
      rw [i1.1 (18 + ro) (by omega), w2]
      exact hold p ((hin p).mp hp)) (fun p hp h => by
      rw [hub] at h
      obtain ⟨h1, h2⟩ := hU p ((hin p).mp hp) h
      rw [w2, hsq]
      refine ⟨i6 p ((hin p).mp hp) h1, fun hp1 => i6 _ ?_ (h2 hp1)⟩
      obtain ⟨-, -, it⟩ := un_is hS ((hin p).mp hp) h
      rcases it with ⟨e, -⟩ | ⟨-, j1, j2, -⟩
      · rw [hp1] at e
        exact absurd e (by decide)
      · exact ⟨j1, j2⟩)
  refine ⟨M2, W2, s1, s2, pg_t i1 s3, pg_t i2 s4, s5, fun p hp => s6 p ((hin p).mpr hp), fun p hp => s8 p ((hin p).mpr hp), fun p hp hu => ?_⟩
  rw [s7 p ((hin p).mpr hp) (by rw [hub]; exact hu.2.1) (fun h => by rw [hsq, hub, hrs.2.2.2.1]; exact hu.2.2 h)]
  exact i6 p hp hu.1
theorem rr_grp {M0 W0 : gq_M} {ro : Nat} (hB : rr_B M0 W0 ro) : ∀ (k G : Nat) (v : Int32) (M W : gq_M) (f : Nat), v.toInt = G → (gq_f M0 0).toInt = ((G + k : Nat) : Int) → rr_I M0 W0 M W (fun p => (G : Int) ≤ (gq_i M0 1 p).toInt) →
    ∃ M2 W2, fl_PS_run_32 ro (f + (k + 1)) v M = ((fn_PS_countChanged ro M2).bind fun q6 => if q6 ≤ 0 then some (q6, M2) else (fn_Hi_keep M2).bind fun q9 => some (q6, q9)) ∧ fl_Mo_run_43 (f + (k + 1)) v W = fl_Mo_run_73 5000 0 0 W2 ∧ rr_I M0 W0 M2 W2 (fun _ => False)
  | 0, G, v, M, W, f, hv, hk, hI => by
    have hC := hB.1
    refine ⟨M, W, ?_, ?_, hI.1, hI.2.1, hI.2.2.1, hI.2.2.2.1, hI.2.2.2.2.1, fun _ _ z => z.elim⟩
    · show fl_PS_run_32 ro (f + 1) v M = _
      rw [fl_PS_run_32, if_pos (by rw [pa_le, hI.1.2.2.1 0 (by decide), hk, hv]; omega)]
    · show fl_Mo_run_43 (f + 1) v W = _
      rw [fl_Mo_run_43, if_pos (by rw [pa_le, hI.2.1.2.2.1 1 (by decide), hC.1.1, hk, hv]; omega)]
  | k + 1, G, v, M, W, f, hv, hk, hI => by
    have hC := hB.1
    have hS := hB.2.1
    have h12 := hC.2.1
    have e1 : (v + 1).toInt = ((G + 1 : Nat) : Int) := by rw [pa_1 (by omega)]; omega
    obtain ⟨M1, W1, a1, a2, a3⟩ := rr_one (g := v) (pr := 0) hB hI (by omega) (Or.inl rfl) (fun p hp h => ⟨by
      have := un_gr h
      show (G : Int) ≤ (gq_i M0 1 p).toInt
      rw [this, hv]
      omega, fun z => absurd z (by decide)⟩)
    obtain ⟨M2, W2, b1, b2, b3⟩ := rr_one (g := v) (pr := 1) hB a3 (by omega) (Or.inr rfl) (fun p hp h => by
      obtain ⟨g1, g2, it⟩ := un_is hS hp h
      rcases it with ⟨e, -⟩ | ⟨-, j1, j2, j3, j4, j5, j6, j7⟩
      · exact absurd e (by decide)
      · refine ⟨⟨by rw [g1, hv]; omega, un_pd j7, fun z => absurd z (by decide)⟩, fun _ => ⟨?_, ?_, fun z => absurd z (by decide)⟩⟩
        · show (G : Int) ≤ (gq_i M0 1 (gq_i M0 5 p).toInt).toInt
          rw [j5, hv]
          omega
        · apply un_pd
          intro z
          have h9 : (gq_i M0 5 (gq_i M0 5 p).toInt).toInt = -1 := by rw [z]; rfl
          have h10 := hp.1
          omega)
    obtain ⟨M3, W3, c1, c2, c3⟩ := rr_grp hB k (G + 1) (v + 1) M2 W2 f e1 (by rw [hk]; omega) ⟨b3.1, b3.2.1, b3.2.2.1, b3.2.2.2.1, b3.2.2.2.2.1, fun p hp h => b3.2.2.2.2.2 p hp (by
      have h' : ((G + 1 : Nat) : Int) ≤ (gq_i M0 1 p).toInt := h
      have hg : gq_i M0 1 p ≠ v := fun z => by rw [z, hv] at h'; omega
      have hg2 : gq_i M0 5 p = -1 ∨ gq_i M0 1 (sw_q M0 p) ≠ v := by
        obtain ⟨-, -, -, -, -, -, hpp⟩ := hS p hp.1 hp.2
        rcases hpp with z | ⟨-, -, -, -, z, -⟩
        · exact Or.inl z.1
        · exact Or.inr (by show gq_i M0 1 (gq_i M0 5 p).toInt ≠ v; rw [z]; exact hg)
      have hlast : gq_i M0 5 p = -1 ∨ un_b M0 v 1 (sw_q M0 p) = false := by
        rcases hg2 with z | z
        · exact Or.inl z
        · exact Or.inr (un_out z)
      exact ⟨⟨by show (G : Int) ≤ _; omega, un_out hg, fun z => absurd z (by decide)⟩, un_out hg, fun _ => hlast⟩)⟩
    refine ⟨M3, W3, ?_, ?_, c3⟩
    · show fl_PS_run_32 ro (f + (k + 1) + 1) v M = _
      rw [fl_PS_run_32, if_neg (by rw [pa_le, hI.1.2.2.1 0 (by decide), hk, hv]; omega), a1, Option.bind_some, b1, Option.bind_some]
      exact c1
    · show fl_Mo_run_43 (f + (k + 1) + 1) v W = _
      rw [fl_Mo_run_43, if_neg (by rw [pa_le, hI.2.1.2.2.1 1 (by decide), hC.1.1, hk, hv]; omega), a2, Option.bind_some, b2, Option.bind_some]
      exact c2
