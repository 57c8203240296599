/-! undo, note, gate -/
theorem nz_of {a : Int32} (h : 0 ≤ a.toInt) : nI a.toInt.toNat = a := by
  have := pa_hi a
  apply pa_eq.mpr
  rw [pa_nI (by omega)]
  omega
theorem op_ud {K : Nat} (hK : K ≤ 9) : ∀ (k c : Nat) (v : Int32) (W : gq_M) (f : Nat), v.toInt = c → (gq_i W 9 (K : Int)).toInt = ((c + k : Nat) : Int) → c + k ≤ 80 → (gq_f W 3).toInt = K →
    ∃ W2, fl_Mo_undo_26 (f + (k + 1)) v W = some (1, W2) ∧ pf_F (fun a => a = 2) (fun _ => False) W W2 ∧ (∀ p : Int, (c : Int) ≤ p → p < ((c + k : Nat) : Int) → gq_i W2 2 p = gq_i W 10 (80 * (K : Int) + p)) ∧ ∀ p : Int, (p < c ∨ ((c + k : Nat) : Int) ≤ p) → gq_i W2 2 p = gq_i W 2 p
  | 0, c, v, W, f, hv, hk, h80, hKe => by
    refine ⟨W, ?_, pf_r _ _ _, fun p a b => absurd b (by omega), fun _ _ => rfl⟩
    show fl_Mo_undo_26 (f + 1) v W = _
    rw [fl_Mo_undo_26, if_pos (by rw [hKe]; omega), if_pos (by rw [pa_le, hKe, hk, hv]; omega)]
  | k + 1, c, v, W, f, hv, hk, h80, hKe => by
    have e1 : (v + 1).toInt = ((c + 1 : Nat) : Int) := by rw [pa_1 (by omega)]; omega
    have ei : ((80 * (gq_f W 3)) + v).toInt = 80 * (K : Int) + c := rh_80 hKe hv (by omega) (by omega)
    obtain ⟨W2, g1, g2, g4, g5⟩ := op_ud hK k (c + 1) (v + 1) (gs_i W 2 (gz_u (gq_i W 2) v.toInt (gq_i W 10 ((80 * (gq_f W 3)) + v).toInt))) f e1 (by rw [show c + 1 + k = c + (k + 1) by omega]; exact hk) (by omega) hKe
    refine ⟨W2, ?_, pf_t (pf_i rfl (pf_r _ _ _)) g2, fun p p1 p2 => ?_, fun z hz => ?_⟩
    · show fl_Mo_undo_26 (f + (k + 1) + 1) v W = _
      rw [fl_Mo_undo_26, if_pos (by rw [hKe]; omega), if_neg (by rw [pa_le, hKe, hk, hv]; omega), if_pos (by rw [ei]; omega), if_pos (by omega)]
      exact g1
    · by_cases e : p = (c : Int)
      · rw [g5 _ (Or.inl (by omega))]
        show gz_u (gq_i W 2) v.toInt _ p = _
        rw [hv, e, gz_us, ei]
      · exact g4 p (by omega) (by omega)
    · rw [g5 z (by omega)]
      show gz_u (gq_i W 2) v.toInt _ z = _
      rw [gz_un _ _ (by omega)]
theorem op_undo {M W : gq_M} (hR : rl_R M W) : ∃ (y : Int32) (M2 W2 : gq_M), fn_PS_undo M = some (y, M2) ∧ fn_Mo_undo W = some (y, W2) ∧ rl_R M2 W2 := by
  obtain ⟨hKK, hN, hH, hJ, hcm⟩ := id hR
  obtain ⟨hC, hS, hZ, hT, hG, hQ⟩ := id hKK
  obtain ⟨⟨H0, H1, H2, H3, H4⟩, HH⟩ := id hH
  have h80 := hC.2.2
  by_cases e : gq_f M 4 = 0
  · refine ⟨0, M, gs_f W 0 0, ?_, ?_, rl_0 hR 0⟩
    · unfold fn_PS_undo fn_Hi_restore
      rw [if_pos e, Option.bind_some, if_pos (py_nar (Or.inl rfl))]
    · unfold fn_Mo_undo
      rw [if_pos (H0.trans e)]
  · have ek : (gq_f M 4).toInt ≠ 0 := fun z => e (pa_0.mpr z)
    have hs : rh_s M < 11 := by unfold rh_s; omega
    have hk1 : 1 ≤ rh_k M := by unfold rh_k; omega
    have hk10 : rh_k M ≤ 10 := by unfold rh_k; omega
    have hkI : ((rh_k M : Nat) : Int) = (gq_f M 4).toInt := by unfold rh_k; omega
    have hsl : (((gq_f M 3) + 11) - 1) - (((gq_f M 3) + 11) - 1) / 11 * 11 = nI ((rh_s M + 10) % 11) := by
      have := rh_dn (rh_s M) hs
      rw [show nI (rh_s M) = gq_f M 3 from nz_of H3] at this
      exact this
    generalize hr : (rh_s M + 10) % 11 = r at hsl
    have hr11 : r < 11 := by omega
    have erI : (nI r).toInt = r := pa_nI (by omega)
    have hrr : rh_r (rh_s M) (rh_k M) (rh_k M - 1) = r := by unfold rh_r; omega
    have h0 := HH (rh_k M - 1) (by omega)
    rw [hrr] at h0
    obtain ⟨p1, p2, p3, p4⟩ := h0
    have e4 : (gq_f M 4 - 1).toInt = (gq_f M 4).toInt - 1 := by
      rw [pa_sub (by rw [show (1 : Int32).toInt = 1 from rfl]; omega) (by rw [show (1 : Int32).toInt = 1 from rfl]; omega)]
      rfl
    generalize hM2 : gs_i (gs_f (gs_f M 4 ((gq_f M 4) - 1)) 3 (nI r)) 3 (gz_cpy (gq_i M (18 + r)) (gq_i M 3) (gq_i M 15 (r : Int)).toInt) = M2
    have hcls : fn_PS_undo M = some (1, M2) := by
      unfold fn_PS_undo fn_Hi_restore
      rw [if_neg e, hsl, erI, if_pos (by omega), if_pos (by omega), Option.bind_some, if_pos (py_nar (Or.inr rfl)), ← hM2]
      rfl
    have m3 : gq_i M2 3 = gz_cpy (gq_i M (18 + r)) (gq_i M 3) (gq_i M 15 (r : Int)).toInt := by rw [← hM2]; rfl
    have mi : ∀ a, a ≠ 3 → gq_i M2 a = gq_i M a := fun a h => by rw [← hM2]; exact gq_un _ _ h
    have ml : gq_l M2 = gq_l M := by rw [← hM2]
    have mj : gq_j M2 = gq_j M := by rw [← hM2]
    have mf3 : gq_f M2 3 = nI r := by rw [← hM2]; rfl
    have mf4 : gq_f M2 4 = gq_f M 4 - 1 := by rw [← hM2]; rfl
    have mf : ∀ i, i ≠ 3 → i ≠ 4 → gq_f M2 i = gq_f M i := fun i h1 h2 => by rw [← hM2]; exact (gq_un _ _ h1).trans (gq_un _ _ h2)
    have hKe : ((rh_k M - 1 : Nat) : Int) = (gq_f M 4).toInt - 1 := by omega
    obtain ⟨W2, w1, w2, w3, w4⟩ := op_ud (K := rh_k M - 1) (by omega) (gq_i M 15 (r : Int)).toInt.toNat 0 0 (gs_f (gs_f W 0 0) 3 ((gq_f W 3) - 1)) (4999 - (gq_i M 15 (r : Int)).toInt.toNat) rfl
      (by show (gq_i W 9 ((rh_k M - 1 : Nat) : Int)).toInt = _; rw [p1]; omega) (by omega)
      (by show (gq_f W 3 - 1).toInt = _; rw [H0, e4]; omega)
    have wi : ∀ a, a ≠ 2 → gq_i W2 a = gq_i W a := fun a h => w2.1 a h
    have wl : ∀ a, gq_l W2 a = gq_l W a := fun a => w2.2.1 a (fun z => z)
    have wf : ∀ i, i ≠ 0 → i ≠ 3 → gq_f W2 i = gq_f W i := fun i h1 h2 => (w2.2.2.1 i).trans ((gq_un _ _ h2).trans (gq_un _ _ h1))
    have wf3 : gq_f W2 3 = gq_f W 3 - 1 := w2.2.2.1 3
    have wj : gq_j W2 0 = gq_j W 0 := w2.2.2.2 0
    refine ⟨1, M2, W2, hcls, ?_, ?_⟩
    · unfold fn_Mo_undo
      rw [if_neg (by rw [H0]; exact e), show 5000 = 4999 - (gq_i M 15 (r : Int)).toInt.toNat + ((gq_i M 15 (r : Int)).toInt.toNat + 1) by omega]
      exact w1
    · refine ⟨rl_Kgo hKK ⟨fun a a1 a2 => mi a a2, ⟨mi 16 (by omega), mi 17 (by omega)⟩, fun a _ => by rw [ml], mf 0 (by omega) (by omega), mf 1 (by omega) (by omega), mf 5 (by omega) (by omega)⟩ ⟨fun a a1 a2 => wi a a2, ⟨wi 11 (by omega), wi 12 (by omega)⟩, fun a _ => wl a, wf 1 (by omega) (by omega), wf 2 (by omega) (by omega), wf 4 (by omega) (by omega)⟩, fun p a b => ?_, ⟨⟨?_, ?_, ?_, ?_, ?_⟩, fun k hk => ?_⟩, ?_, fun z z1 z2 => ?_⟩
      · rw [mf 1 (by omega) (by omega)] at b
        rw [m3]
        unfold gz_cpy
        by_cases c : p < (gq_i M 15 (r : Int)).toInt
        · rw [if_pos ⟨a, c⟩, w3 p (by omega) (by omega)]
          exact p4 p a c
        · rw [if_neg (by omega), w4 p (by omega)]
          exact hN p a b
      · rw [wf3, mf4, H0]
      · rw [mf4, e4]; omega
      · rw [mf4, e4]; omega
      · rw [mf3, erI]; omega
      · rw [mf3, erI]; omega
      · have ek2 : rh_k M2 = rh_k M - 1 := by unfold rh_k; rw [mf4, e4]; omega
        have es2 : rh_s M2 = r := by unfold rh_s; rw [mf3, erI]; omega
        rw [ek2] at hk ⊢
        rw [es2, show rh_r r (rh_k M - 1) k = rh_r (rh_s M) (rh_k M) k by unfold rh_r; omega]
        exact rp_hgo (HH k (by omega)) (wi 9 (by omega)) (wi 10 (by omega)) (by rw [mi 15 (by omega)]) (mi _ (by omega)) (mf 1 (by omega) (by omega))
      · rw [wj, mj]; exact hJ
      · show 0 ≤ (gq_i M2 12 z).toInt ∧ (gq_i M2 12 z).toInt ≤ 12
        rw [mi 12 (by omega)]
        exact hcm z z1 z2
/-- the end of the model's note -/
def no_E (v1 v2 v4 : Int32) (M : gq_M) : Option (Int32 × gq_M) := if v1 < 0 then some (0, (gs_f M 0 1)) else if v4 = (-1) then some (0, (gs_f M 0 1)) else if v2 < 0 then some (0, (gs_f M 0 1)) else if 3 ≤ v2 then some (0, (gs_f M 0 1)) else if v2 = 0 then some (v4, (gs_f M 0 0)) else if v2 = 1 then if 0 ≤ v4.toInt ∧ v4.toInt < ((80 : Nat) : Int) then some (((gq_i M 3) v4.toInt), (gs_f M 0 0)) else none else if 0 ≤ v4.toInt ∧ v4.toInt < ((80 : Nat) : Int) then some (((gq_i M 2) v4.toInt), (gs_f M 0 0)) else none
theorem op_nt {M W : gq_M} (hC : rp_C M W) (hS : rp_S M W) (hN : rp_N M W) {n w : Int32} : ∀ (k c : Nat) (p s l : Int32) (f : Nat), p.toInt = c → c + k = lm_c M → 0 ≤ s.toInt → s.toInt ≤ c → l = n - s →
    ∃ q : Int32, fl_Pi_nthMoved_4 M (f + (k + 1)) n s p = some q ∧ fl_Mo_note_8 (f + (k + 1)) n w l (-1) p W = no_E n w q W ∧ (q = -1 ∨ (0 ≤ q.toInt ∧ q.toInt < (gq_f M 1).toInt ∧ 0 ≤ n.toInt))
  | 0, c, p, s, l, f, hp, hk, hs0, hs1, hl => by
    have h80 := hC.2.2
    have hx : (gq_f M 1).toInt ≤ p.toInt := by unfold lm_c at hk; omega
    refine ⟨-1, ?_, ?_, Or.inl rfl⟩
    · show fl_Pi_nthMoved_4 M (f + 1) n s p = _
      rw [fl_Pi_nthMoved_4, if_pos (pa_le.mpr hx)]
    · show fl_Mo_note_8 (f + 1) n w l (-1) p W = _
      rw [fl_Mo_note_8, if_pos (by rw [hC.1.2]; exact pa_le.mpr hx)]
      rfl
  | k + 1, c, p, s, l, f, hp, hk, hs0, hs1, hl => by
    have h80 := hC.2.2
    have hx : p.toInt < (gq_f M 1).toInt := by unfold lm_c at hk; omega
    have hx2 : ¬ gq_f M 1 ≤ p := by rw [pa_le]; omega
    have hr : 0 ≤ p.toInt ∧ p.toInt < ((80 : Nat) : Int) := by omega
    have e1 : (p + 1).toInt = ((c + 1 : Nat) : Int) := by rw [pa_1 (by omega)]; omega
    have w2 := (hN p.toInt (by omega) hx).1
    have w3 := (hS p.toInt (by omega) hx).2.2.2.1
    have g0 : fl_Pi_nthMoved_4 M (f + (k + 1 + 1)) n s p = if gq_i M 3 p.toInt = gq_i M 4 p.toInt then fl_Pi_nthMoved_4 M (f + (k + 1)) n s (p + 1) else if s = n then some p else fl_Pi_nthMoved_4 M (f + (k + 1)) n (s + 1) (p + 1) := by
      show fl_Pi_nthMoved_4 M (f + (k + 1) + 1) n s p = _
      rw [fl_Pi_nthMoved_4, if_neg hx2, if_pos hr]
    have g1 : fl_Mo_note_8 (f + (k + 1 + 1)) n w l (-1) p W = if gq_i W 2 p.toInt = gq_i W 3 p.toInt then fl_Mo_note_8 (f + (k + 1)) n w l (-1) (p + 1) W else if l = 0 then fl_Mo_note_8 (f + (k + 1)) n w (l + (-1)) p (p + 1) W else fl_Mo_note_8 (f + (k + 1)) n w (l + (-1)) (-1) (p + 1) W := by
      show fl_Mo_note_8 (f + (k + 1) + 1) n w l (-1) p W = _
      rw [fl_Mo_note_8, if_neg (by rw [hC.1.2]; exact hx2), if_pos rfl, if_pos hr]
    by_cases e : gq_i M 3 p.toInt = gq_i M 4 p.toInt
    · obtain ⟨q, q1, q2, q3⟩ := op_nt hC hS hN (n := n) (w := w) k (c + 1) (p + 1) s l f e1 (by omega) hs0 (by omega) hl
      exact ⟨q, by rw [g0, if_pos e]; exact q1, by rw [g1, if_pos (by rw [w2, w3]; exact e)]; exact q2, q3⟩
    · by_cases e2 : s = n
      · refine ⟨p, by rw [g0, if_neg e, if_pos e2], ?_, Or.inr ⟨by omega, hx, by rw [← e2]; exact hs0⟩⟩
        rw [g1, if_neg (by rw [w2, w3]; exact e), if_pos (by rw [hl, e2, Int32.sub_self])]
        show fl_Mo_note_8 (f + k + 1) n w (l + (-1)) p (p + 1) W = _
        rw [fl_Mo_note_8]
        by_cases e3 : gq_f W 2 ≤ p + 1
        · rw [if_pos e3]; rfl
        · rw [if_neg e3, if_neg (by rw [pa_eq, show (-1 : Int32).toInt = -1 from rfl]; omega)]; rfl
      · have e3 : ¬ l = 0 := fun z => e2 (by
          have := Int32.sub_add_cancel n s
          rw [← hl, z, Int32.zero_add] at this
          exact this)
        have e4 : (s + 1).toInt = s.toInt + 1 := pa_1 (by omega)
        obtain ⟨q, q1, q2, q3⟩ := op_nt hC hS hN (n := n) (w := w) k (c + 1) (p + 1) (s + 1) (l + (-1)) f e1 (by omega) (by omega) (by omega) (by rw [hl, Int32.sub_eq_add_neg, Int32.sub_eq_add_neg, Int32.neg_add, Int32.sub_eq_add_neg, Int32.add_assoc])
        exact ⟨q, by rw [g0, if_neg e, if_neg e2]; exact q1, by rw [g1, if_neg (by rw [w2, w3]; exact e), if_neg e3]; exact q2, q3⟩
theorem op_note {M W : gq_M} (hR : rl_R M W) (n w : Int32) : rt_P M (fn_PS_note n w M) (fn_Mo_note n w W) rt_k := by
  obtain ⟨⟨hC, hS, hZ, hT, hG, hQ⟩, hN, hH, hJ, hcm⟩ := id hR
  have h80 := hC.2.2
  have e0 : (0 : Int32).toInt = 0 := rfl
  have e2 : (2 : Int32).toInt = 2 := rfl
  have e3 : (3 : Int32).toInt = 3 := rfl
  obtain ⟨q, q1, q2, q3⟩ := op_nt hC hS hN (n := n) (w := w) (lm_c M) 0 0 0 n (4999 - lm_c M) rfl (by omega) (Int.le_refl _) (Int.le_refl _) (by rw [Int32.sub_zero])
  have hl : 5000 = 4999 - lm_c M + (lm_c M + 1) := by unfold lm_c; omega
  have k1 : fn_Pi_nthMoved n M = some q := by
    unfold fn_Pi_nthMoved
    rw [hl]
    exact q1
  have k2 : fn_Mo_note n w W = no_E n w q W := by
    unfold fn_Mo_note
    rw [hl]
    exact q2
  unfold fn_PS_note
  rw [k1, k2, Option.bind_some]
  unfold no_E
  have bad : ∀ F : Option (Nat ⊕ Int32), F = some (.inl 1) → ∀ G, G = some (0, gs_f W 0 1) → rt_P M F G rt_k := fun F hF G hG => ⟨0, gs_f W 0 1, hG, Or.inl ⟨1, hF, Or.inl rfl, rfl, rl_0 hR 1⟩⟩
  by_cases c1 : q = -1
  · refine bad _ (by rw [if_pos c1]) _ ?_
    by_cases c2 : n < 0
    · rw [if_pos c2]
    · rw [if_neg c2, if_pos c1]
  · rcases q3 with q3 | ⟨q3, q4, q5⟩
    · exact absurd q3 c1
    have c2 : ¬ n < 0 := by rw [pa_lt, e0]; omega
    have hr : 0 ≤ q.toInt ∧ q.toInt < ((80 : Nat) : Int) := by omega
    by_cases c3 : w < 0
    · exact bad _ (by rw [if_neg c1, if_pos c3]) _ (by rw [if_neg c2, if_neg c1, if_pos c3])
    · by_cases c4 : w ≤ 2
      · have c5 : ¬ (3 : Int32) ≤ w := by
          rw [pa_le, e3]
          rw [pa_le, e2] at c4
          omega
        have good : ∀ b : Int32, ∀ F : Option (Nat ⊕ Int32), F = some (.inr b) → ∀ G, G = some (b, gs_f W 0 0) → rt_P M F G rt_k := fun b F hF G hG => ⟨b, gs_f W 0 0, hG, Or.inr ⟨hF, rfl, rl_0 hR 0⟩⟩
        by_cases c6 : w = 0
        · exact good q _ (by rw [if_neg c1, if_neg c3, if_pos c4, if_pos c6]; rfl) _ (by rw [if_neg c2, if_neg c1, if_neg c3, if_neg c5, if_pos c6])
        · by_cases c7 : w = 1
          · exact good (gq_i M 4 q.toInt) _ (by rw [if_neg c1, if_neg c3, if_pos c4, if_neg c6, if_pos c7, if_pos hr]; rfl) _ (by rw [if_neg c2, if_neg c1, if_neg c3, if_neg c5, if_neg c6, if_pos c7, if_pos hr, (hS q.toInt q3 q4).2.2.2.1])
          · exact good (gq_i M 3 q.toInt) _ (by rw [if_neg c1, if_neg c3, if_pos c4, if_neg c6, if_neg c7, if_pos hr]; rfl) _ (by rw [if_neg c2, if_neg c1, if_neg c3, if_neg c5, if_neg c6, if_neg c7, if_pos hr, (hN q.toInt q3 q4).1])
      · have c5 : (3 : Int32) ≤ w := by
          rw [pa_le, e3]
          rw [pa_le, e2] at c4
          omega
        exact bad _ (by rw [if_neg c1, if_neg c3, if_neg c4]) _ (by rw [if_neg c2, if_neg c1, if_neg c3, if_pos c5])
theorem pa_sr {a b : Int32} {n : Nat} (hb : b.toBitVec.smod 32 = BitVec.ofNat 32 n) (hn : n < 32) (h : a >>> b = 0) : 0 ≤ a.toInt ∧ a.toInt < 2 ^ n := by
  have h1 : (a >>> b).toBitVec = a.toBitVec.sshiftRight' (b.toBitVec.smod 32) := Int32.toBitVec_shiftRight ..
  rw [h, hb] at h1
  have h2 : (a.toBitVec.sshiftRight' (BitVec.ofNat 32 n)).toInt = a.toInt >>> n := by
    show (a.toBitVec.sshiftRight (BitVec.ofNat 32 n).toNat).toInt = _
    rw [BitVec.toInt_sshiftRight, BitVec.toNat_ofNat, Nat.mod_eq_of_lt (by omega)]
    rfl
  rw [← h1] at h2
  have h3 : a.toInt >>> n = 0 := h2.symm
  rw [Int.shiftRight_eq_div_pow] at h3
  have h4 : (0 : Int) < ((2 ^ n : Nat) : Int) := by exact_mod_cast Nat.two_pow_pos n
  have h5 := Int.emod_nonneg a.toInt (Int.ne_of_gt h4)
  have h6 := Int.emod_lt_of_pos a.toInt h4
  have h7 := Int.mul_ediv_add_emod a.toInt ((2 ^ n : Nat) : Int)
  rw [h3, Int.mul_zero, Int.zero_add] at h7
  have h8 : ((2 ^ n : Nat) : Int) = (2 : Int) ^ n := by push_cast; rfl
  omega
theorem op_gate {M W : gq_M} (hR : rl_R M W) (p : Int32) : rt_I M (fn_PS_gate p M) (fn_Mo_gate p W) (fun _ => 1) := by
  obtain ⟨⟨hC, hS, hZ, hT, hG, ⟨⟨Q1, Q2, Q3⟩, Q4⟩⟩, hN, hH, hJ, hcm⟩ := id hR
  have e1 : (1 : Int32).toInt = 1 := rfl
  have e4 : (4 : Int32).toInt = 4 := rfl
  have e20 : (20 : Int32).toInt = 20 := rfl
  have bad : ∀ F : Option (Nat ⊕ (Int32 × gq_M)), F = some (.inl 2) → ∀ G, G = some (0, gs_f W 0 1) → rt_I M F G (fun _ => 1) := fun F hF G hG => ⟨0, gs_f W 0 1, hG, Or.inl ⟨2, hF, Or.inr rfl, rfl, rl_0 hR 1⟩⟩
  unfold fn_PS_gate fn_Mo_gate
  generalize hn : ((p >>> ((16 : Int32) &&& 31)) : Int32) = n
  generalize ht : p &&& 65535 = t
  by_cases c1 : n < 1
  · exact bad _ (by rw [if_pos c1]) _ (by rw [if_pos c1])
  · by_cases c2 : n ≤ 4
    · have c3 : ¬ (4 : Int32) < n := by rw [pa_lt]; rw [pa_le] at c2; omega
      by_cases c4 : ((t >>> ((((1 : Int32) <<< (n &&& 31)) : Int32) &&& 31)) : Int32) = 0
      · have hn1 : 1 ≤ n.toInt := by rw [pa_lt, e1] at c1; omega
        have hn4 : n.toInt ≤ 4 := by rw [pa_le, e4] at c2; omega
        have htt : 0 ≤ t.toInt ∧ t.toInt < 2 ^ (2 ^ n.toInt.toNat) := by
          have h5 : n = 1 ∨ n = 2 ∨ n = 3 ∨ n = 4 := by
            have h : n.toInt = 1 ∨ n.toInt = 2 ∨ n.toInt = 3 ∨ n.toInt = 4 := by omega
            rcases h with h | h | h | h
            · exact Or.inl (pa_eq.mpr h)
            · exact Or.inr (Or.inl (pa_eq.mpr h))
            · exact Or.inr (Or.inr (Or.inl (pa_eq.mpr h)))
            · exact Or.inr (Or.inr (Or.inr (pa_eq.mpr h)))
          rcases h5 with h | h | h | h
          · subst h; exact pa_sr (n := 2) (by decide) (by omega) c4
          · subst h; exact pa_sr (n := 4) (by decide) (by omega) c4
          · subst h; exact pa_sr (n := 8) (by decide) (by omega) c4
          · subst h; exact pa_sr (n := 16) (by decide) (by omega) c4
        by_cases c5 : gq_f M 5 = 20
        · have c6 : ¬ gq_f M 5 < 20 := by rw [c5]; decide
          refine ⟨-1, gs_f W 0 0, by rw [if_neg c1, if_neg c3, if_pos c4, if_pos (Q1.trans c5)], Or.inr ⟨M, ?_, rfl, rl_0 hR 0⟩⟩
          rw [if_neg c1, if_pos c2, if_pos c4]
          unfold fn_Gt_add
          rw [if_neg c6]
          rfl
        · have c5' : (gq_f M 5).toInt ≠ 20 := fun z => c5 (pa_eq.mpr z)
          have c6 : gq_f M 5 < 20 := by rw [pa_lt, e20]; omega
          have hr : 0 ≤ (gq_f M 5).toInt ∧ (gq_f M 5).toInt < ((20 : Nat) : Int) := by omega
          have ea : (gq_f M 5 + 1).toInt = (gq_f M 5).toInt + 1 := pa_1 (by omega)
          refine ⟨((gq_f M 5) + 1) - 1, gs_f (gs_i (gs_i (gs_f W 0 0) 11 (gz_u (gq_i W 11) (gq_f M 5).toInt n)) 12 (gz_u (gq_i W 12) (gq_f M 5).toInt t)) 4 ((gq_f M 5) + 1), by rw [if_neg c1, if_neg c3, if_pos c4, if_neg (by rw [Q1]; exact c5), Q1, if_pos hr], Or.inr ⟨gs_f (gs_i (gs_i M 16 (gz_u (gq_i M 16) (gq_f M 5).toInt n)) 17 (gz_u (gq_i M 17) (gq_f M 5).toInt t)) 5 ((gq_f M 5) + 1), ?_, rfl, ?_⟩⟩
          · rw [if_neg c1, if_pos c2, if_pos c4]
            unfold fn_Gt_add
            rw [if_pos c6, if_pos hr]
            rfl
          · refine ⟨⟨hC, hS, hZ, hT, rp_Gm (M := M) rfl rfl rfl hG, ⟨⟨rfl, ?_, ?_⟩, fun i i1 i2 => ?_⟩⟩, hN, rp_Hgo hH rfl rfl rfl (fun r hr => (gq_un _ _ (by omega)).trans (gq_un _ _ (by omega))) (Int.le_refl _) rfl rfl rfl, hJ, hcm⟩
            · show 0 ≤ (gq_f M 5 + 1).toInt; omega
            · show (gq_f M 5 + 1).toInt ≤ 20; omega
            · have i2' : i < (gq_f M 5 + 1).toInt := i2
              show gz_u (gq_i W 11) (gq_f M 5).toInt n i = gz_u (gq_i M 16) (gq_f M 5).toInt n i ∧ gz_u (gq_i W 12) (gq_f M 5).toInt t i = gz_u (gq_i M 17) (gq_f M 5).toInt t i ∧ 1 ≤ (gz_u (gq_i M 16) (gq_f M 5).toInt n i).toInt ∧ (gz_u (gq_i M 16) (gq_f M 5).toInt n i).toInt ≤ 4 ∧ 0 ≤ (gz_u (gq_i M 17) (gq_f M 5).toInt t i).toInt ∧ (gz_u (gq_i M 17) (gq_f M 5).toInt t i).toInt < 2 ^ (2 ^ (gz_u (gq_i M 16) (gq_f M 5).toInt n i).toInt.toNat)
              by_cases z : i = (gq_f M 5).toInt
              · rw [z, gz_us, gz_us, gz_us, gz_us]
                exact ⟨rfl, rfl, hn1, hn4, htt⟩
              · rw [gz_un _ _ z, gz_un _ _ z, gz_un _ _ z, gz_un _ _ z]
                exact Q4 i i1 (by omega)
      · exact bad _ (by rw [if_neg c1, if_pos c2, if_neg c4]) _ (by rw [if_neg c1, if_neg c3, if_neg c4])
    · have c3 : (4 : Int32) < n := by rw [pa_lt]; rw [pa_le] at c2; omega
      exact bad _ (by rw [if_neg c1, if_neg c2]) _ (by rw [if_neg c1, if_pos c3])
