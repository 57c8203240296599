/-! THE HISTORY -/
def rh_r (s K k : Nat) : Nat := (s + 11 - K + k) % 11
abbrev rh_s (M : gq_M) : Nat := (gq_f M 3).toInt.toNat
abbrev rh_k (M : gq_M) : Nat := (gq_f M 4).toInt.toNat
/-- the model's entry k is the class's row r -/
def rp_h (M W : gq_M) (k r : Nat) : Prop := gq_i W 9 (k : Int) = gq_i M 15 (r : Int) ∧ 0 ≤ (gq_i M 15 (r : Int)).toInt ∧ (gq_i M 15 (r : Int)).toInt ≤ (gq_f M 1).toInt ∧ ∀ p : Int, 0 ≤ p → p < (gq_i M 15 (r : Int)).toInt → gq_i W 10 (80 * (k : Int) + p) = gq_i M (18 + r) p ∧ 0 ≤ (gq_i M (18 + r) p).toInt ∧ (gq_i M (18 + r) p).toInt < 200
def rp_H (M W : gq_M) : Prop := (gq_f W 3 = gq_f M 4 ∧ 0 ≤ (gq_f M 4).toInt ∧ (gq_f M 4).toInt ≤ 10 ∧ 0 ≤ (gq_f M 3).toInt ∧ (gq_f M 3).toInt ≤ 10) ∧ ∀ k : Nat, k < rh_k M → rp_h M W k (rh_r (rh_s M) (rh_k M) k)
theorem rh_up : ∀ s, s < 11 → ((nI s) + 1) - ((nI s) + 1) / 11 * 11 = nI ((s + 1) % 11) := by decide +kernel
theorem rh_dn : ∀ s, s < 11 → (((nI s) + 11) - 1) - (((nI s) + 11) - 1) / 11 * 11 = nI ((s + 10) % 11) := by decide +kernel
theorem rh_80 {a b : Int32} {x y : Int} (ha : a.toInt = x) (hb : b.toInt = y) (hx : 0 ≤ x ∧ x ≤ 10) (hy : 0 ≤ y ∧ y ≤ 80) : ((80 * a) + b).toInt = 80 * x + y := by
  have e : (80 : Int32).toInt = 80 := rfl
  have h1 : (80 * a).toInt = 80 * x := by
    rw [pa_mul (by rw [e, ha]; omega) (by rw [e, ha]; omega), e, ha]
  rw [pa_add (by rw [h1, hb]; omega) (by rw [h1, hb]; omega), h1, hb]
theorem rh_81 {a b : Int32} {x y : Int} (ha : a.toInt = x) (hb : b.toInt = y) (hx : 1 ≤ x ∧ x ≤ 10) (hy : 0 ≤ y ∧ y ≤ 80) : (((80 * a) - 80) + b).toInt = 80 * x - 80 + y := by
  have e : (80 : Int32).toInt = 80 := rfl
  have h1 : (80 * a).toInt = 80 * x := by
    rw [pa_mul (by rw [e, ha]; omega) (by rw [e, ha]; omega), e, ha]
  have h2 : ((80 * a) - 80).toInt = 80 * x - 80 := by
    rw [pa_sub (by rw [h1, e]; omega) (by rw [h1, e]; omega), h1, e]
  rw [pa_add (by rw [h2, hb]; omega) (by rw [h2, hb]; omega), h2, hb]
/-- the model writes down nets -/
theorem rh_101 {K : Nat} (hK : K ≤ 9) : ∀ (k c : Nat) (v : Int32) (W : gq_M) (f : Nat), v.toInt = c → (gq_f W 2).toInt = ((c + k : Nat) : Int) → c + k ≤ 80 → (gq_f W 3).toInt = K →
    ∃ W2, fl_Mo_keepNets_101 (f + (k + 1)) v W = some W2 ∧ pf_G (fun a => a = 10) (fun _ => False) (fun i => i = 3) W W2 ∧ (gq_f W2 3).toInt = (K : Int) + 1 ∧ (∀ p : Int, (c : Int) ≤ p → p < ((c + k : Nat) : Int) → gq_i W2 10 (80 * (K : Int) + p) = gq_i W 2 p) ∧ ∀ z : Int, (z < 80 * (K : Int) + c ∨ 80 * (K : Int) + 80 ≤ z) → gq_i W2 10 z = gq_i W 10 z
  | 0, c, v, W, f, hv, hk, h80, hKe => by
    refine ⟨gs_f W 3 (gq_f W 3 + 1), ?_, pg_f rfl (pg_r _ _ _ _), ?_, fun p a b => absurd b (by omega), fun _ _ => rfl⟩
    · show fl_Mo_keepNets_101 (f + 1) v W = _
      rw [fl_Mo_keepNets_101, if_pos (by rw [pa_le, hk, hv]; omega)]
    · show (gq_f W 3 + 1).toInt = _
      rw [pa_1 (by omega), hKe]
  | k + 1, c, v, W, f, hv, hk, h80, hKe => by
    have e1 : (v + 1).toInt = ((c + 1 : Nat) : Int) := by rw [pa_1 (by omega)]; omega
    have ei : ((80 * (gq_f W 3)) + v).toInt = 80 * (K : Int) + c := rh_80 hKe hv (by omega) (by omega)
    obtain ⟨W2, g1, g2, g3, g4, g5⟩ := rh_101 hK k (c + 1) (v + 1) (gs_i W 10 (gz_u (gq_i W 10) ((80 * (gq_f W 3)) + v).toInt (gq_i W 2 v.toInt))) f e1 (by rw [show c + 1 + k = c + (k + 1) by omega]; exact hk) (by omega) hKe
    refine ⟨W2, ?_, pg_t (pg_i rfl (pg_r _ _ _ _)) g2, g3, fun p p1 p2 => ?_, fun z hz => ?_⟩
    · show fl_Mo_keepNets_101 (f + (k + 1) + 1) v W = _
      rw [fl_Mo_keepNets_101, if_neg (by rw [pa_le, hk, hv]; omega), if_pos (by omega), if_pos (by rw [ei]; omega)]
      exact g1
    · by_cases e : p = (c : Int)
      · rw [g5 _ (Or.inl (by omega))]
        show gz_u (gq_i W 10) ((80 * (gq_f W 3)) + v).toInt _ (80 * (K : Int) + p) = _
        rw [ei, e, gz_us, hv]
      · exact g4 p (by omega) (by omega)
    · rw [g5 z (by omega)]
      show gz_u (gq_i W 10) ((80 * (gq_f W 3)) + v).toInt _ z = _
      rw [gz_un _ _ (by rw [ei]; omega)]
/-- one entry moves down -/
theorem rh_33 {K11 : Int32 → gq_M → Option gq_M} {a : Int32} {x : Nat} (ha : a.toInt = x) (hx : 1 ≤ x ∧ x ≤ 9) : ∀ (k c : Nat) (v : Int32) (W : gq_M) (f : Nat), v.toInt = c → c + k = 80 →
    ∃ W2, fl_Mo_keepNets_33 K11 (f + (k + 1)) a v W = K11 (a + 1) W2 ∧ pf_F (fun a => a = 10) (fun _ => False) W W2 ∧ (∀ p : Int, (c : Int) ≤ p → p < 80 → gq_i W2 10 (80 * (x : Int) - 80 + p) = gq_i W 10 (80 * (x : Int) + p)) ∧ ∀ z : Int, (z < 80 * (x : Int) - 80 + c ∨ 80 * (x : Int) ≤ z) → gq_i W2 10 z = gq_i W 10 z
  | 0, c, v, W, f, hv, hk => by
    have e : (80 : Int32).toInt = 80 := rfl
    refine ⟨W, ?_, pf_r _ _ _, fun p a b => absurd b (by omega), fun _ _ => rfl⟩
    show fl_Mo_keepNets_33 K11 (f + 1) a v W = _
    rw [fl_Mo_keepNets_33, if_pos (by rw [pa_le, hv, e]; omega)]
  | k + 1, c, v, W, f, hv, hk => by
    have e : (80 : Int32).toInt = 80 := rfl
    have e1 : (v + 1).toInt = ((c + 1 : Nat) : Int) := by rw [pa_1 (by omega)]; omega
    have ei : ((80 * a) + v).toInt = 80 * (x : Int) + c := rh_80 ha hv (by omega) (by omega)
    have ej : (((80 * a) - 80) + v).toInt = 80 * (x : Int) - 80 + c := rh_81 ha hv (by omega) (by omega)
    obtain ⟨W2, g1, g2, g4, g5⟩ := rh_33 (K11 := K11) ha hx k (c + 1) (v + 1) (gs_i W 10 (gz_u (gq_i W 10) (((80 * a) - 80) + v).toInt (gq_i W 10 ((80 * a) + v).toInt))) f e1 (by omega)
    refine ⟨W2, ?_, pf_t (pf_i rfl (pf_r _ _ _)) g2, fun p p1 p2 => ?_, fun z hz => ?_⟩
    · show fl_Mo_keepNets_33 K11 (f + (k + 1) + 1) a v W = _
      rw [fl_Mo_keepNets_33, if_neg (by rw [pa_le, hv, e]; omega), if_pos (by rw [ei]; omega), if_pos (by rw [ej]; omega)]
      exact g1
    · by_cases e9 : p = (c : Int)
      · rw [g5 _ (Or.inl (by omega))]
        show gz_u (gq_i W 10) (((80 * a) - 80) + v).toInt _ (80 * (x : Int) - 80 + p) = _
        rw [ej, e9, gz_us, ei]
      · rw [g4 p (by omega) p2]
        show gz_u (gq_i W 10) (((80 * a) - 80) + v).toInt _ (80 * (x : Int) + p) = _
        rw [gz_un _ _ (by rw [ej]; omega)]
    · rw [g5 z (by omega)]
      show gz_u (gq_i W 10) (((80 * a) - 80) + v).toInt _ z = _
      rw [gz_un _ _ (by rw [ej]; omega)]
/-- all entries move down, then the new one -/
theorem rh_11 {c0 : Nat} (h80 : c0 ≤ 80) : ∀ (k x : Nat) (a : Int32) (W W0 : gq_M) (f : Nat), a.toInt = x → x + k = 10 → 1 ≤ x → (gq_f W 2).toInt = c0 → (gq_f W 3).toInt = 10 → gq_i W 2 = gq_i W0 2 →
    (∀ y : Nat, y + 1 < x → gq_i W 9 (y : Int) = gq_i W0 9 ((y : Int) + 1) ∧ ∀ p : Int, 0 ≤ p → p < 80 → gq_i W 10 (80 * (y : Int) + p) = gq_i W0 10 (80 * ((y : Int) + 1) + p)) → (∀ y : Nat, x ≤ y → y < 10 → gq_i W 9 (y : Int) = gq_i W0 9 (y : Int) ∧ ∀ p : Int, 0 ≤ p → p < 80 → gq_i W 10 (80 * (y : Int) + p) = gq_i W0 10 (80 * (y : Int) + p)) →
    ∃ W2, fl_Mo_keepNets_11 (f + (k + 1)) a W = some W2 ∧ pf_G (fun a => a = 9 ∨ a = 10) (fun _ => False) (fun i => i = 3) W W2 ∧ (gq_f W2 3).toInt = 10 ∧ (∀ y : Nat, y < 9 → gq_i W2 9 (y : Int) = gq_i W0 9 ((y : Int) + 1) ∧ ∀ p : Int, 0 ≤ p → p < 80 → gq_i W2 10 (80 * (y : Int) + p) = gq_i W0 10 (80 * ((y : Int) + 1) + p)) ∧ gq_i W2 9 9 = gq_f W 2 ∧ ∀ p : Int, 0 ≤ p → p < c0 → gq_i W2 10 (80 * 9 + p) = gq_i W0 2 p
  | 0, x, a, W, W0, f, ha, hk, hx, hc, hK, h2, hd, hu => by
    have e10 : (10 : Int32).toInt = 10 := rfl
    have e1 : (1 : Int32).toInt = 1 := rfl
    have em : (gq_f W 3 - 1).toInt = 9 := by rw [pa_sub (by rw [hK, e1]; omega) (by rw [hK, e1]; omega), hK, e1]; rfl
    obtain ⟨W2, g1, g2, g3, g4, g5⟩ := rh_101 (K := 9) (by omega) c0 0 0 (gs_i (gs_f W 3 (gq_f W 3 - 1)) 9 (gz_u (gq_i W 9) (gq_f W 3 - 1).toInt (gq_f W 2))) (4999 - c0) rfl (by rw [Nat.zero_add]; exact hc) (by omega) em
    have q9 : gq_i W2 9 = gz_u (gq_i W 9) 9 (gq_f W 2) := by
      rw [g2.1 9 (by decide), ← em]
      rfl
    refine ⟨W2, ?_, pg_t (pg_i (Or.inl rfl) (pg_f rfl (pg_r _ _ _ _))) (pg_w g2 (fun a h => Or.inr h) (fun _ h => h) (fun _ h => h)), by rw [g3]; rfl, fun y hy => ?_, by rw [q9, gz_us], fun p p1 p2 => ?_⟩
    · show fl_Mo_keepNets_11 (f + 1) a W = _
      rw [fl_Mo_keepNets_11, if_pos (by rw [pa_le, ha, e10]; omega), if_pos (by rw [em]; omega), show 5000 = 4999 - c0 + (c0 + 1) by omega]
      exact g1
    · have h := hd y (by omega)
      refine ⟨by rw [q9, gz_un _ _ (by omega)]; exact h.1, fun p p1 p2 => ?_⟩
      rw [g5 _ (Or.inl (by omega))]
      exact h.2 p p1 p2
    · have h9 := g4 p (by omega) (by omega)
      rw [show (80 * ((9 : Nat) : Int) + p) = 80 * 9 + p by omega] at h9
      rw [h9]
      show gq_i W 2 p = _
      rw [h2]
  | k + 1, x, a, W, W0, f, ha, hk, hx, hc, hK, h2, hd, hu => by
    have e10 : (10 : Int32).toInt = 10 := rfl
    have e1 : (1 : Int32).toInt = 1 := rfl
    have ea : (a + 1).toInt = ((x + 1 : Nat) : Int) := by rw [pa_1 (by omega)]; omega
    have em : (a - 1).toInt = (x : Int) - 1 := by rw [pa_sub (by rw [ha, e1]; omega) (by rw [ha, e1]; omega), ha, e1]
    obtain ⟨W1, b1, b2, b3, b4⟩ := rh_33 (K11 := fl_Mo_keepNets_11 (f + (k + 1))) ha (by omega) 80 0 0 (gs_i W 9 (gz_u (gq_i W 9) (a - 1).toInt (gq_i W 9 a.toInt))) 4919 rfl (by omega)
    have q9 : gq_i W1 9 = gz_u (gq_i W 9) ((x : Int) - 1) (gq_i W 9 (x : Int)) := by
      rw [b2.1 9 (by decide), ← em, ← ha]
      rfl
    have hf1 : pf_G (fun a => a = 9 ∨ a = 10) (fun _ => False) (fun i => i = 3) W W1 := pg_t (pg_i (Or.inl rfl) (pg_r _ _ _ _)) (pg_of b2 (fun a h => Or.inr h) (fun _ h => h))
    have hux := hu x (by omega) (by omega)
    obtain ⟨W2, g1, g2, g3⟩ := rh_11 h80 k (x + 1) (a + 1) W1 W0 f ea (by omega) (by omega) (by rw [b2.2.2.1 2]; exact hc) (by rw [b2.2.2.1 3]; exact hK) ((b2.1 2 (by decide)).trans h2) (fun y hy => by
        by_cases e : y + 1 = x
        · refine ⟨by rw [q9, show (y : Int) = (x : Int) - 1 by omega, gz_us, hux.1, show (x : Int) - 1 + 1 = (x : Int) by omega], fun p p1 p2 => ?_⟩
          rw [show 80 * (y : Int) + p = 80 * (x : Int) - 80 + p by omega, b3 p (by omega) p2, show 80 * ((y : Int) + 1) + p = 80 * (x : Int) + p by omega]
          exact hux.2 p p1 p2
        · have h := hd y (by omega)
          refine ⟨by rw [q9, gz_un _ _ (by omega)]; exact h.1, fun p p1 p2 => ?_⟩
          rw [b4 _ (Or.inl (by omega))]
          exact h.2 p p1 p2) (fun y y1 y2 => by
        have h := hu y (by omega) y2
        refine ⟨by rw [q9, gz_un _ _ (by omega)]; exact h.1, fun p p1 p2 => ?_⟩
        rw [b4 _ (Or.inr (by omega))]
        exact h.2 p p1 p2)
    have ef2 : gq_f W1 2 = gq_f W 2 := b2.2.2.1 2
    rw [ef2] at g3
    refine ⟨W2, ?_, pg_t hf1 g2, g3⟩
    show fl_Mo_keepNets_11 (f + (k + 1) + 1) a W = _
    rw [fl_Mo_keepNets_11, if_neg (by rw [pa_le, ha, e10]; omega), if_pos (by omega), if_pos (by rw [em]; omega), show 5000 = 4919 + (80 + 1) by omega, b1]
    exact g1
/-- the model keeps -/
theorem rh_keep {W : gq_M} {c0 K : Nat} (hc : (gq_f W 2).toInt = c0) (h80 : c0 ≤ 80) (hK : (gq_f W 3).toInt = K) (hK10 : K ≤ 10) :
    ∃ W2, fn_Mo_keepNets W = some W2 ∧ pf_G (fun a => a = 9 ∨ a = 10) (fun _ => False) (fun i => i = 3) W W2 ∧
      ((K < 10 ∧ (gq_f W2 3).toInt = (K : Int) + 1 ∧ (∀ y : Nat, y < K → gq_i W2 9 (y : Int) = gq_i W 9 (y : Int) ∧ ∀ p : Int, 0 ≤ p → p < 80 → gq_i W2 10 (80 * (y : Int) + p) = gq_i W 10 (80 * (y : Int) + p)) ∧ gq_i W2 9 (K : Int) = gq_f W 2 ∧ ∀ p : Int, 0 ≤ p → p < c0 → gq_i W2 10 (80 * (K : Int) + p) = gq_i W 2 p) ∨
       (K = 10 ∧ (gq_f W2 3).toInt = 10 ∧ (∀ y : Nat, y < 9 → gq_i W2 9 (y : Int) = gq_i W 9 ((y : Int) + 1) ∧ ∀ p : Int, 0 ≤ p → p < 80 → gq_i W2 10 (80 * (y : Int) + p) = gq_i W 10 (80 * ((y : Int) + 1) + p)) ∧ gq_i W2 9 9 = gq_f W 2 ∧ ∀ p : Int, 0 ≤ p → p < c0 → gq_i W2 10 (80 * 9 + p) = gq_i W 2 p)) := by
  have e10 : (10 : Int32).toInt = 10 := rfl
  unfold fn_Mo_keepNets
  by_cases e : gq_f W 3 = 10
  · have hK' : K = 10 := by
      have := pa_eq.mp e
      rw [hK, e10] at this
      omega
    obtain ⟨W2, g1, g2, g3, g4, g5, g6⟩ := rh_11 h80 9 1 1 W W 4990 rfl (by omega) (by omega) hc (by rw [hK, hK']; rfl) rfl (fun y hy => absurd hy (by omega)) (fun y _ _ => ⟨rfl, fun _ _ _ => rfl⟩)
    exact ⟨W2, by rw [if_pos e]; exact g1, g2, Or.inr ⟨hK', g3, g4, g5, g6⟩⟩
  · have hK' : K < 10 := by
      have : ¬ (gq_f W 3).toInt = 10 := fun z => e (pa_eq.mpr z)
      omega
    obtain ⟨W2, g1, g2, g3, g4, g5⟩ := rh_101 (K := K) (by omega) c0 0 0 (gs_i W 9 (gz_u (gq_i W 9) (gq_f W 3).toInt (gq_f W 2))) (4999 - c0) rfl (by rw [Nat.zero_add]; exact hc) (by omega) hK
    have q9 : gq_i W2 9 = gz_u (gq_i W 9) (K : Int) (gq_f W 2) := by
      rw [g2.1 9 (by decide), ← hK]
      rfl
    refine ⟨W2, ?_, pg_t (pg_i (Or.inl rfl) (pg_r _ _ _ _)) (pg_w g2 (fun a h => Or.inr h) (fun _ h => h) (fun _ h => h)), Or.inl ⟨hK', g3, fun y hy => ⟨by rw [q9, gz_un _ _ (by omega)], fun p p1 p2 => by rw [g5 _ (Or.inl (by omega))]; rfl⟩, by rw [q9, gz_us], fun p p1 p2 => ?_⟩⟩
    · rw [if_neg e, if_pos (by omega), show 5000 = 4999 - c0 + (c0 + 1) by omega]
      exact g1
    · rw [g4 p (by omega) (by omega)]
      rfl
