/-! THE MODEL CHOOSES AS THE DOCUMENT WANTS -/
def dc_W (n : Nat) (m : Int → Int → Int) (W : gq_M) : Prop := dp_n n W ∧ dp_c n m ∧ (∀ i j : Int, 1 ≤ i → i ≤ n → 1 ≤ j → j ≤ n → dp_m W i j = m i j) ∧ dp_T n m 0 W
theorem dc_W.go {n : Nat} {m : Int → Int → Int} {W W2 : gq_M} {P : Nat → Prop} (h : dc_W n m W) (hf : pf_F P (fun _ => False) W W2) : dc_W n m W2 := by
  obtain ⟨h1, h2, h3, h4⟩ := h
  refine ⟨⟨by rw [hf.2.2.1 5]; exact h1.1, h1.2⟩, h2, fun i j a b c d => ?_, fun S a b => ?_⟩
  · rw [← h3 i j a b c d]
    show (gq_l W2 4 _).toInt = (gq_l W 4 _).toInt
    rw [hf.2.1 4 (fun z => z)]
  · rw [← h4 S a b, hf.2.1 5 (fun z => z)]
theorem dc_fits {n : Nat} {m : Int → Int → Int} {W : gq_M} {S u : Nat} {a b : Int32} {v : Nat} (hW : dc_W n m W) (hS : S < 2 ^ n) (hu : pl_n n S = u) (hun : u < n) (ha : a.toInt = u) (hb : b.toInt = v) (hv : v < n) : ∃ x : Int32, fn_Mo_fits a b (nI S) W = some x ∧ ((x = 1 ∧ tk_ft n m dp_V S ((u : Int) + 1) ((v : Int) + 1)) ∨ (x = 0 ∧ ¬ tk_ft n m dp_V S ((u : Int) + 1) ((v : Int) + 1))) := by
  obtain ⟨hn, hc, hm, hT⟩ := hW
  have h12 := hn.2
  have hp := bt_pow hn.2
  have eb : b = nI v := pa_eq.mpr (by rw [hb, pa_nI (by omega)])
  have hsh : ((nI S) >>> (b &&& 31)) &&& 1 = if S.testBit v then 1 else 0 := by rw [eb]; exact bt_sh (by omega) (by omega)
  have hor : (nI S) ||| ((1 : Int32) <<< (b &&& 31)) = nI (S ||| 1 <<< v) := by rw [eb]; exact bt_or (by omega) (by omega)
  have hbv : pl_b S ((v : Int) + 1) = S.testBit v := pl_b_v S v
  unfold fn_Mo_fits
  cases hbit : S.testBit v with
  | true =>
    refine ⟨0, ?_, Or.inr ⟨rfl, fun h => ?_⟩⟩
    · rw [if_neg (by rw [hsh, hbit]; decide)]
    · have := h.1
      rw [hbv, hbit] at this
      cases this
  | false =>
    have hlt := bt_lt (S := S) (v := v) (n := n) hS hv
    have hst := pl_n_step (n := n) (S := S) hv hbit
    have eO : (nI (S ||| 1 <<< v)).toInt = ((S ||| 1 <<< v : Nat) : Int) := pa_nI (by omega)
    have eS : (nI S).toInt = (S : Int) := pa_nI (by omega)
    have ei : ((12 * a) + b).toInt = 12 * (u : Int) + v := dp_12 ha hb (by omega) (by omega)
    have ec : (gq_l W 4 (12 * (u : Int) + v)).toInt = m ((u : Int) + 1) ((v : Int) + 1) := by
      rw [← hm ((u : Int) + 1) ((v : Int) + 1) (by omega) (by omega) (by omega) (by omega)]
      show _ = (gq_l W 4 (12 * ((u : Int) + 1 - 1) + ((v : Int) + 1 - 1))).toInt
      congr 2
      omega
    have e1 : dp_k n (S ||| 1 <<< v) = n - ((u : Int) + 1).toNat := by unfold dp_k; omega
    have e2 : dp_k n S = n + 1 - ((u : Int) + 1).toNat := by unfold dp_k; omega
    have et := hT (S ||| 1 <<< v) (by omega) hlt
    have es := hT S (by omega) hS
    rw [e1] at et
    rw [e2] at es
    have hV : dp_V = 1000000000000000 := rfl
    have hcb := hc ((u : Int) + 1) ((v : Int) + 1) (by omega) (by omega) (by omega) (by omega)
    have hfb := dp_b (n := n) (m := m) (NV := dp_V) (by decide) (fun i j a b c d => (hc i j a b c d).1) (n - ((u : Int) + 1).toNat) (S ||| 1 <<< v) (by omega)
    have eadd : (gq_l W 4 (12 * (u : Int) + v) + gq_l W 5 ((S ||| 1 <<< v : Nat) : Int)).toInt = m ((u : Int) + 1) ((v : Int) + 1) + pl_F n m dp_V (n - ((u : Int) + 1).toNat) (S ||| 1 <<< v) := by
      rw [h64_add (by rw [ec]; omega) (by rw [et]; omega), ec, et]
    have hw : (((v : Int) + 1) - 1).toNat = v := by omega
    have key : gq_l W 4 (12 * (u : Int) + v) + gq_l W 5 ((S ||| 1 <<< v : Nat) : Int) = gq_l W 5 (S : Int) ↔ tk_ft n m dp_V S ((u : Int) + 1) ((v : Int) + 1) := by
      rw [pb_eq, eadd, es]
      unfold tk_ft
      rw [hbv, hbit, hw]
      exact ⟨fun h => ⟨rfl, h⟩, fun h => h.2⟩
    rw [if_pos (by rw [hsh, hbit]; rfl), if_pos (by rw [ei]; omega), hor, eO, if_pos (by omega), eS, if_pos (by omega), ei]
    by_cases h : gq_l W 4 (12 * (u : Int) + v) + gq_l W 5 ((S ||| 1 <<< v : Nat) : Int) = gq_l W 5 (S : Int)
    · exact ⟨1, by rw [if_pos h], Or.inl ⟨rfl, key.mp h⟩⟩
    · exact ⟨0, by rw [if_neg h], Or.inr ⟨rfl, fun z => h (key.mpr z)⟩⟩
theorem dc_ex {n : Nat} {m : Int → Int → Int} {S u : Nat} (hu : u < n) (hF : pl_F n m dp_V (n - u) S < dp_V) : ∃ w : Nat, w < n ∧ tk_ft n m dp_V S ((u : Int) + 1) ((w : Int) + 1) := by
  have e : n - u = (n - u - 1) + 1 := by omega
  have hat := pl_m_at (fun v => S.testBit v) (fun v => m ((n : Int) - ((n - u - 1 : Nat) : Int)) ((v : Int) + 1) + pl_F n m dp_V (n - u - 1) (S ||| 1 <<< v)) dp_V n
  rw [e] at hF
  have hun : pl_F n m dp_V ((n - u - 1) + 1) S = pl_m (fun v => S.testBit v) (fun v => m ((n : Int) - ((n - u - 1 : Nat) : Int)) ((v : Int) + 1) + pl_F n m dp_V (n - u - 1) (S ||| 1 <<< v)) dp_V n := rfl
  rcases hat with h | ⟨v, hv, hb, h⟩
  · rw [hun, h] at hF
    exact absurd hF (Int.lt_irrefl _)
  · refine ⟨v, hv, ?_, ?_⟩
    · rw [pl_b_v]; exact hb
    · rw [show ((v : Int) + 1 - 1).toNat = v by omega, show n - ((u : Int) + 1).toNat = n - u - 1 by omega, show n + 1 - ((u : Int) + 1).toNat = (n - u - 1) + 1 by omega, hun, h, show (n : Int) - ((n - u - 1 : Nat) : Int) = (u : Int) + 1 by omega]
theorem dc_wh {n : Nat} {m : Int → Int → Int} {W : gq_M} {S u : Nat} {a k2 : Int32} {K : Int32 → Int32 → Int32 → gq_M → Option gq_M} (hW : dc_W n m W) (hS : S < 2 ^ n) (hu : pl_n n S = u) (hun : u < n) (ha : a.toInt = u) : ∀ (k : Nat) (b : Int32) (v f : Nat), b.toInt = v → v + k = n → (∃ w, v ≤ w ∧ w < n ∧ tk_ft n m dp_V S ((u : Int) + 1) ((w : Int) + 1)) →
    ∃ (w : Nat) (bw : Int32), v ≤ w ∧ w < n ∧ bw.toInt = w ∧ tk_ft n m dp_V S ((u : Int) + 1) ((w : Int) + 1) ∧ (∀ y : Nat, v ≤ y → y < w → ¬ tk_ft n m dp_V S ((u : Int) + 1) ((y : Int) + 1)) ∧ fl_Mo_choose_55 K (f + (k + 1)) (nI S) k2 a b W = K (nI (S ||| 1 <<< w)) k2 (a + 1) (gs_i W 14 (gz_u (gq_i W 14) (u : Int) bw))
  | 0, b, v, f, hb, hk, ⟨w, h1, h2, _⟩ => absurd h2 (by omega)
  | k + 1, b, v, f, hb, hk, ⟨w, h1, h2, h3⟩ => by
    have h12 := hW.1.2
    have hp := bt_pow h12
    obtain ⟨x, g1, g2⟩ := dc_fits (b := b) hW hS hu hun ha hb (by omega)
    have eb : b = nI v := pa_eq.mpr (by rw [hb, pa_nI (by omega)])
    rcases g2 with ⟨rfl, g3⟩ | ⟨rfl, g3⟩
    · refine ⟨v, b, by omega, by omega, hb, g3, fun y y1 y2 => absurd y2 (by omega), ?_⟩
      show fl_Mo_choose_55 K (f + (k + 1) + 1) (nI S) k2 a b W = _
      rw [fl_Mo_choose_55, g1, Option.bind_some, if_neg (by decide), if_pos (by omega), ha]
      have hor : (nI S) ||| ((1 : Int32) <<< (b &&& 31)) = nI (S ||| 1 <<< v) := by rw [eb]; exact bt_or (by omega) (by omega)
      rw [hor]
    · have hne : w ≠ v := fun e => g3 (by rw [← e]; exact h3)
      have e1 : (b + 1).toInt = ((v + 1 : Nat) : Int) := by rw [pa_1 (by omega)]; omega
      obtain ⟨w2, bw, k1, k2', k3, k4, k5, k6⟩ := dc_wh (K := K) (k2 := k2) hW hS hu hun ha k (b + 1) (v + 1) f e1 (by omega) ⟨w, by omega, h2, h3⟩
      refine ⟨w2, bw, by omega, k2', k3, k4, fun y y1 y2 => ?_, ?_⟩
      · by_cases e : y = v
        · rw [e]; exact g3
        · exact k5 y (by omega) y2
      · show fl_Mo_choose_55 K (f + (k + 1) + 1) (nI S) k2 a b W = _
        rw [fl_Mo_choose_55, g1, Option.bind_some, if_pos rfl]
        exact k6
theorem dc_keep {n : Nat} : ∀ (k : Nat) (u : Nat) (a s : Int32) (W : gq_M) (f : Nat), a.toInt = u → u + k = n → dp_n n W → (∀ r : Nat, r < u → gq_i W 14 (r : Int) = nI r) →
    ∃ W2, fl_Mo_choose_24 (f + (k + 1)) s 1 a W = some W2 ∧ pf_F (fun a => a = 14) (fun _ => False) W W2 ∧ ∀ r : Nat, r < n → gq_i W2 14 (r : Int) = nI r
  | 0, u, a, s, W, f, ha, hk, hn, hg => by
    refine ⟨W, ?_, pf_r _ _ _, fun r hr => hg r (by omega)⟩
    show fl_Mo_choose_24 (f + 1) s 1 a W = some W
    rw [fl_Mo_choose_24, if_pos (by rw [pa_le, hn.1]; omega)]
  | k + 1, u, a, s, W, f, ha, hk, hn, hg => by
    have h12 := hn.2
    have e1 : (a + 1).toInt = ((u + 1 : Nat) : Int) := by rw [pa_1 (by omega)]; omega
    have ea : a = nI u := pa_eq.mpr (by rw [ha, pa_nI (by omega)])
    obtain ⟨W2, g1, g2, g3⟩ := dc_keep k (u + 1) (a + 1) (s ||| ((1 : Int32) <<< (a &&& 31))) (gs_i W 14 (gz_u (gq_i W 14) a.toInt a)) f e1 (by omega) hn (fun r hr => by
      show gz_u (gq_i W 14) a.toInt a (r : Int) = nI r
      by_cases e : r = u
      · rw [e, ← ha, gz_us, ea]
      · rw [gz_un _ _ (by omega)]; exact hg r (by omega))
    refine ⟨W2, ?_, pf_t (pf_i rfl (pf_r _ _ _)) g2, g3⟩
    show fl_Mo_choose_24 (f + (k + 1) + 1) s 1 a W = some W2
    rw [fl_Mo_choose_24, if_neg (by rw [pa_le, hn.1]; omega), if_neg (by decide), if_pos (by omega)]
    exact g1
theorem dc_pick {n : Nat} {m : Int → Int → Int} : ∀ (k : Nat) (u : Nat) (a : Int32) (W : gq_M) (f : Nat) (g : Int → Int), a.toInt = u → u + k = n → dc_W n m W → pj_path n m dp_V g u → pj_S g u < 2 ^ n → pl_n n (pj_S g u) = u → pl_F n m dp_V (n - u) (pj_S g u) < dp_V → (∀ r : Nat, r < u → (gq_i W 14 (r : Int)).toInt = g ((r : Int) + 1) - 1) →
    ∃ (W2 : gq_M) (g2 : Int → Int), fl_Mo_choose_24 (f + (k + 1)) (nI (pj_S g u)) 0 a W = some W2 ∧ pf_F (fun a => a = 14) (fun _ => False) W W2 ∧ pj_path n m dp_V g2 n ∧ ∀ r : Nat, r < n → (gq_i W2 14 (r : Int)).toInt = g2 ((r : Int) + 1) - 1
  | 0, u, a, W, f, g, ha, hk, hW, hp, hS, hN, hF, hg => by
    have e : u = n := by omega
    rw [e] at hp
    refine ⟨W, g, ?_, pf_r _ _ _, hp, fun r hr => hg r (by omega)⟩
    show fl_Mo_choose_24 (f + 1) _ 0 a W = some W
    rw [fl_Mo_choose_24, if_pos (by rw [pa_le, hW.1.1]; omega)]
  | k + 1, u, a, W, f, g, ha, hk, hW, hp, hS, hN, hF, hg => by
    have h12 := hW.1.2
    have hpw := bt_pow h12
    have hun : u < n := by omega
    have e1 : (a + 1).toInt = ((u + 1 : Nat) : Int) := by rw [pa_1 (by omega)]; omega
    have ea : a = nI u := pa_eq.mpr (by rw [ha, pa_nI (by omega)])
    -- what is chosen
    have one : ∃ (w : Nat) (bw : Int32), w < n ∧ bw.toInt = w ∧ pj_is n m dp_V (pj_S g u) ((u : Int) + 1) ((w : Int) + 1) ∧ fl_Mo_choose_24 (f + (k + 1) + 1) (nI (pj_S g u)) 0 a W = fl_Mo_choose_24 (f + (k + 1)) (nI (pj_S g u ||| 1 <<< w)) 0 (a + 1) (gs_i W 14 (gz_u (gq_i W 14) (u : Int) bw)) := by
      obtain ⟨x, g1, g2⟩ := dc_fits (b := a) hW hS hN hun ha ha hun
      rcases g2 with ⟨rfl, g3⟩ | ⟨rfl, g3⟩
      · refine ⟨u, a, hun, ha, ⟨by omega, by omega, g3, Or.inl rfl⟩, ?_⟩
        have hor : (nI (pj_S g u)) ||| ((1 : Int32) <<< (a &&& 31)) = nI (pj_S g u ||| 1 <<< u) := by rw [ea]; exact bt_or (by omega) (by omega)
        rw [fl_Mo_choose_24, if_neg (by rw [pa_le, hW.1.1]; omega), if_pos rfl, g1, Option.bind_some, if_neg (by decide), if_pos (by omega), hor, ha]
      · obtain ⟨w0, q1, q2⟩ := dc_ex hun hF
        obtain ⟨w, bw, k1, k2, k3, k4, k5, k6⟩ := dc_wh (K := fl_Mo_choose_24 (f + (k + 1))) (k2 := 0) hW hS hN hun ha n 0 0 (4999 - n) rfl (by omega) ⟨w0, by omega, q1, q2⟩
        refine ⟨w, bw, k2, k3, ⟨by omega, by omega, k4, Or.inr ⟨g3, fun y y1 y2 => ?_⟩⟩, ?_⟩
        · have := k5 (y - 1).toNat (by omega) (by omega)
          rw [show (((y - 1).toNat : Nat) : Int) + 1 = y by omega] at this
          exact this
        · rw [fl_Mo_choose_24, if_neg (by rw [pa_le, hW.1.1]; omega), if_pos rfl, g1, Option.bind_some, if_pos rfl, show 5000 = 4999 - n + (n + 1) by omega]
          exact k6
    obtain ⟨w, bw, w1, w2, w3, w4⟩ := one
    have hbit : (pj_S g u).testBit w = false := by
      have := w3.2.2.1.1
      rw [pl_b_v] at this
      exact this
    have hSn : pj_S (gz_u g ((u : Int) + 1) ((w : Int) + 1)) (u + 1) = pj_S g u ||| 1 <<< w := by
      show pj_S (gz_u g ((u : Int) + 1) ((w : Int) + 1)) u ||| 1 <<< (gz_u g ((u : Int) + 1) ((w : Int) + 1) ((u : Int) + 1) - 1).toNat = _
      rw [gz_us, pj_Sc (g2 := g) (fun r hr => gz_un _ _ (by omega)), show ((w : Int) + 1 - 1).toNat = w by omega]
    have hft := w3.2.2.1.2
    rw [show ((w : Int) + 1 - 1).toNat = w by omega, show n - ((u : Int) + 1).toNat = n - (u + 1) by omega, show n + 1 - ((u : Int) + 1).toNat = n - u by omega] at hft
    have hcb := hW.2.1 ((u : Int) + 1) ((w : Int) + 1) (by omega) (by omega) (by omega) (by omega)
    obtain ⟨W2, g2, r1, r2, r3, r4⟩ := dc_pick k (u + 1) (a + 1) (gs_i W 14 (gz_u (gq_i W 14) (u : Int) bw)) f (gz_u g ((u : Int) + 1) ((w : Int) + 1)) e1 (by omega) (hW.go (P := fun a => a = 14) (pf_i rfl (pf_r _ _ _)))
      (fun r hr => by
        by_cases e : r = u
        · rw [e, gz_us, pj_Sc (g2 := g) (fun r hr => gz_un _ _ (by omega))]
          exact w3
        · rw [gz_un _ _ (by omega), pj_Sc (g2 := g) (fun r' hr' => gz_un _ _ (by omega))]
          exact hp r (by omega))
      (by rw [hSn]; exact bt_lt hS w1) (by rw [hSn, pl_n_step w1 hbit, hN]; omega) (by rw [hSn]; omega)
      (fun r hr => by
        show (gz_u (gq_i W 14) (u : Int) bw (r : Int)).toInt = _
        by_cases e : r = u
        · rw [e, gz_us, gz_us, w2]; omega
        · rw [gz_un _ _ (by omega), gz_un _ _ (by omega)]; exact hg r (by omega))
    refine ⟨W2, g2, ?_, pf_t (pf_i rfl (pf_r _ _ _)) r2, r3, r4⟩
    show fl_Mo_choose_24 (f + (k + 1) + 1) (nI (pj_S g u)) 0 a W = some W2
    rw [w4, ← hSn]
    exact r1
theorem dc_now {n : Nat} {m : Int → Int → Int} : ∀ (k : Nat) (u : Nat) (a : Int32) (t : Int64) (W : gq_M) (f : Nat), a.toInt = u → u + k = n → dc_W n m W → t.toInt = pm_S (fun i => m i i) u → ∃ t2 : Int64, fl_Mo_sumNow_4 W (f + (k + 1)) t a = some t2 ∧ t2.toInt = pm_S (fun i => m i i) n
  | 0, u, a, t, W, f, ha, hk, hW, ht => by
    refine ⟨t, ?_, by rw [ht, show u = n by omega]⟩
    show fl_Mo_sumNow_4 W (f + 1) t a = some t
    rw [fl_Mo_sumNow_4, if_pos (by rw [pa_le, hW.1.1]; omega)]
  | k + 1, u, a, t, W, f, ha, hk, hW, ht => by
    have h12 := hW.1.2
    have e1 : (a + 1).toInt = ((u + 1 : Nat) : Int) := by rw [pa_1 (by omega)]; omega
    have ei : ((12 * a) + a).toInt = 12 * (u : Int) + u := dp_12 ha ha (by omega) (by omega)
    have ec : (gq_l W 4 (12 * (u : Int) + u)).toInt = m ((u : Int) + 1) ((u : Int) + 1) := by
      rw [← hW.2.2.1 ((u : Int) + 1) ((u : Int) + 1) (by omega) (by omega) (by omega) (by omega)]
      show _ = (gq_l W 4 (12 * ((u : Int) + 1 - 1) + ((u : Int) + 1 - 1))).toInt
      congr 2
      omega
    have hV : dp_V = 1000000000000000 := rfl
    have hb := hW.2.1 ((u : Int) + 1) ((u : Int) + 1) (by omega) (by omega) (by omega) (by omega)
    have hs0 : 0 ≤ pm_S (fun i => m i i) u := pm_S_nonneg (fun i x y => (hW.2.1 i i x (by omega) x (by omega)).1)
    have hs1 : pm_S (fun i => m i i) u ≤ u * dp_V := pm_S_bound (fun i x y => (hW.2.1 i i x (by omega) x (by omega)).2)
    have hs2 : (u : Int) * dp_V ≤ 12000000000000000 := by rw [hV]; omega
    obtain ⟨t2, g1, g2⟩ := dc_now k (u + 1) (a + 1) (t + gq_l W 4 ((12 * a) + a).toInt) W f e1 (by omega) hW (by
      rw [ei, h64_add (by omega) (by rw [ec]; omega), ec, ht]
      rfl)
    refine ⟨t2, ?_, g2⟩
    show fl_Mo_sumNow_4 W (f + (k + 1) + 1) t a = some t2
    rw [fl_Mo_sumNow_4, if_neg (by rw [pa_le, hW.1.1]; omega), if_pos (by rw [ei]; omega)]
    exact g1
/-- the choice as a whole -/
theorem dc_choose {n : Nat} {m : Int → Int → Int} {W : gq_M} (hW : dc_W n m W) (hF : pl_F n m dp_V n 0 < dp_V) :
    ∃ (W2 : gq_M) (g : Int → Int), fn_Mo_choose W = some W2 ∧ pf_F (fun a => a = 14) (fun _ => False) W W2 ∧ (∀ r : Nat, r < n → (gq_i W2 14 (r : Int)).toInt = g ((r : Int) + 1) - 1) ∧ (pm_S (fun i => m i i) n = pl_F n m dp_V n 0 → ∀ i, g i = i) ∧ (pm_S (fun i => m i i) n ≠ pl_F n m dp_V n 0 → pj_path n m dp_V g n) := by
  have h12 := hW.1.2
  obtain ⟨t, t1, t2⟩ := dc_now (n := n) (m := m) n 0 0 (Int64.ofNat (0 : Fin 2).val) W (4999 - n) rfl (by omega) hW rfl
  have hnow : fn_Mo_sumNow W = some t := by
    unfold fn_Mo_sumNow
    rw [show 5000 = 4999 - n + (n + 1) by omega]
    exact t1
  have hk0 : dp_k n 0 = n := by unfold dp_k; rw [pl_n_0]; omega
  have hl := hW.2.2.2 0 (by omega) (Nat.two_pow_pos n)
  rw [hk0] at hl
  unfold fn_Mo_choose
  rw [hnow, Option.bind_some]
  by_cases h : t = gq_l W 5 0
  · have h' : pm_S (fun i => m i i) n = pl_F n m dp_V n 0 := by rw [← t2, h]; exact hl
    obtain ⟨W2, g1, g2, g3⟩ := dc_keep (n := n) n 0 0 0 W (4999 - n) rfl (by omega) hW.1 (fun r hr => absurd hr (Nat.not_lt_zero r))
    refine ⟨W2, fun i => i, ?_, g2, fun r hr => ?_, fun _ _ => rfl, fun z => absurd h' z⟩
    · rw [if_pos h, show 5000 = 4999 - n + (n + 1) by omega]
      exact g1
    · rw [g3 r hr, pa_nI (by omega)]
      show (r : Int) = (r : Int) + 1 - 1
      omega
  · have h' : pm_S (fun i => m i i) n ≠ pl_F n m dp_V n 0 := fun z => h (pb_eq.mpr (by rw [t2, z]; exact hl.symm))
    obtain ⟨W2, g, g1, g2, g3, g4⟩ := dc_pick (n := n) (m := m) n 0 0 W (4999 - n) (fun i => i) rfl (by omega) hW (fun r hr => absurd hr (Nat.not_lt_zero r)) (Nat.two_pow_pos n) (pl_n_0 n) hF (fun r hr => absurd hr (Nat.not_lt_zero r))
    refine ⟨W2, g, ?_, g2, g4, fun z => absurd z h', fun _ => g3⟩
    rw [if_neg h, show 5000 = 4999 - n + (n + 1) by omega]
    exact g1
