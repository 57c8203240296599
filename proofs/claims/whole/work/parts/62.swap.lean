/-! ONE GROUP, ONE KIND: the class and the model give the same nets -/
theorem sw_F {n : Nat} {m m2 : Int → Int → Int} {NV : Int} (h : ∀ i j : Int, 1 ≤ i → i ≤ n → 1 ≤ j → j ≤ n → m i j = m2 i j) : ∀ (k S : Nat), k ≤ n → pl_F n m NV k S = pl_F n m2 NV k S
  | 0, S, _ => rfl
  | k + 1, S, hk => by
    show pl_m _ _ NV n = pl_m _ _ NV n
    apply dp_mc
    intro v hv _
    rw [h ((n : Int) - k) ((v : Int) + 1) (by omega) (by omega) (by omega) (by omega), sw_F h k _ (by omega)]
theorem sw_ft {n : Nat} {m m2 : Int → Int → Int} {NV : Int} (h : ∀ i j : Int, 1 ≤ i → i ≤ n → 1 ≤ j → j ≤ n → m i j = m2 i j) {S : Nat} {r w : Int} (hr : 1 ≤ r ∧ r ≤ n) (hw : 1 ≤ w ∧ w ≤ n) : tk_ft n m NV S r w ↔ tk_ft n m2 NV S r w := by
  unfold tk_ft
  rw [h r w hr.1 hr.2 hw.1 hw.2, sw_F h (n - r.toNat) _ (by omega), sw_F h (n + 1 - r.toNat) _ (by omega)]
theorem sw_path {n : Nat} {m m2 : Int → Int → Int} {NV : Int} {g : Int → Int} {k : Nat} (h : ∀ i j : Int, 1 ≤ i → i ≤ n → 1 ≤ j → j ≤ n → m i j = m2 i j) (hk : k ≤ n) (hp : pj_path n m NV g k) : pj_path n m2 NV g k := by
  intro r hr
  obtain ⟨a1, a2, a3, a4⟩ := hp r hr
  refine ⟨a1, a2, (sw_ft h ⟨by omega, by omega⟩ ⟨a1, a2⟩).mp a3, ?_⟩
  rcases a4 with e | ⟨e1, e2⟩
  · exact Or.inl e
  · exact Or.inr ⟨fun z => e1 ((sw_ft h ⟨by omega, by omega⟩ ⟨by omega, by omega⟩).mpr z), fun y y1 y2 z => e2 y y1 y2 ((sw_ft h ⟨by omega, by omega⟩ ⟨y1, by omega⟩).mpr z)⟩
theorem sw_kept {n : Nat} : ∀ (k : Nat) (a : Int64) (v : Int32) (M : gq_M) (f : Nat), px_n n M → v.toInt + k = n + 1 → 1 ≤ v.toInt → fl_Ma_sumIfKept_4 M (f + (k + 1)) a v = some (hs_S (fun j => pv_c M j j) k v.toInt a)
  | 0, a, v, M, f, hn, hk, h0 => by
    show fl_Ma_sumIfKept_4 M (f + 1) a v = _
    rw [fl_Ma_sumIfKept_4, if_pos (by rw [pa_lt, hn.1]; omega)]
    rfl
  | k + 1, a, v, M, f, hn, hk, h0 => by
    have h12 := hn.2
    have e1 : (v + 1).toInt = v.toInt + 1 := pa_1 (by omega)
    show fl_Ma_sumIfKept_4 M (f + (k + 1) + 1) a v = _
    rw [fl_Ma_sumIfKept_4, if_neg (by rw [pa_lt, hn.1]; omega), if_pos (by omega), sw_kept k _ (v + 1) M f hn (by omega) (by omega), e1]
    rfl
theorem sw_sum {n : Nat} {M : gq_M} (hn : px_n n M) (hc : hi_c n (pv_c M)) : ∃ T : Int64, fn_Ma_sumIfKept M = some T ∧ T.toInt = pm_S (fun i => (pv_c M i i).toInt) n := by
  have h12 := hn.2
  refine ⟨hs_S (fun j => pv_c M j j) n 1 (Int64.ofNat (0 : Fin 2).val), ?_, ?_⟩
  · unfold fn_Ma_sumIfKept
    rw [show 5000 = 4999 - n + (n + 1) by omega]
    exact sw_kept n _ 1 M (4999 - n) hn (by show (1 : Int) + n = n + 1; omega) (by decide)
  · have h := hs_toInt (f := fun j => pv_c M j j) (B := 1000000000000) (by omega) n 0 (Int64.ofNat (0 : Fin 2).val) (by rw [Nat.zero_add]; exact fun i p q => hc i i p q p q) rfl (by omega)
    rw [Nat.zero_add] at h
    exact h
/-- a unit's partner -/
abbrev sw_q (M : gq_M) (p : Int) : Int := (gq_i M 5 p).toInt
/-- the units of L, all of one kind -/
def sw_L (M : gq_M) (pr : Int32) (L : List Int) : Prop := (∀ p ∈ L, 0 ≤ p ∧ p < 80 ∧ gq_i M 6 p = 0 ∧ ((pr = 0 ∧ gq_i M 5 p = -1) ∨ (pr = 1 ∧ gq_i M 5 p ≠ -1 ∧ 0 ≤ sw_q M p ∧ sw_q M p < 80 ∧ gq_i M 6 (sw_q M p) = 1 ∧ sw_q M (sw_q M p) = p))) ∧ (∀ i j : Nat, i < L.length → j < L.length → L.getD i 0 = L.getD j 0 → i = j) ∧ L.length ≤ 12
theorem sw_Lof {M W : gq_M} {g pr : Int32} (hC : rp_C M W) (hS : rp_S M W) (h12 : (un_L M g pr (lm_c M)).length ≤ 12) : sw_L M pr (un_L M g pr (lm_c M)) := by
  have h80 := hC.2.2
  refine ⟨fun p hp => ?_, fun i j hi hj h => un_inj hi hj h, h12⟩
  have h := un_mem hp
  have hp2 : p < (gq_f M 1).toInt := by have := h.2.1; unfold lm_c at this; omega
  obtain ⟨-, h6, hk⟩ := un_is hS ⟨h.1, hp2⟩ h.2.2
  refine ⟨h.1, by omega, h6, ?_⟩
  rcases hk with hk | ⟨k1, k2, k3, k4, k5, -, k7, k8⟩
  · exact Or.inl hk
  · exact Or.inr ⟨k1, k8, k2, by unfold sw_q; omega, k7, k5⟩
theorem sw_Lc {M M2 : gq_M} {pr : Int32} {L : List Int} (h5 : gq_i M2 5 = gq_i M 5) (h6 : gq_i M2 6 = gq_i M 6) (h : sw_L M pr L) : sw_L M2 pr L := by
  unfold sw_L sw_q at h ⊢
  rw [h5, h6]
  exact h
theorem sw_pd {p : Int32} {M : gq_M} (hp : 0 ≤ p.toInt ∧ p.toInt < ((80 : Nat) : Int)) : fn_Pi_isPaired p M = some (if gq_i M 5 p.toInt = -1 then 0 else 1) := by
  unfold fn_Pi_isPaired
  rw [if_pos hp]
  by_cases h : gq_i M 5 p.toInt = -1
  · rw [if_pos h, if_pos h]
  · rw [if_neg h, if_neg h]
theorem sw_give {M : gq_M} {pr : Int32} {L : List Int} {ro i j : Nat} {t q : Int32} (hro : ro < 11) (hL : sw_L M pr L) (hi : i < L.length) (hj : j < L.length) (ht : t.toInt = L.getD i 0) (hq : q.toInt = L.getD j 0) :
    ∃ M2, fn_PS_giveNets ro t q M = some M2 ∧ pf_F (fun a => a = 3) (fun _ => False) M M2 ∧ gq_i M2 3 (L.getD i 0) = gq_i M (18 + ro) (L.getD j 0) ∧ (pr = 1 → gq_i M2 3 (sw_q M (L.getD i 0)) = gq_i M (18 + ro) (sw_q M (L.getD j 0))) ∧ ∀ p : Int, p ≠ L.getD i 0 → (pr = 1 → p ≠ sw_q M (L.getD i 0)) → gq_i M2 3 p = gq_i M 3 p := by
  obtain ⟨hL1, hL2, hL3⟩ := hL
  obtain ⟨i1, i2, i3, i4⟩ := hL1 _ (un_at hi)
  obtain ⟨j1, j2, j3, j4⟩ := hL1 _ (un_at hj)
  unfold fn_PS_giveNets
  rw [if_pos (by omega), if_pos (by omega), sw_pd (by omega), sw_pd (by omega), ht, hq, Option.bind_some]
  rcases i4 with ⟨k0, k1⟩ | ⟨k0, k1, k2, k3, k4, k5⟩
  · have hc : (gq_i (gs_i M 3 (gz_u (gq_i M 3) (L.getD i 0) (gq_i M (18 + ro) (L.getD j 0)))) 5 (L.getD i 0)) = -1 := k1
    rw [if_pos hc, if_pos rfl]
    refine ⟨_, rfl, pf_i rfl (pf_r _ _ _), gz_us _ _ _, fun z => by rw [k0] at z; exact absurd z (by decide), fun p p1 _ => gz_un _ _ p1⟩
  · rcases j4 with ⟨l0, l1⟩ | ⟨l0, l1, l2, l3, l4, l5⟩
    · rw [k0] at l0
      exact absurd l0 (by decide)
    · have hc : ¬ (gq_i (gs_i M 3 (gz_u (gq_i M 3) (L.getD i 0) (gq_i M (18 + ro) (L.getD j 0)))) 5 (L.getD i 0)) = -1 := k1
      have hd : ¬ (gq_i (gs_i M 3 (gz_u (gq_i M 3) (L.getD i 0) (gq_i M (18 + ro) (L.getD j 0)))) 5 (L.getD j 0)) = -1 := l1
      have hne : sw_q M (L.getD i 0) ≠ L.getD i 0 := fun z => by
        rw [z, i3] at k4
        exact absurd k4 (by decide)
      have k2' : 0 ≤ (gq_i M 5 (L.getD i 0)).toInt := k2
      have k3' : (gq_i M 5 (L.getD i 0)).toInt < 80 := k3
      have l2' : 0 ≤ (gq_i M 5 (L.getD j 0)).toInt := l2
      have l3' : (gq_i M 5 (L.getD j 0)).toInt < 80 := l3
      rw [if_neg hc, if_neg (show ¬ ((1 : Int32) = 0) by decide), if_neg hd, Option.bind_some, if_neg (show ¬ ((1 : Int32) = 0) by decide), if_pos (by omega), if_pos (by omega)]
      have er : gq_i (gs_i M 3 (gz_u (gq_i M 3) (L.getD i 0) (gq_i M (18 + ro) (L.getD j 0)))) (18 + ro) = gq_i M (18 + ro) := gq_un _ _ (by omega)
      refine ⟨_, rfl, pf_i rfl (pf_i rfl (pf_r _ _ _)), ?_, fun _ => ?_, fun p p1 p2 => ?_⟩
      · show gz_u (gz_u (gq_i M 3) (L.getD i 0) _) (sw_q M (L.getD i 0)) _ (L.getD i 0) = _
        rw [gz_un _ _ (fun z => hne z.symm), gz_us]
      · show gz_u (gz_u (gq_i M 3) (L.getD i 0) _) (sw_q M (L.getD i 0)) _ (sw_q M (L.getD i 0)) = _
        rw [gz_us, er]
      · show gz_u (gz_u (gq_i M 3) (L.getD i 0) _) (sw_q M (L.getD i 0)) _ p = _
        rw [gz_un _ _ (p2 k0), gz_un _ _ p1]
/-- all give: giver j's nets go to the taker of row ro j -/
theorem sw_gives {M0 : gq_M} {pr : Int32} {L : List Int} {ro : Nat} {R : Int → Int} (hro : ro < 11) (hL : sw_L M0 pr L) (hR : hi_A L.length L.length R) : ∀ (k j : Nat) (v : Int32) (M : gq_M) (f : Nat), v.toInt = (j : Int) + 1 → j + k = L.length → pf_F (fun a => a = 3) (fun _ => False) M0 M → (gq_f M0 2).toInt = L.length → pv_i M0 11 = R → (∀ i : Nat, i < L.length → (gq_i M0 10 ((i : Int) + 1)).toInt = L.getD i 0) →
    (∀ x : Nat, x < j → gq_i M 3 (L.getD (R ((x : Int) + 1) - 1).toNat 0) = gq_i M0 (18 + ro) (L.getD x 0)) → (pr = 1 → ∀ x : Nat, x < j → gq_i M 3 (sw_q M0 (L.getD (R ((x : Int) + 1) - 1).toNat 0)) = gq_i M0 (18 + ro) (sw_q M0 (L.getD x 0))) → (∀ p : Int, p ∉ L → (pr = 1 → ∀ x : Nat, x < L.length → p ≠ sw_q M0 (L.getD x 0)) → gq_i M 3 p = gq_i M0 3 p) →
    ∃ M2, fl_PS_swapUnits_35 ro (f + (k + 1)) v M = some M2 ∧ pf_F (fun a => a = 3) (fun _ => False) M0 M2 ∧ (∀ x : Nat, x < L.length → gq_i M2 3 (L.getD (R ((x : Int) + 1) - 1).toNat 0) = gq_i M0 (18 + ro) (L.getD x 0)) ∧ (pr = 1 → ∀ x : Nat, x < L.length → gq_i M2 3 (sw_q M0 (L.getD (R ((x : Int) + 1) - 1).toNat 0)) = gq_i M0 (18 + ro) (sw_q M0 (L.getD x 0))) ∧ (∀ p : Int, p ∉ L → (pr = 1 → ∀ x : Nat, x < L.length → p ≠ sw_q M0 (L.getD x 0)) → gq_i M2 3 p = gq_i M0 3 p)
  | 0, j, v, M, f, hv, hk, hf, hn, hr, hu, h1, h2, h3 => by
    have e : j = L.length := by omega
    rw [e] at h1 h2
    refine ⟨M, ?_, hf, h1, h2, h3⟩
    show fl_PS_swapUnits_35 ro (f + 1) v M = some M
    rw [fl_PS_swapUnits_35, if_pos (by rw [pa_lt, hf.2.2.1 2, hn]; omega)]
  | k + 1, j, v, M, f, hv, hk, hf, hn, hr, hu, h1, h2, h3 => by
    have h12 := hL.2.2
    have e1 : (v + 1).toInt = ((j + 1 : Nat) : Int) + 1 := by rw [pa_1 (by omega)]; omega
    have hRj := hR.1 ((j : Int) + 1) (by omega) (by omega)
    have hRj1 : 1 ≤ R ((j : Int) + 1) := by
      obtain ⟨t, ht1, ht2⟩ := hi_tau hR
      exact (ht2 ((j : Int) + 1) (by omega) (by omega)).1
    have e11 : gq_i M 11 = gq_i M0 11 := hf.1 11 (by decide)
    have e10 : gq_i M 10 = gq_i M0 10 := hf.1 10 (by decide)
    have e5 : gq_i M 5 = gq_i M0 5 := hf.1 5 (by decide)
    have e6 : gq_i M 6 = gq_i M0 6 := hf.1 6 (by decide)
    have ero : gq_i M (18 + ro) = gq_i M0 (18 + ro) := hf.1 (18 + ro) (by omega)
    have hRv : (gq_i M 11 v.toInt).toInt = R ((j : Int) + 1) := by rw [e11, hv, ← hr]
    have hsq : sw_q M = sw_q M0 := by funext p; unfold sw_q; rw [e5]
    have hti : (R ((j : Int) + 1) - 1).toNat < L.length := by omega
    have ht : (gq_i M 10 (gq_i M 11 v.toInt).toInt).toInt = L.getD (R ((j : Int) + 1) - 1).toNat 0 := by
      have := hu (R ((j : Int) + 1) - 1).toNat hti
      rw [show (((R ((j : Int) + 1) - 1).toNat : Nat) : Int) + 1 = R ((j : Int) + 1) by omega] at this
      rw [e10, hRv]
      exact this
    have hq : (gq_i M 10 v.toInt).toInt = L.getD j 0 := by rw [e10, hv]; exact hu j (by omega)
    obtain ⟨M1, a1, a2, a3, a4, a5⟩ := sw_give (ro := ro) (t := gq_i M 10 (gq_i M 11 v.toInt).toInt) (q := gq_i M 10 v.toInt) hro (sw_Lc e5 e6 hL) hti (by omega) ht hq
    rw [ero, hsq] at a4
    rw [ero] at a3
    rw [hsq] at a5
    -- takers are apart
    have hap : ∀ x : Nat, x < j → L.getD (R ((x : Int) + 1) - 1).toNat 0 ≠ L.getD (R ((j : Int) + 1) - 1).toNat 0 := by
      intro x hx z
      have hRx := hR.1 ((x : Int) + 1) (by omega) (by omega)
      have hRx1 : 1 ≤ R ((x : Int) + 1) := by
        obtain ⟨t, ht1, ht2⟩ := hi_tau hR
        exact (ht2 ((x : Int) + 1) (by omega) (by omega)).1
      have h9 := hL.2.1 _ _ (by omega) hti z
      have h10 := hR.2.1 ((x : Int) + 1) ((j : Int) + 1) (by omega) (by omega) (by omega) (by omega) (by omega) (by omega)
      omega
    have hxl : ∀ x : Nat, x < L.length → (R ((x : Int) + 1) - 1).toNat < L.length := by
      intro x hx
      have hRx := hR.1 ((x : Int) + 1) (by omega) (by omega)
      have hRx1 : 1 ≤ R ((x : Int) + 1) := by
        obtain ⟨t, ht1, ht2⟩ := hi_tau hR
        exact (ht2 ((x : Int) + 1) (by omega) (by omega)).1
      omega
    have hus : ∀ a b : Nat, a < L.length → b < L.length → pr = 1 → L.getD a 0 ≠ sw_q M0 (L.getD b 0) := by
      intro a b ha hb hp z
      obtain ⟨_, _, a6, _⟩ := hL.1 _ (un_at ha)
      obtain ⟨_, _, _, b4⟩ := hL.1 _ (un_at hb)
      rcases b4 with ⟨b0, _⟩ | ⟨b0, _, _, _, b6, _⟩
      · rw [hp] at b0
        exact absurd b0 (by decide)
      · rw [← z, a6] at b6
        exact absurd b6 (by decide)
    have hqq : ∀ a b : Nat, a < L.length → b < L.length → pr = 1 → sw_q M0 (L.getD a 0) = sw_q M0 (L.getD b 0) → L.getD a 0 = L.getD b 0 := by
      intro a b ha hb hp z
      obtain ⟨_, _, _, a4⟩ := hL.1 _ (un_at ha)
      obtain ⟨_, _, _, b4⟩ := hL.1 _ (un_at hb)
      rcases a4 with ⟨a0, _⟩ | ⟨_, _, _, _, _, a6⟩
      · rw [hp] at a0
        exact absurd a0 (by decide)
      · rcases b4 with ⟨b0, _⟩ | ⟨_, _, _, _, _, b6⟩
        · rw [hp] at b0
          exact absurd b0 (by decide)
        · rw [← a6, ← b6, z]
    obtain ⟨M2, g1, g2⟩ := sw_gives (M0 := M0) hro hL hR k (j + 1) (v + 1) M1 f e1 (by omega) (pf_t hf a2) hn hr hu (fun x hx => by
        by_cases e : x = j
        · rw [e]; exact a3
        · rw [a5 _ (hap x (by omega)) (fun hp => hus _ _ (hxl x (by omega)) hti hp)]
          exact h1 x (by omega)) (fun hp x hx => by
        by_cases e : x = j
        · rw [e]; exact a4 hp
        · rw [a5 _ (fun z => hus _ _ hti (hxl x (by omega)) hp z.symm) (fun _ z => hap x (by omega) (hqq _ _ (hxl x (by omega)) hti hp z))]
          exact h2 hp x (by omega)) (fun p p1 p2 => by
        rw [a5 p (fun z => p1 (by rw [z]; exact un_at hti)) (fun hp => p2 hp _ hti)]
        exact h3 p p1 p2)
    refine ⟨M2, ?_, g2⟩
    show fl_PS_swapUnits_35 ro (f + (k + 1) + 1) v M = some M2
    rw [fl_PS_swapUnits_35, if_neg (by rw [pa_lt, hf.2.2.1 2, hn]; omega), if_pos (by omega), if_pos (by rw [hRv]; omega), a1, Option.bind_some]
    exact g1
/-- the model writes the fresh nets -/
theorem sw_fresh {M W0 : gq_M} {pr : Int32} {L : List Int} {G : Int → Int} (hL : sw_L M pr L) (hpr : pr = 0 ∨ pr = 1) (hG : ∀ r : Nat, r < L.length → 1 ≤ G ((r : Int) + 1) ∧ G ((r : Int) + 1) ≤ L.length) (h5 : ∀ x : Nat, x < L.length → gq_i W0 5 (L.getD x 0) = gq_i M 5 (L.getD x 0)) : ∀ (k u : Nat) (v : Int32) (W : gq_M) (f : Nat), v.toInt = u → u + k = L.length → pf_F (fun a => a = 15) (fun _ => False) W0 W → (gq_f W0 5).toInt = L.length → (∀ i : Nat, i < L.length → (gq_i W0 13 (i : Int)).toInt = L.getD i 0) → (∀ r : Nat, r < L.length → (gq_i W0 14 (r : Int)).toInt = G ((r : Int) + 1) - 1) →
    (∀ x : Nat, x < u → gq_i W 15 (L.getD x 0) = gq_i W0 2 (L.getD (G ((x : Int) + 1) - 1).toNat 0)) → (pr = 1 → ∀ x : Nat, x < u → gq_i W 15 (sw_q M (L.getD x 0)) = gq_i W0 2 (sw_q M (L.getD (G ((x : Int) + 1) - 1).toNat 0))) → (∀ p : Int, p ∉ L → (pr = 1 → ∀ x : Nat, x < L.length → p ≠ sw_q M (L.getD x 0)) → gq_i W 15 p = gq_i W0 15 p) →
    ∃ W2, fl_Mo_match_14 (f + (k + 1)) pr v W = some W2 ∧ pf_F (fun a => a = 15) (fun _ => False) W0 W2 ∧ (∀ x : Nat, x < L.length → gq_i W2 15 (L.getD x 0) = gq_i W0 2 (L.getD (G ((x : Int) + 1) - 1).toNat 0)) ∧ (pr = 1 → ∀ x : Nat, x < L.length → gq_i W2 15 (sw_q M (L.getD x 0)) = gq_i W0 2 (sw_q M (L.getD (G ((x : Int) + 1) - 1).toNat 0))) ∧ (∀ p : Int, p ∉ L → (pr = 1 → ∀ x : Nat, x < L.length → p ≠ sw_q M (L.getD x 0)) → gq_i W2 15 p = gq_i W0 15 p)
  | 0, u, v, W, f, hv, hk, hf, hn, hu, hg, h1, h2, h3 => by
    have e : u = L.length := by omega
    rw [e] at h1 h2
    refine ⟨W, ?_, hf, h1, h2, h3⟩
    show fl_Mo_match_14 (f + 1) pr v W = some W
    rw [fl_Mo_match_14, if_pos (by rw [pa_le, hf.2.2.1 5, hn]; omega)]
  | k + 1, u, v, W, f, hv, hk, hf, hn, hu, hg, h1, h2, h3 => by
    have h12 := hL.2.2
    have e1 : (v + 1).toInt = ((u + 1 : Nat) : Int) := by rw [pa_1 (by omega)]; omega
    have hGu := hG u (by omega)
    have e13 : gq_i W 13 = gq_i W0 13 := hf.1 13 (by decide)
    have e14 : gq_i W 14 = gq_i W0 14 := hf.1 14 (by decide)
    have e2 : gq_i W 2 = gq_i W0 2 := hf.1 2 (by decide)
    have e5 : gq_i W 5 = gq_i W0 5 := hf.1 5 (by decide)
    have hgi : (gq_i W 14 v.toInt).toInt = G ((u : Int) + 1) - 1 := by rw [e14, hv]; exact hg u (by omega)
    have hj : (G ((u : Int) + 1) - 1).toNat < L.length := by omega
    have hp : (gq_i W 13 v.toInt).toInt = L.getD u 0 := by rw [e13, hv]; exact hu u (by omega)
    have hq : (gq_i W 13 (gq_i W 14 v.toInt).toInt).toInt = L.getD (G ((u : Int) + 1) - 1).toNat 0 := by
      have := hu (G ((u : Int) + 1) - 1).toNat hj
      rw [show (((G ((u : Int) + 1) - 1).toNat : Nat) : Int) = G ((u : Int) + 1) - 1 by omega] at this
      rw [e13, hgi]
      exact this
    obtain ⟨p1, p2, p3, p4⟩ := hL.1 _ (un_at (L := L) (i := u) (by omega))
    obtain ⟨q1, q2, q3, q4⟩ := hL.1 _ (un_at hj)
    have hz : ¬ gq_f W 5 ≤ v := by rw [pa_le, hf.2.2.1 5, hn]; omega
    have h5u := h5 u (by omega)
    have h5j := h5 _ hj
    rcases hpr with rfl | rfl
    · obtain ⟨W2, g1, g2⟩ := sw_fresh hL (Or.inl rfl) hG h5 k (u + 1) (v + 1) (gs_i W 15 (gz_u (gq_i W 15) (L.getD u 0) (gq_i W 2 (L.getD (G ((u : Int) + 1) - 1).toNat 0)))) f e1 (by omega) (pf_i rfl hf) hn hu hg (fun x hx => by
          show gz_u (gq_i W 15) (L.getD u 0) _ (L.getD x 0) = _
          by_cases e : x = u
          · rw [e, gz_us, e2]
          · rw [gz_un _ _ (fun z => e (hL.2.1 _ _ (by omega) (by omega) z))]
            exact h1 x (by omega)) (fun z => absurd z (by decide)) (fun p a b => by
          show gz_u (gq_i W 15) (L.getD u 0) _ p = _
          rw [gz_un _ _ (fun z => a (by rw [z]; exact un_at (by omega)))]
          exact h3 p a b)
      refine ⟨W2, ?_, g2⟩
      show fl_Mo_match_14 (f + (k + 1) + 1) 0 v W = some W2
      rw [fl_Mo_match_14, if_neg hz, if_pos (by omega), if_pos (by rw [hgi]; omega), if_pos (by rw [hq]; omega), if_pos (by rw [hp]; omega), if_pos rfl, hp, hq]
      exact g1
    · rcases p4 with ⟨z, -⟩ | ⟨-, r1, r2, r3, r4, r5⟩
      · exact absurd z (by decide)
      · rcases q4 with ⟨z, -⟩ | ⟨-, s1, s2, s3, s4, s5⟩
        · exact absurd z (by decide)
        · have hne : ∀ x : Nat, x < L.length → L.getD x 0 ≠ sw_q M (L.getD u 0) := by
            intro x hx z
            obtain ⟨_, _, a6, _⟩ := hL.1 _ (un_at hx)
            rw [← z, a6] at r4
            exact absurd r4 (by decide)
          have hq5 : (gq_i W 5 (L.getD u 0)).toInt = sw_q M (L.getD u 0) := by rw [e5, h5u]
          have hq6 : (gq_i W 5 (L.getD (G ((u : Int) + 1) - 1).toNat 0)).toInt = sw_q M (L.getD (G ((u : Int) + 1) - 1).toNat 0) := by rw [e5, h5j]
          obtain ⟨W2, g1, g2⟩ := sw_fresh hL (Or.inr rfl) hG h5 k (u + 1) (v + 1) (gs_i (gs_i W 15 (gz_u (gq_i W 15) (L.getD u 0) (gq_i W 2 (L.getD (G ((u : Int) + 1) - 1).toNat 0)))) 15 (gz_u (gz_u (gq_i W 15) (L.getD u 0) (gq_i W 2 (L.getD (G ((u : Int) + 1) - 1).toNat 0))) (sw_q M (L.getD u 0)) (gq_i W 2 (sw_q M (L.getD (G ((u : Int) + 1) - 1).toNat 0))))) f e1 (by omega) (pf_i rfl (pf_i rfl hf)) hn hu hg (fun x hx => by
              show gz_u (gz_u (gq_i W 15) (L.getD u 0) _) (sw_q M (L.getD u 0)) _ (L.getD x 0) = _
              rw [gz_un _ _ (hne x (by omega))]
              by_cases e : x = u
              · rw [e, gz_us, e2]
              · rw [gz_un _ _ (fun z => e (hL.2.1 _ _ (by omega) (by omega) z))]
                exact h1 x (by omega)) (fun _ x hx => by
              show gz_u (gz_u (gq_i W 15) (L.getD u 0) _) (sw_q M (L.getD u 0)) _ (sw_q M (L.getD x 0)) = _
              by_cases e : x = u
              · rw [e, gz_us, e2]
              · have hx2 : sw_q M (L.getD x 0) ≠ sw_q M (L.getD u 0) := by
                  intro z
                  obtain ⟨_, _, _, a4⟩ := hL.1 _ (un_at (L := L) (i := x) (by omega))
                  rcases a4 with ⟨a0, _⟩ | ⟨_, _, _, _, _, a6⟩
                  · exact absurd a0 (by decide)
                  · rw [z, r5] at a6
                    exact e (hL.2.1 _ _ (by omega) (by omega) a6.symm)
                have hx3 : sw_q M (L.getD x 0) ≠ L.getD u 0 := by
                  intro z
                  obtain ⟨_, _, _, a4⟩ := hL.1 _ (un_at (L := L) (i := x) (by omega))
                  rcases a4 with ⟨a0, _⟩ | ⟨_, _, _, _, a6, _⟩
                  · exact absurd a0 (by decide)
                  · rw [z, p3] at a6
                    exact absurd a6 (by decide)
                rw [gz_un _ _ hx2, gz_un _ _ hx3]
                exact h2 rfl x (by omega)) (fun p a b => by
              show gz_u (gz_u (gq_i W 15) (L.getD u 0) _) (sw_q M (L.getD u 0)) _ p = _
              rw [gz_un _ _ (b rfl u (by omega)), gz_un _ _ (fun z => a (by rw [z]; exact un_at (by omega)))]
              exact h3 p a b)
          refine ⟨W2, ?_, g2⟩
          show fl_Mo_match_14 (f + (k + 1) + 1) 1 v W = some W2
          rw [fl_Mo_match_14, if_neg hz, if_pos (by omega), if_pos (by rw [hgi]; omega), if_pos (by rw [hq]; omega), if_pos (by rw [hp]; omega), if_neg (by decide), hp, hq, if_pos (by rw [hq6]; omega), if_pos (by rw [hq5]; omega), hq5, hq6]
          exact g1
