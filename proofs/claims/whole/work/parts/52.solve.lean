/-! the next column, the chain, a row's insertion, the whole -/
abbrev px_St (M : gq_M) (j : Int) : (Int → Int) × ((Int → Int64) × (Int → Int64) × (Int → Int64)) × (Int → Int) × Int := (pv_i M 13, (gq_l M 4, gq_l M 5, gq_l M 6), pv_i M 12, j)
def px_ro (n : Nat) (M : gq_M) : Prop := ∀ z : Int, 0 ≤ z → z ≤ n → 0 ≤ pv_i M 11 z ∧ pv_i M 11 z ≤ n
theorem px_next {n : Nat} {M : gq_M} {p : Int32} (hn : px_n n M) (hp : 0 ≤ p.toInt ∧ p.toInt ≤ n) (hro : px_ro n M) :
    ∃ (y : Int32) (M2 : gq_M), fn_Ma_nextColumn p M = some (y, M2) ∧ pf_F (fun a => a = 12 ∨ a = 13) pm_Q M M2 ∧ px_St M2 y.toInt = hm_next n (pv_c M) (pv_i M 11) p.toInt (pv_i M 13) (gq_l M 4) (gq_l M 5) (gq_l M 6) (pv_i M 12) ∧ 0 ≤ y.toInt ∧ y.toInt ≤ n ∧ ∀ z, gq_i M2 12 z = gq_i M 12 z ∨ gq_i M2 12 z = p := by
  have h12 := hn.2
  obtain ⟨x2, v2, M2, g1, g2, g3, g4, g5, g7, g6⟩ := px_nx (Cr := fun i => gq_l M (7 + i)) (U := gq_l M 4) (V := gq_l M 5) (Sn := gz_u (gq_i M 13) p.toInt 1) (fr := p) (row := gq_i M 11 p.toInt) (hro p.toInt hp.1 hp.2) n 0 1 (gs_i M 13 (gz_u (gq_i M 13) p.toInt 1)) hn (by show (1 : Int) + n = n + 1; omega) (by decide) (by decide) (by show (0 : Int) ≤ n; omega) (fun _ => rfl) rfl rfl rfl
  have hf2 : gq_f M2 2 = gq_f M 2 := g5.2.2.1 2
  have h13 : gq_i M2 13 = gz_u (gq_i M 13) p.toInt 1 := g5.1 13 (by decide)
  have h11 : gq_i M2 11 = gq_i M 11 := g5.1 11 (by decide)
  have hn2 : px_n n M2 := ⟨by rw [hf2]; exact hn.1, hn.2⟩
  obtain ⟨M3, k1, k2, k3⟩ := px_cp (n := n) (d := gq_l M2 6 x2.toInt) (Ro := gq_i M 11) (Sn := gz_u (gq_i M 13) p.toInt 1) hro (n + 1) 0 M2 (4999 - (n + 1)) hn2 (by show (0 : Int) + _ = _; omega) (by decide) h11 h13
  refine ⟨x2, M3, ?_, pf_t (pf_t (pf_i (Or.inr rfl) (pf_r _ _ _)) (pf_w g5 (fun a h => Or.inl h) (fun a h => by rw [h]; decide))) (pf_w k2 (fun _ h => h.elim) (fun _ h => h)), ?_, g3, g4, fun z => by rw [k2.1 12 (fun z => z)]; exact g7 z⟩
  · unfold fn_Ma_nextColumn
    rw [if_pos (by omega), show 5000 = (4999 - n + 1) + n by omega, g1, fl_Ma_nextColumn_19, if_pos (by rw [pa_lt, hn2.1]; omega), if_pos (by omega)]
    unfold fn_Ma_changePrices
    rw [show 5000 = 4999 - (n + 1) + (n + 1 + 1) by omega, k1, Option.bind_some]
  · have e13 : gq_i M3 13 = gz_u (gq_i M 13) p.toInt 1 := (k2.1 13 (fun z => z)).trans h13
    have e12 : pv_i M3 12 = pv_i M2 12 := by unfold pv_i; rw [k2.1 12 (fun z => z)]
    have hnx : (gq_l M2 6, pv_i M2 12, x2.toInt) = hm_nx (pv_c M) (gq_l M 4) (gq_l M 5) (gz_u (pv_i M 13) p.toInt 1) (pv_i M 11 p.toInt) p.toInt n 1 (gq_l M 6, pv_i M 12, 0) := by
      rw [g6]
      have e : (fun z => (gz_u (gq_i M 13) p.toInt 1 z).toInt) = gz_u (pv_i M 13) p.toInt 1 := pz_u _ _ _
      rw [e]
      rfl
    have a1 := congrArg Prod.fst hnx
    have a2 := congrArg (fun q => q.2.1) hnx
    have a3 := congrArg (fun q => q.2.2) hnx
    dsimp only at a1 a2 a3
    unfold hm_next px_St
    have e13' : pv_i M3 13 = gz_u (pv_i M 13) p.toInt 1 := by
      unfold pv_i
      rw [e13]
      exact pz_u _ _ _
    rw [k3, e13', e12, a2, a3]
    dsimp only
    rw [← a1, ← a3]
    have u4 : gq_l M2 4 = gq_l M 4 := g5.2.1 4 (by decide)
    have u5 : gq_l M2 5 = gq_l M 5 := g5.2.1 5 (by decide)
    have e : (fun z => (gz_u (gq_i M 13) p.toInt 1 z).toInt) = gz_u (pv_i M 13) p.toInt 1 := pz_u _ _ _
    rw [u4, u5, e]
    rfl
theorem px_mv {n : Nat} : ∀ (k : Nat) (j t : Int32) (M : gq_M) (f : Nat), px_n n M → t.toInt + k = n → 0 ≤ t.toInt → 0 ≤ j.toInt → j.toInt ≤ 12 → (∀ z : Int, 0 ≤ z → z ≤ 12 → 0 ≤ pv_i M 12 z ∧ pv_i M 12 z ≤ 12) →
    ∃ M2, fl_Ma_moveAlong_4 (f + (k + 1)) j t M = some M2 ∧ pf_F (fun a => a = 11) (fun _ => False) M M2 ∧ pv_i M2 11 = hm_mv (pv_i M 12) k j.toInt (pv_i M 11)
  | 0, j, t, M, f, hn, hk, h0, hj0, hj1, hcm => by
    refine ⟨M, ?_, pf_r _ _ _, rfl⟩
    show fl_Ma_moveAlong_4 (f + 1) j t M = some M
    rw [fl_Ma_moveAlong_4, if_pos (by rw [pa_le, hn.1]; omega)]
  | k + 1, j, t, M, f, hn, hk, h0, hj0, hj1, hcm => by
    have h12 := hn.2
    have hz : ¬ gq_f M 2 ≤ t := by rw [pa_le, hn.1]; omega
    by_cases hj : j = 0
    · refine ⟨M, ?_, pf_r _ _ _, ?_⟩
      · show fl_Ma_moveAlong_4 (f + (k + 1) + 1) j t M = some M
        rw [fl_Ma_moveAlong_4, if_neg hz, if_pos hj]
      · unfold hm_mv
        rw [if_pos (pa_0.mp hj)]
    · have hj' : ¬ j.toInt = 0 := fun z => hj (pa_0.mpr z)
      have hc : 0 ≤ (gq_i M 12 j.toInt).toInt ∧ (gq_i M 12 j.toInt).toInt ≤ 12 := hcm j.toInt (by omega) hj1
      have e1 : (t + 1).toInt = t.toInt + 1 := pa_1 (by omega)
      obtain ⟨M2, g1, g2, g3⟩ := px_mv k (gq_i M 12 j.toInt) (t + 1) (gs_i M 11 (gz_u (gq_i M 11) j.toInt (gq_i M 11 (gq_i M 12 j.toInt).toInt))) f hn (by omega) (by omega) hc.1 hc.2 hcm
      refine ⟨M2, ?_, pf_t (pf_i rfl (pf_r _ _ _)) g2, ?_⟩
      · show fl_Ma_moveAlong_4 (f + (k + 1) + 1) j t M = some M2
        rw [fl_Ma_moveAlong_4, if_neg hz, if_neg hj, if_pos (by omega), if_pos (by omega)]
        exact g1
      · rw [g3]
        show hm_mv (pv_i M 12) k (pv_i M 12 j.toInt) (fun z => (gz_u (gq_i M 11) j.toInt (gq_i M 11 (gq_i M 12 j.toInt).toInt) z).toInt) = _
        rw [pz_u]
        exact (if_neg hj' : hm_mv (pv_i M 12) (k + 1) j.toInt (pv_i M 11) = hm_mv (pv_i M 12) k (pv_i M 12 j.toInt) (gz_u (pv_i M 11) j.toInt (pv_i M 11 (pv_i M 12 j.toInt)))).symm
/-- where columns came from, and the queue, name columns -/
def px_cm (M : gq_M) : Prop := ∀ z : Int, 0 ≤ z → z ≤ 12 → 0 ≤ pv_i M 12 z ∧ pv_i M 12 z ≤ 12
theorem px_move {n : Nat} {M : gq_M} {j : Int32} (hn : px_n n M) (hj : 0 ≤ j.toInt ∧ j.toInt ≤ 12) (hcm : px_cm M) : ∃ M2, fn_Ma_moveAlong j M = some M2 ∧ pf_F (fun a => a = 11) (fun _ => False) M M2 ∧ pv_i M2 11 = hm_mv (pv_i M 12) n j.toInt (pv_i M 11) := by
  have h12 := hn.2
  obtain ⟨M2, g1, g2, g3⟩ := px_mv n j 0 M (4999 - n) hn (by show (0 : Int) + n = n; omega) (by decide) hj.1 hj.2 hcm
  refine ⟨M2, ?_, g2, g3⟩
  unfold fn_Ma_moveAlong
  rw [show 5000 = 4999 - n + (n + 1) by omega]
  exact g1
theorem px_c {P Q : Nat → Prop} {M M2 : gq_M} (h : pf_F P Q M M2) (hq : ∀ a, 7 ≤ a → ¬ Q a) : pv_c M2 = pv_c M := by
  funext i j
  unfold pv_c
  rw [h.2.1 _ (hq _ (by omega))]
theorem px_lp {n : Nat} {c : Int → Int → Int64} {Ro : Int → Int32} (hRo : ∀ z : Int, 0 ≤ z → z ≤ n → 0 ≤ (Ro z).toInt ∧ (Ro z).toInt ≤ n) : ∀ (k : Nat) (j t : Int32) (M : gq_M), px_n n M → t.toInt + k = n → 0 ≤ t.toInt → 0 ≤ j.toInt → j.toInt ≤ n → gq_i M 11 = Ro → pv_c M = c → px_cm M →
    ∃ (j2 : Int32) (M2 : gq_M), (∀ f, fl_Ma_insert_25 (f + (k + 1)) j t M = (fn_Ma_moveAlong j2 M2).bind fun q => some q) ∧ pf_F (fun a => a = 12 ∨ a = 13) pm_Q M M2 ∧ px_St M2 j2.toInt = hm_lp n c (fun z => (Ro z).toInt) k (px_St M j.toInt) ∧ 0 ≤ j2.toInt ∧ j2.toInt ≤ n ∧ px_cm M2
  | 0, j, t, M, hn, hk, h0, hj0, hj1, hR, hc, hcm => by
    refine ⟨j, M, fun f => ?_, pf_r _ _ _, rfl, hj0, hj1, hcm⟩
    show fl_Ma_insert_25 (f + 1) j t M = _
    rw [fl_Ma_insert_25, if_pos (by rw [pa_le, hn.1]; omega)]
  | k + 1, j, t, M, hn, hk, h0, hj0, hj1, hR, hc, hcm => by
    have h12 := hn.2
    have hz : ¬ gq_f M 2 ≤ t := by rw [pa_le, hn.1]; omega
    by_cases hr : Ro j.toInt = 0
    · refine ⟨j, M, fun f => ?_, pf_r _ _ _, ?_, hj0, hj1, hcm⟩
      · show fl_Ma_insert_25 (f + (k + 1) + 1) j t M = _
        rw [fl_Ma_insert_25, if_neg hz, if_pos (by omega), if_pos (by rw [hR]; exact hr)]
      · exact (if_pos (pa_0.mp hr) : hm_lp n c (fun z => (Ro z).toInt) (k + 1) (px_St M j.toInt) = _).symm
    · have e1 : (t + 1).toInt = t.toInt + 1 := pa_1 (by omega)
      obtain ⟨y, M1, a1, a2, a3, a4, a5, a6⟩ := px_next hn ⟨hj0, hj1⟩ (p := j) (fun z p q => by unfold pv_i; rw [hR]; exact hRo z p q)
      have hR1 : gq_i M1 11 = Ro := (a2.1 11 (by decide)).trans hR
      have hc1 : pv_c M1 = c := (px_c a2 (fun a p q => by have := q.2; omega)).trans hc
      obtain ⟨j2, M2, g1, g2, g3, g4, g5, g6⟩ := px_lp hRo k y (t + 1) M1 ⟨by rw [a2.2.2.1 2]; exact hn.1, hn.2⟩ (by omega) (by omega) a4 a5 hR1 hc1 (fun z p q => by
        rcases a6 z with h | h
        · unfold pv_i; rw [h]; exact hcm z p q
        · unfold pv_i; rw [h]; omega)
      refine ⟨j2, M2, fun f => ?_, pf_t a2 g2, ?_, g4, g5, g6⟩
      · show fl_Ma_insert_25 (f + (k + 1) + 1) j t M = _
        rw [fl_Ma_insert_25, if_neg hz, if_pos (by omega), if_neg (by rw [hR]; exact hr), a1, Option.bind_some]
        exact g1 f
      · rw [g3, a3, hc, show pv_i M 11 = fun z => (Ro z).toInt by unfold pv_i; rw [hR]]
        exact (if_neg (fun z => hr (pa_0.mpr z)) : hm_lp n c (fun z => (Ro z).toInt) (k + 1) (px_St M j.toInt) = _).symm
theorem px_insert {n : Nat} {M : gq_M} {p : Int32} {k : Int} (hn : px_n n M) (hp : p.toInt = k + 1) (hk0 : 0 ≤ k) (hk : k < n) (hc : hi_c n (pv_c M)) (hA : hi_A n k (pv_i M 11)) (hP : hi_P n (pv_c M) k (gq_l M 4) (gq_l M 5) (pv_i M 11)) (hcm : px_cm M) :
    ∃ M2, fn_Ma_insert p M = some M2 ∧ pf_F (fun a => 11 ≤ a ∧ a ≤ 13) pm_Q M M2 ∧ hi_A n (k + 1) (pv_i M2 11) ∧ hi_P n (pv_c M2) (k + 1) (gq_l M2 4) (gq_l M2 5) (pv_i M2 11) ∧ px_cm M2 := by
  have h12 := hn.2
  obtain ⟨M1, a1, a2, a3⟩ := px_fs (M := gs_i M 11 (gz_u (gq_i M 11) 0 p)) hn
  have hf1 : pf_F (fun a => 11 ≤ a ∧ a ≤ 13) pm_Q M M1 := pf_t (pf_i (by decide) (pf_r _ _ _)) (pf_w a2 (fun a h => by rw [h]; decide) (fun _ h => h.elim))
  have hf2 : pf_F (fun a => 11 ≤ a ∧ a ≤ 13) pm_Q M (gs_l M1 6 (gz_fill (gq_l M1 6) 13 1152921504606846976)) := pf_l (by decide) hf1
  have h11 : gq_i M1 11 = gz_u (gq_i M 11) 0 p := a2.1 11 (by decide)
  have hro : (fun z => (gz_u (gq_i M 11) 0 p z).toInt) = gz_u (pv_i M 11) 0 (k + 1) := by rw [pz_u, hp]
  have hRo : ∀ z : Int, 0 ≤ z → z ≤ n → 0 ≤ (gz_u (gq_i M 11) 0 p z).toInt ∧ (gz_u (gq_i M 11) 0 p z).toInt ≤ n := by
    intro z h1 h2
    have e : (gz_u (gq_i M 11) 0 p z).toInt = gz_u (pv_i M 11) 0 (k + 1) z := congrFun hro z
    rw [e]
    by_cases hz : z = 0
    · rw [hz, gz_us]; omega
    · rw [gz_un _ _ hz]
      have := hA.1 z (by omega) h2
      omega
  have hc2 : pv_c (gs_l M1 6 (gz_fill (gq_l M1 6) 13 1152921504606846976)) = pv_c M := px_c hf2 (fun a p q => by have := q.2; omega)
  obtain ⟨j2, M2, g1, g2, g3, g4, g5, g6⟩ := px_lp (c := pv_c M) hRo n 0 0 (gs_l M1 6 (gz_fill (gq_l M1 6) 13 1152921504606846976)) ⟨by rw [hf2.2.2.1 2]; exact hn.1, hn.2⟩ (by show (0 : Int) + n = n; omega) (by decide) (by decide) (by show (0 : Int) ≤ n; omega) h11 hc2 (fun z p q => by
    have e : gq_i M1 12 = gq_i M 12 := a2.1 12 (by decide)
    show 0 ≤ (gq_i M1 12 z).toInt ∧ (gq_i M1 12 z).toInt ≤ 12
    rw [e]
    exact hcm z p q)
  have hn2 : px_n n M2 := ⟨by rw [g2.2.2.1 2, hf2.2.2.1 2]; exact hn.1, hn.2⟩
  obtain ⟨M3, k1, k2, k3⟩ := px_move hn2 ⟨g4, by omega⟩ g6
  have h11' : pv_i M2 11 = gz_u (pv_i M 11) 0 (k + 1) := by
    have e : gq_i M2 11 = gz_u (gq_i M 11) 0 p := (g2.1 11 (by decide)).trans h11
    unfold pv_i
    rw [e]
    exact hro
  have hfill : ∀ z : Int, 1 ≤ z → z ≤ n → (gz_fill (gq_l M1 6) 13 1152921504606846976 z).toInt = 1152921504606846976 := by
    intro z p q
    unfold gz_fill
    rw [if_pos (by omega)]
    rfl
  have h4 : gq_l M1 4 = gq_l M 4 := a2.2.1 4 (fun z => z)
  have h5 : gq_l M1 5 = gq_l M 5 := a2.2.1 5 (fun z => z)
  have hins := hi_ins (n := n) (c := pv_c M) (k := k) (u := gq_l M1 4) (v := gq_l M1 5) (ro := pv_i M 11) (sn := pv_i M1 13) (cm := pv_i M1 12) (sl := gz_fill (gq_l M1 6) 13 1152921504606846976) hc hk0 hk hA (by rw [h4, h5]; exact hP) (fun z p q => by unfold pv_i; rw [a3 z p q]; rfl) hfill (s := px_St M2 j2.toInt) (by rw [g3, hro]; rfl) (ro2 := pv_i M3 11) (by rw [k3, h11'])
  refine ⟨M3, ?_, pf_t hf2 (pf_t (pf_w g2 (fun a h => by rcases h with h | h <;> rw [h] <;> decide) (fun _ h => h)) (pf_w k2 (fun a h => by rw [h]; decide) (fun _ h => h.elim))), hins.1, ?_, ?_⟩
  · unfold fn_Ma_insert
    rw [a1, Option.bind_some, show 5000 = 4999 - n + (n + 1) by omega, g1, k1, Option.bind_some]
  · have e4 : gq_l M3 4 = gq_l M2 4 := k2.2.1 4 (fun z => z)
    have e5 : gq_l M3 5 = gq_l M2 5 := k2.2.1 5 (fun z => z)
    have ec : pv_c M3 = pv_c M := (px_c k2 (fun _ _ z => z)).trans ((px_c g2 (fun a p q => by have := q.2; omega)).trans hc2)
    rw [e4, e5, ec]
    exact hins.2
  · intro z p q
    have e : gq_i M3 12 = gq_i M2 12 := k2.1 12 (by decide)
    unfold pv_i
    rw [e]
    exact g6 z p q
theorem px_sum {n : Nat} : ∀ (k : Nat) (a : Int64) (v : Int32) (M : gq_M) (f : Nat), px_n n M → v.toInt + k = n + 1 → 1 ≤ v.toInt → (∀ z : Int, 1 ≤ z → z ≤ n → 0 ≤ pv_i M 11 z ∧ pv_i M 11 z ≤ 12) → fl_Ma_solve_49 (f + (k + 1)) a v M = some (hs_S (fun j => pv_c M (pv_i M 11 j) j) k v.toInt a, M)
  | 0, a, v, M, f, hn, hk, h0, hro => by
    show fl_Ma_solve_49 (f + 1) a v M = _
    rw [fl_Ma_solve_49, if_pos (by rw [pa_lt, hn.1]; omega)]
    rfl
  | k + 1, a, v, M, f, hn, hk, h0, hro => by
    have h12 := hn.2
    have hr : 0 ≤ (gq_i M 11 v.toInt).toInt ∧ (gq_i M 11 v.toInt).toInt ≤ 12 := hro v.toInt h0 (by omega)
    have e1 : (v + 1).toInt = v.toInt + 1 := pa_1 (by omega)
    show fl_Ma_solve_49 (f + (k + 1) + 1) a v M = _
    rw [fl_Ma_solve_49, if_neg (by rw [pa_lt, hn.1]; omega), if_pos (by omega), if_pos (by omega), px_sum k _ (v + 1) M f hn (by omega) (by omega) hro, e1]
    rfl
theorem px_rows {n : Nat} : ∀ (k : Nat) (v : Int32) (M : gq_M) (f : Nat), px_n n M → v.toInt + k = n + 1 → 1 ≤ v.toInt → hi_c n (pv_c M) → hi_A n (v.toInt - 1) (pv_i M 11) → hi_P n (pv_c M) (v.toInt - 1) (gq_l M 4) (gq_l M 5) (pv_i M 11) → px_cm M →
    ∃ M2, fl_Ma_solve_26 (f + (k + 1)) v M = fl_Ma_solve_49 5000 (Int64.ofNat (0 : Fin 2).val) 1 M2 ∧ pf_F (fun a => 11 ≤ a ∧ a ≤ 13) pm_Q M M2 ∧ hi_A n n (pv_i M2 11) ∧ hi_P n (pv_c M2) n (gq_l M2 4) (gq_l M2 5) (pv_i M2 11) ∧ px_cm M2
  | 0, v, M, f, hn, hk, h0, hc, hA, hP, hcm => by
    have e : v.toInt - 1 = n := by omega
    rw [e] at hA hP
    refine ⟨M, ?_, pf_r _ _ _, hA, hP, hcm⟩
    show fl_Ma_solve_26 (f + 1) v M = _
    rw [fl_Ma_solve_26, if_pos (by rw [pa_lt, hn.1]; omega)]
  | k + 1, v, M, f, hn, hk, h0, hc, hA, hP, hcm => by
    have h12 := hn.2
    have e1 : (v + 1).toInt = v.toInt + 1 := pa_1 (by omega)
    obtain ⟨M1, a1, a2, a3, a4, a5⟩ := px_insert (p := v) (k := v.toInt - 1) hn (by omega) (by omega) (by omega) hc hA hP hcm
    have ec : pv_c M1 = pv_c M := px_c a2 (fun a p q => by have := q.2; omega)
    obtain ⟨M2, g1, g2, g3, g4, g5⟩ := px_rows k (v + 1) M1 f ⟨by rw [a2.2.2.1 2]; exact hn.1, hn.2⟩ (by omega) (by omega) (by rw [ec]; exact hc) (by rw [show (v + 1).toInt - 1 = v.toInt - 1 + 1 by omega]; exact a3) (by rw [show (v + 1).toInt - 1 = v.toInt - 1 + 1 by omega]; exact a4) a5
    refine ⟨M2, ?_, pf_t a2 g2, g3, g4, g5⟩
    show fl_Ma_solve_26 (f + (k + 1) + 1) v M = _
    rw [fl_Ma_solve_26, if_neg (by rw [pa_lt, hn.1]; omega), a1, Option.bind_some]
    exact g1
theorem px_solve {n : Nat} {M : gq_M} (hn : px_n n M) (hc : hi_c n (pv_c M)) (hcm : px_cm M) :
    ∃ (T : Int64) (M2 : gq_M), fn_Ma_solve M = some (T, M2) ∧ pf_F (fun a => 11 ≤ a ∧ a ≤ 13) pm_Q M M2 ∧ hi_A n n (pv_i M2 11) ∧ hi_P n (pv_c M) n (gq_l M2 4) (gq_l M2 5) (pv_i M2 11) ∧ px_cm M2 ∧ T.toInt = pm_S (hi_u (gq_l M2 4)) n + pm_S (hi_u (gq_l M2 5)) n := by
  have h12 := hn.2
  generalize hM0 : gs_i (gs_l (gs_l M 4 (gz_fill (gq_l M 4) 13 (Int64.ofNat (0 : Fin 2).val))) 5 (gz_fill (gq_l M 5) 13 (Int64.ofNat (0 : Fin 2).val))) 11 (gz_fill (gq_i M 11) 13 0) = M0
  have hf0 : pf_F (fun a => 11 ≤ a ∧ a ≤ 13) pm_Q M M0 := by
    rw [← hM0]
    exact pf_i (by decide) (pf_l (by decide) (pf_l (by decide) (pf_r _ _ _)))
  have h11 : ∀ z : Int, 0 ≤ z → z ≤ 12 → pv_i M0 11 z = 0 := by
    intro z p q
    rw [← hM0]
    show (gz_fill (gq_i M 11) 13 0 z).toInt = 0
    unfold gz_fill
    rw [if_pos (by omega)]
    rfl
  have h4 : ∀ z : Int, 0 ≤ z → z ≤ 12 → gq_l M0 4 z = 0 := by
    intro z p q
    rw [← hM0]
    show gz_fill (gq_l M 4) 13 (Int64.ofNat (0 : Fin 2).val) z = 0
    unfold gz_fill
    rw [if_pos (by omega)]
    rfl
  have h5 : ∀ z : Int, 0 ≤ z → z ≤ 12 → gq_l M0 5 z = 0 := by
    intro z p q
    rw [← hM0]
    show gz_fill (gq_l M 5) 13 (Int64.ofNat (0 : Fin 2).val) z = 0
    unfold gz_fill
    rw [if_pos (by omega)]
    rfl
  have ec : pv_c M0 = pv_c M := px_c hf0 (fun a p q => by have := q.2; omega)
  have z0 : (0 : Int64).toInt = 0 := rfl
  obtain ⟨M2, g1, g2, g3, g4, g5⟩ := px_rows (n := n) n 1 M0 (4999 - n) ⟨by rw [hf0.2.2.1 2]; exact hn.1, hn.2⟩ (by show (1 : Int) + n = n + 1; omega) (by decide) (by rw [ec]; exact hc)
    (by
      show hi_A n 0 (pv_i M0 11)
      refine ⟨fun j p q => by rw [h11 j (by omega) (by omega)]; omega, fun i j p q r t u => absurd (h11 i (by omega) (by omega)) u, fun i p q => absurd q (by omega)⟩)
    (by
      show hi_P n (pv_c M0) 0 (gq_l M0 4) (gq_l M0 5) (pv_i M0 11)
      refine ⟨fun i j p q => absurd q (by omega), fun j p q r => absurd (h11 j (by omega) (by omega)) r, fun j p q => ?_, fun j p q _ => ?_, fun i p q => absurd q (by omega), fun i p q => h4 i (by omega) (by omega)⟩
      · rw [h5 j (by omega) (by omega), z0]; omega
      · rw [h5 j (by omega) (by omega), z0])
    (fun z p q => by
      have e : gq_i M0 12 = gq_i M 12 := by rw [← hM0]; rfl
      unfold pv_i
      rw [e]
      exact hcm z p q)
  have hfr : pf_F (fun a => 11 ≤ a ∧ a ≤ 13) pm_Q M M2 := pf_t hf0 g2
  have ec2 : pv_c M2 = pv_c M := px_c hfr (fun a p q => by have := q.2; omega)
  rw [ec2] at g4
  have hro : ∀ z : Int, 1 ≤ z → z ≤ n → 0 ≤ pv_i M2 11 z ∧ pv_i M2 11 z ≤ 12 := fun z p q => by have := g3.1 z p q; omega
  refine ⟨hs_S (fun j => pv_c M2 (pv_i M2 11 j) j) n 1 (Int64.ofNat (0 : Fin 2).val), M2, ?_, hfr, g3, g4, g5, ?_⟩
  · unfold fn_Ma_solve
    rw [hM0, show 5000 = 4999 - n + (n + 1) by omega, g1, show 5000 = 4999 - n + (n + 1) by omega]
    exact px_sum n _ 1 M2 (4999 - n) ⟨by rw [hfr.2.2.1 2]; exact hn.1, hn.2⟩ (by show (1 : Int) + n = n + 1; omega) (by decide) hro
  · rw [← hi_sum g3 g4]
    have hb : ∀ i : Int, 1 ≤ i → i ≤ n → 0 ≤ (pv_c M2 (pv_i M2 11 i) i).toInt ∧ (pv_c M2 (pv_i M2 11 i) i).toInt ≤ 1000000000000 := by
      intro i p q
      rw [ec2]
      obtain ⟨t, ht1, ht2⟩ := hi_tau g3
      obtain ⟨r1, r2, -⟩ := ht2 i p q
      exact hc _ i r1 r2 p q
    have h := hs_toInt (f := fun j => pv_c M2 (pv_i M2 11 j) j) (B := 1000000000000) (by omega) n 0 (Int64.ofNat (0 : Fin 2).val) (by rw [Nat.zero_add]; exact hb) rfl (by omega)
    rw [Nat.zero_add] at h
    refine h.trans (pm_S_congr (fun i p q => ?_))
    rw [ec2]
