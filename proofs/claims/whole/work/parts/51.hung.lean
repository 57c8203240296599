/-! THE CLASS'S MATCHING IS THE HUNGARIAN METHOD OF PART 06 -/
abbrev pm_P : Nat → Prop := fun a => 10 ≤ a ∧ a ≤ 14
abbrev pm_Q : Nat → Prop := fun a => 4 ≤ a ∧ a ≤ 6
/-- n units; the rows of columns lie between 0 and n -/
def px_n (n : Nat) (M : gq_M) : Prop := (gq_f M 2).toInt = n ∧ n ≤ 12
theorem px_extra {M : gq_M} {a b : Int32} (ha : 0 ≤ a.toInt ∧ a.toInt < ((13 : Nat) : Int)) (hb : 0 ≤ b.toInt ∧ b.toInt < ((13 : Nat) : Int)) : fn_Ma_extraCost a b M = some (hm_x (pv_c M) (gq_l M 4) (gq_l M 5) a.toInt b.toInt) := by
  unfold fn_Ma_extraCost
  rw [if_pos ha, if_pos hb]
  rfl
theorem px_forget {n : Nat} : ∀ (k : Nat) (v : Int32) (M : gq_M) (f : Nat), px_n n M → v.toInt + k = n + 1 → 0 ≤ v.toInt →
    ∃ M2, fl_Ma_forgetSeen_2 (f + (k + 1)) v M = some M2 ∧ pf_F (fun a => a = 13) (fun _ => False) M M2 ∧ (∀ z : Int, v.toInt ≤ z → z ≤ n → gq_i M2 13 z = 0) ∧ ∀ z : Int, z < v.toInt → gq_i M2 13 z = gq_i M 13 z
  | 0, v, M, f, hn, hk, h0 => by
    refine ⟨M, ?_, pf_r _ _ _, fun z a b => absurd b (by omega), fun z _ => rfl⟩
    show fl_Ma_forgetSeen_2 (f + 1) v M = some M
    rw [fl_Ma_forgetSeen_2, if_pos (by rw [pa_lt, hn.1]; omega)]
  | k + 1, v, M, f, hn, hk, h0 => by
    have h12 := hn.2
    have e1 : (v + 1).toInt = v.toInt + 1 := pa_1 (by omega)
    obtain ⟨M2, h1, h2, h3, h4⟩ := px_forget k (v + 1) (gs_i M 13 (gz_u (gq_i M 13) v.toInt 0)) f hn (by omega) (by omega)
    refine ⟨M2, ?_, pf_t (pf_i rfl (pf_r _ _ _)) h2, fun z a b => ?_, fun z a => ?_⟩
    · show fl_Ma_forgetSeen_2 (f + (k + 1) + 1) v M = some M2
      rw [fl_Ma_forgetSeen_2, if_neg (by rw [pa_lt, hn.1]; omega), if_pos (by omega)]
      exact h1
    · by_cases e : z = v.toInt
      · rw [h4 z (by omega)]
        show gz_u (gq_i M 13) v.toInt 0 z = 0
        rw [e, gz_us]
      · exact h3 z (by omega) b
    · rw [h4 z (by omega)]
      exact gz_un _ _ (by omega)
theorem px_fs {n : Nat} {M : gq_M} (hn : px_n n M) : ∃ M2, fn_Ma_forgetSeen M = some M2 ∧ pf_F (fun a => a = 13) (fun _ => False) M M2 ∧ ∀ z : Int, 0 ≤ z → z ≤ n → gq_i M2 13 z = 0 := by
  obtain ⟨M2, h1, h2, h3, -⟩ := px_forget (n := n) (n + 1) 0 M (4999 - (n + 1)) hn (by show (0 : Int) + _ = _; omega) (by decide)
  have := hn.2
  refine ⟨M2, ?_, h2, h3⟩
  unfold fn_Ma_forgetSeen
  rw [show 5000 = 4999 - (n + 1) + (n + 1 + 1) by omega]
  exact h1
/-- prices change -/
theorem px_cp {n : Nat} {d : Int64} {Ro Sn : Int → Int32} (hro : ∀ z : Int, 0 ≤ z → z ≤ n → 0 ≤ (Ro z).toInt ∧ (Ro z).toInt ≤ n) : ∀ (k : Nat) (v : Int32) (M : gq_M) (f : Nat), px_n n M → v.toInt + k = n + 1 → 0 ≤ v.toInt → gq_i M 11 = Ro → gq_i M 13 = Sn →
    ∃ M2, fl_Ma_changePrices_2 (f + (k + 1)) d v M = some M2 ∧ pf_F (fun _ => False) pm_Q M M2 ∧ (gq_l M2 4, gq_l M2 5, gq_l M2 6) = hm_cp (fun z => (Ro z).toInt) (fun z => (Sn z).toInt) d k v.toInt (gq_l M 4, gq_l M 5, gq_l M 6)
  | 0, v, M, f, hn, hk, h0, _, _ => by
    refine ⟨M, ?_, pf_r _ _ _, rfl⟩
    show fl_Ma_changePrices_2 (f + 1) d v M = some M
    rw [fl_Ma_changePrices_2, if_pos (by rw [pa_lt, hn.1]; omega)]
  | k + 1, v, M, f, hn, hk, h0, hR, hS => by
    have h12 := hn.2
    have e1 : (v + 1).toInt = v.toInt + 1 := pa_1 (by omega)
    have hr := hro v.toInt h0 (by omega)
    by_cases hs : Sn v.toInt = 0
    · obtain ⟨M2, h1, h2, h3⟩ := px_cp hro k (v + 1) (gs_l M 6 (gz_ul (gq_l M 6) v.toInt (gq_l M 6 v.toInt - d))) f hn (by omega) (by omega) hR hS
      refine ⟨M2, ?_, pf_t (pf_l (by decide) (pf_r _ _ _)) h2, ?_⟩
      · show fl_Ma_changePrices_2 (f + (k + 1) + 1) d v M = some M2
        rw [fl_Ma_changePrices_2, if_neg (by rw [pa_lt, hn.1]; omega), if_pos (by omega), if_pos (by rw [hS]; exact hs)]
        exact h1
      · rw [h3, e1]
        show _ = hm_cp _ _ d k (v.toInt + 1) (hm_c1 _ _ d v.toInt _)
        unfold hm_c1
        rw [if_pos (pa_0.mp hs)]
        rfl
    · obtain ⟨M2, h1, h2, h3⟩ := px_cp hro k (v + 1) (gs_l (gs_l M 4 (gz_ul (gq_l M 4) (Ro v.toInt).toInt (gq_l M 4 (Ro v.toInt).toInt + d))) 5 (gz_ul (gq_l M 5) v.toInt (gq_l M 5 v.toInt - d))) f hn (by omega) (by omega) hR hS
      refine ⟨M2, ?_, pf_t (pf_l (by decide) (pf_l (by decide) (pf_r _ _ _))) h2, ?_⟩
      · show fl_Ma_changePrices_2 (f + (k + 1) + 1) d v M = some M2
        rw [fl_Ma_changePrices_2, if_neg (by rw [pa_lt, hn.1]; omega), if_pos (by omega), if_neg (by rw [hS]; exact hs), if_pos (by rw [hR]; omega), hR]
        exact h1
      · rw [h3, e1]
        show _ = hm_cp _ _ d k (v.toInt + 1) (hm_c1 _ _ d v.toInt _)
        unfold hm_c1
        rw [if_neg (fun z => hs (pa_0.mpr z))]
        rfl
/-- the columns are looked through -/
theorem px_nx {n : Nat} {Cr : Nat → Int → Int64} {U V : Int → Int64} {Sn : Int → Int32} {fr row : Int32} (hrow : 0 ≤ row.toInt ∧ row.toInt ≤ n) : ∀ (k : Nat) (x v : Int32) (M : gq_M), px_n n M → v.toInt + k = n + 1 → 1 ≤ v.toInt → 0 ≤ x.toInt → x.toInt ≤ n → (∀ i, gq_l M (7 + i) = Cr i) → gq_l M 4 = U → gq_l M 5 = V → gq_i M 13 = Sn →
    ∃ (x2 v2 : Int32) (M2 : gq_M), (∀ f, fl_Ma_nextColumn_19 (f + k) fr row x v M = fl_Ma_nextColumn_19 f fr row x2 v2 M2) ∧ v2.toInt = n + 1 ∧ 0 ≤ x2.toInt ∧ x2.toInt ≤ n ∧ pf_F (fun a => a = 12) (fun a => a = 6) M M2 ∧ (∀ z, gq_i M2 12 z = gq_i M 12 z ∨ gq_i M2 12 z = fr) ∧ (gq_l M2 6, pv_i M2 12, x2.toInt) = hm_nx (fun i j => Cr i.toNat j) U V (fun z => (Sn z).toInt) row.toInt fr.toInt k v.toInt (gq_l M 6, pv_i M 12, x.toInt)
  | 0, x, v, M, hn, hk, h0, hx0, hx1, hc, hu, hv, hs => ⟨x, v, M, fun f => rfl, by omega, hx0, hx1, pf_r _ _ _, fun z => Or.inl rfl, rfl⟩
  | k + 1, x, v, M, hn, hk, h0, hx0, hx1, hc, hu, hv, hs => by
    have h12 := hn.2
    have e1 : (v + 1).toInt = v.toInt + 1 := pa_1 (by omega)
    have hz : ¬ gq_f M 2 < v := by rw [pa_lt, hn.1]; omega
    have hvr : 0 ≤ v.toInt ∧ v.toInt < ((13 : Nat) : Int) := by omega
    have hxr : 0 ≤ x.toInt ∧ x.toInt < ((13 : Nat) : Int) := by omega
    have hstep : ∀ s, hm_nx (fun i j => Cr i.toNat j) U V (fun z => (Sn z).toInt) row.toInt fr.toInt (k + 1) v.toInt s = hm_nx (fun i j => Cr i.toNat j) U V (fun z => (Sn z).toInt) row.toInt fr.toInt k (v.toInt + 1) (hm_n1 (fun i j => Cr i.toNat j) U V (fun z => (Sn z).toInt) row.toInt fr.toInt v.toInt s) := fun _ => rfl
    by_cases hsn : Sn v.toInt = 0
    · have hex : fn_Ma_extraCost row v M = some (hm_x (fun i j => Cr i.toNat j) U V row.toInt v.toInt) := by
        rw [px_extra (by omega) hvr]
        unfold hm_x pv_c
        rw [hc, hu, hv]
      generalize hX : hm_x (fun i j => Cr i.toNat j) U V row.toInt v.toInt = X at hex
      by_cases hle : gq_l M 6 v.toInt ≤ X
      · have key : ∀ y : Int32, 0 ≤ y.toInt → y.toInt ≤ n → (∀ f, fl_Ma_nextColumn_19 (f + k + 1) fr row x v M = fl_Ma_nextColumn_19 (f + k) fr row y (v + 1) M) → y.toInt = (if x.toInt = 0 then v.toInt else if gq_l M 6 v.toInt < gq_l M 6 x.toInt then v.toInt else x.toInt) → ∃ (x2 v2 : Int32) (M2 : gq_M), (∀ f, fl_Ma_nextColumn_19 (f + (k + 1)) fr row x v M = fl_Ma_nextColumn_19 f fr row x2 v2 M2) ∧ v2.toInt = n + 1 ∧ 0 ≤ x2.toInt ∧ x2.toInt ≤ n ∧ pf_F (fun a => a = 12) (fun a => a = 6) M M2 ∧ (∀ z, gq_i M2 12 z = gq_i M 12 z ∨ gq_i M2 12 z = fr) ∧ (gq_l M2 6, pv_i M2 12, x2.toInt) = hm_nx (fun i j => Cr i.toNat j) U V (fun z => (Sn z).toInt) row.toInt fr.toInt (k + 1) v.toInt (gq_l M 6, pv_i M 12, x.toInt) := by
          intro y hy0 hy1 hfl hy
          obtain ⟨x2, v2, M2, g1, g2, g3, g4, g5, g7, g6⟩ := px_nx hrow k y (v + 1) M hn (by omega) (by omega) hy0 hy1 hc hu hv hs
          refine ⟨x2, v2, M2, fun f => (hfl f).trans (g1 f), g2, g3, g4, g5, g7, ?_⟩
          rw [g6, hstep, e1]
          congr 1
          unfold hm_n1
          rw [if_pos (pa_0.mp hsn), hX, if_neg (by rw [Int64.not_lt]; exact hle), hy]
        by_cases hx : x = 0
        · refine key v (by omega) (by omega) (fun f => ?_) (by rw [if_pos (pa_0.mp hx)])
          rw [fl_Ma_nextColumn_19, if_neg hz, if_pos hvr, if_pos (by rw [hs]; exact hsn), hex, Option.bind_some, if_pos hle, if_pos hx]
        · have hx' : ¬ x.toInt = 0 := fun z => hx (pa_0.mpr z)
          by_cases hcm : gq_l M 6 x.toInt ≤ gq_l M 6 v.toInt
          · refine key x hx0 hx1 (fun f => ?_) (by rw [if_neg hx', if_neg (by rw [Int64.not_lt]; exact hcm)])
            rw [fl_Ma_nextColumn_19, if_neg hz, if_pos hvr, if_pos (by rw [hs]; exact hsn), hex, Option.bind_some, if_pos hle, if_neg hx, if_pos hxr, if_pos hcm]
          · refine key v (by omega) (by omega) (fun f => ?_) (by rw [if_neg hx', if_pos (by rw [← Int64.not_le]; exact hcm)])
            rw [fl_Ma_nextColumn_19, if_neg hz, if_pos hvr, if_pos (by rw [hs]; exact hsn), hex, Option.bind_some, if_pos hle, if_neg hx, if_pos hxr, if_neg hcm]
      · have key : ∀ y : Int32, 0 ≤ y.toInt → y.toInt ≤ n → (∀ f, fl_Ma_nextColumn_19 (f + k + 1) fr row x v M = fl_Ma_nextColumn_19 (f + k) fr row y (v + 1) (gs_i (gs_l M 6 (gz_ul (gq_l M 6) v.toInt X)) 12 (gz_u (gq_i M 12) v.toInt fr))) → y.toInt = (if x.toInt = 0 then v.toInt else if gz_ul (gq_l M 6) v.toInt X v.toInt < gz_ul (gq_l M 6) v.toInt X x.toInt then v.toInt else x.toInt) → ∃ (x2 v2 : Int32) (M2 : gq_M), (∀ f, fl_Ma_nextColumn_19 (f + (k + 1)) fr row x v M = fl_Ma_nextColumn_19 f fr row x2 v2 M2) ∧ v2.toInt = n + 1 ∧ 0 ≤ x2.toInt ∧ x2.toInt ≤ n ∧ pf_F (fun a => a = 12) (fun a => a = 6) M M2 ∧ (∀ z, gq_i M2 12 z = gq_i M 12 z ∨ gq_i M2 12 z = fr) ∧ (gq_l M2 6, pv_i M2 12, x2.toInt) = hm_nx (fun i j => Cr i.toNat j) U V (fun z => (Sn z).toInt) row.toInt fr.toInt (k + 1) v.toInt (gq_l M 6, pv_i M 12, x.toInt) := by
          intro y hy0 hy1 hfl hy
          obtain ⟨x2, v2, M2, g1, g2, g3, g4, g5, g7, g6⟩ := px_nx hrow k y (v + 1) (gs_i (gs_l M 6 (gz_ul (gq_l M 6) v.toInt X)) 12 (gz_u (gq_i M 12) v.toInt fr)) hn (by omega) (by omega) hy0 hy1 (fun i => (gq_un _ _ (by omega)).trans (hc i)) hu hv hs
          refine ⟨x2, v2, M2, fun f => (hfl f).trans (g1 f), g2, g3, g4, pf_t (pf_i rfl (pf_l rfl (pf_r _ _ _))) g5, fun z => ?_, ?_⟩
          · rcases g7 z with h | h
            · rw [h]
              show gz_u (gq_i M 12) v.toInt fr z = _ ∨ gz_u (gq_i M 12) v.toInt fr z = _
              by_cases e : z = v.toInt
              · exact Or.inr (by rw [e, gz_us])
              · exact Or.inl (gz_un _ _ e)
            · exact Or.inr h
          rw [g6, hstep, e1]
          congr 1
          unfold hm_n1
          rw [if_pos (pa_0.mp hsn), hX, if_pos (by rw [← Int64.not_le]; exact hle), hy]
          show (gz_ul (gq_l M 6) v.toInt X, (fun z => (gz_u (gq_i M 12) v.toInt fr z).toInt), _) = _
          rw [pz_u]
        by_cases hx : x = 0
        · refine key v (by omega) (by omega) (fun f => ?_) (by rw [if_pos (pa_0.mp hx)])
          rw [fl_Ma_nextColumn_19, if_neg hz, if_pos hvr, if_pos (by rw [hs]; exact hsn), hex, Option.bind_some, if_neg hle, if_pos hx]
        · have hx' : ¬ x.toInt = 0 := fun z => hx (pa_0.mpr z)
          by_cases hcm : gz_ul (gq_l M 6) v.toInt X x.toInt ≤ gz_ul (gq_l M 6) v.toInt X v.toInt
          · refine key x hx0 hx1 (fun f => ?_) (by rw [if_neg hx', if_neg (by rw [Int64.not_lt]; exact hcm)])
            rw [fl_Ma_nextColumn_19, if_neg hz, if_pos hvr, if_pos (by rw [hs]; exact hsn), hex, Option.bind_some, if_neg hle, if_neg hx, if_pos hxr, if_pos hcm]
          · refine key v (by omega) (by omega) (fun f => ?_) (by rw [if_neg hx', if_pos (by rw [← Int64.not_le]; exact hcm)])
            rw [fl_Ma_nextColumn_19, if_neg hz, if_pos hvr, if_pos (by rw [hs]; exact hsn), hex, Option.bind_some, if_neg hle, if_neg hx, if_pos hxr, if_neg hcm]
    · obtain ⟨x2, v2, M2, g1, g2, g3, g4, g5, g7, g6⟩ := px_nx hrow k x (v + 1) M hn (by omega) (by omega) hx0 hx1 hc hu hv hs
      refine ⟨x2, v2, M2, fun f => ?_, g2, g3, g4, g5, g7, ?_⟩
      · rw [show f + (k + 1) = f + k + 1 from rfl, fl_Ma_nextColumn_19, if_neg hz, if_pos hvr, if_neg (by rw [hs]; exact hsn)]
        exact g1 f
      · rw [g6, hstep, e1]
        congr 1
        unfold hm_n1
        rw [if_neg (fun z => hsn (pa_0.mpr z))]
