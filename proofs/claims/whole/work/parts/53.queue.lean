/-! THE CLASS'S SEARCH OF CHAINS IS THAT OF PART 07 -/
abbrev py_St (M : gq_M) (q : Int) : bq_S := (pv_i M 13, pv_i M 12, pv_i M 14, q)
theorem py_le {n : Nat} {c : Int → Int → Int64} {u v : Int → Int64} {ro : Int → Int} {row wanted : Int} {s : bq_S} (h : bq_I n c u v ro row wanted s) : s.2.2.2 ≤ n := by
  have h1 := pm_S_bound (f := s.1) (B := 1) (n := n) (fun i a b => by rcases h.1 i (by omega) b with e | e <;> omega)
  have h2 := h.2.2.2.1
  omega
theorem py_qf {n : Nat} {Cr : Nat → Int → Int64} {U V : Int → Int64} {Ro : Int → Int32} {fr row : Int32} {wanted : Int} (hf1 : 1 ≤ fr.toInt ∧ fr.toInt ≤ n) (hRo : ∀ z : Int, 0 ≤ z → z ≤ n → 0 ≤ (Ro z).toInt ∧ (Ro z).toInt ≤ 12) : ∀ (k : Nat) (q v : Int32) (M : gq_M) (f : Nat), px_n n M → v.toInt + k = n + 1 → 1 ≤ v.toInt → (∀ i, gq_l M (7 + i) = Cr i) → gq_l M 4 = U → gq_l M 5 = V → gq_i M 11 = Ro → 0 ≤ q.toInt → pv_i M 13 fr.toInt = 1 → bq_I n (fun i j => Cr i.toNat j) U V (fun z => (Ro z).toInt) row.toInt wanted (py_St M q.toInt) →
    ∃ (q2 : Int32) (M2 : gq_M), fl_Ma_queueFrom_6 (f + (k + 1)) fr row q v M = some (q2, M2) ∧ pf_F (fun a => 12 ≤ a ∧ a ≤ 14) (fun _ => False) M M2 ∧ py_St M2 q2.toInt = bq_F (fun i j => Cr i.toNat j) U V (fun z => (Ro z).toInt) row.toInt fr.toInt k v.toInt (py_St M q.toInt) ∧ 0 ≤ q2.toInt ∧ ∀ z, gq_i M2 12 z = gq_i M 12 z ∨ gq_i M2 12 z = fr
  | 0, q, v, M, f, hn, hk, h0, hc, hu, hv, hr, hq, hs, hI => by
    refine ⟨q, M, ?_, pf_r _ _ _, rfl, hq, fun z => Or.inl rfl⟩
    show fl_Ma_queueFrom_6 (f + 1) fr row q v M = _
    rw [fl_Ma_queueFrom_6, if_pos (by rw [pa_lt, hn.1]; omega)]
  | k + 1, q, v, M, f, hn, hk, h0, hc, hu, hv, hr, hq, hs, hI => by
    have h12 := hn.2
    have e1 : (v + 1).toInt = v.toInt + 1 := pa_1 (by omega)
    have hz : ¬ gq_f M 2 < v := by rw [pa_lt, hn.1]; omega
    have hvr : 0 ≤ v.toInt ∧ v.toInt < ((13 : Nat) : Int) := by omega
    have hle := py_le hI
    have hle' : q.toInt ≤ n := hle
    have hk1 := bq_1_keeps (fr := fr.toInt) (j := v.toInt) ⟨hf1.1, hf1.2, hs⟩ ⟨h0, by omega⟩ hI
    have hfrr := hRo fr.toInt (by omega) hf1.2
    have same : bq_1 (fun i j => Cr i.toNat j) U V (fun z => (Ro z).toInt) row.toInt fr.toInt v.toInt (py_St M q.toInt) = py_St M q.toInt → (∀ f, fl_Ma_queueFrom_6 (f + (k + 1) + 1) fr row q v M = fl_Ma_queueFrom_6 (f + (k + 1)) fr row q (v + 1) M) → ∃ (q2 : Int32) (M2 : gq_M), fl_Ma_queueFrom_6 (f + (k + 1 + 1)) fr row q v M = some (q2, M2) ∧ pf_F (fun a => 12 ≤ a ∧ a ≤ 14) (fun _ => False) M M2 ∧ py_St M2 q2.toInt = bq_F (fun i j => Cr i.toNat j) U V (fun z => (Ro z).toInt) row.toInt fr.toInt (k + 1) v.toInt (py_St M q.toInt) ∧ 0 ≤ q2.toInt ∧ ∀ z, gq_i M2 12 z = gq_i M 12 z ∨ gq_i M2 12 z = fr := by
      intro hb hfl
      obtain ⟨q2, M2, g1, g2, g3, g4, g5⟩ := py_qf hf1 hRo k q (v + 1) M f hn (by omega) (by omega) hc hu hv hr hq hs hI
      refine ⟨q2, M2, (hfl f).trans g1, g2, ?_, g4, g5⟩
      rw [g3, e1]
      show _ = bq_F _ U V _ row.toInt fr.toInt k (v.toInt + 1) (bq_1 _ U V _ row.toInt fr.toInt v.toInt (py_St M q.toInt))
      rw [hb]
    by_cases hsn : gq_i M 13 v.toInt = 0
    · have hsn' : (py_St M q.toInt).1 v.toInt = 0 := pa_0.mp hsn
      by_cases hlt : gq_i M 11 v.toInt < row
      · refine same ?_ (fun f => ?_)
        · unfold bq_1
          rw [if_pos hsn', if_neg (by have := pa_lt.mp hlt; rw [hr] at this; show ¬ row.toInt ≤ (Ro v.toInt).toInt; omega)]
        · rw [fl_Ma_queueFrom_6, if_neg hz, if_pos hvr, if_pos hsn, if_pos hlt]
      · have hlt' : row.toInt ≤ (Ro v.toInt).toInt := by
          rw [pa_lt, hr] at hlt
          omega
        have hex : fn_Ma_extraCost (gq_i M 11 fr.toInt) v M = some (hm_x (fun i j => Cr i.toNat j) U V (Ro fr.toInt).toInt v.toInt) := by
          rw [hr, px_extra (by omega) hvr]
          unfold hm_x pv_c
          rw [hc, hu, hv]
        by_cases hx : hm_x (fun i j => Cr i.toNat j) U V (Ro fr.toInt).toInt v.toInt = 0
        · have eq1 : (q + 1).toInt = q.toInt + 1 := pa_1 (by omega)
          have hst : py_St (gs_i (gs_i (gs_i M 13 (gz_u (gq_i M 13) v.toInt 1)) 12 (gz_u (gq_i M 12) v.toInt fr)) 14 (gz_u (gq_i M 14) q.toInt v)) (q + 1).toInt = bq_1 (fun i j => Cr i.toNat j) U V (fun z => (Ro z).toInt) row.toInt fr.toInt v.toInt (py_St M q.toInt) := by
            unfold bq_1
            rw [if_pos hsn', if_pos hlt', if_pos hx, eq1]
            show ((fun z => (gz_u (gq_i M 13) v.toInt 1 z).toInt), (fun z => (gz_u (gq_i M 12) v.toInt fr z).toInt), (fun z => (gz_u (gq_i M 14) q.toInt v z).toInt), q.toInt + 1) = _
            rw [pz_u, pz_u, pz_u]
            rfl
          obtain ⟨q2, M2, g1, g2, g3, g4, g5⟩ := py_qf hf1 hRo k (q + 1) (v + 1) (gs_i (gs_i (gs_i M 13 (gz_u (gq_i M 13) v.toInt 1)) 12 (gz_u (gq_i M 12) v.toInt fr)) 14 (gz_u (gq_i M 14) q.toInt v)) f hn (by omega) (by omega) hc hu hv hr (by omega) (by
              have h9 := hk1.2.1 fr.toInt hs
              rw [← hst] at h9
              exact h9) (by rw [hst]; exact hk1.1)
          refine ⟨q2, M2, ?_, pf_t (pf_i (by decide) (pf_i (by decide) (pf_i (by decide) (pf_r _ _ _)))) g2, ?_, g4, fun z => ?_⟩
          · show fl_Ma_queueFrom_6 (f + (k + 1) + 1) fr row q v M = _
            rw [fl_Ma_queueFrom_6, if_neg hz, if_pos hvr, if_pos hsn, if_neg hlt, if_pos (by omega), hex, Option.bind_some, if_pos (show _ = Int64.ofNat (0 : Fin 2).val from hx), if_pos (by omega)]
            exact g1
          · rw [g3, hst, e1]
            rfl
          · rcases g5 z with h | h
            · rw [h]
              show gz_u (gq_i M 12) v.toInt fr z = _ ∨ gz_u (gq_i M 12) v.toInt fr z = _
              by_cases e : z = v.toInt
              · exact Or.inr (by rw [e, gz_us])
              · exact Or.inl (gz_un _ _ e)
            · exact Or.inr h
        · refine same ?_ (fun f => ?_)
          · unfold bq_1
            rw [if_pos hsn', if_pos hlt', if_neg hx]
          · rw [fl_Ma_queueFrom_6, if_neg hz, if_pos hvr, if_pos hsn, if_neg hlt, if_pos (by omega), hex, Option.bind_some, if_neg (show ¬ _ = Int64.ofNat (0 : Fin 2).val from hx)]
    · refine same ?_ (fun f => ?_)
      · unfold bq_1
        rw [if_neg (fun z => hsn (pa_0.mpr z))]
      · rw [fl_Ma_queueFrom_6, if_neg hz, if_pos hvr, if_neg hsn]
theorem py_nar {x : Int32} (h : x.toInt = 0 ∨ x.toInt = 1) : vp_nar .boolean x = x := by
  rcases h with h | h
  · rw [pa_0.mpr h]; decide
  · rw [show x = 1 from pa_eq.mpr h]; decide
theorem py_re {n : Nat} {Cr : Nat → Int → Int64} {U V : Int → Int64} {Ro : Int → Int32} {row left : Int32} {wanted : Int} (hl : 1 ≤ left.toInt ∧ left.toInt ≤ n) (hRo : ∀ z : Int, 0 ≤ z → z ≤ n → 0 ≤ (Ro z).toInt ∧ (Ro z).toInt ≤ 12) : ∀ (k : Nat) (q v : Int32) (M : gq_M) (f : Nat), px_n n M → v.toInt + k = n → 0 ≤ v.toInt → (∀ i, gq_l M (7 + i) = Cr i) → gq_l M 4 = U → gq_l M 5 = V → gq_i M 11 = Ro → 0 ≤ q.toInt → bq_I n (fun i j => Cr i.toNat j) U V (fun z => (Ro z).toInt) row.toInt wanted (py_St M q.toInt) → px_cm M →
    ∃ (q2 : Int32) (M2 : gq_M), fl_Ma_reaches_38 (f + (k + 1)) row left q v M = some (gq_i M2 13 left.toInt, M2) ∧ pf_F (fun a => 12 ≤ a ∧ a ≤ 14) (fun _ => False) M M2 ∧ py_St M2 q2.toInt = bq_L n (fun i j => Cr i.toNat j) U V (fun z => (Ro z).toInt) row.toInt left.toInt k v.toInt (py_St M q.toInt) ∧ px_cm M2
  | 0, q, v, M, f, hn, hk, h0, hc, hu, hv, hr, hq, hI, hcm => by
    refine ⟨q, M, ?_, pf_r _ _ _, rfl, hcm⟩
    have h12 := hn.2
    show fl_Ma_reaches_38 (f + 1) row left q v M = _
    rw [fl_Ma_reaches_38, if_pos (by rw [pa_le, hn.1]; omega), if_pos (by omega), if_pos (py_nar (hI.1 left.toInt (by omega) hl.2))]
  | k + 1, q, v, M, f, hn, hk, h0, hc, hu, hv, hr, hq, hI, hcm => by
    have h12 := hn.2
    have hz : ¬ gq_f M 2 ≤ v := by rw [pa_le, hn.1]; omega
    have hnar := py_nar (hI.1 left.toInt (by omega) hl.2)
    have hlr : 0 ≤ left.toInt ∧ left.toInt < ((13 : Nat) : Int) := by omega
    by_cases hqv : q ≤ v
    · refine ⟨q, M, ?_, pf_r _ _ _, ?_, hcm⟩
      · show fl_Ma_reaches_38 (f + (k + 1) + 1) row left q v M = _
        rw [fl_Ma_reaches_38, if_neg hz, if_pos hqv, if_pos hlr, if_pos hnar]
      · have := pa_le.mp hqv
        exact (if_neg (by show ¬ v.toInt < q.toInt; omega) : bq_L n _ U V _ row.toInt left.toInt (k + 1) v.toInt (py_St M q.toInt) = _).symm
    · have hqv' : v.toInt < q.toInt := by rw [pa_le] at hqv; omega
      by_cases hs : gq_i M 13 left.toInt = 0
      · have hqu := hI.2.1 v.toInt h0 hqv'
        obtain ⟨q2, M1, a1, a2, a3, a4, a5⟩ := py_qf (fr := gq_i M 14 v.toInt) (row := row) (wanted := wanted) ⟨hqu.1, hqu.2.1⟩ hRo n q 1 M (4999 - n) hn (by show (1 : Int) + n = n + 1; omega) (by decide) hc hu hv hr hq hqu.2.2 hI
        have hk1 := bq_F_keeps (fr := (gq_i M 14 v.toInt).toInt) n 1 (py_St M q.toInt) (by omega) (by omega) ⟨hqu.1, hqu.2.1, hqu.2.2⟩ hI
        have e1 : (v + 1).toInt = v.toInt + 1 := pa_1 (by omega)
        obtain ⟨q3, M2, g1, g2, g3, g4⟩ := py_re (wanted := wanted) hl hRo k q2 (v + 1) M1 f ⟨by rw [a2.2.2.1 2]; exact hn.1, hn.2⟩ (by omega) (by omega) (fun i => (a2.2.1 _ (fun z => z)).trans (hc i)) ((a2.2.1 _ (fun z => z)).trans hu) ((a2.2.1 _ (fun z => z)).trans hv) ((a2.1 11 (by decide)).trans hr) a4 (by rw [a3]; exact hk1.1) (fun z p p2 => by
          rcases a5 z with h | h
          · unfold pv_i; rw [h]; exact hcm z p p2
          · unfold pv_i
            rw [h]
            have w1 : 1 ≤ (gq_i M 14 v.toInt).toInt := hqu.1
            have w2 : (gq_i M 14 v.toInt).toInt ≤ n := hqu.2.1
            omega)
        refine ⟨q3, M2, ?_, pf_t a2 g2, ?_, g4⟩
        · show fl_Ma_reaches_38 (f + (k + 1) + 1) row left q v M = _
          rw [fl_Ma_reaches_38, if_neg hz, if_neg hqv, if_pos hlr, if_pos hs, if_pos (by omega)]
          unfold fn_Ma_queueFrom
          rw [show 5000 = 4999 - n + (n + 1) by omega, a1, Option.bind_some]
          exact g1
        · rw [g3, a3, e1]
          have s1 : bq_L n (fun i j => Cr i.toNat j) U V (fun z => (Ro z).toInt) row.toInt left.toInt (k + 1) v.toInt (py_St M q.toInt) = (if (py_St M q.toInt).1 left.toInt = 0 then bq_L n (fun i j => Cr i.toNat j) U V (fun z => (Ro z).toInt) row.toInt left.toInt k (v.toInt + 1) (bq_F (fun i j => Cr i.toNat j) U V (fun z => (Ro z).toInt) row.toInt ((py_St M q.toInt).2.2.1 v.toInt) n 1 (py_St M q.toInt)) else py_St M q.toInt) := if_pos hqv'
          rw [s1, if_pos (pa_0.mp hs)]
          rfl
      · refine ⟨q, M, ?_, pf_r _ _ _, ?_, hcm⟩
        · show fl_Ma_reaches_38 (f + (k + 1) + 1) row left q v M = _
          rw [fl_Ma_reaches_38, if_neg hz, if_neg hqv, if_pos hlr, if_neg hs, if_pos hnar]
        · have s1 : bq_L n (fun i j => Cr i.toNat j) U V (fun z => (Ro z).toInt) row.toInt left.toInt (k + 1) v.toInt (py_St M q.toInt) = (if (py_St M q.toInt).1 left.toInt = 0 then bq_L n (fun i j => Cr i.toNat j) U V (fun z => (Ro z).toInt) row.toInt left.toInt k (v.toInt + 1) (bq_F (fun i j => Cr i.toNat j) U V (fun z => (Ro z).toInt) row.toInt ((py_St M q.toInt).2.2.1 v.toInt) n 1 (py_St M q.toInt)) else py_St M q.toInt) := if_pos hqv'
          rw [s1, if_neg (fun z => hs (pa_0.mpr z))]
theorem py_col {n : Nat} {row : Int32} : ∀ (k : Nat) (v : Int32) (M : gq_M) (f : Nat), px_n n M → v.toInt + k = n + 1 → 1 ≤ v.toInt → (∃ j : Int, v.toInt ≤ j ∧ j ≤ n ∧ gq_i M 11 j = row) → ∃ x : Int32, fl_Ma_columnOf_2 M (f + (k + 1)) row v = some x ∧ 1 ≤ x.toInt ∧ x.toInt ≤ n ∧ gq_i M 11 x.toInt = row
  | 0, v, M, f, hn, hk, h0, ⟨j, h1, h2, h3⟩ => absurd h2 (by omega)
  | k + 1, v, M, f, hn, hk, h0, ⟨j, h1, h2, h3⟩ => by
    have h12 := hn.2
    have hz : ¬ gq_f M 2 < v := by rw [pa_lt, hn.1]; omega
    have e1 : (v + 1).toInt = v.toInt + 1 := pa_1 (by omega)
    by_cases h : gq_i M 11 v.toInt = row
    · refine ⟨v, ?_, h0, by omega, h⟩
      show fl_Ma_columnOf_2 M (f + (k + 1) + 1) row v = _
      rw [fl_Ma_columnOf_2, if_neg hz, if_pos (by omega), if_pos h]
    · have hne : j ≠ v.toInt := fun z => h (by rw [← z]; exact h3)
      obtain ⟨x, g1, g2, g3, g4⟩ := py_col k (v + 1) M f hn (by omega) (by omega) ⟨j, by omega, h2, h3⟩
      refine ⟨x, ?_, g2, g3, g4⟩
      show fl_Ma_columnOf_2 M (f + (k + 1) + 1) row v = _
      rw [fl_Ma_columnOf_2, if_neg hz, if_pos (by omega), if_neg h]
      exact g1
