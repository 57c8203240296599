/-! A ROW TAKES A COLUMN; ALL TIES ARE SETTLED -/
theorem pt_Rc {n : Nat} {c : Int → Int → Int64} {NV : Int} {u v : Int → Int64} {row : Int} {ro ro2 : Int → Int} {S : Nat} (he : ∀ j : Int, 1 ≤ j → j ≤ n → ro2 j = ro j) (h : tk_R n c NV u v row ro S) : tk_R n c NV u v row ro2 S := by
  obtain ⟨⟨a1, a2, a3⟩, h2, h3, h4, h5⟩ := h
  refine ⟨⟨fun j p q => by rw [he j p q]; exact a1 j p q, fun i j p q r t x y => a2 i j p q r t (by rw [← he i p q]; exact x) (by rw [← he i p q, ← he j r t]; exact y), fun i p q => ?_⟩, fun j p q => by rw [he j p q]; exact h2 j p q, h3, fun j p q => by rw [he j p q]; exact h4 j p q, h5⟩
  obtain ⟨j, j1, j2, j3⟩ := a3 i p q
  exact ⟨j, j1, j2, by rw [he j j1 j2]; exact j3⟩
/-- what holds of the memory while ties are settled -/
def pt_M (n : Nat) (c : Int → Int → Int64) (NV : Int) (M : gq_M) : Prop := px_n n M ∧ pv_c M = c ∧ tk_H n c NV (gq_l M 4) (gq_l M 5) ∧ px_cm M
theorem pt_M.go {n : Nat} {c : Int → Int → Int64} {NV : Int} {M M2 : gq_M} (h : pt_M n c NV M) (hf : pf_F (fun a => 11 ≤ a ∧ a ≤ 14) (fun _ => False) M M2) (hcm : px_cm M2) : pt_M n c NV M2 := by
  obtain ⟨h1, h2, h3, h4⟩ := h
  refine ⟨⟨by rw [hf.2.2.1 2]; exact h1.1, h1.2⟩, (px_c hf (fun _ _ z => z)).trans h2, ?_, hcm⟩
  rw [hf.2.1 4 (fun z => z), hf.2.1 5 (fun z => z)]
  exact h3
theorem pt_takes {n : Nat} {c : Int → Int → Int64} {NV : Int} {M : gq_M} {p w : Int32} {S : Nat} (hM : pt_M n c NV M) (hp : 1 ≤ p.toInt ∧ p.toInt ≤ n) (hw : 1 ≤ w.toInt ∧ w.toInt ≤ n) (hR : tk_R n c NV (gq_l M 4) (gq_l M 5) p.toInt (pv_i M 11) S) :
    ∃ (b : Int32) (M2 : gq_M), fn_Ma_takes p w M = some (b, M2) ∧ pf_F (fun a => 11 ≤ a ∧ a ≤ 14) (fun _ => False) M M2 ∧ px_cm M2 ∧
      ((b = 1 ∧ tk_ft n (tk_m c) NV S p.toInt w.toInt ∧ tk_R n c NV (gq_l M 4) (gq_l M 5) (p.toInt + 1) (pv_i M2 11) (S ||| 1 <<< (w.toInt - 1).toNat) ∧ pv_i M2 11 w.toInt = p.toInt ∧ ∀ j : Int, 1 ≤ j → j ≤ n → pv_i M 11 j < p.toInt → pv_i M2 11 j = pv_i M 11 j) ∨
       (b = 0 ∧ ¬ tk_ft n (tk_m c) NV S p.toInt w.toInt ∧ ∀ j : Int, 1 ≤ j → j ≤ n → pv_i M2 11 j = pv_i M 11 j)) := by
  obtain ⟨hn, hc, hH, hcm⟩ := hM
  have h12 := hn.2
  have hwr : 0 ≤ w.toInt ∧ w.toInt < ((13 : Nat) : Int) := by omega
  have hpr : 0 ≤ p.toInt ∧ p.toInt < ((13 : Nat) : Int) := by omega
  have hRA := hR.1
  have hRT := hR.2.1
  by_cases e1 : gq_i M 11 w.toInt = p
  · have e1' : pv_i M 11 w.toInt = p.toInt := pa_eq.mp e1
    have hf := tk_fit hH hp hw hR hRA hRT e1' (fun _ _ _ _ => rfl)
    refine ⟨1, M, ?_, pf_r _ _ _, hcm, Or.inl ⟨rfl, hf.1, hf.2, e1', fun _ _ _ _ => rfl⟩⟩
    unfold fn_Ma_takes
    rw [if_pos hwr, if_pos e1]
  · by_cases e2 : gq_i M 11 w.toInt < p
    · refine ⟨0, M, ?_, pf_r _ _ _, hcm, Or.inr ⟨rfl, fun hft => ?_, fun _ _ _ => rfl⟩⟩
      · unfold fn_Ma_takes
        rw [if_pos hwr, if_neg e1, if_pos e2]
      · have h1 := (tk_way hH hp hw hR hft).2.1
        have h2 : pv_i M 11 w.toInt < p.toInt := pa_lt.mp e2
        omega
    · have hex : fn_Ma_extraCost p w M = some (hm_x c (gq_l M 4) (gq_l M 5) p.toInt w.toInt) := by
        rw [px_extra hpr hwr, hc]
      by_cases e3 : hm_x c (gq_l M 4) (gq_l M 5) p.toInt w.toInt = 0
      · obtain ⟨j0, j1, j2, j3⟩ := hRA.2.2 p.toInt hp.1 hp.2
        obtain ⟨x, x1, x2, x3, x4⟩ := py_col (row := p) n 1 M (4999 - n) hn (by show (1 : Int) + n = n + 1; omega) (by decide) ⟨j0, by show (1 : Int) ≤ j0; exact j1, j2, pa_eq.mpr j3⟩
        have hlx : pv_i M 11 x.toInt = p.toInt := pa_eq.mp x4
        obtain ⟨M1, a1, a2, a3⟩ := px_fs hn
        generalize hM0 : gs_i (gs_i (gs_i (gs_i M1 11 (gz_u (gq_i M1 11) 0 p)) 12 (gz_u (gq_i M1 12) w.toInt 0)) 13 (gz_u (gq_i M1 13) w.toInt 1)) 14 (gz_u (gq_i M1 14) 0 w) = M0
        have hf0 : pf_F (fun a => 11 ≤ a ∧ a ≤ 14) (fun _ => False) M M0 := by
          rw [← hM0]
          exact pf_i (by decide) (pf_i (by decide) (pf_i (by decide) (pf_i (by decide) (pf_w a2 (fun a h => by rw [h]; decide) (fun _ h => h)))))
        have r1 : gq_i M1 11 = gq_i M 11 := a2.1 11 (by decide)
        have r2 : gq_i M1 12 = gq_i M 12 := a2.1 12 (by decide)
        have r11 : gq_i M0 11 = gz_u (gq_i M 11) 0 p := by rw [← hM0, ← r1]; rfl
        have r12 : gq_i M0 12 = gz_u (gq_i M 12) w.toInt 0 := by rw [← hM0, ← r2]; rfl
        have r13 : gq_i M0 13 = gz_u (gq_i M1 13) w.toInt 1 := by rw [← hM0]; rfl
        have r14 : gq_i M0 14 = gz_u (gq_i M1 14) 0 w := by rw [← hM0]; rfl
        have hro : (fun z => (gz_u (gq_i M 11) 0 p z).toInt) = gz_u (pv_i M 11) 0 p.toInt := pz_u _ _ _
        have hn0 : px_n n M0 := ⟨by rw [hf0.2.2.1 2]; exact hn.1, hn.2⟩
        have hc0 : pv_c M0 = c := (px_c hf0 (fun _ _ z => z)).trans hc
        have hRo : ∀ z : Int, 0 ≤ z → z ≤ n → 0 ≤ (gz_u (gq_i M 11) 0 p z).toInt ∧ (gz_u (gq_i M 11) 0 p z).toInt ≤ 12 := by
          intro z h1 h2
          by_cases hz : z = 0
          · rw [hz, gz_us]; omega
          · rw [gz_un _ _ hz]
            have h9 : 0 ≤ (gq_i M 11 z).toInt ∧ (gq_i M 11 z).toInt ≤ n := hRA.1 z (by omega) h2
            omega
        have hsn : ∀ j : Int, 0 ≤ j → j ≤ n → pv_i M0 13 j = if j = w.toInt then 1 else 0 := by
          intro j h1 h2
          show (gq_i M0 13 j).toInt = _
          rw [r13]
          by_cases hj : j = w.toInt
          · rw [hj, gz_us, if_pos rfl]; rfl
          · rw [gz_un _ _ hj, if_neg hj, a3 j h1 h2]; rfl
        have hge : p.toInt ≤ pv_i M 11 w.toInt := by
          have h9 : ¬ (gq_i M 11 w.toInt).toInt < p.toInt := fun z => e2 (pa_lt.mpr z)
          show p.toInt ≤ (gq_i M 11 w.toInt).toInt
          omega
        have hI0 : bq_I n c (gq_l M 4) (gq_l M 5) (gz_u (pv_i M 11) 0 p.toInt) p.toInt w.toInt (py_St M0 1) := by
          have hcw : pv_i M0 12 w.toInt = 0 := by
            show (gq_i M0 12 w.toInt).toInt = 0
            rw [r12, gz_us]; rfl
          have hq0 : pv_i M0 14 0 = w.toInt := by
            show (gq_i M0 14 0).toInt = _
            rw [r14, gz_us]
          refine ⟨fun j h1 h2 => ?_, fun i h1 h2 => ?_, fun j h1 h2 h3 => ?_, ?_, by show (1 : Int) ≤ 1; omega, ?_, fun j => if j = w.toInt then 1 else 0, ?_, fun j h1 h2 h3 => ?_⟩
          · show pv_i M0 13 j = 0 ∨ pv_i M0 13 j = 1
            rw [hsn j h1 h2]
            by_cases hj : j = w.toInt
            · rw [if_pos hj]; exact Or.inr rfl
            · rw [if_neg hj]; exact Or.inl rfl
          · have hi : i = 0 := by
              have : i < (1 : Int) := h2
              omega
            show 1 ≤ pv_i M0 14 i ∧ pv_i M0 14 i ≤ n ∧ pv_i M0 13 (pv_i M0 14 i) = 1
            rw [hi, hq0, hsn w.toInt (by omega) hw.2, if_pos rfl]
            exact ⟨hw.1, hw.2, rfl⟩
          · have hj : j = w.toInt := by
              apply Classical.byContradiction
              intro hj
              have h9 : pv_i M0 13 j = 1 := h3
              rw [hsn j (by omega) h2, if_neg hj] at h9
              omega
            refine ⟨?_, 0, by omega, by show (0 : Int) < 1; omega, by show pv_i M0 14 0 = j; rw [hq0, hj]⟩
            rw [hj, gz_un _ _ (by omega)]
            exact hge
          · show pm_S (pv_i M0 13) n = 1
            rw [pm_S_congr (g := fun i => if i = w.toInt then 1 else 0) (fun i h1 h2 => hsn i (by omega) h2)]
            exact pm_S_one hw.1 hw.2
          · show pv_i M0 13 w.toInt = 1
            rw [hsn w.toInt (by omega) hw.2, if_pos rfl]
          · exact if_neg (by omega)
          · have hj : j = w.toInt := by
              apply Classical.byContradiction
              intro hj
              have h9 : pv_i M0 13 j = 1 := h3
              rw [hsn j (by omega) h2, if_neg hj] at h9
              omega
            have hcj : (py_St M0 1).2.1 j = 0 := by rw [hj]; exact hcw
            rw [hcj]
            dsimp only
            rw [if_pos hj, if_neg (by omega)]
            refine ⟨by omega, by show ((1 : Nat) : Int) ≤ 1; omega, by omega, by omega, Or.inl ⟨rfl, hj⟩, by omega, ?_⟩
            rw [gz_us, hj]
            exact e3
        have hI : bq_I n c (gq_l M0 4) (gq_l M0 5) (fun z => (gz_u (gq_i M 11) 0 p z).toInt) p.toInt w.toInt (py_St M0 1) := by
          rw [hro, hf0.2.1 4 (fun z => z), hf0.2.1 5 (fun z => z)]
          exact hI0
        have hcm0 : px_cm M0 := by
          intro z h1 h2
          show 0 ≤ (gq_i M0 12 z).toInt ∧ (gq_i M0 12 z).toInt ≤ 12
          rw [r12]
          by_cases hz : z = w.toInt
          · rw [hz, gz_us]; decide
          · rw [gz_un _ _ hz]; exact hcm z h1 h2
        have hcr : (fun i j => gq_l M0 (7 + i.toNat) j) = c := hc0
        obtain ⟨q2, M2, g1, g2, g3, g4⟩ := py_re (Cr := fun i => gq_l M0 (7 + i)) (U := gq_l M0 4) (V := gq_l M0 5) (Ro := gz_u (gq_i M 11) 0 p) (row := p) (left := x) (wanted := w.toInt) ⟨x2, x3⟩ hRo n 1 0 M0 (4999 - n) hn0 (by show (0 : Int) + n = n; omega) (by decide) (fun _ => rfl) rfl rfl r11 (by decide) (by
          rw [hcr]
          exact hI) hcm0
        have hkp := bq_L_keeps (n := n) (c := c) (u := gq_l M 4) (v := gq_l M 5) (ro := gz_u (pv_i M 11) 0 p.toInt) (row := p.toInt) (wanted := w.toInt) (left := x.toInt) ⟨x2, x3⟩ n 0 (py_St M0 1) (by omega) (by omega) hI0 (fun i h1 h2 => absurd h2 (by omega))
        have g3' : py_St M2 q2.toInt = bq_L n c (gq_l M 4) (gq_l M 5) (gz_u (pv_i M 11) 0 p.toInt) p.toInt x.toInt n 0 (py_St M0 1) := by
          rw [g3, hcr, hro, hf0.2.1 4 (fun z => z), hf0.2.1 5 (fun z => z)]
          rfl
        rw [← g3'] at hkp
        have hfr2 : pf_F (fun a => 11 ≤ a ∧ a ≤ 14) (fun _ => False) M M2 := pf_t hf0 (pf_w g2 (fun a h => ⟨by omega, h.2⟩) (fun _ h => h))
        have r11b : gq_i M2 11 = gz_u (gq_i M 11) 0 p := (g2.1 11 (by decide)).trans r11
        have r11c : pv_i M2 11 = gz_u (pv_i M 11) 0 p.toInt := by
          unfold pv_i
          rw [r11b]
          exact hro
        have hrun : fn_Ma_reaches p w x M = some (gq_i M2 13 x.toInt, M2) := by
          unfold fn_Ma_reaches
          rw [a1, Option.bind_some, if_pos hwr, hM0, show 5000 = 4999 - n + (n + 1) by omega]
          exact g1
        have hcol : fn_Ma_columnOf p M = some x := by
          unfold fn_Ma_columnOf
          rw [show 5000 = 4999 - n + (n + 1) by omega]
          exact x1
        have hhead : fn_Ma_takes p w M = (if gq_i M2 13 x.toInt = 0 then some (0, M2) else (fn_Ma_moveAlong x M2).bind fun q12 => some (1, q12)) := by
          unfold fn_Ma_takes
          rw [if_pos hwr, if_neg e1, if_neg e2, hex, Option.bind_some, if_pos (show _ = Int64.ofNat (0 : Fin 2).val from e3), hcol, Option.bind_some, hrun, Option.bind_some]
        by_cases hs : gq_i M2 13 x.toInt = 0
        · refine ⟨0, M2, by rw [hhead, if_pos hs], hfr2, g4, Or.inr ⟨rfl, fun hft => ?_, fun j h1 h2 => ?_⟩⟩
          · obtain ⟨-, -, t, ht1, ht2, ht3⟩ := tk_way hH hp hw hR hft
            have hs0 : (py_St M2 q2.toInt).1 x.toInt = 0 := pa_0.mp hs
            rcases hkp.2 with h | h
            · rw [hs0] at h; omega
            · exact tk_no hRA hp ⟨x2, x3, hlx⟩ hw hkp.1 hs0 h ht3 (by omega) ht1 ht2
          · rw [r11c, gz_un _ _ (by omega)]
        · have hs1 : (py_St M2 q2.toInt).1 x.toInt = 1 := by
            rcases hkp.1.1 x.toInt (by omega) x3 with h | h
            · exact absurd (pa_0.mpr h) hs
            · exact h
          obtain ⟨M3, k1, k2, k3⟩ := px_move (j := x) ⟨by rw [hfr2.2.2.1 2]; exact hn.1, hn.2⟩ ⟨by omega, by omega⟩ g4
          have hy := tk_yes (ro2 := pv_i M3 11) hRA hRT hp ⟨x2, x3, hlx⟩ hkp.1 hs1 (by rw [k3, r11c])
          have hf := tk_fit hH hp hw hR hy.1 hy.2.1 hy.2.2.1 hy.2.2.2
          refine ⟨1, M3, by rw [hhead, if_neg hs, k1, Option.bind_some], pf_t hfr2 (pf_w k2 (fun a h => by rw [h]; decide) (fun _ h => h)), ?_, Or.inl ⟨rfl, hf.1, hf.2, hy.2.2.1, hy.2.2.2⟩⟩
          intro z h1 h2
          show 0 ≤ (gq_i M3 12 z).toInt ∧ (gq_i M3 12 z).toInt ≤ 12
          rw [k2.1 12 (by decide)]
          exact g4 z h1 h2
      · refine ⟨0, M, ?_, pf_r _ _ _, hcm, Or.inr ⟨rfl, fun hft => e3 (tk_way hH hp hw hR hft).1, fun _ _ _ => rfl⟩⟩
        unfold fn_Ma_takes
        rw [if_pos hwr, if_neg e1, if_neg e2, hex, Option.bind_some, if_neg (show ¬ _ = Int64.ofNat (0 : Fin 2).val from e3)]
/-! the document's choice: a row keeps its own column if it can, else it takes the first that it can -/
def pj_is (n : Nat) (m : Int → Int → Int) (NV : Int) (S : Nat) (row w : Int) : Prop := 1 ≤ w ∧ w ≤ n ∧ tk_ft n m NV S row w ∧ (w = row ∨ (¬ tk_ft n m NV S row row ∧ ∀ y : Int, 1 ≤ y → y < w → ¬ tk_ft n m NV S row y))
theorem pj_un {n : Nat} {m : Int → Int → Int} {NV : Int} {S : Nat} {row a b : Int} (ha : pj_is n m NV S row a) (hb : pj_is n m NV S row b) : a = b := by
  obtain ⟨a1, a2, a3, a4⟩ := ha
  obtain ⟨b1, b2, b3, b4⟩ := hb
  rcases a4 with h | ⟨h, h2⟩
  · rcases b4 with g | ⟨g, g2⟩
    · omega
    · exact absurd (h ▸ a3) g
  · rcases b4 with g | ⟨g, g2⟩
    · exact absurd (g ▸ b3) h
    · rcases Int.lt_trichotomy a b with z | z | z
      · exact absurd a3 (g2 a a1 z)
      · exact z
      · exact absurd b3 (h2 b b1 z)
def pj_S (g : Int → Int) : Nat → Nat
  | 0 => 0
  | r + 1 => pj_S g r ||| 1 <<< (g ((r : Int) + 1) - 1).toNat
def pj_path (n : Nat) (m : Int → Int → Int) (NV : Int) (g : Int → Int) (k : Nat) : Prop := ∀ r : Nat, r < k → pj_is n m NV (pj_S g r) ((r : Int) + 1) (g ((r : Int) + 1))
theorem pj_eq {n : Nat} {m : Int → Int → Int} {NV : Int} {g g2 : Int → Int} : ∀ {k : Nat}, pj_path n m NV g k → pj_path n m NV g2 k → pj_S g k = pj_S g2 k ∧ ∀ r : Nat, r < k → g ((r : Int) + 1) = g2 ((r : Int) + 1)
  | 0, _, _ => ⟨rfl, fun r h => absurd h (Nat.not_lt_zero r)⟩
  | k + 1, h1, h2 => by
    obtain ⟨e1, e2⟩ := pj_eq (k := k) (fun r hr => h1 r (by omega)) (fun r hr => h2 r (by omega))
    have h3 := h2 k (by omega)
    rw [← e1] at h3
    have e3 := pj_un (h1 k (by omega)) h3
    refine ⟨by show _ ||| _ = _ ||| _; rw [e1, e3], fun r hr => ?_⟩
    by_cases h : r = k
    · rw [h]; exact e3
    · exact e2 r (by omega)
theorem pj_Sc {g g2 : Int → Int} : ∀ {k : Nat}, (∀ r : Nat, r < k → g ((r : Int) + 1) = g2 ((r : Int) + 1)) → pj_S g k = pj_S g2 k
  | 0, _ => rfl
  | k + 1, h => by
    show _ ||| _ = _ ||| _
    rw [pj_Sc (k := k) (fun r hr => h r (by omega)), h k (by omega)]
/-- one row is settled: from the column v on -/
theorem pt_in {n : Nat} {c : Int → Int → Int64} {NV : Int} {K2 : Int32 → gq_M → Option gq_M} {p : Int32} {S : Nat} (hp : 1 ≤ p.toInt ∧ p.toInt ≤ n) : ∀ (k : Nat) (v : Int32) (M : gq_M) (f : Nat), v.toInt + k = n + 1 → 1 ≤ v.toInt → pt_M n c NV M → tk_R n c NV (gq_l M 4) (gq_l M 5) p.toInt (pv_i M 11) S → ¬ tk_ft n (tk_m c) NV S p.toInt p.toInt → (∀ y : Int, 1 ≤ y → y < v.toInt → ¬ tk_ft n (tk_m c) NV S p.toInt y) →
    ∃ (w : Int) (M2 : gq_M), fl_Ma_settleTies_19 K2 (f + (k + 1)) p 0 v M = K2 (p + 1) M2 ∧ pf_F (fun a => 11 ≤ a ∧ a ≤ 14) (fun _ => False) M M2 ∧ px_cm M2 ∧ pj_is n (tk_m c) NV S p.toInt w ∧ tk_R n c NV (gq_l M 4) (gq_l M 5) (p.toInt + 1) (pv_i M2 11) (S ||| 1 <<< (w - 1).toNat) ∧ pv_i M2 11 w = p.toInt ∧ ∀ j : Int, 1 ≤ j → j ≤ n → pv_i M 11 j < p.toInt → pv_i M2 11 j = pv_i M 11 j
  | 0, v, M, f, hk, h0, hM, hR, hno, hall => by
    obtain ⟨j0, j1, j2, j3⟩ := hR.1.2.2 p.toInt hp.1 hp.2
    have hf := tk_fit hM.2.2.1 hp ⟨j1, j2⟩ hR hR.1 hR.2.1 j3 (fun _ _ _ _ => rfl)
    exact absurd hf.1 (hall j0 j1 (by omega))
  | k + 1, v, M, f, hk, h0, hM, hR, hno, hall => by
    have h12 := hM.1.2
    have hz : ¬ gq_f M 2 < v := by rw [pa_lt, hM.1.1]; omega
    have e1 : (v + 1).toInt = v.toInt + 1 := pa_1 (by omega)
    obtain ⟨b, M1, a1, a2, a3, a4⟩ := pt_takes (w := v) hM hp ⟨h0, by omega⟩ hR
    have hM1 := hM.go a2 a3
    rcases a4 with ⟨rfl, b1, b2, b3, b4⟩ | ⟨rfl, b1, b2⟩
    · refine ⟨v.toInt, M1, ?_, a2, a3, ⟨h0, by omega, b1, Or.inr ⟨hno, hall⟩⟩, b2, b3, b4⟩
      show fl_Ma_settleTies_19 K2 (f + (k + 1) + 1) p 0 v M = _
      rw [fl_Ma_settleTies_19, if_neg hz, if_pos rfl, a1, Option.bind_some]
      show fl_Ma_settleTies_19 K2 (f + k + 1) p 1 (v + 1) M1 = _
      rw [fl_Ma_settleTies_19]
      by_cases hq : gq_f M1 2 < v + 1
      · rw [if_pos hq]
      · rw [if_neg hq, if_neg (by decide)]
    · have r4 : gq_l M1 4 = gq_l M 4 := a2.2.1 4 (fun z => z)
      have r5 : gq_l M1 5 = gq_l M 5 := a2.2.1 5 (fun z => z)
      have hR1 := pt_Rc b2 hR
      rw [← r4, ← r5] at hR1
      obtain ⟨w, M2, g1, g2, g3, g4, g5, g6, g7⟩ := pt_in hp k (v + 1) M1 f (by omega) (by omega) hM1 hR1 hno (fun y y1 y2 => by
        by_cases hy : y = v.toInt
        · rw [hy]; exact b1
        · exact hall y y1 (by omega))
      rw [r4, r5] at g5
      refine ⟨w, M2, ?_, pf_t a2 g2, g3, g4, g5, g6, fun j j1 j2 j3 => ?_⟩
      · show fl_Ma_settleTies_19 K2 (f + (k + 1) + 1) p 0 v M = _
        rw [fl_Ma_settleTies_19, if_neg hz, if_pos rfl, a1, Option.bind_some]
        exact g1
      · have h9 := b2 j j1 j2
        rw [g7 j j1 j2 (by rw [h9]; exact j3), h9]
theorem pt_all {n : Nat} {c : Int → Int → Int64} {NV : Int} : ∀ (k : Nat) (p : Int32) (M : gq_M) (f : Nat) (g : Int → Int), p.toInt + k = n + 1 → 1 ≤ p.toInt → pt_M n c NV M → tk_R n c NV (gq_l M 4) (gq_l M 5) p.toInt (pv_i M 11) (pj_S g (p.toInt - 1).toNat) → pj_path n (tk_m c) NV g (p.toInt - 1).toNat → (∀ r : Int, 1 ≤ r → r < p.toInt → pv_i M 11 (g r) = r) →
    ∃ (M2 : gq_M) (g2 : Int → Int), fl_Ma_settleTies_2 (f + (k + 1)) p M = some M2 ∧ pf_F (fun a => 11 ≤ a ∧ a ≤ 14) (fun _ => False) M M2 ∧ px_cm M2 ∧ pj_path n (tk_m c) NV g2 n ∧ (∀ r : Int, 1 ≤ r → r ≤ n → pv_i M2 11 (g2 r) = r) ∧ hi_A n n (pv_i M2 11)
  | 0, p, M, f, g, hk, h0, hM, hR, hg, hro => by
    have h12 := hM.1.2
    refine ⟨M, g, ?_, pf_r _ _ _, hM.2.2.2, ?_, fun r r1 r2 => hro r r1 (by omega), hR.1⟩
    · show fl_Ma_settleTies_2 (f + 1) p M = some M
      rw [fl_Ma_settleTies_2, if_pos (by rw [pa_lt, hM.1.1]; omega)]
    · rw [show (p.toInt - 1).toNat = n by omega] at hg
      exact hg
  | k + 1, p, M, f, g, hk, h0, hM, hR, hg, hro => by
    have h12 := hM.1.2
    have hz : ¬ gq_f M 2 < p := by rw [pa_lt, hM.1.1]; omega
    have e1 : (p + 1).toInt = p.toInt + 1 := pa_1 (by omega)
    have hp : 1 ≤ p.toInt ∧ p.toInt ≤ n := ⟨h0, by omega⟩
    have one : ∃ (w : Int) (M1 : gq_M), ((fn_Ma_takes p p M).bind fun q2 => fl_Ma_settleTies_19 (fl_Ma_settleTies_2 (f + (k + 1))) 5000 p q2.1 1 q2.2) = fl_Ma_settleTies_2 (f + (k + 1)) (p + 1) M1 ∧ pf_F (fun a => 11 ≤ a ∧ a ≤ 14) (fun _ => False) M M1 ∧ px_cm M1 ∧ pj_is n (tk_m c) NV (pj_S g (p.toInt - 1).toNat) p.toInt w ∧ tk_R n c NV (gq_l M 4) (gq_l M 5) (p.toInt + 1) (pv_i M1 11) (pj_S g (p.toInt - 1).toNat ||| 1 <<< (w - 1).toNat) ∧ pv_i M1 11 w = p.toInt ∧ ∀ j : Int, 1 ≤ j → j ≤ n → pv_i M 11 j < p.toInt → pv_i M1 11 j = pv_i M 11 j := by
      obtain ⟨b, M1, a1, a2, a3, a4⟩ := pt_takes (w := p) hM hp hp hR
      have hM1 := hM.go a2 a3
      rcases a4 with ⟨rfl, b1, b2, b3, b4⟩ | ⟨rfl, b1, b2⟩
      · refine ⟨p.toInt, M1, ?_, a2, a3, ⟨hp.1, hp.2, b1, Or.inl rfl⟩, b2, b3, b4⟩
        rw [a1, Option.bind_some]
        show fl_Ma_settleTies_19 (fl_Ma_settleTies_2 (f + (k + 1))) (4999 + 1) p 1 1 M1 = _
        rw [fl_Ma_settleTies_19]
        by_cases hq : gq_f M1 2 < 1
        · rw [if_pos hq]
        · rw [if_neg hq, if_neg (by decide)]
      · have r4 : gq_l M1 4 = gq_l M 4 := a2.2.1 4 (fun z => z)
        have r5 : gq_l M1 5 = gq_l M 5 := a2.2.1 5 (fun z => z)
        have hR1 := pt_Rc b2 hR
        rw [← r4, ← r5] at hR1
        obtain ⟨w, M2, g1, g2, g3, g4, g5, g6, g7⟩ := pt_in (K2 := fl_Ma_settleTies_2 (f + (k + 1))) hp n 1 M1 (4999 - n) (by show (1 : Int) + n = n + 1; omega) (by decide) hM1 hR1 b1 (fun y y1 y2 => absurd y2 (by show ¬ y < (1 : Int); omega))
        rw [r4, r5] at g5
        refine ⟨w, M2, ?_, pf_t a2 g2, g3, g4, g5, g6, fun j j1 j2 j3 => ?_⟩
        · rw [a1, Option.bind_some, show 5000 = 4999 - n + (n + 1) by omega]
          exact g1
        · have h9 := b2 j j1 j2
          rw [g7 j j1 j2 (by rw [h9]; exact j3), h9]
    obtain ⟨w, M1, o1, o2, o3, o4, o5, o6, o7⟩ := one
    have r4 : gq_l M1 4 = gq_l M 4 := o2.2.1 4 (fun z => z)
    have r5 : gq_l M1 5 = gq_l M 5 := o2.2.1 5 (fun z => z)
    have hS : pj_S (gz_u g p.toInt w) (p.toInt - 1).toNat = pj_S g (p.toInt - 1).toNat := pj_Sc (fun r hr => gz_un _ _ (by omega))
    have en : ((p + 1).toInt - 1).toNat = (p.toInt - 1).toNat + 1 := by omega
    have ez : (((p.toInt - 1).toNat : Nat) : Int) + 1 = p.toInt := by omega
    obtain ⟨M2, g2, k1, k2, k3, k4, k5, k6⟩ := pt_all (n := n) (c := c) (NV := NV) k (p + 1) M1 f (gz_u g p.toInt w) (by omega) (by omega) (hM.go o2 o3) (by
        rw [r4, r5, e1, ← e1, en]
        show tk_R n c NV (gq_l M 4) (gq_l M 5) (p + 1).toInt (pv_i M1 11) (pj_S (gz_u g p.toInt w) (p.toInt - 1).toNat ||| 1 <<< (gz_u g p.toInt w (((p.toInt - 1).toNat : Nat) + 1) - 1).toNat)
        rw [hS, ez, gz_us, e1]
        exact o5)
      (by
        rw [en]
        intro r hr
        by_cases h : r = (p.toInt - 1).toNat
        · rw [h, hS, ez, gz_us]
          exact o4
        · have hr2 : r < (p.toInt - 1).toNat := by omega
          have h1 := hg r hr2
          rw [pj_Sc (g := gz_u g p.toInt w) (g2 := g) (fun r' hr' => gz_un _ _ (by omega)), gz_un _ _ (by omega)]
          exact h1)
      (fun r r1 r2 => by
        by_cases h : r = p.toInt
        · rw [h, gz_us]; exact o6
        · rw [gz_un _ _ h]
          have h1 := hg (r - 1).toNat (by omega)
          have e9 : (((r - 1).toNat : Nat) : Int) + 1 = r := by omega
          rw [e9] at h1
          have h2 := hro r r1 (by omega)
          rw [o7 (g r) h1.1 h1.2.1 (by omega)]
          exact h2)
    refine ⟨M2, g2, ?_, pf_t o2 k2, k3, k4, k5, k6⟩
    show fl_Ma_settleTies_2 (f + (k + 1) + 1) p M = some M2
    rw [fl_Ma_settleTies_2, if_neg hz, o1]
    exact k1
theorem pt_settle {n : Nat} {c : Int → Int → Int64} {NV : Int} {M : gq_M} (hM : pt_M n c NV M) (hR : tk_R n c NV (gq_l M 4) (gq_l M 5) 1 (pv_i M 11) 0) :
    ∃ (M2 : gq_M) (g : Int → Int), fn_Ma_settleTies M = some M2 ∧ pf_F (fun a => 11 ≤ a ∧ a ≤ 14) (fun _ => False) M M2 ∧ px_cm M2 ∧ pj_path n (tk_m c) NV g n ∧ (∀ r : Int, 1 ≤ r → r ≤ n → pv_i M2 11 (g r) = r) ∧ hi_A n n (pv_i M2 11) := by
  have h12 := hM.1.2
  obtain ⟨M2, g2, k1, k2, k3, k4, k5, k6⟩ := pt_all (n := n) (c := c) (NV := NV) n 1 M (4999 - n) (fun z => z) (by show (1 : Int) + n = n + 1; omega) (by decide) hM hR (fun r hr => absurd hr (by show ¬ r < 0; omega)) (fun r r1 r2 => absurd r2 (by show ¬ r < (1 : Int); omega))
  refine ⟨M2, g2, ?_, k2, k3, k4, k5, k6⟩
  unfold fn_Ma_settleTies
  rw [show 5000 = 4999 - n + (n + 1) by omega]
  exact k1
