/-! PURE: a row takes a column, or cannot: by the search, and by the sums -/
def tk_T (n : Nat) (c : Int → Int → Int64) (u v : Int → Int64) (ro : Int → Int) : Prop := ∀ j : Int, 1 ≤ j → j ≤ n → hm_x c u v (ro j) j = 0
theorem hx_0 {n : Nat} {c : Int → Int → Int64} {u v : Int → Int64} {ro : Int → Int} (hc : hi_c n c) (hP : hi_P n c n u v ro) {r j : Int} (a : 1 ≤ r) (b : r ≤ n) (a2 : 1 ≤ j) (b2 : j ≤ n) : hm_x c u v r j = 0 ↔ (c r j).toInt = (u r).toInt + (v j).toInt := by
  have h1 := hc r j a b a2 b2
  have h2 := hP.2.2.2.2.1 r a b
  have h3 := hP.2.2.1 j a2 b2
  have e1 : (c r j - u r).toInt = (c r j).toInt - (u r).toInt := h64_sub (by omega) (by omega)
  have e2 : (hm_x c u v r j).toInt = (c r j).toInt - (u r).toInt - (v j).toInt := by
    unfold hm_x
    rw [h64_sub (by rw [e1]; omega) (by omega), e1]
  rw [← Int64.toInt_inj, e2]
  show _ = (0 : Int) ↔ _
  omega
theorem tk_of {n : Nat} {c : Int → Int → Int64} {u v : Int → Int64} {ro : Int → Int} (hc : hi_c n c) (hA : hi_A n n ro) (hP : hi_P n c n u v ro) : tk_T n c u v ro := by
  intro j a b
  obtain ⟨t, h1, h2⟩ := hi_tau hA
  have h3 := h2 j a b
  exact (hx_0 hc hP h3.1 h3.2.1 a b).mpr (hP.2.1 j a b (by omega)).symm
/-- the search has come to the column that is left: the rows move along -/
theorem tk_yes {n : Nat} {c : Int → Int → Int64} {u v : Int → Int64} {ro : Int → Int} {row wanted left : Int} {s : bq_S} (hA : hi_A n n ro) (hT : tk_T n c u v ro) (hrow : 1 ≤ row ∧ row ≤ n) (hl : 1 ≤ left ∧ left ≤ n ∧ ro left = row)
    (hI : bq_I n c u v (gz_u ro 0 row) row wanted s) (hs : s.1 left = 1) {ro2 : Int → Int} (hro : ro2 = hm_mv s.2.1 n left (gz_u ro 0 row)) :
    hi_A n n ro2 ∧ tk_T n c u v ro2 ∧ ro2 wanted = row ∧ ∀ j : Int, 1 ≤ j → j ≤ n → ro j < row → ro2 j = ro j := by
  have hr1 : ∀ j : Int, 1 ≤ j → gz_u ro 0 row j = ro j := fun j a => gz_un _ _ (by omega)
  have hr0 : gz_u ro 0 row 0 = row := gz_us ..
  generalize gz_u ro 0 row = r1 at hr1 hr0 hI hro
  obtain ⟨t, t1, t2⟩ := hi_tau hA
  obtain ⟨A1, A2, A3⟩ := hA
  obtain ⟨sn, cm, qu, qn⟩ := s
  obtain ⟨h1, h2, h3, h4, h5, h6, rk, h7, h8⟩ := hI
  dsimp only at h1 h2 h3 h4 h5 h6 h8 hs hro
  have hqn : qn ≤ n := by
    have h9 : pm_S sn n ≤ n * 1 := pm_S_bound (fun i x y => by
      rcases h1 i (by omega) y with z | z <;> omega)
    omega
  obtain ⟨M1, M2, M3, M4, M5⟩ := hv_move (n := n) (K := n) (E := fun r x => hm_x c u v r x = 0) (r0 := row) (p0 := r1) (cm := cm) (Q := fun x => x = 0 ∨ (1 ≤ x ∧ x ≤ n ∧ sn x = 1)) (rk := rk) hrow hr0
    (fun x hx a b => by
      have hx1 : sn x = 1 := by
        rcases hx with hx | hx
        · omega
        · exact hx.2.2
      obtain ⟨g1, g2, g3, g4, g5, g6, g7⟩ := h8 x a b hx1
      refine ⟨?_, g3, g4, g6, g7⟩
      rcases g5 with g5 | g5
      · exact Or.inl g5.1
      · exact Or.inr ⟨g5.1, g4, g5.2⟩)
    (fun x hx a b y hy hy1 => by
      have hx1 : sn x = 1 := by
        rcases hx with hx | hx
        · omega
        · exact hx.2.2
      obtain ⟨g1, g2, g3, g4, g5, g6, g7⟩ := h8 x a b hx1
      rw [hr1 y hy1]
      have := t2 y hy1 (by omega)
      omega)
    n left r1 hl.1 hl.2.1 (Or.inr ⟨hl.1, hl.2.1, hs⟩) (by have := (h8 left hl.1 hl.2.1 hs).2.1; omega) hr0 (fun x _ _ _ _ => rfl)
    ⟨fun i a b e => by
      rw [hr1 i a]
      have h9 := t2 i a b
      exact ⟨by omega, h9.2.1, fun z => e (A2 i left a b hl.1 hl.2.1 (by omega) (z.trans hl.2.2.symm))⟩, fun i i2 a b e a2 b2 e2 h he => by
      rw [hr1 i a] at h he
      rw [hr1 i2 a2] at he
      exact A2 i i2 a b a2 b2 h he, fun r a b e => by
      obtain ⟨j, j1, j2, j3⟩ := A3 r a b
      exact ⟨j, j1, j2, fun z => e (by rw [z, hl.2.2] at j3; exact j3.symm), by rw [hr1 j j1]; exact j3⟩, fun i a b e h => by
      rw [hr1 i a]
      exact hT i a b⟩
  rw [← hro] at M1 M2 M3 M4 M5
  obtain ⟨t', t1', t2'⟩ := hi_tau M1
  refine ⟨M1, fun j a b => M2 j a b (by have := t2' j a b; omega), ?_, fun j a b h => ?_⟩
  · obtain ⟨i, i1, i2, i3, i4, i5⟩ := M4
    have hi1 : sn i = 1 := by
      rcases i3 with i3 | i3
      · omega
      · exact i3.2.2
    obtain ⟨-, -, -, -, g5, -, -⟩ := h8 i i1 i2 hi1
    rcases g5 with g5 | g5
    · rw [← g5.2]
      exact i5
    · omega
  · rw [M3 j (Or.inl ?_), hr1 j a]
    intro z
    rcases z with z | z
    · omega
    · have := (h3 j a b z.2.2).1
      rw [hr1 j a] at this
      omega
/-- the search is closed and has not come there: no way along just reached places has this column for this row -/
theorem tk_no {n : Nat} {c : Int → Int → Int64} {u v : Int → Int64} {ro : Int → Int} {row wanted left : Int} {s : bq_S} (hA : hi_A n n ro) (hrow : 1 ≤ row ∧ row ≤ n) (hl : 1 ≤ left ∧ left ≤ n ∧ ro left = row) (hw : 1 ≤ wanted ∧ wanted ≤ n)
    (hI : bq_I n c u v (gz_u ro 0 row) row wanted s) (hs : s.1 left = 0) (hcl : ∀ i : Int, 0 ≤ i → i < s.2.2.2 → ∀ j : Int, 1 ≤ j → j ≤ n → row ≤ gz_u ro 0 row j → hm_x c u v (gz_u ro 0 row (s.2.2.1 i)) j = 0 → s.1 j = 1)
    {S k : Nat} (hS : ∀ j : Int, 1 ≤ j → j ≤ n → pl_b S j = false → row ≤ ro j ∧ j ≠ wanted) (hk : (n : Int) - k = row) {t : Int → Int} (ht : pl_way n k S t) (htt : ∀ i : Int, row < i → i ≤ n → hm_x c u v i (t i) = 0) : False := by
  have hr1 : ∀ j : Int, 1 ≤ j → gz_u ro 0 row j = ro j := fun j a => gz_un _ _ (by omega)
  generalize gz_u ro 0 row = r1 at hr1 hI hcl
  obtain ⟨q, q1, q2⟩ := hi_tau hA
  obtain ⟨A1, A2, A3⟩ := hA
  obtain ⟨sn, cm, qu, qn⟩ := s
  obtain ⟨h1, h2, h3, h4, h5, h6, -⟩ := hI
  dsimp only at h1 h2 h3 h4 h5 h6 hs hcl
  have hbig : ∀ j : Int, 1 ≤ j → j ≤ n → sn j = 1 → row < ro j ∧ ro j ≤ n := fun j a b d => by
    have g := (h3 j a b d).1
    rw [hr1 j a] at g
    have g2 := q2 j a b
    have g3 : ro j ≠ row := fun z => by
      have := A2 j left a b hl.1 hl.2.1 (by omega) (z.trans hl.2.2.symm)
      rw [this, hs] at d
      omega
    omega
  obtain ⟨x, ⟨x1, x2, x3⟩, x4⟩ := pm_phpP (n := n) (P := fun j => 1 ≤ j ∧ j ≤ n ∧ sn j = 1) (fun j => Classical.em _) (f := fun j => t (ro j)) (fun j h => ⟨h.1, h.2.1⟩)
    (fun j h => by
      have g := hbig j h.1 h.2.1 h.2.2
      obtain ⟨g1, g2, g3⟩ := ht.1 (ro j) (by omega) g.2
      have g4 := hS _ g1 g2 g3
      obtain ⟨-, i, i1, i2, i3⟩ := h3 j h.1 h.2.1 h.2.2
      refine ⟨g1, g2, hcl i i1 i2 _ g1 g2 (by rw [hr1 _ g1]; exact g4.1) ?_⟩
      rw [i3, hr1 j h.1]
      exact htt (ro j) g.1 g.2)
    (fun i j hi hj h => by
      have g := hbig i hi.1 hi.2.1 hi.2.2
      have g' := hbig j hj.1 hj.2.1 hj.2.2
      have g2 := ht.2 (ro i) (ro j) (by omega) g.2 (by omega) g'.2 h
      exact A2 i j hi.1 hi.2.1 hj.1 hj.2.1 (by omega) g2)
    (y := wanted) ⟨hw.1, hw.2, h6⟩
  have g := hbig x x1 x2 x3
  obtain ⟨g1, g2, g3⟩ := ht.1 (ro x) (by omega) g.2
  exact (hS _ g1 g2 g3).2 x4
/-! the rows above 'row' are settled: the columns of S; and the sums know it -/
abbrev tk_m (c : Int → Int → Int64) : Int → Int → Int := fun i j => (c i j).toInt
def tk_ft (n : Nat) (m : Int → Int → Int) (NV : Int) (S : Nat) (row w : Int) : Prop := pl_b S w = false ∧ m row w + pl_F n m NV (n - row.toNat) (S ||| 1 <<< (w - 1).toNat) = pl_F n m NV (n + 1 - row.toNat) S
def tk_R (n : Nat) (c : Int → Int → Int64) (NV : Int) (u v : Int → Int64) (row : Int) (ro : Int → Int) (S : Nat) : Prop :=
  hi_A n n ro ∧ tk_T n c u v ro ∧ pl_n n S = row - 1 ∧ (∀ j : Int, 1 ≤ j → j ≤ n → (pl_b S j = true ↔ ro j < row)) ∧ pl_F n (tk_m c) NV (n + 1 - row.toNat) S = pl_d (hi_u u) (hi_u v) n (n + 1 - row.toNat) S
/-- all that stands fast: costs, prices, and that NV is above every sum -/
def tk_H (n : Nat) (c : Int → Int → Int64) (NV : Int) (u v : Int → Int64) : Prop := hi_c n c ∧ (∃ ro, hi_P n c n u v ro) ∧ ∀ k S : Nat, k ≤ n → pl_d (hi_u u) (hi_u v) n k S < NV
theorem tk_ok {n : Nat} {c : Int → Int → Int64} {NV : Int} {u v : Int → Int64} (h : tk_H n c NV u v) : pl_ok (hi_u u) (hi_u v) (tk_m c) n := by
  obtain ⟨-, ⟨ro, hP⟩, -⟩ := h
  exact hP.1
/-- a perfect matching of tight places in which 'row' has w: the sums can take it too, and it goes on so -/
theorem tk_fit {n : Nat} {c : Int → Int → Int64} {NV : Int} {u v : Int → Int64} {row w : Int} {ro ro2 : Int → Int} {S : Nat} (hH : tk_H n c NV u v) (hrow : 1 ≤ row ∧ row ≤ n) (hw : 1 ≤ w ∧ w ≤ n) (hR : tk_R n c NV u v row ro S) (hA : hi_A n n ro2) (hT : tk_T n c u v ro2) (hw2 : ro2 w = row) (hkeep : ∀ j : Int, 1 ≤ j → j ≤ n → ro j < row → ro2 j = ro j) :
    tk_ft n (tk_m c) NV S row w ∧ tk_R n c NV u v (row + 1) ro2 (S ||| 1 <<< (w - 1).toNat) := by
  obtain ⟨R1, R2, R3, R4, R5⟩ := hR
  have hok := tk_ok hH
  obtain ⟨hc, ⟨ro0, hP⟩, hB⟩ := hH
  have hc0 : ∀ i j : Int, 1 ≤ i → i ≤ n → 1 ≤ j → j ≤ n → 0 ≤ tk_m c i j := fun i j a b a2 b2 => (hc i j a b a2 b2).1
  obtain ⟨t, t1, t2⟩ := hi_tau hA
  obtain ⟨q, q1, q2⟩ := hi_tau R1
  -- columns below: the same in both
  have hlow : ∀ j : Int, 1 ≤ j → j ≤ n → (ro2 j < row ↔ ro j < row) := fun j a b => by
    constructor
    · intro h
      have g := t2 j a b
      obtain ⟨g1, g2, g3⟩ := q1 (ro2 j) g.1 g.2.1
      have g4 := hkeep (q (ro2 j)) g1 g2 (by omega)
      have g5 : q (ro2 j) = j := hA.2.1 _ _ g1 g2 a b (by omega) (by rw [g4, g3])
      rw [g5] at g3
      omega
    · intro h
      rw [hkeep j a b h]
      exact h
  have hwS : pl_b S w = false := by
    cases e : pl_b S w with
    | false => rfl
    | true =>
      have := ((hlow w hw.1 hw.2).mpr ((R4 w hw.1 hw.2).mp e))
      omega
  have hv : S.testBit (w - 1).toNat = false := hwS
  have ew : (((w - 1).toNat : Nat) : Int) + 1 = w := by omega
  have ek : ((n : Int) - ((n - row.toNat : Nat) : Int)) = row := by omega
  have hway : pl_way n (n - row.toNat) (S ||| 1 <<< (w - 1).toNat) t := by
    refine ⟨fun i a b => ?_, fun i j a b a2 b2 h => ?_⟩
    · obtain ⟨g1, g2, g3⟩ := t1 i (by omega) b
      refine ⟨g1, g2, ?_⟩
      rw [pl_b_or g1, ew]
      have h1 : t i ≠ w := fun z => by
        rw [z, hw2] at g3
        omega
      have h2 : pl_b S (t i) = false := by
        cases e : pl_b S (t i) with
        | false => rfl
        | true =>
          have := (hlow _ g1 g2).mpr ((R4 _ g1 g2).mp e)
          omega
      rw [h2]
      simp [h1]
    · have h3 := (t1 i (by omega) b).2.2
      rw [h, (t1 j (by omega) b2).2.2] at h3
      exact h3.symm
  have hup := pl_up (c := tk_m c) (NV := NV) (n - row.toNat) _ (by omega) hway
  have hn2 : pl_n n (S ||| 1 <<< (w - 1).toNat) = (n : Int) - ((n - row.toNat : Nat) : Int) := by
    rw [pl_n_step (by omega) hv, R3]
    omega
  -- the sum of the way is that of the prices
  have hlowF := pl_low (NV := NV) hok hc0 (n - row.toNat) (S ||| 1 <<< (w - 1).toNat) (by omega) hn2 _ (Int.le_of_lt (hB (n - row.toNat) (S ||| 1 <<< (w - 1).toNat) (by omega))) (Int.le_refl _)
  have htight : ∀ i : Int, 1 ≤ i → i ≤ n → tk_m c i (t i) = hi_u u i + hi_u v (t i) := fun i a b => by
    obtain ⟨g1, g2, g3⟩ := t1 i a b
    have g4 := hT (t i) g1 g2
    rw [g3] at g4
    exact (hx_0 hc hP a b g1 g2).mp g4
  have hF : pl_F n (tk_m c) NV (n - row.toNat) (S ||| 1 <<< (w - 1).toNat) = pl_d (hi_u u) (hi_u v) n (n - row.toNat) (S ||| 1 <<< (w - 1).toNat) := by
    have hsum : pm_S (fun i => tk_m c i (t i)) n - pm_S (fun i => tk_m c i (t i)) (n - (n - row.toNat)) = pl_d (hi_u u) (hi_u v) n (n - row.toNat) (S ||| 1 <<< (w - 1).toNat) := by
      have e1 : pm_S (fun i => tk_m c i (t i)) n = pm_S (hi_u u) n + pm_S (fun i => hi_u v (t i)) n := by
        rw [← pm_S_add]
        exact pm_S_congr (fun i a b => htight i a b)
      have e2 : pm_S (fun i => tk_m c i (t i)) (n - (n - row.toNat)) = pm_S (hi_u u) (n - (n - row.toNat)) + pm_S (fun i => hi_u v (t i)) (n - (n - row.toNat)) := by
        rw [← pm_S_add]
        exact pm_S_congr (fun i a b => htight i a (by omega))
      -- the columns of the rows up to 'row' are those of S and w
      have e3 : pl_q (hi_u v) n (S ||| 1 <<< (w - 1).toNat) = pm_S (fun i => hi_u v (t i)) n - pm_S (fun i => hi_u v (t i)) (n - (n - row.toNat)) := by
        have hmem : ∀ j : Int, 1 ≤ j → j ≤ n → (pl_b (S ||| 1 <<< (w - 1).toNat) j = true ↔ ro2 j ≤ row) := fun j a b => by
          rw [pl_b_or a, ew]
          simp only [Bool.or_eq_true, decide_eq_true_eq]
          rw [R4 j a b, ← hlow j a b]
          constructor
          · rintro (h | h)
            · omega
            · rw [h, hw2]
              exact Int.le_refl _
          · intro h
            by_cases e : ro2 j = row
            · exact Or.inr (hA.2.1 j w a b hw.1 hw.2 (by omega) (e.trans hw2.symm))
            · exact Or.inl (by omega)
        have e4 : pl_q (hi_u v) n (S ||| 1 <<< (w - 1).toNat) = pm_S (fun j => (fun i => if i ≤ row then 0 else hi_u v (t i)) (ro2 j)) n := pm_S_congr (fun j a b => by
          have g := t2 j a b
          dsimp only
          rw [g.2.2]
          by_cases h : ro2 j ≤ row
          · rw [if_pos h, if_pos ((hmem j a b).mpr h)]
          · rw [if_neg h, if_neg (fun z => h ((hmem j a b).mp z))])
        rw [e4, pm_S_perm n ro2 (fun j a b => ⟨(t2 j a b).1, (t2 j a b).2.1⟩) (fun i j a b a2 b2 h => hA.2.1 i j a b a2 b2 (by have := t2 i a b; omega) h) (fun i => if i ≤ row then 0 else hi_u v (t i))]
        -- a sum whose first terms are 0
        have e5 : ∀ (f : Int → Int) (d m : Nat), pm_S (fun i => if i ≤ (m : Int) then 0 else f i) (m + d) = pm_S f (m + d) - pm_S f m := by
          intro f d m
          induction d with
          | zero =>
            rw [Nat.add_zero, pm_S_zero (fun i a b => if_pos b)]
            omega
          | succ d ih =>
            show pm_S (fun i => if i ≤ (m : Int) then 0 else f i) (m + d) + (if ((m + d : Nat) : Int) + 1 ≤ (m : Int) then 0 else f (((m + d : Nat) : Int) + 1)) = pm_S f (m + d) + f (((m + d : Nat) : Int) + 1) - pm_S f m
            rw [ih, if_neg (by omega)]
            omega
        have e6 := e5 (fun i => hi_u v (t i)) (n - row.toNat) row.toNat
        have e7 : row.toNat + (n - row.toNat) = n := by omega
        have e8 : ((row.toNat : Nat) : Int) = row := by omega
        have e9 : n - (n - row.toNat) = row.toNat := by omega
        rw [e7, e8] at e6
        rw [e9]
        exact e6
      rw [e1, e2]
      unfold pl_d
      rw [e3]
      omega
    omega
  have en : n + 1 - row.toNat = n - row.toNat + 1 := by omega
  rw [en] at R5
  have hfit := pl_fits (NV := NV) hok hc0 hB (k := n - row.toNat) (S := S) (v := (w - 1).toNat) (by omega) (by rw [R3]; omega) R5 (by omega) hv
  rw [ew, ek] at hfit
  have htw : tk_m c row w = hi_u u row + hi_u v w := by
    have g4 := hT w hw.1 hw.2
    rw [hw2] at g4
    exact (hx_0 hc hP hrow.1 hrow.2 hw.1 hw.2).mp g4
  refine ⟨⟨hwS, by rw [en]; exact hfit.mpr ⟨htw, hF⟩⟩, hA, hT, ?_, fun j a b => ?_, ?_⟩
  · rw [pl_n_step (by omega) hv, R3]
    omega
  · rw [pl_b_or a, ew]
    simp only [Bool.or_eq_true, decide_eq_true_eq]
    rw [R4 j a b, ← hlow j a b]
    constructor
    · rintro (h | h)
      · omega
      · rw [h, hw2]
        omega
    · intro h
      by_cases e : ro2 j = row
      · exact Or.inr (hA.2.1 j w a b hw.1 hw.2 (by omega) (e.trans hw2.symm))
      · exact Or.inl (by omega)
  · have h1 : n + 1 - (row + 1).toNat = n - row.toNat := by omega
    rw [h1]
    exact hF
/-- the sums could take w: then there is such a way of the rows below -/
theorem tk_way {n : Nat} {c : Int → Int → Int64} {NV : Int} {u v : Int → Int64} {row w : Int} {ro : Int → Int} {S : Nat} (hH : tk_H n c NV u v) (hrow : 1 ≤ row ∧ row ≤ n) (hw : 1 ≤ w ∧ w ≤ n) (hR : tk_R n c NV u v row ro S) (hf : tk_ft n (tk_m c) NV S row w) :
    hm_x c u v row w = 0 ∧ row ≤ ro w ∧ ∃ t : Int → Int, pl_way n (n - row.toNat) (S ||| 1 <<< (w - 1).toNat) t ∧ (∀ i : Int, row < i → i ≤ n → hm_x c u v i (t i) = 0) ∧ ∀ j : Int, 1 ≤ j → j ≤ n → pl_b (S ||| 1 <<< (w - 1).toNat) j = false → row ≤ ro j ∧ j ≠ w := by
  obtain ⟨R1, R2, R3, R4, R5⟩ := hR
  have hok := tk_ok hH
  obtain ⟨hc, ⟨ro0, hP⟩, hB⟩ := hH
  have hc0 : ∀ i j : Int, 1 ≤ i → i ≤ n → 1 ≤ j → j ≤ n → 0 ≤ tk_m c i j := fun i j a b a2 b2 => (hc i j a b a2 b2).1
  obtain ⟨f1, f2⟩ := hf
  have hv : S.testBit (w - 1).toNat = false := f1
  have ew : (((w - 1).toNat : Nat) : Int) + 1 = w := by omega
  have ek : ((n : Int) - ((n - row.toNat : Nat) : Int)) = row := by omega
  have en : n + 1 - row.toNat = n - row.toNat + 1 := by omega
  rw [en] at R5 f2
  have hfit := pl_fits (NV := NV) hok hc0 hB (k := n - row.toNat) (S := S) (v := (w - 1).toNat) (by omega) (by rw [R3]; omega) R5 (by omega) hv
  rw [ew, ek] at hfit
  obtain ⟨g1, g2⟩ := hfit.mp f2
  have hn2 : pl_n n (S ||| 1 <<< (w - 1).toNat) = (n : Int) - ((n - row.toNat : Nat) : Int) := by
    rw [pl_n_step (by omega) hv, R3]
    omega
  obtain ⟨t, h1, h2⟩ := pl_tight (NV := NV) hok hc0 hB (n - row.toNat) (S ||| 1 <<< (w - 1).toNat) (by omega) hn2 g2
  refine ⟨(hx_0 hc hP hrow.1 hrow.2 hw.1 hw.2).mpr g1, ?_, t, h1, fun i a b => ?_, fun j a b h => ?_⟩
  · have : ¬ ro w < row := fun z => by
      rw [(R4 w hw.1 hw.2).mpr z] at f1
      cases f1
    omega
  · obtain ⟨k1, k2, k3⟩ := h1.1 i (by omega) b
    exact (hx_0 hc hP (by omega) b k1 k2).mpr (h2 i (by omega) b)
  · rw [pl_b_or a, ew] at h
    simp only [Bool.or_eq_false_iff, decide_eq_false_iff_not] at h
    refine ⟨?_, h.2⟩
    have : ¬ ro j < row := fun z => by
      rw [(R4 j a b).mpr z] at h
      cases h.1
    omega
