/-! UNITS of a group and a kind: the same pins in the class and in the model -/
def pf_G (P Q E : Nat → Prop) (M M2 : gq_M) : Prop := (∀ a, ¬ P a → gq_i M2 a = gq_i M a) ∧ (∀ a, ¬ Q a → gq_l M2 a = gq_l M a) ∧ (∀ i, ¬ E i → gq_f M2 i = gq_f M i) ∧ ∀ i, gq_j M2 i = gq_j M i
theorem pg_r (P Q E : Nat → Prop) (M : gq_M) : pf_G P Q E M M := ⟨fun _ _ => rfl, fun _ _ => rfl, fun _ _ => rfl, fun _ => rfl⟩
theorem pg_t {P Q E : Nat → Prop} {M M2 M3 : gq_M} (h : pf_G P Q E M M2) (g : pf_G P Q E M2 M3) : pf_G P Q E M M3 :=
  ⟨fun a h1 => (g.1 a h1).trans (h.1 a h1), fun a h1 => (g.2.1 a h1).trans (h.2.1 a h1), fun i h1 => (g.2.2.1 i h1).trans (h.2.2.1 i h1), fun i => (g.2.2.2 i).trans (h.2.2.2 i)⟩
theorem pg_of {P Q P2 Q2 E : Nat → Prop} {M M2 : gq_M} (h : pf_F P Q M M2) (hp : ∀ a, P a → P2 a) (hq : ∀ a, Q a → Q2 a) : pf_G P2 Q2 E M M2 :=
  ⟨fun a h1 => h.1 a (fun z => h1 (hp a z)), fun a h1 => h.2.1 a (fun z => h1 (hq a z)), fun i _ => h.2.2.1 i, h.2.2.2⟩
theorem pg_w {P Q E P2 Q2 E2 : Nat → Prop} {M M2 : gq_M} (h : pf_G P Q E M M2) (hp : ∀ a, P a → P2 a) (hq : ∀ a, Q a → Q2 a) (he : ∀ a, E a → E2 a) : pf_G P2 Q2 E2 M M2 :=
  ⟨fun a h1 => h.1 a (fun z => h1 (hp a z)), fun a h1 => h.2.1 a (fun z => h1 (hq a z)), fun i h1 => h.2.2.1 i (fun z => h1 (he i z)), h.2.2.2⟩
theorem pg_i {P Q E : Nat → Prop} {M M2 : gq_M} {a : Nat} {f : Int → Int32} (ha : P a) (h : pf_G P Q E M M2) : pf_G P Q E M (gs_i M2 a f) :=
  ⟨fun b h1 => (gq_un (i := a) (j := b) M2.1 f (fun z => h1 (by rw [z]; exact ha))).trans (h.1 b h1), h.2.1, h.2.2⟩
theorem pg_l {P Q E : Nat → Prop} {M M2 : gq_M} {a : Nat} {f : Int → Int64} (ha : Q a) (h : pf_G P Q E M M2) : pf_G P Q E M (gs_l M2 a f) :=
  ⟨h.1, fun b h1 => (gq_un (i := a) (j := b) M2.2.1 f (fun z => h1 (by rw [z]; exact ha))).trans (h.2.1 b h1), h.2.2⟩
theorem pg_f {P Q E : Nat → Prop} {M M2 : gq_M} {a : Nat} {v : Int32} (ha : E a) (h : pf_G P Q E M M2) : pf_G P Q E M (gs_f M2 a v) :=
  ⟨h.1, h.2.1, fun b h1 => (gq_un (i := a) (j := b) M2.2.2.1 v (fun z => h1 (by rw [z]; exact ha))).trans (h.2.2.1 b h1), h.2.2.2⟩
/-- pin p is a unit of group g and kind pr that may change its nets -/
def un_b (M : gq_M) (g pr : Int32) (p : Int) : Bool := decide (gq_i M 1 p = g) && (decide (gq_i M 6 p = 0) && ((if gq_i M 5 p = -1 then decide (pr = 0) else decide (pr = 1)) && (decide (gq_i M 7 p = 0) && (decide (gq_i M 5 p = -1) || decide (gq_i M 7 (gq_i M 5 p).toInt = 0)))))
theorem un_bc {M M2 : gq_M} {g pr : Int32} {p : Int} (h1 : gq_i M2 1 = gq_i M 1) (h5 : gq_i M2 5 = gq_i M 5) (h6 : gq_i M2 6 = gq_i M 6) (h7 : gq_i M2 7 = gq_i M 7) : un_b M2 g pr p = un_b M g pr p := by
  unfold un_b
  rw [h1, h5, h6, h7]
def un_L (M : gq_M) (g pr : Int32) : Nat → List Int
  | 0 => []
  | c + 1 => if un_b M g pr (c : Int) = true then un_L M g pr c ++ [(c : Int)] else un_L M g pr c
theorem un_Lc {M M2 : gq_M} {g pr : Int32} (h1 : gq_i M2 1 = gq_i M 1) (h5 : gq_i M2 5 = gq_i M 5) (h6 : gq_i M2 6 = gq_i M 6) (h7 : gq_i M2 7 = gq_i M 7) : ∀ c, un_L M2 g pr c = un_L M g pr c
  | 0 => rfl
  | c + 1 => by
    unfold un_L
    rw [un_bc h1 h5 h6 h7, un_Lc h1 h5 h6 h7 c]
def un_n (M : gq_M) (g : Int32) : Nat → Nat
  | 0 => 0
  | c + 1 => un_n M g c + (if gq_i M 1 (c : Int) = g then 1 else 0)
theorem un_len {M : gq_M} {g pr : Int32} : ∀ c, (un_L M g pr c).length ≤ un_n M g c
  | 0 => Nat.le_refl _
  | c + 1 => by
    have ih := un_len (M := M) (g := g) (pr := pr) c
    unfold un_L un_n
    by_cases h : un_b M g pr (c : Int) = true
    · rw [if_pos h, List.length_append]
      have hg : gq_i M 1 (c : Int) = g := by
        unfold un_b at h
        simp only [Bool.and_eq_true, decide_eq_true_eq] at h
        exact h.1
      rw [if_pos hg]
      simp only [List.length_cons, List.length_nil]
      omega
    · rw [if_neg h]
      by_cases hg : gq_i M 1 (c : Int) = g
      · rw [if_pos hg]; omega
      · rw [if_neg hg]; omega
theorem un_mem {M : gq_M} {g pr : Int32} : ∀ {c : Nat} {p : Int}, p ∈ un_L M g pr c → 0 ≤ p ∧ p < c ∧ un_b M g pr p = true
  | 0, p, h => by cases h
  | c + 1, p, h => by
    unfold un_L at h
    by_cases hb : un_b M g pr (c : Int) = true
    · rw [if_pos hb] at h
      rcases List.mem_append.mp h with h | h
      · have := un_mem h
        exact ⟨this.1, by omega, this.2.2⟩
      · rw [List.mem_singleton.mp h]
        exact ⟨by omega, by omega, hb⟩
    · rw [if_neg hb] at h
      have := un_mem h
      exact ⟨this.1, by omega, this.2.2⟩
theorem un_has {M : gq_M} {g pr : Int32} : ∀ {c : Nat} {p : Int}, 0 ≤ p → p < c → un_b M g pr p = true → p ∈ un_L M g pr c
  | 0, p, h0, h1, _ => absurd h1 (by omega)
  | c + 1, p, h0, h1, hb => by
    unfold un_L
    by_cases e : p = (c : Int)
    · rw [e] at hb
      rw [if_pos hb, e]
      exact List.mem_append.mpr (Or.inr List.mem_cons_self)
    · have ih := un_has (M := M) (g := g) (pr := pr) (c := c) h0 (by omega) hb
      by_cases hb2 : un_b M g pr (c : Int) = true
      · rw [if_pos hb2]
        exact List.mem_append.mpr (Or.inl ih)
      · rw [if_neg hb2]; exact ih
theorem un_at {L : List Int} {i : Nat} (h : i < L.length) : L.getD i 0 ∈ L := by
  rw [List.getD_eq_getElem?_getD, List.getElem?_eq_getElem h]
  exact List.getElem_mem h
theorem un_mono {M : gq_M} {g pr : Int32} : ∀ {c : Nat} {i j : Nat}, i < j → j < (un_L M g pr c).length → (un_L M g pr c).getD i 0 < (un_L M g pr c).getD j 0
  | 0, i, j, h1, h2 => absurd h2 (Nat.not_lt_zero _)
  | c + 1, i, j, h1, h2 => by
    unfold un_L at h2 ⊢
    by_cases hb : un_b M g pr (c : Int) = true
    · rw [if_pos hb] at h2 ⊢
      rw [List.length_append] at h2
      simp only [List.length_cons, List.length_nil] at h2
      have hi : i < (un_L M g pr c).length := by omega
      have ei : (un_L M g pr c ++ [(c : Int)]).getD i 0 = (un_L M g pr c).getD i 0 := by
        rw [List.getD_eq_getElem?_getD, List.getD_eq_getElem?_getD, List.getElem?_append_left hi]
      rw [ei]
      by_cases hj : j < (un_L M g pr c).length
      · have ej : (un_L M g pr c ++ [(c : Int)]).getD j 0 = (un_L M g pr c).getD j 0 := by
          rw [List.getD_eq_getElem?_getD, List.getD_eq_getElem?_getD, List.getElem?_append_left hj]
        rw [ej]
        exact un_mono h1 hj
      · have ej : (un_L M g pr c ++ [(c : Int)]).getD j 0 = (c : Int) := by
          rw [List.getD_eq_getElem?_getD, List.getElem?_append_right (by omega), show j - (un_L M g pr c).length = 0 by omega]
          rfl
        rw [ej]
        exact (un_mem (un_at hi)).2.1
    · rw [if_neg hb] at h2 ⊢
      exact un_mono h1 h2
theorem un_inj {M : gq_M} {g pr : Int32} {c i j : Nat} (hi : i < (un_L M g pr c).length) (hj : j < (un_L M g pr c).length) (h : (un_L M g pr c).getD i 0 = (un_L M g pr c).getD j 0) : i = j := by
  rcases Nat.lt_trichotomy i j with z | z | z
  · have := un_mono z hj
    omega
  · exact z
  · have := un_mono z hi
    omega
theorem un_idx {L : List Int} {p : Int} (h : p ∈ L) : ∃ i, i < L.length ∧ L.getD i 0 = p := by
  obtain ⟨i, hi, e⟩ := List.mem_iff_getElem.mp h
  exact ⟨i, hi, by rw [List.getD_eq_getElem?_getD, List.getElem?_eq_getElem hi, e]; rfl⟩
/-! the class finds them -/
theorem un_cls {M W : gq_M} {p g pr : Int32} (hC : rp_C M W) (hS : rp_S M W) (hp : 0 ≤ p.toInt ∧ p.toInt < (gq_f M 1).toInt) (hpr : pr = 0 ∨ pr = 1) (hg : gq_i M 1 p.toInt = g) : ∃ x : Int32, fn_Pi_isFreeUnit p pr M = some x ∧ (x = 0 ↔ un_b M g pr p.toInt = false) := by
  have h80 := hC.2.2
  have hpr2 : 0 ≤ p.toInt ∧ p.toInt < ((80 : Nat) : Int) := by omega
  obtain ⟨-, -, -, -, ⟨-, hl⟩, -, hpp⟩ := hS p.toInt hp.1 hp.2
  unfold fn_Pi_isFreeUnit
  rw [if_pos hpr2]
  unfold un_b
  by_cases e6 : gq_i M 6 p.toInt = 0
  · rw [if_pos e6]
    unfold fn_Pi_isPaired
    rw [if_pos hpr2]
    by_cases e5 : gq_i M 5 p.toInt = -1
    · rw [if_pos e5, Option.bind_some, if_pos e5]
      rcases hpr with rfl | rfl
      · rw [if_pos rfl]
        unfold fn_Pi_isUnitLocked
        rw [if_pos hpr2]
        by_cases e7 : gq_i M 7 p.toInt = 0
        · rw [if_pos e7]
          unfold fn_Pi_isPaired
          rw [if_pos hpr2, if_pos e5, Option.bind_some, if_pos rfl, Option.bind_some, if_pos rfl]
          exact ⟨1, rfl, by simp [hg, e5, e6, e7]⟩
        · rw [if_neg e7, Option.bind_some, if_neg (by decide)]
          exact ⟨0, rfl, by simp [e7]⟩
      · rw [if_neg (by decide)]
        exact ⟨0, rfl, by simp⟩
    · rw [if_neg e5, Option.bind_some, if_neg e5]
      rcases hpr with rfl | rfl
      · rw [if_neg (by decide)]
        exact ⟨0, rfl, by simp⟩
      · rw [if_pos rfl]
        unfold fn_Pi_isUnitLocked
        rw [if_pos hpr2]
        by_cases e7 : gq_i M 7 p.toInt = 0
        · rw [if_pos e7]
          unfold fn_Pi_isPaired
          rw [if_pos hpr2, if_neg e5, Option.bind_some, if_neg (by decide)]
          have hq : 0 ≤ (gq_i M 5 p.toInt).toInt ∧ (gq_i M 5 p.toInt).toInt < ((80 : Nat) : Int) := by
            rcases hpp with h | h
            · exact absurd h.1 e5
            · omega
          rw [if_pos hq]
          by_cases e8 : gq_i M 7 (gq_i M 5 p.toInt).toInt = 0
          · rw [if_pos e8, Option.bind_some, if_pos rfl]
            exact ⟨1, rfl, by simp [hg, e5, e6, e7, e8]⟩
          · rw [if_neg e8, Option.bind_some, if_neg (by decide)]
            exact ⟨0, rfl, by simp [e5, e8]⟩
        · rw [if_neg e7, Option.bind_some, if_neg (by decide)]
          exact ⟨0, rfl, by simp [e7]⟩
  · rw [if_neg e6]
    exact ⟨0, rfl, by simp [e6]⟩
theorem un_mod {M W : gq_M} {p g pr : Int32} (hC : rp_C M W) (hS : rp_S M W) (hp : 0 ≤ p.toInt ∧ p.toInt < (gq_f M 1).toInt) (hpr : pr = 0 ∨ pr = 1) : ∃ x : Int32, fn_Mo_isUnit p g pr W = some x ∧ (x = 0 ↔ un_b M g pr p.toInt = false) := by
  have h80 := hC.2.2
  have hpr2 : 0 ≤ p.toInt ∧ p.toInt < ((80 : Nat) : Int) := by omega
  obtain ⟨⟨w0, -⟩, -, -, -, ⟨w4, hl⟩, w5, hpp⟩ := hS p.toInt hp.1 hp.2
  unfold fn_Mo_isUnit
  rw [if_pos hpr2, w0]
  unfold un_b
  by_cases e1 : gq_i M 1 p.toInt = g
  · rw [if_pos e1, w4]
    by_cases e7 : gq_i M 7 p.toInt = 0
    · rw [if_pos e7]
      rcases hpr with rfl | rfl
      · rw [if_pos rfl, w5]
        by_cases e5 : gq_i M 5 p.toInt = -1
        · rw [if_pos e5]
          have e6 : gq_i M 6 p.toInt = 0 := by
            rcases hpp with h | h
            · exact h.2.1
            · rw [e5] at h
              exact absurd h.1 (by decide)
          exact ⟨1, rfl, by simp [e1, e5, e6, e7]⟩
        · rw [if_neg e5]
          exact ⟨0, rfl, by simp [e5]⟩
      · rw [if_neg (by decide)]
        rcases hpp with ⟨h5, h6, h7⟩ | ⟨h1, h2, h3, h4, h5, h6⟩
        · rw [if_pos h7]
          exact ⟨0, rfl, by simp [h5]⟩
        · have hn5 : ¬ gq_i M 5 p.toInt = -1 := fun z => by rw [z] at h1; exact absurd h1 (by decide)
          rcases h6 with ⟨g1, g2, g3⟩ | ⟨g1, g2, g3⟩
          · rw [if_neg (by rw [g2]; decide), w5, if_pos (by omega)]
            have w4b := (hS _ h1 h2).2.2.2.2.1.1
            rw [w4b]
            by_cases e8 : gq_i M 7 (gq_i M 5 p.toInt).toInt = 0
            · rw [if_pos e8]
              exact ⟨1, rfl, by simp [e1, hn5, g1, e7, e8]⟩
            · rw [if_neg e8]
              exact ⟨0, rfl, by simp [hn5, e8]⟩
          · rw [if_pos g2]
            exact ⟨0, rfl, by simp [g1]⟩
    · rw [if_neg e7]
      exact ⟨0, rfl, by simp [e7]⟩
  · rw [if_neg e1]
    exact ⟨0, rfl, by simp [e1]⟩
