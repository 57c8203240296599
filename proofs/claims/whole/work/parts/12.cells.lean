/-! TWO MEMORIES (the class's, the model's): arrays of ints, arrays of longs, int fields, long fields; and the law's array 'out' -/
abbrev gq_M : Type := (Nat → Int → Int32) × (Nat → Int → Int64) × (Nat → Int32) × (Nat → Int64)
def gq_up {α : Type} (f : Nat → α) (i : Nat) (x : α) : Nat → α := fun j => if j = i then x else f j
theorem gq_us {α : Type} (f : Nat → α) (i : Nat) (x : α) : gq_up f i x i = x := if_pos rfl
theorem gq_un {α : Type} (f : Nat → α) {i j : Nat} (x : α) (h : j ≠ i) : gq_up f i x j = f j := if_neg h
abbrev gq_i (m : gq_M) : Nat → Int → Int32 := m.1
abbrev gq_l (m : gq_M) : Nat → Int → Int64 := m.2.1
abbrev gq_f (m : gq_M) : Nat → Int32 := m.2.2.1
abbrev gq_j (m : gq_M) : Nat → Int64 := m.2.2.2
abbrev gs_i (m : gq_M) (a : Nat) (f : Int → Int32) : gq_M := (gq_up m.1 a f, m.2)
abbrev gs_l (m : gq_M) (a : Nat) (f : Int → Int64) : gq_M := (m.1, gq_up m.2.1 a f, m.2.2)
abbrev gs_f (m : gq_M) (i : Nat) (v : Int32) : gq_M := (m.1, m.2.1, gq_up m.2.2.1 i v, m.2.2.2)
abbrev gs_j (m : gq_M) (i : Nat) (v : Int64) : gq_M := (m.1, m.2.1, m.2.2.1, gq_up m.2.2.2 i v)
def ca_k (a : Nat) : Nat := ([0, 0, 0, 0, 0, 0, 1, 1, 1, 0, 0, 0, 0, 1, 0, 0, 0, 0, 0, 0, 0, 0, 0, 0, 0, 0, 0, 0, 0] : List Nat).getD a 0
def ca_n (a : Nat) : Nat := ([12, 80, 80, 80, 80, 80, 80, 80, 200, 200, 13, 13, 13, 13, 13, 11, 20, 20, 80, 80, 80, 80, 80, 80, 80, 80, 80, 80, 80] : List Nat).getD a 0
def ca_m (a : Nat) : Nat := ([80, 80, 200, 200, 13, 13, 13, 13, 13, 13, 13, 13, 13, 13, 13, 13, 13, 13, 13, 13] : List Nat).getD a 0
def ma_k (a : Nat) : Nat := ([0, 0, 0, 0, 1, 0, 1, 1, 0, 0, 0, 0, 0, 0, 0, 0] : List Nat).getD a 0
def ma_n (a : Nat) : Nat := ([80, 80, 80, 80, 80, 80, 80, 200, 200, 10, 800, 20, 20, 12, 12, 80] : List Nat).getD a 0
def ma_m (a : Nat) : Nat := ([80, 80, 200, 200, 144, 4096] : List Nat).getD a 0
def ca_O (m : gq_M) (k : Nat) : gc_T := if k = 0 then gc_O 0 [gv_R 1, gv_R 2, gv_R 3, gv_R 4, gv_R 5, gv_L (gq_j m 0)] else if k = 1 then gc_O 5 [gv_I (gq_f m 0), gv_I (gq_f m 1), gv_R 6, gv_R 7, gv_R 35, gv_R 36, gv_R 8, gv_R 9, gv_R 10, gv_R 11, gv_R 12, gv_R 13] else if k = 2 then gc_O 4 [gv_R 14, gv_R 37, gv_R 38, gv_R 15] else if k = 3 then gc_O 3 [gv_I (gq_f m 2), gv_R 16, gv_R 55, gv_R 39, gv_R 40, gv_R 17, gv_R 18, gv_R 41, gv_R 19, gv_R 20] else if k = 4 then gc_O 2 [gv_R 56, gv_R 21, gv_I (gq_f m 3), gv_I (gq_f m 4)] else gc_O 1 [gv_I (gq_f m 5), gv_R 22, gv_R 23]
def ma_O (m : gq_M) : gc_T := gc_O 6 [gv_I (gq_f m 0), gv_I (gq_f m 1), gv_I (gq_f m 2), gv_R 58, gv_R 74, gv_R 75, gv_R 59, gv_R 60, gv_R 61, gv_R 62, gv_R 63, gv_R 64, gv_R 65, gv_R 76, gv_R 77, gv_R 66, gv_L (gq_j m 0), gv_I (gq_f m 3), gv_R 67, gv_R 68, gv_I (gq_f m 4), gv_R 69, gv_R 70, gv_I (gq_f m 5), gv_R 71, gv_R 78, gv_R 79, gv_R 72, gv_R 73]
def ca_R (k : Nat) : gc_T := if k = 55 then gc_R 3 13 (fun j => some (42 + j.toNat)) else gc_R 4 11 (fun j => some (24 + j.toNat))
abbrev ca_G : Type := gq_M × gq_M × (Int → Int64)
def ca_A (g : ca_G) (k : Nat) : gc_T :=
  if k < 6 then ca_O g.1 k else if k < 35 then gc_I (ca_k (k - 6)) (ca_n (k - 6)) (gq_i g.1 (k - 6)) else if k < 55 then gc_L (ca_m (k - 35)) (gq_l g.1 (k - 35)) else if k < 57 then ca_R k else
  if k < 58 then ma_O g.2.1 else if k < 74 then gc_I (ma_k (k - 58)) (ma_n (k - 58)) (gq_i g.2.1 (k - 58)) else if k < 80 then gc_L (ma_m (k - 74)) (gq_l g.2.1 (k - 74)) else if k = 80 then gc_L 1 g.2.2 else gc_L 0 (fun _ => 0)
theorem ca_I {M : gq_M} {G : gq_M × (Int → Int64)} {f : Int → Int32} (a : Nat) (h : a < 29) : gc_up (ca_A (M, G)) (6 + a) (gc_I (ca_k a) (ca_n a) f) (ca_A (gs_i M a f, G)) := by
  intro j
  by_cases e : j = 6 + a
  · subst e
    have e2 : 6 + a - 6 = a := by omega
    rw [if_pos rfl]
    unfold ca_A
    rw [if_neg (by omega), if_pos (by omega), e2]
    show gc_I _ _ (gq_up M.1 a f a) = _
    rw [gq_us]
  · rw [if_neg e]
    unfold ca_A
    by_cases h6 : j < 6
    · rw [if_pos h6, if_pos h6]
      rfl
    · rw [if_neg h6, if_neg h6]
      by_cases h35 : j < 35
      · rw [if_pos h35, if_pos h35]
        show gc_I _ _ (gq_up M.1 a f (j - 6)) = _
        rw [gq_un _ _ (by omega)]
      · rw [if_neg h35, if_neg h35]
theorem ca_L {M : gq_M} {G : gq_M × (Int → Int64)} {f : Int → Int64} (a : Nat) (h : a < 20) : gc_up (ca_A (M, G)) (35 + a) (gc_L (ca_m a) f) (ca_A (gs_l M a f, G)) := by
  intro j
  by_cases e : j = 35 + a
  · subst e
    have e2 : 35 + a - 35 = a := by omega
    rw [if_pos rfl]
    unfold ca_A
    rw [if_neg (by omega), if_neg (by omega), if_pos (by omega), e2]
    show gc_L _ (gq_up M.2.1 a f a) = _
    rw [gq_us]
  · rw [if_neg e]
    unfold ca_A
    by_cases h6 : j < 6
    · rw [if_pos h6, if_pos h6]
      rfl
    · rw [if_neg h6, if_neg h6]
      by_cases h35 : j < 35
      · rw [if_pos h35, if_pos h35]
      · rw [if_neg h35, if_neg h35]
        by_cases h55 : j < 55
        · rw [if_pos h55, if_pos h55]
          show gc_L _ (gq_up M.2.1 a f (j - 35)) = _
          rw [gq_un _ _ (by omega)]
        · rw [if_neg h55, if_neg h55]
theorem ma_I {C : gq_M} {M : gq_M} {o : Int → Int64} {f : Int → Int32} (a : Nat) (h : a < 16) : gc_up (ca_A (C, M, o)) (58 + a) (gc_I (ma_k a) (ma_n a) f) (ca_A (C, gs_i M a f, o)) := by
  intro j
  by_cases e : j = 58 + a
  · subst e
    have e2 : 58 + a - 58 = a := by omega
    rw [if_pos rfl]
    unfold ca_A
    rw [if_neg (by omega), if_neg (by omega), if_neg (by omega), if_neg (by omega), if_neg (by omega), if_pos (by omega), e2]
    show gc_I _ _ (gq_up M.1 a f a) = _
    rw [gq_us]
  · rw [if_neg e]
    unfold ca_A
    by_cases h6 : j < 6
    · rw [if_pos h6, if_pos h6]
    · rw [if_neg h6, if_neg h6]
      by_cases h35 : j < 35
      · rw [if_pos h35, if_pos h35]
      · rw [if_neg h35, if_neg h35]
        by_cases h55 : j < 55
        · rw [if_pos h55, if_pos h55]
        · rw [if_neg h55, if_neg h55]
          by_cases h57 : j < 57
          · rw [if_pos h57, if_pos h57]
          · rw [if_neg h57, if_neg h57]
            by_cases h58 : j < 58
            · rw [if_pos h58, if_pos h58]
              rfl
            · rw [if_neg h58, if_neg h58]
              by_cases h74 : j < 74
              · rw [if_pos h74, if_pos h74]
                show gc_I _ _ (gq_up M.1 a f (j - 58)) = _
                rw [gq_un _ _ (by omega)]
              · rw [if_neg h74, if_neg h74]
theorem ma_L {C : gq_M} {M : gq_M} {o : Int → Int64} {f : Int → Int64} (a : Nat) (h : a < 6) : gc_up (ca_A (C, M, o)) (74 + a) (gc_L (ma_m a) f) (ca_A (C, gs_l M a f, o)) := by
  intro j
  by_cases e : j = 74 + a
  · subst e
    have e2 : 74 + a - 74 = a := by omega
    rw [if_pos rfl]
    unfold ca_A
    rw [if_neg (by omega), if_neg (by omega), if_neg (by omega), if_neg (by omega), if_neg (by omega), if_neg (by omega), if_pos (by omega), e2]
    show gc_L _ (gq_up M.2.1 a f a) = _
    rw [gq_us]
  · rw [if_neg e]
    unfold ca_A
    by_cases h6 : j < 6
    · rw [if_pos h6, if_pos h6]
    · rw [if_neg h6, if_neg h6]
      by_cases h35 : j < 35
      · rw [if_pos h35, if_pos h35]
      · rw [if_neg h35, if_neg h35]
        by_cases h55 : j < 55
        · rw [if_pos h55, if_pos h55]
        · rw [if_neg h55, if_neg h55]
          by_cases h57 : j < 57
          · rw [if_pos h57, if_pos h57]
          · rw [if_neg h57, if_neg h57]
            by_cases h58 : j < 58
            · rw [if_pos h58, if_pos h58]
              rfl
            · rw [if_neg h58, if_neg h58]
              by_cases h74 : j < 74
              · rw [if_pos h74, if_pos h74]
              · rw [if_neg h74, if_neg h74]
                by_cases h80 : j < 80
                · rw [if_pos h80, if_pos h80]
                  show gc_L _ (gq_up M.2.1 a f (j - 74)) = _
                  rw [gq_un _ _ (by omega)]
                · rw [if_neg h80, if_neg h80]
theorem ca_out {C M : gq_M} {o o2 : Int → Int64} : gc_up (ca_A (C, M, o)) 80 (gc_L 1 o2) (ca_A (C, M, o2)) := by
  intro j
  by_cases e : j = 80
  · subst e
    rfl
  · rw [if_neg e]
    unfold ca_A
    by_cases h80 : j < 80
    · by_cases h6 : j < 6
      · rw [if_pos h6, if_pos h6]
      · rw [if_neg h6, if_neg h6]
        by_cases h35 : j < 35
        · rw [if_pos h35, if_pos h35]
        · rw [if_neg h35, if_neg h35]
          by_cases h55 : j < 55
          · rw [if_pos h55, if_pos h55]
          · rw [if_neg h55, if_neg h55]
            by_cases h57 : j < 57
            · rw [if_pos h57, if_pos h57]
            · rw [if_neg h57, if_neg h57]
              by_cases h58 : j < 58
              · rw [if_pos h58, if_pos h58]
              · rw [if_neg h58, if_neg h58]
                by_cases h74 : j < 74
                · rw [if_pos h74, if_pos h74]
                · rw [if_neg h74, if_neg h74, if_pos h80, if_pos h80]
    · rw [if_neg (by omega), if_neg (by omega), if_neg (by omega), if_neg (by omega), if_neg (by omega), if_neg (by omega), if_neg h80, if_neg e, if_neg (by omega), if_neg (by omega), if_neg (by omega), if_neg (by omega), if_neg (by omega), if_neg (by omega), if_neg h80, if_neg e]
theorem ca_hist {M : gq_M} {G : gq_M × (Int → Int64)} {r : Nat} (h : r < 11) : ca_A (M, G) (24 + r) = gc_I 0 80 (gq_i M (18 + r)) := by
  have e : 24 + r - 6 = 18 + r := by omega
  unfold ca_A
  rw [if_neg (by omega), if_pos (by omega), e]
  have : r = 0 ∨ r = 1 ∨ r = 2 ∨ r = 3 ∨ r = 4 ∨ r = 5 ∨ r = 6 ∨ r = 7 ∨ r = 8 ∨ r = 9 ∨ r = 10 := by omega
  rcases this with rfl | rfl | rfl | rfl | rfl | rfl | rfl | rfl | rfl | rfl | rfl <;> rfl
theorem ca_cost {M : gq_M} {G : gq_M × (Int → Int64)} {r : Nat} (h : r < 13) : ca_A (M, G) (42 + r) = gc_L 13 (gq_l M (7 + r)) := by
  have e : 42 + r - 35 = 7 + r := by omega
  unfold ca_A
  rw [if_neg (by omega), if_neg (by omega), if_pos (by omega), e]
  have : r = 0 ∨ r = 1 ∨ r = 2 ∨ r = 3 ∨ r = 4 ∨ r = 5 ∨ r = 6 ∨ r = 7 ∨ r = 8 ∨ r = 9 ∨ r = 10 ∨ r = 11 ∨ r = 12 := by omega
  rcases this with rfl | rfl | rfl | rfl | rfl | rfl | rfl | rfl | rfl | rfl | rfl | rfl | rfl <;> rfl
theorem ca_histU {M : gq_M} {G : gq_M × (Int → Int64)} {r : Nat} {f : Int → Int32} (h : r < 11) : gc_up (ca_A (M, G)) (24 + r) (gc_I 0 80 f) (ca_A (gs_i M (18 + r) f, G)) := by
  have h1 := ca_I (M := M) (G := G) (f := f) (18 + r) (by omega)
  have e : 6 + (18 + r) = 24 + r := by omega
  have e2 : gc_I (ca_k (18 + r)) (ca_n (18 + r)) f = gc_I 0 80 f := by
    have : r = 0 ∨ r = 1 ∨ r = 2 ∨ r = 3 ∨ r = 4 ∨ r = 5 ∨ r = 6 ∨ r = 7 ∨ r = 8 ∨ r = 9 ∨ r = 10 := by omega
    rcases this with rfl | rfl | rfl | rfl | rfl | rfl | rfl | rfl | rfl | rfl | rfl <;> rfl
  rw [e, e2] at h1
  exact h1
theorem ca_costU {M : gq_M} {G : gq_M × (Int → Int64)} {r : Nat} {f : Int → Int64} (h : r < 13) : gc_up (ca_A (M, G)) (42 + r) (gc_L 13 f) (ca_A (gs_l M (7 + r) f, G)) := by
  have h1 := ca_L (M := M) (G := G) (f := f) (7 + r) (by omega)
  have e : 35 + (7 + r) = 42 + r := by omega
  have e2 : gc_L (ca_m (7 + r)) f = gc_L 13 f := by
    have : r = 0 ∨ r = 1 ∨ r = 2 ∨ r = 3 ∨ r = 4 ∨ r = 5 ∨ r = 6 ∨ r = 7 ∨ r = 8 ∨ r = 9 ∨ r = 10 ∨ r = 11 ∨ r = 12 := by omega
    rcases this with rfl | rfl | rfl | rfl | rfl | rfl | rfl | rfl | rfl | rfl | rfl | rfl | rfl <;> rfl
  rw [e, e2] at h1
  exact h1
theorem ca_J0 {M : gq_M} {G : gq_M × (Int → Int64)} {v : Int64} : gc_up (ca_A (M, G)) 0 (gc_O 0 ([gv_R 1, gv_R 2, gv_R 3, gv_R 4, gv_R 5, gv_L (gq_j M 0)].set 5 (gv_L v))) (ca_A (gs_j M 0 v, G)) := by
  intro j
  by_cases e : j = 0
  · subst e
    rfl
  · rw [if_neg e]
    unfold ca_A
    by_cases h6 : j < 6
    · rw [if_pos h6, if_pos h6]
      have : j = 0 ∨ j = 1 ∨ j = 2 ∨ j = 3 ∨ j = 4 ∨ j = 5 := by omega
      rcases this with rfl | rfl | rfl | rfl | rfl | rfl <;> first | rfl | exact absurd rfl e
    · rw [if_neg h6, if_neg h6]
theorem ca_F0 {M : gq_M} {G : gq_M × (Int → Int64)} {v : Int32} : gc_up (ca_A (M, G)) 1 (gc_O 5 ([gv_I (gq_f M 0), gv_I (gq_f M 1), gv_R 6, gv_R 7, gv_R 35, gv_R 36, gv_R 8, gv_R 9, gv_R 10, gv_R 11, gv_R 12, gv_R 13].set 0 (gv_I v))) (ca_A (gs_f M 0 v, G)) := by
  intro j
  by_cases e : j = 1
  · subst e
    rfl
  · rw [if_neg e]
    unfold ca_A
    by_cases h6 : j < 6
    · rw [if_pos h6, if_pos h6]
      have : j = 0 ∨ j = 1 ∨ j = 2 ∨ j = 3 ∨ j = 4 ∨ j = 5 := by omega
      rcases this with rfl | rfl | rfl | rfl | rfl | rfl <;> first | rfl | exact absurd rfl e
    · rw [if_neg h6, if_neg h6]
theorem ca_F1 {M : gq_M} {G : gq_M × (Int → Int64)} {v : Int32} : gc_up (ca_A (M, G)) 1 (gc_O 5 ([gv_I (gq_f M 0), gv_I (gq_f M 1), gv_R 6, gv_R 7, gv_R 35, gv_R 36, gv_R 8, gv_R 9, gv_R 10, gv_R 11, gv_R 12, gv_R 13].set 1 (gv_I v))) (ca_A (gs_f M 1 v, G)) := by
  intro j
  by_cases e : j = 1
  · subst e
    rfl
  · rw [if_neg e]
    unfold ca_A
    by_cases h6 : j < 6
    · rw [if_pos h6, if_pos h6]
      have : j = 0 ∨ j = 1 ∨ j = 2 ∨ j = 3 ∨ j = 4 ∨ j = 5 := by omega
      rcases this with rfl | rfl | rfl | rfl | rfl | rfl <;> first | rfl | exact absurd rfl e
    · rw [if_neg h6, if_neg h6]
theorem ca_F2 {M : gq_M} {G : gq_M × (Int → Int64)} {v : Int32} : gc_up (ca_A (M, G)) 3 (gc_O 3 ([gv_I (gq_f M 2), gv_R 16, gv_R 55, gv_R 39, gv_R 40, gv_R 17, gv_R 18, gv_R 41, gv_R 19, gv_R 20].set 0 (gv_I v))) (ca_A (gs_f M 2 v, G)) := by
  intro j
  by_cases e : j = 3
  · subst e
    rfl
  · rw [if_neg e]
    unfold ca_A
    by_cases h6 : j < 6
    · rw [if_pos h6, if_pos h6]
      have : j = 0 ∨ j = 1 ∨ j = 2 ∨ j = 3 ∨ j = 4 ∨ j = 5 := by omega
      rcases this with rfl | rfl | rfl | rfl | rfl | rfl <;> first | rfl | exact absurd rfl e
    · rw [if_neg h6, if_neg h6]
theorem ca_F3 {M : gq_M} {G : gq_M × (Int → Int64)} {v : Int32} : gc_up (ca_A (M, G)) 4 (gc_O 2 ([gv_R 56, gv_R 21, gv_I (gq_f M 3), gv_I (gq_f M 4)].set 2 (gv_I v))) (ca_A (gs_f M 3 v, G)) := by
  intro j
  by_cases e : j = 4
  · subst e
    rfl
  · rw [if_neg e]
    unfold ca_A
    by_cases h6 : j < 6
    · rw [if_pos h6, if_pos h6]
      have : j = 0 ∨ j = 1 ∨ j = 2 ∨ j = 3 ∨ j = 4 ∨ j = 5 := by omega
      rcases this with rfl | rfl | rfl | rfl | rfl | rfl <;> first | rfl | exact absurd rfl e
    · rw [if_neg h6, if_neg h6]
theorem ca_F4 {M : gq_M} {G : gq_M × (Int → Int64)} {v : Int32} : gc_up (ca_A (M, G)) 4 (gc_O 2 ([gv_R 56, gv_R 21, gv_I (gq_f M 3), gv_I (gq_f M 4)].set 3 (gv_I v))) (ca_A (gs_f M 4 v, G)) := by
  intro j
  by_cases e : j = 4
  · subst e
    rfl
  · rw [if_neg e]
    unfold ca_A
    by_cases h6 : j < 6
    · rw [if_pos h6, if_pos h6]
      have : j = 0 ∨ j = 1 ∨ j = 2 ∨ j = 3 ∨ j = 4 ∨ j = 5 := by omega
      rcases this with rfl | rfl | rfl | rfl | rfl | rfl <;> first | rfl | exact absurd rfl e
    · rw [if_neg h6, if_neg h6]
theorem ca_F5 {M : gq_M} {G : gq_M × (Int → Int64)} {v : Int32} : gc_up (ca_A (M, G)) 5 (gc_O 1 ([gv_I (gq_f M 5), gv_R 22, gv_R 23].set 0 (gv_I v))) (ca_A (gs_f M 5 v, G)) := by
  intro j
  by_cases e : j = 5
  · subst e
    rfl
  · rw [if_neg e]
    unfold ca_A
    by_cases h6 : j < 6
    · rw [if_pos h6, if_pos h6]
      have : j = 0 ∨ j = 1 ∨ j = 2 ∨ j = 3 ∨ j = 4 ∨ j = 5 := by omega
      rcases this with rfl | rfl | rfl | rfl | rfl | rfl <;> first | rfl | exact absurd rfl e
    · rw [if_neg h6, if_neg h6]
theorem ma_F0 {C M : gq_M} {o : Int → Int64} {v : Int32} : gc_up (ca_A (C, M, o)) 57 (gc_O 6 ([gv_I (gq_f M 0), gv_I (gq_f M 1), gv_I (gq_f M 2), gv_R 58, gv_R 74, gv_R 75, gv_R 59, gv_R 60, gv_R 61, gv_R 62, gv_R 63, gv_R 64, gv_R 65, gv_R 76, gv_R 77, gv_R 66, gv_L (gq_j M 0), gv_I (gq_f M 3), gv_R 67, gv_R 68, gv_I (gq_f M 4), gv_R 69, gv_R 70, gv_I (gq_f M 5), gv_R 71, gv_R 78, gv_R 79, gv_R 72, gv_R 73].set 0 (gv_I v))) (ca_A (C, gs_f M 0 v, o)) := by
  intro j
  by_cases e : j = 57
  · subst e
    rfl
  · rw [if_neg e]
    unfold ca_A
    by_cases h57 : j < 57
    · by_cases h6 : j < 6
      · rw [if_pos h6, if_pos h6]
      · rw [if_neg h6, if_neg h6]
        by_cases h35 : j < 35
        · rw [if_pos h35, if_pos h35]
        · rw [if_neg h35, if_neg h35]
          by_cases h55 : j < 55
          · rw [if_pos h55, if_pos h55]
          · rw [if_neg h55, if_neg h55, if_pos h57, if_pos h57]
    · simp only [show ¬ j < 6 by omega, show ¬ j < 35 by omega, show ¬ j < 55 by omega, h57, show ¬ j < 58 by omega, if_false]
theorem ma_F1 {C M : gq_M} {o : Int → Int64} {v : Int32} : gc_up (ca_A (C, M, o)) 57 (gc_O 6 ([gv_I (gq_f M 0), gv_I (gq_f M 1), gv_I (gq_f M 2), gv_R 58, gv_R 74, gv_R 75, gv_R 59, gv_R 60, gv_R 61, gv_R 62, gv_R 63, gv_R 64, gv_R 65, gv_R 76, gv_R 77, gv_R 66, gv_L (gq_j M 0), gv_I (gq_f M 3), gv_R 67, gv_R 68, gv_I (gq_f M 4), gv_R 69, gv_R 70, gv_I (gq_f M 5), gv_R 71, gv_R 78, gv_R 79, gv_R 72, gv_R 73].set 1 (gv_I v))) (ca_A (C, gs_f M 1 v, o)) := by
  intro j
  by_cases e : j = 57
  · subst e
    rfl
  · rw [if_neg e]
    unfold ca_A
    by_cases h57 : j < 57
    · by_cases h6 : j < 6
      · rw [if_pos h6, if_pos h6]
      · rw [if_neg h6, if_neg h6]
        by_cases h35 : j < 35
        · rw [if_pos h35, if_pos h35]
        · rw [if_neg h35, if_neg h35]
          by_cases h55 : j < 55
          · rw [if_pos h55, if_pos h55]
          · rw [if_neg h55, if_neg h55, if_pos h57, if_pos h57]
    · simp only [show ¬ j < 6 by omega, show ¬ j < 35 by omega, show ¬ j < 55 by omega, h57, show ¬ j < 58 by omega, if_false]
theorem ma_F2 {C M : gq_M} {o : Int → Int64} {v : Int32} : gc_up (ca_A (C, M, o)) 57 (gc_O 6 ([gv_I (gq_f M 0), gv_I (gq_f M 1), gv_I (gq_f M 2), gv_R 58, gv_R 74, gv_R 75, gv_R 59, gv_R 60, gv_R 61, gv_R 62, gv_R 63, gv_R 64, gv_R 65, gv_R 76, gv_R 77, gv_R 66, gv_L (gq_j M 0), gv_I (gq_f M 3), gv_R 67, gv_R 68, gv_I (gq_f M 4), gv_R 69, gv_R 70, gv_I (gq_f M 5), gv_R 71, gv_R 78, gv_R 79, gv_R 72, gv_R 73].set 2 (gv_I v))) (ca_A (C, gs_f M 2 v, o)) := by
  intro j
  by_cases e : j = 57
  · subst e
    rfl
  · rw [if_neg e]
    unfold ca_A
    by_cases h57 : j < 57
    · by_cases h6 : j < 6
      · rw [if_pos h6, if_pos h6]
      · rw [if_neg h6, if_neg h6]
        by_cases h35 : j < 35
        · rw [if_pos h35, if_pos h35]
        · rw [if_neg h35, if_neg h35]
          by_cases h55 : j < 55
          · rw [if_pos h55, if_pos h55]
          · rw [if_neg h55, if_neg h55, if_pos h57, if_pos h57]
    · simp only [show ¬ j < 6 by omega, show ¬ j < 35 by omega, show ¬ j < 55 by omega, h57, show ¬ j < 58 by omega, if_false]
theorem ma_J0 {C M : gq_M} {o : Int → Int64} {v : Int64} : gc_up (ca_A (C, M, o)) 57 (gc_O 6 ([gv_I (gq_f M 0), gv_I (gq_f M 1), gv_I (gq_f M 2), gv_R 58, gv_R 74, gv_R 75, gv_R 59, gv_R 60, gv_R 61, gv_R 62, gv_R 63, gv_R 64, gv_R 65, gv_R 76, gv_R 77, gv_R 66, gv_L (gq_j M 0), gv_I (gq_f M 3), gv_R 67, gv_R 68, gv_I (gq_f M 4), gv_R 69, gv_R 70, gv_I (gq_f M 5), gv_R 71, gv_R 78, gv_R 79, gv_R 72, gv_R 73].set 16 (gv_L v))) (ca_A (C, gs_j M 0 v, o)) := by
  intro j
  by_cases e : j = 57
  · subst e
    rfl
  · rw [if_neg e]
    unfold ca_A
    by_cases h57 : j < 57
    · by_cases h6 : j < 6
      · rw [if_pos h6, if_pos h6]
      · rw [if_neg h6, if_neg h6]
        by_cases h35 : j < 35
        · rw [if_pos h35, if_pos h35]
        · rw [if_neg h35, if_neg h35]
          by_cases h55 : j < 55
          · rw [if_pos h55, if_pos h55]
          · rw [if_neg h55, if_neg h55, if_pos h57, if_pos h57]
    · simp only [show ¬ j < 6 by omega, show ¬ j < 35 by omega, show ¬ j < 55 by omega, h57, show ¬ j < 58 by omega, if_false]
theorem ma_F3 {C M : gq_M} {o : Int → Int64} {v : Int32} : gc_up (ca_A (C, M, o)) 57 (gc_O 6 ([gv_I (gq_f M 0), gv_I (gq_f M 1), gv_I (gq_f M 2), gv_R 58, gv_R 74, gv_R 75, gv_R 59, gv_R 60, gv_R 61, gv_R 62, gv_R 63, gv_R 64, gv_R 65, gv_R 76, gv_R 77, gv_R 66, gv_L (gq_j M 0), gv_I (gq_f M 3), gv_R 67, gv_R 68, gv_I (gq_f M 4), gv_R 69, gv_R 70, gv_I (gq_f M 5), gv_R 71, gv_R 78, gv_R 79, gv_R 72, gv_R 73].set 17 (gv_I v))) (ca_A (C, gs_f M 3 v, o)) := by
  intro j
  by_cases e : j = 57
  · subst e
    rfl
  · rw [if_neg e]
    unfold ca_A
    by_cases h57 : j < 57
    · by_cases h6 : j < 6
      · rw [if_pos h6, if_pos h6]
      · rw [if_neg h6, if_neg h6]
        by_cases h35 : j < 35
        · rw [if_pos h35, if_pos h35]
        · rw [if_neg h35, if_neg h35]
          by_cases h55 : j < 55
          · rw [if_pos h55, if_pos h55]
          · rw [if_neg h55, if_neg h55, if_pos h57, if_pos h57]
    · simp only [show ¬ j < 6 by omega, show ¬ j < 35 by omega, show ¬ j < 55 by omega, h57, show ¬ j < 58 by omega, if_false]
theorem ma_F4 {C M : gq_M} {o : Int → Int64} {v : Int32} : gc_up (ca_A (C, M, o)) 57 (gc_O 6 ([gv_I (gq_f M 0), gv_I (gq_f M 1), gv_I (gq_f M 2), gv_R 58, gv_R 74, gv_R 75, gv_R 59, gv_R 60, gv_R 61, gv_R 62, gv_R 63, gv_R 64, gv_R 65, gv_R 76, gv_R 77, gv_R 66, gv_L (gq_j M 0), gv_I (gq_f M 3), gv_R 67, gv_R 68, gv_I (gq_f M 4), gv_R 69, gv_R 70, gv_I (gq_f M 5), gv_R 71, gv_R 78, gv_R 79, gv_R 72, gv_R 73].set 20 (gv_I v))) (ca_A (C, gs_f M 4 v, o)) := by
  intro j
  by_cases e : j = 57
  · subst e
    rfl
  · rw [if_neg e]
    unfold ca_A
    by_cases h57 : j < 57
    · by_cases h6 : j < 6
      · rw [if_pos h6, if_pos h6]
      · rw [if_neg h6, if_neg h6]
        by_cases h35 : j < 35
        · rw [if_pos h35, if_pos h35]
        · rw [if_neg h35, if_neg h35]
          by_cases h55 : j < 55
          · rw [if_pos h55, if_pos h55]
          · rw [if_neg h55, if_neg h55, if_pos h57, if_pos h57]
    · simp only [show ¬ j < 6 by omega, show ¬ j < 35 by omega, show ¬ j < 55 by omega, h57, show ¬ j < 58 by omega, if_false]
theorem ma_F5 {C M : gq_M} {o : Int → Int64} {v : Int32} : gc_up (ca_A (C, M, o)) 57 (gc_O 6 ([gv_I (gq_f M 0), gv_I (gq_f M 1), gv_I (gq_f M 2), gv_R 58, gv_R 74, gv_R 75, gv_R 59, gv_R 60, gv_R 61, gv_R 62, gv_R 63, gv_R 64, gv_R 65, gv_R 76, gv_R 77, gv_R 66, gv_L (gq_j M 0), gv_I (gq_f M 3), gv_R 67, gv_R 68, gv_I (gq_f M 4), gv_R 69, gv_R 70, gv_I (gq_f M 5), gv_R 71, gv_R 78, gv_R 79, gv_R 72, gv_R 73].set 23 (gv_I v))) (ca_A (C, gs_f M 5 v, o)) := by
  intro j
  by_cases e : j = 57
  · subst e
    rfl
  · rw [if_neg e]
    unfold ca_A
    by_cases h57 : j < 57
    · by_cases h6 : j < 6
      · rw [if_pos h6, if_pos h6]
      · rw [if_neg h6, if_neg h6]
        by_cases h35 : j < 35
        · rw [if_pos h35, if_pos h35]
        · rw [if_neg h35, if_neg h35]
          by_cases h55 : j < 55
          · rw [if_pos h55, if_pos h55]
          · rw [if_neg h55, if_neg h55, if_pos h57, if_pos h57]
    · simp only [show ¬ j < 6 by omega, show ¬ j < 35 by omega, show ¬ j < 55 by omega, h57, show ¬ j < 58 by omega, if_false]
