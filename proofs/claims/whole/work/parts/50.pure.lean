/-! NUMBERS of 32 and 64 bits as integers -/
theorem pa_b32 {n : Int} (h1 : -2147483648 ≤ n) (h2 : n < 2147483648) : n.bmod (2 ^ 32) = n := by
  rw [Int.bmod_def]
  omega
theorem pa_lo (a : Int32) : -2147483648 ≤ a.toInt := by
  have := Int32.le_toInt a
  omega
theorem pa_hi (a : Int32) : a.toInt < 2147483648 := by
  have := Int32.toInt_lt a
  omega
theorem pa_add {a b : Int32} (h1 : -2147483648 ≤ a.toInt + b.toInt) (h2 : a.toInt + b.toInt < 2147483648) : (a + b).toInt = a.toInt + b.toInt := by
  rw [Int32.toInt_add, pa_b32 h1 h2]
theorem pa_sub {a b : Int32} (h1 : -2147483648 ≤ a.toInt - b.toInt) (h2 : a.toInt - b.toInt < 2147483648) : (a - b).toInt = a.toInt - b.toInt := by
  rw [Int32.toInt_sub, pa_b32 h1 h2]
theorem pa_mul {a b : Int32} (h1 : -2147483648 ≤ a.toInt * b.toInt) (h2 : a.toInt * b.toInt < 2147483648) : (a * b).toInt = a.toInt * b.toInt := by
  rw [Int32.toInt_mul, pa_b32 h1 h2]
theorem pa_1 {a : Int32} (h : a.toInt < 2000000000) : (a + 1).toInt = a.toInt + 1 := by
  have := pa_lo a
  rw [pa_add (by show _ ≤ a.toInt + 1; omega) (by show a.toInt + 1 < _; omega)]
  rfl
theorem pa_lt {a b : Int32} : a < b ↔ a.toInt < b.toInt := Int32.lt_iff_toInt_lt
theorem pa_le {a b : Int32} : a ≤ b ↔ a.toInt ≤ b.toInt := Int32.le_iff_toInt_le
theorem pa_eq {a b : Int32} : a = b ↔ a.toInt = b.toInt := Int32.toInt_inj.symm
theorem pa_0 {a : Int32} : a = 0 ↔ a.toInt = 0 := pa_eq
theorem pa_nI {n : Nat} (h : n < 2147483648) : (nI n).toInt = n := nI_toInt (by omega)
theorem pb_lt {a b : Int64} : a < b ↔ a.toInt < b.toInt := Int64.lt_iff_toInt_lt
theorem pb_le {a b : Int64} : a ≤ b ↔ a.toInt ≤ b.toInt := Int64.le_iff_toInt_le
theorem pb_eq {a b : Int64} : a = b ↔ a.toInt = b.toInt := Int64.toInt_inj.symm
theorem pz_u (f : Int → Int32) (i : Int) (x : Int32) : (fun z => (gz_u f i x z).toInt) = gz_u (fun z => (f z).toInt) i x.toInt := by
  funext z
  unfold gz_u
  by_cases h : z = i
  · rw [if_pos h, if_pos h]
  · rw [if_neg h, if_neg h]
theorem pz_uu {α : Type} (f : Int → α) (i : Int) (x y : α) : gz_u (gz_u f i x) i y = gz_u f i y := by
  funext z
  unfold gz_u
  by_cases h : z = i
  · rw [if_pos h, if_pos h]
  · rw [if_neg h, if_neg h, if_neg h]
/-! FRAMES: what a function leaves as it was -/
def pf_F (P Q : Nat → Prop) (M M2 : gq_M) : Prop := (∀ a, ¬ P a → gq_i M2 a = gq_i M a) ∧ (∀ a, ¬ Q a → gq_l M2 a = gq_l M a) ∧ (∀ i, gq_f M2 i = gq_f M i) ∧ ∀ i, gq_j M2 i = gq_j M i
theorem pf_r (P Q : Nat → Prop) (M : gq_M) : pf_F P Q M M := ⟨fun _ _ => rfl, fun _ _ => rfl, fun _ => rfl, fun _ => rfl⟩
theorem pf_t {P Q : Nat → Prop} {M M2 M3 : gq_M} (h : pf_F P Q M M2) (g : pf_F P Q M2 M3) : pf_F P Q M M3 :=
  ⟨fun a h1 => (g.1 a h1).trans (h.1 a h1), fun a h1 => (g.2.1 a h1).trans (h.2.1 a h1), fun i => (g.2.2.1 i).trans (h.2.2.1 i), fun i => (g.2.2.2 i).trans (h.2.2.2 i)⟩
theorem pf_w {P Q P2 Q2 : Nat → Prop} {M M2 : gq_M} (h : pf_F P Q M M2) (hp : ∀ a, P a → P2 a) (hq : ∀ a, Q a → Q2 a) : pf_F P2 Q2 M M2 :=
  ⟨fun a h1 => h.1 a (fun z => h1 (hp a z)), fun a h1 => h.2.1 a (fun z => h1 (hq a z)), h.2.2⟩
theorem pf_i {P Q : Nat → Prop} {M M2 : gq_M} {a : Nat} {f : Int → Int32} (ha : P a) (h : pf_F P Q M M2) : pf_F P Q M (gs_i M2 a f) :=
  ⟨fun b h1 => (gq_un (i := a) (j := b) M2.1 f (fun z => h1 (by rw [z]; exact ha))).trans (h.1 b h1), h.2.1, h.2.2⟩
theorem pf_l {P Q : Nat → Prop} {M M2 : gq_M} {a : Nat} {f : Int → Int64} (ha : Q a) (h : pf_F P Q M M2) : pf_F P Q M (gs_l M2 a f) :=
  ⟨h.1, fun b h1 => (gq_un (i := a) (j := b) M2.2.1 f (fun z => h1 (by rw [z]; exact ha))).trans (h.2.1 b h1), h.2.2⟩
/-! LOOPS: none of them is out of fuel -/
abbrev pv_i (M : gq_M) (a : Nat) : Int → Int := fun z => (gq_i M a z).toInt
abbrev pv_c (M : gq_M) : Int → Int → Int64 := fun i j => gq_l M (7 + i.toNat) j
