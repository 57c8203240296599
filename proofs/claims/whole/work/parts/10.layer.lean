/-! VALUES AND CELLS, by number: an int is an Int32, a long an Int64, a reference the number of a cell. -/
abbrev gv_V : Type := Int32 ⊕ (Int64 ⊕ Option Nat)
abbrev gv_I (z : Int32) : gv_V := Sum.inl z
abbrev gv_L (w : Int64) : gv_V := Sum.inr (Sum.inl w)
abbrev gv_R (k : Nat) : gv_V := Sum.inr (Sum.inr (some k))
abbrev gv_N : gv_V := Sum.inr (Sum.inr none)
def gv_v (ad : Nat → Nat) : gv_V → Value
  | .inl z => .int z
  | .inr (.inl w) => .long w
  | .inr (.inr (some k)) => .ref (ad k)
  | .inr (.inr none) => .null
def gv_c : gv_V → Nat
  | .inl _ => 1
  | .inr (.inl _) => 2
  | .inr (.inr _) => 1
theorem gv_cat (ad : Nat → Nat) (v : gv_V) : (gv_v ad v).category = gv_c v := by
  rcases v with z | w | _ | k <;> rfl
def gv_p (ad : Nat → Nat) (q : Nat × gv_V) : Nat × Value := (q.1, gv_v ad q.2)
def gv_g : List (Nat × gv_V) → Nat → Option gv_V
  | [], _ => none
  | q :: r, j => bif q.1 == j then some q.2 else gv_g r j
theorem gv_mem : ∀ {lv : List (Nat × gv_V)} {i : Nat} {v : gv_V}, gv_g lv i = some v → (i, v) ∈ lv
  | [], i, v, h => by simp [gv_g] at h
  | (a, b) :: r, i, v, h => by
    unfold gv_g at h
    cases hq : (a == i) with
    | true =>
      have h1 : a = i := by simpa using hq
      simp only [hq, cond_true, Option.some.injEq] at h
      rw [← h1, ← h]
      exact List.mem_cons_self
    | false =>
      simp only [hq, cond_false] at h
      exact List.mem_cons_of_mem _ (gv_mem h)
theorem gv_at {ad : Nat → Nat} {ls : Array Slot} {nL : Nat} {lv : List (Nat × gv_V)} {i : Nat} {v : gv_V} (hl : lv_has ls nL (lv.map (gv_p ad))) (h : gv_g lv i = some v) : ls[i]? = some (.val (gv_v ad v)) :=
  hl.2.2 (i, gv_v ad v) (List.mem_map.mpr ⟨(i, v), gv_mem h, rfl⟩)
def gv_ok (i w : Nat) (q : Nat × gv_V) : Bool := !(q.1 == i) && (!(w == 2 && q.1 == i + 1) && !(q.1 + 1 == i && gv_c q.2 == 2))
def gv_s : List (Nat × gv_V) → Nat → gv_V → List (Nat × gv_V)
  | [], i, v => [(i, v)]
  | q :: r, i, v => bif q.1 == i then (i, v) :: r.filter (gv_ok i (gv_c v)) else bif gv_ok i (gv_c v) q then q :: gv_s r i v else gv_s r i v
theorem gv_s_mem : ∀ {lv : List (Nat × gv_V)} {i : Nat} {v : gv_V} {q : Nat × gv_V}, q ∈ gv_s lv i v → q = (i, v) ∨ (q ∈ lv ∧ gv_ok i (gv_c v) q = true)
  | [], i, v, q, h => by
    simp only [gv_s, List.mem_singleton] at h
    exact Or.inl h
  | a :: r, i, v, q, h => by
    unfold gv_s at h
    cases h1 : (a.1 == i) with
    | true =>
      simp only [h1, cond_true] at h
      rcases List.mem_cons.mp h with h | h
      · exact Or.inl h
      · obtain ⟨h2, h3⟩ := List.mem_filter.mp h
        exact Or.inr ⟨List.mem_cons_of_mem _ h2, h3⟩
    | false =>
      simp only [h1, cond_false] at h
      cases h2 : gv_ok i (gv_c v) a with
      | true =>
        simp only [h2, cond_true] at h
        rcases List.mem_cons.mp h with h | h
        · exact Or.inr ⟨by rw [h]; exact List.mem_cons_self, by rw [h]; exact h2⟩
        · rcases gv_s_mem h with h | ⟨h3, h4⟩
          · exact Or.inl h
          · exact Or.inr ⟨List.mem_cons_of_mem _ h3, h4⟩
      | false =>
        simp only [h2, cond_false] at h
        rcases gv_s_mem h with h | ⟨h3, h4⟩
        · exact Or.inl h
        · exact Or.inr ⟨List.mem_cons_of_mem _ h3, h4⟩
theorem gv_st1 {ad : Nat → Nat} {ls : Array Slot} {nL i : Nat} {lv : List (Nat × gv_V)} {v : gv_V} (hc : gv_c v = 1) (h : lv_has ls nL ((i, gv_v ad v) :: (lv.map (gv_p ad)).filter (fun q => !(q.1 == i) && !(q.1 + 1 == i && q.2.category == 2)))) : lv_has ls nL ((gv_s lv i v).map (gv_p ad)) := by
  refine ⟨h.1, h.2.1, fun q hq => h.2.2 q ?_⟩
  obtain ⟨q0, h0, rfl⟩ := List.mem_map.mp hq
  rcases gv_s_mem h0 with h1 | ⟨h1, h2⟩
  · rw [h1]
    exact List.mem_cons_self
  · refine List.mem_cons_of_mem _ (List.mem_filter.mpr ⟨List.mem_map.mpr ⟨q0, h1, rfl⟩, ?_⟩)
    simp only [gv_ok, Bool.and_eq_true] at h2
    simp only [gv_p, gv_cat, Bool.and_eq_true]
    exact ⟨h2.1, h2.2.2⟩
theorem gv_st2 {ad : Nat → Nat} {ls : Array Slot} {nL i : Nat} {lv : List (Nat × gv_V)} {v : gv_V} (hc : gv_c v = 2) (h : lv_has ls nL ((i, gv_v ad v) :: (lv.map (gv_p ad)).filter (fun q => !(q.1 == i) && (!(q.1 == i + 1) && !(q.1 + 1 == i && q.2.category == 2))))) : lv_has ls nL ((gv_s lv i v).map (gv_p ad)) := by
  refine ⟨h.1, h.2.1, fun q hq => h.2.2 q ?_⟩
  obtain ⟨q0, h0, rfl⟩ := List.mem_map.mp hq
  rcases gv_s_mem h0 with h1 | ⟨h1, h2⟩
  · rw [h1]
    exact List.mem_cons_self
  · refine List.mem_cons_of_mem _ (List.mem_filter.mpr ⟨List.mem_map.mpr ⟨q0, h1, rfl⟩, ?_⟩)
    rw [hc] at h2
    simp only [gv_ok, Bool.and_eq_true] at h2
    simp only [gv_p, gv_cat, Bool.and_eq_true]
    exact ⟨h2.1, by simpa using h2.2.1, h2.2.2⟩
/-- fewer locals, or the same in another order -/
def gv_in (lv : List (Nat × gv_V)) : List (Nat × gv_V) → Prop
  | [] => True
  | q :: r => gv_g lv q.1 = some q.2 ∧ gv_in lv r
theorem gv_in_mem {lv : List (Nat × gv_V)} : ∀ {l2 : List (Nat × gv_V)}, gv_in lv l2 → ∀ q ∈ l2, q ∈ lv
  | [], _, q, h => by cases h
  | a :: r, hi, q, h => by
    rcases List.mem_cons.mp h with h | h
    · rw [h]
      exact gv_mem hi.1
    · exact gv_in_mem hi.2 q h
theorem gv_has {ad : Nat → Nat} {ls : Array Slot} {nL : Nat} {lv l2 : List (Nat × gv_V)} (hi : gv_in lv l2) (h : lv_has ls nL (lv.map (gv_p ad))) : lv_has ls nL (l2.map (gv_p ad)) := by
  refine ⟨h.1, h.2.1, fun q hq => ?_⟩
  obtain ⟨q0, h0, rfl⟩ := List.mem_map.mp hq
  exact h.2.2 _ (List.mem_map.mpr ⟨q0, gv_in_mem hi q0 h0, rfl⟩)
-- the arguments as locals
def gv_args : Nat → List gv_V → List (Nat × gv_V)
  | _, [] => []
  | i, v :: r => (i, v) :: gv_args (i + gv_c v) r
theorem gv_args_eq (ad : Nat → Nat) : ∀ (i : Nat) (vs : List gv_V), lv_args i (vs.map (gv_v ad)) = (gv_args i vs).map (gv_p ad)
  | _, [] => rfl
  | i, v :: r => by
    have h : (if (gv_v ad v).category = 2 then i + 2 else i + 1) = i + gv_c v := by
      rw [gv_cat]
      rcases v with z | w | z <;> simp [gv_c]
    show (i, gv_v ad v) :: lv_args (if (gv_v ad v).category = 2 then i + 2 else i + 1) (r.map (gv_v ad)) = _
    rw [h, gv_args_eq ad _ r]
    rfl
def gv_w : List gv_V → Nat
  | [] => 0
  | v :: r => gv_c v + gv_w r
theorem gv_w_len (ad : Nat → Nat) : ∀ vs : List gv_V, (lg_sl (vs.map (gv_v ad))).length = gv_w vs
  | [] => rfl
  | v :: r => by
    have h := gv_w_len ad r
    have e : lg_sl ((v :: r).map (gv_v ad)) = (if (gv_v ad v).category = 2 then [Slot.val (gv_v ad v), Slot.second] else [Slot.val (gv_v ad v)]) ++ lg_sl (r.map (gv_v ad)) := by
      simp [lg_sl]
    rw [e, List.length_append, h, gv_cat]
    rcases v with z | w | z <;> simp [gv_c, gv_w]
theorem gv_vin {z : Int32} {n : Nat} (h : 0 ≤ z.toInt ∧ z.toInt < (n : Int)) : vp_in z n := vp_in_iff.mpr h
theorem gv_cl (z : Int32) : z.toNatClampNeg = z.toInt.toNat := rfl
/-! CELLS -/
abbrev gc_T : Type := (Nat × List gv_V) ⊕ ((Nat × Nat × (Int → Int32)) ⊕ ((Nat × (Int → Int64)) ⊕ (Nat × Nat × (Int → Option Nat))))
abbrev gc_O (ci : Nat) (fs : List gv_V) : gc_T := Sum.inl (ci, fs)
abbrev gc_I (kd n : Nat) (f : Int → Int32) : gc_T := Sum.inr (Sum.inl (kd, n, f))
abbrev gc_L (n : Nat) (f : Int → Int64) : gc_T := Sum.inr (Sum.inr (Sum.inl (n, f)))
abbrev gc_R (kd n : Nat) (f : Int → Option Nat) : gc_T := Sum.inr (Sum.inr (Sum.inr (kd, n, f)))
def gc_E (ad : Nat → Nat) (ck : Nat → ClassId) : gc_T → va_E
  | .inl (ci, fs) => .inr (ci, fs.map (gv_v ad))
  | .inr (.inl (kd, n, f)) => .inl (ck kd, n, .inl (fun j : Nat => f (j : Int)))
  | .inr (.inr (.inl (n, f))) => .inl (ck 2, n, .inr (.inl (fun j : Nat => f (j : Int))))
  | .inr (.inr (.inr (kd, n, f))) => .inl (ck kd, n, .inr (.inr (.inr (.inr (fun j : Nat => (f (j : Int)).map ad)))))
def gw_L (N : Nat) (ad : Nat → Nat) (ck : Nat → ClassId) (cf : Nat → gc_T) : va_W := (List.range N).map (fun k => (ad k, gc_E ad ck (cf k)))
theorem gw_at {N : Nat} {ad : Nat → Nat} {ck : Nat → ClassId} {cf : Nat → gc_T} {k : Nat} (h : k < N) : (gw_L N ad ck cf)[k]? = some (ad k, gc_E ad ck (cf k)) := by
  simp [gw_L, h]
theorem gw_atE {N : Nat} {ad : Nat → Nat} {ck : Nat → ClassId} {cf : Nat → gc_T} {k : Nat} {x : gc_T} (h : k < N) (e : cf k = x) : (gw_L N ad ck cf)[k]? = some (ad k, gc_E ad ck x) := by
  rw [← e]
  exact gw_at h
/-- one cell is another now -/
def gc_up (cf : Nat → gc_T) (k : Nat) (x : gc_T) (cf2 : Nat → gc_T) : Prop := ∀ j, cf2 j = if j = k then x else cf j
theorem gw_set {N : Nat} {ad : Nat → Nat} {ck : Nat → ClassId} {cf cf2 : Nat → gc_T} {k : Nat} {x : gc_T} (hk : k < N) (h : gc_up cf k x cf2) : (gw_L N ad ck cf).set k (ad k, gc_E ad ck x) = gw_L N ad ck cf2 := by
  apply List.ext_getElem?
  intro j
  by_cases hj : j < N
  · rw [gw_at hj, h j]
    by_cases e : j = k
    · subst e
      rw [List.getElem?_set]
      simp [gw_L, hj]
    · rw [List.getElem?_set, if_neg (fun z => e z.symm), gw_at hj, if_neg e]
  · simp [gw_L, List.getElem?_set, hj]
theorem gw_lt {N : Nat} {ad : Nat → Nat} {ck : Nat → ClassId} {cf : Nat → gc_T} {k : Nat} {q : Nat × va_E} (h : (gw_L N ad ck cf)[k]? = some q) : k < N ∧ q.1 = ad k := by
  have hk : k < N := by
    have := (List.getElem?_eq_some_iff.mp h).1
    simpa [gw_L] using this
  rw [gw_at hk] at h
  exact ⟨hk, by rw [← Option.some.inj h]⟩
theorem gw_D {A : Nat → Prop} {N : Nat} {ad : Nat → Nat} {ck : Nat → ClassId} {cf : Nat → gc_T} (hi : ∀ i j, i < N → j < N → ad i = ad j → i = j) (hA : ∀ i, i < N → A (ad i)) : va_D A (gw_L N ad ck cf) := by
  refine ⟨fun i j p q h1 h2 h3 => ?_, fun k q h => ?_⟩
  · obtain ⟨a1, a2⟩ := gw_lt h1
    obtain ⟨b1, b2⟩ := gw_lt h2
    exact hi i j a1 b1 (by rw [← a2, ← b2]; exact h3)
  · obtain ⟨a1, a2⟩ := gw_lt h
    rw [a2]
    exact hA k a1
/-! UPDATES -/
theorem gz_nat {i : Int} (h : 0 ≤ i) (j : Nat) : ((j : Int) = i) ↔ j = i.toNat := by omega
theorem gz_ue (f : Int → Int32) {i x : Int32} (h0 : 0 ≤ i.toInt) : upd (fun j : Nat => f (j : Int)) i.toNatClampNeg x = fun j : Nat => gz_u f i.toInt x (j : Int) := by
  funext j
  rw [gv_cl]
  unfold upd gz_u
  by_cases h : j = i.toInt.toNat
  · rw [if_pos h, if_pos ((gz_nat h0 j).mpr h)]
  · rw [if_neg h, if_neg (fun z => h ((gz_nat h0 j).mp z))]
theorem gz_ule (f : Int → Int64) {i : Int32} {x : Int64} (h0 : 0 ≤ i.toInt) : vp_updL (fun j : Nat => f (j : Int)) i.toNatClampNeg x = fun j : Nat => gz_ul f i.toInt x (j : Int) := by
  funext j
  rw [gv_cl]
  unfold vp_updL gz_ul
  by_cases h : j = i.toInt.toNat
  · rw [if_pos h, if_pos ((gz_nat h0 j).mpr h)]
  · rw [if_neg h, if_neg (fun z => h ((gz_nat h0 j).mp z))]
theorem gz_ix {i : Int32} (h0 : 0 ≤ i.toInt) : ((i.toNatClampNeg : Nat) : Int) = i.toInt := by
  rw [gv_cl]
  omega
/-! THE JUDGEMENT -/
/-! WHAT LIES OLDER THAN THE WORLD (below the address ck 10): texts, the JDK's statics, the two tables of the gates (at ck 11, ck 12) -/
def gk_strs : List (Nat × String) := [(50, "no such group"), (207, "no place"), (65, "no net"), (201, "no such pin"), (104, "no bank"), (109, "neither a bank nor NONE"), (144, "no such side"), (174, "no such note"), (180, "not 1 to 4 inputs"), (182, "too many bits in the table"), (188, "no such gate")]
def gk_ord : List Int32 := [12816, 12801, 12576, 12546, 12321, 12306, 8976, 8961, 8496, 8451, 8241, 8211, 4896, 4866, 4656, 4611, 4146, 4131, 801, 786, 561, 531, 306, 291]
def gk_cnt : List Int32 := [0, 1, 2, 6, 24]
def gk_Tw : List Cond := lw_tbl.filter Cond.tabsOnly
theorem gk_lays {C n d : String} {A : Nat → Prop} {u U : State} (hal : u.vm.Alike U.vm) (hZ : va_Zq C n d A u u.heap) (hH : ∀ a : Nat, a < u.heap.size → ¬ A a → U.heap[a]? = u.heap[a]?) (h : (Cond.laysStatic C n d).before #[] u = true) : (Cond.laysStatic C n d).before #[] U = true := by
  obtain ⟨cc, k, ix, f, ad, cell, h1, h2, h3, h4, h5, h6, h7, h8, h9⟩ := Cond.laysStatic_spec h
  obtain ⟨k', hf', he⟩ := State.fieldFound?_setVm hal h2
  have hna : ¬ A ad := by
    rcases hZ with hZ | ⟨t, hZ⟩ <;>
    · obtain ⟨cf, kf, fi, f1, a, cell1, g1, g2, g3, g4, g5, g6, g7, g8⟩ := hZ
      cases h2.symm.trans g1
      cases h4.symm.trans g4
      exact g8
  exact Cond.laysStatic_of (s := U) (by rw [hal.findClass]; exact h1) hf' h3 (by rw [he]; exact h4) (by rw [hH ad (Array.getElem?_eq_some_iff.mp h5).1 hna]; exact h5) h6 h7 h8 (by rw [he]; exact h9)
def gk_E (ck : Nat → ClassId) (U : State) : Prop :=
  ((∀ w ∈ gk_Tw, w.before #[] U = true) ∧ (Cond.laysStatic "java/lang/Throwable" "UNASSIGNED_STACK" "[Ljava/lang/StackTraceElement;").before #[] U = true ∧ (Cond.laysStatic "java/lang/Throwable" "SUPPRESSED_SENTINEL" "Ljava/util/List;").before #[] U = true) ∧
  (∀ q ∈ gk_strs, ∃ a : Nat, vk_R "PinSwaps" q.1 q.2 a U) ∧
  va_Zq "java/lang/Throwable" "UNASSIGNED_STACK" "[Ljava/lang/StackTraceElement;" (fun q => ck 10 ≤ q) U U.heap ∧
  va_Zq "java/lang/Throwable" "SUPPRESSED_SENTINEL" "Ljava/util/List;" (fun q => ck 10 ≤ q) U U.heap ∧
  va_Z "PinSwaps$Gates" "ORDERS" "[I" (.ref (ck 11)) (fun q => ck 10 ≤ q) U U.heap ∧
  va_T .int (ck 11) 24 (fun j => .int (gk_ord.getD j 0)) (fun q => ck 10 ≤ q) U U.heap ∧
  va_Z "PinSwaps$Gates" "ORDER_COUNT" "[I" (.ref (ck 12)) (fun q => ck 10 ≤ q) U U.heap ∧
  va_T .int (ck 12) 5 (fun j => .int (gk_cnt.getD j 0)) (fun q => ck 10 ≤ q) U U.heap ∧
  (∀ cX cT, U.vm.findClass "java/lang/IllegalArgumentException" = some cX → U.vm.findClass "java/lang/IndexOutOfBoundsException" = some cT → U.vm.assignable cX cT = false)
theorem gk_E.go {ck : Nat → ClassId} {u U : State} (hW : u.WarmedH U.vm) (hH : ∀ a : Nat, a < u.heap.size → ¬ ck 10 ≤ a → U.heap[a]? = u.heap[a]?) (h : gk_E ck u) : gk_E ck U := by
  obtain ⟨⟨h01, h02, h03⟩, h1, h2, h3, h4, h5, h6, h7, h8⟩ := h
  have ha := hW.alike
  refine ⟨⟨fun w hw => ?_, gk_lays ha h2 hH h02, gk_lays ha h3 hH h03⟩, fun q hq => ?_, (h2.kept hH).moved ha, (h3.kept hH).moved ha, (h4.kept hH).moved ha, (h5.kept hH).moved ha, (h6.kept hH).moved ha, (h7.kept hH).moved ha, fun cX cT e1 e2 => ?_⟩
  · have h9 := Cond.tabsOnly_warm (args' := #[]) (T := U) hW w (List.mem_filter.mp hw).2 (h01 w hw)
    rwa [State.setVm_self] at h9
  · obtain ⟨a, h⟩ := h1 q hq
    exact ⟨a, h.warm hW⟩
  · rw [ha.assignable]
    rw [ha.findClass] at e1 e2
    exact h8 cX cT e1 e2
def gm_E (ck : Nat → ClassId) (ad : Nat → Nat) (U : State) : Prop := ((∀ i, i < 81 → ck 10 ≤ ad i) ∧ ad 90 = ck 11 ∧ ad 91 = ck 12) ∧ ck 10 ≤ U.heap.size ∧ gk_E ck U
theorem gm_E.go {ck : Nat → ClassId} {ad : Nat → Nat} {A : Nat → Prop} {u U : State} {H : Heap} {locs : List Loc} (hU : U.heap = H) (hW : u.WarmedH U.vm) (hA : ∀ q, A q → ck 10 ≤ q) (hS : va_S A u.heap H locs) (h : gm_E ck ad u) : gm_E ck ad U := by
  obtain ⟨h1, h2, h3⟩ := h
  refine ⟨h1, by rw [hU]; exact Nat.le_trans h2 hS.1, h3.go hW fun a ha hn => ?_⟩
  rw [hU]
  exact hS.2.1 a ha (fun z => hn (hA a z))
def gv_tys (ck : Nat → ClassId) : List (ClassId × FieldType) := [(ck 0, .int), (ck 1, .boolean), (ck 2, .long), (ck 3, .array .long), (ck 4, .array .int)]
abbrev gx_X : Type := Program × Launch × Env × State × MethodId × Array Value × List Frame × Method × Code × (State → Prop) × va_G × (Nat → Prop) × (Nat → Nat) × (Nat → ClassId)
abbrev gx_l (x : gx_X) : Launch := x.2.1
abbrev gx_s (x : gx_X) : State := x.2.2.2.1
abbrev gx_D (x : gx_X) : va_G := x.2.2.2.2.2.2.2.2.2.2.1
abbrev gx_ad (x : gx_X) : Nat → Nat := x.2.2.2.2.2.2.2.2.2.2.2.2.1
abbrev gx_ck (x : gx_X) : Nat → ClassId := x.2.2.2.2.2.2.2.2.2.2.2.2.2
/-- what holds all through a method's walk: N cells, of which those below w may be written; the method's class, its code, its locals -/
def gw_C (N w : Nat) (own : String) (cc : ByteArray) (nL : Nat) : gx_X → Prop
  | (p, _, _, s, m, args, _, meth, c, _, D, A, ad, ck) =>
    p.tables.exec = Jvm.exec ∧ c.code = cc ∧ c.maxLocals = nL ∧ s.vm.findClass own = some m.cls ∧ (∀ w ∈ gw_T, w.before args s = true) ∧ (∀ w ∈ gw_Nl, va_Nw w s) ∧ va_K D vwCl (gv_tys ck) s ∧ (∀ q, s.heap.size ≤ q → A q) ∧ (∀ i j, i < N → j < N → ad i = ad j → i = j) ∧ (∀ i, i < w → A (ad i)) ∧ meth.locks = false ∧ (∀ q, A q → ck 10 ≤ q) ∧ gm_E ck ad s
/-- the walk stands at pc, with the cells cf, the locals lv, the stack st (k new cells, n new slots so far) -/
def gw_G (N nL : Nat) (R : Room) (x : gx_X) (k n : Nat) (cf : Nat → gc_T) (pc : Nat) (lv : List (Nat × gv_V)) (st : List gv_V) : Prop := match x with
  | (p, l, e, s, m, args, below, meth, c, Q, D, A, ad, ck) => ∀ (H : Heap) (locs : List Loc) (ls : Array Slot), va_P D vwCl (gw_L N ad ck cf) H → va_S A s.heap H locs → lv_has ls nL (lv.map (gv_p ad)) → W p l e R s m args below meth c H locs k n Q (F0 m pc ls (st.map (gv_v ad)))
section GX
variable {N w nL : Nat} {own : String} {cc : ByteArray} {R : Room} {x : gx_X} {k n : Nat} {cf : Nat → gc_T} {pc : Nat} {lv : List (Nat × gv_V)} {st : List gv_V}
theorem gx_lv (l2 : List (Nat × gv_V)) (hi : gv_in lv l2) (kk : gw_G N nL R x k n cf pc l2 st) : gw_G N nL R x k n cf pc lv st := by
  obtain ⟨p, l, e, s, m, args, below, meth, c, Q, D, A, ad, ck⟩ := x
  intro H locs ls hP hS hl
  exact kk H locs ls hP hS (gv_has hi hl)
theorem gx_iconst (hC : gw_C N w own cc nL x) {z : Int} {v : Int32} (hd : decode cc pc = .ok (.iconst z, 1)) (hz : Int32.ofInt z = v)
    (kk : gw_G N nL R x k n cf (pc + 1) lv (gv_I v :: st)) : gw_G N nL R x k n cf pc lv st := by
  obtain ⟨p, l, e, s, m, args, below, meth, c, Q, D, A, ad, ck⟩ := x
  obtain ⟨hx, hb, hml, hown, hts, hnw, hK, hA, hij, hAd, hlk⟩ := hC
  intro H locs ls hP hS hl
  exact lv_iconst hx hb hd hz (kk H locs ls hP hS hl)
theorem gx_bipush (hC : gw_C N w own cc nL x) {z : Int} {v : Int32} (hd : decode cc pc = .ok (.bipush z, 2)) (hz : (Int8.ofInt z).toInt32 = v)
    (kk : gw_G N nL R x k n cf (pc + 2) lv (gv_I v :: st)) : gw_G N nL R x k n cf pc lv st := by
  obtain ⟨p, l, e, s, m, args, below, meth, c, Q, D, A, ad, ck⟩ := x
  obtain ⟨hx, hb, hml, hown, hts, hnw, hK, hA, hij, hAd, hlk⟩ := hC
  intro H locs ls hP hS hl
  exact lv_bipush hx hb hd hz (kk H locs ls hP hS hl)
theorem gx_sipush (hC : gw_C N w own cc nL x) {z : Int} {v : Int32} (hd : decode cc pc = .ok (.sipush z, 3)) (hz : (Int16.ofInt z).toInt32 = v)
    (kk : gw_G N nL R x k n cf (pc + 3) lv (gv_I v :: st)) : gw_G N nL R x k n cf pc lv st := by
  obtain ⟨p, l, e, s, m, args, below, meth, c, Q, D, A, ad, ck⟩ := x
  obtain ⟨hx, hb, hml, hown, hts, hnw, hK, hA, hij, hAd, hlk⟩ := hC
  intro H locs ls hP hS hl
  exact lv_sipush hx hb hd hz (kk H locs ls hP hS hl)
theorem gx_lconst (hC : gw_C N w own cc nL x) {z : Fin 2} (hd : decode cc pc = .ok (.lconst z, 1)) 
    (kk : gw_G N nL R x k n cf (pc + 1) lv (gv_L (Int64.ofNat z) :: st)) : gw_G N nL R x k n cf pc lv st := by
  obtain ⟨p, l, e, s, m, args, below, meth, c, Q, D, A, ad, ck⟩ := x
  obtain ⟨hx, hb, hml, hown, hts, hnw, hK, hA, hij, hAd, hlk⟩ := hC
  intro H locs ls hP hS hl
  exact lv_lconst hx hb hd rfl (kk H locs ls hP hS hl)
theorem gx_ldc (hC : gw_C N w own cc nL x) {i : Nat} {v : Int32} (hd : decode cc pc = .ok (.ldc i, 2)) (hw : Cond.constant own i v ∈ gw_T)
    (kk : gw_G N nL R x k n cf (pc + 2) lv (gv_I v :: st)) : gw_G N nL R x k n cf pc lv st := by
  obtain ⟨p, l, e, s, m, args, below, meth, c, Q, D, A, ad, ck⟩ := x
  obtain ⟨hx, hb, hml, hown, hts, hnw, hK, hA, hij, hAd, hlk⟩ := hC
  intro H locs ls hP hS hl
  exact lv_ldc hx hb hown (hts _ hw) hd (kk H locs ls hP hS hl)
theorem gx_ldc2 (hC : gw_C N w own cc nL x) {i : Nat} {v : Int64} (hd : decode cc pc = .ok (.ldc2_w i, 3)) (hw : Cond.constantLong own i v ∈ gw_T)
    (kk : gw_G N nL R x k n cf (pc + 3) lv (gv_L v :: st)) : gw_G N nL R x k n cf pc lv st := by
  obtain ⟨p, l, e, s, m, args, below, meth, c, Q, D, A, ad, ck⟩ := x
  obtain ⟨hx, hb, hml, hown, hts, hnw, hK, hA, hij, hAd, hlk⟩ := hC
  intro H locs ls hP hS hl
  exact lv_ldc2 hx hb hown (hts _ hw) hd (kk H locs ls hP hS hl)
theorem gx_iload_n (hC : gw_C N w own cc nL x) {i : Fin 4} {z : Int32} (hd : decode cc pc = .ok (.iload_n i, 1)) (hv : gv_g lv i.val = some (gv_I z))
    (kk : gw_G N nL R x k n cf (pc + 1) lv (gv_I z :: st)) : gw_G N nL R x k n cf pc lv st := by
  obtain ⟨p, l, e, s, m, args, below, meth, c, Q, D, A, ad, ck⟩ := x
  obtain ⟨hx, hb, hml, hown, hts, hnw, hK, hA, hij, hAd, hlk⟩ := hC
  intro H locs ls hP hS hl
  exact lv_iload_n hx hb hd rfl (gv_at hl hv) (kk H locs ls hP hS hl)
theorem gx_iload (hC : gw_C N w own cc nL x) {i : Nat} {z : Int32} (hd : decode cc pc = .ok (.iload i, 2)) (hv : gv_g lv i = some (gv_I z))
    (kk : gw_G N nL R x k n cf (pc + 2) lv (gv_I z :: st)) : gw_G N nL R x k n cf pc lv st := by
  obtain ⟨p, l, e, s, m, args, below, meth, c, Q, D, A, ad, ck⟩ := x
  obtain ⟨hx, hb, hml, hown, hts, hnw, hK, hA, hij, hAd, hlk⟩ := hC
  intro H locs ls hP hS hl
  exact lv_iload hx hb hd (gv_at hl hv) (kk H locs ls hP hS hl)
theorem gx_lload_n (hC : gw_C N w own cc nL x) {i : Fin 4} {z : Int64} (hd : decode cc pc = .ok (.lload_n i, 1)) (hv : gv_g lv i.val = some (gv_L z))
    (kk : gw_G N nL R x k n cf (pc + 1) lv (gv_L z :: st)) : gw_G N nL R x k n cf pc lv st := by
  obtain ⟨p, l, e, s, m, args, below, meth, c, Q, D, A, ad, ck⟩ := x
  obtain ⟨hx, hb, hml, hown, hts, hnw, hK, hA, hij, hAd, hlk⟩ := hC
  intro H locs ls hP hS hl
  exact lv_lload_n hx hb hd rfl (gv_at hl hv) (kk H locs ls hP hS hl)
theorem gx_lload (hC : gw_C N w own cc nL x) {i : Nat} {z : Int64} (hd : decode cc pc = .ok (.lload i, 2)) (hv : gv_g lv i = some (gv_L z))
    (kk : gw_G N nL R x k n cf (pc + 2) lv (gv_L z :: st)) : gw_G N nL R x k n cf pc lv st := by
  obtain ⟨p, l, e, s, m, args, below, meth, c, Q, D, A, ad, ck⟩ := x
  obtain ⟨hx, hb, hml, hown, hts, hnw, hK, hA, hij, hAd, hlk⟩ := hC
  intro H locs ls hP hS hl
  exact lv_lload hx hb hd (gv_at hl hv) (kk H locs ls hP hS hl)
theorem gx_aload_n (hC : gw_C N w own cc nL x) {i : Fin 4} {z : Nat} (hd : decode cc pc = .ok (.aload_n i, 1)) (hv : gv_g lv i.val = some (gv_R z))
    (kk : gw_G N nL R x k n cf (pc + 1) lv (gv_R z :: st)) : gw_G N nL R x k n cf pc lv st := by
  obtain ⟨p, l, e, s, m, args, below, meth, c, Q, D, A, ad, ck⟩ := x
  obtain ⟨hx, hb, hml, hown, hts, hnw, hK, hA, hij, hAd, hlk⟩ := hC
  intro H locs ls hP hS hl
  exact lv_aload_n hx hb hd rfl (gv_at hl hv) (kk H locs ls hP hS hl)
theorem gx_aload (hC : gw_C N w own cc nL x) {i : Nat} {z : Nat} (hd : decode cc pc = .ok (.aload i, 2)) (hv : gv_g lv i = some (gv_R z))
    (kk : gw_G N nL R x k n cf (pc + 2) lv (gv_R z :: st)) : gw_G N nL R x k n cf pc lv st := by
  obtain ⟨p, l, e, s, m, args, below, meth, c, Q, D, A, ad, ck⟩ := x
  obtain ⟨hx, hb, hml, hown, hts, hnw, hK, hA, hij, hAd, hlk⟩ := hC
  intro H locs ls hP hS hl
  exact lv_aload hx hb hd (gv_at hl hv) (kk H locs ls hP hS hl)
theorem gx_istore (hC : gw_C N w own cc nL x) {i : Nat} {z : Int32} (hd : decode cc pc = .ok (.istore i, 2)) (hn : i < nL)
    (kk : gw_G N nL R x k n cf (pc + 2) (gv_s lv i (gv_I z)) st) : gw_G N nL R x k n cf pc lv (gv_I z :: st) := by
  obtain ⟨p, l, e, s, m, args, below, meth, c, Q, D, A, ad, ck⟩ := x
  obtain ⟨hx, hb, hml, hown, hts, hnw, hK, hA, hij, hAd, hlk⟩ := hC
  intro H locs ls hP hS hl
  exact lv_istore hx hb hd hl hn rfl (fun ls2 h2 => kk H locs ls2 hP hS (gv_st1 (v := gv_I z) rfl h2))
theorem gx_istore_n (hC : gw_C N w own cc nL x) {i : Fin 4} {z : Int32} (hd : decode cc pc = .ok (.istore_n i, 1)) (hn : i.val < nL)
    (kk : gw_G N nL R x k n cf (pc + 1) (gv_s lv i.val (gv_I z)) st) : gw_G N nL R x k n cf pc lv (gv_I z :: st) := by
  obtain ⟨p, l, e, s, m, args, below, meth, c, Q, D, A, ad, ck⟩ := x
  obtain ⟨hx, hb, hml, hown, hts, hnw, hK, hA, hij, hAd, hlk⟩ := hC
  intro H locs ls hP hS hl
  exact lv_istore_n hx hb hd rfl hl hn rfl (fun ls2 h2 => kk H locs ls2 hP hS (gv_st1 (v := gv_I z) rfl h2))
theorem gx_lstore (hC : gw_C N w own cc nL x) {i : Nat} {z : Int64} (hd : decode cc pc = .ok (.lstore i, 2)) (hn : i + 1 < nL)
    (kk : gw_G N nL R x k n cf (pc + 2) (gv_s lv i (gv_L z)) st) : gw_G N nL R x k n cf pc lv (gv_L z :: st) := by
  obtain ⟨p, l, e, s, m, args, below, meth, c, Q, D, A, ad, ck⟩ := x
  obtain ⟨hx, hb, hml, hown, hts, hnw, hK, hA, hij, hAd, hlk⟩ := hC
  intro H locs ls hP hS hl
  exact lv_lstore hx hb hd hl hn rfl (fun ls2 h2 => kk H locs ls2 hP hS (gv_st2 (v := gv_L z) rfl h2))
theorem gx_lstore_n (hC : gw_C N w own cc nL x) {i : Fin 4} {z : Int64} (hd : decode cc pc = .ok (.lstore_n i, 1)) (hn : i.val + 1 < nL)
    (kk : gw_G N nL R x k n cf (pc + 1) (gv_s lv i.val (gv_L z)) st) : gw_G N nL R x k n cf pc lv (gv_L z :: st) := by
  obtain ⟨p, l, e, s, m, args, below, meth, c, Q, D, A, ad, ck⟩ := x
  obtain ⟨hx, hb, hml, hown, hts, hnw, hK, hA, hij, hAd, hlk⟩ := hC
  intro H locs ls hP hS hl
  exact lv_lstore_n hx hb hd rfl hl hn rfl (fun ls2 h2 => kk H locs ls2 hP hS (gv_st2 (v := gv_L z) rfl h2))
theorem gx_astore (hC : gw_C N w own cc nL x) {i : Nat} {z : Nat} (hd : decode cc pc = .ok (.astore i, 2)) (hn : i < nL)
    (kk : gw_G N nL R x k n cf (pc + 2) (gv_s lv i (gv_R z)) st) : gw_G N nL R x k n cf pc lv (gv_R z :: st) := by
  obtain ⟨p, l, e, s, m, args, below, meth, c, Q, D, A, ad, ck⟩ := x
  obtain ⟨hx, hb, hml, hown, hts, hnw, hK, hA, hij, hAd, hlk⟩ := hC
  intro H locs ls hP hS hl
  exact lv_astore hx hb hd hl hn rfl (fun ls2 h2 => kk H locs ls2 hP hS (gv_st1 (v := gv_R z) rfl h2))
theorem gx_astore_n (hC : gw_C N w own cc nL x) {i : Fin 4} {z : Nat} (hd : decode cc pc = .ok (.astore_n i, 1)) (hn : i.val < nL)
    (kk : gw_G N nL R x k n cf (pc + 1) (gv_s lv i.val (gv_R z)) st) : gw_G N nL R x k n cf pc lv (gv_R z :: st) := by
  obtain ⟨p, l, e, s, m, args, below, meth, c, Q, D, A, ad, ck⟩ := x
  obtain ⟨hx, hb, hml, hown, hts, hnw, hK, hA, hij, hAd, hlk⟩ := hC
  intro H locs ls hP hS hl
  exact lv_astore_n hx hb hd rfl hl hn rfl (fun ls2 h2 => kk H locs ls2 hP hS (gv_st1 (v := gv_R z) rfl h2))
theorem gx_iinc (hC : gw_C N w own cc nL x) {i : Nat} {d : Int} {z v : Int32} (hd : decode cc pc = .ok (.iinc i d, 3)) (hv : gv_g lv i = some (gv_I z)) (hn : i < nL) (hz : z + Int32.ofInt d = v)
    (kk : gw_G N nL R x k n cf (pc + 3) (gv_s lv i (gv_I v)) st) : gw_G N nL R x k n cf pc lv st := by
  obtain ⟨p, l, e, s, m, args, below, meth, c, Q, D, A, ad, ck⟩ := x
  obtain ⟨hx, hb, hml, hown, hts, hnw, hK, hA, hij, hAd, hlk⟩ := hC
  intro H locs ls hP hS hl
  have h1 := gv_mem hv
  have h2 : (i, Value.int z) ∈ lv.map (gv_p ad) := List.mem_map.mpr ⟨_, h1, rfl⟩
  obtain ⟨j, hj⟩ := List.getElem?_of_mem h2
  exact lv_iinc (k := j) hx hb hd hl hj hz hn rfl (fun ls2 h3 => kk H locs ls2 hP hS (gv_st1 (v := gv_I v) rfl h3))
theorem gx_iadd (hC : gw_C N w own cc nL x) {a b : Int32} (hd : decode cc pc = .ok (.iadd, 1)) 
    (kk : gw_G N nL R x k n cf (pc + 1) lv (gv_I (a + b) :: st)) : gw_G N nL R x k n cf pc lv (gv_I b :: gv_I a :: st) := by
  obtain ⟨p, l, e, s, m, args, below, meth, c, Q, D, A, ad, ck⟩ := x
  obtain ⟨hx, hb, hml, hown, hts, hnw, hK, hA, hij, hAd, hlk⟩ := hC
  intro H locs ls hP hS hl
  exact lv_iadd hx hb hd (kk H locs ls hP hS hl)
theorem gx_isub (hC : gw_C N w own cc nL x) {a b : Int32} (hd : decode cc pc = .ok (.isub, 1)) 
    (kk : gw_G N nL R x k n cf (pc + 1) lv (gv_I (a - b) :: st)) : gw_G N nL R x k n cf pc lv (gv_I b :: gv_I a :: st) := by
  obtain ⟨p, l, e, s, m, args, below, meth, c, Q, D, A, ad, ck⟩ := x
  obtain ⟨hx, hb, hml, hown, hts, hnw, hK, hA, hij, hAd, hlk⟩ := hC
  intro H locs ls hP hS hl
  exact lv_isub hx hb hd (kk H locs ls hP hS hl)
theorem gx_imul (hC : gw_C N w own cc nL x) {a b : Int32} (hd : decode cc pc = .ok (.imul, 1)) 
    (kk : gw_G N nL R x k n cf (pc + 1) lv (gv_I (a * b) :: st)) : gw_G N nL R x k n cf pc lv (gv_I b :: gv_I a :: st) := by
  obtain ⟨p, l, e, s, m, args, below, meth, c, Q, D, A, ad, ck⟩ := x
  obtain ⟨hx, hb, hml, hown, hts, hnw, hK, hA, hij, hAd, hlk⟩ := hC
  intro H locs ls hP hS hl
  exact lv_imul hx hb hd (kk H locs ls hP hS hl)
theorem gx_ishl (hC : gw_C N w own cc nL x) {a b : Int32} (hd : decode cc pc = .ok (.ishl, 1)) 
    (kk : gw_G N nL R x k n cf (pc + 1) lv (gv_I (a <<< (b &&& 31)) :: st)) : gw_G N nL R x k n cf pc lv (gv_I b :: gv_I a :: st) := by
  obtain ⟨p, l, e, s, m, args, below, meth, c, Q, D, A, ad, ck⟩ := x
  obtain ⟨hx, hb, hml, hown, hts, hnw, hK, hA, hij, hAd, hlk⟩ := hC
  intro H locs ls hP hS hl
  exact lv_ishl hx hb hd (kk H locs ls hP hS hl)
theorem gx_ishr (hC : gw_C N w own cc nL x) {a b : Int32} (hd : decode cc pc = .ok (.ishr, 1)) 
    (kk : gw_G N nL R x k n cf (pc + 1) lv (gv_I (a >>> (b &&& 31)) :: st)) : gw_G N nL R x k n cf pc lv (gv_I b :: gv_I a :: st) := by
  obtain ⟨p, l, e, s, m, args, below, meth, c, Q, D, A, ad, ck⟩ := x
  obtain ⟨hx, hb, hml, hown, hts, hnw, hK, hA, hij, hAd, hlk⟩ := hC
  intro H locs ls hP hS hl
  exact lv_ishr hx hb hd (kk H locs ls hP hS hl)
theorem gx_iand (hC : gw_C N w own cc nL x) {a b : Int32} (hd : decode cc pc = .ok (.iand, 1)) 
    (kk : gw_G N nL R x k n cf (pc + 1) lv (gv_I (a &&& b) :: st)) : gw_G N nL R x k n cf pc lv (gv_I b :: gv_I a :: st) := by
  obtain ⟨p, l, e, s, m, args, below, meth, c, Q, D, A, ad, ck⟩ := x
  obtain ⟨hx, hb, hml, hown, hts, hnw, hK, hA, hij, hAd, hlk⟩ := hC
  intro H locs ls hP hS hl
  exact lv_iand hx hb hd (kk H locs ls hP hS hl)
theorem gx_ior (hC : gw_C N w own cc nL x) {a b : Int32} (hd : decode cc pc = .ok (.ior, 1)) 
    (kk : gw_G N nL R x k n cf (pc + 1) lv (gv_I (a ||| b) :: st)) : gw_G N nL R x k n cf pc lv (gv_I b :: gv_I a :: st) := by
  obtain ⟨p, l, e, s, m, args, below, meth, c, Q, D, A, ad, ck⟩ := x
  obtain ⟨hx, hb, hml, hown, hts, hnw, hK, hA, hij, hAd, hlk⟩ := hC
  intro H locs ls hP hS hl
  exact lv_ior hx hb hd (kk H locs ls hP hS hl)
theorem gx_irem (hC : gw_C N w own cc nL x) {a b : Int32} (hd : decode cc pc = .ok (.irem, 1)) (hne : ¬ b = 0)
    (kk : gw_G N nL R x k n cf (pc + 1) lv (gv_I (a - a / b * b) :: st)) : gw_G N nL R x k n cf pc lv (gv_I b :: gv_I a :: st) := by
  obtain ⟨p, l, e, s, m, args, below, meth, c, Q, D, A, ad, ck⟩ := x
  obtain ⟨hx, hb, hml, hown, hts, hnw, hK, hA, hij, hAd, hlk⟩ := hC
  intro H locs ls hP hS hl
  exact lv_irem hx hb hd hne (kk H locs ls hP hS hl)
theorem gx_ladd (hC : gw_C N w own cc nL x) {a b : Int64} (hd : decode cc pc = .ok (.ladd, 1)) 
    (kk : gw_G N nL R x k n cf (pc + 1) lv (gv_L (a + b) :: st)) : gw_G N nL R x k n cf pc lv (gv_L b :: gv_L a :: st) := by
  obtain ⟨p, l, e, s, m, args, below, meth, c, Q, D, A, ad, ck⟩ := x
  obtain ⟨hx, hb, hml, hown, hts, hnw, hK, hA, hij, hAd, hlk⟩ := hC
  intro H locs ls hP hS hl
  exact lv_ladd hx hb hd (kk H locs ls hP hS hl)
theorem gx_lsub (hC : gw_C N w own cc nL x) {a b : Int64} (hd : decode cc pc = .ok (.lsub, 1)) 
    (kk : gw_G N nL R x k n cf (pc + 1) lv (gv_L (a - b) :: st)) : gw_G N nL R x k n cf pc lv (gv_L b :: gv_L a :: st) := by
  obtain ⟨p, l, e, s, m, args, below, meth, c, Q, D, A, ad, ck⟩ := x
  obtain ⟨hx, hb, hml, hown, hts, hnw, hK, hA, hij, hAd, hlk⟩ := hC
  intro H locs ls hP hS hl
  exact lv_lsub hx hb hd (kk H locs ls hP hS hl)
theorem gx_lmul (hC : gw_C N w own cc nL x) {a b : Int64} (hd : decode cc pc = .ok (.lmul, 1)) 
    (kk : gw_G N nL R x k n cf (pc + 1) lv (gv_L (a * b) :: st)) : gw_G N nL R x k n cf pc lv (gv_L b :: gv_L a :: st) := by
  obtain ⟨p, l, e, s, m, args, below, meth, c, Q, D, A, ad, ck⟩ := x
  obtain ⟨hx, hb, hml, hown, hts, hnw, hK, hA, hij, hAd, hlk⟩ := hC
  intro H locs ls hP hS hl
  exact lv_lmul hx hb hd (kk H locs ls hP hS hl)
theorem gx_land (hC : gw_C N w own cc nL x) {a b : Int64} (hd : decode cc pc = .ok (.land, 1)) 
    (kk : gw_G N nL R x k n cf (pc + 1) lv (gv_L (a &&& b) :: st)) : gw_G N nL R x k n cf pc lv (gv_L b :: gv_L a :: st) := by
  obtain ⟨p, l, e, s, m, args, below, meth, c, Q, D, A, ad, ck⟩ := x
  obtain ⟨hx, hb, hml, hown, hts, hnw, hK, hA, hij, hAd, hlk⟩ := hC
  intro H locs ls hP hS hl
  exact lv_land hx hb hd (kk H locs ls hP hS hl)
theorem gx_lor (hC : gw_C N w own cc nL x) {a b : Int64} (hd : decode cc pc = .ok (.lor, 1)) 
    (kk : gw_G N nL R x k n cf (pc + 1) lv (gv_L (a ||| b) :: st)) : gw_G N nL R x k n cf pc lv (gv_L b :: gv_L a :: st) := by
  obtain ⟨p, l, e, s, m, args, below, meth, c, Q, D, A, ad, ck⟩ := x
  obtain ⟨hx, hb, hml, hown, hts, hnw, hK, hA, hij, hAd, hlk⟩ := hC
  intro H locs ls hP hS hl
  exact lv_lor hx hb hd (kk H locs ls hP hS hl)
theorem gx_lshl (hC : gw_C N w own cc nL x) {a : Int64} {b : Int32} (hd : decode cc pc = .ok (.lshl, 1)) 
    (kk : gw_G N nL R x k n cf (pc + 1) lv (gv_L (a <<< (b.toInt64 &&& 63)) :: st)) : gw_G N nL R x k n cf pc lv (gv_I b :: gv_L a :: st) := by
  obtain ⟨p, l, e, s, m, args, below, meth, c, Q, D, A, ad, ck⟩ := x
  obtain ⟨hx, hb, hml, hown, hts, hnw, hK, hA, hij, hAd, hlk⟩ := hC
  intro H locs ls hP hS hl
  exact lv_lshl hx hb hd rfl (kk H locs ls hP hS hl)
theorem gx_i2l (hC : gw_C N w own cc nL x) {a : Int32} (hd : decode cc pc = .ok (.i2l, 1)) 
    (kk : gw_G N nL R x k n cf (pc + 1) lv (gv_L (a.toInt64) :: st)) : gw_G N nL R x k n cf pc lv (gv_I a :: st) := by
  obtain ⟨p, l, e, s, m, args, below, meth, c, Q, D, A, ad, ck⟩ := x
  obtain ⟨hx, hb, hml, hown, hts, hnw, hK, hA, hij, hAd, hlk⟩ := hC
  intro H locs ls hP hS hl
  exact lv_i2l hx hb hd rfl (kk H locs ls hP hS hl)
theorem gx_dup (hC : gw_C N w own cc nL x) {v : gv_V} (hd : decode cc pc = .ok (.dup, 1)) (hv : gv_c v = 1)
    (kk : gw_G N nL R x k n cf (pc + 1) lv (v :: v :: st)) : gw_G N nL R x k n cf pc lv (v :: st) := by
  obtain ⟨p, l, e, s, m, args, below, meth, c, Q, D, A, ad, ck⟩ := x
  obtain ⟨hx, hb, hml, hown, hts, hnw, hK, hA, hij, hAd, hlk⟩ := hC
  intro H locs ls hP hS hl
  exact lv_dup hx hb hd ((gv_cat ad v).trans hv) (kk H locs ls hP hS hl)
theorem gx_dup2 (hC : gw_C N w own cc nL x) {v v2 : gv_V} (hd : decode cc pc = .ok (.dup2, 1)) (hv : gv_c v = 1) (hv2 : gv_c v2 = 1)
    (kk : gw_G N nL R x k n cf (pc + 1) lv (v :: v2 :: v :: v2 :: st)) : gw_G N nL R x k n cf pc lv (v :: v2 :: st) := by
  obtain ⟨p, l, e, s, m, args, below, meth, c, Q, D, A, ad, ck⟩ := x
  obtain ⟨hx, hb, hml, hown, hts, hnw, hK, hA, hij, hAd, hlk⟩ := hC
  intro H locs ls hP hS hl
  exact lv_dup2_11 hx hb hd ((gv_cat ad v).trans hv) ((gv_cat ad v2).trans hv2) (kk H locs ls hP hS hl)
theorem gx_goto (hC : gw_C N w own cc nL x) {off : Int} {tgt : Nat} (hd : decode cc pc = .ok (.goto off, 3)) (ht : (pc : Int) + off = (tgt : Int))
    (kk : gw_G N nL R x k n cf tgt lv st) : gw_G N nL R x k n cf pc lv st := by
  obtain ⟨p, l, e, s, m, args, below, meth, c, Q, D, A, ad, ck⟩ := x
  obtain ⟨hx, hb, hml, hown, hts, hnw, hK, hA, hij, hAd, hlk⟩ := hC
  intro H locs ls hP hS hl
  exact lv_goto hx hb hd ht (kk H locs ls hP hS hl)
theorem gx_icmp_eq (hC : gw_C N w own cc nL x) {a b : Int32} {off : Int} {tgt : Nat} (hd : decode cc pc = .ok (.if_icmp .eq off, 3)) (ht : (pc : Int) + off = (tgt : Int))
    (kt : a = b → gw_G N nL R x k n cf tgt lv st) (kf : ¬ a = b → gw_G N nL R x k n cf (pc + 3) lv st) : gw_G N nL R x k n cf pc lv (gv_I b :: gv_I a :: st) := by
  obtain ⟨p, l, e, s, m, args, below, meth, c, Q, D, A, ad, ck⟩ := x
  obtain ⟨hx, hb, hml, hown, hts, hnw, hK, hA, hij, hAd, hlk⟩ := hC
  intro H locs ls hP hS hl
  exact lv_icmp_eq hx hb hd ht (fun h => kt h H locs ls hP hS hl) (fun h => kf h H locs ls hP hS hl)
theorem gx_if_eq (hC : gw_C N w own cc nL x) {a : Int32} {off : Int} {tgt : Nat} (hd : decode cc pc = .ok (.ifCond .eq off, 3)) (ht : (pc : Int) + off = (tgt : Int))
    (kt : a = 0 → gw_G N nL R x k n cf tgt lv st) (kf : ¬ a = 0 → gw_G N nL R x k n cf (pc + 3) lv st) : gw_G N nL R x k n cf pc lv (gv_I a :: st) := by
  obtain ⟨p, l, e, s, m, args, below, meth, c, Q, D, A, ad, ck⟩ := x
  obtain ⟨hx, hb, hml, hown, hts, hnw, hK, hA, hij, hAd, hlk⟩ := hC
  intro H locs ls hP hS hl
  exact lv_if_eq hx hb hd ht (fun h => kt h H locs ls hP hS hl) (fun h => kf h H locs ls hP hS hl)
theorem gx_icmp_ne (hC : gw_C N w own cc nL x) {a b : Int32} {off : Int} {tgt : Nat} (hd : decode cc pc = .ok (.if_icmp .ne off, 3)) (ht : (pc : Int) + off = (tgt : Int))
    (kt : ¬ a = b → gw_G N nL R x k n cf tgt lv st) (kf : a = b → gw_G N nL R x k n cf (pc + 3) lv st) : gw_G N nL R x k n cf pc lv (gv_I b :: gv_I a :: st) := by
  obtain ⟨p, l, e, s, m, args, below, meth, c, Q, D, A, ad, ck⟩ := x
  obtain ⟨hx, hb, hml, hown, hts, hnw, hK, hA, hij, hAd, hlk⟩ := hC
  intro H locs ls hP hS hl
  exact lv_icmp_ne hx hb hd ht (fun h => kt h H locs ls hP hS hl) (fun h => kf h H locs ls hP hS hl)
theorem gx_if_ne (hC : gw_C N w own cc nL x) {a : Int32} {off : Int} {tgt : Nat} (hd : decode cc pc = .ok (.ifCond .ne off, 3)) (ht : (pc : Int) + off = (tgt : Int))
    (kt : ¬ a = 0 → gw_G N nL R x k n cf tgt lv st) (kf : a = 0 → gw_G N nL R x k n cf (pc + 3) lv st) : gw_G N nL R x k n cf pc lv (gv_I a :: st) := by
  obtain ⟨p, l, e, s, m, args, below, meth, c, Q, D, A, ad, ck⟩ := x
  obtain ⟨hx, hb, hml, hown, hts, hnw, hK, hA, hij, hAd, hlk⟩ := hC
  intro H locs ls hP hS hl
  exact lv_if_ne hx hb hd ht (fun h => kt h H locs ls hP hS hl) (fun h => kf h H locs ls hP hS hl)
theorem gx_icmp_lt (hC : gw_C N w own cc nL x) {a b : Int32} {off : Int} {tgt : Nat} (hd : decode cc pc = .ok (.if_icmp .lt off, 3)) (ht : (pc : Int) + off = (tgt : Int))
    (kt : a < b → gw_G N nL R x k n cf tgt lv st) (kf : ¬ a < b → gw_G N nL R x k n cf (pc + 3) lv st) : gw_G N nL R x k n cf pc lv (gv_I b :: gv_I a :: st) := by
  obtain ⟨p, l, e, s, m, args, below, meth, c, Q, D, A, ad, ck⟩ := x
  obtain ⟨hx, hb, hml, hown, hts, hnw, hK, hA, hij, hAd, hlk⟩ := hC
  intro H locs ls hP hS hl
  exact lv_icmp_lt hx hb hd ht (fun h => kt h H locs ls hP hS hl) (fun h => kf h H locs ls hP hS hl)
theorem gx_if_lt (hC : gw_C N w own cc nL x) {a : Int32} {off : Int} {tgt : Nat} (hd : decode cc pc = .ok (.ifCond .lt off, 3)) (ht : (pc : Int) + off = (tgt : Int))
    (kt : a < 0 → gw_G N nL R x k n cf tgt lv st) (kf : ¬ a < 0 → gw_G N nL R x k n cf (pc + 3) lv st) : gw_G N nL R x k n cf pc lv (gv_I a :: st) := by
  obtain ⟨p, l, e, s, m, args, below, meth, c, Q, D, A, ad, ck⟩ := x
  obtain ⟨hx, hb, hml, hown, hts, hnw, hK, hA, hij, hAd, hlk⟩ := hC
  intro H locs ls hP hS hl
  exact lv_if_lt hx hb hd ht (fun h => kt h H locs ls hP hS hl) (fun h => kf h H locs ls hP hS hl)
theorem gx_icmp_ge (hC : gw_C N w own cc nL x) {a b : Int32} {off : Int} {tgt : Nat} (hd : decode cc pc = .ok (.if_icmp .ge off, 3)) (ht : (pc : Int) + off = (tgt : Int))
    (kt : b ≤ a → gw_G N nL R x k n cf tgt lv st) (kf : ¬ b ≤ a → gw_G N nL R x k n cf (pc + 3) lv st) : gw_G N nL R x k n cf pc lv (gv_I b :: gv_I a :: st) := by
  obtain ⟨p, l, e, s, m, args, below, meth, c, Q, D, A, ad, ck⟩ := x
  obtain ⟨hx, hb, hml, hown, hts, hnw, hK, hA, hij, hAd, hlk⟩ := hC
  intro H locs ls hP hS hl
  exact lv_icmp_ge hx hb hd ht (fun h => kt h H locs ls hP hS hl) (fun h => kf h H locs ls hP hS hl)
theorem gx_if_ge (hC : gw_C N w own cc nL x) {a : Int32} {off : Int} {tgt : Nat} (hd : decode cc pc = .ok (.ifCond .ge off, 3)) (ht : (pc : Int) + off = (tgt : Int))
    (kt : 0 ≤ a → gw_G N nL R x k n cf tgt lv st) (kf : ¬ 0 ≤ a → gw_G N nL R x k n cf (pc + 3) lv st) : gw_G N nL R x k n cf pc lv (gv_I a :: st) := by
  obtain ⟨p, l, e, s, m, args, below, meth, c, Q, D, A, ad, ck⟩ := x
  obtain ⟨hx, hb, hml, hown, hts, hnw, hK, hA, hij, hAd, hlk⟩ := hC
  intro H locs ls hP hS hl
  exact lv_if_ge hx hb hd ht (fun h => kt h H locs ls hP hS hl) (fun h => kf h H locs ls hP hS hl)
theorem gx_icmp_gt (hC : gw_C N w own cc nL x) {a b : Int32} {off : Int} {tgt : Nat} (hd : decode cc pc = .ok (.if_icmp .gt off, 3)) (ht : (pc : Int) + off = (tgt : Int))
    (kt : b < a → gw_G N nL R x k n cf tgt lv st) (kf : ¬ b < a → gw_G N nL R x k n cf (pc + 3) lv st) : gw_G N nL R x k n cf pc lv (gv_I b :: gv_I a :: st) := by
  obtain ⟨p, l, e, s, m, args, below, meth, c, Q, D, A, ad, ck⟩ := x
  obtain ⟨hx, hb, hml, hown, hts, hnw, hK, hA, hij, hAd, hlk⟩ := hC
  intro H locs ls hP hS hl
  exact lv_icmp_gt hx hb hd ht (fun h => kt h H locs ls hP hS hl) (fun h => kf h H locs ls hP hS hl)
theorem gx_if_gt (hC : gw_C N w own cc nL x) {a : Int32} {off : Int} {tgt : Nat} (hd : decode cc pc = .ok (.ifCond .gt off, 3)) (ht : (pc : Int) + off = (tgt : Int))
    (kt : 0 < a → gw_G N nL R x k n cf tgt lv st) (kf : ¬ 0 < a → gw_G N nL R x k n cf (pc + 3) lv st) : gw_G N nL R x k n cf pc lv (gv_I a :: st) := by
  obtain ⟨p, l, e, s, m, args, below, meth, c, Q, D, A, ad, ck⟩ := x
  obtain ⟨hx, hb, hml, hown, hts, hnw, hK, hA, hij, hAd, hlk⟩ := hC
  intro H locs ls hP hS hl
  exact lv_if_gt hx hb hd ht (fun h => kt h H locs ls hP hS hl) (fun h => kf h H locs ls hP hS hl)
theorem gx_icmp_le (hC : gw_C N w own cc nL x) {a b : Int32} {off : Int} {tgt : Nat} (hd : decode cc pc = .ok (.if_icmp .le off, 3)) (ht : (pc : Int) + off = (tgt : Int))
    (kt : a ≤ b → gw_G N nL R x k n cf tgt lv st) (kf : ¬ a ≤ b → gw_G N nL R x k n cf (pc + 3) lv st) : gw_G N nL R x k n cf pc lv (gv_I b :: gv_I a :: st) := by
  obtain ⟨p, l, e, s, m, args, below, meth, c, Q, D, A, ad, ck⟩ := x
  obtain ⟨hx, hb, hml, hown, hts, hnw, hK, hA, hij, hAd, hlk⟩ := hC
  intro H locs ls hP hS hl
  exact lv_icmp_le hx hb hd ht (fun h => kt h H locs ls hP hS hl) (fun h => kf h H locs ls hP hS hl)
theorem gx_if_le (hC : gw_C N w own cc nL x) {a : Int32} {off : Int} {tgt : Nat} (hd : decode cc pc = .ok (.ifCond .le off, 3)) (ht : (pc : Int) + off = (tgt : Int))
    (kt : a ≤ 0 → gw_G N nL R x k n cf tgt lv st) (kf : ¬ a ≤ 0 → gw_G N nL R x k n cf (pc + 3) lv st) : gw_G N nL R x k n cf pc lv (gv_I a :: st) := by
  obtain ⟨p, l, e, s, m, args, below, meth, c, Q, D, A, ad, ck⟩ := x
  obtain ⟨hx, hb, hml, hown, hts, hnw, hK, hA, hij, hAd, hlk⟩ := hC
  intro H locs ls hP hS hl
  exact lv_if_le hx hb hd ht (fun h => kt h H locs ls hP hS hl) (fun h => kf h H locs ls hP hS hl)
theorem gx_cmp3 (a b : Int64) : (b < a ∧ lg_cmp a b = 1 ∧ ¬ a = b) ∨ (a = b ∧ lg_cmp a b = 0 ∧ ¬ b < a ∧ ¬ a < b) ∨ (a < b ∧ lg_cmp a b = -1 ∧ ¬ a = b) := by
  by_cases h1 : b < a
  · refine Or.inl ⟨h1, by simp [lg_cmp, h1], fun h => ?_⟩
    rw [h, Int64.lt_iff_toInt_lt] at h1
    omega
  · by_cases h2 : a = b
    · refine Or.inr (Or.inl ⟨h2, by simp [lg_cmp, h2], h1, fun h => ?_⟩)
      rw [h2, Int64.lt_iff_toInt_lt] at h
      omega
    · refine Or.inr (Or.inr ⟨?_, by simp [lg_cmp, h1, h2], h2⟩)
      rw [Int64.lt_iff_toInt_lt] at h1 ⊢
      have h3 : a.toInt ≠ b.toInt := fun h => h2 (Int64.toInt_inj.mp h)
      omega
theorem gx_le64 {a b : Int64} : a ≤ b ↔ ¬ b < a := by
  rw [Int64.le_iff_toInt_le, Int64.lt_iff_toInt_lt]
  omega
theorem gx_lcmp_eq (hC : gw_C N w own cc nL x) {a b : Int64} {off : Int} {tgt : Nat} (hd : decode cc pc = .ok (.lcmp, 1)) (hd2 : decode cc (pc + 1) = .ok (.ifCond .eq off, 3)) (ht : ((pc + 1 : Nat) : Int) + off = (tgt : Int))
    (kt : a = b → gw_G N nL R x k n cf tgt lv st) (kf : ¬ a = b → gw_G N nL R x k n cf (pc + 4) lv st) : gw_G N nL R x k n cf pc lv (gv_L b :: gv_L a :: st) := by
  obtain ⟨p, l, e, s, m, args, below, meth, c, Q, D, A, ad, ck⟩ := x
  obtain ⟨hx, hb, hml, hown, hts, hnw, hK, hA, hij, hAd, hlk⟩ := hC
  intro H locs ls hP hS hl
  refine W.lcmp hx hb hd ?_
  rcases gx_cmp3 a b with ⟨h1, h2, h3⟩ | ⟨h1, h2, h3, h4⟩ | ⟨h1, h2, h3⟩ <;> rw [h2]
  · refine lv_if_eq hx hb hd2 ht (fun z => absurd z (by decide)) (fun _ => kf h3 H locs ls hP hS hl)
  · refine lv_if_eq hx hb hd2 ht (fun _ => kt h1 H locs ls hP hS hl) (fun z => absurd z (by decide))
  · refine lv_if_eq hx hb hd2 ht (fun z => absurd z (by decide)) (fun _ => kf h3 H locs ls hP hS hl)
theorem gx_lcmp_ne (hC : gw_C N w own cc nL x) {a b : Int64} {off : Int} {tgt : Nat} (hd : decode cc pc = .ok (.lcmp, 1)) (hd2 : decode cc (pc + 1) = .ok (.ifCond .ne off, 3)) (ht : ((pc + 1 : Nat) : Int) + off = (tgt : Int))
    (kt : ¬ a = b → gw_G N nL R x k n cf tgt lv st) (kf : a = b → gw_G N nL R x k n cf (pc + 4) lv st) : gw_G N nL R x k n cf pc lv (gv_L b :: gv_L a :: st) := by
  obtain ⟨p, l, e, s, m, args, below, meth, c, Q, D, A, ad, ck⟩ := x
  obtain ⟨hx, hb, hml, hown, hts, hnw, hK, hA, hij, hAd, hlk⟩ := hC
  intro H locs ls hP hS hl
  refine W.lcmp hx hb hd ?_
  rcases gx_cmp3 a b with ⟨h1, h2, h3⟩ | ⟨h1, h2, h3, h4⟩ | ⟨h1, h2, h3⟩ <;> rw [h2]
  · refine lv_if_ne hx hb hd2 ht (fun _ => kt h3 H locs ls hP hS hl) (fun z => absurd z (by decide))
  · refine lv_if_ne hx hb hd2 ht (fun z => absurd z (by decide)) (fun _ => kf h1 H locs ls hP hS hl)
  · refine lv_if_ne hx hb hd2 ht (fun _ => kt h3 H locs ls hP hS hl) (fun z => absurd z (by decide))
theorem gx_lcmp_lt (hC : gw_C N w own cc nL x) {a b : Int64} {off : Int} {tgt : Nat} (hd : decode cc pc = .ok (.lcmp, 1)) (hd2 : decode cc (pc + 1) = .ok (.ifCond .lt off, 3)) (ht : ((pc + 1 : Nat) : Int) + off = (tgt : Int))
    (kt : a < b → gw_G N nL R x k n cf tgt lv st) (kf : ¬ a < b → gw_G N nL R x k n cf (pc + 4) lv st) : gw_G N nL R x k n cf pc lv (gv_L b :: gv_L a :: st) := by
  obtain ⟨p, l, e, s, m, args, below, meth, c, Q, D, A, ad, ck⟩ := x
  obtain ⟨hx, hb, hml, hown, hts, hnw, hK, hA, hij, hAd, hlk⟩ := hC
  intro H locs ls hP hS hl
  refine W.lcmp hx hb hd ?_
  rcases gx_cmp3 a b with ⟨h1, h2, h3⟩ | ⟨h1, h2, h3, h4⟩ | ⟨h1, h2, h3⟩ <;> rw [h2]
  · refine lv_if_lt hx hb hd2 ht (fun z => absurd z (by decide)) (fun _ => kf (fun z => (gx_le64.mp (Int64.le_of_lt h1)) z) H locs ls hP hS hl)
  · refine lv_if_lt hx hb hd2 ht (fun z => absurd z (by decide)) (fun _ => kf h4 H locs ls hP hS hl)
  · refine lv_if_lt hx hb hd2 ht (fun _ => kt h1 H locs ls hP hS hl) (fun z => absurd z (by decide))
theorem gx_lcmp_ge (hC : gw_C N w own cc nL x) {a b : Int64} {off : Int} {tgt : Nat} (hd : decode cc pc = .ok (.lcmp, 1)) (hd2 : decode cc (pc + 1) = .ok (.ifCond .ge off, 3)) (ht : ((pc + 1 : Nat) : Int) + off = (tgt : Int))
    (kt : b ≤ a → gw_G N nL R x k n cf tgt lv st) (kf : ¬ b ≤ a → gw_G N nL R x k n cf (pc + 4) lv st) : gw_G N nL R x k n cf pc lv (gv_L b :: gv_L a :: st) := by
  obtain ⟨p, l, e, s, m, args, below, meth, c, Q, D, A, ad, ck⟩ := x
  obtain ⟨hx, hb, hml, hown, hts, hnw, hK, hA, hij, hAd, hlk⟩ := hC
  intro H locs ls hP hS hl
  refine W.lcmp hx hb hd ?_
  rcases gx_cmp3 a b with ⟨h1, h2, h3⟩ | ⟨h1, h2, h3, h4⟩ | ⟨h1, h2, h3⟩ <;> rw [h2]
  · refine lv_if_ge hx hb hd2 ht (fun _ => kt (gx_le64.mpr (fun z => absurd (Int64.lt_trans h1 z) (Int64.lt_irrefl))) H locs ls hP hS hl) (fun z => absurd z (by decide))
  · refine lv_if_ge hx hb hd2 ht (fun _ => kt (gx_le64.mpr h4) H locs ls hP hS hl) (fun z => absurd z (by decide))
  · refine lv_if_ge hx hb hd2 ht (fun z => absurd z (by decide)) (fun _ => kf (fun z => (gx_le64.mp z) h1) H locs ls hP hS hl)
theorem gx_lcmp_gt (hC : gw_C N w own cc nL x) {a b : Int64} {off : Int} {tgt : Nat} (hd : decode cc pc = .ok (.lcmp, 1)) (hd2 : decode cc (pc + 1) = .ok (.ifCond .gt off, 3)) (ht : ((pc + 1 : Nat) : Int) + off = (tgt : Int))
    (kt : b < a → gw_G N nL R x k n cf tgt lv st) (kf : ¬ b < a → gw_G N nL R x k n cf (pc + 4) lv st) : gw_G N nL R x k n cf pc lv (gv_L b :: gv_L a :: st) := by
  obtain ⟨p, l, e, s, m, args, below, meth, c, Q, D, A, ad, ck⟩ := x
  obtain ⟨hx, hb, hml, hown, hts, hnw, hK, hA, hij, hAd, hlk⟩ := hC
  intro H locs ls hP hS hl
  refine W.lcmp hx hb hd ?_
  rcases gx_cmp3 a b with ⟨h1, h2, h3⟩ | ⟨h1, h2, h3, h4⟩ | ⟨h1, h2, h3⟩ <;> rw [h2]
  · refine lv_if_gt hx hb hd2 ht (fun _ => kt h1 H locs ls hP hS hl) (fun z => absurd z (by decide))
  · refine lv_if_gt hx hb hd2 ht (fun z => absurd z (by decide)) (fun _ => kf h3 H locs ls hP hS hl)
  · refine lv_if_gt hx hb hd2 ht (fun z => absurd z (by decide)) (fun _ => kf (fun z => absurd (Int64.lt_trans h1 z) (Int64.lt_irrefl)) H locs ls hP hS hl)
theorem gx_lcmp_le (hC : gw_C N w own cc nL x) {a b : Int64} {off : Int} {tgt : Nat} (hd : decode cc pc = .ok (.lcmp, 1)) (hd2 : decode cc (pc + 1) = .ok (.ifCond .le off, 3)) (ht : ((pc + 1 : Nat) : Int) + off = (tgt : Int))
    (kt : a ≤ b → gw_G N nL R x k n cf tgt lv st) (kf : ¬ a ≤ b → gw_G N nL R x k n cf (pc + 4) lv st) : gw_G N nL R x k n cf pc lv (gv_L b :: gv_L a :: st) := by
  obtain ⟨p, l, e, s, m, args, below, meth, c, Q, D, A, ad, ck⟩ := x
  obtain ⟨hx, hb, hml, hown, hts, hnw, hK, hA, hij, hAd, hlk⟩ := hC
  intro H locs ls hP hS hl
  refine W.lcmp hx hb hd ?_
  rcases gx_cmp3 a b with ⟨h1, h2, h3⟩ | ⟨h1, h2, h3, h4⟩ | ⟨h1, h2, h3⟩ <;> rw [h2]
  · refine lv_if_le hx hb hd2 ht (fun z => absurd z (by decide)) (fun _ => kf (fun z => (gx_le64.mp z) h1) H locs ls hP hS hl)
  · refine lv_if_le hx hb hd2 ht (fun _ => kt (gx_le64.mpr h3) H locs ls hP hS hl) (fun z => absurd z (by decide))
  · refine lv_if_le hx hb hd2 ht (fun _ => kt (gx_le64.mpr (fun z => absurd (Int64.lt_trans h1 z) (Int64.lt_irrefl))) H locs ls hP hS hl) (fun z => absurd z (by decide))
/-- an int of an array -/
theorem gx_iald (hC : gw_C N w own cc nL x) {o len : Nat} {f : Int → Int32} {z : Int32} (hd : decode cc pc = .ok (.iaload, 1)) (ho : o < N) (hc : cf o = gc_I 0 len f) (hz : 0 ≤ z.toInt ∧ z.toInt < (len : Int))
    (kk : gw_G N nL R x k n cf (pc + 1) lv (gv_I (f z.toInt) :: st)) : gw_G N nL R x k n cf pc lv (gv_I z :: gv_R o :: st) := by
  obtain ⟨p, l, e, s, m, args, below, meth, c, Q, D, A, ad, ck⟩ := x
  obtain ⟨hx, hb, hml, hown, hts, hnw, hK, hA, hij, hAd, hlk⟩ := hC
  intro H locs ls hP hS hl
  refine va_iald hx hb hK hP o 0 (gw_atE ho hc) rfl (gv_vin hz) hd ?_
  have h := kk H locs ls hP hS hl
  rw [← gz_ix hz.1] at h
  exact h
/-- a boolean of an array -/
theorem gx_zald (hC : gw_C N w own cc nL x) {o len : Nat} {f : Int → Int32} {z : Int32} (hd : decode cc pc = .ok (.baload, 1)) (ho : o < N) (hc : cf o = gc_I 1 len f) (hz : 0 ≤ z.toInt ∧ z.toInt < (len : Int))
    (kk : gw_G N nL R x k n cf (pc + 1) lv (gv_I (f z.toInt) :: st)) : gw_G N nL R x k n cf pc lv (gv_I z :: gv_R o :: st) := by
  obtain ⟨p, l, e, s, m, args, below, meth, c, Q, D, A, ad, ck⟩ := x
  obtain ⟨hx, hb, hml, hown, hts, hnw, hK, hA, hij, hAd, hlk⟩ := hC
  intro H locs ls hP hS hl
  refine va_zald hx hb hK hP o 1 (gw_atE ho hc) rfl (gv_vin hz) hd ?_
  have h := kk H locs ls hP hS hl
  rw [← gz_ix hz.1] at h
  exact h
/-- a long of an array -/
theorem gx_lald (hC : gw_C N w own cc nL x) {o len : Nat} {f : Int → Int64} {z : Int32} (hd : decode cc pc = .ok (.laload, 1)) (ho : o < N) (hc : cf o = gc_L len f) (hz : 0 ≤ z.toInt ∧ z.toInt < (len : Int))
    (kk : gw_G N nL R x k n cf (pc + 1) lv (gv_L (f z.toInt) :: st)) : gw_G N nL R x k n cf pc lv (gv_I z :: gv_R o :: st) := by
  obtain ⟨p, l, e, s, m, args, below, meth, c, Q, D, A, ad, ck⟩ := x
  obtain ⟨hx, hb, hml, hown, hts, hnw, hK, hA, hij, hAd, hlk⟩ := hC
  intro H locs ls hP hS hl
  refine va_lald hx hb hK hP o 2 (gw_atE ho hc) rfl (gv_vin hz) hd ?_
  have h := kk H locs ls hP hS hl
  rw [← gz_ix hz.1] at h
  exact h
/-- a row of an array of arrays -/
theorem gx_aald (hC : gw_C N w own cc nL x) {o len kd r : Nat} {f : Int → Option Nat} {z : Int32} (hd : decode cc pc = .ok (.aaload, 1)) (ho : o < N) (hkd : kd = 3 ∨ kd = 4) (hc : cf o = gc_R kd len f) (hz : 0 ≤ z.toInt ∧ z.toInt < (len : Int)) (hr : f z.toInt = some r)
    (kk : gw_G N nL R x k n cf (pc + 1) lv (gv_R r :: st)) : gw_G N nL R x k n cf pc lv (gv_I z :: gv_R o :: st) := by
  obtain ⟨p, l, e, s, m, args, below, meth, c, Q, D, A, ad, ck⟩ := x
  obtain ⟨hx, hb, hml, hown, hts, hnw, hK, hA, hij, hAd, hlk⟩ := hC
  intro H locs ls hP hS hl
  have e := gz_ix hz.1
  have hlt : z.toNatClampNeg < len := by
    rw [gv_cl]
    omega
  have hv : (arrV (ck kd) len (fun j : Nat => va_rf ((f (j : Int)).map ad))).slots[z.toNatClampNeg]? = some (.ref (ad r)) := by
    rw [arrV_read _ _ hlt]
    show some (va_rf ((f ((z.toNatClampNeg : Nat) : Int)).map ad)) = _
    rw [e, hr]
    rfl
  have hcell : H[ad o]? = some (arrV (ck kd) len (fun j : Nat => va_rf ((f (j : Int)).map ad))) := hP o _ (gw_atE ho hc)
  rcases hkd with rfl | rfl
  · exact W.aald (v := .ref (ad r)) (ty := .array .long) hx hb hcell ((hK.2 3 _ rfl).1 len (fun j : Nat => va_rf ((f (j : Int)).map ad))) rfl (fun q => by cases q) (by rw [arrV_size]; exact gv_vin hz) hv rfl rfl hd (kk H locs ls hP hS hl)
  · exact W.aald (v := .ref (ad r)) (ty := .array .int) hx hb hcell ((hK.2 4 _ rfl).1 len (fun j : Nat => va_rf ((f (j : Int)).map ad))) rfl (fun q => by cases q) (by rw [arrV_size]; exact gv_vin hz) hv rfl rfl hd (kk H locs ls hP hS hl)
theorem gx_iast (hC : gw_C N w own cc nL x) (hw : N ≤ w) {o len : Nat} {f : Int → Int32} {z v : Int32} (hd : decode cc pc = .ok (.iastore, 1)) (ho : o < N) (hc : cf o = gc_I 0 len f) (hz : 0 ≤ z.toInt ∧ z.toInt < (len : Int)) {cf2 : Nat → gc_T} (hu : gc_up cf o (gc_I 0 len (gz_u f z.toInt v)) cf2)
    (kk : gw_G N nL R x k n cf2 (pc + 1) lv st) : gw_G N nL R x k n cf pc lv (gv_I v :: gv_I z :: gv_R o :: st) := by
  obtain ⟨p, l, e, s, m, args, below, meth, c, Q, D, A, ad, ck⟩ := x
  obtain ⟨hx, hb, hml, hown, hts, hnw, hK, hA, hij, hAd, hlk⟩ := hC
  intro H locs ls hP hS hl
  refine va_iast hx hb hK hP (gw_D hij (fun i hi => hAd i (Nat.lt_of_lt_of_le hi hw))) hS o 0 (gw_atE ho hc) rfl (gv_vin hz) hd (fun H1 locs1 hP1 hD1 hS1 => ?_)
  rw [gz_ue f hz.1] at hP1
  have e := gw_set (ad := ad) (ck := ck) ho hu
  exact kk H1 locs1 ls (by rw [← e]; exact hP1) hS1 hl
theorem gx_zast (hC : gw_C N w own cc nL x) (hw : N ≤ w) {o len : Nat} {f : Int → Int32} {z v : Int32} (hd : decode cc pc = .ok (.bastore, 1)) (ho : o < N) (hc : cf o = gc_I 1 len f) (hz : 0 ≤ z.toInt ∧ z.toInt < (len : Int)) {cf2 : Nat → gc_T} (hu : gc_up cf o (gc_I 1 len (gz_u f z.toInt (vp_nar .boolean v))) cf2)
    (kk : gw_G N nL R x k n cf2 (pc + 1) lv st) : gw_G N nL R x k n cf pc lv (gv_I v :: gv_I z :: gv_R o :: st) := by
  obtain ⟨p, l, e, s, m, args, below, meth, c, Q, D, A, ad, ck⟩ := x
  obtain ⟨hx, hb, hml, hown, hts, hnw, hK, hA, hij, hAd, hlk⟩ := hC
  intro H locs ls hP hS hl
  refine va_zast hx hb hK hP (gw_D hij (fun i hi => hAd i (Nat.lt_of_lt_of_le hi hw))) hS o 1 (gw_atE ho hc) rfl (gv_vin hz) hd (fun H1 locs1 hP1 hD1 hS1 => ?_)
  rw [gz_ue f hz.1] at hP1
  have e := gw_set (ad := ad) (ck := ck) ho hu
  exact kk H1 locs1 ls (by rw [← e]; exact hP1) hS1 hl
theorem gx_last (hC : gw_C N w own cc nL x) (hw : N ≤ w) {o len : Nat} {f : Int → Int64} {z : Int32} {v : Int64} (hd : decode cc pc = .ok (.lastore, 1)) (ho : o < N) (hc : cf o = gc_L len f) (hz : 0 ≤ z.toInt ∧ z.toInt < (len : Int)) {cf2 : Nat → gc_T} (hu : gc_up cf o (gc_L len (gz_ul f z.toInt v)) cf2)
    (kk : gw_G N nL R x k n cf2 (pc + 1) lv st) : gw_G N nL R x k n cf pc lv (gv_L v :: gv_I z :: gv_R o :: st) := by
  obtain ⟨p, l, e, s, m, args, below, meth, c, Q, D, A, ad, ck⟩ := x
  obtain ⟨hx, hb, hml, hown, hts, hnw, hK, hA, hij, hAd, hlk⟩ := hC
  intro H locs ls hP hS hl
  refine va_last hx hb hK hP (gw_D hij (fun i hi => hAd i (Nat.lt_of_lt_of_le hi hw))) hS o 2 (gw_atE ho hc) rfl (gv_vin hz) hd (fun H1 locs1 hP1 hD1 hS1 => ?_)
  rw [gz_ule f hz.1] at hP1
  have e := gw_set (ad := ad) (ck := ck) ho hu
  exact kk H1 locs1 ls (by rw [← e]; exact hP1) hS1 hl
theorem gx_alen (hC : gw_C N w own cc nL x) {o len kd : Nat} {f : Int → Int32} (hd : decode cc pc = .ok (.arraylength, 1)) (ho : o < N) (hc : cf o = gc_I kd len f) (hkd : kd = 0 ∨ kd = 1)
    (kk : gw_G N nL R x k n cf (pc + 1) lv (gv_I (Int32.ofNat len) :: st)) : gw_G N nL R x k n cf pc lv (gv_R o :: st) := by
  obtain ⟨p, l, e, s, m, args, below, meth, c, Q, D, A, ad, ck⟩ := x
  obtain ⟨hx, hb, hml, hown, hts, hnw, hK, hA, hij, hAd, hlk⟩ := hC
  intro H locs ls hP hS hl
  rcases hkd with rfl | rfl
  · exact va_alen hx hb hK hP o 0 (gw_atE ho hc) rfl rfl hd (kk H locs ls hP hS hl)
  · exact va_alen hx hb hK hP o 1 (gw_atE ho hc) rfl rfl hd (kk H locs ls hP hS hl)
theorem gx_alenl (hC : gw_C N w own cc nL x) {o len : Nat} {f : Int → Int64} (hd : decode cc pc = .ok (.arraylength, 1)) (ho : o < N) (hc : cf o = gc_L len f)
    (kk : gw_G N nL R x k n cf (pc + 1) lv (gv_I (Int32.ofNat len) :: st)) : gw_G N nL R x k n cf pc lv (gv_R o :: st) := by
  obtain ⟨p, l, e, s, m, args, below, meth, c, Q, D, A, ad, ck⟩ := x
  obtain ⟨hx, hb, hml, hown, hts, hnw, hK, hA, hij, hAd, hlk⟩ := hC
  intro H locs ls hP hS hl
  exact va_alen hx hb hK hP o 2 (gw_atE ho hc) rfl rfl hd (kk H locs ls hP hS hl)
/-! FIELDS: a field of class number ci, slot j, by the entry i of own's pool -/
def gw_F (own : String) (i ci j : Nat) : Prop := ∃ (C : String) (T : u_T) (M : Nat), vwCl[ci]? = some (C, T, M) ∧ j < M ∧ (∀ w ∈ u_ws C T M, w ∈ gw_T) ∧ (Cond.fieldLink own i (T j).1 (T j).2.1 (T j).2.2.1 ∈ gw_T ∨ ∃ host, Cond.fieldLinkNest own i (T j).1 (T j).2.1 (T j).2.2.1 host ∈ gw_Nl)
theorem gx_get (hC : gw_C N w own cc nL x) {i ci j o : Nat} {fs : List gv_V} {v : gv_V} (hd : decode cc pc = .ok (.getfield i, 3)) (hF : gw_F own i ci j) (ho : o < N) (hc : cf o = gc_O ci fs) (hv : fs[j]? = some v)
    (kk : gw_G N nL R x k n cf (pc + 3) lv (v :: st)) : gw_G N nL R x k n cf pc lv (gv_R o :: st) := by
  obtain ⟨p, l, e, s, m, args, below, meth, c, Q, D, A, ad, ck⟩ := x
  obtain ⟨hx, hb, hml, hown, hts, hnw, hK, hA, hij, hAd, hlk⟩ := hC
  intro H locs ls hP hS hl
  obtain ⟨C, T, M, h1, h2, h3, h4⟩ := hF
  have hv2 : (fs.map (gv_v ad))[j]? = some (gv_v ad v) := by rw [List.getElem?_map, hv]; rfl
  rcases h4 with h4 | ⟨host, h4⟩
  · exact va_get hx hb hts h3 hown hK hP o (gw_atE ho hc) h1 j h2 (hts _ h4) (fun _ z => z) hv2 hd (kk H locs ls hP hS hl)
  · exact va_getN hx hb hts h3 hown hK hP o (gw_atE ho hc) h1 j h2 (va_Nw.use rfl (hnw _ h4)) (fun _ z => z) hv2 hd (kk H locs ls hP hS hl)
def gw_P (ci j : Nat) (ty : FieldType) : Prop := ∃ (C : String) (T : u_T) (M : Nat) (ty0 : Nat → FieldType), vwCl[ci]? = some (C, T, M) ∧ (∀ k, k < M → parseFieldDescriptor (T k).2.2.1 = some (ty0 k)) ∧ (∀ a, a < M → ∀ b, b < M → a ≠ b → (T a).2.1 ≠ (T b).2.1) ∧ (T j).2.2.2 = false ∧ parseFieldDescriptor (T j).2.2.1 = some ty
theorem gx_put (hC : gw_C N w own cc nL x) (hw : N ≤ w) {i ci j o : Nat} {fs : List gv_V} {v : gv_V} {ty : FieldType} (hd : decode cc pc = .ok (.putfield i, 3)) (hF : gw_F own i ci j) (hW : gw_P ci j ty) (ho : o < N) (hc : cf o = gc_O ci fs) (hj : j < fs.length) (hn : ∀ ad, narrow ty (gv_v ad v) = gv_v ad v) (hf : ∀ ad, fits ty (gv_v ad v) = true) {cf2 : Nat → gc_T} (hu : gc_up cf o (gc_O ci (fs.set j v)) cf2)
    (kk : gw_G N nL R x k n cf2 (pc + 3) lv st) : gw_G N nL R x k n cf pc lv (v :: gv_R o :: st) := by
  obtain ⟨p, l, e, s, m, args, below, meth, c, Q, D, A, ad, ck⟩ := x
  obtain ⟨hx, hb, hml, hown, hts, hnw, hK, hA, hij, hAd, hlk⟩ := hC
  intro H locs ls hP hS hl
  obtain ⟨C, T, M, h1, h2, h3, h4⟩ := hF
  obtain ⟨C2, T2, M2, ty0, g1, g2, g3, g4, g5⟩ := hW
  cases h1.symm.trans g1
  have e := gw_set (ad := ad) (ck := ck) ho hu
  have e2 : (fs.map (gv_v ad)).set j (gv_v ad v) = (fs.set j v).map (gv_v ad) := (List.map_set ..).symm
  rcases h4 with h4 | ⟨host, h4⟩
  · refine va_put hx hb hts h3 ty0 g2 g3 hown hK hP (gw_D hij (fun i hi => hAd i (Nat.lt_of_lt_of_le hi hw))) hS o (gw_atE ho hc) h1 j h2 (hts _ h4) (fun _ z => z) g4 g5 (hn ad) (hf ad) (by simpa using hj) hd (fun H1 locs1 hP1 hD1 hS1 => ?_)
    rw [e2] at hP1
    exact kk H1 locs1 ls (by rw [← e]; exact hP1) hS1 hl
  · refine va_putN hx hb hts h3 ty0 g2 g3 hown hK hP (gw_D hij (fun i hi => hAd i (Nat.lt_of_lt_of_le hi hw))) hS o (gw_atE ho hc) h1 j h2 (va_Nw.use rfl (hnw _ h4)) (fun _ z => z) g4 g5 (hn ad) (hf ad) (by simpa using hj) hd (fun H1 locs1 hP1 hD1 hS1 => ?_)
    rw [e2] at hP1
    exact kk H1 locs1 ls (by rw [← e]; exact hP1) hS1 hl
end GX
