/-! SMALL ROWS for the walks: checks, answers, Math.abs, Arrays.fill -/
theorem gk_of {α : Type} {c : Prop} [Decidable c] {X : Option α} {r : α} (h : (if c then X else none) = some r) : c ∧ X = some r := by
  by_cases hc : c
  · rw [if_pos hc] at h
    exact ⟨hc, h⟩
  · rw [if_neg hc] at h
    cases h
theorem gb_of {α β : Type} {o : Option α} {g : α → Option β} {r : β} (h : o.bind g = some r) : ∃ q, o = some q ∧ g q = some r := by
  cases o with
  | none => cases h
  | some q => exact ⟨q, rfl, h⟩
theorem gk_nar {v : Int32} (h : vp_nar .boolean v = v) : narrow .boolean (.int v) = .int v := by
  show Value.int (vp_nar .boolean v) = .int v
  rw [h]
def gw_Abs (own : String) (i : Nat) : Prop := Cond.methodLink own i Lib.MathLoose.abs_long.x ∈ gw_T ∧ Cond.static Lib.MathLoose.abs_long.x ∈ gw_T ∧ Cond.initialized "java/lang/Math" ∈ gw_T ∧ Cond.code Lib.MathLoose.abs_long.x Lib.MathLoose.abs_long.code 2 (some .long) ∈ gw_T
theorem lj_abs : gw_Abs "PinSwaps" 217 := ⟨gw_in 276 (by decide +kernel) (by decide +kernel), gw_in 277 (by decide +kernel) (by decide +kernel), gw_in 68 (by decide +kernel) (by decide +kernel), gw_in 278 (by decide +kernel) (by decide +kernel)⟩
section GXA
variable {N w nL : Nat} {own : String} {cc : ByteArray} {R : Room} {x : gx_X} {k n : Nat} {cf : Nat → gc_T} {pc : Nat} {lv : List (Nat × gv_V)} {st : List gv_V}
theorem gx_abs (hC : gw_C N w own cc nL x) {i : Nat} {v : Int64} (hd : decode cc pc = .ok (.invokestatic i, 3)) (hw : gw_Abs own i) (hf : 1 ≤ R.frames) (hlo : gv_w st + 13 ≤ R.locals) (hk : k ≤ R.cells) (hn : n ≤ R.slots)
    (kk : gw_G N nL R x k n cf (pc + 3) lv (gv_L (if 0 < v then v else -v) :: st)) : gw_G N nL R x k n cf pc lv (gv_L v :: st) := by
  obtain ⟨p, l, e, s, m, args, below, meth, c, Q, D, A, ad, ck⟩ := x
  obtain ⟨hx, hb, hml, hown, hts, hnw, hK, hA, hij, hAd, hlk⟩ := hC
  intro H locs ls hP hS hl
  obtain ⟨h1, h2, h3, h4⟩ := hw
  exact va_mabs_long hx hb (hml.trans hl.1.symm) hown (hts _ h1) (hts _ h2) (hts _ h3) (hts _ h4) hf (by rw [gv_w_sum]; exact hlo) hk hn hd (kk H locs ls hP hS hl)
end GXA
def gz_fill {α : Type} (f : Int → α) (n : Nat) (v : α) : Int → α := fun z => if 0 ≤ z ∧ z < (n : Int) then v else f z
theorem gz_fill0 {α : Type} (f : Int → α) (v : α) : gz_fill f 0 v = f := by
  funext z
  exact if_neg (by omega)
theorem gz_fillS (f : Int → Int32) (i : Nat) (v : Int32) : gz_u (gz_fill f i v) (i : Int) v = gz_fill f (i + 1) v := by
  funext z
  unfold gz_u gz_fill
  by_cases e : z = (i : Int)
  · rw [if_pos e, if_pos (by omega)]
  · rw [if_neg e]
    by_cases h : 0 ≤ z ∧ z < (i : Int)
    · rw [if_pos h, if_pos (by omega)]
    · rw [if_neg h, if_neg (by omega)]
theorem gz_fillL (f : Int → Int64) (i : Nat) (v : Int64) : gz_ul (gz_fill f i v) (i : Int) v = gz_fill f (i + 1) v := by
  funext z
  unfold gz_ul gz_fill
  by_cases e : z = (i : Int)
  · rw [if_pos e, if_pos (by omega)]
  · rw [if_neg e]
    by_cases h : 0 ≤ z ∧ z < (i : Int)
    · rw [if_pos h, if_pos (by omega)]
    · rw [if_neg h, if_neg (by omega)]
theorem lt_fill {o len : Nat} {cf cf2 : Nat → gc_T} {f : Int → Int32} {v : Int32} {x : gx_X} {rm : Room} (hC : gw_C 81 81 yn_Ar_fill.cls bc_Ar_fill 4 x) (hR : gr_V 81 bc_Ar_fill 4 rm x (fun c2 => c2 = cf2)) (ho : o < 81) (hlen : len < 1000000) (hu : gc_up cf o (gc_I 0 len (gz_fill f len v)) cf2) :
    ∀ (k i : Nat), i + k = len → gw_G 81 4 rm x 0 0 (fun j => if j = o then gc_I 0 len (gz_fill f i v) else cf j) 5 [(0, gv_R o), (1, gv_I v), (2, gv_I (nI i)), (3, gv_I (nI len))] [] := by
  intro k
  induction k with
  | zero =>
    intro i hi
    refine gx_iload_n hC dr_Ar_fill_5 rfl ?_
    refine gx_iload_n hC dr_Ar_fill_6 rfl ?_
    refine gx_icmp_ge (tgt := 20) hC dr_Ar_fill_7 (by decide) (fun _ => ?_) (fun h => ?_)
    · refine hR (Nat.zero_le _) (Nat.zero_le _) dr_Ar_fill_20 ?_
      funext j
      rw [hu j, show i = len by omega]
    · exact absurd (by rw [show i = len by omega]; exact nI_le (Nat.le_refl _) (by omega)) h
  | succ k ih =>
    intro i hi
    have e1 : (nI i).toInt = (i : Int) := nI_toInt (by omega)
    refine gx_iload_n hC dr_Ar_fill_5 rfl ?_
    refine gx_iload_n hC dr_Ar_fill_6 rfl ?_
    refine gx_icmp_ge (tgt := 20) hC dr_Ar_fill_7 (by decide) (fun h => ?_) (fun _ => ?_)
    · exact absurd h (nI_ge (by omega) (by omega))
    · refine gx_aload_n hC dr_Ar_fill_10 rfl ?_
      refine gx_iload_n hC dr_Ar_fill_11 rfl ?_
      refine gx_iload_n hC dr_Ar_fill_12 rfl ?_
      refine gx_iast (f := gz_fill f i v) (cf2 := fun j => if j = o then gc_I 0 len (gz_fill f (i + 1) v) else cf j) hC (Nat.le_refl _) dr_Ar_fill_13 ho (if_pos rfl) (by rw [e1]; omega) (fun j => ?_) ?_
      · dsimp only
        by_cases e : j = o
        · rw [if_pos e, if_pos e, e1, gz_fillS]
        · rw [if_neg e, if_neg e, if_neg e]
      · refine gx_iinc (v := nI (i + 1)) hC dr_Ar_fill_14 rfl (by decide) (nI_1 i) ?_
        refine gx_goto (tgt := 5) hC dr_Ar_fill_17 (by decide) ?_
        exact ih (i + 1) (by omega)
theorem mt_Ar_fill {l : Launch} {D : va_G} {ad : Nat → Nat} {ck : Nat → ClassId} {o len : Nat} {cf cf2 : Nat → gc_T} {f : Int → Int32} {v : Int32} (ho : o < 81) (hc : cf o = gc_I 0 len f) (hlen : len < 1000000) (hu : gc_up cf o (gc_I 0 len (gz_fill f len v)) cf2) :
    gm_V 81 81 l D ad ck yn_Ar_fill bc_Ar_fill 4 ({ frames := 0, cells := 0, slots := 0, locals := 0 } : Room) [gv_R o, gv_I v] cf (fun c2 => c2 = cf2) := by
  refine gm_V.of (by decide) (Nat.le_of_ble_eq_true rfl) (fun x hC hR => ?_)
  refine gx_iconst (v := 0) hC dr_Ar_fill_0 (by decide) ?_
  refine gx_istore_n hC dr_Ar_fill_1 (by decide) ?_
  refine gx_aload_n hC dr_Ar_fill_2 rfl ?_
  refine gx_alen hC dr_Ar_fill_3 ho hc (Or.inl rfl) ?_
  refine gx_istore_n hC dr_Ar_fill_4 (by decide) ?_
  have h := lt_fill hC hR ho hlen hu len 0 (by omega)
  have e : (fun j => if j = o then gc_I 0 len (gz_fill f 0 v) else cf j) = cf := by
    funext j
    by_cases e : j = o
    · rw [if_pos e, e, hc, gz_fill0]
    · rw [if_neg e]
  rw [e] at h
  exact h
theorem lt_fillL {o len : Nat} {cf cf2 : Nat → gc_T} {f : Int → Int64} {v : Int64} {x : gx_X} {rm : Room} (hC : gw_C 81 81 yn_Ar_fillL.cls bc_Ar_fillL 5 x) (hR : gr_V 81 bc_Ar_fillL 5 rm x (fun c2 => c2 = cf2)) (ho : o < 81) (hlen : len < 1000000) (hu : gc_up cf o (gc_L len (gz_fill f len v)) cf2) :
    ∀ (k i : Nat), i + k = len → gw_G 81 5 rm x 0 0 (fun j => if j = o then gc_L len (gz_fill f i v) else cf j) 6 [(0, gv_R o), (1, gv_L v), (3, gv_I (nI i)), (4, gv_I (nI len))] [] := by
  intro k
  induction k with
  | zero =>
    intro i hi
    refine gx_iload_n hC dr_Ar_fillL_6 rfl ?_
    refine gx_iload hC dr_Ar_fillL_7 rfl ?_
    refine gx_icmp_ge (tgt := 22) hC dr_Ar_fillL_9 (by decide) (fun _ => ?_) (fun h => ?_)
    · refine hR (Nat.zero_le _) (Nat.zero_le _) dr_Ar_fillL_22 ?_
      funext j
      rw [hu j, show i = len by omega]
    · exact absurd (by rw [show i = len by omega]; exact nI_le (Nat.le_refl _) (by omega)) h
  | succ k ih =>
    intro i hi
    have e1 : (nI i).toInt = (i : Int) := nI_toInt (by omega)
    refine gx_iload_n hC dr_Ar_fillL_6 rfl ?_
    refine gx_iload hC dr_Ar_fillL_7 rfl ?_
    refine gx_icmp_ge (tgt := 22) hC dr_Ar_fillL_9 (by decide) (fun h => ?_) (fun _ => ?_)
    · exact absurd h (nI_ge (by omega) (by omega))
    · refine gx_aload_n hC dr_Ar_fillL_12 rfl ?_
      refine gx_iload_n hC dr_Ar_fillL_13 rfl ?_
      refine gx_lload_n hC dr_Ar_fillL_14 rfl ?_
      refine gx_last (f := gz_fill f i v) (cf2 := fun j => if j = o then gc_L len (gz_fill f (i + 1) v) else cf j) hC (Nat.le_refl _) dr_Ar_fillL_15 ho (if_pos rfl) (by rw [e1]; omega) (fun j => ?_) ?_
      · dsimp only
        by_cases e : j = o
        · rw [if_pos e, if_pos e, e1, gz_fillL]
        · rw [if_neg e, if_neg e, if_neg e]
      · refine gx_iinc (v := nI (i + 1)) hC dr_Ar_fillL_16 rfl (by decide) (nI_1 i) ?_
        refine gx_goto (tgt := 6) hC dr_Ar_fillL_19 (by decide) ?_
        exact ih (i + 1) (by omega)
theorem mt_Ar_fillL {l : Launch} {D : va_G} {ad : Nat → Nat} {ck : Nat → ClassId} {o len : Nat} {cf cf2 : Nat → gc_T} {f : Int → Int64} {v : Int64} (ho : o < 81) (hc : cf o = gc_L len f) (hlen : len < 1000000) (hu : gc_up cf o (gc_L len (gz_fill f len v)) cf2) :
    gm_V 81 81 l D ad ck yn_Ar_fillL bc_Ar_fillL 5 ({ frames := 0, cells := 0, slots := 0, locals := 0 } : Room) [gv_R o, gv_L v] cf (fun c2 => c2 = cf2) := by
  refine gm_V.of (by decide) (Nat.le_of_ble_eq_true rfl) (fun x hC hR => ?_)
  refine gx_iconst (v := 0) hC dr_Ar_fillL_0 (by decide) ?_
  refine gx_istore_n hC dr_Ar_fillL_1 (by decide) ?_
  refine gx_aload_n hC dr_Ar_fillL_2 rfl ?_
  refine gx_alenl hC dr_Ar_fillL_3 ho hc ?_
  refine gx_istore hC dr_Ar_fillL_4 (by decide) ?_
  have h := lt_fillL hC hR ho hlen hu len 0 (by omega)
  have e : (fun j => if j = o then gc_L len (gz_fill f 0 v) else cf j) = cf := by
    funext j
    by_cases e : j = o
    · rw [if_pos e, e, hc, gz_fill0]
    · rw [if_neg e]
  rw [e] at h
  exact h
