/-! THE LAW'S HELPERS (written by gen_helpers.py) -/
theorem kx_r {β : Type} {o : Option β} {kd : Nat} (h : gb_r o = some (.inl kd)) : False := by
  cases o <;> cases h
theorem kx_x {α β : Type} {o : Option (Nat ⊕ α)} {g : α → Option (Nat ⊕ β)} {kd : Nat} (h : gb_x o g = some (.inl kd)) : o = some (.inl kd) ∨ ∃ q, o = some (.inr q) ∧ g q = some (.inl kd) := by
  rcases o with _ | a | a
  · cases h
  · exact Or.inl (by cases h; rfl)
  · exact Or.inr ⟨a, rfl, h⟩
theorem kd_pin {p : Int32} {M : gq_M} {kd : Nat} (h : fn_PS_checkPin p M = some (.inl kd)) : kd = 1 := by
  unfold fn_PS_checkPin at h
  by_cases c : p < 0
  · rw [if_pos c] at h; cases h; rfl
  · rw [if_neg c] at h
    by_cases c2 : p < gq_f M 1
    · rw [if_pos c2] at h; exact (kx_r h).elim
    · rw [if_neg c2] at h; cases h; rfl
theorem kd_lock {p : Int32} {M : gq_M} {kd : Nat} (h : fn_PS_lock p M = some (.inl kd)) : kd = 1 := by
  unfold fn_PS_lock at h
  rcases kx_x h with h | ⟨q, -, h⟩
  · exact kd_pin h
  · exact (kx_r h).elim
theorem kd_netOf {p : Int32} {M : gq_M} {kd : Nat} (h : fn_PS_netOf p M = some (.inl kd)) : kd = 1 := by
  unfold fn_PS_netOf at h
  rcases kx_x h with h | ⟨q, -, h⟩
  · exact kd_pin h
  · exact (kx_r h).elim
theorem kd_pair {p q : Int32} {M : gq_M} {kd : Nat} (h : fn_PS_pair p q M = some (.inl kd)) : kd = 1 := by
  unfold fn_PS_pair at h
  rcases kx_x h with h | ⟨q, -, h⟩
  · exact kd_pin h
  · rcases kx_x h with h | ⟨q, -, h⟩
    · exact kd_pin h
    · exact (kx_r h).elim
theorem kd_dual {p q : Int32} {M : gq_M} {kd : Nat} (h : fn_PS_dual p q M = some (.inl kd)) : kd = 1 := by
  unfold fn_PS_dual at h
  rcases kx_x h with h | ⟨u, -, h⟩
  · exact kd_pin h
  · by_cases c : p = 0
    · rw [if_pos c] at h; exact (kx_r h).elim
    · rw [if_neg c] at h
      by_cases c2 : p = 1
      · rw [if_pos c2] at h; exact (kx_r h).elim
      · rw [if_neg c2] at h; cases h; rfl
theorem kd_note {p q : Int32} {M : gq_M} {kd : Nat} (h : fn_PS_note p q M = some (.inl kd)) : kd = 1 := by
  unfold fn_PS_note at h
  cases hn : fn_Pi_nthMoved p M with
  | none => rw [hn] at h; cases h
  | some z =>
    rw [hn, Option.bind_some] at h
    by_cases c : z = -1
    · rw [if_pos c] at h; cases h; rfl
    · rw [if_neg c] at h
      by_cases c2 : q < 0
      · rw [if_pos c2] at h; cases h; rfl
      · rw [if_neg c2] at h
        by_cases c3 : q ≤ 2
        · rw [if_pos c3] at h; exact (kx_r h).elim
        · rw [if_neg c3] at h; cases h; rfl
theorem kd_equalGate {p q : Int32} {M : gq_M} {kd : Nat} (h : fn_PS_equalGate p q M = some (.inl kd)) : kd = 1 := by
  unfold fn_PS_equalGate at h
  by_cases c : p < 0
  · rw [if_pos c] at h; cases h; rfl
  · rw [if_neg c] at h
    by_cases c2 : gq_f M 5 ≤ p
    · rw [if_pos c2] at h; cases h; rfl
    · rw [if_neg c2] at h
      by_cases c3 : q < 0
      · rw [if_pos c3] at h; cases h; rfl
      · rw [if_neg c3] at h
        by_cases c4 : q < gq_f M 5
        · rw [if_pos c4] at h; exact (kx_r h).elim
        · rw [if_neg c4] at h; cases h; rfl
theorem kd_gate {p : Int32} {M : gq_M} {kd : Nat} (h : fn_PS_gate p M = some (.inl kd)) : kd = 2 := by
  unfold fn_PS_gate at h
  by_cases c : ((p >>> ((16 : Int32) &&& 31)) : Int32) < 1
  · rw [if_pos c] at h; cases h; rfl
  · rw [if_neg c] at h
    by_cases c2 : ((p >>> ((16 : Int32) &&& 31)) : Int32) ≤ 4
    · rw [if_pos c2] at h
      by_cases c3 : (((p &&& 65535) >>> ((((1 : Int32) <<< (((p >>> ((16 : Int32) &&& 31)) : Int32) &&& 31)) : Int32) &&& 31)) : Int32) = 0
      · rw [if_pos c3] at h; exact (kx_r h).elim
      · rw [if_neg c3] at h; cases h; rfl
    · rw [if_neg c2] at h; cases h; rfl
theorem ly_64 : gw_Y "PinSwapsLaw" 64 yn_Lw_pin bc_Lw_pin 9 [(0, 15, 18, 13), (0, 15, 22, 15)] 6 := ⟨gw_in 414 (by decide +kernel) (by decide +kernel), gw_in 415 (by decide +kernel) (by decide +kernel), gw_in 54 (by decide +kernel) (by decide +kernel), gw_in 416 (by decide +kernel) (by decide +kernel), ⟨by decide +kernel, by decide +kernel⟩, by decide +kernel⟩
theorem mw_pin_r {l : Launch} {D : va_G} {ad : Nat → Nat} {ck : Nat → ClassId} {X : gq_M} {o : Int → Int64} {p0 : Int32} {p1 : Int64} {p2 : Int64} {p3 : Int32} {M : gq_M} {r : (Int32 × gq_M)} (hr : fn_PS_pin p0 p1 p2 p3 M = some (.inr r)) : gm_W 81 81 l D ad ck yn_Lw_pin bc_Lw_pin 9 [(0, 15, 18, 13), (0, 15, 22, 15)] ({ frames := 8, cells := 1, slots := 6, locals := 139 } : Room) [gv_R 0, gv_I p0, gv_L p1, gv_L p2, gv_I p3, gv_R 80] (ca_A (M, X, o)) (fun z c2 => z = 0 ∧ c2 = ca_A (r.2, X, gz_ul o (0 : Int32).toInt r.1.toInt64)) := by
  refine gm_W.of (by decide) (Nat.le_of_ble_eq_true rfl) (fun x el eD ea ec hC hH hR => ?_)
  refine gx_aload hC dr_Lw_pin_0 rfl ?_
  refine gx_iconst (v := 0) hC dr_Lw_pin_2 (by decide) ?_
  refine gx_aload_n hC dr_Lw_pin_3 rfl ?_
  refine gx_iload_n hC dr_Lw_pin_4 rfl ?_
  refine gx_lload_n hC dr_Lw_pin_5 rfl ?_
  refine gx_lload hC dr_Lw_pin_6 rfl ?_
  refine gx_iload hC dr_Lw_pin_8 rfl ?_
  refine gx_vI hC dr_Lw_pin_10 lk_Lw_7 (mt_PS_pin hr) rfl (by decide) ⟨by decide, by decide⟩ ⟨by decide, by decide⟩ (by decide) ⟨_, _, rfl⟩ rfl rfl (Nat.le_of_ble_eq_true rfl) (fun z c2 hp => ?_)
  obtain ⟨rfl, rfl⟩ := hp
  refine gx_i2l hC dr_Lw_pin_13 ?_
  refine gx_last hC (Nat.le_refl _) dr_Lw_pin_14 (by decide) rfl (by decide) ca_out ?_
  refine gx_goto (tgt := 26) hC dr_Lw_pin_15 (by decide) ?_
  refine gx_iconst (v := 0) hC dr_Lw_pin_26 (by decide) ?_
  exact hR (by decide) (by decide) dr_Lw_pin_27 rfl ⟨rfl, rfl⟩
theorem mw_pin_1 {l : Launch} {D : va_G} {ad : Nat → Nat} {ck : Nat → ClassId} {X : gq_M} {o : Int → Int64} (hfl : l.flags = pinnedFlags ++ [noTraceFlag]) {p0 : Int32} {p1 : Int64} {p2 : Int64} {p3 : Int32} {M : gq_M} (hr : fn_PS_pin p0 p1 p2 p3 M = some (.inl 1)) : gm_W 81 81 l D ad ck yn_Lw_pin bc_Lw_pin 9 [(0, 15, 18, 13), (0, 15, 22, 15)] ({ frames := 8, cells := 1, slots := 6, locals := 139 } : Room) [gv_R 0, gv_I p0, gv_L p1, gv_L p2, gv_I p3, gv_R 80] (ca_A (M, X, o)) (fun z c2 => z = 1 ∧ c2 = ca_A (M, X, o)) := by
  refine gm_W.of (by decide) (Nat.le_of_ble_eq_true rfl) (fun x el eD ea ec hC hH hR => ?_)
  refine gx_aload hC dr_Lw_pin_0 rfl ?_
  refine gx_iconst (v := 0) hC dr_Lw_pin_2 (by decide) ?_
  refine gx_aload_n hC dr_Lw_pin_3 rfl ?_
  refine gx_iload_n hC dr_Lw_pin_4 rfl ?_
  refine gx_lload_n hC dr_Lw_pin_5 rfl ?_
  refine gx_lload hC dr_Lw_pin_6 rfl ?_
  refine gx_iload hC dr_Lw_pin_8 rfl ?_
  refine gx_cV (kd := 1) (pre := []) (rst := [(0, 15, 22, 15)]) (hh := (0, 15, 18, 13)) (j := 8) (len := 2) hC hH ⟨by decide, by decide, gw_in 417 (by decide +kernel) (by decide +kernel), by decide +kernel, fun g hg => absurd hg List.not_mem_nil⟩ dr_Lw_pin_10 (Or.inr ⟨dr_Lw_pin_18, rfl⟩) (by decide) ll_Lw_7 lk_Lw_7 (mx_PS_pin (by rw [el]; exact hfl) hr) rfl ⟨by decide, by decide⟩ ⟨by decide, by decide⟩ (by decide) ⟨_, _, rfl⟩ rfl rfl (Nat.le_of_ble_eq_true rfl) ?_
  refine gx_iconst (v := 1) hC dr_Lw_pin_20 (by decide) ?_
  exact hR (by decide) (by decide) dr_Lw_pin_21 rfl ⟨rfl, rfl⟩
theorem mw_pin_2 {l : Launch} {D : va_G} {ad : Nat → Nat} {ck : Nat → ClassId} {X : gq_M} {o : Int → Int64} (hfl : l.flags = pinnedFlags ++ [noTraceFlag]) {p0 : Int32} {p1 : Int64} {p2 : Int64} {p3 : Int32} {M : gq_M} (hr : fn_PS_pin p0 p1 p2 p3 M = some (.inl 2)) : gm_W 81 81 l D ad ck yn_Lw_pin bc_Lw_pin 9 [(0, 15, 18, 13), (0, 15, 22, 15)] ({ frames := 8, cells := 1, slots := 6, locals := 139 } : Room) [gv_R 0, gv_I p0, gv_L p1, gv_L p2, gv_I p3, gv_R 80] (ca_A (M, X, o)) (fun z c2 => z = 2 ∧ c2 = ca_A (M, X, o)) := by
  refine gm_W.of (by decide) (Nat.le_of_ble_eq_true rfl) (fun x el eD ea ec hC hH hR => ?_)
  refine gx_aload hC dr_Lw_pin_0 rfl ?_
  refine gx_iconst (v := 0) hC dr_Lw_pin_2 (by decide) ?_
  refine gx_aload_n hC dr_Lw_pin_3 rfl ?_
  refine gx_iload_n hC dr_Lw_pin_4 rfl ?_
  refine gx_lload_n hC dr_Lw_pin_5 rfl ?_
  refine gx_lload hC dr_Lw_pin_6 rfl ?_
  refine gx_iload hC dr_Lw_pin_8 rfl ?_
  refine gx_cV (kd := 2) (pre := [(0, 15, 18, 13)]) (rst := []) (hh := (0, 15, 22, 15)) (j := 8) (len := 2) hC hH ⟨by decide, by decide, gw_in 418 (by decide +kernel) (by decide +kernel), by decide +kernel, fun g hg => by cases List.mem_singleton.mp hg; exact ⟨rfl, by decide, gw_in 417 (by decide +kernel) (by decide +kernel)⟩⟩ dr_Lw_pin_10 (Or.inr ⟨dr_Lw_pin_22, rfl⟩) (by decide) ll_Lw_7 lk_Lw_7 (mx_PS_pin (by rw [el]; exact hfl) hr) rfl ⟨by decide, by decide⟩ ⟨by decide, by decide⟩ (by decide) ⟨_, _, rfl⟩ rfl rfl (Nat.le_of_ble_eq_true rfl) ?_
  refine gx_iconst (v := 2) hC dr_Lw_pin_24 (by decide) ?_
  exact hR (by decide) (by decide) dr_Lw_pin_25 rfl ⟨rfl, rfl⟩
theorem ly_73 : gw_Y "PinSwapsLaw" 73 yn_Lw_target bc_Lw_target 8 [(0, 20, 23, 13), (0, 20, 27, 15)] 5 := ⟨gw_in 519 (by decide +kernel) (by decide +kernel), gw_in 520 (by decide +kernel) (by decide +kernel), gw_in 54 (by decide +kernel) (by decide +kernel), gw_in 521 (by decide +kernel) (by decide +kernel), ⟨by decide +kernel, by decide +kernel⟩, by decide +kernel⟩
theorem mw_target_r {l : Launch} {D : va_G} {ad : Nat → Nat} {ck : Nat → ClassId} {X : gq_M} {o : Int → Int64} {p0 : Int32} {p1 : Int64} {p2 : Int64} {M : gq_M} {r : (Int32 × gq_M)} (hr : fn_PS_target p0 p1 p2 M = some (.inr r)) : gm_W 81 81 l D ad ck yn_Lw_target bc_Lw_target 8 [(0, 20, 23, 13), (0, 20, 27, 15)] ({ frames := 8, cells := 1, slots := 6, locals := 138 } : Room) [gv_R 0, gv_I p0, gv_L p1, gv_L p2, gv_R 80] (ca_A (M, X, o)) (fun z c2 => z = 0 ∧ c2 = ca_A (r.2, X, gz_ul o (0 : Int32).toInt (if r.1 = 0 then (Int64.ofNat (0 : Fin 2).val) else (Int64.ofNat (1 : Fin 2).val)))) := by
  refine gm_W.of (by decide) (Nat.le_of_ble_eq_true rfl) (fun x el eD ea ec hC hH hR => ?_)
  refine gx_aload hC dr_Lw_target_0 rfl ?_
  refine gx_iconst (v := 0) hC dr_Lw_target_2 (by decide) ?_
  refine gx_aload_n hC dr_Lw_target_3 rfl ?_
  refine gx_iload_n hC dr_Lw_target_4 rfl ?_
  refine gx_lload_n hC dr_Lw_target_5 rfl ?_
  refine gx_lload hC dr_Lw_target_6 rfl ?_
  refine gx_vI hC dr_Lw_target_8 lk_Lw_17 (mt_PS_target hr) rfl (by decide) ⟨by decide, by decide⟩ ⟨by decide, by decide⟩ (by decide) ⟨_, _, rfl⟩ rfl rfl (Nat.le_of_ble_eq_true rfl) (fun z c2 hp => ?_)
  obtain ⟨rfl, rfl⟩ := hp
  refine gx_if_eq (tgt := 18) hC dr_Lw_target_11 (by decide) (fun e => ?_) (fun e => ?_)
  · refine gx_lconst hC dr_Lw_target_18 ?_
    refine gx_last hC (Nat.le_refl _) dr_Lw_target_19 (by decide) rfl (by decide) ca_out ?_
    refine gx_goto (tgt := 31) hC dr_Lw_target_20 (by decide) ?_
    refine gx_iconst (v := 0) hC dr_Lw_target_31 (by decide) ?_
    exact hR (by decide) (by decide) dr_Lw_target_32 rfl ⟨rfl, by rw [if_pos e]⟩
  · refine gx_lconst hC dr_Lw_target_14 ?_
    refine gx_goto (tgt := 19) hC dr_Lw_target_15 (by decide) ?_
    refine gx_last hC (Nat.le_refl _) dr_Lw_target_19 (by decide) rfl (by decide) ca_out ?_
    refine gx_goto (tgt := 31) hC dr_Lw_target_20 (by decide) ?_
    refine gx_iconst (v := 0) hC dr_Lw_target_31 (by decide) ?_
    exact hR (by decide) (by decide) dr_Lw_target_32 rfl ⟨rfl, by rw [if_neg e]⟩
theorem mw_target_1 {l : Launch} {D : va_G} {ad : Nat → Nat} {ck : Nat → ClassId} {X : gq_M} {o : Int → Int64} (hfl : l.flags = pinnedFlags ++ [noTraceFlag]) {p0 : Int32} {p1 : Int64} {p2 : Int64} {M : gq_M} (hr : fn_PS_target p0 p1 p2 M = some (.inl 1)) : gm_W 81 81 l D ad ck yn_Lw_target bc_Lw_target 8 [(0, 20, 23, 13), (0, 20, 27, 15)] ({ frames := 8, cells := 1, slots := 6, locals := 138 } : Room) [gv_R 0, gv_I p0, gv_L p1, gv_L p2, gv_R 80] (ca_A (M, X, o)) (fun z c2 => z = 1 ∧ c2 = ca_A (M, X, o)) := by
  refine gm_W.of (by decide) (Nat.le_of_ble_eq_true rfl) (fun x el eD ea ec hC hH hR => ?_)
  refine gx_aload hC dr_Lw_target_0 rfl ?_
  refine gx_iconst (v := 0) hC dr_Lw_target_2 (by decide) ?_
  refine gx_aload_n hC dr_Lw_target_3 rfl ?_
  refine gx_iload_n hC dr_Lw_target_4 rfl ?_
  refine gx_lload_n hC dr_Lw_target_5 rfl ?_
  refine gx_lload hC dr_Lw_target_6 rfl ?_
  refine gx_cV (kd := 1) (pre := []) (rst := [(0, 20, 27, 15)]) (hh := (0, 20, 23, 13)) (j := 7) (len := 2) hC hH ⟨by decide, by decide, gw_in 417 (by decide +kernel) (by decide +kernel), by decide +kernel, fun g hg => absurd hg List.not_mem_nil⟩ dr_Lw_target_8 (Or.inr ⟨dr_Lw_target_23, rfl⟩) (by decide) ll_Lw_17 lk_Lw_17 (mx_PS_target (by rw [el]; exact hfl) hr) rfl ⟨by decide, by decide⟩ ⟨by decide, by decide⟩ (by decide) ⟨_, _, rfl⟩ rfl rfl (Nat.le_of_ble_eq_true rfl) ?_
  refine gx_iconst (v := 1) hC dr_Lw_target_25 (by decide) ?_
  exact hR (by decide) (by decide) dr_Lw_target_26 rfl ⟨rfl, rfl⟩
theorem mw_target_2 {l : Launch} {D : va_G} {ad : Nat → Nat} {ck : Nat → ClassId} {X : gq_M} {o : Int → Int64} (hfl : l.flags = pinnedFlags ++ [noTraceFlag]) {p0 : Int32} {p1 : Int64} {p2 : Int64} {M : gq_M} (hr : fn_PS_target p0 p1 p2 M = some (.inl 2)) : gm_W 81 81 l D ad ck yn_Lw_target bc_Lw_target 8 [(0, 20, 23, 13), (0, 20, 27, 15)] ({ frames := 8, cells := 1, slots := 6, locals := 138 } : Room) [gv_R 0, gv_I p0, gv_L p1, gv_L p2, gv_R 80] (ca_A (M, X, o)) (fun z c2 => z = 2 ∧ c2 = ca_A (M, X, o)) := by
  refine gm_W.of (by decide) (Nat.le_of_ble_eq_true rfl) (fun x el eD ea ec hC hH hR => ?_)
  refine gx_aload hC dr_Lw_target_0 rfl ?_
  refine gx_iconst (v := 0) hC dr_Lw_target_2 (by decide) ?_
  refine gx_aload_n hC dr_Lw_target_3 rfl ?_
  refine gx_iload_n hC dr_Lw_target_4 rfl ?_
  refine gx_lload_n hC dr_Lw_target_5 rfl ?_
  refine gx_lload hC dr_Lw_target_6 rfl ?_
  refine gx_cV (kd := 2) (pre := [(0, 20, 23, 13)]) (rst := []) (hh := (0, 20, 27, 15)) (j := 7) (len := 2) hC hH ⟨by decide, by decide, gw_in 418 (by decide +kernel) (by decide +kernel), by decide +kernel, fun g hg => by cases List.mem_singleton.mp hg; exact ⟨rfl, by decide, gw_in 417 (by decide +kernel) (by decide +kernel)⟩⟩ dr_Lw_target_8 (Or.inr ⟨dr_Lw_target_27, rfl⟩) (by decide) ll_Lw_17 lk_Lw_17 (mx_PS_target (by rw [el]; exact hfl) hr) rfl ⟨by decide, by decide⟩ ⟨by decide, by decide⟩ (by decide) ⟨_, _, rfl⟩ rfl rfl (Nat.le_of_ble_eq_true rfl) ?_
  refine gx_iconst (v := 2) hC dr_Lw_target_29 (by decide) ?_
  exact hR (by decide) (by decide) dr_Lw_target_30 rfl ⟨rfl, rfl⟩
theorem ly_77 : gw_Y "PinSwapsLaw" 77 yn_Lw_lock bc_Lw_lock 4 [(0, 16, 19, 13)] 3 := ⟨gw_in 533 (by decide +kernel) (by decide +kernel), gw_in 534 (by decide +kernel) (by decide +kernel), gw_in 54 (by decide +kernel) (by decide +kernel), gw_in 535 (by decide +kernel) (by decide +kernel), ⟨by decide +kernel, by decide +kernel⟩, by decide +kernel⟩
theorem mw_lock_r {l : Launch} {D : va_G} {ad : Nat → Nat} {ck : Nat → ClassId} {X : gq_M} {o : Int → Int64} {p0 : Int32} {M : gq_M} {r : (Int32 × gq_M)} (hr : fn_PS_lock p0 M = some (.inr r)) : gm_W 81 81 l D ad ck yn_Lw_lock bc_Lw_lock 4 [(0, 16, 19, 13)] ({ frames := 8, cells := 1, slots := 6, locals := 133 } : Room) [gv_R 0, gv_I p0, gv_R 80] (ca_A (M, X, o)) (fun z c2 => z = 0 ∧ c2 = ca_A (r.2, X, gz_ul o (0 : Int32).toInt (if r.1 = 0 then (Int64.ofNat (0 : Fin 2).val) else (Int64.ofNat (1 : Fin 2).val)))) := by
  refine gm_W.of (by decide) (Nat.le_of_ble_eq_true rfl) (fun x el eD ea ec hC hH hR => ?_)
  refine gx_aload_n hC dr_Lw_lock_0 rfl ?_
  refine gx_iconst (v := 0) hC dr_Lw_lock_1 (by decide) ?_
  refine gx_aload_n hC dr_Lw_lock_2 rfl ?_
  refine gx_iload_n hC dr_Lw_lock_3 rfl ?_
  refine gx_vI hC dr_Lw_lock_4 lk_Lw_21 (mt_PS_lock hr) rfl (by decide) ⟨by decide, by decide⟩ ⟨by decide, by decide⟩ (by decide) ⟨_, _, rfl⟩ rfl rfl (Nat.le_of_ble_eq_true rfl) (fun z c2 hp => ?_)
  obtain ⟨rfl, rfl⟩ := hp
  refine gx_if_eq (tgt := 14) hC dr_Lw_lock_7 (by decide) (fun e => ?_) (fun e => ?_)
  · refine gx_lconst hC dr_Lw_lock_14 ?_
    refine gx_last hC (Nat.le_refl _) dr_Lw_lock_15 (by decide) rfl (by decide) ca_out ?_
    refine gx_goto (tgt := 22) hC dr_Lw_lock_16 (by decide) ?_
    refine gx_iconst (v := 0) hC dr_Lw_lock_22 (by decide) ?_
    exact hR (by decide) (by decide) dr_Lw_lock_23 rfl ⟨rfl, by rw [if_pos e]⟩
  · refine gx_lconst hC dr_Lw_lock_10 ?_
    refine gx_goto (tgt := 15) hC dr_Lw_lock_11 (by decide) ?_
    refine gx_last hC (Nat.le_refl _) dr_Lw_lock_15 (by decide) rfl (by decide) ca_out ?_
    refine gx_goto (tgt := 22) hC dr_Lw_lock_16 (by decide) ?_
    refine gx_iconst (v := 0) hC dr_Lw_lock_22 (by decide) ?_
    exact hR (by decide) (by decide) dr_Lw_lock_23 rfl ⟨rfl, by rw [if_neg e]⟩
theorem mw_lock_1 {l : Launch} {D : va_G} {ad : Nat → Nat} {ck : Nat → ClassId} {X : gq_M} {o : Int → Int64} (hfl : l.flags = pinnedFlags ++ [noTraceFlag]) {p0 : Int32} {M : gq_M} (hr : fn_PS_lock p0 M = some (.inl 1)) : gm_W 81 81 l D ad ck yn_Lw_lock bc_Lw_lock 4 [(0, 16, 19, 13)] ({ frames := 8, cells := 1, slots := 6, locals := 133 } : Room) [gv_R 0, gv_I p0, gv_R 80] (ca_A (M, X, o)) (fun z c2 => z = 1 ∧ c2 = ca_A (M, X, o)) := by
  refine gm_W.of (by decide) (Nat.le_of_ble_eq_true rfl) (fun x el eD ea ec hC hH hR => ?_)
  refine gx_aload_n hC dr_Lw_lock_0 rfl ?_
  refine gx_iconst (v := 0) hC dr_Lw_lock_1 (by decide) ?_
  refine gx_aload_n hC dr_Lw_lock_2 rfl ?_
  refine gx_iload_n hC dr_Lw_lock_3 rfl ?_
  refine gx_cV (kd := 1) (pre := []) (rst := []) (hh := (0, 16, 19, 13)) (j := 3) (len := 1) hC hH ⟨by decide, by decide, gw_in 417 (by decide +kernel) (by decide +kernel), by decide +kernel, fun g hg => absurd hg List.not_mem_nil⟩ dr_Lw_lock_4 (Or.inl ⟨3, rfl, dr_Lw_lock_19, rfl⟩) (by decide) ll_Lw_21 lk_Lw_21 (mx_PS_lock (by rw [el]; exact hfl) hr) rfl ⟨by decide, by decide⟩ ⟨by decide, by decide⟩ (by decide) ⟨_, _, rfl⟩ rfl rfl (Nat.le_of_ble_eq_true rfl) ?_
  refine gx_iconst (v := 1) hC dr_Lw_lock_20 (by decide) ?_
  exact hR (by decide) (by decide) dr_Lw_lock_21 rfl ⟨rfl, rfl⟩
theorem ly_81 : gw_Y "PinSwapsLaw" 81 yn_Lw_pair bc_Lw_pair 5 [(0, 17, 20, 13)] 4 := ⟨gw_in 545 (by decide +kernel) (by decide +kernel), gw_in 546 (by decide +kernel) (by decide +kernel), gw_in 54 (by decide +kernel) (by decide +kernel), gw_in 547 (by decide +kernel) (by decide +kernel), ⟨by decide +kernel, by decide +kernel⟩, by decide +kernel⟩
theorem mw_pair_r {l : Launch} {D : va_G} {ad : Nat → Nat} {ck : Nat → ClassId} {X : gq_M} {o : Int → Int64} {p0 : Int32} {p1 : Int32} {M : gq_M} {r : (Int32 × gq_M)} (hr : fn_PS_pair p0 p1 M = some (.inr r)) : gm_W 81 81 l D ad ck yn_Lw_pair bc_Lw_pair 5 [(0, 17, 20, 13)] ({ frames := 8, cells := 1, slots := 6, locals := 133 } : Room) [gv_R 0, gv_I p0, gv_I p1, gv_R 80] (ca_A (M, X, o)) (fun z c2 => z = 0 ∧ c2 = ca_A (r.2, X, gz_ul o (0 : Int32).toInt (if r.1 = 0 then (Int64.ofNat (0 : Fin 2).val) else (Int64.ofNat (1 : Fin 2).val)))) := by
  refine gm_W.of (by decide) (Nat.le_of_ble_eq_true rfl) (fun x el eD ea ec hC hH hR => ?_)
  refine gx_aload_n hC dr_Lw_pair_0 rfl ?_
  refine gx_iconst (v := 0) hC dr_Lw_pair_1 (by decide) ?_
  refine gx_aload_n hC dr_Lw_pair_2 rfl ?_
  refine gx_iload_n hC dr_Lw_pair_3 rfl ?_
  refine gx_iload_n hC dr_Lw_pair_4 rfl ?_
  refine gx_vI hC dr_Lw_pair_5 lk_Lw_25 (mt_PS_pair hr) rfl (by decide) ⟨by decide, by decide⟩ ⟨by decide, by decide⟩ (by decide) ⟨_, _, rfl⟩ rfl rfl (Nat.le_of_ble_eq_true rfl) (fun z c2 hp => ?_)
  obtain ⟨rfl, rfl⟩ := hp
  refine gx_if_eq (tgt := 15) hC dr_Lw_pair_8 (by decide) (fun e => ?_) (fun e => ?_)
  · refine gx_lconst hC dr_Lw_pair_15 ?_
    refine gx_last hC (Nat.le_refl _) dr_Lw_pair_16 (by decide) rfl (by decide) ca_out ?_
    refine gx_goto (tgt := 24) hC dr_Lw_pair_17 (by decide) ?_
    refine gx_iconst (v := 0) hC dr_Lw_pair_24 (by decide) ?_
    exact hR (by decide) (by decide) dr_Lw_pair_25 rfl ⟨rfl, by rw [if_pos e]⟩
  · refine gx_lconst hC dr_Lw_pair_11 ?_
    refine gx_goto (tgt := 16) hC dr_Lw_pair_12 (by decide) ?_
    refine gx_last hC (Nat.le_refl _) dr_Lw_pair_16 (by decide) rfl (by decide) ca_out ?_
    refine gx_goto (tgt := 24) hC dr_Lw_pair_17 (by decide) ?_
    refine gx_iconst (v := 0) hC dr_Lw_pair_24 (by decide) ?_
    exact hR (by decide) (by decide) dr_Lw_pair_25 rfl ⟨rfl, by rw [if_neg e]⟩
theorem mw_pair_1 {l : Launch} {D : va_G} {ad : Nat → Nat} {ck : Nat → ClassId} {X : gq_M} {o : Int → Int64} (hfl : l.flags = pinnedFlags ++ [noTraceFlag]) {p0 : Int32} {p1 : Int32} {M : gq_M} (hr : fn_PS_pair p0 p1 M = some (.inl 1)) : gm_W 81 81 l D ad ck yn_Lw_pair bc_Lw_pair 5 [(0, 17, 20, 13)] ({ frames := 8, cells := 1, slots := 6, locals := 133 } : Room) [gv_R 0, gv_I p0, gv_I p1, gv_R 80] (ca_A (M, X, o)) (fun z c2 => z = 1 ∧ c2 = ca_A (M, X, o)) := by
  refine gm_W.of (by decide) (Nat.le_of_ble_eq_true rfl) (fun x el eD ea ec hC hH hR => ?_)
  refine gx_aload_n hC dr_Lw_pair_0 rfl ?_
  refine gx_iconst (v := 0) hC dr_Lw_pair_1 (by decide) ?_
  refine gx_aload_n hC dr_Lw_pair_2 rfl ?_
  refine gx_iload_n hC dr_Lw_pair_3 rfl ?_
  refine gx_iload_n hC dr_Lw_pair_4 rfl ?_
  refine gx_cV (kd := 1) (pre := []) (rst := []) (hh := (0, 17, 20, 13)) (j := 4) (len := 2) hC hH ⟨by decide, by decide, gw_in 417 (by decide +kernel) (by decide +kernel), by decide +kernel, fun g hg => absurd hg List.not_mem_nil⟩ dr_Lw_pair_5 (Or.inr ⟨dr_Lw_pair_20, rfl⟩) (by decide) ll_Lw_25 lk_Lw_25 (mx_PS_pair (by rw [el]; exact hfl) hr) rfl ⟨by decide, by decide⟩ ⟨by decide, by decide⟩ (by decide) ⟨_, _, rfl⟩ rfl rfl (Nat.le_of_ble_eq_true rfl) ?_
  refine gx_iconst (v := 1) hC dr_Lw_pair_22 (by decide) ?_
  exact hR (by decide) (by decide) dr_Lw_pair_23 rfl ⟨rfl, rfl⟩
theorem ly_85 : gw_Y "PinSwapsLaw" 85 yn_Lw_bank bc_Lw_bank 5 [(0, 17, 20, 13), (0, 17, 24, 15)] 4 := ⟨gw_in 556 (by decide +kernel) (by decide +kernel), gw_in 557 (by decide +kernel) (by decide +kernel), gw_in 54 (by decide +kernel) (by decide +kernel), gw_in 558 (by decide +kernel) (by decide +kernel), ⟨by decide +kernel, by decide +kernel⟩, by decide +kernel⟩
theorem mw_bank_r {l : Launch} {D : va_G} {ad : Nat → Nat} {ck : Nat → ClassId} {X : gq_M} {o : Int → Int64} {p0 : Int32} {p1 : Int32} {M : gq_M} {r : (Int32 × gq_M)} (hr : fn_PS_bank p0 p1 M = some (.inr r)) : gm_W 81 81 l D ad ck yn_Lw_bank bc_Lw_bank 5 [(0, 17, 20, 13), (0, 17, 24, 15)] ({ frames := 8, cells := 1, slots := 6, locals := 134 } : Room) [gv_R 0, gv_I p0, gv_I p1, gv_R 80] (ca_A (M, X, o)) (fun z c2 => z = 0 ∧ c2 = ca_A (r.2, X, gz_ul o (0 : Int32).toInt (if r.1 = 0 then (Int64.ofNat (0 : Fin 2).val) else (Int64.ofNat (1 : Fin 2).val)))) := by
  refine gm_W.of (by decide) (Nat.le_of_ble_eq_true rfl) (fun x el eD ea ec hC hH hR => ?_)
  refine gx_aload_n hC dr_Lw_bank_0 rfl ?_
  refine gx_iconst (v := 0) hC dr_Lw_bank_1 (by decide) ?_
  refine gx_aload_n hC dr_Lw_bank_2 rfl ?_
  refine gx_iload_n hC dr_Lw_bank_3 rfl ?_
  refine gx_iload_n hC dr_Lw_bank_4 rfl ?_
  refine gx_vI hC dr_Lw_bank_5 lk_Lw_29 (mt_PS_bank hr) rfl (by decide) ⟨by decide, by decide⟩ ⟨by decide, by decide⟩ (by decide) ⟨_, _, rfl⟩ rfl rfl (Nat.le_of_ble_eq_true rfl) (fun z c2 hp => ?_)
  obtain ⟨rfl, rfl⟩ := hp
  refine gx_if_eq (tgt := 15) hC dr_Lw_bank_8 (by decide) (fun e => ?_) (fun e => ?_)
  · refine gx_lconst hC dr_Lw_bank_15 ?_
    refine gx_last hC (Nat.le_refl _) dr_Lw_bank_16 (by decide) rfl (by decide) ca_out ?_
    refine gx_goto (tgt := 28) hC dr_Lw_bank_17 (by decide) ?_
    refine gx_iconst (v := 0) hC dr_Lw_bank_28 (by decide) ?_
    exact hR (by decide) (by decide) dr_Lw_bank_29 rfl ⟨rfl, by rw [if_pos e]⟩
  · refine gx_lconst hC dr_Lw_bank_11 ?_
    refine gx_goto (tgt := 16) hC dr_Lw_bank_12 (by decide) ?_
    refine gx_last hC (Nat.le_refl _) dr_Lw_bank_16 (by decide) rfl (by decide) ca_out ?_
    refine gx_goto (tgt := 28) hC dr_Lw_bank_17 (by decide) ?_
    refine gx_iconst (v := 0) hC dr_Lw_bank_28 (by decide) ?_
    exact hR (by decide) (by decide) dr_Lw_bank_29 rfl ⟨rfl, by rw [if_neg e]⟩
theorem mw_bank_1 {l : Launch} {D : va_G} {ad : Nat → Nat} {ck : Nat → ClassId} {X : gq_M} {o : Int → Int64} (hfl : l.flags = pinnedFlags ++ [noTraceFlag]) {p0 : Int32} {p1 : Int32} {M : gq_M} (hr : fn_PS_bank p0 p1 M = some (.inl 1)) : gm_W 81 81 l D ad ck yn_Lw_bank bc_Lw_bank 5 [(0, 17, 20, 13), (0, 17, 24, 15)] ({ frames := 8, cells := 1, slots := 6, locals := 134 } : Room) [gv_R 0, gv_I p0, gv_I p1, gv_R 80] (ca_A (M, X, o)) (fun z c2 => z = 1 ∧ c2 = ca_A (M, X, o)) := by
  refine gm_W.of (by decide) (Nat.le_of_ble_eq_true rfl) (fun x el eD ea ec hC hH hR => ?_)
  refine gx_aload_n hC dr_Lw_bank_0 rfl ?_
  refine gx_iconst (v := 0) hC dr_Lw_bank_1 (by decide) ?_
  refine gx_aload_n hC dr_Lw_bank_2 rfl ?_
  refine gx_iload_n hC dr_Lw_bank_3 rfl ?_
  refine gx_iload_n hC dr_Lw_bank_4 rfl ?_
  refine gx_cV (kd := 1) (pre := []) (rst := [(0, 17, 24, 15)]) (hh := (0, 17, 20, 13)) (j := 4) (len := 2) hC hH ⟨by decide, by decide, gw_in 417 (by decide +kernel) (by decide +kernel), by decide +kernel, fun g hg => absurd hg List.not_mem_nil⟩ dr_Lw_bank_5 (Or.inr ⟨dr_Lw_bank_20, rfl⟩) (by decide) ll_Lw_29 lk_Lw_29 (mx_PS_bank (by rw [el]; exact hfl) hr) rfl ⟨by decide, by decide⟩ ⟨by decide, by decide⟩ (by decide) ⟨_, _, rfl⟩ rfl rfl (Nat.le_of_ble_eq_true rfl) ?_
  refine gx_iconst (v := 1) hC dr_Lw_bank_22 (by decide) ?_
  exact hR (by decide) (by decide) dr_Lw_bank_23 rfl ⟨rfl, rfl⟩
theorem mw_bank_2 {l : Launch} {D : va_G} {ad : Nat → Nat} {ck : Nat → ClassId} {X : gq_M} {o : Int → Int64} (hfl : l.flags = pinnedFlags ++ [noTraceFlag]) {p0 : Int32} {p1 : Int32} {M : gq_M} (hr : fn_PS_bank p0 p1 M = some (.inl 2)) : gm_W 81 81 l D ad ck yn_Lw_bank bc_Lw_bank 5 [(0, 17, 20, 13), (0, 17, 24, 15)] ({ frames := 8, cells := 1, slots := 6, locals := 134 } : Room) [gv_R 0, gv_I p0, gv_I p1, gv_R 80] (ca_A (M, X, o)) (fun z c2 => z = 2 ∧ c2 = ca_A (M, X, o)) := by
  refine gm_W.of (by decide) (Nat.le_of_ble_eq_true rfl) (fun x el eD ea ec hC hH hR => ?_)
  refine gx_aload_n hC dr_Lw_bank_0 rfl ?_
  refine gx_iconst (v := 0) hC dr_Lw_bank_1 (by decide) ?_
  refine gx_aload_n hC dr_Lw_bank_2 rfl ?_
  refine gx_iload_n hC dr_Lw_bank_3 rfl ?_
  refine gx_iload_n hC dr_Lw_bank_4 rfl ?_
  refine gx_cV (kd := 2) (pre := [(0, 17, 20, 13)]) (rst := []) (hh := (0, 17, 24, 15)) (j := 4) (len := 2) hC hH ⟨by decide, by decide, gw_in 418 (by decide +kernel) (by decide +kernel), by decide +kernel, fun g hg => by cases List.mem_singleton.mp hg; exact ⟨rfl, by decide, gw_in 417 (by decide +kernel) (by decide +kernel)⟩⟩ dr_Lw_bank_5 (Or.inr ⟨dr_Lw_bank_24, rfl⟩) (by decide) ll_Lw_29 lk_Lw_29 (mx_PS_bank (by rw [el]; exact hfl) hr) rfl ⟨by decide, by decide⟩ ⟨by decide, by decide⟩ (by decide) ⟨_, _, rfl⟩ rfl rfl (Nat.le_of_ble_eq_true rfl) ?_
  refine gx_iconst (v := 2) hC dr_Lw_bank_26 (by decide) ?_
  exact hR (by decide) (by decide) dr_Lw_bank_27 rfl ⟨rfl, rfl⟩
theorem ly_88 : gw_Y "PinSwapsLaw" 88 yn_Lw_needs bc_Lw_needs 5 [(0, 17, 20, 13), (0, 17, 24, 15)] 4 := ⟨gw_in 564 (by decide +kernel) (by decide +kernel), gw_in 565 (by decide +kernel) (by decide +kernel), gw_in 54 (by decide +kernel) (by decide +kernel), gw_in 566 (by decide +kernel) (by decide +kernel), ⟨by decide +kernel, by decide +kernel⟩, by decide +kernel⟩
theorem mw_needs_r {l : Launch} {D : va_G} {ad : Nat → Nat} {ck : Nat → ClassId} {X : gq_M} {o : Int → Int64} {p0 : Int32} {p1 : Int32} {M : gq_M} {r : (Int32 × gq_M)} (hr : fn_PS_needs p0 p1 M = some (.inr r)) : gm_W 81 81 l D ad ck yn_Lw_needs bc_Lw_needs 5 [(0, 17, 20, 13), (0, 17, 24, 15)] ({ frames := 8, cells := 1, slots := 6, locals := 133 } : Room) [gv_R 0, gv_I p0, gv_I p1, gv_R 80] (ca_A (M, X, o)) (fun z c2 => z = 0 ∧ c2 = ca_A (r.2, X, gz_ul o (0 : Int32).toInt (if r.1 = 0 then (Int64.ofNat (0 : Fin 2).val) else (Int64.ofNat (1 : Fin 2).val)))) := by
  refine gm_W.of (by decide) (Nat.le_of_ble_eq_true rfl) (fun x el eD ea ec hC hH hR => ?_)
  refine gx_aload_n hC dr_Lw_needs_0 rfl ?_
  refine gx_iconst (v := 0) hC dr_Lw_needs_1 (by decide) ?_
  refine gx_aload_n hC dr_Lw_needs_2 rfl ?_
  refine gx_iload_n hC dr_Lw_needs_3 rfl ?_
  refine gx_iload_n hC dr_Lw_needs_4 rfl ?_
  refine gx_vI hC dr_Lw_needs_5 lk_Lw_32 (mt_PS_needs hr) rfl (by decide) ⟨by decide, by decide⟩ ⟨by decide, by decide⟩ (by decide) ⟨_, _, rfl⟩ rfl rfl (Nat.le_of_ble_eq_true rfl) (fun z c2 hp => ?_)
  obtain ⟨rfl, rfl⟩ := hp
  refine gx_if_eq (tgt := 15) hC dr_Lw_needs_8 (by decide) (fun e => ?_) (fun e => ?_)
  · refine gx_lconst hC dr_Lw_needs_15 ?_
    refine gx_last hC (Nat.le_refl _) dr_Lw_needs_16 (by decide) rfl (by decide) ca_out ?_
    refine gx_goto (tgt := 28) hC dr_Lw_needs_17 (by decide) ?_
    refine gx_iconst (v := 0) hC dr_Lw_needs_28 (by decide) ?_
    exact hR (by decide) (by decide) dr_Lw_needs_29 rfl ⟨rfl, by rw [if_pos e]⟩
  · refine gx_lconst hC dr_Lw_needs_11 ?_
    refine gx_goto (tgt := 16) hC dr_Lw_needs_12 (by decide) ?_
    refine gx_last hC (Nat.le_refl _) dr_Lw_needs_16 (by decide) rfl (by decide) ca_out ?_
    refine gx_goto (tgt := 28) hC dr_Lw_needs_17 (by decide) ?_
    refine gx_iconst (v := 0) hC dr_Lw_needs_28 (by decide) ?_
    exact hR (by decide) (by decide) dr_Lw_needs_29 rfl ⟨rfl, by rw [if_neg e]⟩
theorem mw_needs_1 {l : Launch} {D : va_G} {ad : Nat → Nat} {ck : Nat → ClassId} {X : gq_M} {o : Int → Int64} (hfl : l.flags = pinnedFlags ++ [noTraceFlag]) {p0 : Int32} {p1 : Int32} {M : gq_M} (hr : fn_PS_needs p0 p1 M = some (.inl 1)) : gm_W 81 81 l D ad ck yn_Lw_needs bc_Lw_needs 5 [(0, 17, 20, 13), (0, 17, 24, 15)] ({ frames := 8, cells := 1, slots := 6, locals := 133 } : Room) [gv_R 0, gv_I p0, gv_I p1, gv_R 80] (ca_A (M, X, o)) (fun z c2 => z = 1 ∧ c2 = ca_A (M, X, o)) := by
  refine gm_W.of (by decide) (Nat.le_of_ble_eq_true rfl) (fun x el eD ea ec hC hH hR => ?_)
  refine gx_aload_n hC dr_Lw_needs_0 rfl ?_
  refine gx_iconst (v := 0) hC dr_Lw_needs_1 (by decide) ?_
  refine gx_aload_n hC dr_Lw_needs_2 rfl ?_
  refine gx_iload_n hC dr_Lw_needs_3 rfl ?_
  refine gx_iload_n hC dr_Lw_needs_4 rfl ?_
  refine gx_cV (kd := 1) (pre := []) (rst := [(0, 17, 24, 15)]) (hh := (0, 17, 20, 13)) (j := 4) (len := 2) hC hH ⟨by decide, by decide, gw_in 417 (by decide +kernel) (by decide +kernel), by decide +kernel, fun g hg => absurd hg List.not_mem_nil⟩ dr_Lw_needs_5 (Or.inr ⟨dr_Lw_needs_20, rfl⟩) (by decide) ll_Lw_32 lk_Lw_32 (mx_PS_needs (by rw [el]; exact hfl) hr) rfl ⟨by decide, by decide⟩ ⟨by decide, by decide⟩ (by decide) ⟨_, _, rfl⟩ rfl rfl (Nat.le_of_ble_eq_true rfl) ?_
  refine gx_iconst (v := 1) hC dr_Lw_needs_22 (by decide) ?_
  exact hR (by decide) (by decide) dr_Lw_needs_23 rfl ⟨rfl, rfl⟩
theorem mw_needs_2 {l : Launch} {D : va_G} {ad : Nat → Nat} {ck : Nat → ClassId} {X : gq_M} {o : Int → Int64} (hfl : l.flags = pinnedFlags ++ [noTraceFlag]) {p0 : Int32} {p1 : Int32} {M : gq_M} (hr : fn_PS_needs p0 p1 M = some (.inl 2)) : gm_W 81 81 l D ad ck yn_Lw_needs bc_Lw_needs 5 [(0, 17, 20, 13), (0, 17, 24, 15)] ({ frames := 8, cells := 1, slots := 6, locals := 133 } : Room) [gv_R 0, gv_I p0, gv_I p1, gv_R 80] (ca_A (M, X, o)) (fun z c2 => z = 2 ∧ c2 = ca_A (M, X, o)) := by
  refine gm_W.of (by decide) (Nat.le_of_ble_eq_true rfl) (fun x el eD ea ec hC hH hR => ?_)
  refine gx_aload_n hC dr_Lw_needs_0 rfl ?_
  refine gx_iconst (v := 0) hC dr_Lw_needs_1 (by decide) ?_
  refine gx_aload_n hC dr_Lw_needs_2 rfl ?_
  refine gx_iload_n hC dr_Lw_needs_3 rfl ?_
  refine gx_iload_n hC dr_Lw_needs_4 rfl ?_
  refine gx_cV (kd := 2) (pre := [(0, 17, 20, 13)]) (rst := []) (hh := (0, 17, 24, 15)) (j := 4) (len := 2) hC hH ⟨by decide, by decide, gw_in 418 (by decide +kernel) (by decide +kernel), by decide +kernel, fun g hg => by cases List.mem_singleton.mp hg; exact ⟨rfl, by decide, gw_in 417 (by decide +kernel) (by decide +kernel)⟩⟩ dr_Lw_needs_5 (Or.inr ⟨dr_Lw_needs_24, rfl⟩) (by decide) ll_Lw_32 lk_Lw_32 (mx_PS_needs (by rw [el]; exact hfl) hr) rfl ⟨by decide, by decide⟩ ⟨by decide, by decide⟩ (by decide) ⟨_, _, rfl⟩ rfl rfl (Nat.le_of_ble_eq_true rfl) ?_
  refine gx_iconst (v := 2) hC dr_Lw_needs_26 (by decide) ?_
  exact hR (by decide) (by decide) dr_Lw_needs_27 rfl ⟨rfl, rfl⟩
theorem ly_95 : gw_Y "PinSwapsLaw" 95 yn_Lw_netOf bc_Lw_netOf 4 [(0, 9, 12, 13)] 3 := ⟨gw_in 572 (by decide +kernel) (by decide +kernel), gw_in 573 (by decide +kernel) (by decide +kernel), gw_in 54 (by decide +kernel) (by decide +kernel), gw_in 574 (by decide +kernel) (by decide +kernel), ⟨by decide +kernel, by decide +kernel⟩, by decide +kernel⟩
theorem mw_netOf_r {l : Launch} {D : va_G} {ad : Nat → Nat} {ck : Nat → ClassId} {X : gq_M} {o : Int → Int64} {p0 : Int32} {M : gq_M} {r : Int32} (hr : fn_PS_netOf p0 M = some (.inr r)) : gm_W 81 81 l D ad ck yn_Lw_netOf bc_Lw_netOf 4 [(0, 9, 12, 13)] ({ frames := 8, cells := 1, slots := 6, locals := 132 } : Room) [gv_R 0, gv_I p0, gv_R 80] (ca_A (M, X, o)) (fun z c2 => z = 0 ∧ c2 = ca_A (M, X, gz_ul o (0 : Int32).toInt r.toInt64)) := by
  refine gm_W.of (by decide) (Nat.le_of_ble_eq_true rfl) (fun x el eD ea ec hC hH hR => ?_)
  refine gx_aload_n hC dr_Lw_netOf_0 rfl ?_
  refine gx_iconst (v := 0) hC dr_Lw_netOf_1 (by decide) ?_
  refine gx_aload_n hC dr_Lw_netOf_2 rfl ?_
  refine gx_iload_n hC dr_Lw_netOf_3 rfl ?_
  refine gx_vI hC dr_Lw_netOf_4 lk_Lw_35 (mt_PS_netOf hr) rfl (by decide) ⟨by decide, by decide⟩ ⟨by decide, by decide⟩ (by decide) ⟨_, _, rfl⟩ rfl rfl (Nat.le_of_ble_eq_true rfl) (fun z c2 hp => ?_)
  obtain ⟨rfl, rfl⟩ := hp
  refine gx_i2l hC dr_Lw_netOf_7 ?_
  refine gx_last hC (Nat.le_refl _) dr_Lw_netOf_8 (by decide) rfl (by decide) ca_out ?_
  refine gx_goto (tgt := 15) hC dr_Lw_netOf_9 (by decide) ?_
  refine gx_iconst (v := 0) hC dr_Lw_netOf_15 (by decide) ?_
  exact hR (by decide) (by decide) dr_Lw_netOf_16 rfl ⟨rfl, rfl⟩
theorem mw_netOf_1 {l : Launch} {D : va_G} {ad : Nat → Nat} {ck : Nat → ClassId} {X : gq_M} {o : Int → Int64} (hfl : l.flags = pinnedFlags ++ [noTraceFlag]) {p0 : Int32} {M : gq_M} (hr : fn_PS_netOf p0 M = some (.inl 1)) : gm_W 81 81 l D ad ck yn_Lw_netOf bc_Lw_netOf 4 [(0, 9, 12, 13)] ({ frames := 8, cells := 1, slots := 6, locals := 132 } : Room) [gv_R 0, gv_I p0, gv_R 80] (ca_A (M, X, o)) (fun z c2 => z = 1 ∧ c2 = ca_A (M, X, o)) := by
  refine gm_W.of (by decide) (Nat.le_of_ble_eq_true rfl) (fun x el eD ea ec hC hH hR => ?_)
  refine gx_aload_n hC dr_Lw_netOf_0 rfl ?_
  refine gx_iconst (v := 0) hC dr_Lw_netOf_1 (by decide) ?_
  refine gx_aload_n hC dr_Lw_netOf_2 rfl ?_
  refine gx_iload_n hC dr_Lw_netOf_3 rfl ?_
  refine gx_cV (kd := 1) (pre := []) (rst := []) (hh := (0, 9, 12, 13)) (j := 3) (len := 1) hC hH ⟨by decide, by decide, gw_in 417 (by decide +kernel) (by decide +kernel), by decide +kernel, fun g hg => absurd hg List.not_mem_nil⟩ dr_Lw_netOf_4 (Or.inl ⟨3, rfl, dr_Lw_netOf_12, rfl⟩) (by decide) ll_Lw_35 lk_Lw_35 (mx_PS_netOf (by rw [el]; exact hfl) hr) rfl ⟨by decide, by decide⟩ ⟨by decide, by decide⟩ (by decide) ⟨_, _, rfl⟩ rfl rfl (Nat.le_of_ble_eq_true rfl) ?_
  refine gx_iconst (v := 1) hC dr_Lw_netOf_13 (by decide) ?_
  exact hR (by decide) (by decide) dr_Lw_netOf_14 rfl ⟨rfl, rfl⟩
theorem ly_107 : gw_Y "PinSwapsLaw" 107 yn_Lw_dual bc_Lw_dual 5 [(0, 9, 12, 13)] 4 := ⟨gw_in 579 (by decide +kernel) (by decide +kernel), gw_in 580 (by decide +kernel) (by decide +kernel), gw_in 54 (by decide +kernel) (by decide +kernel), gw_in 581 (by decide +kernel) (by decide +kernel), ⟨by decide +kernel, by decide +kernel⟩, by decide +kernel⟩
theorem mw_dual_r {l : Launch} {D : va_G} {ad : Nat → Nat} {ck : Nat → ClassId} {X : gq_M} {o : Int → Int64} {p0 : Int32} {p1 : Int32} {M : gq_M} {r : (Int64 × gq_M)} (hr : fn_PS_dual p0 p1 M = some (.inr r)) : gm_W 81 81 l D ad ck yn_Lw_dual bc_Lw_dual 5 [(0, 9, 12, 13)] ({ frames := 8, cells := 1, slots := 6, locals := 138 } : Room) [gv_R 0, gv_I p0, gv_I p1, gv_R 80] (ca_A (M, X, o)) (fun z c2 => z = 0 ∧ c2 = ca_A (r.2, X, gz_ul o (0 : Int32).toInt r.1)) := by
  refine gm_W.of (by decide) (Nat.le_of_ble_eq_true rfl) (fun x el eD ea ec hC hH hR => ?_)
  refine gx_aload_n hC dr_Lw_dual_0 rfl ?_
  refine gx_iconst (v := 0) hC dr_Lw_dual_1 (by decide) ?_
  refine gx_aload_n hC dr_Lw_dual_2 rfl ?_
  refine gx_iload_n hC dr_Lw_dual_3 rfl ?_
  refine gx_iload_n hC dr_Lw_dual_4 rfl ?_
  refine gx_vJ hC dr_Lw_dual_5 lk_Lw_39 (mt_PS_dual hr) rfl (by decide) ⟨by decide, by decide⟩ ⟨by decide, by decide⟩ (by decide) ⟨_, _, rfl⟩ rfl rfl (Nat.le_of_ble_eq_true rfl) (fun z c2 hp => ?_)
  obtain ⟨rfl, rfl⟩ := hp
  refine gx_last hC (Nat.le_refl _) dr_Lw_dual_8 (by decide) rfl (by decide) ca_out ?_
  refine gx_goto (tgt := 16) hC dr_Lw_dual_9 (by decide) ?_
  refine gx_iconst (v := 0) hC dr_Lw_dual_16 (by decide) ?_
  exact hR (by decide) (by decide) dr_Lw_dual_17 rfl ⟨rfl, rfl⟩
theorem mw_dual_1 {l : Launch} {D : va_G} {ad : Nat → Nat} {ck : Nat → ClassId} {X : gq_M} {o : Int → Int64} (hfl : l.flags = pinnedFlags ++ [noTraceFlag]) {p0 : Int32} {p1 : Int32} {M : gq_M} (hr : fn_PS_dual p0 p1 M = some (.inl 1)) : gm_W 81 81 l D ad ck yn_Lw_dual bc_Lw_dual 5 [(0, 9, 12, 13)] ({ frames := 8, cells := 1, slots := 6, locals := 138 } : Room) [gv_R 0, gv_I p0, gv_I p1, gv_R 80] (ca_A (M, X, o)) (fun z c2 => z = 1 ∧ c2 = ca_A (M, X, o)) := by
  refine gm_W.of (by decide) (Nat.le_of_ble_eq_true rfl) (fun x el eD ea ec hC hH hR => ?_)
  refine gx_aload_n hC dr_Lw_dual_0 rfl ?_
  refine gx_iconst (v := 0) hC dr_Lw_dual_1 (by decide) ?_
  refine gx_aload_n hC dr_Lw_dual_2 rfl ?_
  refine gx_iload_n hC dr_Lw_dual_3 rfl ?_
  refine gx_iload_n hC dr_Lw_dual_4 rfl ?_
  refine gx_cV (kd := 1) (pre := []) (rst := []) (hh := (0, 9, 12, 13)) (j := 4) (len := 2) hC hH ⟨by decide, by decide, gw_in 417 (by decide +kernel) (by decide +kernel), by decide +kernel, fun g hg => absurd hg List.not_mem_nil⟩ dr_Lw_dual_5 (Or.inr ⟨dr_Lw_dual_12, rfl⟩) (by decide) ll_Lw_39 lk_Lw_39 (mx_PS_dual (by rw [el]; exact hfl) hr) rfl ⟨by decide, by decide⟩ ⟨by decide, by decide⟩ (by decide) ⟨_, _, rfl⟩ rfl rfl (Nat.le_of_ble_eq_true rfl) ?_
  refine gx_iconst (v := 1) hC dr_Lw_dual_14 (by decide) ?_
  exact hR (by decide) (by decide) dr_Lw_dual_15 rfl ⟨rfl, rfl⟩
theorem ly_110 : gw_Y "PinSwapsLaw" 110 yn_Lw_note bc_Lw_note 5 [(0, 10, 13, 13)] 4 := ⟨gw_in 606 (by decide +kernel) (by decide +kernel), gw_in 607 (by decide +kernel) (by decide +kernel), gw_in 54 (by decide +kernel) (by decide +kernel), gw_in 608 (by decide +kernel) (by decide +kernel), ⟨by decide +kernel, by decide +kernel⟩, by decide +kernel⟩
theorem mw_note_r {l : Launch} {D : va_G} {ad : Nat → Nat} {ck : Nat → ClassId} {X : gq_M} {o : Int → Int64} {p0 : Int32} {p1 : Int32} {M : gq_M} {r : Int32} (hr : fn_PS_note p0 p1 M = some (.inr r)) : gm_W 81 81 l D ad ck yn_Lw_note bc_Lw_note 5 [(0, 10, 13, 13)] ({ frames := 7, cells := 1, slots := 6, locals := 113 } : Room) [gv_R 0, gv_I p0, gv_I p1, gv_R 80] (ca_A (M, X, o)) (fun z c2 => z = 0 ∧ c2 = ca_A (M, X, gz_ul o (0 : Int32).toInt r.toInt64)) := by
  refine gm_W.of (by decide) (Nat.le_of_ble_eq_true rfl) (fun x el eD ea ec hC hH hR => ?_)
  refine gx_aload_n hC dr_Lw_note_0 rfl ?_
  refine gx_iconst (v := 0) hC dr_Lw_note_1 (by decide) ?_
  refine gx_aload_n hC dr_Lw_note_2 rfl ?_
  refine gx_iload_n hC dr_Lw_note_3 rfl ?_
  refine gx_iload_n hC dr_Lw_note_4 rfl ?_
  refine gx_vI hC dr_Lw_note_5 lk_Lw_43 (mt_PS_note hr) rfl (by decide) ⟨by decide, by decide⟩ ⟨by decide, by decide⟩ (by decide) ⟨_, _, rfl⟩ rfl rfl (Nat.le_of_ble_eq_true rfl) (fun z c2 hp => ?_)
  obtain ⟨rfl, rfl⟩ := hp
  refine gx_i2l hC dr_Lw_note_8 ?_
  refine gx_last hC (Nat.le_refl _) dr_Lw_note_9 (by decide) rfl (by decide) ca_out ?_
  refine gx_goto (tgt := 17) hC dr_Lw_note_10 (by decide) ?_
  refine gx_iconst (v := 0) hC dr_Lw_note_17 (by decide) ?_
  exact hR (by decide) (by decide) dr_Lw_note_18 rfl ⟨rfl, rfl⟩
theorem mw_note_1 {l : Launch} {D : va_G} {ad : Nat → Nat} {ck : Nat → ClassId} {X : gq_M} {o : Int → Int64} (hfl : l.flags = pinnedFlags ++ [noTraceFlag]) {p0 : Int32} {p1 : Int32} {M : gq_M} (hr : fn_PS_note p0 p1 M = some (.inl 1)) : gm_W 81 81 l D ad ck yn_Lw_note bc_Lw_note 5 [(0, 10, 13, 13)] ({ frames := 7, cells := 1, slots := 6, locals := 113 } : Room) [gv_R 0, gv_I p0, gv_I p1, gv_R 80] (ca_A (M, X, o)) (fun z c2 => z = 1 ∧ c2 = ca_A (M, X, o)) := by
  refine gm_W.of (by decide) (Nat.le_of_ble_eq_true rfl) (fun x el eD ea ec hC hH hR => ?_)
  refine gx_aload_n hC dr_Lw_note_0 rfl ?_
  refine gx_iconst (v := 0) hC dr_Lw_note_1 (by decide) ?_
  refine gx_aload_n hC dr_Lw_note_2 rfl ?_
  refine gx_iload_n hC dr_Lw_note_3 rfl ?_
  refine gx_iload_n hC dr_Lw_note_4 rfl ?_
  refine gx_cV (kd := 1) (pre := []) (rst := []) (hh := (0, 10, 13, 13)) (j := 4) (len := 2) hC hH ⟨by decide, by decide, gw_in 417 (by decide +kernel) (by decide +kernel), by decide +kernel, fun g hg => absurd hg List.not_mem_nil⟩ dr_Lw_note_5 (Or.inr ⟨dr_Lw_note_13, rfl⟩) (by decide) ll_Lw_43 lk_Lw_43 (mx_PS_note (by rw [el]; exact hfl) hr) rfl ⟨by decide, by decide⟩ ⟨by decide, by decide⟩ (by decide) ⟨_, _, rfl⟩ rfl rfl (Nat.le_of_ble_eq_true rfl) ?_
  refine gx_iconst (v := 1) hC dr_Lw_note_15 (by decide) ?_
  exact hR (by decide) (by decide) dr_Lw_note_16 rfl ⟨rfl, rfl⟩
theorem ly_113 : gw_Y "PinSwapsLaw" 113 yn_Lw_gate bc_Lw_gate 4 [(0, 9, 12, 15)] 3 := ⟨gw_in 618 (by decide +kernel) (by decide +kernel), gw_in 619 (by decide +kernel) (by decide +kernel), gw_in 54 (by decide +kernel) (by decide +kernel), gw_in 620 (by decide +kernel) (by decide +kernel), ⟨by decide +kernel, by decide +kernel⟩, by decide +kernel⟩
theorem mw_gate_r {l : Launch} {D : va_G} {ad : Nat → Nat} {ck : Nat → ClassId} {X : gq_M} {o : Int → Int64} {p0 : Int32} {M : gq_M} {r : (Int32 × gq_M)} (hr : fn_PS_gate p0 M = some (.inr r)) : gm_W 81 81 l D ad ck yn_Lw_gate bc_Lw_gate 4 [(0, 9, 12, 15)] ({ frames := 7, cells := 1, slots := 6, locals := 113 } : Room) [gv_R 0, gv_I p0, gv_R 80] (ca_A (M, X, o)) (fun z c2 => z = 0 ∧ c2 = ca_A (r.2, X, gz_ul o (0 : Int32).toInt r.1.toInt64)) := by
  refine gm_W.of (by decide) (Nat.le_of_ble_eq_true rfl) (fun x el eD ea ec hC hH hR => ?_)
  refine gx_aload_n hC dr_Lw_gate_0 rfl ?_
  refine gx_iconst (v := 0) hC dr_Lw_gate_1 (by decide) ?_
  refine gx_aload_n hC dr_Lw_gate_2 rfl ?_
  refine gx_iload_n hC dr_Lw_gate_3 rfl ?_
  refine gx_vI hC dr_Lw_gate_4 lk_Lw_47 (mt_PS_gate hr) rfl (by decide) ⟨by decide, by decide⟩ ⟨by decide, by decide⟩ (by decide) ⟨_, _, rfl⟩ rfl rfl (Nat.le_of_ble_eq_true rfl) (fun z c2 hp => ?_)
  obtain ⟨rfl, rfl⟩ := hp
  refine gx_i2l hC dr_Lw_gate_7 ?_
  refine gx_last hC (Nat.le_refl _) dr_Lw_gate_8 (by decide) rfl (by decide) ca_out ?_
  refine gx_goto (tgt := 15) hC dr_Lw_gate_9 (by decide) ?_
  refine gx_iconst (v := 0) hC dr_Lw_gate_15 (by decide) ?_
  exact hR (by decide) (by decide) dr_Lw_gate_16 rfl ⟨rfl, rfl⟩
theorem mw_gate_2 {l : Launch} {D : va_G} {ad : Nat → Nat} {ck : Nat → ClassId} {X : gq_M} {o : Int → Int64} (hfl : l.flags = pinnedFlags ++ [noTraceFlag]) {p0 : Int32} {M : gq_M} (hr : fn_PS_gate p0 M = some (.inl 2)) : gm_W 81 81 l D ad ck yn_Lw_gate bc_Lw_gate 4 [(0, 9, 12, 15)] ({ frames := 7, cells := 1, slots := 6, locals := 113 } : Room) [gv_R 0, gv_I p0, gv_R 80] (ca_A (M, X, o)) (fun z c2 => z = 1 ∧ c2 = ca_A (M, X, o)) := by
  refine gm_W.of (by decide) (Nat.le_of_ble_eq_true rfl) (fun x el eD ea ec hC hH hR => ?_)
  refine gx_aload_n hC dr_Lw_gate_0 rfl ?_
  refine gx_iconst (v := 0) hC dr_Lw_gate_1 (by decide) ?_
  refine gx_aload_n hC dr_Lw_gate_2 rfl ?_
  refine gx_iload_n hC dr_Lw_gate_3 rfl ?_
  refine gx_cV (kd := 2) (pre := []) (rst := []) (hh := (0, 9, 12, 15)) (j := 3) (len := 1) hC hH ⟨by decide, by decide, gw_in 418 (by decide +kernel) (by decide +kernel), by decide +kernel, fun g hg => absurd hg List.not_mem_nil⟩ dr_Lw_gate_4 (Or.inl ⟨3, rfl, dr_Lw_gate_12, rfl⟩) (by decide) ll_Lw_47 lk_Lw_47 (mx_PS_gate (by rw [el]; exact hfl) hr) rfl ⟨by decide, by decide⟩ ⟨by decide, by decide⟩ (by decide) ⟨_, _, rfl⟩ rfl rfl (Nat.le_of_ble_eq_true rfl) ?_
  refine gx_iconst (v := 1) hC dr_Lw_gate_13 (by decide) ?_
  exact hR (by decide) (by decide) dr_Lw_gate_14 rfl ⟨rfl, rfl⟩
theorem ly_116 : gw_Y "PinSwapsLaw" 116 yn_Lw_equalGate bc_Lw_equalGate 5 [(0, 17, 20, 13)] 4 := ⟨gw_in 632 (by decide +kernel) (by decide +kernel), gw_in 633 (by decide +kernel) (by decide +kernel), gw_in 54 (by decide +kernel) (by decide +kernel), gw_in 634 (by decide +kernel) (by decide +kernel), ⟨by decide +kernel, by decide +kernel⟩, by decide +kernel⟩
theorem mw_equalGate_r {l : Launch} {D : va_G} {ad : Nat → Nat} {ck : Nat → ClassId} {X : gq_M} {o : Int → Int64} {p0 : Int32} {p1 : Int32} {M : gq_M} {r : Int32} (hr : fn_PS_equalGate p0 p1 M = some (.inr r)) : gm_W 81 81 l D ad ck yn_Lw_equalGate bc_Lw_equalGate 5 [(0, 17, 20, 13)] ({ frames := 7, cells := 1, slots := 6, locals := 112 } : Room) [gv_R 0, gv_I p0, gv_I p1, gv_R 80] (ca_A (M, X, o)) (fun z c2 => z = 0 ∧ c2 = ca_A (M, X, gz_ul o (0 : Int32).toInt (if r = 0 then (Int64.ofNat (0 : Fin 2).val) else (Int64.ofNat (1 : Fin 2).val)))) := by
  refine gm_W.of (by decide) (Nat.le_of_ble_eq_true rfl) (fun x el eD ea ec hC hH hR => ?_)
  refine gx_aload_n hC dr_Lw_equalGate_0 rfl ?_
  refine gx_iconst (v := 0) hC dr_Lw_equalGate_1 (by decide) ?_
  refine gx_aload_n hC dr_Lw_equalGate_2 rfl ?_
  refine gx_iload_n hC dr_Lw_equalGate_3 rfl ?_
  refine gx_iload_n hC dr_Lw_equalGate_4 rfl ?_
  refine gx_vI hC dr_Lw_equalGate_5 lk_Lw_50 (mt_PS_equalGate hr) rfl (by decide) ⟨by decide, by decide⟩ ⟨by decide, by decide⟩ (by decide) ⟨_, _, rfl⟩ rfl rfl (Nat.le_of_ble_eq_true rfl) (fun z c2 hp => ?_)
  obtain ⟨rfl, rfl⟩ := hp
  refine gx_if_eq (tgt := 15) hC dr_Lw_equalGate_8 (by decide) (fun e => ?_) (fun e => ?_)
  · refine gx_lconst hC dr_Lw_equalGate_15 ?_
    refine gx_last hC (Nat.le_refl _) dr_Lw_equalGate_16 (by decide) rfl (by decide) ca_out ?_
    refine gx_goto (tgt := 24) hC dr_Lw_equalGate_17 (by decide) ?_
    refine gx_iconst (v := 0) hC dr_Lw_equalGate_24 (by decide) ?_
    exact hR (by decide) (by decide) dr_Lw_equalGate_25 rfl ⟨rfl, by rw [if_pos e]⟩
  · refine gx_lconst hC dr_Lw_equalGate_11 ?_
    refine gx_goto (tgt := 16) hC dr_Lw_equalGate_12 (by decide) ?_
    refine gx_last hC (Nat.le_refl _) dr_Lw_equalGate_16 (by decide) rfl (by decide) ca_out ?_
    refine gx_goto (tgt := 24) hC dr_Lw_equalGate_17 (by decide) ?_
    refine gx_iconst (v := 0) hC dr_Lw_equalGate_24 (by decide) ?_
    exact hR (by decide) (by decide) dr_Lw_equalGate_25 rfl ⟨rfl, by rw [if_neg e]⟩
theorem mw_equalGate_1 {l : Launch} {D : va_G} {ad : Nat → Nat} {ck : Nat → ClassId} {X : gq_M} {o : Int → Int64} (hfl : l.flags = pinnedFlags ++ [noTraceFlag]) {p0 : Int32} {p1 : Int32} {M : gq_M} (hr : fn_PS_equalGate p0 p1 M = some (.inl 1)) : gm_W 81 81 l D ad ck yn_Lw_equalGate bc_Lw_equalGate 5 [(0, 17, 20, 13)] ({ frames := 7, cells := 1, slots := 6, locals := 112 } : Room) [gv_R 0, gv_I p0, gv_I p1, gv_R 80] (ca_A (M, X, o)) (fun z c2 => z = 1 ∧ c2 = ca_A (M, X, o)) := by
  refine gm_W.of (by decide) (Nat.le_of_ble_eq_true rfl) (fun x el eD ea ec hC hH hR => ?_)
  refine gx_aload_n hC dr_Lw_equalGate_0 rfl ?_
  refine gx_iconst (v := 0) hC dr_Lw_equalGate_1 (by decide) ?_
  refine gx_aload_n hC dr_Lw_equalGate_2 rfl ?_
  refine gx_iload_n hC dr_Lw_equalGate_3 rfl ?_
  refine gx_iload_n hC dr_Lw_equalGate_4 rfl ?_
  refine gx_cV (kd := 1) (pre := []) (rst := []) (hh := (0, 17, 20, 13)) (j := 4) (len := 2) hC hH ⟨by decide, by decide, gw_in 417 (by decide +kernel) (by decide +kernel), by decide +kernel, fun g hg => absurd hg List.not_mem_nil⟩ dr_Lw_equalGate_5 (Or.inr ⟨dr_Lw_equalGate_20, rfl⟩) (by decide) ll_Lw_50 lk_Lw_50 (mx_PS_equalGate (by rw [el]; exact hfl) hr) rfl ⟨by decide, by decide⟩ ⟨by decide, by decide⟩ (by decide) ⟨_, _, rfl⟩ rfl rfl (Nat.le_of_ble_eq_true rfl) ?_
  refine gx_iconst (v := 1) hC dr_Lw_equalGate_22 (by decide) ?_
  exact hR (by decide) (by decide) dr_Lw_equalGate_23 rfl ⟨rfl, rfl⟩
