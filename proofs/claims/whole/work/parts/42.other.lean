def fn_Ne_aim (p0 : Int32) (p1 : Int64) (p2 : Int64) (M : gq_M) : Option (Int32 × gq_M) := if 0 ≤ p0.toInt ∧ p0.toInt < ((200 : Nat) : Int) then if ((gq_i M 8) p0.toInt) = 0 then some (1, (gs_l (gs_l (gs_i M 8 (gz_u (gq_i M 8) p0.toInt 1)) 2 (gz_ul (gq_l M 2) p0.toInt p1)) 3 (gz_ul (gq_l M 3) p0.toInt p2))) else if ((gq_l M 2) p0.toInt) = p1 then if ((gq_l M 3) p0.toInt) = p2 then some (0, (gs_l (gs_l (gs_i M 8 (gz_u (gq_i M 8) p0.toInt 1)) 2 (gz_ul (gq_l M 2) p0.toInt p1)) 3 (gz_ul (gq_l M 3) p0.toInt p2))) else some (1, (gs_l (gs_l (gs_i M 8 (gz_u (gq_i M 8) p0.toInt 1)) 2 (gz_ul (gq_l M 2) p0.toInt p1)) 3 (gz_ul (gq_l M 3) p0.toInt p2))) else some (1, (gs_l (gs_l (gs_i M 8 (gz_u (gq_i M 8) p0.toInt 1)) 2 (gz_ul (gq_l M 2) p0.toInt p1)) 3 (gz_ul (gq_l M 3) p0.toInt p2))) else none
set_option maxHeartbeats 4000000 in
set_option maxRecDepth 100000 in
theorem mt_Ne_aim {l : Launch} {D : va_G} {ad : Nat → Nat} {ck : Nat → ClassId} {G : gq_M × (Int → Int64)} {p0 : Int32} {p1 : Int64} {p2 : Int64} {M : gq_M} {r : (Int32 × gq_M)} (h : fn_Ne_aim p0 p1 p2 M = some r) : gm_I 81 81 l D ad ck yn_Ne_aim bc_Ne_aim 7 .boolean ({ frames := 0, cells := 0, slots := 0, locals := 0 } : Room) [gv_R 2, gv_I p0, gv_L p1, gv_L p2] (ca_A (M, G)) (fun z c2 => z = r.1 ∧ c2 = ca_A (r.2, G)) := by
  refine gm_I.of (by decide) (Nat.le_of_ble_eq_true rfl) (fun x hC hR => ?_)
  unfold fn_Ne_aim at h
  refine gx_aload_n hC dr_Ne_aim_0 rfl ?_
  refine gx_get hC dr_Ne_aim_1 lf_Ne_9 (by decide) rfl rfl ?_
  refine gx_iload_n hC dr_Ne_aim_4 rfl ?_
  obtain ⟨hz1, h⟩ := gk_of h
  refine gx_zald (f := (gq_i M 8)) hC dr_Ne_aim_5 (by decide) rfl hz1 ?_
  refine gx_if_eq (tgt := 32) hC dr_Ne_aim_6 (by decide) (fun hc2 => ?_) (fun hc2 => ?_)
  · rw [if_pos (show ((gq_i M 8) p0.toInt) = 0 from hc2)] at h
    refine gx_iconst (v := 1) hC dr_Ne_aim_32 (by decide) ?_
    refine gx_goto (tgt := 37) hC dr_Ne_aim_33 (by decide) ?_
    refine gx_istore hC dr_Ne_aim_37 (by decide) ?_
    refine gx_aload_n hC dr_Ne_aim_39 rfl ?_
    refine gx_get hC dr_Ne_aim_40 lf_Ne_9 (by decide) rfl rfl ?_
    refine gx_iload_n hC dr_Ne_aim_43 rfl ?_
    refine gx_iconst (v := 1) hC dr_Ne_aim_44 (by decide) ?_
    refine gx_zast (f := (gq_i M 8)) hC (by decide) dr_Ne_aim_45 (by decide) rfl hz1 (ca_I 8 (by decide)) ?_
    refine gx_aload_n hC dr_Ne_aim_46 rfl ?_
    refine gx_get hC dr_Ne_aim_47 lf_Ne_15 (by decide) rfl rfl ?_
    refine gx_iload_n hC dr_Ne_aim_50 rfl ?_
    refine gx_lload_n hC dr_Ne_aim_51 rfl ?_
    refine gx_last (f := (gq_l M 2)) hC (by decide) dr_Ne_aim_52 (by decide) rfl hz1 (ca_L 2 (by decide)) ?_
    refine gx_aload_n hC dr_Ne_aim_53 rfl ?_
    refine gx_get hC dr_Ne_aim_54 lf_Ne_19 (by decide) rfl rfl ?_
    refine gx_iload_n hC dr_Ne_aim_57 rfl ?_
    refine gx_lload hC dr_Ne_aim_58 rfl ?_
    refine gx_last (f := (gq_l M 3)) hC (by decide) dr_Ne_aim_60 (by decide) rfl hz1 (ca_L 3 (by decide)) ?_
    refine gx_iload hC dr_Ne_aim_61 rfl ?_
    obtain rfl := Option.some.inj h
    exact hR (by decide) (by decide) dr_Ne_aim_63 rfl ⟨rfl, rfl⟩
  · rw [if_neg (show ¬ (((gq_i M 8) p0.toInt) = 0) from hc2)] at h
    refine gx_aload_n hC dr_Ne_aim_9 rfl ?_
    refine gx_get hC dr_Ne_aim_10 lf_Ne_15 (by decide) rfl rfl ?_
    refine gx_iload_n hC dr_Ne_aim_13 rfl ?_
    refine gx_lald (f := (gq_l M 2)) hC dr_Ne_aim_14 (by decide) rfl hz1 ?_
    refine gx_lload_n hC dr_Ne_aim_15 rfl ?_
    refine gx_lcmp_ne (tgt := 32) hC dr_Ne_aim_16 dr_Ne_aim_17 (by decide) (fun hc3 => ?_) (fun hc3 => ?_)
    · rw [if_neg (show ¬ (((gq_l M 2) p0.toInt) = p1) from hc3)] at h
      refine gx_iconst (v := 1) hC dr_Ne_aim_32 (by decide) ?_
      refine gx_goto (tgt := 37) hC dr_Ne_aim_33 (by decide) ?_
      refine gx_istore hC dr_Ne_aim_37 (by decide) ?_
      refine gx_aload_n hC dr_Ne_aim_39 rfl ?_
      refine gx_get hC dr_Ne_aim_40 lf_Ne_9 (by decide) rfl rfl ?_
      refine gx_iload_n hC dr_Ne_aim_43 rfl ?_
      refine gx_iconst (v := 1) hC dr_Ne_aim_44 (by decide) ?_
      refine gx_zast (f := (gq_i M 8)) hC (by decide) dr_Ne_aim_45 (by decide) rfl hz1 (ca_I 8 (by decide)) ?_
      refine gx_aload_n hC dr_Ne_aim_46 rfl ?_
      refine gx_get hC dr_Ne_aim_47 lf_Ne_15 (by decide) rfl rfl ?_
      refine gx_iload_n hC dr_Ne_aim_50 rfl ?_
      refine gx_lload_n hC dr_Ne_aim_51 rfl ?_
      refine gx_last (f := (gq_l M 2)) hC (by decide) dr_Ne_aim_52 (by decide) rfl hz1 (ca_L 2 (by decide)) ?_
      refine gx_aload_n hC dr_Ne_aim_53 rfl ?_
      refine gx_get hC dr_Ne_aim_54 lf_Ne_19 (by decide) rfl rfl ?_
      refine gx_iload_n hC dr_Ne_aim_57 rfl ?_
      refine gx_lload hC dr_Ne_aim_58 rfl ?_
      refine gx_last (f := (gq_l M 3)) hC (by decide) dr_Ne_aim_60 (by decide) rfl hz1 (ca_L 3 (by decide)) ?_
      refine gx_iload hC dr_Ne_aim_61 rfl ?_
      obtain rfl := Option.some.inj h
      exact hR (by decide) (by decide) dr_Ne_aim_63 rfl ⟨rfl, rfl⟩
    · rw [if_pos (show ((gq_l M 2) p0.toInt) = p1 from hc3)] at h
      refine gx_aload_n hC dr_Ne_aim_20 rfl ?_
      refine gx_get hC dr_Ne_aim_21 lf_Ne_19 (by decide) rfl rfl ?_
      refine gx_iload_n hC dr_Ne_aim_24 rfl ?_
      refine gx_lald (f := (gq_l M 3)) hC dr_Ne_aim_25 (by decide) rfl hz1 ?_
      refine gx_lload hC dr_Ne_aim_26 rfl ?_
      refine gx_lcmp_eq (tgt := 36) hC dr_Ne_aim_28 dr_Ne_aim_29 (by decide) (fun hc4 => ?_) (fun hc4 => ?_)
      · rw [if_pos (show ((gq_l M 3) p0.toInt) = p2 from hc4)] at h
        refine gx_iconst (v := 0) hC dr_Ne_aim_36 (by decide) ?_
        refine gx_istore hC dr_Ne_aim_37 (by decide) ?_
        refine gx_aload_n hC dr_Ne_aim_39 rfl ?_
        refine gx_get hC dr_Ne_aim_40 lf_Ne_9 (by decide) rfl rfl ?_
        refine gx_iload_n hC dr_Ne_aim_43 rfl ?_
        refine gx_iconst (v := 1) hC dr_Ne_aim_44 (by decide) ?_
        refine gx_zast (f := (gq_i M 8)) hC (by decide) dr_Ne_aim_45 (by decide) rfl hz1 (ca_I 8 (by decide)) ?_
        refine gx_aload_n hC dr_Ne_aim_46 rfl ?_
        refine gx_get hC dr_Ne_aim_47 lf_Ne_15 (by decide) rfl rfl ?_
        refine gx_iload_n hC dr_Ne_aim_50 rfl ?_
        refine gx_lload_n hC dr_Ne_aim_51 rfl ?_
        refine gx_last (f := (gq_l M 2)) hC (by decide) dr_Ne_aim_52 (by decide) rfl hz1 (ca_L 2 (by decide)) ?_
        refine gx_aload_n hC dr_Ne_aim_53 rfl ?_
        refine gx_get hC dr_Ne_aim_54 lf_Ne_19 (by decide) rfl rfl ?_
        refine gx_iload_n hC dr_Ne_aim_57 rfl ?_
        refine gx_lload hC dr_Ne_aim_58 rfl ?_
        refine gx_last (f := (gq_l M 3)) hC (by decide) dr_Ne_aim_60 (by decide) rfl hz1 (ca_L 3 (by decide)) ?_
        refine gx_iload hC dr_Ne_aim_61 rfl ?_
        obtain rfl := Option.some.inj h
        exact hR (by decide) (by decide) dr_Ne_aim_63 rfl ⟨rfl, rfl⟩
      · rw [if_neg (show ¬ (((gq_l M 3) p0.toInt) = p2) from hc4)] at h
        refine gx_iconst (v := 1) hC dr_Ne_aim_32 (by decide) ?_
        refine gx_goto (tgt := 37) hC dr_Ne_aim_33 (by decide) ?_
        refine gx_istore hC dr_Ne_aim_37 (by decide) ?_
        refine gx_aload_n hC dr_Ne_aim_39 rfl ?_
        refine gx_get hC dr_Ne_aim_40 lf_Ne_9 (by decide) rfl rfl ?_
        refine gx_iload_n hC dr_Ne_aim_43 rfl ?_
        refine gx_iconst (v := 1) hC dr_Ne_aim_44 (by decide) ?_
        refine gx_zast (f := (gq_i M 8)) hC (by decide) dr_Ne_aim_45 (by decide) rfl hz1 (ca_I 8 (by decide)) ?_
        refine gx_aload_n hC dr_Ne_aim_46 rfl ?_
        refine gx_get hC dr_Ne_aim_47 lf_Ne_15 (by decide) rfl rfl ?_
        refine gx_iload_n hC dr_Ne_aim_50 rfl ?_
        refine gx_lload_n hC dr_Ne_aim_51 rfl ?_
        refine gx_last (f := (gq_l M 2)) hC (by decide) dr_Ne_aim_52 (by decide) rfl hz1 (ca_L 2 (by decide)) ?_
        refine gx_aload_n hC dr_Ne_aim_53 rfl ?_
        refine gx_get hC dr_Ne_aim_54 lf_Ne_19 (by decide) rfl rfl ?_
        refine gx_iload_n hC dr_Ne_aim_57 rfl ?_
        refine gx_lload hC dr_Ne_aim_58 rfl ?_
        refine gx_last (f := (gq_l M 3)) hC (by decide) dr_Ne_aim_60 (by decide) rfl hz1 (ca_L 3 (by decide)) ?_
        refine gx_iload hC dr_Ne_aim_61 rfl ?_
        obtain rfl := Option.some.inj h
        exact hR (by decide) (by decide) dr_Ne_aim_63 rfl ⟨rfl, rfl⟩
def fn_Hi_keep  (M : gq_M) : Option gq_M := if 10 ≤ (gq_f M 4) then some (gs_f M 3 (((gq_f M 3) + 1) - ((gq_f M 3) + 1) / 11 * 11)) else some (gs_f (gs_f M 3 (((gq_f M 3) + 1) - ((gq_f M 3) + 1) / 11 * 11)) 4 ((gq_f M 4) + 1))
set_option maxHeartbeats 4000000 in
set_option maxRecDepth 100000 in
theorem mt_Hi_keep {l : Launch} {D : va_G} {ad : Nat → Nat} {ck : Nat → ClassId} {G : gq_M × (Int → Int64)}  {M : gq_M} {r : gq_M} (h : fn_Hi_keep  M = some r) : gm_V 81 81 l D ad ck yn_Hi_keep bc_Hi_keep 1 ({ frames := 0, cells := 0, slots := 0, locals := 0 } : Room) [gv_R 4] (ca_A (M, G)) (fun c2 => c2 = ca_A (r, G)) := by
  refine gm_V.of (by decide) (Nat.le_of_ble_eq_true rfl) (fun x hC hR => ?_)
  unfold fn_Hi_keep at h
  refine gx_aload_n hC dr_Hi_keep_0 rfl ?_
  refine gx_aload_n hC dr_Hi_keep_1 rfl ?_
  refine gx_get hC dr_Hi_keep_2 lf_Hi_20 (by decide) rfl rfl ?_
  refine gx_iconst (v := 1) hC dr_Hi_keep_5 (by decide) ?_
  refine gx_iadd hC dr_Hi_keep_6 ?_
  refine gx_bipush (v := 11) hC dr_Hi_keep_7 (by decide) ?_
  refine gx_irem hC dr_Hi_keep_9 (by decide) ?_
  refine gx_put hC (by decide) dr_Hi_keep_10 lf_Hi_20 lp_Hi_slot (by decide) rfl (Nat.le_of_ble_eq_true rfl) (fun _ => rfl) (fun _ => rfl) ca_F3 ?_
  refine gx_aload_n hC dr_Hi_keep_13 rfl ?_
  refine gx_get hC dr_Hi_keep_14 lf_Hi_30 (by decide) rfl rfl ?_
  refine gx_bipush (v := 10) hC dr_Hi_keep_17 (by decide) ?_
  refine gx_icmp_ge (tgt := 32) hC dr_Hi_keep_19 (by decide) (fun hc1 => ?_) (fun hc1 => ?_)
  · rw [if_pos (show 10 ≤ (gq_f M 4) from hc1)] at h
    obtain rfl := Option.some.inj h
    exact hR (by decide) (by decide) dr_Hi_keep_32 rfl
  · rw [if_neg (show ¬ (10 ≤ (gq_f M 4)) from hc1)] at h
    refine gx_aload_n hC dr_Hi_keep_22 rfl ?_
    refine gx_dup hC dr_Hi_keep_23 rfl ?_
    refine gx_get hC dr_Hi_keep_24 lf_Hi_30 (by decide) rfl rfl ?_
    refine gx_iconst (v := 1) hC dr_Hi_keep_27 (by decide) ?_
    refine gx_iadd hC dr_Hi_keep_28 ?_
    refine gx_put hC (by decide) dr_Hi_keep_29 lf_Hi_30 lp_Hi_kept (by decide) rfl (Nat.le_of_ble_eq_true rfl) (fun _ => rfl) (fun _ => rfl) ca_F4 ?_
    obtain rfl := Option.some.inj h
    exact hR (by decide) (by decide) dr_Hi_keep_32 rfl
def fn_Gt_add (p0 : Int32) (p1 : Int32) (M : gq_M) : Option (Int32 × gq_M) := if (gq_f M 5) < 20 then if 0 ≤ (gq_f M 5).toInt ∧ (gq_f M 5).toInt < ((20 : Nat) : Int) then some ((((gq_f M 5) + 1) - 1), (gs_f (gs_i (gs_i M 16 (gz_u (gq_i M 16) (gq_f M 5).toInt p0)) 17 (gz_u (gq_i M 17) (gq_f M 5).toInt p1)) 5 ((gq_f M 5) + 1))) else none else some ((-1), M)
set_option maxHeartbeats 4000000 in
set_option maxRecDepth 100000 in
theorem mt_Gt_add {l : Launch} {D : va_G} {ad : Nat → Nat} {ck : Nat → ClassId} {G : gq_M × (Int → Int64)} {p0 : Int32} {p1 : Int32} {M : gq_M} {r : (Int32 × gq_M)} (h : fn_Gt_add p0 p1 M = some r) : gm_I 81 81 l D ad ck yn_Gt_add bc_Gt_add 3 .int ({ frames := 0, cells := 0, slots := 0, locals := 0 } : Room) [gv_R 5, gv_I p0, gv_I p1] (ca_A (M, G)) (fun z c2 => z = r.1 ∧ c2 = ca_A (r.2, G)) := by
  refine gm_I.of (by decide) (Nat.le_of_ble_eq_true rfl) (fun x hC hR => ?_)
  unfold fn_Gt_add at h
  refine gx_aload_n hC dr_Gt_add_0 rfl ?_
  refine gx_get hC dr_Gt_add_1 lf_Gt_18 (by decide) rfl rfl ?_
  refine gx_bipush (v := 20) hC dr_Gt_add_4 (by decide) ?_
  refine gx_icmp_lt (tgt := 11) hC dr_Gt_add_6 (by decide) (fun hc1 => ?_) (fun hc1 => ?_)
  · rw [if_pos (show (gq_f M 5) < 20 from hc1)] at h
    refine gx_aload_n hC dr_Gt_add_11 rfl ?_
    refine gx_get hC dr_Gt_add_12 lf_Gt_9 (by decide) rfl rfl ?_
    refine gx_aload_n hC dr_Gt_add_15 rfl ?_
    refine gx_get hC dr_Gt_add_16 lf_Gt_18 (by decide) rfl rfl ?_
    refine gx_iload_n hC dr_Gt_add_19 rfl ?_
    obtain ⟨hz2, h⟩ := gk_of h
    refine gx_iast (f := (gq_i M 16)) hC (by decide) dr_Gt_add_20 (by decide) rfl hz2 (ca_I 16 (by decide)) ?_
    refine gx_aload_n hC dr_Gt_add_21 rfl ?_
    refine gx_get hC dr_Gt_add_22 lf_Gt_15 (by decide) rfl rfl ?_
    refine gx_aload_n hC dr_Gt_add_25 rfl ?_
    refine gx_get hC dr_Gt_add_26 lf_Gt_18 (by decide) rfl rfl ?_
    refine gx_iload_n hC dr_Gt_add_29 rfl ?_
    refine gx_iast (f := (gq_i M 17)) hC (by decide) dr_Gt_add_30 (by decide) rfl hz2 (ca_I 17 (by decide)) ?_
    refine gx_aload_n hC dr_Gt_add_31 rfl ?_
    refine gx_dup hC dr_Gt_add_32 rfl ?_
    refine gx_get hC dr_Gt_add_33 lf_Gt_18 (by decide) rfl rfl ?_
    refine gx_iconst (v := 1) hC dr_Gt_add_36 (by decide) ?_
    refine gx_iadd hC dr_Gt_add_37 ?_
    refine gx_put hC (by decide) dr_Gt_add_38 lf_Gt_18 lp_Gt_count (by decide) rfl (Nat.le_of_ble_eq_true rfl) (fun _ => rfl) (fun _ => rfl) ca_F5 ?_
    refine gx_aload_n hC dr_Gt_add_41 rfl ?_
    refine gx_get hC dr_Gt_add_42 lf_Gt_18 (by decide) rfl rfl ?_
    refine gx_iconst (v := 1) hC dr_Gt_add_45 (by decide) ?_
    refine gx_isub hC dr_Gt_add_46 ?_
    obtain rfl := Option.some.inj h
    exact hR (by decide) (by decide) dr_Gt_add_47 rfl ⟨rfl, rfl⟩
  · rw [if_neg (show ¬ ((gq_f M 5) < 20) from hc1)] at h
    refine gx_iconst (v := (-1)) hC dr_Gt_add_9 (by decide) ?_
    obtain rfl := Option.some.inj h
    exact hR (by decide) (by decide) dr_Gt_add_10 rfl ⟨rfl, rfl⟩
def fl_Gt_reorderedInputs_5 (M : gq_M) : Nat → Int32 → Int32 → Int32 → Int32 → Int32 → Option Int32
  | 0, _, _, _, _, _ => none
  | k + 1, v0, v1, v2, v3, v4 => if v1 ≤ v4 then some v3 else fl_Gt_reorderedInputs_5 M k v0 v1 v2 (v3 ||| (((((v0 >>> (v4 &&& 31)) : Int32) &&& 1) <<< ((((v2 >>> ((4 * v4) &&& 31)) : Int32) &&& 3) &&& 31)) : Int32)) (v4 + 1)
def fn_Gt_reorderedInputs (p0 : Int32) (p1 : Int32) (p2 : Int32) (M : gq_M) : Option Int32 := fl_Gt_reorderedInputs_5 M 5000 p0 p1 p2 0 0
set_option maxHeartbeats 4000000 in
set_option maxRecDepth 100000 in
theorem gl_Gt_reorderedInputs_5 {x : gx_X} {G : gq_M × (Int → Int64)} {M : gq_M} {r : Int32} (hC : gw_C 81 0 yn_Gt_reorderedInputs.cls bc_Gt_reorderedInputs 5 x) (hR : gr_I 81 bc_Gt_reorderedInputs 5 .int ({ frames := 0, cells := 0, slots := 0, locals := 0 } : Room) x (fun z c2 => z = r ∧ c2 = ca_A (M, G))) : ∀ (k : Nat) (v0 : Int32) (v1 : Int32) (v2 : Int32) (v3 : Int32) (v4 : Int32), fl_Gt_reorderedInputs_5 M k v0 v1 v2 v3 v4 = some r → gw_G 81 5 ({ frames := 0, cells := 0, slots := 0, locals := 0 } : Room) x 0 0 (ca_A (M, G)) 5 [(0, gv_I v0), (1, gv_I v1), (2, gv_I v2), (3, gv_I v3), (4, gv_I v4)] [] := by
  intro k
  induction k with
  | zero =>
    intro v0 v1 v2 v3 v4 h
    cases h
  | succ k ih =>
    intro v0 v1 v2 v3 v4 h
    rw [fl_Gt_reorderedInputs_5] at h
    refine gx_iload hC dr_Gt_reorderedInputs_5 rfl ?_
    refine gx_iload_n hC dr_Gt_reorderedInputs_7 rfl ?_
    refine gx_icmp_ge (tgt := 35) hC dr_Gt_reorderedInputs_8 (by decide) (fun hc1 => ?_) (fun hc1 => ?_)
    · rw [if_pos (show v1 ≤ v4 from hc1)] at h
      refine gx_iload_n hC dr_Gt_reorderedInputs_35 rfl ?_
      obtain rfl := Option.some.inj h
      exact hR (by decide) (by decide) dr_Gt_reorderedInputs_36 rfl ⟨rfl, rfl⟩
    · rw [if_neg (show ¬ (v1 ≤ v4) from hc1)] at h
      refine gx_iload_n hC dr_Gt_reorderedInputs_11 rfl ?_
      refine gx_iload_n hC dr_Gt_reorderedInputs_12 rfl ?_
      refine gx_iload hC dr_Gt_reorderedInputs_13 rfl ?_
      refine gx_ishr hC dr_Gt_reorderedInputs_15 ?_
      refine gx_iconst (v := 1) hC dr_Gt_reorderedInputs_16 (by decide) ?_
      refine gx_iand hC dr_Gt_reorderedInputs_17 ?_
      refine gx_iload_n hC dr_Gt_reorderedInputs_18 rfl ?_
      refine gx_iconst (v := 4) hC dr_Gt_reorderedInputs_19 (by decide) ?_
      refine gx_iload hC dr_Gt_reorderedInputs_20 rfl ?_
      refine gx_imul hC dr_Gt_reorderedInputs_22 ?_
      refine gx_ishr hC dr_Gt_reorderedInputs_23 ?_
      refine gx_iconst (v := 3) hC dr_Gt_reorderedInputs_24 (by decide) ?_
      refine gx_iand hC dr_Gt_reorderedInputs_25 ?_
      refine gx_ishl hC dr_Gt_reorderedInputs_26 ?_
      refine gx_ior hC dr_Gt_reorderedInputs_27 ?_
      refine gx_istore_n hC dr_Gt_reorderedInputs_28 (by decide) ?_
      refine gx_iinc (v := (v4 + 1)) hC dr_Gt_reorderedInputs_29 rfl (by decide) rfl ?_
      refine gx_goto (tgt := 5) hC dr_Gt_reorderedInputs_32 (by decide) ?_
      exact gx_lv [(0, gv_I v0), (1, gv_I v1), (2, gv_I v2), (3, gv_I (v3 ||| (((((v0 >>> (v4 &&& 31)) : Int32) &&& 1) <<< ((((v2 >>> ((4 * v4) &&& 31)) : Int32) &&& 3) &&& 31)) : Int32))), (4, gv_I (v4 + 1))] ⟨rfl, rfl, rfl, rfl, rfl, trivial⟩ (ih _ _ _ _ _ h)
set_option maxHeartbeats 4000000 in
set_option maxRecDepth 100000 in
theorem mt_Gt_reorderedInputs {l : Launch} {D : va_G} {ad : Nat → Nat} {ck : Nat → ClassId} {G : gq_M × (Int → Int64)} {p0 : Int32} {p1 : Int32} {p2 : Int32} {M : gq_M} {r : Int32} (h : fn_Gt_reorderedInputs p0 p1 p2 M = some r) : gm_I 81 0 l D ad ck yn_Gt_reorderedInputs bc_Gt_reorderedInputs 5 .int ({ frames := 0, cells := 0, slots := 0, locals := 0 } : Room) [gv_I p0, gv_I p1, gv_I p2] (ca_A (M, G)) (fun z c2 => z = r ∧ c2 = ca_A (M, G)) := by
  refine gm_I.of (by decide) (Nat.le_of_ble_eq_true rfl) (fun x hC hR => ?_)
  unfold fn_Gt_reorderedInputs at h
  refine gx_iconst (v := 0) hC dr_Gt_reorderedInputs_0 (by decide) ?_
  refine gx_istore_n hC dr_Gt_reorderedInputs_1 (by decide) ?_
  refine gx_iconst (v := 0) hC dr_Gt_reorderedInputs_2 (by decide) ?_
  refine gx_istore hC dr_Gt_reorderedInputs_3 (by decide) ?_
  exact gx_lv [(0, gv_I p0), (1, gv_I p1), (2, gv_I p2), (3, gv_I 0), (4, gv_I 0)] ⟨rfl, rfl, rfl, rfl, rfl, trivial⟩ (gl_Gt_reorderedInputs_5 hC hR 5000 _ _ _ _ _ h)
def fl_Gt_reordered_5 (M : gq_M) : Nat → Int32 → Int32 → Int32 → Int32 → Int32 → Option Int32
  | 0, _, _, _, _, _ => none
  | k + 1, v0, v1, v2, v3, v4 => if (((1 : Int32) <<< (v1 &&& 31)) : Int32) ≤ v4 then some v3 else (fn_Gt_reorderedInputs v4 v1 v2 M).bind fun q2 => fl_Gt_reordered_5 M k v0 v1 v2 (v3 ||| (((((v0 >>> (q2 &&& 31)) : Int32) &&& 1) <<< (v4 &&& 31)) : Int32)) (v4 + 1)
def fn_Gt_reordered (p0 : Int32) (p1 : Int32) (p2 : Int32) (M : gq_M) : Option Int32 := fl_Gt_reordered_5 M 5000 p0 p1 p2 0 0
set_option maxHeartbeats 4000000 in
set_option maxRecDepth 100000 in
theorem gl_Gt_reordered_5 {x : gx_X} {G : gq_M × (Int → Int64)} {M : gq_M} {r : Int32} (hC : gw_C 81 0 yn_Gt_reordered.cls bc_Gt_reordered 5 x) (hR : gr_I 81 bc_Gt_reordered 5 .int ({ frames := 1, cells := 0, slots := 0, locals := 24 } : Room) x (fun z c2 => z = r ∧ c2 = ca_A (M, G))) : ∀ (k : Nat) (v0 : Int32) (v1 : Int32) (v2 : Int32) (v3 : Int32) (v4 : Int32), fl_Gt_reordered_5 M k v0 v1 v2 v3 v4 = some r → gw_G 81 5 ({ frames := 1, cells := 0, slots := 0, locals := 24 } : Room) x 0 0 (ca_A (M, G)) 5 [(0, gv_I v0), (1, gv_I v1), (2, gv_I v2), (3, gv_I v3), (4, gv_I v4)] [] := by
  intro k
  induction k with
  | zero =>
    intro v0 v1 v2 v3 v4 h
    cases h
  | succ k ih =>
    intro v0 v1 v2 v3 v4 h
    rw [fl_Gt_reordered_5] at h
    refine gx_iload hC dr_Gt_reordered_5 rfl ?_
    refine gx_iconst (v := 1) hC dr_Gt_reordered_7 (by decide) ?_
    refine gx_iload_n hC dr_Gt_reordered_8 rfl ?_
    refine gx_ishl hC dr_Gt_reordered_9 ?_
    refine gx_icmp_ge (tgt := 36) hC dr_Gt_reordered_10 (by decide) (fun hc1 => ?_) (fun hc1 => ?_)
    · rw [if_pos (show (((1 : Int32) <<< (v1 &&& 31)) : Int32) ≤ v4 from hc1)] at h
      refine gx_iload_n hC dr_Gt_reordered_36 rfl ?_
      obtain rfl := Option.some.inj h
      exact hR (by decide) (by decide) dr_Gt_reordered_37 rfl ⟨rfl, rfl⟩
    · rw [if_neg (show ¬ ((((1 : Int32) <<< (v1 &&& 31)) : Int32) ≤ v4) from hc1)] at h
      refine gx_iload_n hC dr_Gt_reordered_13 rfl ?_
      refine gx_iload_n hC dr_Gt_reordered_14 rfl ?_
      refine gx_iload hC dr_Gt_reordered_15 rfl ?_
      refine gx_iload_n hC dr_Gt_reordered_17 rfl ?_
      refine gx_iload_n hC dr_Gt_reordered_18 rfl ?_
      obtain ⟨q2, e3, h⟩ := gb_of h
      refine gx_sI hC dr_Gt_reordered_19 lk_Gt_32 (mt_Gt_reorderedInputs e3) rfl (by decide) ⟨by decide, by decide⟩ ⟨by decide, by decide⟩ rfl (Nat.le_of_ble_eq_true rfl) (fun z c2 hp => ?_)
      obtain ⟨hp1, rfl⟩ := hp; obtain rfl := hp1.symm
      refine gx_ishr hC dr_Gt_reordered_22 ?_
      refine gx_iconst (v := 1) hC dr_Gt_reordered_23 (by decide) ?_
      refine gx_iand hC dr_Gt_reordered_24 ?_
      refine gx_iload hC dr_Gt_reordered_25 rfl ?_
      refine gx_ishl hC dr_Gt_reordered_27 ?_
      refine gx_ior hC dr_Gt_reordered_28 ?_
      refine gx_istore_n hC dr_Gt_reordered_29 (by decide) ?_
      refine gx_iinc (v := (v4 + 1)) hC dr_Gt_reordered_30 rfl (by decide) rfl ?_
      refine gx_goto (tgt := 5) hC dr_Gt_reordered_33 (by decide) ?_
      exact gx_lv [(0, gv_I v0), (1, gv_I v1), (2, gv_I v2), (3, gv_I (v3 ||| (((((v0 >>> (q2 &&& 31)) : Int32) &&& 1) <<< (v4 &&& 31)) : Int32))), (4, gv_I (v4 + 1))] ⟨rfl, rfl, rfl, rfl, rfl, trivial⟩ (ih _ _ _ _ _ h)
set_option maxHeartbeats 4000000 in
set_option maxRecDepth 100000 in
theorem mt_Gt_reordered {l : Launch} {D : va_G} {ad : Nat → Nat} {ck : Nat → ClassId} {G : gq_M × (Int → Int64)} {p0 : Int32} {p1 : Int32} {p2 : Int32} {M : gq_M} {r : Int32} (h : fn_Gt_reordered p0 p1 p2 M = some r) : gm_I 81 0 l D ad ck yn_Gt_reordered bc_Gt_reordered 5 .int ({ frames := 1, cells := 0, slots := 0, locals := 24 } : Room) [gv_I p0, gv_I p1, gv_I p2] (ca_A (M, G)) (fun z c2 => z = r ∧ c2 = ca_A (M, G)) := by
  refine gm_I.of (by decide) (Nat.le_of_ble_eq_true rfl) (fun x hC hR => ?_)
  unfold fn_Gt_reordered at h
  refine gx_iconst (v := 0) hC dr_Gt_reordered_0 (by decide) ?_
  refine gx_istore_n hC dr_Gt_reordered_1 (by decide) ?_
  refine gx_iconst (v := 0) hC dr_Gt_reordered_2 (by decide) ?_
  refine gx_istore hC dr_Gt_reordered_3 (by decide) ?_
  exact gx_lv [(0, gv_I p0), (1, gv_I p1), (2, gv_I p2), (3, gv_I 0), (4, gv_I 0)] ⟨rfl, rfl, rfl, rfl, rfl, trivial⟩ (gl_Gt_reordered_5 hC hR 5000 _ _ _ _ _ h)
def fl_Gt_areEqual_19 (M : gq_M) : Nat → Int32 → Int32 → Int32 → Option Int32
  | 0, _, _, _ => none
  | k + 1, v1, v2, v3 => if 0 ≤ v1.toInt ∧ v1.toInt < ((20 : Nat) : Int) then if 0 ≤ ((gq_i M 16) v1.toInt).toInt ∧ ((gq_i M 16) v1.toInt).toInt < ((5 : Nat) : Int) then if (gk_cnt.getD ((gq_i M 16) v1.toInt).toInt.toNat 0) ≤ v3 then some 0 else if 0 ≤ v3.toInt ∧ v3.toInt < ((24 : Nat) : Int) then (fn_Gt_reordered ((gq_i M 17) v1.toInt) ((gq_i M 16) v1.toInt) (gk_ord.getD v3.toInt.toNat 0) M).bind fun q8 => if 0 ≤ v2.toInt ∧ v2.toInt < ((20 : Nat) : Int) then if q8 = ((gq_i M 17) v2.toInt) then some 1 else fl_Gt_areEqual_19 M k v1 v2 (v3 + 1) else none else none else none else none
def fn_Gt_areEqual (p0 : Int32) (p1 : Int32) (M : gq_M) : Option Int32 := if 0 ≤ p0.toInt ∧ p0.toInt < ((20 : Nat) : Int) then if 0 ≤ p1.toInt ∧ p1.toInt < ((20 : Nat) : Int) then if ((gq_i M 16) p0.toInt) = ((gq_i M 16) p1.toInt) then fl_Gt_areEqual_19 M 5000 p0 p1 0 else some 0 else none else none
set_option maxHeartbeats 4000000 in
set_option maxRecDepth 100000 in
theorem gl_Gt_areEqual_19 {x : gx_X} {G : gq_M × (Int → Int64)} {M : gq_M} {r : Int32} (hC : gw_C 81 0 yn_Gt_areEqual.cls bc_Gt_areEqual 4 x) (hR : gr_I 81 bc_Gt_areEqual 4 .boolean ({ frames := 2, cells := 0, slots := 0, locals := 48 } : Room) x (fun z c2 => z = r ∧ c2 = ca_A (M, G))) : ∀ (k : Nat) (v1 : Int32) (v2 : Int32) (v3 : Int32), fl_Gt_areEqual_19 M k v1 v2 v3 = some r → gw_G 81 4 ({ frames := 2, cells := 0, slots := 0, locals := 48 } : Room) x 0 0 (ca_A (M, G)) 19 [(0, gv_R 5), (1, gv_I v1), (2, gv_I v2), (3, gv_I v3)] [] := by
  intro k
  induction k with
  | zero =>
    intro v1 v2 v3 h
    cases h
  | succ k ih =>
    intro v1 v2 v3 h
    rw [fl_Gt_areEqual_19] at h
    refine gx_iload_n hC dr_Gt_areEqual_19 rfl ?_
    refine gx_cnt hC dr_Gt_areEqual_20 ?_
    refine gx_aload_n hC dr_Gt_areEqual_23 rfl ?_
    refine gx_get hC dr_Gt_areEqual_24 lf_Gt_9 (by decide) rfl rfl ?_
    refine gx_iload_n hC dr_Gt_areEqual_27 rfl ?_
    obtain ⟨hz4, h⟩ := gk_of h
    refine gx_iald (f := (gq_i M 16)) hC dr_Gt_areEqual_28 (by decide) rfl hz4 ?_
    obtain ⟨hz5, h⟩ := gk_of h
    refine gx_t91 hC dr_Gt_areEqual_29 hz5 ?_
    refine gx_icmp_ge (tgt := 70) hC dr_Gt_areEqual_30 (by decide) (fun hc6 => ?_) (fun hc6 => ?_)
    · rw [if_pos (show (gk_cnt.getD ((gq_i M 16) v1.toInt).toInt.toNat 0) ≤ v3 from hc6)] at h
      refine gx_iconst (v := 0) hC dr_Gt_areEqual_70 (by decide) ?_
      obtain rfl := Option.some.inj h
      exact hR (by decide) (by decide) dr_Gt_areEqual_71 rfl ⟨rfl, rfl⟩
    · rw [if_neg (show ¬ ((gk_cnt.getD ((gq_i M 16) v1.toInt).toInt.toNat 0) ≤ v3) from hc6)] at h
      refine gx_aload_n hC dr_Gt_areEqual_33 rfl ?_
      refine gx_get hC dr_Gt_areEqual_34 lf_Gt_15 (by decide) rfl rfl ?_
      refine gx_iload_n hC dr_Gt_areEqual_37 rfl ?_
      refine gx_iald (f := (gq_i M 17)) hC dr_Gt_areEqual_38 (by decide) rfl hz4 ?_
      refine gx_aload_n hC dr_Gt_areEqual_39 rfl ?_
      refine gx_get hC dr_Gt_areEqual_40 lf_Gt_9 (by decide) rfl rfl ?_
      refine gx_iload_n hC dr_Gt_areEqual_43 rfl ?_
      refine gx_iald (f := (gq_i M 16)) hC dr_Gt_areEqual_44 (by decide) rfl hz4 ?_
      refine gx_ord hC dr_Gt_areEqual_45 ?_
      refine gx_iload_n hC dr_Gt_areEqual_48 rfl ?_
      obtain ⟨hz7, h⟩ := gk_of h
      refine gx_t90 hC dr_Gt_areEqual_49 hz7 ?_
      obtain ⟨q8, e9, h⟩ := gb_of h
      refine gx_sI hC dr_Gt_areEqual_50 lk_Gt_28 (mt_Gt_reordered e9) rfl (by decide) ⟨by decide, by decide⟩ ⟨by decide, by decide⟩ rfl (Nat.le_of_ble_eq_true rfl) (fun z c2 hp => ?_)
      obtain ⟨hp1, rfl⟩ := hp; obtain rfl := hp1.symm
      refine gx_aload_n hC dr_Gt_areEqual_53 rfl ?_
      refine gx_get hC dr_Gt_areEqual_54 lf_Gt_15 (by decide) rfl rfl ?_
      refine gx_iload_n hC dr_Gt_areEqual_57 rfl ?_
      obtain ⟨hz10, h⟩ := gk_of h
      refine gx_iald (f := (gq_i M 17)) hC dr_Gt_areEqual_58 (by decide) rfl hz10 ?_
      refine gx_icmp_ne (tgt := 64) hC dr_Gt_areEqual_59 (by decide) (fun hc11 => ?_) (fun hc11 => ?_)
      · rw [if_neg (show ¬ (q8 = ((gq_i M 17) v2.toInt)) from hc11)] at h
        refine gx_iinc (v := (v3 + 1)) hC dr_Gt_areEqual_64 rfl (by decide) rfl ?_
        refine gx_goto (tgt := 19) hC dr_Gt_areEqual_67 (by decide) ?_
        exact gx_lv [(0, gv_R 5), (1, gv_I v1), (2, gv_I v2), (3, gv_I (v3 + 1))] ⟨rfl, rfl, rfl, rfl, trivial⟩ (ih _ _ _ h)
      · rw [if_pos (show q8 = ((gq_i M 17) v2.toInt) from hc11)] at h
        refine gx_iconst (v := 1) hC dr_Gt_areEqual_62 (by decide) ?_
        obtain rfl := Option.some.inj h
        exact hR (by decide) (by decide) dr_Gt_areEqual_63 rfl ⟨rfl, rfl⟩
set_option maxHeartbeats 4000000 in
set_option maxRecDepth 100000 in
theorem mt_Gt_areEqual {l : Launch} {D : va_G} {ad : Nat → Nat} {ck : Nat → ClassId} {G : gq_M × (Int → Int64)} {p0 : Int32} {p1 : Int32} {M : gq_M} {r : Int32} (h : fn_Gt_areEqual p0 p1 M = some r) : gm_I 81 0 l D ad ck yn_Gt_areEqual bc_Gt_areEqual 4 .boolean ({ frames := 2, cells := 0, slots := 0, locals := 48 } : Room) [gv_R 5, gv_I p0, gv_I p1] (ca_A (M, G)) (fun z c2 => z = r ∧ c2 = ca_A (M, G)) := by
  refine gm_I.of (by decide) (Nat.le_of_ble_eq_true rfl) (fun x hC hR => ?_)
  unfold fn_Gt_areEqual at h
  refine gx_aload_n hC dr_Gt_areEqual_0 rfl ?_
  refine gx_get hC dr_Gt_areEqual_1 lf_Gt_9 (by decide) rfl rfl ?_
  refine gx_iload_n hC dr_Gt_areEqual_4 rfl ?_
  obtain ⟨hz1, h⟩ := gk_of h
  refine gx_iald (f := (gq_i M 16)) hC dr_Gt_areEqual_5 (by decide) rfl hz1 ?_
  refine gx_aload_n hC dr_Gt_areEqual_6 rfl ?_
  refine gx_get hC dr_Gt_areEqual_7 lf_Gt_9 (by decide) rfl rfl ?_
  refine gx_iload_n hC dr_Gt_areEqual_10 rfl ?_
  obtain ⟨hz2, h⟩ := gk_of h
  refine gx_iald (f := (gq_i M 16)) hC dr_Gt_areEqual_11 (by decide) rfl hz2 ?_
  refine gx_icmp_eq (tgt := 17) hC dr_Gt_areEqual_12 (by decide) (fun hc3 => ?_) (fun hc3 => ?_)
  · rw [if_pos (show ((gq_i M 16) p0.toInt) = ((gq_i M 16) p1.toInt) from hc3)] at h
    refine gx_iconst (v := 0) hC dr_Gt_areEqual_17 (by decide) ?_
    refine gx_istore_n hC dr_Gt_areEqual_18 (by decide) ?_
    exact gx_lv [(0, gv_R 5), (1, gv_I p0), (2, gv_I p1), (3, gv_I 0)] ⟨rfl, rfl, rfl, rfl, trivial⟩ (gl_Gt_areEqual_19 hC hR 5000 _ _ _ h)
  · rw [if_neg (show ¬ (((gq_i M 16) p0.toInt) = ((gq_i M 16) p1.toInt)) from hc3)] at h
    refine gx_iconst (v := 0) hC dr_Gt_areEqual_15 (by decide) ?_
    obtain rfl := Option.some.inj h
    exact hR (by decide) (by decide) dr_Gt_areEqual_16 rfl ⟨rfl, rfl⟩
def fn_Hi_begin (p1 : Int32) (M : gq_M) : Option (Nat × gq_M) := if 0 ≤ (gq_f M 3).toInt ∧ (gq_f M 3).toInt < ((11 : Nat) : Int) then if 0 ≤ p1.toInt ∧ p1.toInt ≤ ((80 : Nat) : Int) ∧ p1.toInt ≤ ((80 : Nat) : Int) then some (((gq_f M 3).toInt.toNat), (gs_i (gs_i M (18 + ((gq_f M 3).toInt.toNat)) (gz_cpy (gq_i M 3) (gq_i M (18 + ((gq_f M 3).toInt.toNat))) p1.toInt)) 15 (gz_u (gq_i (gs_i M (18 + ((gq_f M 3).toInt.toNat)) (gz_cpy (gq_i M 3) (gq_i M (18 + ((gq_f M 3).toInt.toNat))) p1.toInt)) 15) (gq_f M 3).toInt p1))) else none else none
set_option maxHeartbeats 4000000 in
set_option maxRecDepth 100000 in
theorem mt_Hi_begin {l : Launch} {D : va_G} {ad : Nat → Nat} {ck : Nat → ClassId} {G : gq_M × (Int → Int64)} {p1 : Int32} {M : gq_M} {r : (Nat × gq_M)} (h : fn_Hi_begin p1 M = some r) : gm_R 81 81 l D ad ck yn_Hi_begin bc_Hi_begin 3 ({ frames := 1, cells := 0, slots := 0, locals := 40 } : Room) [gv_R 4, gv_R 9, gv_I p1] (ca_A (M, G)) (fun z c2 => z = 24 + r.1 ∧ r.1 < 11 ∧ c2 = ca_A (r.2, G)) := by
  refine gm_R.of (by decide) (Nat.le_of_ble_eq_true rfl) (fun x hC hR => ?_)
  unfold fn_Hi_begin at h
  refine gx_aload_n hC dr_Hi_begin_0 rfl ?_
  refine gx_iconst (v := 0) hC dr_Hi_begin_1 (by decide) ?_
  refine gx_aload_n hC dr_Hi_begin_2 rfl ?_
  refine gx_get hC dr_Hi_begin_3 lf_Hi_13 (by decide) rfl rfl ?_
  refine gx_aload_n hC dr_Hi_begin_6 rfl ?_
  refine gx_get hC dr_Hi_begin_7 lf_Hi_20 (by decide) rfl rfl ?_
  obtain ⟨hz1, h⟩ := gk_of h
  have hr2 : (gq_f M 3).toInt.toNat < 11 := by omega
  refine gx_aald (r := 24 + ((gq_f M 3).toInt.toNat)) hC dr_Hi_begin_10 (by decide) (Or.inr rfl) rfl hz1 rfl ?_
  refine gx_iconst (v := 0) hC dr_Hi_begin_11 (by decide) ?_
  refine gx_iload_n hC dr_Hi_begin_12 rfl ?_
  obtain ⟨hz3, h⟩ := gk_of h
  refine gx_copy (f := (gq_i M 3)) (g := (gq_i M (18 + ((gq_f M 3).toInt.toNat)))) hC (by decide) dr_Hi_begin_13 lj_copy (by decide) (by omega) rfl (ca_hist hr2) hz3 (ca_histU hr2) (by decide) (by decide +kernel) ?_
  refine gx_aload_n hC dr_Hi_begin_16 rfl ?_
  refine gx_get hC dr_Hi_begin_17 lf_Hi_16 (by decide) rfl rfl ?_
  refine gx_aload_n hC dr_Hi_begin_20 rfl ?_
  refine gx_get hC dr_Hi_begin_21 lf_Hi_20 (by decide) rfl rfl ?_
  refine gx_iload_n hC dr_Hi_begin_24 rfl ?_
  refine gx_iast (f := (gq_i (gs_i M (18 + ((gq_f M 3).toInt.toNat)) (gz_cpy (gq_i M 3) (gq_i M (18 + ((gq_f M 3).toInt.toNat))) p1.toInt)) 15)) hC (by decide) dr_Hi_begin_25 (by decide) rfl hz1 (ca_I 15 (by decide)) ?_
  refine gx_aload_n hC dr_Hi_begin_26 rfl ?_
  refine gx_get hC dr_Hi_begin_27 lf_Hi_13 (by decide) rfl rfl ?_
  refine gx_aload_n hC dr_Hi_begin_30 rfl ?_
  refine gx_get hC dr_Hi_begin_31 lf_Hi_20 (by decide) rfl rfl ?_
  have hr4 : (gq_f M 3).toInt.toNat < 11 := by omega
  refine gx_aald (r := 24 + ((gq_f M 3).toInt.toNat)) hC dr_Hi_begin_34 (by decide) (Or.inr rfl) rfl hz1 rfl ?_
  obtain rfl := Option.some.inj h
  exact hR (by decide) (by decide) dr_Hi_begin_35 ⟨rfl, hr4, rfl⟩
def fn_Hi_restore  (M : gq_M) : Option (Int32 × gq_M) := if (gq_f M 4) = 0 then some (0, M) else if 0 ≤ ((((gq_f M 3) + 11) - 1) - (((gq_f M 3) + 11) - 1) / 11 * 11).toInt ∧ ((((gq_f M 3) + 11) - 1) - (((gq_f M 3) + 11) - 1) / 11 * 11).toInt < ((11 : Nat) : Int) then if 0 ≤ ((gq_i M 15) ((((gq_f M 3) + 11) - 1) - (((gq_f M 3) + 11) - 1) / 11 * 11).toInt).toInt ∧ ((gq_i M 15) ((((gq_f M 3) + 11) - 1) - (((gq_f M 3) + 11) - 1) / 11 * 11).toInt).toInt ≤ ((80 : Nat) : Int) ∧ ((gq_i M 15) ((((gq_f M 3) + 11) - 1) - (((gq_f M 3) + 11) - 1) / 11 * 11).toInt).toInt ≤ ((80 : Nat) : Int) then some (1, (gs_i (gs_f (gs_f M 4 ((gq_f M 4) - 1)) 3 ((((gq_f M 3) + 11) - 1) - (((gq_f M 3) + 11) - 1) / 11 * 11)) 3 (gz_cpy (gq_i M (18 + (((((gq_f M 3) + 11) - 1) - (((gq_f M 3) + 11) - 1) / 11 * 11).toInt.toNat))) (gq_i M 3) ((gq_i M 15) ((((gq_f M 3) + 11) - 1) - (((gq_f M 3) + 11) - 1) / 11 * 11).toInt).toInt))) else none else none
set_option maxHeartbeats 4000000 in
set_option maxRecDepth 100000 in
theorem mt_Hi_restore {l : Launch} {D : va_G} {ad : Nat → Nat} {ck : Nat → ClassId} {G : gq_M × (Int → Int64)}  {M : gq_M} {r : (Int32 × gq_M)} (h : fn_Hi_restore  M = some r) : gm_I 81 81 l D ad ck yn_Hi_restore bc_Hi_restore 2 .boolean ({ frames := 1, cells := 0, slots := 0, locals := 40 } : Room) [gv_R 4, gv_R 9] (ca_A (M, G)) (fun z c2 => z = r.1 ∧ c2 = ca_A (r.2, G)) := by
  refine gm_I.of (by decide) (Nat.le_of_ble_eq_true rfl) (fun x hC hR => ?_)
  unfold fn_Hi_restore at h
  refine gx_aload_n hC dr_Hi_restore_0 rfl ?_
  refine gx_get hC dr_Hi_restore_1 lf_Hi_30 (by decide) rfl rfl ?_
  refine gx_if_ne (tgt := 9) hC dr_Hi_restore_4 (by decide) (fun hc1 => ?_) (fun hc1 => ?_)
  · rw [if_neg (show ¬ ((gq_f M 4) = 0) from hc1)] at h
    refine gx_aload_n hC dr_Hi_restore_9 rfl ?_
    refine gx_dup hC dr_Hi_restore_10 rfl ?_
    refine gx_get hC dr_Hi_restore_11 lf_Hi_30 (by decide) rfl rfl ?_
    refine gx_iconst (v := 1) hC dr_Hi_restore_14 (by decide) ?_
    refine gx_isub hC dr_Hi_restore_15 ?_
    refine gx_put hC (by decide) dr_Hi_restore_16 lf_Hi_30 lp_Hi_kept (by decide) rfl (Nat.le_of_ble_eq_true rfl) (fun _ => rfl) (fun _ => rfl) ca_F4 ?_
    refine gx_aload_n hC dr_Hi_restore_19 rfl ?_
    refine gx_aload_n hC dr_Hi_restore_20 rfl ?_
    refine gx_get hC dr_Hi_restore_21 lf_Hi_20 (by decide) rfl rfl ?_
    refine gx_bipush (v := 11) hC dr_Hi_restore_24 (by decide) ?_
    refine gx_iadd hC dr_Hi_restore_26 ?_
    refine gx_iconst (v := 1) hC dr_Hi_restore_27 (by decide) ?_
    refine gx_isub hC dr_Hi_restore_28 ?_
    refine gx_bipush (v := 11) hC dr_Hi_restore_29 (by decide) ?_
    refine gx_irem hC dr_Hi_restore_31 (by decide) ?_
    refine gx_put hC (by decide) dr_Hi_restore_32 lf_Hi_20 lp_Hi_slot (by decide) rfl (Nat.le_of_ble_eq_true rfl) (fun _ => rfl) (fun _ => rfl) ca_F3 ?_
    refine gx_aload_n hC dr_Hi_restore_35 rfl ?_
    refine gx_get hC dr_Hi_restore_36 lf_Hi_13 (by decide) rfl rfl ?_
    refine gx_aload_n hC dr_Hi_restore_39 rfl ?_
    refine gx_get hC dr_Hi_restore_40 lf_Hi_20 (by decide) rfl rfl ?_
    obtain ⟨hz2, h⟩ := gk_of h
    have hr3 : ((((gq_f M 3) + 11) - 1) - (((gq_f M 3) + 11) - 1) / 11 * 11).toInt.toNat < 11 := by omega
    refine gx_aald (r := 24 + (((((gq_f M 3) + 11) - 1) - (((gq_f M 3) + 11) - 1) / 11 * 11).toInt.toNat)) hC dr_Hi_restore_43 (by decide) (Or.inr rfl) rfl hz2 rfl ?_
    refine gx_iconst (v := 0) hC dr_Hi_restore_44 (by decide) ?_
    refine gx_aload_n hC dr_Hi_restore_45 rfl ?_
    refine gx_iconst (v := 0) hC dr_Hi_restore_46 (by decide) ?_
    refine gx_aload_n hC dr_Hi_restore_47 rfl ?_
    refine gx_get hC dr_Hi_restore_48 lf_Hi_16 (by decide) rfl rfl ?_
    refine gx_aload_n hC dr_Hi_restore_51 rfl ?_
    refine gx_get hC dr_Hi_restore_52 lf_Hi_20 (by decide) rfl rfl ?_
    refine gx_iald (f := (gq_i M 15)) hC dr_Hi_restore_55 (by decide) rfl hz2 ?_
    obtain ⟨hz4, h⟩ := gk_of h
    refine gx_copy (f := (gq_i M (18 + (((((gq_f M 3) + 11) - 1) - (((gq_f M 3) + 11) - 1) / 11 * 11).toInt.toNat)))) (g := (gq_i M 3)) hC (by decide) dr_Hi_restore_56 lj_copy (by omega) (by decide) (ca_hist hr3) rfl hz4 (ca_I 3 (by decide)) (by decide) (by decide +kernel) ?_
    refine gx_iconst (v := 1) hC dr_Hi_restore_59 (by decide) ?_
    obtain rfl := Option.some.inj h
    exact hR (by decide) (by decide) dr_Hi_restore_60 rfl ⟨rfl, rfl⟩
  · rw [if_pos (show (gq_f M 4) = 0 from hc1)] at h
    refine gx_iconst (v := 0) hC dr_Hi_restore_7 (by decide) ?_
    obtain rfl := Option.some.inj h
    exact hR (by decide) (by decide) dr_Hi_restore_8 rfl ⟨rfl, rfl⟩
