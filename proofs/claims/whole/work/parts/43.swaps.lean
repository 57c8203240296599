def fn_PS_group  (M : gq_M) : Option (Int32 × gq_M) := if (gq_f M 0) < 12 then some ((((gq_f M 0) + 1) - 1), (gs_f M 0 ((gq_f M 0) + 1))) else some ((-1), M)
set_option maxHeartbeats 4000000 in
set_option maxRecDepth 100000 in
theorem mt_PS_group {l : Launch} {D : va_G} {ad : Nat → Nat} {ck : Nat → ClassId} {G : gq_M × (Int → Int64)}  {M : gq_M} {r : (Int32 × gq_M)} (h : fn_PS_group  M = some r) : gm_I 81 81 l D ad ck yn_PS_group bc_PS_group 1 .int ({ frames := 0, cells := 0, slots := 0, locals := 0 } : Room) [gv_R 0] (ca_A (M, G)) (fun z c2 => z = r.1 ∧ c2 = ca_A (r.2, G)) := by
  refine gm_I.of (by decide) (Nat.le_of_ble_eq_true rfl) (fun x hC hR => ?_)
  unfold fn_PS_group at h
  refine gx_aload_n hC dr_PS_group_0 rfl ?_
  refine gx_get hC dr_PS_group_1 lf_PS_10 (by decide) rfl rfl ?_
  refine gx_get hC dr_PS_group_4 lf_PS_44 (by decide) rfl rfl ?_
  refine gx_bipush (v := 12) hC dr_PS_group_7 (by decide) ?_
  refine gx_icmp_lt (tgt := 14) hC dr_PS_group_9 (by decide) (fun hc1 => ?_) (fun hc1 => ?_)
  · rw [if_pos (show (gq_f M 0) < 12 from hc1)] at h
    refine gx_aload_n hC dr_PS_group_14 rfl ?_
    refine gx_get hC dr_PS_group_15 lf_PS_10 (by decide) rfl rfl ?_
    refine gx_dup hC dr_PS_group_18 rfl ?_
    refine gx_get hC dr_PS_group_19 lf_PS_44 (by decide) rfl rfl ?_
    refine gx_iconst (v := 1) hC dr_PS_group_22 (by decide) ?_
    refine gx_iadd hC dr_PS_group_23 ?_
    refine gx_put hC (by decide) dr_PS_group_24 lf_PS_44 lp_Pi_groups (by decide) rfl (Nat.le_of_ble_eq_true rfl) (fun _ => rfl) (fun _ => rfl) ca_F0 ?_
    refine gx_aload_n hC dr_PS_group_27 rfl ?_
    refine gx_get hC dr_PS_group_28 lf_PS_10 (by decide) rfl rfl ?_
    refine gx_get hC dr_PS_group_31 lf_PS_44 (by decide) rfl rfl ?_
    refine gx_iconst (v := 1) hC dr_PS_group_34 (by decide) ?_
    refine gx_isub hC dr_PS_group_35 ?_
    obtain rfl := Option.some.inj h
    exact hR (by decide) (by decide) dr_PS_group_36 rfl ⟨rfl, rfl⟩
  · rw [if_neg (show ¬ ((gq_f M 0) < 12) from hc1)] at h
    refine gx_iconst (v := (-1)) hC dr_PS_group_12 (by decide) ?_
    obtain rfl := Option.some.inj h
    exact hR (by decide) (by decide) dr_PS_group_13 rfl ⟨rfl, rfl⟩
def fn_PS_cost (p0 : Int32) (p1 : Int32) (M : gq_M) : Option Int64 := if 0 ≤ p0.toInt ∧ p0.toInt < ((200 : Nat) : Int) then if ((gq_i M 8) p0.toInt) = 0 then if ((gq_i M 9) p0.toInt) = (-1) then some (Int64.ofNat (0 : Fin 2).val) else if 0 ≤ p1.toInt ∧ p1.toInt < ((80 : Nat) : Int) then if ((gq_i M 9) p0.toInt) = ((gq_i M 2) p1.toInt) then some (Int64.ofNat (0 : Fin 2).val) else some ((Int64.ofNat (0 : Fin 2).val) + 1000000000) else none else if 0 ≤ p1.toInt ∧ p1.toInt < ((80 : Nat) : Int) then if ((gq_i M 9) p0.toInt) = (-1) then some ((if 0 < (((gq_l M 2) p0.toInt) - ((gq_l M 0) p1.toInt)) then (((gq_l M 2) p0.toInt) - ((gq_l M 0) p1.toInt)) else -(((gq_l M 2) p0.toInt) - ((gq_l M 0) p1.toInt))) + (if 0 < (((gq_l M 3) p0.toInt) - ((gq_l M 1) p1.toInt)) then (((gq_l M 3) p0.toInt) - ((gq_l M 1) p1.toInt)) else -(((gq_l M 3) p0.toInt) - ((gq_l M 1) p1.toInt)))) else if ((gq_i M 9) p0.toInt) = ((gq_i M 2) p1.toInt) then some ((if 0 < (((gq_l M 2) p0.toInt) - ((gq_l M 0) p1.toInt)) then (((gq_l M 2) p0.toInt) - ((gq_l M 0) p1.toInt)) else -(((gq_l M 2) p0.toInt) - ((gq_l M 0) p1.toInt))) + (if 0 < (((gq_l M 3) p0.toInt) - ((gq_l M 1) p1.toInt)) then (((gq_l M 3) p0.toInt) - ((gq_l M 1) p1.toInt)) else -(((gq_l M 3) p0.toInt) - ((gq_l M 1) p1.toInt)))) else some (((if 0 < (((gq_l M 2) p0.toInt) - ((gq_l M 0) p1.toInt)) then (((gq_l M 2) p0.toInt) - ((gq_l M 0) p1.toInt)) else -(((gq_l M 2) p0.toInt) - ((gq_l M 0) p1.toInt))) + (if 0 < (((gq_l M 3) p0.toInt) - ((gq_l M 1) p1.toInt)) then (((gq_l M 3) p0.toInt) - ((gq_l M 1) p1.toInt)) else -(((gq_l M 3) p0.toInt) - ((gq_l M 1) p1.toInt)))) + 1000000000) else none else none
set_option maxHeartbeats 4000000 in
set_option maxRecDepth 100000 in
theorem mt_PS_cost {l : Launch} {D : va_G} {ad : Nat → Nat} {ck : Nat → ClassId} {G : gq_M × (Int → Int64)} {p0 : Int32} {p1 : Int32} {M : gq_M} {r : Int64} (h : fn_PS_cost p0 p1 M = some r) : gm_J 81 0 l D ad ck yn_PS_cost bc_PS_cost 6 ({ frames := 1, cells := 0, slots := 0, locals := 40 } : Room) [gv_R 0, gv_I p0, gv_I p1] (ca_A (M, G)) (fun z c2 => z = r ∧ c2 = ca_A (M, G)) := by
  refine gm_J.of (by decide) (Nat.le_of_ble_eq_true rfl) (fun x hC hR => ?_)
  unfold fn_PS_cost at h
  refine gx_lconst hC dr_PS_cost_0 ?_
  refine gx_lstore_n hC dr_PS_cost_1 (by decide) ?_
  refine gx_aload_n hC dr_PS_cost_2 rfl ?_
  refine gx_get hC dr_PS_cost_3 lf_PS_19 (by decide) rfl rfl ?_
  refine gx_get hC dr_PS_cost_6 lf_PS_209 (by decide) rfl rfl ?_
  refine gx_iload_n hC dr_PS_cost_9 rfl ?_
  obtain ⟨hz1, h⟩ := gk_of h
  refine gx_zald (f := (gq_i M 8)) hC dr_PS_cost_10 (by decide) rfl hz1 ?_
  refine gx_if_eq (tgt := 60) hC dr_PS_cost_11 (by decide) (fun hc2 => ?_) (fun hc2 => ?_)
  · rw [if_pos (show ((gq_i M 8) p0.toInt) = 0 from hc2)] at h
    refine gx_aload_n hC dr_PS_cost_60 rfl ?_
    refine gx_get hC dr_PS_cost_61 lf_PS_19 (by decide) rfl rfl ?_
    refine gx_get hC dr_PS_cost_64 lf_PS_111 (by decide) rfl rfl ?_
    refine gx_iload_n hC dr_PS_cost_67 rfl ?_
    refine gx_iald (f := (gq_i M 9)) hC dr_PS_cost_68 (by decide) rfl hz1 ?_
    refine gx_istore hC dr_PS_cost_69 (by decide) ?_
    refine gx_iload hC dr_PS_cost_71 rfl ?_
    refine gx_iconst (v := (-1)) hC dr_PS_cost_73 (by decide) ?_
    refine gx_icmp_eq (tgt := 91) hC dr_PS_cost_74 (by decide) (fun hc3 => ?_) (fun hc3 => ?_)
    · rw [if_pos (show ((gq_i M 9) p0.toInt) = (-1) from hc3)] at h
      refine gx_lload_n hC dr_PS_cost_91 rfl ?_
      refine gx_goto (tgt := 100) hC dr_PS_cost_92 (by decide) ?_
      obtain rfl := Option.some.inj h
      exact hR (by decide) (by decide) dr_PS_cost_100 ⟨rfl, rfl⟩
    · rw [if_neg (show ¬ (((gq_i M 9) p0.toInt) = (-1)) from hc3)] at h
      refine gx_iload hC dr_PS_cost_77 rfl ?_
      refine gx_aload_n hC dr_PS_cost_79 rfl ?_
      refine gx_get hC dr_PS_cost_80 lf_PS_10 (by decide) rfl rfl ?_
      refine gx_get hC dr_PS_cost_83 lf_PS_106 (by decide) rfl rfl ?_
      refine gx_iload_n hC dr_PS_cost_86 rfl ?_
      obtain ⟨hz4, h⟩ := gk_of h
      refine gx_iald (f := (gq_i M 2)) hC dr_PS_cost_87 (by decide) rfl hz4 ?_
      refine gx_icmp_ne (tgt := 95) hC dr_PS_cost_88 (by decide) (fun hc5 => ?_) (fun hc5 => ?_)
      · rw [if_neg (show ¬ (((gq_i M 9) p0.toInt) = ((gq_i M 2) p1.toInt)) from hc5)] at h
        refine gx_lload_n hC dr_PS_cost_95 rfl ?_
        refine gx_ldc2 (v := 1000000000) hC dr_PS_cost_96 lc_PS_227 ?_
        refine gx_ladd hC dr_PS_cost_99 ?_
        obtain rfl := Option.some.inj h
        exact hR (by decide) (by decide) dr_PS_cost_100 ⟨rfl, rfl⟩
      · rw [if_pos (show ((gq_i M 9) p0.toInt) = ((gq_i M 2) p1.toInt) from hc5)] at h
        refine gx_lload_n hC dr_PS_cost_91 rfl ?_
        refine gx_goto (tgt := 100) hC dr_PS_cost_92 (by decide) ?_
        obtain rfl := Option.some.inj h
        exact hR (by decide) (by decide) dr_PS_cost_100 ⟨rfl, rfl⟩
  · rw [if_neg (show ¬ (((gq_i M 8) p0.toInt) = 0) from hc2)] at h
    refine gx_aload_n hC dr_PS_cost_14 rfl ?_
    refine gx_get hC dr_PS_cost_15 lf_PS_19 (by decide) rfl rfl ?_
    refine gx_get hC dr_PS_cost_18 lf_PS_212 (by decide) rfl rfl ?_
    refine gx_iload_n hC dr_PS_cost_21 rfl ?_
    refine gx_lald (f := (gq_l M 2)) hC dr_PS_cost_22 (by decide) rfl hz1 ?_
    refine gx_aload_n hC dr_PS_cost_23 rfl ?_
    refine gx_get hC dr_PS_cost_24 lf_PS_10 (by decide) rfl rfl ?_
    refine gx_get hC dr_PS_cost_27 lf_PS_216 (by decide) rfl rfl ?_
    refine gx_iload_n hC dr_PS_cost_30 rfl ?_
    obtain ⟨hz6, h⟩ := gk_of h
    refine gx_lald (f := (gq_l M 0)) hC dr_PS_cost_31 (by decide) rfl hz6 ?_
    refine gx_lsub hC dr_PS_cost_32 ?_
    refine gx_abs hC dr_PS_cost_33 lj_abs (by decide) (Nat.le_of_ble_eq_true rfl) (by decide) (by decide) ?_
    refine gx_aload_n hC dr_PS_cost_36 rfl ?_
    refine gx_get hC dr_PS_cost_37 lf_PS_19 (by decide) rfl rfl ?_
    refine gx_get hC dr_PS_cost_40 lf_PS_223 (by decide) rfl rfl ?_
    refine gx_iload_n hC dr_PS_cost_43 rfl ?_
    refine gx_lald (f := (gq_l M 3)) hC dr_PS_cost_44 (by decide) rfl hz1 ?_
    refine gx_aload_n hC dr_PS_cost_45 rfl ?_
    refine gx_get hC dr_PS_cost_46 lf_PS_10 (by decide) rfl rfl ?_
    refine gx_get hC dr_PS_cost_49 lf_PS_226 (by decide) rfl rfl ?_
    refine gx_iload_n hC dr_PS_cost_52 rfl ?_
    refine gx_lald (f := (gq_l M 1)) hC dr_PS_cost_53 (by decide) rfl hz6 ?_
    refine gx_lsub hC dr_PS_cost_54 ?_
    refine gx_abs hC dr_PS_cost_55 lj_abs (by decide) (Nat.le_of_ble_eq_true rfl) (by decide) (by decide) ?_
    refine gx_ladd hC dr_PS_cost_58 ?_
    refine gx_lstore_n hC dr_PS_cost_59 (by decide) ?_
    refine gx_aload_n hC dr_PS_cost_60 rfl ?_
    refine gx_get hC dr_PS_cost_61 lf_PS_19 (by decide) rfl rfl ?_
    refine gx_get hC dr_PS_cost_64 lf_PS_111 (by decide) rfl rfl ?_
    refine gx_iload_n hC dr_PS_cost_67 rfl ?_
    refine gx_iald (f := (gq_i M 9)) hC dr_PS_cost_68 (by decide) rfl hz1 ?_
    refine gx_istore hC dr_PS_cost_69 (by decide) ?_
    refine gx_iload hC dr_PS_cost_71 rfl ?_
    refine gx_iconst (v := (-1)) hC dr_PS_cost_73 (by decide) ?_
    refine gx_icmp_eq (tgt := 91) hC dr_PS_cost_74 (by decide) (fun hc7 => ?_) (fun hc7 => ?_)
    · rw [if_pos (show ((gq_i M 9) p0.toInt) = (-1) from hc7)] at h
      refine gx_lload_n hC dr_PS_cost_91 rfl ?_
      refine gx_goto (tgt := 100) hC dr_PS_cost_92 (by decide) ?_
      obtain rfl := Option.some.inj h
      exact hR (by decide) (by decide) dr_PS_cost_100 ⟨rfl, rfl⟩
    · rw [if_neg (show ¬ (((gq_i M 9) p0.toInt) = (-1)) from hc7)] at h
      refine gx_iload hC dr_PS_cost_77 rfl ?_
      refine gx_aload_n hC dr_PS_cost_79 rfl ?_
      refine gx_get hC dr_PS_cost_80 lf_PS_10 (by decide) rfl rfl ?_
      refine gx_get hC dr_PS_cost_83 lf_PS_106 (by decide) rfl rfl ?_
      refine gx_iload_n hC dr_PS_cost_86 rfl ?_
      refine gx_iald (f := (gq_i M 2)) hC dr_PS_cost_87 (by decide) rfl hz6 ?_
      refine gx_icmp_ne (tgt := 95) hC dr_PS_cost_88 (by decide) (fun hc8 => ?_) (fun hc8 => ?_)
      · rw [if_neg (show ¬ (((gq_i M 9) p0.toInt) = ((gq_i M 2) p1.toInt)) from hc8)] at h
        refine gx_lload_n hC dr_PS_cost_95 rfl ?_
        refine gx_ldc2 (v := 1000000000) hC dr_PS_cost_96 lc_PS_227 ?_
        refine gx_ladd hC dr_PS_cost_99 ?_
        obtain rfl := Option.some.inj h
        exact hR (by decide) (by decide) dr_PS_cost_100 ⟨rfl, rfl⟩
      · rw [if_pos (show ((gq_i M 9) p0.toInt) = ((gq_i M 2) p1.toInt) from hc8)] at h
        refine gx_lload_n hC dr_PS_cost_91 rfl ?_
        refine gx_goto (tgt := 100) hC dr_PS_cost_92 (by decide) ?_
        obtain rfl := Option.some.inj h
        exact hR (by decide) (by decide) dr_PS_cost_100 ⟨rfl, rfl⟩
def fl_PS_sum_4 (M : gq_M) : Nat → Int64 → Int32 → Option Int64
  | 0, _, _ => none
  | k + 1, v1, v3 => if (gq_f M 1) ≤ v3 then some v1 else if 0 ≤ v3.toInt ∧ v3.toInt < ((80 : Nat) : Int) then (fn_PS_cost ((gq_i M 3) v3.toInt) v3 M).bind fun q3 => fl_PS_sum_4 M k (v1 + q3) (v3 + 1) else none
def fn_PS_sum  (M : gq_M) : Option Int64 := fl_PS_sum_4 M 5000 (Int64.ofNat (0 : Fin 2).val) 0
set_option maxHeartbeats 4000000 in
set_option maxRecDepth 100000 in
theorem gl_PS_sum_4 {x : gx_X} {G : gq_M × (Int → Int64)} {M : gq_M} {r : Int64} (hC : gw_C 81 0 yn_PS_sum.cls bc_PS_sum 4 x) (hR : gr_J 81 bc_PS_sum 4 ({ frames := 2, cells := 0, slots := 0, locals := 65 } : Room) x (fun z c2 => z = r ∧ c2 = ca_A (M, G))) : ∀ (k : Nat) (v1 : Int64) (v3 : Int32), fl_PS_sum_4 M k v1 v3 = some r → gw_G 81 4 ({ frames := 2, cells := 0, slots := 0, locals := 65 } : Room) x 0 0 (ca_A (M, G)) 4 [(0, gv_R 0), (1, gv_L v1), (3, gv_I v3)] [] := by
  intro k
  induction k with
  | zero =>
    intro v1 v3 h
    cases h
  | succ k ih =>
    intro v1 v3 h
    rw [fl_PS_sum_4] at h
    refine gx_iload_n hC dr_PS_sum_4 rfl ?_
    refine gx_aload_n hC dr_PS_sum_5 rfl ?_
    refine gx_get hC dr_PS_sum_6 lf_PS_10 (by decide) rfl rfl ?_
    refine gx_get hC dr_PS_sum_9 lf_PS_68 (by decide) rfl rfl ?_
    refine gx_icmp_ge (tgt := 38) hC dr_PS_sum_12 (by decide) (fun hc1 => ?_) (fun hc1 => ?_)
    · rw [if_pos (show (gq_f M 1) ≤ v3 from hc1)] at h
      refine gx_lload_n hC dr_PS_sum_38 rfl ?_
      obtain rfl := Option.some.inj h
      exact hR (by decide) (by decide) dr_PS_sum_39 ⟨rfl, rfl⟩
    · rw [if_neg (show ¬ ((gq_f M 1) ≤ v3) from hc1)] at h
      refine gx_lload_n hC dr_PS_sum_15 rfl ?_
      refine gx_aload_n hC dr_PS_sum_16 rfl ?_
      refine gx_aload_n hC dr_PS_sum_17 rfl ?_
      refine gx_get hC dr_PS_sum_18 lf_PS_10 (by decide) rfl rfl ?_
      refine gx_get hC dr_PS_sum_21 lf_PS_122 (by decide) rfl rfl ?_
      refine gx_iload_n hC dr_PS_sum_24 rfl ?_
      obtain ⟨hz2, h⟩ := gk_of h
      refine gx_iald (f := (gq_i M 3)) hC dr_PS_sum_25 (by decide) rfl hz2 ?_
      refine gx_iload_n hC dr_PS_sum_26 rfl ?_
      obtain ⟨q3, e4, h⟩ := gb_of h
      refine gx_vJ hC dr_PS_sum_27 lk_PS_140 (mt_PS_cost e4) rfl (by decide) ⟨by decide, by decide⟩ ⟨by decide, by decide⟩ (by decide) ⟨_, _, rfl⟩ rfl rfl (Nat.le_of_ble_eq_true rfl) (fun z c2 hp => ?_)
      obtain ⟨hp1, rfl⟩ := hp; obtain rfl := hp1.symm
      refine gx_ladd hC dr_PS_sum_30 ?_
      refine gx_lstore_n hC dr_PS_sum_31 (by decide) ?_
      refine gx_iinc (v := (v3 + 1)) hC dr_PS_sum_32 rfl (by decide) rfl ?_
      refine gx_goto (tgt := 4) hC dr_PS_sum_35 (by decide) ?_
      exact gx_lv [(0, gv_R 0), (1, gv_L (v1 + q3)), (3, gv_I (v3 + 1))] ⟨rfl, rfl, rfl, trivial⟩ (ih _ _ h)
set_option maxHeartbeats 4000000 in
set_option maxRecDepth 100000 in
theorem mt_PS_sum {l : Launch} {D : va_G} {ad : Nat → Nat} {ck : Nat → ClassId} {G : gq_M × (Int → Int64)}  {M : gq_M} {r : Int64} (h : fn_PS_sum  M = some r) : gm_J 81 0 l D ad ck yn_PS_sum bc_PS_sum 4 ({ frames := 2, cells := 0, slots := 0, locals := 65 } : Room) [gv_R 0] (ca_A (M, G)) (fun z c2 => z = r ∧ c2 = ca_A (M, G)) := by
  refine gm_J.of (by decide) (Nat.le_of_ble_eq_true rfl) (fun x hC hR => ?_)
  unfold fn_PS_sum at h
  refine gx_lconst hC dr_PS_sum_0 ?_
  refine gx_lstore_n hC dr_PS_sum_1 (by decide) ?_
  refine gx_iconst (v := 0) hC dr_PS_sum_2 (by decide) ?_
  refine gx_istore_n hC dr_PS_sum_3 (by decide) ?_
  exact gx_lv [(0, gv_R 0), (1, gv_L (Int64.ofNat (0 : Fin 2).val)), (3, gv_I 0)] ⟨rfl, rfl, rfl, trivial⟩ (gl_PS_sum_4 hC hR 5000 _ _ h)
def fn_PS_before  (M : gq_M) : Option Int64 := some (gq_j M 0)
set_option maxHeartbeats 4000000 in
set_option maxRecDepth 100000 in
theorem mt_PS_before {l : Launch} {D : va_G} {ad : Nat → Nat} {ck : Nat → ClassId} {G : gq_M × (Int → Int64)}  {M : gq_M} {r : Int64} (h : fn_PS_before  M = some r) : gm_J 81 0 l D ad ck yn_PS_before bc_PS_before 1 ({ frames := 0, cells := 0, slots := 0, locals := 0 } : Room) [gv_R 0] (ca_A (M, G)) (fun z c2 => z = r ∧ c2 = ca_A (M, G)) := by
  refine gm_J.of (by decide) (Nat.le_of_ble_eq_true rfl) (fun x hC hR => ?_)
  unfold fn_PS_before at h
  refine gx_aload_n hC dr_PS_before_0 rfl ?_
  refine gx_get hC dr_PS_before_1 lf_PS_118 (by decide) rfl rfl ?_
  obtain rfl := Option.some.inj h
  exact hR (by decide) (by decide) dr_PS_before_4 ⟨rfl, rfl⟩
def fn_PS_isNet (p0 : Int32) (M : gq_M) : Option Int32 := if p0 < 0 then some 0 else if 200 ≤ p0 then some 0 else some 1
set_option maxHeartbeats 4000000 in
set_option maxRecDepth 100000 in
theorem mt_PS_isNet {l : Launch} {D : va_G} {ad : Nat → Nat} {ck : Nat → ClassId} {G : gq_M × (Int → Int64)} {p0 : Int32} {M : gq_M} {r : Int32} (h : fn_PS_isNet p0 M = some r) : gm_I 81 0 l D ad ck yn_PS_isNet bc_PS_isNet 1 .boolean ({ frames := 0, cells := 0, slots := 0, locals := 0 } : Room) [gv_I p0] (ca_A (M, G)) (fun z c2 => z = r ∧ c2 = ca_A (M, G)) := by
  refine gm_I.of (by decide) (Nat.le_of_ble_eq_true rfl) (fun x hC hR => ?_)
  unfold fn_PS_isNet at h
  refine gx_iload_n hC dr_PS_isNet_0 rfl ?_
  refine gx_if_lt (tgt := 15) hC dr_PS_isNet_1 (by decide) (fun hc1 => ?_) (fun hc1 => ?_)
  · rw [if_pos (show p0 < 0 from hc1)] at h
    refine gx_iconst (v := 0) hC dr_PS_isNet_15 (by decide) ?_
    obtain rfl := Option.some.inj h
    exact hR (by decide) (by decide) dr_PS_isNet_16 rfl ⟨rfl, rfl⟩
  · rw [if_neg (show ¬ (p0 < 0) from hc1)] at h
    refine gx_iload_n hC dr_PS_isNet_4 rfl ?_
    refine gx_sipush (v := 200) hC dr_PS_isNet_5 (by decide) ?_
    refine gx_icmp_ge (tgt := 15) hC dr_PS_isNet_8 (by decide) (fun hc2 => ?_) (fun hc2 => ?_)
    · rw [if_pos (show 200 ≤ p0 from hc2)] at h
      refine gx_iconst (v := 0) hC dr_PS_isNet_15 (by decide) ?_
      obtain rfl := Option.some.inj h
      exact hR (by decide) (by decide) dr_PS_isNet_16 rfl ⟨rfl, rfl⟩
    · rw [if_neg (show ¬ (200 ≤ p0) from hc2)] at h
      refine gx_iconst (v := 1) hC dr_PS_isNet_11 (by decide) ?_
      refine gx_goto (tgt := 16) hC dr_PS_isNet_12 (by decide) ?_
      obtain rfl := Option.some.inj h
      exact hR (by decide) (by decide) dr_PS_isNet_16 rfl ⟨rfl, rfl⟩
def fn_PS_unitCost (p0 : Int32) (p1 : Int32) (M : gq_M) : Option Int64 := if 0 ≤ p1.toInt ∧ p1.toInt < ((80 : Nat) : Int) then (fn_PS_cost ((gq_i M 3) p1.toInt) p0 M).bind fun q2 => (fn_Pi_isPaired p0 M).bind fun q4 => if q4 = 0 then some q2 else (fn_Pi_isPaired p1 M).bind fun q7 => if q7 = 0 then some q2 else if 0 ≤ ((gq_i M 5) p1.toInt).toInt ∧ ((gq_i M 5) p1.toInt).toInt < ((80 : Nat) : Int) then if 0 ≤ p0.toInt ∧ p0.toInt < ((80 : Nat) : Int) then (fn_PS_cost ((gq_i M 3) ((gq_i M 5) p1.toInt).toInt) ((gq_i M 5) p0.toInt) M).bind fun q12 => some (q2 + q12) else none else none else none
set_option maxHeartbeats 4000000 in
set_option maxRecDepth 100000 in
theorem mt_PS_unitCost {l : Launch} {D : va_G} {ad : Nat → Nat} {ck : Nat → ClassId} {G : gq_M × (Int → Int64)} {p0 : Int32} {p1 : Int32} {M : gq_M} {r : Int64} (h : fn_PS_unitCost p0 p1 M = some r) : gm_J 81 0 l D ad ck yn_PS_unitCost bc_PS_unitCost 5 ({ frames := 2, cells := 0, slots := 0, locals := 65 } : Room) [gv_R 0, gv_I p0, gv_I p1] (ca_A (M, G)) (fun z c2 => z = r ∧ c2 = ca_A (M, G)) := by
  refine gm_J.of (by decide) (Nat.le_of_ble_eq_true rfl) (fun x hC hR => ?_)
  unfold fn_PS_unitCost at h
  refine gx_aload_n hC dr_PS_unitCost_0 rfl ?_
  refine gx_aload_n hC dr_PS_unitCost_1 rfl ?_
  refine gx_get hC dr_PS_unitCost_2 lf_PS_10 (by decide) rfl rfl ?_
  refine gx_get hC dr_PS_unitCost_5 lf_PS_122 (by decide) rfl rfl ?_
  refine gx_iload_n hC dr_PS_unitCost_8 rfl ?_
  obtain ⟨hz1, h⟩ := gk_of h
  refine gx_iald (f := (gq_i M 3)) hC dr_PS_unitCost_9 (by decide) rfl hz1 ?_
  refine gx_iload_n hC dr_PS_unitCost_10 rfl ?_
  obtain ⟨q2, e3, h⟩ := gb_of h
  refine gx_vJ hC dr_PS_unitCost_11 lk_PS_140 (mt_PS_cost e3) rfl (by decide) ⟨by decide, by decide⟩ ⟨by decide, by decide⟩ (by decide) ⟨_, _, rfl⟩ rfl rfl (Nat.le_of_ble_eq_true rfl) (fun z c2 hp => ?_)
  obtain ⟨hp1, rfl⟩ := hp; obtain rfl := hp1.symm
  refine gx_lstore_n hC dr_PS_unitCost_14 (by decide) ?_
  refine gx_aload_n hC dr_PS_unitCost_15 rfl ?_
  refine gx_get hC dr_PS_unitCost_16 lf_PS_10 (by decide) rfl rfl ?_
  refine gx_iload_n hC dr_PS_unitCost_19 rfl ?_
  obtain ⟨q4, e5, h⟩ := gb_of h
  refine gx_vI hC dr_PS_unitCost_20 lk_PS_97 (mt_Pi_isPaired e5) rfl (by decide) ⟨by decide, by decide⟩ ⟨by decide, by decide⟩ (by decide) ⟨_, _, rfl⟩ rfl rfl (Nat.le_of_ble_eq_true rfl) (fun z c2 hp => ?_)
  obtain ⟨hp1, rfl⟩ := hp; obtain rfl := hp1.symm
  refine gx_if_eq (tgt := 70) hC dr_PS_unitCost_23 (by decide) (fun hc6 => ?_) (fun hc6 => ?_)
  · rw [if_pos (show q4 = 0 from hc6)] at h
    refine gx_lload_n hC dr_PS_unitCost_70 rfl ?_
    obtain rfl := Option.some.inj h
    exact hR (by decide) (by decide) dr_PS_unitCost_71 ⟨rfl, rfl⟩
  · rw [if_neg (show ¬ (q4 = 0) from hc6)] at h
    refine gx_aload_n hC dr_PS_unitCost_26 rfl ?_
    refine gx_get hC dr_PS_unitCost_27 lf_PS_10 (by decide) rfl rfl ?_
    refine gx_iload_n hC dr_PS_unitCost_30 rfl ?_
    obtain ⟨q7, e8, h⟩ := gb_of h
    refine gx_vI hC dr_PS_unitCost_31 lk_PS_97 (mt_Pi_isPaired e8) rfl (by decide) ⟨by decide, by decide⟩ ⟨by decide, by decide⟩ (by decide) ⟨_, _, rfl⟩ rfl rfl (Nat.le_of_ble_eq_true rfl) (fun z c2 hp => ?_)
    obtain ⟨hp1, rfl⟩ := hp; obtain rfl := hp1.symm
    refine gx_if_eq (tgt := 70) hC dr_PS_unitCost_34 (by decide) (fun hc9 => ?_) (fun hc9 => ?_)
    · rw [if_pos (show q7 = 0 from hc9)] at h
      refine gx_lload_n hC dr_PS_unitCost_70 rfl ?_
      obtain rfl := Option.some.inj h
      exact hR (by decide) (by decide) dr_PS_unitCost_71 ⟨rfl, rfl⟩
    · rw [if_neg (show ¬ (q7 = 0) from hc9)] at h
      refine gx_lload_n hC dr_PS_unitCost_37 rfl ?_
      refine gx_aload_n hC dr_PS_unitCost_38 rfl ?_
      refine gx_aload_n hC dr_PS_unitCost_39 rfl ?_
      refine gx_get hC dr_PS_unitCost_40 lf_PS_10 (by decide) rfl rfl ?_
      refine gx_get hC dr_PS_unitCost_43 lf_PS_122 (by decide) rfl rfl ?_
      refine gx_aload_n hC dr_PS_unitCost_46 rfl ?_
      refine gx_get hC dr_PS_unitCost_47 lf_PS_10 (by decide) rfl rfl ?_
      refine gx_get hC dr_PS_unitCost_50 lf_PS_245 (by decide) rfl rfl ?_
      refine gx_iload_n hC dr_PS_unitCost_53 rfl ?_
      refine gx_iald (f := (gq_i M 5)) hC dr_PS_unitCost_54 (by decide) rfl hz1 ?_
      obtain ⟨hz10, h⟩ := gk_of h
      refine gx_iald (f := (gq_i M 3)) hC dr_PS_unitCost_55 (by decide) rfl hz10 ?_
      refine gx_aload_n hC dr_PS_unitCost_56 rfl ?_
      refine gx_get hC dr_PS_unitCost_57 lf_PS_10 (by decide) rfl rfl ?_
      refine gx_get hC dr_PS_unitCost_60 lf_PS_245 (by decide) rfl rfl ?_
      refine gx_iload_n hC dr_PS_unitCost_63 rfl ?_
      obtain ⟨hz11, h⟩ := gk_of h
      refine gx_iald (f := (gq_i M 5)) hC dr_PS_unitCost_64 (by decide) rfl hz11 ?_
      obtain ⟨q12, e13, h⟩ := gb_of h
      refine gx_vJ hC dr_PS_unitCost_65 lk_PS_140 (mt_PS_cost e13) rfl (by decide) ⟨by decide, by decide⟩ ⟨by decide, by decide⟩ (by decide) ⟨_, _, rfl⟩ rfl rfl (Nat.le_of_ble_eq_true rfl) (fun z c2 hp => ?_)
      obtain ⟨hp1, rfl⟩ := hp; obtain rfl := hp1.symm
      refine gx_ladd hC dr_PS_unitCost_68 ?_
      refine gx_lstore_n hC dr_PS_unitCost_69 (by decide) ?_
      refine gx_lload_n hC dr_PS_unitCost_70 rfl ?_
      obtain rfl := Option.some.inj h
      exact hR (by decide) (by decide) dr_PS_unitCost_71 ⟨rfl, rfl⟩
def fl_PS_loadMatching_76 (K62 : Int32 → gq_M → Option gq_M) : Nat → Int32 → Int32 → gq_M → Option gq_M
  | 0, _, _, _ => none
  | k + 1, v3, v4, M => if (gq_f M 2) < v4 then K62 (v3 + 1) M else if 0 ≤ v3.toInt ∧ v3.toInt < ((13 : Nat) : Int) then if 0 ≤ v4.toInt ∧ v4.toInt < ((13 : Nat) : Int) then (fn_PS_unitCost ((gq_i M 10) v3.toInt) ((gq_i M 10) v4.toInt) M).bind fun q7 => fl_PS_loadMatching_76 K62 k v3 (v4 + 1) (gs_l M (7 + (v3.toInt.toNat)) (gz_ul (gq_l M (7 + (v3.toInt.toNat))) v4.toInt q7)) else none else none
def fl_PS_loadMatching_62 : Nat → Int32 → gq_M → Option gq_M
  | 0, _, _ => none
  | k + 1, v3, M => if (gq_f M 2) < v3 then some M else fl_PS_loadMatching_76 (fl_PS_loadMatching_62 k) 5000 v3 1 M
def fl_PS_loadMatching_10 : Nat → Int32 → Int32 → Int32 → gq_M → Option gq_M
  | 0, _, _, _, _ => none
  | k + 1, v1, v2, v3, M => if (gq_f M 1) ≤ v3 then fl_PS_loadMatching_62 5000 1 M else if 0 ≤ v3.toInt ∧ v3.toInt < ((80 : Nat) : Int) then if ((gq_i M 1) v3.toInt) = v1 then (fn_Pi_isFreeUnit v3 v2 M).bind fun q11 => if q11 = 0 then fl_PS_loadMatching_10 k v1 v2 (v3 + 1) M else (fn_Ma_add v3 M).bind fun q14 => fl_PS_loadMatching_10 k v1 v2 (v3 + 1) q14 else fl_PS_loadMatching_10 k v1 v2 (v3 + 1) M else none
def fn_PS_loadMatching (p0 : Int32) (p1 : Int32) (M : gq_M) : Option gq_M := fl_PS_loadMatching_10 5000 p0 p1 0 (gs_f M 2 0)
set_option maxHeartbeats 4000000 in
set_option maxRecDepth 100000 in
theorem gl_PS_loadMatching_76 {x : gx_X} {G : gq_M × (Int → Int64)} {r : gq_M} (hC : gw_C 81 81 yn_PS_loadMatching.cls bc_PS_loadMatching 5 x) (hR : gr_V 81 bc_PS_loadMatching 5 ({ frames := 3, cells := 0, slots := 0, locals := 89 } : Room) x (fun c2 => c2 = ca_A (r, G))) {K62 : Int32 → gq_M → Option gq_M} (hK62 : ∀ (v3 : Int32) (M : gq_M), K62 v3 M = some r → gw_G 81 5 ({ frames := 3, cells := 0, slots := 0, locals := 89 } : Room) x 0 0 (ca_A (M, G)) 62 [(0, gv_R 0), (3, gv_I v3)] []) : ∀ (k : Nat) (v3 : Int32) (v4 : Int32) (M : gq_M), fl_PS_loadMatching_76 K62 k v3 v4 M = some r → gw_G 81 5 ({ frames := 3, cells := 0, slots := 0, locals := 89 } : Room) x 0 0 (ca_A (M, G)) 76 [(0, gv_R 0), (3, gv_I v3), (4, gv_I v4)] [] := by
  intro k
  induction k with
  | zero =>
    intro v3 v4 M h
    cases h
  | succ k ih =>
    intro v3 v4 M h
    rw [fl_PS_loadMatching_76] at h
    refine gx_iload hC dr_PS_loadMatching_76 rfl ?_
    refine gx_aload_n hC dr_PS_loadMatching_78 rfl ?_
    refine gx_get hC dr_PS_loadMatching_79 lf_PS_26 (by decide) rfl rfl ?_
    refine gx_get hC dr_PS_loadMatching_82 lf_PS_159 (by decide) rfl rfl ?_
    refine gx_icmp_gt (tgt := 129) hC dr_PS_loadMatching_85 (by decide) (fun hc3 => ?_) (fun hc3 => ?_)
    · rw [if_pos (show (gq_f M 2) < v4 from hc3)] at h
      refine gx_iinc (v := (v3 + 1)) hC dr_PS_loadMatching_129 rfl (by decide) rfl ?_
      refine gx_goto (tgt := 62) hC dr_PS_loadMatching_132 (by decide) ?_
      exact gx_lv [(0, gv_R 0), (3, gv_I (v3 + 1))] ⟨rfl, rfl, trivial⟩ (hK62 _ _ h)
    · rw [if_neg (show ¬ ((gq_f M 2) < v4) from hc3)] at h
      refine gx_aload_n hC dr_PS_loadMatching_88 rfl ?_
      refine gx_get hC dr_PS_loadMatching_89 lf_PS_26 (by decide) rfl rfl ?_
      refine gx_get hC dr_PS_loadMatching_92 lf_PS_254 (by decide) rfl rfl ?_
      refine gx_iload_n hC dr_PS_loadMatching_95 rfl ?_
      obtain ⟨hz4, h⟩ := gk_of h
      have hr5 : v3.toInt.toNat < 13 := by omega
      refine gx_aald (r := 42 + (v3.toInt.toNat)) hC dr_PS_loadMatching_96 (by decide) (Or.inl rfl) rfl hz4 rfl ?_
      refine gx_iload hC dr_PS_loadMatching_97 rfl ?_
      refine gx_aload_n hC dr_PS_loadMatching_99 rfl ?_
      refine gx_aload_n hC dr_PS_loadMatching_100 rfl ?_
      refine gx_get hC dr_PS_loadMatching_101 lf_PS_26 (by decide) rfl rfl ?_
      refine gx_get hC dr_PS_loadMatching_104 lf_PS_235 (by decide) rfl rfl ?_
      refine gx_iload_n hC dr_PS_loadMatching_107 rfl ?_
      refine gx_iald (f := (gq_i M 10)) hC dr_PS_loadMatching_108 (by decide) rfl hz4 ?_
      refine gx_aload_n hC dr_PS_loadMatching_109 rfl ?_
      refine gx_get hC dr_PS_loadMatching_110 lf_PS_26 (by decide) rfl rfl ?_
      refine gx_get hC dr_PS_loadMatching_113 lf_PS_235 (by decide) rfl rfl ?_
      refine gx_iload hC dr_PS_loadMatching_116 rfl ?_
      obtain ⟨hz6, h⟩ := gk_of h
      refine gx_iald (f := (gq_i M 10)) hC dr_PS_loadMatching_118 (by decide) rfl hz6 ?_
      obtain ⟨q7, e8, h⟩ := gb_of h
      refine gx_vJ hC dr_PS_loadMatching_119 lk_PS_257 (mt_PS_unitCost e8) rfl (by decide) ⟨by decide, by decide⟩ ⟨by decide, by decide⟩ (by decide) ⟨_, _, rfl⟩ rfl rfl (Nat.le_of_ble_eq_true rfl) (fun z c2 hp => ?_)
      obtain ⟨hp1, rfl⟩ := hp; obtain rfl := hp1.symm
      refine gx_last (f := (gq_l M (7 + (v3.toInt.toNat)))) hC (by decide) dr_PS_loadMatching_122 (by omega) (ca_cost hr5) hz6 (ca_costU hr5) ?_
      refine gx_iinc (v := (v4 + 1)) hC dr_PS_loadMatching_123 rfl (by decide) rfl ?_
      refine gx_goto (tgt := 76) hC dr_PS_loadMatching_126 (by decide) ?_
      exact gx_lv [(0, gv_R 0), (3, gv_I v3), (4, gv_I (v4 + 1))] ⟨rfl, rfl, rfl, trivial⟩ (ih _ _ _ h)
set_option maxHeartbeats 4000000 in
set_option maxRecDepth 100000 in
theorem gl_PS_loadMatching_62 {x : gx_X} {G : gq_M × (Int → Int64)} {r : gq_M} (hC : gw_C 81 81 yn_PS_loadMatching.cls bc_PS_loadMatching 5 x) (hR : gr_V 81 bc_PS_loadMatching 5 ({ frames := 3, cells := 0, slots := 0, locals := 89 } : Room) x (fun c2 => c2 = ca_A (r, G))) : ∀ (k : Nat) (v3 : Int32) (M : gq_M), fl_PS_loadMatching_62 k v3 M = some r → gw_G 81 5 ({ frames := 3, cells := 0, slots := 0, locals := 89 } : Room) x 0 0 (ca_A (M, G)) 62 [(0, gv_R 0), (3, gv_I v3)] [] := by
  intro k
  induction k with
  | zero =>
    intro v3 M h
    cases h
  | succ k ih =>
    intro v3 M h
    rw [fl_PS_loadMatching_62] at h
    refine gx_iload_n hC dr_PS_loadMatching_62 rfl ?_
    refine gx_aload_n hC dr_PS_loadMatching_63 rfl ?_
    refine gx_get hC dr_PS_loadMatching_64 lf_PS_26 (by decide) rfl rfl ?_
    refine gx_get hC dr_PS_loadMatching_67 lf_PS_159 (by decide) rfl rfl ?_
    refine gx_icmp_gt (tgt := 135) hC dr_PS_loadMatching_70 (by decide) (fun hc2 => ?_) (fun hc2 => ?_)
    · rw [if_pos (show (gq_f M 2) < v3 from hc2)] at h
      obtain rfl := Option.some.inj h
      exact hR (by decide) (by decide) dr_PS_loadMatching_135 rfl
    · rw [if_neg (show ¬ ((gq_f M 2) < v3) from hc2)] at h
      refine gx_iconst (v := 1) hC dr_PS_loadMatching_73 (by decide) ?_
      refine gx_istore hC dr_PS_loadMatching_74 (by decide) ?_
      exact gx_lv [(0, gv_R 0), (3, gv_I v3), (4, gv_I 1)] ⟨rfl, rfl, rfl, trivial⟩ (gl_PS_loadMatching_76 hC hR (fun _ _ h => ih _ _ h) 5000 _ _ _ h)
set_option maxHeartbeats 4000000 in
set_option maxRecDepth 100000 in
theorem gl_PS_loadMatching_10 {x : gx_X} {G : gq_M × (Int → Int64)} {r : gq_M} (hC : gw_C 81 81 yn_PS_loadMatching.cls bc_PS_loadMatching 5 x) (hR : gr_V 81 bc_PS_loadMatching 5 ({ frames := 3, cells := 0, slots := 0, locals := 89 } : Room) x (fun c2 => c2 = ca_A (r, G))) : ∀ (k : Nat) (v1 : Int32) (v2 : Int32) (v3 : Int32) (M : gq_M), fl_PS_loadMatching_10 k v1 v2 v3 M = some r → gw_G 81 5 ({ frames := 3, cells := 0, slots := 0, locals := 89 } : Room) x 0 0 (ca_A (M, G)) 10 [(0, gv_R 0), (1, gv_I v1), (2, gv_I v2), (3, gv_I v3)] [] := by
  intro k
  induction k with
  | zero =>
    intro v1 v2 v3 M h
    cases h
  | succ k ih =>
    intro v1 v2 v3 M h
    rw [fl_PS_loadMatching_10] at h
    refine gx_iload_n hC dr_PS_loadMatching_10 rfl ?_
    refine gx_aload_n hC dr_PS_loadMatching_11 rfl ?_
    refine gx_get hC dr_PS_loadMatching_12 lf_PS_10 (by decide) rfl rfl ?_
    refine gx_get hC dr_PS_loadMatching_15 lf_PS_68 (by decide) rfl rfl ?_
    refine gx_icmp_ge (tgt := 60) hC dr_PS_loadMatching_18 (by decide) (fun hc1 => ?_) (fun hc1 => ?_)
    · rw [if_pos (show (gq_f M 1) ≤ v3 from hc1)] at h
      refine gx_iconst (v := 1) hC dr_PS_loadMatching_60 (by decide) ?_
      refine gx_istore_n hC dr_PS_loadMatching_61 (by decide) ?_
      exact gx_lv [(0, gv_R 0), (3, gv_I 1)] ⟨rfl, rfl, trivial⟩ (gl_PS_loadMatching_62 hC hR 5000 _ _ h)
    · rw [if_neg (show ¬ ((gq_f M 1) ≤ v3) from hc1)] at h
      refine gx_aload_n hC dr_PS_loadMatching_21 rfl ?_
      refine gx_get hC dr_PS_loadMatching_22 lf_PS_10 (by decide) rfl rfl ?_
      refine gx_get hC dr_PS_loadMatching_25 lf_PS_94 (by decide) rfl rfl ?_
      refine gx_iload_n hC dr_PS_loadMatching_28 rfl ?_
      obtain ⟨hz9, h⟩ := gk_of h
      refine gx_iald (f := (gq_i M 1)) hC dr_PS_loadMatching_29 (by decide) rfl hz9 ?_
      refine gx_iload_n hC dr_PS_loadMatching_30 rfl ?_
      refine gx_icmp_ne (tgt := 54) hC dr_PS_loadMatching_31 (by decide) (fun hc10 => ?_) (fun hc10 => ?_)
      · rw [if_neg (show ¬ (((gq_i M 1) v3.toInt) = v1) from hc10)] at h
        refine gx_iinc (v := (v3 + 1)) hC dr_PS_loadMatching_54 rfl (by decide) rfl ?_
        refine gx_goto (tgt := 10) hC dr_PS_loadMatching_57 (by decide) ?_
        exact gx_lv [(0, gv_R 0), (1, gv_I v1), (2, gv_I v2), (3, gv_I (v3 + 1))] ⟨rfl, rfl, rfl, rfl, trivial⟩ (ih _ _ _ _ h)
      · rw [if_pos (show ((gq_i M 1) v3.toInt) = v1 from hc10)] at h
        refine gx_aload_n hC dr_PS_loadMatching_34 rfl ?_
        refine gx_get hC dr_PS_loadMatching_35 lf_PS_10 (by decide) rfl rfl ?_
        refine gx_iload_n hC dr_PS_loadMatching_38 rfl ?_
        refine gx_iload_n hC dr_PS_loadMatching_39 rfl ?_
        obtain ⟨q11, e12, h⟩ := gb_of h
        refine gx_vI hC dr_PS_loadMatching_40 lk_PS_248 (mt_Pi_isFreeUnit e12) rfl (by decide) ⟨by decide, by decide⟩ ⟨by decide, by decide⟩ (by decide) ⟨_, _, rfl⟩ rfl rfl (Nat.le_of_ble_eq_true rfl) (fun z c2 hp => ?_)
        obtain ⟨hp1, rfl⟩ := hp; obtain rfl := hp1.symm
        refine gx_if_eq (tgt := 54) hC dr_PS_loadMatching_43 (by decide) (fun hc13 => ?_) (fun hc13 => ?_)
        · rw [if_pos (show q11 = 0 from hc13)] at h
          refine gx_iinc (v := (v3 + 1)) hC dr_PS_loadMatching_54 rfl (by decide) rfl ?_
          refine gx_goto (tgt := 10) hC dr_PS_loadMatching_57 (by decide) ?_
          exact gx_lv [(0, gv_R 0), (1, gv_I v1), (2, gv_I v2), (3, gv_I (v3 + 1))] ⟨rfl, rfl, rfl, rfl, trivial⟩ (ih _ _ _ _ h)
        · rw [if_neg (show ¬ (q11 = 0) from hc13)] at h
          refine gx_aload_n hC dr_PS_loadMatching_46 rfl ?_
          refine gx_get hC dr_PS_loadMatching_47 lf_PS_26 (by decide) rfl rfl ?_
          refine gx_iload_n hC dr_PS_loadMatching_50 rfl ?_
          obtain ⟨q14, e15, h⟩ := gb_of h
          refine gx_vV hC dr_PS_loadMatching_51 lk_PS_252 (mt_Ma_add e15) rfl (by decide) ⟨by decide, by decide⟩ ⟨by decide, by decide⟩ (by decide) ⟨_, _, rfl⟩ rfl rfl (Nat.le_of_ble_eq_true rfl) (fun c2 hp => ?_)
          subst hp
          refine gx_iinc (v := (v3 + 1)) hC dr_PS_loadMatching_54 rfl (by decide) rfl ?_
          refine gx_goto (tgt := 10) hC dr_PS_loadMatching_57 (by decide) ?_
          exact gx_lv [(0, gv_R 0), (1, gv_I v1), (2, gv_I v2), (3, gv_I (v3 + 1))] ⟨rfl, rfl, rfl, rfl, trivial⟩ (ih _ _ _ _ h)
set_option maxHeartbeats 4000000 in
set_option maxRecDepth 100000 in
theorem mt_PS_loadMatching {l : Launch} {D : va_G} {ad : Nat → Nat} {ck : Nat → ClassId} {G : gq_M × (Int → Int64)} {p0 : Int32} {p1 : Int32} {M : gq_M} {r : gq_M} (h : fn_PS_loadMatching p0 p1 M = some r) : gm_V 81 81 l D ad ck yn_PS_loadMatching bc_PS_loadMatching 5 ({ frames := 3, cells := 0, slots := 0, locals := 89 } : Room) [gv_R 0, gv_I p0, gv_I p1] (ca_A (M, G)) (fun c2 => c2 = ca_A (r, G)) := by
  refine gm_V.of (by decide) (Nat.le_of_ble_eq_true rfl) (fun x hC hR => ?_)
  unfold fn_PS_loadMatching at h
  refine gx_aload_n hC dr_PS_loadMatching_0 rfl ?_
  refine gx_get hC dr_PS_loadMatching_1 lf_PS_26 (by decide) rfl rfl ?_
  refine gx_iconst (v := 0) hC dr_PS_loadMatching_4 (by decide) ?_
  refine gx_put hC (by decide) dr_PS_loadMatching_5 lf_PS_159 lp_Ma_size (by decide) rfl (Nat.le_of_ble_eq_true rfl) (fun _ => rfl) (fun _ => rfl) ca_F2 ?_
  refine gx_iconst (v := 0) hC dr_PS_loadMatching_8 (by decide) ?_
  refine gx_istore_n hC dr_PS_loadMatching_9 (by decide) ?_
  exact gx_lv [(0, gv_R 0), (1, gv_I p0), (2, gv_I p1), (3, gv_I 0)] ⟨rfl, rfl, rfl, rfl, trivial⟩ (gl_PS_loadMatching_10 hC hR 5000 _ _ _ _ h)
def fn_PS_sideOfWay (p0 : Int32) (p1 : Int64) (p2 : Int64) (M : gq_M) : Option Int64 := if 0 ≤ p0.toInt ∧ p0.toInt < ((80 : Nat) : Int) then if 0 ≤ ((gq_i M 3) p0.toInt).toInt ∧ ((gq_i M 3) p0.toInt).toInt < ((200 : Nat) : Int) then some (((((gq_l M 2) ((gq_i M 3) p0.toInt).toInt) - ((gq_l M 0) p0.toInt)) * (p2 - ((gq_l M 1) p0.toInt))) - ((((gq_l M 3) ((gq_i M 3) p0.toInt).toInt) - ((gq_l M 1) p0.toInt)) * (p1 - ((gq_l M 0) p0.toInt)))) else none else none
set_option maxHeartbeats 4000000 in
set_option maxRecDepth 100000 in
theorem mt_PS_sideOfWay {l : Launch} {D : va_G} {ad : Nat → Nat} {ck : Nat → ClassId} {G : gq_M × (Int → Int64)} {p0 : Int32} {p1 : Int64} {p2 : Int64} {M : gq_M} {r : Int64} (h : fn_PS_sideOfWay p0 p1 p2 M = some r) : gm_J 81 0 l D ad ck yn_PS_sideOfWay bc_PS_sideOfWay 11 ({ frames := 0, cells := 0, slots := 0, locals := 0 } : Room) [gv_R 0, gv_I p0, gv_L p1, gv_L p2] (ca_A (M, G)) (fun z c2 => z = r ∧ c2 = ca_A (M, G)) := by
  refine gm_J.of (by decide) (Nat.le_of_ble_eq_true rfl) (fun x hC hR => ?_)
  unfold fn_PS_sideOfWay at h
  refine gx_aload_n hC dr_PS_sideOfWay_0 rfl ?_
  refine gx_get hC dr_PS_sideOfWay_1 lf_PS_10 (by decide) rfl rfl ?_
  refine gx_get hC dr_PS_sideOfWay_4 lf_PS_122 (by decide) rfl rfl ?_
  refine gx_iload_n hC dr_PS_sideOfWay_7 rfl ?_
  obtain ⟨hz1, h⟩ := gk_of h
  refine gx_iald (f := (gq_i M 3)) hC dr_PS_sideOfWay_8 (by decide) rfl hz1 ?_
  refine gx_istore hC dr_PS_sideOfWay_9 (by decide) ?_
  refine gx_aload_n hC dr_PS_sideOfWay_11 rfl ?_
  refine gx_get hC dr_PS_sideOfWay_12 lf_PS_19 (by decide) rfl rfl ?_
  refine gx_get hC dr_PS_sideOfWay_15 lf_PS_212 (by decide) rfl rfl ?_
  refine gx_iload hC dr_PS_sideOfWay_18 rfl ?_
  obtain ⟨hz2, h⟩ := gk_of h
  refine gx_lald (f := (gq_l M 2)) hC dr_PS_sideOfWay_20 (by decide) rfl hz2 ?_
  refine gx_aload_n hC dr_PS_sideOfWay_21 rfl ?_
  refine gx_get hC dr_PS_sideOfWay_22 lf_PS_10 (by decide) rfl rfl ?_
  refine gx_get hC dr_PS_sideOfWay_25 lf_PS_216 (by decide) rfl rfl ?_
  refine gx_iload_n hC dr_PS_sideOfWay_28 rfl ?_
  refine gx_lald (f := (gq_l M 0)) hC dr_PS_sideOfWay_29 (by decide) rfl hz1 ?_
  refine gx_lsub hC dr_PS_sideOfWay_30 ?_
  refine gx_lstore hC dr_PS_sideOfWay_31 (by decide) ?_
  refine gx_aload_n hC dr_PS_sideOfWay_33 rfl ?_
  refine gx_get hC dr_PS_sideOfWay_34 lf_PS_19 (by decide) rfl rfl ?_
  refine gx_get hC dr_PS_sideOfWay_37 lf_PS_223 (by decide) rfl rfl ?_
  refine gx_iload hC dr_PS_sideOfWay_40 rfl ?_
  refine gx_lald (f := (gq_l M 3)) hC dr_PS_sideOfWay_42 (by decide) rfl hz2 ?_
  refine gx_aload_n hC dr_PS_sideOfWay_43 rfl ?_
  refine gx_get hC dr_PS_sideOfWay_44 lf_PS_10 (by decide) rfl rfl ?_
  refine gx_get hC dr_PS_sideOfWay_47 lf_PS_226 (by decide) rfl rfl ?_
  refine gx_iload_n hC dr_PS_sideOfWay_50 rfl ?_
  refine gx_lald (f := (gq_l M 1)) hC dr_PS_sideOfWay_51 (by decide) rfl hz1 ?_
  refine gx_lsub hC dr_PS_sideOfWay_52 ?_
  refine gx_lstore hC dr_PS_sideOfWay_53 (by decide) ?_
  refine gx_lload hC dr_PS_sideOfWay_55 rfl ?_
  refine gx_lload hC dr_PS_sideOfWay_57 rfl ?_
  refine gx_aload_n hC dr_PS_sideOfWay_59 rfl ?_
  refine gx_get hC dr_PS_sideOfWay_60 lf_PS_10 (by decide) rfl rfl ?_
  refine gx_get hC dr_PS_sideOfWay_63 lf_PS_226 (by decide) rfl rfl ?_
  refine gx_iload_n hC dr_PS_sideOfWay_66 rfl ?_
  refine gx_lald (f := (gq_l M 1)) hC dr_PS_sideOfWay_67 (by decide) rfl hz1 ?_
  refine gx_lsub hC dr_PS_sideOfWay_68 ?_
  refine gx_lmul hC dr_PS_sideOfWay_69 ?_
  refine gx_lload hC dr_PS_sideOfWay_70 rfl ?_
  refine gx_lload_n hC dr_PS_sideOfWay_72 rfl ?_
  refine gx_aload_n hC dr_PS_sideOfWay_73 rfl ?_
  refine gx_get hC dr_PS_sideOfWay_74 lf_PS_10 (by decide) rfl rfl ?_
  refine gx_get hC dr_PS_sideOfWay_77 lf_PS_216 (by decide) rfl rfl ?_
  refine gx_iload_n hC dr_PS_sideOfWay_80 rfl ?_
  refine gx_lald (f := (gq_l M 0)) hC dr_PS_sideOfWay_81 (by decide) rfl hz1 ?_
  refine gx_lsub hC dr_PS_sideOfWay_82 ?_
  refine gx_lmul hC dr_PS_sideOfWay_83 ?_
  refine gx_lsub hC dr_PS_sideOfWay_84 ?_
  obtain rfl := Option.some.inj h
  exact hR (by decide) (by decide) dr_PS_sideOfWay_85 ⟨rfl, rfl⟩
def fn_PS_partsEnds (p0 : Int32) (p1 : Int32) (M : gq_M) : Option Int32 := if 0 ≤ p1.toInt ∧ p1.toInt < ((80 : Nat) : Int) then (fn_PS_sideOfWay p0 ((gq_l M 0) p1.toInt) ((gq_l M 1) p1.toInt) M).bind fun q2 => if 0 ≤ ((gq_i M 3) p1.toInt).toInt ∧ ((gq_i M 3) p1.toInt).toInt < ((200 : Nat) : Int) then (fn_PS_sideOfWay p0 ((gq_l M 2) ((gq_i M 3) p1.toInt).toInt) ((gq_l M 3) ((gq_i M 3) p1.toInt).toInt) M).bind fun q5 => if (Int64.ofNat (0 : Fin 2).val) ≤ q2 then if q2 ≤ (Int64.ofNat (0 : Fin 2).val) then some 0 else if (Int64.ofNat (0 : Fin 2).val) ≤ q5 then some 0 else some 1 else if (Int64.ofNat (0 : Fin 2).val) < q5 then some 1 else if q2 ≤ (Int64.ofNat (0 : Fin 2).val) then some 0 else if (Int64.ofNat (0 : Fin 2).val) ≤ q5 then some 0 else some 1 else none else none
set_option maxHeartbeats 4000000 in
set_option maxRecDepth 100000 in
theorem mt_PS_partsEnds {l : Launch} {D : va_G} {ad : Nat → Nat} {ck : Nat → ClassId} {G : gq_M × (Int → Int64)} {p0 : Int32} {p1 : Int32} {M : gq_M} {r : Int32} (h : fn_PS_partsEnds p0 p1 M = some r) : gm_I 81 0 l D ad ck yn_PS_partsEnds bc_PS_partsEnds 8 .boolean ({ frames := 1, cells := 0, slots := 0, locals := 30 } : Room) [gv_R 0, gv_I p0, gv_I p1] (ca_A (M, G)) (fun z c2 => z = r ∧ c2 = ca_A (M, G)) := by
  refine gm_I.of (by decide) (Nat.le_of_ble_eq_true rfl) (fun x hC hR => ?_)
  unfold fn_PS_partsEnds at h
  refine gx_aload_n hC dr_PS_partsEnds_0 rfl ?_
  refine gx_get hC dr_PS_partsEnds_1 lf_PS_10 (by decide) rfl rfl ?_
  refine gx_get hC dr_PS_partsEnds_4 lf_PS_122 (by decide) rfl rfl ?_
  refine gx_iload_n hC dr_PS_partsEnds_7 rfl ?_
  obtain ⟨hz1, h⟩ := gk_of h
  refine gx_iald (f := (gq_i M 3)) hC dr_PS_partsEnds_8 (by decide) rfl hz1 ?_
  refine gx_istore_n hC dr_PS_partsEnds_9 (by decide) ?_
  refine gx_aload_n hC dr_PS_partsEnds_10 rfl ?_
  refine gx_iload_n hC dr_PS_partsEnds_11 rfl ?_
  refine gx_aload_n hC dr_PS_partsEnds_12 rfl ?_
  refine gx_get hC dr_PS_partsEnds_13 lf_PS_10 (by decide) rfl rfl ?_
  refine gx_get hC dr_PS_partsEnds_16 lf_PS_216 (by decide) rfl rfl ?_
  refine gx_iload_n hC dr_PS_partsEnds_19 rfl ?_
  refine gx_lald (f := (gq_l M 0)) hC dr_PS_partsEnds_20 (by decide) rfl hz1 ?_
  refine gx_aload_n hC dr_PS_partsEnds_21 rfl ?_
  refine gx_get hC dr_PS_partsEnds_22 lf_PS_10 (by decide) rfl rfl ?_
  refine gx_get hC dr_PS_partsEnds_25 lf_PS_226 (by decide) rfl rfl ?_
  refine gx_iload_n hC dr_PS_partsEnds_28 rfl ?_
  refine gx_lald (f := (gq_l M 1)) hC dr_PS_partsEnds_29 (by decide) rfl hz1 ?_
  obtain ⟨q2, e3, h⟩ := gb_of h
  refine gx_vJ hC dr_PS_partsEnds_30 lk_PS_263 (mt_PS_sideOfWay e3) rfl (by decide) ⟨by decide, by decide⟩ ⟨by decide, by decide⟩ (by decide) ⟨_, _, rfl⟩ rfl rfl (Nat.le_of_ble_eq_true rfl) (fun z c2 hp => ?_)
  obtain ⟨hp1, rfl⟩ := hp; obtain rfl := hp1.symm
  refine gx_lstore hC dr_PS_partsEnds_33 (by decide) ?_
  refine gx_aload_n hC dr_PS_partsEnds_35 rfl ?_
  refine gx_iload_n hC dr_PS_partsEnds_36 rfl ?_
  refine gx_aload_n hC dr_PS_partsEnds_37 rfl ?_
  refine gx_get hC dr_PS_partsEnds_38 lf_PS_19 (by decide) rfl rfl ?_
  refine gx_get hC dr_PS_partsEnds_41 lf_PS_212 (by decide) rfl rfl ?_
  refine gx_iload_n hC dr_PS_partsEnds_44 rfl ?_
  obtain ⟨hz4, h⟩ := gk_of h
  refine gx_lald (f := (gq_l M 2)) hC dr_PS_partsEnds_45 (by decide) rfl hz4 ?_
  refine gx_aload_n hC dr_PS_partsEnds_46 rfl ?_
  refine gx_get hC dr_PS_partsEnds_47 lf_PS_19 (by decide) rfl rfl ?_
  refine gx_get hC dr_PS_partsEnds_50 lf_PS_223 (by decide) rfl rfl ?_
  refine gx_iload_n hC dr_PS_partsEnds_53 rfl ?_
  refine gx_lald (f := (gq_l M 3)) hC dr_PS_partsEnds_54 (by decide) rfl hz4 ?_
  obtain ⟨q5, e6, h⟩ := gb_of h
  refine gx_vJ hC dr_PS_partsEnds_55 lk_PS_263 (mt_PS_sideOfWay e6) rfl (by decide) ⟨by decide, by decide⟩ ⟨by decide, by decide⟩ (by decide) ⟨_, _, rfl⟩ rfl rfl (Nat.le_of_ble_eq_true rfl) (fun z c2 hp => ?_)
  obtain ⟨hp1, rfl⟩ := hp; obtain rfl := hp1.symm
  refine gx_lstore hC dr_PS_partsEnds_58 (by decide) ?_
  refine gx_lload hC dr_PS_partsEnds_60 rfl ?_
  refine gx_lconst hC dr_PS_partsEnds_62 ?_
  refine gx_lcmp_ge (tgt := 74) hC dr_PS_partsEnds_63 dr_PS_partsEnds_64 (by decide) (fun hc7 => ?_) (fun hc7 => ?_)
  · rw [if_pos (show (Int64.ofNat (0 : Fin 2).val) ≤ q2 from hc7)] at h
    refine gx_lload hC dr_PS_partsEnds_74 rfl ?_
    refine gx_lconst hC dr_PS_partsEnds_76 ?_
    refine gx_lcmp_le (tgt := 92) hC dr_PS_partsEnds_77 dr_PS_partsEnds_78 (by decide) (fun hc8 => ?_) (fun hc8 => ?_)
    · rw [if_pos (show q2 ≤ (Int64.ofNat (0 : Fin 2).val) from hc8)] at h
      refine gx_iconst (v := 0) hC dr_PS_partsEnds_92 (by decide) ?_
      obtain rfl := Option.some.inj h
      exact hR (by decide) (by decide) dr_PS_partsEnds_93 rfl ⟨rfl, rfl⟩
    · rw [if_neg (show ¬ (q2 ≤ (Int64.ofNat (0 : Fin 2).val)) from hc8)] at h
      refine gx_lload hC dr_PS_partsEnds_81 rfl ?_
      refine gx_lconst hC dr_PS_partsEnds_83 ?_
      refine gx_lcmp_ge (tgt := 92) hC dr_PS_partsEnds_84 dr_PS_partsEnds_85 (by decide) (fun hc9 => ?_) (fun hc9 => ?_)
      · rw [if_pos (show (Int64.ofNat (0 : Fin 2).val) ≤ q5 from hc9)] at h
        refine gx_iconst (v := 0) hC dr_PS_partsEnds_92 (by decide) ?_
        obtain rfl := Option.some.inj h
        exact hR (by decide) (by decide) dr_PS_partsEnds_93 rfl ⟨rfl, rfl⟩
      · rw [if_neg (show ¬ ((Int64.ofNat (0 : Fin 2).val) ≤ q5) from hc9)] at h
        refine gx_iconst (v := 1) hC dr_PS_partsEnds_88 (by decide) ?_
        refine gx_goto (tgt := 93) hC dr_PS_partsEnds_89 (by decide) ?_
        obtain rfl := Option.some.inj h
        exact hR (by decide) (by decide) dr_PS_partsEnds_93 rfl ⟨rfl, rfl⟩
  · rw [if_neg (show ¬ ((Int64.ofNat (0 : Fin 2).val) ≤ q2) from hc7)] at h
    refine gx_lload hC dr_PS_partsEnds_67 rfl ?_
    refine gx_lconst hC dr_PS_partsEnds_69 ?_
    refine gx_lcmp_gt (tgt := 88) hC dr_PS_partsEnds_70 dr_PS_partsEnds_71 (by decide) (fun hc10 => ?_) (fun hc10 => ?_)
    · rw [if_pos (show (Int64.ofNat (0 : Fin 2).val) < q5 from hc10)] at h
      refine gx_iconst (v := 1) hC dr_PS_partsEnds_88 (by decide) ?_
      refine gx_goto (tgt := 93) hC dr_PS_partsEnds_89 (by decide) ?_
      obtain rfl := Option.some.inj h
      exact hR (by decide) (by decide) dr_PS_partsEnds_93 rfl ⟨rfl, rfl⟩
    · rw [if_neg (show ¬ ((Int64.ofNat (0 : Fin 2).val) < q5) from hc10)] at h
      refine gx_lload hC dr_PS_partsEnds_74 rfl ?_
      refine gx_lconst hC dr_PS_partsEnds_76 ?_
      refine gx_lcmp_le (tgt := 92) hC dr_PS_partsEnds_77 dr_PS_partsEnds_78 (by decide) (fun hc11 => ?_) (fun hc11 => ?_)
      · rw [if_pos (show q2 ≤ (Int64.ofNat (0 : Fin 2).val) from hc11)] at h
        refine gx_iconst (v := 0) hC dr_PS_partsEnds_92 (by decide) ?_
        obtain rfl := Option.some.inj h
        exact hR (by decide) (by decide) dr_PS_partsEnds_93 rfl ⟨rfl, rfl⟩
      · rw [if_neg (show ¬ (q2 ≤ (Int64.ofNat (0 : Fin 2).val)) from hc11)] at h
        refine gx_lload hC dr_PS_partsEnds_81 rfl ?_
        refine gx_lconst hC dr_PS_partsEnds_83 ?_
        refine gx_lcmp_ge (tgt := 92) hC dr_PS_partsEnds_84 dr_PS_partsEnds_85 (by decide) (fun hc12 => ?_) (fun hc12 => ?_)
        · rw [if_pos (show (Int64.ofNat (0 : Fin 2).val) ≤ q5 from hc12)] at h
          refine gx_iconst (v := 0) hC dr_PS_partsEnds_92 (by decide) ?_
          obtain rfl := Option.some.inj h
          exact hR (by decide) (by decide) dr_PS_partsEnds_93 rfl ⟨rfl, rfl⟩
        · rw [if_neg (show ¬ ((Int64.ofNat (0 : Fin 2).val) ≤ q5) from hc12)] at h
          refine gx_iconst (v := 1) hC dr_PS_partsEnds_88 (by decide) ?_
          refine gx_goto (tgt := 93) hC dr_PS_partsEnds_89 (by decide) ?_
          obtain rfl := Option.some.inj h
          exact hR (by decide) (by decide) dr_PS_partsEnds_93 rfl ⟨rfl, rfl⟩
def fn_PS_waysCross (p0 : Int32) (p1 : Int32) (M : gq_M) : Option Int32 := if 0 ≤ p0.toInt ∧ p0.toInt < ((80 : Nat) : Int) then if 0 ≤ ((gq_i M 3) p0.toInt).toInt ∧ ((gq_i M 3) p0.toInt).toInt < ((200 : Nat) : Int) then if ((gq_i M 8) ((gq_i M 3) p0.toInt).toInt) = 0 then some 0 else if 0 ≤ p1.toInt ∧ p1.toInt < ((80 : Nat) : Int) then if 0 ≤ ((gq_i M 3) p1.toInt).toInt ∧ ((gq_i M 3) p1.toInt).toInt < ((200 : Nat) : Int) then if ((gq_i M 8) ((gq_i M 3) p1.toInt).toInt) = 0 then some 0 else (fn_PS_partsEnds p0 p1 M).bind fun q7 => if q7 = 0 then some 0 else (fn_PS_partsEnds p1 p0 M).bind fun q10 => if q10 = 0 then some 0 else some 1 else none else none else none else none
set_option maxHeartbeats 4000000 in
set_option maxRecDepth 100000 in
theorem mt_PS_waysCross {l : Launch} {D : va_G} {ad : Nat → Nat} {ck : Nat → ClassId} {G : gq_M × (Int → Int64)} {p0 : Int32} {p1 : Int32} {M : gq_M} {r : Int32} (h : fn_PS_waysCross p0 p1 M = some r) : gm_I 81 0 l D ad ck yn_PS_waysCross bc_PS_waysCross 3 .boolean ({ frames := 2, cells := 0, slots := 0, locals := 57 } : Room) [gv_R 0, gv_I p0, gv_I p1] (ca_A (M, G)) (fun z c2 => z = r ∧ c2 = ca_A (M, G)) := by
  refine gm_I.of (by decide) (Nat.le_of_ble_eq_true rfl) (fun x hC hR => ?_)
  unfold fn_PS_waysCross at h
  refine gx_aload_n hC dr_PS_waysCross_0 rfl ?_
  refine gx_get hC dr_PS_waysCross_1 lf_PS_19 (by decide) rfl rfl ?_
  refine gx_get hC dr_PS_waysCross_4 lf_PS_209 (by decide) rfl rfl ?_
  refine gx_aload_n hC dr_PS_waysCross_7 rfl ?_
  refine gx_get hC dr_PS_waysCross_8 lf_PS_10 (by decide) rfl rfl ?_
  refine gx_get hC dr_PS_waysCross_11 lf_PS_122 (by decide) rfl rfl ?_
  refine gx_iload_n hC dr_PS_waysCross_14 rfl ?_
  obtain ⟨hz1, h⟩ := gk_of h
  refine gx_iald (f := (gq_i M 3)) hC dr_PS_waysCross_15 (by decide) rfl hz1 ?_
  obtain ⟨hz2, h⟩ := gk_of h
  refine gx_zald (f := (gq_i M 8)) hC dr_PS_waysCross_16 (by decide) rfl hz2 ?_
  refine gx_if_eq (tgt := 40) hC dr_PS_waysCross_17 (by decide) (fun hc3 => ?_) (fun hc3 => ?_)
  · rw [if_pos (show ((gq_i M 8) ((gq_i M 3) p0.toInt).toInt) = 0 from hc3)] at h
    refine gx_iconst (v := 0) hC dr_PS_waysCross_40 (by decide) ?_
    obtain rfl := Option.some.inj h
    exact hR (by decide) (by decide) dr_PS_waysCross_41 rfl ⟨rfl, rfl⟩
  · rw [if_neg (show ¬ (((gq_i M 8) ((gq_i M 3) p0.toInt).toInt) = 0) from hc3)] at h
    refine gx_aload_n hC dr_PS_waysCross_20 rfl ?_
    refine gx_get hC dr_PS_waysCross_21 lf_PS_19 (by decide) rfl rfl ?_
    refine gx_get hC dr_PS_waysCross_24 lf_PS_209 (by decide) rfl rfl ?_
    refine gx_aload_n hC dr_PS_waysCross_27 rfl ?_
    refine gx_get hC dr_PS_waysCross_28 lf_PS_10 (by decide) rfl rfl ?_
    refine gx_get hC dr_PS_waysCross_31 lf_PS_122 (by decide) rfl rfl ?_
    refine gx_iload_n hC dr_PS_waysCross_34 rfl ?_
    obtain ⟨hz4, h⟩ := gk_of h
    refine gx_iald (f := (gq_i M 3)) hC dr_PS_waysCross_35 (by decide) rfl hz4 ?_
    obtain ⟨hz5, h⟩ := gk_of h
    refine gx_zald (f := (gq_i M 8)) hC dr_PS_waysCross_36 (by decide) rfl hz5 ?_
    refine gx_if_ne (tgt := 42) hC dr_PS_waysCross_37 (by decide) (fun hc6 => ?_) (fun hc6 => ?_)
    · rw [if_neg (show ¬ (((gq_i M 8) ((gq_i M 3) p1.toInt).toInt) = 0) from hc6)] at h
      refine gx_aload_n hC dr_PS_waysCross_42 rfl ?_
      refine gx_iload_n hC dr_PS_waysCross_43 rfl ?_
      refine gx_iload_n hC dr_PS_waysCross_44 rfl ?_
      obtain ⟨q7, e8, h⟩ := gb_of h
      refine gx_vI hC dr_PS_waysCross_45 lk_PS_260 (mt_PS_partsEnds e8) rfl (by decide) ⟨by decide, by decide⟩ ⟨by decide, by decide⟩ (by decide) ⟨_, _, rfl⟩ rfl rfl (Nat.le_of_ble_eq_true rfl) (fun z c2 hp => ?_)
      obtain ⟨hp1, rfl⟩ := hp; obtain rfl := hp1.symm
      refine gx_if_eq (tgt := 64) hC dr_PS_waysCross_48 (by decide) (fun hc9 => ?_) (fun hc9 => ?_)
      · rw [if_pos (show q7 = 0 from hc9)] at h
        refine gx_iconst (v := 0) hC dr_PS_waysCross_64 (by decide) ?_
        obtain rfl := Option.some.inj h
        exact hR (by decide) (by decide) dr_PS_waysCross_65 rfl ⟨rfl, rfl⟩
      · rw [if_neg (show ¬ (q7 = 0) from hc9)] at h
        refine gx_aload_n hC dr_PS_waysCross_51 rfl ?_
        refine gx_iload_n hC dr_PS_waysCross_52 rfl ?_
        refine gx_iload_n hC dr_PS_waysCross_53 rfl ?_
        obtain ⟨q10, e11, h⟩ := gb_of h
        refine gx_vI hC dr_PS_waysCross_54 lk_PS_260 (mt_PS_partsEnds e11) rfl (by decide) ⟨by decide, by decide⟩ ⟨by decide, by decide⟩ (by decide) ⟨_, _, rfl⟩ rfl rfl (Nat.le_of_ble_eq_true rfl) (fun z c2 hp => ?_)
        obtain ⟨hp1, rfl⟩ := hp; obtain rfl := hp1.symm
        refine gx_if_eq (tgt := 64) hC dr_PS_waysCross_57 (by decide) (fun hc12 => ?_) (fun hc12 => ?_)
        · rw [if_pos (show q10 = 0 from hc12)] at h
          refine gx_iconst (v := 0) hC dr_PS_waysCross_64 (by decide) ?_
          obtain rfl := Option.some.inj h
          exact hR (by decide) (by decide) dr_PS_waysCross_65 rfl ⟨rfl, rfl⟩
        · rw [if_neg (show ¬ (q10 = 0) from hc12)] at h
          refine gx_iconst (v := 1) hC dr_PS_waysCross_60 (by decide) ?_
          refine gx_goto (tgt := 65) hC dr_PS_waysCross_61 (by decide) ?_
          obtain rfl := Option.some.inj h
          exact hR (by decide) (by decide) dr_PS_waysCross_65 rfl ⟨rfl, rfl⟩
    · rw [if_pos (show ((gq_i M 8) ((gq_i M 3) p1.toInt).toInt) = 0 from hc6)] at h
      refine gx_iconst (v := 0) hC dr_PS_waysCross_40 (by decide) ?_
      obtain rfl := Option.some.inj h
      exact hR (by decide) (by decide) dr_PS_waysCross_41 rfl ⟨rfl, rfl⟩
def fl_PS_crossings_19 (M : gq_M) (K4 : Int32 → Int32 → Option Int32) : Nat → Int32 → Int32 → Int32 → Option Int32
  | 0, _, _, _ => none
  | k + 1, v1, v2, v3 => if (gq_f M 1) ≤ v3 then K4 v1 (v2 + 1) else if 0 ≤ v2.toInt ∧ v2.toInt < ((80 : Nat) : Int) then if 0 ≤ v3.toInt ∧ v3.toInt < ((80 : Nat) : Int) then if ((gq_i M 1) v2.toInt) = ((gq_i M 1) v3.toInt) then (fn_PS_waysCross v2 v3 M).bind fun q6 => if q6 = 0 then fl_PS_crossings_19 M K4 k v1 v2 (v3 + 1) else fl_PS_crossings_19 M K4 k (v1 + 1) v2 (v3 + 1) else fl_PS_crossings_19 M K4 k v1 v2 (v3 + 1) else none else none
def fl_PS_crossings_4 (M : gq_M) : Nat → Int32 → Int32 → Option Int32
  | 0, _, _ => none
  | k + 1, v1, v2 => if (gq_f M 1) ≤ v2 then some v1 else fl_PS_crossings_19 M (fl_PS_crossings_4 M k) 5000 v1 v2 (v2 + 1)
def fn_PS_crossings  (M : gq_M) : Option Int32 := fl_PS_crossings_4 M 5000 0 0
set_option maxHeartbeats 4000000 in
set_option maxRecDepth 100000 in
theorem gl_PS_crossings_19 {x : gx_X} {G : gq_M × (Int → Int64)} {M : gq_M} {r : Int32} (hC : gw_C 81 0 yn_PS_crossings.cls bc_PS_crossings 4 x) (hR : gr_I 81 bc_PS_crossings 4 .int ({ frames := 3, cells := 0, slots := 0, locals := 79 } : Room) x (fun z c2 => z = r ∧ c2 = ca_A (M, G))) {K4 : Int32 → Int32 → Option Int32} (hK4 : ∀ (v1 : Int32) (v2 : Int32), K4 v1 v2 = some r → gw_G 81 4 ({ frames := 3, cells := 0, slots := 0, locals := 79 } : Room) x 0 0 (ca_A (M, G)) 4 [(0, gv_R 0), (1, gv_I v1), (2, gv_I v2)] []) : ∀ (k : Nat) (v1 : Int32) (v2 : Int32) (v3 : Int32), fl_PS_crossings_19 M K4 k v1 v2 v3 = some r → gw_G 81 4 ({ frames := 3, cells := 0, slots := 0, locals := 79 } : Room) x 0 0 (ca_A (M, G)) 19 [(0, gv_R 0), (1, gv_I v1), (2, gv_I v2), (3, gv_I v3)] [] := by
  intro k
  induction k with
  | zero =>
    intro v1 v2 v3 h
    cases h
  | succ k ih =>
    intro v1 v2 v3 h
    rw [fl_PS_crossings_19] at h
    refine gx_iload_n hC dr_PS_crossings_19 rfl ?_
    refine gx_aload_n hC dr_PS_crossings_20 rfl ?_
    refine gx_get hC dr_PS_crossings_21 lf_PS_10 (by decide) rfl rfl ?_
    refine gx_get hC dr_PS_crossings_24 lf_PS_68 (by decide) rfl rfl ?_
    refine gx_icmp_ge (tgt := 69) hC dr_PS_crossings_27 (by decide) (fun hc2 => ?_) (fun hc2 => ?_)
    · rw [if_pos (show (gq_f M 1) ≤ v3 from hc2)] at h
      refine gx_iinc (v := (v2 + 1)) hC dr_PS_crossings_69 rfl (by decide) rfl ?_
      refine gx_goto (tgt := 4) hC dr_PS_crossings_72 (by decide) ?_
      exact gx_lv [(0, gv_R 0), (1, gv_I v1), (2, gv_I (v2 + 1))] ⟨rfl, rfl, rfl, trivial⟩ (hK4 _ _ h)
    · rw [if_neg (show ¬ ((gq_f M 1) ≤ v3) from hc2)] at h
      refine gx_aload_n hC dr_PS_crossings_30 rfl ?_
      refine gx_get hC dr_PS_crossings_31 lf_PS_10 (by decide) rfl rfl ?_
      refine gx_get hC dr_PS_crossings_34 lf_PS_94 (by decide) rfl rfl ?_
      refine gx_iload_n hC dr_PS_crossings_37 rfl ?_
      obtain ⟨hz3, h⟩ := gk_of h
      refine gx_iald (f := (gq_i M 1)) hC dr_PS_crossings_38 (by decide) rfl hz3 ?_
      refine gx_aload_n hC dr_PS_crossings_39 rfl ?_
      refine gx_get hC dr_PS_crossings_40 lf_PS_10 (by decide) rfl rfl ?_
      refine gx_get hC dr_PS_crossings_43 lf_PS_94 (by decide) rfl rfl ?_
      refine gx_iload_n hC dr_PS_crossings_46 rfl ?_
      obtain ⟨hz4, h⟩ := gk_of h
      refine gx_iald (f := (gq_i M 1)) hC dr_PS_crossings_47 (by decide) rfl hz4 ?_
      refine gx_icmp_ne (tgt := 63) hC dr_PS_crossings_48 (by decide) (fun hc5 => ?_) (fun hc5 => ?_)
      · rw [if_neg (show ¬ (((gq_i M 1) v2.toInt) = ((gq_i M 1) v3.toInt)) from hc5)] at h
        refine gx_iinc (v := (v3 + 1)) hC dr_PS_crossings_63 rfl (by decide) rfl ?_
        refine gx_goto (tgt := 19) hC dr_PS_crossings_66 (by decide) ?_
        exact gx_lv [(0, gv_R 0), (1, gv_I v1), (2, gv_I v2), (3, gv_I (v3 + 1))] ⟨rfl, rfl, rfl, rfl, trivial⟩ (ih _ _ _ h)
      · rw [if_pos (show ((gq_i M 1) v2.toInt) = ((gq_i M 1) v3.toInt) from hc5)] at h
        refine gx_aload_n hC dr_PS_crossings_51 rfl ?_
        refine gx_iload_n hC dr_PS_crossings_52 rfl ?_
        refine gx_iload_n hC dr_PS_crossings_53 rfl ?_
        obtain ⟨q6, e7, h⟩ := gb_of h
        refine gx_vI hC dr_PS_crossings_54 lk_PS_198 (mt_PS_waysCross e7) rfl (by decide) ⟨by decide, by decide⟩ ⟨by decide, by decide⟩ (by decide) ⟨_, _, rfl⟩ rfl rfl (Nat.le_of_ble_eq_true rfl) (fun z c2 hp => ?_)
        obtain ⟨hp1, rfl⟩ := hp; obtain rfl := hp1.symm
        refine gx_if_eq (tgt := 63) hC dr_PS_crossings_57 (by decide) (fun hc8 => ?_) (fun hc8 => ?_)
        · rw [if_pos (show q6 = 0 from hc8)] at h
          refine gx_iinc (v := (v3 + 1)) hC dr_PS_crossings_63 rfl (by decide) rfl ?_
          refine gx_goto (tgt := 19) hC dr_PS_crossings_66 (by decide) ?_
          exact gx_lv [(0, gv_R 0), (1, gv_I v1), (2, gv_I v2), (3, gv_I (v3 + 1))] ⟨rfl, rfl, rfl, rfl, trivial⟩ (ih _ _ _ h)
        · rw [if_neg (show ¬ (q6 = 0) from hc8)] at h
          refine gx_iinc (v := (v1 + 1)) hC dr_PS_crossings_60 rfl (by decide) rfl ?_
          refine gx_iinc (v := (v3 + 1)) hC dr_PS_crossings_63 rfl (by decide) rfl ?_
          refine gx_goto (tgt := 19) hC dr_PS_crossings_66 (by decide) ?_
          exact gx_lv [(0, gv_R 0), (1, gv_I (v1 + 1)), (2, gv_I v2), (3, gv_I (v3 + 1))] ⟨rfl, rfl, rfl, rfl, trivial⟩ (ih _ _ _ h)
set_option maxHeartbeats 4000000 in
set_option maxRecDepth 100000 in
theorem gl_PS_crossings_4 {x : gx_X} {G : gq_M × (Int → Int64)} {M : gq_M} {r : Int32} (hC : gw_C 81 0 yn_PS_crossings.cls bc_PS_crossings 4 x) (hR : gr_I 81 bc_PS_crossings 4 .int ({ frames := 3, cells := 0, slots := 0, locals := 79 } : Room) x (fun z c2 => z = r ∧ c2 = ca_A (M, G))) : ∀ (k : Nat) (v1 : Int32) (v2 : Int32), fl_PS_crossings_4 M k v1 v2 = some r → gw_G 81 4 ({ frames := 3, cells := 0, slots := 0, locals := 79 } : Room) x 0 0 (ca_A (M, G)) 4 [(0, gv_R 0), (1, gv_I v1), (2, gv_I v2)] [] := by
  intro k
  induction k with
  | zero =>
    intro v1 v2 h
    cases h
  | succ k ih =>
    intro v1 v2 h
    rw [fl_PS_crossings_4] at h
    refine gx_iload_n hC dr_PS_crossings_4 rfl ?_
    refine gx_aload_n hC dr_PS_crossings_5 rfl ?_
    refine gx_get hC dr_PS_crossings_6 lf_PS_10 (by decide) rfl rfl ?_
    refine gx_get hC dr_PS_crossings_9 lf_PS_68 (by decide) rfl rfl ?_
    refine gx_icmp_ge (tgt := 75) hC dr_PS_crossings_12 (by decide) (fun hc1 => ?_) (fun hc1 => ?_)
    · rw [if_pos (show (gq_f M 1) ≤ v2 from hc1)] at h
      refine gx_iload_n hC dr_PS_crossings_75 rfl ?_
      obtain rfl := Option.some.inj h
      exact hR (by decide) (by decide) dr_PS_crossings_76 rfl ⟨rfl, rfl⟩
    · rw [if_neg (show ¬ ((gq_f M 1) ≤ v2) from hc1)] at h
      refine gx_iload_n hC dr_PS_crossings_15 rfl ?_
      refine gx_iconst (v := 1) hC dr_PS_crossings_16 (by decide) ?_
      refine gx_iadd hC dr_PS_crossings_17 ?_
      refine gx_istore_n hC dr_PS_crossings_18 (by decide) ?_
      exact gx_lv [(0, gv_R 0), (1, gv_I v1), (2, gv_I v2), (3, gv_I (v2 + 1))] ⟨rfl, rfl, rfl, rfl, trivial⟩ (gl_PS_crossings_19 hC hR (fun _ _ h => ih _ _ h) 5000 _ _ _ h)
set_option maxHeartbeats 4000000 in
set_option maxRecDepth 100000 in
theorem mt_PS_crossings {l : Launch} {D : va_G} {ad : Nat → Nat} {ck : Nat → ClassId} {G : gq_M × (Int → Int64)}  {M : gq_M} {r : Int32} (h : fn_PS_crossings  M = some r) : gm_I 81 0 l D ad ck yn_PS_crossings bc_PS_crossings 4 .int ({ frames := 3, cells := 0, slots := 0, locals := 79 } : Room) [gv_R 0] (ca_A (M, G)) (fun z c2 => z = r ∧ c2 = ca_A (M, G)) := by
  refine gm_I.of (by decide) (Nat.le_of_ble_eq_true rfl) (fun x hC hR => ?_)
  unfold fn_PS_crossings at h
  refine gx_iconst (v := 0) hC dr_PS_crossings_0 (by decide) ?_
  refine gx_istore_n hC dr_PS_crossings_1 (by decide) ?_
  refine gx_iconst (v := 0) hC dr_PS_crossings_2 (by decide) ?_
  refine gx_istore_n hC dr_PS_crossings_3 (by decide) ?_
  exact gx_lv [(0, gv_R 0), (1, gv_I 0), (2, gv_I 0)] ⟨rfl, rfl, rfl, trivial⟩ (gl_PS_crossings_4 hC hR 5000 _ _ h)
