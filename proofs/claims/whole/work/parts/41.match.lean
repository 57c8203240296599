def fn_Ma_add (p0 : Int32) (M : gq_M) : Option gq_M := if 12 ≤ (gq_f M 2) then some M else if 0 ≤ ((gq_f M 2) + 1).toInt ∧ ((gq_f M 2) + 1).toInt < ((13 : Nat) : Int) then some (gs_i (gs_f M 2 ((gq_f M 2) + 1)) 10 (gz_u (gq_i M 10) ((gq_f M 2) + 1).toInt p0)) else none
set_option maxHeartbeats 4000000 in
set_option maxRecDepth 100000 in
theorem mt_Ma_add {l : Launch} {D : va_G} {ad : Nat → Nat} {ck : Nat → ClassId} {G : gq_M × (Int → Int64)} {p0 : Int32} {M : gq_M} {r : gq_M} (h : fn_Ma_add p0 M = some r) : gm_V 81 81 l D ad ck yn_Ma_add bc_Ma_add 2 ({ frames := 0, cells := 0, slots := 0, locals := 0 } : Room) [gv_R 3, gv_I p0] (ca_A (M, G)) (fun c2 => c2 = ca_A (r, G)) := by
  refine gm_V.of (by decide) (Nat.le_of_ble_eq_true rfl) (fun x hC hR => ?_)
  unfold fn_Ma_add at h
  refine gx_aload_n hC dr_Ma_add_0 rfl ?_
  refine gx_get hC dr_Ma_add_1 lf_Ma_43 (by decide) rfl rfl ?_
  refine gx_bipush (v := 12) hC dr_Ma_add_4 (by decide) ?_
  refine gx_icmp_ge (tgt := 29) hC dr_Ma_add_6 (by decide) (fun hc1 => ?_) (fun hc1 => ?_)
  · rw [if_pos (show 12 ≤ (gq_f M 2) from hc1)] at h
    obtain rfl := Option.some.inj h
    exact hR (by decide) (by decide) dr_Ma_add_29 rfl
  · rw [if_neg (show ¬ (12 ≤ (gq_f M 2)) from hc1)] at h
    refine gx_aload_n hC dr_Ma_add_9 rfl ?_
    refine gx_dup hC dr_Ma_add_10 rfl ?_
    refine gx_get hC dr_Ma_add_11 lf_Ma_43 (by decide) rfl rfl ?_
    refine gx_iconst (v := 1) hC dr_Ma_add_14 (by decide) ?_
    refine gx_iadd hC dr_Ma_add_15 ?_
    refine gx_put hC (by decide) dr_Ma_add_16 lf_Ma_43 lp_Ma_size (by decide) rfl (Nat.le_of_ble_eq_true rfl) (fun _ => rfl) (fun _ => rfl) ca_F2 ?_
    refine gx_aload_n hC dr_Ma_add_19 rfl ?_
    refine gx_get hC dr_Ma_add_20 lf_Ma_11 (by decide) rfl rfl ?_
    refine gx_aload_n hC dr_Ma_add_23 rfl ?_
    refine gx_get hC dr_Ma_add_24 lf_Ma_43 (by decide) rfl rfl ?_
    refine gx_iload_n hC dr_Ma_add_27 rfl ?_
    obtain ⟨hz2, h⟩ := gk_of h
    refine gx_iast (f := (gq_i M 10)) hC (by decide) dr_Ma_add_28 (by decide) rfl hz2 (ca_I 10 (by decide)) ?_
    obtain rfl := Option.some.inj h
    exact hR (by decide) (by decide) dr_Ma_add_29 rfl
def fl_Ma_rowOfUnit_2 (M : gq_M) : Nat → Int32 → Int32 → Option Int32
  | 0, _, _ => none
  | k + 1, v1, v2 => if (gq_f M 2) < v2 then some 0 else if 0 ≤ v2.toInt ∧ v2.toInt < ((13 : Nat) : Int) then if ((gq_i M 10) v2.toInt) = v1 then some v2 else fl_Ma_rowOfUnit_2 M k v1 (v2 + 1) else none
def fn_Ma_rowOfUnit (p0 : Int32) (M : gq_M) : Option Int32 := fl_Ma_rowOfUnit_2 M 5000 p0 1
set_option maxHeartbeats 4000000 in
set_option maxRecDepth 100000 in
theorem gl_Ma_rowOfUnit_2 {x : gx_X} {G : gq_M × (Int → Int64)} {M : gq_M} {r : Int32} (hC : gw_C 81 0 yn_Ma_rowOfUnit.cls bc_Ma_rowOfUnit 3 x) (hR : gr_I 81 bc_Ma_rowOfUnit 3 .int ({ frames := 0, cells := 0, slots := 0, locals := 0 } : Room) x (fun z c2 => z = r ∧ c2 = ca_A (M, G))) : ∀ (k : Nat) (v1 : Int32) (v2 : Int32), fl_Ma_rowOfUnit_2 M k v1 v2 = some r → gw_G 81 3 ({ frames := 0, cells := 0, slots := 0, locals := 0 } : Room) x 0 0 (ca_A (M, G)) 2 [(0, gv_R 3), (1, gv_I v1), (2, gv_I v2)] [] := by
  intro k
  induction k with
  | zero =>
    intro v1 v2 h
    cases h
  | succ k ih =>
    intro v1 v2 h
    rw [fl_Ma_rowOfUnit_2] at h
    refine gx_iload_n hC dr_Ma_rowOfUnit_2 rfl ?_
    refine gx_aload_n hC dr_Ma_rowOfUnit_3 rfl ?_
    refine gx_get hC dr_Ma_rowOfUnit_4 lf_Ma_43 (by decide) rfl rfl ?_
    refine gx_icmp_gt (tgt := 28) hC dr_Ma_rowOfUnit_7 (by decide) (fun hc1 => ?_) (fun hc1 => ?_)
    · rw [if_pos (show (gq_f M 2) < v2 from hc1)] at h
      refine gx_iconst (v := 0) hC dr_Ma_rowOfUnit_28 (by decide) ?_
      obtain rfl := Option.some.inj h
      exact hR (by decide) (by decide) dr_Ma_rowOfUnit_29 rfl ⟨rfl, rfl⟩
    · rw [if_neg (show ¬ ((gq_f M 2) < v2) from hc1)] at h
      refine gx_aload_n hC dr_Ma_rowOfUnit_10 rfl ?_
      refine gx_get hC dr_Ma_rowOfUnit_11 lf_Ma_11 (by decide) rfl rfl ?_
      refine gx_iload_n hC dr_Ma_rowOfUnit_14 rfl ?_
      obtain ⟨hz2, h⟩ := gk_of h
      refine gx_iald (f := (gq_i M 10)) hC dr_Ma_rowOfUnit_15 (by decide) rfl hz2 ?_
      refine gx_iload_n hC dr_Ma_rowOfUnit_16 rfl ?_
      refine gx_icmp_ne (tgt := 22) hC dr_Ma_rowOfUnit_17 (by decide) (fun hc3 => ?_) (fun hc3 => ?_)
      · rw [if_neg (show ¬ (((gq_i M 10) v2.toInt) = v1) from hc3)] at h
        refine gx_iinc (v := (v2 + 1)) hC dr_Ma_rowOfUnit_22 rfl (by decide) rfl ?_
        refine gx_goto (tgt := 2) hC dr_Ma_rowOfUnit_25 (by decide) ?_
        exact gx_lv [(0, gv_R 3), (1, gv_I v1), (2, gv_I (v2 + 1))] ⟨rfl, rfl, rfl, trivial⟩ (ih _ _ h)
      · rw [if_pos (show ((gq_i M 10) v2.toInt) = v1 from hc3)] at h
        refine gx_iload_n hC dr_Ma_rowOfUnit_20 rfl ?_
        obtain rfl := Option.some.inj h
        exact hR (by decide) (by decide) dr_Ma_rowOfUnit_21 rfl ⟨rfl, rfl⟩
set_option maxHeartbeats 4000000 in
set_option maxRecDepth 100000 in
theorem mt_Ma_rowOfUnit {l : Launch} {D : va_G} {ad : Nat → Nat} {ck : Nat → ClassId} {G : gq_M × (Int → Int64)} {p0 : Int32} {M : gq_M} {r : Int32} (h : fn_Ma_rowOfUnit p0 M = some r) : gm_I 81 0 l D ad ck yn_Ma_rowOfUnit bc_Ma_rowOfUnit 3 .int ({ frames := 0, cells := 0, slots := 0, locals := 0 } : Room) [gv_R 3, gv_I p0] (ca_A (M, G)) (fun z c2 => z = r ∧ c2 = ca_A (M, G)) := by
  refine gm_I.of (by decide) (Nat.le_of_ble_eq_true rfl) (fun x hC hR => ?_)
  unfold fn_Ma_rowOfUnit at h
  refine gx_iconst (v := 1) hC dr_Ma_rowOfUnit_0 (by decide) ?_
  refine gx_istore_n hC dr_Ma_rowOfUnit_1 (by decide) ?_
  exact gx_lv [(0, gv_R 3), (1, gv_I p0), (2, gv_I 1)] ⟨rfl, rfl, rfl, trivial⟩ (gl_Ma_rowOfUnit_2 hC hR 5000 _ _ h)
def fn_Ma_forbidOwn (p0 : Int32) (M : gq_M) : Option gq_M := (fn_Ma_rowOfUnit p0 M).bind fun q1 => if 0 ≤ q1.toInt ∧ q1.toInt < ((13 : Nat) : Int) then some (gs_l M (7 + (q1.toInt.toNat)) (gz_ul (gq_l M (7 + (q1.toInt.toNat))) q1.toInt 1000000000000)) else none
set_option maxHeartbeats 4000000 in
set_option maxRecDepth 100000 in
theorem mt_Ma_forbidOwn {l : Launch} {D : va_G} {ad : Nat → Nat} {ck : Nat → ClassId} {G : gq_M × (Int → Int64)} {p0 : Int32} {M : gq_M} {r : gq_M} (h : fn_Ma_forbidOwn p0 M = some r) : gm_V 81 81 l D ad ck yn_Ma_forbidOwn bc_Ma_forbidOwn 3 ({ frames := 1, cells := 0, slots := 0, locals := 22 } : Room) [gv_R 3, gv_I p0] (ca_A (M, G)) (fun c2 => c2 = ca_A (r, G)) := by
  refine gm_V.of (by decide) (Nat.le_of_ble_eq_true rfl) (fun x hC hR => ?_)
  unfold fn_Ma_forbidOwn at h
  refine gx_aload_n hC dr_Ma_forbidOwn_0 rfl ?_
  refine gx_iload_n hC dr_Ma_forbidOwn_1 rfl ?_
  obtain ⟨q1, e2, h⟩ := gb_of h
  refine gx_vI hC dr_Ma_forbidOwn_2 lk_Ma_47 (mt_Ma_rowOfUnit e2) rfl (by decide) ⟨by decide, by decide⟩ ⟨by decide, by decide⟩ (by decide) ⟨_, _, rfl⟩ rfl rfl (Nat.le_of_ble_eq_true rfl) (fun z c2 hp => ?_)
  obtain ⟨hp1, rfl⟩ := hp; obtain rfl := hp1.symm
  refine gx_istore_n hC dr_Ma_forbidOwn_5 (by decide) ?_
  refine gx_aload_n hC dr_Ma_forbidOwn_6 rfl ?_
  refine gx_get hC dr_Ma_forbidOwn_7 lf_Ma_17 (by decide) rfl rfl ?_
  refine gx_iload_n hC dr_Ma_forbidOwn_10 rfl ?_
  obtain ⟨hz3, h⟩ := gk_of h
  have hr4 : q1.toInt.toNat < 13 := by omega
  refine gx_aald (r := 42 + (q1.toInt.toNat)) hC dr_Ma_forbidOwn_11 (by decide) (Or.inl rfl) rfl hz3 rfl ?_
  refine gx_iload_n hC dr_Ma_forbidOwn_12 rfl ?_
  refine gx_ldc2 (v := 1000000000000) hC dr_Ma_forbidOwn_13 lc_Ma_51 ?_
  refine gx_last (f := (gq_l M (7 + (q1.toInt.toNat)))) hC (by decide) dr_Ma_forbidOwn_16 (by omega) (ca_cost hr4) hz3 (ca_costU hr4) ?_
  obtain rfl := Option.some.inj h
  exact hR (by decide) (by decide) dr_Ma_forbidOwn_17 rfl
def fl_Ma_forbidOthers_8 : Nat → Int32 → Int32 → gq_M → Option gq_M
  | 0, _, _, _ => none
  | k + 1, v2, v3, M => if (gq_f M 2) < v3 then some M else if v3 = v2 then fl_Ma_forbidOthers_8 k v2 (v3 + 1) M else if 0 ≤ v2.toInt ∧ v2.toInt < ((13 : Nat) : Int) then if 0 ≤ v3.toInt ∧ v3.toInt < ((13 : Nat) : Int) then fl_Ma_forbidOthers_8 k v2 (v3 + 1) (gs_l M (7 + (v2.toInt.toNat)) (gz_ul (gq_l M (7 + (v2.toInt.toNat))) v3.toInt 1000000000000)) else none else none
def fn_Ma_forbidOthers (p0 : Int32) (M : gq_M) : Option gq_M := (fn_Ma_rowOfUnit p0 M).bind fun q1 => fl_Ma_forbidOthers_8 5000 q1 1 M
set_option maxHeartbeats 4000000 in
set_option maxRecDepth 100000 in
theorem gl_Ma_forbidOthers_8 {x : gx_X} {G : gq_M × (Int → Int64)} {r : gq_M} (hC : gw_C 81 81 yn_Ma_forbidOthers.cls bc_Ma_forbidOthers 4 x) (hR : gr_V 81 bc_Ma_forbidOthers 4 ({ frames := 1, cells := 0, slots := 0, locals := 22 } : Room) x (fun c2 => c2 = ca_A (r, G))) : ∀ (k : Nat) (v2 : Int32) (v3 : Int32) (M : gq_M), fl_Ma_forbidOthers_8 k v2 v3 M = some r → gw_G 81 4 ({ frames := 1, cells := 0, slots := 0, locals := 22 } : Room) x 0 0 (ca_A (M, G)) 8 [(0, gv_R 3), (2, gv_I v2), (3, gv_I v3)] [] := by
  intro k
  induction k with
  | zero =>
    intro v2 v3 M h
    cases h
  | succ k ih =>
    intro v2 v3 M h
    rw [fl_Ma_forbidOthers_8] at h
    refine gx_iload_n hC dr_Ma_forbidOthers_8 rfl ?_
    refine gx_aload_n hC dr_Ma_forbidOthers_9 rfl ?_
    refine gx_get hC dr_Ma_forbidOthers_10 lf_Ma_43 (by decide) rfl rfl ?_
    refine gx_icmp_gt (tgt := 38) hC dr_Ma_forbidOthers_13 (by decide) (fun hc3 => ?_) (fun hc3 => ?_)
    · rw [if_pos (show (gq_f M 2) < v3 from hc3)] at h
      obtain rfl := Option.some.inj h
      exact hR (by decide) (by decide) dr_Ma_forbidOthers_38 rfl
    · rw [if_neg (show ¬ ((gq_f M 2) < v3) from hc3)] at h
      refine gx_iload_n hC dr_Ma_forbidOthers_16 rfl ?_
      refine gx_iload_n hC dr_Ma_forbidOthers_17 rfl ?_
      refine gx_icmp_eq (tgt := 32) hC dr_Ma_forbidOthers_18 (by decide) (fun hc4 => ?_) (fun hc4 => ?_)
      · rw [if_pos (show v3 = v2 from hc4)] at h
        refine gx_iinc (v := (v3 + 1)) hC dr_Ma_forbidOthers_32 rfl (by decide) rfl ?_
        refine gx_goto (tgt := 8) hC dr_Ma_forbidOthers_35 (by decide) ?_
        exact gx_lv [(0, gv_R 3), (2, gv_I v2), (3, gv_I (v3 + 1))] ⟨rfl, rfl, rfl, trivial⟩ (ih _ _ _ h)
      · rw [if_neg (show ¬ (v3 = v2) from hc4)] at h
        refine gx_aload_n hC dr_Ma_forbidOthers_21 rfl ?_
        refine gx_get hC dr_Ma_forbidOthers_22 lf_Ma_17 (by decide) rfl rfl ?_
        refine gx_iload_n hC dr_Ma_forbidOthers_25 rfl ?_
        obtain ⟨hz5, h⟩ := gk_of h
        have hr6 : v2.toInt.toNat < 13 := by omega
        refine gx_aald (r := 42 + (v2.toInt.toNat)) hC dr_Ma_forbidOthers_26 (by decide) (Or.inl rfl) rfl hz5 rfl ?_
        refine gx_iload_n hC dr_Ma_forbidOthers_27 rfl ?_
        refine gx_ldc2 (v := 1000000000000) hC dr_Ma_forbidOthers_28 lc_Ma_51 ?_
        obtain ⟨hz7, h⟩ := gk_of h
        refine gx_last (f := (gq_l M (7 + (v2.toInt.toNat)))) hC (by decide) dr_Ma_forbidOthers_31 (by omega) (ca_cost hr6) hz7 (ca_costU hr6) ?_
        refine gx_iinc (v := (v3 + 1)) hC dr_Ma_forbidOthers_32 rfl (by decide) rfl ?_
        refine gx_goto (tgt := 8) hC dr_Ma_forbidOthers_35 (by decide) ?_
        exact gx_lv [(0, gv_R 3), (2, gv_I v2), (3, gv_I (v3 + 1))] ⟨rfl, rfl, rfl, trivial⟩ (ih _ _ _ h)
set_option maxHeartbeats 4000000 in
set_option maxRecDepth 100000 in
theorem mt_Ma_forbidOthers {l : Launch} {D : va_G} {ad : Nat → Nat} {ck : Nat → ClassId} {G : gq_M × (Int → Int64)} {p0 : Int32} {M : gq_M} {r : gq_M} (h : fn_Ma_forbidOthers p0 M = some r) : gm_V 81 81 l D ad ck yn_Ma_forbidOthers bc_Ma_forbidOthers 4 ({ frames := 1, cells := 0, slots := 0, locals := 22 } : Room) [gv_R 3, gv_I p0] (ca_A (M, G)) (fun c2 => c2 = ca_A (r, G)) := by
  refine gm_V.of (by decide) (Nat.le_of_ble_eq_true rfl) (fun x hC hR => ?_)
  unfold fn_Ma_forbidOthers at h
  refine gx_aload_n hC dr_Ma_forbidOthers_0 rfl ?_
  refine gx_iload_n hC dr_Ma_forbidOthers_1 rfl ?_
  obtain ⟨q1, e2, h⟩ := gb_of h
  refine gx_vI hC dr_Ma_forbidOthers_2 lk_Ma_47 (mt_Ma_rowOfUnit e2) rfl (by decide) ⟨by decide, by decide⟩ ⟨by decide, by decide⟩ (by decide) ⟨_, _, rfl⟩ rfl rfl (Nat.le_of_ble_eq_true rfl) (fun z c2 hp => ?_)
  obtain ⟨hp1, rfl⟩ := hp; obtain rfl := hp1.symm
  refine gx_istore_n hC dr_Ma_forbidOthers_5 (by decide) ?_
  refine gx_iconst (v := 1) hC dr_Ma_forbidOthers_6 (by decide) ?_
  refine gx_istore_n hC dr_Ma_forbidOthers_7 (by decide) ?_
  exact gx_lv [(0, gv_R 3), (2, gv_I q1), (3, gv_I 1)] ⟨rfl, rfl, rfl, trivial⟩ (gl_Ma_forbidOthers_8 hC hR 5000 _ _ _ h)
def fl_Ma_sumIfKept_4 (M : gq_M) : Nat → Int64 → Int32 → Option Int64
  | 0, _, _ => none
  | k + 1, v1, v3 => if (gq_f M 2) < v3 then some v1 else if 0 ≤ v3.toInt ∧ v3.toInt < ((13 : Nat) : Int) then fl_Ma_sumIfKept_4 M k (v1 + ((gq_l M (7 + (v3.toInt.toNat))) v3.toInt)) (v3 + 1) else none
def fn_Ma_sumIfKept  (M : gq_M) : Option Int64 := fl_Ma_sumIfKept_4 M 5000 (Int64.ofNat (0 : Fin 2).val) 1
set_option maxHeartbeats 4000000 in
set_option maxRecDepth 100000 in
theorem gl_Ma_sumIfKept_4 {x : gx_X} {G : gq_M × (Int → Int64)} {M : gq_M} {r : Int64} (hC : gw_C 81 0 yn_Ma_sumIfKept.cls bc_Ma_sumIfKept 4 x) (hR : gr_J 81 bc_Ma_sumIfKept 4 ({ frames := 0, cells := 0, slots := 0, locals := 0 } : Room) x (fun z c2 => z = r ∧ c2 = ca_A (M, G))) : ∀ (k : Nat) (v1 : Int64) (v3 : Int32), fl_Ma_sumIfKept_4 M k v1 v3 = some r → gw_G 81 4 ({ frames := 0, cells := 0, slots := 0, locals := 0 } : Room) x 0 0 (ca_A (M, G)) 4 [(0, gv_R 3), (1, gv_L v1), (3, gv_I v3)] [] := by
  intro k
  induction k with
  | zero =>
    intro v1 v3 h
    cases h
  | succ k ih =>
    intro v1 v3 h
    rw [fl_Ma_sumIfKept_4] at h
    refine gx_iload_n hC dr_Ma_sumIfKept_4 rfl ?_
    refine gx_aload_n hC dr_Ma_sumIfKept_5 rfl ?_
    refine gx_get hC dr_Ma_sumIfKept_6 lf_Ma_43 (by decide) rfl rfl ?_
    refine gx_icmp_gt (tgt := 29) hC dr_Ma_sumIfKept_9 (by decide) (fun hc1 => ?_) (fun hc1 => ?_)
    · rw [if_pos (show (gq_f M 2) < v3 from hc1)] at h
      refine gx_lload_n hC dr_Ma_sumIfKept_29 rfl ?_
      obtain rfl := Option.some.inj h
      exact hR (by decide) (by decide) dr_Ma_sumIfKept_30 ⟨rfl, rfl⟩
    · rw [if_neg (show ¬ ((gq_f M 2) < v3) from hc1)] at h
      refine gx_lload_n hC dr_Ma_sumIfKept_12 rfl ?_
      refine gx_aload_n hC dr_Ma_sumIfKept_13 rfl ?_
      refine gx_get hC dr_Ma_sumIfKept_14 lf_Ma_17 (by decide) rfl rfl ?_
      refine gx_iload_n hC dr_Ma_sumIfKept_17 rfl ?_
      obtain ⟨hz2, h⟩ := gk_of h
      have hr3 : v3.toInt.toNat < 13 := by omega
      refine gx_aald (r := 42 + (v3.toInt.toNat)) hC dr_Ma_sumIfKept_18 (by decide) (Or.inl rfl) rfl hz2 rfl ?_
      refine gx_iload_n hC dr_Ma_sumIfKept_19 rfl ?_
      refine gx_lald (f := (gq_l M (7 + (v3.toInt.toNat)))) hC dr_Ma_sumIfKept_20 (by omega) (ca_cost hr3) hz2 ?_
      refine gx_ladd hC dr_Ma_sumIfKept_21 ?_
      refine gx_lstore_n hC dr_Ma_sumIfKept_22 (by decide) ?_
      refine gx_iinc (v := (v3 + 1)) hC dr_Ma_sumIfKept_23 rfl (by decide) rfl ?_
      refine gx_goto (tgt := 4) hC dr_Ma_sumIfKept_26 (by decide) ?_
      exact gx_lv [(0, gv_R 3), (1, gv_L (v1 + ((gq_l M (7 + (v3.toInt.toNat))) v3.toInt))), (3, gv_I (v3 + 1))] ⟨rfl, rfl, rfl, trivial⟩ (ih _ _ h)
set_option maxHeartbeats 4000000 in
set_option maxRecDepth 100000 in
theorem mt_Ma_sumIfKept {l : Launch} {D : va_G} {ad : Nat → Nat} {ck : Nat → ClassId} {G : gq_M × (Int → Int64)}  {M : gq_M} {r : Int64} (h : fn_Ma_sumIfKept  M = some r) : gm_J 81 0 l D ad ck yn_Ma_sumIfKept bc_Ma_sumIfKept 4 ({ frames := 0, cells := 0, slots := 0, locals := 0 } : Room) [gv_R 3] (ca_A (M, G)) (fun z c2 => z = r ∧ c2 = ca_A (M, G)) := by
  refine gm_J.of (by decide) (Nat.le_of_ble_eq_true rfl) (fun x hC hR => ?_)
  unfold fn_Ma_sumIfKept at h
  refine gx_lconst hC dr_Ma_sumIfKept_0 ?_
  refine gx_lstore_n hC dr_Ma_sumIfKept_1 (by decide) ?_
  refine gx_iconst (v := 1) hC dr_Ma_sumIfKept_2 (by decide) ?_
  refine gx_istore_n hC dr_Ma_sumIfKept_3 (by decide) ?_
  exact gx_lv [(0, gv_R 3), (1, gv_L (Int64.ofNat (0 : Fin 2).val)), (3, gv_I 1)] ⟨rfl, rfl, rfl, trivial⟩ (gl_Ma_sumIfKept_4 hC hR 5000 _ _ h)
def fl_Ma_forgetSeen_2 : Nat → Int32 → gq_M → Option gq_M
  | 0, _, _ => none
  | k + 1, v1, M => if (gq_f M 2) < v1 then some M else if 0 ≤ v1.toInt ∧ v1.toInt < ((13 : Nat) : Int) then fl_Ma_forgetSeen_2 k (v1 + 1) (gs_i M 13 (gz_u (gq_i M 13) v1.toInt 0)) else none
def fn_Ma_forgetSeen  (M : gq_M) : Option gq_M := fl_Ma_forgetSeen_2 5000 0 M
set_option maxHeartbeats 4000000 in
set_option maxRecDepth 100000 in
theorem gl_Ma_forgetSeen_2 {x : gx_X} {G : gq_M × (Int → Int64)} {r : gq_M} (hC : gw_C 81 81 yn_Ma_forgetSeen.cls bc_Ma_forgetSeen 2 x) (hR : gr_V 81 bc_Ma_forgetSeen 2 ({ frames := 0, cells := 0, slots := 0, locals := 0 } : Room) x (fun c2 => c2 = ca_A (r, G))) : ∀ (k : Nat) (v1 : Int32) (M : gq_M), fl_Ma_forgetSeen_2 k v1 M = some r → gw_G 81 2 ({ frames := 0, cells := 0, slots := 0, locals := 0 } : Room) x 0 0 (ca_A (M, G)) 2 [(0, gv_R 3), (1, gv_I v1)] [] := by
  intro k
  induction k with
  | zero =>
    intro v1 M h
    cases h
  | succ k ih =>
    intro v1 M h
    rw [fl_Ma_forgetSeen_2] at h
    refine gx_iload_n hC dr_Ma_forgetSeen_2 rfl ?_
    refine gx_aload_n hC dr_Ma_forgetSeen_3 rfl ?_
    refine gx_get hC dr_Ma_forgetSeen_4 lf_Ma_43 (by decide) rfl rfl ?_
    refine gx_icmp_gt (tgt := 23) hC dr_Ma_forgetSeen_7 (by decide) (fun hc1 => ?_) (fun hc1 => ?_)
    · rw [if_pos (show (gq_f M 2) < v1 from hc1)] at h
      obtain rfl := Option.some.inj h
      exact hR (by decide) (by decide) dr_Ma_forgetSeen_23 rfl
    · rw [if_neg (show ¬ ((gq_f M 2) < v1) from hc1)] at h
      refine gx_aload_n hC dr_Ma_forgetSeen_10 rfl ?_
      refine gx_get hC dr_Ma_forgetSeen_11 lf_Ma_36 (by decide) rfl rfl ?_
      refine gx_iload_n hC dr_Ma_forgetSeen_14 rfl ?_
      refine gx_iconst (v := 0) hC dr_Ma_forgetSeen_15 (by decide) ?_
      obtain ⟨hz2, h⟩ := gk_of h
      refine gx_zast (f := (gq_i M 13)) hC (by decide) dr_Ma_forgetSeen_16 (by decide) rfl hz2 (ca_I 13 (by decide)) ?_
      refine gx_iinc (v := (v1 + 1)) hC dr_Ma_forgetSeen_17 rfl (by decide) rfl ?_
      refine gx_goto (tgt := 2) hC dr_Ma_forgetSeen_20 (by decide) ?_
      exact gx_lv [(0, gv_R 3), (1, gv_I (v1 + 1))] ⟨rfl, rfl, trivial⟩ (ih _ _ h)
set_option maxHeartbeats 4000000 in
set_option maxRecDepth 100000 in
theorem mt_Ma_forgetSeen {l : Launch} {D : va_G} {ad : Nat → Nat} {ck : Nat → ClassId} {G : gq_M × (Int → Int64)}  {M : gq_M} {r : gq_M} (h : fn_Ma_forgetSeen  M = some r) : gm_V 81 81 l D ad ck yn_Ma_forgetSeen bc_Ma_forgetSeen 2 ({ frames := 0, cells := 0, slots := 0, locals := 0 } : Room) [gv_R 3] (ca_A (M, G)) (fun c2 => c2 = ca_A (r, G)) := by
  refine gm_V.of (by decide) (Nat.le_of_ble_eq_true rfl) (fun x hC hR => ?_)
  unfold fn_Ma_forgetSeen at h
  refine gx_iconst (v := 0) hC dr_Ma_forgetSeen_0 (by decide) ?_
  refine gx_istore_n hC dr_Ma_forgetSeen_1 (by decide) ?_
  exact gx_lv [(0, gv_R 3), (1, gv_I 0)] ⟨rfl, rfl, trivial⟩ (gl_Ma_forgetSeen_2 hC hR 5000 _ _ h)
def fn_Ma_extraCost (p0 : Int32) (p1 : Int32) (M : gq_M) : Option Int64 := if 0 ≤ p0.toInt ∧ p0.toInt < ((13 : Nat) : Int) then if 0 ≤ p1.toInt ∧ p1.toInt < ((13 : Nat) : Int) then some ((((gq_l M (7 + (p0.toInt.toNat))) p1.toInt) - ((gq_l M 4) p0.toInt)) - ((gq_l M 5) p1.toInt)) else none else none
set_option maxHeartbeats 4000000 in
set_option maxRecDepth 100000 in
theorem mt_Ma_extraCost {l : Launch} {D : va_G} {ad : Nat → Nat} {ck : Nat → ClassId} {G : gq_M × (Int → Int64)} {p0 : Int32} {p1 : Int32} {M : gq_M} {r : Int64} (h : fn_Ma_extraCost p0 p1 M = some r) : gm_J 81 0 l D ad ck yn_Ma_extraCost bc_Ma_extraCost 3 ({ frames := 0, cells := 0, slots := 0, locals := 0 } : Room) [gv_R 3, gv_I p0, gv_I p1] (ca_A (M, G)) (fun z c2 => z = r ∧ c2 = ca_A (M, G)) := by
  refine gm_J.of (by decide) (Nat.le_of_ble_eq_true rfl) (fun x hC hR => ?_)
  unfold fn_Ma_extraCost at h
  refine gx_aload_n hC dr_Ma_extraCost_0 rfl ?_
  refine gx_get hC dr_Ma_extraCost_1 lf_Ma_17 (by decide) rfl rfl ?_
  refine gx_iload_n hC dr_Ma_extraCost_4 rfl ?_
  obtain ⟨hz1, h⟩ := gk_of h
  have hr2 : p0.toInt.toNat < 13 := by omega
  refine gx_aald (r := 42 + (p0.toInt.toNat)) hC dr_Ma_extraCost_5 (by decide) (Or.inl rfl) rfl hz1 rfl ?_
  refine gx_iload_n hC dr_Ma_extraCost_6 rfl ?_
  obtain ⟨hz3, h⟩ := gk_of h
  refine gx_lald (f := (gq_l M (7 + (p0.toInt.toNat)))) hC dr_Ma_extraCost_7 (by omega) (ca_cost hr2) hz3 ?_
  refine gx_aload_n hC dr_Ma_extraCost_8 rfl ?_
  refine gx_get hC dr_Ma_extraCost_9 lf_Ma_20 (by decide) rfl rfl ?_
  refine gx_iload_n hC dr_Ma_extraCost_12 rfl ?_
  refine gx_lald (f := (gq_l M 4)) hC dr_Ma_extraCost_13 (by decide) rfl hz1 ?_
  refine gx_lsub hC dr_Ma_extraCost_14 ?_
  refine gx_aload_n hC dr_Ma_extraCost_15 rfl ?_
  refine gx_get hC dr_Ma_extraCost_16 lf_Ma_24 (by decide) rfl rfl ?_
  refine gx_iload_n hC dr_Ma_extraCost_19 rfl ?_
  refine gx_lald (f := (gq_l M 5)) hC dr_Ma_extraCost_20 (by decide) rfl hz3 ?_
  refine gx_lsub hC dr_Ma_extraCost_21 ?_
  obtain rfl := Option.some.inj h
  exact hR (by decide) (by decide) dr_Ma_extraCost_22 ⟨rfl, rfl⟩
def fl_Ma_changePrices_2 : Nat → Int64 → Int32 → gq_M → Option gq_M
  | 0, _, _, _ => none
  | k + 1, v1, v3, M => if (gq_f M 2) < v3 then some M else if 0 ≤ v3.toInt ∧ v3.toInt < ((13 : Nat) : Int) then if ((gq_i M 13) v3.toInt) = 0 then fl_Ma_changePrices_2 k v1 (v3 + 1) (gs_l M 6 (gz_ul (gq_l M 6) v3.toInt (((gq_l M 6) v3.toInt) - v1))) else if 0 ≤ ((gq_i M 11) v3.toInt).toInt ∧ ((gq_i M 11) v3.toInt).toInt < ((13 : Nat) : Int) then fl_Ma_changePrices_2 k v1 (v3 + 1) (gs_l (gs_l M 4 (gz_ul (gq_l M 4) ((gq_i M 11) v3.toInt).toInt (((gq_l M 4) ((gq_i M 11) v3.toInt).toInt) + v1))) 5 (gz_ul (gq_l M 5) v3.toInt (((gq_l M 5) v3.toInt) - v1))) else none else none
def fn_Ma_changePrices (p0 : Int64) (M : gq_M) : Option gq_M := fl_Ma_changePrices_2 5000 p0 0 M
set_option maxHeartbeats 4000000 in
set_option maxRecDepth 100000 in
theorem gl_Ma_changePrices_2 {x : gx_X} {G : gq_M × (Int → Int64)} {r : gq_M} (hC : gw_C 81 81 yn_Ma_changePrices.cls bc_Ma_changePrices 4 x) (hR : gr_V 81 bc_Ma_changePrices 4 ({ frames := 0, cells := 0, slots := 0, locals := 0 } : Room) x (fun c2 => c2 = ca_A (r, G))) : ∀ (k : Nat) (v1 : Int64) (v3 : Int32) (M : gq_M), fl_Ma_changePrices_2 k v1 v3 M = some r → gw_G 81 4 ({ frames := 0, cells := 0, slots := 0, locals := 0 } : Room) x 0 0 (ca_A (M, G)) 2 [(0, gv_R 3), (1, gv_L v1), (3, gv_I v3)] [] := by
  intro k
  induction k with
  | zero =>
    intro v1 v3 M h
    cases h
  | succ k ih =>
    intro v1 v3 M h
    rw [fl_Ma_changePrices_2] at h
    refine gx_iload_n hC dr_Ma_changePrices_2 rfl ?_
    refine gx_aload_n hC dr_Ma_changePrices_3 rfl ?_
    refine gx_get hC dr_Ma_changePrices_4 lf_Ma_43 (by decide) rfl rfl ?_
    refine gx_icmp_gt (tgt := 63) hC dr_Ma_changePrices_7 (by decide) (fun hc1 => ?_) (fun hc1 => ?_)
    · rw [if_pos (show (gq_f M 2) < v3 from hc1)] at h
      obtain rfl := Option.some.inj h
      exact hR (by decide) (by decide) dr_Ma_changePrices_63 rfl
    · rw [if_neg (show ¬ ((gq_f M 2) < v3) from hc1)] at h
      refine gx_aload_n hC dr_Ma_changePrices_10 rfl ?_
      refine gx_get hC dr_Ma_changePrices_11 lf_Ma_36 (by decide) rfl rfl ?_
      refine gx_iload_n hC dr_Ma_changePrices_14 rfl ?_
      obtain ⟨hz2, h⟩ := gk_of h
      refine gx_zald (f := (gq_i M 13)) hC dr_Ma_changePrices_15 (by decide) rfl hz2 ?_
      refine gx_if_eq (tgt := 47) hC dr_Ma_changePrices_16 (by decide) (fun hc3 => ?_) (fun hc3 => ?_)
      · rw [if_pos (show ((gq_i M 13) v3.toInt) = 0 from hc3)] at h
        refine gx_aload_n hC dr_Ma_changePrices_47 rfl ?_
        refine gx_get hC dr_Ma_changePrices_48 lf_Ma_33 (by decide) rfl rfl ?_
        refine gx_iload_n hC dr_Ma_changePrices_51 rfl ?_
        refine gx_dup2 hC dr_Ma_changePrices_52 rfl rfl ?_
        refine gx_lald (f := (gq_l M 6)) hC dr_Ma_changePrices_53 (by decide) rfl hz2 ?_
        refine gx_lload_n hC dr_Ma_changePrices_54 rfl ?_
        refine gx_lsub hC dr_Ma_changePrices_55 ?_
        refine gx_last (f := (gq_l M 6)) hC (by decide) dr_Ma_changePrices_56 (by decide) rfl hz2 (ca_L 6 (by decide)) ?_
        refine gx_iinc (v := (v3 + 1)) hC dr_Ma_changePrices_57 rfl (by decide) rfl ?_
        refine gx_goto (tgt := 2) hC dr_Ma_changePrices_60 (by decide) ?_
        exact gx_lv [(0, gv_R 3), (1, gv_L v1), (3, gv_I (v3 + 1))] ⟨rfl, rfl, rfl, trivial⟩ (ih _ _ _ h)
      · rw [if_neg (show ¬ (((gq_i M 13) v3.toInt) = 0) from hc3)] at h
        refine gx_aload_n hC dr_Ma_changePrices_19 rfl ?_
        refine gx_get hC dr_Ma_changePrices_20 lf_Ma_20 (by decide) rfl rfl ?_
        refine gx_aload_n hC dr_Ma_changePrices_23 rfl ?_
        refine gx_get hC dr_Ma_changePrices_24 lf_Ma_27 (by decide) rfl rfl ?_
        refine gx_iload_n hC dr_Ma_changePrices_27 rfl ?_
        refine gx_iald (f := (gq_i M 11)) hC dr_Ma_changePrices_28 (by decide) rfl hz2 ?_
        refine gx_dup2 hC dr_Ma_changePrices_29 rfl rfl ?_
        obtain ⟨hz4, h⟩ := gk_of h
        refine gx_lald (f := (gq_l M 4)) hC dr_Ma_changePrices_30 (by decide) rfl hz4 ?_
        refine gx_lload_n hC dr_Ma_changePrices_31 rfl ?_
        refine gx_ladd hC dr_Ma_changePrices_32 ?_
        refine gx_last (f := (gq_l M 4)) hC (by decide) dr_Ma_changePrices_33 (by decide) rfl hz4 (ca_L 4 (by decide)) ?_
        refine gx_aload_n hC dr_Ma_changePrices_34 rfl ?_
        refine gx_get hC dr_Ma_changePrices_35 lf_Ma_24 (by decide) rfl rfl ?_
        refine gx_iload_n hC dr_Ma_changePrices_38 rfl ?_
        refine gx_dup2 hC dr_Ma_changePrices_39 rfl rfl ?_
        refine gx_lald (f := (gq_l M 5)) hC dr_Ma_changePrices_40 (by decide) rfl hz2 ?_
        refine gx_lload_n hC dr_Ma_changePrices_41 rfl ?_
        refine gx_lsub hC dr_Ma_changePrices_42 ?_
        refine gx_last (f := (gq_l M 5)) hC (by decide) dr_Ma_changePrices_43 (by decide) rfl hz2 (ca_L 5 (by decide)) ?_
        refine gx_goto (tgt := 57) hC dr_Ma_changePrices_44 (by decide) ?_
        refine gx_iinc (v := (v3 + 1)) hC dr_Ma_changePrices_57 rfl (by decide) rfl ?_
        refine gx_goto (tgt := 2) hC dr_Ma_changePrices_60 (by decide) ?_
        exact gx_lv [(0, gv_R 3), (1, gv_L v1), (3, gv_I (v3 + 1))] ⟨rfl, rfl, rfl, trivial⟩ (ih _ _ _ h)
set_option maxHeartbeats 4000000 in
set_option maxRecDepth 100000 in
theorem mt_Ma_changePrices {l : Launch} {D : va_G} {ad : Nat → Nat} {ck : Nat → ClassId} {G : gq_M × (Int → Int64)} {p0 : Int64} {M : gq_M} {r : gq_M} (h : fn_Ma_changePrices p0 M = some r) : gm_V 81 81 l D ad ck yn_Ma_changePrices bc_Ma_changePrices 4 ({ frames := 0, cells := 0, slots := 0, locals := 0 } : Room) [gv_R 3, gv_L p0] (ca_A (M, G)) (fun c2 => c2 = ca_A (r, G)) := by
  refine gm_V.of (by decide) (Nat.le_of_ble_eq_true rfl) (fun x hC hR => ?_)
  unfold fn_Ma_changePrices at h
  refine gx_iconst (v := 0) hC dr_Ma_changePrices_0 (by decide) ?_
  refine gx_istore_n hC dr_Ma_changePrices_1 (by decide) ?_
  exact gx_lv [(0, gv_R 3), (1, gv_L p0), (3, gv_I 0)] ⟨rfl, rfl, rfl, trivial⟩ (gl_Ma_changePrices_2 hC hR 5000 _ _ _ h)
def fl_Ma_nextColumn_19 : Nat → Int32 → Int32 → Int32 → Int32 → gq_M → Option (Int32 × gq_M)
  | 0, _, _, _, _, _ => none
  | k + 1, v1, v2, v3, v4, M => if (gq_f M 2) < v4 then if 0 ≤ v3.toInt ∧ v3.toInt < ((13 : Nat) : Int) then (fn_Ma_changePrices ((gq_l M 6) v3.toInt) M).bind fun q4 => some (v3, q4) else none else if 0 ≤ v4.toInt ∧ v4.toInt < ((13 : Nat) : Int) then if ((gq_i M 13) v4.toInt) = 0 then (fn_Ma_extraCost v2 v4 M).bind fun q8 => if ((gq_l M 6) v4.toInt) ≤ q8 then if v3 = 0 then fl_Ma_nextColumn_19 k v1 v2 v4 (v4 + 1) M else if 0 ≤ v3.toInt ∧ v3.toInt < ((13 : Nat) : Int) then if ((gq_l M 6) v3.toInt) ≤ ((gq_l M 6) v4.toInt) then fl_Ma_nextColumn_19 k v1 v2 v3 (v4 + 1) M else fl_Ma_nextColumn_19 k v1 v2 v4 (v4 + 1) M else none else if v3 = 0 then fl_Ma_nextColumn_19 k v1 v2 v4 (v4 + 1) (gs_i (gs_l M 6 (gz_ul (gq_l M 6) v4.toInt q8)) 12 (gz_u (gq_i M 12) v4.toInt v1)) else if 0 ≤ v3.toInt ∧ v3.toInt < ((13 : Nat) : Int) then if ((gz_ul (gq_l M 6) v4.toInt q8) v3.toInt) ≤ ((gz_ul (gq_l M 6) v4.toInt q8) v4.toInt) then fl_Ma_nextColumn_19 k v1 v2 v3 (v4 + 1) (gs_i (gs_l M 6 (gz_ul (gq_l M 6) v4.toInt q8)) 12 (gz_u (gq_i M 12) v4.toInt v1)) else fl_Ma_nextColumn_19 k v1 v2 v4 (v4 + 1) (gs_i (gs_l M 6 (gz_ul (gq_l M 6) v4.toInt q8)) 12 (gz_u (gq_i M 12) v4.toInt v1)) else none else fl_Ma_nextColumn_19 k v1 v2 v3 (v4 + 1) M else none
def fn_Ma_nextColumn (p0 : Int32) (M : gq_M) : Option (Int32 × gq_M) := if 0 ≤ p0.toInt ∧ p0.toInt < ((13 : Nat) : Int) then fl_Ma_nextColumn_19 5000 p0 ((gq_i M 11) p0.toInt) 0 1 (gs_i M 13 (gz_u (gq_i M 13) p0.toInt 1)) else none
set_option maxHeartbeats 4000000 in
set_option maxRecDepth 100000 in
theorem gl_Ma_nextColumn_19 {x : gx_X} {G : gq_M × (Int → Int64)} {r : (Int32 × gq_M)} (hC : gw_C 81 81 yn_Ma_nextColumn.cls bc_Ma_nextColumn 7 x) (hR : gr_I 81 bc_Ma_nextColumn 7 .int ({ frames := 1, cells := 0, slots := 0, locals := 23 } : Room) x (fun z c2 => z = r.1 ∧ c2 = ca_A (r.2, G))) : ∀ (k : Nat) (v1 : Int32) (v2 : Int32) (v3 : Int32) (v4 : Int32) (M : gq_M), fl_Ma_nextColumn_19 k v1 v2 v3 v4 M = some r → gw_G 81 7 ({ frames := 1, cells := 0, slots := 0, locals := 23 } : Room) x 0 0 (ca_A (M, G)) 19 [(0, gv_R 3), (1, gv_I v1), (2, gv_I v2), (3, gv_I v3), (4, gv_I v4)] [] := by
  intro k
  induction k with
  | zero =>
    intro v1 v2 v3 v4 M h
    cases h
  | succ k ih =>
    intro v1 v2 v3 v4 M h
    rw [fl_Ma_nextColumn_19] at h
    refine gx_iload hC dr_Ma_nextColumn_19 rfl ?_
    refine gx_aload_n hC dr_Ma_nextColumn_21 rfl ?_
    refine gx_get hC dr_Ma_nextColumn_22 lf_Ma_43 (by decide) rfl rfl ?_
    refine gx_icmp_gt (tgt := 107) hC dr_Ma_nextColumn_25 (by decide) (fun hc2 => ?_) (fun hc2 => ?_)
    · rw [if_pos (show (gq_f M 2) < v4 from hc2)] at h
      refine gx_aload_n hC dr_Ma_nextColumn_107 rfl ?_
      refine gx_aload_n hC dr_Ma_nextColumn_108 rfl ?_
      refine gx_get hC dr_Ma_nextColumn_109 lf_Ma_33 (by decide) rfl rfl ?_
      refine gx_iload_n hC dr_Ma_nextColumn_112 rfl ?_
      obtain ⟨hz3, h⟩ := gk_of h
      refine gx_lald (f := (gq_l M 6)) hC dr_Ma_nextColumn_113 (by decide) rfl hz3 ?_
      obtain ⟨q4, e5, h⟩ := gb_of h
      refine gx_vV hC dr_Ma_nextColumn_114 lk_Ma_81 (mt_Ma_changePrices e5) rfl (by decide) ⟨by decide, by decide⟩ ⟨by decide, by decide⟩ (by decide) ⟨_, _, rfl⟩ rfl rfl (Nat.le_of_ble_eq_true rfl) (fun c2 hp => ?_)
      subst hp
      refine gx_iload_n hC dr_Ma_nextColumn_117 rfl ?_
      obtain rfl := Option.some.inj h
      exact hR (by decide) (by decide) dr_Ma_nextColumn_118 rfl ⟨rfl, rfl⟩
    · rw [if_neg (show ¬ ((gq_f M 2) < v4) from hc2)] at h
      refine gx_aload_n hC dr_Ma_nextColumn_28 rfl ?_
      refine gx_get hC dr_Ma_nextColumn_29 lf_Ma_36 (by decide) rfl rfl ?_
      refine gx_iload hC dr_Ma_nextColumn_32 rfl ?_
      obtain ⟨hz6, h⟩ := gk_of h
      refine gx_zald (f := (gq_i M 13)) hC dr_Ma_nextColumn_34 (by decide) rfl hz6 ?_
      refine gx_if_ne (tgt := 101) hC dr_Ma_nextColumn_35 (by decide) (fun hc7 => ?_) (fun hc7 => ?_)
      · rw [if_neg (show ¬ (((gq_i M 13) v4.toInt) = 0) from hc7)] at h
        refine gx_iinc (v := (v4 + 1)) hC dr_Ma_nextColumn_101 rfl (by decide) rfl ?_
        refine gx_goto (tgt := 19) hC dr_Ma_nextColumn_104 (by decide) ?_
        exact gx_lv [(0, gv_R 3), (1, gv_I v1), (2, gv_I v2), (3, gv_I v3), (4, gv_I (v4 + 1))] ⟨rfl, rfl, rfl, rfl, rfl, trivial⟩ (ih _ _ _ _ _ h)
      · rw [if_pos (show ((gq_i M 13) v4.toInt) = 0 from hc7)] at h
        refine gx_aload_n hC dr_Ma_nextColumn_38 rfl ?_
        refine gx_iload_n hC dr_Ma_nextColumn_39 rfl ?_
        refine gx_iload hC dr_Ma_nextColumn_40 rfl ?_
        obtain ⟨q8, e9, h⟩ := gb_of h
        refine gx_vJ hC dr_Ma_nextColumn_42 lk_Ma_77 (mt_Ma_extraCost e9) rfl (by decide) ⟨by decide, by decide⟩ ⟨by decide, by decide⟩ (by decide) ⟨_, _, rfl⟩ rfl rfl (Nat.le_of_ble_eq_true rfl) (fun z c2 hp => ?_)
        obtain ⟨hp1, rfl⟩ := hp; obtain rfl := hp1.symm
        refine gx_lstore hC dr_Ma_nextColumn_45 (by decide) ?_
        refine gx_lload hC dr_Ma_nextColumn_47 rfl ?_
        refine gx_aload_n hC dr_Ma_nextColumn_49 rfl ?_
        refine gx_get hC dr_Ma_nextColumn_50 lf_Ma_33 (by decide) rfl rfl ?_
        refine gx_iload hC dr_Ma_nextColumn_53 rfl ?_
        refine gx_lald (f := (gq_l M 6)) hC dr_Ma_nextColumn_55 (by decide) rfl hz6 ?_
        refine gx_lcmp_ge (tgt := 77) hC dr_Ma_nextColumn_56 dr_Ma_nextColumn_57 (by decide) (fun hc10 => ?_) (fun hc10 => ?_)
        · rw [if_pos (show ((gq_l M 6) v4.toInt) ≤ q8 from hc10)] at h
          refine gx_iload_n hC dr_Ma_nextColumn_77 rfl ?_
          refine gx_if_eq (tgt := 98) hC dr_Ma_nextColumn_78 (by decide) (fun hc11 => ?_) (fun hc11 => ?_)
          · rw [if_pos (show v3 = 0 from hc11)] at h
            refine gx_iload hC dr_Ma_nextColumn_98 rfl ?_
            refine gx_istore_n hC dr_Ma_nextColumn_100 (by decide) ?_
            refine gx_iinc (v := (v4 + 1)) hC dr_Ma_nextColumn_101 rfl (by decide) rfl ?_
            refine gx_goto (tgt := 19) hC dr_Ma_nextColumn_104 (by decide) ?_
            exact gx_lv [(0, gv_R 3), (1, gv_I v1), (2, gv_I v2), (3, gv_I v4), (4, gv_I (v4 + 1))] ⟨rfl, rfl, rfl, rfl, rfl, trivial⟩ (ih _ _ _ _ _ h)
          · rw [if_neg (show ¬ (v3 = 0) from hc11)] at h
            refine gx_aload_n hC dr_Ma_nextColumn_81 rfl ?_
            refine gx_get hC dr_Ma_nextColumn_82 lf_Ma_33 (by decide) rfl rfl ?_
            refine gx_iload hC dr_Ma_nextColumn_85 rfl ?_
            refine gx_lald (f := (gq_l M 6)) hC dr_Ma_nextColumn_87 (by decide) rfl hz6 ?_
            refine gx_aload_n hC dr_Ma_nextColumn_88 rfl ?_
            refine gx_get hC dr_Ma_nextColumn_89 lf_Ma_33 (by decide) rfl rfl ?_
            refine gx_iload_n hC dr_Ma_nextColumn_92 rfl ?_
            obtain ⟨hz12, h⟩ := gk_of h
            refine gx_lald (f := (gq_l M 6)) hC dr_Ma_nextColumn_93 (by decide) rfl hz12 ?_
            refine gx_lcmp_ge (tgt := 101) hC dr_Ma_nextColumn_94 dr_Ma_nextColumn_95 (by decide) (fun hc13 => ?_) (fun hc13 => ?_)
            · rw [if_pos (show ((gq_l M 6) v3.toInt) ≤ ((gq_l M 6) v4.toInt) from hc13)] at h
              refine gx_iinc (v := (v4 + 1)) hC dr_Ma_nextColumn_101 rfl (by decide) rfl ?_
              refine gx_goto (tgt := 19) hC dr_Ma_nextColumn_104 (by decide) ?_
              exact gx_lv [(0, gv_R 3), (1, gv_I v1), (2, gv_I v2), (3, gv_I v3), (4, gv_I (v4 + 1))] ⟨rfl, rfl, rfl, rfl, rfl, trivial⟩ (ih _ _ _ _ _ h)
            · rw [if_neg (show ¬ (((gq_l M 6) v3.toInt) ≤ ((gq_l M 6) v4.toInt)) from hc13)] at h
              refine gx_iload hC dr_Ma_nextColumn_98 rfl ?_
              refine gx_istore_n hC dr_Ma_nextColumn_100 (by decide) ?_
              refine gx_iinc (v := (v4 + 1)) hC dr_Ma_nextColumn_101 rfl (by decide) rfl ?_
              refine gx_goto (tgt := 19) hC dr_Ma_nextColumn_104 (by decide) ?_
              exact gx_lv [(0, gv_R 3), (1, gv_I v1), (2, gv_I v2), (3, gv_I v4), (4, gv_I (v4 + 1))] ⟨rfl, rfl, rfl, rfl, rfl, trivial⟩ (ih _ _ _ _ _ h)
        · rw [if_neg (show ¬ (((gq_l M 6) v4.toInt) ≤ q8) from hc10)] at h
          refine gx_aload_n hC dr_Ma_nextColumn_60 rfl ?_
          refine gx_get hC dr_Ma_nextColumn_61 lf_Ma_33 (by decide) rfl rfl ?_
          refine gx_iload hC dr_Ma_nextColumn_64 rfl ?_
          refine gx_lload hC dr_Ma_nextColumn_66 rfl ?_
          refine gx_last (f := (gq_l M 6)) hC (by decide) dr_Ma_nextColumn_68 (by decide) rfl hz6 (ca_L 6 (by decide)) ?_
          refine gx_aload_n hC dr_Ma_nextColumn_69 rfl ?_
          refine gx_get hC dr_Ma_nextColumn_70 lf_Ma_30 (by decide) rfl rfl ?_
          refine gx_iload hC dr_Ma_nextColumn_73 rfl ?_
          refine gx_iload_n hC dr_Ma_nextColumn_75 rfl ?_
          refine gx_iast (f := (gq_i M 12)) hC (by decide) dr_Ma_nextColumn_76 (by decide) rfl hz6 (ca_I 12 (by decide)) ?_
          refine gx_iload_n hC dr_Ma_nextColumn_77 rfl ?_
          refine gx_if_eq (tgt := 98) hC dr_Ma_nextColumn_78 (by decide) (fun hc14 => ?_) (fun hc14 => ?_)
          · rw [if_pos (show v3 = 0 from hc14)] at h
            refine gx_iload hC dr_Ma_nextColumn_98 rfl ?_
            refine gx_istore_n hC dr_Ma_nextColumn_100 (by decide) ?_
            refine gx_iinc (v := (v4 + 1)) hC dr_Ma_nextColumn_101 rfl (by decide) rfl ?_
            refine gx_goto (tgt := 19) hC dr_Ma_nextColumn_104 (by decide) ?_
            exact gx_lv [(0, gv_R 3), (1, gv_I v1), (2, gv_I v2), (3, gv_I v4), (4, gv_I (v4 + 1))] ⟨rfl, rfl, rfl, rfl, rfl, trivial⟩ (ih _ _ _ _ _ h)
          · rw [if_neg (show ¬ (v3 = 0) from hc14)] at h
            refine gx_aload_n hC dr_Ma_nextColumn_81 rfl ?_
            refine gx_get hC dr_Ma_nextColumn_82 lf_Ma_33 (by decide) rfl rfl ?_
            refine gx_iload hC dr_Ma_nextColumn_85 rfl ?_
            refine gx_lald (f := (gz_ul (gq_l M 6) v4.toInt q8)) hC dr_Ma_nextColumn_87 (by decide) rfl hz6 ?_
            refine gx_aload_n hC dr_Ma_nextColumn_88 rfl ?_
            refine gx_get hC dr_Ma_nextColumn_89 lf_Ma_33 (by decide) rfl rfl ?_
            refine gx_iload_n hC dr_Ma_nextColumn_92 rfl ?_
            obtain ⟨hz15, h⟩ := gk_of h
            refine gx_lald (f := (gz_ul (gq_l M 6) v4.toInt q8)) hC dr_Ma_nextColumn_93 (by decide) rfl hz15 ?_
            refine gx_lcmp_ge (tgt := 101) hC dr_Ma_nextColumn_94 dr_Ma_nextColumn_95 (by decide) (fun hc16 => ?_) (fun hc16 => ?_)
            · rw [if_pos (show ((gz_ul (gq_l M 6) v4.toInt q8) v3.toInt) ≤ ((gz_ul (gq_l M 6) v4.toInt q8) v4.toInt) from hc16)] at h
              refine gx_iinc (v := (v4 + 1)) hC dr_Ma_nextColumn_101 rfl (by decide) rfl ?_
              refine gx_goto (tgt := 19) hC dr_Ma_nextColumn_104 (by decide) ?_
              exact gx_lv [(0, gv_R 3), (1, gv_I v1), (2, gv_I v2), (3, gv_I v3), (4, gv_I (v4 + 1))] ⟨rfl, rfl, rfl, rfl, rfl, trivial⟩ (ih _ _ _ _ _ h)
            · rw [if_neg (show ¬ (((gz_ul (gq_l M 6) v4.toInt q8) v3.toInt) ≤ ((gz_ul (gq_l M 6) v4.toInt q8) v4.toInt)) from hc16)] at h
              refine gx_iload hC dr_Ma_nextColumn_98 rfl ?_
              refine gx_istore_n hC dr_Ma_nextColumn_100 (by decide) ?_
              refine gx_iinc (v := (v4 + 1)) hC dr_Ma_nextColumn_101 rfl (by decide) rfl ?_
              refine gx_goto (tgt := 19) hC dr_Ma_nextColumn_104 (by decide) ?_
              exact gx_lv [(0, gv_R 3), (1, gv_I v1), (2, gv_I v2), (3, gv_I v4), (4, gv_I (v4 + 1))] ⟨rfl, rfl, rfl, rfl, rfl, trivial⟩ (ih _ _ _ _ _ h)
set_option maxHeartbeats 4000000 in
set_option maxRecDepth 100000 in
theorem mt_Ma_nextColumn {l : Launch} {D : va_G} {ad : Nat → Nat} {ck : Nat → ClassId} {G : gq_M × (Int → Int64)} {p0 : Int32} {M : gq_M} {r : (Int32 × gq_M)} (h : fn_Ma_nextColumn p0 M = some r) : gm_I 81 81 l D ad ck yn_Ma_nextColumn bc_Ma_nextColumn 7 .int ({ frames := 1, cells := 0, slots := 0, locals := 23 } : Room) [gv_R 3, gv_I p0] (ca_A (M, G)) (fun z c2 => z = r.1 ∧ c2 = ca_A (r.2, G)) := by
  refine gm_I.of (by decide) (Nat.le_of_ble_eq_true rfl) (fun x hC hR => ?_)
  unfold fn_Ma_nextColumn at h
  refine gx_aload_n hC dr_Ma_nextColumn_0 rfl ?_
  refine gx_get hC dr_Ma_nextColumn_1 lf_Ma_36 (by decide) rfl rfl ?_
  refine gx_iload_n hC dr_Ma_nextColumn_4 rfl ?_
  refine gx_iconst (v := 1) hC dr_Ma_nextColumn_5 (by decide) ?_
  obtain ⟨hz1, h⟩ := gk_of h
  refine gx_zast (f := (gq_i M 13)) hC (by decide) dr_Ma_nextColumn_6 (by decide) rfl hz1 (ca_I 13 (by decide)) ?_
  refine gx_aload_n hC dr_Ma_nextColumn_7 rfl ?_
  refine gx_get hC dr_Ma_nextColumn_8 lf_Ma_27 (by decide) rfl rfl ?_
  refine gx_iload_n hC dr_Ma_nextColumn_11 rfl ?_
  refine gx_iald (f := (gq_i M 11)) hC dr_Ma_nextColumn_12 (by decide) rfl hz1 ?_
  refine gx_istore_n hC dr_Ma_nextColumn_13 (by decide) ?_
  refine gx_iconst (v := 0) hC dr_Ma_nextColumn_14 (by decide) ?_
  refine gx_istore_n hC dr_Ma_nextColumn_15 (by decide) ?_
  refine gx_iconst (v := 1) hC dr_Ma_nextColumn_16 (by decide) ?_
  refine gx_istore hC dr_Ma_nextColumn_17 (by decide) ?_
  exact gx_lv [(0, gv_R 3), (1, gv_I p0), (2, gv_I ((gq_i M 11) p0.toInt)), (3, gv_I 0), (4, gv_I 1)] ⟨rfl, rfl, rfl, rfl, rfl, trivial⟩ (gl_Ma_nextColumn_19 hC hR 5000 _ _ _ _ _ h)
def fl_Ma_moveAlong_4 : Nat → Int32 → Int32 → gq_M → Option gq_M
  | 0, _, _, _ => none
  | k + 1, v2, v3, M => if (gq_f M 2) ≤ v3 then some M else if v2 = 0 then some M else if 0 ≤ v2.toInt ∧ v2.toInt < ((13 : Nat) : Int) then if 0 ≤ ((gq_i M 12) v2.toInt).toInt ∧ ((gq_i M 12) v2.toInt).toInt < ((13 : Nat) : Int) then fl_Ma_moveAlong_4 k ((gq_i M 12) v2.toInt) (v3 + 1) (gs_i M 11 (gz_u (gq_i M 11) v2.toInt ((gq_i M 11) ((gq_i M 12) v2.toInt).toInt))) else none else none
def fn_Ma_moveAlong (p0 : Int32) (M : gq_M) : Option gq_M := fl_Ma_moveAlong_4 5000 p0 0 M
set_option maxHeartbeats 4000000 in
set_option maxRecDepth 100000 in
theorem gl_Ma_moveAlong_4 {x : gx_X} {G : gq_M × (Int → Int64)} {r : gq_M} (hC : gw_C 81 81 yn_Ma_moveAlong.cls bc_Ma_moveAlong 4 x) (hR : gr_V 81 bc_Ma_moveAlong 4 ({ frames := 0, cells := 0, slots := 0, locals := 0 } : Room) x (fun c2 => c2 = ca_A (r, G))) : ∀ (k : Nat) (v2 : Int32) (v3 : Int32) (M : gq_M), fl_Ma_moveAlong_4 k v2 v3 M = some r → gw_G 81 4 ({ frames := 0, cells := 0, slots := 0, locals := 0 } : Room) x 0 0 (ca_A (M, G)) 4 [(0, gv_R 3), (2, gv_I v2), (3, gv_I v3)] [] := by
  intro k
  induction k with
  | zero =>
    intro v2 v3 M h
    cases h
  | succ k ih =>
    intro v2 v3 M h
    rw [fl_Ma_moveAlong_4] at h
    refine gx_iload_n hC dr_Ma_moveAlong_4 rfl ?_
    refine gx_aload_n hC dr_Ma_moveAlong_5 rfl ?_
    refine gx_get hC dr_Ma_moveAlong_6 lf_Ma_43 (by decide) rfl rfl ?_
    refine gx_icmp_ge (tgt := 46) hC dr_Ma_moveAlong_9 (by decide) (fun hc1 => ?_) (fun hc1 => ?_)
    · rw [if_pos (show (gq_f M 2) ≤ v3 from hc1)] at h
      obtain rfl := Option.some.inj h
      exact hR (by decide) (by decide) dr_Ma_moveAlong_46 rfl
    · rw [if_neg (show ¬ ((gq_f M 2) ≤ v3) from hc1)] at h
      refine gx_iload_n hC dr_Ma_moveAlong_12 rfl ?_
      refine gx_if_eq (tgt := 46) hC dr_Ma_moveAlong_13 (by decide) (fun hc2 => ?_) (fun hc2 => ?_)
      · rw [if_pos (show v2 = 0 from hc2)] at h
        obtain rfl := Option.some.inj h
        exact hR (by decide) (by decide) dr_Ma_moveAlong_46 rfl
      · rw [if_neg (show ¬ (v2 = 0) from hc2)] at h
        refine gx_aload_n hC dr_Ma_moveAlong_16 rfl ?_
        refine gx_get hC dr_Ma_moveAlong_17 lf_Ma_27 (by decide) rfl rfl ?_
        refine gx_iload_n hC dr_Ma_moveAlong_20 rfl ?_
        refine gx_aload_n hC dr_Ma_moveAlong_21 rfl ?_
        refine gx_get hC dr_Ma_moveAlong_22 lf_Ma_27 (by decide) rfl rfl ?_
        refine gx_aload_n hC dr_Ma_moveAlong_25 rfl ?_
        refine gx_get hC dr_Ma_moveAlong_26 lf_Ma_30 (by decide) rfl rfl ?_
        refine gx_iload_n hC dr_Ma_moveAlong_29 rfl ?_
        obtain ⟨hz3, h⟩ := gk_of h
        refine gx_iald (f := (gq_i M 12)) hC dr_Ma_moveAlong_30 (by decide) rfl hz3 ?_
        obtain ⟨hz4, h⟩ := gk_of h
        refine gx_iald (f := (gq_i M 11)) hC dr_Ma_moveAlong_31 (by decide) rfl hz4 ?_
        refine gx_iast (f := (gq_i M 11)) hC (by decide) dr_Ma_moveAlong_32 (by decide) rfl hz3 (ca_I 11 (by decide)) ?_
        refine gx_aload_n hC dr_Ma_moveAlong_33 rfl ?_
        refine gx_get hC dr_Ma_moveAlong_34 lf_Ma_30 (by decide) rfl rfl ?_
        refine gx_iload_n hC dr_Ma_moveAlong_37 rfl ?_
        refine gx_iald (f := (gq_i M 12)) hC dr_Ma_moveAlong_38 (by decide) rfl hz3 ?_
        refine gx_istore_n hC dr_Ma_moveAlong_39 (by decide) ?_
        refine gx_iinc (v := (v3 + 1)) hC dr_Ma_moveAlong_40 rfl (by decide) rfl ?_
        refine gx_goto (tgt := 4) hC dr_Ma_moveAlong_43 (by decide) ?_
        exact gx_lv [(0, gv_R 3), (2, gv_I ((gq_i M 12) v2.toInt)), (3, gv_I (v3 + 1))] ⟨rfl, rfl, rfl, trivial⟩ (ih _ _ _ h)
set_option maxHeartbeats 4000000 in
set_option maxRecDepth 100000 in
theorem mt_Ma_moveAlong {l : Launch} {D : va_G} {ad : Nat → Nat} {ck : Nat → ClassId} {G : gq_M × (Int → Int64)} {p0 : Int32} {M : gq_M} {r : gq_M} (h : fn_Ma_moveAlong p0 M = some r) : gm_V 81 81 l D ad ck yn_Ma_moveAlong bc_Ma_moveAlong 4 ({ frames := 0, cells := 0, slots := 0, locals := 0 } : Room) [gv_R 3, gv_I p0] (ca_A (M, G)) (fun c2 => c2 = ca_A (r, G)) := by
  refine gm_V.of (by decide) (Nat.le_of_ble_eq_true rfl) (fun x hC hR => ?_)
  unfold fn_Ma_moveAlong at h
  refine gx_iload_n hC dr_Ma_moveAlong_0 rfl ?_
  refine gx_istore_n hC dr_Ma_moveAlong_1 (by decide) ?_
  refine gx_iconst (v := 0) hC dr_Ma_moveAlong_2 (by decide) ?_
  refine gx_istore_n hC dr_Ma_moveAlong_3 (by decide) ?_
  exact gx_lv [(0, gv_R 3), (2, gv_I p0), (3, gv_I 0)] ⟨rfl, rfl, rfl, trivial⟩ (gl_Ma_moveAlong_4 hC hR 5000 _ _ _ h)
def fl_Ma_insert_25 : Nat → Int32 → Int32 → gq_M → Option gq_M
  | 0, _, _, _ => none
  | k + 1, v2, v3, M => if (gq_f M 2) ≤ v3 then (fn_Ma_moveAlong v2 M).bind fun q5 => some q5 else if 0 ≤ v2.toInt ∧ v2.toInt < ((13 : Nat) : Int) then if ((gq_i M 11) v2.toInt) = 0 then (fn_Ma_moveAlong v2 M).bind fun q9 => some q9 else (fn_Ma_nextColumn v2 M).bind fun q11 => fl_Ma_insert_25 k q11.1 (v3 + 1) q11.2 else none
def fn_Ma_insert (p0 : Int32) (M : gq_M) : Option gq_M := (fn_Ma_forgetSeen  (gs_i M 11 (gz_u (gq_i M 11) 0 p0))).bind fun q2 => fl_Ma_insert_25 5000 0 0 (gs_l q2 6 (gz_fill (gq_l q2 6) 13 1152921504606846976))
set_option maxHeartbeats 4000000 in
set_option maxRecDepth 100000 in
theorem gl_Ma_insert_25 {x : gx_X} {G : gq_M × (Int → Int64)} {r : gq_M} (hC : gw_C 81 81 yn_Ma_insert.cls bc_Ma_insert 4 x) (hR : gr_V 81 bc_Ma_insert 4 ({ frames := 2, cells := 0, slots := 0, locals := 49 } : Room) x (fun c2 => c2 = ca_A (r, G))) : ∀ (k : Nat) (v2 : Int32) (v3 : Int32) (M : gq_M), fl_Ma_insert_25 k v2 v3 M = some r → gw_G 81 4 ({ frames := 2, cells := 0, slots := 0, locals := 49 } : Room) x 0 0 (ca_A (M, G)) 25 [(0, gv_R 3), (2, gv_I v2), (3, gv_I v3)] [] := by
  intro k
  induction k with
  | zero =>
    intro v2 v3 M h
    cases h
  | succ k ih =>
    intro v2 v3 M h
    rw [fl_Ma_insert_25] at h
    refine gx_iload_n hC dr_Ma_insert_25 rfl ?_
    refine gx_aload_n hC dr_Ma_insert_26 rfl ?_
    refine gx_get hC dr_Ma_insert_27 lf_Ma_43 (by decide) rfl rfl ?_
    refine gx_icmp_ge (tgt := 54) hC dr_Ma_insert_30 (by decide) (fun hc4 => ?_) (fun hc4 => ?_)
    · rw [if_pos (show (gq_f M 2) ≤ v3 from hc4)] at h
      refine gx_aload_n hC dr_Ma_insert_54 rfl ?_
      refine gx_iload_n hC dr_Ma_insert_55 rfl ?_
      obtain ⟨q5, e6, h⟩ := gb_of h
      refine gx_vV hC dr_Ma_insert_56 lk_Ma_74 (mt_Ma_moveAlong e6) rfl (by decide) ⟨by decide, by decide⟩ ⟨by decide, by decide⟩ (by decide) ⟨_, _, rfl⟩ rfl rfl (Nat.le_of_ble_eq_true rfl) (fun c2 hp => ?_)
      subst hp
      obtain rfl := Option.some.inj h
      exact hR (by decide) (by decide) dr_Ma_insert_59 rfl
    · rw [if_neg (show ¬ ((gq_f M 2) ≤ v3) from hc4)] at h
      refine gx_aload_n hC dr_Ma_insert_33 rfl ?_
      refine gx_get hC dr_Ma_insert_34 lf_Ma_27 (by decide) rfl rfl ?_
      refine gx_iload_n hC dr_Ma_insert_37 rfl ?_
      obtain ⟨hz7, h⟩ := gk_of h
      refine gx_iald (f := (gq_i M 11)) hC dr_Ma_insert_38 (by decide) rfl hz7 ?_
      refine gx_if_eq (tgt := 54) hC dr_Ma_insert_39 (by decide) (fun hc8 => ?_) (fun hc8 => ?_)
      · rw [if_pos (show ((gq_i M 11) v2.toInt) = 0 from hc8)] at h
        refine gx_aload_n hC dr_Ma_insert_54 rfl ?_
        refine gx_iload_n hC dr_Ma_insert_55 rfl ?_
        obtain ⟨q9, e10, h⟩ := gb_of h
        refine gx_vV hC dr_Ma_insert_56 lk_Ma_74 (mt_Ma_moveAlong e10) rfl (by decide) ⟨by decide, by decide⟩ ⟨by decide, by decide⟩ (by decide) ⟨_, _, rfl⟩ rfl rfl (Nat.le_of_ble_eq_true rfl) (fun c2 hp => ?_)
        subst hp
        obtain rfl := Option.some.inj h
        exact hR (by decide) (by decide) dr_Ma_insert_59 rfl
      · rw [if_neg (show ¬ (((gq_i M 11) v2.toInt) = 0) from hc8)] at h
        refine gx_aload_n hC dr_Ma_insert_42 rfl ?_
        refine gx_iload_n hC dr_Ma_insert_43 rfl ?_
        obtain ⟨q11, e12, h⟩ := gb_of h
        refine gx_vI hC dr_Ma_insert_44 lk_Ma_71 (mt_Ma_nextColumn e12) rfl (by decide) ⟨by decide, by decide⟩ ⟨by decide, by decide⟩ (by decide) ⟨_, _, rfl⟩ rfl rfl (Nat.le_of_ble_eq_true rfl) (fun z c2 hp => ?_)
        obtain ⟨rfl, rfl⟩ := hp
        refine gx_istore_n hC dr_Ma_insert_47 (by decide) ?_
        refine gx_iinc (v := (v3 + 1)) hC dr_Ma_insert_48 rfl (by decide) rfl ?_
        refine gx_goto (tgt := 25) hC dr_Ma_insert_51 (by decide) ?_
        exact gx_lv [(0, gv_R 3), (2, gv_I q11.1), (3, gv_I (v3 + 1))] ⟨rfl, rfl, rfl, trivial⟩ (ih _ _ _ h)
set_option maxHeartbeats 4000000 in
set_option maxRecDepth 100000 in
theorem mt_Ma_insert {l : Launch} {D : va_G} {ad : Nat → Nat} {ck : Nat → ClassId} {G : gq_M × (Int → Int64)} {p0 : Int32} {M : gq_M} {r : gq_M} (h : fn_Ma_insert p0 M = some r) : gm_V 81 81 l D ad ck yn_Ma_insert bc_Ma_insert 4 ({ frames := 2, cells := 0, slots := 0, locals := 49 } : Room) [gv_R 3, gv_I p0] (ca_A (M, G)) (fun c2 => c2 = ca_A (r, G)) := by
  refine gm_V.of (by decide) (Nat.le_of_ble_eq_true rfl) (fun x hC hR => ?_)
  unfold fn_Ma_insert at h
  refine gx_aload_n hC dr_Ma_insert_0 rfl ?_
  refine gx_get hC dr_Ma_insert_1 lf_Ma_27 (by decide) rfl rfl ?_
  refine gx_iconst (v := 0) hC dr_Ma_insert_4 (by decide) ?_
  refine gx_iload_n hC dr_Ma_insert_5 rfl ?_
  have hz1 : 0 ≤ (0 : Int32).toInt ∧ (0 : Int32).toInt < ((13 : Nat) : Int) := by decide
  refine gx_iast (f := (gq_i M 11)) hC (by decide) dr_Ma_insert_6 (by decide) rfl hz1 (ca_I 11 (by decide)) ?_
  refine gx_aload_n hC dr_Ma_insert_7 rfl ?_
  obtain ⟨q2, e3, h⟩ := gb_of h
  refine gx_vV hC dr_Ma_insert_8 lk_Ma_66 (mt_Ma_forgetSeen e3) rfl (by decide) ⟨by decide, by decide⟩ ⟨by decide, by decide⟩ (by decide) ⟨_, _, rfl⟩ rfl rfl (Nat.le_of_ble_eq_true rfl) (fun c2 hp => ?_)
  subst hp
  refine gx_aload_n hC dr_Ma_insert_11 rfl ?_
  refine gx_get hC dr_Ma_insert_12 lf_Ma_33 (by decide) rfl rfl ?_
  refine gx_ldc2 (v := 1152921504606846976) hC dr_Ma_insert_15 lc_Ma_69 ?_
  refine gx_sV hC dr_Ma_insert_18 lk_Ma_53 (mt_Ar_fillL (f := (gq_l q2 6)) (by decide) rfl (by decide) (ca_L 6 (by decide))) rfl (by decide) ⟨by decide, by decide⟩ ⟨by decide, by decide⟩ rfl (Nat.le_of_ble_eq_true rfl) (fun c2 hp => ?_)
  subst hp
  refine gx_iconst (v := 0) hC dr_Ma_insert_21 (by decide) ?_
  refine gx_istore_n hC dr_Ma_insert_22 (by decide) ?_
  refine gx_iconst (v := 0) hC dr_Ma_insert_23 (by decide) ?_
  refine gx_istore_n hC dr_Ma_insert_24 (by decide) ?_
  exact gx_lv [(0, gv_R 3), (2, gv_I 0), (3, gv_I 0)] ⟨rfl, rfl, rfl, trivial⟩ (gl_Ma_insert_25 hC hR 5000 _ _ _ h)
def fl_Ma_solve_49 : Nat → Int64 → Int32 → gq_M → Option (Int64 × gq_M)
  | 0, _, _, _ => none
  | k + 1, v1, v3, M => if (gq_f M 2) < v3 then some (v1, M) else if 0 ≤ v3.toInt ∧ v3.toInt < ((13 : Nat) : Int) then if 0 ≤ ((gq_i M 11) v3.toInt).toInt ∧ ((gq_i M 11) v3.toInt).toInt < ((13 : Nat) : Int) then fl_Ma_solve_49 k (v1 + ((gq_l M (7 + (((gq_i M 11) v3.toInt).toInt.toNat))) v3.toInt)) (v3 + 1) M else none else none
def fl_Ma_solve_26 : Nat → Int32 → gq_M → Option (Int64 × gq_M)
  | 0, _, _ => none
  | k + 1, v1, M => if (gq_f M 2) < v1 then fl_Ma_solve_49 5000 (Int64.ofNat (0 : Fin 2).val) 1 M else (fn_Ma_insert v1 M).bind fun q6 => fl_Ma_solve_26 k (v1 + 1) q6
def fn_Ma_solve  (M : gq_M) : Option (Int64 × gq_M) := fl_Ma_solve_26 5000 1 (gs_i (gs_l (gs_l M 4 (gz_fill (gq_l M 4) 13 (Int64.ofNat (0 : Fin 2).val))) 5 (gz_fill (gq_l M 5) 13 (Int64.ofNat (0 : Fin 2).val))) 11 (gz_fill (gq_i M 11) 13 0))
set_option maxHeartbeats 4000000 in
set_option maxRecDepth 100000 in
theorem gl_Ma_solve_49 {x : gx_X} {G : gq_M × (Int → Int64)} {r : (Int64 × gq_M)} (hC : gw_C 81 81 yn_Ma_solve.cls bc_Ma_solve 4 x) (hR : gr_J 81 bc_Ma_solve 4 ({ frames := 3, cells := 0, slots := 0, locals := 72 } : Room) x (fun z c2 => z = r.1 ∧ c2 = ca_A (r.2, G))) : ∀ (k : Nat) (v1 : Int64) (v3 : Int32) (M : gq_M), fl_Ma_solve_49 k v1 v3 M = some r → gw_G 81 4 ({ frames := 3, cells := 0, slots := 0, locals := 72 } : Room) x 0 0 (ca_A (M, G)) 49 [(0, gv_R 3), (1, gv_L v1), (3, gv_I v3)] [] := by
  intro k
  induction k with
  | zero =>
    intro v1 v3 M h
    cases h
  | succ k ih =>
    intro v1 v3 M h
    rw [fl_Ma_solve_49] at h
    refine gx_iload_n hC dr_Ma_solve_49 rfl ?_
    refine gx_aload_n hC dr_Ma_solve_50 rfl ?_
    refine gx_get hC dr_Ma_solve_51 lf_Ma_43 (by decide) rfl rfl ?_
    refine gx_icmp_gt (tgt := 79) hC dr_Ma_solve_54 (by decide) (fun hc2 => ?_) (fun hc2 => ?_)
    · rw [if_pos (show (gq_f M 2) < v3 from hc2)] at h
      refine gx_lload_n hC dr_Ma_solve_79 rfl ?_
      obtain rfl := Option.some.inj h
      exact hR (by decide) (by decide) dr_Ma_solve_80 ⟨rfl, rfl⟩
    · rw [if_neg (show ¬ ((gq_f M 2) < v3) from hc2)] at h
      refine gx_lload_n hC dr_Ma_solve_57 rfl ?_
      refine gx_aload_n hC dr_Ma_solve_58 rfl ?_
      refine gx_get hC dr_Ma_solve_59 lf_Ma_17 (by decide) rfl rfl ?_
      refine gx_aload_n hC dr_Ma_solve_62 rfl ?_
      refine gx_get hC dr_Ma_solve_63 lf_Ma_27 (by decide) rfl rfl ?_
      refine gx_iload_n hC dr_Ma_solve_66 rfl ?_
      obtain ⟨hz3, h⟩ := gk_of h
      refine gx_iald (f := (gq_i M 11)) hC dr_Ma_solve_67 (by decide) rfl hz3 ?_
      obtain ⟨hz4, h⟩ := gk_of h
      have hr5 : ((gq_i M 11) v3.toInt).toInt.toNat < 13 := by omega
      refine gx_aald (r := 42 + (((gq_i M 11) v3.toInt).toInt.toNat)) hC dr_Ma_solve_68 (by decide) (Or.inl rfl) rfl hz4 rfl ?_
      refine gx_iload_n hC dr_Ma_solve_69 rfl ?_
      refine gx_lald (f := (gq_l M (7 + (((gq_i M 11) v3.toInt).toInt.toNat)))) hC dr_Ma_solve_70 (by omega) (ca_cost hr5) hz3 ?_
      refine gx_ladd hC dr_Ma_solve_71 ?_
      refine gx_lstore_n hC dr_Ma_solve_72 (by decide) ?_
      refine gx_iinc (v := (v3 + 1)) hC dr_Ma_solve_73 rfl (by decide) rfl ?_
      refine gx_goto (tgt := 49) hC dr_Ma_solve_76 (by decide) ?_
      exact gx_lv [(0, gv_R 3), (1, gv_L (v1 + ((gq_l M (7 + (((gq_i M 11) v3.toInt).toInt.toNat))) v3.toInt))), (3, gv_I (v3 + 1))] ⟨rfl, rfl, rfl, trivial⟩ (ih _ _ _ h)
set_option maxHeartbeats 4000000 in
set_option maxRecDepth 100000 in
theorem gl_Ma_solve_26 {x : gx_X} {G : gq_M × (Int → Int64)} {r : (Int64 × gq_M)} (hC : gw_C 81 81 yn_Ma_solve.cls bc_Ma_solve 4 x) (hR : gr_J 81 bc_Ma_solve 4 ({ frames := 3, cells := 0, slots := 0, locals := 72 } : Room) x (fun z c2 => z = r.1 ∧ c2 = ca_A (r.2, G))) : ∀ (k : Nat) (v1 : Int32) (M : gq_M), fl_Ma_solve_26 k v1 M = some r → gw_G 81 4 ({ frames := 3, cells := 0, slots := 0, locals := 72 } : Room) x 0 0 (ca_A (M, G)) 26 [(0, gv_R 3), (1, gv_I v1)] [] := by
  intro k
  induction k with
  | zero =>
    intro v1 M h
    cases h
  | succ k ih =>
    intro v1 M h
    rw [fl_Ma_solve_26] at h
    refine gx_iload_n hC dr_Ma_solve_26 rfl ?_
    refine gx_aload_n hC dr_Ma_solve_27 rfl ?_
    refine gx_get hC dr_Ma_solve_28 lf_Ma_43 (by decide) rfl rfl ?_
    refine gx_icmp_gt (tgt := 45) hC dr_Ma_solve_31 (by decide) (fun hc1 => ?_) (fun hc1 => ?_)
    · rw [if_pos (show (gq_f M 2) < v1 from hc1)] at h
      refine gx_lconst hC dr_Ma_solve_45 ?_
      refine gx_lstore_n hC dr_Ma_solve_46 (by decide) ?_
      refine gx_iconst (v := 1) hC dr_Ma_solve_47 (by decide) ?_
      refine gx_istore_n hC dr_Ma_solve_48 (by decide) ?_
      exact gx_lv [(0, gv_R 3), (1, gv_L (Int64.ofNat (0 : Fin 2).val)), (3, gv_I 1)] ⟨rfl, rfl, rfl, trivial⟩ (gl_Ma_solve_49 hC hR 5000 _ _ _ h)
    · rw [if_neg (show ¬ ((gq_f M 2) < v1) from hc1)] at h
      refine gx_aload_n hC dr_Ma_solve_34 rfl ?_
      refine gx_iload_n hC dr_Ma_solve_35 rfl ?_
      obtain ⟨q6, e7, h⟩ := gb_of h
      refine gx_vV hC dr_Ma_solve_36 lk_Ma_62 (mt_Ma_insert e7) rfl (by decide) ⟨by decide, by decide⟩ ⟨by decide, by decide⟩ (by decide) ⟨_, _, rfl⟩ rfl rfl (Nat.le_of_ble_eq_true rfl) (fun c2 hp => ?_)
      subst hp
      refine gx_iinc (v := (v1 + 1)) hC dr_Ma_solve_39 rfl (by decide) rfl ?_
      refine gx_goto (tgt := 26) hC dr_Ma_solve_42 (by decide) ?_
      exact gx_lv [(0, gv_R 3), (1, gv_I (v1 + 1))] ⟨rfl, rfl, trivial⟩ (ih _ _ h)
set_option maxHeartbeats 4000000 in
set_option maxRecDepth 100000 in
theorem mt_Ma_solve {l : Launch} {D : va_G} {ad : Nat → Nat} {ck : Nat → ClassId} {G : gq_M × (Int → Int64)}  {M : gq_M} {r : (Int64 × gq_M)} (h : fn_Ma_solve  M = some r) : gm_J 81 81 l D ad ck yn_Ma_solve bc_Ma_solve 4 ({ frames := 3, cells := 0, slots := 0, locals := 72 } : Room) [gv_R 3] (ca_A (M, G)) (fun z c2 => z = r.1 ∧ c2 = ca_A (r.2, G)) := by
  refine gm_J.of (by decide) (Nat.le_of_ble_eq_true rfl) (fun x hC hR => ?_)
  unfold fn_Ma_solve at h
  refine gx_aload_n hC dr_Ma_solve_0 rfl ?_
  refine gx_get hC dr_Ma_solve_1 lf_Ma_20 (by decide) rfl rfl ?_
  refine gx_lconst hC dr_Ma_solve_4 ?_
  refine gx_sV hC dr_Ma_solve_5 lk_Ma_53 (mt_Ar_fillL (f := (gq_l M 4)) (by decide) rfl (by decide) (ca_L 4 (by decide))) rfl (by decide) ⟨by decide, by decide⟩ ⟨by decide, by decide⟩ rfl (Nat.le_of_ble_eq_true rfl) (fun c2 hp => ?_)
  subst hp
  refine gx_aload_n hC dr_Ma_solve_8 rfl ?_
  refine gx_get hC dr_Ma_solve_9 lf_Ma_24 (by decide) rfl rfl ?_
  refine gx_lconst hC dr_Ma_solve_12 ?_
  refine gx_sV hC dr_Ma_solve_13 lk_Ma_53 (mt_Ar_fillL (f := (gq_l M 5)) (by decide) rfl (by decide) (ca_L 5 (by decide))) rfl (by decide) ⟨by decide, by decide⟩ ⟨by decide, by decide⟩ rfl (Nat.le_of_ble_eq_true rfl) (fun c2 hp => ?_)
  subst hp
  refine gx_aload_n hC dr_Ma_solve_16 rfl ?_
  refine gx_get hC dr_Ma_solve_17 lf_Ma_27 (by decide) rfl rfl ?_
  refine gx_iconst (v := 0) hC dr_Ma_solve_20 (by decide) ?_
  refine gx_sV hC dr_Ma_solve_21 lk_Ma_59 (mt_Ar_fill (f := (gq_i M 11)) (by decide) rfl (by decide) (ca_I 11 (by decide))) rfl (by decide) ⟨by decide, by decide⟩ ⟨by decide, by decide⟩ rfl (Nat.le_of_ble_eq_true rfl) (fun c2 hp => ?_)
  subst hp
  refine gx_iconst (v := 1) hC dr_Ma_solve_24 (by decide) ?_
  refine gx_istore_n hC dr_Ma_solve_25 (by decide) ?_
  exact gx_lv [(0, gv_R 3), (1, gv_I 1)] ⟨rfl, rfl, trivial⟩ (gl_Ma_solve_26 hC hR 5000 _ _ h)
def fl_Ma_columnOf_2 (M : gq_M) : Nat → Int32 → Int32 → Option Int32
  | 0, _, _ => none
  | k + 1, v1, v2 => if (gq_f M 2) < v2 then some 0 else if 0 ≤ v2.toInt ∧ v2.toInt < ((13 : Nat) : Int) then if ((gq_i M 11) v2.toInt) = v1 then some v2 else fl_Ma_columnOf_2 M k v1 (v2 + 1) else none
def fn_Ma_columnOf (p0 : Int32) (M : gq_M) : Option Int32 := fl_Ma_columnOf_2 M 5000 p0 1
set_option maxHeartbeats 4000000 in
set_option maxRecDepth 100000 in
theorem gl_Ma_columnOf_2 {x : gx_X} {G : gq_M × (Int → Int64)} {M : gq_M} {r : Int32} (hC : gw_C 81 0 yn_Ma_columnOf.cls bc_Ma_columnOf 3 x) (hR : gr_I 81 bc_Ma_columnOf 3 .int ({ frames := 0, cells := 0, slots := 0, locals := 0 } : Room) x (fun z c2 => z = r ∧ c2 = ca_A (M, G))) : ∀ (k : Nat) (v1 : Int32) (v2 : Int32), fl_Ma_columnOf_2 M k v1 v2 = some r → gw_G 81 3 ({ frames := 0, cells := 0, slots := 0, locals := 0 } : Room) x 0 0 (ca_A (M, G)) 2 [(0, gv_R 3), (1, gv_I v1), (2, gv_I v2)] [] := by
  intro k
  induction k with
  | zero =>
    intro v1 v2 h
    cases h
  | succ k ih =>
    intro v1 v2 h
    rw [fl_Ma_columnOf_2] at h
    refine gx_iload_n hC dr_Ma_columnOf_2 rfl ?_
    refine gx_aload_n hC dr_Ma_columnOf_3 rfl ?_
    refine gx_get hC dr_Ma_columnOf_4 lf_Ma_43 (by decide) rfl rfl ?_
    refine gx_icmp_gt (tgt := 28) hC dr_Ma_columnOf_7 (by decide) (fun hc1 => ?_) (fun hc1 => ?_)
    · rw [if_pos (show (gq_f M 2) < v2 from hc1)] at h
      refine gx_iconst (v := 0) hC dr_Ma_columnOf_28 (by decide) ?_
      obtain rfl := Option.some.inj h
      exact hR (by decide) (by decide) dr_Ma_columnOf_29 rfl ⟨rfl, rfl⟩
    · rw [if_neg (show ¬ ((gq_f M 2) < v2) from hc1)] at h
      refine gx_aload_n hC dr_Ma_columnOf_10 rfl ?_
      refine gx_get hC dr_Ma_columnOf_11 lf_Ma_27 (by decide) rfl rfl ?_
      refine gx_iload_n hC dr_Ma_columnOf_14 rfl ?_
      obtain ⟨hz2, h⟩ := gk_of h
      refine gx_iald (f := (gq_i M 11)) hC dr_Ma_columnOf_15 (by decide) rfl hz2 ?_
      refine gx_iload_n hC dr_Ma_columnOf_16 rfl ?_
      refine gx_icmp_ne (tgt := 22) hC dr_Ma_columnOf_17 (by decide) (fun hc3 => ?_) (fun hc3 => ?_)
      · rw [if_neg (show ¬ (((gq_i M 11) v2.toInt) = v1) from hc3)] at h
        refine gx_iinc (v := (v2 + 1)) hC dr_Ma_columnOf_22 rfl (by decide) rfl ?_
        refine gx_goto (tgt := 2) hC dr_Ma_columnOf_25 (by decide) ?_
        exact gx_lv [(0, gv_R 3), (1, gv_I v1), (2, gv_I (v2 + 1))] ⟨rfl, rfl, rfl, trivial⟩ (ih _ _ h)
      · rw [if_pos (show ((gq_i M 11) v2.toInt) = v1 from hc3)] at h
        refine gx_iload_n hC dr_Ma_columnOf_20 rfl ?_
        obtain rfl := Option.some.inj h
        exact hR (by decide) (by decide) dr_Ma_columnOf_21 rfl ⟨rfl, rfl⟩
set_option maxHeartbeats 4000000 in
set_option maxRecDepth 100000 in
theorem mt_Ma_columnOf {l : Launch} {D : va_G} {ad : Nat → Nat} {ck : Nat → ClassId} {G : gq_M × (Int → Int64)} {p0 : Int32} {M : gq_M} {r : Int32} (h : fn_Ma_columnOf p0 M = some r) : gm_I 81 0 l D ad ck yn_Ma_columnOf bc_Ma_columnOf 3 .int ({ frames := 0, cells := 0, slots := 0, locals := 0 } : Room) [gv_R 3, gv_I p0] (ca_A (M, G)) (fun z c2 => z = r ∧ c2 = ca_A (M, G)) := by
  refine gm_I.of (by decide) (Nat.le_of_ble_eq_true rfl) (fun x hC hR => ?_)
  unfold fn_Ma_columnOf at h
  refine gx_iconst (v := 1) hC dr_Ma_columnOf_0 (by decide) ?_
  refine gx_istore_n hC dr_Ma_columnOf_1 (by decide) ?_
  exact gx_lv [(0, gv_R 3), (1, gv_I p0), (2, gv_I 1)] ⟨rfl, rfl, rfl, trivial⟩ (gl_Ma_columnOf_2 hC hR 5000 _ _ h)
def fl_Ma_queueFrom_6 : Nat → Int32 → Int32 → Int32 → Int32 → gq_M → Option (Int32 × gq_M)
  | 0, _, _, _, _, _ => none
  | k + 1, v1, v2, v4, v5, M => if (gq_f M 2) < v5 then some (v4, M) else if 0 ≤ v5.toInt ∧ v5.toInt < ((13 : Nat) : Int) then if ((gq_i M 13) v5.toInt) = 0 then if ((gq_i M 11) v5.toInt) < v2 then fl_Ma_queueFrom_6 k v1 v2 v4 (v5 + 1) M else if 0 ≤ v1.toInt ∧ v1.toInt < ((13 : Nat) : Int) then (fn_Ma_extraCost ((gq_i M 11) v1.toInt) v5 M).bind fun q8 => if q8 = (Int64.ofNat (0 : Fin 2).val) then if 0 ≤ v4.toInt ∧ v4.toInt < ((13 : Nat) : Int) then fl_Ma_queueFrom_6 k v1 v2 (v4 + 1) (v5 + 1) (gs_i (gs_i (gs_i M 13 (gz_u (gq_i M 13) v5.toInt 1)) 12 (gz_u (gq_i M 12) v5.toInt v1)) 14 (gz_u (gq_i M 14) v4.toInt v5)) else none else fl_Ma_queueFrom_6 k v1 v2 v4 (v5 + 1) M else none else fl_Ma_queueFrom_6 k v1 v2 v4 (v5 + 1) M else none
def fn_Ma_queueFrom (p0 : Int32) (p1 : Int32) (p2 : Int32) (M : gq_M) : Option (Int32 × gq_M) := fl_Ma_queueFrom_6 5000 p0 p1 p2 1 M
set_option maxHeartbeats 4000000 in
set_option maxRecDepth 100000 in
theorem gl_Ma_queueFrom_6 {x : gx_X} {G : gq_M × (Int → Int64)} {r : (Int32 × gq_M)} (hC : gw_C 81 81 yn_Ma_queueFrom.cls bc_Ma_queueFrom 7 x) (hR : gr_I 81 bc_Ma_queueFrom 7 .int ({ frames := 1, cells := 0, slots := 0, locals := 22 } : Room) x (fun z c2 => z = r.1 ∧ c2 = ca_A (r.2, G))) : ∀ (k : Nat) (v1 : Int32) (v2 : Int32) (v4 : Int32) (v5 : Int32) (M : gq_M), fl_Ma_queueFrom_6 k v1 v2 v4 v5 M = some r → gw_G 81 7 ({ frames := 1, cells := 0, slots := 0, locals := 22 } : Room) x 0 0 (ca_A (M, G)) 6 [(0, gv_R 3), (1, gv_I v1), (2, gv_I v2), (4, gv_I v4), (5, gv_I v5)] [] := by
  intro k
  induction k with
  | zero =>
    intro v1 v2 v4 v5 M h
    cases h
  | succ k ih =>
    intro v1 v2 v4 v5 M h
    rw [fl_Ma_queueFrom_6] at h
    refine gx_iload hC dr_Ma_queueFrom_6 rfl ?_
    refine gx_aload_n hC dr_Ma_queueFrom_8 rfl ?_
    refine gx_get hC dr_Ma_queueFrom_9 lf_Ma_43 (by decide) rfl rfl ?_
    refine gx_icmp_gt (tgt := 99) hC dr_Ma_queueFrom_12 (by decide) (fun hc1 => ?_) (fun hc1 => ?_)
    · rw [if_pos (show (gq_f M 2) < v5 from hc1)] at h
      refine gx_iload hC dr_Ma_queueFrom_99 rfl ?_
      obtain rfl := Option.some.inj h
      exact hR (by decide) (by decide) dr_Ma_queueFrom_101 rfl ⟨rfl, rfl⟩
    · rw [if_neg (show ¬ ((gq_f M 2) < v5) from hc1)] at h
      refine gx_aload_n hC dr_Ma_queueFrom_15 rfl ?_
      refine gx_get hC dr_Ma_queueFrom_16 lf_Ma_36 (by decide) rfl rfl ?_
      refine gx_iload hC dr_Ma_queueFrom_19 rfl ?_
      obtain ⟨hz2, h⟩ := gk_of h
      refine gx_zald (f := (gq_i M 13)) hC dr_Ma_queueFrom_21 (by decide) rfl hz2 ?_
      refine gx_if_ne (tgt := 40) hC dr_Ma_queueFrom_22 (by decide) (fun hc3 => ?_) (fun hc3 => ?_)
      · rw [if_neg (show ¬ (((gq_i M 13) v5.toInt) = 0) from hc3)] at h
        refine gx_iconst (v := 0) hC dr_Ma_queueFrom_40 (by decide) ?_
        refine gx_istore hC dr_Ma_queueFrom_41 (by decide) ?_
        refine gx_iload hC dr_Ma_queueFrom_43 rfl ?_
        refine gx_if_eq (tgt := 93) hC dr_Ma_queueFrom_45 (by decide) (fun hc12 => ?_) (fun hc12 => ?_)
        · refine gx_iinc (v := (v5 + 1)) hC dr_Ma_queueFrom_93 rfl (by decide) rfl ?_
          refine gx_goto (tgt := 6) hC dr_Ma_queueFrom_96 (by decide) ?_
          exact gx_lv [(0, gv_R 3), (1, gv_I v1), (2, gv_I v2), (4, gv_I v4), (5, gv_I (v5 + 1))] ⟨rfl, rfl, rfl, rfl, rfl, trivial⟩ (ih _ _ _ _ _ h)
        · exact absurd (show ¬ ((0 : Int32) = 0) from hc12) (by decide)
      · rw [if_pos (show ((gq_i M 13) v5.toInt) = 0 from hc3)] at h
        refine gx_aload_n hC dr_Ma_queueFrom_25 rfl ?_
        refine gx_get hC dr_Ma_queueFrom_26 lf_Ma_27 (by decide) rfl rfl ?_
        refine gx_iload hC dr_Ma_queueFrom_29 rfl ?_
        refine gx_iald (f := (gq_i M 11)) hC dr_Ma_queueFrom_31 (by decide) rfl hz2 ?_
        refine gx_iload_n hC dr_Ma_queueFrom_32 rfl ?_
        refine gx_icmp_lt (tgt := 40) hC dr_Ma_queueFrom_33 (by decide) (fun hc4 => ?_) (fun hc4 => ?_)
        · rw [if_pos (show ((gq_i M 11) v5.toInt) < v2 from hc4)] at h
          refine gx_iconst (v := 0) hC dr_Ma_queueFrom_40 (by decide) ?_
          refine gx_istore hC dr_Ma_queueFrom_41 (by decide) ?_
          refine gx_iload hC dr_Ma_queueFrom_43 rfl ?_
          refine gx_if_eq (tgt := 93) hC dr_Ma_queueFrom_45 (by decide) (fun hc5 => ?_) (fun hc5 => ?_)
          · refine gx_iinc (v := (v5 + 1)) hC dr_Ma_queueFrom_93 rfl (by decide) rfl ?_
            refine gx_goto (tgt := 6) hC dr_Ma_queueFrom_96 (by decide) ?_
            exact gx_lv [(0, gv_R 3), (1, gv_I v1), (2, gv_I v2), (4, gv_I v4), (5, gv_I (v5 + 1))] ⟨rfl, rfl, rfl, rfl, rfl, trivial⟩ (ih _ _ _ _ _ h)
          · exact absurd (show ¬ ((0 : Int32) = 0) from hc5) (by decide)
        · rw [if_neg (show ¬ (((gq_i M 11) v5.toInt) < v2) from hc4)] at h
          refine gx_iconst (v := 1) hC dr_Ma_queueFrom_36 (by decide) ?_
          refine gx_goto (tgt := 41) hC dr_Ma_queueFrom_37 (by decide) ?_
          refine gx_istore hC dr_Ma_queueFrom_41 (by decide) ?_
          refine gx_iload hC dr_Ma_queueFrom_43 rfl ?_
          refine gx_if_eq (tgt := 93) hC dr_Ma_queueFrom_45 (by decide) (fun hc6 => ?_) (fun hc6 => ?_)
          · exact absurd (show (1 : Int32) = 0 from hc6) (by decide)
          · refine gx_aload_n hC dr_Ma_queueFrom_48 rfl ?_
            refine gx_aload_n hC dr_Ma_queueFrom_49 rfl ?_
            refine gx_get hC dr_Ma_queueFrom_50 lf_Ma_27 (by decide) rfl rfl ?_
            refine gx_iload_n hC dr_Ma_queueFrom_53 rfl ?_
            obtain ⟨hz7, h⟩ := gk_of h
            refine gx_iald (f := (gq_i M 11)) hC dr_Ma_queueFrom_54 (by decide) rfl hz7 ?_
            refine gx_iload hC dr_Ma_queueFrom_55 rfl ?_
            obtain ⟨q8, e9, h⟩ := gb_of h
            refine gx_vJ hC dr_Ma_queueFrom_57 lk_Ma_77 (mt_Ma_extraCost e9) rfl (by decide) ⟨by decide, by decide⟩ ⟨by decide, by decide⟩ (by decide) ⟨_, _, rfl⟩ rfl rfl (Nat.le_of_ble_eq_true rfl) (fun z c2 hp => ?_)
            obtain ⟨hp1, rfl⟩ := hp; obtain rfl := hp1.symm
            refine gx_lconst hC dr_Ma_queueFrom_60 ?_
            refine gx_lcmp_ne (tgt := 93) hC dr_Ma_queueFrom_61 dr_Ma_queueFrom_62 (by decide) (fun hc10 => ?_) (fun hc10 => ?_)
            · rw [if_neg (show ¬ (q8 = (Int64.ofNat (0 : Fin 2).val)) from hc10)] at h
              refine gx_iinc (v := (v5 + 1)) hC dr_Ma_queueFrom_93 rfl (by decide) rfl ?_
              refine gx_goto (tgt := 6) hC dr_Ma_queueFrom_96 (by decide) ?_
              exact gx_lv [(0, gv_R 3), (1, gv_I v1), (2, gv_I v2), (4, gv_I v4), (5, gv_I (v5 + 1))] ⟨rfl, rfl, rfl, rfl, rfl, trivial⟩ (ih _ _ _ _ _ h)
            · rw [if_pos (show q8 = (Int64.ofNat (0 : Fin 2).val) from hc10)] at h
              refine gx_aload_n hC dr_Ma_queueFrom_65 rfl ?_
              refine gx_get hC dr_Ma_queueFrom_66 lf_Ma_36 (by decide) rfl rfl ?_
              refine gx_iload hC dr_Ma_queueFrom_69 rfl ?_
              refine gx_iconst (v := 1) hC dr_Ma_queueFrom_71 (by decide) ?_
              refine gx_zast (f := (gq_i M 13)) hC (by decide) dr_Ma_queueFrom_72 (by decide) rfl hz2 (ca_I 13 (by decide)) ?_
              refine gx_aload_n hC dr_Ma_queueFrom_73 rfl ?_
              refine gx_get hC dr_Ma_queueFrom_74 lf_Ma_30 (by decide) rfl rfl ?_
              refine gx_iload hC dr_Ma_queueFrom_77 rfl ?_
              refine gx_iload_n hC dr_Ma_queueFrom_79 rfl ?_
              refine gx_iast (f := (gq_i M 12)) hC (by decide) dr_Ma_queueFrom_80 (by decide) rfl hz2 (ca_I 12 (by decide)) ?_
              refine gx_aload_n hC dr_Ma_queueFrom_81 rfl ?_
              refine gx_get hC dr_Ma_queueFrom_82 lf_Ma_40 (by decide) rfl rfl ?_
              refine gx_iload hC dr_Ma_queueFrom_85 rfl ?_
              refine gx_iload hC dr_Ma_queueFrom_87 rfl ?_
              obtain ⟨hz11, h⟩ := gk_of h
              refine gx_iast (f := (gq_i M 14)) hC (by decide) dr_Ma_queueFrom_89 (by decide) rfl hz11 (ca_I 14 (by decide)) ?_
              refine gx_iinc (v := (v4 + 1)) hC dr_Ma_queueFrom_90 rfl (by decide) rfl ?_
              refine gx_iinc (v := (v5 + 1)) hC dr_Ma_queueFrom_93 rfl (by decide) rfl ?_
              refine gx_goto (tgt := 6) hC dr_Ma_queueFrom_96 (by decide) ?_
              exact gx_lv [(0, gv_R 3), (1, gv_I v1), (2, gv_I v2), (4, gv_I (v4 + 1)), (5, gv_I (v5 + 1))] ⟨rfl, rfl, rfl, rfl, rfl, trivial⟩ (ih _ _ _ _ _ h)
set_option maxHeartbeats 4000000 in
set_option maxRecDepth 100000 in
theorem mt_Ma_queueFrom {l : Launch} {D : va_G} {ad : Nat → Nat} {ck : Nat → ClassId} {G : gq_M × (Int → Int64)} {p0 : Int32} {p1 : Int32} {p2 : Int32} {M : gq_M} {r : (Int32 × gq_M)} (h : fn_Ma_queueFrom p0 p1 p2 M = some r) : gm_I 81 81 l D ad ck yn_Ma_queueFrom bc_Ma_queueFrom 7 .int ({ frames := 1, cells := 0, slots := 0, locals := 22 } : Room) [gv_R 3, gv_I p0, gv_I p1, gv_I p2] (ca_A (M, G)) (fun z c2 => z = r.1 ∧ c2 = ca_A (r.2, G)) := by
  refine gm_I.of (by decide) (Nat.le_of_ble_eq_true rfl) (fun x hC hR => ?_)
  unfold fn_Ma_queueFrom at h
  refine gx_iload_n hC dr_Ma_queueFrom_0 rfl ?_
  refine gx_istore hC dr_Ma_queueFrom_1 (by decide) ?_
  refine gx_iconst (v := 1) hC dr_Ma_queueFrom_3 (by decide) ?_
  refine gx_istore hC dr_Ma_queueFrom_4 (by decide) ?_
  exact gx_lv [(0, gv_R 3), (1, gv_I p0), (2, gv_I p1), (4, gv_I p2), (5, gv_I 1)] ⟨rfl, rfl, rfl, rfl, rfl, trivial⟩ (gl_Ma_queueFrom_6 hC hR 5000 _ _ _ _ _ h)
def fl_Ma_reaches_38 : Nat → Int32 → Int32 → Int32 → Int32 → gq_M → Option (Int32 × gq_M)
  | 0, _, _, _, _, _ => none
  | k + 1, v1, v3, v4, v5, M => if (gq_f M 2) ≤ v5 then if 0 ≤ v3.toInt ∧ v3.toInt < ((13 : Nat) : Int) then if vp_nar .boolean ((gq_i M 13) v3.toInt) = ((gq_i M 13) v3.toInt) then some (((gq_i M 13) v3.toInt), M) else none else none else if v4 ≤ v5 then if 0 ≤ v3.toInt ∧ v3.toInt < ((13 : Nat) : Int) then if vp_nar .boolean ((gq_i M 13) v3.toInt) = ((gq_i M 13) v3.toInt) then some (((gq_i M 13) v3.toInt), M) else none else none else if 0 ≤ v3.toInt ∧ v3.toInt < ((13 : Nat) : Int) then if ((gq_i M 13) v3.toInt) = 0 then if 0 ≤ v5.toInt ∧ v5.toInt < ((13 : Nat) : Int) then (fn_Ma_queueFrom ((gq_i M 14) v5.toInt) v1 v4 M).bind fun q14 => fl_Ma_reaches_38 k v1 v3 q14.1 (v5 + 1) q14.2 else none else if vp_nar .boolean ((gq_i M 13) v3.toInt) = ((gq_i M 13) v3.toInt) then some (((gq_i M 13) v3.toInt), M) else none else none
def fn_Ma_reaches (p0 : Int32) (p1 : Int32) (p2 : Int32) (M : gq_M) : Option (Int32 × gq_M) := (fn_Ma_forgetSeen  M).bind fun q1 => if 0 ≤ p1.toInt ∧ p1.toInt < ((13 : Nat) : Int) then fl_Ma_reaches_38 5000 p0 p2 1 0 (gs_i (gs_i (gs_i (gs_i q1 11 (gz_u (gq_i q1 11) 0 p0)) 12 (gz_u (gq_i q1 12) p1.toInt 0)) 13 (gz_u (gq_i q1 13) p1.toInt 1)) 14 (gz_u (gq_i q1 14) 0 p1)) else none
set_option maxHeartbeats 4000000 in
set_option maxRecDepth 100000 in
theorem gl_Ma_reaches_38 {x : gx_X} {G : gq_M × (Int → Int64)} {r : (Int32 × gq_M)} (hC : gw_C 81 81 yn_Ma_reaches.cls bc_Ma_reaches 6 x) (hR : gr_I 81 bc_Ma_reaches 6 .boolean ({ frames := 2, cells := 0, slots := 0, locals := 48 } : Room) x (fun z c2 => z = r.1 ∧ c2 = ca_A (r.2, G))) : ∀ (k : Nat) (v1 : Int32) (v3 : Int32) (v4 : Int32) (v5 : Int32) (M : gq_M), fl_Ma_reaches_38 k v1 v3 v4 v5 M = some r → gw_G 81 6 ({ frames := 2, cells := 0, slots := 0, locals := 48 } : Room) x 0 0 (ca_A (M, G)) 38 [(0, gv_R 3), (1, gv_I v1), (3, gv_I v3), (4, gv_I v4), (5, gv_I v5)] [] := by
  intro k
  induction k with
  | zero =>
    intro v1 v3 v4 v5 M h
    cases h
  | succ k ih =>
    intro v1 v3 v4 v5 M h
    rw [fl_Ma_reaches_38] at h
    refine gx_iload hC dr_Ma_reaches_38 rfl ?_
    refine gx_aload_n hC dr_Ma_reaches_40 rfl ?_
    refine gx_get hC dr_Ma_reaches_41 lf_Ma_43 (by decide) rfl rfl ?_
    refine gx_icmp_ge (tgt := 85) hC dr_Ma_reaches_44 (by decide) (fun hc5 => ?_) (fun hc5 => ?_)
    · rw [if_pos (show (gq_f M 2) ≤ v5 from hc5)] at h
      refine gx_aload_n hC dr_Ma_reaches_85 rfl ?_
      refine gx_get hC dr_Ma_reaches_86 lf_Ma_36 (by decide) rfl rfl ?_
      refine gx_iload_n hC dr_Ma_reaches_89 rfl ?_
      obtain ⟨hz6, h⟩ := gk_of h
      refine gx_zald (f := (gq_i M 13)) hC dr_Ma_reaches_90 (by decide) rfl hz6 ?_
      obtain ⟨hz7, h⟩ := gk_of h
      obtain rfl := Option.some.inj h
      exact hR (by decide) (by decide) dr_Ma_reaches_91 (gk_nar hz7) ⟨rfl, rfl⟩
    · rw [if_neg (show ¬ ((gq_f M 2) ≤ v5) from hc5)] at h
      refine gx_iload hC dr_Ma_reaches_47 rfl ?_
      refine gx_iload hC dr_Ma_reaches_49 rfl ?_
      refine gx_icmp_ge (tgt := 85) hC dr_Ma_reaches_51 (by decide) (fun hc8 => ?_) (fun hc8 => ?_)
      · rw [if_pos (show v4 ≤ v5 from hc8)] at h
        refine gx_aload_n hC dr_Ma_reaches_85 rfl ?_
        refine gx_get hC dr_Ma_reaches_86 lf_Ma_36 (by decide) rfl rfl ?_
        refine gx_iload_n hC dr_Ma_reaches_89 rfl ?_
        obtain ⟨hz9, h⟩ := gk_of h
        refine gx_zald (f := (gq_i M 13)) hC dr_Ma_reaches_90 (by decide) rfl hz9 ?_
        obtain ⟨hz10, h⟩ := gk_of h
        obtain rfl := Option.some.inj h
        exact hR (by decide) (by decide) dr_Ma_reaches_91 (gk_nar hz10) ⟨rfl, rfl⟩
      · rw [if_neg (show ¬ (v4 ≤ v5) from hc8)] at h
        refine gx_aload_n hC dr_Ma_reaches_54 rfl ?_
        refine gx_get hC dr_Ma_reaches_55 lf_Ma_36 (by decide) rfl rfl ?_
        refine gx_iload_n hC dr_Ma_reaches_58 rfl ?_
        obtain ⟨hz11, h⟩ := gk_of h
        refine gx_zald (f := (gq_i M 13)) hC dr_Ma_reaches_59 (by decide) rfl hz11 ?_
        refine gx_if_ne (tgt := 85) hC dr_Ma_reaches_60 (by decide) (fun hc12 => ?_) (fun hc12 => ?_)
        · rw [if_neg (show ¬ (((gq_i M 13) v3.toInt) = 0) from hc12)] at h
          refine gx_aload_n hC dr_Ma_reaches_85 rfl ?_
          refine gx_get hC dr_Ma_reaches_86 lf_Ma_36 (by decide) rfl rfl ?_
          refine gx_iload_n hC dr_Ma_reaches_89 rfl ?_
          refine gx_zald (f := (gq_i M 13)) hC dr_Ma_reaches_90 (by decide) rfl hz11 ?_
          obtain ⟨hz16, h⟩ := gk_of h
          obtain rfl := Option.some.inj h
          exact hR (by decide) (by decide) dr_Ma_reaches_91 (gk_nar hz16) ⟨rfl, rfl⟩
        · rw [if_pos (show ((gq_i M 13) v3.toInt) = 0 from hc12)] at h
          refine gx_aload_n hC dr_Ma_reaches_63 rfl ?_
          refine gx_aload_n hC dr_Ma_reaches_64 rfl ?_
          refine gx_get hC dr_Ma_reaches_65 lf_Ma_40 (by decide) rfl rfl ?_
          refine gx_iload hC dr_Ma_reaches_68 rfl ?_
          obtain ⟨hz13, h⟩ := gk_of h
          refine gx_iald (f := (gq_i M 14)) hC dr_Ma_reaches_70 (by decide) rfl hz13 ?_
          refine gx_iload_n hC dr_Ma_reaches_71 rfl ?_
          refine gx_iload hC dr_Ma_reaches_72 rfl ?_
          obtain ⟨q14, e15, h⟩ := gb_of h
          refine gx_vI hC dr_Ma_reaches_74 lk_Ma_96 (mt_Ma_queueFrom e15) rfl (by decide) ⟨by decide, by decide⟩ ⟨by decide, by decide⟩ (by decide) ⟨_, _, rfl⟩ rfl rfl (Nat.le_of_ble_eq_true rfl) (fun z c2 hp => ?_)
          obtain ⟨rfl, rfl⟩ := hp
          refine gx_istore hC dr_Ma_reaches_77 (by decide) ?_
          refine gx_iinc (v := (v5 + 1)) hC dr_Ma_reaches_79 rfl (by decide) rfl ?_
          refine gx_goto (tgt := 38) hC dr_Ma_reaches_82 (by decide) ?_
          exact gx_lv [(0, gv_R 3), (1, gv_I v1), (3, gv_I v3), (4, gv_I q14.1), (5, gv_I (v5 + 1))] ⟨rfl, rfl, rfl, rfl, rfl, trivial⟩ (ih _ _ _ _ _ h)
set_option maxHeartbeats 4000000 in
set_option maxRecDepth 100000 in
theorem mt_Ma_reaches {l : Launch} {D : va_G} {ad : Nat → Nat} {ck : Nat → ClassId} {G : gq_M × (Int → Int64)} {p0 : Int32} {p1 : Int32} {p2 : Int32} {M : gq_M} {r : (Int32 × gq_M)} (h : fn_Ma_reaches p0 p1 p2 M = some r) : gm_I 81 81 l D ad ck yn_Ma_reaches bc_Ma_reaches 6 .boolean ({ frames := 2, cells := 0, slots := 0, locals := 48 } : Room) [gv_R 3, gv_I p0, gv_I p1, gv_I p2] (ca_A (M, G)) (fun z c2 => z = r.1 ∧ c2 = ca_A (r.2, G)) := by
  refine gm_I.of (by decide) (Nat.le_of_ble_eq_true rfl) (fun x hC hR => ?_)
  unfold fn_Ma_reaches at h
  refine gx_aload_n hC dr_Ma_reaches_0 rfl ?_
  obtain ⟨q1, e2, h⟩ := gb_of h
  refine gx_vV hC dr_Ma_reaches_1 lk_Ma_66 (mt_Ma_forgetSeen e2) rfl (by decide) ⟨by decide, by decide⟩ ⟨by decide, by decide⟩ (by decide) ⟨_, _, rfl⟩ rfl rfl (Nat.le_of_ble_eq_true rfl) (fun c2 hp => ?_)
  subst hp
  refine gx_aload_n hC dr_Ma_reaches_4 rfl ?_
  refine gx_get hC dr_Ma_reaches_5 lf_Ma_27 (by decide) rfl rfl ?_
  refine gx_iconst (v := 0) hC dr_Ma_reaches_8 (by decide) ?_
  refine gx_iload_n hC dr_Ma_reaches_9 rfl ?_
  have hz3 : 0 ≤ (0 : Int32).toInt ∧ (0 : Int32).toInt < ((13 : Nat) : Int) := by decide
  refine gx_iast (f := (gq_i q1 11)) hC (by decide) dr_Ma_reaches_10 (by decide) rfl hz3 (ca_I 11 (by decide)) ?_
  refine gx_aload_n hC dr_Ma_reaches_11 rfl ?_
  refine gx_get hC dr_Ma_reaches_12 lf_Ma_30 (by decide) rfl rfl ?_
  refine gx_iload_n hC dr_Ma_reaches_15 rfl ?_
  refine gx_iconst (v := 0) hC dr_Ma_reaches_16 (by decide) ?_
  obtain ⟨hz4, h⟩ := gk_of h
  refine gx_iast (f := (gq_i q1 12)) hC (by decide) dr_Ma_reaches_17 (by decide) rfl hz4 (ca_I 12 (by decide)) ?_
  refine gx_aload_n hC dr_Ma_reaches_18 rfl ?_
  refine gx_get hC dr_Ma_reaches_19 lf_Ma_36 (by decide) rfl rfl ?_
  refine gx_iload_n hC dr_Ma_reaches_22 rfl ?_
  refine gx_iconst (v := 1) hC dr_Ma_reaches_23 (by decide) ?_
  refine gx_zast (f := (gq_i q1 13)) hC (by decide) dr_Ma_reaches_24 (by decide) rfl hz4 (ca_I 13 (by decide)) ?_
  refine gx_aload_n hC dr_Ma_reaches_25 rfl ?_
  refine gx_get hC dr_Ma_reaches_26 lf_Ma_40 (by decide) rfl rfl ?_
  refine gx_iconst (v := 0) hC dr_Ma_reaches_29 (by decide) ?_
  refine gx_iload_n hC dr_Ma_reaches_30 rfl ?_
  refine gx_iast (f := (gq_i q1 14)) hC (by decide) dr_Ma_reaches_31 (by decide) rfl hz3 (ca_I 14 (by decide)) ?_
  refine gx_iconst (v := 1) hC dr_Ma_reaches_32 (by decide) ?_
  refine gx_istore hC dr_Ma_reaches_33 (by decide) ?_
  refine gx_iconst (v := 0) hC dr_Ma_reaches_35 (by decide) ?_
  refine gx_istore hC dr_Ma_reaches_36 (by decide) ?_
  exact gx_lv [(0, gv_R 3), (1, gv_I p0), (3, gv_I p2), (4, gv_I 1), (5, gv_I 0)] ⟨rfl, rfl, rfl, rfl, rfl, trivial⟩ (gl_Ma_reaches_38 hC hR 5000 _ _ _ _ _ h)
def fn_Ma_takes (p0 : Int32) (p1 : Int32) (M : gq_M) : Option (Int32 × gq_M) := if 0 ≤ p1.toInt ∧ p1.toInt < ((13 : Nat) : Int) then if ((gq_i M 11) p1.toInt) = p0 then some (1, M) else if ((gq_i M 11) p1.toInt) < p0 then some (0, M) else (fn_Ma_extraCost p0 p1 M).bind fun q4 => if q4 = (Int64.ofNat (0 : Fin 2).val) then (fn_Ma_columnOf p0 M).bind fun q7 => (fn_Ma_reaches p0 p1 q7 M).bind fun q9 => if q9.1 = 0 then some (0, q9.2) else (fn_Ma_moveAlong q7 q9.2).bind fun q12 => some (1, q12) else some (0, M) else none
set_option maxHeartbeats 4000000 in
set_option maxRecDepth 100000 in
theorem mt_Ma_takes {l : Launch} {D : va_G} {ad : Nat → Nat} {ck : Nat → ClassId} {G : gq_M × (Int → Int64)} {p0 : Int32} {p1 : Int32} {M : gq_M} {r : (Int32 × gq_M)} (h : fn_Ma_takes p0 p1 M = some r) : gm_I 81 81 l D ad ck yn_Ma_takes bc_Ma_takes 4 .boolean ({ frames := 3, cells := 0, slots := 0, locals := 73 } : Room) [gv_R 3, gv_I p0, gv_I p1] (ca_A (M, G)) (fun z c2 => z = r.1 ∧ c2 = ca_A (r.2, G)) := by
  refine gm_I.of (by decide) (Nat.le_of_ble_eq_true rfl) (fun x hC hR => ?_)
  unfold fn_Ma_takes at h
  refine gx_aload_n hC dr_Ma_takes_0 rfl ?_
  refine gx_get hC dr_Ma_takes_1 lf_Ma_27 (by decide) rfl rfl ?_
  refine gx_iload_n hC dr_Ma_takes_4 rfl ?_
  obtain ⟨hz1, h⟩ := gk_of h
  refine gx_iald (f := (gq_i M 11)) hC dr_Ma_takes_5 (by decide) rfl hz1 ?_
  refine gx_iload_n hC dr_Ma_takes_6 rfl ?_
  refine gx_icmp_ne (tgt := 12) hC dr_Ma_takes_7 (by decide) (fun hc2 => ?_) (fun hc2 => ?_)
  · rw [if_neg (show ¬ (((gq_i M 11) p1.toInt) = p0) from hc2)] at h
    refine gx_aload_n hC dr_Ma_takes_12 rfl ?_
    refine gx_get hC dr_Ma_takes_13 lf_Ma_27 (by decide) rfl rfl ?_
    refine gx_iload_n hC dr_Ma_takes_16 rfl ?_
    refine gx_iald (f := (gq_i M 11)) hC dr_Ma_takes_17 (by decide) rfl hz1 ?_
    refine gx_iload_n hC dr_Ma_takes_18 rfl ?_
    refine gx_icmp_lt (tgt := 33) hC dr_Ma_takes_19 (by decide) (fun hc3 => ?_) (fun hc3 => ?_)
    · rw [if_pos (show ((gq_i M 11) p1.toInt) < p0 from hc3)] at h
      refine gx_iconst (v := 0) hC dr_Ma_takes_33 (by decide) ?_
      obtain rfl := Option.some.inj h
      exact hR (by decide) (by decide) dr_Ma_takes_34 rfl ⟨rfl, rfl⟩
    · rw [if_neg (show ¬ (((gq_i M 11) p1.toInt) < p0) from hc3)] at h
      refine gx_aload_n hC dr_Ma_takes_22 rfl ?_
      refine gx_iload_n hC dr_Ma_takes_23 rfl ?_
      refine gx_iload_n hC dr_Ma_takes_24 rfl ?_
      obtain ⟨q4, e5, h⟩ := gb_of h
      refine gx_vJ hC dr_Ma_takes_25 lk_Ma_77 (mt_Ma_extraCost e5) rfl (by decide) ⟨by decide, by decide⟩ ⟨by decide, by decide⟩ (by decide) ⟨_, _, rfl⟩ rfl rfl (Nat.le_of_ble_eq_true rfl) (fun z c2 hp => ?_)
      obtain ⟨hp1, rfl⟩ := hp; obtain rfl := hp1.symm
      refine gx_lconst hC dr_Ma_takes_28 ?_
      refine gx_lcmp_eq (tgt := 35) hC dr_Ma_takes_29 dr_Ma_takes_30 (by decide) (fun hc6 => ?_) (fun hc6 => ?_)
      · rw [if_pos (show q4 = (Int64.ofNat (0 : Fin 2).val) from hc6)] at h
        refine gx_aload_n hC dr_Ma_takes_35 rfl ?_
        refine gx_iload_n hC dr_Ma_takes_36 rfl ?_
        obtain ⟨q7, e8, h⟩ := gb_of h
        refine gx_vI hC dr_Ma_takes_37 lk_Ma_89 (mt_Ma_columnOf e8) rfl (by decide) ⟨by decide, by decide⟩ ⟨by decide, by decide⟩ (by decide) ⟨_, _, rfl⟩ rfl rfl (Nat.le_of_ble_eq_true rfl) (fun z c2 hp => ?_)
        obtain ⟨hp1, rfl⟩ := hp; obtain rfl := hp1.symm
        refine gx_istore_n hC dr_Ma_takes_40 (by decide) ?_
        refine gx_aload_n hC dr_Ma_takes_41 rfl ?_
        refine gx_iload_n hC dr_Ma_takes_42 rfl ?_
        refine gx_iload_n hC dr_Ma_takes_43 rfl ?_
        refine gx_iload_n hC dr_Ma_takes_44 rfl ?_
        obtain ⟨q9, e10, h⟩ := gb_of h
        refine gx_vI hC dr_Ma_takes_45 lk_Ma_92 (mt_Ma_reaches e10) rfl (by decide) ⟨by decide, by decide⟩ ⟨by decide, by decide⟩ (by decide) ⟨_, _, rfl⟩ rfl rfl (Nat.le_of_ble_eq_true rfl) (fun z c2 hp => ?_)
        obtain ⟨rfl, rfl⟩ := hp
        refine gx_if_ne (tgt := 53) hC dr_Ma_takes_48 (by decide) (fun hc11 => ?_) (fun hc11 => ?_)
        · rw [if_neg (show ¬ (q9.1 = 0) from hc11)] at h
          refine gx_aload_n hC dr_Ma_takes_53 rfl ?_
          refine gx_iload_n hC dr_Ma_takes_54 rfl ?_
          obtain ⟨q12, e13, h⟩ := gb_of h
          refine gx_vV hC dr_Ma_takes_55 lk_Ma_74 (mt_Ma_moveAlong e13) rfl (by decide) ⟨by decide, by decide⟩ ⟨by decide, by decide⟩ (by decide) ⟨_, _, rfl⟩ rfl rfl (Nat.le_of_ble_eq_true rfl) (fun c2 hp => ?_)
          subst hp
          refine gx_iconst (v := 1) hC dr_Ma_takes_58 (by decide) ?_
          obtain rfl := Option.some.inj h
          exact hR (by decide) (by decide) dr_Ma_takes_59 rfl ⟨rfl, rfl⟩
        · rw [if_pos (show q9.1 = 0 from hc11)] at h
          refine gx_iconst (v := 0) hC dr_Ma_takes_51 (by decide) ?_
          obtain rfl := Option.some.inj h
          exact hR (by decide) (by decide) dr_Ma_takes_52 rfl ⟨rfl, rfl⟩
      · rw [if_neg (show ¬ (q4 = (Int64.ofNat (0 : Fin 2).val)) from hc6)] at h
        refine gx_iconst (v := 0) hC dr_Ma_takes_33 (by decide) ?_
        obtain rfl := Option.some.inj h
        exact hR (by decide) (by decide) dr_Ma_takes_34 rfl ⟨rfl, rfl⟩
  · rw [if_pos (show ((gq_i M 11) p1.toInt) = p0 from hc2)] at h
    refine gx_iconst (v := 1) hC dr_Ma_takes_10 (by decide) ?_
    obtain rfl := Option.some.inj h
    exact hR (by decide) (by decide) dr_Ma_takes_11 rfl ⟨rfl, rfl⟩
def fl_Ma_settleTies_19 (K2 : Int32 → gq_M → Option gq_M) : Nat → Int32 → Int32 → Int32 → gq_M → Option gq_M
  | 0, _, _, _, _ => none
  | k + 1, v1, v2, v3, M => if (gq_f M 2) < v3 then K2 (v1 + 1) M else if v2 = 0 then (fn_Ma_takes v1 v3 M).bind fun q6 => fl_Ma_settleTies_19 K2 k v1 q6.1 (v3 + 1) q6.2 else K2 (v1 + 1) M
def fl_Ma_settleTies_2 : Nat → Int32 → gq_M → Option gq_M
  | 0, _, _ => none
  | k + 1, v1, M => if (gq_f M 2) < v1 then some M else (fn_Ma_takes v1 v1 M).bind fun q2 => fl_Ma_settleTies_19 (fl_Ma_settleTies_2 k) 5000 v1 q2.1 1 q2.2
def fn_Ma_settleTies  (M : gq_M) : Option gq_M := fl_Ma_settleTies_2 5000 1 M
set_option maxHeartbeats 4000000 in
set_option maxRecDepth 100000 in
theorem gl_Ma_settleTies_19 {x : gx_X} {G : gq_M × (Int → Int64)} {r : gq_M} (hC : gw_C 81 81 yn_Ma_settleTies.cls bc_Ma_settleTies 4 x) (hR : gr_V 81 bc_Ma_settleTies 4 ({ frames := 4, cells := 0, slots := 0, locals := 96 } : Room) x (fun c2 => c2 = ca_A (r, G))) {K2 : Int32 → gq_M → Option gq_M} (hK2 : ∀ (v1 : Int32) (M : gq_M), K2 v1 M = some r → gw_G 81 4 ({ frames := 4, cells := 0, slots := 0, locals := 96 } : Room) x 0 0 (ca_A (M, G)) 2 [(0, gv_R 3), (1, gv_I v1)] []) : ∀ (k : Nat) (v1 : Int32) (v2 : Int32) (v3 : Int32) (M : gq_M), fl_Ma_settleTies_19 K2 k v1 v2 v3 M = some r → gw_G 81 4 ({ frames := 4, cells := 0, slots := 0, locals := 96 } : Room) x 0 0 (ca_A (M, G)) 19 [(0, gv_R 3), (1, gv_I v1), (2, gv_I v2), (3, gv_I v3)] [] := by
  intro k
  induction k with
  | zero =>
    intro v1 v2 v3 M h
    cases h
  | succ k ih =>
    intro v1 v2 v3 M h
    rw [fl_Ma_settleTies_19] at h
    refine gx_iload_n hC dr_Ma_settleTies_19 rfl ?_
    refine gx_aload_n hC dr_Ma_settleTies_20 rfl ?_
    refine gx_get hC dr_Ma_settleTies_21 lf_Ma_43 (by decide) rfl rfl ?_
    refine gx_icmp_gt (tgt := 44) hC dr_Ma_settleTies_24 (by decide) (fun hc4 => ?_) (fun hc4 => ?_)
    · rw [if_pos (show (gq_f M 2) < v3 from hc4)] at h
      refine gx_iinc (v := (v1 + 1)) hC dr_Ma_settleTies_44 rfl (by decide) rfl ?_
      refine gx_goto (tgt := 2) hC dr_Ma_settleTies_47 (by decide) ?_
      exact gx_lv [(0, gv_R 3), (1, gv_I (v1 + 1))] ⟨rfl, rfl, trivial⟩ (hK2 _ _ h)
    · rw [if_neg (show ¬ ((gq_f M 2) < v3) from hc4)] at h
      refine gx_iload_n hC dr_Ma_settleTies_27 rfl ?_
      refine gx_if_ne (tgt := 44) hC dr_Ma_settleTies_28 (by decide) (fun hc5 => ?_) (fun hc5 => ?_)
      · rw [if_neg (show ¬ (v2 = 0) from hc5)] at h
        refine gx_iinc (v := (v1 + 1)) hC dr_Ma_settleTies_44 rfl (by decide) rfl ?_
        refine gx_goto (tgt := 2) hC dr_Ma_settleTies_47 (by decide) ?_
        exact gx_lv [(0, gv_R 3), (1, gv_I (v1 + 1))] ⟨rfl, rfl, trivial⟩ (hK2 _ _ h)
      · rw [if_pos (show v2 = 0 from hc5)] at h
        refine gx_aload_n hC dr_Ma_settleTies_31 rfl ?_
        refine gx_iload_n hC dr_Ma_settleTies_32 rfl ?_
        refine gx_iload_n hC dr_Ma_settleTies_33 rfl ?_
        obtain ⟨q6, e7, h⟩ := gb_of h
        refine gx_vI hC dr_Ma_settleTies_34 lk_Ma_85 (mt_Ma_takes e7) rfl (by decide) ⟨by decide, by decide⟩ ⟨by decide, by decide⟩ (by decide) ⟨_, _, rfl⟩ rfl rfl (Nat.le_of_ble_eq_true rfl) (fun z c2 hp => ?_)
        obtain ⟨rfl, rfl⟩ := hp
        refine gx_istore_n hC dr_Ma_settleTies_37 (by decide) ?_
        refine gx_iinc (v := (v3 + 1)) hC dr_Ma_settleTies_38 rfl (by decide) rfl ?_
        refine gx_goto (tgt := 19) hC dr_Ma_settleTies_41 (by decide) ?_
        exact gx_lv [(0, gv_R 3), (1, gv_I v1), (2, gv_I q6.1), (3, gv_I (v3 + 1))] ⟨rfl, rfl, rfl, rfl, trivial⟩ (ih _ _ _ _ h)
set_option maxHeartbeats 4000000 in
set_option maxRecDepth 100000 in
theorem gl_Ma_settleTies_2 {x : gx_X} {G : gq_M × (Int → Int64)} {r : gq_M} (hC : gw_C 81 81 yn_Ma_settleTies.cls bc_Ma_settleTies 4 x) (hR : gr_V 81 bc_Ma_settleTies 4 ({ frames := 4, cells := 0, slots := 0, locals := 96 } : Room) x (fun c2 => c2 = ca_A (r, G))) : ∀ (k : Nat) (v1 : Int32) (M : gq_M), fl_Ma_settleTies_2 k v1 M = some r → gw_G 81 4 ({ frames := 4, cells := 0, slots := 0, locals := 96 } : Room) x 0 0 (ca_A (M, G)) 2 [(0, gv_R 3), (1, gv_I v1)] [] := by
  intro k
  induction k with
  | zero =>
    intro v1 M h
    cases h
  | succ k ih =>
    intro v1 M h
    rw [fl_Ma_settleTies_2] at h
    refine gx_iload_n hC dr_Ma_settleTies_2 rfl ?_
    refine gx_aload_n hC dr_Ma_settleTies_3 rfl ?_
    refine gx_get hC dr_Ma_settleTies_4 lf_Ma_43 (by decide) rfl rfl ?_
    refine gx_icmp_gt (tgt := 50) hC dr_Ma_settleTies_7 (by decide) (fun hc1 => ?_) (fun hc1 => ?_)
    · rw [if_pos (show (gq_f M 2) < v1 from hc1)] at h
      obtain rfl := Option.some.inj h
      exact hR (by decide) (by decide) dr_Ma_settleTies_50 rfl
    · rw [if_neg (show ¬ ((gq_f M 2) < v1) from hc1)] at h
      refine gx_aload_n hC dr_Ma_settleTies_10 rfl ?_
      refine gx_iload_n hC dr_Ma_settleTies_11 rfl ?_
      refine gx_iload_n hC dr_Ma_settleTies_12 rfl ?_
      obtain ⟨q2, e3, h⟩ := gb_of h
      refine gx_vI hC dr_Ma_settleTies_13 lk_Ma_85 (mt_Ma_takes e3) rfl (by decide) ⟨by decide, by decide⟩ ⟨by decide, by decide⟩ (by decide) ⟨_, _, rfl⟩ rfl rfl (Nat.le_of_ble_eq_true rfl) (fun z c2 hp => ?_)
      obtain ⟨rfl, rfl⟩ := hp
      refine gx_istore_n hC dr_Ma_settleTies_16 (by decide) ?_
      refine gx_iconst (v := 1) hC dr_Ma_settleTies_17 (by decide) ?_
      refine gx_istore_n hC dr_Ma_settleTies_18 (by decide) ?_
      exact gx_lv [(0, gv_R 3), (1, gv_I v1), (2, gv_I q2.1), (3, gv_I 1)] ⟨rfl, rfl, rfl, rfl, trivial⟩ (gl_Ma_settleTies_19 hC hR (fun _ _ h => ih _ _ h) 5000 _ _ _ _ h)
set_option maxHeartbeats 4000000 in
set_option maxRecDepth 100000 in
theorem mt_Ma_settleTies {l : Launch} {D : va_G} {ad : Nat → Nat} {ck : Nat → ClassId} {G : gq_M × (Int → Int64)}  {M : gq_M} {r : gq_M} (h : fn_Ma_settleTies  M = some r) : gm_V 81 81 l D ad ck yn_Ma_settleTies bc_Ma_settleTies 4 ({ frames := 4, cells := 0, slots := 0, locals := 96 } : Room) [gv_R 3] (ca_A (M, G)) (fun c2 => c2 = ca_A (r, G)) := by
  refine gm_V.of (by decide) (Nat.le_of_ble_eq_true rfl) (fun x hC hR => ?_)
  unfold fn_Ma_settleTies at h
  refine gx_iconst (v := 1) hC dr_Ma_settleTies_0 (by decide) ?_
  refine gx_istore_n hC dr_Ma_settleTies_1 (by decide) ?_
  exact gx_lv [(0, gv_R 3), (1, gv_I 1)] ⟨rfl, rfl, trivial⟩ (gl_Ma_settleTies_2 hC hR 5000 _ _ h)
