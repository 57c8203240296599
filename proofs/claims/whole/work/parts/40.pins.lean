def fn_Pi_isPaired (p0 : Int32) (M : gq_M) : Option Int32 := if 0 ≤ p0.toInt ∧ p0.toInt < ((80 : Nat) : Int) then if ((gq_i M 5) p0.toInt) = (-1) then some 0 else some 1 else none
set_option maxHeartbeats 4000000 in
set_option maxRecDepth 100000 in
theorem mt_Pi_isPaired {l : Launch} {D : va_G} {ad : Nat → Nat} {ck : Nat → ClassId} {G : gq_M × (Int → Int64)} {p0 : Int32} {M : gq_M} {r : Int32} (h : fn_Pi_isPaired p0 M = some r) : gm_I 81 0 l D ad ck yn_Pi_isPaired bc_Pi_isPaired 2 .boolean ({ frames := 0, cells := 0, slots := 0, locals := 0 } : Room) [gv_R 1, gv_I p0] (ca_A (M, G)) (fun z c2 => z = r ∧ c2 = ca_A (M, G)) := by
  refine gm_I.of (by decide) (Nat.le_of_ble_eq_true rfl) (fun x hC hR => ?_)
  unfold fn_Pi_isPaired at h
  refine gx_aload_n hC dr_Pi_isPaired_0 rfl ?_
  refine gx_get hC dr_Pi_isPaired_1 lf_Pi_34 (by decide) rfl rfl ?_
  refine gx_iload_n hC dr_Pi_isPaired_4 rfl ?_
  obtain ⟨hz1, h⟩ := gk_of h
  refine gx_iald (f := (gq_i M 5)) hC dr_Pi_isPaired_5 (by decide) rfl hz1 ?_
  refine gx_iconst (v := (-1)) hC dr_Pi_isPaired_6 (by decide) ?_
  refine gx_icmp_eq (tgt := 14) hC dr_Pi_isPaired_7 (by decide) (fun hc2 => ?_) (fun hc2 => ?_)
  · rw [if_pos (show ((gq_i M 5) p0.toInt) = (-1) from hc2)] at h
    refine gx_iconst (v := 0) hC dr_Pi_isPaired_14 (by decide) ?_
    obtain rfl := Option.some.inj h
    exact hR (by decide) (by decide) dr_Pi_isPaired_15 rfl ⟨rfl, rfl⟩
  · rw [if_neg (show ¬ (((gq_i M 5) p0.toInt) = (-1)) from hc2)] at h
    refine gx_iconst (v := 1) hC dr_Pi_isPaired_10 (by decide) ?_
    refine gx_goto (tgt := 15) hC dr_Pi_isPaired_11 (by decide) ?_
    obtain rfl := Option.some.inj h
    exact hR (by decide) (by decide) dr_Pi_isPaired_15 rfl ⟨rfl, rfl⟩
def fn_Pi_unitOf (p0 : Int32) (M : gq_M) : Option Int32 := if 0 ≤ p0.toInt ∧ p0.toInt < ((80 : Nat) : Int) then if ((gq_i M 6) p0.toInt) = 0 then some p0 else some ((gq_i M 5) p0.toInt) else none
set_option maxHeartbeats 4000000 in
set_option maxRecDepth 100000 in
theorem mt_Pi_unitOf {l : Launch} {D : va_G} {ad : Nat → Nat} {ck : Nat → ClassId} {G : gq_M × (Int → Int64)} {p0 : Int32} {M : gq_M} {r : Int32} (h : fn_Pi_unitOf p0 M = some r) : gm_I 81 0 l D ad ck yn_Pi_unitOf bc_Pi_unitOf 2 .int ({ frames := 0, cells := 0, slots := 0, locals := 0 } : Room) [gv_R 1, gv_I p0] (ca_A (M, G)) (fun z c2 => z = r ∧ c2 = ca_A (M, G)) := by
  refine gm_I.of (by decide) (Nat.le_of_ble_eq_true rfl) (fun x hC hR => ?_)
  unfold fn_Pi_unitOf at h
  refine gx_aload_n hC dr_Pi_unitOf_0 rfl ?_
  refine gx_get hC dr_Pi_unitOf_1 lf_Pi_37 (by decide) rfl rfl ?_
  refine gx_iload_n hC dr_Pi_unitOf_4 rfl ?_
  obtain ⟨hz1, h⟩ := gk_of h
  refine gx_zald (f := (gq_i M 6)) hC dr_Pi_unitOf_5 (by decide) rfl hz1 ?_
  refine gx_if_eq (tgt := 18) hC dr_Pi_unitOf_6 (by decide) (fun hc2 => ?_) (fun hc2 => ?_)
  · rw [if_pos (show ((gq_i M 6) p0.toInt) = 0 from hc2)] at h
    refine gx_iload_n hC dr_Pi_unitOf_18 rfl ?_
    obtain rfl := Option.some.inj h
    exact hR (by decide) (by decide) dr_Pi_unitOf_19 rfl ⟨rfl, rfl⟩
  · rw [if_neg (show ¬ (((gq_i M 6) p0.toInt) = 0) from hc2)] at h
    refine gx_aload_n hC dr_Pi_unitOf_9 rfl ?_
    refine gx_get hC dr_Pi_unitOf_10 lf_Pi_34 (by decide) rfl rfl ?_
    refine gx_iload_n hC dr_Pi_unitOf_13 rfl ?_
    refine gx_iald (f := (gq_i M 5)) hC dr_Pi_unitOf_14 (by decide) rfl hz1 ?_
    refine gx_goto (tgt := 19) hC dr_Pi_unitOf_15 (by decide) ?_
    obtain rfl := Option.some.inj h
    exact hR (by decide) (by decide) dr_Pi_unitOf_19 rfl ⟨rfl, rfl⟩
def fn_Pi_isUnitLocked (p0 : Int32) (M : gq_M) : Option Int32 := if 0 ≤ p0.toInt ∧ p0.toInt < ((80 : Nat) : Int) then if ((gq_i M 7) p0.toInt) = 0 then (fn_Pi_isPaired p0 M).bind fun q3 => if q3 = 0 then some 0 else if 0 ≤ ((gq_i M 5) p0.toInt).toInt ∧ ((gq_i M 5) p0.toInt).toInt < ((80 : Nat) : Int) then if ((gq_i M 7) ((gq_i M 5) p0.toInt).toInt) = 0 then some 0 else some 1 else none else some 1 else none
set_option maxHeartbeats 4000000 in
set_option maxRecDepth 100000 in
theorem mt_Pi_isUnitLocked {l : Launch} {D : va_G} {ad : Nat → Nat} {ck : Nat → ClassId} {G : gq_M × (Int → Int64)} {p0 : Int32} {M : gq_M} {r : Int32} (h : fn_Pi_isUnitLocked p0 M = some r) : gm_I 81 0 l D ad ck yn_Pi_isUnitLocked bc_Pi_isUnitLocked 2 .boolean ({ frames := 1, cells := 0, slots := 0, locals := 21 } : Room) [gv_R 1, gv_I p0] (ca_A (M, G)) (fun z c2 => z = r ∧ c2 = ca_A (M, G)) := by
  refine gm_I.of (by decide) (Nat.le_of_ble_eq_true rfl) (fun x hC hR => ?_)
  unfold fn_Pi_isUnitLocked at h
  refine gx_aload_n hC dr_Pi_isUnitLocked_0 rfl ?_
  refine gx_get hC dr_Pi_isUnitLocked_1 lf_Pi_41 (by decide) rfl rfl ?_
  refine gx_iload_n hC dr_Pi_isUnitLocked_4 rfl ?_
  obtain ⟨hz1, h⟩ := gk_of h
  refine gx_zald (f := (gq_i M 7)) hC dr_Pi_isUnitLocked_5 (by decide) rfl hz1 ?_
  refine gx_if_ne (tgt := 31) hC dr_Pi_isUnitLocked_6 (by decide) (fun hc2 => ?_) (fun hc2 => ?_)
  · rw [if_neg (show ¬ (((gq_i M 7) p0.toInt) = 0) from hc2)] at h
    refine gx_iconst (v := 1) hC dr_Pi_isUnitLocked_31 (by decide) ?_
    refine gx_goto (tgt := 36) hC dr_Pi_isUnitLocked_32 (by decide) ?_
    obtain rfl := Option.some.inj h
    exact hR (by decide) (by decide) dr_Pi_isUnitLocked_36 rfl ⟨rfl, rfl⟩
  · rw [if_pos (show ((gq_i M 7) p0.toInt) = 0 from hc2)] at h
    refine gx_aload_n hC dr_Pi_isUnitLocked_9 rfl ?_
    refine gx_iload_n hC dr_Pi_isUnitLocked_10 rfl ?_
    obtain ⟨q3, e4, h⟩ := gb_of h
    refine gx_vI hC dr_Pi_isUnitLocked_11 lk_Pi_48 (mt_Pi_isPaired e4) rfl (by decide) ⟨by decide, by decide⟩ ⟨by decide, by decide⟩ (by decide) ⟨_, _, rfl⟩ rfl rfl (Nat.le_of_ble_eq_true rfl) (fun z c2 hp => ?_)
    obtain ⟨hp1, rfl⟩ := hp; obtain rfl := hp1.symm
    refine gx_if_eq (tgt := 35) hC dr_Pi_isUnitLocked_14 (by decide) (fun hc5 => ?_) (fun hc5 => ?_)
    · rw [if_pos (show q3 = 0 from hc5)] at h
      refine gx_iconst (v := 0) hC dr_Pi_isUnitLocked_35 (by decide) ?_
      obtain rfl := Option.some.inj h
      exact hR (by decide) (by decide) dr_Pi_isUnitLocked_36 rfl ⟨rfl, rfl⟩
    · rw [if_neg (show ¬ (q3 = 0) from hc5)] at h
      refine gx_aload_n hC dr_Pi_isUnitLocked_17 rfl ?_
      refine gx_get hC dr_Pi_isUnitLocked_18 lf_Pi_41 (by decide) rfl rfl ?_
      refine gx_aload_n hC dr_Pi_isUnitLocked_21 rfl ?_
      refine gx_get hC dr_Pi_isUnitLocked_22 lf_Pi_34 (by decide) rfl rfl ?_
      refine gx_iload_n hC dr_Pi_isUnitLocked_25 rfl ?_
      refine gx_iald (f := (gq_i M 5)) hC dr_Pi_isUnitLocked_26 (by decide) rfl hz1 ?_
      obtain ⟨hz6, h⟩ := gk_of h
      refine gx_zald (f := (gq_i M 7)) hC dr_Pi_isUnitLocked_27 (by decide) rfl hz6 ?_
      refine gx_if_eq (tgt := 35) hC dr_Pi_isUnitLocked_28 (by decide) (fun hc7 => ?_) (fun hc7 => ?_)
      · rw [if_pos (show ((gq_i M 7) ((gq_i M 5) p0.toInt).toInt) = 0 from hc7)] at h
        refine gx_iconst (v := 0) hC dr_Pi_isUnitLocked_35 (by decide) ?_
        obtain rfl := Option.some.inj h
        exact hR (by decide) (by decide) dr_Pi_isUnitLocked_36 rfl ⟨rfl, rfl⟩
      · rw [if_neg (show ¬ (((gq_i M 7) ((gq_i M 5) p0.toInt).toInt) = 0) from hc7)] at h
        refine gx_iconst (v := 1) hC dr_Pi_isUnitLocked_31 (by decide) ?_
        refine gx_goto (tgt := 36) hC dr_Pi_isUnitLocked_32 (by decide) ?_
        obtain rfl := Option.some.inj h
        exact hR (by decide) (by decide) dr_Pi_isUnitLocked_36 rfl ⟨rfl, rfl⟩
def fn_Pi_isFreeUnit (p0 : Int32) (p1 : Int32) (M : gq_M) : Option Int32 := if 0 ≤ p0.toInt ∧ p0.toInt < ((80 : Nat) : Int) then if ((gq_i M 6) p0.toInt) = 0 then (fn_Pi_isPaired p0 M).bind fun q3 => if q3 = p1 then (fn_Pi_isUnitLocked p0 M).bind fun q6 => if q6 = 0 then some 1 else some 0 else some 0 else some 0 else none
set_option maxHeartbeats 4000000 in
set_option maxRecDepth 100000 in
theorem mt_Pi_isFreeUnit {l : Launch} {D : va_G} {ad : Nat → Nat} {ck : Nat → ClassId} {G : gq_M × (Int → Int64)} {p0 : Int32} {p1 : Int32} {M : gq_M} {r : Int32} (h : fn_Pi_isFreeUnit p0 p1 M = some r) : gm_I 81 0 l D ad ck yn_Pi_isFreeUnit bc_Pi_isFreeUnit 3 .boolean ({ frames := 2, cells := 0, slots := 0, locals := 42 } : Room) [gv_R 1, gv_I p0, gv_I p1] (ca_A (M, G)) (fun z c2 => z = r ∧ c2 = ca_A (M, G)) := by
  refine gm_I.of (by decide) (Nat.le_of_ble_eq_true rfl) (fun x hC hR => ?_)
  unfold fn_Pi_isFreeUnit at h
  refine gx_aload_n hC dr_Pi_isFreeUnit_0 rfl ?_
  refine gx_get hC dr_Pi_isFreeUnit_1 lf_Pi_37 (by decide) rfl rfl ?_
  refine gx_iload_n hC dr_Pi_isFreeUnit_4 rfl ?_
  obtain ⟨hz1, h⟩ := gk_of h
  refine gx_zald (f := (gq_i M 6)) hC dr_Pi_isFreeUnit_5 (by decide) rfl hz1 ?_
  refine gx_if_ne (tgt := 30) hC dr_Pi_isFreeUnit_6 (by decide) (fun hc2 => ?_) (fun hc2 => ?_)
  · rw [if_neg (show ¬ (((gq_i M 6) p0.toInt) = 0) from hc2)] at h
    refine gx_iconst (v := 0) hC dr_Pi_isFreeUnit_30 (by decide) ?_
    obtain rfl := Option.some.inj h
    exact hR (by decide) (by decide) dr_Pi_isFreeUnit_31 rfl ⟨rfl, rfl⟩
  · rw [if_pos (show ((gq_i M 6) p0.toInt) = 0 from hc2)] at h
    refine gx_aload_n hC dr_Pi_isFreeUnit_9 rfl ?_
    refine gx_iload_n hC dr_Pi_isFreeUnit_10 rfl ?_
    obtain ⟨q3, e4, h⟩ := gb_of h
    refine gx_vI hC dr_Pi_isFreeUnit_11 lk_Pi_48 (mt_Pi_isPaired e4) rfl (by decide) ⟨by decide, by decide⟩ ⟨by decide, by decide⟩ (by decide) ⟨_, _, rfl⟩ rfl rfl (Nat.le_of_ble_eq_true rfl) (fun z c2 hp => ?_)
    obtain ⟨hp1, rfl⟩ := hp; obtain rfl := hp1.symm
    refine gx_iload_n hC dr_Pi_isFreeUnit_14 rfl ?_
    refine gx_icmp_ne (tgt := 30) hC dr_Pi_isFreeUnit_15 (by decide) (fun hc5 => ?_) (fun hc5 => ?_)
    · rw [if_neg (show ¬ (q3 = p1) from hc5)] at h
      refine gx_iconst (v := 0) hC dr_Pi_isFreeUnit_30 (by decide) ?_
      obtain rfl := Option.some.inj h
      exact hR (by decide) (by decide) dr_Pi_isFreeUnit_31 rfl ⟨rfl, rfl⟩
    · rw [if_pos (show q3 = p1 from hc5)] at h
      refine gx_aload_n hC dr_Pi_isFreeUnit_18 rfl ?_
      refine gx_iload_n hC dr_Pi_isFreeUnit_19 rfl ?_
      obtain ⟨q6, e7, h⟩ := gb_of h
      refine gx_vI hC dr_Pi_isFreeUnit_20 lk_Pi_52 (mt_Pi_isUnitLocked e7) rfl (by decide) ⟨by decide, by decide⟩ ⟨by decide, by decide⟩ (by decide) ⟨_, _, rfl⟩ rfl rfl (Nat.le_of_ble_eq_true rfl) (fun z c2 hp => ?_)
      obtain ⟨hp1, rfl⟩ := hp; obtain rfl := hp1.symm
      refine gx_if_ne (tgt := 30) hC dr_Pi_isFreeUnit_23 (by decide) (fun hc8 => ?_) (fun hc8 => ?_)
      · rw [if_neg (show ¬ (q6 = 0) from hc8)] at h
        refine gx_iconst (v := 0) hC dr_Pi_isFreeUnit_30 (by decide) ?_
        obtain rfl := Option.some.inj h
        exact hR (by decide) (by decide) dr_Pi_isFreeUnit_31 rfl ⟨rfl, rfl⟩
      · rw [if_pos (show q6 = 0 from hc8)] at h
        refine gx_iconst (v := 1) hC dr_Pi_isFreeUnit_26 (by decide) ?_
        refine gx_goto (tgt := 31) hC dr_Pi_isFreeUnit_27 (by decide) ?_
        obtain rfl := Option.some.inj h
        exact hR (by decide) (by decide) dr_Pi_isFreeUnit_31 rfl ⟨rfl, rfl⟩
def fl_Pi_nthMoved_4 (M : gq_M) : Nat → Int32 → Int32 → Int32 → Option Int32
  | 0, _, _, _ => none
  | k + 1, v1, v2, v3 => if (gq_f M 1) ≤ v3 then some (-1) else if 0 ≤ v3.toInt ∧ v3.toInt < ((80 : Nat) : Int) then if ((gq_i M 3) v3.toInt) = ((gq_i M 4) v3.toInt) then fl_Pi_nthMoved_4 M k v1 v2 (v3 + 1) else if v2 = v1 then some v3 else fl_Pi_nthMoved_4 M k v1 (v2 + 1) (v3 + 1) else none
def fn_Pi_nthMoved (p0 : Int32) (M : gq_M) : Option Int32 := fl_Pi_nthMoved_4 M 5000 p0 0 0
set_option maxHeartbeats 4000000 in
set_option maxRecDepth 100000 in
theorem gl_Pi_nthMoved_4 {x : gx_X} {G : gq_M × (Int → Int64)} {M : gq_M} {r : Int32} (hC : gw_C 81 0 yn_Pi_nthMoved.cls bc_Pi_nthMoved 4 x) (hR : gr_I 81 bc_Pi_nthMoved 4 .int ({ frames := 0, cells := 0, slots := 0, locals := 0 } : Room) x (fun z c2 => z = r ∧ c2 = ca_A (M, G))) : ∀ (k : Nat) (v1 : Int32) (v2 : Int32) (v3 : Int32), fl_Pi_nthMoved_4 M k v1 v2 v3 = some r → gw_G 81 4 ({ frames := 0, cells := 0, slots := 0, locals := 0 } : Room) x 0 0 (ca_A (M, G)) 4 [(0, gv_R 1), (1, gv_I v1), (2, gv_I v2), (3, gv_I v3)] [] := by
  intro k
  induction k with
  | zero =>
    intro v1 v2 v3 h
    cases h
  | succ k ih =>
    intro v1 v2 v3 h
    rw [fl_Pi_nthMoved_4] at h
    refine gx_iload_n hC dr_Pi_nthMoved_4 rfl ?_
    refine gx_aload_n hC dr_Pi_nthMoved_5 rfl ?_
    refine gx_get hC dr_Pi_nthMoved_6 lf_Pi_44 (by decide) rfl rfl ?_
    refine gx_icmp_ge (tgt := 43) hC dr_Pi_nthMoved_9 (by decide) (fun hc1 => ?_) (fun hc1 => ?_)
    · rw [if_pos (show (gq_f M 1) ≤ v3 from hc1)] at h
      refine gx_iconst (v := (-1)) hC dr_Pi_nthMoved_43 (by decide) ?_
      obtain rfl := Option.some.inj h
      exact hR (by decide) (by decide) dr_Pi_nthMoved_44 rfl ⟨rfl, rfl⟩
    · rw [if_neg (show ¬ ((gq_f M 1) ≤ v3) from hc1)] at h
      refine gx_aload_n hC dr_Pi_nthMoved_12 rfl ?_
      refine gx_get hC dr_Pi_nthMoved_13 lf_Pi_28 (by decide) rfl rfl ?_
      refine gx_iload_n hC dr_Pi_nthMoved_16 rfl ?_
      obtain ⟨hz2, h⟩ := gk_of h
      refine gx_iald (f := (gq_i M 3)) hC dr_Pi_nthMoved_17 (by decide) rfl hz2 ?_
      refine gx_aload_n hC dr_Pi_nthMoved_18 rfl ?_
      refine gx_get hC dr_Pi_nthMoved_19 lf_Pi_31 (by decide) rfl rfl ?_
      refine gx_iload_n hC dr_Pi_nthMoved_22 rfl ?_
      refine gx_iald (f := (gq_i M 4)) hC dr_Pi_nthMoved_23 (by decide) rfl hz2 ?_
      refine gx_icmp_eq (tgt := 37) hC dr_Pi_nthMoved_24 (by decide) (fun hc3 => ?_) (fun hc3 => ?_)
      · rw [if_pos (show ((gq_i M 3) v3.toInt) = ((gq_i M 4) v3.toInt) from hc3)] at h
        refine gx_iinc (v := (v3 + 1)) hC dr_Pi_nthMoved_37 rfl (by decide) rfl ?_
        refine gx_goto (tgt := 4) hC dr_Pi_nthMoved_40 (by decide) ?_
        exact gx_lv [(0, gv_R 1), (1, gv_I v1), (2, gv_I v2), (3, gv_I (v3 + 1))] ⟨rfl, rfl, rfl, rfl, trivial⟩ (ih _ _ _ h)
      · rw [if_neg (show ¬ (((gq_i M 3) v3.toInt) = ((gq_i M 4) v3.toInt)) from hc3)] at h
        refine gx_iload_n hC dr_Pi_nthMoved_27 rfl ?_
        refine gx_iload_n hC dr_Pi_nthMoved_28 rfl ?_
        refine gx_icmp_ne (tgt := 34) hC dr_Pi_nthMoved_29 (by decide) (fun hc4 => ?_) (fun hc4 => ?_)
        · rw [if_neg (show ¬ (v2 = v1) from hc4)] at h
          refine gx_iinc (v := (v2 + 1)) hC dr_Pi_nthMoved_34 rfl (by decide) rfl ?_
          refine gx_iinc (v := (v3 + 1)) hC dr_Pi_nthMoved_37 rfl (by decide) rfl ?_
          refine gx_goto (tgt := 4) hC dr_Pi_nthMoved_40 (by decide) ?_
          exact gx_lv [(0, gv_R 1), (1, gv_I v1), (2, gv_I (v2 + 1)), (3, gv_I (v3 + 1))] ⟨rfl, rfl, rfl, rfl, trivial⟩ (ih _ _ _ h)
        · rw [if_pos (show v2 = v1 from hc4)] at h
          refine gx_iload_n hC dr_Pi_nthMoved_32 rfl ?_
          obtain rfl := Option.some.inj h
          exact hR (by decide) (by decide) dr_Pi_nthMoved_33 rfl ⟨rfl, rfl⟩
set_option maxHeartbeats 4000000 in
set_option maxRecDepth 100000 in
theorem mt_Pi_nthMoved {l : Launch} {D : va_G} {ad : Nat → Nat} {ck : Nat → ClassId} {G : gq_M × (Int → Int64)} {p0 : Int32} {M : gq_M} {r : Int32} (h : fn_Pi_nthMoved p0 M = some r) : gm_I 81 0 l D ad ck yn_Pi_nthMoved bc_Pi_nthMoved 4 .int ({ frames := 0, cells := 0, slots := 0, locals := 0 } : Room) [gv_R 1, gv_I p0] (ca_A (M, G)) (fun z c2 => z = r ∧ c2 = ca_A (M, G)) := by
  refine gm_I.of (by decide) (Nat.le_of_ble_eq_true rfl) (fun x hC hR => ?_)
  unfold fn_Pi_nthMoved at h
  refine gx_iconst (v := 0) hC dr_Pi_nthMoved_0 (by decide) ?_
  refine gx_istore_n hC dr_Pi_nthMoved_1 (by decide) ?_
  refine gx_iconst (v := 0) hC dr_Pi_nthMoved_2 (by decide) ?_
  refine gx_istore_n hC dr_Pi_nthMoved_3 (by decide) ?_
  exact gx_lv [(0, gv_R 1), (1, gv_I p0), (2, gv_I 0), (3, gv_I 0)] ⟨rfl, rfl, rfl, rfl, trivial⟩ (gl_Pi_nthMoved_4 hC hR 5000 _ _ _ h)
def fn_Pi_join (p0 : Int32) (p1 : Int32) (M : gq_M) : Option gq_M := if 0 ≤ p0.toInt ∧ p0.toInt < ((80 : Nat) : Int) then if 0 ≤ p1.toInt ∧ p1.toInt < ((80 : Nat) : Int) then some (gs_i (gs_i (gs_i M 5 (gz_u (gq_i M 5) p0.toInt p1)) 5 (gz_u (gz_u (gq_i M 5) p0.toInt p1) p1.toInt p0)) 6 (gz_u (gq_i M 6) p1.toInt 1)) else none else none
set_option maxHeartbeats 4000000 in
set_option maxRecDepth 100000 in
theorem mt_Pi_join {l : Launch} {D : va_G} {ad : Nat → Nat} {ck : Nat → ClassId} {G : gq_M × (Int → Int64)} {p0 : Int32} {p1 : Int32} {M : gq_M} {r : gq_M} (h : fn_Pi_join p0 p1 M = some r) : gm_V 81 81 l D ad ck yn_Pi_join bc_Pi_join 3 ({ frames := 0, cells := 0, slots := 0, locals := 0 } : Room) [gv_R 1, gv_I p0, gv_I p1] (ca_A (M, G)) (fun c2 => c2 = ca_A (r, G)) := by
  refine gm_V.of (by decide) (Nat.le_of_ble_eq_true rfl) (fun x hC hR => ?_)
  unfold fn_Pi_join at h
  refine gx_aload_n hC dr_Pi_join_0 rfl ?_
  refine gx_get hC dr_Pi_join_1 lf_Pi_34 (by decide) rfl rfl ?_
  refine gx_iload_n hC dr_Pi_join_4 rfl ?_
  refine gx_iload_n hC dr_Pi_join_5 rfl ?_
  obtain ⟨hz1, h⟩ := gk_of h
  refine gx_iast (f := (gq_i M 5)) hC (by decide) dr_Pi_join_6 (by decide) rfl hz1 (ca_I 5 (by decide)) ?_
  refine gx_aload_n hC dr_Pi_join_7 rfl ?_
  refine gx_get hC dr_Pi_join_8 lf_Pi_34 (by decide) rfl rfl ?_
  refine gx_iload_n hC dr_Pi_join_11 rfl ?_
  refine gx_iload_n hC dr_Pi_join_12 rfl ?_
  obtain ⟨hz2, h⟩ := gk_of h
  refine gx_iast (f := (gz_u (gq_i M 5) p0.toInt p1)) hC (by decide) dr_Pi_join_13 (by decide) rfl hz2 (ca_I 5 (by decide)) ?_
  refine gx_aload_n hC dr_Pi_join_14 rfl ?_
  refine gx_get hC dr_Pi_join_15 lf_Pi_37 (by decide) rfl rfl ?_
  refine gx_iload_n hC dr_Pi_join_18 rfl ?_
  refine gx_iconst (v := 1) hC dr_Pi_join_19 (by decide) ?_
  refine gx_zast (f := (gq_i M 6)) hC (by decide) dr_Pi_join_20 (by decide) rfl hz2 (ca_I 6 (by decide)) ?_
  obtain rfl := Option.some.inj h
  exact hR (by decide) (by decide) dr_Pi_join_21 rfl
def fn_Pi_add (p0 : Int32) (p1 : Int64) (p2 : Int64) (p3 : Int32) (M : gq_M) : Option (Int32 × gq_M) := if 0 ≤ p0.toInt ∧ p0.toInt < ((12 : Nat) : Int) then if 0 ≤ (gq_f M 1).toInt ∧ (gq_f M 1).toInt < ((80 : Nat) : Int) then some ((gq_f M 1), (gs_i (gs_i (gs_i (gs_l (gs_l (gs_i (gs_i (gs_f M 1 ((gq_f M 1) + 1)) 0 (gz_u (gq_i M 0) p0.toInt (((gq_i M 0) p0.toInt) + 1))) 1 (gz_u (gq_i M 1) (gq_f M 1).toInt p0)) 0 (gz_ul (gq_l M 0) (gq_f M 1).toInt p1)) 1 (gz_ul (gq_l M 1) (gq_f M 1).toInt p2)) 3 (gz_u (gq_i M 3) (gq_f M 1).toInt p3)) 4 (gz_u (gq_i M 4) (gq_f M 1).toInt p3)) 5 (gz_u (gq_i M 5) (gq_f M 1).toInt (-1)))) else none else none
set_option maxHeartbeats 4000000 in
set_option maxRecDepth 100000 in
theorem mt_Pi_add {l : Launch} {D : va_G} {ad : Nat → Nat} {ck : Nat → ClassId} {G : gq_M × (Int → Int64)} {p0 : Int32} {p1 : Int64} {p2 : Int64} {p3 : Int32} {M : gq_M} {r : (Int32 × gq_M)} (h : fn_Pi_add p0 p1 p2 p3 M = some r) : gm_I 81 81 l D ad ck yn_Pi_add bc_Pi_add 8 .int ({ frames := 0, cells := 0, slots := 0, locals := 0 } : Room) [gv_R 1, gv_I p0, gv_L p1, gv_L p2, gv_I p3] (ca_A (M, G)) (fun z c2 => z = r.1 ∧ c2 = ca_A (r.2, G)) := by
  refine gm_I.of (by decide) (Nat.le_of_ble_eq_true rfl) (fun x hC hR => ?_)
  unfold fn_Pi_add at h
  refine gx_aload_n hC dr_Pi_add_0 rfl ?_
  refine gx_get hC dr_Pi_add_1 lf_Pi_44 (by decide) rfl rfl ?_
  refine gx_istore hC dr_Pi_add_4 (by decide) ?_
  refine gx_aload_n hC dr_Pi_add_6 rfl ?_
  refine gx_dup hC dr_Pi_add_7 rfl ?_
  refine gx_get hC dr_Pi_add_8 lf_Pi_44 (by decide) rfl rfl ?_
  refine gx_iconst (v := 1) hC dr_Pi_add_11 (by decide) ?_
  refine gx_iadd hC dr_Pi_add_12 ?_
  refine gx_put hC (by decide) dr_Pi_add_13 lf_Pi_44 lp_Pi_count (by decide) rfl (Nat.le_of_ble_eq_true rfl) (fun _ => rfl) (fun _ => rfl) ca_F1 ?_
  refine gx_aload_n hC dr_Pi_add_16 rfl ?_
  refine gx_get hC dr_Pi_add_17 lf_Pi_9 (by decide) rfl rfl ?_
  refine gx_iload_n hC dr_Pi_add_20 rfl ?_
  refine gx_dup2 hC dr_Pi_add_21 rfl rfl ?_
  obtain ⟨hz1, h⟩ := gk_of h
  refine gx_iald (f := (gq_i M 0)) hC dr_Pi_add_22 (by decide) rfl hz1 ?_
  refine gx_iconst (v := 1) hC dr_Pi_add_23 (by decide) ?_
  refine gx_iadd hC dr_Pi_add_24 ?_
  refine gx_iast (f := (gq_i M 0)) hC (by decide) dr_Pi_add_25 (by decide) rfl hz1 (ca_I 0 (by decide)) ?_
  refine gx_aload_n hC dr_Pi_add_26 rfl ?_
  refine gx_get hC dr_Pi_add_27 lf_Pi_15 (by decide) rfl rfl ?_
  refine gx_iload hC dr_Pi_add_30 rfl ?_
  refine gx_iload_n hC dr_Pi_add_32 rfl ?_
  obtain ⟨hz2, h⟩ := gk_of h
  refine gx_iast (f := (gq_i M 1)) hC (by decide) dr_Pi_add_33 (by decide) rfl hz2 (ca_I 1 (by decide)) ?_
  refine gx_aload_n hC dr_Pi_add_34 rfl ?_
  refine gx_get hC dr_Pi_add_35 lf_Pi_18 (by decide) rfl rfl ?_
  refine gx_iload hC dr_Pi_add_38 rfl ?_
  refine gx_lload_n hC dr_Pi_add_40 rfl ?_
  refine gx_last (f := (gq_l M 0)) hC (by decide) dr_Pi_add_41 (by decide) rfl hz2 (ca_L 0 (by decide)) ?_
  refine gx_aload_n hC dr_Pi_add_42 rfl ?_
  refine gx_get hC dr_Pi_add_43 lf_Pi_22 (by decide) rfl rfl ?_
  refine gx_iload hC dr_Pi_add_46 rfl ?_
  refine gx_lload hC dr_Pi_add_48 rfl ?_
  refine gx_last (f := (gq_l M 1)) hC (by decide) dr_Pi_add_50 (by decide) rfl hz2 (ca_L 1 (by decide)) ?_
  refine gx_aload_n hC dr_Pi_add_51 rfl ?_
  refine gx_get hC dr_Pi_add_52 lf_Pi_28 (by decide) rfl rfl ?_
  refine gx_iload hC dr_Pi_add_55 rfl ?_
  refine gx_iload hC dr_Pi_add_57 rfl ?_
  refine gx_iast (f := (gq_i M 3)) hC (by decide) dr_Pi_add_59 (by decide) rfl hz2 (ca_I 3 (by decide)) ?_
  refine gx_aload_n hC dr_Pi_add_60 rfl ?_
  refine gx_get hC dr_Pi_add_61 lf_Pi_31 (by decide) rfl rfl ?_
  refine gx_iload hC dr_Pi_add_64 rfl ?_
  refine gx_iload hC dr_Pi_add_66 rfl ?_
  refine gx_iast (f := (gq_i M 4)) hC (by decide) dr_Pi_add_68 (by decide) rfl hz2 (ca_I 4 (by decide)) ?_
  refine gx_aload_n hC dr_Pi_add_69 rfl ?_
  refine gx_get hC dr_Pi_add_70 lf_Pi_34 (by decide) rfl rfl ?_
  refine gx_iload hC dr_Pi_add_73 rfl ?_
  refine gx_iconst (v := (-1)) hC dr_Pi_add_75 (by decide) ?_
  refine gx_iast (f := (gq_i M 5)) hC (by decide) dr_Pi_add_76 (by decide) rfl hz2 (ca_I 5 (by decide)) ?_
  refine gx_iload hC dr_Pi_add_77 rfl ?_
  obtain rfl := Option.some.inj h
  exact hR (by decide) (by decide) dr_Pi_add_79 rfl ⟨rfl, rfl⟩
