def fn_PS_checkPin (p0 : Int32) (M : gq_M) : Option (Nat ⊕ Unit) := if p0 < 0 then some (.inl 1) else if p0 < (gq_f M 1) then gb_r (some ()) else some (.inl 1)
set_option maxHeartbeats 4000000 in
set_option maxRecDepth 100000 in
theorem mt_PS_checkPin {l : Launch} {D : va_G} {ad : Nat → Nat} {ck : Nat → ClassId} {G : gq_M × (Int → Int64)} {p0 : Int32} {M : gq_M} {r : Unit} (h : fn_PS_checkPin p0 M = some (.inr r)) : gm_V 81 0 l D ad ck yn_PS_checkPin bc_PS_checkPin 2 ({ frames := 0, cells := 0, slots := 0, locals := 0 } : Room) [gv_R 0, gv_I p0] (ca_A (M, G)) (fun c2 => c2 = ca_A (M, G)) := by
  refine gm_V.of (by decide) (Nat.le_of_ble_eq_true rfl) (fun x hC hR => ?_)
  unfold fn_PS_checkPin at h
  refine gx_iload_n hC dr_PS_checkPin_0 rfl ?_
  refine gx_if_lt (tgt := 15) hC dr_PS_checkPin_1 (by decide) (fun hc1 => ?_) (fun hc1 => ?_)
  · rw [if_pos (show p0 < 0 from hc1)] at h
    cases h
  · rw [if_neg (show ¬ (p0 < 0) from hc1)] at h
    refine gx_iload_n hC dr_PS_checkPin_4 rfl ?_
    refine gx_aload_n hC dr_PS_checkPin_5 rfl ?_
    refine gx_get hC dr_PS_checkPin_6 lf_PS_10 (by decide) rfl rfl ?_
    refine gx_get hC dr_PS_checkPin_9 lf_PS_68 (by decide) rfl rfl ?_
    refine gx_icmp_lt (tgt := 25) hC dr_PS_checkPin_12 (by decide) (fun hc2 => ?_) (fun hc2 => ?_)
    · rw [if_pos (show p0 < (gq_f M 1) from hc2)] at h
      have h := gb_rr h
      exact hR (by decide) (by decide) dr_PS_checkPin_25 rfl
    · rw [if_neg (show ¬ (p0 < (gq_f M 1)) from hc2)] at h
      cases h
set_option maxHeartbeats 4000000 in
set_option maxRecDepth 100000 in
theorem mx_PS_checkPin {l : Launch} {D : va_G} {ad : Nat → Nat} {ck : Nat → ClassId} {G : gq_M × (Int → Int64)} (hfl : l.flags = pinnedFlags ++ [noTraceFlag]) {p0 : Int32} {M : gq_M} {kd : Nat} (h : fn_PS_checkPin p0 M = some (.inl kd)) : gm_X 81 l D ad ck yn_PS_checkPin bc_PS_checkPin 2 none ({ frames := 6, cells := 1, slots := 6, locals := 90 } : Room) [gv_R 0, gv_I p0] (ca_A (M, G)) kd := by
  refine gm_X.of hfl (by decide) (Nat.le_of_ble_eq_true rfl) (fun x hfx hC hT => ?_)
  unfold fn_PS_checkPin at h
  refine gx_iload_n hC dr_PS_checkPin_0 rfl ?_
  refine gx_if_lt (tgt := 15) hC dr_PS_checkPin_1 (by decide) (fun hc3 => ?_) (fun hc3 => ?_)
  · rw [if_pos (show p0 < 0 from hc3)] at h
    obtain rfl := Sum.inl.inj (Option.some.inj h)
    exact gx_throw (tx := "no such pin") hC hT dr_PS_checkPin_15 dr_PS_checkPin_18 dr_PS_checkPin_19 dr_PS_checkPin_21 dr_PS_checkPin_24 lt_1 (by decide) (by decide) (by decide) (by decide) (Nat.le_of_ble_eq_true rfl)
  · rw [if_neg (show ¬ (p0 < 0) from hc3)] at h
    refine gx_iload_n hC dr_PS_checkPin_4 rfl ?_
    refine gx_aload_n hC dr_PS_checkPin_5 rfl ?_
    refine gx_get hC dr_PS_checkPin_6 lf_PS_10 (by decide) rfl rfl ?_
    refine gx_get hC dr_PS_checkPin_9 lf_PS_68 (by decide) rfl rfl ?_
    refine gx_icmp_lt (tgt := 25) hC dr_PS_checkPin_12 (by decide) (fun hc4 => ?_) (fun hc4 => ?_)
    · rw [if_pos (show p0 < (gq_f M 1) from hc4)] at h
      exact (gb_rl h).elim
    · rw [if_neg (show ¬ (p0 < (gq_f M 1)) from hc4)] at h
      obtain rfl := Sum.inl.inj (Option.some.inj h)
      exact gx_throw (tx := "no such pin") hC hT dr_PS_checkPin_15 dr_PS_checkPin_18 dr_PS_checkPin_19 dr_PS_checkPin_21 dr_PS_checkPin_24 lt_1 (by decide) (by decide) (by decide) (by decide) (Nat.le_of_ble_eq_true rfl)
def fn_PS_checkNet (p0 : Int32) (M : gq_M) : Option (Nat ⊕ Unit) := (fn_PS_isNet p0 M).bind fun q1 => if q1 = 0 then some (.inl 1) else gb_r (some ())
set_option maxHeartbeats 4000000 in
set_option maxRecDepth 100000 in
theorem mt_PS_checkNet {l : Launch} {D : va_G} {ad : Nat → Nat} {ck : Nat → ClassId} {G : gq_M × (Int → Int64)} {p0 : Int32} {M : gq_M} {r : Unit} (h : fn_PS_checkNet p0 M = some (.inr r)) : gm_V 81 0 l D ad ck yn_PS_checkNet bc_PS_checkNet 1 ({ frames := 1, cells := 0, slots := 0, locals := 20 } : Room) [gv_I p0] (ca_A (M, G)) (fun c2 => c2 = ca_A (M, G)) := by
  refine gm_V.of (by decide) (Nat.le_of_ble_eq_true rfl) (fun x hC hR => ?_)
  unfold fn_PS_checkNet at h
  refine gx_iload_n hC dr_PS_checkNet_0 rfl ?_
  obtain ⟨q1, e2, h⟩ := gb_of h
  refine gx_sI hC dr_PS_checkNet_1 lk_PS_59 (mt_PS_isNet e2) rfl (by decide) ⟨by decide, by decide⟩ ⟨by decide, by decide⟩ rfl (Nat.le_of_ble_eq_true rfl) (fun z c2 hp => ?_)
  obtain ⟨hp1, rfl⟩ := hp; obtain rfl := hp1.symm
  refine gx_if_ne (tgt := 17) hC dr_PS_checkNet_4 (by decide) (fun hc3 => ?_) (fun hc3 => ?_)
  · rw [if_neg (show ¬ (q1 = 0) from hc3)] at h
    have h := gb_rr h
    exact hR (by decide) (by decide) dr_PS_checkNet_17 rfl
  · rw [if_pos (show q1 = 0 from hc3)] at h
    cases h
set_option maxHeartbeats 4000000 in
set_option maxRecDepth 100000 in
theorem mx_PS_checkNet {l : Launch} {D : va_G} {ad : Nat → Nat} {ck : Nat → ClassId} {G : gq_M × (Int → Int64)} (hfl : l.flags = pinnedFlags ++ [noTraceFlag]) {p0 : Int32} {M : gq_M} {kd : Nat} (h : fn_PS_checkNet p0 M = some (.inl kd)) : gm_X 81 l D ad ck yn_PS_checkNet bc_PS_checkNet 1 none ({ frames := 6, cells := 1, slots := 6, locals := 90 } : Room) [gv_I p0] (ca_A (M, G)) kd := by
  refine gm_X.of hfl (by decide) (Nat.le_of_ble_eq_true rfl) (fun x hfx hC hT => ?_)
  unfold fn_PS_checkNet at h
  refine gx_iload_n hC dr_PS_checkNet_0 rfl ?_
  obtain ⟨q4, e5, h⟩ := gb_of h
  refine gx_sI hC dr_PS_checkNet_1 lk_PS_59 (mt_PS_isNet e5) rfl (by decide) ⟨by decide, by decide⟩ ⟨by decide, by decide⟩ rfl (Nat.le_of_ble_eq_true rfl) (fun z c2 hp => ?_)
  obtain ⟨hp1, rfl⟩ := hp; obtain rfl := hp1.symm
  refine gx_if_ne (tgt := 17) hC dr_PS_checkNet_4 (by decide) (fun hc6 => ?_) (fun hc6 => ?_)
  · rw [if_neg (show ¬ (q4 = 0) from hc6)] at h
    exact (gb_rl h).elim
  · rw [if_pos (show q4 = 0 from hc6)] at h
    obtain rfl := Sum.inl.inj (Option.some.inj h)
    exact gx_throw (tx := "no net") hC hT dr_PS_checkNet_7 dr_PS_checkNet_10 dr_PS_checkNet_11 dr_PS_checkNet_13 dr_PS_checkNet_16 lt_1 (by decide) (by decide) (by decide) (by decide) (Nat.le_of_ble_eq_true rfl)
def fn_PS_checkPlace (p0 : Int64) (p1 : Int64) (M : gq_M) : Option (Nat ⊕ Unit) := if p0 < (-1000000) then some (.inl 2) else if 1000000 < p0 then some (.inl 2) else if p1 < (-1000000) then some (.inl 2) else if p1 ≤ 1000000 then gb_r (some ()) else some (.inl 2)
set_option maxHeartbeats 4000000 in
set_option maxRecDepth 100000 in
theorem mt_PS_checkPlace {l : Launch} {D : va_G} {ad : Nat → Nat} {ck : Nat → ClassId} {G : gq_M × (Int → Int64)} {p0 : Int64} {p1 : Int64} {M : gq_M} {r : Unit} (h : fn_PS_checkPlace p0 p1 M = some (.inr r)) : gm_V 81 0 l D ad ck yn_PS_checkPlace bc_PS_checkPlace 4 ({ frames := 0, cells := 0, slots := 0, locals := 0 } : Room) [gv_L p0, gv_L p1] (ca_A (M, G)) (fun c2 => c2 = ca_A (M, G)) := by
  refine gm_V.of (by decide) (Nat.le_of_ble_eq_true rfl) (fun x hC hR => ?_)
  unfold fn_PS_checkPlace at h
  refine gx_lload_n hC dr_PS_checkPlace_0 rfl ?_
  refine gx_ldc2 (v := (-1000000)) hC dr_PS_checkPlace_1 lc_PS_203 ?_
  refine gx_lcmp_lt (tgt := 32) hC dr_PS_checkPlace_4 dr_PS_checkPlace_5 (by decide) (fun hc1 => ?_) (fun hc1 => ?_)
  · rw [if_pos (show p0 < (-1000000) from hc1)] at h
    cases h
  · rw [if_neg (show ¬ (p0 < (-1000000)) from hc1)] at h
    refine gx_lload_n hC dr_PS_checkPlace_8 rfl ?_
    refine gx_ldc2 (v := 1000000) hC dr_PS_checkPlace_9 lc_PS_205 ?_
    refine gx_lcmp_gt (tgt := 32) hC dr_PS_checkPlace_12 dr_PS_checkPlace_13 (by decide) (fun hc2 => ?_) (fun hc2 => ?_)
    · rw [if_pos (show 1000000 < p0 from hc2)] at h
      cases h
    · rw [if_neg (show ¬ (1000000 < p0) from hc2)] at h
      refine gx_lload_n hC dr_PS_checkPlace_16 rfl ?_
      refine gx_ldc2 (v := (-1000000)) hC dr_PS_checkPlace_17 lc_PS_203 ?_
      refine gx_lcmp_lt (tgt := 32) hC dr_PS_checkPlace_20 dr_PS_checkPlace_21 (by decide) (fun hc3 => ?_) (fun hc3 => ?_)
      · rw [if_pos (show p1 < (-1000000) from hc3)] at h
        cases h
      · rw [if_neg (show ¬ (p1 < (-1000000)) from hc3)] at h
        refine gx_lload_n hC dr_PS_checkPlace_24 rfl ?_
        refine gx_ldc2 (v := 1000000) hC dr_PS_checkPlace_25 lc_PS_205 ?_
        refine gx_lcmp_le (tgt := 42) hC dr_PS_checkPlace_28 dr_PS_checkPlace_29 (by decide) (fun hc4 => ?_) (fun hc4 => ?_)
        · rw [if_pos (show p1 ≤ 1000000 from hc4)] at h
          have h := gb_rr h
          exact hR (by decide) (by decide) dr_PS_checkPlace_42 rfl
        · rw [if_neg (show ¬ (p1 ≤ 1000000) from hc4)] at h
          cases h
set_option maxHeartbeats 4000000 in
set_option maxRecDepth 100000 in
theorem mx_PS_checkPlace {l : Launch} {D : va_G} {ad : Nat → Nat} {ck : Nat → ClassId} {G : gq_M × (Int → Int64)} (hfl : l.flags = pinnedFlags ++ [noTraceFlag]) {p0 : Int64} {p1 : Int64} {M : gq_M} {kd : Nat} (h : fn_PS_checkPlace p0 p1 M = some (.inl kd)) : gm_X 81 l D ad ck yn_PS_checkPlace bc_PS_checkPlace 4 none ({ frames := 6, cells := 1, slots := 6, locals := 90 } : Room) [gv_L p0, gv_L p1] (ca_A (M, G)) kd := by
  refine gm_X.of hfl (by decide) (Nat.le_of_ble_eq_true rfl) (fun x hfx hC hT => ?_)
  unfold fn_PS_checkPlace at h
  refine gx_lload_n hC dr_PS_checkPlace_0 rfl ?_
  refine gx_ldc2 (v := (-1000000)) hC dr_PS_checkPlace_1 lc_PS_203 ?_
  refine gx_lcmp_lt (tgt := 32) hC dr_PS_checkPlace_4 dr_PS_checkPlace_5 (by decide) (fun hc5 => ?_) (fun hc5 => ?_)
  · rw [if_pos (show p0 < (-1000000) from hc5)] at h
    obtain rfl := Sum.inl.inj (Option.some.inj h)
    exact gx_throw (tx := "no place") hC hT dr_PS_checkPlace_32 dr_PS_checkPlace_35 dr_PS_checkPlace_36 dr_PS_checkPlace_38 dr_PS_checkPlace_41 lt_2 (by decide) (by decide) (by decide) (by decide) (Nat.le_of_ble_eq_true rfl)
  · rw [if_neg (show ¬ (p0 < (-1000000)) from hc5)] at h
    refine gx_lload_n hC dr_PS_checkPlace_8 rfl ?_
    refine gx_ldc2 (v := 1000000) hC dr_PS_checkPlace_9 lc_PS_205 ?_
    refine gx_lcmp_gt (tgt := 32) hC dr_PS_checkPlace_12 dr_PS_checkPlace_13 (by decide) (fun hc6 => ?_) (fun hc6 => ?_)
    · rw [if_pos (show 1000000 < p0 from hc6)] at h
      obtain rfl := Sum.inl.inj (Option.some.inj h)
      exact gx_throw (tx := "no place") hC hT dr_PS_checkPlace_32 dr_PS_checkPlace_35 dr_PS_checkPlace_36 dr_PS_checkPlace_38 dr_PS_checkPlace_41 lt_2 (by decide) (by decide) (by decide) (by decide) (Nat.le_of_ble_eq_true rfl)
    · rw [if_neg (show ¬ (1000000 < p0) from hc6)] at h
      refine gx_lload_n hC dr_PS_checkPlace_16 rfl ?_
      refine gx_ldc2 (v := (-1000000)) hC dr_PS_checkPlace_17 lc_PS_203 ?_
      refine gx_lcmp_lt (tgt := 32) hC dr_PS_checkPlace_20 dr_PS_checkPlace_21 (by decide) (fun hc7 => ?_) (fun hc7 => ?_)
      · rw [if_pos (show p1 < (-1000000) from hc7)] at h
        obtain rfl := Sum.inl.inj (Option.some.inj h)
        exact gx_throw (tx := "no place") hC hT dr_PS_checkPlace_32 dr_PS_checkPlace_35 dr_PS_checkPlace_36 dr_PS_checkPlace_38 dr_PS_checkPlace_41 lt_2 (by decide) (by decide) (by decide) (by decide) (Nat.le_of_ble_eq_true rfl)
      · rw [if_neg (show ¬ (p1 < (-1000000)) from hc7)] at h
        refine gx_lload_n hC dr_PS_checkPlace_24 rfl ?_
        refine gx_ldc2 (v := 1000000) hC dr_PS_checkPlace_25 lc_PS_205 ?_
        refine gx_lcmp_le (tgt := 42) hC dr_PS_checkPlace_28 dr_PS_checkPlace_29 (by decide) (fun hc8 => ?_) (fun hc8 => ?_)
        · rw [if_pos (show p1 ≤ 1000000 from hc8)] at h
          exact (gb_rl h).elim
        · rw [if_neg (show ¬ (p1 ≤ 1000000) from hc8)] at h
          obtain rfl := Sum.inl.inj (Option.some.inj h)
          exact gx_throw (tx := "no place") hC hT dr_PS_checkPlace_32 dr_PS_checkPlace_35 dr_PS_checkPlace_36 dr_PS_checkPlace_38 dr_PS_checkPlace_41 lt_2 (by decide) (by decide) (by decide) (by decide) (Nat.le_of_ble_eq_true rfl)
def fn_PS_pin (p0 : Int32) (p1 : Int64) (p2 : Int64) (p3 : Int32) (M : gq_M) : Option (Nat ⊕ (Int32 × gq_M)) := if p0 < 0 then some (.inl 1) else if p0 < (gq_f M 0) then gb_x (fn_PS_checkPlace p1 p2 M) fun q3 => (fn_PS_isNet p3 M).bind fun q5 => if q5 = 0 then some (.inl 2) else gb_r (if 80 ≤ (gq_f M 1) then some ((-1), M) else if 0 ≤ p0.toInt ∧ p0.toInt < ((12 : Nat) : Int) then if ((gq_i M 0) p0.toInt) < 12 then (fn_Pi_add p0 p1 p2 p3 M).bind fun q11 => some (q11.1, q11.2) else some ((-1), M) else none) else some (.inl 1)
set_option maxHeartbeats 4000000 in
set_option maxRecDepth 100000 in
theorem mt_PS_pin {l : Launch} {D : va_G} {ad : Nat → Nat} {ck : Nat → ClassId} {G : gq_M × (Int → Int64)} {p0 : Int32} {p1 : Int64} {p2 : Int64} {p3 : Int32} {M : gq_M} {r : (Int32 × gq_M)} (h : fn_PS_pin p0 p1 p2 p3 M = some (.inr r)) : gm_I 81 81 l D ad ck yn_PS_pin bc_PS_pin 7 .int ({ frames := 1, cells := 0, slots := 0, locals := 27 } : Room) [gv_R 0, gv_I p0, gv_L p1, gv_L p2, gv_I p3] (ca_A (M, G)) (fun z c2 => z = r.1 ∧ c2 = ca_A (r.2, G)) := by
  refine gm_I.of (by decide) (Nat.le_of_ble_eq_true rfl) (fun x hC hR => ?_)
  unfold fn_PS_pin at h
  refine gx_iload_n hC dr_PS_pin_0 rfl ?_
  refine gx_if_lt (tgt := 15) hC dr_PS_pin_1 (by decide) (fun hc1 => ?_) (fun hc1 => ?_)
  · rw [if_pos (show p0 < 0 from hc1)] at h
    cases h
  · rw [if_neg (show ¬ (p0 < 0) from hc1)] at h
    refine gx_iload_n hC dr_PS_pin_4 rfl ?_
    refine gx_aload_n hC dr_PS_pin_5 rfl ?_
    refine gx_get hC dr_PS_pin_6 lf_PS_10 (by decide) rfl rfl ?_
    refine gx_get hC dr_PS_pin_9 lf_PS_44 (by decide) rfl rfl ?_
    refine gx_icmp_lt (tgt := 25) hC dr_PS_pin_12 (by decide) (fun hc2 => ?_) (fun hc2 => ?_)
    · rw [if_pos (show p0 < (gq_f M 0) from hc2)] at h
      refine gx_lload_n hC dr_PS_pin_25 rfl ?_
      refine gx_lload hC dr_PS_pin_26 rfl ?_
      obtain ⟨q3, e4, h⟩ := gb_xr h
      refine gx_sV hC dr_PS_pin_28 lk_PS_55 (mt_PS_checkPlace e4) rfl (by decide) ⟨by decide, by decide⟩ ⟨by decide, by decide⟩ rfl (Nat.le_of_ble_eq_true rfl) (fun c2 hp => ?_)
      subst hp
      refine gx_iload hC dr_PS_pin_31 rfl ?_
      obtain ⟨q5, e6, h⟩ := gb_of h
      refine gx_sI hC dr_PS_pin_33 lk_PS_59 (mt_PS_isNet e6) rfl (by decide) ⟨by decide, by decide⟩ ⟨by decide, by decide⟩ rfl (Nat.le_of_ble_eq_true rfl) (fun z c2 hp => ?_)
      obtain ⟨hp1, rfl⟩ := hp; obtain rfl := hp1.symm
      refine gx_if_ne (tgt := 49) hC dr_PS_pin_36 (by decide) (fun hc7 => ?_) (fun hc7 => ?_)
      · rw [if_neg (show ¬ (q5 = 0) from hc7)] at h
        have h := gb_rr h
        refine gx_aload_n hC dr_PS_pin_49 rfl ?_
        refine gx_get hC dr_PS_pin_50 lf_PS_10 (by decide) rfl rfl ?_
        refine gx_get hC dr_PS_pin_53 lf_PS_68 (by decide) rfl rfl ?_
        refine gx_bipush (v := 80) hC dr_PS_pin_56 (by decide) ?_
        refine gx_icmp_ge (tgt := 75) hC dr_PS_pin_58 (by decide) (fun hc8 => ?_) (fun hc8 => ?_)
        · rw [if_pos (show 80 ≤ (gq_f M 1) from hc8)] at h
          refine gx_iconst (v := (-1)) hC dr_PS_pin_75 (by decide) ?_
          obtain rfl := Option.some.inj h
          exact hR (by decide) (by decide) dr_PS_pin_76 rfl ⟨rfl, rfl⟩
        · rw [if_neg (show ¬ (80 ≤ (gq_f M 1)) from hc8)] at h
          refine gx_aload_n hC dr_PS_pin_61 rfl ?_
          refine gx_get hC dr_PS_pin_62 lf_PS_10 (by decide) rfl rfl ?_
          refine gx_get hC dr_PS_pin_65 lf_PS_71 (by decide) rfl rfl ?_
          refine gx_iload_n hC dr_PS_pin_68 rfl ?_
          obtain ⟨hz9, h⟩ := gk_of h
          refine gx_iald (f := (gq_i M 0)) hC dr_PS_pin_69 (by decide) rfl hz9 ?_
          refine gx_bipush (v := 12) hC dr_PS_pin_70 (by decide) ?_
          refine gx_icmp_lt (tgt := 77) hC dr_PS_pin_72 (by decide) (fun hc10 => ?_) (fun hc10 => ?_)
          · rw [if_pos (show ((gq_i M 0) p0.toInt) < 12 from hc10)] at h
            refine gx_aload_n hC dr_PS_pin_77 rfl ?_
            refine gx_get hC dr_PS_pin_78 lf_PS_10 (by decide) rfl rfl ?_
            refine gx_iload_n hC dr_PS_pin_81 rfl ?_
            refine gx_lload_n hC dr_PS_pin_82 rfl ?_
            refine gx_lload hC dr_PS_pin_83 rfl ?_
            refine gx_iload hC dr_PS_pin_85 rfl ?_
            obtain ⟨q11, e12, h⟩ := gb_of h
            refine gx_vI hC dr_PS_pin_87 lk_PS_75 (mt_Pi_add e12) rfl (by decide) ⟨by decide, by decide⟩ ⟨by decide, by decide⟩ (by decide) ⟨_, _, rfl⟩ rfl rfl (Nat.le_of_ble_eq_true rfl) (fun z c2 hp => ?_)
            obtain ⟨rfl, rfl⟩ := hp
            obtain rfl := Option.some.inj h
            exact hR (by decide) (by decide) dr_PS_pin_90 rfl ⟨rfl, rfl⟩
          · rw [if_neg (show ¬ (((gq_i M 0) p0.toInt) < 12) from hc10)] at h
            refine gx_iconst (v := (-1)) hC dr_PS_pin_75 (by decide) ?_
            obtain rfl := Option.some.inj h
            exact hR (by decide) (by decide) dr_PS_pin_76 rfl ⟨rfl, rfl⟩
      · rw [if_pos (show q5 = 0 from hc7)] at h
        cases h
    · rw [if_neg (show ¬ (p0 < (gq_f M 0)) from hc2)] at h
      cases h
set_option maxHeartbeats 4000000 in
set_option maxRecDepth 100000 in
theorem mx_PS_pin {l : Launch} {D : va_G} {ad : Nat → Nat} {ck : Nat → ClassId} {G : gq_M × (Int → Int64)} (hfl : l.flags = pinnedFlags ++ [noTraceFlag]) {p0 : Int32} {p1 : Int64} {p2 : Int64} {p3 : Int32} {M : gq_M} {kd : Nat} (h : fn_PS_pin p0 p1 p2 p3 M = some (.inl kd)) : gm_X 81 l D ad ck yn_PS_pin bc_PS_pin 7 (some .int) ({ frames := 7, cells := 1, slots := 6, locals := 113 } : Room) [gv_R 0, gv_I p0, gv_L p1, gv_L p2, gv_I p3] (ca_A (M, G)) kd := by
  refine gm_X.of hfl (by decide) (Nat.le_of_ble_eq_true rfl) (fun x hfx hC hT => ?_)
  unfold fn_PS_pin at h
  refine gx_iload_n hC dr_PS_pin_0 rfl ?_
  refine gx_if_lt (tgt := 15) hC dr_PS_pin_1 (by decide) (fun hc13 => ?_) (fun hc13 => ?_)
  · rw [if_pos (show p0 < 0 from hc13)] at h
    obtain rfl := Sum.inl.inj (Option.some.inj h)
    exact gx_throw (tx := "no such group") hC hT dr_PS_pin_15 dr_PS_pin_18 dr_PS_pin_19 dr_PS_pin_21 dr_PS_pin_24 lt_1 (by decide) (by decide) (by decide) (by decide) (Nat.le_of_ble_eq_true rfl)
  · rw [if_neg (show ¬ (p0 < 0) from hc13)] at h
    refine gx_iload_n hC dr_PS_pin_4 rfl ?_
    refine gx_aload_n hC dr_PS_pin_5 rfl ?_
    refine gx_get hC dr_PS_pin_6 lf_PS_10 (by decide) rfl rfl ?_
    refine gx_get hC dr_PS_pin_9 lf_PS_44 (by decide) rfl rfl ?_
    refine gx_icmp_lt (tgt := 25) hC dr_PS_pin_12 (by decide) (fun hc14 => ?_) (fun hc14 => ?_)
    · rw [if_pos (show p0 < (gq_f M 0) from hc14)] at h
      refine gx_lload_n hC dr_PS_pin_25 rfl ?_
      refine gx_lload hC dr_PS_pin_26 rfl ?_
      rcases gb_xl h with e16 | ⟨q15, e16, h⟩
      · exact gx_tS hC hT dr_PS_pin_28 ll_PS_55 lk_PS_55 (mx_PS_checkPlace hfx e16) rfl ⟨by decide, by decide⟩ ⟨by decide, by decide⟩ rfl (Nat.le_of_ble_eq_true rfl)
      refine gx_sV hC dr_PS_pin_28 lk_PS_55 (mt_PS_checkPlace e16) rfl (by decide) ⟨by decide, by decide⟩ ⟨by decide, by decide⟩ rfl (Nat.le_of_ble_eq_true rfl) (fun c2 hp => ?_)
      subst hp
      refine gx_iload hC dr_PS_pin_31 rfl ?_
      obtain ⟨q17, e18, h⟩ := gb_of h
      refine gx_sI hC dr_PS_pin_33 lk_PS_59 (mt_PS_isNet e18) rfl (by decide) ⟨by decide, by decide⟩ ⟨by decide, by decide⟩ rfl (Nat.le_of_ble_eq_true rfl) (fun z c2 hp => ?_)
      obtain ⟨hp1, rfl⟩ := hp; obtain rfl := hp1.symm
      refine gx_if_ne (tgt := 49) hC dr_PS_pin_36 (by decide) (fun hc19 => ?_) (fun hc19 => ?_)
      · rw [if_neg (show ¬ (q17 = 0) from hc19)] at h
        exact (gb_rl h).elim
      · rw [if_pos (show q17 = 0 from hc19)] at h
        obtain rfl := Sum.inl.inj (Option.some.inj h)
        exact gx_throw (tx := "no net") hC hT dr_PS_pin_39 dr_PS_pin_42 dr_PS_pin_43 dr_PS_pin_45 dr_PS_pin_48 lt_2 (by decide) (by decide) (by decide) (by decide) (Nat.le_of_ble_eq_true rfl)
    · rw [if_neg (show ¬ (p0 < (gq_f M 0)) from hc14)] at h
      obtain rfl := Sum.inl.inj (Option.some.inj h)
      exact gx_throw (tx := "no such group") hC hT dr_PS_pin_15 dr_PS_pin_18 dr_PS_pin_19 dr_PS_pin_21 dr_PS_pin_24 lt_1 (by decide) (by decide) (by decide) (by decide) (Nat.le_of_ble_eq_true rfl)
def fn_PS_target (p0 : Int32) (p1 : Int64) (p2 : Int64) (M : gq_M) : Option (Nat ⊕ (Int32 × gq_M)) := gb_x (fn_PS_checkNet p0 M) fun q1 => gb_x (fn_PS_checkPlace p1 p2 M) fun q3 => gb_r ((fn_Ne_aim p0 p1 p2 M).bind fun q5 => if vp_nar .boolean q5.1 = q5.1 then some (q5.1, q5.2) else none)
set_option maxHeartbeats 4000000 in
set_option maxRecDepth 100000 in
theorem mt_PS_target {l : Launch} {D : va_G} {ad : Nat → Nat} {ck : Nat → ClassId} {G : gq_M × (Int → Int64)} {p0 : Int32} {p1 : Int64} {p2 : Int64} {M : gq_M} {r : (Int32 × gq_M)} (h : fn_PS_target p0 p1 p2 M = some (.inr r)) : gm_I 81 81 l D ad ck yn_PS_target bc_PS_target 6 .boolean ({ frames := 2, cells := 0, slots := 0, locals := 40 } : Room) [gv_R 0, gv_I p0, gv_L p1, gv_L p2] (ca_A (M, G)) (fun z c2 => z = r.1 ∧ c2 = ca_A (r.2, G)) := by
  refine gm_I.of (by decide) (Nat.le_of_ble_eq_true rfl) (fun x hC hR => ?_)
  unfold fn_PS_target at h
  refine gx_iload_n hC dr_PS_target_0 rfl ?_
  obtain ⟨q1, e2, h⟩ := gb_xr h
  refine gx_sV hC dr_PS_target_1 lk_PS_79 (mt_PS_checkNet e2) rfl (by decide) ⟨by decide, by decide⟩ ⟨by decide, by decide⟩ rfl (Nat.le_of_ble_eq_true rfl) (fun c2 hp => ?_)
  subst hp
  refine gx_lload_n hC dr_PS_target_4 rfl ?_
  refine gx_lload hC dr_PS_target_5 rfl ?_
  obtain ⟨q3, e4, h⟩ := gb_xr h
  refine gx_sV hC dr_PS_target_7 lk_PS_55 (mt_PS_checkPlace e4) rfl (by decide) ⟨by decide, by decide⟩ ⟨by decide, by decide⟩ rfl (Nat.le_of_ble_eq_true rfl) (fun c2 hp => ?_)
  subst hp
  have h := gb_rr h
  refine gx_aload_n hC dr_PS_target_10 rfl ?_
  refine gx_get hC dr_PS_target_11 lf_PS_19 (by decide) rfl rfl ?_
  refine gx_iload_n hC dr_PS_target_14 rfl ?_
  refine gx_lload_n hC dr_PS_target_15 rfl ?_
  refine gx_lload hC dr_PS_target_16 rfl ?_
  obtain ⟨q5, e6, h⟩ := gb_of h
  refine gx_vI hC dr_PS_target_18 lk_PS_83 (mt_Ne_aim e6) rfl (by decide) ⟨by decide, by decide⟩ ⟨by decide, by decide⟩ (by decide) ⟨_, _, rfl⟩ rfl rfl (Nat.le_of_ble_eq_true rfl) (fun z c2 hp => ?_)
  obtain ⟨rfl, rfl⟩ := hp
  obtain ⟨hz7, h⟩ := gk_of h
  obtain rfl := Option.some.inj h
  exact hR (by decide) (by decide) dr_PS_target_21 (gk_nar hz7) ⟨rfl, rfl⟩
set_option maxHeartbeats 4000000 in
set_option maxRecDepth 100000 in
theorem mx_PS_target {l : Launch} {D : va_G} {ad : Nat → Nat} {ck : Nat → ClassId} {G : gq_M × (Int → Int64)} (hfl : l.flags = pinnedFlags ++ [noTraceFlag]) {p0 : Int32} {p1 : Int64} {p2 : Int64} {M : gq_M} {kd : Nat} (h : fn_PS_target p0 p1 p2 M = some (.inl kd)) : gm_X 81 l D ad ck yn_PS_target bc_PS_target 6 (some .boolean) ({ frames := 7, cells := 1, slots := 6, locals := 113 } : Room) [gv_R 0, gv_I p0, gv_L p1, gv_L p2] (ca_A (M, G)) kd := by
  refine gm_X.of hfl (by decide) (Nat.le_of_ble_eq_true rfl) (fun x hfx hC hT => ?_)
  unfold fn_PS_target at h
  refine gx_iload_n hC dr_PS_target_0 rfl ?_
  rcases gb_xl h with e9 | ⟨q8, e9, h⟩
  · exact gx_tS hC hT dr_PS_target_1 ll_PS_79 lk_PS_79 (mx_PS_checkNet hfx e9) rfl ⟨by decide, by decide⟩ ⟨by decide, by decide⟩ rfl (Nat.le_of_ble_eq_true rfl)
  refine gx_sV hC dr_PS_target_1 lk_PS_79 (mt_PS_checkNet e9) rfl (by decide) ⟨by decide, by decide⟩ ⟨by decide, by decide⟩ rfl (Nat.le_of_ble_eq_true rfl) (fun c2 hp => ?_)
  subst hp
  refine gx_lload_n hC dr_PS_target_4 rfl ?_
  refine gx_lload hC dr_PS_target_5 rfl ?_
  rcases gb_xl h with e11 | ⟨q10, e11, h⟩
  · exact gx_tS hC hT dr_PS_target_7 ll_PS_55 lk_PS_55 (mx_PS_checkPlace hfx e11) rfl ⟨by decide, by decide⟩ ⟨by decide, by decide⟩ rfl (Nat.le_of_ble_eq_true rfl)
  refine gx_sV hC dr_PS_target_7 lk_PS_55 (mt_PS_checkPlace e11) rfl (by decide) ⟨by decide, by decide⟩ ⟨by decide, by decide⟩ rfl (Nat.le_of_ble_eq_true rfl) (fun c2 hp => ?_)
  subst hp
  exact (gb_rl h).elim
def fn_PS_lock (p0 : Int32) (M : gq_M) : Option (Nat ⊕ (Int32 × gq_M)) := gb_x (fn_PS_checkPin p0 M) fun q1 => gb_r (if 0 ≤ p0.toInt ∧ p0.toInt < ((80 : Nat) : Int) then if ((gq_i M 7) p0.toInt) = 0 then some (1, (gs_i M 7 (gz_u (gq_i M 7) p0.toInt 1))) else some (0, (gs_i M 7 (gz_u (gq_i M 7) p0.toInt 1))) else none)
set_option maxHeartbeats 4000000 in
set_option maxRecDepth 100000 in
theorem mt_PS_lock {l : Launch} {D : va_G} {ad : Nat → Nat} {ck : Nat → ClassId} {G : gq_M × (Int → Int64)} {p0 : Int32} {M : gq_M} {r : (Int32 × gq_M)} (h : fn_PS_lock p0 M = some (.inr r)) : gm_I 81 81 l D ad ck yn_PS_lock bc_PS_lock 3 .boolean ({ frames := 1, cells := 0, slots := 0, locals := 21 } : Room) [gv_R 0, gv_I p0] (ca_A (M, G)) (fun z c2 => z = r.1 ∧ c2 = ca_A (r.2, G)) := by
  refine gm_I.of (by decide) (Nat.le_of_ble_eq_true rfl) (fun x hC hR => ?_)
  unfold fn_PS_lock at h
  refine gx_aload_n hC dr_PS_lock_0 rfl ?_
  refine gx_iload_n hC dr_PS_lock_1 rfl ?_
  obtain ⟨q1, e2, h⟩ := gb_xr h
  refine gx_vV hC dr_PS_lock_2 lk_PS_87 (mt_PS_checkPin e2) rfl (by decide) ⟨by decide, by decide⟩ ⟨by decide, by decide⟩ (by decide) ⟨_, _, rfl⟩ rfl rfl (Nat.le_of_ble_eq_true rfl) (fun c2 hp => ?_)
  subst hp
  have h := gb_rr h
  refine gx_aload_n hC dr_PS_lock_5 rfl ?_
  refine gx_get hC dr_PS_lock_6 lf_PS_10 (by decide) rfl rfl ?_
  refine gx_get hC dr_PS_lock_9 lf_PS_90 (by decide) rfl rfl ?_
  refine gx_iload_n hC dr_PS_lock_12 rfl ?_
  obtain ⟨hz3, h⟩ := gk_of h
  refine gx_zald (f := (gq_i M 7)) hC dr_PS_lock_13 (by decide) rfl hz3 ?_
  refine gx_istore_n hC dr_PS_lock_14 (by decide) ?_
  refine gx_aload_n hC dr_PS_lock_15 rfl ?_
  refine gx_get hC dr_PS_lock_16 lf_PS_10 (by decide) rfl rfl ?_
  refine gx_get hC dr_PS_lock_19 lf_PS_90 (by decide) rfl rfl ?_
  refine gx_iload_n hC dr_PS_lock_22 rfl ?_
  refine gx_iconst (v := 1) hC dr_PS_lock_23 (by decide) ?_
  refine gx_zast (f := (gq_i M 7)) hC (by decide) dr_PS_lock_24 (by decide) rfl hz3 (ca_I 7 (by decide)) ?_
  refine gx_iload_n hC dr_PS_lock_25 rfl ?_
  refine gx_if_ne (tgt := 33) hC dr_PS_lock_26 (by decide) (fun hc4 => ?_) (fun hc4 => ?_)
  · rw [if_neg (show ¬ (((gq_i M 7) p0.toInt) = 0) from hc4)] at h
    refine gx_iconst (v := 0) hC dr_PS_lock_33 (by decide) ?_
    obtain rfl := Option.some.inj h
    exact hR (by decide) (by decide) dr_PS_lock_34 rfl ⟨rfl, rfl⟩
  · rw [if_pos (show ((gq_i M 7) p0.toInt) = 0 from hc4)] at h
    refine gx_iconst (v := 1) hC dr_PS_lock_29 (by decide) ?_
    refine gx_goto (tgt := 34) hC dr_PS_lock_30 (by decide) ?_
    obtain rfl := Option.some.inj h
    exact hR (by decide) (by decide) dr_PS_lock_34 rfl ⟨rfl, rfl⟩
set_option maxHeartbeats 4000000 in
set_option maxRecDepth 100000 in
theorem mx_PS_lock {l : Launch} {D : va_G} {ad : Nat → Nat} {ck : Nat → ClassId} {G : gq_M × (Int → Int64)} (hfl : l.flags = pinnedFlags ++ [noTraceFlag]) {p0 : Int32} {M : gq_M} {kd : Nat} (h : fn_PS_lock p0 M = some (.inl kd)) : gm_X 81 l D ad ck yn_PS_lock bc_PS_lock 3 (some .boolean) ({ frames := 7, cells := 1, slots := 6, locals := 111 } : Room) [gv_R 0, gv_I p0] (ca_A (M, G)) kd := by
  refine gm_X.of hfl (by decide) (Nat.le_of_ble_eq_true rfl) (fun x hfx hC hT => ?_)
  unfold fn_PS_lock at h
  refine gx_aload_n hC dr_PS_lock_0 rfl ?_
  refine gx_iload_n hC dr_PS_lock_1 rfl ?_
  rcases gb_xl h with e6 | ⟨q5, e6, h⟩
  · exact gx_tV hC hT dr_PS_lock_2 ll_PS_87 lk_PS_87 (mx_PS_checkPin hfx e6) rfl ⟨by decide, by decide⟩ ⟨by decide, by decide⟩ (by decide) ⟨_, _, rfl⟩ rfl rfl (Nat.le_of_ble_eq_true rfl)
  refine gx_vV hC dr_PS_lock_2 lk_PS_87 (mt_PS_checkPin e6) rfl (by decide) ⟨by decide, by decide⟩ ⟨by decide, by decide⟩ (by decide) ⟨_, _, rfl⟩ rfl rfl (Nat.le_of_ble_eq_true rfl) (fun c2 hp => ?_)
  subst hp
  exact (gb_rl h).elim
def fn_PS_pair (p0 : Int32) (p1 : Int32) (M : gq_M) : Option (Nat ⊕ (Int32 × gq_M)) := gb_x (fn_PS_checkPin p0 M) fun q1 => gb_x (fn_PS_checkPin p1 M) fun q3 => gb_r (if p0 = p1 then some (0, M) else if 0 ≤ p0.toInt ∧ p0.toInt < ((80 : Nat) : Int) then if 0 ≤ p1.toInt ∧ p1.toInt < ((80 : Nat) : Int) then if ((gq_i M 1) p0.toInt) = ((gq_i M 1) p1.toInt) then (fn_Pi_isPaired p0 M).bind fun q9 => if q9 = 0 then (fn_Pi_isPaired p1 M).bind fun q12 => if q12 = 0 then (fn_Pi_join p0 p1 M).bind fun q15 => some (1, q15) else some (0, M) else some (0, M) else some (0, M) else none else none)
set_option maxHeartbeats 4000000 in
set_option maxRecDepth 100000 in
theorem mt_PS_pair {l : Launch} {D : va_G} {ad : Nat → Nat} {ck : Nat → ClassId} {G : gq_M × (Int → Int64)} {p0 : Int32} {p1 : Int32} {M : gq_M} {r : (Int32 × gq_M)} (h : fn_PS_pair p0 p1 M = some (.inr r)) : gm_I 81 81 l D ad ck yn_PS_pair bc_PS_pair 3 .boolean ({ frames := 1, cells := 0, slots := 0, locals := 22 } : Room) [gv_R 0, gv_I p0, gv_I p1] (ca_A (M, G)) (fun z c2 => z = r.1 ∧ c2 = ca_A (r.2, G)) := by
  refine gm_I.of (by decide) (Nat.le_of_ble_eq_true rfl) (fun x hC hR => ?_)
  unfold fn_PS_pair at h
  refine gx_aload_n hC dr_PS_pair_0 rfl ?_
  refine gx_iload_n hC dr_PS_pair_1 rfl ?_
  obtain ⟨q1, e2, h⟩ := gb_xr h
  refine gx_vV hC dr_PS_pair_2 lk_PS_87 (mt_PS_checkPin e2) rfl (by decide) ⟨by decide, by decide⟩ ⟨by decide, by decide⟩ (by decide) ⟨_, _, rfl⟩ rfl rfl (Nat.le_of_ble_eq_true rfl) (fun c2 hp => ?_)
  subst hp
  refine gx_aload_n hC dr_PS_pair_5 rfl ?_
  refine gx_iload_n hC dr_PS_pair_6 rfl ?_
  obtain ⟨q3, e4, h⟩ := gb_xr h
  refine gx_vV hC dr_PS_pair_7 lk_PS_87 (mt_PS_checkPin e4) rfl (by decide) ⟨by decide, by decide⟩ ⟨by decide, by decide⟩ (by decide) ⟨_, _, rfl⟩ rfl rfl (Nat.le_of_ble_eq_true rfl) (fun c2 hp => ?_)
  subst hp
  have h := gb_rr h
  refine gx_iload_n hC dr_PS_pair_10 rfl ?_
  refine gx_iload_n hC dr_PS_pair_11 rfl ?_
  refine gx_icmp_eq (tgt := 36) hC dr_PS_pair_12 (by decide) (fun hc5 => ?_) (fun hc5 => ?_)
  · rw [if_pos (show p0 = p1 from hc5)] at h
    refine gx_iconst (v := 0) hC dr_PS_pair_36 (by decide) ?_
    obtain rfl := Option.some.inj h
    exact hR (by decide) (by decide) dr_PS_pair_37 rfl ⟨rfl, rfl⟩
  · rw [if_neg (show ¬ (p0 = p1) from hc5)] at h
    refine gx_aload_n hC dr_PS_pair_15 rfl ?_
    refine gx_get hC dr_PS_pair_16 lf_PS_10 (by decide) rfl rfl ?_
    refine gx_get hC dr_PS_pair_19 lf_PS_94 (by decide) rfl rfl ?_
    refine gx_iload_n hC dr_PS_pair_22 rfl ?_
    obtain ⟨hz6, h⟩ := gk_of h
    refine gx_iald (f := (gq_i M 1)) hC dr_PS_pair_23 (by decide) rfl hz6 ?_
    refine gx_aload_n hC dr_PS_pair_24 rfl ?_
    refine gx_get hC dr_PS_pair_25 lf_PS_10 (by decide) rfl rfl ?_
    refine gx_get hC dr_PS_pair_28 lf_PS_94 (by decide) rfl rfl ?_
    refine gx_iload_n hC dr_PS_pair_31 rfl ?_
    obtain ⟨hz7, h⟩ := gk_of h
    refine gx_iald (f := (gq_i M 1)) hC dr_PS_pair_32 (by decide) rfl hz7 ?_
    refine gx_icmp_eq (tgt := 38) hC dr_PS_pair_33 (by decide) (fun hc8 => ?_) (fun hc8 => ?_)
    · rw [if_pos (show ((gq_i M 1) p0.toInt) = ((gq_i M 1) p1.toInt) from hc8)] at h
      refine gx_aload_n hC dr_PS_pair_38 rfl ?_
      refine gx_get hC dr_PS_pair_39 lf_PS_10 (by decide) rfl rfl ?_
      refine gx_iload_n hC dr_PS_pair_42 rfl ?_
      obtain ⟨q9, e10, h⟩ := gb_of h
      refine gx_vI hC dr_PS_pair_43 lk_PS_97 (mt_Pi_isPaired e10) rfl (by decide) ⟨by decide, by decide⟩ ⟨by decide, by decide⟩ (by decide) ⟨_, _, rfl⟩ rfl rfl (Nat.le_of_ble_eq_true rfl) (fun z c2 hp => ?_)
      obtain ⟨hp1, rfl⟩ := hp; obtain rfl := hp1.symm
      refine gx_if_ne (tgt := 60) hC dr_PS_pair_46 (by decide) (fun hc11 => ?_) (fun hc11 => ?_)
      · rw [if_neg (show ¬ (q9 = 0) from hc11)] at h
        refine gx_iconst (v := 0) hC dr_PS_pair_60 (by decide) ?_
        obtain rfl := Option.some.inj h
        exact hR (by decide) (by decide) dr_PS_pair_61 rfl ⟨rfl, rfl⟩
      · rw [if_pos (show q9 = 0 from hc11)] at h
        refine gx_aload_n hC dr_PS_pair_49 rfl ?_
        refine gx_get hC dr_PS_pair_50 lf_PS_10 (by decide) rfl rfl ?_
        refine gx_iload_n hC dr_PS_pair_53 rfl ?_
        obtain ⟨q12, e13, h⟩ := gb_of h
        refine gx_vI hC dr_PS_pair_54 lk_PS_97 (mt_Pi_isPaired e13) rfl (by decide) ⟨by decide, by decide⟩ ⟨by decide, by decide⟩ (by decide) ⟨_, _, rfl⟩ rfl rfl (Nat.le_of_ble_eq_true rfl) (fun z c2 hp => ?_)
        obtain ⟨hp1, rfl⟩ := hp; obtain rfl := hp1.symm
        refine gx_if_eq (tgt := 62) hC dr_PS_pair_57 (by decide) (fun hc14 => ?_) (fun hc14 => ?_)
        · rw [if_pos (show q12 = 0 from hc14)] at h
          refine gx_aload_n hC dr_PS_pair_62 rfl ?_
          refine gx_get hC dr_PS_pair_63 lf_PS_10 (by decide) rfl rfl ?_
          refine gx_iload_n hC dr_PS_pair_66 rfl ?_
          refine gx_iload_n hC dr_PS_pair_67 rfl ?_
          obtain ⟨q15, e16, h⟩ := gb_of h
          refine gx_vV hC dr_PS_pair_68 lk_PS_100 (mt_Pi_join e16) rfl (by decide) ⟨by decide, by decide⟩ ⟨by decide, by decide⟩ (by decide) ⟨_, _, rfl⟩ rfl rfl (Nat.le_of_ble_eq_true rfl) (fun c2 hp => ?_)
          subst hp
          refine gx_iconst (v := 1) hC dr_PS_pair_71 (by decide) ?_
          obtain rfl := Option.some.inj h
          exact hR (by decide) (by decide) dr_PS_pair_72 rfl ⟨rfl, rfl⟩
        · rw [if_neg (show ¬ (q12 = 0) from hc14)] at h
          refine gx_iconst (v := 0) hC dr_PS_pair_60 (by decide) ?_
          obtain rfl := Option.some.inj h
          exact hR (by decide) (by decide) dr_PS_pair_61 rfl ⟨rfl, rfl⟩
    · rw [if_neg (show ¬ (((gq_i M 1) p0.toInt) = ((gq_i M 1) p1.toInt)) from hc8)] at h
      refine gx_iconst (v := 0) hC dr_PS_pair_36 (by decide) ?_
      obtain rfl := Option.some.inj h
      exact hR (by decide) (by decide) dr_PS_pair_37 rfl ⟨rfl, rfl⟩
set_option maxHeartbeats 4000000 in
set_option maxRecDepth 100000 in
theorem mx_PS_pair {l : Launch} {D : va_G} {ad : Nat → Nat} {ck : Nat → ClassId} {G : gq_M × (Int → Int64)} (hfl : l.flags = pinnedFlags ++ [noTraceFlag]) {p0 : Int32} {p1 : Int32} {M : gq_M} {kd : Nat} (h : fn_PS_pair p0 p1 M = some (.inl kd)) : gm_X 81 l D ad ck yn_PS_pair bc_PS_pair 3 (some .boolean) ({ frames := 7, cells := 1, slots := 6, locals := 111 } : Room) [gv_R 0, gv_I p0, gv_I p1] (ca_A (M, G)) kd := by
  refine gm_X.of hfl (by decide) (Nat.le_of_ble_eq_true rfl) (fun x hfx hC hT => ?_)
  unfold fn_PS_pair at h
  refine gx_aload_n hC dr_PS_pair_0 rfl ?_
  refine gx_iload_n hC dr_PS_pair_1 rfl ?_
  rcases gb_xl h with e18 | ⟨q17, e18, h⟩
  · exact gx_tV hC hT dr_PS_pair_2 ll_PS_87 lk_PS_87 (mx_PS_checkPin hfx e18) rfl ⟨by decide, by decide⟩ ⟨by decide, by decide⟩ (by decide) ⟨_, _, rfl⟩ rfl rfl (Nat.le_of_ble_eq_true rfl)
  refine gx_vV hC dr_PS_pair_2 lk_PS_87 (mt_PS_checkPin e18) rfl (by decide) ⟨by decide, by decide⟩ ⟨by decide, by decide⟩ (by decide) ⟨_, _, rfl⟩ rfl rfl (Nat.le_of_ble_eq_true rfl) (fun c2 hp => ?_)
  subst hp
  refine gx_aload_n hC dr_PS_pair_5 rfl ?_
  refine gx_iload_n hC dr_PS_pair_6 rfl ?_
  rcases gb_xl h with e20 | ⟨q19, e20, h⟩
  · exact gx_tV hC hT dr_PS_pair_7 ll_PS_87 lk_PS_87 (mx_PS_checkPin hfx e20) rfl ⟨by decide, by decide⟩ ⟨by decide, by decide⟩ (by decide) ⟨_, _, rfl⟩ rfl rfl (Nat.le_of_ble_eq_true rfl)
  refine gx_vV hC dr_PS_pair_7 lk_PS_87 (mt_PS_checkPin e20) rfl (by decide) ⟨by decide, by decide⟩ ⟨by decide, by decide⟩ (by decide) ⟨_, _, rfl⟩ rfl rfl (Nat.le_of_ble_eq_true rfl) (fun c2 hp => ?_)
  subst hp
  exact (gb_rl h).elim
def fn_PS_bank (p0 : Int32) (p1 : Int32) (M : gq_M) : Option (Nat ⊕ (Int32 × gq_M)) := gb_x (fn_PS_checkPin p0 M) fun q1 => if p1 < 0 then some (.inl 2) else if p1 < 16 then gb_r (if 0 ≤ p0.toInt ∧ p0.toInt < ((80 : Nat) : Int) then if ((gq_i M 2) p0.toInt) = p1 then some (0, (gs_i M 2 (gz_u (gq_i M 2) p0.toInt p1))) else some (1, (gs_i M 2 (gz_u (gq_i M 2) p0.toInt p1))) else none) else some (.inl 2)
set_option maxHeartbeats 4000000 in
set_option maxRecDepth 100000 in
theorem mt_PS_bank {l : Launch} {D : va_G} {ad : Nat → Nat} {ck : Nat → ClassId} {G : gq_M × (Int → Int64)} {p0 : Int32} {p1 : Int32} {M : gq_M} {r : (Int32 × gq_M)} (h : fn_PS_bank p0 p1 M = some (.inr r)) : gm_I 81 81 l D ad ck yn_PS_bank bc_PS_bank 4 .boolean ({ frames := 1, cells := 0, slots := 0, locals := 21 } : Room) [gv_R 0, gv_I p0, gv_I p1] (ca_A (M, G)) (fun z c2 => z = r.1 ∧ c2 = ca_A (r.2, G)) := by
  refine gm_I.of (by decide) (Nat.le_of_ble_eq_true rfl) (fun x hC hR => ?_)
  unfold fn_PS_bank at h
  refine gx_aload_n hC dr_PS_bank_0 rfl ?_
  refine gx_iload_n hC dr_PS_bank_1 rfl ?_
  obtain ⟨q1, e2, h⟩ := gb_xr h
  refine gx_vV hC dr_PS_bank_2 lk_PS_87 (mt_PS_checkPin e2) rfl (by decide) ⟨by decide, by decide⟩ ⟨by decide, by decide⟩ (by decide) ⟨_, _, rfl⟩ rfl rfl (Nat.le_of_ble_eq_true rfl) (fun c2 hp => ?_)
  subst hp
  refine gx_iload_n hC dr_PS_bank_5 rfl ?_
  refine gx_if_lt (tgt := 15) hC dr_PS_bank_6 (by decide) (fun hc3 => ?_) (fun hc3 => ?_)
  · rw [if_pos (show p1 < 0 from hc3)] at h
    cases h
  · rw [if_neg (show ¬ (p1 < 0) from hc3)] at h
    refine gx_iload_n hC dr_PS_bank_9 rfl ?_
    refine gx_bipush (v := 16) hC dr_PS_bank_10 (by decide) ?_
    refine gx_icmp_lt (tgt := 25) hC dr_PS_bank_12 (by decide) (fun hc4 => ?_) (fun hc4 => ?_)
    · rw [if_pos (show p1 < 16 from hc4)] at h
      have h := gb_rr h
      refine gx_aload_n hC dr_PS_bank_25 rfl ?_
      refine gx_get hC dr_PS_bank_26 lf_PS_10 (by decide) rfl rfl ?_
      refine gx_get hC dr_PS_bank_29 lf_PS_106 (by decide) rfl rfl ?_
      refine gx_iload_n hC dr_PS_bank_32 rfl ?_
      obtain ⟨hz5, h⟩ := gk_of h
      refine gx_iald (f := (gq_i M 2)) hC dr_PS_bank_33 (by decide) rfl hz5 ?_
      refine gx_iload_n hC dr_PS_bank_34 rfl ?_
      refine gx_icmp_eq (tgt := 42) hC dr_PS_bank_35 (by decide) (fun hc6 => ?_) (fun hc6 => ?_)
      · rw [if_pos (show ((gq_i M 2) p0.toInt) = p1 from hc6)] at h
        refine gx_iconst (v := 0) hC dr_PS_bank_42 (by decide) ?_
        refine gx_istore_n hC dr_PS_bank_43 (by decide) ?_
        refine gx_aload_n hC dr_PS_bank_44 rfl ?_
        refine gx_get hC dr_PS_bank_45 lf_PS_10 (by decide) rfl rfl ?_
        refine gx_get hC dr_PS_bank_48 lf_PS_106 (by decide) rfl rfl ?_
        refine gx_iload_n hC dr_PS_bank_51 rfl ?_
        refine gx_iload_n hC dr_PS_bank_52 rfl ?_
        refine gx_iast (f := (gq_i M 2)) hC (by decide) dr_PS_bank_53 (by decide) rfl hz5 (ca_I 2 (by decide)) ?_
        refine gx_iload_n hC dr_PS_bank_54 rfl ?_
        obtain rfl := Option.some.inj h
        exact hR (by decide) (by decide) dr_PS_bank_55 rfl ⟨rfl, rfl⟩
      · rw [if_neg (show ¬ (((gq_i M 2) p0.toInt) = p1) from hc6)] at h
        refine gx_iconst (v := 1) hC dr_PS_bank_38 (by decide) ?_
        refine gx_goto (tgt := 43) hC dr_PS_bank_39 (by decide) ?_
        refine gx_istore_n hC dr_PS_bank_43 (by decide) ?_
        refine gx_aload_n hC dr_PS_bank_44 rfl ?_
        refine gx_get hC dr_PS_bank_45 lf_PS_10 (by decide) rfl rfl ?_
        refine gx_get hC dr_PS_bank_48 lf_PS_106 (by decide) rfl rfl ?_
        refine gx_iload_n hC dr_PS_bank_51 rfl ?_
        refine gx_iload_n hC dr_PS_bank_52 rfl ?_
        refine gx_iast (f := (gq_i M 2)) hC (by decide) dr_PS_bank_53 (by decide) rfl hz5 (ca_I 2 (by decide)) ?_
        refine gx_iload_n hC dr_PS_bank_54 rfl ?_
        obtain rfl := Option.some.inj h
        exact hR (by decide) (by decide) dr_PS_bank_55 rfl ⟨rfl, rfl⟩
    · rw [if_neg (show ¬ (p1 < 16) from hc4)] at h
      cases h
set_option maxHeartbeats 4000000 in
set_option maxRecDepth 100000 in
theorem mx_PS_bank {l : Launch} {D : va_G} {ad : Nat → Nat} {ck : Nat → ClassId} {G : gq_M × (Int → Int64)} (hfl : l.flags = pinnedFlags ++ [noTraceFlag]) {p0 : Int32} {p1 : Int32} {M : gq_M} {kd : Nat} (h : fn_PS_bank p0 p1 M = some (.inl kd)) : gm_X 81 l D ad ck yn_PS_bank bc_PS_bank 4 (some .boolean) ({ frames := 7, cells := 1, slots := 6, locals := 111 } : Room) [gv_R 0, gv_I p0, gv_I p1] (ca_A (M, G)) kd := by
  refine gm_X.of hfl (by decide) (Nat.le_of_ble_eq_true rfl) (fun x hfx hC hT => ?_)
  unfold fn_PS_bank at h
  refine gx_aload_n hC dr_PS_bank_0 rfl ?_
  refine gx_iload_n hC dr_PS_bank_1 rfl ?_
  rcases gb_xl h with e8 | ⟨q7, e8, h⟩
  · exact gx_tV hC hT dr_PS_bank_2 ll_PS_87 lk_PS_87 (mx_PS_checkPin hfx e8) rfl ⟨by decide, by decide⟩ ⟨by decide, by decide⟩ (by decide) ⟨_, _, rfl⟩ rfl rfl (Nat.le_of_ble_eq_true rfl)
  refine gx_vV hC dr_PS_bank_2 lk_PS_87 (mt_PS_checkPin e8) rfl (by decide) ⟨by decide, by decide⟩ ⟨by decide, by decide⟩ (by decide) ⟨_, _, rfl⟩ rfl rfl (Nat.le_of_ble_eq_true rfl) (fun c2 hp => ?_)
  subst hp
  refine gx_iload_n hC dr_PS_bank_5 rfl ?_
  refine gx_if_lt (tgt := 15) hC dr_PS_bank_6 (by decide) (fun hc9 => ?_) (fun hc9 => ?_)
  · rw [if_pos (show p1 < 0 from hc9)] at h
    obtain rfl := Sum.inl.inj (Option.some.inj h)
    exact gx_throw (tx := "no bank") hC hT dr_PS_bank_15 dr_PS_bank_18 dr_PS_bank_19 dr_PS_bank_21 dr_PS_bank_24 lt_2 (by decide) (by decide) (by decide) (by decide) (Nat.le_of_ble_eq_true rfl)
  · rw [if_neg (show ¬ (p1 < 0) from hc9)] at h
    refine gx_iload_n hC dr_PS_bank_9 rfl ?_
    refine gx_bipush (v := 16) hC dr_PS_bank_10 (by decide) ?_
    refine gx_icmp_lt (tgt := 25) hC dr_PS_bank_12 (by decide) (fun hc10 => ?_) (fun hc10 => ?_)
    · rw [if_pos (show p1 < 16 from hc10)] at h
      exact (gb_rl h).elim
    · rw [if_neg (show ¬ (p1 < 16) from hc10)] at h
      obtain rfl := Sum.inl.inj (Option.some.inj h)
      exact gx_throw (tx := "no bank") hC hT dr_PS_bank_15 dr_PS_bank_18 dr_PS_bank_19 dr_PS_bank_21 dr_PS_bank_24 lt_2 (by decide) (by decide) (by decide) (by decide) (Nat.le_of_ble_eq_true rfl)
def fn_PS_needs (p0 : Int32) (p1 : Int32) (M : gq_M) : Option (Nat ⊕ (Int32 × gq_M)) := gb_x (fn_PS_checkNet p0 M) fun q1 => if p1 < (-1) then some (.inl 2) else if p1 < 16 then gb_r (if 0 ≤ p0.toInt ∧ p0.toInt < ((200 : Nat) : Int) then if ((gq_i M 9) p0.toInt) = p1 then some (0, (gs_i M 9 (gz_u (gq_i M 9) p0.toInt p1))) else some (1, (gs_i M 9 (gz_u (gq_i M 9) p0.toInt p1))) else none) else some (.inl 2)
set_option maxHeartbeats 4000000 in
set_option maxRecDepth 100000 in
theorem mt_PS_needs {l : Launch} {D : va_G} {ad : Nat → Nat} {ck : Nat → ClassId} {G : gq_M × (Int → Int64)} {p0 : Int32} {p1 : Int32} {M : gq_M} {r : (Int32 × gq_M)} (h : fn_PS_needs p0 p1 M = some (.inr r)) : gm_I 81 81 l D ad ck yn_PS_needs bc_PS_needs 4 .boolean ({ frames := 2, cells := 0, slots := 0, locals := 40 } : Room) [gv_R 0, gv_I p0, gv_I p1] (ca_A (M, G)) (fun z c2 => z = r.1 ∧ c2 = ca_A (r.2, G)) := by
  refine gm_I.of (by decide) (Nat.le_of_ble_eq_true rfl) (fun x hC hR => ?_)
  unfold fn_PS_needs at h
  refine gx_iload_n hC dr_PS_needs_0 rfl ?_
  obtain ⟨q1, e2, h⟩ := gb_xr h
  refine gx_sV hC dr_PS_needs_1 lk_PS_79 (mt_PS_checkNet e2) rfl (by decide) ⟨by decide, by decide⟩ ⟨by decide, by decide⟩ rfl (Nat.le_of_ble_eq_true rfl) (fun c2 hp => ?_)
  subst hp
  refine gx_iload_n hC dr_PS_needs_4 rfl ?_
  refine gx_iconst (v := (-1)) hC dr_PS_needs_5 (by decide) ?_
  refine gx_icmp_lt (tgt := 15) hC dr_PS_needs_6 (by decide) (fun hc3 => ?_) (fun hc3 => ?_)
  · rw [if_pos (show p1 < (-1) from hc3)] at h
    cases h
  · rw [if_neg (show ¬ (p1 < (-1)) from hc3)] at h
    refine gx_iload_n hC dr_PS_needs_9 rfl ?_
    refine gx_bipush (v := 16) hC dr_PS_needs_10 (by decide) ?_
    refine gx_icmp_lt (tgt := 25) hC dr_PS_needs_12 (by decide) (fun hc4 => ?_) (fun hc4 => ?_)
    · rw [if_pos (show p1 < 16 from hc4)] at h
      have h := gb_rr h
      refine gx_aload_n hC dr_PS_needs_25 rfl ?_
      refine gx_get hC dr_PS_needs_26 lf_PS_19 (by decide) rfl rfl ?_
      refine gx_get hC dr_PS_needs_29 lf_PS_111 (by decide) rfl rfl ?_
      refine gx_iload_n hC dr_PS_needs_32 rfl ?_
      obtain ⟨hz5, h⟩ := gk_of h
      refine gx_iald (f := (gq_i M 9)) hC dr_PS_needs_33 (by decide) rfl hz5 ?_
      refine gx_iload_n hC dr_PS_needs_34 rfl ?_
      refine gx_icmp_eq (tgt := 42) hC dr_PS_needs_35 (by decide) (fun hc6 => ?_) (fun hc6 => ?_)
      · rw [if_pos (show ((gq_i M 9) p0.toInt) = p1 from hc6)] at h
        refine gx_iconst (v := 0) hC dr_PS_needs_42 (by decide) ?_
        refine gx_istore_n hC dr_PS_needs_43 (by decide) ?_
        refine gx_aload_n hC dr_PS_needs_44 rfl ?_
        refine gx_get hC dr_PS_needs_45 lf_PS_19 (by decide) rfl rfl ?_
        refine gx_get hC dr_PS_needs_48 lf_PS_111 (by decide) rfl rfl ?_
        refine gx_iload_n hC dr_PS_needs_51 rfl ?_
        refine gx_iload_n hC dr_PS_needs_52 rfl ?_
        refine gx_iast (f := (gq_i M 9)) hC (by decide) dr_PS_needs_53 (by decide) rfl hz5 (ca_I 9 (by decide)) ?_
        refine gx_iload_n hC dr_PS_needs_54 rfl ?_
        obtain rfl := Option.some.inj h
        exact hR (by decide) (by decide) dr_PS_needs_55 rfl ⟨rfl, rfl⟩
      · rw [if_neg (show ¬ (((gq_i M 9) p0.toInt) = p1) from hc6)] at h
        refine gx_iconst (v := 1) hC dr_PS_needs_38 (by decide) ?_
        refine gx_goto (tgt := 43) hC dr_PS_needs_39 (by decide) ?_
        refine gx_istore_n hC dr_PS_needs_43 (by decide) ?_
        refine gx_aload_n hC dr_PS_needs_44 rfl ?_
        refine gx_get hC dr_PS_needs_45 lf_PS_19 (by decide) rfl rfl ?_
        refine gx_get hC dr_PS_needs_48 lf_PS_111 (by decide) rfl rfl ?_
        refine gx_iload_n hC dr_PS_needs_51 rfl ?_
        refine gx_iload_n hC dr_PS_needs_52 rfl ?_
        refine gx_iast (f := (gq_i M 9)) hC (by decide) dr_PS_needs_53 (by decide) rfl hz5 (ca_I 9 (by decide)) ?_
        refine gx_iload_n hC dr_PS_needs_54 rfl ?_
        obtain rfl := Option.some.inj h
        exact hR (by decide) (by decide) dr_PS_needs_55 rfl ⟨rfl, rfl⟩
    · rw [if_neg (show ¬ (p1 < 16) from hc4)] at h
      cases h
set_option maxHeartbeats 4000000 in
set_option maxRecDepth 100000 in
theorem mx_PS_needs {l : Launch} {D : va_G} {ad : Nat → Nat} {ck : Nat → ClassId} {G : gq_M × (Int → Int64)} (hfl : l.flags = pinnedFlags ++ [noTraceFlag]) {p0 : Int32} {p1 : Int32} {M : gq_M} {kd : Nat} (h : fn_PS_needs p0 p1 M = some (.inl kd)) : gm_X 81 l D ad ck yn_PS_needs bc_PS_needs 4 (some .boolean) ({ frames := 7, cells := 1, slots := 6, locals := 110 } : Room) [gv_R 0, gv_I p0, gv_I p1] (ca_A (M, G)) kd := by
  refine gm_X.of hfl (by decide) (Nat.le_of_ble_eq_true rfl) (fun x hfx hC hT => ?_)
  unfold fn_PS_needs at h
  refine gx_iload_n hC dr_PS_needs_0 rfl ?_
  rcases gb_xl h with e8 | ⟨q7, e8, h⟩
  · exact gx_tS hC hT dr_PS_needs_1 ll_PS_79 lk_PS_79 (mx_PS_checkNet hfx e8) rfl ⟨by decide, by decide⟩ ⟨by decide, by decide⟩ rfl (Nat.le_of_ble_eq_true rfl)
  refine gx_sV hC dr_PS_needs_1 lk_PS_79 (mt_PS_checkNet e8) rfl (by decide) ⟨by decide, by decide⟩ ⟨by decide, by decide⟩ rfl (Nat.le_of_ble_eq_true rfl) (fun c2 hp => ?_)
  subst hp
  refine gx_iload_n hC dr_PS_needs_4 rfl ?_
  refine gx_iconst (v := (-1)) hC dr_PS_needs_5 (by decide) ?_
  refine gx_icmp_lt (tgt := 15) hC dr_PS_needs_6 (by decide) (fun hc9 => ?_) (fun hc9 => ?_)
  · rw [if_pos (show p1 < (-1) from hc9)] at h
    obtain rfl := Sum.inl.inj (Option.some.inj h)
    exact gx_throw (tx := "neither a bank nor NONE") hC hT dr_PS_needs_15 dr_PS_needs_18 dr_PS_needs_19 dr_PS_needs_21 dr_PS_needs_24 lt_2 (by decide) (by decide) (by decide) (by decide) (Nat.le_of_ble_eq_true rfl)
  · rw [if_neg (show ¬ (p1 < (-1)) from hc9)] at h
    refine gx_iload_n hC dr_PS_needs_9 rfl ?_
    refine gx_bipush (v := 16) hC dr_PS_needs_10 (by decide) ?_
    refine gx_icmp_lt (tgt := 25) hC dr_PS_needs_12 (by decide) (fun hc10 => ?_) (fun hc10 => ?_)
    · rw [if_pos (show p1 < 16 from hc10)] at h
      exact (gb_rl h).elim
    · rw [if_neg (show ¬ (p1 < 16) from hc10)] at h
      obtain rfl := Sum.inl.inj (Option.some.inj h)
      exact gx_throw (tx := "neither a bank nor NONE") hC hT dr_PS_needs_15 dr_PS_needs_18 dr_PS_needs_19 dr_PS_needs_21 dr_PS_needs_24 lt_2 (by decide) (by decide) (by decide) (by decide) (Nat.le_of_ble_eq_true rfl)
def fn_PS_netOf (p0 : Int32) (M : gq_M) : Option (Nat ⊕ Int32) := gb_x (fn_PS_checkPin p0 M) fun q1 => gb_r (if 0 ≤ p0.toInt ∧ p0.toInt < ((80 : Nat) : Int) then some ((gq_i M 3) p0.toInt) else none)
set_option maxHeartbeats 4000000 in
set_option maxRecDepth 100000 in
theorem mt_PS_netOf {l : Launch} {D : va_G} {ad : Nat → Nat} {ck : Nat → ClassId} {G : gq_M × (Int → Int64)} {p0 : Int32} {M : gq_M} {r : Int32} (h : fn_PS_netOf p0 M = some (.inr r)) : gm_I 81 0 l D ad ck yn_PS_netOf bc_PS_netOf 2 .int ({ frames := 1, cells := 0, slots := 0, locals := 21 } : Room) [gv_R 0, gv_I p0] (ca_A (M, G)) (fun z c2 => z = r ∧ c2 = ca_A (M, G)) := by
  refine gm_I.of (by decide) (Nat.le_of_ble_eq_true rfl) (fun x hC hR => ?_)
  unfold fn_PS_netOf at h
  refine gx_aload_n hC dr_PS_netOf_0 rfl ?_
  refine gx_iload_n hC dr_PS_netOf_1 rfl ?_
  obtain ⟨q1, e2, h⟩ := gb_xr h
  refine gx_vV hC dr_PS_netOf_2 lk_PS_87 (mt_PS_checkPin e2) rfl (by decide) ⟨by decide, by decide⟩ ⟨by decide, by decide⟩ (by decide) ⟨_, _, rfl⟩ rfl rfl (Nat.le_of_ble_eq_true rfl) (fun c2 hp => ?_)
  subst hp
  have h := gb_rr h
  refine gx_aload_n hC dr_PS_netOf_5 rfl ?_
  refine gx_get hC dr_PS_netOf_6 lf_PS_10 (by decide) rfl rfl ?_
  refine gx_get hC dr_PS_netOf_9 lf_PS_122 (by decide) rfl rfl ?_
  refine gx_iload_n hC dr_PS_netOf_12 rfl ?_
  obtain ⟨hz3, h⟩ := gk_of h
  refine gx_iald (f := (gq_i M 3)) hC dr_PS_netOf_13 (by decide) rfl hz3 ?_
  obtain rfl := Option.some.inj h
  exact hR (by decide) (by decide) dr_PS_netOf_14 rfl ⟨rfl, rfl⟩
set_option maxHeartbeats 4000000 in
set_option maxRecDepth 100000 in
theorem mx_PS_netOf {l : Launch} {D : va_G} {ad : Nat → Nat} {ck : Nat → ClassId} {G : gq_M × (Int → Int64)} (hfl : l.flags = pinnedFlags ++ [noTraceFlag]) {p0 : Int32} {M : gq_M} {kd : Nat} (h : fn_PS_netOf p0 M = some (.inl kd)) : gm_X 81 l D ad ck yn_PS_netOf bc_PS_netOf 2 (some .int) ({ frames := 7, cells := 1, slots := 6, locals := 111 } : Room) [gv_R 0, gv_I p0] (ca_A (M, G)) kd := by
  refine gm_X.of hfl (by decide) (Nat.le_of_ble_eq_true rfl) (fun x hfx hC hT => ?_)
  unfold fn_PS_netOf at h
  refine gx_aload_n hC dr_PS_netOf_0 rfl ?_
  refine gx_iload_n hC dr_PS_netOf_1 rfl ?_
  rcases gb_xl h with e5 | ⟨q4, e5, h⟩
  · exact gx_tV hC hT dr_PS_netOf_2 ll_PS_87 lk_PS_87 (mx_PS_checkPin hfx e5) rfl ⟨by decide, by decide⟩ ⟨by decide, by decide⟩ (by decide) ⟨_, _, rfl⟩ rfl rfl (Nat.le_of_ble_eq_true rfl)
  refine gx_vV hC dr_PS_netOf_2 lk_PS_87 (mt_PS_checkPin e5) rfl (by decide) ⟨by decide, by decide⟩ ⟨by decide, by decide⟩ (by decide) ⟨_, _, rfl⟩ rfl rfl (Nat.le_of_ble_eq_true rfl) (fun c2 hp => ?_)
  subst hp
  exact (gb_rl h).elim
def fn_PS_dual (p0 : Int32) (p1 : Int32) (M : gq_M) : Option (Nat ⊕ (Int64 × gq_M)) := gb_x (fn_PS_checkPin p1 M) fun q1 => if p0 = 0 then gb_r ((fn_Pi_unitOf p1 M).bind fun q4 => (fn_Pi_isUnitLocked q4 M).bind fun q6 => if q6 = 0 then if 0 ≤ q4.toInt ∧ q4.toInt < ((80 : Nat) : Int) then (fn_Pi_isPaired q4 M).bind fun q10 => (fn_PS_loadMatching ((gq_i M 1) q4.toInt) q10 M).bind fun q12 => if p0 = 1 then if 2 ≤ (gq_f q12 2) then (fn_Ma_solve  q12).bind fun q16 => if p0 = 0 then (fn_Ma_forbidOthers q4 q16.2).bind fun q19 => (fn_Ma_solve  q19).bind fun q21 => some ((q21.1 - q16.1), q21.2) else (fn_Ma_forbidOwn q4 q16.2).bind fun q23 => (fn_Ma_solve  q23).bind fun q25 => some ((q25.1 - q16.1), q25.2) else some ((-1), q12) else (fn_Ma_solve  q12).bind fun q27 => if p0 = 0 then (fn_Ma_forbidOthers q4 q27.2).bind fun q30 => (fn_Ma_solve  q30).bind fun q32 => some ((q32.1 - q27.1), q32.2) else (fn_Ma_forbidOwn q4 q27.2).bind fun q34 => (fn_Ma_solve  q34).bind fun q36 => some ((q36.1 - q27.1), q36.2) else none else some ((-1), M)) else if p0 = 1 then gb_r ((fn_Pi_unitOf p1 M).bind fun q39 => (fn_Pi_isUnitLocked q39 M).bind fun q41 => if q41 = 0 then if 0 ≤ q39.toInt ∧ q39.toInt < ((80 : Nat) : Int) then (fn_Pi_isPaired q39 M).bind fun q45 => (fn_PS_loadMatching ((gq_i M 1) q39.toInt) q45 M).bind fun q47 => if p0 = 1 then if 2 ≤ (gq_f q47 2) then (fn_Ma_solve  q47).bind fun q51 => if p0 = 0 then (fn_Ma_forbidOthers q39 q51.2).bind fun q54 => (fn_Ma_solve  q54).bind fun q56 => some ((q56.1 - q51.1), q56.2) else (fn_Ma_forbidOwn q39 q51.2).bind fun q58 => (fn_Ma_solve  q58).bind fun q60 => some ((q60.1 - q51.1), q60.2) else some ((-1), q47) else (fn_Ma_solve  q47).bind fun q62 => if p0 = 0 then (fn_Ma_forbidOthers q39 q62.2).bind fun q65 => (fn_Ma_solve  q65).bind fun q67 => some ((q67.1 - q62.1), q67.2) else (fn_Ma_forbidOwn q39 q62.2).bind fun q69 => (fn_Ma_solve  q69).bind fun q71 => some ((q71.1 - q62.1), q71.2) else none else some ((-1), M)) else some (.inl 1)
set_option maxHeartbeats 4000000 in
set_option maxRecDepth 100000 in
theorem mt_PS_dual {l : Launch} {D : va_G} {ad : Nat → Nat} {ck : Nat → ClassId} {G : gq_M × (Int → Int64)} {p0 : Int32} {p1 : Int32} {M : gq_M} {r : (Int64 × gq_M)} (h : fn_PS_dual p0 p1 M = some (.inr r)) : gm_J 81 81 l D ad ck yn_PS_dual bc_PS_dual 6 ({ frames := 4, cells := 0, slots := 0, locals := 113 } : Room) [gv_R 0, gv_I p0, gv_I p1] (ca_A (M, G)) (fun z c2 => z = r.1 ∧ c2 = ca_A (r.2, G)) := by
  refine gm_J.of (by decide) (Nat.le_of_ble_eq_true rfl) (fun x hC hR => ?_)
  unfold fn_PS_dual at h
  refine gx_aload_n hC dr_PS_dual_0 rfl ?_
  refine gx_iload_n hC dr_PS_dual_1 rfl ?_
  obtain ⟨q1, e2, h⟩ := gb_xr h
  refine gx_vV hC dr_PS_dual_2 lk_PS_87 (mt_PS_checkPin e2) rfl (by decide) ⟨by decide, by decide⟩ ⟨by decide, by decide⟩ (by decide) ⟨_, _, rfl⟩ rfl rfl (Nat.le_of_ble_eq_true rfl) (fun c2 hp => ?_)
  subst hp
  refine gx_iload_n hC dr_PS_dual_5 rfl ?_
  refine gx_if_eq (tgt := 24) hC dr_PS_dual_6 (by decide) (fun hc3 => ?_) (fun hc3 => ?_)
  · rw [if_pos (show p0 = 0 from hc3)] at h
    have h := gb_rr h
    refine gx_aload_n hC dr_PS_dual_24 rfl ?_
    refine gx_get hC dr_PS_dual_25 lf_PS_10 (by decide) rfl rfl ?_
    refine gx_iload_n hC dr_PS_dual_28 rfl ?_
    obtain ⟨q4, e5, h⟩ := gb_of h
    refine gx_vI hC dr_PS_dual_29 lk_PS_146 (mt_Pi_unitOf e5) rfl (by decide) ⟨by decide, by decide⟩ ⟨by decide, by decide⟩ (by decide) ⟨_, _, rfl⟩ rfl rfl (Nat.le_of_ble_eq_true rfl) (fun z c2 hp => ?_)
    obtain ⟨hp1, rfl⟩ := hp; obtain rfl := hp1.symm
    refine gx_istore_n hC dr_PS_dual_32 (by decide) ?_
    refine gx_aload_n hC dr_PS_dual_33 rfl ?_
    refine gx_get hC dr_PS_dual_34 lf_PS_10 (by decide) rfl rfl ?_
    refine gx_iload_n hC dr_PS_dual_37 rfl ?_
    obtain ⟨q6, e7, h⟩ := gb_of h
    refine gx_vI hC dr_PS_dual_38 lk_PS_150 (mt_Pi_isUnitLocked e7) rfl (by decide) ⟨by decide, by decide⟩ ⟨by decide, by decide⟩ (by decide) ⟨_, _, rfl⟩ rfl rfl (Nat.le_of_ble_eq_true rfl) (fun z c2 hp => ?_)
    obtain ⟨hp1, rfl⟩ := hp; obtain rfl := hp1.symm
    refine gx_if_eq (tgt := 48) hC dr_PS_dual_41 (by decide) (fun hc8 => ?_) (fun hc8 => ?_)
    · rw [if_pos (show q6 = 0 from hc8)] at h
      refine gx_aload_n hC dr_PS_dual_48 rfl ?_
      refine gx_aload_n hC dr_PS_dual_49 rfl ?_
      refine gx_get hC dr_PS_dual_50 lf_PS_10 (by decide) rfl rfl ?_
      refine gx_get hC dr_PS_dual_53 lf_PS_94 (by decide) rfl rfl ?_
      refine gx_iload_n hC dr_PS_dual_56 rfl ?_
      obtain ⟨hz9, h⟩ := gk_of h
      refine gx_iald (f := (gq_i M 1)) hC dr_PS_dual_57 (by decide) rfl hz9 ?_
      refine gx_aload_n hC dr_PS_dual_58 rfl ?_
      refine gx_get hC dr_PS_dual_59 lf_PS_10 (by decide) rfl rfl ?_
      refine gx_iload_n hC dr_PS_dual_62 rfl ?_
      obtain ⟨q10, e11, h⟩ := gb_of h
      refine gx_vI hC dr_PS_dual_63 lk_PS_97 (mt_Pi_isPaired e11) rfl (by decide) ⟨by decide, by decide⟩ ⟨by decide, by decide⟩ (by decide) ⟨_, _, rfl⟩ rfl rfl (Nat.le_of_ble_eq_true rfl) (fun z c2 hp => ?_)
      obtain ⟨hp1, rfl⟩ := hp; obtain rfl := hp1.symm
      obtain ⟨q12, e13, h⟩ := gb_of h
      refine gx_vV hC dr_PS_dual_66 lk_PS_155 (mt_PS_loadMatching e13) rfl (by decide) ⟨by decide, by decide⟩ ⟨by decide, by decide⟩ (by decide) ⟨_, _, rfl⟩ rfl rfl (Nat.le_of_ble_eq_true rfl) (fun c2 hp => ?_)
      subst hp
      refine gx_iload_n hC dr_PS_dual_69 rfl ?_
      refine gx_iconst (v := 1) hC dr_PS_dual_70 (by decide) ?_
      refine gx_icmp_ne (tgt := 89) hC dr_PS_dual_71 (by decide) (fun hc14 => ?_) (fun hc14 => ?_)
      · rw [if_neg (show ¬ (p0 = 1) from hc14)] at h
        refine gx_aload_n hC dr_PS_dual_89 rfl ?_
        refine gx_get hC dr_PS_dual_90 lf_PS_26 (by decide) rfl rfl ?_
        obtain ⟨q27, e28, h⟩ := gb_of h
        refine gx_vJ hC dr_PS_dual_93 lk_PS_162 (mt_Ma_solve e28) rfl (by decide) ⟨by decide, by decide⟩ ⟨by decide, by decide⟩ (by decide) ⟨_, _, rfl⟩ rfl rfl (Nat.le_of_ble_eq_true rfl) (fun z c2 hp => ?_)
        obtain ⟨rfl, rfl⟩ := hp
        refine gx_lstore hC dr_PS_dual_96 (by decide) ?_
        refine gx_iload_n hC dr_PS_dual_98 rfl ?_
        refine gx_if_ne (tgt := 113) hC dr_PS_dual_99 (by decide) (fun hc29 => ?_) (fun hc29 => ?_)
        · rw [if_neg (show ¬ (p0 = 0) from hc29)] at h
          refine gx_aload_n hC dr_PS_dual_113 rfl ?_
          refine gx_get hC dr_PS_dual_114 lf_PS_26 (by decide) rfl rfl ?_
          refine gx_iload_n hC dr_PS_dual_117 rfl ?_
          obtain ⟨q34, e35, h⟩ := gb_of h
          refine gx_vV hC dr_PS_dual_118 lk_PS_168 (mt_Ma_forbidOwn e35) rfl (by decide) ⟨by decide, by decide⟩ ⟨by decide, by decide⟩ (by decide) ⟨_, _, rfl⟩ rfl rfl (Nat.le_of_ble_eq_true rfl) (fun c2 hp => ?_)
          subst hp
          refine gx_aload_n hC dr_PS_dual_121 rfl ?_
          refine gx_get hC dr_PS_dual_122 lf_PS_26 (by decide) rfl rfl ?_
          obtain ⟨q36, e37, h⟩ := gb_of h
          refine gx_vJ hC dr_PS_dual_125 lk_PS_162 (mt_Ma_solve e37) rfl (by decide) ⟨by decide, by decide⟩ ⟨by decide, by decide⟩ (by decide) ⟨_, _, rfl⟩ rfl rfl (Nat.le_of_ble_eq_true rfl) (fun z c2 hp => ?_)
          obtain ⟨rfl, rfl⟩ := hp
          refine gx_lload hC dr_PS_dual_128 rfl ?_
          refine gx_lsub hC dr_PS_dual_130 ?_
          obtain rfl := Option.some.inj h
          exact hR (by decide) (by decide) dr_PS_dual_131 ⟨rfl, rfl⟩
        · rw [if_pos (show p0 = 0 from hc29)] at h
          refine gx_aload_n hC dr_PS_dual_102 rfl ?_
          refine gx_get hC dr_PS_dual_103 lf_PS_26 (by decide) rfl rfl ?_
          refine gx_iload_n hC dr_PS_dual_106 rfl ?_
          obtain ⟨q30, e31, h⟩ := gb_of h
          refine gx_vV hC dr_PS_dual_107 lk_PS_165 (mt_Ma_forbidOthers e31) rfl (by decide) ⟨by decide, by decide⟩ ⟨by decide, by decide⟩ (by decide) ⟨_, _, rfl⟩ rfl rfl (Nat.le_of_ble_eq_true rfl) (fun c2 hp => ?_)
          subst hp
          refine gx_goto (tgt := 121) hC dr_PS_dual_110 (by decide) ?_
          refine gx_aload_n hC dr_PS_dual_121 rfl ?_
          refine gx_get hC dr_PS_dual_122 lf_PS_26 (by decide) rfl rfl ?_
          obtain ⟨q32, e33, h⟩ := gb_of h
          refine gx_vJ hC dr_PS_dual_125 lk_PS_162 (mt_Ma_solve e33) rfl (by decide) ⟨by decide, by decide⟩ ⟨by decide, by decide⟩ (by decide) ⟨_, _, rfl⟩ rfl rfl (Nat.le_of_ble_eq_true rfl) (fun z c2 hp => ?_)
          obtain ⟨rfl, rfl⟩ := hp
          refine gx_lload hC dr_PS_dual_128 rfl ?_
          refine gx_lsub hC dr_PS_dual_130 ?_
          obtain rfl := Option.some.inj h
          exact hR (by decide) (by decide) dr_PS_dual_131 ⟨rfl, rfl⟩
      · rw [if_pos (show p0 = 1 from hc14)] at h
        refine gx_aload_n hC dr_PS_dual_74 rfl ?_
        refine gx_get hC dr_PS_dual_75 lf_PS_26 (by decide) rfl rfl ?_
        refine gx_get hC dr_PS_dual_78 lf_PS_159 (by decide) rfl rfl ?_
        refine gx_iconst (v := 2) hC dr_PS_dual_81 (by decide) ?_
        refine gx_icmp_ge (tgt := 89) hC dr_PS_dual_82 (by decide) (fun hc15 => ?_) (fun hc15 => ?_)
        · rw [if_pos (show 2 ≤ (gq_f q12 2) from hc15)] at h
          refine gx_aload_n hC dr_PS_dual_89 rfl ?_
          refine gx_get hC dr_PS_dual_90 lf_PS_26 (by decide) rfl rfl ?_
          obtain ⟨q16, e17, h⟩ := gb_of h
          refine gx_vJ hC dr_PS_dual_93 lk_PS_162 (mt_Ma_solve e17) rfl (by decide) ⟨by decide, by decide⟩ ⟨by decide, by decide⟩ (by decide) ⟨_, _, rfl⟩ rfl rfl (Nat.le_of_ble_eq_true rfl) (fun z c2 hp => ?_)
          obtain ⟨rfl, rfl⟩ := hp
          refine gx_lstore hC dr_PS_dual_96 (by decide) ?_
          refine gx_iload_n hC dr_PS_dual_98 rfl ?_
          refine gx_if_ne (tgt := 113) hC dr_PS_dual_99 (by decide) (fun hc18 => ?_) (fun hc18 => ?_)
          · rw [if_neg (show ¬ (p0 = 0) from hc18)] at h
            refine gx_aload_n hC dr_PS_dual_113 rfl ?_
            refine gx_get hC dr_PS_dual_114 lf_PS_26 (by decide) rfl rfl ?_
            refine gx_iload_n hC dr_PS_dual_117 rfl ?_
            obtain ⟨q23, e24, h⟩ := gb_of h
            refine gx_vV hC dr_PS_dual_118 lk_PS_168 (mt_Ma_forbidOwn e24) rfl (by decide) ⟨by decide, by decide⟩ ⟨by decide, by decide⟩ (by decide) ⟨_, _, rfl⟩ rfl rfl (Nat.le_of_ble_eq_true rfl) (fun c2 hp => ?_)
            subst hp
            refine gx_aload_n hC dr_PS_dual_121 rfl ?_
            refine gx_get hC dr_PS_dual_122 lf_PS_26 (by decide) rfl rfl ?_
            obtain ⟨q25, e26, h⟩ := gb_of h
            refine gx_vJ hC dr_PS_dual_125 lk_PS_162 (mt_Ma_solve e26) rfl (by decide) ⟨by decide, by decide⟩ ⟨by decide, by decide⟩ (by decide) ⟨_, _, rfl⟩ rfl rfl (Nat.le_of_ble_eq_true rfl) (fun z c2 hp => ?_)
            obtain ⟨rfl, rfl⟩ := hp
            refine gx_lload hC dr_PS_dual_128 rfl ?_
            refine gx_lsub hC dr_PS_dual_130 ?_
            obtain rfl := Option.some.inj h
            exact hR (by decide) (by decide) dr_PS_dual_131 ⟨rfl, rfl⟩
          · rw [if_pos (show p0 = 0 from hc18)] at h
            refine gx_aload_n hC dr_PS_dual_102 rfl ?_
            refine gx_get hC dr_PS_dual_103 lf_PS_26 (by decide) rfl rfl ?_
            refine gx_iload_n hC dr_PS_dual_106 rfl ?_
            obtain ⟨q19, e20, h⟩ := gb_of h
            refine gx_vV hC dr_PS_dual_107 lk_PS_165 (mt_Ma_forbidOthers e20) rfl (by decide) ⟨by decide, by decide⟩ ⟨by decide, by decide⟩ (by decide) ⟨_, _, rfl⟩ rfl rfl (Nat.le_of_ble_eq_true rfl) (fun c2 hp => ?_)
            subst hp
            refine gx_goto (tgt := 121) hC dr_PS_dual_110 (by decide) ?_
            refine gx_aload_n hC dr_PS_dual_121 rfl ?_
            refine gx_get hC dr_PS_dual_122 lf_PS_26 (by decide) rfl rfl ?_
            obtain ⟨q21, e22, h⟩ := gb_of h
            refine gx_vJ hC dr_PS_dual_125 lk_PS_162 (mt_Ma_solve e22) rfl (by decide) ⟨by decide, by decide⟩ ⟨by decide, by decide⟩ (by decide) ⟨_, _, rfl⟩ rfl rfl (Nat.le_of_ble_eq_true rfl) (fun z c2 hp => ?_)
            obtain ⟨rfl, rfl⟩ := hp
            refine gx_lload hC dr_PS_dual_128 rfl ?_
            refine gx_lsub hC dr_PS_dual_130 ?_
            obtain rfl := Option.some.inj h
            exact hR (by decide) (by decide) dr_PS_dual_131 ⟨rfl, rfl⟩
        · rw [if_neg (show ¬ (2 ≤ (gq_f q12 2)) from hc15)] at h
          refine gx_ldc2 (v := (-1)) hC dr_PS_dual_85 lc_PS_153 ?_
          obtain rfl := Option.some.inj h
          exact hR (by decide) (by decide) dr_PS_dual_88 ⟨rfl, rfl⟩
    · rw [if_neg (show ¬ (q6 = 0) from hc8)] at h
      refine gx_ldc2 (v := (-1)) hC dr_PS_dual_44 lc_PS_153 ?_
      obtain rfl := Option.some.inj h
      exact hR (by decide) (by decide) dr_PS_dual_47 ⟨rfl, rfl⟩
  · rw [if_neg (show ¬ (p0 = 0) from hc3)] at h
    refine gx_iload_n hC dr_PS_dual_9 rfl ?_
    refine gx_iconst (v := 1) hC dr_PS_dual_10 (by decide) ?_
    refine gx_icmp_eq (tgt := 24) hC dr_PS_dual_11 (by decide) (fun hc38 => ?_) (fun hc38 => ?_)
    · rw [if_pos (show p0 = 1 from hc38)] at h
      have h := gb_rr h
      refine gx_aload_n hC dr_PS_dual_24 rfl ?_
      refine gx_get hC dr_PS_dual_25 lf_PS_10 (by decide) rfl rfl ?_
      refine gx_iload_n hC dr_PS_dual_28 rfl ?_
      obtain ⟨q39, e40, h⟩ := gb_of h
      refine gx_vI hC dr_PS_dual_29 lk_PS_146 (mt_Pi_unitOf e40) rfl (by decide) ⟨by decide, by decide⟩ ⟨by decide, by decide⟩ (by decide) ⟨_, _, rfl⟩ rfl rfl (Nat.le_of_ble_eq_true rfl) (fun z c2 hp => ?_)
      obtain ⟨hp1, rfl⟩ := hp; obtain rfl := hp1.symm
      refine gx_istore_n hC dr_PS_dual_32 (by decide) ?_
      refine gx_aload_n hC dr_PS_dual_33 rfl ?_
      refine gx_get hC dr_PS_dual_34 lf_PS_10 (by decide) rfl rfl ?_
      refine gx_iload_n hC dr_PS_dual_37 rfl ?_
      obtain ⟨q41, e42, h⟩ := gb_of h
      refine gx_vI hC dr_PS_dual_38 lk_PS_150 (mt_Pi_isUnitLocked e42) rfl (by decide) ⟨by decide, by decide⟩ ⟨by decide, by decide⟩ (by decide) ⟨_, _, rfl⟩ rfl rfl (Nat.le_of_ble_eq_true rfl) (fun z c2 hp => ?_)
      obtain ⟨hp1, rfl⟩ := hp; obtain rfl := hp1.symm
      refine gx_if_eq (tgt := 48) hC dr_PS_dual_41 (by decide) (fun hc43 => ?_) (fun hc43 => ?_)
      · rw [if_pos (show q41 = 0 from hc43)] at h
        refine gx_aload_n hC dr_PS_dual_48 rfl ?_
        refine gx_aload_n hC dr_PS_dual_49 rfl ?_
        refine gx_get hC dr_PS_dual_50 lf_PS_10 (by decide) rfl rfl ?_
        refine gx_get hC dr_PS_dual_53 lf_PS_94 (by decide) rfl rfl ?_
        refine gx_iload_n hC dr_PS_dual_56 rfl ?_
        obtain ⟨hz44, h⟩ := gk_of h
        refine gx_iald (f := (gq_i M 1)) hC dr_PS_dual_57 (by decide) rfl hz44 ?_
        refine gx_aload_n hC dr_PS_dual_58 rfl ?_
        refine gx_get hC dr_PS_dual_59 lf_PS_10 (by decide) rfl rfl ?_
        refine gx_iload_n hC dr_PS_dual_62 rfl ?_
        obtain ⟨q45, e46, h⟩ := gb_of h
        refine gx_vI hC dr_PS_dual_63 lk_PS_97 (mt_Pi_isPaired e46) rfl (by decide) ⟨by decide, by decide⟩ ⟨by decide, by decide⟩ (by decide) ⟨_, _, rfl⟩ rfl rfl (Nat.le_of_ble_eq_true rfl) (fun z c2 hp => ?_)
        obtain ⟨hp1, rfl⟩ := hp; obtain rfl := hp1.symm
        obtain ⟨q47, e48, h⟩ := gb_of h
        refine gx_vV hC dr_PS_dual_66 lk_PS_155 (mt_PS_loadMatching e48) rfl (by decide) ⟨by decide, by decide⟩ ⟨by decide, by decide⟩ (by decide) ⟨_, _, rfl⟩ rfl rfl (Nat.le_of_ble_eq_true rfl) (fun c2 hp => ?_)
        subst hp
        refine gx_iload_n hC dr_PS_dual_69 rfl ?_
        refine gx_iconst (v := 1) hC dr_PS_dual_70 (by decide) ?_
        refine gx_icmp_ne (tgt := 89) hC dr_PS_dual_71 (by decide) (fun hc49 => ?_) (fun hc49 => ?_)
        · rw [if_neg (show ¬ (p0 = 1) from hc49)] at h
          refine gx_aload_n hC dr_PS_dual_89 rfl ?_
          refine gx_get hC dr_PS_dual_90 lf_PS_26 (by decide) rfl rfl ?_
          obtain ⟨q62, e63, h⟩ := gb_of h
          refine gx_vJ hC dr_PS_dual_93 lk_PS_162 (mt_Ma_solve e63) rfl (by decide) ⟨by decide, by decide⟩ ⟨by decide, by decide⟩ (by decide) ⟨_, _, rfl⟩ rfl rfl (Nat.le_of_ble_eq_true rfl) (fun z c2 hp => ?_)
          obtain ⟨rfl, rfl⟩ := hp
          refine gx_lstore hC dr_PS_dual_96 (by decide) ?_
          refine gx_iload_n hC dr_PS_dual_98 rfl ?_
          refine gx_if_ne (tgt := 113) hC dr_PS_dual_99 (by decide) (fun hc64 => ?_) (fun hc64 => ?_)
          · rw [if_neg (show ¬ (p0 = 0) from hc64)] at h
            refine gx_aload_n hC dr_PS_dual_113 rfl ?_
            refine gx_get hC dr_PS_dual_114 lf_PS_26 (by decide) rfl rfl ?_
            refine gx_iload_n hC dr_PS_dual_117 rfl ?_
            obtain ⟨q69, e70, h⟩ := gb_of h
            refine gx_vV hC dr_PS_dual_118 lk_PS_168 (mt_Ma_forbidOwn e70) rfl (by decide) ⟨by decide, by decide⟩ ⟨by decide, by decide⟩ (by decide) ⟨_, _, rfl⟩ rfl rfl (Nat.le_of_ble_eq_true rfl) (fun c2 hp => ?_)
            subst hp
            refine gx_aload_n hC dr_PS_dual_121 rfl ?_
            refine gx_get hC dr_PS_dual_122 lf_PS_26 (by decide) rfl rfl ?_
            obtain ⟨q71, e72, h⟩ := gb_of h
            refine gx_vJ hC dr_PS_dual_125 lk_PS_162 (mt_Ma_solve e72) rfl (by decide) ⟨by decide, by decide⟩ ⟨by decide, by decide⟩ (by decide) ⟨_, _, rfl⟩ rfl rfl (Nat.le_of_ble_eq_true rfl) (fun z c2 hp => ?_)
            obtain ⟨rfl, rfl⟩ := hp
            refine gx_lload hC dr_PS_dual_128 rfl ?_
            refine gx_lsub hC dr_PS_dual_130 ?_
            obtain rfl := Option.some.inj h
            exact hR (by decide) (by decide) dr_PS_dual_131 ⟨rfl, rfl⟩
          · rw [if_pos (show p0 = 0 from hc64)] at h
            refine gx_aload_n hC dr_PS_dual_102 rfl ?_
            refine gx_get hC dr_PS_dual_103 lf_PS_26 (by decide) rfl rfl ?_
            refine gx_iload_n hC dr_PS_dual_106 rfl ?_
            obtain ⟨q65, e66, h⟩ := gb_of h
            refine gx_vV hC dr_PS_dual_107 lk_PS_165 (mt_Ma_forbidOthers e66) rfl (by decide) ⟨by decide, by decide⟩ ⟨by decide, by decide⟩ (by decide) ⟨_, _, rfl⟩ rfl rfl (Nat.le_of_ble_eq_true rfl) (fun c2 hp => ?_)
            subst hp
            refine gx_goto (tgt := 121) hC dr_PS_dual_110 (by decide) ?_
            refine gx_aload_n hC dr_PS_dual_121 rfl ?_
            refine gx_get hC dr_PS_dual_122 lf_PS_26 (by decide) rfl rfl ?_
            obtain ⟨q67, e68, h⟩ := gb_of h
            refine gx_vJ hC dr_PS_dual_125 lk_PS_162 (mt_Ma_solve e68) rfl (by decide) ⟨by decide, by decide⟩ ⟨by decide, by decide⟩ (by decide) ⟨_, _, rfl⟩ rfl rfl (Nat.le_of_ble_eq_true rfl) (fun z c2 hp => ?_)
            obtain ⟨rfl, rfl⟩ := hp
            refine gx_lload hC dr_PS_dual_128 rfl ?_
            refine gx_lsub hC dr_PS_dual_130 ?_
            obtain rfl := Option.some.inj h
            exact hR (by decide) (by decide) dr_PS_dual_131 ⟨rfl, rfl⟩
        · rw [if_pos (show p0 = 1 from hc49)] at h
          refine gx_aload_n hC dr_PS_dual_74 rfl ?_
          refine gx_get hC dr_PS_dual_75 lf_PS_26 (by decide) rfl rfl ?_
          refine gx_get hC dr_PS_dual_78 lf_PS_159 (by decide) rfl rfl ?_
          refine gx_iconst (v := 2) hC dr_PS_dual_81 (by decide) ?_
          refine gx_icmp_ge (tgt := 89) hC dr_PS_dual_82 (by decide) (fun hc50 => ?_) (fun hc50 => ?_)
          · rw [if_pos (show 2 ≤ (gq_f q47 2) from hc50)] at h
            refine gx_aload_n hC dr_PS_dual_89 rfl ?_
            refine gx_get hC dr_PS_dual_90 lf_PS_26 (by decide) rfl rfl ?_
            obtain ⟨q51, e52, h⟩ := gb_of h
            refine gx_vJ hC dr_PS_dual_93 lk_PS_162 (mt_Ma_solve e52) rfl (by decide) ⟨by decide, by decide⟩ ⟨by decide, by decide⟩ (by decide) ⟨_, _, rfl⟩ rfl rfl (Nat.le_of_ble_eq_true rfl) (fun z c2 hp => ?_)
            obtain ⟨rfl, rfl⟩ := hp
            refine gx_lstore hC dr_PS_dual_96 (by decide) ?_
            refine gx_iload_n hC dr_PS_dual_98 rfl ?_
            refine gx_if_ne (tgt := 113) hC dr_PS_dual_99 (by decide) (fun hc53 => ?_) (fun hc53 => ?_)
            · rw [if_neg (show ¬ (p0 = 0) from hc53)] at h
              refine gx_aload_n hC dr_PS_dual_113 rfl ?_
              refine gx_get hC dr_PS_dual_114 lf_PS_26 (by decide) rfl rfl ?_
              refine gx_iload_n hC dr_PS_dual_117 rfl ?_
              obtain ⟨q58, e59, h⟩ := gb_of h
              refine gx_vV hC dr_PS_dual_118 lk_PS_168 (mt_Ma_forbidOwn e59) rfl (by decide) ⟨by decide, by decide⟩ ⟨by decide, by decide⟩ (by decide) ⟨_, _, rfl⟩ rfl rfl (Nat.le_of_ble_eq_true rfl) (fun c2 hp => ?_)
              subst hp
              refine gx_aload_n hC dr_PS_dual_121 rfl ?_
              refine gx_get hC dr_PS_dual_122 lf_PS_26 (by decide) rfl rfl ?_
              obtain ⟨q60, e61, h⟩ := gb_of h
              refine gx_vJ hC dr_PS_dual_125 lk_PS_162 (mt_Ma_solve e61) rfl (by decide) ⟨by decide, by decide⟩ ⟨by decide, by decide⟩ (by decide) ⟨_, _, rfl⟩ rfl rfl (Nat.le_of_ble_eq_true rfl) (fun z c2 hp => ?_)
              obtain ⟨rfl, rfl⟩ := hp
              refine gx_lload hC dr_PS_dual_128 rfl ?_
              refine gx_lsub hC dr_PS_dual_130 ?_
              obtain rfl := Option.some.inj h
              exact hR (by decide) (by decide) dr_PS_dual_131 ⟨rfl, rfl⟩
            · rw [if_pos (show p0 = 0 from hc53)] at h
              refine gx_aload_n hC dr_PS_dual_102 rfl ?_
              refine gx_get hC dr_PS_dual_103 lf_PS_26 (by decide) rfl rfl ?_
              refine gx_iload_n hC dr_PS_dual_106 rfl ?_
              obtain ⟨q54, e55, h⟩ := gb_of h
              refine gx_vV hC dr_PS_dual_107 lk_PS_165 (mt_Ma_forbidOthers e55) rfl (by decide) ⟨by decide, by decide⟩ ⟨by decide, by decide⟩ (by decide) ⟨_, _, rfl⟩ rfl rfl (Nat.le_of_ble_eq_true rfl) (fun c2 hp => ?_)
              subst hp
              refine gx_goto (tgt := 121) hC dr_PS_dual_110 (by decide) ?_
              refine gx_aload_n hC dr_PS_dual_121 rfl ?_
              refine gx_get hC dr_PS_dual_122 lf_PS_26 (by decide) rfl rfl ?_
              obtain ⟨q56, e57, h⟩ := gb_of h
              refine gx_vJ hC dr_PS_dual_125 lk_PS_162 (mt_Ma_solve e57) rfl (by decide) ⟨by decide, by decide⟩ ⟨by decide, by decide⟩ (by decide) ⟨_, _, rfl⟩ rfl rfl (Nat.le_of_ble_eq_true rfl) (fun z c2 hp => ?_)
              obtain ⟨rfl, rfl⟩ := hp
              refine gx_lload hC dr_PS_dual_128 rfl ?_
              refine gx_lsub hC dr_PS_dual_130 ?_
              obtain rfl := Option.some.inj h
              exact hR (by decide) (by decide) dr_PS_dual_131 ⟨rfl, rfl⟩
          · rw [if_neg (show ¬ (2 ≤ (gq_f q47 2)) from hc50)] at h
            refine gx_ldc2 (v := (-1)) hC dr_PS_dual_85 lc_PS_153 ?_
            obtain rfl := Option.some.inj h
            exact hR (by decide) (by decide) dr_PS_dual_88 ⟨rfl, rfl⟩
      · rw [if_neg (show ¬ (q41 = 0) from hc43)] at h
        refine gx_ldc2 (v := (-1)) hC dr_PS_dual_44 lc_PS_153 ?_
        obtain rfl := Option.some.inj h
        exact hR (by decide) (by decide) dr_PS_dual_47 ⟨rfl, rfl⟩
    · rw [if_neg (show ¬ (p0 = 1) from hc38)] at h
      cases h
set_option maxHeartbeats 4000000 in
set_option maxRecDepth 100000 in
theorem mx_PS_dual {l : Launch} {D : va_G} {ad : Nat → Nat} {ck : Nat → ClassId} {G : gq_M × (Int → Int64)} (hfl : l.flags = pinnedFlags ++ [noTraceFlag]) {p0 : Int32} {p1 : Int32} {M : gq_M} {kd : Nat} (h : fn_PS_dual p0 p1 M = some (.inl kd)) : gm_X 81 l D ad ck yn_PS_dual bc_PS_dual 6 (some .long) ({ frames := 7, cells := 1, slots := 6, locals := 111 } : Room) [gv_R 0, gv_I p0, gv_I p1] (ca_A (M, G)) kd := by
  refine gm_X.of hfl (by decide) (Nat.le_of_ble_eq_true rfl) (fun x hfx hC hT => ?_)
  unfold fn_PS_dual at h
  refine gx_aload_n hC dr_PS_dual_0 rfl ?_
  refine gx_iload_n hC dr_PS_dual_1 rfl ?_
  rcases gb_xl h with e74 | ⟨q73, e74, h⟩
  · exact gx_tV hC hT dr_PS_dual_2 ll_PS_87 lk_PS_87 (mx_PS_checkPin hfx e74) rfl ⟨by decide, by decide⟩ ⟨by decide, by decide⟩ (by decide) ⟨_, _, rfl⟩ rfl rfl (Nat.le_of_ble_eq_true rfl)
  refine gx_vV hC dr_PS_dual_2 lk_PS_87 (mt_PS_checkPin e74) rfl (by decide) ⟨by decide, by decide⟩ ⟨by decide, by decide⟩ (by decide) ⟨_, _, rfl⟩ rfl rfl (Nat.le_of_ble_eq_true rfl) (fun c2 hp => ?_)
  subst hp
  refine gx_iload_n hC dr_PS_dual_5 rfl ?_
  refine gx_if_eq (tgt := 24) hC dr_PS_dual_6 (by decide) (fun hc75 => ?_) (fun hc75 => ?_)
  · rw [if_pos (show p0 = 0 from hc75)] at h
    exact (gb_rl h).elim
  · rw [if_neg (show ¬ (p0 = 0) from hc75)] at h
    refine gx_iload_n hC dr_PS_dual_9 rfl ?_
    refine gx_iconst (v := 1) hC dr_PS_dual_10 (by decide) ?_
    refine gx_icmp_eq (tgt := 24) hC dr_PS_dual_11 (by decide) (fun hc110 => ?_) (fun hc110 => ?_)
    · rw [if_pos (show p0 = 1 from hc110)] at h
      exact (gb_rl h).elim
    · rw [if_neg (show ¬ (p0 = 1) from hc110)] at h
      obtain rfl := Sum.inl.inj (Option.some.inj h)
      exact gx_throw (tx := "no such side") hC hT dr_PS_dual_14 dr_PS_dual_17 dr_PS_dual_18 dr_PS_dual_20 dr_PS_dual_23 lt_1 (by decide) (by decide) (by decide) (by decide) (Nat.le_of_ble_eq_true rfl)
def fn_PS_note (p0 : Int32) (p1 : Int32) (M : gq_M) : Option (Nat ⊕ Int32) := (fn_Pi_nthMoved p0 M).bind fun q1 => if q1 = (-1) then some (.inl 1) else if p1 < 0 then some (.inl 1) else if p1 ≤ 2 then gb_r (if p1 = 0 then some q1 else if p1 = 1 then if 0 ≤ q1.toInt ∧ q1.toInt < ((80 : Nat) : Int) then some ((gq_i M 4) q1.toInt) else none else if 0 ≤ q1.toInt ∧ q1.toInt < ((80 : Nat) : Int) then some ((gq_i M 3) q1.toInt) else none) else some (.inl 1)
set_option maxHeartbeats 4000000 in
set_option maxRecDepth 100000 in
theorem mt_PS_note {l : Launch} {D : va_G} {ad : Nat → Nat} {ck : Nat → ClassId} {G : gq_M × (Int → Int64)} {p0 : Int32} {p1 : Int32} {M : gq_M} {r : Int32} (h : fn_PS_note p0 p1 M = some (.inr r)) : gm_I 81 0 l D ad ck yn_PS_note bc_PS_note 4 .int ({ frames := 1, cells := 0, slots := 0, locals := 23 } : Room) [gv_R 0, gv_I p0, gv_I p1] (ca_A (M, G)) (fun z c2 => z = r ∧ c2 = ca_A (M, G)) := by
  refine gm_I.of (by decide) (Nat.le_of_ble_eq_true rfl) (fun x hC hR => ?_)
  unfold fn_PS_note at h
  refine gx_aload_n hC dr_PS_note_0 rfl ?_
  refine gx_get hC dr_PS_note_1 lf_PS_10 (by decide) rfl rfl ?_
  refine gx_iload_n hC dr_PS_note_4 rfl ?_
  obtain ⟨q1, e2, h⟩ := gb_of h
  refine gx_vI hC dr_PS_note_5 lk_PS_171 (mt_Pi_nthMoved e2) rfl (by decide) ⟨by decide, by decide⟩ ⟨by decide, by decide⟩ (by decide) ⟨_, _, rfl⟩ rfl rfl (Nat.le_of_ble_eq_true rfl) (fun z c2 hp => ?_)
  obtain ⟨hp1, rfl⟩ := hp; obtain rfl := hp1.symm
  refine gx_istore_n hC dr_PS_note_8 (by decide) ?_
  refine gx_iload_n hC dr_PS_note_9 rfl ?_
  refine gx_iconst (v := (-1)) hC dr_PS_note_10 (by decide) ?_
  refine gx_icmp_eq (tgt := 23) hC dr_PS_note_11 (by decide) (fun hc3 => ?_) (fun hc3 => ?_)
  · rw [if_pos (show q1 = (-1) from hc3)] at h
    cases h
  · rw [if_neg (show ¬ (q1 = (-1)) from hc3)] at h
    refine gx_iload_n hC dr_PS_note_14 rfl ?_
    refine gx_if_lt (tgt := 23) hC dr_PS_note_15 (by decide) (fun hc4 => ?_) (fun hc4 => ?_)
    · rw [if_pos (show p1 < 0 from hc4)] at h
      cases h
    · rw [if_neg (show ¬ (p1 < 0) from hc4)] at h
      refine gx_iload_n hC dr_PS_note_18 rfl ?_
      refine gx_iconst (v := 2) hC dr_PS_note_19 (by decide) ?_
      refine gx_icmp_le (tgt := 33) hC dr_PS_note_20 (by decide) (fun hc5 => ?_) (fun hc5 => ?_)
      · rw [if_pos (show p1 ≤ 2 from hc5)] at h
        have h := gb_rr h
        refine gx_iload_n hC dr_PS_note_33 rfl ?_
        refine gx_if_ne (tgt := 39) hC dr_PS_note_34 (by decide) (fun hc6 => ?_) (fun hc6 => ?_)
        · rw [if_neg (show ¬ (p1 = 0) from hc6)] at h
          refine gx_iload_n hC dr_PS_note_39 rfl ?_
          refine gx_iconst (v := 1) hC dr_PS_note_40 (by decide) ?_
          refine gx_icmp_ne (tgt := 56) hC dr_PS_note_41 (by decide) (fun hc7 => ?_) (fun hc7 => ?_)
          · rw [if_neg (show ¬ (p1 = 1) from hc7)] at h
            refine gx_aload_n hC dr_PS_note_56 rfl ?_
            refine gx_get hC dr_PS_note_57 lf_PS_10 (by decide) rfl rfl ?_
            refine gx_get hC dr_PS_note_60 lf_PS_122 (by decide) rfl rfl ?_
            refine gx_iload_n hC dr_PS_note_63 rfl ?_
            obtain ⟨hz9, h⟩ := gk_of h
            refine gx_iald (f := (gq_i M 3)) hC dr_PS_note_64 (by decide) rfl hz9 ?_
            obtain rfl := Option.some.inj h
            exact hR (by decide) (by decide) dr_PS_note_65 rfl ⟨rfl, rfl⟩
          · rw [if_pos (show p1 = 1 from hc7)] at h
            refine gx_aload_n hC dr_PS_note_44 rfl ?_
            refine gx_get hC dr_PS_note_45 lf_PS_10 (by decide) rfl rfl ?_
            refine gx_get hC dr_PS_note_48 lf_PS_176 (by decide) rfl rfl ?_
            refine gx_iload_n hC dr_PS_note_51 rfl ?_
            obtain ⟨hz8, h⟩ := gk_of h
            refine gx_iald (f := (gq_i M 4)) hC dr_PS_note_52 (by decide) rfl hz8 ?_
            refine gx_goto (tgt := 65) hC dr_PS_note_53 (by decide) ?_
            obtain rfl := Option.some.inj h
            exact hR (by decide) (by decide) dr_PS_note_65 rfl ⟨rfl, rfl⟩
        · rw [if_pos (show p1 = 0 from hc6)] at h
          refine gx_iload_n hC dr_PS_note_37 rfl ?_
          obtain rfl := Option.some.inj h
          exact hR (by decide) (by decide) dr_PS_note_38 rfl ⟨rfl, rfl⟩
      · rw [if_neg (show ¬ (p1 ≤ 2) from hc5)] at h
        cases h
set_option maxHeartbeats 4000000 in
set_option maxRecDepth 100000 in
theorem mx_PS_note {l : Launch} {D : va_G} {ad : Nat → Nat} {ck : Nat → ClassId} {G : gq_M × (Int → Int64)} (hfl : l.flags = pinnedFlags ++ [noTraceFlag]) {p0 : Int32} {p1 : Int32} {M : gq_M} {kd : Nat} (h : fn_PS_note p0 p1 M = some (.inl kd)) : gm_X 81 l D ad ck yn_PS_note bc_PS_note 4 (some .int) ({ frames := 6, cells := 1, slots := 6, locals := 90 } : Room) [gv_R 0, gv_I p0, gv_I p1] (ca_A (M, G)) kd := by
  refine gm_X.of hfl (by decide) (Nat.le_of_ble_eq_true rfl) (fun x hfx hC hT => ?_)
  unfold fn_PS_note at h
  refine gx_aload_n hC dr_PS_note_0 rfl ?_
  refine gx_get hC dr_PS_note_1 lf_PS_10 (by decide) rfl rfl ?_
  refine gx_iload_n hC dr_PS_note_4 rfl ?_
  obtain ⟨q10, e11, h⟩ := gb_of h
  refine gx_vI hC dr_PS_note_5 lk_PS_171 (mt_Pi_nthMoved e11) rfl (by decide) ⟨by decide, by decide⟩ ⟨by decide, by decide⟩ (by decide) ⟨_, _, rfl⟩ rfl rfl (Nat.le_of_ble_eq_true rfl) (fun z c2 hp => ?_)
  obtain ⟨hp1, rfl⟩ := hp; obtain rfl := hp1.symm
  refine gx_istore_n hC dr_PS_note_8 (by decide) ?_
  refine gx_iload_n hC dr_PS_note_9 rfl ?_
  refine gx_iconst (v := (-1)) hC dr_PS_note_10 (by decide) ?_
  refine gx_icmp_eq (tgt := 23) hC dr_PS_note_11 (by decide) (fun hc12 => ?_) (fun hc12 => ?_)
  · rw [if_pos (show q10 = (-1) from hc12)] at h
    obtain rfl := Sum.inl.inj (Option.some.inj h)
    exact gx_throw (tx := "no such note") hC hT dr_PS_note_23 dr_PS_note_26 dr_PS_note_27 dr_PS_note_29 dr_PS_note_32 lt_1 (by decide) (by decide) (by decide) (by decide) (Nat.le_of_ble_eq_true rfl)
  · rw [if_neg (show ¬ (q10 = (-1)) from hc12)] at h
    refine gx_iload_n hC dr_PS_note_14 rfl ?_
    refine gx_if_lt (tgt := 23) hC dr_PS_note_15 (by decide) (fun hc13 => ?_) (fun hc13 => ?_)
    · rw [if_pos (show p1 < 0 from hc13)] at h
      obtain rfl := Sum.inl.inj (Option.some.inj h)
      exact gx_throw (tx := "no such note") hC hT dr_PS_note_23 dr_PS_note_26 dr_PS_note_27 dr_PS_note_29 dr_PS_note_32 lt_1 (by decide) (by decide) (by decide) (by decide) (Nat.le_of_ble_eq_true rfl)
    · rw [if_neg (show ¬ (p1 < 0) from hc13)] at h
      refine gx_iload_n hC dr_PS_note_18 rfl ?_
      refine gx_iconst (v := 2) hC dr_PS_note_19 (by decide) ?_
      refine gx_icmp_le (tgt := 33) hC dr_PS_note_20 (by decide) (fun hc14 => ?_) (fun hc14 => ?_)
      · rw [if_pos (show p1 ≤ 2 from hc14)] at h
        exact (gb_rl h).elim
      · rw [if_neg (show ¬ (p1 ≤ 2) from hc14)] at h
        obtain rfl := Sum.inl.inj (Option.some.inj h)
        exact gx_throw (tx := "no such note") hC hT dr_PS_note_23 dr_PS_note_26 dr_PS_note_27 dr_PS_note_29 dr_PS_note_32 lt_1 (by decide) (by decide) (by decide) (by decide) (Nat.le_of_ble_eq_true rfl)
def fn_PS_gate (p0 : Int32) (M : gq_M) : Option (Nat ⊕ (Int32 × gq_M)) := if ((p0 >>> ((16 : Int32) &&& 31)) : Int32) < 1 then some (.inl 2) else if ((p0 >>> ((16 : Int32) &&& 31)) : Int32) ≤ 4 then if (((p0 &&& 65535) >>> ((((1 : Int32) <<< (((p0 >>> ((16 : Int32) &&& 31)) : Int32) &&& 31)) : Int32) &&& 31)) : Int32) = 0 then gb_r ((fn_Gt_add ((p0 >>> ((16 : Int32) &&& 31)) : Int32) (p0 &&& 65535) M).bind fun q4 => some (q4.1, q4.2)) else some (.inl 2) else some (.inl 2)
set_option maxHeartbeats 4000000 in
set_option maxRecDepth 100000 in
theorem mt_PS_gate {l : Launch} {D : va_G} {ad : Nat → Nat} {ck : Nat → ClassId} {G : gq_M × (Int → Int64)} {p0 : Int32} {M : gq_M} {r : (Int32 × gq_M)} (h : fn_PS_gate p0 M = some (.inr r)) : gm_I 81 81 l D ad ck yn_PS_gate bc_PS_gate 4 .int ({ frames := 1, cells := 0, slots := 0, locals := 22 } : Room) [gv_R 0, gv_I p0] (ca_A (M, G)) (fun z c2 => z = r.1 ∧ c2 = ca_A (r.2, G)) := by
  refine gm_I.of (by decide) (Nat.le_of_ble_eq_true rfl) (fun x hC hR => ?_)
  unfold fn_PS_gate at h
  refine gx_iload_n hC dr_PS_gate_0 rfl ?_
  refine gx_bipush (v := 16) hC dr_PS_gate_1 (by decide) ?_
  refine gx_ishr hC dr_PS_gate_3 ?_
  refine gx_istore_n hC dr_PS_gate_4 (by decide) ?_
  refine gx_iload_n hC dr_PS_gate_5 rfl ?_
  refine gx_ldc (v := 65535) hC dr_PS_gate_6 lc_PS_179 ?_
  refine gx_iand hC dr_PS_gate_8 ?_
  refine gx_istore_n hC dr_PS_gate_9 (by decide) ?_
  refine gx_iload_n hC dr_PS_gate_10 rfl ?_
  refine gx_iconst (v := 1) hC dr_PS_gate_11 (by decide) ?_
  refine gx_icmp_lt (tgt := 20) hC dr_PS_gate_12 (by decide) (fun hc1 => ?_) (fun hc1 => ?_)
  · rw [if_pos (show ((p0 >>> ((16 : Int32) &&& 31)) : Int32) < 1 from hc1)] at h
    cases h
  · rw [if_neg (show ¬ (((p0 >>> ((16 : Int32) &&& 31)) : Int32) < 1) from hc1)] at h
    refine gx_iload_n hC dr_PS_gate_15 rfl ?_
    refine gx_iconst (v := 4) hC dr_PS_gate_16 (by decide) ?_
    refine gx_icmp_le (tgt := 30) hC dr_PS_gate_17 (by decide) (fun hc2 => ?_) (fun hc2 => ?_)
    · rw [if_pos (show ((p0 >>> ((16 : Int32) &&& 31)) : Int32) ≤ 4 from hc2)] at h
      refine gx_iload_n hC dr_PS_gate_30 rfl ?_
      refine gx_iconst (v := 1) hC dr_PS_gate_31 (by decide) ?_
      refine gx_iload_n hC dr_PS_gate_32 rfl ?_
      refine gx_ishl hC dr_PS_gate_33 ?_
      refine gx_ishr hC dr_PS_gate_34 ?_
      refine gx_if_eq (tgt := 48) hC dr_PS_gate_35 (by decide) (fun hc3 => ?_) (fun hc3 => ?_)
      · rw [if_pos (show (((p0 &&& 65535) >>> ((((1 : Int32) <<< (((p0 >>> ((16 : Int32) &&& 31)) : Int32) &&& 31)) : Int32) &&& 31)) : Int32) = 0 from hc3)] at h
        have h := gb_rr h
        refine gx_aload_n hC dr_PS_gate_48 rfl ?_
        refine gx_get hC dr_PS_gate_49 lf_PS_40 (by decide) rfl rfl ?_
        refine gx_iload_n hC dr_PS_gate_52 rfl ?_
        refine gx_iload_n hC dr_PS_gate_53 rfl ?_
        obtain ⟨q4, e5, h⟩ := gb_of h
        refine gx_vI hC dr_PS_gate_54 lk_PS_184 (mt_Gt_add e5) rfl (by decide) ⟨by decide, by decide⟩ ⟨by decide, by decide⟩ (by decide) ⟨_, _, rfl⟩ rfl rfl (Nat.le_of_ble_eq_true rfl) (fun z c2 hp => ?_)
        obtain ⟨rfl, rfl⟩ := hp
        obtain rfl := Option.some.inj h
        exact hR (by decide) (by decide) dr_PS_gate_57 rfl ⟨rfl, rfl⟩
      · rw [if_neg (show ¬ ((((p0 &&& 65535) >>> ((((1 : Int32) <<< (((p0 >>> ((16 : Int32) &&& 31)) : Int32) &&& 31)) : Int32) &&& 31)) : Int32) = 0) from hc3)] at h
        cases h
    · rw [if_neg (show ¬ (((p0 >>> ((16 : Int32) &&& 31)) : Int32) ≤ 4) from hc2)] at h
      cases h
set_option maxHeartbeats 4000000 in
set_option maxRecDepth 100000 in
theorem mx_PS_gate {l : Launch} {D : va_G} {ad : Nat → Nat} {ck : Nat → ClassId} {G : gq_M × (Int → Int64)} (hfl : l.flags = pinnedFlags ++ [noTraceFlag]) {p0 : Int32} {M : gq_M} {kd : Nat} (h : fn_PS_gate p0 M = some (.inl kd)) : gm_X 81 l D ad ck yn_PS_gate bc_PS_gate 4 (some .int) ({ frames := 6, cells := 1, slots := 6, locals := 90 } : Room) [gv_R 0, gv_I p0] (ca_A (M, G)) kd := by
  refine gm_X.of hfl (by decide) (Nat.le_of_ble_eq_true rfl) (fun x hfx hC hT => ?_)
  unfold fn_PS_gate at h
  refine gx_iload_n hC dr_PS_gate_0 rfl ?_
  refine gx_bipush (v := 16) hC dr_PS_gate_1 (by decide) ?_
  refine gx_ishr hC dr_PS_gate_3 ?_
  refine gx_istore_n hC dr_PS_gate_4 (by decide) ?_
  refine gx_iload_n hC dr_PS_gate_5 rfl ?_
  refine gx_ldc (v := 65535) hC dr_PS_gate_6 lc_PS_179 ?_
  refine gx_iand hC dr_PS_gate_8 ?_
  refine gx_istore_n hC dr_PS_gate_9 (by decide) ?_
  refine gx_iload_n hC dr_PS_gate_10 rfl ?_
  refine gx_iconst (v := 1) hC dr_PS_gate_11 (by decide) ?_
  refine gx_icmp_lt (tgt := 20) hC dr_PS_gate_12 (by decide) (fun hc6 => ?_) (fun hc6 => ?_)
  · rw [if_pos (show ((p0 >>> ((16 : Int32) &&& 31)) : Int32) < 1 from hc6)] at h
    obtain rfl := Sum.inl.inj (Option.some.inj h)
    exact gx_throw (tx := "not 1 to 4 inputs") hC hT dr_PS_gate_20 dr_PS_gate_23 dr_PS_gate_24 dr_PS_gate_26 dr_PS_gate_29 lt_2 (by decide) (by decide) (by decide) (by decide) (Nat.le_of_ble_eq_true rfl)
  · rw [if_neg (show ¬ (((p0 >>> ((16 : Int32) &&& 31)) : Int32) < 1) from hc6)] at h
    refine gx_iload_n hC dr_PS_gate_15 rfl ?_
    refine gx_iconst (v := 4) hC dr_PS_gate_16 (by decide) ?_
    refine gx_icmp_le (tgt := 30) hC dr_PS_gate_17 (by decide) (fun hc7 => ?_) (fun hc7 => ?_)
    · rw [if_pos (show ((p0 >>> ((16 : Int32) &&& 31)) : Int32) ≤ 4 from hc7)] at h
      refine gx_iload_n hC dr_PS_gate_30 rfl ?_
      refine gx_iconst (v := 1) hC dr_PS_gate_31 (by decide) ?_
      refine gx_iload_n hC dr_PS_gate_32 rfl ?_
      refine gx_ishl hC dr_PS_gate_33 ?_
      refine gx_ishr hC dr_PS_gate_34 ?_
      refine gx_if_eq (tgt := 48) hC dr_PS_gate_35 (by decide) (fun hc8 => ?_) (fun hc8 => ?_)
      · rw [if_pos (show (((p0 &&& 65535) >>> ((((1 : Int32) <<< (((p0 >>> ((16 : Int32) &&& 31)) : Int32) &&& 31)) : Int32) &&& 31)) : Int32) = 0 from hc8)] at h
        exact (gb_rl h).elim
      · rw [if_neg (show ¬ ((((p0 &&& 65535) >>> ((((1 : Int32) <<< (((p0 >>> ((16 : Int32) &&& 31)) : Int32) &&& 31)) : Int32) &&& 31)) : Int32) = 0) from hc8)] at h
        obtain rfl := Sum.inl.inj (Option.some.inj h)
        exact gx_throw (tx := "too many bits in the table") hC hT dr_PS_gate_38 dr_PS_gate_41 dr_PS_gate_42 dr_PS_gate_44 dr_PS_gate_47 lt_2 (by decide) (by decide) (by decide) (by decide) (Nat.le_of_ble_eq_true rfl)
    · rw [if_neg (show ¬ (((p0 >>> ((16 : Int32) &&& 31)) : Int32) ≤ 4) from hc7)] at h
      obtain rfl := Sum.inl.inj (Option.some.inj h)
      exact gx_throw (tx := "not 1 to 4 inputs") hC hT dr_PS_gate_20 dr_PS_gate_23 dr_PS_gate_24 dr_PS_gate_26 dr_PS_gate_29 lt_2 (by decide) (by decide) (by decide) (by decide) (Nat.le_of_ble_eq_true rfl)
def fn_PS_equalGate (p0 : Int32) (p1 : Int32) (M : gq_M) : Option (Nat ⊕ Int32) := if p0 < 0 then some (.inl 1) else if (gq_f M 5) ≤ p0 then some (.inl 1) else if p1 < 0 then some (.inl 1) else if p1 < (gq_f M 5) then gb_r ((fn_Gt_areEqual p0 p1 M).bind fun q5 => if vp_nar .boolean q5 = q5 then some q5 else none) else some (.inl 1)
set_option maxHeartbeats 4000000 in
set_option maxRecDepth 100000 in
theorem mt_PS_equalGate {l : Launch} {D : va_G} {ad : Nat → Nat} {ck : Nat → ClassId} {G : gq_M × (Int → Int64)} {p0 : Int32} {p1 : Int32} {M : gq_M} {r : Int32} (h : fn_PS_equalGate p0 p1 M = some (.inr r)) : gm_I 81 0 l D ad ck yn_PS_equalGate bc_PS_equalGate 3 .boolean ({ frames := 3, cells := 0, slots := 0, locals := 71 } : Room) [gv_R 0, gv_I p0, gv_I p1] (ca_A (M, G)) (fun z c2 => z = r ∧ c2 = ca_A (M, G)) := by
  refine gm_I.of (by decide) (Nat.le_of_ble_eq_true rfl) (fun x hC hR => ?_)
  unfold fn_PS_equalGate at h
  refine gx_iload_n hC dr_PS_equalGate_0 rfl ?_
  refine gx_if_lt (tgt := 30) hC dr_PS_equalGate_1 (by decide) (fun hc1 => ?_) (fun hc1 => ?_)
  · rw [if_pos (show p0 < 0 from hc1)] at h
    cases h
  · rw [if_neg (show ¬ (p0 < 0) from hc1)] at h
    refine gx_iload_n hC dr_PS_equalGate_4 rfl ?_
    refine gx_aload_n hC dr_PS_equalGate_5 rfl ?_
    refine gx_get hC dr_PS_equalGate_6 lf_PS_40 (by decide) rfl rfl ?_
    refine gx_get hC dr_PS_equalGate_9 lf_PS_187 (by decide) rfl rfl ?_
    refine gx_icmp_ge (tgt := 30) hC dr_PS_equalGate_12 (by decide) (fun hc2 => ?_) (fun hc2 => ?_)
    · rw [if_pos (show (gq_f M 5) ≤ p0 from hc2)] at h
      cases h
    · rw [if_neg (show ¬ ((gq_f M 5) ≤ p0) from hc2)] at h
      refine gx_iload_n hC dr_PS_equalGate_15 rfl ?_
      refine gx_if_lt (tgt := 30) hC dr_PS_equalGate_16 (by decide) (fun hc3 => ?_) (fun hc3 => ?_)
      · rw [if_pos (show p1 < 0 from hc3)] at h
        cases h
      · rw [if_neg (show ¬ (p1 < 0) from hc3)] at h
        refine gx_iload_n hC dr_PS_equalGate_19 rfl ?_
        refine gx_aload_n hC dr_PS_equalGate_20 rfl ?_
        refine gx_get hC dr_PS_equalGate_21 lf_PS_40 (by decide) rfl rfl ?_
        refine gx_get hC dr_PS_equalGate_24 lf_PS_187 (by decide) rfl rfl ?_
        refine gx_icmp_lt (tgt := 40) hC dr_PS_equalGate_27 (by decide) (fun hc4 => ?_) (fun hc4 => ?_)
        · rw [if_pos (show p1 < (gq_f M 5) from hc4)] at h
          have h := gb_rr h
          refine gx_aload_n hC dr_PS_equalGate_40 rfl ?_
          refine gx_get hC dr_PS_equalGate_41 lf_PS_40 (by decide) rfl rfl ?_
          refine gx_iload_n hC dr_PS_equalGate_44 rfl ?_
          refine gx_iload_n hC dr_PS_equalGate_45 rfl ?_
          obtain ⟨q5, e6, h⟩ := gb_of h
          refine gx_vI hC dr_PS_equalGate_46 lk_PS_190 (mt_Gt_areEqual e6) rfl (by decide) ⟨by decide, by decide⟩ ⟨by decide, by decide⟩ (by decide) ⟨_, _, rfl⟩ rfl rfl (Nat.le_of_ble_eq_true rfl) (fun z c2 hp => ?_)
          obtain ⟨hp1, rfl⟩ := hp; obtain rfl := hp1.symm
          obtain ⟨hz7, h⟩ := gk_of h
          obtain rfl := Option.some.inj h
          exact hR (by decide) (by decide) dr_PS_equalGate_49 (gk_nar hz7) ⟨rfl, rfl⟩
        · rw [if_neg (show ¬ (p1 < (gq_f M 5)) from hc4)] at h
          cases h
set_option maxHeartbeats 4000000 in
set_option maxRecDepth 100000 in
theorem mx_PS_equalGate {l : Launch} {D : va_G} {ad : Nat → Nat} {ck : Nat → ClassId} {G : gq_M × (Int → Int64)} (hfl : l.flags = pinnedFlags ++ [noTraceFlag]) {p0 : Int32} {p1 : Int32} {M : gq_M} {kd : Nat} (h : fn_PS_equalGate p0 p1 M = some (.inl kd)) : gm_X 81 l D ad ck yn_PS_equalGate bc_PS_equalGate 3 (some .boolean) ({ frames := 6, cells := 1, slots := 6, locals := 90 } : Room) [gv_R 0, gv_I p0, gv_I p1] (ca_A (M, G)) kd := by
  refine gm_X.of hfl (by decide) (Nat.le_of_ble_eq_true rfl) (fun x hfx hC hT => ?_)
  unfold fn_PS_equalGate at h
  refine gx_iload_n hC dr_PS_equalGate_0 rfl ?_
  refine gx_if_lt (tgt := 30) hC dr_PS_equalGate_1 (by decide) (fun hc8 => ?_) (fun hc8 => ?_)
  · rw [if_pos (show p0 < 0 from hc8)] at h
    obtain rfl := Sum.inl.inj (Option.some.inj h)
    exact gx_throw (tx := "no such gate") hC hT dr_PS_equalGate_30 dr_PS_equalGate_33 dr_PS_equalGate_34 dr_PS_equalGate_36 dr_PS_equalGate_39 lt_1 (by decide) (by decide) (by decide) (by decide) (Nat.le_of_ble_eq_true rfl)
  · rw [if_neg (show ¬ (p0 < 0) from hc8)] at h
    refine gx_iload_n hC dr_PS_equalGate_4 rfl ?_
    refine gx_aload_n hC dr_PS_equalGate_5 rfl ?_
    refine gx_get hC dr_PS_equalGate_6 lf_PS_40 (by decide) rfl rfl ?_
    refine gx_get hC dr_PS_equalGate_9 lf_PS_187 (by decide) rfl rfl ?_
    refine gx_icmp_ge (tgt := 30) hC dr_PS_equalGate_12 (by decide) (fun hc9 => ?_) (fun hc9 => ?_)
    · rw [if_pos (show (gq_f M 5) ≤ p0 from hc9)] at h
      obtain rfl := Sum.inl.inj (Option.some.inj h)
      exact gx_throw (tx := "no such gate") hC hT dr_PS_equalGate_30 dr_PS_equalGate_33 dr_PS_equalGate_34 dr_PS_equalGate_36 dr_PS_equalGate_39 lt_1 (by decide) (by decide) (by decide) (by decide) (Nat.le_of_ble_eq_true rfl)
    · rw [if_neg (show ¬ ((gq_f M 5) ≤ p0) from hc9)] at h
      refine gx_iload_n hC dr_PS_equalGate_15 rfl ?_
      refine gx_if_lt (tgt := 30) hC dr_PS_equalGate_16 (by decide) (fun hc10 => ?_) (fun hc10 => ?_)
      · rw [if_pos (show p1 < 0 from hc10)] at h
        obtain rfl := Sum.inl.inj (Option.some.inj h)
        exact gx_throw (tx := "no such gate") hC hT dr_PS_equalGate_30 dr_PS_equalGate_33 dr_PS_equalGate_34 dr_PS_equalGate_36 dr_PS_equalGate_39 lt_1 (by decide) (by decide) (by decide) (by decide) (Nat.le_of_ble_eq_true rfl)
      · rw [if_neg (show ¬ (p1 < 0) from hc10)] at h
        refine gx_iload_n hC dr_PS_equalGate_19 rfl ?_
        refine gx_aload_n hC dr_PS_equalGate_20 rfl ?_
        refine gx_get hC dr_PS_equalGate_21 lf_PS_40 (by decide) rfl rfl ?_
        refine gx_get hC dr_PS_equalGate_24 lf_PS_187 (by decide) rfl rfl ?_
        refine gx_icmp_lt (tgt := 40) hC dr_PS_equalGate_27 (by decide) (fun hc11 => ?_) (fun hc11 => ?_)
        · rw [if_pos (show p1 < (gq_f M 5) from hc11)] at h
          exact (gb_rl h).elim
        · rw [if_neg (show ¬ (p1 < (gq_f M 5)) from hc11)] at h
          obtain rfl := Sum.inl.inj (Option.some.inj h)
          exact gx_throw (tx := "no such gate") hC hT dr_PS_equalGate_30 dr_PS_equalGate_33 dr_PS_equalGate_34 dr_PS_equalGate_36 dr_PS_equalGate_39 lt_1 (by decide) (by decide) (by decide) (by decide) (Nat.le_of_ble_eq_true rfl)
def fn_PS_giveNets (ro : Nat) (p0 : Int32) (p1 : Int32) (M : gq_M) : Option gq_M := if 0 ≤ p1.toInt ∧ p1.toInt < ((80 : Nat) : Int) then if 0 ≤ p0.toInt ∧ p0.toInt < ((80 : Nat) : Int) then (fn_Pi_isPaired p0 (gs_i M 3 (gz_u (gq_i M 3) p0.toInt ((gq_i M (18 + ro)) p1.toInt)))).bind fun q3 => if q3 = 0 then some (gs_i M 3 (gz_u (gq_i M 3) p0.toInt ((gq_i M (18 + ro)) p1.toInt))) else (fn_Pi_isPaired p1 (gs_i M 3 (gz_u (gq_i M 3) p0.toInt ((gq_i M (18 + ro)) p1.toInt)))).bind fun q6 => if q6 = 0 then some (gs_i M 3 (gz_u (gq_i M 3) p0.toInt ((gq_i M (18 + ro)) p1.toInt))) else if 0 ≤ ((gq_i M 5) p1.toInt).toInt ∧ ((gq_i M 5) p1.toInt).toInt < ((80 : Nat) : Int) then if 0 ≤ ((gq_i M 5) p0.toInt).toInt ∧ ((gq_i M 5) p0.toInt).toInt < ((80 : Nat) : Int) then some (gs_i (gs_i M 3 (gz_u (gq_i M 3) p0.toInt ((gq_i M (18 + ro)) p1.toInt))) 3 (gz_u (gz_u (gq_i M 3) p0.toInt ((gq_i M (18 + ro)) p1.toInt)) ((gq_i M 5) p0.toInt).toInt ((gq_i (gs_i M 3 (gz_u (gq_i M 3) p0.toInt ((gq_i M (18 + ro)) p1.toInt))) (18 + ro)) ((gq_i M 5) p1.toInt).toInt))) else none else none else none else none
set_option maxHeartbeats 4000000 in
set_option maxRecDepth 100000 in
theorem mt_PS_giveNets {l : Launch} {D : va_G} {ad : Nat → Nat} {ck : Nat → ClassId} {G : gq_M × (Int → Int64)} {ro : Nat} (hro : ro < 11) {p0 : Int32} {p1 : Int32} {M : gq_M} {r : gq_M} (h : fn_PS_giveNets ro p0 p1 M = some r) : gm_V 81 81 l D ad ck yn_PS_giveNets bc_PS_giveNets 4 ({ frames := 1, cells := 0, slots := 0, locals := 21 } : Room) [gv_R 0, gv_I p0, gv_I p1, gv_R (24 + ro)] (ca_A (M, G)) (fun c2 => c2 = ca_A (r, G)) := by
  refine gm_V.of (by decide) (Nat.le_of_ble_eq_true rfl) (fun x hC hR => ?_)
  unfold fn_PS_giveNets at h
  refine gx_aload_n hC dr_PS_giveNets_0 rfl ?_
  refine gx_get hC dr_PS_giveNets_1 lf_PS_10 (by decide) rfl rfl ?_
  refine gx_get hC dr_PS_giveNets_4 lf_PS_122 (by decide) rfl rfl ?_
  refine gx_iload_n hC dr_PS_giveNets_7 rfl ?_
  refine gx_aload_n hC dr_PS_giveNets_8 rfl ?_
  refine gx_iload_n hC dr_PS_giveNets_9 rfl ?_
  obtain ⟨hz1, h⟩ := gk_of h
  refine gx_iald (f := (gq_i M (18 + ro))) hC dr_PS_giveNets_10 (by omega) (ca_hist hro) hz1 ?_
  obtain ⟨hz2, h⟩ := gk_of h
  refine gx_iast (f := (gq_i M 3)) hC (by decide) dr_PS_giveNets_11 (by decide) rfl hz2 (ca_I 3 (by decide)) ?_
  refine gx_aload_n hC dr_PS_giveNets_12 rfl ?_
  refine gx_get hC dr_PS_giveNets_13 lf_PS_10 (by decide) rfl rfl ?_
  refine gx_iload_n hC dr_PS_giveNets_16 rfl ?_
  obtain ⟨q3, e4, h⟩ := gb_of h
  refine gx_vI hC dr_PS_giveNets_17 lk_PS_97 (mt_Pi_isPaired e4) rfl (by decide) ⟨by decide, by decide⟩ ⟨by decide, by decide⟩ (by decide) ⟨_, _, rfl⟩ rfl rfl (Nat.le_of_ble_eq_true rfl) (fun z c2 hp => ?_)
  obtain ⟨hp1, rfl⟩ := hp; obtain rfl := hp1.symm
  refine gx_if_eq (tgt := 62) hC dr_PS_giveNets_20 (by decide) (fun hc5 => ?_) (fun hc5 => ?_)
  · rw [if_pos (show q3 = 0 from hc5)] at h
    obtain rfl := Option.some.inj h
    exact hR (by decide) (by decide) dr_PS_giveNets_62 rfl
  · rw [if_neg (show ¬ (q3 = 0) from hc5)] at h
    refine gx_aload_n hC dr_PS_giveNets_23 rfl ?_
    refine gx_get hC dr_PS_giveNets_24 lf_PS_10 (by decide) rfl rfl ?_
    refine gx_iload_n hC dr_PS_giveNets_27 rfl ?_
    obtain ⟨q6, e7, h⟩ := gb_of h
    refine gx_vI hC dr_PS_giveNets_28 lk_PS_97 (mt_Pi_isPaired e7) rfl (by decide) ⟨by decide, by decide⟩ ⟨by decide, by decide⟩ (by decide) ⟨_, _, rfl⟩ rfl rfl (Nat.le_of_ble_eq_true rfl) (fun z c2 hp => ?_)
    obtain ⟨hp1, rfl⟩ := hp; obtain rfl := hp1.symm
    refine gx_if_eq (tgt := 62) hC dr_PS_giveNets_31 (by decide) (fun hc8 => ?_) (fun hc8 => ?_)
    · rw [if_pos (show q6 = 0 from hc8)] at h
      obtain rfl := Option.some.inj h
      exact hR (by decide) (by decide) dr_PS_giveNets_62 rfl
    · rw [if_neg (show ¬ (q6 = 0) from hc8)] at h
      refine gx_aload_n hC dr_PS_giveNets_34 rfl ?_
      refine gx_get hC dr_PS_giveNets_35 lf_PS_10 (by decide) rfl rfl ?_
      refine gx_get hC dr_PS_giveNets_38 lf_PS_122 (by decide) rfl rfl ?_
      refine gx_aload_n hC dr_PS_giveNets_41 rfl ?_
      refine gx_get hC dr_PS_giveNets_42 lf_PS_10 (by decide) rfl rfl ?_
      refine gx_get hC dr_PS_giveNets_45 lf_PS_245 (by decide) rfl rfl ?_
      refine gx_iload_n hC dr_PS_giveNets_48 rfl ?_
      refine gx_iald (f := (gq_i M 5)) hC dr_PS_giveNets_49 (by decide) rfl hz2 ?_
      refine gx_aload_n hC dr_PS_giveNets_50 rfl ?_
      refine gx_aload_n hC dr_PS_giveNets_51 rfl ?_
      refine gx_get hC dr_PS_giveNets_52 lf_PS_10 (by decide) rfl rfl ?_
      refine gx_get hC dr_PS_giveNets_55 lf_PS_245 (by decide) rfl rfl ?_
      refine gx_iload_n hC dr_PS_giveNets_58 rfl ?_
      refine gx_iald (f := (gq_i M 5)) hC dr_PS_giveNets_59 (by decide) rfl hz1 ?_
      obtain ⟨hz9, h⟩ := gk_of h
      refine gx_iald (f := (gq_i (gs_i M 3 (gz_u (gq_i M 3) p0.toInt ((gq_i M (18 + ro)) p1.toInt))) (18 + ro))) hC dr_PS_giveNets_60 (by omega) (ca_hist hro) hz9 ?_
      obtain ⟨hz10, h⟩ := gk_of h
      refine gx_iast (f := (gz_u (gq_i M 3) p0.toInt ((gq_i M (18 + ro)) p1.toInt))) hC (by decide) dr_PS_giveNets_61 (by decide) rfl hz10 (ca_I 3 (by decide)) ?_
      obtain rfl := Option.some.inj h
      exact hR (by decide) (by decide) dr_PS_giveNets_62 rfl
def fl_PS_swapUnits_35 (ro : Nat) : Nat → Int32 → gq_M → Option gq_M
  | 0, _, _ => none
  | k + 1, v4, M => if (gq_f M 2) < v4 then some M else if 0 ≤ v4.toInt ∧ v4.toInt < ((13 : Nat) : Int) then if 0 ≤ ((gq_i M 11) v4.toInt).toInt ∧ ((gq_i M 11) v4.toInt).toInt < ((13 : Nat) : Int) then (fn_PS_giveNets (ro) ((gq_i M 10) ((gq_i M 11) v4.toInt).toInt) ((gq_i M 10) v4.toInt) M).bind fun q13 => fl_PS_swapUnits_35 ro k (v4 + 1) q13 else none else none
def fn_PS_swapUnits (ro : Nat) (p0 : Int32) (p1 : Int32) (M : gq_M) : Option gq_M := (fn_PS_loadMatching p0 p1 M).bind fun q1 => (fn_Ma_solve  q1).bind fun q3 => (fn_Ma_sumIfKept  q3.2).bind fun q5 => if q3.1 = q5 then some q3.2 else (fn_Ma_settleTies  q3.2).bind fun q8 => fl_PS_swapUnits_35 (ro) 5000 1 q8
set_option maxHeartbeats 4000000 in
set_option maxRecDepth 100000 in
theorem gl_PS_swapUnits_35 {x : gx_X} {G : gq_M × (Int → Int64)} {r : gq_M} {ro : Nat} (hro : ro < 11) (hC : gw_C 81 81 yn_PS_swapUnits.cls bc_PS_swapUnits 5 x) (hR : gr_V 81 bc_PS_swapUnits 5 ({ frames := 5, cells := 0, slots := 0, locals := 119 } : Room) x (fun c2 => c2 = ca_A (r, G))) : ∀ (k : Nat) (v4 : Int32) (M : gq_M), fl_PS_swapUnits_35 ro k v4 M = some r → gw_G 81 5 ({ frames := 5, cells := 0, slots := 0, locals := 119 } : Room) x 0 0 (ca_A (M, G)) 35 [(0, gv_R 0), (3, gv_R (24 + ro)), (4, gv_I v4)] [] := by
  intro k
  induction k with
  | zero =>
    intro v4 M h
    cases h
  | succ k ih =>
    intro v4 M h
    rw [fl_PS_swapUnits_35] at h
    refine gx_iload hC dr_PS_swapUnits_35 rfl ?_
    refine gx_aload_n hC dr_PS_swapUnits_37 rfl ?_
    refine gx_get hC dr_PS_swapUnits_38 lf_PS_26 (by decide) rfl rfl ?_
    refine gx_get hC dr_PS_swapUnits_41 lf_PS_159 (by decide) rfl rfl ?_
    refine gx_icmp_gt (tgt := 86) hC dr_PS_swapUnits_44 (by decide) (fun hc10 => ?_) (fun hc10 => ?_)
    · rw [if_pos (show (gq_f M 2) < v4 from hc10)] at h
      obtain rfl := Option.some.inj h
      exact hR (by decide) (by decide) dr_PS_swapUnits_86 rfl
    · rw [if_neg (show ¬ ((gq_f M 2) < v4) from hc10)] at h
      refine gx_aload_n hC dr_PS_swapUnits_47 rfl ?_
      refine gx_aload_n hC dr_PS_swapUnits_48 rfl ?_
      refine gx_get hC dr_PS_swapUnits_49 lf_PS_26 (by decide) rfl rfl ?_
      refine gx_get hC dr_PS_swapUnits_52 lf_PS_235 (by decide) rfl rfl ?_
      refine gx_aload_n hC dr_PS_swapUnits_55 rfl ?_
      refine gx_get hC dr_PS_swapUnits_56 lf_PS_26 (by decide) rfl rfl ?_
      refine gx_get hC dr_PS_swapUnits_59 lf_PS_238 (by decide) rfl rfl ?_
      refine gx_iload hC dr_PS_swapUnits_62 rfl ?_
      obtain ⟨hz11, h⟩ := gk_of h
      refine gx_iald (f := (gq_i M 11)) hC dr_PS_swapUnits_64 (by decide) rfl hz11 ?_
      obtain ⟨hz12, h⟩ := gk_of h
      refine gx_iald (f := (gq_i M 10)) hC dr_PS_swapUnits_65 (by decide) rfl hz12 ?_
      refine gx_aload_n hC dr_PS_swapUnits_66 rfl ?_
      refine gx_get hC dr_PS_swapUnits_67 lf_PS_26 (by decide) rfl rfl ?_
      refine gx_get hC dr_PS_swapUnits_70 lf_PS_235 (by decide) rfl rfl ?_
      refine gx_iload hC dr_PS_swapUnits_73 rfl ?_
      refine gx_iald (f := (gq_i M 10)) hC dr_PS_swapUnits_75 (by decide) rfl hz11 ?_
      refine gx_aload_n hC dr_PS_swapUnits_76 rfl ?_
      obtain ⟨q13, e14, h⟩ := gb_of h
      refine gx_vV hC dr_PS_swapUnits_77 lk_PS_241 (mt_PS_giveNets hro e14) rfl (by decide) ⟨by decide, by decide⟩ ⟨by decide, by decide⟩ (by decide) ⟨_, _, rfl⟩ rfl rfl (Nat.le_of_ble_eq_true rfl) (fun c2 hp => ?_)
      subst hp
      refine gx_iinc (v := (v4 + 1)) hC dr_PS_swapUnits_80 rfl (by decide) rfl ?_
      refine gx_goto (tgt := 35) hC dr_PS_swapUnits_83 (by decide) ?_
      exact gx_lv [(0, gv_R 0), (3, gv_R (24 + ro)), (4, gv_I (v4 + 1))] ⟨rfl, rfl, rfl, trivial⟩ (ih _ _ h)
set_option maxHeartbeats 4000000 in
set_option maxRecDepth 100000 in
theorem mt_PS_swapUnits {l : Launch} {D : va_G} {ad : Nat → Nat} {ck : Nat → ClassId} {G : gq_M × (Int → Int64)} {ro : Nat} (hro : ro < 11) {p0 : Int32} {p1 : Int32} {M : gq_M} {r : gq_M} (h : fn_PS_swapUnits ro p0 p1 M = some r) : gm_V 81 81 l D ad ck yn_PS_swapUnits bc_PS_swapUnits 5 ({ frames := 5, cells := 0, slots := 0, locals := 119 } : Room) [gv_R 0, gv_I p0, gv_I p1, gv_R (24 + ro)] (ca_A (M, G)) (fun c2 => c2 = ca_A (r, G)) := by
  refine gm_V.of (by decide) (Nat.le_of_ble_eq_true rfl) (fun x hC hR => ?_)
  unfold fn_PS_swapUnits at h
  refine gx_aload_n hC dr_PS_swapUnits_0 rfl ?_
  refine gx_iload_n hC dr_PS_swapUnits_1 rfl ?_
  refine gx_iload_n hC dr_PS_swapUnits_2 rfl ?_
  obtain ⟨q1, e2, h⟩ := gb_of h
  refine gx_vV hC dr_PS_swapUnits_3 lk_PS_155 (mt_PS_loadMatching e2) rfl (by decide) ⟨by decide, by decide⟩ ⟨by decide, by decide⟩ (by decide) ⟨_, _, rfl⟩ rfl rfl (Nat.le_of_ble_eq_true rfl) (fun c2 hp => ?_)
  subst hp
  refine gx_aload_n hC dr_PS_swapUnits_6 rfl ?_
  refine gx_get hC dr_PS_swapUnits_7 lf_PS_26 (by decide) rfl rfl ?_
  obtain ⟨q3, e4, h⟩ := gb_of h
  refine gx_vJ hC dr_PS_swapUnits_10 lk_PS_162 (mt_Ma_solve e4) rfl (by decide) ⟨by decide, by decide⟩ ⟨by decide, by decide⟩ (by decide) ⟨_, _, rfl⟩ rfl rfl (Nat.le_of_ble_eq_true rfl) (fun z c2 hp => ?_)
  obtain ⟨rfl, rfl⟩ := hp
  refine gx_aload_n hC dr_PS_swapUnits_13 rfl ?_
  refine gx_get hC dr_PS_swapUnits_14 lf_PS_26 (by decide) rfl rfl ?_
  obtain ⟨q5, e6, h⟩ := gb_of h
  refine gx_vJ hC dr_PS_swapUnits_17 lk_PS_229 (mt_Ma_sumIfKept e6) rfl (by decide) ⟨by decide, by decide⟩ ⟨by decide, by decide⟩ (by decide) ⟨_, _, rfl⟩ rfl rfl (Nat.le_of_ble_eq_true rfl) (fun z c2 hp => ?_)
  obtain ⟨hp1, rfl⟩ := hp; obtain rfl := hp1.symm
  refine gx_lcmp_ne (tgt := 25) hC dr_PS_swapUnits_20 dr_PS_swapUnits_21 (by decide) (fun hc7 => ?_) (fun hc7 => ?_)
  · rw [if_neg (show ¬ (q3.1 = q5) from hc7)] at h
    refine gx_aload_n hC dr_PS_swapUnits_25 rfl ?_
    refine gx_get hC dr_PS_swapUnits_26 lf_PS_26 (by decide) rfl rfl ?_
    obtain ⟨q8, e9, h⟩ := gb_of h
    refine gx_vV hC dr_PS_swapUnits_29 lk_PS_232 (mt_Ma_settleTies e9) rfl (by decide) ⟨by decide, by decide⟩ ⟨by decide, by decide⟩ (by decide) ⟨_, _, rfl⟩ rfl rfl (Nat.le_of_ble_eq_true rfl) (fun c2 hp => ?_)
    subst hp
    refine gx_iconst (v := 1) hC dr_PS_swapUnits_32 (by decide) ?_
    refine gx_istore hC dr_PS_swapUnits_33 (by decide) ?_
    exact gx_lv [(0, gv_R 0), (3, gv_R (24 + ro)), (4, gv_I 1)] ⟨rfl, rfl, rfl, trivial⟩ (gl_PS_swapUnits_35 hro hC hR 5000 _ _ h)
  · rw [if_pos (show q3.1 = q5 from hc7)] at h
    obtain rfl := Option.some.inj h
    exact hR (by decide) (by decide) dr_PS_swapUnits_24 rfl
def fl_PS_countChanged_4 (ro : Nat) (M : gq_M) : Nat → Int32 → Int32 → Option Int32
  | 0, _, _ => none
  | k + 1, v2, v3 => if (gq_f M 1) ≤ v3 then some v2 else if 0 ≤ v3.toInt ∧ v3.toInt < ((80 : Nat) : Int) then if ((gq_i M 3) v3.toInt) = ((gq_i M (18 + ro)) v3.toInt) then fl_PS_countChanged_4 ro M k v2 (v3 + 1) else fl_PS_countChanged_4 ro M k (v2 + 1) (v3 + 1) else none
def fn_PS_countChanged (ro : Nat)  (M : gq_M) : Option Int32 := fl_PS_countChanged_4 (ro) M 5000 0 0
set_option maxHeartbeats 4000000 in
set_option maxRecDepth 100000 in
theorem gl_PS_countChanged_4 {x : gx_X} {G : gq_M × (Int → Int64)} {M : gq_M} {r : Int32} {ro : Nat} (hro : ro < 11) (hC : gw_C 81 0 yn_PS_countChanged.cls bc_PS_countChanged 4 x) (hR : gr_I 81 bc_PS_countChanged 4 .int ({ frames := 0, cells := 0, slots := 0, locals := 0 } : Room) x (fun z c2 => z = r ∧ c2 = ca_A (M, G))) : ∀ (k : Nat) (v2 : Int32) (v3 : Int32), fl_PS_countChanged_4 ro M k v2 v3 = some r → gw_G 81 4 ({ frames := 0, cells := 0, slots := 0, locals := 0 } : Room) x 0 0 (ca_A (M, G)) 4 [(0, gv_R 0), (1, gv_R (24 + ro)), (2, gv_I v2), (3, gv_I v3)] [] := by
  intro k
  induction k with
  | zero =>
    intro v2 v3 h
    cases h
  | succ k ih =>
    intro v2 v3 h
    rw [fl_PS_countChanged_4] at h
    refine gx_iload_n hC dr_PS_countChanged_4 rfl ?_
    refine gx_aload_n hC dr_PS_countChanged_5 rfl ?_
    refine gx_get hC dr_PS_countChanged_6 lf_PS_10 (by decide) rfl rfl ?_
    refine gx_get hC dr_PS_countChanged_9 lf_PS_68 (by decide) rfl rfl ?_
    refine gx_icmp_ge (tgt := 39) hC dr_PS_countChanged_12 (by decide) (fun hc1 => ?_) (fun hc1 => ?_)
    · rw [if_pos (show (gq_f M 1) ≤ v3 from hc1)] at h
      refine gx_iload_n hC dr_PS_countChanged_39 rfl ?_
      obtain rfl := Option.some.inj h
      exact hR (by decide) (by decide) dr_PS_countChanged_40 rfl ⟨rfl, rfl⟩
    · rw [if_neg (show ¬ ((gq_f M 1) ≤ v3) from hc1)] at h
      refine gx_aload_n hC dr_PS_countChanged_15 rfl ?_
      refine gx_get hC dr_PS_countChanged_16 lf_PS_10 (by decide) rfl rfl ?_
      refine gx_get hC dr_PS_countChanged_19 lf_PS_122 (by decide) rfl rfl ?_
      refine gx_iload_n hC dr_PS_countChanged_22 rfl ?_
      obtain ⟨hz2, h⟩ := gk_of h
      refine gx_iald (f := (gq_i M 3)) hC dr_PS_countChanged_23 (by decide) rfl hz2 ?_
      refine gx_aload_n hC dr_PS_countChanged_24 rfl ?_
      refine gx_iload_n hC dr_PS_countChanged_25 rfl ?_
      refine gx_iald (f := (gq_i M (18 + ro))) hC dr_PS_countChanged_26 (by omega) (ca_hist hro) hz2 ?_
      refine gx_icmp_eq (tgt := 33) hC dr_PS_countChanged_27 (by decide) (fun hc3 => ?_) (fun hc3 => ?_)
      · rw [if_pos (show ((gq_i M 3) v3.toInt) = ((gq_i M (18 + ro)) v3.toInt) from hc3)] at h
        refine gx_iinc (v := (v3 + 1)) hC dr_PS_countChanged_33 rfl (by decide) rfl ?_
        refine gx_goto (tgt := 4) hC dr_PS_countChanged_36 (by decide) ?_
        exact gx_lv [(0, gv_R 0), (1, gv_R (24 + ro)), (2, gv_I v2), (3, gv_I (v3 + 1))] ⟨rfl, rfl, rfl, rfl, trivial⟩ (ih _ _ h)
      · rw [if_neg (show ¬ (((gq_i M 3) v3.toInt) = ((gq_i M (18 + ro)) v3.toInt)) from hc3)] at h
        refine gx_iinc (v := (v2 + 1)) hC dr_PS_countChanged_30 rfl (by decide) rfl ?_
        refine gx_iinc (v := (v3 + 1)) hC dr_PS_countChanged_33 rfl (by decide) rfl ?_
        refine gx_goto (tgt := 4) hC dr_PS_countChanged_36 (by decide) ?_
        exact gx_lv [(0, gv_R 0), (1, gv_R (24 + ro)), (2, gv_I (v2 + 1)), (3, gv_I (v3 + 1))] ⟨rfl, rfl, rfl, rfl, trivial⟩ (ih _ _ h)
set_option maxHeartbeats 4000000 in
set_option maxRecDepth 100000 in
theorem mt_PS_countChanged {l : Launch} {D : va_G} {ad : Nat → Nat} {ck : Nat → ClassId} {G : gq_M × (Int → Int64)} {ro : Nat} (hro : ro < 11)  {M : gq_M} {r : Int32} (h : fn_PS_countChanged ro  M = some r) : gm_I 81 0 l D ad ck yn_PS_countChanged bc_PS_countChanged 4 .int ({ frames := 0, cells := 0, slots := 0, locals := 0 } : Room) [gv_R 0, gv_R (24 + ro)] (ca_A (M, G)) (fun z c2 => z = r ∧ c2 = ca_A (M, G)) := by
  refine gm_I.of (by decide) (Nat.le_of_ble_eq_true rfl) (fun x hC hR => ?_)
  unfold fn_PS_countChanged at h
  refine gx_iconst (v := 0) hC dr_PS_countChanged_0 (by decide) ?_
  refine gx_istore_n hC dr_PS_countChanged_1 (by decide) ?_
  refine gx_iconst (v := 0) hC dr_PS_countChanged_2 (by decide) ?_
  refine gx_istore_n hC dr_PS_countChanged_3 (by decide) ?_
  exact gx_lv [(0, gv_R 0), (1, gv_R (24 + ro)), (2, gv_I 0), (3, gv_I 0)] ⟨rfl, rfl, rfl, rfl, trivial⟩ (gl_PS_countChanged_4 hro hC hR 5000 _ _ h)
def fl_PS_run_32 (ro : Nat) : Nat → Int32 → gq_M → Option (Int32 × gq_M)
  | 0, _, _ => none
  | k + 1, v2, M => if (gq_f M 0) ≤ v2 then (fn_PS_countChanged (ro) M).bind fun q6 => if q6 ≤ 0 then some (q6, M) else (fn_Hi_keep  M).bind fun q9 => some (q6, q9) else (fn_PS_swapUnits (ro) v2 0 M).bind fun q11 => (fn_PS_swapUnits (ro) v2 1 q11).bind fun q13 => fl_PS_run_32 ro k (v2 + 1) q13
def fn_PS_run  (M : gq_M) : Option (Int32 × gq_M) := (fn_PS_sum  M).bind fun q1 => (fn_Hi_begin (gq_f M 1) (gs_j M 0 q1)).bind fun q3 => fl_PS_run_32 (q3.1) 5000 0 q3.2
set_option maxHeartbeats 4000000 in
set_option maxRecDepth 100000 in
theorem gl_PS_run_32 {x : gx_X} {G : gq_M × (Int → Int64)} {r : (Int32 × gq_M)} {ro : Nat} (hro : ro < 11) (hC : gw_C 81 81 yn_PS_run.cls bc_PS_run 3 x) (hR : gr_I 81 bc_PS_run 3 .int ({ frames := 6, cells := 0, slots := 0, locals := 143 } : Room) x (fun z c2 => z = r.1 ∧ c2 = ca_A (r.2, G))) : ∀ (k : Nat) (v2 : Int32) (M : gq_M), fl_PS_run_32 ro k v2 M = some r → gw_G 81 3 ({ frames := 6, cells := 0, slots := 0, locals := 143 } : Room) x 0 0 (ca_A (M, G)) 32 [(0, gv_R 0), (1, gv_R (24 + ro)), (2, gv_I v2)] [] := by
  intro k
  induction k with
  | zero =>
    intro v2 M h
    cases h
  | succ k ih =>
    intro v2 M h
    rw [fl_PS_run_32] at h
    refine gx_iload_n hC dr_PS_run_32 rfl ?_
    refine gx_aload_n hC dr_PS_run_33 rfl ?_
    refine gx_get hC dr_PS_run_34 lf_PS_10 (by decide) rfl rfl ?_
    refine gx_get hC dr_PS_run_37 lf_PS_44 (by decide) rfl rfl ?_
    refine gx_icmp_ge (tgt := 63) hC dr_PS_run_40 (by decide) (fun hc5 => ?_) (fun hc5 => ?_)
    · rw [if_pos (show (gq_f M 0) ≤ v2 from hc5)] at h
      refine gx_aload_n hC dr_PS_run_63 rfl ?_
      refine gx_aload_n hC dr_PS_run_64 rfl ?_
      obtain ⟨q6, e7, h⟩ := gb_of h
      refine gx_vI hC dr_PS_run_65 lk_PS_133 (mt_PS_countChanged hro e7) rfl (by decide) ⟨by decide, by decide⟩ ⟨by decide, by decide⟩ (by decide) ⟨_, _, rfl⟩ rfl rfl (Nat.le_of_ble_eq_true rfl) (fun z c2 hp => ?_)
      obtain ⟨hp1, rfl⟩ := hp; obtain rfl := hp1.symm
      refine gx_istore_n hC dr_PS_run_68 (by decide) ?_
      refine gx_iload_n hC dr_PS_run_69 rfl ?_
      refine gx_if_le (tgt := 80) hC dr_PS_run_70 (by decide) (fun hc8 => ?_) (fun hc8 => ?_)
      · rw [if_pos (show q6 ≤ 0 from hc8)] at h
        refine gx_iload_n hC dr_PS_run_80 rfl ?_
        obtain rfl := Option.some.inj h
        exact hR (by decide) (by decide) dr_PS_run_81 rfl ⟨rfl, rfl⟩
      · rw [if_neg (show ¬ (q6 ≤ 0) from hc8)] at h
        refine gx_aload_n hC dr_PS_run_73 rfl ?_
        refine gx_get hC dr_PS_run_74 lf_PS_33 (by decide) rfl rfl ?_
        obtain ⟨q9, e10, h⟩ := gb_of h
        refine gx_vV hC dr_PS_run_77 lk_PS_137 (mt_Hi_keep e10) rfl (by decide) ⟨by decide, by decide⟩ ⟨by decide, by decide⟩ (by decide) ⟨_, _, rfl⟩ rfl rfl (Nat.le_of_ble_eq_true rfl) (fun c2 hp => ?_)
        subst hp
        refine gx_iload_n hC dr_PS_run_80 rfl ?_
        obtain rfl := Option.some.inj h
        exact hR (by decide) (by decide) dr_PS_run_81 rfl ⟨rfl, rfl⟩
    · rw [if_neg (show ¬ ((gq_f M 0) ≤ v2) from hc5)] at h
      refine gx_aload_n hC dr_PS_run_43 rfl ?_
      refine gx_iload_n hC dr_PS_run_44 rfl ?_
      refine gx_iconst (v := 0) hC dr_PS_run_45 (by decide) ?_
      refine gx_aload_n hC dr_PS_run_46 rfl ?_
      obtain ⟨q11, e12, h⟩ := gb_of h
      refine gx_vV hC dr_PS_run_47 lk_PS_129 (mt_PS_swapUnits hro e12) rfl (by decide) ⟨by decide, by decide⟩ ⟨by decide, by decide⟩ (by decide) ⟨_, _, rfl⟩ rfl rfl (Nat.le_of_ble_eq_true rfl) (fun c2 hp => ?_)
      subst hp
      refine gx_aload_n hC dr_PS_run_50 rfl ?_
      refine gx_iload_n hC dr_PS_run_51 rfl ?_
      refine gx_iconst (v := 1) hC dr_PS_run_52 (by decide) ?_
      refine gx_aload_n hC dr_PS_run_53 rfl ?_
      obtain ⟨q13, e14, h⟩ := gb_of h
      refine gx_vV hC dr_PS_run_54 lk_PS_129 (mt_PS_swapUnits hro e14) rfl (by decide) ⟨by decide, by decide⟩ ⟨by decide, by decide⟩ (by decide) ⟨_, _, rfl⟩ rfl rfl (Nat.le_of_ble_eq_true rfl) (fun c2 hp => ?_)
      subst hp
      refine gx_iinc (v := (v2 + 1)) hC dr_PS_run_57 rfl (by decide) rfl ?_
      refine gx_goto (tgt := 32) hC dr_PS_run_60 (by decide) ?_
      exact gx_lv [(0, gv_R 0), (1, gv_R (24 + ro)), (2, gv_I (v2 + 1))] ⟨rfl, rfl, rfl, trivial⟩ (ih _ _ h)
set_option maxHeartbeats 4000000 in
set_option maxRecDepth 100000 in
theorem mt_PS_run {l : Launch} {D : va_G} {ad : Nat → Nat} {ck : Nat → ClassId} {G : gq_M × (Int → Int64)}  {M : gq_M} {r : (Int32 × gq_M)} (h : fn_PS_run  M = some r) : gm_I 81 81 l D ad ck yn_PS_run bc_PS_run 3 .int ({ frames := 6, cells := 0, slots := 0, locals := 143 } : Room) [gv_R 0] (ca_A (M, G)) (fun z c2 => z = r.1 ∧ c2 = ca_A (r.2, G)) := by
  refine gm_I.of (by decide) (Nat.le_of_ble_eq_true rfl) (fun x hC hR => ?_)
  unfold fn_PS_run at h
  refine gx_aload_n hC dr_PS_run_0 rfl ?_
  refine gx_aload_n hC dr_PS_run_1 rfl ?_
  obtain ⟨q1, e2, h⟩ := gb_of h
  refine gx_vJ hC dr_PS_run_2 lk_PS_114 (mt_PS_sum e2) rfl (by decide) ⟨by decide, by decide⟩ ⟨by decide, by decide⟩ (by decide) ⟨_, _, rfl⟩ rfl rfl (Nat.le_of_ble_eq_true rfl) (fun z c2 hp => ?_)
  obtain ⟨hp1, rfl⟩ := hp; obtain rfl := hp1.symm
  refine gx_put hC (by decide) dr_PS_run_5 lf_PS_118 lp_PS_sumBefore (by decide) rfl (Nat.le_of_ble_eq_true rfl) (fun _ => rfl) (fun _ => rfl) ca_J0 ?_
  refine gx_aload_n hC dr_PS_run_8 rfl ?_
  refine gx_get hC dr_PS_run_9 lf_PS_33 (by decide) rfl rfl ?_
  refine gx_aload_n hC dr_PS_run_12 rfl ?_
  refine gx_get hC dr_PS_run_13 lf_PS_10 (by decide) rfl rfl ?_
  refine gx_get hC dr_PS_run_16 lf_PS_122 (by decide) rfl rfl ?_
  refine gx_aload_n hC dr_PS_run_19 rfl ?_
  refine gx_get hC dr_PS_run_20 lf_PS_10 (by decide) rfl rfl ?_
  refine gx_get hC dr_PS_run_23 lf_PS_68 (by decide) rfl rfl ?_
  obtain ⟨q3, e4, h⟩ := gb_of h
  refine gx_vR hC dr_PS_run_26 lk_PS_125 (mt_Hi_begin e4) rfl (by decide) ⟨by decide, by decide⟩ ⟨by decide, by decide⟩ (by decide) ⟨_, _, rfl⟩ rfl rfl (Nat.le_of_ble_eq_true rfl) (fun z c2 hp => ?_)
  obtain ⟨rfl, hro, rfl⟩ := hp
  refine gx_astore_n hC dr_PS_run_29 (by decide) ?_
  refine gx_iconst (v := 0) hC dr_PS_run_30 (by decide) ?_
  refine gx_istore_n hC dr_PS_run_31 (by decide) ?_
  exact gx_lv [(0, gv_R 0), (1, gv_R (24 + q3.1)), (2, gv_I 0)] ⟨rfl, rfl, rfl, trivial⟩ (gl_PS_run_32 hro hC hR 5000 _ _ h)
def fn_PS_undo  (M : gq_M) : Option (Int32 × gq_M) := (fn_Hi_restore  M).bind fun q1 => if vp_nar .boolean q1.1 = q1.1 then some (q1.1, q1.2) else none
set_option maxHeartbeats 4000000 in
set_option maxRecDepth 100000 in
theorem mt_PS_undo {l : Launch} {D : va_G} {ad : Nat → Nat} {ck : Nat → ClassId} {G : gq_M × (Int → Int64)}  {M : gq_M} {r : (Int32 × gq_M)} (h : fn_PS_undo  M = some r) : gm_I 81 81 l D ad ck yn_PS_undo bc_PS_undo 1 .boolean ({ frames := 2, cells := 0, slots := 0, locals := 61 } : Room) [gv_R 0] (ca_A (M, G)) (fun z c2 => z = r.1 ∧ c2 = ca_A (r.2, G)) := by
  refine gm_I.of (by decide) (Nat.le_of_ble_eq_true rfl) (fun x hC hR => ?_)
  unfold fn_PS_undo at h
  refine gx_aload_n hC dr_PS_undo_0 rfl ?_
  refine gx_get hC dr_PS_undo_1 lf_PS_33 (by decide) rfl rfl ?_
  refine gx_aload_n hC dr_PS_undo_4 rfl ?_
  refine gx_get hC dr_PS_undo_5 lf_PS_10 (by decide) rfl rfl ?_
  refine gx_get hC dr_PS_undo_8 lf_PS_122 (by decide) rfl rfl ?_
  obtain ⟨q1, e2, h⟩ := gb_of h
  refine gx_vI hC dr_PS_undo_11 lk_PS_194 (mt_Hi_restore e2) rfl (by decide) ⟨by decide, by decide⟩ ⟨by decide, by decide⟩ (by decide) ⟨_, _, rfl⟩ rfl rfl (Nat.le_of_ble_eq_true rfl) (fun z c2 hp => ?_)
  obtain ⟨rfl, rfl⟩ := hp
  obtain ⟨hz3, h⟩ := gk_of h
  obtain rfl := Option.some.inj h
  exact hR (by decide) (by decide) dr_PS_undo_14 (gk_nar hz3) ⟨rfl, rfl⟩
