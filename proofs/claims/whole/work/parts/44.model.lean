def fn_Mo_thrown  (M : gq_M) : Option Int32 := some (gq_f M 0)
set_option maxHeartbeats 4000000 in
set_option maxRecDepth 100000 in
theorem mt_Mo_thrown {l : Launch} {D : va_G} {ad : Nat → Nat} {ck : Nat → ClassId} {G : gq_M × (Int → Int64)}  {M : gq_M} {r : Int32} (h : fn_Mo_thrown  M = some r) : gm_I 81 0 l D ad ck yn_Mo_thrown bc_Mo_thrown 1 .int ({ frames := 0, cells := 0, slots := 0, locals := 0 } : Room) [gv_R 57] (ca_A (G.1, M, G.2)) (fun z c2 => z = r ∧ c2 = ca_A (G.1, M, G.2)) := by
  refine gm_I.of (by decide) (Nat.le_of_ble_eq_true rfl) (fun x hC hR => ?_)
  unfold fn_Mo_thrown at h
  refine gx_aload_n hC dr_Mo_thrown_0 rfl ?_
  refine gx_get hC dr_Mo_thrown_1 lf_Mo_78 (by decide) rfl rfl ?_
  obtain rfl := Option.some.inj h
  exact hR (by decide) (by decide) dr_Mo_thrown_4 rfl ⟨rfl, rfl⟩
def fn_Mo_group  (M : gq_M) : Option (Int32 × gq_M) := if (gq_f M 1) = 12 then some ((-1), (gs_f M 0 0)) else some ((((gq_f M 1) + 1) - 1), (gs_f (gs_f M 0 0) 1 ((gq_f M 1) + 1)))
set_option maxHeartbeats 4000000 in
set_option maxRecDepth 100000 in
theorem mt_Mo_group {l : Launch} {D : va_G} {ad : Nat → Nat} {ck : Nat → ClassId} {G : gq_M × (Int → Int64)}  {M : gq_M} {r : (Int32 × gq_M)} (h : fn_Mo_group  M = some r) : gm_I 81 81 l D ad ck yn_Mo_group bc_Mo_group 1 .int ({ frames := 0, cells := 0, slots := 0, locals := 0 } : Room) [gv_R 57] (ca_A (G.1, M, G.2)) (fun z c2 => z = r.1 ∧ c2 = ca_A (G.1, r.2, G.2)) := by
  refine gm_I.of (by decide) (Nat.le_of_ble_eq_true rfl) (fun x hC hR => ?_)
  unfold fn_Mo_group at h
  refine gx_aload_n hC dr_Mo_group_0 rfl ?_
  refine gx_iconst (v := 0) hC dr_Mo_group_1 (by decide) ?_
  refine gx_put hC (by decide) dr_Mo_group_2 lf_Mo_78 lp_Mo_thrown (by decide) rfl (Nat.le_of_ble_eq_true rfl) (fun _ => rfl) (fun _ => rfl) ma_F0 ?_
  refine gx_aload_n hC dr_Mo_group_5 rfl ?_
  refine gx_get hC dr_Mo_group_6 lf_Mo_82 (by decide) rfl rfl ?_
  refine gx_bipush (v := 12) hC dr_Mo_group_9 (by decide) ?_
  refine gx_icmp_ne (tgt := 16) hC dr_Mo_group_11 (by decide) (fun hc1 => ?_) (fun hc1 => ?_)
  · rw [if_neg (show ¬ ((gq_f M 1) = 12) from hc1)] at h
    refine gx_aload_n hC dr_Mo_group_16 rfl ?_
    refine gx_dup hC dr_Mo_group_17 rfl ?_
    refine gx_get hC dr_Mo_group_18 lf_Mo_82 (by decide) rfl rfl ?_
    refine gx_iconst (v := 1) hC dr_Mo_group_21 (by decide) ?_
    refine gx_iadd hC dr_Mo_group_22 ?_
    refine gx_put hC (by decide) dr_Mo_group_23 lf_Mo_82 lp_Mo_groups (by decide) rfl (Nat.le_of_ble_eq_true rfl) (fun _ => rfl) (fun _ => rfl) ma_F1 ?_
    refine gx_aload_n hC dr_Mo_group_26 rfl ?_
    refine gx_get hC dr_Mo_group_27 lf_Mo_82 (by decide) rfl rfl ?_
    refine gx_iconst (v := 1) hC dr_Mo_group_30 (by decide) ?_
    refine gx_isub hC dr_Mo_group_31 ?_
    obtain rfl := Option.some.inj h
    exact hR (by decide) (by decide) dr_Mo_group_32 rfl ⟨rfl, rfl⟩
  · rw [if_pos (show (gq_f M 1) = 12 from hc1)] at h
    refine gx_iconst (v := (-1)) hC dr_Mo_group_14 (by decide) ?_
    obtain rfl := Option.some.inj h
    exact hR (by decide) (by decide) dr_Mo_group_15 rfl ⟨rfl, rfl⟩
def fn_Mo_isPlace (p0 : Int64) (p1 : Int64) (M : gq_M) : Option Int32 := if p0 < (-1000000) then some 0 else if 1000000 < p0 then some 0 else if p1 < (-1000000) then some 0 else if 1000000 < p1 then some 0 else some 1
set_option maxHeartbeats 4000000 in
set_option maxRecDepth 100000 in
theorem mt_Mo_isPlace {l : Launch} {D : va_G} {ad : Nat → Nat} {ck : Nat → ClassId} {G : gq_M × (Int → Int64)} {p0 : Int64} {p1 : Int64} {M : gq_M} {r : Int32} (h : fn_Mo_isPlace p0 p1 M = some r) : gm_I 81 0 l D ad ck yn_Mo_isPlace bc_Mo_isPlace 4 .boolean ({ frames := 0, cells := 0, slots := 0, locals := 0 } : Room) [gv_L p0, gv_L p1] (ca_A (G.1, M, G.2)) (fun z c2 => z = r ∧ c2 = ca_A (G.1, M, G.2)) := by
  refine gm_I.of (by decide) (Nat.le_of_ble_eq_true rfl) (fun x hC hR => ?_)
  unfold fn_Mo_isPlace at h
  refine gx_lload_n hC dr_Mo_isPlace_0 rfl ?_
  refine gx_ldc2 (v := (-1000000)) hC dr_Mo_isPlace_1 lc_Mo_85 ?_
  refine gx_lcmp_lt (tgt := 36) hC dr_Mo_isPlace_4 dr_Mo_isPlace_5 (by decide) (fun hc1 => ?_) (fun hc1 => ?_)
  · rw [if_pos (show p0 < (-1000000) from hc1)] at h
    refine gx_iconst (v := 0) hC dr_Mo_isPlace_36 (by decide) ?_
    obtain rfl := Option.some.inj h
    exact hR (by decide) (by decide) dr_Mo_isPlace_37 rfl ⟨rfl, rfl⟩
  · rw [if_neg (show ¬ (p0 < (-1000000)) from hc1)] at h
    refine gx_lload_n hC dr_Mo_isPlace_8 rfl ?_
    refine gx_ldc2 (v := 1000000) hC dr_Mo_isPlace_9 lc_Mo_87 ?_
    refine gx_lcmp_gt (tgt := 36) hC dr_Mo_isPlace_12 dr_Mo_isPlace_13 (by decide) (fun hc2 => ?_) (fun hc2 => ?_)
    · rw [if_pos (show 1000000 < p0 from hc2)] at h
      refine gx_iconst (v := 0) hC dr_Mo_isPlace_36 (by decide) ?_
      obtain rfl := Option.some.inj h
      exact hR (by decide) (by decide) dr_Mo_isPlace_37 rfl ⟨rfl, rfl⟩
    · rw [if_neg (show ¬ (1000000 < p0) from hc2)] at h
      refine gx_lload_n hC dr_Mo_isPlace_16 rfl ?_
      refine gx_ldc2 (v := (-1000000)) hC dr_Mo_isPlace_17 lc_Mo_85 ?_
      refine gx_lcmp_lt (tgt := 36) hC dr_Mo_isPlace_20 dr_Mo_isPlace_21 (by decide) (fun hc3 => ?_) (fun hc3 => ?_)
      · rw [if_pos (show p1 < (-1000000) from hc3)] at h
        refine gx_iconst (v := 0) hC dr_Mo_isPlace_36 (by decide) ?_
        obtain rfl := Option.some.inj h
        exact hR (by decide) (by decide) dr_Mo_isPlace_37 rfl ⟨rfl, rfl⟩
      · rw [if_neg (show ¬ (p1 < (-1000000)) from hc3)] at h
        refine gx_lload_n hC dr_Mo_isPlace_24 rfl ?_
        refine gx_ldc2 (v := 1000000) hC dr_Mo_isPlace_25 lc_Mo_87 ?_
        refine gx_lcmp_gt (tgt := 36) hC dr_Mo_isPlace_28 dr_Mo_isPlace_29 (by decide) (fun hc4 => ?_) (fun hc4 => ?_)
        · rw [if_pos (show 1000000 < p1 from hc4)] at h
          refine gx_iconst (v := 0) hC dr_Mo_isPlace_36 (by decide) ?_
          obtain rfl := Option.some.inj h
          exact hR (by decide) (by decide) dr_Mo_isPlace_37 rfl ⟨rfl, rfl⟩
        · rw [if_neg (show ¬ (1000000 < p1) from hc4)] at h
          refine gx_iconst (v := 1) hC dr_Mo_isPlace_32 (by decide) ?_
          refine gx_goto (tgt := 37) hC dr_Mo_isPlace_33 (by decide) ?_
          obtain rfl := Option.some.inj h
          exact hR (by decide) (by decide) dr_Mo_isPlace_37 rfl ⟨rfl, rfl⟩
def fn_Mo_isNet (p0 : Int32) (M : gq_M) : Option Int32 := if p0 < 0 then some 0 else if 200 ≤ p0 then some 0 else some 1
set_option maxHeartbeats 4000000 in
set_option maxRecDepth 100000 in
theorem mt_Mo_isNet {l : Launch} {D : va_G} {ad : Nat → Nat} {ck : Nat → ClassId} {G : gq_M × (Int → Int64)} {p0 : Int32} {M : gq_M} {r : Int32} (h : fn_Mo_isNet p0 M = some r) : gm_I 81 0 l D ad ck yn_Mo_isNet bc_Mo_isNet 1 .boolean ({ frames := 0, cells := 0, slots := 0, locals := 0 } : Room) [gv_I p0] (ca_A (G.1, M, G.2)) (fun z c2 => z = r ∧ c2 = ca_A (G.1, M, G.2)) := by
  refine gm_I.of (by decide) (Nat.le_of_ble_eq_true rfl) (fun x hC hR => ?_)
  unfold fn_Mo_isNet at h
  refine gx_iload_n hC dr_Mo_isNet_0 rfl ?_
  refine gx_if_lt (tgt := 15) hC dr_Mo_isNet_1 (by decide) (fun hc1 => ?_) (fun hc1 => ?_)
  · rw [if_pos (show p0 < 0 from hc1)] at h
    refine gx_iconst (v := 0) hC dr_Mo_isNet_15 (by decide) ?_
    obtain rfl := Option.some.inj h
    exact hR (by decide) (by decide) dr_Mo_isNet_16 rfl ⟨rfl, rfl⟩
  · rw [if_neg (show ¬ (p0 < 0) from hc1)] at h
    refine gx_iload_n hC dr_Mo_isNet_4 rfl ?_
    refine gx_sipush (v := 200) hC dr_Mo_isNet_5 (by decide) ?_
    refine gx_icmp_ge (tgt := 15) hC dr_Mo_isNet_8 (by decide) (fun hc2 => ?_) (fun hc2 => ?_)
    · rw [if_pos (show 200 ≤ p0 from hc2)] at h
      refine gx_iconst (v := 0) hC dr_Mo_isNet_15 (by decide) ?_
      obtain rfl := Option.some.inj h
      exact hR (by decide) (by decide) dr_Mo_isNet_16 rfl ⟨rfl, rfl⟩
    · rw [if_neg (show ¬ (200 ≤ p0) from hc2)] at h
      refine gx_iconst (v := 1) hC dr_Mo_isNet_11 (by decide) ?_
      refine gx_goto (tgt := 16) hC dr_Mo_isNet_12 (by decide) ?_
      obtain rfl := Option.some.inj h
      exact hR (by decide) (by decide) dr_Mo_isNet_16 rfl ⟨rfl, rfl⟩
def fn_Mo_isPin (p0 : Int32) (M : gq_M) : Option Int32 := if p0 < 0 then some 0 else if (gq_f M 2) ≤ p0 then some 0 else some 1
set_option maxHeartbeats 4000000 in
set_option maxRecDepth 100000 in
theorem mt_Mo_isPin {l : Launch} {D : va_G} {ad : Nat → Nat} {ck : Nat → ClassId} {G : gq_M × (Int → Int64)} {p0 : Int32} {M : gq_M} {r : Int32} (h : fn_Mo_isPin p0 M = some r) : gm_I 81 0 l D ad ck yn_Mo_isPin bc_Mo_isPin 2 .boolean ({ frames := 0, cells := 0, slots := 0, locals := 0 } : Room) [gv_R 57, gv_I p0] (ca_A (G.1, M, G.2)) (fun z c2 => z = r ∧ c2 = ca_A (G.1, M, G.2)) := by
  refine gm_I.of (by decide) (Nat.le_of_ble_eq_true rfl) (fun x hC hR => ?_)
  unfold fn_Mo_isPin at h
  refine gx_iload_n hC dr_Mo_isPin_0 rfl ?_
  refine gx_if_lt (tgt := 16) hC dr_Mo_isPin_1 (by decide) (fun hc1 => ?_) (fun hc1 => ?_)
  · rw [if_pos (show p0 < 0 from hc1)] at h
    refine gx_iconst (v := 0) hC dr_Mo_isPin_16 (by decide) ?_
    obtain rfl := Option.some.inj h
    exact hR (by decide) (by decide) dr_Mo_isPin_17 rfl ⟨rfl, rfl⟩
  · rw [if_neg (show ¬ (p0 < 0) from hc1)] at h
    refine gx_iload_n hC dr_Mo_isPin_4 rfl ?_
    refine gx_aload_n hC dr_Mo_isPin_5 rfl ?_
    refine gx_get hC dr_Mo_isPin_6 lf_Mo_89 (by decide) rfl rfl ?_
    refine gx_icmp_ge (tgt := 16) hC dr_Mo_isPin_9 (by decide) (fun hc2 => ?_) (fun hc2 => ?_)
    · rw [if_pos (show (gq_f M 2) ≤ p0 from hc2)] at h
      refine gx_iconst (v := 0) hC dr_Mo_isPin_16 (by decide) ?_
      obtain rfl := Option.some.inj h
      exact hR (by decide) (by decide) dr_Mo_isPin_17 rfl ⟨rfl, rfl⟩
    · rw [if_neg (show ¬ ((gq_f M 2) ≤ p0) from hc2)] at h
      refine gx_iconst (v := 1) hC dr_Mo_isPin_12 (by decide) ?_
      refine gx_goto (tgt := 17) hC dr_Mo_isPin_13 (by decide) ?_
      obtain rfl := Option.some.inj h
      exact hR (by decide) (by decide) dr_Mo_isPin_17 rfl ⟨rfl, rfl⟩
def fl_Mo_pin_69 : Nat → Int32 → Int64 → Int64 → Int32 → Int32 → Int32 → gq_M → Option (Int32 × gq_M)
  | 0, _, _, _, _, _, _, _ => none
  | k + 1, v1, v2, v4, v6, v8, v9, M => if (gq_f M 2) ≤ v9 then if v8 = 12 then some ((-1), M) else if (gq_f M 2) = 80 then some ((-1), M) else if 0 ≤ (gq_f M 2).toInt ∧ (gq_f M 2).toInt < ((80 : Nat) : Int) then some ((((gq_f M 2) + 1) - 1), (gs_f (gs_i (gs_i (gs_i (gs_l (gs_l (gs_i M 0 (gz_u (gq_i M 0) (gq_f M 2).toInt v1)) 0 (gz_ul (gq_l M 0) (gq_f M 2).toInt v2)) 1 (gz_ul (gq_l M 1) (gq_f M 2).toInt v4)) 2 (gz_u (gq_i M 2) (gq_f M 2).toInt v6)) 3 (gz_u (gq_i M 3) (gq_f M 2).toInt v6)) 5 (gz_u (gq_i M 5) (gq_f M 2).toInt (-1))) 2 ((gq_f M 2) + 1))) else none else if 0 ≤ v9.toInt ∧ v9.toInt < ((80 : Nat) : Int) then if ((gq_i M 0) v9.toInt) = v1 then fl_Mo_pin_69 k v1 v2 v4 v6 (v8 + 1) (v9 + 1) M else fl_Mo_pin_69 k v1 v2 v4 v6 (v8 + 0) (v9 + 1) M else none
def fn_Mo_pin (p0 : Int32) (p1 : Int64) (p2 : Int64) (p3 : Int32) (M : gq_M) : Option (Int32 × gq_M) := if p0 < 0 then some (0, (gs_f M 0 1)) else if (gq_f M 1) ≤ p0 then some (0, (gs_f M 0 1)) else (fn_Mo_isPlace p1 p2 M).bind fun q8 => if q8 = 0 then some (0, (gs_f M 0 2)) else (fn_Mo_isNet p3 M).bind fun q12 => if q12 = 0 then some (0, (gs_f M 0 2)) else fl_Mo_pin_69 5000 p0 p1 p2 p3 0 0 (gs_f M 0 0)
set_option maxHeartbeats 4000000 in
set_option maxRecDepth 100000 in
theorem gl_Mo_pin_69 {x : gx_X} {G : gq_M × (Int → Int64)} {r : (Int32 × gq_M)} (hC : gw_C 81 81 yn_Mo_pin.cls bc_Mo_pin 10 x) (hR : gr_I 81 bc_Mo_pin 10 .int ({ frames := 1, cells := 0, slots := 0, locals := 23 } : Room) x (fun z c2 => z = r.1 ∧ c2 = ca_A (G.1, r.2, G.2))) : ∀ (k : Nat) (v1 : Int32) (v2 : Int64) (v4 : Int64) (v6 : Int32) (v8 : Int32) (v9 : Int32) (M : gq_M), fl_Mo_pin_69 k v1 v2 v4 v6 v8 v9 M = some r → gw_G 81 10 ({ frames := 1, cells := 0, slots := 0, locals := 23 } : Room) x 0 0 (ca_A (G.1, M, G.2)) 69 [(0, gv_R 57), (1, gv_I v1), (2, gv_L v2), (4, gv_L v4), (6, gv_I v6), (8, gv_I v8), (9, gv_I v9)] [] := by
  intro k
  induction k with
  | zero =>
    intro v1 v2 v4 v6 v8 v9 M h
    cases h
  | succ k ih =>
    intro v1 v2 v4 v6 v8 v9 M h
    rw [fl_Mo_pin_69] at h
    refine gx_iload hC dr_Mo_pin_69 rfl ?_
    refine gx_aload_n hC dr_Mo_pin_71 rfl ?_
    refine gx_get hC dr_Mo_pin_72 lf_Mo_89 (by decide) rfl rfl ?_
    refine gx_icmp_ge (tgt := 105) hC dr_Mo_pin_75 (by decide) (fun hc17 => ?_) (fun hc17 => ?_)
    · rw [if_pos (show (gq_f M 2) ≤ v9 from hc17)] at h
      refine gx_iload hC dr_Mo_pin_105 rfl ?_
      refine gx_bipush (v := 12) hC dr_Mo_pin_107 (by decide) ?_
      refine gx_icmp_eq (tgt := 121) hC dr_Mo_pin_109 (by decide) (fun hc18 => ?_) (fun hc18 => ?_)
      · rw [if_pos (show v8 = 12 from hc18)] at h
        refine gx_iconst (v := (-1)) hC dr_Mo_pin_121 (by decide) ?_
        obtain rfl := Option.some.inj h
        exact hR (by decide) (by decide) dr_Mo_pin_122 rfl ⟨rfl, rfl⟩
      · rw [if_neg (show ¬ (v8 = 12) from hc18)] at h
        refine gx_aload_n hC dr_Mo_pin_112 rfl ?_
        refine gx_get hC dr_Mo_pin_113 lf_Mo_89 (by decide) rfl rfl ?_
        refine gx_bipush (v := 80) hC dr_Mo_pin_116 (by decide) ?_
        refine gx_icmp_ne (tgt := 123) hC dr_Mo_pin_118 (by decide) (fun hc19 => ?_) (fun hc19 => ?_)
        · rw [if_neg (show ¬ ((gq_f M 2) = 80) from hc19)] at h
          refine gx_aload_n hC dr_Mo_pin_123 rfl ?_
          refine gx_get hC dr_Mo_pin_124 lf_Mo_7 (by decide) rfl rfl ?_
          refine gx_aload_n hC dr_Mo_pin_127 rfl ?_
          refine gx_get hC dr_Mo_pin_128 lf_Mo_89 (by decide) rfl rfl ?_
          refine gx_iload_n hC dr_Mo_pin_131 rfl ?_
          obtain ⟨hz20, h⟩ := gk_of h
          refine gx_iast (f := (gq_i M 0)) hC (by decide) dr_Mo_pin_132 (by decide) rfl hz20 (ma_I 0 (by decide)) ?_
          refine gx_aload_n hC dr_Mo_pin_133 rfl ?_
          refine gx_get hC dr_Mo_pin_134 lf_Mo_13 (by decide) rfl rfl ?_
          refine gx_aload_n hC dr_Mo_pin_137 rfl ?_
          refine gx_get hC dr_Mo_pin_138 lf_Mo_89 (by decide) rfl rfl ?_
          refine gx_lload_n hC dr_Mo_pin_141 rfl ?_
          refine gx_last (f := (gq_l M 0)) hC (by decide) dr_Mo_pin_142 (by decide) rfl hz20 (ma_L 0 (by decide)) ?_
          refine gx_aload_n hC dr_Mo_pin_143 rfl ?_
          refine gx_get hC dr_Mo_pin_144 lf_Mo_17 (by decide) rfl rfl ?_
          refine gx_aload_n hC dr_Mo_pin_147 rfl ?_
          refine gx_get hC dr_Mo_pin_148 lf_Mo_89 (by decide) rfl rfl ?_
          refine gx_lload hC dr_Mo_pin_151 rfl ?_
          refine gx_last (f := (gq_l M 1)) hC (by decide) dr_Mo_pin_153 (by decide) rfl hz20 (ma_L 1 (by decide)) ?_
          refine gx_aload_n hC dr_Mo_pin_154 rfl ?_
          refine gx_get hC dr_Mo_pin_155 lf_Mo_23 (by decide) rfl rfl ?_
          refine gx_aload_n hC dr_Mo_pin_158 rfl ?_
          refine gx_get hC dr_Mo_pin_159 lf_Mo_89 (by decide) rfl rfl ?_
          refine gx_iload hC dr_Mo_pin_162 rfl ?_
          refine gx_iast (f := (gq_i M 2)) hC (by decide) dr_Mo_pin_164 (by decide) rfl hz20 (ma_I 2 (by decide)) ?_
          refine gx_aload_n hC dr_Mo_pin_165 rfl ?_
          refine gx_get hC dr_Mo_pin_166 lf_Mo_26 (by decide) rfl rfl ?_
          refine gx_aload_n hC dr_Mo_pin_169 rfl ?_
          refine gx_get hC dr_Mo_pin_170 lf_Mo_89 (by decide) rfl rfl ?_
          refine gx_iload hC dr_Mo_pin_173 rfl ?_
          refine gx_iast (f := (gq_i M 3)) hC (by decide) dr_Mo_pin_175 (by decide) rfl hz20 (ma_I 3 (by decide)) ?_
          refine gx_aload_n hC dr_Mo_pin_176 rfl ?_
          refine gx_get hC dr_Mo_pin_177 lf_Mo_33 (by decide) rfl rfl ?_
          refine gx_aload_n hC dr_Mo_pin_180 rfl ?_
          refine gx_get hC dr_Mo_pin_181 lf_Mo_89 (by decide) rfl rfl ?_
          refine gx_iconst (v := (-1)) hC dr_Mo_pin_184 (by decide) ?_
          refine gx_iast (f := (gq_i M 5)) hC (by decide) dr_Mo_pin_185 (by decide) rfl hz20 (ma_I 5 (by decide)) ?_
          refine gx_aload_n hC dr_Mo_pin_186 rfl ?_
          refine gx_dup hC dr_Mo_pin_187 rfl ?_
          refine gx_get hC dr_Mo_pin_188 lf_Mo_89 (by decide) rfl rfl ?_
          refine gx_iconst (v := 1) hC dr_Mo_pin_191 (by decide) ?_
          refine gx_iadd hC dr_Mo_pin_192 ?_
          refine gx_put hC (by decide) dr_Mo_pin_193 lf_Mo_89 lp_Mo_pins (by decide) rfl (Nat.le_of_ble_eq_true rfl) (fun _ => rfl) (fun _ => rfl) ma_F2 ?_
          refine gx_aload_n hC dr_Mo_pin_196 rfl ?_
          refine gx_get hC dr_Mo_pin_197 lf_Mo_89 (by decide) rfl rfl ?_
          refine gx_iconst (v := 1) hC dr_Mo_pin_200 (by decide) ?_
          refine gx_isub hC dr_Mo_pin_201 ?_
          obtain rfl := Option.some.inj h
          exact hR (by decide) (by decide) dr_Mo_pin_202 rfl ⟨rfl, rfl⟩
        · rw [if_pos (show (gq_f M 2) = 80 from hc19)] at h
          refine gx_iconst (v := (-1)) hC dr_Mo_pin_121 (by decide) ?_
          obtain rfl := Option.some.inj h
          exact hR (by decide) (by decide) dr_Mo_pin_122 rfl ⟨rfl, rfl⟩
    · rw [if_neg (show ¬ ((gq_f M 2) ≤ v9) from hc17)] at h
      refine gx_iload hC dr_Mo_pin_78 rfl ?_
      refine gx_aload_n hC dr_Mo_pin_80 rfl ?_
      refine gx_get hC dr_Mo_pin_81 lf_Mo_7 (by decide) rfl rfl ?_
      refine gx_iload hC dr_Mo_pin_84 rfl ?_
      obtain ⟨hz21, h⟩ := gk_of h
      refine gx_iald (f := (gq_i M 0)) hC dr_Mo_pin_86 (by decide) rfl hz21 ?_
      refine gx_iload_n hC dr_Mo_pin_87 rfl ?_
      refine gx_icmp_ne (tgt := 95) hC dr_Mo_pin_88 (by decide) (fun hc22 => ?_) (fun hc22 => ?_)
      · rw [if_neg (show ¬ (((gq_i M 0) v9.toInt) = v1) from hc22)] at h
        refine gx_iconst (v := 0) hC dr_Mo_pin_95 (by decide) ?_
        refine gx_iadd hC dr_Mo_pin_96 ?_
        refine gx_istore hC dr_Mo_pin_97 (by decide) ?_
        refine gx_iinc (v := (v9 + 1)) hC dr_Mo_pin_99 rfl (by decide) rfl ?_
        refine gx_goto (tgt := 69) hC dr_Mo_pin_102 (by decide) ?_
        exact gx_lv [(0, gv_R 57), (1, gv_I v1), (2, gv_L v2), (4, gv_L v4), (6, gv_I v6), (8, gv_I (v8 + 0)), (9, gv_I (v9 + 1))] ⟨rfl, rfl, rfl, rfl, rfl, rfl, rfl, trivial⟩ (ih _ _ _ _ _ _ _ h)
      · rw [if_pos (show ((gq_i M 0) v9.toInt) = v1 from hc22)] at h
        refine gx_iconst (v := 1) hC dr_Mo_pin_91 (by decide) ?_
        refine gx_goto (tgt := 96) hC dr_Mo_pin_92 (by decide) ?_
        refine gx_iadd hC dr_Mo_pin_96 ?_
        refine gx_istore hC dr_Mo_pin_97 (by decide) ?_
        refine gx_iinc (v := (v9 + 1)) hC dr_Mo_pin_99 rfl (by decide) rfl ?_
        refine gx_goto (tgt := 69) hC dr_Mo_pin_102 (by decide) ?_
        exact gx_lv [(0, gv_R 57), (1, gv_I v1), (2, gv_L v2), (4, gv_L v4), (6, gv_I v6), (8, gv_I (v8 + 1)), (9, gv_I (v9 + 1))] ⟨rfl, rfl, rfl, rfl, rfl, rfl, rfl, trivial⟩ (ih _ _ _ _ _ _ _ h)
set_option maxHeartbeats 4000000 in
set_option maxRecDepth 100000 in
theorem mt_Mo_pin {l : Launch} {D : va_G} {ad : Nat → Nat} {ck : Nat → ClassId} {G : gq_M × (Int → Int64)} {p0 : Int32} {p1 : Int64} {p2 : Int64} {p3 : Int32} {M : gq_M} {r : (Int32 × gq_M)} (h : fn_Mo_pin p0 p1 p2 p3 M = some r) : gm_I 81 81 l D ad ck yn_Mo_pin bc_Mo_pin 10 .int ({ frames := 1, cells := 0, slots := 0, locals := 23 } : Room) [gv_R 57, gv_I p0, gv_L p1, gv_L p2, gv_I p3] (ca_A (G.1, M, G.2)) (fun z c2 => z = r.1 ∧ c2 = ca_A (G.1, r.2, G.2)) := by
  refine gm_I.of (by decide) (Nat.le_of_ble_eq_true rfl) (fun x hC hR => ?_)
  unfold fn_Mo_pin at h
  refine gx_iload_n hC dr_Mo_pin_0 rfl ?_
  refine gx_if_lt (tgt := 16) hC dr_Mo_pin_1 (by decide) (fun hc1 => ?_) (fun hc1 => ?_)
  · rw [if_pos (show p0 < 0 from hc1)] at h
    refine gx_iconst (v := 0) hC dr_Mo_pin_16 (by decide) ?_
    refine gx_istore hC dr_Mo_pin_17 (by decide) ?_
    refine gx_aload_n hC dr_Mo_pin_19 rfl ?_
    refine gx_iload hC dr_Mo_pin_20 rfl ?_
    refine gx_if_ne (tgt := 29) hC dr_Mo_pin_22 (by decide) (fun hc2 => ?_) (fun hc2 => ?_)
    · exact absurd (show ¬ ((0 : Int32) = 0) from hc2) (by decide)
    · refine gx_iconst (v := 1) hC dr_Mo_pin_25 (by decide) ?_
      refine gx_goto (tgt := 51) hC dr_Mo_pin_26 (by decide) ?_
      refine gx_put hC (by decide) dr_Mo_pin_51 lf_Mo_78 lp_Mo_thrown (by decide) rfl (Nat.le_of_ble_eq_true rfl) (fun _ => rfl) (fun _ => rfl) ma_F0 ?_
      refine gx_aload_n hC dr_Mo_pin_54 rfl ?_
      refine gx_get hC dr_Mo_pin_55 lf_Mo_78 (by decide) rfl rfl ?_
      refine gx_if_eq (tgt := 63) hC dr_Mo_pin_58 (by decide) (fun hc3 => ?_) (fun hc3 => ?_)
      · exact absurd (show (1 : Int32) = 0 from hc3) (by decide)
      · refine gx_iconst (v := 0) hC dr_Mo_pin_61 (by decide) ?_
        obtain rfl := Option.some.inj h
        exact hR (by decide) (by decide) dr_Mo_pin_62 rfl ⟨rfl, rfl⟩
  · rw [if_neg (show ¬ (p0 < 0) from hc1)] at h
    refine gx_iload_n hC dr_Mo_pin_4 rfl ?_
    refine gx_aload_n hC dr_Mo_pin_5 rfl ?_
    refine gx_get hC dr_Mo_pin_6 lf_Mo_82 (by decide) rfl rfl ?_
    refine gx_icmp_ge (tgt := 16) hC dr_Mo_pin_9 (by decide) (fun hc4 => ?_) (fun hc4 => ?_)
    · rw [if_pos (show (gq_f M 1) ≤ p0 from hc4)] at h
      refine gx_iconst (v := 0) hC dr_Mo_pin_16 (by decide) ?_
      refine gx_istore hC dr_Mo_pin_17 (by decide) ?_
      refine gx_aload_n hC dr_Mo_pin_19 rfl ?_
      refine gx_iload hC dr_Mo_pin_20 rfl ?_
      refine gx_if_ne (tgt := 29) hC dr_Mo_pin_22 (by decide) (fun hc5 => ?_) (fun hc5 => ?_)
      · exact absurd (show ¬ ((0 : Int32) = 0) from hc5) (by decide)
      · refine gx_iconst (v := 1) hC dr_Mo_pin_25 (by decide) ?_
        refine gx_goto (tgt := 51) hC dr_Mo_pin_26 (by decide) ?_
        refine gx_put hC (by decide) dr_Mo_pin_51 lf_Mo_78 lp_Mo_thrown (by decide) rfl (Nat.le_of_ble_eq_true rfl) (fun _ => rfl) (fun _ => rfl) ma_F0 ?_
        refine gx_aload_n hC dr_Mo_pin_54 rfl ?_
        refine gx_get hC dr_Mo_pin_55 lf_Mo_78 (by decide) rfl rfl ?_
        refine gx_if_eq (tgt := 63) hC dr_Mo_pin_58 (by decide) (fun hc6 => ?_) (fun hc6 => ?_)
        · exact absurd (show (1 : Int32) = 0 from hc6) (by decide)
        · refine gx_iconst (v := 0) hC dr_Mo_pin_61 (by decide) ?_
          obtain rfl := Option.some.inj h
          exact hR (by decide) (by decide) dr_Mo_pin_62 rfl ⟨rfl, rfl⟩
    · rw [if_neg (show ¬ ((gq_f M 1) ≤ p0) from hc4)] at h
      refine gx_iconst (v := 1) hC dr_Mo_pin_12 (by decide) ?_
      refine gx_goto (tgt := 17) hC dr_Mo_pin_13 (by decide) ?_
      refine gx_istore hC dr_Mo_pin_17 (by decide) ?_
      refine gx_aload_n hC dr_Mo_pin_19 rfl ?_
      refine gx_iload hC dr_Mo_pin_20 rfl ?_
      refine gx_if_ne (tgt := 29) hC dr_Mo_pin_22 (by decide) (fun hc7 => ?_) (fun hc7 => ?_)
      · refine gx_lload_n hC dr_Mo_pin_29 rfl ?_
        refine gx_lload hC dr_Mo_pin_30 rfl ?_
        obtain ⟨q8, e9, h⟩ := gb_of h
        refine gx_sI hC dr_Mo_pin_32 lk_Mo_92 (mt_Mo_isPlace e9) rfl (by decide) ⟨by decide, by decide⟩ ⟨by decide, by decide⟩ rfl (Nat.le_of_ble_eq_true rfl) (fun z c2 hp => ?_)
        obtain ⟨hp1, rfl⟩ := hp; obtain rfl := hp1.symm
        refine gx_if_eq (tgt := 50) hC dr_Mo_pin_35 (by decide) (fun hc10 => ?_) (fun hc10 => ?_)
        · rw [if_pos (show q8 = 0 from hc10)] at h
          refine gx_iconst (v := 2) hC dr_Mo_pin_50 (by decide) ?_
          refine gx_put hC (by decide) dr_Mo_pin_51 lf_Mo_78 lp_Mo_thrown (by decide) rfl (Nat.le_of_ble_eq_true rfl) (fun _ => rfl) (fun _ => rfl) ma_F0 ?_
          refine gx_aload_n hC dr_Mo_pin_54 rfl ?_
          refine gx_get hC dr_Mo_pin_55 lf_Mo_78 (by decide) rfl rfl ?_
          refine gx_if_eq (tgt := 63) hC dr_Mo_pin_58 (by decide) (fun hc11 => ?_) (fun hc11 => ?_)
          · exact absurd (show (2 : Int32) = 0 from hc11) (by decide)
          · refine gx_iconst (v := 0) hC dr_Mo_pin_61 (by decide) ?_
            obtain rfl := Option.some.inj h
            exact hR (by decide) (by decide) dr_Mo_pin_62 rfl ⟨rfl, rfl⟩
        · rw [if_neg (show ¬ (q8 = 0) from hc10)] at h
          refine gx_iload hC dr_Mo_pin_38 rfl ?_
          obtain ⟨q12, e13, h⟩ := gb_of h
          refine gx_sI hC dr_Mo_pin_40 lk_Mo_96 (mt_Mo_isNet e13) rfl (by decide) ⟨by decide, by decide⟩ ⟨by decide, by decide⟩ rfl (Nat.le_of_ble_eq_true rfl) (fun z c2 hp => ?_)
          obtain ⟨hp1, rfl⟩ := hp; obtain rfl := hp1.symm
          refine gx_if_eq (tgt := 50) hC dr_Mo_pin_43 (by decide) (fun hc14 => ?_) (fun hc14 => ?_)
          · rw [if_pos (show q12 = 0 from hc14)] at h
            refine gx_iconst (v := 2) hC dr_Mo_pin_50 (by decide) ?_
            refine gx_put hC (by decide) dr_Mo_pin_51 lf_Mo_78 lp_Mo_thrown (by decide) rfl (Nat.le_of_ble_eq_true rfl) (fun _ => rfl) (fun _ => rfl) ma_F0 ?_
            refine gx_aload_n hC dr_Mo_pin_54 rfl ?_
            refine gx_get hC dr_Mo_pin_55 lf_Mo_78 (by decide) rfl rfl ?_
            refine gx_if_eq (tgt := 63) hC dr_Mo_pin_58 (by decide) (fun hc15 => ?_) (fun hc15 => ?_)
            · exact absurd (show (2 : Int32) = 0 from hc15) (by decide)
            · refine gx_iconst (v := 0) hC dr_Mo_pin_61 (by decide) ?_
              obtain rfl := Option.some.inj h
              exact hR (by decide) (by decide) dr_Mo_pin_62 rfl ⟨rfl, rfl⟩
          · rw [if_neg (show ¬ (q12 = 0) from hc14)] at h
            refine gx_iconst (v := 0) hC dr_Mo_pin_46 (by decide) ?_
            refine gx_goto (tgt := 51) hC dr_Mo_pin_47 (by decide) ?_
            refine gx_put hC (by decide) dr_Mo_pin_51 lf_Mo_78 lp_Mo_thrown (by decide) rfl (Nat.le_of_ble_eq_true rfl) (fun _ => rfl) (fun _ => rfl) ma_F0 ?_
            refine gx_aload_n hC dr_Mo_pin_54 rfl ?_
            refine gx_get hC dr_Mo_pin_55 lf_Mo_78 (by decide) rfl rfl ?_
            refine gx_if_eq (tgt := 63) hC dr_Mo_pin_58 (by decide) (fun hc16 => ?_) (fun hc16 => ?_)
            · refine gx_iconst (v := 0) hC dr_Mo_pin_63 (by decide) ?_
              refine gx_istore hC dr_Mo_pin_64 (by decide) ?_
              refine gx_iconst (v := 0) hC dr_Mo_pin_66 (by decide) ?_
              refine gx_istore hC dr_Mo_pin_67 (by decide) ?_
              exact gx_lv [(0, gv_R 57), (1, gv_I p0), (2, gv_L p1), (4, gv_L p2), (6, gv_I p3), (8, gv_I 0), (9, gv_I 0)] ⟨rfl, rfl, rfl, rfl, rfl, rfl, rfl, trivial⟩ (gl_Mo_pin_69 hC hR 5000 _ _ _ _ _ _ _ h)
            · exact absurd (show ¬ ((0 : Int32) = 0) from hc16) (by decide)
      · exact absurd (show (1 : Int32) = 0 from hc7) (by decide)
def fn_Mo_target (p0 : Int32) (p1 : Int64) (p2 : Int64) (M : gq_M) : Option (Int32 × gq_M) := (fn_Mo_isNet p0 M).bind fun q1 => if q1 = 0 then some (0, (gs_f M 0 1)) else (fn_Mo_isPlace p1 p2 M).bind fun q5 => if q5 = 0 then some (0, (gs_f M 0 2)) else if 0 ≤ p0.toInt ∧ p0.toInt < ((200 : Nat) : Int) then if ((gq_i M 7) p0.toInt) = 0 then some (1, (gs_l (gs_l (gs_i (gs_f M 0 0) 7 (gz_u (gq_i M 7) p0.toInt 1)) 2 (gz_ul (gq_l M 2) p0.toInt p1)) 3 (gz_ul (gq_l M 3) p0.toInt p2))) else if ((gq_l M 2) p0.toInt) = p1 then if ((gq_l M 3) p0.toInt) = p2 then some (0, (gs_f M 0 0)) else some (1, (gs_l (gs_l (gs_i (gs_f M 0 0) 7 (gz_u (gq_i M 7) p0.toInt 1)) 2 (gz_ul (gq_l M 2) p0.toInt p1)) 3 (gz_ul (gq_l M 3) p0.toInt p2))) else some (1, (gs_l (gs_l (gs_i (gs_f M 0 0) 7 (gz_u (gq_i M 7) p0.toInt 1)) 2 (gz_ul (gq_l M 2) p0.toInt p1)) 3 (gz_ul (gq_l M 3) p0.toInt p2))) else none
set_option maxHeartbeats 4000000 in
set_option maxRecDepth 100000 in
theorem mt_Mo_target {l : Launch} {D : va_G} {ad : Nat → Nat} {ck : Nat → ClassId} {G : gq_M × (Int → Int64)} {p0 : Int32} {p1 : Int64} {p2 : Int64} {M : gq_M} {r : (Int32 × gq_M)} (h : fn_Mo_target p0 p1 p2 M = some r) : gm_I 81 81 l D ad ck yn_Mo_target bc_Mo_target 6 .boolean ({ frames := 1, cells := 0, slots := 0, locals := 23 } : Room) [gv_R 57, gv_I p0, gv_L p1, gv_L p2] (ca_A (G.1, M, G.2)) (fun z c2 => z = r.1 ∧ c2 = ca_A (G.1, r.2, G.2)) := by
  refine gm_I.of (by decide) (Nat.le_of_ble_eq_true rfl) (fun x hC hR => ?_)
  unfold fn_Mo_target at h
  refine gx_aload_n hC dr_Mo_target_0 rfl ?_
  refine gx_iload_n hC dr_Mo_target_1 rfl ?_
  obtain ⟨q1, e2, h⟩ := gb_of h
  refine gx_sI hC dr_Mo_target_2 lk_Mo_96 (mt_Mo_isNet e2) rfl (by decide) ⟨by decide, by decide⟩ ⟨by decide, by decide⟩ rfl (Nat.le_of_ble_eq_true rfl) (fun z c2 hp => ?_)
  obtain ⟨hp1, rfl⟩ := hp; obtain rfl := hp1.symm
  refine gx_if_ne (tgt := 12) hC dr_Mo_target_5 (by decide) (fun hc3 => ?_) (fun hc3 => ?_)
  · rw [if_neg (show ¬ (q1 = 0) from hc3)] at h
    refine gx_lload_n hC dr_Mo_target_12 rfl ?_
    refine gx_lload hC dr_Mo_target_13 rfl ?_
    obtain ⟨q5, e6, h⟩ := gb_of h
    refine gx_sI hC dr_Mo_target_15 lk_Mo_92 (mt_Mo_isPlace e6) rfl (by decide) ⟨by decide, by decide⟩ ⟨by decide, by decide⟩ rfl (Nat.le_of_ble_eq_true rfl) (fun z c2 hp => ?_)
    obtain ⟨hp1, rfl⟩ := hp; obtain rfl := hp1.symm
    refine gx_if_eq (tgt := 25) hC dr_Mo_target_18 (by decide) (fun hc7 => ?_) (fun hc7 => ?_)
    · rw [if_pos (show q5 = 0 from hc7)] at h
      refine gx_iconst (v := 2) hC dr_Mo_target_25 (by decide) ?_
      refine gx_put hC (by decide) dr_Mo_target_26 lf_Mo_78 lp_Mo_thrown (by decide) rfl (Nat.le_of_ble_eq_true rfl) (fun _ => rfl) (fun _ => rfl) ma_F0 ?_
      refine gx_aload_n hC dr_Mo_target_29 rfl ?_
      refine gx_get hC dr_Mo_target_30 lf_Mo_78 (by decide) rfl rfl ?_
      refine gx_if_ne (tgt := 68) hC dr_Mo_target_33 (by decide) (fun hc8 => ?_) (fun hc8 => ?_)
      · refine gx_iconst (v := 0) hC dr_Mo_target_68 (by decide) ?_
        obtain rfl := Option.some.inj h
        exact hR (by decide) (by decide) dr_Mo_target_69 rfl ⟨rfl, rfl⟩
      · exact absurd (show (2 : Int32) = 0 from hc8) (by decide)
    · rw [if_neg (show ¬ (q5 = 0) from hc7)] at h
      refine gx_iconst (v := 0) hC dr_Mo_target_21 (by decide) ?_
      refine gx_goto (tgt := 26) hC dr_Mo_target_22 (by decide) ?_
      refine gx_put hC (by decide) dr_Mo_target_26 lf_Mo_78 lp_Mo_thrown (by decide) rfl (Nat.le_of_ble_eq_true rfl) (fun _ => rfl) (fun _ => rfl) ma_F0 ?_
      refine gx_aload_n hC dr_Mo_target_29 rfl ?_
      refine gx_get hC dr_Mo_target_30 lf_Mo_78 (by decide) rfl rfl ?_
      refine gx_if_ne (tgt := 68) hC dr_Mo_target_33 (by decide) (fun hc9 => ?_) (fun hc9 => ?_)
      · exact absurd (show ¬ ((0 : Int32) = 0) from hc9) (by decide)
      · refine gx_aload_n hC dr_Mo_target_36 rfl ?_
        refine gx_get hC dr_Mo_target_37 lf_Mo_39 (by decide) rfl rfl ?_
        refine gx_iload_n hC dr_Mo_target_40 rfl ?_
        obtain ⟨hz10, h⟩ := gk_of h
        refine gx_zald (f := (gq_i M 7)) hC dr_Mo_target_41 (by decide) rfl hz10 ?_
        refine gx_if_eq (tgt := 70) hC dr_Mo_target_42 (by decide) (fun hc11 => ?_) (fun hc11 => ?_)
        · rw [if_pos (show ((gq_i M 7) p0.toInt) = 0 from hc11)] at h
          refine gx_aload_n hC dr_Mo_target_70 rfl ?_
          refine gx_get hC dr_Mo_target_71 lf_Mo_39 (by decide) rfl rfl ?_
          refine gx_iload_n hC dr_Mo_target_74 rfl ?_
          refine gx_iconst (v := 1) hC dr_Mo_target_75 (by decide) ?_
          refine gx_zast (f := (gq_i M 7)) hC (by decide) dr_Mo_target_76 (by decide) rfl hz10 (ma_I 7 (by decide)) ?_
          refine gx_aload_n hC dr_Mo_target_77 rfl ?_
          refine gx_get hC dr_Mo_target_78 lf_Mo_42 (by decide) rfl rfl ?_
          refine gx_iload_n hC dr_Mo_target_81 rfl ?_
          refine gx_lload_n hC dr_Mo_target_82 rfl ?_
          refine gx_last (f := (gq_l M 2)) hC (by decide) dr_Mo_target_83 (by decide) rfl hz10 (ma_L 2 (by decide)) ?_
          refine gx_aload_n hC dr_Mo_target_84 rfl ?_
          refine gx_get hC dr_Mo_target_85 lf_Mo_45 (by decide) rfl rfl ?_
          refine gx_iload_n hC dr_Mo_target_88 rfl ?_
          refine gx_lload hC dr_Mo_target_89 rfl ?_
          refine gx_last (f := (gq_l M 3)) hC (by decide) dr_Mo_target_91 (by decide) rfl hz10 (ma_L 3 (by decide)) ?_
          refine gx_iconst (v := 1) hC dr_Mo_target_92 (by decide) ?_
          obtain rfl := Option.some.inj h
          exact hR (by decide) (by decide) dr_Mo_target_93 rfl ⟨rfl, rfl⟩
        · rw [if_neg (show ¬ (((gq_i M 7) p0.toInt) = 0) from hc11)] at h
          refine gx_aload_n hC dr_Mo_target_45 rfl ?_
          refine gx_get hC dr_Mo_target_46 lf_Mo_42 (by decide) rfl rfl ?_
          refine gx_iload_n hC dr_Mo_target_49 rfl ?_
          refine gx_lald (f := (gq_l M 2)) hC dr_Mo_target_50 (by decide) rfl hz10 ?_
          refine gx_lload_n hC dr_Mo_target_51 rfl ?_
          refine gx_lcmp_ne (tgt := 70) hC dr_Mo_target_52 dr_Mo_target_53 (by decide) (fun hc12 => ?_) (fun hc12 => ?_)
          · rw [if_neg (show ¬ (((gq_l M 2) p0.toInt) = p1) from hc12)] at h
            refine gx_aload_n hC dr_Mo_target_70 rfl ?_
            refine gx_get hC dr_Mo_target_71 lf_Mo_39 (by decide) rfl rfl ?_
            refine gx_iload_n hC dr_Mo_target_74 rfl ?_
            refine gx_iconst (v := 1) hC dr_Mo_target_75 (by decide) ?_
            refine gx_zast (f := (gq_i M 7)) hC (by decide) dr_Mo_target_76 (by decide) rfl hz10 (ma_I 7 (by decide)) ?_
            refine gx_aload_n hC dr_Mo_target_77 rfl ?_
            refine gx_get hC dr_Mo_target_78 lf_Mo_42 (by decide) rfl rfl ?_
            refine gx_iload_n hC dr_Mo_target_81 rfl ?_
            refine gx_lload_n hC dr_Mo_target_82 rfl ?_
            refine gx_last (f := (gq_l M 2)) hC (by decide) dr_Mo_target_83 (by decide) rfl hz10 (ma_L 2 (by decide)) ?_
            refine gx_aload_n hC dr_Mo_target_84 rfl ?_
            refine gx_get hC dr_Mo_target_85 lf_Mo_45 (by decide) rfl rfl ?_
            refine gx_iload_n hC dr_Mo_target_88 rfl ?_
            refine gx_lload hC dr_Mo_target_89 rfl ?_
            refine gx_last (f := (gq_l M 3)) hC (by decide) dr_Mo_target_91 (by decide) rfl hz10 (ma_L 3 (by decide)) ?_
            refine gx_iconst (v := 1) hC dr_Mo_target_92 (by decide) ?_
            obtain rfl := Option.some.inj h
            exact hR (by decide) (by decide) dr_Mo_target_93 rfl ⟨rfl, rfl⟩
          · rw [if_pos (show ((gq_l M 2) p0.toInt) = p1 from hc12)] at h
            refine gx_aload_n hC dr_Mo_target_56 rfl ?_
            refine gx_get hC dr_Mo_target_57 lf_Mo_45 (by decide) rfl rfl ?_
            refine gx_iload_n hC dr_Mo_target_60 rfl ?_
            refine gx_lald (f := (gq_l M 3)) hC dr_Mo_target_61 (by decide) rfl hz10 ?_
            refine gx_lload hC dr_Mo_target_62 rfl ?_
            refine gx_lcmp_ne (tgt := 70) hC dr_Mo_target_64 dr_Mo_target_65 (by decide) (fun hc13 => ?_) (fun hc13 => ?_)
            · rw [if_neg (show ¬ (((gq_l M 3) p0.toInt) = p2) from hc13)] at h
              refine gx_aload_n hC dr_Mo_target_70 rfl ?_
              refine gx_get hC dr_Mo_target_71 lf_Mo_39 (by decide) rfl rfl ?_
              refine gx_iload_n hC dr_Mo_target_74 rfl ?_
              refine gx_iconst (v := 1) hC dr_Mo_target_75 (by decide) ?_
              refine gx_zast (f := (gq_i M 7)) hC (by decide) dr_Mo_target_76 (by decide) rfl hz10 (ma_I 7 (by decide)) ?_
              refine gx_aload_n hC dr_Mo_target_77 rfl ?_
              refine gx_get hC dr_Mo_target_78 lf_Mo_42 (by decide) rfl rfl ?_
              refine gx_iload_n hC dr_Mo_target_81 rfl ?_
              refine gx_lload_n hC dr_Mo_target_82 rfl ?_
              refine gx_last (f := (gq_l M 2)) hC (by decide) dr_Mo_target_83 (by decide) rfl hz10 (ma_L 2 (by decide)) ?_
              refine gx_aload_n hC dr_Mo_target_84 rfl ?_
              refine gx_get hC dr_Mo_target_85 lf_Mo_45 (by decide) rfl rfl ?_
              refine gx_iload_n hC dr_Mo_target_88 rfl ?_
              refine gx_lload hC dr_Mo_target_89 rfl ?_
              refine gx_last (f := (gq_l M 3)) hC (by decide) dr_Mo_target_91 (by decide) rfl hz10 (ma_L 3 (by decide)) ?_
              refine gx_iconst (v := 1) hC dr_Mo_target_92 (by decide) ?_
              obtain rfl := Option.some.inj h
              exact hR (by decide) (by decide) dr_Mo_target_93 rfl ⟨rfl, rfl⟩
            · rw [if_pos (show ((gq_l M 3) p0.toInt) = p2 from hc13)] at h
              refine gx_iconst (v := 0) hC dr_Mo_target_68 (by decide) ?_
              obtain rfl := Option.some.inj h
              exact hR (by decide) (by decide) dr_Mo_target_69 rfl ⟨rfl, rfl⟩
  · rw [if_pos (show q1 = 0 from hc3)] at h
    refine gx_iconst (v := 1) hC dr_Mo_target_8 (by decide) ?_
    refine gx_goto (tgt := 26) hC dr_Mo_target_9 (by decide) ?_
    refine gx_put hC (by decide) dr_Mo_target_26 lf_Mo_78 lp_Mo_thrown (by decide) rfl (Nat.le_of_ble_eq_true rfl) (fun _ => rfl) (fun _ => rfl) ma_F0 ?_
    refine gx_aload_n hC dr_Mo_target_29 rfl ?_
    refine gx_get hC dr_Mo_target_30 lf_Mo_78 (by decide) rfl rfl ?_
    refine gx_if_ne (tgt := 68) hC dr_Mo_target_33 (by decide) (fun hc4 => ?_) (fun hc4 => ?_)
    · refine gx_iconst (v := 0) hC dr_Mo_target_68 (by decide) ?_
      obtain rfl := Option.some.inj h
      exact hR (by decide) (by decide) dr_Mo_target_69 rfl ⟨rfl, rfl⟩
    · exact absurd (show (1 : Int32) = 0 from hc4) (by decide)
def fn_Mo_lock (p0 : Int32) (M : gq_M) : Option (Int32 × gq_M) := (fn_Mo_isPin p0 M).bind fun q1 => if q1 = 0 then some (0, (gs_f M 0 1)) else if 0 ≤ p0.toInt ∧ p0.toInt < ((80 : Nat) : Int) then if ((gq_i M 4) p0.toInt) = 0 then some (1, (gs_i (gs_f M 0 0) 4 (gz_u (gq_i M 4) p0.toInt 1))) else some (0, (gs_f M 0 0)) else none
set_option maxHeartbeats 4000000 in
set_option maxRecDepth 100000 in
theorem mt_Mo_lock {l : Launch} {D : va_G} {ad : Nat → Nat} {ck : Nat → ClassId} {G : gq_M × (Int → Int64)} {p0 : Int32} {M : gq_M} {r : (Int32 × gq_M)} (h : fn_Mo_lock p0 M = some r) : gm_I 81 81 l D ad ck yn_Mo_lock bc_Mo_lock 2 .boolean ({ frames := 1, cells := 0, slots := 0, locals := 21 } : Room) [gv_R 57, gv_I p0] (ca_A (G.1, M, G.2)) (fun z c2 => z = r.1 ∧ c2 = ca_A (G.1, r.2, G.2)) := by
  refine gm_I.of (by decide) (Nat.le_of_ble_eq_true rfl) (fun x hC hR => ?_)
  unfold fn_Mo_lock at h
  refine gx_aload_n hC dr_Mo_lock_0 rfl ?_
  refine gx_aload_n hC dr_Mo_lock_1 rfl ?_
  refine gx_iload_n hC dr_Mo_lock_2 rfl ?_
  obtain ⟨q1, e2, h⟩ := gb_of h
  refine gx_vI hC dr_Mo_lock_3 lk_Mo_100 (mt_Mo_isPin e2) rfl (by decide) ⟨by decide, by decide⟩ ⟨by decide, by decide⟩ (by decide) ⟨_, _, rfl⟩ rfl rfl (Nat.le_of_ble_eq_true rfl) (fun z c2 hp => ?_)
  obtain ⟨hp1, rfl⟩ := hp; obtain rfl := hp1.symm
  refine gx_if_eq (tgt := 13) hC dr_Mo_lock_6 (by decide) (fun hc3 => ?_) (fun hc3 => ?_)
  · rw [if_pos (show q1 = 0 from hc3)] at h
    refine gx_iconst (v := 1) hC dr_Mo_lock_13 (by decide) ?_
    refine gx_put hC (by decide) dr_Mo_lock_14 lf_Mo_78 lp_Mo_thrown (by decide) rfl (Nat.le_of_ble_eq_true rfl) (fun _ => rfl) (fun _ => rfl) ma_F0 ?_
    refine gx_aload_n hC dr_Mo_lock_17 rfl ?_
    refine gx_get hC dr_Mo_lock_18 lf_Mo_78 (by decide) rfl rfl ?_
    refine gx_if_ne (tgt := 33) hC dr_Mo_lock_21 (by decide) (fun hc4 => ?_) (fun hc4 => ?_)
    · refine gx_iconst (v := 0) hC dr_Mo_lock_33 (by decide) ?_
      obtain rfl := Option.some.inj h
      exact hR (by decide) (by decide) dr_Mo_lock_34 rfl ⟨rfl, rfl⟩
    · exact absurd (show (1 : Int32) = 0 from hc4) (by decide)
  · rw [if_neg (show ¬ (q1 = 0) from hc3)] at h
    refine gx_iconst (v := 0) hC dr_Mo_lock_9 (by decide) ?_
    refine gx_goto (tgt := 14) hC dr_Mo_lock_10 (by decide) ?_
    refine gx_put hC (by decide) dr_Mo_lock_14 lf_Mo_78 lp_Mo_thrown (by decide) rfl (Nat.le_of_ble_eq_true rfl) (fun _ => rfl) (fun _ => rfl) ma_F0 ?_
    refine gx_aload_n hC dr_Mo_lock_17 rfl ?_
    refine gx_get hC dr_Mo_lock_18 lf_Mo_78 (by decide) rfl rfl ?_
    refine gx_if_ne (tgt := 33) hC dr_Mo_lock_21 (by decide) (fun hc5 => ?_) (fun hc5 => ?_)
    · exact absurd (show ¬ ((0 : Int32) = 0) from hc5) (by decide)
    · refine gx_aload_n hC dr_Mo_lock_24 rfl ?_
      refine gx_get hC dr_Mo_lock_25 lf_Mo_29 (by decide) rfl rfl ?_
      refine gx_iload_n hC dr_Mo_lock_28 rfl ?_
      obtain ⟨hz6, h⟩ := gk_of h
      refine gx_zald (f := (gq_i M 4)) hC dr_Mo_lock_29 (by decide) rfl hz6 ?_
      refine gx_if_eq (tgt := 35) hC dr_Mo_lock_30 (by decide) (fun hc7 => ?_) (fun hc7 => ?_)
      · rw [if_pos (show ((gq_i M 4) p0.toInt) = 0 from hc7)] at h
        refine gx_aload_n hC dr_Mo_lock_35 rfl ?_
        refine gx_get hC dr_Mo_lock_36 lf_Mo_29 (by decide) rfl rfl ?_
        refine gx_iload_n hC dr_Mo_lock_39 rfl ?_
        refine gx_iconst (v := 1) hC dr_Mo_lock_40 (by decide) ?_
        refine gx_zast (f := (gq_i M 4)) hC (by decide) dr_Mo_lock_41 (by decide) rfl hz6 (ma_I 4 (by decide)) ?_
        refine gx_iconst (v := 1) hC dr_Mo_lock_42 (by decide) ?_
        obtain rfl := Option.some.inj h
        exact hR (by decide) (by decide) dr_Mo_lock_43 rfl ⟨rfl, rfl⟩
      · rw [if_neg (show ¬ (((gq_i M 4) p0.toInt) = 0) from hc7)] at h
        refine gx_iconst (v := 0) hC dr_Mo_lock_33 (by decide) ?_
        obtain rfl := Option.some.inj h
        exact hR (by decide) (by decide) dr_Mo_lock_34 rfl ⟨rfl, rfl⟩
def fn_Mo_pair (p0 : Int32) (p1 : Int32) (M : gq_M) : Option (Int32 × gq_M) := (fn_Mo_isPin p0 M).bind fun q1 => if q1 = 0 then some (0, (gs_f M 0 1)) else (fn_Mo_isPin p1 M).bind fun q5 => if q5 = 0 then some (0, (gs_f M 0 1)) else if p0 = p1 then some (0, (gs_f M 0 0)) else if 0 ≤ p0.toInt ∧ p0.toInt < ((80 : Nat) : Int) then if 0 ≤ p1.toInt ∧ p1.toInt < ((80 : Nat) : Int) then if ((gq_i M 0) p0.toInt) = ((gq_i M 0) p1.toInt) then if ((gq_i M 5) p0.toInt) = (-1) then if ((gq_i M 5) p1.toInt) = (-1) then some (1, (gs_i (gs_i (gs_i (gs_f M 0 0) 5 (gz_u (gq_i M 5) p0.toInt p1)) 5 (gz_u (gz_u (gq_i M 5) p0.toInt p1) p1.toInt p0)) 6 (gz_u (gq_i M 6) p0.toInt 1))) else some (0, (gs_f M 0 0)) else some (0, (gs_f M 0 0)) else some (0, (gs_f M 0 0)) else none else none
set_option maxHeartbeats 4000000 in
set_option maxRecDepth 100000 in
theorem mt_Mo_pair {l : Launch} {D : va_G} {ad : Nat → Nat} {ck : Nat → ClassId} {G : gq_M × (Int → Int64)} {p0 : Int32} {p1 : Int32} {M : gq_M} {r : (Int32 × gq_M)} (h : fn_Mo_pair p0 p1 M = some r) : gm_I 81 81 l D ad ck yn_Mo_pair bc_Mo_pair 3 .boolean ({ frames := 1, cells := 0, slots := 0, locals := 21 } : Room) [gv_R 57, gv_I p0, gv_I p1] (ca_A (G.1, M, G.2)) (fun z c2 => z = r.1 ∧ c2 = ca_A (G.1, r.2, G.2)) := by
  refine gm_I.of (by decide) (Nat.le_of_ble_eq_true rfl) (fun x hC hR => ?_)
  unfold fn_Mo_pair at h
  refine gx_aload_n hC dr_Mo_pair_0 rfl ?_
  refine gx_aload_n hC dr_Mo_pair_1 rfl ?_
  refine gx_iload_n hC dr_Mo_pair_2 rfl ?_
  obtain ⟨q1, e2, h⟩ := gb_of h
  refine gx_vI hC dr_Mo_pair_3 lk_Mo_100 (mt_Mo_isPin e2) rfl (by decide) ⟨by decide, by decide⟩ ⟨by decide, by decide⟩ (by decide) ⟨_, _, rfl⟩ rfl rfl (Nat.le_of_ble_eq_true rfl) (fun z c2 hp => ?_)
  obtain ⟨hp1, rfl⟩ := hp; obtain rfl := hp1.symm
  refine gx_if_eq (tgt := 21) hC dr_Mo_pair_6 (by decide) (fun hc3 => ?_) (fun hc3 => ?_)
  · rw [if_pos (show q1 = 0 from hc3)] at h
    refine gx_iconst (v := 1) hC dr_Mo_pair_21 (by decide) ?_
    refine gx_put hC (by decide) dr_Mo_pair_22 lf_Mo_78 lp_Mo_thrown (by decide) rfl (Nat.le_of_ble_eq_true rfl) (fun _ => rfl) (fun _ => rfl) ma_F0 ?_
    refine gx_aload_n hC dr_Mo_pair_25 rfl ?_
    refine gx_get hC dr_Mo_pair_26 lf_Mo_78 (by decide) rfl rfl ?_
    refine gx_if_ne (tgt := 72) hC dr_Mo_pair_29 (by decide) (fun hc4 => ?_) (fun hc4 => ?_)
    · refine gx_iconst (v := 0) hC dr_Mo_pair_72 (by decide) ?_
      obtain rfl := Option.some.inj h
      exact hR (by decide) (by decide) dr_Mo_pair_73 rfl ⟨rfl, rfl⟩
    · exact absurd (show (1 : Int32) = 0 from hc4) (by decide)
  · rw [if_neg (show ¬ (q1 = 0) from hc3)] at h
    refine gx_aload_n hC dr_Mo_pair_9 rfl ?_
    refine gx_iload_n hC dr_Mo_pair_10 rfl ?_
    obtain ⟨q5, e6, h⟩ := gb_of h
    refine gx_vI hC dr_Mo_pair_11 lk_Mo_100 (mt_Mo_isPin e6) rfl (by decide) ⟨by decide, by decide⟩ ⟨by decide, by decide⟩ (by decide) ⟨_, _, rfl⟩ rfl rfl (Nat.le_of_ble_eq_true rfl) (fun z c2 hp => ?_)
    obtain ⟨hp1, rfl⟩ := hp; obtain rfl := hp1.symm
    refine gx_if_eq (tgt := 21) hC dr_Mo_pair_14 (by decide) (fun hc7 => ?_) (fun hc7 => ?_)
    · rw [if_pos (show q5 = 0 from hc7)] at h
      refine gx_iconst (v := 1) hC dr_Mo_pair_21 (by decide) ?_
      refine gx_put hC (by decide) dr_Mo_pair_22 lf_Mo_78 lp_Mo_thrown (by decide) rfl (Nat.le_of_ble_eq_true rfl) (fun _ => rfl) (fun _ => rfl) ma_F0 ?_
      refine gx_aload_n hC dr_Mo_pair_25 rfl ?_
      refine gx_get hC dr_Mo_pair_26 lf_Mo_78 (by decide) rfl rfl ?_
      refine gx_if_ne (tgt := 72) hC dr_Mo_pair_29 (by decide) (fun hc8 => ?_) (fun hc8 => ?_)
      · refine gx_iconst (v := 0) hC dr_Mo_pair_72 (by decide) ?_
        obtain rfl := Option.some.inj h
        exact hR (by decide) (by decide) dr_Mo_pair_73 rfl ⟨rfl, rfl⟩
      · exact absurd (show (1 : Int32) = 0 from hc8) (by decide)
    · rw [if_neg (show ¬ (q5 = 0) from hc7)] at h
      refine gx_iconst (v := 0) hC dr_Mo_pair_17 (by decide) ?_
      refine gx_goto (tgt := 22) hC dr_Mo_pair_18 (by decide) ?_
      refine gx_put hC (by decide) dr_Mo_pair_22 lf_Mo_78 lp_Mo_thrown (by decide) rfl (Nat.le_of_ble_eq_true rfl) (fun _ => rfl) (fun _ => rfl) ma_F0 ?_
      refine gx_aload_n hC dr_Mo_pair_25 rfl ?_
      refine gx_get hC dr_Mo_pair_26 lf_Mo_78 (by decide) rfl rfl ?_
      refine gx_if_ne (tgt := 72) hC dr_Mo_pair_29 (by decide) (fun hc9 => ?_) (fun hc9 => ?_)
      · exact absurd (show ¬ ((0 : Int32) = 0) from hc9) (by decide)
      · refine gx_iload_n hC dr_Mo_pair_32 rfl ?_
        refine gx_iload_n hC dr_Mo_pair_33 rfl ?_
        refine gx_icmp_eq (tgt := 72) hC dr_Mo_pair_34 (by decide) (fun hc10 => ?_) (fun hc10 => ?_)
        · rw [if_pos (show p0 = p1 from hc10)] at h
          refine gx_iconst (v := 0) hC dr_Mo_pair_72 (by decide) ?_
          obtain rfl := Option.some.inj h
          exact hR (by decide) (by decide) dr_Mo_pair_73 rfl ⟨rfl, rfl⟩
        · rw [if_neg (show ¬ (p0 = p1) from hc10)] at h
          refine gx_aload_n hC dr_Mo_pair_37 rfl ?_
          refine gx_get hC dr_Mo_pair_38 lf_Mo_7 (by decide) rfl rfl ?_
          refine gx_iload_n hC dr_Mo_pair_41 rfl ?_
          obtain ⟨hz11, h⟩ := gk_of h
          refine gx_iald (f := (gq_i M 0)) hC dr_Mo_pair_42 (by decide) rfl hz11 ?_
          refine gx_aload_n hC dr_Mo_pair_43 rfl ?_
          refine gx_get hC dr_Mo_pair_44 lf_Mo_7 (by decide) rfl rfl ?_
          refine gx_iload_n hC dr_Mo_pair_47 rfl ?_
          obtain ⟨hz12, h⟩ := gk_of h
          refine gx_iald (f := (gq_i M 0)) hC dr_Mo_pair_48 (by decide) rfl hz12 ?_
          refine gx_icmp_ne (tgt := 72) hC dr_Mo_pair_49 (by decide) (fun hc13 => ?_) (fun hc13 => ?_)
          · rw [if_neg (show ¬ (((gq_i M 0) p0.toInt) = ((gq_i M 0) p1.toInt)) from hc13)] at h
            refine gx_iconst (v := 0) hC dr_Mo_pair_72 (by decide) ?_
            obtain rfl := Option.some.inj h
            exact hR (by decide) (by decide) dr_Mo_pair_73 rfl ⟨rfl, rfl⟩
          · rw [if_pos (show ((gq_i M 0) p0.toInt) = ((gq_i M 0) p1.toInt) from hc13)] at h
            refine gx_aload_n hC dr_Mo_pair_52 rfl ?_
            refine gx_get hC dr_Mo_pair_53 lf_Mo_33 (by decide) rfl rfl ?_
            refine gx_iload_n hC dr_Mo_pair_56 rfl ?_
            refine gx_iald (f := (gq_i M 5)) hC dr_Mo_pair_57 (by decide) rfl hz11 ?_
            refine gx_iconst (v := (-1)) hC dr_Mo_pair_58 (by decide) ?_
            refine gx_icmp_ne (tgt := 72) hC dr_Mo_pair_59 (by decide) (fun hc14 => ?_) (fun hc14 => ?_)
            · rw [if_neg (show ¬ (((gq_i M 5) p0.toInt) = (-1)) from hc14)] at h
              refine gx_iconst (v := 0) hC dr_Mo_pair_72 (by decide) ?_
              obtain rfl := Option.some.inj h
              exact hR (by decide) (by decide) dr_Mo_pair_73 rfl ⟨rfl, rfl⟩
            · rw [if_pos (show ((gq_i M 5) p0.toInt) = (-1) from hc14)] at h
              refine gx_aload_n hC dr_Mo_pair_62 rfl ?_
              refine gx_get hC dr_Mo_pair_63 lf_Mo_33 (by decide) rfl rfl ?_
              refine gx_iload_n hC dr_Mo_pair_66 rfl ?_
              refine gx_iald (f := (gq_i M 5)) hC dr_Mo_pair_67 (by decide) rfl hz12 ?_
              refine gx_iconst (v := (-1)) hC dr_Mo_pair_68 (by decide) ?_
              refine gx_icmp_eq (tgt := 74) hC dr_Mo_pair_69 (by decide) (fun hc15 => ?_) (fun hc15 => ?_)
              · rw [if_pos (show ((gq_i M 5) p1.toInt) = (-1) from hc15)] at h
                refine gx_aload_n hC dr_Mo_pair_74 rfl ?_
                refine gx_get hC dr_Mo_pair_75 lf_Mo_33 (by decide) rfl rfl ?_
                refine gx_iload_n hC dr_Mo_pair_78 rfl ?_
                refine gx_iload_n hC dr_Mo_pair_79 rfl ?_
                refine gx_iast (f := (gq_i M 5)) hC (by decide) dr_Mo_pair_80 (by decide) rfl hz11 (ma_I 5 (by decide)) ?_
                refine gx_aload_n hC dr_Mo_pair_81 rfl ?_
                refine gx_get hC dr_Mo_pair_82 lf_Mo_33 (by decide) rfl rfl ?_
                refine gx_iload_n hC dr_Mo_pair_85 rfl ?_
                refine gx_iload_n hC dr_Mo_pair_86 rfl ?_
                refine gx_iast (f := (gz_u (gq_i M 5) p0.toInt p1)) hC (by decide) dr_Mo_pair_87 (by decide) rfl hz12 (ma_I 5 (by decide)) ?_
                refine gx_aload_n hC dr_Mo_pair_88 rfl ?_
                refine gx_get hC dr_Mo_pair_89 lf_Mo_36 (by decide) rfl rfl ?_
                refine gx_iload_n hC dr_Mo_pair_92 rfl ?_
                refine gx_iconst (v := 1) hC dr_Mo_pair_93 (by decide) ?_
                refine gx_zast (f := (gq_i M 6)) hC (by decide) dr_Mo_pair_94 (by decide) rfl hz11 (ma_I 6 (by decide)) ?_
                refine gx_iconst (v := 1) hC dr_Mo_pair_95 (by decide) ?_
                obtain rfl := Option.some.inj h
                exact hR (by decide) (by decide) dr_Mo_pair_96 rfl ⟨rfl, rfl⟩
              · rw [if_neg (show ¬ (((gq_i M 5) p1.toInt) = (-1)) from hc15)] at h
                refine gx_iconst (v := 0) hC dr_Mo_pair_72 (by decide) ?_
                obtain rfl := Option.some.inj h
                exact hR (by decide) (by decide) dr_Mo_pair_73 rfl ⟨rfl, rfl⟩
def fn_Mo_bank (p0 : Int32) (p1 : Int32) (M : gq_M) : Option (Int32 × gq_M) := (fn_Mo_isPin p0 M).bind fun q1 => if q1 = 0 then some (0, (gs_f M 0 1)) else if p1 < 0 then some (0, (gs_f M 0 2)) else if p1 ≤ 15 then if 0 ≤ p0.toInt ∧ p0.toInt < ((80 : Nat) : Int) then if ((gq_i M 1) p0.toInt) = p1 then some (0, (gs_f M 0 0)) else some (1, (gs_i (gs_f M 0 0) 1 (gz_u (gq_i M 1) p0.toInt p1))) else none else some (0, (gs_f M 0 2))
set_option maxHeartbeats 4000000 in
set_option maxRecDepth 100000 in
theorem mt_Mo_bank {l : Launch} {D : va_G} {ad : Nat → Nat} {ck : Nat → ClassId} {G : gq_M × (Int → Int64)} {p0 : Int32} {p1 : Int32} {M : gq_M} {r : (Int32 × gq_M)} (h : fn_Mo_bank p0 p1 M = some r) : gm_I 81 81 l D ad ck yn_Mo_bank bc_Mo_bank 3 .boolean ({ frames := 1, cells := 0, slots := 0, locals := 21 } : Room) [gv_R 57, gv_I p0, gv_I p1] (ca_A (G.1, M, G.2)) (fun z c2 => z = r.1 ∧ c2 = ca_A (G.1, r.2, G.2)) := by
  refine gm_I.of (by decide) (Nat.le_of_ble_eq_true rfl) (fun x hC hR => ?_)
  unfold fn_Mo_bank at h
  refine gx_aload_n hC dr_Mo_bank_0 rfl ?_
  refine gx_aload_n hC dr_Mo_bank_1 rfl ?_
  refine gx_iload_n hC dr_Mo_bank_2 rfl ?_
  obtain ⟨q1, e2, h⟩ := gb_of h
  refine gx_vI hC dr_Mo_bank_3 lk_Mo_100 (mt_Mo_isPin e2) rfl (by decide) ⟨by decide, by decide⟩ ⟨by decide, by decide⟩ (by decide) ⟨_, _, rfl⟩ rfl rfl (Nat.le_of_ble_eq_true rfl) (fun z c2 hp => ?_)
  obtain ⟨hp1, rfl⟩ := hp; obtain rfl := hp1.symm
  refine gx_if_ne (tgt := 13) hC dr_Mo_bank_6 (by decide) (fun hc3 => ?_) (fun hc3 => ?_)
  · rw [if_neg (show ¬ (q1 = 0) from hc3)] at h
    refine gx_iload_n hC dr_Mo_bank_13 rfl ?_
    refine gx_if_lt (tgt := 23) hC dr_Mo_bank_14 (by decide) (fun hc5 => ?_) (fun hc5 => ?_)
    · rw [if_pos (show p1 < 0 from hc5)] at h
      refine gx_iconst (v := 2) hC dr_Mo_bank_23 (by decide) ?_
      refine gx_goto (tgt := 28) hC dr_Mo_bank_24 (by decide) ?_
      refine gx_put hC (by decide) dr_Mo_bank_28 lf_Mo_78 lp_Mo_thrown (by decide) rfl (Nat.le_of_ble_eq_true rfl) (fun _ => rfl) (fun _ => rfl) ma_F0 ?_
      refine gx_aload_n hC dr_Mo_bank_31 rfl ?_
      refine gx_get hC dr_Mo_bank_32 lf_Mo_78 (by decide) rfl rfl ?_
      refine gx_if_ne (tgt := 48) hC dr_Mo_bank_35 (by decide) (fun hc6 => ?_) (fun hc6 => ?_)
      · refine gx_iconst (v := 0) hC dr_Mo_bank_48 (by decide) ?_
        obtain rfl := Option.some.inj h
        exact hR (by decide) (by decide) dr_Mo_bank_49 rfl ⟨rfl, rfl⟩
      · exact absurd (show (2 : Int32) = 0 from hc6) (by decide)
    · rw [if_neg (show ¬ (p1 < 0) from hc5)] at h
      refine gx_iload_n hC dr_Mo_bank_17 rfl ?_
      refine gx_bipush (v := 15) hC dr_Mo_bank_18 (by decide) ?_
      refine gx_icmp_le (tgt := 27) hC dr_Mo_bank_20 (by decide) (fun hc7 => ?_) (fun hc7 => ?_)
      · rw [if_pos (show p1 ≤ 15 from hc7)] at h
        refine gx_iconst (v := 0) hC dr_Mo_bank_27 (by decide) ?_
        refine gx_put hC (by decide) dr_Mo_bank_28 lf_Mo_78 lp_Mo_thrown (by decide) rfl (Nat.le_of_ble_eq_true rfl) (fun _ => rfl) (fun _ => rfl) ma_F0 ?_
        refine gx_aload_n hC dr_Mo_bank_31 rfl ?_
        refine gx_get hC dr_Mo_bank_32 lf_Mo_78 (by decide) rfl rfl ?_
        refine gx_if_ne (tgt := 48) hC dr_Mo_bank_35 (by decide) (fun hc8 => ?_) (fun hc8 => ?_)
        · exact absurd (show ¬ ((0 : Int32) = 0) from hc8) (by decide)
        · refine gx_aload_n hC dr_Mo_bank_38 rfl ?_
          refine gx_get hC dr_Mo_bank_39 lf_Mo_20 (by decide) rfl rfl ?_
          refine gx_iload_n hC dr_Mo_bank_42 rfl ?_
          obtain ⟨hz9, h⟩ := gk_of h
          refine gx_iald (f := (gq_i M 1)) hC dr_Mo_bank_43 (by decide) rfl hz9 ?_
          refine gx_iload_n hC dr_Mo_bank_44 rfl ?_
          refine gx_icmp_ne (tgt := 50) hC dr_Mo_bank_45 (by decide) (fun hc10 => ?_) (fun hc10 => ?_)
          · rw [if_neg (show ¬ (((gq_i M 1) p0.toInt) = p1) from hc10)] at h
            refine gx_aload_n hC dr_Mo_bank_50 rfl ?_
            refine gx_get hC dr_Mo_bank_51 lf_Mo_20 (by decide) rfl rfl ?_
            refine gx_iload_n hC dr_Mo_bank_54 rfl ?_
            refine gx_iload_n hC dr_Mo_bank_55 rfl ?_
            refine gx_iast (f := (gq_i M 1)) hC (by decide) dr_Mo_bank_56 (by decide) rfl hz9 (ma_I 1 (by decide)) ?_
            refine gx_iconst (v := 1) hC dr_Mo_bank_57 (by decide) ?_
            obtain rfl := Option.some.inj h
            exact hR (by decide) (by decide) dr_Mo_bank_58 rfl ⟨rfl, rfl⟩
          · rw [if_pos (show ((gq_i M 1) p0.toInt) = p1 from hc10)] at h
            refine gx_iconst (v := 0) hC dr_Mo_bank_48 (by decide) ?_
            obtain rfl := Option.some.inj h
            exact hR (by decide) (by decide) dr_Mo_bank_49 rfl ⟨rfl, rfl⟩
      · rw [if_neg (show ¬ (p1 ≤ 15) from hc7)] at h
        refine gx_iconst (v := 2) hC dr_Mo_bank_23 (by decide) ?_
        refine gx_goto (tgt := 28) hC dr_Mo_bank_24 (by decide) ?_
        refine gx_put hC (by decide) dr_Mo_bank_28 lf_Mo_78 lp_Mo_thrown (by decide) rfl (Nat.le_of_ble_eq_true rfl) (fun _ => rfl) (fun _ => rfl) ma_F0 ?_
        refine gx_aload_n hC dr_Mo_bank_31 rfl ?_
        refine gx_get hC dr_Mo_bank_32 lf_Mo_78 (by decide) rfl rfl ?_
        refine gx_if_ne (tgt := 48) hC dr_Mo_bank_35 (by decide) (fun hc11 => ?_) (fun hc11 => ?_)
        · refine gx_iconst (v := 0) hC dr_Mo_bank_48 (by decide) ?_
          obtain rfl := Option.some.inj h
          exact hR (by decide) (by decide) dr_Mo_bank_49 rfl ⟨rfl, rfl⟩
        · exact absurd (show (2 : Int32) = 0 from hc11) (by decide)
  · rw [if_pos (show q1 = 0 from hc3)] at h
    refine gx_iconst (v := 1) hC dr_Mo_bank_9 (by decide) ?_
    refine gx_goto (tgt := 28) hC dr_Mo_bank_10 (by decide) ?_
    refine gx_put hC (by decide) dr_Mo_bank_28 lf_Mo_78 lp_Mo_thrown (by decide) rfl (Nat.le_of_ble_eq_true rfl) (fun _ => rfl) (fun _ => rfl) ma_F0 ?_
    refine gx_aload_n hC dr_Mo_bank_31 rfl ?_
    refine gx_get hC dr_Mo_bank_32 lf_Mo_78 (by decide) rfl rfl ?_
    refine gx_if_ne (tgt := 48) hC dr_Mo_bank_35 (by decide) (fun hc4 => ?_) (fun hc4 => ?_)
    · refine gx_iconst (v := 0) hC dr_Mo_bank_48 (by decide) ?_
      obtain rfl := Option.some.inj h
      exact hR (by decide) (by decide) dr_Mo_bank_49 rfl ⟨rfl, rfl⟩
    · exact absurd (show (1 : Int32) = 0 from hc4) (by decide)
def fn_Mo_needs (p0 : Int32) (p1 : Int32) (M : gq_M) : Option (Int32 × gq_M) := (fn_Mo_isNet p0 M).bind fun q1 => if q1 = 0 then some (0, (gs_f M 0 1)) else if p1 < (-1) then some (0, (gs_f M 0 2)) else if p1 ≤ 15 then if 0 ≤ p0.toInt ∧ p0.toInt < ((200 : Nat) : Int) then if ((gq_i M 8) p0.toInt) = (p1 + 1) then some (0, (gs_f M 0 0)) else some (1, (gs_i (gs_f M 0 0) 8 (gz_u (gq_i M 8) p0.toInt (p1 + 1)))) else none else some (0, (gs_f M 0 2))
set_option maxHeartbeats 4000000 in
set_option maxRecDepth 100000 in
theorem mt_Mo_needs {l : Launch} {D : va_G} {ad : Nat → Nat} {ck : Nat → ClassId} {G : gq_M × (Int → Int64)} {p0 : Int32} {p1 : Int32} {M : gq_M} {r : (Int32 × gq_M)} (h : fn_Mo_needs p0 p1 M = some r) : gm_I 81 81 l D ad ck yn_Mo_needs bc_Mo_needs 3 .boolean ({ frames := 1, cells := 0, slots := 0, locals := 20 } : Room) [gv_R 57, gv_I p0, gv_I p1] (ca_A (G.1, M, G.2)) (fun z c2 => z = r.1 ∧ c2 = ca_A (G.1, r.2, G.2)) := by
  refine gm_I.of (by decide) (Nat.le_of_ble_eq_true rfl) (fun x hC hR => ?_)
  unfold fn_Mo_needs at h
  refine gx_aload_n hC dr_Mo_needs_0 rfl ?_
  refine gx_iload_n hC dr_Mo_needs_1 rfl ?_
  obtain ⟨q1, e2, h⟩ := gb_of h
  refine gx_sI hC dr_Mo_needs_2 lk_Mo_96 (mt_Mo_isNet e2) rfl (by decide) ⟨by decide, by decide⟩ ⟨by decide, by decide⟩ rfl (Nat.le_of_ble_eq_true rfl) (fun z c2 hp => ?_)
  obtain ⟨hp1, rfl⟩ := hp; obtain rfl := hp1.symm
  refine gx_if_ne (tgt := 12) hC dr_Mo_needs_5 (by decide) (fun hc3 => ?_) (fun hc3 => ?_)
  · rw [if_neg (show ¬ (q1 = 0) from hc3)] at h
    refine gx_iload_n hC dr_Mo_needs_12 rfl ?_
    refine gx_iconst (v := (-1)) hC dr_Mo_needs_13 (by decide) ?_
    refine gx_icmp_lt (tgt := 23) hC dr_Mo_needs_14 (by decide) (fun hc5 => ?_) (fun hc5 => ?_)
    · rw [if_pos (show p1 < (-1) from hc5)] at h
      refine gx_iconst (v := 2) hC dr_Mo_needs_23 (by decide) ?_
      refine gx_goto (tgt := 28) hC dr_Mo_needs_24 (by decide) ?_
      refine gx_put hC (by decide) dr_Mo_needs_28 lf_Mo_78 lp_Mo_thrown (by decide) rfl (Nat.le_of_ble_eq_true rfl) (fun _ => rfl) (fun _ => rfl) ma_F0 ?_
      refine gx_aload_n hC dr_Mo_needs_31 rfl ?_
      refine gx_get hC dr_Mo_needs_32 lf_Mo_78 (by decide) rfl rfl ?_
      refine gx_if_ne (tgt := 50) hC dr_Mo_needs_35 (by decide) (fun hc6 => ?_) (fun hc6 => ?_)
      · refine gx_iconst (v := 0) hC dr_Mo_needs_50 (by decide) ?_
        obtain rfl := Option.some.inj h
        exact hR (by decide) (by decide) dr_Mo_needs_51 rfl ⟨rfl, rfl⟩
      · exact absurd (show (2 : Int32) = 0 from hc6) (by decide)
    · rw [if_neg (show ¬ (p1 < (-1)) from hc5)] at h
      refine gx_iload_n hC dr_Mo_needs_17 rfl ?_
      refine gx_bipush (v := 15) hC dr_Mo_needs_18 (by decide) ?_
      refine gx_icmp_le (tgt := 27) hC dr_Mo_needs_20 (by decide) (fun hc7 => ?_) (fun hc7 => ?_)
      · rw [if_pos (show p1 ≤ 15 from hc7)] at h
        refine gx_iconst (v := 0) hC dr_Mo_needs_27 (by decide) ?_
        refine gx_put hC (by decide) dr_Mo_needs_28 lf_Mo_78 lp_Mo_thrown (by decide) rfl (Nat.le_of_ble_eq_true rfl) (fun _ => rfl) (fun _ => rfl) ma_F0 ?_
        refine gx_aload_n hC dr_Mo_needs_31 rfl ?_
        refine gx_get hC dr_Mo_needs_32 lf_Mo_78 (by decide) rfl rfl ?_
        refine gx_if_ne (tgt := 50) hC dr_Mo_needs_35 (by decide) (fun hc8 => ?_) (fun hc8 => ?_)
        · exact absurd (show ¬ ((0 : Int32) = 0) from hc8) (by decide)
        · refine gx_aload_n hC dr_Mo_needs_38 rfl ?_
          refine gx_get hC dr_Mo_needs_39 lf_Mo_48 (by decide) rfl rfl ?_
          refine gx_iload_n hC dr_Mo_needs_42 rfl ?_
          obtain ⟨hz9, h⟩ := gk_of h
          refine gx_iald (f := (gq_i M 8)) hC dr_Mo_needs_43 (by decide) rfl hz9 ?_
          refine gx_iload_n hC dr_Mo_needs_44 rfl ?_
          refine gx_iconst (v := 1) hC dr_Mo_needs_45 (by decide) ?_
          refine gx_iadd hC dr_Mo_needs_46 ?_
          refine gx_icmp_ne (tgt := 52) hC dr_Mo_needs_47 (by decide) (fun hc10 => ?_) (fun hc10 => ?_)
          · rw [if_neg (show ¬ (((gq_i M 8) p0.toInt) = (p1 + 1)) from hc10)] at h
            refine gx_aload_n hC dr_Mo_needs_52 rfl ?_
            refine gx_get hC dr_Mo_needs_53 lf_Mo_48 (by decide) rfl rfl ?_
            refine gx_iload_n hC dr_Mo_needs_56 rfl ?_
            refine gx_iload_n hC dr_Mo_needs_57 rfl ?_
            refine gx_iconst (v := 1) hC dr_Mo_needs_58 (by decide) ?_
            refine gx_iadd hC dr_Mo_needs_59 ?_
            refine gx_iast (f := (gq_i M 8)) hC (by decide) dr_Mo_needs_60 (by decide) rfl hz9 (ma_I 8 (by decide)) ?_
            refine gx_iconst (v := 1) hC dr_Mo_needs_61 (by decide) ?_
            obtain rfl := Option.some.inj h
            exact hR (by decide) (by decide) dr_Mo_needs_62 rfl ⟨rfl, rfl⟩
          · rw [if_pos (show ((gq_i M 8) p0.toInt) = (p1 + 1) from hc10)] at h
            refine gx_iconst (v := 0) hC dr_Mo_needs_50 (by decide) ?_
            obtain rfl := Option.some.inj h
            exact hR (by decide) (by decide) dr_Mo_needs_51 rfl ⟨rfl, rfl⟩
      · rw [if_neg (show ¬ (p1 ≤ 15) from hc7)] at h
        refine gx_iconst (v := 2) hC dr_Mo_needs_23 (by decide) ?_
        refine gx_goto (tgt := 28) hC dr_Mo_needs_24 (by decide) ?_
        refine gx_put hC (by decide) dr_Mo_needs_28 lf_Mo_78 lp_Mo_thrown (by decide) rfl (Nat.le_of_ble_eq_true rfl) (fun _ => rfl) (fun _ => rfl) ma_F0 ?_
        refine gx_aload_n hC dr_Mo_needs_31 rfl ?_
        refine gx_get hC dr_Mo_needs_32 lf_Mo_78 (by decide) rfl rfl ?_
        refine gx_if_ne (tgt := 50) hC dr_Mo_needs_35 (by decide) (fun hc11 => ?_) (fun hc11 => ?_)
        · refine gx_iconst (v := 0) hC dr_Mo_needs_50 (by decide) ?_
          obtain rfl := Option.some.inj h
          exact hR (by decide) (by decide) dr_Mo_needs_51 rfl ⟨rfl, rfl⟩
        · exact absurd (show (2 : Int32) = 0 from hc11) (by decide)
  · rw [if_pos (show q1 = 0 from hc3)] at h
    refine gx_iconst (v := 1) hC dr_Mo_needs_8 (by decide) ?_
    refine gx_goto (tgt := 28) hC dr_Mo_needs_9 (by decide) ?_
    refine gx_put hC (by decide) dr_Mo_needs_28 lf_Mo_78 lp_Mo_thrown (by decide) rfl (Nat.le_of_ble_eq_true rfl) (fun _ => rfl) (fun _ => rfl) ma_F0 ?_
    refine gx_aload_n hC dr_Mo_needs_31 rfl ?_
    refine gx_get hC dr_Mo_needs_32 lf_Mo_78 (by decide) rfl rfl ?_
    refine gx_if_ne (tgt := 50) hC dr_Mo_needs_35 (by decide) (fun hc4 => ?_) (fun hc4 => ?_)
    · refine gx_iconst (v := 0) hC dr_Mo_needs_50 (by decide) ?_
      obtain rfl := Option.some.inj h
      exact hR (by decide) (by decide) dr_Mo_needs_51 rfl ⟨rfl, rfl⟩
    · exact absurd (show (1 : Int32) = 0 from hc4) (by decide)
def fn_Mo_size (p0 : Int64) (M : gq_M) : Option Int64 := if (Int64.ofNat (0 : Fin 2).val) ≤ p0 then some p0 else some ((Int64.ofNat (0 : Fin 2).val) - p0)
set_option maxHeartbeats 4000000 in
set_option maxRecDepth 100000 in
theorem mt_Mo_size {l : Launch} {D : va_G} {ad : Nat → Nat} {ck : Nat → ClassId} {G : gq_M × (Int → Int64)} {p0 : Int64} {M : gq_M} {r : Int64} (h : fn_Mo_size p0 M = some r) : gm_J 81 0 l D ad ck yn_Mo_size bc_Mo_size 2 ({ frames := 0, cells := 0, slots := 0, locals := 0 } : Room) [gv_L p0] (ca_A (G.1, M, G.2)) (fun z c2 => z = r ∧ c2 = ca_A (G.1, M, G.2)) := by
  refine gm_J.of (by decide) (Nat.le_of_ble_eq_true rfl) (fun x hC hR => ?_)
  unfold fn_Mo_size at h
  refine gx_lload_n hC dr_Mo_size_0 rfl ?_
  refine gx_lconst hC dr_Mo_size_1 ?_
  refine gx_lcmp_ge (tgt := 12) hC dr_Mo_size_2 dr_Mo_size_3 (by decide) (fun hc1 => ?_) (fun hc1 => ?_)
  · rw [if_pos (show (Int64.ofNat (0 : Fin 2).val) ≤ p0 from hc1)] at h
    refine gx_lload_n hC dr_Mo_size_12 rfl ?_
    obtain rfl := Option.some.inj h
    exact hR (by decide) (by decide) dr_Mo_size_13 ⟨rfl, rfl⟩
  · rw [if_neg (show ¬ ((Int64.ofNat (0 : Fin 2).val) ≤ p0) from hc1)] at h
    refine gx_lconst hC dr_Mo_size_6 ?_
    refine gx_lload_n hC dr_Mo_size_7 rfl ?_
    refine gx_lsub hC dr_Mo_size_8 ?_
    refine gx_goto (tgt := 13) hC dr_Mo_size_9 (by decide) ?_
    obtain rfl := Option.some.inj h
    exact hR (by decide) (by decide) dr_Mo_size_13 ⟨rfl, rfl⟩
def fn_Mo_cost (p0 : Int32) (p1 : Int32) (M : gq_M) : Option Int64 := if 0 ≤ p0.toInt ∧ p0.toInt < ((200 : Nat) : Int) then if ((gq_i M 7) p0.toInt) = 0 then if ((gq_i M 8) p0.toInt) ≤ 0 then some (Int64.ofNat (0 : Fin 2).val) else if 0 ≤ p1.toInt ∧ p1.toInt < ((80 : Nat) : Int) then if ((gq_i M 8) p0.toInt) = (((gq_i M 1) p1.toInt) + 1) then some (Int64.ofNat (0 : Fin 2).val) else some ((Int64.ofNat (0 : Fin 2).val) + 1000000000) else none else if 0 ≤ p1.toInt ∧ p1.toInt < ((80 : Nat) : Int) then (fn_Mo_size (((gq_l M 2) p0.toInt) - ((gq_l M 0) p1.toInt)) M).bind fun q7 => (fn_Mo_size (((gq_l M 3) p0.toInt) - ((gq_l M 1) p1.toInt)) M).bind fun q9 => if ((gq_i M 8) p0.toInt) ≤ 0 then some (q7 + q9) else if ((gq_i M 8) p0.toInt) = (((gq_i M 1) p1.toInt) + 1) then some (q7 + q9) else some ((q7 + q9) + 1000000000) else none else none
set_option maxHeartbeats 4000000 in
set_option maxRecDepth 100000 in
theorem mt_Mo_cost {l : Launch} {D : va_G} {ad : Nat → Nat} {ck : Nat → ClassId} {G : gq_M × (Int → Int64)} {p0 : Int32} {p1 : Int32} {M : gq_M} {r : Int64} (h : fn_Mo_cost p0 p1 M = some r) : gm_J 81 0 l D ad ck yn_Mo_cost bc_Mo_cost 5 ({ frames := 1, cells := 0, slots := 0, locals := 21 } : Room) [gv_R 57, gv_I p0, gv_I p1] (ca_A (G.1, M, G.2)) (fun z c2 => z = r ∧ c2 = ca_A (G.1, M, G.2)) := by
  refine gm_J.of (by decide) (Nat.le_of_ble_eq_true rfl) (fun x hC hR => ?_)
  unfold fn_Mo_cost at h
  refine gx_aload_n hC dr_Mo_cost_0 rfl ?_
  refine gx_get hC dr_Mo_cost_1 lf_Mo_39 (by decide) rfl rfl ?_
  refine gx_iload_n hC dr_Mo_cost_4 rfl ?_
  obtain ⟨hz1, h⟩ := gk_of h
  refine gx_zald (f := (gq_i M 7)) hC dr_Mo_cost_5 (by decide) rfl hz1 ?_
  refine gx_if_eq (tgt := 45) hC dr_Mo_cost_6 (by decide) (fun hc2 => ?_) (fun hc2 => ?_)
  · rw [if_pos (show ((gq_i M 7) p0.toInt) = 0 from hc2)] at h
    refine gx_lconst hC dr_Mo_cost_45 ?_
    refine gx_lstore_n hC dr_Mo_cost_46 (by decide) ?_
    refine gx_aload_n hC dr_Mo_cost_47 rfl ?_
    refine gx_get hC dr_Mo_cost_48 lf_Mo_48 (by decide) rfl rfl ?_
    refine gx_iload_n hC dr_Mo_cost_51 rfl ?_
    refine gx_iald (f := (gq_i M 8)) hC dr_Mo_cost_52 (by decide) rfl hz1 ?_
    refine gx_if_le (tgt := 81) hC dr_Mo_cost_53 (by decide) (fun hc3 => ?_) (fun hc3 => ?_)
    · rw [if_pos (show ((gq_i M 8) p0.toInt) ≤ 0 from hc3)] at h
      refine gx_lload_n hC dr_Mo_cost_81 rfl ?_
      obtain rfl := Option.some.inj h
      exact hR (by decide) (by decide) dr_Mo_cost_82 ⟨rfl, rfl⟩
    · rw [if_neg (show ¬ (((gq_i M 8) p0.toInt) ≤ 0) from hc3)] at h
      refine gx_aload_n hC dr_Mo_cost_56 rfl ?_
      refine gx_get hC dr_Mo_cost_57 lf_Mo_48 (by decide) rfl rfl ?_
      refine gx_iload_n hC dr_Mo_cost_60 rfl ?_
      refine gx_iald (f := (gq_i M 8)) hC dr_Mo_cost_61 (by decide) rfl hz1 ?_
      refine gx_aload_n hC dr_Mo_cost_62 rfl ?_
      refine gx_get hC dr_Mo_cost_63 lf_Mo_20 (by decide) rfl rfl ?_
      refine gx_iload_n hC dr_Mo_cost_66 rfl ?_
      obtain ⟨hz4, h⟩ := gk_of h
      refine gx_iald (f := (gq_i M 1)) hC dr_Mo_cost_67 (by decide) rfl hz4 ?_
      refine gx_iconst (v := 1) hC dr_Mo_cost_68 (by decide) ?_
      refine gx_iadd hC dr_Mo_cost_69 ?_
      refine gx_icmp_eq (tgt := 81) hC dr_Mo_cost_70 (by decide) (fun hc5 => ?_) (fun hc5 => ?_)
      · rw [if_pos (show ((gq_i M 8) p0.toInt) = (((gq_i M 1) p1.toInt) + 1) from hc5)] at h
        refine gx_lload_n hC dr_Mo_cost_81 rfl ?_
        obtain rfl := Option.some.inj h
        exact hR (by decide) (by decide) dr_Mo_cost_82 ⟨rfl, rfl⟩
      · rw [if_neg (show ¬ (((gq_i M 8) p0.toInt) = (((gq_i M 1) p1.toInt) + 1)) from hc5)] at h
        refine gx_lload_n hC dr_Mo_cost_73 rfl ?_
        refine gx_ldc2 (v := 1000000000) hC dr_Mo_cost_74 lc_Mo_107 ?_
        refine gx_ladd hC dr_Mo_cost_77 ?_
        refine gx_goto (tgt := 82) hC dr_Mo_cost_78 (by decide) ?_
        obtain rfl := Option.some.inj h
        exact hR (by decide) (by decide) dr_Mo_cost_82 ⟨rfl, rfl⟩
  · rw [if_neg (show ¬ (((gq_i M 7) p0.toInt) = 0) from hc2)] at h
    refine gx_aload_n hC dr_Mo_cost_9 rfl ?_
    refine gx_get hC dr_Mo_cost_10 lf_Mo_42 (by decide) rfl rfl ?_
    refine gx_iload_n hC dr_Mo_cost_13 rfl ?_
    refine gx_lald (f := (gq_l M 2)) hC dr_Mo_cost_14 (by decide) rfl hz1 ?_
    refine gx_aload_n hC dr_Mo_cost_15 rfl ?_
    refine gx_get hC dr_Mo_cost_16 lf_Mo_13 (by decide) rfl rfl ?_
    refine gx_iload_n hC dr_Mo_cost_19 rfl ?_
    obtain ⟨hz6, h⟩ := gk_of h
    refine gx_lald (f := (gq_l M 0)) hC dr_Mo_cost_20 (by decide) rfl hz6 ?_
    refine gx_lsub hC dr_Mo_cost_21 ?_
    obtain ⟨q7, e8, h⟩ := gb_of h
    refine gx_sJ hC dr_Mo_cost_22 lk_Mo_103 (mt_Mo_size e8) rfl (by decide) ⟨by decide, by decide⟩ ⟨by decide, by decide⟩ rfl (Nat.le_of_ble_eq_true rfl) (fun z c2 hp => ?_)
    obtain ⟨hp1, rfl⟩ := hp; obtain rfl := hp1.symm
    refine gx_aload_n hC dr_Mo_cost_25 rfl ?_
    refine gx_get hC dr_Mo_cost_26 lf_Mo_45 (by decide) rfl rfl ?_
    refine gx_iload_n hC dr_Mo_cost_29 rfl ?_
    refine gx_lald (f := (gq_l M 3)) hC dr_Mo_cost_30 (by decide) rfl hz1 ?_
    refine gx_aload_n hC dr_Mo_cost_31 rfl ?_
    refine gx_get hC dr_Mo_cost_32 lf_Mo_17 (by decide) rfl rfl ?_
    refine gx_iload_n hC dr_Mo_cost_35 rfl ?_
    refine gx_lald (f := (gq_l M 1)) hC dr_Mo_cost_36 (by decide) rfl hz6 ?_
    refine gx_lsub hC dr_Mo_cost_37 ?_
    obtain ⟨q9, e10, h⟩ := gb_of h
    refine gx_sJ hC dr_Mo_cost_38 lk_Mo_103 (mt_Mo_size e10) rfl (by decide) ⟨by decide, by decide⟩ ⟨by decide, by decide⟩ rfl (Nat.le_of_ble_eq_true rfl) (fun z c2 hp => ?_)
    obtain ⟨hp1, rfl⟩ := hp; obtain rfl := hp1.symm
    refine gx_ladd hC dr_Mo_cost_41 ?_
    refine gx_goto (tgt := 46) hC dr_Mo_cost_42 (by decide) ?_
    refine gx_lstore_n hC dr_Mo_cost_46 (by decide) ?_
    refine gx_aload_n hC dr_Mo_cost_47 rfl ?_
    refine gx_get hC dr_Mo_cost_48 lf_Mo_48 (by decide) rfl rfl ?_
    refine gx_iload_n hC dr_Mo_cost_51 rfl ?_
    refine gx_iald (f := (gq_i M 8)) hC dr_Mo_cost_52 (by decide) rfl hz1 ?_
    refine gx_if_le (tgt := 81) hC dr_Mo_cost_53 (by decide) (fun hc11 => ?_) (fun hc11 => ?_)
    · rw [if_pos (show ((gq_i M 8) p0.toInt) ≤ 0 from hc11)] at h
      refine gx_lload_n hC dr_Mo_cost_81 rfl ?_
      obtain rfl := Option.some.inj h
      exact hR (by decide) (by decide) dr_Mo_cost_82 ⟨rfl, rfl⟩
    · rw [if_neg (show ¬ (((gq_i M 8) p0.toInt) ≤ 0) from hc11)] at h
      refine gx_aload_n hC dr_Mo_cost_56 rfl ?_
      refine gx_get hC dr_Mo_cost_57 lf_Mo_48 (by decide) rfl rfl ?_
      refine gx_iload_n hC dr_Mo_cost_60 rfl ?_
      refine gx_iald (f := (gq_i M 8)) hC dr_Mo_cost_61 (by decide) rfl hz1 ?_
      refine gx_aload_n hC dr_Mo_cost_62 rfl ?_
      refine gx_get hC dr_Mo_cost_63 lf_Mo_20 (by decide) rfl rfl ?_
      refine gx_iload_n hC dr_Mo_cost_66 rfl ?_
      refine gx_iald (f := (gq_i M 1)) hC dr_Mo_cost_67 (by decide) rfl hz6 ?_
      refine gx_iconst (v := 1) hC dr_Mo_cost_68 (by decide) ?_
      refine gx_iadd hC dr_Mo_cost_69 ?_
      refine gx_icmp_eq (tgt := 81) hC dr_Mo_cost_70 (by decide) (fun hc12 => ?_) (fun hc12 => ?_)
      · rw [if_pos (show ((gq_i M 8) p0.toInt) = (((gq_i M 1) p1.toInt) + 1) from hc12)] at h
        refine gx_lload_n hC dr_Mo_cost_81 rfl ?_
        obtain rfl := Option.some.inj h
        exact hR (by decide) (by decide) dr_Mo_cost_82 ⟨rfl, rfl⟩
      · rw [if_neg (show ¬ (((gq_i M 8) p0.toInt) = (((gq_i M 1) p1.toInt) + 1)) from hc12)] at h
        refine gx_lload_n hC dr_Mo_cost_73 rfl ?_
        refine gx_ldc2 (v := 1000000000) hC dr_Mo_cost_74 lc_Mo_107 ?_
        refine gx_ladd hC dr_Mo_cost_77 ?_
        refine gx_goto (tgt := 82) hC dr_Mo_cost_78 (by decide) ?_
        obtain rfl := Option.some.inj h
        exact hR (by decide) (by decide) dr_Mo_cost_82 ⟨rfl, rfl⟩
def fl_Mo_sumOf_4 (M : gq_M) : Nat → Int64 → Int32 → Option Int64
  | 0, _, _ => none
  | k + 1, v1, v3 => if (gq_f M 2) ≤ v3 then some v1 else if 0 ≤ v3.toInt ∧ v3.toInt < ((80 : Nat) : Int) then (fn_Mo_cost ((gq_i M 2) v3.toInt) v3 M).bind fun q3 => fl_Mo_sumOf_4 M k (v1 + q3) (v3 + 1) else none
def fn_Mo_sumOf  (M : gq_M) : Option Int64 := fl_Mo_sumOf_4 M 5000 (Int64.ofNat (0 : Fin 2).val) 0
set_option maxHeartbeats 4000000 in
set_option maxRecDepth 100000 in
theorem gl_Mo_sumOf_4 {x : gx_X} {G : gq_M × (Int → Int64)} {M : gq_M} {r : Int64} (hC : gw_C 81 0 yn_Mo_sumOf.cls bc_Mo_sumOf 4 x) (hR : gr_J 81 bc_Mo_sumOf 4 ({ frames := 2, cells := 0, slots := 0, locals := 45 } : Room) x (fun z c2 => z = r ∧ c2 = ca_A (G.1, M, G.2))) : ∀ (k : Nat) (v1 : Int64) (v3 : Int32), fl_Mo_sumOf_4 M k v1 v3 = some r → gw_G 81 4 ({ frames := 2, cells := 0, slots := 0, locals := 45 } : Room) x 0 0 (ca_A (G.1, M, G.2)) 4 [(0, gv_R 57), (1, gv_L v1), (3, gv_I v3)] [] := by
  intro k
  induction k with
  | zero =>
    intro v1 v3 h
    cases h
  | succ k ih =>
    intro v1 v3 h
    rw [fl_Mo_sumOf_4] at h
    refine gx_iload_n hC dr_Mo_sumOf_4 rfl ?_
    refine gx_aload_n hC dr_Mo_sumOf_5 rfl ?_
    refine gx_get hC dr_Mo_sumOf_6 lf_Mo_89 (by decide) rfl rfl ?_
    refine gx_icmp_ge (tgt := 32) hC dr_Mo_sumOf_9 (by decide) (fun hc1 => ?_) (fun hc1 => ?_)
    · rw [if_pos (show (gq_f M 2) ≤ v3 from hc1)] at h
      refine gx_lload_n hC dr_Mo_sumOf_32 rfl ?_
      obtain rfl := Option.some.inj h
      exact hR (by decide) (by decide) dr_Mo_sumOf_33 ⟨rfl, rfl⟩
    · rw [if_neg (show ¬ ((gq_f M 2) ≤ v3) from hc1)] at h
      refine gx_lload_n hC dr_Mo_sumOf_12 rfl ?_
      refine gx_aload_n hC dr_Mo_sumOf_13 rfl ?_
      refine gx_aload_n hC dr_Mo_sumOf_14 rfl ?_
      refine gx_get hC dr_Mo_sumOf_15 lf_Mo_23 (by decide) rfl rfl ?_
      refine gx_iload_n hC dr_Mo_sumOf_18 rfl ?_
      obtain ⟨hz2, h⟩ := gk_of h
      refine gx_iald (f := (gq_i M 2)) hC dr_Mo_sumOf_19 (by decide) rfl hz2 ?_
      refine gx_iload_n hC dr_Mo_sumOf_20 rfl ?_
      obtain ⟨q3, e4, h⟩ := gb_of h
      refine gx_vJ hC dr_Mo_sumOf_21 lk_Mo_109 (mt_Mo_cost e4) rfl (by decide) ⟨by decide, by decide⟩ ⟨by decide, by decide⟩ (by decide) ⟨_, _, rfl⟩ rfl rfl (Nat.le_of_ble_eq_true rfl) (fun z c2 hp => ?_)
      obtain ⟨hp1, rfl⟩ := hp; obtain rfl := hp1.symm
      refine gx_ladd hC dr_Mo_sumOf_24 ?_
      refine gx_lstore_n hC dr_Mo_sumOf_25 (by decide) ?_
      refine gx_iinc (v := (v3 + 1)) hC dr_Mo_sumOf_26 rfl (by decide) rfl ?_
      refine gx_goto (tgt := 4) hC dr_Mo_sumOf_29 (by decide) ?_
      exact gx_lv [(0, gv_R 57), (1, gv_L (v1 + q3)), (3, gv_I (v3 + 1))] ⟨rfl, rfl, rfl, trivial⟩ (ih _ _ h)
set_option maxHeartbeats 4000000 in
set_option maxRecDepth 100000 in
theorem mt_Mo_sumOf {l : Launch} {D : va_G} {ad : Nat → Nat} {ck : Nat → ClassId} {G : gq_M × (Int → Int64)}  {M : gq_M} {r : Int64} (h : fn_Mo_sumOf  M = some r) : gm_J 81 0 l D ad ck yn_Mo_sumOf bc_Mo_sumOf 4 ({ frames := 2, cells := 0, slots := 0, locals := 45 } : Room) [gv_R 57] (ca_A (G.1, M, G.2)) (fun z c2 => z = r ∧ c2 = ca_A (G.1, M, G.2)) := by
  refine gm_J.of (by decide) (Nat.le_of_ble_eq_true rfl) (fun x hC hR => ?_)
  unfold fn_Mo_sumOf at h
  refine gx_lconst hC dr_Mo_sumOf_0 ?_
  refine gx_lstore_n hC dr_Mo_sumOf_1 (by decide) ?_
  refine gx_iconst (v := 0) hC dr_Mo_sumOf_2 (by decide) ?_
  refine gx_istore_n hC dr_Mo_sumOf_3 (by decide) ?_
  exact gx_lv [(0, gv_R 57), (1, gv_L (Int64.ofNat (0 : Fin 2).val)), (3, gv_I 0)] ⟨rfl, rfl, rfl, trivial⟩ (gl_Mo_sumOf_4 hC hR 5000 _ _ h)
def fn_Mo_sum  (M : gq_M) : Option (Int64 × gq_M) := (fn_Mo_sumOf  (gs_f M 0 0)).bind fun q1 => some (q1, (gs_f M 0 0))
set_option maxHeartbeats 4000000 in
set_option maxRecDepth 100000 in
theorem mt_Mo_sum {l : Launch} {D : va_G} {ad : Nat → Nat} {ck : Nat → ClassId} {G : gq_M × (Int → Int64)}  {M : gq_M} {r : (Int64 × gq_M)} (h : fn_Mo_sum  M = some r) : gm_J 81 81 l D ad ck yn_Mo_sum bc_Mo_sum 1 ({ frames := 3, cells := 0, slots := 0, locals := 68 } : Room) [gv_R 57] (ca_A (G.1, M, G.2)) (fun z c2 => z = r.1 ∧ c2 = ca_A (G.1, r.2, G.2)) := by
  refine gm_J.of (by decide) (Nat.le_of_ble_eq_true rfl) (fun x hC hR => ?_)
  unfold fn_Mo_sum at h
  refine gx_aload_n hC dr_Mo_sum_0 rfl ?_
  refine gx_iconst (v := 0) hC dr_Mo_sum_1 (by decide) ?_
  refine gx_put hC (by decide) dr_Mo_sum_2 lf_Mo_78 lp_Mo_thrown (by decide) rfl (Nat.le_of_ble_eq_true rfl) (fun _ => rfl) (fun _ => rfl) ma_F0 ?_
  refine gx_aload_n hC dr_Mo_sum_5 rfl ?_
  obtain ⟨q1, e2, h⟩ := gb_of h
  refine gx_vJ hC dr_Mo_sum_6 lk_Mo_113 (mt_Mo_sumOf e2) rfl (by decide) ⟨by decide, by decide⟩ ⟨by decide, by decide⟩ (by decide) ⟨_, _, rfl⟩ rfl rfl (Nat.le_of_ble_eq_true rfl) (fun z c2 hp => ?_)
  obtain ⟨hp1, rfl⟩ := hp; obtain rfl := hp1.symm
  obtain rfl := Option.some.inj h
  exact hR (by decide) (by decide) dr_Mo_sum_9 ⟨rfl, rfl⟩
def fn_Mo_before  (M : gq_M) : Option (Int64 × gq_M) := some ((gq_j M 0), (gs_f M 0 0))
set_option maxHeartbeats 4000000 in
set_option maxRecDepth 100000 in
theorem mt_Mo_before {l : Launch} {D : va_G} {ad : Nat → Nat} {ck : Nat → ClassId} {G : gq_M × (Int → Int64)}  {M : gq_M} {r : (Int64 × gq_M)} (h : fn_Mo_before  M = some r) : gm_J 81 81 l D ad ck yn_Mo_before bc_Mo_before 1 ({ frames := 0, cells := 0, slots := 0, locals := 0 } : Room) [gv_R 57] (ca_A (G.1, M, G.2)) (fun z c2 => z = r.1 ∧ c2 = ca_A (G.1, r.2, G.2)) := by
  refine gm_J.of (by decide) (Nat.le_of_ble_eq_true rfl) (fun x hC hR => ?_)
  unfold fn_Mo_before at h
  refine gx_aload_n hC dr_Mo_before_0 rfl ?_
  refine gx_iconst (v := 0) hC dr_Mo_before_1 (by decide) ?_
  refine gx_put hC (by decide) dr_Mo_before_2 lf_Mo_78 lp_Mo_thrown (by decide) rfl (Nat.le_of_ble_eq_true rfl) (fun _ => rfl) (fun _ => rfl) ma_F0 ?_
  refine gx_aload_n hC dr_Mo_before_5 rfl ?_
  refine gx_get hC dr_Mo_before_6 lf_Mo_117 (by decide) rfl rfl ?_
  obtain rfl := Option.some.inj h
  exact hR (by decide) (by decide) dr_Mo_before_9 ⟨rfl, rfl⟩
def fn_Mo_isUnit (p0 : Int32) (p1 : Int32) (p2 : Int32) (M : gq_M) : Option Int32 := if 0 ≤ p0.toInt ∧ p0.toInt < ((80 : Nat) : Int) then if ((gq_i M 0) p0.toInt) = p1 then if ((gq_i M 4) p0.toInt) = 0 then if p2 = 0 then if ((gq_i M 5) p0.toInt) = (-1) then some 1 else some 0 else if ((gq_i M 6) p0.toInt) = 0 then some 0 else if 0 ≤ ((gq_i M 5) p0.toInt).toInt ∧ ((gq_i M 5) p0.toInt).toInt < ((80 : Nat) : Int) then if ((gq_i M 4) ((gq_i M 5) p0.toInt).toInt) = 0 then some 1 else some 0 else none else some 0 else some 0 else none
set_option maxHeartbeats 4000000 in
set_option maxRecDepth 100000 in
theorem mt_Mo_isUnit {l : Launch} {D : va_G} {ad : Nat → Nat} {ck : Nat → ClassId} {G : gq_M × (Int → Int64)} {p0 : Int32} {p1 : Int32} {p2 : Int32} {M : gq_M} {r : Int32} (h : fn_Mo_isUnit p0 p1 p2 M = some r) : gm_I 81 0 l D ad ck yn_Mo_isUnit bc_Mo_isUnit 4 .boolean ({ frames := 0, cells := 0, slots := 0, locals := 0 } : Room) [gv_R 57, gv_I p0, gv_I p1, gv_I p2] (ca_A (G.1, M, G.2)) (fun z c2 => z = r ∧ c2 = ca_A (G.1, M, G.2)) := by
  refine gm_I.of (by decide) (Nat.le_of_ble_eq_true rfl) (fun x hC hR => ?_)
  unfold fn_Mo_isUnit at h
  refine gx_aload_n hC dr_Mo_isUnit_0 rfl ?_
  refine gx_get hC dr_Mo_isUnit_1 lf_Mo_7 (by decide) rfl rfl ?_
  refine gx_iload_n hC dr_Mo_isUnit_4 rfl ?_
  obtain ⟨hz1, h⟩ := gk_of h
  refine gx_iald (f := (gq_i M 0)) hC dr_Mo_isUnit_5 (by decide) rfl hz1 ?_
  refine gx_iload_n hC dr_Mo_isUnit_6 rfl ?_
  refine gx_icmp_ne (tgt := 19) hC dr_Mo_isUnit_7 (by decide) (fun hc2 => ?_) (fun hc2 => ?_)
  · rw [if_neg (show ¬ (((gq_i M 0) p0.toInt) = p1) from hc2)] at h
    refine gx_iconst (v := 0) hC dr_Mo_isUnit_19 (by decide) ?_
    obtain rfl := Option.some.inj h
    exact hR (by decide) (by decide) dr_Mo_isUnit_20 rfl ⟨rfl, rfl⟩
  · rw [if_pos (show ((gq_i M 0) p0.toInt) = p1 from hc2)] at h
    refine gx_aload_n hC dr_Mo_isUnit_10 rfl ?_
    refine gx_get hC dr_Mo_isUnit_11 lf_Mo_29 (by decide) rfl rfl ?_
    refine gx_iload_n hC dr_Mo_isUnit_14 rfl ?_
    refine gx_zald (f := (gq_i M 4)) hC dr_Mo_isUnit_15 (by decide) rfl hz1 ?_
    refine gx_if_eq (tgt := 21) hC dr_Mo_isUnit_16 (by decide) (fun hc3 => ?_) (fun hc3 => ?_)
    · rw [if_pos (show ((gq_i M 4) p0.toInt) = 0 from hc3)] at h
      refine gx_iload_n hC dr_Mo_isUnit_21 rfl ?_
      refine gx_if_eq (tgt := 56) hC dr_Mo_isUnit_22 (by decide) (fun hc4 => ?_) (fun hc4 => ?_)
      · rw [if_pos (show p2 = 0 from hc4)] at h
        refine gx_aload_n hC dr_Mo_isUnit_56 rfl ?_
        refine gx_get hC dr_Mo_isUnit_57 lf_Mo_33 (by decide) rfl rfl ?_
        refine gx_iload_n hC dr_Mo_isUnit_60 rfl ?_
        refine gx_iald (f := (gq_i M 5)) hC dr_Mo_isUnit_61 (by decide) rfl hz1 ?_
        refine gx_iconst (v := (-1)) hC dr_Mo_isUnit_62 (by decide) ?_
        refine gx_icmp_ne (tgt := 70) hC dr_Mo_isUnit_63 (by decide) (fun hc5 => ?_) (fun hc5 => ?_)
        · rw [if_neg (show ¬ (((gq_i M 5) p0.toInt) = (-1)) from hc5)] at h
          refine gx_iconst (v := 0) hC dr_Mo_isUnit_70 (by decide) ?_
          obtain rfl := Option.some.inj h
          exact hR (by decide) (by decide) dr_Mo_isUnit_71 rfl ⟨rfl, rfl⟩
        · rw [if_pos (show ((gq_i M 5) p0.toInt) = (-1) from hc5)] at h
          refine gx_iconst (v := 1) hC dr_Mo_isUnit_66 (by decide) ?_
          refine gx_goto (tgt := 71) hC dr_Mo_isUnit_67 (by decide) ?_
          obtain rfl := Option.some.inj h
          exact hR (by decide) (by decide) dr_Mo_isUnit_71 rfl ⟨rfl, rfl⟩
      · rw [if_neg (show ¬ (p2 = 0) from hc4)] at h
        refine gx_aload_n hC dr_Mo_isUnit_25 rfl ?_
        refine gx_get hC dr_Mo_isUnit_26 lf_Mo_36 (by decide) rfl rfl ?_
        refine gx_iload_n hC dr_Mo_isUnit_29 rfl ?_
        refine gx_zald (f := (gq_i M 6)) hC dr_Mo_isUnit_30 (by decide) rfl hz1 ?_
        refine gx_if_eq (tgt := 52) hC dr_Mo_isUnit_31 (by decide) (fun hc6 => ?_) (fun hc6 => ?_)
        · rw [if_pos (show ((gq_i M 6) p0.toInt) = 0 from hc6)] at h
          refine gx_iconst (v := 0) hC dr_Mo_isUnit_52 (by decide) ?_
          refine gx_goto (tgt := 71) hC dr_Mo_isUnit_53 (by decide) ?_
          obtain rfl := Option.some.inj h
          exact hR (by decide) (by decide) dr_Mo_isUnit_71 rfl ⟨rfl, rfl⟩
        · rw [if_neg (show ¬ (((gq_i M 6) p0.toInt) = 0) from hc6)] at h
          refine gx_aload_n hC dr_Mo_isUnit_34 rfl ?_
          refine gx_get hC dr_Mo_isUnit_35 lf_Mo_29 (by decide) rfl rfl ?_
          refine gx_aload_n hC dr_Mo_isUnit_38 rfl ?_
          refine gx_get hC dr_Mo_isUnit_39 lf_Mo_33 (by decide) rfl rfl ?_
          refine gx_iload_n hC dr_Mo_isUnit_42 rfl ?_
          refine gx_iald (f := (gq_i M 5)) hC dr_Mo_isUnit_43 (by decide) rfl hz1 ?_
          obtain ⟨hz7, h⟩ := gk_of h
          refine gx_zald (f := (gq_i M 4)) hC dr_Mo_isUnit_44 (by decide) rfl hz7 ?_
          refine gx_if_ne (tgt := 52) hC dr_Mo_isUnit_45 (by decide) (fun hc8 => ?_) (fun hc8 => ?_)
          · rw [if_neg (show ¬ (((gq_i M 4) ((gq_i M 5) p0.toInt).toInt) = 0) from hc8)] at h
            refine gx_iconst (v := 0) hC dr_Mo_isUnit_52 (by decide) ?_
            refine gx_goto (tgt := 71) hC dr_Mo_isUnit_53 (by decide) ?_
            obtain rfl := Option.some.inj h
            exact hR (by decide) (by decide) dr_Mo_isUnit_71 rfl ⟨rfl, rfl⟩
          · rw [if_pos (show ((gq_i M 4) ((gq_i M 5) p0.toInt).toInt) = 0 from hc8)] at h
            refine gx_iconst (v := 1) hC dr_Mo_isUnit_48 (by decide) ?_
            refine gx_goto (tgt := 71) hC dr_Mo_isUnit_49 (by decide) ?_
            obtain rfl := Option.some.inj h
            exact hR (by decide) (by decide) dr_Mo_isUnit_71 rfl ⟨rfl, rfl⟩
    · rw [if_neg (show ¬ (((gq_i M 4) p0.toInt) = 0) from hc3)] at h
      refine gx_iconst (v := 0) hC dr_Mo_isUnit_19 (by decide) ?_
      obtain rfl := Option.some.inj h
      exact hR (by decide) (by decide) dr_Mo_isUnit_20 rfl ⟨rfl, rfl⟩
def fn_Mo_unitCost (p0 : Int32) (p1 : Int32) (p2 : Int32) (M : gq_M) : Option Int64 := if 0 ≤ p1.toInt ∧ p1.toInt < ((80 : Nat) : Int) then (fn_Mo_cost ((gq_i M 2) p1.toInt) p0 M).bind fun q2 => if p2 = 0 then some (q2 + (Int64.ofNat (0 : Fin 2).val)) else if 0 ≤ ((gq_i M 5) p1.toInt).toInt ∧ ((gq_i M 5) p1.toInt).toInt < ((80 : Nat) : Int) then if 0 ≤ p0.toInt ∧ p0.toInt < ((80 : Nat) : Int) then (fn_Mo_cost ((gq_i M 2) ((gq_i M 5) p1.toInt).toInt) ((gq_i M 5) p0.toInt) M).bind fun q7 => some (q2 + q7) else none else none else none
set_option maxHeartbeats 4000000 in
set_option maxRecDepth 100000 in
theorem mt_Mo_unitCost {l : Launch} {D : va_G} {ad : Nat → Nat} {ck : Nat → ClassId} {G : gq_M × (Int → Int64)} {p0 : Int32} {p1 : Int32} {p2 : Int32} {M : gq_M} {r : Int64} (h : fn_Mo_unitCost p0 p1 p2 M = some r) : gm_J 81 0 l D ad ck yn_Mo_unitCost bc_Mo_unitCost 4 ({ frames := 2, cells := 0, slots := 0, locals := 45 } : Room) [gv_R 57, gv_I p0, gv_I p1, gv_I p2] (ca_A (G.1, M, G.2)) (fun z c2 => z = r ∧ c2 = ca_A (G.1, M, G.2)) := by
  refine gm_J.of (by decide) (Nat.le_of_ble_eq_true rfl) (fun x hC hR => ?_)
  unfold fn_Mo_unitCost at h
  refine gx_aload_n hC dr_Mo_unitCost_0 rfl ?_
  refine gx_aload_n hC dr_Mo_unitCost_1 rfl ?_
  refine gx_get hC dr_Mo_unitCost_2 lf_Mo_23 (by decide) rfl rfl ?_
  refine gx_iload_n hC dr_Mo_unitCost_5 rfl ?_
  obtain ⟨hz1, h⟩ := gk_of h
  refine gx_iald (f := (gq_i M 2)) hC dr_Mo_unitCost_6 (by decide) rfl hz1 ?_
  refine gx_iload_n hC dr_Mo_unitCost_7 rfl ?_
  obtain ⟨q2, e3, h⟩ := gb_of h
  refine gx_vJ hC dr_Mo_unitCost_8 lk_Mo_109 (mt_Mo_cost e3) rfl (by decide) ⟨by decide, by decide⟩ ⟨by decide, by decide⟩ (by decide) ⟨_, _, rfl⟩ rfl rfl (Nat.le_of_ble_eq_true rfl) (fun z c2 hp => ?_)
  obtain ⟨hp1, rfl⟩ := hp; obtain rfl := hp1.symm
  refine gx_iload_n hC dr_Mo_unitCost_11 rfl ?_
  refine gx_if_eq (tgt := 39) hC dr_Mo_unitCost_12 (by decide) (fun hc4 => ?_) (fun hc4 => ?_)
  · rw [if_pos (show p2 = 0 from hc4)] at h
    refine gx_lconst hC dr_Mo_unitCost_39 ?_
    refine gx_ladd hC dr_Mo_unitCost_40 ?_
    obtain rfl := Option.some.inj h
    exact hR (by decide) (by decide) dr_Mo_unitCost_41 ⟨rfl, rfl⟩
  · rw [if_neg (show ¬ (p2 = 0) from hc4)] at h
    refine gx_aload_n hC dr_Mo_unitCost_15 rfl ?_
    refine gx_aload_n hC dr_Mo_unitCost_16 rfl ?_
    refine gx_get hC dr_Mo_unitCost_17 lf_Mo_23 (by decide) rfl rfl ?_
    refine gx_aload_n hC dr_Mo_unitCost_20 rfl ?_
    refine gx_get hC dr_Mo_unitCost_21 lf_Mo_33 (by decide) rfl rfl ?_
    refine gx_iload_n hC dr_Mo_unitCost_24 rfl ?_
    refine gx_iald (f := (gq_i M 5)) hC dr_Mo_unitCost_25 (by decide) rfl hz1 ?_
    obtain ⟨hz5, h⟩ := gk_of h
    refine gx_iald (f := (gq_i M 2)) hC dr_Mo_unitCost_26 (by decide) rfl hz5 ?_
    refine gx_aload_n hC dr_Mo_unitCost_27 rfl ?_
    refine gx_get hC dr_Mo_unitCost_28 lf_Mo_33 (by decide) rfl rfl ?_
    refine gx_iload_n hC dr_Mo_unitCost_31 rfl ?_
    obtain ⟨hz6, h⟩ := gk_of h
    refine gx_iald (f := (gq_i M 5)) hC dr_Mo_unitCost_32 (by decide) rfl hz6 ?_
    obtain ⟨q7, e8, h⟩ := gb_of h
    refine gx_vJ hC dr_Mo_unitCost_33 lk_Mo_109 (mt_Mo_cost e8) rfl (by decide) ⟨by decide, by decide⟩ ⟨by decide, by decide⟩ (by decide) ⟨_, _, rfl⟩ rfl rfl (Nat.le_of_ble_eq_true rfl) (fun z c2 hp => ?_)
    obtain ⟨hp1, rfl⟩ := hp; obtain rfl := hp1.symm
    refine gx_goto (tgt := 40) hC dr_Mo_unitCost_36 (by decide) ?_
    refine gx_ladd hC dr_Mo_unitCost_40 ?_
    obtain rfl := Option.some.inj h
    exact hR (by decide) (by decide) dr_Mo_unitCost_41 ⟨rfl, rfl⟩
def fl_Mo_bits_4 (M : gq_M) : Nat → Int32 → Int32 → Option Int32
  | 0, _, _ => none
  | k + 1, v1, v2 => if v2 = 0 then some v1 else fl_Mo_bits_4 M k (v1 + (v2 &&& 1)) ((v2 >>> ((1 : Int32) &&& 31)) : Int32)
def fn_Mo_bits (p0 : Int32) (M : gq_M) : Option Int32 := fl_Mo_bits_4 M 5000 0 p0
set_option maxHeartbeats 4000000 in
set_option maxRecDepth 100000 in
theorem gl_Mo_bits_4 {x : gx_X} {G : gq_M × (Int → Int64)} {M : gq_M} {r : Int32} (hC : gw_C 81 0 yn_Mo_bits.cls bc_Mo_bits 3 x) (hR : gr_I 81 bc_Mo_bits 3 .int ({ frames := 0, cells := 0, slots := 0, locals := 0 } : Room) x (fun z c2 => z = r ∧ c2 = ca_A (G.1, M, G.2))) : ∀ (k : Nat) (v1 : Int32) (v2 : Int32), fl_Mo_bits_4 M k v1 v2 = some r → gw_G 81 3 ({ frames := 0, cells := 0, slots := 0, locals := 0 } : Room) x 0 0 (ca_A (G.1, M, G.2)) 4 [(1, gv_I v1), (2, gv_I v2)] [] := by
  intro k
  induction k with
  | zero =>
    intro v1 v2 h
    cases h
  | succ k ih =>
    intro v1 v2 h
    rw [fl_Mo_bits_4] at h
    refine gx_iload_n hC dr_Mo_bits_4 rfl ?_
    refine gx_if_eq (tgt := 21) hC dr_Mo_bits_5 (by decide) (fun hc1 => ?_) (fun hc1 => ?_)
    · rw [if_pos (show v2 = 0 from hc1)] at h
      refine gx_iload_n hC dr_Mo_bits_21 rfl ?_
      obtain rfl := Option.some.inj h
      exact hR (by decide) (by decide) dr_Mo_bits_22 rfl ⟨rfl, rfl⟩
    · rw [if_neg (show ¬ (v2 = 0) from hc1)] at h
      refine gx_iload_n hC dr_Mo_bits_8 rfl ?_
      refine gx_iload_n hC dr_Mo_bits_9 rfl ?_
      refine gx_iconst (v := 1) hC dr_Mo_bits_10 (by decide) ?_
      refine gx_iand hC dr_Mo_bits_11 ?_
      refine gx_iadd hC dr_Mo_bits_12 ?_
      refine gx_istore_n hC dr_Mo_bits_13 (by decide) ?_
      refine gx_iload_n hC dr_Mo_bits_14 rfl ?_
      refine gx_iconst (v := 1) hC dr_Mo_bits_15 (by decide) ?_
      refine gx_ishr hC dr_Mo_bits_16 ?_
      refine gx_istore_n hC dr_Mo_bits_17 (by decide) ?_
      refine gx_goto (tgt := 4) hC dr_Mo_bits_18 (by decide) ?_
      exact gx_lv [(1, gv_I (v1 + (v2 &&& 1))), (2, gv_I ((v2 >>> ((1 : Int32) &&& 31)) : Int32))] ⟨rfl, rfl, trivial⟩ (ih _ _ h)
set_option maxHeartbeats 4000000 in
set_option maxRecDepth 100000 in
theorem mt_Mo_bits {l : Launch} {D : va_G} {ad : Nat → Nat} {ck : Nat → ClassId} {G : gq_M × (Int → Int64)} {p0 : Int32} {M : gq_M} {r : Int32} (h : fn_Mo_bits p0 M = some r) : gm_I 81 0 l D ad ck yn_Mo_bits bc_Mo_bits 3 .int ({ frames := 0, cells := 0, slots := 0, locals := 0 } : Room) [gv_I p0] (ca_A (G.1, M, G.2)) (fun z c2 => z = r ∧ c2 = ca_A (G.1, M, G.2)) := by
  refine gm_I.of (by decide) (Nat.le_of_ble_eq_true rfl) (fun x hC hR => ?_)
  unfold fn_Mo_bits at h
  refine gx_iconst (v := 0) hC dr_Mo_bits_0 (by decide) ?_
  refine gx_istore_n hC dr_Mo_bits_1 (by decide) ?_
  refine gx_iload_n hC dr_Mo_bits_2 rfl ?_
  refine gx_istore_n hC dr_Mo_bits_3 (by decide) ?_
  exact gx_lv [(1, gv_I 0), (2, gv_I p0)] ⟨rfl, rfl, trivial⟩ (gl_Mo_bits_4 hC hR 5000 _ _ h)
def fl_Mo_sumNow_4 (M : gq_M) : Nat → Int64 → Int32 → Option Int64
  | 0, _, _ => none
  | k + 1, v1, v3 => if (gq_f M 5) ≤ v3 then some v1 else if 0 ≤ ((12 * v3) + v3).toInt ∧ ((12 * v3) + v3).toInt < ((144 : Nat) : Int) then fl_Mo_sumNow_4 M k (v1 + ((gq_l M 4) ((12 * v3) + v3).toInt)) (v3 + 1) else none
def fn_Mo_sumNow  (M : gq_M) : Option Int64 := fl_Mo_sumNow_4 M 5000 (Int64.ofNat (0 : Fin 2).val) 0
set_option maxHeartbeats 4000000 in
set_option maxRecDepth 100000 in
theorem gl_Mo_sumNow_4 {x : gx_X} {G : gq_M × (Int → Int64)} {M : gq_M} {r : Int64} (hC : gw_C 81 0 yn_Mo_sumNow.cls bc_Mo_sumNow 4 x) (hR : gr_J 81 bc_Mo_sumNow 4 ({ frames := 0, cells := 0, slots := 0, locals := 0 } : Room) x (fun z c2 => z = r ∧ c2 = ca_A (G.1, M, G.2))) : ∀ (k : Nat) (v1 : Int64) (v3 : Int32), fl_Mo_sumNow_4 M k v1 v3 = some r → gw_G 81 4 ({ frames := 0, cells := 0, slots := 0, locals := 0 } : Room) x 0 0 (ca_A (G.1, M, G.2)) 4 [(0, gv_R 57), (1, gv_L v1), (3, gv_I v3)] [] := by
  intro k
  induction k with
  | zero =>
    intro v1 v3 h
    cases h
  | succ k ih =>
    intro v1 v3 h
    rw [fl_Mo_sumNow_4] at h
    refine gx_iload_n hC dr_Mo_sumNow_4 rfl ?_
    refine gx_aload_n hC dr_Mo_sumNow_5 rfl ?_
    refine gx_get hC dr_Mo_sumNow_6 lf_Mo_121 (by decide) rfl rfl ?_
    refine gx_icmp_ge (tgt := 32) hC dr_Mo_sumNow_9 (by decide) (fun hc1 => ?_) (fun hc1 => ?_)
    · rw [if_pos (show (gq_f M 5) ≤ v3 from hc1)] at h
      refine gx_lload_n hC dr_Mo_sumNow_32 rfl ?_
      obtain rfl := Option.some.inj h
      exact hR (by decide) (by decide) dr_Mo_sumNow_33 ⟨rfl, rfl⟩
    · rw [if_neg (show ¬ ((gq_f M 5) ≤ v3) from hc1)] at h
      refine gx_lload_n hC dr_Mo_sumNow_12 rfl ?_
      refine gx_aload_n hC dr_Mo_sumNow_13 rfl ?_
      refine gx_get hC dr_Mo_sumNow_14 lf_Mo_66 (by decide) rfl rfl ?_
      refine gx_bipush (v := 12) hC dr_Mo_sumNow_17 (by decide) ?_
      refine gx_iload_n hC dr_Mo_sumNow_19 rfl ?_
      refine gx_imul hC dr_Mo_sumNow_20 ?_
      refine gx_iload_n hC dr_Mo_sumNow_21 rfl ?_
      refine gx_iadd hC dr_Mo_sumNow_22 ?_
      obtain ⟨hz2, h⟩ := gk_of h
      refine gx_lald (f := (gq_l M 4)) hC dr_Mo_sumNow_23 (by decide) rfl hz2 ?_
      refine gx_ladd hC dr_Mo_sumNow_24 ?_
      refine gx_lstore_n hC dr_Mo_sumNow_25 (by decide) ?_
      refine gx_iinc (v := (v3 + 1)) hC dr_Mo_sumNow_26 rfl (by decide) rfl ?_
      refine gx_goto (tgt := 4) hC dr_Mo_sumNow_29 (by decide) ?_
      exact gx_lv [(0, gv_R 57), (1, gv_L (v1 + ((gq_l M 4) ((12 * v3) + v3).toInt))), (3, gv_I (v3 + 1))] ⟨rfl, rfl, rfl, trivial⟩ (ih _ _ h)
set_option maxHeartbeats 4000000 in
set_option maxRecDepth 100000 in
theorem mt_Mo_sumNow {l : Launch} {D : va_G} {ad : Nat → Nat} {ck : Nat → ClassId} {G : gq_M × (Int → Int64)}  {M : gq_M} {r : Int64} (h : fn_Mo_sumNow  M = some r) : gm_J 81 0 l D ad ck yn_Mo_sumNow bc_Mo_sumNow 4 ({ frames := 0, cells := 0, slots := 0, locals := 0 } : Room) [gv_R 57] (ca_A (G.1, M, G.2)) (fun z c2 => z = r ∧ c2 = ca_A (G.1, M, G.2)) := by
  refine gm_J.of (by decide) (Nat.le_of_ble_eq_true rfl) (fun x hC hR => ?_)
  unfold fn_Mo_sumNow at h
  refine gx_lconst hC dr_Mo_sumNow_0 ?_
  refine gx_lstore_n hC dr_Mo_sumNow_1 (by decide) ?_
  refine gx_iconst (v := 0) hC dr_Mo_sumNow_2 (by decide) ?_
  refine gx_istore_n hC dr_Mo_sumNow_3 (by decide) ?_
  exact gx_lv [(0, gv_R 57), (1, gv_L (Int64.ofNat (0 : Fin 2).val)), (3, gv_I 0)] ⟨rfl, rfl, rfl, trivial⟩ (gl_Mo_sumNow_4 hC hR 5000 _ _ h)
def fn_Mo_fits (p0 : Int32) (p1 : Int32) (p2 : Int32) (M : gq_M) : Option Int32 := if (((p2 >>> (p1 &&& 31)) : Int32) &&& 1) = 0 then if 0 ≤ ((12 * p0) + p1).toInt ∧ ((12 * p0) + p1).toInt < ((144 : Nat) : Int) then if 0 ≤ (p2 ||| (((1 : Int32) <<< (p1 &&& 31)) : Int32)).toInt ∧ (p2 ||| (((1 : Int32) <<< (p1 &&& 31)) : Int32)).toInt < ((4096 : Nat) : Int) then if 0 ≤ p2.toInt ∧ p2.toInt < ((4096 : Nat) : Int) then if (((gq_l M 4) ((12 * p0) + p1).toInt) + ((gq_l M 5) (p2 ||| (((1 : Int32) <<< (p1 &&& 31)) : Int32)).toInt)) = ((gq_l M 5) p2.toInt) then some 1 else some 0 else none else none else none else some 0
set_option maxHeartbeats 4000000 in
set_option maxRecDepth 100000 in
theorem mt_Mo_fits {l : Launch} {D : va_G} {ad : Nat → Nat} {ck : Nat → ClassId} {G : gq_M × (Int → Int64)} {p0 : Int32} {p1 : Int32} {p2 : Int32} {M : gq_M} {r : Int32} (h : fn_Mo_fits p0 p1 p2 M = some r) : gm_I 81 0 l D ad ck yn_Mo_fits bc_Mo_fits 4 .boolean ({ frames := 0, cells := 0, slots := 0, locals := 0 } : Room) [gv_R 57, gv_I p0, gv_I p1, gv_I p2] (ca_A (G.1, M, G.2)) (fun z c2 => z = r ∧ c2 = ca_A (G.1, M, G.2)) := by
  refine gm_I.of (by decide) (Nat.le_of_ble_eq_true rfl) (fun x hC hR => ?_)
  unfold fn_Mo_fits at h
  refine gx_iload_n hC dr_Mo_fits_0 rfl ?_
  refine gx_iload_n hC dr_Mo_fits_1 rfl ?_
  refine gx_ishr hC dr_Mo_fits_2 ?_
  refine gx_iconst (v := 1) hC dr_Mo_fits_3 (by decide) ?_
  refine gx_iand hC dr_Mo_fits_4 ?_
  refine gx_if_ne (tgt := 44) hC dr_Mo_fits_5 (by decide) (fun hc1 => ?_) (fun hc1 => ?_)
  · rw [if_neg (show ¬ ((((p2 >>> (p1 &&& 31)) : Int32) &&& 1) = 0) from hc1)] at h
    refine gx_iconst (v := 0) hC dr_Mo_fits_44 (by decide) ?_
    obtain rfl := Option.some.inj h
    exact hR (by decide) (by decide) dr_Mo_fits_45 rfl ⟨rfl, rfl⟩
  · rw [if_pos (show (((p2 >>> (p1 &&& 31)) : Int32) &&& 1) = 0 from hc1)] at h
    refine gx_aload_n hC dr_Mo_fits_8 rfl ?_
    refine gx_get hC dr_Mo_fits_9 lf_Mo_66 (by decide) rfl rfl ?_
    refine gx_bipush (v := 12) hC dr_Mo_fits_12 (by decide) ?_
    refine gx_iload_n hC dr_Mo_fits_14 rfl ?_
    refine gx_imul hC dr_Mo_fits_15 ?_
    refine gx_iload_n hC dr_Mo_fits_16 rfl ?_
    refine gx_iadd hC dr_Mo_fits_17 ?_
    obtain ⟨hz2, h⟩ := gk_of h
    refine gx_lald (f := (gq_l M 4)) hC dr_Mo_fits_18 (by decide) rfl hz2 ?_
    refine gx_aload_n hC dr_Mo_fits_19 rfl ?_
    refine gx_get hC dr_Mo_fits_20 lf_Mo_69 (by decide) rfl rfl ?_
    refine gx_iload_n hC dr_Mo_fits_23 rfl ?_
    refine gx_iconst (v := 1) hC dr_Mo_fits_24 (by decide) ?_
    refine gx_iload_n hC dr_Mo_fits_25 rfl ?_
    refine gx_ishl hC dr_Mo_fits_26 ?_
    refine gx_ior hC dr_Mo_fits_27 ?_
    obtain ⟨hz3, h⟩ := gk_of h
    refine gx_lald (f := (gq_l M 5)) hC dr_Mo_fits_28 (by decide) rfl hz3 ?_
    refine gx_ladd hC dr_Mo_fits_29 ?_
    refine gx_aload_n hC dr_Mo_fits_30 rfl ?_
    refine gx_get hC dr_Mo_fits_31 lf_Mo_69 (by decide) rfl rfl ?_
    refine gx_iload_n hC dr_Mo_fits_34 rfl ?_
    obtain ⟨hz4, h⟩ := gk_of h
    refine gx_lald (f := (gq_l M 5)) hC dr_Mo_fits_35 (by decide) rfl hz4 ?_
    refine gx_lcmp_ne (tgt := 44) hC dr_Mo_fits_36 dr_Mo_fits_37 (by decide) (fun hc5 => ?_) (fun hc5 => ?_)
    · rw [if_neg (show ¬ ((((gq_l M 4) ((12 * p0) + p1).toInt) + ((gq_l M 5) (p2 ||| (((1 : Int32) <<< (p1 &&& 31)) : Int32)).toInt)) = ((gq_l M 5) p2.toInt)) from hc5)] at h
      refine gx_iconst (v := 0) hC dr_Mo_fits_44 (by decide) ?_
      obtain rfl := Option.some.inj h
      exact hR (by decide) (by decide) dr_Mo_fits_45 rfl ⟨rfl, rfl⟩
    · rw [if_pos (show (((gq_l M 4) ((12 * p0) + p1).toInt) + ((gq_l M 5) (p2 ||| (((1 : Int32) <<< (p1 &&& 31)) : Int32)).toInt)) = ((gq_l M 5) p2.toInt) from hc5)] at h
      refine gx_iconst (v := 1) hC dr_Mo_fits_40 (by decide) ?_
      refine gx_goto (tgt := 45) hC dr_Mo_fits_41 (by decide) ?_
      obtain rfl := Option.some.inj h
      exact hR (by decide) (by decide) dr_Mo_fits_45 rfl ⟨rfl, rfl⟩
def fn_Mo_netOf (p0 : Int32) (M : gq_M) : Option (Int32 × gq_M) := (fn_Mo_isPin p0 M).bind fun q1 => if q1 = 0 then some (0, (gs_f M 0 1)) else if 0 ≤ p0.toInt ∧ p0.toInt < ((80 : Nat) : Int) then some (((gq_i M 2) p0.toInt), (gs_f M 0 0)) else none
set_option maxHeartbeats 4000000 in
set_option maxRecDepth 100000 in
theorem mt_Mo_netOf {l : Launch} {D : va_G} {ad : Nat → Nat} {ck : Nat → ClassId} {G : gq_M × (Int → Int64)} {p0 : Int32} {M : gq_M} {r : (Int32 × gq_M)} (h : fn_Mo_netOf p0 M = some r) : gm_I 81 81 l D ad ck yn_Mo_netOf bc_Mo_netOf 2 .int ({ frames := 1, cells := 0, slots := 0, locals := 21 } : Room) [gv_R 57, gv_I p0] (ca_A (G.1, M, G.2)) (fun z c2 => z = r.1 ∧ c2 = ca_A (G.1, r.2, G.2)) := by
  refine gm_I.of (by decide) (Nat.le_of_ble_eq_true rfl) (fun x hC hR => ?_)
  unfold fn_Mo_netOf at h
  refine gx_aload_n hC dr_Mo_netOf_0 rfl ?_
  refine gx_aload_n hC dr_Mo_netOf_1 rfl ?_
  refine gx_iload_n hC dr_Mo_netOf_2 rfl ?_
  obtain ⟨q1, e2, h⟩ := gb_of h
  refine gx_vI hC dr_Mo_netOf_3 lk_Mo_100 (mt_Mo_isPin e2) rfl (by decide) ⟨by decide, by decide⟩ ⟨by decide, by decide⟩ (by decide) ⟨_, _, rfl⟩ rfl rfl (Nat.le_of_ble_eq_true rfl) (fun z c2 hp => ?_)
  obtain ⟨hp1, rfl⟩ := hp; obtain rfl := hp1.symm
  refine gx_if_eq (tgt := 13) hC dr_Mo_netOf_6 (by decide) (fun hc3 => ?_) (fun hc3 => ?_)
  · rw [if_pos (show q1 = 0 from hc3)] at h
    refine gx_iconst (v := 1) hC dr_Mo_netOf_13 (by decide) ?_
    refine gx_put hC (by decide) dr_Mo_netOf_14 lf_Mo_78 lp_Mo_thrown (by decide) rfl (Nat.le_of_ble_eq_true rfl) (fun _ => rfl) (fun _ => rfl) ma_F0 ?_
    refine gx_aload_n hC dr_Mo_netOf_17 rfl ?_
    refine gx_get hC dr_Mo_netOf_18 lf_Mo_78 (by decide) rfl rfl ?_
    refine gx_if_ne (tgt := 33) hC dr_Mo_netOf_21 (by decide) (fun hc4 => ?_) (fun hc4 => ?_)
    · refine gx_iconst (v := 0) hC dr_Mo_netOf_33 (by decide) ?_
      obtain rfl := Option.some.inj h
      exact hR (by decide) (by decide) dr_Mo_netOf_34 rfl ⟨rfl, rfl⟩
    · exact absurd (show (1 : Int32) = 0 from hc4) (by decide)
  · rw [if_neg (show ¬ (q1 = 0) from hc3)] at h
    refine gx_iconst (v := 0) hC dr_Mo_netOf_9 (by decide) ?_
    refine gx_goto (tgt := 14) hC dr_Mo_netOf_10 (by decide) ?_
    refine gx_put hC (by decide) dr_Mo_netOf_14 lf_Mo_78 lp_Mo_thrown (by decide) rfl (Nat.le_of_ble_eq_true rfl) (fun _ => rfl) (fun _ => rfl) ma_F0 ?_
    refine gx_aload_n hC dr_Mo_netOf_17 rfl ?_
    refine gx_get hC dr_Mo_netOf_18 lf_Mo_78 (by decide) rfl rfl ?_
    refine gx_if_ne (tgt := 33) hC dr_Mo_netOf_21 (by decide) (fun hc5 => ?_) (fun hc5 => ?_)
    · exact absurd (show ¬ ((0 : Int32) = 0) from hc5) (by decide)
    · refine gx_aload_n hC dr_Mo_netOf_24 rfl ?_
      refine gx_get hC dr_Mo_netOf_25 lf_Mo_23 (by decide) rfl rfl ?_
      refine gx_iload_n hC dr_Mo_netOf_28 rfl ?_
      obtain ⟨hz6, h⟩ := gk_of h
      refine gx_iald (f := (gq_i M 2)) hC dr_Mo_netOf_29 (by decide) rfl hz6 ?_
      refine gx_goto (tgt := 34) hC dr_Mo_netOf_30 (by decide) ?_
      obtain rfl := Option.some.inj h
      exact hR (by decide) (by decide) dr_Mo_netOf_34 rfl ⟨rfl, rfl⟩
