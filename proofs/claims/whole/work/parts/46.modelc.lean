def fn_Mo_gate (p0 : Int32) (M : gq_M) : Option (Int32 × gq_M) := if ((p0 >>> ((16 : Int32) &&& 31)) : Int32) < 1 then some (0, (gs_f M 0 1)) else if 4 < ((p0 >>> ((16 : Int32) &&& 31)) : Int32) then some (0, (gs_f M 0 1)) else if (((p0 &&& 65535) >>> ((((1 : Int32) <<< (((p0 >>> ((16 : Int32) &&& 31)) : Int32) &&& 31)) : Int32) &&& 31)) : Int32) = 0 then if (gq_f M 4) = 20 then some ((-1), (gs_f M 0 0)) else if 0 ≤ (gq_f M 4).toInt ∧ (gq_f M 4).toInt < ((20 : Nat) : Int) then some ((((gq_f M 4) + 1) - 1), (gs_f (gs_i (gs_i (gs_f M 0 0) 11 (gz_u (gq_i M 11) (gq_f M 4).toInt ((p0 >>> ((16 : Int32) &&& 31)) : Int32))) 12 (gz_u (gq_i M 12) (gq_f M 4).toInt (p0 &&& 65535))) 4 ((gq_f M 4) + 1))) else none else some (0, (gs_f M 0 1))
set_option maxHeartbeats 4000000 in
set_option maxRecDepth 100000 in
theorem mt_Mo_gate {l : Launch} {D : va_G} {ad : Nat → Nat} {ck : Nat → ClassId} {G : gq_M × (Int → Int64)} {p0 : Int32} {M : gq_M} {r : (Int32 × gq_M)} (h : fn_Mo_gate p0 M = some r) : gm_I 81 81 l D ad ck yn_Mo_gate bc_Mo_gate 4 .int ({ frames := 0, cells := 0, slots := 0, locals := 0 } : Room) [gv_R 57, gv_I p0] (ca_A (G.1, M, G.2)) (fun z c2 => z = r.1 ∧ c2 = ca_A (G.1, r.2, G.2)) := by
  refine gm_I.of (by decide) (Nat.le_of_ble_eq_true rfl) (fun x hC hR => ?_)
  unfold fn_Mo_gate at h
  refine gx_iload_n hC dr_Mo_gate_0 rfl ?_
  refine gx_bipush (v := 16) hC dr_Mo_gate_1 (by decide) ?_
  refine gx_ishr hC dr_Mo_gate_3 ?_
  refine gx_istore_n hC dr_Mo_gate_4 (by decide) ?_
  refine gx_iload_n hC dr_Mo_gate_5 rfl ?_
  refine gx_iconst (v := 1) hC dr_Mo_gate_6 (by decide) ?_
  refine gx_icmp_lt (tgt := 30) hC dr_Mo_gate_7 (by decide) (fun hc1 => ?_) (fun hc1 => ?_)
  · rw [if_pos (show ((p0 >>> ((16 : Int32) &&& 31)) : Int32) < 1 from hc1)] at h
    refine gx_iconst (v := 0) hC dr_Mo_gate_30 (by decide) ?_
    refine gx_istore_n hC dr_Mo_gate_31 (by decide) ?_
    refine gx_aload_n hC dr_Mo_gate_32 rfl ?_
    refine gx_iload_n hC dr_Mo_gate_33 rfl ?_
    refine gx_if_eq (tgt := 41) hC dr_Mo_gate_34 (by decide) (fun hc2 => ?_) (fun hc2 => ?_)
    · refine gx_iconst (v := 1) hC dr_Mo_gate_41 (by decide) ?_
      refine gx_put hC (by decide) dr_Mo_gate_42 lf_Mo_78 lp_Mo_thrown (by decide) rfl (Nat.le_of_ble_eq_true rfl) (fun _ => rfl) (fun _ => rfl) ma_F0 ?_
      refine gx_aload_n hC dr_Mo_gate_45 rfl ?_
      refine gx_get hC dr_Mo_gate_46 lf_Mo_78 (by decide) rfl rfl ?_
      refine gx_if_eq (tgt := 54) hC dr_Mo_gate_49 (by decide) (fun hc3 => ?_) (fun hc3 => ?_)
      · exact absurd (show (1 : Int32) = 0 from hc3) (by decide)
      · refine gx_iconst (v := 0) hC dr_Mo_gate_52 (by decide) ?_
        obtain rfl := Option.some.inj h
        exact hR (by decide) (by decide) dr_Mo_gate_53 rfl ⟨rfl, rfl⟩
    · exact absurd (show ¬ ((0 : Int32) = 0) from hc2) (by decide)
  · rw [if_neg (show ¬ (((p0 >>> ((16 : Int32) &&& 31)) : Int32) < 1) from hc1)] at h
    refine gx_iload_n hC dr_Mo_gate_10 rfl ?_
    refine gx_iconst (v := 4) hC dr_Mo_gate_11 (by decide) ?_
    refine gx_icmp_gt (tgt := 30) hC dr_Mo_gate_12 (by decide) (fun hc4 => ?_) (fun hc4 => ?_)
    · rw [if_pos (show 4 < ((p0 >>> ((16 : Int32) &&& 31)) : Int32) from hc4)] at h
      refine gx_iconst (v := 0) hC dr_Mo_gate_30 (by decide) ?_
      refine gx_istore_n hC dr_Mo_gate_31 (by decide) ?_
      refine gx_aload_n hC dr_Mo_gate_32 rfl ?_
      refine gx_iload_n hC dr_Mo_gate_33 rfl ?_
      refine gx_if_eq (tgt := 41) hC dr_Mo_gate_34 (by decide) (fun hc5 => ?_) (fun hc5 => ?_)
      · refine gx_iconst (v := 1) hC dr_Mo_gate_41 (by decide) ?_
        refine gx_put hC (by decide) dr_Mo_gate_42 lf_Mo_78 lp_Mo_thrown (by decide) rfl (Nat.le_of_ble_eq_true rfl) (fun _ => rfl) (fun _ => rfl) ma_F0 ?_
        refine gx_aload_n hC dr_Mo_gate_45 rfl ?_
        refine gx_get hC dr_Mo_gate_46 lf_Mo_78 (by decide) rfl rfl ?_
        refine gx_if_eq (tgt := 54) hC dr_Mo_gate_49 (by decide) (fun hc6 => ?_) (fun hc6 => ?_)
        · exact absurd (show (1 : Int32) = 0 from hc6) (by decide)
        · refine gx_iconst (v := 0) hC dr_Mo_gate_52 (by decide) ?_
          obtain rfl := Option.some.inj h
          exact hR (by decide) (by decide) dr_Mo_gate_53 rfl ⟨rfl, rfl⟩
      · exact absurd (show ¬ ((0 : Int32) = 0) from hc5) (by decide)
    · rw [if_neg (show ¬ (4 < ((p0 >>> ((16 : Int32) &&& 31)) : Int32)) from hc4)] at h
      refine gx_iload_n hC dr_Mo_gate_15 rfl ?_
      refine gx_ldc (v := 65535) hC dr_Mo_gate_16 lc_Mo_164 ?_
      refine gx_iand hC dr_Mo_gate_18 ?_
      refine gx_iconst (v := 1) hC dr_Mo_gate_19 (by decide) ?_
      refine gx_iload_n hC dr_Mo_gate_20 rfl ?_
      refine gx_ishl hC dr_Mo_gate_21 ?_
      refine gx_ishr hC dr_Mo_gate_22 ?_
      refine gx_if_ne (tgt := 30) hC dr_Mo_gate_23 (by decide) (fun hc7 => ?_) (fun hc7 => ?_)
      · rw [if_neg (show ¬ ((((p0 &&& 65535) >>> ((((1 : Int32) <<< (((p0 >>> ((16 : Int32) &&& 31)) : Int32) &&& 31)) : Int32) &&& 31)) : Int32) = 0) from hc7)] at h
        refine gx_iconst (v := 0) hC dr_Mo_gate_30 (by decide) ?_
        refine gx_istore_n hC dr_Mo_gate_31 (by decide) ?_
        refine gx_aload_n hC dr_Mo_gate_32 rfl ?_
        refine gx_iload_n hC dr_Mo_gate_33 rfl ?_
        refine gx_if_eq (tgt := 41) hC dr_Mo_gate_34 (by decide) (fun hc12 => ?_) (fun hc12 => ?_)
        · refine gx_iconst (v := 1) hC dr_Mo_gate_41 (by decide) ?_
          refine gx_put hC (by decide) dr_Mo_gate_42 lf_Mo_78 lp_Mo_thrown (by decide) rfl (Nat.le_of_ble_eq_true rfl) (fun _ => rfl) (fun _ => rfl) ma_F0 ?_
          refine gx_aload_n hC dr_Mo_gate_45 rfl ?_
          refine gx_get hC dr_Mo_gate_46 lf_Mo_78 (by decide) rfl rfl ?_
          refine gx_if_eq (tgt := 54) hC dr_Mo_gate_49 (by decide) (fun hc13 => ?_) (fun hc13 => ?_)
          · exact absurd (show (1 : Int32) = 0 from hc13) (by decide)
          · refine gx_iconst (v := 0) hC dr_Mo_gate_52 (by decide) ?_
            obtain rfl := Option.some.inj h
            exact hR (by decide) (by decide) dr_Mo_gate_53 rfl ⟨rfl, rfl⟩
        · exact absurd (show ¬ ((0 : Int32) = 0) from hc12) (by decide)
      · rw [if_pos (show (((p0 &&& 65535) >>> ((((1 : Int32) <<< (((p0 >>> ((16 : Int32) &&& 31)) : Int32) &&& 31)) : Int32) &&& 31)) : Int32) = 0 from hc7)] at h
        refine gx_iconst (v := 1) hC dr_Mo_gate_26 (by decide) ?_
        refine gx_goto (tgt := 31) hC dr_Mo_gate_27 (by decide) ?_
        refine gx_istore_n hC dr_Mo_gate_31 (by decide) ?_
        refine gx_aload_n hC dr_Mo_gate_32 rfl ?_
        refine gx_iload_n hC dr_Mo_gate_33 rfl ?_
        refine gx_if_eq (tgt := 41) hC dr_Mo_gate_34 (by decide) (fun hc8 => ?_) (fun hc8 => ?_)
        · exact absurd (show (1 : Int32) = 0 from hc8) (by decide)
        · refine gx_iconst (v := 0) hC dr_Mo_gate_37 (by decide) ?_
          refine gx_goto (tgt := 42) hC dr_Mo_gate_38 (by decide) ?_
          refine gx_put hC (by decide) dr_Mo_gate_42 lf_Mo_78 lp_Mo_thrown (by decide) rfl (Nat.le_of_ble_eq_true rfl) (fun _ => rfl) (fun _ => rfl) ma_F0 ?_
          refine gx_aload_n hC dr_Mo_gate_45 rfl ?_
          refine gx_get hC dr_Mo_gate_46 lf_Mo_78 (by decide) rfl rfl ?_
          refine gx_if_eq (tgt := 54) hC dr_Mo_gate_49 (by decide) (fun hc9 => ?_) (fun hc9 => ?_)
          · refine gx_aload_n hC dr_Mo_gate_54 rfl ?_
            refine gx_get hC dr_Mo_gate_55 lf_Mo_165 (by decide) rfl rfl ?_
            refine gx_bipush (v := 20) hC dr_Mo_gate_58 (by decide) ?_
            refine gx_icmp_ne (tgt := 65) hC dr_Mo_gate_60 (by decide) (fun hc10 => ?_) (fun hc10 => ?_)
            · rw [if_neg (show ¬ ((gq_f M 4) = 20) from hc10)] at h
              refine gx_aload_n hC dr_Mo_gate_65 rfl ?_
              refine gx_get hC dr_Mo_gate_66 lf_Mo_57 (by decide) rfl rfl ?_
              refine gx_aload_n hC dr_Mo_gate_69 rfl ?_
              refine gx_get hC dr_Mo_gate_70 lf_Mo_165 (by decide) rfl rfl ?_
              refine gx_iload_n hC dr_Mo_gate_73 rfl ?_
              obtain ⟨hz11, h⟩ := gk_of h
              refine gx_iast (f := (gq_i M 11)) hC (by decide) dr_Mo_gate_74 (by decide) rfl hz11 (ma_I 11 (by decide)) ?_
              refine gx_aload_n hC dr_Mo_gate_75 rfl ?_
              refine gx_get hC dr_Mo_gate_76 lf_Mo_60 (by decide) rfl rfl ?_
              refine gx_aload_n hC dr_Mo_gate_79 rfl ?_
              refine gx_get hC dr_Mo_gate_80 lf_Mo_165 (by decide) rfl rfl ?_
              refine gx_iload_n hC dr_Mo_gate_83 rfl ?_
              refine gx_ldc (v := 65535) hC dr_Mo_gate_84 lc_Mo_164 ?_
              refine gx_iand hC dr_Mo_gate_86 ?_
              refine gx_iast (f := (gq_i M 12)) hC (by decide) dr_Mo_gate_87 (by decide) rfl hz11 (ma_I 12 (by decide)) ?_
              refine gx_aload_n hC dr_Mo_gate_88 rfl ?_
              refine gx_dup hC dr_Mo_gate_89 rfl ?_
              refine gx_get hC dr_Mo_gate_90 lf_Mo_165 (by decide) rfl rfl ?_
              refine gx_iconst (v := 1) hC dr_Mo_gate_93 (by decide) ?_
              refine gx_iadd hC dr_Mo_gate_94 ?_
              refine gx_put hC (by decide) dr_Mo_gate_95 lf_Mo_165 lp_Mo_gates (by decide) rfl (Nat.le_of_ble_eq_true rfl) (fun _ => rfl) (fun _ => rfl) ma_F4 ?_
              refine gx_aload_n hC dr_Mo_gate_98 rfl ?_
              refine gx_get hC dr_Mo_gate_99 lf_Mo_165 (by decide) rfl rfl ?_
              refine gx_iconst (v := 1) hC dr_Mo_gate_102 (by decide) ?_
              refine gx_isub hC dr_Mo_gate_103 ?_
              obtain rfl := Option.some.inj h
              exact hR (by decide) (by decide) dr_Mo_gate_104 rfl ⟨rfl, rfl⟩
            · rw [if_pos (show (gq_f M 4) = 20 from hc10)] at h
              refine gx_iconst (v := (-1)) hC dr_Mo_gate_63 (by decide) ?_
              obtain rfl := Option.some.inj h
              exact hR (by decide) (by decide) dr_Mo_gate_64 rfl ⟨rfl, rfl⟩
          · exact absurd (show ¬ ((0 : Int32) = 0) from hc9) (by decide)
def fl_Mo_isSo_26 (M : gq_M) (K11 : Int32 → Int32 → Int32 → Int32 → Int32 → Option Int32) : Nat → Int32 → Int32 → Int32 → Int32 → Int32 → Int32 → Int32 → Option Int32
  | 0, _, _, _, _, _, _, _ => none
  | k + 1, v1, v2, v3, v4, v5, v6, v7 => if v4 ≤ v7 then if 0 ≤ v1.toInt ∧ v1.toInt < ((20 : Nat) : Int) then if 0 ≤ v2.toInt ∧ v2.toInt < ((20 : Nat) : Int) then if (((((gq_i M 12) v1.toInt) >>> (v5 &&& 31)) : Int32) &&& 1) = (((((gq_i M 12) v2.toInt) >>> (v6 &&& 31)) : Int32) &&& 1) then K11 v1 v2 v3 v4 (v5 + 1) else some 0 else none else none else fl_Mo_isSo_26 M K11 k v1 v2 v3 v4 v5 (v6 ||| (((((v5 >>> (v7 &&& 31)) : Int32) &&& 1) <<< ((((v3 >>> ((2 * v7) &&& 31)) : Int32) &&& 3) &&& 31)) : Int32)) (v7 + 1)
def fl_Mo_isSo_11 (M : gq_M) : Nat → Int32 → Int32 → Int32 → Int32 → Int32 → Option Int32
  | 0, _, _, _, _, _ => none
  | k + 1, v1, v2, v3, v4, v5 => if (((1 : Int32) <<< (v4 &&& 31)) : Int32) ≤ v5 then some 1 else fl_Mo_isSo_26 M (fl_Mo_isSo_11 M k) 5000 v1 v2 v3 v4 v5 0 0
def fn_Mo_isSo (p0 : Int32) (p1 : Int32) (p2 : Int32) (M : gq_M) : Option Int32 := if 0 ≤ p0.toInt ∧ p0.toInt < ((20 : Nat) : Int) then fl_Mo_isSo_11 M 5000 p0 p1 p2 ((gq_i M 11) p0.toInt) 0 else none
set_option maxHeartbeats 4000000 in
set_option maxRecDepth 100000 in
theorem gl_Mo_isSo_26 {x : gx_X} {G : gq_M × (Int → Int64)} {M : gq_M} {r : Int32} (hC : gw_C 81 0 yn_Mo_isSo.cls bc_Mo_isSo 8 x) (hR : gr_I 81 bc_Mo_isSo 8 .boolean ({ frames := 0, cells := 0, slots := 0, locals := 0 } : Room) x (fun z c2 => z = r ∧ c2 = ca_A (G.1, M, G.2))) {K11 : Int32 → Int32 → Int32 → Int32 → Int32 → Option Int32} (hK11 : ∀ (v1 : Int32) (v2 : Int32) (v3 : Int32) (v4 : Int32) (v5 : Int32), K11 v1 v2 v3 v4 v5 = some r → gw_G 81 8 ({ frames := 0, cells := 0, slots := 0, locals := 0 } : Room) x 0 0 (ca_A (G.1, M, G.2)) 11 [(0, gv_R 57), (1, gv_I v1), (2, gv_I v2), (3, gv_I v3), (4, gv_I v4), (5, gv_I v5)] []) : ∀ (k : Nat) (v1 : Int32) (v2 : Int32) (v3 : Int32) (v4 : Int32) (v5 : Int32) (v6 : Int32) (v7 : Int32), fl_Mo_isSo_26 M K11 k v1 v2 v3 v4 v5 v6 v7 = some r → gw_G 81 8 ({ frames := 0, cells := 0, slots := 0, locals := 0 } : Room) x 0 0 (ca_A (G.1, M, G.2)) 26 [(0, gv_R 57), (1, gv_I v1), (2, gv_I v2), (3, gv_I v3), (4, gv_I v4), (5, gv_I v5), (6, gv_I v6), (7, gv_I v7)] [] := by
  intro k
  induction k with
  | zero =>
    intro v1 v2 v3 v4 v5 v6 v7 h
    cases h
  | succ k ih =>
    intro v1 v2 v3 v4 v5 v6 v7 h
    rw [fl_Mo_isSo_26] at h
    refine gx_iload hC dr_Mo_isSo_26 rfl ?_
    refine gx_iload hC dr_Mo_isSo_28 rfl ?_
    refine gx_icmp_ge (tgt := 60) hC dr_Mo_isSo_30 (by decide) (fun hc3 => ?_) (fun hc3 => ?_)
    · rw [if_pos (show v4 ≤ v7 from hc3)] at h
      refine gx_aload_n hC dr_Mo_isSo_60 rfl ?_
      refine gx_get hC dr_Mo_isSo_61 lf_Mo_60 (by decide) rfl rfl ?_
      refine gx_iload_n hC dr_Mo_isSo_64 rfl ?_
      obtain ⟨hz4, h⟩ := gk_of h
      refine gx_iald (f := (gq_i M 12)) hC dr_Mo_isSo_65 (by decide) rfl hz4 ?_
      refine gx_iload hC dr_Mo_isSo_66 rfl ?_
      refine gx_ishr hC dr_Mo_isSo_68 ?_
      refine gx_iconst (v := 1) hC dr_Mo_isSo_69 (by decide) ?_
      refine gx_iand hC dr_Mo_isSo_70 ?_
      refine gx_aload_n hC dr_Mo_isSo_71 rfl ?_
      refine gx_get hC dr_Mo_isSo_72 lf_Mo_60 (by decide) rfl rfl ?_
      refine gx_iload_n hC dr_Mo_isSo_75 rfl ?_
      obtain ⟨hz5, h⟩ := gk_of h
      refine gx_iald (f := (gq_i M 12)) hC dr_Mo_isSo_76 (by decide) rfl hz5 ?_
      refine gx_iload hC dr_Mo_isSo_77 rfl ?_
      refine gx_ishr hC dr_Mo_isSo_79 ?_
      refine gx_iconst (v := 1) hC dr_Mo_isSo_80 (by decide) ?_
      refine gx_iand hC dr_Mo_isSo_81 ?_
      refine gx_icmp_eq (tgt := 87) hC dr_Mo_isSo_82 (by decide) (fun hc6 => ?_) (fun hc6 => ?_)
      · rw [if_pos (show (((((gq_i M 12) v1.toInt) >>> (v5 &&& 31)) : Int32) &&& 1) = (((((gq_i M 12) v2.toInt) >>> (v6 &&& 31)) : Int32) &&& 1) from hc6)] at h
        refine gx_iinc (v := (v5 + 1)) hC dr_Mo_isSo_87 rfl (by decide) rfl ?_
        refine gx_goto (tgt := 11) hC dr_Mo_isSo_90 (by decide) ?_
        exact gx_lv [(0, gv_R 57), (1, gv_I v1), (2, gv_I v2), (3, gv_I v3), (4, gv_I v4), (5, gv_I (v5 + 1))] ⟨rfl, rfl, rfl, rfl, rfl, rfl, trivial⟩ (hK11 _ _ _ _ _ h)
      · rw [if_neg (show ¬ ((((((gq_i M 12) v1.toInt) >>> (v5 &&& 31)) : Int32) &&& 1) = (((((gq_i M 12) v2.toInt) >>> (v6 &&& 31)) : Int32) &&& 1)) from hc6)] at h
        refine gx_iconst (v := 0) hC dr_Mo_isSo_85 (by decide) ?_
        obtain rfl := Option.some.inj h
        exact hR (by decide) (by decide) dr_Mo_isSo_86 rfl ⟨rfl, rfl⟩
    · rw [if_neg (show ¬ (v4 ≤ v7) from hc3)] at h
      refine gx_iload hC dr_Mo_isSo_33 rfl ?_
      refine gx_iload hC dr_Mo_isSo_35 rfl ?_
      refine gx_iload hC dr_Mo_isSo_37 rfl ?_
      refine gx_ishr hC dr_Mo_isSo_39 ?_
      refine gx_iconst (v := 1) hC dr_Mo_isSo_40 (by decide) ?_
      refine gx_iand hC dr_Mo_isSo_41 ?_
      refine gx_iload_n hC dr_Mo_isSo_42 rfl ?_
      refine gx_iconst (v := 2) hC dr_Mo_isSo_43 (by decide) ?_
      refine gx_iload hC dr_Mo_isSo_44 rfl ?_
      refine gx_imul hC dr_Mo_isSo_46 ?_
      refine gx_ishr hC dr_Mo_isSo_47 ?_
      refine gx_iconst (v := 3) hC dr_Mo_isSo_48 (by decide) ?_
      refine gx_iand hC dr_Mo_isSo_49 ?_
      refine gx_ishl hC dr_Mo_isSo_50 ?_
      refine gx_ior hC dr_Mo_isSo_51 ?_
      refine gx_istore hC dr_Mo_isSo_52 (by decide) ?_
      refine gx_iinc (v := (v7 + 1)) hC dr_Mo_isSo_54 rfl (by decide) rfl ?_
      refine gx_goto (tgt := 26) hC dr_Mo_isSo_57 (by decide) ?_
      exact gx_lv [(0, gv_R 57), (1, gv_I v1), (2, gv_I v2), (3, gv_I v3), (4, gv_I v4), (5, gv_I v5), (6, gv_I (v6 ||| (((((v5 >>> (v7 &&& 31)) : Int32) &&& 1) <<< ((((v3 >>> ((2 * v7) &&& 31)) : Int32) &&& 3) &&& 31)) : Int32))), (7, gv_I (v7 + 1))] ⟨rfl, rfl, rfl, rfl, rfl, rfl, rfl, rfl, trivial⟩ (ih _ _ _ _ _ _ _ h)
set_option maxHeartbeats 4000000 in
set_option maxRecDepth 100000 in
theorem gl_Mo_isSo_11 {x : gx_X} {G : gq_M × (Int → Int64)} {M : gq_M} {r : Int32} (hC : gw_C 81 0 yn_Mo_isSo.cls bc_Mo_isSo 8 x) (hR : gr_I 81 bc_Mo_isSo 8 .boolean ({ frames := 0, cells := 0, slots := 0, locals := 0 } : Room) x (fun z c2 => z = r ∧ c2 = ca_A (G.1, M, G.2))) : ∀ (k : Nat) (v1 : Int32) (v2 : Int32) (v3 : Int32) (v4 : Int32) (v5 : Int32), fl_Mo_isSo_11 M k v1 v2 v3 v4 v5 = some r → gw_G 81 8 ({ frames := 0, cells := 0, slots := 0, locals := 0 } : Room) x 0 0 (ca_A (G.1, M, G.2)) 11 [(0, gv_R 57), (1, gv_I v1), (2, gv_I v2), (3, gv_I v3), (4, gv_I v4), (5, gv_I v5)] [] := by
  intro k
  induction k with
  | zero =>
    intro v1 v2 v3 v4 v5 h
    cases h
  | succ k ih =>
    intro v1 v2 v3 v4 v5 h
    rw [fl_Mo_isSo_11] at h
    refine gx_iload hC dr_Mo_isSo_11 rfl ?_
    refine gx_iconst (v := 1) hC dr_Mo_isSo_13 (by decide) ?_
    refine gx_iload hC dr_Mo_isSo_14 rfl ?_
    refine gx_ishl hC dr_Mo_isSo_16 ?_
    refine gx_icmp_ge (tgt := 93) hC dr_Mo_isSo_17 (by decide) (fun hc2 => ?_) (fun hc2 => ?_)
    · rw [if_pos (show (((1 : Int32) <<< (v4 &&& 31)) : Int32) ≤ v5 from hc2)] at h
      refine gx_iconst (v := 1) hC dr_Mo_isSo_93 (by decide) ?_
      obtain rfl := Option.some.inj h
      exact hR (by decide) (by decide) dr_Mo_isSo_94 rfl ⟨rfl, rfl⟩
    · rw [if_neg (show ¬ ((((1 : Int32) <<< (v4 &&& 31)) : Int32) ≤ v5) from hc2)] at h
      refine gx_iconst (v := 0) hC dr_Mo_isSo_20 (by decide) ?_
      refine gx_istore hC dr_Mo_isSo_21 (by decide) ?_
      refine gx_iconst (v := 0) hC dr_Mo_isSo_23 (by decide) ?_
      refine gx_istore hC dr_Mo_isSo_24 (by decide) ?_
      exact gx_lv [(0, gv_R 57), (1, gv_I v1), (2, gv_I v2), (3, gv_I v3), (4, gv_I v4), (5, gv_I v5), (6, gv_I 0), (7, gv_I 0)] ⟨rfl, rfl, rfl, rfl, rfl, rfl, rfl, rfl, trivial⟩ (gl_Mo_isSo_26 hC hR (fun _ _ _ _ _ h => ih _ _ _ _ _ h) 5000 _ _ _ _ _ _ _ h)
set_option maxHeartbeats 4000000 in
set_option maxRecDepth 100000 in
theorem mt_Mo_isSo {l : Launch} {D : va_G} {ad : Nat → Nat} {ck : Nat → ClassId} {G : gq_M × (Int → Int64)} {p0 : Int32} {p1 : Int32} {p2 : Int32} {M : gq_M} {r : Int32} (h : fn_Mo_isSo p0 p1 p2 M = some r) : gm_I 81 0 l D ad ck yn_Mo_isSo bc_Mo_isSo 8 .boolean ({ frames := 0, cells := 0, slots := 0, locals := 0 } : Room) [gv_R 57, gv_I p0, gv_I p1, gv_I p2] (ca_A (G.1, M, G.2)) (fun z c2 => z = r ∧ c2 = ca_A (G.1, M, G.2)) := by
  refine gm_I.of (by decide) (Nat.le_of_ble_eq_true rfl) (fun x hC hR => ?_)
  unfold fn_Mo_isSo at h
  refine gx_aload_n hC dr_Mo_isSo_0 rfl ?_
  refine gx_get hC dr_Mo_isSo_1 lf_Mo_57 (by decide) rfl rfl ?_
  refine gx_iload_n hC dr_Mo_isSo_4 rfl ?_
  obtain ⟨hz1, h⟩ := gk_of h
  refine gx_iald (f := (gq_i M 11)) hC dr_Mo_isSo_5 (by decide) rfl hz1 ?_
  refine gx_istore hC dr_Mo_isSo_6 (by decide) ?_
  refine gx_iconst (v := 0) hC dr_Mo_isSo_8 (by decide) ?_
  refine gx_istore hC dr_Mo_isSo_9 (by decide) ?_
  exact gx_lv [(0, gv_R 57), (1, gv_I p0), (2, gv_I p1), (3, gv_I p2), (4, gv_I ((gq_i M 11) p0.toInt)), (5, gv_I 0)] ⟨rfl, rfl, rfl, rfl, rfl, rfl, trivial⟩ (gl_Mo_isSo_11 hC hR 5000 _ _ _ _ _ h)
def fl_Mo_isOrder_4 (M : gq_M) : Nat → Int32 → Int32 → Int32 → Int32 → Option Int32
  | 0, _, _, _, _ => none
  | k + 1, v0, v1, v2, v3 => if v1 ≤ v3 then if v2 = ((((1 : Int32) <<< (v1 &&& 31)) : Int32) - 1) then some 1 else some 0 else fl_Mo_isOrder_4 M k v0 v1 (v2 ||| (((1 : Int32) <<< ((((v0 >>> ((2 * v3) &&& 31)) : Int32) &&& 3) &&& 31)) : Int32)) (v3 + 1)
def fn_Mo_isOrder (p0 : Int32) (p1 : Int32) (M : gq_M) : Option Int32 := fl_Mo_isOrder_4 M 5000 p0 p1 0 0
set_option maxHeartbeats 4000000 in
set_option maxRecDepth 100000 in
theorem gl_Mo_isOrder_4 {x : gx_X} {G : gq_M × (Int → Int64)} {M : gq_M} {r : Int32} (hC : gw_C 81 0 yn_Mo_isOrder.cls bc_Mo_isOrder 4 x) (hR : gr_I 81 bc_Mo_isOrder 4 .boolean ({ frames := 0, cells := 0, slots := 0, locals := 0 } : Room) x (fun z c2 => z = r ∧ c2 = ca_A (G.1, M, G.2))) : ∀ (k : Nat) (v0 : Int32) (v1 : Int32) (v2 : Int32) (v3 : Int32), fl_Mo_isOrder_4 M k v0 v1 v2 v3 = some r → gw_G 81 4 ({ frames := 0, cells := 0, slots := 0, locals := 0 } : Room) x 0 0 (ca_A (G.1, M, G.2)) 4 [(0, gv_I v0), (1, gv_I v1), (2, gv_I v2), (3, gv_I v3)] [] := by
  intro k
  induction k with
  | zero =>
    intro v0 v1 v2 v3 h
    cases h
  | succ k ih =>
    intro v0 v1 v2 v3 h
    rw [fl_Mo_isOrder_4] at h
    refine gx_iload_n hC dr_Mo_isOrder_4 rfl ?_
    refine gx_iload_n hC dr_Mo_isOrder_5 rfl ?_
    refine gx_icmp_ge (tgt := 27) hC dr_Mo_isOrder_6 (by decide) (fun hc1 => ?_) (fun hc1 => ?_)
    · rw [if_pos (show v1 ≤ v3 from hc1)] at h
      refine gx_iload_n hC dr_Mo_isOrder_27 rfl ?_
      refine gx_iconst (v := 1) hC dr_Mo_isOrder_28 (by decide) ?_
      refine gx_iload_n hC dr_Mo_isOrder_29 rfl ?_
      refine gx_ishl hC dr_Mo_isOrder_30 ?_
      refine gx_iconst (v := 1) hC dr_Mo_isOrder_31 (by decide) ?_
      refine gx_isub hC dr_Mo_isOrder_32 ?_
      refine gx_icmp_ne (tgt := 40) hC dr_Mo_isOrder_33 (by decide) (fun hc2 => ?_) (fun hc2 => ?_)
      · rw [if_neg (show ¬ (v2 = ((((1 : Int32) <<< (v1 &&& 31)) : Int32) - 1)) from hc2)] at h
        refine gx_iconst (v := 0) hC dr_Mo_isOrder_40 (by decide) ?_
        obtain rfl := Option.some.inj h
        exact hR (by decide) (by decide) dr_Mo_isOrder_41 rfl ⟨rfl, rfl⟩
      · rw [if_pos (show v2 = ((((1 : Int32) <<< (v1 &&& 31)) : Int32) - 1) from hc2)] at h
        refine gx_iconst (v := 1) hC dr_Mo_isOrder_36 (by decide) ?_
        refine gx_goto (tgt := 41) hC dr_Mo_isOrder_37 (by decide) ?_
        obtain rfl := Option.some.inj h
        exact hR (by decide) (by decide) dr_Mo_isOrder_41 rfl ⟨rfl, rfl⟩
    · rw [if_neg (show ¬ (v1 ≤ v3) from hc1)] at h
      refine gx_iload_n hC dr_Mo_isOrder_9 rfl ?_
      refine gx_iconst (v := 1) hC dr_Mo_isOrder_10 (by decide) ?_
      refine gx_iload_n hC dr_Mo_isOrder_11 rfl ?_
      refine gx_iconst (v := 2) hC dr_Mo_isOrder_12 (by decide) ?_
      refine gx_iload_n hC dr_Mo_isOrder_13 rfl ?_
      refine gx_imul hC dr_Mo_isOrder_14 ?_
      refine gx_ishr hC dr_Mo_isOrder_15 ?_
      refine gx_iconst (v := 3) hC dr_Mo_isOrder_16 (by decide) ?_
      refine gx_iand hC dr_Mo_isOrder_17 ?_
      refine gx_ishl hC dr_Mo_isOrder_18 ?_
      refine gx_ior hC dr_Mo_isOrder_19 ?_
      refine gx_istore_n hC dr_Mo_isOrder_20 (by decide) ?_
      refine gx_iinc (v := (v3 + 1)) hC dr_Mo_isOrder_21 rfl (by decide) rfl ?_
      refine gx_goto (tgt := 4) hC dr_Mo_isOrder_24 (by decide) ?_
      exact gx_lv [(0, gv_I v0), (1, gv_I v1), (2, gv_I (v2 ||| (((1 : Int32) <<< ((((v0 >>> ((2 * v3) &&& 31)) : Int32) &&& 3) &&& 31)) : Int32))), (3, gv_I (v3 + 1))] ⟨rfl, rfl, rfl, rfl, trivial⟩ (ih _ _ _ _ h)
set_option maxHeartbeats 4000000 in
set_option maxRecDepth 100000 in
theorem mt_Mo_isOrder {l : Launch} {D : va_G} {ad : Nat → Nat} {ck : Nat → ClassId} {G : gq_M × (Int → Int64)} {p0 : Int32} {p1 : Int32} {M : gq_M} {r : Int32} (h : fn_Mo_isOrder p0 p1 M = some r) : gm_I 81 0 l D ad ck yn_Mo_isOrder bc_Mo_isOrder 4 .boolean ({ frames := 0, cells := 0, slots := 0, locals := 0 } : Room) [gv_I p0, gv_I p1] (ca_A (G.1, M, G.2)) (fun z c2 => z = r ∧ c2 = ca_A (G.1, M, G.2)) := by
  refine gm_I.of (by decide) (Nat.le_of_ble_eq_true rfl) (fun x hC hR => ?_)
  unfold fn_Mo_isOrder at h
  refine gx_iconst (v := 0) hC dr_Mo_isOrder_0 (by decide) ?_
  refine gx_istore_n hC dr_Mo_isOrder_1 (by decide) ?_
  refine gx_iconst (v := 0) hC dr_Mo_isOrder_2 (by decide) ?_
  refine gx_istore_n hC dr_Mo_isOrder_3 (by decide) ?_
  exact gx_lv [(0, gv_I p0), (1, gv_I p1), (2, gv_I 0), (3, gv_I 0)] ⟨rfl, rfl, rfl, rfl, trivial⟩ (gl_Mo_isOrder_4 hC hR 5000 _ _ _ _ h)
def fl_Mo_equalGate_73 : Nat → Int32 → Int32 → Int32 → Int32 → gq_M → Option (Int32 × gq_M)
  | 0, _, _, _, _, _ => none
  | k + 1, v1, v2, v4, v5, M => if 0 ≤ v1.toInt ∧ v1.toInt < ((20 : Nat) : Int) then if (((1 : Int32) <<< ((2 * ((gq_i M 11) v1.toInt)) &&& 31)) : Int32) ≤ v5 then if vp_nar .boolean v4 = v4 then some (v4, M) else none else if v4 = 0 then (fn_Mo_isOrder v5 ((gq_i M 11) v1.toInt) M).bind fun q22 => if q22 = 0 then fl_Mo_equalGate_73 k v1 v2 0 (v5 + 1) M else (fn_Mo_isSo v1 v2 v5 M).bind fun q25 => if q25 = 0 then fl_Mo_equalGate_73 k v1 v2 0 (v5 + 1) M else fl_Mo_equalGate_73 k v1 v2 1 (v5 + 1) M else fl_Mo_equalGate_73 k v1 v2 1 (v5 + 1) M else none
def fn_Mo_equalGate (p0 : Int32) (p1 : Int32) (M : gq_M) : Option (Int32 × gq_M) := if p0 < 0 then some (0, (gs_f M 0 1)) else if (gq_f M 4) ≤ p0 then some (0, (gs_f M 0 1)) else if p1 < 0 then some (0, (gs_f M 0 1)) else if (gq_f M 4) ≤ p1 then some (0, (gs_f M 0 1)) else if 0 ≤ p0.toInt ∧ p0.toInt < ((20 : Nat) : Int) then if 0 ≤ p1.toInt ∧ p1.toInt < ((20 : Nat) : Int) then if ((gq_i M 11) p0.toInt) = ((gq_i M 11) p1.toInt) then fl_Mo_equalGate_73 5000 p0 p1 0 0 (gs_f M 0 0) else some (0, (gs_f M 0 0)) else none else none
set_option maxHeartbeats 4000000 in
set_option maxRecDepth 100000 in
theorem gl_Mo_equalGate_73 {x : gx_X} {G : gq_M × (Int → Int64)} {r : (Int32 × gq_M)} (hC : gw_C 81 81 yn_Mo_equalGate.cls bc_Mo_equalGate 6 x) (hR : gr_I 81 bc_Mo_equalGate 6 .boolean ({ frames := 1, cells := 0, slots := 0, locals := 27 } : Room) x (fun z c2 => z = r.1 ∧ c2 = ca_A (G.1, r.2, G.2))) : ∀ (k : Nat) (v1 : Int32) (v2 : Int32) (v4 : Int32) (v5 : Int32) (M : gq_M), fl_Mo_equalGate_73 k v1 v2 v4 v5 M = some r → gw_G 81 6 ({ frames := 1, cells := 0, slots := 0, locals := 27 } : Room) x 0 0 (ca_A (G.1, M, G.2)) 73 [(0, gv_R 57), (1, gv_I v1), (2, gv_I v2), (4, gv_I v4), (5, gv_I v5)] [] := by
  intro k
  induction k with
  | zero =>
    intro v1 v2 v4 v5 M h
    cases h
  | succ k ih =>
    intro v1 v2 v4 v5 M h
    rw [fl_Mo_equalGate_73] at h
    refine gx_iload hC dr_Mo_equalGate_73 rfl ?_
    refine gx_iconst (v := 1) hC dr_Mo_equalGate_75 (by decide) ?_
    refine gx_iconst (v := 2) hC dr_Mo_equalGate_76 (by decide) ?_
    refine gx_aload_n hC dr_Mo_equalGate_77 rfl ?_
    refine gx_get hC dr_Mo_equalGate_78 lf_Mo_57 (by decide) rfl rfl ?_
    refine gx_iload_n hC dr_Mo_equalGate_81 rfl ?_
    obtain ⟨hz18, h⟩ := gk_of h
    refine gx_iald (f := (gq_i M 11)) hC dr_Mo_equalGate_82 (by decide) rfl hz18 ?_
    refine gx_imul hC dr_Mo_equalGate_83 ?_
    refine gx_ishl hC dr_Mo_equalGate_84 ?_
    refine gx_icmp_ge (tgt := 131) hC dr_Mo_equalGate_85 (by decide) (fun hc19 => ?_) (fun hc19 => ?_)
    · rw [if_pos (show (((1 : Int32) <<< ((2 * ((gq_i M 11) v1.toInt)) &&& 31)) : Int32) ≤ v5 from hc19)] at h
      refine gx_iload hC dr_Mo_equalGate_131 rfl ?_
      obtain ⟨hz20, h⟩ := gk_of h
      obtain rfl := Option.some.inj h
      exact hR (by decide) (by decide) dr_Mo_equalGate_133 (gk_nar hz20) ⟨rfl, rfl⟩
    · rw [if_neg (show ¬ ((((1 : Int32) <<< ((2 * ((gq_i M 11) v1.toInt)) &&& 31)) : Int32) ≤ v5) from hc19)] at h
      refine gx_iload hC dr_Mo_equalGate_88 rfl ?_
      refine gx_if_ne (tgt := 118) hC dr_Mo_equalGate_90 (by decide) (fun hc21 => ?_) (fun hc21 => ?_)
      · rw [if_neg (show ¬ (v4 = 0) from hc21)] at h
        refine gx_iconst (v := 1) hC dr_Mo_equalGate_118 (by decide) ?_
        refine gx_goto (tgt := 123) hC dr_Mo_equalGate_119 (by decide) ?_
        refine gx_istore hC dr_Mo_equalGate_123 (by decide) ?_
        refine gx_iinc (v := (v5 + 1)) hC dr_Mo_equalGate_125 rfl (by decide) rfl ?_
        refine gx_goto (tgt := 73) hC dr_Mo_equalGate_128 (by decide) ?_
        exact gx_lv [(0, gv_R 57), (1, gv_I v1), (2, gv_I v2), (4, gv_I 1), (5, gv_I (v5 + 1))] ⟨rfl, rfl, rfl, rfl, rfl, trivial⟩ (ih _ _ _ _ _ h)
      · rw [if_pos (show v4 = 0 from hc21)] at h
        refine gx_iload hC dr_Mo_equalGate_93 rfl ?_
        refine gx_aload_n hC dr_Mo_equalGate_95 rfl ?_
        refine gx_get hC dr_Mo_equalGate_96 lf_Mo_57 (by decide) rfl rfl ?_
        refine gx_iload_n hC dr_Mo_equalGate_99 rfl ?_
        refine gx_iald (f := (gq_i M 11)) hC dr_Mo_equalGate_100 (by decide) rfl hz18 ?_
        obtain ⟨q22, e23, h⟩ := gb_of h
        refine gx_sI hC dr_Mo_equalGate_101 lk_Mo_168 (mt_Mo_isOrder e23) rfl (by decide) ⟨by decide, by decide⟩ ⟨by decide, by decide⟩ rfl (Nat.le_of_ble_eq_true rfl) (fun z c2 hp => ?_)
        obtain ⟨hp1, rfl⟩ := hp; obtain rfl := hp1.symm
        refine gx_if_eq (tgt := 122) hC dr_Mo_equalGate_104 (by decide) (fun hc24 => ?_) (fun hc24 => ?_)
        · rw [if_pos (show q22 = 0 from hc24)] at h
          refine gx_iconst (v := 0) hC dr_Mo_equalGate_122 (by decide) ?_
          refine gx_istore hC dr_Mo_equalGate_123 (by decide) ?_
          refine gx_iinc (v := (v5 + 1)) hC dr_Mo_equalGate_125 rfl (by decide) rfl ?_
          refine gx_goto (tgt := 73) hC dr_Mo_equalGate_128 (by decide) ?_
          exact gx_lv [(0, gv_R 57), (1, gv_I v1), (2, gv_I v2), (4, gv_I 0), (5, gv_I (v5 + 1))] ⟨rfl, rfl, rfl, rfl, rfl, trivial⟩ (ih _ _ _ _ _ h)
        · rw [if_neg (show ¬ (q22 = 0) from hc24)] at h
          refine gx_aload_n hC dr_Mo_equalGate_107 rfl ?_
          refine gx_iload_n hC dr_Mo_equalGate_108 rfl ?_
          refine gx_iload_n hC dr_Mo_equalGate_109 rfl ?_
          refine gx_iload hC dr_Mo_equalGate_110 rfl ?_
          obtain ⟨q25, e26, h⟩ := gb_of h
          refine gx_vI hC dr_Mo_equalGate_112 lk_Mo_172 (mt_Mo_isSo e26) rfl (by decide) ⟨by decide, by decide⟩ ⟨by decide, by decide⟩ (by decide) ⟨_, _, rfl⟩ rfl rfl (Nat.le_of_ble_eq_true rfl) (fun z c2 hp => ?_)
          obtain ⟨hp1, rfl⟩ := hp; obtain rfl := hp1.symm
          refine gx_if_eq (tgt := 122) hC dr_Mo_equalGate_115 (by decide) (fun hc27 => ?_) (fun hc27 => ?_)
          · rw [if_pos (show q25 = 0 from hc27)] at h
            refine gx_iconst (v := 0) hC dr_Mo_equalGate_122 (by decide) ?_
            refine gx_istore hC dr_Mo_equalGate_123 (by decide) ?_
            refine gx_iinc (v := (v5 + 1)) hC dr_Mo_equalGate_125 rfl (by decide) rfl ?_
            refine gx_goto (tgt := 73) hC dr_Mo_equalGate_128 (by decide) ?_
            exact gx_lv [(0, gv_R 57), (1, gv_I v1), (2, gv_I v2), (4, gv_I 0), (5, gv_I (v5 + 1))] ⟨rfl, rfl, rfl, rfl, rfl, trivial⟩ (ih _ _ _ _ _ h)
          · rw [if_neg (show ¬ (q25 = 0) from hc27)] at h
            refine gx_iconst (v := 1) hC dr_Mo_equalGate_118 (by decide) ?_
            refine gx_goto (tgt := 123) hC dr_Mo_equalGate_119 (by decide) ?_
            refine gx_istore hC dr_Mo_equalGate_123 (by decide) ?_
            refine gx_iinc (v := (v5 + 1)) hC dr_Mo_equalGate_125 rfl (by decide) rfl ?_
            refine gx_goto (tgt := 73) hC dr_Mo_equalGate_128 (by decide) ?_
            exact gx_lv [(0, gv_R 57), (1, gv_I v1), (2, gv_I v2), (4, gv_I 1), (5, gv_I (v5 + 1))] ⟨rfl, rfl, rfl, rfl, rfl, trivial⟩ (ih _ _ _ _ _ h)
set_option maxHeartbeats 4000000 in
set_option maxRecDepth 100000 in
theorem mt_Mo_equalGate {l : Launch} {D : va_G} {ad : Nat → Nat} {ck : Nat → ClassId} {G : gq_M × (Int → Int64)} {p0 : Int32} {p1 : Int32} {M : gq_M} {r : (Int32 × gq_M)} (h : fn_Mo_equalGate p0 p1 M = some r) : gm_I 81 81 l D ad ck yn_Mo_equalGate bc_Mo_equalGate 6 .boolean ({ frames := 1, cells := 0, slots := 0, locals := 27 } : Room) [gv_R 57, gv_I p0, gv_I p1] (ca_A (G.1, M, G.2)) (fun z c2 => z = r.1 ∧ c2 = ca_A (G.1, r.2, G.2)) := by
  refine gm_I.of (by decide) (Nat.le_of_ble_eq_true rfl) (fun x hC hR => ?_)
  unfold fn_Mo_equalGate at h
  refine gx_iload_n hC dr_Mo_equalGate_0 rfl ?_
  refine gx_if_lt (tgt := 28) hC dr_Mo_equalGate_1 (by decide) (fun hc1 => ?_) (fun hc1 => ?_)
  · rw [if_pos (show p0 < 0 from hc1)] at h
    refine gx_iconst (v := 0) hC dr_Mo_equalGate_28 (by decide) ?_
    refine gx_istore_n hC dr_Mo_equalGate_29 (by decide) ?_
    refine gx_aload_n hC dr_Mo_equalGate_30 rfl ?_
    refine gx_iload_n hC dr_Mo_equalGate_31 rfl ?_
    refine gx_if_eq (tgt := 39) hC dr_Mo_equalGate_32 (by decide) (fun hc2 => ?_) (fun hc2 => ?_)
    · refine gx_iconst (v := 1) hC dr_Mo_equalGate_39 (by decide) ?_
      refine gx_put hC (by decide) dr_Mo_equalGate_40 lf_Mo_78 lp_Mo_thrown (by decide) rfl (Nat.le_of_ble_eq_true rfl) (fun _ => rfl) (fun _ => rfl) ma_F0 ?_
      refine gx_aload_n hC dr_Mo_equalGate_43 rfl ?_
      refine gx_get hC dr_Mo_equalGate_44 lf_Mo_78 (by decide) rfl rfl ?_
      refine gx_if_ne (tgt := 65) hC dr_Mo_equalGate_47 (by decide) (fun hc3 => ?_) (fun hc3 => ?_)
      · refine gx_iconst (v := 0) hC dr_Mo_equalGate_65 (by decide) ?_
        obtain rfl := Option.some.inj h
        exact hR (by decide) (by decide) dr_Mo_equalGate_66 rfl ⟨rfl, rfl⟩
      · exact absurd (show (1 : Int32) = 0 from hc3) (by decide)
    · exact absurd (show ¬ ((0 : Int32) = 0) from hc2) (by decide)
  · rw [if_neg (show ¬ (p0 < 0) from hc1)] at h
    refine gx_iload_n hC dr_Mo_equalGate_4 rfl ?_
    refine gx_aload_n hC dr_Mo_equalGate_5 rfl ?_
    refine gx_get hC dr_Mo_equalGate_6 lf_Mo_165 (by decide) rfl rfl ?_
    refine gx_icmp_ge (tgt := 28) hC dr_Mo_equalGate_9 (by decide) (fun hc4 => ?_) (fun hc4 => ?_)
    · rw [if_pos (show (gq_f M 4) ≤ p0 from hc4)] at h
      refine gx_iconst (v := 0) hC dr_Mo_equalGate_28 (by decide) ?_
      refine gx_istore_n hC dr_Mo_equalGate_29 (by decide) ?_
      refine gx_aload_n hC dr_Mo_equalGate_30 rfl ?_
      refine gx_iload_n hC dr_Mo_equalGate_31 rfl ?_
      refine gx_if_eq (tgt := 39) hC dr_Mo_equalGate_32 (by decide) (fun hc5 => ?_) (fun hc5 => ?_)
      · refine gx_iconst (v := 1) hC dr_Mo_equalGate_39 (by decide) ?_
        refine gx_put hC (by decide) dr_Mo_equalGate_40 lf_Mo_78 lp_Mo_thrown (by decide) rfl (Nat.le_of_ble_eq_true rfl) (fun _ => rfl) (fun _ => rfl) ma_F0 ?_
        refine gx_aload_n hC dr_Mo_equalGate_43 rfl ?_
        refine gx_get hC dr_Mo_equalGate_44 lf_Mo_78 (by decide) rfl rfl ?_
        refine gx_if_ne (tgt := 65) hC dr_Mo_equalGate_47 (by decide) (fun hc6 => ?_) (fun hc6 => ?_)
        · refine gx_iconst (v := 0) hC dr_Mo_equalGate_65 (by decide) ?_
          obtain rfl := Option.some.inj h
          exact hR (by decide) (by decide) dr_Mo_equalGate_66 rfl ⟨rfl, rfl⟩
        · exact absurd (show (1 : Int32) = 0 from hc6) (by decide)
      · exact absurd (show ¬ ((0 : Int32) = 0) from hc5) (by decide)
    · rw [if_neg (show ¬ ((gq_f M 4) ≤ p0) from hc4)] at h
      refine gx_iload_n hC dr_Mo_equalGate_12 rfl ?_
      refine gx_if_lt (tgt := 28) hC dr_Mo_equalGate_13 (by decide) (fun hc7 => ?_) (fun hc7 => ?_)
      · rw [if_pos (show p1 < 0 from hc7)] at h
        refine gx_iconst (v := 0) hC dr_Mo_equalGate_28 (by decide) ?_
        refine gx_istore_n hC dr_Mo_equalGate_29 (by decide) ?_
        refine gx_aload_n hC dr_Mo_equalGate_30 rfl ?_
        refine gx_iload_n hC dr_Mo_equalGate_31 rfl ?_
        refine gx_if_eq (tgt := 39) hC dr_Mo_equalGate_32 (by decide) (fun hc8 => ?_) (fun hc8 => ?_)
        · refine gx_iconst (v := 1) hC dr_Mo_equalGate_39 (by decide) ?_
          refine gx_put hC (by decide) dr_Mo_equalGate_40 lf_Mo_78 lp_Mo_thrown (by decide) rfl (Nat.le_of_ble_eq_true rfl) (fun _ => rfl) (fun _ => rfl) ma_F0 ?_
          refine gx_aload_n hC dr_Mo_equalGate_43 rfl ?_
          refine gx_get hC dr_Mo_equalGate_44 lf_Mo_78 (by decide) rfl rfl ?_
          refine gx_if_ne (tgt := 65) hC dr_Mo_equalGate_47 (by decide) (fun hc9 => ?_) (fun hc9 => ?_)
          · refine gx_iconst (v := 0) hC dr_Mo_equalGate_65 (by decide) ?_
            obtain rfl := Option.some.inj h
            exact hR (by decide) (by decide) dr_Mo_equalGate_66 rfl ⟨rfl, rfl⟩
          · exact absurd (show (1 : Int32) = 0 from hc9) (by decide)
        · exact absurd (show ¬ ((0 : Int32) = 0) from hc8) (by decide)
      · rw [if_neg (show ¬ (p1 < 0) from hc7)] at h
        refine gx_iload_n hC dr_Mo_equalGate_16 rfl ?_
        refine gx_aload_n hC dr_Mo_equalGate_17 rfl ?_
        refine gx_get hC dr_Mo_equalGate_18 lf_Mo_165 (by decide) rfl rfl ?_
        refine gx_icmp_ge (tgt := 28) hC dr_Mo_equalGate_21 (by decide) (fun hc10 => ?_) (fun hc10 => ?_)
        · rw [if_pos (show (gq_f M 4) ≤ p1 from hc10)] at h
          refine gx_iconst (v := 0) hC dr_Mo_equalGate_28 (by decide) ?_
          refine gx_istore_n hC dr_Mo_equalGate_29 (by decide) ?_
          refine gx_aload_n hC dr_Mo_equalGate_30 rfl ?_
          refine gx_iload_n hC dr_Mo_equalGate_31 rfl ?_
          refine gx_if_eq (tgt := 39) hC dr_Mo_equalGate_32 (by decide) (fun hc11 => ?_) (fun hc11 => ?_)
          · refine gx_iconst (v := 1) hC dr_Mo_equalGate_39 (by decide) ?_
            refine gx_put hC (by decide) dr_Mo_equalGate_40 lf_Mo_78 lp_Mo_thrown (by decide) rfl (Nat.le_of_ble_eq_true rfl) (fun _ => rfl) (fun _ => rfl) ma_F0 ?_
            refine gx_aload_n hC dr_Mo_equalGate_43 rfl ?_
            refine gx_get hC dr_Mo_equalGate_44 lf_Mo_78 (by decide) rfl rfl ?_
            refine gx_if_ne (tgt := 65) hC dr_Mo_equalGate_47 (by decide) (fun hc12 => ?_) (fun hc12 => ?_)
            · refine gx_iconst (v := 0) hC dr_Mo_equalGate_65 (by decide) ?_
              obtain rfl := Option.some.inj h
              exact hR (by decide) (by decide) dr_Mo_equalGate_66 rfl ⟨rfl, rfl⟩
            · exact absurd (show (1 : Int32) = 0 from hc12) (by decide)
          · exact absurd (show ¬ ((0 : Int32) = 0) from hc11) (by decide)
        · rw [if_neg (show ¬ ((gq_f M 4) ≤ p1) from hc10)] at h
          refine gx_iconst (v := 1) hC dr_Mo_equalGate_24 (by decide) ?_
          refine gx_goto (tgt := 29) hC dr_Mo_equalGate_25 (by decide) ?_
          refine gx_istore_n hC dr_Mo_equalGate_29 (by decide) ?_
          refine gx_aload_n hC dr_Mo_equalGate_30 rfl ?_
          refine gx_iload_n hC dr_Mo_equalGate_31 rfl ?_
          refine gx_if_eq (tgt := 39) hC dr_Mo_equalGate_32 (by decide) (fun hc13 => ?_) (fun hc13 => ?_)
          · exact absurd (show (1 : Int32) = 0 from hc13) (by decide)
          · refine gx_iconst (v := 0) hC dr_Mo_equalGate_35 (by decide) ?_
            refine gx_goto (tgt := 40) hC dr_Mo_equalGate_36 (by decide) ?_
            refine gx_put hC (by decide) dr_Mo_equalGate_40 lf_Mo_78 lp_Mo_thrown (by decide) rfl (Nat.le_of_ble_eq_true rfl) (fun _ => rfl) (fun _ => rfl) ma_F0 ?_
            refine gx_aload_n hC dr_Mo_equalGate_43 rfl ?_
            refine gx_get hC dr_Mo_equalGate_44 lf_Mo_78 (by decide) rfl rfl ?_
            refine gx_if_ne (tgt := 65) hC dr_Mo_equalGate_47 (by decide) (fun hc14 => ?_) (fun hc14 => ?_)
            · exact absurd (show ¬ ((0 : Int32) = 0) from hc14) (by decide)
            · refine gx_aload_n hC dr_Mo_equalGate_50 rfl ?_
              refine gx_get hC dr_Mo_equalGate_51 lf_Mo_57 (by decide) rfl rfl ?_
              refine gx_iload_n hC dr_Mo_equalGate_54 rfl ?_
              obtain ⟨hz15, h⟩ := gk_of h
              refine gx_iald (f := (gq_i M 11)) hC dr_Mo_equalGate_55 (by decide) rfl hz15 ?_
              refine gx_aload_n hC dr_Mo_equalGate_56 rfl ?_
              refine gx_get hC dr_Mo_equalGate_57 lf_Mo_57 (by decide) rfl rfl ?_
              refine gx_iload_n hC dr_Mo_equalGate_60 rfl ?_
              obtain ⟨hz16, h⟩ := gk_of h
              refine gx_iald (f := (gq_i M 11)) hC dr_Mo_equalGate_61 (by decide) rfl hz16 ?_
              refine gx_icmp_eq (tgt := 67) hC dr_Mo_equalGate_62 (by decide) (fun hc17 => ?_) (fun hc17 => ?_)
              · rw [if_pos (show ((gq_i M 11) p0.toInt) = ((gq_i M 11) p1.toInt) from hc17)] at h
                refine gx_iconst (v := 0) hC dr_Mo_equalGate_67 (by decide) ?_
                refine gx_istore hC dr_Mo_equalGate_68 (by decide) ?_
                refine gx_iconst (v := 0) hC dr_Mo_equalGate_70 (by decide) ?_
                refine gx_istore hC dr_Mo_equalGate_71 (by decide) ?_
                exact gx_lv [(0, gv_R 57), (1, gv_I p0), (2, gv_I p1), (4, gv_I 0), (5, gv_I 0)] ⟨rfl, rfl, rfl, rfl, rfl, trivial⟩ (gl_Mo_equalGate_73 hC hR 5000 _ _ _ _ _ h)
              · rw [if_neg (show ¬ (((gq_i M 11) p0.toInt) = ((gq_i M 11) p1.toInt)) from hc17)] at h
                refine gx_iconst (v := 0) hC dr_Mo_equalGate_65 (by decide) ?_
                obtain rfl := Option.some.inj h
                exact hR (by decide) (by decide) dr_Mo_equalGate_66 rfl ⟨rfl, rfl⟩
def fn_Mo_turn (p0 : Int64) (p1 : Int64) (p2 : Int64) (p3 : Int64) (p4 : Int64) (p5 : Int64) (M : gq_M) : Option Int32 := if (Int64.ofNat (0 : Fin 2).val) ≤ (((p2 - p0) * (p5 - p1)) - ((p3 - p1) * (p4 - p0))) then if (((p2 - p0) * (p5 - p1)) - ((p3 - p1) * (p4 - p0))) ≤ (Int64.ofNat (0 : Fin 2).val) then some 0 else some 1 else some (-1)
set_option maxHeartbeats 4000000 in
set_option maxRecDepth 100000 in
theorem mt_Mo_turn {l : Launch} {D : va_G} {ad : Nat → Nat} {ck : Nat → ClassId} {G : gq_M × (Int → Int64)} {p0 : Int64} {p1 : Int64} {p2 : Int64} {p3 : Int64} {p4 : Int64} {p5 : Int64} {M : gq_M} {r : Int32} (h : fn_Mo_turn p0 p1 p2 p3 p4 p5 M = some r) : gm_I 81 0 l D ad ck yn_Mo_turn bc_Mo_turn 14 .int ({ frames := 0, cells := 0, slots := 0, locals := 0 } : Room) [gv_L p0, gv_L p1, gv_L p2, gv_L p3, gv_L p4, gv_L p5] (ca_A (G.1, M, G.2)) (fun z c2 => z = r ∧ c2 = ca_A (G.1, M, G.2)) := by
  refine gm_I.of (by decide) (Nat.le_of_ble_eq_true rfl) (fun x hC hR => ?_)
  unfold fn_Mo_turn at h
  refine gx_lload hC dr_Mo_turn_0 rfl ?_
  refine gx_lload_n hC dr_Mo_turn_2 rfl ?_
  refine gx_lsub hC dr_Mo_turn_3 ?_
  refine gx_lload hC dr_Mo_turn_4 rfl ?_
  refine gx_lload_n hC dr_Mo_turn_6 rfl ?_
  refine gx_lsub hC dr_Mo_turn_7 ?_
  refine gx_lmul hC dr_Mo_turn_8 ?_
  refine gx_lload hC dr_Mo_turn_9 rfl ?_
  refine gx_lload_n hC dr_Mo_turn_11 rfl ?_
  refine gx_lsub hC dr_Mo_turn_12 ?_
  refine gx_lload hC dr_Mo_turn_13 rfl ?_
  refine gx_lload_n hC dr_Mo_turn_15 rfl ?_
  refine gx_lsub hC dr_Mo_turn_16 ?_
  refine gx_lmul hC dr_Mo_turn_17 ?_
  refine gx_lsub hC dr_Mo_turn_18 ?_
  refine gx_lstore hC dr_Mo_turn_19 (by decide) ?_
  refine gx_lload hC dr_Mo_turn_21 rfl ?_
  refine gx_lconst hC dr_Mo_turn_23 ?_
  refine gx_lcmp_ge (tgt := 32) hC dr_Mo_turn_24 dr_Mo_turn_25 (by decide) (fun hc1 => ?_) (fun hc1 => ?_)
  · rw [if_pos (show (Int64.ofNat (0 : Fin 2).val) ≤ (((p2 - p0) * (p5 - p1)) - ((p3 - p1) * (p4 - p0))) from hc1)] at h
    refine gx_lload hC dr_Mo_turn_32 rfl ?_
    refine gx_lconst hC dr_Mo_turn_34 ?_
    refine gx_lcmp_le (tgt := 43) hC dr_Mo_turn_35 dr_Mo_turn_36 (by decide) (fun hc2 => ?_) (fun hc2 => ?_)
    · rw [if_pos (show (((p2 - p0) * (p5 - p1)) - ((p3 - p1) * (p4 - p0))) ≤ (Int64.ofNat (0 : Fin 2).val) from hc2)] at h
      refine gx_iconst (v := 0) hC dr_Mo_turn_43 (by decide) ?_
      obtain rfl := Option.some.inj h
      exact hR (by decide) (by decide) dr_Mo_turn_44 rfl ⟨rfl, rfl⟩
    · rw [if_neg (show ¬ ((((p2 - p0) * (p5 - p1)) - ((p3 - p1) * (p4 - p0))) ≤ (Int64.ofNat (0 : Fin 2).val)) from hc2)] at h
      refine gx_iconst (v := 1) hC dr_Mo_turn_39 (by decide) ?_
      refine gx_goto (tgt := 44) hC dr_Mo_turn_40 (by decide) ?_
      obtain rfl := Option.some.inj h
      exact hR (by decide) (by decide) dr_Mo_turn_44 rfl ⟨rfl, rfl⟩
  · rw [if_neg (show ¬ ((Int64.ofNat (0 : Fin 2).val) ≤ (((p2 - p0) * (p5 - p1)) - ((p3 - p1) * (p4 - p0)))) from hc1)] at h
    refine gx_iconst (v := (-1)) hC dr_Mo_turn_28 (by decide) ?_
    refine gx_goto (tgt := 44) hC dr_Mo_turn_29 (by decide) ?_
    obtain rfl := Option.some.inj h
    exact hR (by decide) (by decide) dr_Mo_turn_44 rfl ⟨rfl, rfl⟩
def fn_Mo_cross (p0 : Int32) (p1 : Int32) (M : gq_M) : Option Int32 := if 0 ≤ p0.toInt ∧ p0.toInt < ((80 : Nat) : Int) then if 0 ≤ p1.toInt ∧ p1.toInt < ((80 : Nat) : Int) then if 0 ≤ ((gq_i M 2) p0.toInt).toInt ∧ ((gq_i M 2) p0.toInt).toInt < ((200 : Nat) : Int) then if ((gq_i M 7) ((gq_i M 2) p0.toInt).toInt) = 0 then some 0 else if 0 ≤ ((gq_i M 2) p1.toInt).toInt ∧ ((gq_i M 2) p1.toInt).toInt < ((200 : Nat) : Int) then if ((gq_i M 7) ((gq_i M 2) p1.toInt).toInt) = 0 then some 0 else (fn_Mo_turn ((gq_l M 0) p0.toInt) ((gq_l M 1) p0.toInt) ((gq_l M 2) ((gq_i M 2) p0.toInt).toInt) ((gq_l M 3) ((gq_i M 2) p0.toInt).toInt) ((gq_l M 0) p1.toInt) ((gq_l M 1) p1.toInt) M).bind fun q7 => (fn_Mo_turn ((gq_l M 0) p0.toInt) ((gq_l M 1) p0.toInt) ((gq_l M 2) ((gq_i M 2) p0.toInt).toInt) ((gq_l M 3) ((gq_i M 2) p0.toInt).toInt) ((gq_l M 2) ((gq_i M 2) p1.toInt).toInt) ((gq_l M 3) ((gq_i M 2) p1.toInt).toInt) M).bind fun q9 => (fn_Mo_turn ((gq_l M 0) p1.toInt) ((gq_l M 1) p1.toInt) ((gq_l M 2) ((gq_i M 2) p1.toInt).toInt) ((gq_l M 3) ((gq_i M 2) p1.toInt).toInt) ((gq_l M 0) p0.toInt) ((gq_l M 1) p0.toInt) M).bind fun q11 => (fn_Mo_turn ((gq_l M 0) p1.toInt) ((gq_l M 1) p1.toInt) ((gq_l M 2) ((gq_i M 2) p1.toInt).toInt) ((gq_l M 3) ((gq_i M 2) p1.toInt).toInt) ((gq_l M 2) ((gq_i M 2) p0.toInt).toInt) ((gq_l M 3) ((gq_i M 2) p0.toInt).toInt) M).bind fun q13 => if 0 ≤ (q7 * q9) then some 0 else if 0 ≤ (q11 * q13) then some 0 else some 1 else none else none else none else none
set_option maxHeartbeats 4000000 in
set_option maxRecDepth 100000 in
theorem mt_Mo_cross {l : Launch} {D : va_G} {ad : Nat → Nat} {ck : Nat → ClassId} {G : gq_M × (Int → Int64)} {p0 : Int32} {p1 : Int32} {M : gq_M} {r : Int32} (h : fn_Mo_cross p0 p1 M = some r) : gm_I 81 0 l D ad ck yn_Mo_cross bc_Mo_cross 7 .boolean ({ frames := 1, cells := 0, slots := 0, locals := 33 } : Room) [gv_R 57, gv_I p0, gv_I p1] (ca_A (G.1, M, G.2)) (fun z c2 => z = r ∧ c2 = ca_A (G.1, M, G.2)) := by
  refine gm_I.of (by decide) (Nat.le_of_ble_eq_true rfl) (fun x hC hR => ?_)
  unfold fn_Mo_cross at h
  refine gx_aload_n hC dr_Mo_cross_0 rfl ?_
  refine gx_get hC dr_Mo_cross_1 lf_Mo_23 (by decide) rfl rfl ?_
  refine gx_iload_n hC dr_Mo_cross_4 rfl ?_
  obtain ⟨hz1, h⟩ := gk_of h
  refine gx_iald (f := (gq_i M 2)) hC dr_Mo_cross_5 (by decide) rfl hz1 ?_
  refine gx_istore_n hC dr_Mo_cross_6 (by decide) ?_
  refine gx_aload_n hC dr_Mo_cross_7 rfl ?_
  refine gx_get hC dr_Mo_cross_8 lf_Mo_23 (by decide) rfl rfl ?_
  refine gx_iload_n hC dr_Mo_cross_11 rfl ?_
  obtain ⟨hz2, h⟩ := gk_of h
  refine gx_iald (f := (gq_i M 2)) hC dr_Mo_cross_12 (by decide) rfl hz2 ?_
  refine gx_istore hC dr_Mo_cross_13 (by decide) ?_
  refine gx_aload_n hC dr_Mo_cross_15 rfl ?_
  refine gx_get hC dr_Mo_cross_16 lf_Mo_39 (by decide) rfl rfl ?_
  refine gx_iload_n hC dr_Mo_cross_19 rfl ?_
  obtain ⟨hz3, h⟩ := gk_of h
  refine gx_zald (f := (gq_i M 7)) hC dr_Mo_cross_20 (by decide) rfl hz3 ?_
  refine gx_if_eq (tgt := 34) hC dr_Mo_cross_21 (by decide) (fun hc4 => ?_) (fun hc4 => ?_)
  · rw [if_pos (show ((gq_i M 7) ((gq_i M 2) p0.toInt).toInt) = 0 from hc4)] at h
    refine gx_iconst (v := 0) hC dr_Mo_cross_34 (by decide) ?_
    obtain rfl := Option.some.inj h
    exact hR (by decide) (by decide) dr_Mo_cross_35 rfl ⟨rfl, rfl⟩
  · rw [if_neg (show ¬ (((gq_i M 7) ((gq_i M 2) p0.toInt).toInt) = 0) from hc4)] at h
    refine gx_aload_n hC dr_Mo_cross_24 rfl ?_
    refine gx_get hC dr_Mo_cross_25 lf_Mo_39 (by decide) rfl rfl ?_
    refine gx_iload hC dr_Mo_cross_28 rfl ?_
    obtain ⟨hz5, h⟩ := gk_of h
    refine gx_zald (f := (gq_i M 7)) hC dr_Mo_cross_30 (by decide) rfl hz5 ?_
    refine gx_if_ne (tgt := 36) hC dr_Mo_cross_31 (by decide) (fun hc6 => ?_) (fun hc6 => ?_)
    · rw [if_neg (show ¬ (((gq_i M 7) ((gq_i M 2) p1.toInt).toInt) = 0) from hc6)] at h
      refine gx_aload_n hC dr_Mo_cross_36 rfl ?_
      refine gx_get hC dr_Mo_cross_37 lf_Mo_13 (by decide) rfl rfl ?_
      refine gx_iload_n hC dr_Mo_cross_40 rfl ?_
      refine gx_lald (f := (gq_l M 0)) hC dr_Mo_cross_41 (by decide) rfl hz1 ?_
      refine gx_aload_n hC dr_Mo_cross_42 rfl ?_
      refine gx_get hC dr_Mo_cross_43 lf_Mo_17 (by decide) rfl rfl ?_
      refine gx_iload_n hC dr_Mo_cross_46 rfl ?_
      refine gx_lald (f := (gq_l M 1)) hC dr_Mo_cross_47 (by decide) rfl hz1 ?_
      refine gx_aload_n hC dr_Mo_cross_48 rfl ?_
      refine gx_get hC dr_Mo_cross_49 lf_Mo_42 (by decide) rfl rfl ?_
      refine gx_iload_n hC dr_Mo_cross_52 rfl ?_
      refine gx_lald (f := (gq_l M 2)) hC dr_Mo_cross_53 (by decide) rfl hz3 ?_
      refine gx_aload_n hC dr_Mo_cross_54 rfl ?_
      refine gx_get hC dr_Mo_cross_55 lf_Mo_45 (by decide) rfl rfl ?_
      refine gx_iload_n hC dr_Mo_cross_58 rfl ?_
      refine gx_lald (f := (gq_l M 3)) hC dr_Mo_cross_59 (by decide) rfl hz3 ?_
      refine gx_aload_n hC dr_Mo_cross_60 rfl ?_
      refine gx_get hC dr_Mo_cross_61 lf_Mo_13 (by decide) rfl rfl ?_
      refine gx_iload_n hC dr_Mo_cross_64 rfl ?_
      refine gx_lald (f := (gq_l M 0)) hC dr_Mo_cross_65 (by decide) rfl hz2 ?_
      refine gx_aload_n hC dr_Mo_cross_66 rfl ?_
      refine gx_get hC dr_Mo_cross_67 lf_Mo_17 (by decide) rfl rfl ?_
      refine gx_iload_n hC dr_Mo_cross_70 rfl ?_
      refine gx_lald (f := (gq_l M 1)) hC dr_Mo_cross_71 (by decide) rfl hz2 ?_
      obtain ⟨q7, e8, h⟩ := gb_of h
      refine gx_sI hC dr_Mo_cross_72 lk_Mo_175 (mt_Mo_turn e8) rfl (by decide) ⟨by decide, by decide⟩ ⟨by decide, by decide⟩ rfl (Nat.le_of_ble_eq_true rfl) (fun z c2 hp => ?_)
      obtain ⟨hp1, rfl⟩ := hp; obtain rfl := hp1.symm
      refine gx_aload_n hC dr_Mo_cross_75 rfl ?_
      refine gx_get hC dr_Mo_cross_76 lf_Mo_13 (by decide) rfl rfl ?_
      refine gx_iload_n hC dr_Mo_cross_79 rfl ?_
      refine gx_lald (f := (gq_l M 0)) hC dr_Mo_cross_80 (by decide) rfl hz1 ?_
      refine gx_aload_n hC dr_Mo_cross_81 rfl ?_
      refine gx_get hC dr_Mo_cross_82 lf_Mo_17 (by decide) rfl rfl ?_
      refine gx_iload_n hC dr_Mo_cross_85 rfl ?_
      refine gx_lald (f := (gq_l M 1)) hC dr_Mo_cross_86 (by decide) rfl hz1 ?_
      refine gx_aload_n hC dr_Mo_cross_87 rfl ?_
      refine gx_get hC dr_Mo_cross_88 lf_Mo_42 (by decide) rfl rfl ?_
      refine gx_iload_n hC dr_Mo_cross_91 rfl ?_
      refine gx_lald (f := (gq_l M 2)) hC dr_Mo_cross_92 (by decide) rfl hz3 ?_
      refine gx_aload_n hC dr_Mo_cross_93 rfl ?_
      refine gx_get hC dr_Mo_cross_94 lf_Mo_45 (by decide) rfl rfl ?_
      refine gx_iload_n hC dr_Mo_cross_97 rfl ?_
      refine gx_lald (f := (gq_l M 3)) hC dr_Mo_cross_98 (by decide) rfl hz3 ?_
      refine gx_aload_n hC dr_Mo_cross_99 rfl ?_
      refine gx_get hC dr_Mo_cross_100 lf_Mo_42 (by decide) rfl rfl ?_
      refine gx_iload hC dr_Mo_cross_103 rfl ?_
      refine gx_lald (f := (gq_l M 2)) hC dr_Mo_cross_105 (by decide) rfl hz5 ?_
      refine gx_aload_n hC dr_Mo_cross_106 rfl ?_
      refine gx_get hC dr_Mo_cross_107 lf_Mo_45 (by decide) rfl rfl ?_
      refine gx_iload hC dr_Mo_cross_110 rfl ?_
      refine gx_lald (f := (gq_l M 3)) hC dr_Mo_cross_112 (by decide) rfl hz5 ?_
      obtain ⟨q9, e10, h⟩ := gb_of h
      refine gx_sI hC dr_Mo_cross_113 lk_Mo_175 (mt_Mo_turn e10) rfl (by decide) ⟨by decide, by decide⟩ ⟨by decide, by decide⟩ rfl (Nat.le_of_ble_eq_true rfl) (fun z c2 hp => ?_)
      obtain ⟨hp1, rfl⟩ := hp; obtain rfl := hp1.symm
      refine gx_imul hC dr_Mo_cross_116 ?_
      refine gx_istore hC dr_Mo_cross_117 (by decide) ?_
      refine gx_aload_n hC dr_Mo_cross_119 rfl ?_
      refine gx_get hC dr_Mo_cross_120 lf_Mo_13 (by decide) rfl rfl ?_
      refine gx_iload_n hC dr_Mo_cross_123 rfl ?_
      refine gx_lald (f := (gq_l M 0)) hC dr_Mo_cross_124 (by decide) rfl hz2 ?_
      refine gx_aload_n hC dr_Mo_cross_125 rfl ?_
      refine gx_get hC dr_Mo_cross_126 lf_Mo_17 (by decide) rfl rfl ?_
      refine gx_iload_n hC dr_Mo_cross_129 rfl ?_
      refine gx_lald (f := (gq_l M 1)) hC dr_Mo_cross_130 (by decide) rfl hz2 ?_
      refine gx_aload_n hC dr_Mo_cross_131 rfl ?_
      refine gx_get hC dr_Mo_cross_132 lf_Mo_42 (by decide) rfl rfl ?_
      refine gx_iload hC dr_Mo_cross_135 rfl ?_
      refine gx_lald (f := (gq_l M 2)) hC dr_Mo_cross_137 (by decide) rfl hz5 ?_
      refine gx_aload_n hC dr_Mo_cross_138 rfl ?_
      refine gx_get hC dr_Mo_cross_139 lf_Mo_45 (by decide) rfl rfl ?_
      refine gx_iload hC dr_Mo_cross_142 rfl ?_
      refine gx_lald (f := (gq_l M 3)) hC dr_Mo_cross_144 (by decide) rfl hz5 ?_
      refine gx_aload_n hC dr_Mo_cross_145 rfl ?_
      refine gx_get hC dr_Mo_cross_146 lf_Mo_13 (by decide) rfl rfl ?_
      refine gx_iload_n hC dr_Mo_cross_149 rfl ?_
      refine gx_lald (f := (gq_l M 0)) hC dr_Mo_cross_150 (by decide) rfl hz1 ?_
      refine gx_aload_n hC dr_Mo_cross_151 rfl ?_
      refine gx_get hC dr_Mo_cross_152 lf_Mo_17 (by decide) rfl rfl ?_
      refine gx_iload_n hC dr_Mo_cross_155 rfl ?_
      refine gx_lald (f := (gq_l M 1)) hC dr_Mo_cross_156 (by decide) rfl hz1 ?_
      obtain ⟨q11, e12, h⟩ := gb_of h
      refine gx_sI hC dr_Mo_cross_157 lk_Mo_175 (mt_Mo_turn e12) rfl (by decide) ⟨by decide, by decide⟩ ⟨by decide, by decide⟩ rfl (Nat.le_of_ble_eq_true rfl) (fun z c2 hp => ?_)
      obtain ⟨hp1, rfl⟩ := hp; obtain rfl := hp1.symm
      refine gx_aload_n hC dr_Mo_cross_160 rfl ?_
      refine gx_get hC dr_Mo_cross_161 lf_Mo_13 (by decide) rfl rfl ?_
      refine gx_iload_n hC dr_Mo_cross_164 rfl ?_
      refine gx_lald (f := (gq_l M 0)) hC dr_Mo_cross_165 (by decide) rfl hz2 ?_
      refine gx_aload_n hC dr_Mo_cross_166 rfl ?_
      refine gx_get hC dr_Mo_cross_167 lf_Mo_17 (by decide) rfl rfl ?_
      refine gx_iload_n hC dr_Mo_cross_170 rfl ?_
      refine gx_lald (f := (gq_l M 1)) hC dr_Mo_cross_171 (by decide) rfl hz2 ?_
      refine gx_aload_n hC dr_Mo_cross_172 rfl ?_
      refine gx_get hC dr_Mo_cross_173 lf_Mo_42 (by decide) rfl rfl ?_
      refine gx_iload hC dr_Mo_cross_176 rfl ?_
      refine gx_lald (f := (gq_l M 2)) hC dr_Mo_cross_178 (by decide) rfl hz5 ?_
      refine gx_aload_n hC dr_Mo_cross_179 rfl ?_
      refine gx_get hC dr_Mo_cross_180 lf_Mo_45 (by decide) rfl rfl ?_
      refine gx_iload hC dr_Mo_cross_183 rfl ?_
      refine gx_lald (f := (gq_l M 3)) hC dr_Mo_cross_185 (by decide) rfl hz5 ?_
      refine gx_aload_n hC dr_Mo_cross_186 rfl ?_
      refine gx_get hC dr_Mo_cross_187 lf_Mo_42 (by decide) rfl rfl ?_
      refine gx_iload_n hC dr_Mo_cross_190 rfl ?_
      refine gx_lald (f := (gq_l M 2)) hC dr_Mo_cross_191 (by decide) rfl hz3 ?_
      refine gx_aload_n hC dr_Mo_cross_192 rfl ?_
      refine gx_get hC dr_Mo_cross_193 lf_Mo_45 (by decide) rfl rfl ?_
      refine gx_iload_n hC dr_Mo_cross_196 rfl ?_
      refine gx_lald (f := (gq_l M 3)) hC dr_Mo_cross_197 (by decide) rfl hz3 ?_
      obtain ⟨q13, e14, h⟩ := gb_of h
      refine gx_sI hC dr_Mo_cross_198 lk_Mo_175 (mt_Mo_turn e14) rfl (by decide) ⟨by decide, by decide⟩ ⟨by decide, by decide⟩ rfl (Nat.le_of_ble_eq_true rfl) (fun z c2 hp => ?_)
      obtain ⟨hp1, rfl⟩ := hp; obtain rfl := hp1.symm
      refine gx_imul hC dr_Mo_cross_201 ?_
      refine gx_istore hC dr_Mo_cross_202 (by decide) ?_
      refine gx_iload hC dr_Mo_cross_204 rfl ?_
      refine gx_if_ge (tgt := 218) hC dr_Mo_cross_206 (by decide) (fun hc15 => ?_) (fun hc15 => ?_)
      · rw [if_pos (show 0 ≤ (q7 * q9) from hc15)] at h
        refine gx_iconst (v := 0) hC dr_Mo_cross_218 (by decide) ?_
        obtain rfl := Option.some.inj h
        exact hR (by decide) (by decide) dr_Mo_cross_219 rfl ⟨rfl, rfl⟩
      · rw [if_neg (show ¬ (0 ≤ (q7 * q9)) from hc15)] at h
        refine gx_iload hC dr_Mo_cross_209 rfl ?_
        refine gx_if_ge (tgt := 218) hC dr_Mo_cross_211 (by decide) (fun hc16 => ?_) (fun hc16 => ?_)
        · rw [if_pos (show 0 ≤ (q11 * q13) from hc16)] at h
          refine gx_iconst (v := 0) hC dr_Mo_cross_218 (by decide) ?_
          obtain rfl := Option.some.inj h
          exact hR (by decide) (by decide) dr_Mo_cross_219 rfl ⟨rfl, rfl⟩
        · rw [if_neg (show ¬ (0 ≤ (q11 * q13)) from hc16)] at h
          refine gx_iconst (v := 1) hC dr_Mo_cross_214 (by decide) ?_
          refine gx_goto (tgt := 219) hC dr_Mo_cross_215 (by decide) ?_
          obtain rfl := Option.some.inj h
          exact hR (by decide) (by decide) dr_Mo_cross_219 rfl ⟨rfl, rfl⟩
    · rw [if_pos (show ((gq_i M 7) ((gq_i M 2) p1.toInt).toInt) = 0 from hc6)] at h
      refine gx_iconst (v := 0) hC dr_Mo_cross_34 (by decide) ?_
      obtain rfl := Option.some.inj h
      exact hR (by decide) (by decide) dr_Mo_cross_35 rfl ⟨rfl, rfl⟩
def fl_Mo_crossings_19 (K9 : Int32 → Int32 → gq_M → Option (Int32 × gq_M)) : Nat → Int32 → Int32 → Int32 → gq_M → Option (Int32 × gq_M)
  | 0, _, _, _, _ => none
  | k + 1, v1, v2, v3, M => if v2 ≤ v3 then K9 v1 (v2 + 1) M else if 0 ≤ v2.toInt ∧ v2.toInt < ((80 : Nat) : Int) then if 0 ≤ v3.toInt ∧ v3.toInt < ((80 : Nat) : Int) then if ((gq_i M 0) v2.toInt) = ((gq_i M 0) v3.toInt) then (fn_Mo_cross v2 v3 M).bind fun q6 => if q6 = 0 then fl_Mo_crossings_19 K9 k (v1 + 0) v2 (v3 + 1) M else fl_Mo_crossings_19 K9 k (v1 + 1) v2 (v3 + 1) M else fl_Mo_crossings_19 K9 k (v1 + 0) v2 (v3 + 1) M else none else none
def fl_Mo_crossings_9 : Nat → Int32 → Int32 → gq_M → Option (Int32 × gq_M)
  | 0, _, _, _ => none
  | k + 1, v1, v2, M => if (gq_f M 2) ≤ v2 then some (v1, M) else fl_Mo_crossings_19 (fl_Mo_crossings_9 k) 5000 v1 v2 0 M
def fn_Mo_crossings  (M : gq_M) : Option (Int32 × gq_M) := fl_Mo_crossings_9 5000 0 0 (gs_f M 0 0)
set_option maxHeartbeats 4000000 in
set_option maxRecDepth 100000 in
theorem gl_Mo_crossings_19 {x : gx_X} {G : gq_M × (Int → Int64)} {r : (Int32 × gq_M)} (hC : gw_C 81 81 yn_Mo_crossings.cls bc_Mo_crossings 4 x) (hR : gr_I 81 bc_Mo_crossings 4 .int ({ frames := 2, cells := 0, slots := 0, locals := 59 } : Room) x (fun z c2 => z = r.1 ∧ c2 = ca_A (G.1, r.2, G.2))) {K9 : Int32 → Int32 → gq_M → Option (Int32 × gq_M)} (hK9 : ∀ (v1 : Int32) (v2 : Int32) (M : gq_M), K9 v1 v2 M = some r → gw_G 81 4 ({ frames := 2, cells := 0, slots := 0, locals := 59 } : Room) x 0 0 (ca_A (G.1, M, G.2)) 9 [(0, gv_R 57), (1, gv_I v1), (2, gv_I v2)] []) : ∀ (k : Nat) (v1 : Int32) (v2 : Int32) (v3 : Int32) (M : gq_M), fl_Mo_crossings_19 K9 k v1 v2 v3 M = some r → gw_G 81 4 ({ frames := 2, cells := 0, slots := 0, locals := 59 } : Room) x 0 0 (ca_A (G.1, M, G.2)) 19 [(0, gv_R 57), (1, gv_I v1), (2, gv_I v2), (3, gv_I v3)] [] := by
  intro k
  induction k with
  | zero =>
    intro v1 v2 v3 M h
    cases h
  | succ k ih =>
    intro v1 v2 v3 M h
    rw [fl_Mo_crossings_19] at h
    refine gx_iload_n hC dr_Mo_crossings_19 rfl ?_
    refine gx_iload_n hC dr_Mo_crossings_20 rfl ?_
    refine gx_icmp_ge (tgt := 62) hC dr_Mo_crossings_21 (by decide) (fun hc2 => ?_) (fun hc2 => ?_)
    · rw [if_pos (show v2 ≤ v3 from hc2)] at h
      refine gx_iinc (v := (v2 + 1)) hC dr_Mo_crossings_62 rfl (by decide) rfl ?_
      refine gx_goto (tgt := 9) hC dr_Mo_crossings_65 (by decide) ?_
      exact gx_lv [(0, gv_R 57), (1, gv_I v1), (2, gv_I (v2 + 1))] ⟨rfl, rfl, rfl, trivial⟩ (hK9 _ _ _ h)
    · rw [if_neg (show ¬ (v2 ≤ v3) from hc2)] at h
      refine gx_iload_n hC dr_Mo_crossings_24 rfl ?_
      refine gx_aload_n hC dr_Mo_crossings_25 rfl ?_
      refine gx_get hC dr_Mo_crossings_26 lf_Mo_7 (by decide) rfl rfl ?_
      refine gx_iload_n hC dr_Mo_crossings_29 rfl ?_
      obtain ⟨hz3, h⟩ := gk_of h
      refine gx_iald (f := (gq_i M 0)) hC dr_Mo_crossings_30 (by decide) rfl hz3 ?_
      refine gx_aload_n hC dr_Mo_crossings_31 rfl ?_
      refine gx_get hC dr_Mo_crossings_32 lf_Mo_7 (by decide) rfl rfl ?_
      refine gx_iload_n hC dr_Mo_crossings_35 rfl ?_
      obtain ⟨hz4, h⟩ := gk_of h
      refine gx_iald (f := (gq_i M 0)) hC dr_Mo_crossings_36 (by decide) rfl hz4 ?_
      refine gx_icmp_ne (tgt := 53) hC dr_Mo_crossings_37 (by decide) (fun hc5 => ?_) (fun hc5 => ?_)
      · rw [if_neg (show ¬ (((gq_i M 0) v2.toInt) = ((gq_i M 0) v3.toInt)) from hc5)] at h
        refine gx_iconst (v := 0) hC dr_Mo_crossings_53 (by decide) ?_
        refine gx_iadd hC dr_Mo_crossings_54 ?_
        refine gx_istore_n hC dr_Mo_crossings_55 (by decide) ?_
        refine gx_iinc (v := (v3 + 1)) hC dr_Mo_crossings_56 rfl (by decide) rfl ?_
        refine gx_goto (tgt := 19) hC dr_Mo_crossings_59 (by decide) ?_
        exact gx_lv [(0, gv_R 57), (1, gv_I (v1 + 0)), (2, gv_I v2), (3, gv_I (v3 + 1))] ⟨rfl, rfl, rfl, rfl, trivial⟩ (ih _ _ _ _ h)
      · rw [if_pos (show ((gq_i M 0) v2.toInt) = ((gq_i M 0) v3.toInt) from hc5)] at h
        refine gx_aload_n hC dr_Mo_crossings_40 rfl ?_
        refine gx_iload_n hC dr_Mo_crossings_41 rfl ?_
        refine gx_iload_n hC dr_Mo_crossings_42 rfl ?_
        obtain ⟨q6, e7, h⟩ := gb_of h
        refine gx_vI hC dr_Mo_crossings_43 lk_Mo_179 (mt_Mo_cross e7) rfl (by decide) ⟨by decide, by decide⟩ ⟨by decide, by decide⟩ (by decide) ⟨_, _, rfl⟩ rfl rfl (Nat.le_of_ble_eq_true rfl) (fun z c2 hp => ?_)
        obtain ⟨hp1, rfl⟩ := hp; obtain rfl := hp1.symm
        refine gx_if_eq (tgt := 53) hC dr_Mo_crossings_46 (by decide) (fun hc8 => ?_) (fun hc8 => ?_)
        · rw [if_pos (show q6 = 0 from hc8)] at h
          refine gx_iconst (v := 0) hC dr_Mo_crossings_53 (by decide) ?_
          refine gx_iadd hC dr_Mo_crossings_54 ?_
          refine gx_istore_n hC dr_Mo_crossings_55 (by decide) ?_
          refine gx_iinc (v := (v3 + 1)) hC dr_Mo_crossings_56 rfl (by decide) rfl ?_
          refine gx_goto (tgt := 19) hC dr_Mo_crossings_59 (by decide) ?_
          exact gx_lv [(0, gv_R 57), (1, gv_I (v1 + 0)), (2, gv_I v2), (3, gv_I (v3 + 1))] ⟨rfl, rfl, rfl, rfl, trivial⟩ (ih _ _ _ _ h)
        · rw [if_neg (show ¬ (q6 = 0) from hc8)] at h
          refine gx_iconst (v := 1) hC dr_Mo_crossings_49 (by decide) ?_
          refine gx_goto (tgt := 54) hC dr_Mo_crossings_50 (by decide) ?_
          refine gx_iadd hC dr_Mo_crossings_54 ?_
          refine gx_istore_n hC dr_Mo_crossings_55 (by decide) ?_
          refine gx_iinc (v := (v3 + 1)) hC dr_Mo_crossings_56 rfl (by decide) rfl ?_
          refine gx_goto (tgt := 19) hC dr_Mo_crossings_59 (by decide) ?_
          exact gx_lv [(0, gv_R 57), (1, gv_I (v1 + 1)), (2, gv_I v2), (3, gv_I (v3 + 1))] ⟨rfl, rfl, rfl, rfl, trivial⟩ (ih _ _ _ _ h)
set_option maxHeartbeats 4000000 in
set_option maxRecDepth 100000 in
theorem gl_Mo_crossings_9 {x : gx_X} {G : gq_M × (Int → Int64)} {r : (Int32 × gq_M)} (hC : gw_C 81 81 yn_Mo_crossings.cls bc_Mo_crossings 4 x) (hR : gr_I 81 bc_Mo_crossings 4 .int ({ frames := 2, cells := 0, slots := 0, locals := 59 } : Room) x (fun z c2 => z = r.1 ∧ c2 = ca_A (G.1, r.2, G.2))) : ∀ (k : Nat) (v1 : Int32) (v2 : Int32) (M : gq_M), fl_Mo_crossings_9 k v1 v2 M = some r → gw_G 81 4 ({ frames := 2, cells := 0, slots := 0, locals := 59 } : Room) x 0 0 (ca_A (G.1, M, G.2)) 9 [(0, gv_R 57), (1, gv_I v1), (2, gv_I v2)] [] := by
  intro k
  induction k with
  | zero =>
    intro v1 v2 M h
    cases h
  | succ k ih =>
    intro v1 v2 M h
    rw [fl_Mo_crossings_9] at h
    refine gx_iload_n hC dr_Mo_crossings_9 rfl ?_
    refine gx_aload_n hC dr_Mo_crossings_10 rfl ?_
    refine gx_get hC dr_Mo_crossings_11 lf_Mo_89 (by decide) rfl rfl ?_
    refine gx_icmp_ge (tgt := 68) hC dr_Mo_crossings_14 (by decide) (fun hc1 => ?_) (fun hc1 => ?_)
    · rw [if_pos (show (gq_f M 2) ≤ v2 from hc1)] at h
      refine gx_iload_n hC dr_Mo_crossings_68 rfl ?_
      obtain rfl := Option.some.inj h
      exact hR (by decide) (by decide) dr_Mo_crossings_69 rfl ⟨rfl, rfl⟩
    · rw [if_neg (show ¬ ((gq_f M 2) ≤ v2) from hc1)] at h
      refine gx_iconst (v := 0) hC dr_Mo_crossings_17 (by decide) ?_
      refine gx_istore_n hC dr_Mo_crossings_18 (by decide) ?_
      exact gx_lv [(0, gv_R 57), (1, gv_I v1), (2, gv_I v2), (3, gv_I 0)] ⟨rfl, rfl, rfl, rfl, trivial⟩ (gl_Mo_crossings_19 hC hR (fun _ _ _ h => ih _ _ _ h) 5000 _ _ _ _ h)
set_option maxHeartbeats 4000000 in
set_option maxRecDepth 100000 in
theorem mt_Mo_crossings {l : Launch} {D : va_G} {ad : Nat → Nat} {ck : Nat → ClassId} {G : gq_M × (Int → Int64)}  {M : gq_M} {r : (Int32 × gq_M)} (h : fn_Mo_crossings  M = some r) : gm_I 81 81 l D ad ck yn_Mo_crossings bc_Mo_crossings 4 .int ({ frames := 2, cells := 0, slots := 0, locals := 59 } : Room) [gv_R 57] (ca_A (G.1, M, G.2)) (fun z c2 => z = r.1 ∧ c2 = ca_A (G.1, r.2, G.2)) := by
  refine gm_I.of (by decide) (Nat.le_of_ble_eq_true rfl) (fun x hC hR => ?_)
  unfold fn_Mo_crossings at h
  refine gx_aload_n hC dr_Mo_crossings_0 rfl ?_
  refine gx_iconst (v := 0) hC dr_Mo_crossings_1 (by decide) ?_
  refine gx_put hC (by decide) dr_Mo_crossings_2 lf_Mo_78 lp_Mo_thrown (by decide) rfl (Nat.le_of_ble_eq_true rfl) (fun _ => rfl) (fun _ => rfl) ma_F0 ?_
  refine gx_iconst (v := 0) hC dr_Mo_crossings_5 (by decide) ?_
  refine gx_istore_n hC dr_Mo_crossings_6 (by decide) ?_
  refine gx_iconst (v := 0) hC dr_Mo_crossings_7 (by decide) ?_
  refine gx_istore_n hC dr_Mo_crossings_8 (by decide) ?_
  exact gx_lv [(0, gv_R 57), (1, gv_I 0), (2, gv_I 0)] ⟨rfl, rfl, rfl, trivial⟩ (gl_Mo_crossings_9 hC hR 5000 _ _ _ h)
