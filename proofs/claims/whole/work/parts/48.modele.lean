def fl_Mo_note_8 : Nat → Int32 → Int32 → Int32 → Int32 → Int32 → gq_M → Option (Int32 × gq_M)
  | 0, _, _, _, _, _, _ => none
  | k + 1, v1, v2, v3, v4, v5, M => if (gq_f M 2) ≤ v5 then if v1 < 0 then if 1 = 0 then if v2 = 0 then some (v4, (gs_f M 0 1)) else if v2 = 1 then if 0 ≤ v4.toInt ∧ v4.toInt < ((80 : Nat) : Int) then some (((gq_i M 3) v4.toInt), (gs_f M 0 1)) else none else if 0 ≤ v4.toInt ∧ v4.toInt < ((80 : Nat) : Int) then some (((gq_i M 2) v4.toInt), (gs_f M 0 1)) else none else some (0, (gs_f M 0 1)) else if v4 = (-1) then if 1 = 0 then if v2 = 0 then some (v4, (gs_f M 0 1)) else if v2 = 1 then if 0 ≤ v4.toInt ∧ v4.toInt < ((80 : Nat) : Int) then some (((gq_i M 3) v4.toInt), (gs_f M 0 1)) else none else if 0 ≤ v4.toInt ∧ v4.toInt < ((80 : Nat) : Int) then some (((gq_i M 2) v4.toInt), (gs_f M 0 1)) else none else some (0, (gs_f M 0 1)) else if v2 < 0 then if 1 = 0 then if v2 = 0 then some (v4, (gs_f M 0 1)) else if v2 = 1 then if 0 ≤ v4.toInt ∧ v4.toInt < ((80 : Nat) : Int) then some (((gq_i M 3) v4.toInt), (gs_f M 0 1)) else none else if 0 ≤ v4.toInt ∧ v4.toInt < ((80 : Nat) : Int) then some (((gq_i M 2) v4.toInt), (gs_f M 0 1)) else none else some (0, (gs_f M 0 1)) else if 3 ≤ v2 then if 1 = 0 then if v2 = 0 then some (v4, (gs_f M 0 1)) else if v2 = 1 then if 0 ≤ v4.toInt ∧ v4.toInt < ((80 : Nat) : Int) then some (((gq_i M 3) v4.toInt), (gs_f M 0 1)) else none else if 0 ≤ v4.toInt ∧ v4.toInt < ((80 : Nat) : Int) then some (((gq_i M 2) v4.toInt), (gs_f M 0 1)) else none else some (0, (gs_f M 0 1)) else if 0 = 0 then if v2 = 0 then some (v4, (gs_f M 0 0)) else if v2 = 1 then if 0 ≤ v4.toInt ∧ v4.toInt < ((80 : Nat) : Int) then some (((gq_i M 3) v4.toInt), (gs_f M 0 0)) else none else if 0 ≤ v4.toInt ∧ v4.toInt < ((80 : Nat) : Int) then some (((gq_i M 2) v4.toInt), (gs_f M 0 0)) else none else some (0, (gs_f M 0 0)) else if v4 = (-1) then if 0 ≤ v5.toInt ∧ v5.toInt < ((80 : Nat) : Int) then if ((gq_i M 2) v5.toInt) = ((gq_i M 3) v5.toInt) then fl_Mo_note_8 k v1 v2 v3 v4 (v5 + 1) M else if v3 = 0 then fl_Mo_note_8 k v1 v2 (v3 + (-1)) v5 (v5 + 1) M else fl_Mo_note_8 k v1 v2 (v3 + (-1)) v4 (v5 + 1) M else none else if v1 < 0 then if 1 = 0 then if v2 = 0 then some (v4, (gs_f M 0 1)) else if v2 = 1 then if 0 ≤ v4.toInt ∧ v4.toInt < ((80 : Nat) : Int) then some (((gq_i M 3) v4.toInt), (gs_f M 0 1)) else none else if 0 ≤ v4.toInt ∧ v4.toInt < ((80 : Nat) : Int) then some (((gq_i M 2) v4.toInt), (gs_f M 0 1)) else none else some (0, (gs_f M 0 1)) else if v4 = (-1) then if 1 = 0 then if v2 = 0 then some (v4, (gs_f M 0 1)) else if v2 = 1 then if 0 ≤ v4.toInt ∧ v4.toInt < ((80 : Nat) : Int) then some (((gq_i M 3) v4.toInt), (gs_f M 0 1)) else none else if 0 ≤ v4.toInt ∧ v4.toInt < ((80 : Nat) : Int) then some (((gq_i M 2) v4.toInt), (gs_f M 0 1)) else none else some (0, (gs_f M 0 1)) else if v2 < 0 then if 1 = 0 then if v2 = 0 then some (v4, (gs_f M 0 1)) else if v2 = 1 then if 0 ≤ v4.toInt ∧ v4.toInt < ((80 : Nat) : Int) then some (((gq_i M 3) v4.toInt), (gs_f M 0 1)) else none else if 0 ≤ v4.toInt ∧ v4.toInt < ((80 : Nat) : Int) then some (((gq_i M 2) v4.toInt), (gs_f M 0 1)) else none else some (0, (gs_f M 0 1)) else if 3 ≤ v2 then if 1 = 0 then if v2 = 0 then some (v4, (gs_f M 0 1)) else if v2 = 1 then if 0 ≤ v4.toInt ∧ v4.toInt < ((80 : Nat) : Int) then some (((gq_i M 3) v4.toInt), (gs_f M 0 1)) else none else if 0 ≤ v4.toInt ∧ v4.toInt < ((80 : Nat) : Int) then some (((gq_i M 2) v4.toInt), (gs_f M 0 1)) else none else some (0, (gs_f M 0 1)) else if 0 = 0 then if v2 = 0 then some (v4, (gs_f M 0 0)) else if v2 = 1 then if 0 ≤ v4.toInt ∧ v4.toInt < ((80 : Nat) : Int) then some (((gq_i M 3) v4.toInt), (gs_f M 0 0)) else none else if 0 ≤ v4.toInt ∧ v4.toInt < ((80 : Nat) : Int) then some (((gq_i M 2) v4.toInt), (gs_f M 0 0)) else none else some (0, (gs_f M 0 0))
def fn_Mo_note (p0 : Int32) (p1 : Int32) (M : gq_M) : Option (Int32 × gq_M) := fl_Mo_note_8 5000 p0 p1 p0 (-1) 0 M
set_option maxHeartbeats 4000000 in
set_option maxRecDepth 100000 in
theorem gl_Mo_note_8 {x : gx_X} {G : gq_M × (Int → Int64)} {r : (Int32 × gq_M)} (hC : gw_C 81 81 yn_Mo_note.cls bc_Mo_note 6 x) (hR : gr_I 81 bc_Mo_note 6 .int ({ frames := 0, cells := 0, slots := 0, locals := 0 } : Room) x (fun z c2 => z = r.1 ∧ c2 = ca_A (G.1, r.2, G.2))) : ∀ (k : Nat) (v1 : Int32) (v2 : Int32) (v3 : Int32) (v4 : Int32) (v5 : Int32) (M : gq_M), fl_Mo_note_8 k v1 v2 v3 v4 v5 M = some r → gw_G 81 6 ({ frames := 0, cells := 0, slots := 0, locals := 0 } : Room) x 0 0 (ca_A (G.1, M, G.2)) 8 [(0, gv_R 57), (1, gv_I v1), (2, gv_I v2), (3, gv_I v3), (4, gv_I v4), (5, gv_I v5)] [] := by
  intro k
  induction k with
  | zero =>
    intro v1 v2 v3 v4 v5 M h
    cases h
  | succ k ih =>
    intro v1 v2 v3 v4 v5 M h
    rw [fl_Mo_note_8] at h
    refine gx_iload hC dr_Mo_note_8 rfl ?_
    refine gx_aload_n hC dr_Mo_note_10 rfl ?_
    refine gx_get hC dr_Mo_note_11 lf_Mo_89 (by decide) rfl rfl ?_
    refine gx_icmp_ge (tgt := 60) hC dr_Mo_note_14 (by decide) (fun hc1 => ?_) (fun hc1 => ?_)
    · rw [if_pos hc1] at h
      refine gx_aload_n hC dr_Mo_note_60 rfl ?_
      refine gx_iload_n hC dr_Mo_note_61 rfl ?_
      refine gx_if_lt (tgt := 84) hC dr_Mo_note_62 (by decide) (fun hc2 => ?_) (fun hc2 => ?_)
      · rw [if_pos hc2] at h
        refine gx_iconst (v := 1) hC dr_Mo_note_84 (by decide) ?_
        refine gx_put hC (by decide) dr_Mo_note_85 lf_Mo_78 lp_Mo_thrown (by decide) rfl (Nat.le_of_ble_eq_true rfl) (fun _ => rfl) (fun _ => rfl) ma_F0 ?_
        refine gx_aload_n hC dr_Mo_note_88 rfl ?_
        refine gx_get hC dr_Mo_note_89 lf_Mo_78 (by decide) rfl rfl ?_
        refine gx_if_eq (tgt := 97) hC dr_Mo_note_92 (by decide) (fun hc3 => ?_) (fun hc3 => ?_)
        · rw [if_pos hc3] at h
          refine gx_iload_n hC dr_Mo_note_97 rfl ?_
          refine gx_if_ne (tgt := 106) hC dr_Mo_note_98 (by decide) (fun hc4 => ?_) (fun hc4 => ?_)
          · rw [if_neg hc4] at h
            refine gx_iload_n hC dr_Mo_note_106 rfl ?_
            refine gx_iconst (v := 1) hC dr_Mo_note_107 (by decide) ?_
            refine gx_icmp_ne (tgt := 121) hC dr_Mo_note_108 (by decide) (fun hc5 => ?_) (fun hc5 => ?_)
            · rw [if_neg hc5] at h
              refine gx_aload_n hC dr_Mo_note_121 rfl ?_
              refine gx_get hC dr_Mo_note_122 lf_Mo_23 (by decide) rfl rfl ?_
              refine gx_iload hC dr_Mo_note_125 rfl ?_
              obtain ⟨hz7, h⟩ := gk_of h
              refine gx_iald (f := (gq_i M 2)) hC dr_Mo_note_127 (by decide) rfl hz7 ?_
              cases h
              exact hR (by decide) (by decide) dr_Mo_note_128 rfl ⟨rfl, rfl⟩
            · rw [if_pos hc5] at h
              refine gx_aload_n hC dr_Mo_note_111 rfl ?_
              refine gx_get hC dr_Mo_note_112 lf_Mo_26 (by decide) rfl rfl ?_
              refine gx_iload hC dr_Mo_note_115 rfl ?_
              obtain ⟨hz6, h⟩ := gk_of h
              refine gx_iald (f := (gq_i M 3)) hC dr_Mo_note_117 (by decide) rfl hz6 ?_
              refine gx_goto (tgt := 128) hC dr_Mo_note_118 (by decide) ?_
              cases h
              exact hR (by decide) (by decide) dr_Mo_note_128 rfl ⟨rfl, rfl⟩
          · rw [if_pos hc4] at h
            refine gx_iload hC dr_Mo_note_101 rfl ?_
            refine gx_goto (tgt := 128) hC dr_Mo_note_103 (by decide) ?_
            cases h
            exact hR (by decide) (by decide) dr_Mo_note_128 rfl ⟨rfl, rfl⟩
        · rw [if_neg hc3] at h
          refine gx_iconst (v := 0) hC dr_Mo_note_95 (by decide) ?_
          cases h
          exact hR (by decide) (by decide) dr_Mo_note_96 rfl ⟨rfl, rfl⟩
      · rw [if_neg hc2] at h
        refine gx_iload hC dr_Mo_note_65 rfl ?_
        refine gx_iconst (v := (-1)) hC dr_Mo_note_67 (by decide) ?_
        refine gx_icmp_eq (tgt := 84) hC dr_Mo_note_68 (by decide) (fun hc8 => ?_) (fun hc8 => ?_)
        · rw [if_pos hc8] at h
          refine gx_iconst (v := 1) hC dr_Mo_note_84 (by decide) ?_
          refine gx_put hC (by decide) dr_Mo_note_85 lf_Mo_78 lp_Mo_thrown (by decide) rfl (Nat.le_of_ble_eq_true rfl) (fun _ => rfl) (fun _ => rfl) ma_F0 ?_
          refine gx_aload_n hC dr_Mo_note_88 rfl ?_
          refine gx_get hC dr_Mo_note_89 lf_Mo_78 (by decide) rfl rfl ?_
          refine gx_if_eq (tgt := 97) hC dr_Mo_note_92 (by decide) (fun hc9 => ?_) (fun hc9 => ?_)
          · rw [if_pos hc9] at h
            refine gx_iload_n hC dr_Mo_note_97 rfl ?_
            refine gx_if_ne (tgt := 106) hC dr_Mo_note_98 (by decide) (fun hc10 => ?_) (fun hc10 => ?_)
            · rw [if_neg hc10] at h
              refine gx_iload_n hC dr_Mo_note_106 rfl ?_
              refine gx_iconst (v := 1) hC dr_Mo_note_107 (by decide) ?_
              refine gx_icmp_ne (tgt := 121) hC dr_Mo_note_108 (by decide) (fun hc11 => ?_) (fun hc11 => ?_)
              · rw [if_neg hc11] at h
                refine gx_aload_n hC dr_Mo_note_121 rfl ?_
                refine gx_get hC dr_Mo_note_122 lf_Mo_23 (by decide) rfl rfl ?_
                refine gx_iload hC dr_Mo_note_125 rfl ?_
                obtain ⟨hz13, h⟩ := gk_of h
                refine gx_iald (f := (gq_i M 2)) hC dr_Mo_note_127 (by decide) rfl hz13 ?_
                cases h
                exact hR (by decide) (by decide) dr_Mo_note_128 rfl ⟨rfl, rfl⟩
              · rw [if_pos hc11] at h
                refine gx_aload_n hC dr_Mo_note_111 rfl ?_
                refine gx_get hC dr_Mo_note_112 lf_Mo_26 (by decide) rfl rfl ?_
                refine gx_iload hC dr_Mo_note_115 rfl ?_
                obtain ⟨hz12, h⟩ := gk_of h
                refine gx_iald (f := (gq_i M 3)) hC dr_Mo_note_117 (by decide) rfl hz12 ?_
                refine gx_goto (tgt := 128) hC dr_Mo_note_118 (by decide) ?_
                cases h
                exact hR (by decide) (by decide) dr_Mo_note_128 rfl ⟨rfl, rfl⟩
            · rw [if_pos hc10] at h
              refine gx_iload hC dr_Mo_note_101 rfl ?_
              refine gx_goto (tgt := 128) hC dr_Mo_note_103 (by decide) ?_
              cases h
              exact hR (by decide) (by decide) dr_Mo_note_128 rfl ⟨rfl, rfl⟩
          · rw [if_neg hc9] at h
            refine gx_iconst (v := 0) hC dr_Mo_note_95 (by decide) ?_
            cases h
            exact hR (by decide) (by decide) dr_Mo_note_96 rfl ⟨rfl, rfl⟩
        · rw [if_neg hc8] at h
          refine gx_iload_n hC dr_Mo_note_71 rfl ?_
          refine gx_if_lt (tgt := 84) hC dr_Mo_note_72 (by decide) (fun hc14 => ?_) (fun hc14 => ?_)
          · rw [if_pos hc14] at h
            refine gx_iconst (v := 1) hC dr_Mo_note_84 (by decide) ?_
            refine gx_put hC (by decide) dr_Mo_note_85 lf_Mo_78 lp_Mo_thrown (by decide) rfl (Nat.le_of_ble_eq_true rfl) (fun _ => rfl) (fun _ => rfl) ma_F0 ?_
            refine gx_aload_n hC dr_Mo_note_88 rfl ?_
            refine gx_get hC dr_Mo_note_89 lf_Mo_78 (by decide) rfl rfl ?_
            refine gx_if_eq (tgt := 97) hC dr_Mo_note_92 (by decide) (fun hc15 => ?_) (fun hc15 => ?_)
            · rw [if_pos hc15] at h
              refine gx_iload_n hC dr_Mo_note_97 rfl ?_
              refine gx_if_ne (tgt := 106) hC dr_Mo_note_98 (by decide) (fun hc16 => ?_) (fun hc16 => ?_)
              · rw [if_neg hc16] at h
                refine gx_iload_n hC dr_Mo_note_106 rfl ?_
                refine gx_iconst (v := 1) hC dr_Mo_note_107 (by decide) ?_
                refine gx_icmp_ne (tgt := 121) hC dr_Mo_note_108 (by decide) (fun hc17 => ?_) (fun hc17 => ?_)
                · rw [if_neg hc17] at h
                  refine gx_aload_n hC dr_Mo_note_121 rfl ?_
                  refine gx_get hC dr_Mo_note_122 lf_Mo_23 (by decide) rfl rfl ?_
                  refine gx_iload hC dr_Mo_note_125 rfl ?_
                  obtain ⟨hz19, h⟩ := gk_of h
                  refine gx_iald (f := (gq_i M 2)) hC dr_Mo_note_127 (by decide) rfl hz19 ?_
                  cases h
                  exact hR (by decide) (by decide) dr_Mo_note_128 rfl ⟨rfl, rfl⟩
                · rw [if_pos hc17] at h
                  refine gx_aload_n hC dr_Mo_note_111 rfl ?_
                  refine gx_get hC dr_Mo_note_112 lf_Mo_26 (by decide) rfl rfl ?_
                  refine gx_iload hC dr_Mo_note_115 rfl ?_
                  obtain ⟨hz18, h⟩ := gk_of h
                  refine gx_iald (f := (gq_i M 3)) hC dr_Mo_note_117 (by decide) rfl hz18 ?_
                  refine gx_goto (tgt := 128) hC dr_Mo_note_118 (by decide) ?_
                  cases h
                  exact hR (by decide) (by decide) dr_Mo_note_128 rfl ⟨rfl, rfl⟩
              · rw [if_pos hc16] at h
                refine gx_iload hC dr_Mo_note_101 rfl ?_
                refine gx_goto (tgt := 128) hC dr_Mo_note_103 (by decide) ?_
                cases h
                exact hR (by decide) (by decide) dr_Mo_note_128 rfl ⟨rfl, rfl⟩
            · rw [if_neg hc15] at h
              refine gx_iconst (v := 0) hC dr_Mo_note_95 (by decide) ?_
              cases h
              exact hR (by decide) (by decide) dr_Mo_note_96 rfl ⟨rfl, rfl⟩
          · rw [if_neg hc14] at h
            refine gx_iload_n hC dr_Mo_note_75 rfl ?_
            refine gx_iconst (v := 3) hC dr_Mo_note_76 (by decide) ?_
            refine gx_icmp_ge (tgt := 84) hC dr_Mo_note_77 (by decide) (fun hc20 => ?_) (fun hc20 => ?_)
            · rw [if_pos hc20] at h
              refine gx_iconst (v := 1) hC dr_Mo_note_84 (by decide) ?_
              refine gx_put hC (by decide) dr_Mo_note_85 lf_Mo_78 lp_Mo_thrown (by decide) rfl (Nat.le_of_ble_eq_true rfl) (fun _ => rfl) (fun _ => rfl) ma_F0 ?_
              refine gx_aload_n hC dr_Mo_note_88 rfl ?_
              refine gx_get hC dr_Mo_note_89 lf_Mo_78 (by decide) rfl rfl ?_
              refine gx_if_eq (tgt := 97) hC dr_Mo_note_92 (by decide) (fun hc21 => ?_) (fun hc21 => ?_)
              · rw [if_pos hc21] at h
                refine gx_iload_n hC dr_Mo_note_97 rfl ?_
                refine gx_if_ne (tgt := 106) hC dr_Mo_note_98 (by decide) (fun hc22 => ?_) (fun hc22 => ?_)
                · rw [if_neg hc22] at h
                  refine gx_iload_n hC dr_Mo_note_106 rfl ?_
                  refine gx_iconst (v := 1) hC dr_Mo_note_107 (by decide) ?_
                  refine gx_icmp_ne (tgt := 121) hC dr_Mo_note_108 (by decide) (fun hc23 => ?_) (fun hc23 => ?_)
                  · rw [if_neg hc23] at h
                    refine gx_aload_n hC dr_Mo_note_121 rfl ?_
                    refine gx_get hC dr_Mo_note_122 lf_Mo_23 (by decide) rfl rfl ?_
                    refine gx_iload hC dr_Mo_note_125 rfl ?_
                    obtain ⟨hz25, h⟩ := gk_of h
                    refine gx_iald (f := (gq_i M 2)) hC dr_Mo_note_127 (by decide) rfl hz25 ?_
                    cases h
                    exact hR (by decide) (by decide) dr_Mo_note_128 rfl ⟨rfl, rfl⟩
                  · rw [if_pos hc23] at h
                    refine gx_aload_n hC dr_Mo_note_111 rfl ?_
                    refine gx_get hC dr_Mo_note_112 lf_Mo_26 (by decide) rfl rfl ?_
                    refine gx_iload hC dr_Mo_note_115 rfl ?_
                    obtain ⟨hz24, h⟩ := gk_of h
                    refine gx_iald (f := (gq_i M 3)) hC dr_Mo_note_117 (by decide) rfl hz24 ?_
                    refine gx_goto (tgt := 128) hC dr_Mo_note_118 (by decide) ?_
                    cases h
                    exact hR (by decide) (by decide) dr_Mo_note_128 rfl ⟨rfl, rfl⟩
                · rw [if_pos hc22] at h
                  refine gx_iload hC dr_Mo_note_101 rfl ?_
                  refine gx_goto (tgt := 128) hC dr_Mo_note_103 (by decide) ?_
                  cases h
                  exact hR (by decide) (by decide) dr_Mo_note_128 rfl ⟨rfl, rfl⟩
              · rw [if_neg hc21] at h
                refine gx_iconst (v := 0) hC dr_Mo_note_95 (by decide) ?_
                cases h
                exact hR (by decide) (by decide) dr_Mo_note_96 rfl ⟨rfl, rfl⟩
            · rw [if_neg hc20] at h
              refine gx_iconst (v := 0) hC dr_Mo_note_80 (by decide) ?_
              refine gx_goto (tgt := 85) hC dr_Mo_note_81 (by decide) ?_
              refine gx_put hC (by decide) dr_Mo_note_85 lf_Mo_78 lp_Mo_thrown (by decide) rfl (Nat.le_of_ble_eq_true rfl) (fun _ => rfl) (fun _ => rfl) ma_F0 ?_
              refine gx_aload_n hC dr_Mo_note_88 rfl ?_
              refine gx_get hC dr_Mo_note_89 lf_Mo_78 (by decide) rfl rfl ?_
              refine gx_if_eq (tgt := 97) hC dr_Mo_note_92 (by decide) (fun hc26 => ?_) (fun hc26 => ?_)
              · rw [if_pos hc26] at h
                refine gx_iload_n hC dr_Mo_note_97 rfl ?_
                refine gx_if_ne (tgt := 106) hC dr_Mo_note_98 (by decide) (fun hc27 => ?_) (fun hc27 => ?_)
                · rw [if_neg hc27] at h
                  refine gx_iload_n hC dr_Mo_note_106 rfl ?_
                  refine gx_iconst (v := 1) hC dr_Mo_note_107 (by decide) ?_
                  refine gx_icmp_ne (tgt := 121) hC dr_Mo_note_108 (by decide) (fun hc28 => ?_) (fun hc28 => ?_)
                  · rw [if_neg hc28] at h
                    refine gx_aload_n hC dr_Mo_note_121 rfl ?_
                    refine gx_get hC dr_Mo_note_122 lf_Mo_23 (by decide) rfl rfl ?_
                    refine gx_iload hC dr_Mo_note_125 rfl ?_
                    obtain ⟨hz30, h⟩ := gk_of h
                    refine gx_iald (f := (gq_i M 2)) hC dr_Mo_note_127 (by decide) rfl hz30 ?_
                    cases h
                    exact hR (by decide) (by decide) dr_Mo_note_128 rfl ⟨rfl, rfl⟩
                  · rw [if_pos hc28] at h
                    refine gx_aload_n hC dr_Mo_note_111 rfl ?_
                    refine gx_get hC dr_Mo_note_112 lf_Mo_26 (by decide) rfl rfl ?_
                    refine gx_iload hC dr_Mo_note_115 rfl ?_
                    obtain ⟨hz29, h⟩ := gk_of h
                    refine gx_iald (f := (gq_i M 3)) hC dr_Mo_note_117 (by decide) rfl hz29 ?_
                    refine gx_goto (tgt := 128) hC dr_Mo_note_118 (by decide) ?_
                    cases h
                    exact hR (by decide) (by decide) dr_Mo_note_128 rfl ⟨rfl, rfl⟩
                · rw [if_pos hc27] at h
                  refine gx_iload hC dr_Mo_note_101 rfl ?_
                  refine gx_goto (tgt := 128) hC dr_Mo_note_103 (by decide) ?_
                  cases h
                  exact hR (by decide) (by decide) dr_Mo_note_128 rfl ⟨rfl, rfl⟩
              · rw [if_neg hc26] at h
                refine gx_iconst (v := 0) hC dr_Mo_note_95 (by decide) ?_
                cases h
                exact hR (by decide) (by decide) dr_Mo_note_96 rfl ⟨rfl, rfl⟩
    · rw [if_neg hc1] at h
      refine gx_iload hC dr_Mo_note_17 rfl ?_
      refine gx_iconst (v := (-1)) hC dr_Mo_note_19 (by decide) ?_
      refine gx_icmp_ne (tgt := 60) hC dr_Mo_note_20 (by decide) (fun hc31 => ?_) (fun hc31 => ?_)
      · rw [if_neg hc31] at h
        refine gx_aload_n hC dr_Mo_note_60 rfl ?_
        refine gx_iload_n hC dr_Mo_note_61 rfl ?_
        refine gx_if_lt (tgt := 84) hC dr_Mo_note_62 (by decide) (fun hc35 => ?_) (fun hc35 => ?_)
        · rw [if_pos hc35] at h
          refine gx_iconst (v := 1) hC dr_Mo_note_84 (by decide) ?_
          refine gx_put hC (by decide) dr_Mo_note_85 lf_Mo_78 lp_Mo_thrown (by decide) rfl (Nat.le_of_ble_eq_true rfl) (fun _ => rfl) (fun _ => rfl) ma_F0 ?_
          refine gx_aload_n hC dr_Mo_note_88 rfl ?_
          refine gx_get hC dr_Mo_note_89 lf_Mo_78 (by decide) rfl rfl ?_
          refine gx_if_eq (tgt := 97) hC dr_Mo_note_92 (by decide) (fun hc36 => ?_) (fun hc36 => ?_)
          · rw [if_pos hc36] at h
            refine gx_iload_n hC dr_Mo_note_97 rfl ?_
            refine gx_if_ne (tgt := 106) hC dr_Mo_note_98 (by decide) (fun hc37 => ?_) (fun hc37 => ?_)
            · rw [if_neg hc37] at h
              refine gx_iload_n hC dr_Mo_note_106 rfl ?_
              refine gx_iconst (v := 1) hC dr_Mo_note_107 (by decide) ?_
              refine gx_icmp_ne (tgt := 121) hC dr_Mo_note_108 (by decide) (fun hc38 => ?_) (fun hc38 => ?_)
              · rw [if_neg hc38] at h
                refine gx_aload_n hC dr_Mo_note_121 rfl ?_
                refine gx_get hC dr_Mo_note_122 lf_Mo_23 (by decide) rfl rfl ?_
                refine gx_iload hC dr_Mo_note_125 rfl ?_
                obtain ⟨hz40, h⟩ := gk_of h
                refine gx_iald (f := (gq_i M 2)) hC dr_Mo_note_127 (by decide) rfl hz40 ?_
                cases h
                exact hR (by decide) (by decide) dr_Mo_note_128 rfl ⟨rfl, rfl⟩
              · rw [if_pos hc38] at h
                refine gx_aload_n hC dr_Mo_note_111 rfl ?_
                refine gx_get hC dr_Mo_note_112 lf_Mo_26 (by decide) rfl rfl ?_
                refine gx_iload hC dr_Mo_note_115 rfl ?_
                obtain ⟨hz39, h⟩ := gk_of h
                refine gx_iald (f := (gq_i M 3)) hC dr_Mo_note_117 (by decide) rfl hz39 ?_
                refine gx_goto (tgt := 128) hC dr_Mo_note_118 (by decide) ?_
                cases h
                exact hR (by decide) (by decide) dr_Mo_note_128 rfl ⟨rfl, rfl⟩
            · rw [if_pos hc37] at h
              refine gx_iload hC dr_Mo_note_101 rfl ?_
              refine gx_goto (tgt := 128) hC dr_Mo_note_103 (by decide) ?_
              cases h
              exact hR (by decide) (by decide) dr_Mo_note_128 rfl ⟨rfl, rfl⟩
          · rw [if_neg hc36] at h
            refine gx_iconst (v := 0) hC dr_Mo_note_95 (by decide) ?_
            cases h
            exact hR (by decide) (by decide) dr_Mo_note_96 rfl ⟨rfl, rfl⟩
        · rw [if_neg hc35] at h
          refine gx_iload hC dr_Mo_note_65 rfl ?_
          refine gx_iconst (v := (-1)) hC dr_Mo_note_67 (by decide) ?_
          refine gx_icmp_eq (tgt := 84) hC dr_Mo_note_68 (by decide) (fun hc41 => ?_) (fun hc41 => ?_)
          · rw [if_pos hc41] at h
            refine gx_iconst (v := 1) hC dr_Mo_note_84 (by decide) ?_
            refine gx_put hC (by decide) dr_Mo_note_85 lf_Mo_78 lp_Mo_thrown (by decide) rfl (Nat.le_of_ble_eq_true rfl) (fun _ => rfl) (fun _ => rfl) ma_F0 ?_
            refine gx_aload_n hC dr_Mo_note_88 rfl ?_
            refine gx_get hC dr_Mo_note_89 lf_Mo_78 (by decide) rfl rfl ?_
            refine gx_if_eq (tgt := 97) hC dr_Mo_note_92 (by decide) (fun hc42 => ?_) (fun hc42 => ?_)
            · rw [if_pos hc42] at h
              refine gx_iload_n hC dr_Mo_note_97 rfl ?_
              refine gx_if_ne (tgt := 106) hC dr_Mo_note_98 (by decide) (fun hc43 => ?_) (fun hc43 => ?_)
              · rw [if_neg hc43] at h
                refine gx_iload_n hC dr_Mo_note_106 rfl ?_
                refine gx_iconst (v := 1) hC dr_Mo_note_107 (by decide) ?_
                refine gx_icmp_ne (tgt := 121) hC dr_Mo_note_108 (by decide) (fun hc44 => ?_) (fun hc44 => ?_)
                · rw [if_neg hc44] at h
                  refine gx_aload_n hC dr_Mo_note_121 rfl ?_
                  refine gx_get hC dr_Mo_note_122 lf_Mo_23 (by decide) rfl rfl ?_
                  refine gx_iload hC dr_Mo_note_125 rfl ?_
                  obtain ⟨hz46, h⟩ := gk_of h
                  refine gx_iald (f := (gq_i M 2)) hC dr_Mo_note_127 (by decide) rfl hz46 ?_
                  cases h
                  exact hR (by decide) (by decide) dr_Mo_note_128 rfl ⟨rfl, rfl⟩
                · rw [if_pos hc44] at h
                  refine gx_aload_n hC dr_Mo_note_111 rfl ?_
                  refine gx_get hC dr_Mo_note_112 lf_Mo_26 (by decide) rfl rfl ?_
                  refine gx_iload hC dr_Mo_note_115 rfl ?_
                  obtain ⟨hz45, h⟩ := gk_of h
                  refine gx_iald (f := (gq_i M 3)) hC dr_Mo_note_117 (by decide) rfl hz45 ?_
                  refine gx_goto (tgt := 128) hC dr_Mo_note_118 (by decide) ?_
                  cases h
                  exact hR (by decide) (by decide) dr_Mo_note_128 rfl ⟨rfl, rfl⟩
              · rw [if_pos hc43] at h
                refine gx_iload hC dr_Mo_note_101 rfl ?_
                refine gx_goto (tgt := 128) hC dr_Mo_note_103 (by decide) ?_
                cases h
                exact hR (by decide) (by decide) dr_Mo_note_128 rfl ⟨rfl, rfl⟩
            · rw [if_neg hc42] at h
              refine gx_iconst (v := 0) hC dr_Mo_note_95 (by decide) ?_
              cases h
              exact hR (by decide) (by decide) dr_Mo_note_96 rfl ⟨rfl, rfl⟩
          · rw [if_neg hc41] at h
            refine gx_iload_n hC dr_Mo_note_71 rfl ?_
            refine gx_if_lt (tgt := 84) hC dr_Mo_note_72 (by decide) (fun hc47 => ?_) (fun hc47 => ?_)
            · rw [if_pos hc47] at h
              refine gx_iconst (v := 1) hC dr_Mo_note_84 (by decide) ?_
              refine gx_put hC (by decide) dr_Mo_note_85 lf_Mo_78 lp_Mo_thrown (by decide) rfl (Nat.le_of_ble_eq_true rfl) (fun _ => rfl) (fun _ => rfl) ma_F0 ?_
              refine gx_aload_n hC dr_Mo_note_88 rfl ?_
              refine gx_get hC dr_Mo_note_89 lf_Mo_78 (by decide) rfl rfl ?_
              refine gx_if_eq (tgt := 97) hC dr_Mo_note_92 (by decide) (fun hc48 => ?_) (fun hc48 => ?_)
              · rw [if_pos hc48] at h
                refine gx_iload_n hC dr_Mo_note_97 rfl ?_
                refine gx_if_ne (tgt := 106) hC dr_Mo_note_98 (by decide) (fun hc49 => ?_) (fun hc49 => ?_)
                · rw [if_neg hc49] at h
                  refine gx_iload_n hC dr_Mo_note_106 rfl ?_
                  refine gx_iconst (v := 1) hC dr_Mo_note_107 (by decide) ?_
                  refine gx_icmp_ne (tgt := 121) hC dr_Mo_note_108 (by decide) (fun hc50 => ?_) (fun hc50 => ?_)
                  · rw [if_neg hc50] at h
                    refine gx_aload_n hC dr_Mo_note_121 rfl ?_
                    refine gx_get hC dr_Mo_note_122 lf_Mo_23 (by decide) rfl rfl ?_
                    refine gx_iload hC dr_Mo_note_125 rfl ?_
                    obtain ⟨hz52, h⟩ := gk_of h
                    refine gx_iald (f := (gq_i M 2)) hC dr_Mo_note_127 (by decide) rfl hz52 ?_
                    cases h
                    exact hR (by decide) (by decide) dr_Mo_note_128 rfl ⟨rfl, rfl⟩
                  · rw [if_pos hc50] at h
                    refine gx_aload_n hC dr_Mo_note_111 rfl ?_
                    refine gx_get hC dr_Mo_note_112 lf_Mo_26 (by decide) rfl rfl ?_
                    refine gx_iload hC dr_Mo_note_115 rfl ?_
                    obtain ⟨hz51, h⟩ := gk_of h
                    refine gx_iald (f := (gq_i M 3)) hC dr_Mo_note_117 (by decide) rfl hz51 ?_
                    refine gx_goto (tgt := 128) hC dr_Mo_note_118 (by decide) ?_
                    cases h
                    exact hR (by decide) (by decide) dr_Mo_note_128 rfl ⟨rfl, rfl⟩
                · rw [if_pos hc49] at h
                  refine gx_iload hC dr_Mo_note_101 rfl ?_
                  refine gx_goto (tgt := 128) hC dr_Mo_note_103 (by decide) ?_
                  cases h
                  exact hR (by decide) (by decide) dr_Mo_note_128 rfl ⟨rfl, rfl⟩
              · rw [if_neg hc48] at h
                refine gx_iconst (v := 0) hC dr_Mo_note_95 (by decide) ?_
                cases h
                exact hR (by decide) (by decide) dr_Mo_note_96 rfl ⟨rfl, rfl⟩
            · rw [if_neg hc47] at h
              refine gx_iload_n hC dr_Mo_note_75 rfl ?_
              refine gx_iconst (v := 3) hC dr_Mo_note_76 (by decide) ?_
              refine gx_icmp_ge (tgt := 84) hC dr_Mo_note_77 (by decide) (fun hc53 => ?_) (fun hc53 => ?_)
              · rw [if_pos hc53] at h
                refine gx_iconst (v := 1) hC dr_Mo_note_84 (by decide) ?_
                refine gx_put hC (by decide) dr_Mo_note_85 lf_Mo_78 lp_Mo_thrown (by decide) rfl (Nat.le_of_ble_eq_true rfl) (fun _ => rfl) (fun _ => rfl) ma_F0 ?_
                refine gx_aload_n hC dr_Mo_note_88 rfl ?_
                refine gx_get hC dr_Mo_note_89 lf_Mo_78 (by decide) rfl rfl ?_
                refine gx_if_eq (tgt := 97) hC dr_Mo_note_92 (by decide) (fun hc54 => ?_) (fun hc54 => ?_)
                · rw [if_pos hc54] at h
                  refine gx_iload_n hC dr_Mo_note_97 rfl ?_
                  refine gx_if_ne (tgt := 106) hC dr_Mo_note_98 (by decide) (fun hc55 => ?_) (fun hc55 => ?_)
                  · rw [if_neg hc55] at h
                    refine gx_iload_n hC dr_Mo_note_106 rfl ?_
                    refine gx_iconst (v := 1) hC dr_Mo_note_107 (by decide) ?_
                    refine gx_icmp_ne (tgt := 121) hC dr_Mo_note_108 (by decide) (fun hc56 => ?_) (fun hc56 => ?_)
                    · rw [if_neg hc56] at h
                      refine gx_aload_n hC dr_Mo_note_121 rfl ?_
                      refine gx_get hC dr_Mo_note_122 lf_Mo_23 (by decide) rfl rfl ?_
                      refine gx_iload hC dr_Mo_note_125 rfl ?_
                      obtain ⟨hz58, h⟩ := gk_of h
                      refine gx_iald (f := (gq_i M 2)) hC dr_Mo_note_127 (by decide) rfl hz58 ?_
                      cases h
                      exact hR (by decide) (by decide) dr_Mo_note_128 rfl ⟨rfl, rfl⟩
                    · rw [if_pos hc56] at h
                      refine gx_aload_n hC dr_Mo_note_111 rfl ?_
                      refine gx_get hC dr_Mo_note_112 lf_Mo_26 (by decide) rfl rfl ?_
                      refine gx_iload hC dr_Mo_note_115 rfl ?_
                      obtain ⟨hz57, h⟩ := gk_of h
                      refine gx_iald (f := (gq_i M 3)) hC dr_Mo_note_117 (by decide) rfl hz57 ?_
                      refine gx_goto (tgt := 128) hC dr_Mo_note_118 (by decide) ?_
                      cases h
                      exact hR (by decide) (by decide) dr_Mo_note_128 rfl ⟨rfl, rfl⟩
                  · rw [if_pos hc55] at h
                    refine gx_iload hC dr_Mo_note_101 rfl ?_
                    refine gx_goto (tgt := 128) hC dr_Mo_note_103 (by decide) ?_
                    cases h
                    exact hR (by decide) (by decide) dr_Mo_note_128 rfl ⟨rfl, rfl⟩
                · rw [if_neg hc54] at h
                  refine gx_iconst (v := 0) hC dr_Mo_note_95 (by decide) ?_
                  cases h
                  exact hR (by decide) (by decide) dr_Mo_note_96 rfl ⟨rfl, rfl⟩
              · rw [if_neg hc53] at h
                refine gx_iconst (v := 0) hC dr_Mo_note_80 (by decide) ?_
                refine gx_goto (tgt := 85) hC dr_Mo_note_81 (by decide) ?_
                refine gx_put hC (by decide) dr_Mo_note_85 lf_Mo_78 lp_Mo_thrown (by decide) rfl (Nat.le_of_ble_eq_true rfl) (fun _ => rfl) (fun _ => rfl) ma_F0 ?_
                refine gx_aload_n hC dr_Mo_note_88 rfl ?_
                refine gx_get hC dr_Mo_note_89 lf_Mo_78 (by decide) rfl rfl ?_
                refine gx_if_eq (tgt := 97) hC dr_Mo_note_92 (by decide) (fun hc59 => ?_) (fun hc59 => ?_)
                · rw [if_pos hc59] at h
                  refine gx_iload_n hC dr_Mo_note_97 rfl ?_
                  refine gx_if_ne (tgt := 106) hC dr_Mo_note_98 (by decide) (fun hc60 => ?_) (fun hc60 => ?_)
                  · rw [if_neg hc60] at h
                    refine gx_iload_n hC dr_Mo_note_106 rfl ?_
                    refine gx_iconst (v := 1) hC dr_Mo_note_107 (by decide) ?_
                    refine gx_icmp_ne (tgt := 121) hC dr_Mo_note_108 (by decide) (fun hc61 => ?_) (fun hc61 => ?_)
                    · rw [if_neg hc61] at h
                      refine gx_aload_n hC dr_Mo_note_121 rfl ?_
                      refine gx_get hC dr_Mo_note_122 lf_Mo_23 (by decide) rfl rfl ?_
                      refine gx_iload hC dr_Mo_note_125 rfl ?_
                      obtain ⟨hz63, h⟩ := gk_of h
                      refine gx_iald (f := (gq_i M 2)) hC dr_Mo_note_127 (by decide) rfl hz63 ?_
                      cases h
                      exact hR (by decide) (by decide) dr_Mo_note_128 rfl ⟨rfl, rfl⟩
                    · rw [if_pos hc61] at h
                      refine gx_aload_n hC dr_Mo_note_111 rfl ?_
                      refine gx_get hC dr_Mo_note_112 lf_Mo_26 (by decide) rfl rfl ?_
                      refine gx_iload hC dr_Mo_note_115 rfl ?_
                      obtain ⟨hz62, h⟩ := gk_of h
                      refine gx_iald (f := (gq_i M 3)) hC dr_Mo_note_117 (by decide) rfl hz62 ?_
                      refine gx_goto (tgt := 128) hC dr_Mo_note_118 (by decide) ?_
                      cases h
                      exact hR (by decide) (by decide) dr_Mo_note_128 rfl ⟨rfl, rfl⟩
                  · rw [if_pos hc60] at h
                    refine gx_iload hC dr_Mo_note_101 rfl ?_
                    refine gx_goto (tgt := 128) hC dr_Mo_note_103 (by decide) ?_
                    cases h
                    exact hR (by decide) (by decide) dr_Mo_note_128 rfl ⟨rfl, rfl⟩
                · rw [if_neg hc59] at h
                  refine gx_iconst (v := 0) hC dr_Mo_note_95 (by decide) ?_
                  cases h
                  exact hR (by decide) (by decide) dr_Mo_note_96 rfl ⟨rfl, rfl⟩
      · rw [if_pos hc31] at h
        refine gx_aload_n hC dr_Mo_note_23 rfl ?_
        refine gx_get hC dr_Mo_note_24 lf_Mo_23 (by decide) rfl rfl ?_
        refine gx_iload hC dr_Mo_note_27 rfl ?_
        obtain ⟨hz32, h⟩ := gk_of h
        refine gx_iald (f := (gq_i M 2)) hC dr_Mo_note_29 (by decide) rfl hz32 ?_
        refine gx_aload_n hC dr_Mo_note_30 rfl ?_
        refine gx_get hC dr_Mo_note_31 lf_Mo_26 (by decide) rfl rfl ?_
        refine gx_iload hC dr_Mo_note_34 rfl ?_
        refine gx_iald (f := (gq_i M 3)) hC dr_Mo_note_36 (by decide) rfl hz32 ?_
        refine gx_icmp_ne (tgt := 43) hC dr_Mo_note_37 (by decide) (fun hc33 => ?_) (fun hc33 => ?_)
        · rw [if_neg hc33] at h
          refine gx_iload_n hC dr_Mo_note_43 rfl ?_
          refine gx_if_ne (tgt := 51) hC dr_Mo_note_44 (by decide) (fun hc34 => ?_) (fun hc34 => ?_)
          · rw [if_neg hc34] at h
            refine gx_iinc (v := (v3 + (-1))) hC dr_Mo_note_51 rfl (by decide) rfl ?_
            refine gx_iinc (v := (v5 + 1)) hC dr_Mo_note_54 rfl (by decide) rfl ?_
            refine gx_goto (tgt := 8) hC dr_Mo_note_57 (by decide) ?_
            exact gx_lv [(0, gv_R 57), (1, gv_I v1), (2, gv_I v2), (3, gv_I (v3 + (-1))), (4, gv_I v4), (5, gv_I (v5 + 1))] ⟨rfl, rfl, rfl, rfl, rfl, rfl, trivial⟩ (ih _ _ _ _ _ _ h)
          · rw [if_pos hc34] at h
            refine gx_iload hC dr_Mo_note_47 rfl ?_
            refine gx_istore hC dr_Mo_note_49 (by decide) ?_
            refine gx_iinc (v := (v3 + (-1))) hC dr_Mo_note_51 rfl (by decide) rfl ?_
            refine gx_iinc (v := (v5 + 1)) hC dr_Mo_note_54 rfl (by decide) rfl ?_
            refine gx_goto (tgt := 8) hC dr_Mo_note_57 (by decide) ?_
            exact gx_lv [(0, gv_R 57), (1, gv_I v1), (2, gv_I v2), (3, gv_I (v3 + (-1))), (4, gv_I v5), (5, gv_I (v5 + 1))] ⟨rfl, rfl, rfl, rfl, rfl, rfl, trivial⟩ (ih _ _ _ _ _ _ h)
        · rw [if_pos hc33] at h
          refine gx_goto (tgt := 54) hC dr_Mo_note_40 (by decide) ?_
          refine gx_iinc (v := (v5 + 1)) hC dr_Mo_note_54 rfl (by decide) rfl ?_
          refine gx_goto (tgt := 8) hC dr_Mo_note_57 (by decide) ?_
          exact gx_lv [(0, gv_R 57), (1, gv_I v1), (2, gv_I v2), (3, gv_I v3), (4, gv_I v4), (5, gv_I (v5 + 1))] ⟨rfl, rfl, rfl, rfl, rfl, rfl, trivial⟩ (ih _ _ _ _ _ _ h)
set_option maxHeartbeats 4000000 in
set_option maxRecDepth 100000 in
theorem mt_Mo_note {l : Launch} {D : va_G} {ad : Nat → Nat} {ck : Nat → ClassId} {G : gq_M × (Int → Int64)} {p0 : Int32} {p1 : Int32} {M : gq_M} {r : (Int32 × gq_M)} (h : fn_Mo_note p0 p1 M = some r) : gm_I 81 81 l D ad ck yn_Mo_note bc_Mo_note 6 .int ({ frames := 0, cells := 0, slots := 0, locals := 0 } : Room) [gv_R 57, gv_I p0, gv_I p1] (ca_A (G.1, M, G.2)) (fun z c2 => z = r.1 ∧ c2 = ca_A (G.1, r.2, G.2)) := by
  refine gm_I.of (by decide) (Nat.le_of_ble_eq_true rfl) (fun x hC hR => ?_)
  unfold fn_Mo_note at h
  refine gx_iload_n hC dr_Mo_note_0 rfl ?_
  refine gx_istore_n hC dr_Mo_note_1 (by decide) ?_
  refine gx_iconst (v := (-1)) hC dr_Mo_note_2 (by decide) ?_
  refine gx_istore hC dr_Mo_note_3 (by decide) ?_
  refine gx_iconst (v := 0) hC dr_Mo_note_5 (by decide) ?_
  refine gx_istore hC dr_Mo_note_6 (by decide) ?_
  exact gx_lv [(0, gv_R 57), (1, gv_I p0), (2, gv_I p1), (3, gv_I p0), (4, gv_I (-1)), (5, gv_I 0)] ⟨rfl, rfl, rfl, rfl, rfl, rfl, trivial⟩ (gl_Mo_note_8 hC hR 5000 _ _ _ _ _ _ h)
