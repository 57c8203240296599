def fl_Mo_note_8 : Nat → Int32 → Int32 → Int32 → Int32 → Int32 → gq_M → Option (Int32 × gq_M)
  | 0, _, _, _, _, _, _ => none
  | k + 1, v1, v2, v3, v4, v5, M => if (gq_f M 2) ≤ v5 then if v1 < 0 then some (0, (gs_f M 0 1)) else if v4 = (-1) then some (0, (gs_f M 0 1)) else if v2 < 0 then some (0, (gs_f M 0 1)) else if 3 ≤ v2 then some (0, (gs_f M 0 1)) else if v2 = 0 then some (v4, (gs_f M 0 0)) else if v2 = 1 then if 0 ≤ v4.toInt ∧ v4.toInt < ((80 : Nat) : Int) then some (((gq_i M 3) v4.toInt), (gs_f M 0 0)) else none else if 0 ≤ v4.toInt ∧ v4.toInt < ((80 : Nat) : Int) then some (((gq_i M 2) v4.toInt), (gs_f M 0 0)) else none else if v4 = (-1) then if 0 ≤ v5.toInt ∧ v5.toInt < ((80 : Nat) : Int) then if ((gq_i M 2) v5.toInt) = ((gq_i M 3) v5.toInt) then fl_Mo_note_8 k v1 v2 v3 v4 (v5 + 1) M else if v3 = 0 then fl_Mo_note_8 k v1 v2 (v3 + (-1)) v5 (v5 + 1) M else fl_Mo_note_8 k v1 v2 (v3 + (-1)) v4 (v5 + 1) M else none else if v1 < 0 then some (0, (gs_f M 0 1)) else if v4 = (-1) then some (0, (gs_f M 0 1)) else if v2 < 0 then some (0, (gs_f M 0 1)) else if 3 ≤ v2 then some (0, (gs_f M 0 1)) else if v2 = 0 then some (v4, (gs_f M 0 0)) else if v2 = 1 then if 0 ≤ v4.toInt ∧ v4.toInt < ((80 : Nat) : Int) then some (((gq_i M 3) v4.toInt), (gs_f M 0 0)) else none else if 0 ≤ v4.toInt ∧ v4.toInt < ((80 : Nat) : Int) then some (((gq_i M 2) v4.toInt), (gs_f M 0 0)) else none
def fn_Mo_note (p0 : Int32) (p1 : Int32) (M : gq_M) : Option (Int32 × gq_M) := fl_Mo_note_8 5000 p0 p1 p0 (-1) 0 M
set_option maxHeartbeats 4000000 in
set_option maxRecDepth 100000 in
theorem gl_Mo_note_8 {x : gx_X} {G : gq_M × (Int → Int64)} {r : (Int32 × gq_M)} (hC : gw_C 81 81 yn_Mo_note.cls bc_Mo_note 6 x) (hR : gr_I 81 bc_Mo_note 6 .int ({ frames := 0, cells := 0, slots := 0, locals := 0 } : Room) x (fun z c2 => z = r.1 ∧ c2 = ca_A (G.1, r.2, G.2))) : ∀ (k : Nat) (v1 : Int32) (v2 : Int32) (v3 : Int32) (v4 : Int32) (v5 : Int32) (M : gq_M), fl_Mo_note_8 k v1 v2 v3 v4 v5 M = some r → gw_G 81 6 ({ frames := 0, cells := 0, slots := 0, locals := 0 } : Room) x 0 0 (ca_A (G.1, M, G.2)) 8 [(0, gv_R 57), (1, gv_I v1), (2, gv_I v2), (3, gv_I v3), (4, gv_I v4), (5, gv_I v5)] [] := by
  intro k
  induction k with
  | zero =>
    intro v1 v2 v3 v4 v5 M h
    cases h
  | succ k ih =>
    intro v1 v2 v3 v4 v5 M h
    rw [fl_Mo_note_8] at h
    refine gx_iload hC dr_Mo_note_8 rfl ?_
    refine gx_aload_n hC dr_Mo_note_10 rfl ?_
    refine gx_get hC dr_Mo_note_11 lf_Mo_89 (by decide) rfl rfl ?_
    refine gx_icmp_ge (tgt := 60) hC dr_Mo_note_14 (by decide) (fun hc1 => ?_) (fun hc1 => ?_)
    · rw [if_pos (show (gq_f M 2) ≤ v5 from hc1)] at h
      refine gx_aload_n hC dr_Mo_note_60 rfl ?_
      refine gx_iload_n hC dr_Mo_note_61 rfl ?_
      refine gx_if_lt (tgt := 84) hC dr_Mo_note_62 (by decide) (fun hc2 => ?_) (fun hc2 => ?_)
      · rw [if_pos (show v1 < 0 from hc2)] at h
        refine gx_iconst (v := 1) hC dr_Mo_note_84 (by decide) ?_
        refine gx_put hC (by decide) dr_Mo_note_85 lf_Mo_78 lp_Mo_thrown (by decide) rfl (Nat.le_of_ble_eq_true rfl) (fun _ => rfl) (fun _ => rfl) ma_F0 ?_
        refine gx_aload_n hC dr_Mo_note_88 rfl ?_
        refine gx_get hC dr_Mo_note_89 lf_Mo_78 (by decide) rfl rfl ?_
        refine gx_if_eq (tgt := 97) hC dr_Mo_note_92 (by decide) (fun hc3 => ?_) (fun hc3 => ?_)
        · exact absurd (show (1 : Int32) = 0 from hc3) (by decide)
        · refine gx_iconst (v := 0) hC dr_Mo_note_95 (by decide) ?_
          obtain rfl := Option.some.inj h
          exact hR (by decide) (by decide) dr_Mo_note_96 rfl ⟨rfl, rfl⟩
      · rw [if_neg (show ¬ (v1 < 0) from hc2)] at h
        refine gx_iload hC dr_Mo_note_65 rfl ?_
        refine gx_iconst (v := (-1)) hC dr_Mo_note_67 (by decide) ?_
        refine gx_icmp_eq (tgt := 84) hC dr_Mo_note_68 (by decide) (fun hc4 => ?_) (fun hc4 => ?_)
        · rw [if_pos (show v4 = (-1) from hc4)] at h
          refine gx_iconst (v := 1) hC dr_Mo_note_84 (by decide) ?_
          refine gx_put hC (by decide) dr_Mo_note_85 lf_Mo_78 lp_Mo_thrown (by decide) rfl (Nat.le_of_ble_eq_true rfl) (fun _ => rfl) (fun _ => rfl) ma_F0 ?_
          refine gx_aload_n hC dr_Mo_note_88 rfl ?_
          refine gx_get hC dr_Mo_note_89 lf_Mo_78 (by decide) rfl rfl ?_
          refine gx_if_eq (tgt := 97) hC dr_Mo_note_92 (by decide) (fun hc5 => ?_) (fun hc5 => ?_)
          · exact absurd (show (1 : Int32) = 0 from hc5) (by decide)
          · refine gx_iconst (v := 0) hC dr_Mo_note_95 (by decide) ?_
            obtain rfl := Option.some.inj h
            exact hR (by decide) (by decide) dr_Mo_note_96 rfl ⟨rfl, rfl⟩
        · rw [if_neg (show ¬ (v4 = (-1)) from hc4)] at h
          refine gx_iload_n hC dr_Mo_note_71 rfl ?_
          refine gx_if_lt (tgt := 84) hC dr_Mo_note_72 (by decide) (fun hc6 => ?_) (fun hc6 => ?_)
          · rw [if_pos (show v2 < 0 from hc6)] at h
            refine gx_iconst (v := 1) hC dr_Mo_note_84 (by decide) ?_
            refine gx_put hC (by decide) dr_Mo_note_85 lf_Mo_78 lp_Mo_thrown (by decide) rfl (Nat.le_of_ble_eq_true rfl) (fun _ => rfl) (fun _ => rfl) ma_F0 ?_
            refine gx_aload_n hC dr_Mo_note_88 rfl ?_
            refine gx_get hC dr_Mo_note_89 lf_Mo_78 (by decide) rfl rfl ?_
            refine gx_if_eq (tgt := 97) hC dr_Mo_note_92 (by decide) (fun hc7 => ?_) (fun hc7 => ?_)
            · exact absurd (show (1 : Int32) = 0 from hc7) (by decide)
            · refine gx_iconst (v := 0) hC dr_Mo_note_95 (by decide) ?_
              obtain rfl := Option.some.inj h
              exact hR (by decide) (by decide) dr_Mo_note_96 rfl ⟨rfl, rfl⟩
          · rw [if_neg (show ¬ (v2 < 0) from hc6)] at h
            refine gx_iload_n hC dr_Mo_note_75 rfl ?_
            refine gx_iconst (v := 3) hC dr_Mo_note_76 (by decide) ?_
            refine gx_icmp_ge (tgt := 84) hC dr_Mo_note_77 (by decide) (fun hc8 => ?_) (fun hc8 => ?_)
            · rw [if_pos (show 3 ≤ v2 from hc8)] at h
              refine gx_iconst (v := 1) hC dr_Mo_note_84 (by decide) ?_
              refine gx_put hC (by decide) dr_Mo_note_85 lf_Mo_78 lp_Mo_thrown (by decide) rfl (Nat.le_of_ble_eq_true rfl) (fun _ => rfl) (fun _ => rfl) ma_F0 ?_
              refine gx_aload_n hC dr_Mo_note_88 rfl ?_
              refine gx_get hC dr_Mo_note_89 lf_Mo_78 (by decide) rfl rfl ?_
              refine gx_if_eq (tgt := 97) hC dr_Mo_note_92 (by decide) (fun hc9 => ?_) (fun hc9 => ?_)
              · exact absurd (show (1 : Int32) = 0 from hc9) (by decide)
              · refine gx_iconst (v := 0) hC dr_Mo_note_95 (by decide) ?_
                obtain rfl := Option.some.inj h
                exact hR (by decide) (by decide) dr_Mo_note_96 rfl ⟨rfl, rfl⟩
            · rw [if_neg (show ¬ (3 ≤ v2) from hc8)] at h
              refine gx_iconst (v := 0) hC dr_Mo_note_80 (by decide) ?_
              refine gx_goto (tgt := 85) hC dr_Mo_note_81 (by decide) ?_
              refine gx_put hC (by decide) dr_Mo_note_85 lf_Mo_78 lp_Mo_thrown (by decide) rfl (Nat.le_of_ble_eq_true rfl) (fun _ => rfl) (fun _ => rfl) ma_F0 ?_
              refine gx_aload_n hC dr_Mo_note_88 rfl ?_
              refine gx_get hC dr_Mo_note_89 lf_Mo_78 (by decide) rfl rfl ?_
              refine gx_if_eq (tgt := 97) hC dr_Mo_note_92 (by decide) (fun hc10 => ?_) (fun hc10 => ?_)
              · refine gx_iload_n hC dr_Mo_note_97 rfl ?_
                refine gx_if_ne (tgt := 106) hC dr_Mo_note_98 (by decide) (fun hc11 => ?_) (fun hc11 => ?_)
                · rw [if_neg (show ¬ (v2 = 0) from hc11)] at h
                  refine gx_iload_n hC dr_Mo_note_106 rfl ?_
                  refine gx_iconst (v := 1) hC dr_Mo_note_107 (by decide) ?_
                  refine gx_icmp_ne (tgt := 121) hC dr_Mo_note_108 (by decide) (fun hc12 => ?_) (fun hc12 => ?_)
                  · rw [if_neg (show ¬ (v2 = 1) from hc12)] at h
                    refine gx_aload_n hC dr_Mo_note_121 rfl ?_
                    refine gx_get hC dr_Mo_note_122 lf_Mo_23 (by decide) rfl rfl ?_
                    refine gx_iload hC dr_Mo_note_125 rfl ?_
                    obtain ⟨hz14, h⟩ := gk_of h
                    refine gx_iald (f := (gq_i M 2)) hC dr_Mo_note_127 (by decide) rfl hz14 ?_
                    obtain rfl := Option.some.inj h
                    exact hR (by decide) (by decide) dr_Mo_note_128 rfl ⟨rfl, rfl⟩
                  · rw [if_pos (show v2 = 1 from hc12)] at h
                    refine gx_aload_n hC dr_Mo_note_111 rfl ?_
                    refine gx_get hC dr_Mo_note_112 lf_Mo_26 (by decide) rfl rfl ?_
                    refine gx_iload hC dr_Mo_note_115 rfl ?_
                    obtain ⟨hz13, h⟩ := gk_of h
                    refine gx_iald (f := (gq_i M 3)) hC dr_Mo_note_117 (by decide) rfl hz13 ?_
                    refine gx_goto (tgt := 128) hC dr_Mo_note_118 (by decide) ?_
                    obtain rfl := Option.some.inj h
                    exact hR (by decide) (by decide) dr_Mo_note_128 rfl ⟨rfl, rfl⟩
                · rw [if_pos (show v2 = 0 from hc11)] at h
                  refine gx_iload hC dr_Mo_note_101 rfl ?_
                  refine gx_goto (tgt := 128) hC dr_Mo_note_103 (by decide) ?_
                  obtain rfl := Option.some.inj h
                  exact hR (by decide) (by decide) dr_Mo_note_128 rfl ⟨rfl, rfl⟩
              · exact absurd (show ¬ ((0 : Int32) = 0) from hc10) (by decide)
    · rw [if_neg (show ¬ ((gq_f M 2) ≤ v5) from hc1)] at h
      refine gx_iload hC dr_Mo_note_17 rfl ?_
      refine gx_iconst (v := (-1)) hC dr_Mo_note_19 (by decide) ?_
      refine gx_icmp_ne (tgt := 60) hC dr_Mo_note_20 (by decide) (fun hc15 => ?_) (fun hc15 => ?_)
      · rw [if_neg (show ¬ (v4 = (-1)) from hc15)] at h
        refine gx_aload_n hC dr_Mo_note_60 rfl ?_
        refine gx_iload_n hC dr_Mo_note_61 rfl ?_
        refine gx_if_lt (tgt := 84) hC dr_Mo_note_62 (by decide) (fun hc19 => ?_) (fun hc19 => ?_)
        · rw [if_pos (show v1 < 0 from hc19)] at h
          refine gx_iconst (v := 1) hC dr_Mo_note_84 (by decide) ?_
          refine gx_put hC (by decide) dr_Mo_note_85 lf_Mo_78 lp_Mo_thrown (by decide) rfl (Nat.le_of_ble_eq_true rfl) (fun _ => rfl) (fun _ => rfl) ma_F0 ?_
          refine gx_aload_n hC dr_Mo_note_88 rfl ?_
          refine gx_get hC dr_Mo_note_89 lf_Mo_78 (by decide) rfl rfl ?_
          refine gx_if_eq (tgt := 97) hC dr_Mo_note_92 (by decide) (fun hc20 => ?_) (fun hc20 => ?_)
          · exact absurd (show (1 : Int32) = 0 from hc20) (by decide)
          · refine gx_iconst (v := 0) hC dr_Mo_note_95 (by decide) ?_
            obtain rfl := Option.some.inj h
            exact hR (by decide) (by decide) dr_Mo_note_96 rfl ⟨rfl, rfl⟩
        · rw [if_neg (show ¬ (v1 < 0) from hc19)] at h
          refine gx_iload hC dr_Mo_note_65 rfl ?_
          refine gx_iconst (v := (-1)) hC dr_Mo_note_67 (by decide) ?_
          refine gx_icmp_eq (tgt := 84) hC dr_Mo_note_68 (by decide) (fun hc21 => ?_) (fun hc21 => ?_)
          · rw [if_pos (show v4 = (-1) from hc21)] at h
            refine gx_iconst (v := 1) hC dr_Mo_note_84 (by decide) ?_
            refine gx_put hC (by decide) dr_Mo_note_85 lf_Mo_78 lp_Mo_thrown (by decide) rfl (Nat.le_of_ble_eq_true rfl) (fun _ => rfl) (fun _ => rfl) ma_F0 ?_
            refine gx_aload_n hC dr_Mo_note_88 rfl ?_
            refine gx_get hC dr_Mo_note_89 lf_Mo_78 (by decide) rfl rfl ?_
            refine gx_if_eq (tgt := 97) hC dr_Mo_note_92 (by decide) (fun hc22 => ?_) (fun hc22 => ?_)
            · exact absurd (show (1 : Int32) = 0 from hc22) (by decide)
            · refine gx_iconst (v := 0) hC dr_Mo_note_95 (by decide) ?_
              obtain rfl := Option.some.inj h
              exact hR (by decide) (by decide) dr_Mo_note_96 rfl ⟨rfl, rfl⟩
          · rw [if_neg (show ¬ (v4 = (-1)) from hc21)] at h
            refine gx_iload_n hC dr_Mo_note_71 rfl ?_
            refine gx_if_lt (tgt := 84) hC dr_Mo_note_72 (by decide) (fun hc23 => ?_) (fun hc23 => ?_)
            · rw [if_pos (show v2 < 0 from hc23)] at h
              refine gx_iconst (v := 1) hC dr_Mo_note_84 (by decide) ?_
              refine gx_put hC (by decide) dr_Mo_note_85 lf_Mo_78 lp_Mo_thrown (by decide) rfl (Nat.le_of_ble_eq_true rfl) (fun _ => rfl) (fun _ => rfl) ma_F0 ?_
              refine gx_aload_n hC dr_Mo_note_88 rfl ?_
              refine gx_get hC dr_Mo_note_89 lf_Mo_78 (by decide) rfl rfl ?_
              refine gx_if_eq (tgt := 97) hC dr_Mo_note_92 (by decide) (fun hc24 => ?_) (fun hc24 => ?_)
              · exact absurd (show (1 : Int32) = 0 from hc24) (by decide)
              · refine gx_iconst (v := 0) hC dr_Mo_note_95 (by decide) ?_
                obtain rfl := Option.some.inj h
                exact hR (by decide) (by decide) dr_Mo_note_96 rfl ⟨rfl, rfl⟩
            · rw [if_neg (show ¬ (v2 < 0) from hc23)] at h
              refine gx_iload_n hC dr_Mo_note_75 rfl ?_
              refine gx_iconst (v := 3) hC dr_Mo_note_76 (by decide) ?_
              refine gx_icmp_ge (tgt := 84) hC dr_Mo_note_77 (by decide) (fun hc25 => ?_) (fun hc25 => ?_)
              · rw [if_pos (show 3 ≤ v2 from hc25)] at h
                refine gx_iconst (v := 1) hC dr_Mo_note_84 (by decide) ?_
                refine gx_put hC (by decide) dr_Mo_note_85 lf_Mo_78 lp_Mo_thrown (by decide) rfl (Nat.le_of_ble_eq_true rfl) (fun _ => rfl) (fun _ => rfl) ma_F0 ?_
                refine gx_aload_n hC dr_Mo_note_88 rfl ?_
                refine gx_get hC dr_Mo_note_89 lf_Mo_78 (by decide) rfl rfl ?_
                refine gx_if_eq (tgt := 97) hC dr_Mo_note_92 (by decide) (fun hc26 => ?_) (fun hc26 => ?_)
                · exact absurd (show (1 : Int32) = 0 from hc26) (by decide)
                · refine gx_iconst (v := 0) hC dr_Mo_note_95 (by decide) ?_
                  obtain rfl := Option.some.inj h
                  exact hR (by decide) (by decide) dr_Mo_note_96 rfl ⟨rfl, rfl⟩
              · rw [if_neg (show ¬ (3 ≤ v2) from hc25)] at h
                refine gx_iconst (v := 0) hC dr_Mo_note_80 (by decide) ?_
                refine gx_goto (tgt := 85) hC dr_Mo_note_81 (by decide) ?_
                refine gx_put hC (by decide) dr_Mo_note_85 lf_Mo_78 lp_Mo_thrown (by decide) rfl (Nat.le_of_ble_eq_true rfl) (fun _ => rfl) (fun _ => rfl) ma_F0 ?_
                refine gx_aload_n hC dr_Mo_note_88 rfl ?_
                refine gx_get hC dr_Mo_note_89 lf_Mo_78 (by decide) rfl rfl ?_
                refine gx_if_eq (tgt := 97) hC dr_Mo_note_92 (by decide) (fun hc27 => ?_) (fun hc27 => ?_)
                · refine gx_iload_n hC dr_Mo_note_97 rfl ?_
                  refine gx_if_ne (tgt := 106) hC dr_Mo_note_98 (by decide) (fun hc28 => ?_) (fun hc28 => ?_)
                  · rw [if_neg (show ¬ (v2 = 0) from hc28)] at h
                    refine gx_iload_n hC dr_Mo_note_106 rfl ?_
                    refine gx_iconst (v := 1) hC dr_Mo_note_107 (by decide) ?_
                    refine gx_icmp_ne (tgt := 121) hC dr_Mo_note_108 (by decide) (fun hc29 => ?_) (fun hc29 => ?_)
                    · rw [if_neg (show ¬ (v2 = 1) from hc29)] at h
                      refine gx_aload_n hC dr_Mo_note_121 rfl ?_
                      refine gx_get hC dr_Mo_note_122 lf_Mo_23 (by decide) rfl rfl ?_
                      refine gx_iload hC dr_Mo_note_125 rfl ?_
                      obtain ⟨hz31, h⟩ := gk_of h
                      refine gx_iald (f := (gq_i M 2)) hC dr_Mo_note_127 (by decide) rfl hz31 ?_
                      obtain rfl := Option.some.inj h
                      exact hR (by decide) (by decide) dr_Mo_note_128 rfl ⟨rfl, rfl⟩
                    · rw [if_pos (show v2 = 1 from hc29)] at h
                      refine gx_aload_n hC dr_Mo_note_111 rfl ?_
                      refine gx_get hC dr_Mo_note_112 lf_Mo_26 (by decide) rfl rfl ?_
                      refine gx_iload hC dr_Mo_note_115 rfl ?_
                      obtain ⟨hz30, h⟩ := gk_of h
                      refine gx_iald (f := (gq_i M 3)) hC dr_Mo_note_117 (by decide) rfl hz30 ?_
                      refine gx_goto (tgt := 128) hC dr_Mo_note_118 (by decide) ?_
                      obtain rfl := Option.some.inj h
                      exact hR (by decide) (by decide) dr_Mo_note_128 rfl ⟨rfl, rfl⟩
                  · rw [if_pos (show v2 = 0 from hc28)] at h
                    refine gx_iload hC dr_Mo_note_101 rfl ?_
                    refine gx_goto (tgt := 128) hC dr_Mo_note_103 (by decide) ?_
                    obtain rfl := Option.some.inj h
                    exact hR (by decide) (by decide) dr_Mo_note_128 rfl ⟨rfl, rfl⟩
                · exact absurd (show ¬ ((0 : Int32) = 0) from hc27) (by decide)
      · rw [if_pos (show v4 = (-1) from hc15)] at h
        refine gx_aload_n hC dr_Mo_note_23 rfl ?_
        refine gx_get hC dr_Mo_note_24 lf_Mo_23 (by decide) rfl rfl ?_
        refine gx_iload hC dr_Mo_note_27 rfl ?_
        obtain ⟨hz16, h⟩ := gk_of h
        refine gx_iald (f := (gq_i M 2)) hC dr_Mo_note_29 (by decide) rfl hz16 ?_
        refine gx_aload_n hC dr_Mo_note_30 rfl ?_
        refine gx_get hC dr_Mo_note_31 lf_Mo_26 (by decide) rfl rfl ?_
        refine gx_iload hC dr_Mo_note_34 rfl ?_
        refine gx_iald (f := (gq_i M 3)) hC dr_Mo_note_36 (by decide) rfl hz16 ?_
        refine gx_icmp_ne (tgt := 43) hC dr_Mo_note_37 (by decide) (fun hc17 => ?_) (fun hc17 => ?_)
        · rw [if_neg (show ¬ (((gq_i M 2) v5.toInt) = ((gq_i M 3) v5.toInt)) from hc17)] at h
          refine gx_iload_n hC dr_Mo_note_43 rfl ?_
          refine gx_if_ne (tgt := 51) hC dr_Mo_note_44 (by decide) (fun hc18 => ?_) (fun hc18 => ?_)
          · rw [if_neg (show ¬ (v3 = 0) from hc18)] at h
            refine gx_iinc (v := (v3 + (-1))) hC dr_Mo_note_51 rfl (by decide) rfl ?_
            refine gx_iinc (v := (v5 + 1)) hC dr_Mo_note_54 rfl (by decide) rfl ?_
            refine gx_goto (tgt := 8) hC dr_Mo_note_57 (by decide) ?_
            exact gx_lv [(0, gv_R 57), (1, gv_I v1), (2, gv_I v2), (3, gv_I (v3 + (-1))), (4, gv_I v4), (5, gv_I (v5 + 1))] ⟨rfl, rfl, rfl, rfl, rfl, rfl, trivial⟩ (ih _ _ _ _ _ _ h)
          · rw [if_pos (show v3 = 0 from hc18)] at h
            refine gx_iload hC dr_Mo_note_47 rfl ?_
            refine gx_istore hC dr_Mo_note_49 (by decide) ?_
            refine gx_iinc (v := (v3 + (-1))) hC dr_Mo_note_51 rfl (by decide) rfl ?_
            refine gx_iinc (v := (v5 + 1)) hC dr_Mo_note_54 rfl (by decide) rfl ?_
            refine gx_goto (tgt := 8) hC dr_Mo_note_57 (by decide) ?_
            exact gx_lv [(0, gv_R 57), (1, gv_I v1), (2, gv_I v2), (3, gv_I (v3 + (-1))), (4, gv_I v5), (5, gv_I (v5 + 1))] ⟨rfl, rfl, rfl, rfl, rfl, rfl, trivial⟩ (ih _ _ _ _ _ _ h)
        · rw [if_pos (show ((gq_i M 2) v5.toInt) = ((gq_i M 3) v5.toInt) from hc17)] at h
          refine gx_goto (tgt := 54) hC dr_Mo_note_40 (by decide) ?_
          refine gx_iinc (v := (v5 + 1)) hC dr_Mo_note_54 rfl (by decide) rfl ?_
          refine gx_goto (tgt := 8) hC dr_Mo_note_57 (by decide) ?_
          exact gx_lv [(0, gv_R 57), (1, gv_I v1), (2, gv_I v2), (3, gv_I v3), (4, gv_I v4), (5, gv_I (v5 + 1))] ⟨rfl, rfl, rfl, rfl, rfl, rfl, trivial⟩ (ih _ _ _ _ _ _ h)
set_option maxHeartbeats 4000000 in
set_option maxRecDepth 100000 in
theorem mt_Mo_note {l : Launch} {D : va_G} {ad : Nat → Nat} {ck : Nat → ClassId} {G : gq_M × (Int → Int64)} {p0 : Int32} {p1 : Int32} {M : gq_M} {r : (Int32 × gq_M)} (h : fn_Mo_note p0 p1 M = some r) : gm_I 81 81 l D ad ck yn_Mo_note bc_Mo_note 6 .int ({ frames := 0, cells := 0, slots := 0, locals := 0 } : Room) [gv_R 57, gv_I p0, gv_I p1] (ca_A (G.1, M, G.2)) (fun z c2 => z = r.1 ∧ c2 = ca_A (G.1, r.2, G.2)) := by
  refine gm_I.of (by decide) (Nat.le_of_ble_eq_true rfl) (fun x hC hR => ?_)
  unfold fn_Mo_note at h
  refine gx_iload_n hC dr_Mo_note_0 rfl ?_
  refine gx_istore_n hC dr_Mo_note_1 (by decide) ?_
  refine gx_iconst (v := (-1)) hC dr_Mo_note_2 (by decide) ?_
  refine gx_istore hC dr_Mo_note_3 (by decide) ?_
  refine gx_iconst (v := 0) hC dr_Mo_note_5 (by decide) ?_
  refine gx_istore hC dr_Mo_note_6 (by decide) ?_
  exact gx_lv [(0, gv_R 57), (1, gv_I p0), (2, gv_I p1), (3, gv_I p0), (4, gv_I (-1)), (5, gv_I 0)] ⟨rfl, rfl, rfl, rfl, rfl, rfl, trivial⟩ (gl_Mo_note_8 hC hR 5000 _ _ _ _ _ _ h)
