def fn_Mo_dual (p0 : Int32) (p1 : Int32) (M : gq_M) : Option (Int64 × gq_M) := (fn_Mo_isPin p1 M).bind fun q1 => if q1 = 0 then some ((Int64.ofNat (0 : Fin 2).val), (gs_f M 0 1)) else if p0 = 0 then if 0 ≤ p1.toInt ∧ p1.toInt < ((80 : Nat) : Int) then if ((gq_i M 5) p1.toInt) = (-1) then (fn_Mo_isUnit p1 ((gq_i M 0) p1.toInt) 0 (gs_f M 0 0)).bind fun q10 => if q10 = 0 then some ((-1), (gs_f M 0 0)) else (fn_Mo_reckon ((gq_i M 0) p1.toInt) 0 (-1) 0 (gs_f M 0 0)).bind fun q13 => if p0 = 1 then if (gq_f q13 5) = 1 then some ((-1), q13) else if p0 = 0 then (fn_Mo_reckon ((gq_i q13 0) p1.toInt) 0 p1 1 q13).bind fun q19 => some ((((gq_l q19 5) 0) - ((gq_l q13 5) 0)), q19) else (fn_Mo_reckon ((gq_i q13 0) p1.toInt) 0 p1 (-1) q13).bind fun q21 => some ((((gq_l q21 5) 0) - ((gq_l q13 5) 0)), q21) else if p0 = 0 then (fn_Mo_reckon ((gq_i q13 0) p1.toInt) 0 p1 1 q13).bind fun q24 => some ((((gq_l q24 5) 0) - ((gq_l q13 5) 0)), q24) else (fn_Mo_reckon ((gq_i q13 0) p1.toInt) 0 p1 (-1) q13).bind fun q26 => some ((((gq_l q26 5) 0) - ((gq_l q13 5) 0)), q26) else if ((gq_i M 6) p1.toInt) = 0 then if 0 ≤ ((gq_i M 5) p1.toInt).toInt ∧ ((gq_i M 5) p1.toInt).toInt < ((80 : Nat) : Int) then (fn_Mo_isUnit ((gq_i M 5) p1.toInt) ((gq_i M 0) ((gq_i M 5) p1.toInt).toInt) 1 (gs_f M 0 0)).bind fun q31 => if q31 = 0 then some ((-1), (gs_f M 0 0)) else (fn_Mo_reckon ((gq_i M 0) ((gq_i M 5) p1.toInt).toInt) 1 (-1) 0 (gs_f M 0 0)).bind fun q34 => if p0 = 1 then if (gq_f q34 5) = 1 then some ((-1), q34) else if p0 = 0 then (fn_Mo_reckon ((gq_i q34 0) ((gq_i M 5) p1.toInt).toInt) 1 ((gq_i M 5) p1.toInt) 1 q34).bind fun q40 => some ((((gq_l q40 5) 0) - ((gq_l q34 5) 0)), q40) else (fn_Mo_reckon ((gq_i q34 0) ((gq_i M 5) p1.toInt).toInt) 1 ((gq_i M 5) p1.toInt) (-1) q34).bind fun q42 => some ((((gq_l q42 5) 0) - ((gq_l q34 5) 0)), q42) else if p0 = 0 then (fn_Mo_reckon ((gq_i q34 0) ((gq_i M 5) p1.toInt).toInt) 1 ((gq_i M 5) p1.toInt) 1 q34).bind fun q45 => some ((((gq_l q45 5) 0) - ((gq_l q34 5) 0)), q45) else (fn_Mo_reckon ((gq_i q34 0) ((gq_i M 5) p1.toInt).toInt) 1 ((gq_i M 5) p1.toInt) (-1) q34).bind fun q47 => some ((((gq_l q47 5) 0) - ((gq_l q34 5) 0)), q47) else none else (fn_Mo_isUnit p1 ((gq_i M 0) p1.toInt) 1 (gs_f M 0 0)).bind fun q49 => if q49 = 0 then some ((-1), (gs_f M 0 0)) else (fn_Mo_reckon ((gq_i M 0) p1.toInt) 1 (-1) 0 (gs_f M 0 0)).bind fun q52 => if p0 = 1 then if (gq_f q52 5) = 1 then some ((-1), q52) else if p0 = 0 then (fn_Mo_reckon ((gq_i q52 0) p1.toInt) 1 p1 1 q52).bind fun q58 => some ((((gq_l q58 5) 0) - ((gq_l q52 5) 0)), q58) else (fn_Mo_reckon ((gq_i q52 0) p1.toInt) 1 p1 (-1) q52).bind fun q60 => some ((((gq_l q60 5) 0) - ((gq_l q52 5) 0)), q60) else if p0 = 0 then (fn_Mo_reckon ((gq_i q52 0) p1.toInt) 1 p1 1 q52).bind fun q63 => some ((((gq_l q63 5) 0) - ((gq_l q52 5) 0)), q63) else (fn_Mo_reckon ((gq_i q52 0) p1.toInt) 1 p1 (-1) q52).bind fun q65 => some ((((gq_l q65 5) 0) - ((gq_l q52 5) 0)), q65) else none else if p0 = 1 then if 0 ≤ p1.toInt ∧ p1.toInt < ((80 : Nat) : Int) then if ((gq_i M 5) p1.toInt) = (-1) then (fn_Mo_isUnit p1 ((gq_i M 0) p1.toInt) 0 (gs_f M 0 0)).bind fun q72 => if q72 = 0 then some ((-1), (gs_f M 0 0)) else (fn_Mo_reckon ((gq_i M 0) p1.toInt) 0 (-1) 0 (gs_f M 0 0)).bind fun q75 => if p0 = 1 then if (gq_f q75 5) = 1 then some ((-1), q75) else if p0 = 0 then (fn_Mo_reckon ((gq_i q75 0) p1.toInt) 0 p1 1 q75).bind fun q81 => some ((((gq_l q81 5) 0) - ((gq_l q75 5) 0)), q81) else (fn_Mo_reckon ((gq_i q75 0) p1.toInt) 0 p1 (-1) q75).bind fun q83 => some ((((gq_l q83 5) 0) - ((gq_l q75 5) 0)), q83) else if p0 = 0 then (fn_Mo_reckon ((gq_i q75 0) p1.toInt) 0 p1 1 q75).bind fun q86 => some ((((gq_l q86 5) 0) - ((gq_l q75 5) 0)), q86) else (fn_Mo_reckon ((gq_i q75 0) p1.toInt) 0 p1 (-1) q75).bind fun q88 => some ((((gq_l q88 5) 0) - ((gq_l q75 5) 0)), q88) else if ((gq_i M 6) p1.toInt) = 0 then if 0 ≤ ((gq_i M 5) p1.toInt).toInt ∧ ((gq_i M 5) p1.toInt).toInt < ((80 : Nat) : Int) then (fn_Mo_isUnit ((gq_i M 5) p1.toInt) ((gq_i M 0) ((gq_i M 5) p1.toInt).toInt) 1 (gs_f M 0 0)).bind fun q93 => if q93 = 0 then some ((-1), (gs_f M 0 0)) else (fn_Mo_reckon ((gq_i M 0) ((gq_i M 5) p1.toInt).toInt) 1 (-1) 0 (gs_f M 0 0)).bind fun q96 => if p0 = 1 then if (gq_f q96 5) = 1 then some ((-1), q96) else if p0 = 0 then (fn_Mo_reckon ((gq_i q96 0) ((gq_i M 5) p1.toInt).toInt) 1 ((gq_i M 5) p1.toInt) 1 q96).bind fun q102 => some ((((gq_l q102 5) 0) - ((gq_l q96 5) 0)), q102) else (fn_Mo_reckon ((gq_i q96 0) ((gq_i M 5) p1.toInt).toInt) 1 ((gq_i M 5) p1.toInt) (-1) q96).bind fun q104 => some ((((gq_l q104 5) 0) - ((gq_l q96 5) 0)), q104) else if p0 = 0 then (fn_Mo_reckon ((gq_i q96 0) ((gq_i M 5) p1.toInt).toInt) 1 ((gq_i M 5) p1.toInt) 1 q96).bind fun q107 => some ((((gq_l q107 5) 0) - ((gq_l q96 5) 0)), q107) else (fn_Mo_reckon ((gq_i q96 0) ((gq_i M 5) p1.toInt).toInt) 1 ((gq_i M 5) p1.toInt) (-1) q96).bind fun q109 => some ((((gq_l q109 5) 0) - ((gq_l q96 5) 0)), q109) else none else (fn_Mo_isUnit p1 ((gq_i M 0) p1.toInt) 1 (gs_f M 0 0)).bind fun q111 => if q111 = 0 then some ((-1), (gs_f M 0 0)) else (fn_Mo_reckon ((gq_i M 0) p1.toInt) 1 (-1) 0 (gs_f M 0 0)).bind fun q114 => if p0 = 1 then if (gq_f q114 5) = 1 then some ((-1), q114) else if p0 = 0 then (fn_Mo_reckon ((gq_i q114 0) p1.toInt) 1 p1 1 q114).bind fun q120 => some ((((gq_l q120 5) 0) - ((gq_l q114 5) 0)), q120) else (fn_Mo_reckon ((gq_i q114 0) p1.toInt) 1 p1 (-1) q114).bind fun q122 => some ((((gq_l q122 5) 0) - ((gq_l q114 5) 0)), q122) else if p0 = 0 then (fn_Mo_reckon ((gq_i q114 0) p1.toInt) 1 p1 1 q114).bind fun q125 => some ((((gq_l q125 5) 0) - ((gq_l q114 5) 0)), q125) else (fn_Mo_reckon ((gq_i q114 0) p1.toInt) 1 p1 (-1) q114).bind fun q127 => some ((((gq_l q127 5) 0) - ((gq_l q114 5) 0)), q127) else none else some ((Int64.ofNat (0 : Fin 2).val), (gs_f M 0 1))
set_option maxHeartbeats 4000000 in
set_option maxRecDepth 100000 in
theorem mt_Mo_dual {l : Launch} {D : va_G} {ad : Nat → Nat} {ck : Nat → ClassId} {G : gq_M × (Int → Int64)} {p0 : Int32} {p1 : Int32} {M : gq_M} {r : (Int64 × gq_M)} (h : fn_Mo_dual p0 p1 M = some r) : gm_J 81 81 l D ad ck yn_Mo_dual bc_Mo_dual 7 ({ frames := 4, cells := 0, slots := 0, locals := 100 } : Room) [gv_R 57, gv_I p0, gv_I p1] (ca_A (G.1, M, G.2)) (fun z c2 => z = r.1 ∧ c2 = ca_A (G.1, r.2, G.2)) := by
  refine gm_J.of (by decide) (Nat.le_of_ble_eq_true rfl) (fun x hC hR => ?_)
  unfold fn_Mo_dual at h
  refine gx_aload_n hC dr_Mo_dual_0 rfl ?_
  refine gx_aload_n hC dr_Mo_dual_1 rfl ?_
  refine gx_iload_n hC dr_Mo_dual_2 rfl ?_
  obtain ⟨q1, e2, h⟩ := gb_of h
  refine gx_vI hC dr_Mo_dual_3 lk_Mo_100 (mt_Mo_isPin e2) rfl (by decide) ⟨by decide, by decide⟩ ⟨by decide, by decide⟩ (by decide) ⟨_, _, rfl⟩ rfl rfl (Nat.le_of_ble_eq_true rfl) (fun z c2 hp => ?_)
  obtain ⟨hp1, rfl⟩ := hp; obtain rfl := hp1.symm
  refine gx_if_eq (tgt := 22) hC dr_Mo_dual_6 (by decide) (fun hc3 => ?_) (fun hc3 => ?_)
  · rw [if_pos (show q1 = 0 from hc3)] at h
    refine gx_iconst (v := 1) hC dr_Mo_dual_22 (by decide) ?_
    refine gx_put hC (by decide) dr_Mo_dual_23 lf_Mo_78 lp_Mo_thrown (by decide) rfl (Nat.le_of_ble_eq_true rfl) (fun _ => rfl) (fun _ => rfl) ma_F0 ?_
    refine gx_aload_n hC dr_Mo_dual_26 rfl ?_
    refine gx_get hC dr_Mo_dual_27 lf_Mo_78 (by decide) rfl rfl ?_
    refine gx_if_eq (tgt := 35) hC dr_Mo_dual_30 (by decide) (fun hc4 => ?_) (fun hc4 => ?_)
    · exact absurd (show (1 : Int32) = 0 from hc4) (by decide)
    · refine gx_lconst hC dr_Mo_dual_33 ?_
      obtain rfl := Option.some.inj h
      exact hR (by decide) (by decide) dr_Mo_dual_34 ⟨rfl, rfl⟩
  · rw [if_neg (show ¬ (q1 = 0) from hc3)] at h
    refine gx_iload_n hC dr_Mo_dual_9 rfl ?_
    refine gx_if_eq (tgt := 18) hC dr_Mo_dual_10 (by decide) (fun hc5 => ?_) (fun hc5 => ?_)
    · rw [if_pos (show p0 = 0 from hc5)] at h
      refine gx_iconst (v := 0) hC dr_Mo_dual_18 (by decide) ?_
      refine gx_goto (tgt := 23) hC dr_Mo_dual_19 (by decide) ?_
      refine gx_put hC (by decide) dr_Mo_dual_23 lf_Mo_78 lp_Mo_thrown (by decide) rfl (Nat.le_of_ble_eq_true rfl) (fun _ => rfl) (fun _ => rfl) ma_F0 ?_
      refine gx_aload_n hC dr_Mo_dual_26 rfl ?_
      refine gx_get hC dr_Mo_dual_27 lf_Mo_78 (by decide) rfl rfl ?_
      refine gx_if_eq (tgt := 35) hC dr_Mo_dual_30 (by decide) (fun hc6 => ?_) (fun hc6 => ?_)
      · refine gx_aload_n hC dr_Mo_dual_35 rfl ?_
        refine gx_get hC dr_Mo_dual_36 lf_Mo_33 (by decide) rfl rfl ?_
        refine gx_iload_n hC dr_Mo_dual_39 rfl ?_
        obtain ⟨hz7, h⟩ := gk_of h
        refine gx_iald (f := (gq_i M 5)) hC dr_Mo_dual_40 (by decide) rfl hz7 ?_
        refine gx_iconst (v := (-1)) hC dr_Mo_dual_41 (by decide) ?_
        refine gx_icmp_eq (tgt := 49) hC dr_Mo_dual_42 (by decide) (fun hc8 => ?_) (fun hc8 => ?_)
        · rw [if_pos (show ((gq_i M 5) p1.toInt) = (-1) from hc8)] at h
          refine gx_iconst (v := 0) hC dr_Mo_dual_49 (by decide) ?_
          refine gx_istore_n hC dr_Mo_dual_50 (by decide) ?_
          refine gx_iload_n hC dr_Mo_dual_51 rfl ?_
          refine gx_if_eq (tgt := 73) hC dr_Mo_dual_52 (by decide) (fun hc9 => ?_) (fun hc9 => ?_)
          · refine gx_iload_n hC dr_Mo_dual_73 rfl ?_
            refine gx_istore hC dr_Mo_dual_74 (by decide) ?_
            refine gx_aload_n hC dr_Mo_dual_76 rfl ?_
            refine gx_iload hC dr_Mo_dual_77 rfl ?_
            refine gx_aload_n hC dr_Mo_dual_79 rfl ?_
            refine gx_get hC dr_Mo_dual_80 lf_Mo_7 (by decide) rfl rfl ?_
            refine gx_iload hC dr_Mo_dual_83 rfl ?_
            refine gx_iald (f := (gq_i M 0)) hC dr_Mo_dual_85 (by decide) rfl hz7 ?_
            refine gx_iload_n hC dr_Mo_dual_86 rfl ?_
            obtain ⟨q10, e11, h⟩ := gb_of h
            refine gx_vI hC dr_Mo_dual_87 lk_Mo_124 (mt_Mo_isUnit e11) rfl (by decide) ⟨by decide, by decide⟩ ⟨by decide, by decide⟩ (by decide) ⟨_, _, rfl⟩ rfl rfl (Nat.le_of_ble_eq_true rfl) (fun z c2 hp => ?_)
            obtain ⟨hp1, rfl⟩ := hp; obtain rfl := hp1.symm
            refine gx_if_ne (tgt := 97) hC dr_Mo_dual_90 (by decide) (fun hc12 => ?_) (fun hc12 => ?_)
            · rw [if_neg (show ¬ (q10 = 0) from hc12)] at h
              refine gx_aload_n hC dr_Mo_dual_97 rfl ?_
              refine gx_aload_n hC dr_Mo_dual_98 rfl ?_
              refine gx_get hC dr_Mo_dual_99 lf_Mo_7 (by decide) rfl rfl ?_
              refine gx_iload hC dr_Mo_dual_102 rfl ?_
              refine gx_iald (f := (gq_i M 0)) hC dr_Mo_dual_104 (by decide) rfl hz7 ?_
              refine gx_iload_n hC dr_Mo_dual_105 rfl ?_
              refine gx_iconst (v := (-1)) hC dr_Mo_dual_106 (by decide) ?_
              refine gx_iconst (v := 0) hC dr_Mo_dual_107 (by decide) ?_
              obtain ⟨q13, e14, h⟩ := gb_of h
              refine gx_vV hC dr_Mo_dual_108 lk_Mo_145 (mt_Mo_reckon e14) rfl (by decide) ⟨by decide, by decide⟩ ⟨by decide, by decide⟩ (by decide) ⟨_, _, rfl⟩ rfl rfl (Nat.le_of_ble_eq_true rfl) (fun c2 hp => ?_)
              subst hp
              refine gx_aload_n hC dr_Mo_dual_111 rfl ?_
              refine gx_get hC dr_Mo_dual_112 lf_Mo_69 (by decide) rfl rfl ?_
              refine gx_iconst (v := 0) hC dr_Mo_dual_115 (by decide) ?_
              have hz15 : 0 ≤ (0 : Int32).toInt ∧ (0 : Int32).toInt < ((4096 : Nat) : Int) := by decide
              refine gx_lald (f := (gq_l q13 5)) hC dr_Mo_dual_116 (by decide) rfl hz15 ?_
              refine gx_lstore hC dr_Mo_dual_117 (by decide) ?_
              refine gx_iload_n hC dr_Mo_dual_119 rfl ?_
              refine gx_iconst (v := 1) hC dr_Mo_dual_120 (by decide) ?_
              refine gx_icmp_ne (tgt := 136) hC dr_Mo_dual_121 (by decide) (fun hc16 => ?_) (fun hc16 => ?_)
              · rw [if_neg (show ¬ (p0 = 1) from hc16)] at h
                refine gx_aload_n hC dr_Mo_dual_136 rfl ?_
                refine gx_aload_n hC dr_Mo_dual_137 rfl ?_
                refine gx_get hC dr_Mo_dual_138 lf_Mo_7 (by decide) rfl rfl ?_
                refine gx_iload hC dr_Mo_dual_141 rfl ?_
                refine gx_iald (f := (gq_i q13 0)) hC dr_Mo_dual_143 (by decide) rfl hz7 ?_
                refine gx_iload_n hC dr_Mo_dual_144 rfl ?_
                refine gx_iload hC dr_Mo_dual_145 rfl ?_
                refine gx_iload_n hC dr_Mo_dual_147 rfl ?_
                refine gx_if_ne (tgt := 155) hC dr_Mo_dual_148 (by decide) (fun hc23 => ?_) (fun hc23 => ?_)
                · rw [if_neg (show ¬ (p0 = 0) from hc23)] at h
                  refine gx_iconst (v := (-1)) hC dr_Mo_dual_155 (by decide) ?_
                  obtain ⟨q26, e27, h⟩ := gb_of h
                  refine gx_vV hC dr_Mo_dual_156 lk_Mo_145 (mt_Mo_reckon e27) rfl (by decide) ⟨by decide, by decide⟩ ⟨by decide, by decide⟩ (by decide) ⟨_, _, rfl⟩ rfl rfl (Nat.le_of_ble_eq_true rfl) (fun c2 hp => ?_)
                  subst hp
                  refine gx_aload_n hC dr_Mo_dual_159 rfl ?_
                  refine gx_get hC dr_Mo_dual_160 lf_Mo_69 (by decide) rfl rfl ?_
                  refine gx_iconst (v := 0) hC dr_Mo_dual_163 (by decide) ?_
                  refine gx_lald (f := (gq_l q26 5)) hC dr_Mo_dual_164 (by decide) rfl hz15 ?_
                  refine gx_lload hC dr_Mo_dual_165 rfl ?_
                  refine gx_lsub hC dr_Mo_dual_167 ?_
                  obtain rfl := Option.some.inj h
                  exact hR (by decide) (by decide) dr_Mo_dual_168 ⟨rfl, rfl⟩
                · rw [if_pos (show p0 = 0 from hc23)] at h
                  refine gx_iconst (v := 1) hC dr_Mo_dual_151 (by decide) ?_
                  refine gx_goto (tgt := 156) hC dr_Mo_dual_152 (by decide) ?_
                  obtain ⟨q24, e25, h⟩ := gb_of h
                  refine gx_vV hC dr_Mo_dual_156 lk_Mo_145 (mt_Mo_reckon e25) rfl (by decide) ⟨by decide, by decide⟩ ⟨by decide, by decide⟩ (by decide) ⟨_, _, rfl⟩ rfl rfl (Nat.le_of_ble_eq_true rfl) (fun c2 hp => ?_)
                  subst hp
                  refine gx_aload_n hC dr_Mo_dual_159 rfl ?_
                  refine gx_get hC dr_Mo_dual_160 lf_Mo_69 (by decide) rfl rfl ?_
                  refine gx_iconst (v := 0) hC dr_Mo_dual_163 (by decide) ?_
                  refine gx_lald (f := (gq_l q24 5)) hC dr_Mo_dual_164 (by decide) rfl hz15 ?_
                  refine gx_lload hC dr_Mo_dual_165 rfl ?_
                  refine gx_lsub hC dr_Mo_dual_167 ?_
                  obtain rfl := Option.some.inj h
                  exact hR (by decide) (by decide) dr_Mo_dual_168 ⟨rfl, rfl⟩
              · rw [if_pos (show p0 = 1 from hc16)] at h
                refine gx_aload_n hC dr_Mo_dual_124 rfl ?_
                refine gx_get hC dr_Mo_dual_125 lf_Mo_121 (by decide) rfl rfl ?_
                refine gx_iconst (v := 1) hC dr_Mo_dual_128 (by decide) ?_
                refine gx_icmp_ne (tgt := 136) hC dr_Mo_dual_129 (by decide) (fun hc17 => ?_) (fun hc17 => ?_)
                · rw [if_neg (show ¬ ((gq_f q13 5) = 1) from hc17)] at h
                  refine gx_aload_n hC dr_Mo_dual_136 rfl ?_
                  refine gx_aload_n hC dr_Mo_dual_137 rfl ?_
                  refine gx_get hC dr_Mo_dual_138 lf_Mo_7 (by decide) rfl rfl ?_
                  refine gx_iload hC dr_Mo_dual_141 rfl ?_
                  refine gx_iald (f := (gq_i q13 0)) hC dr_Mo_dual_143 (by decide) rfl hz7 ?_
                  refine gx_iload_n hC dr_Mo_dual_144 rfl ?_
                  refine gx_iload hC dr_Mo_dual_145 rfl ?_
                  refine gx_iload_n hC dr_Mo_dual_147 rfl ?_
                  refine gx_if_ne (tgt := 155) hC dr_Mo_dual_148 (by decide) (fun hc18 => ?_) (fun hc18 => ?_)
                  · rw [if_neg (show ¬ (p0 = 0) from hc18)] at h
                    refine gx_iconst (v := (-1)) hC dr_Mo_dual_155 (by decide) ?_
                    obtain ⟨q21, e22, h⟩ := gb_of h
                    refine gx_vV hC dr_Mo_dual_156 lk_Mo_145 (mt_Mo_reckon e22) rfl (by decide) ⟨by decide, by decide⟩ ⟨by decide, by decide⟩ (by decide) ⟨_, _, rfl⟩ rfl rfl (Nat.le_of_ble_eq_true rfl) (fun c2 hp => ?_)
                    subst hp
                    refine gx_aload_n hC dr_Mo_dual_159 rfl ?_
                    refine gx_get hC dr_Mo_dual_160 lf_Mo_69 (by decide) rfl rfl ?_
                    refine gx_iconst (v := 0) hC dr_Mo_dual_163 (by decide) ?_
                    refine gx_lald (f := (gq_l q21 5)) hC dr_Mo_dual_164 (by decide) rfl hz15 ?_
                    refine gx_lload hC dr_Mo_dual_165 rfl ?_
                    refine gx_lsub hC dr_Mo_dual_167 ?_
                    obtain rfl := Option.some.inj h
                    exact hR (by decide) (by decide) dr_Mo_dual_168 ⟨rfl, rfl⟩
                  · rw [if_pos (show p0 = 0 from hc18)] at h
                    refine gx_iconst (v := 1) hC dr_Mo_dual_151 (by decide) ?_
                    refine gx_goto (tgt := 156) hC dr_Mo_dual_152 (by decide) ?_
                    obtain ⟨q19, e20, h⟩ := gb_of h
                    refine gx_vV hC dr_Mo_dual_156 lk_Mo_145 (mt_Mo_reckon e20) rfl (by decide) ⟨by decide, by decide⟩ ⟨by decide, by decide⟩ (by decide) ⟨_, _, rfl⟩ rfl rfl (Nat.le_of_ble_eq_true rfl) (fun c2 hp => ?_)
                    subst hp
                    refine gx_aload_n hC dr_Mo_dual_159 rfl ?_
                    refine gx_get hC dr_Mo_dual_160 lf_Mo_69 (by decide) rfl rfl ?_
                    refine gx_iconst (v := 0) hC dr_Mo_dual_163 (by decide) ?_
                    refine gx_lald (f := (gq_l q19 5)) hC dr_Mo_dual_164 (by decide) rfl hz15 ?_
                    refine gx_lload hC dr_Mo_dual_165 rfl ?_
                    refine gx_lsub hC dr_Mo_dual_167 ?_
                    obtain rfl := Option.some.inj h
                    exact hR (by decide) (by decide) dr_Mo_dual_168 ⟨rfl, rfl⟩
                · rw [if_pos (show (gq_f q13 5) = 1 from hc17)] at h
                  refine gx_ldc2 (v := (-1)) hC dr_Mo_dual_132 lc_Mo_162 ?_
                  obtain rfl := Option.some.inj h
                  exact hR (by decide) (by decide) dr_Mo_dual_135 ⟨rfl, rfl⟩
            · rw [if_pos (show q10 = 0 from hc12)] at h
              refine gx_ldc2 (v := (-1)) hC dr_Mo_dual_93 lc_Mo_162 ?_
              obtain rfl := Option.some.inj h
              exact hR (by decide) (by decide) dr_Mo_dual_96 ⟨rfl, rfl⟩
          · exact absurd (show ¬ ((0 : Int32) = 0) from hc9) (by decide)
        · rw [if_neg (show ¬ (((gq_i M 5) p1.toInt) = (-1)) from hc8)] at h
          refine gx_iconst (v := 1) hC dr_Mo_dual_45 (by decide) ?_
          refine gx_goto (tgt := 50) hC dr_Mo_dual_46 (by decide) ?_
          refine gx_istore_n hC dr_Mo_dual_50 (by decide) ?_
          refine gx_iload_n hC dr_Mo_dual_51 rfl ?_
          refine gx_if_eq (tgt := 73) hC dr_Mo_dual_52 (by decide) (fun hc28 => ?_) (fun hc28 => ?_)
          · exact absurd (show (1 : Int32) = 0 from hc28) (by decide)
          · refine gx_aload_n hC dr_Mo_dual_55 rfl ?_
            refine gx_get hC dr_Mo_dual_56 lf_Mo_36 (by decide) rfl rfl ?_
            refine gx_iload_n hC dr_Mo_dual_59 rfl ?_
            refine gx_zald (f := (gq_i M 6)) hC dr_Mo_dual_60 (by decide) rfl hz7 ?_
            refine gx_if_ne (tgt := 73) hC dr_Mo_dual_61 (by decide) (fun hc29 => ?_) (fun hc29 => ?_)
            · rw [if_neg (show ¬ (((gq_i M 6) p1.toInt) = 0) from hc29)] at h
              refine gx_iload_n hC dr_Mo_dual_73 rfl ?_
              refine gx_istore hC dr_Mo_dual_74 (by decide) ?_
              refine gx_aload_n hC dr_Mo_dual_76 rfl ?_
              refine gx_iload hC dr_Mo_dual_77 rfl ?_
              refine gx_aload_n hC dr_Mo_dual_79 rfl ?_
              refine gx_get hC dr_Mo_dual_80 lf_Mo_7 (by decide) rfl rfl ?_
              refine gx_iload hC dr_Mo_dual_83 rfl ?_
              refine gx_iald (f := (gq_i M 0)) hC dr_Mo_dual_85 (by decide) rfl hz7 ?_
              refine gx_iload_n hC dr_Mo_dual_86 rfl ?_
              obtain ⟨q49, e50, h⟩ := gb_of h
              refine gx_vI hC dr_Mo_dual_87 lk_Mo_124 (mt_Mo_isUnit e50) rfl (by decide) ⟨by decide, by decide⟩ ⟨by decide, by decide⟩ (by decide) ⟨_, _, rfl⟩ rfl rfl (Nat.le_of_ble_eq_true rfl) (fun z c2 hp => ?_)
              obtain ⟨hp1, rfl⟩ := hp; obtain rfl := hp1.symm
              refine gx_if_ne (tgt := 97) hC dr_Mo_dual_90 (by decide) (fun hc51 => ?_) (fun hc51 => ?_)
              · rw [if_neg (show ¬ (q49 = 0) from hc51)] at h
                refine gx_aload_n hC dr_Mo_dual_97 rfl ?_
                refine gx_aload_n hC dr_Mo_dual_98 rfl ?_
                refine gx_get hC dr_Mo_dual_99 lf_Mo_7 (by decide) rfl rfl ?_
                refine gx_iload hC dr_Mo_dual_102 rfl ?_
                refine gx_iald (f := (gq_i M 0)) hC dr_Mo_dual_104 (by decide) rfl hz7 ?_
                refine gx_iload_n hC dr_Mo_dual_105 rfl ?_
                refine gx_iconst (v := (-1)) hC dr_Mo_dual_106 (by decide) ?_
                refine gx_iconst (v := 0) hC dr_Mo_dual_107 (by decide) ?_
                obtain ⟨q52, e53, h⟩ := gb_of h
                refine gx_vV hC dr_Mo_dual_108 lk_Mo_145 (mt_Mo_reckon e53) rfl (by decide) ⟨by decide, by decide⟩ ⟨by decide, by decide⟩ (by decide) ⟨_, _, rfl⟩ rfl rfl (Nat.le_of_ble_eq_true rfl) (fun c2 hp => ?_)
                subst hp
                refine gx_aload_n hC dr_Mo_dual_111 rfl ?_
                refine gx_get hC dr_Mo_dual_112 lf_Mo_69 (by decide) rfl rfl ?_
                refine gx_iconst (v := 0) hC dr_Mo_dual_115 (by decide) ?_
                have hz54 : 0 ≤ (0 : Int32).toInt ∧ (0 : Int32).toInt < ((4096 : Nat) : Int) := by decide
                refine gx_lald (f := (gq_l q52 5)) hC dr_Mo_dual_116 (by decide) rfl hz54 ?_
                refine gx_lstore hC dr_Mo_dual_117 (by decide) ?_
                refine gx_iload_n hC dr_Mo_dual_119 rfl ?_
                refine gx_iconst (v := 1) hC dr_Mo_dual_120 (by decide) ?_
                refine gx_icmp_ne (tgt := 136) hC dr_Mo_dual_121 (by decide) (fun hc55 => ?_) (fun hc55 => ?_)
                · rw [if_neg (show ¬ (p0 = 1) from hc55)] at h
                  refine gx_aload_n hC dr_Mo_dual_136 rfl ?_
                  refine gx_aload_n hC dr_Mo_dual_137 rfl ?_
                  refine gx_get hC dr_Mo_dual_138 lf_Mo_7 (by decide) rfl rfl ?_
                  refine gx_iload hC dr_Mo_dual_141 rfl ?_
                  refine gx_iald (f := (gq_i q52 0)) hC dr_Mo_dual_143 (by decide) rfl hz7 ?_
                  refine gx_iload_n hC dr_Mo_dual_144 rfl ?_
                  refine gx_iload hC dr_Mo_dual_145 rfl ?_
                  refine gx_iload_n hC dr_Mo_dual_147 rfl ?_
                  refine gx_if_ne (tgt := 155) hC dr_Mo_dual_148 (by decide) (fun hc62 => ?_) (fun hc62 => ?_)
                  · rw [if_neg (show ¬ (p0 = 0) from hc62)] at h
                    refine gx_iconst (v := (-1)) hC dr_Mo_dual_155 (by decide) ?_
                    obtain ⟨q65, e66, h⟩ := gb_of h
                    refine gx_vV hC dr_Mo_dual_156 lk_Mo_145 (mt_Mo_reckon e66) rfl (by decide) ⟨by decide, by decide⟩ ⟨by decide, by decide⟩ (by decide) ⟨_, _, rfl⟩ rfl rfl (Nat.le_of_ble_eq_true rfl) (fun c2 hp => ?_)
                    subst hp
                    refine gx_aload_n hC dr_Mo_dual_159 rfl ?_
                    refine gx_get hC dr_Mo_dual_160 lf_Mo_69 (by decide) rfl rfl ?_
                    refine gx_iconst (v := 0) hC dr_Mo_dual_163 (by decide) ?_
                    refine gx_lald (f := (gq_l q65 5)) hC dr_Mo_dual_164 (by decide) rfl hz54 ?_
                    refine gx_lload hC dr_Mo_dual_165 rfl ?_
                    refine gx_lsub hC dr_Mo_dual_167 ?_
                    obtain rfl := Option.some.inj h
                    exact hR (by decide) (by decide) dr_Mo_dual_168 ⟨rfl, rfl⟩
                  · rw [if_pos (show p0 = 0 from hc62)] at h
                    refine gx_iconst (v := 1) hC dr_Mo_dual_151 (by decide) ?_
                    refine gx_goto (tgt := 156) hC dr_Mo_dual_152 (by decide) ?_
                    obtain ⟨q63, e64, h⟩ := gb_of h
                    refine gx_vV hC dr_Mo_dual_156 lk_Mo_145 (mt_Mo_reckon e64) rfl (by decide) ⟨by decide, by decide⟩ ⟨by decide, by decide⟩ (by decide) ⟨_, _, rfl⟩ rfl rfl (Nat.le_of_ble_eq_true rfl) (fun c2 hp => ?_)
                    subst hp
                    refine gx_aload_n hC dr_Mo_dual_159 rfl ?_
                    refine gx_get hC dr_Mo_dual_160 lf_Mo_69 (by decide) rfl rfl ?_
                    refine gx_iconst (v := 0) hC dr_Mo_dual_163 (by decide) ?_
                    refine gx_lald (f := (gq_l q63 5)) hC dr_Mo_dual_164 (by decide) rfl hz54 ?_
                    refine gx_lload hC dr_Mo_dual_165 rfl ?_
                    refine gx_lsub hC dr_Mo_dual_167 ?_
                    obtain rfl := Option.some.inj h
                    exact hR (by decide) (by decide) dr_Mo_dual_168 ⟨rfl, rfl⟩
                · rw [if_pos (show p0 = 1 from hc55)] at h
                  refine gx_aload_n hC dr_Mo_dual_124 rfl ?_
                  refine gx_get hC dr_Mo_dual_125 lf_Mo_121 (by decide) rfl rfl ?_
                  refine gx_iconst (v := 1) hC dr_Mo_dual_128 (by decide) ?_
                  refine gx_icmp_ne (tgt := 136) hC dr_Mo_dual_129 (by decide) (fun hc56 => ?_) (fun hc56 => ?_)
                  · rw [if_neg (show ¬ ((gq_f q52 5) = 1) from hc56)] at h
                    refine gx_aload_n hC dr_Mo_dual_136 rfl ?_
                    refine gx_aload_n hC dr_Mo_dual_137 rfl ?_
                    refine gx_get hC dr_Mo_dual_138 lf_Mo_7 (by decide) rfl rfl ?_
                    refine gx_iload hC dr_Mo_dual_141 rfl ?_
                    refine gx_iald (f := (gq_i q52 0)) hC dr_Mo_dual_143 (by decide) rfl hz7 ?_
                    refine gx_iload_n hC dr_Mo_dual_144 rfl ?_
                    refine gx_iload hC dr_Mo_dual_145 rfl ?_
                    refine gx_iload_n hC dr_Mo_dual_147 rfl ?_
                    refine gx_if_ne (tgt := 155) hC dr_Mo_dual_148 (by decide) (fun hc57 => ?_) (fun hc57 => ?_)
                    · rw [if_neg (show ¬ (p0 = 0) from hc57)] at h
                      refine gx_iconst (v := (-1)) hC dr_Mo_dual_155 (by decide) ?_
                      obtain ⟨q60, e61, h⟩ := gb_of h
                      refine gx_vV hC dr_Mo_dual_156 lk_Mo_145 (mt_Mo_reckon e61) rfl (by decide) ⟨by decide, by decide⟩ ⟨by decide, by decide⟩ (by decide) ⟨_, _, rfl⟩ rfl rfl (Nat.le_of_ble_eq_true rfl) (fun c2 hp => ?_)
                      subst hp
                      refine gx_aload_n hC dr_Mo_dual_159 rfl ?_
                      refine gx_get hC dr_Mo_dual_160 lf_Mo_69 (by decide) rfl rfl ?_
                      refine gx_iconst (v := 0) hC dr_Mo_dual_163 (by decide) ?_
                      refine gx_lald (f := (gq_l q60 5)) hC dr_Mo_dual_164 (by decide) rfl hz54 ?_
                      refine gx_lload hC dr_Mo_dual_165 rfl ?_
                      refine gx_lsub hC dr_Mo_dual_167 ?_
                      obtain rfl := Option.some.inj h
                      exact hR (by decide) (by decide) dr_Mo_dual_168 ⟨rfl, rfl⟩
                    · rw [if_pos (show p0 = 0 from hc57)] at h
                      refine gx_iconst (v := 1) hC dr_Mo_dual_151 (by decide) ?_
                      refine gx_goto (tgt := 156) hC dr_Mo_dual_152 (by decide) ?_
                      obtain ⟨q58, e59, h⟩ := gb_of h
                      refine gx_vV hC dr_Mo_dual_156 lk_Mo_145 (mt_Mo_reckon e59) rfl (by decide) ⟨by decide, by decide⟩ ⟨by decide, by decide⟩ (by decide) ⟨_, _, rfl⟩ rfl rfl (Nat.le_of_ble_eq_true rfl) (fun c2 hp => ?_)
                      subst hp
                      refine gx_aload_n hC dr_Mo_dual_159 rfl ?_
                      refine gx_get hC dr_Mo_dual_160 lf_Mo_69 (by decide) rfl rfl ?_
                      refine gx_iconst (v := 0) hC dr_Mo_dual_163 (by decide) ?_
                      refine gx_lald (f := (gq_l q58 5)) hC dr_Mo_dual_164 (by decide) rfl hz54 ?_
                      refine gx_lload hC dr_Mo_dual_165 rfl ?_
                      refine gx_lsub hC dr_Mo_dual_167 ?_
                      obtain rfl := Option.some.inj h
                      exact hR (by decide) (by decide) dr_Mo_dual_168 ⟨rfl, rfl⟩
                  · rw [if_pos (show (gq_f q52 5) = 1 from hc56)] at h
                    refine gx_ldc2 (v := (-1)) hC dr_Mo_dual_132 lc_Mo_162 ?_
                    obtain rfl := Option.some.inj h
                    exact hR (by decide) (by decide) dr_Mo_dual_135 ⟨rfl, rfl⟩
              · rw [if_pos (show q49 = 0 from hc51)] at h
                refine gx_ldc2 (v := (-1)) hC dr_Mo_dual_93 lc_Mo_162 ?_
                obtain rfl := Option.some.inj h
                exact hR (by decide) (by decide) dr_Mo_dual_96 ⟨rfl, rfl⟩
            · rw [if_pos (show ((gq_i M 6) p1.toInt) = 0 from hc29)] at h
              refine gx_aload_n hC dr_Mo_dual_64 rfl ?_
              refine gx_get hC dr_Mo_dual_65 lf_Mo_33 (by decide) rfl rfl ?_
              refine gx_iload_n hC dr_Mo_dual_68 rfl ?_
              refine gx_iald (f := (gq_i M 5)) hC dr_Mo_dual_69 (by decide) rfl hz7 ?_
              refine gx_goto (tgt := 74) hC dr_Mo_dual_70 (by decide) ?_
              refine gx_istore hC dr_Mo_dual_74 (by decide) ?_
              refine gx_aload_n hC dr_Mo_dual_76 rfl ?_
              refine gx_iload hC dr_Mo_dual_77 rfl ?_
              refine gx_aload_n hC dr_Mo_dual_79 rfl ?_
              refine gx_get hC dr_Mo_dual_80 lf_Mo_7 (by decide) rfl rfl ?_
              refine gx_iload hC dr_Mo_dual_83 rfl ?_
              obtain ⟨hz30, h⟩ := gk_of h
              refine gx_iald (f := (gq_i M 0)) hC dr_Mo_dual_85 (by decide) rfl hz30 ?_
              refine gx_iload_n hC dr_Mo_dual_86 rfl ?_
              obtain ⟨q31, e32, h⟩ := gb_of h
              refine gx_vI hC dr_Mo_dual_87 lk_Mo_124 (mt_Mo_isUnit e32) rfl (by decide) ⟨by decide, by decide⟩ ⟨by decide, by decide⟩ (by decide) ⟨_, _, rfl⟩ rfl rfl (Nat.le_of_ble_eq_true rfl) (fun z c2 hp => ?_)
              obtain ⟨hp1, rfl⟩ := hp; obtain rfl := hp1.symm
              refine gx_if_ne (tgt := 97) hC dr_Mo_dual_90 (by decide) (fun hc33 => ?_) (fun hc33 => ?_)
              · rw [if_neg (show ¬ (q31 = 0) from hc33)] at h
                refine gx_aload_n hC dr_Mo_dual_97 rfl ?_
                refine gx_aload_n hC dr_Mo_dual_98 rfl ?_
                refine gx_get hC dr_Mo_dual_99 lf_Mo_7 (by decide) rfl rfl ?_
                refine gx_iload hC dr_Mo_dual_102 rfl ?_
                refine gx_iald (f := (gq_i M 0)) hC dr_Mo_dual_104 (by decide) rfl hz30 ?_
                refine gx_iload_n hC dr_Mo_dual_105 rfl ?_
                refine gx_iconst (v := (-1)) hC dr_Mo_dual_106 (by decide) ?_
                refine gx_iconst (v := 0) hC dr_Mo_dual_107 (by decide) ?_
                obtain ⟨q34, e35, h⟩ := gb_of h
                refine gx_vV hC dr_Mo_dual_108 lk_Mo_145 (mt_Mo_reckon e35) rfl (by decide) ⟨by decide, by decide⟩ ⟨by decide, by decide⟩ (by decide) ⟨_, _, rfl⟩ rfl rfl (Nat.le_of_ble_eq_true rfl) (fun c2 hp => ?_)
                subst hp
                refine gx_aload_n hC dr_Mo_dual_111 rfl ?_
                refine gx_get hC dr_Mo_dual_112 lf_Mo_69 (by decide) rfl rfl ?_
                refine gx_iconst (v := 0) hC dr_Mo_dual_115 (by decide) ?_
                have hz36 : 0 ≤ (0 : Int32).toInt ∧ (0 : Int32).toInt < ((4096 : Nat) : Int) := by decide
                refine gx_lald (f := (gq_l q34 5)) hC dr_Mo_dual_116 (by decide) rfl hz36 ?_
                refine gx_lstore hC dr_Mo_dual_117 (by decide) ?_
                refine gx_iload_n hC dr_Mo_dual_119 rfl ?_
                refine gx_iconst (v := 1) hC dr_Mo_dual_120 (by decide) ?_
                refine gx_icmp_ne (tgt := 136) hC dr_Mo_dual_121 (by decide) (fun hc37 => ?_) (fun hc37 => ?_)
                · rw [if_neg (show ¬ (p0 = 1) from hc37)] at h
                  refine gx_aload_n hC dr_Mo_dual_136 rfl ?_
                  refine gx_aload_n hC dr_Mo_dual_137 rfl ?_
                  refine gx_get hC dr_Mo_dual_138 lf_Mo_7 (by decide) rfl rfl ?_
                  refine gx_iload hC dr_Mo_dual_141 rfl ?_
                  refine gx_iald (f := (gq_i q34 0)) hC dr_Mo_dual_143 (by decide) rfl hz30 ?_
                  refine gx_iload_n hC dr_Mo_dual_144 rfl ?_
                  refine gx_iload hC dr_Mo_dual_145 rfl ?_
                  refine gx_iload_n hC dr_Mo_dual_147 rfl ?_
                  refine gx_if_ne (tgt := 155) hC dr_Mo_dual_148 (by decide) (fun hc44 => ?_) (fun hc44 => ?_)
                  · rw [if_neg (show ¬ (p0 = 0) from hc44)] at h
                    refine gx_iconst (v := (-1)) hC dr_Mo_dual_155 (by decide) ?_
                    obtain ⟨q47, e48, h⟩ := gb_of h
                    refine gx_vV hC dr_Mo_dual_156 lk_Mo_145 (mt_Mo_reckon e48) rfl (by decide) ⟨by decide, by decide⟩ ⟨by decide, by decide⟩ (by decide) ⟨_, _, rfl⟩ rfl rfl (Nat.le_of_ble_eq_true rfl) (fun c2 hp => ?_)
                    subst hp
                    refine gx_aload_n hC dr_Mo_dual_159 rfl ?_
                    refine gx_get hC dr_Mo_dual_160 lf_Mo_69 (by decide) rfl rfl ?_
                    refine gx_iconst (v := 0) hC dr_Mo_dual_163 (by decide) ?_
                    refine gx_lald (f := (gq_l q47 5)) hC dr_Mo_dual_164 (by decide) rfl hz36 ?_
                    refine gx_lload hC dr_Mo_dual_165 rfl ?_
                    refine gx_lsub hC dr_Mo_dual_167 ?_
                    obtain rfl := Option.some.inj h
                    exact hR (by decide) (by decide) dr_Mo_dual_168 ⟨rfl, rfl⟩
                  · rw [if_pos (show p0 = 0 from hc44)] at h
                    refine gx_iconst (v := 1) hC dr_Mo_dual_151 (by decide) ?_
                    refine gx_goto (tgt := 156) hC dr_Mo_dual_152 (by decide) ?_
                    obtain ⟨q45, e46, h⟩ := gb_of h
                    refine gx_vV hC dr_Mo_dual_156 lk_Mo_145 (mt_Mo_reckon e46) rfl (by decide) ⟨by decide, by decide⟩ ⟨by decide, by decide⟩ (by decide) ⟨_, _, rfl⟩ rfl rfl (Nat.le_of_ble_eq_true rfl) (fun c2 hp => ?_)
                    subst hp
                    refine gx_aload_n hC dr_Mo_dual_159 rfl ?_
                    refine gx_get hC dr_Mo_dual_160 lf_Mo_69 (by decide) rfl rfl ?_
                    refine gx_iconst (v := 0) hC dr_Mo_dual_163 (by decide) ?_
                    refine gx_lald (f := (gq_l q45 5)) hC dr_Mo_dual_164 (by decide) rfl hz36 ?_
                    refine gx_lload hC dr_Mo_dual_165 rfl ?_
                    refine gx_lsub hC dr_Mo_dual_167 ?_
                    obtain rfl := Option.some.inj h
                    exact hR (by decide) (by decide) dr_Mo_dual_168 ⟨rfl, rfl⟩
                · rw [if_pos (show p0 = 1 from hc37)] at h
                  refine gx_aload_n hC dr_Mo_dual_124 rfl ?_
                  refine gx_get hC dr_Mo_dual_125 lf_Mo_121 (by decide) rfl rfl ?_
                  refine gx_iconst (v := 1) hC dr_Mo_dual_128 (by decide) ?_
                  refine gx_icmp_ne (tgt := 136) hC dr_Mo_dual_129 (by decide) (fun hc38 => ?_) (fun hc38 => ?_)
                  · rw [if_neg (show ¬ ((gq_f q34 5) = 1) from hc38)] at h
                    refine gx_aload_n hC dr_Mo_dual_136 rfl ?_
                    refine gx_aload_n hC dr_Mo_dual_137 rfl ?_
                    refine gx_get hC dr_Mo_dual_138 lf_Mo_7 (by decide) rfl rfl ?_
                    refine gx_iload hC dr_Mo_dual_141 rfl ?_
                    refine gx_iald (f := (gq_i q34 0)) hC dr_Mo_dual_143 (by decide) rfl hz30 ?_
                    refine gx_iload_n hC dr_Mo_dual_144 rfl ?_
                    refine gx_iload hC dr_Mo_dual_145 rfl ?_
                    refine gx_iload_n hC dr_Mo_dual_147 rfl ?_
                    refine gx_if_ne (tgt := 155) hC dr_Mo_dual_148 (by decide) (fun hc39 => ?_) (fun hc39 => ?_)
                    · rw [if_neg (show ¬ (p0 = 0) from hc39)] at h
                      refine gx_iconst (v := (-1)) hC dr_Mo_dual_155 (by decide) ?_
                      obtain ⟨q42, e43, h⟩ := gb_of h
                      refine gx_vV hC dr_Mo_dual_156 lk_Mo_145 (mt_Mo_reckon e43) rfl (by decide) ⟨by decide, by decide⟩ ⟨by decide, by decide⟩ (by decide) ⟨_, _, rfl⟩ rfl rfl (Nat.le_of_ble_eq_true rfl) (fun c2 hp => ?_)
                      subst hp
                      refine gx_aload_n hC dr_Mo_dual_159 rfl ?_
                      refine gx_get hC dr_Mo_dual_160 lf_Mo_69 (by decide) rfl rfl ?_
                      refine gx_iconst (v := 0) hC dr_Mo_dual_163 (by decide) ?_
                      refine gx_lald (f := (gq_l q42 5)) hC dr_Mo_dual_164 (by decide) rfl hz36 ?_
                      refine gx_lload hC dr_Mo_dual_165 rfl ?_
                      refine gx_lsub hC dr_Mo_dual_167 ?_
                      obtain rfl := Option.some.inj h
                      exact hR (by decide) (by decide) dr_Mo_dual_168 ⟨rfl, rfl⟩
                    · rw [if_pos (show p0 = 0 from hc39)] at h
                      refine gx_iconst (v := 1) hC dr_Mo_dual_151 (by decide) ?_
                      refine gx_goto (tgt := 156) hC dr_Mo_dual_152 (by decide) ?_
                      obtain ⟨q40, e41, h⟩ := gb_of h
                      refine gx_vV hC dr_Mo_dual_156 lk_Mo_145 (mt_Mo_reckon e41) rfl (by decide) ⟨by decide, by decide⟩ ⟨by decide, by decide⟩ (by decide) ⟨_, _, rfl⟩ rfl rfl (Nat.le_of_ble_eq_true rfl) (fun c2 hp => ?_)
                      subst hp
                      refine gx_aload_n hC dr_Mo_dual_159 rfl ?_
                      refine gx_get hC dr_Mo_dual_160 lf_Mo_69 (by decide) rfl rfl ?_
                      refine gx_iconst (v := 0) hC dr_Mo_dual_163 (by decide) ?_
                      refine gx_lald (f := (gq_l q40 5)) hC dr_Mo_dual_164 (by decide) rfl hz36 ?_
                      refine gx_lload hC dr_Mo_dual_165 rfl ?_
                      refine gx_lsub hC dr_Mo_dual_167 ?_
                      obtain rfl := Option.some.inj h
                      exact hR (by decide) (by decide) dr_Mo_dual_168 ⟨rfl, rfl⟩
                  · rw [if_pos (show (gq_f q34 5) = 1 from hc38)] at h
                    refine gx_ldc2 (v := (-1)) hC dr_Mo_dual_132 lc_Mo_162 ?_
                    obtain rfl := Option.some.inj h
                    exact hR (by decide) (by decide) dr_Mo_dual_135 ⟨rfl, rfl⟩
              · rw [if_pos (show q31 = 0 from hc33)] at h
                refine gx_ldc2 (v := (-1)) hC dr_Mo_dual_93 lc_Mo_162 ?_
                obtain rfl := Option.some.inj h
                exact hR (by decide) (by decide) dr_Mo_dual_96 ⟨rfl, rfl⟩
      · exact absurd (show ¬ ((0 : Int32) = 0) from hc6) (by decide)
    · rw [if_neg (show ¬ (p0 = 0) from hc5)] at h
      refine gx_iload_n hC dr_Mo_dual_13 rfl ?_
      refine gx_iconst (v := 1) hC dr_Mo_dual_14 (by decide) ?_
      refine gx_icmp_ne (tgt := 22) hC dr_Mo_dual_15 (by decide) (fun hc67 => ?_) (fun hc67 => ?_)
      · rw [if_neg (show ¬ (p0 = 1) from hc67)] at h
        refine gx_iconst (v := 1) hC dr_Mo_dual_22 (by decide) ?_
        refine gx_put hC (by decide) dr_Mo_dual_23 lf_Mo_78 lp_Mo_thrown (by decide) rfl (Nat.le_of_ble_eq_true rfl) (fun _ => rfl) (fun _ => rfl) ma_F0 ?_
        refine gx_aload_n hC dr_Mo_dual_26 rfl ?_
        refine gx_get hC dr_Mo_dual_27 lf_Mo_78 (by decide) rfl rfl ?_
        refine gx_if_eq (tgt := 35) hC dr_Mo_dual_30 (by decide) (fun hc129 => ?_) (fun hc129 => ?_)
        · exact absurd (show (1 : Int32) = 0 from hc129) (by decide)
        · refine gx_lconst hC dr_Mo_dual_33 ?_
          obtain rfl := Option.some.inj h
          exact hR (by decide) (by decide) dr_Mo_dual_34 ⟨rfl, rfl⟩
      · rw [if_pos (show p0 = 1 from hc67)] at h
        refine gx_iconst (v := 0) hC dr_Mo_dual_18 (by decide) ?_
        refine gx_goto (tgt := 23) hC dr_Mo_dual_19 (by decide) ?_
        refine gx_put hC (by decide) dr_Mo_dual_23 lf_Mo_78 lp_Mo_thrown (by decide) rfl (Nat.le_of_ble_eq_true rfl) (fun _ => rfl) (fun _ => rfl) ma_F0 ?_
        refine gx_aload_n hC dr_Mo_dual_26 rfl ?_
        refine gx_get hC dr_Mo_dual_27 lf_Mo_78 (by decide) rfl rfl ?_
        refine gx_if_eq (tgt := 35) hC dr_Mo_dual_30 (by decide) (fun hc68 => ?_) (fun hc68 => ?_)
        · refine gx_aload_n hC dr_Mo_dual_35 rfl ?_
          refine gx_get hC dr_Mo_dual_36 lf_Mo_33 (by decide) rfl rfl ?_
          refine gx_iload_n hC dr_Mo_dual_39 rfl ?_
          obtain ⟨hz69, h⟩ := gk_of h
          refine gx_iald (f := (gq_i M 5)) hC dr_Mo_dual_40 (by decide) rfl hz69 ?_
          refine gx_iconst (v := (-1)) hC dr_Mo_dual_41 (by decide) ?_
          refine gx_icmp_eq (tgt := 49) hC dr_Mo_dual_42 (by decide) (fun hc70 => ?_) (fun hc70 => ?_)
          · rw [if_pos (show ((gq_i M 5) p1.toInt) = (-1) from hc70)] at h
            refine gx_iconst (v := 0) hC dr_Mo_dual_49 (by decide) ?_
            refine gx_istore_n hC dr_Mo_dual_50 (by decide) ?_
            refine gx_iload_n hC dr_Mo_dual_51 rfl ?_
            refine gx_if_eq (tgt := 73) hC dr_Mo_dual_52 (by decide) (fun hc71 => ?_) (fun hc71 => ?_)
            · refine gx_iload_n hC dr_Mo_dual_73 rfl ?_
              refine gx_istore hC dr_Mo_dual_74 (by decide) ?_
              refine gx_aload_n hC dr_Mo_dual_76 rfl ?_
              refine gx_iload hC dr_Mo_dual_77 rfl ?_
              refine gx_aload_n hC dr_Mo_dual_79 rfl ?_
              refine gx_get hC dr_Mo_dual_80 lf_Mo_7 (by decide) rfl rfl ?_
              refine gx_iload hC dr_Mo_dual_83 rfl ?_
              refine gx_iald (f := (gq_i M 0)) hC dr_Mo_dual_85 (by decide) rfl hz69 ?_
              refine gx_iload_n hC dr_Mo_dual_86 rfl ?_
              obtain ⟨q72, e73, h⟩ := gb_of h
              refine gx_vI hC dr_Mo_dual_87 lk_Mo_124 (mt_Mo_isUnit e73) rfl (by decide) ⟨by decide, by decide⟩ ⟨by decide, by decide⟩ (by decide) ⟨_, _, rfl⟩ rfl rfl (Nat.le_of_ble_eq_true rfl) (fun z c2 hp => ?_)
              obtain ⟨hp1, rfl⟩ := hp; obtain rfl := hp1.symm
              refine gx_if_ne (tgt := 97) hC dr_Mo_dual_90 (by decide) (fun hc74 => ?_) (fun hc74 => ?_)
              · rw [if_neg (show ¬ (q72 = 0) from hc74)] at h
                refine gx_aload_n hC dr_Mo_dual_97 rfl ?_
                refine gx_aload_n hC dr_Mo_dual_98 rfl ?_
                refine gx_get hC dr_Mo_dual_99 lf_Mo_7 (by decide) rfl rfl ?_
                refine gx_iload hC dr_Mo_dual_102 rfl ?_
                refine gx_iald (f := (gq_i M 0)) hC dr_Mo_dual_104 (by decide) rfl hz69 ?_
                refine gx_iload_n hC dr_Mo_dual_105 rfl ?_
                refine gx_iconst (v := (-1)) hC dr_Mo_dual_106 (by decide) ?_
                refine gx_iconst (v := 0) hC dr_Mo_dual_107 (by decide) ?_
                obtain ⟨q75, e76, h⟩ := gb_of h
                refine gx_vV hC dr_Mo_dual_108 lk_Mo_145 (mt_Mo_reckon e76) rfl (by decide) ⟨by decide, by decide⟩ ⟨by decide, by decide⟩ (by decide) ⟨_, _, rfl⟩ rfl rfl (Nat.le_of_ble_eq_true rfl) (fun c2 hp => ?_)
                subst hp
                refine gx_aload_n hC dr_Mo_dual_111 rfl ?_
                refine gx_get hC dr_Mo_dual_112 lf_Mo_69 (by decide) rfl rfl ?_
                refine gx_iconst (v := 0) hC dr_Mo_dual_115 (by decide) ?_
                have hz77 : 0 ≤ (0 : Int32).toInt ∧ (0 : Int32).toInt < ((4096 : Nat) : Int) := by decide
                refine gx_lald (f := (gq_l q75 5)) hC dr_Mo_dual_116 (by decide) rfl hz77 ?_
                refine gx_lstore hC dr_Mo_dual_117 (by decide) ?_
                refine gx_iload_n hC dr_Mo_dual_119 rfl ?_
                refine gx_iconst (v := 1) hC dr_Mo_dual_120 (by decide) ?_
                refine gx_icmp_ne (tgt := 136) hC dr_Mo_dual_121 (by decide) (fun hc78 => ?_) (fun hc78 => ?_)
                · rw [if_neg (show ¬ (p0 = 1) from hc78)] at h
                  refine gx_aload_n hC dr_Mo_dual_136 rfl ?_
                  refine gx_aload_n hC dr_Mo_dual_137 rfl ?_
                  refine gx_get hC dr_Mo_dual_138 lf_Mo_7 (by decide) rfl rfl ?_
                  refine gx_iload hC dr_Mo_dual_141 rfl ?_
                  refine gx_iald (f := (gq_i q75 0)) hC dr_Mo_dual_143 (by decide) rfl hz69 ?_
                  refine gx_iload_n hC dr_Mo_dual_144 rfl ?_
                  refine gx_iload hC dr_Mo_dual_145 rfl ?_
                  refine gx_iload_n hC dr_Mo_dual_147 rfl ?_
                  refine gx_if_ne (tgt := 155) hC dr_Mo_dual_148 (by decide) (fun hc85 => ?_) (fun hc85 => ?_)
                  · rw [if_neg (show ¬ (p0 = 0) from hc85)] at h
                    refine gx_iconst (v := (-1)) hC dr_Mo_dual_155 (by decide) ?_
                    obtain ⟨q88, e89, h⟩ := gb_of h
                    refine gx_vV hC dr_Mo_dual_156 lk_Mo_145 (mt_Mo_reckon e89) rfl (by decide) ⟨by decide, by decide⟩ ⟨by decide, by decide⟩ (by decide) ⟨_, _, rfl⟩ rfl rfl (Nat.le_of_ble_eq_true rfl) (fun c2 hp => ?_)
                    subst hp
                    refine gx_aload_n hC dr_Mo_dual_159 rfl ?_
                    refine gx_get hC dr_Mo_dual_160 lf_Mo_69 (by decide) rfl rfl ?_
                    refine gx_iconst (v := 0) hC dr_Mo_dual_163 (by decide) ?_
                    refine gx_lald (f := (gq_l q88 5)) hC dr_Mo_dual_164 (by decide) rfl hz77 ?_
                    refine gx_lload hC dr_Mo_dual_165 rfl ?_
                    refine gx_lsub hC dr_Mo_dual_167 ?_
                    obtain rfl := Option.some.inj h
                    exact hR (by decide) (by decide) dr_Mo_dual_168 ⟨rfl, rfl⟩
                  · rw [if_pos (show p0 = 0 from hc85)] at h
                    refine gx_iconst (v := 1) hC dr_Mo_dual_151 (by decide) ?_
                    refine gx_goto (tgt := 156) hC dr_Mo_dual_152 (by decide) ?_
                    obtain ⟨q86, e87, h⟩ := gb_of h
                    refine gx_vV hC dr_Mo_dual_156 lk_Mo_145 (mt_Mo_reckon e87) rfl (by decide) ⟨by decide, by decide⟩ ⟨by decide, by decide⟩ (by decide) ⟨_, _, rfl⟩ rfl rfl (Nat.le_of_ble_eq_true rfl) (fun c2 hp => ?_)
                    subst hp
                    refine gx_aload_n hC dr_Mo_dual_159 rfl ?_
                    refine gx_get hC dr_Mo_dual_160 lf_Mo_69 (by decide) rfl rfl ?_
                    refine gx_iconst (v := 0) hC dr_Mo_dual_163 (by decide) ?_
                    refine gx_lald (f := (gq_l q86 5)) hC dr_Mo_dual_164 (by decide) rfl hz77 ?_
                    refine gx_lload hC dr_Mo_dual_165 rfl ?_
                    refine gx_lsub hC dr_Mo_dual_167 ?_
                    obtain rfl := Option.some.inj h
                    exact hR (by decide) (by decide) dr_Mo_dual_168 ⟨rfl, rfl⟩
                · rw [if_pos (show p0 = 1 from hc78)] at h
                  refine gx_aload_n hC dr_Mo_dual_124 rfl ?_
                  refine gx_get hC dr_Mo_dual_125 lf_Mo_121 (by decide) rfl rfl ?_
                  refine gx_iconst (v := 1) hC dr_Mo_dual_128 (by decide) ?_
                  refine gx_icmp_ne (tgt := 136) hC dr_Mo_dual_129 (by decide) (fun hc79 => ?_) (fun hc79 => ?_)
                  · rw [if_neg (show ¬ ((gq_f q75 5) = 1) from hc79)] at h
                    refine gx_aload_n hC dr_Mo_dual_136 rfl ?_
                    refine gx_aload_n hC dr_Mo_dual_137 rfl ?_
                    refine gx_get hC dr_Mo_dual_138 lf_Mo_7 (by decide) rfl rfl ?_
                    refine gx_iload hC dr_Mo_dual_141 rfl ?_
                    refine gx_iald (f := (gq_i q75 0)) hC dr_Mo_dual_143 (by decide) rfl hz69 ?_
                    refine gx_iload_n hC dr_Mo_dual_144 rfl ?_
                    refine gx_iload hC dr_Mo_dual_145 rfl ?_
                    refine gx_iload_n hC dr_Mo_dual_147 rfl ?_
                    refine gx_if_ne (tgt := 155) hC dr_Mo_dual_148 (by decide) (fun hc80 => ?_) (fun hc80 => ?_)
                    · rw [if_neg (show ¬ (p0 = 0) from hc80)] at h
                      refine gx_iconst (v := (-1)) hC dr_Mo_dual_155 (by decide) ?_
                      obtain ⟨q83, e84, h⟩ := gb_of h
                      refine gx_vV hC dr_Mo_dual_156 lk_Mo_145 (mt_Mo_reckon e84) rfl (by decide) ⟨by decide, by decide⟩ ⟨by decide, by decide⟩ (by decide) ⟨_, _, rfl⟩ rfl rfl (Nat.le_of_ble_eq_true rfl) (fun c2 hp => ?_)
                      subst hp
                      refine gx_aload_n hC dr_Mo_dual_159 rfl ?_
                      refine gx_get hC dr_Mo_dual_160 lf_Mo_69 (by decide) rfl rfl ?_
                      refine gx_iconst (v := 0) hC dr_Mo_dual_163 (by decide) ?_
                      refine gx_lald (f := (gq_l q83 5)) hC dr_Mo_dual_164 (by decide) rfl hz77 ?_
                      refine gx_lload hC dr_Mo_dual_165 rfl ?_
                      refine gx_lsub hC dr_Mo_dual_167 ?_
                      obtain rfl := Option.some.inj h
                      exact hR (by decide) (by decide) dr_Mo_dual_168 ⟨rfl, rfl⟩
                    · rw [if_pos (show p0 = 0 from hc80)] at h
                      refine gx_iconst (v := 1) hC dr_Mo_dual_151 (by decide) ?_
                      refine gx_goto (tgt := 156) hC dr_Mo_dual_152 (by decide) ?_
                      obtain ⟨q81, e82, h⟩ := gb_of h
                      refine gx_vV hC dr_Mo_dual_156 lk_Mo_145 (mt_Mo_reckon e82) rfl (by decide) ⟨by decide, by decide⟩ ⟨by decide, by decide⟩ (by decide) ⟨_, _, rfl⟩ rfl rfl (Nat.le_of_ble_eq_true rfl) (fun c2 hp => ?_)
                      subst hp
                      refine gx_aload_n hC dr_Mo_dual_159 rfl ?_
                      refine gx_get hC dr_Mo_dual_160 lf_Mo_69 (by decide) rfl rfl ?_
                      refine gx_iconst (v := 0) hC dr_Mo_dual_163 (by decide) ?_
                      refine gx_lald (f := (gq_l q81 5)) hC dr_Mo_dual_164 (by decide) rfl hz77 ?_
                      refine gx_lload hC dr_Mo_dual_165 rfl ?_
                      refine gx_lsub hC dr_Mo_dual_167 ?_
                      obtain rfl := Option.some.inj h
                      exact hR (by decide) (by decide) dr_Mo_dual_168 ⟨rfl, rfl⟩
                  · rw [if_pos (show (gq_f q75 5) = 1 from hc79)] at h
                    refine gx_ldc2 (v := (-1)) hC dr_Mo_dual_132 lc_Mo_162 ?_
                    obtain rfl := Option.some.inj h
                    exact hR (by decide) (by decide) dr_Mo_dual_135 ⟨rfl, rfl⟩
              · rw [if_pos (show q72 = 0 from hc74)] at h
                refine gx_ldc2 (v := (-1)) hC dr_Mo_dual_93 lc_Mo_162 ?_
                obtain rfl := Option.some.inj h
                exact hR (by decide) (by decide) dr_Mo_dual_96 ⟨rfl, rfl⟩
            · exact absurd (show ¬ ((0 : Int32) = 0) from hc71) (by decide)
          · rw [if_neg (show ¬ (((gq_i M 5) p1.toInt) = (-1)) from hc70)] at h
            refine gx_iconst (v := 1) hC dr_Mo_dual_45 (by decide) ?_
            refine gx_goto (tgt := 50) hC dr_Mo_dual_46 (by decide) ?_
            refine gx_istore_n hC dr_Mo_dual_50 (by decide) ?_
            refine gx_iload_n hC dr_Mo_dual_51 rfl ?_
            refine gx_if_eq (tgt := 73) hC dr_Mo_dual_52 (by decide) (fun hc90 => ?_) (fun hc90 => ?_)
            · exact absurd (show (1 : Int32) = 0 from hc90) (by decide)
            · refine gx_aload_n hC dr_Mo_dual_55 rfl ?_
              refine gx_get hC dr_Mo_dual_56 lf_Mo_36 (by decide) rfl rfl ?_
              refine gx_iload_n hC dr_Mo_dual_59 rfl ?_
              refine gx_zald (f := (gq_i M 6)) hC dr_Mo_dual_60 (by decide) rfl hz69 ?_
              refine gx_if_ne (tgt := 73) hC dr_Mo_dual_61 (by decide) (fun hc91 => ?_) (fun hc91 => ?_)
              · rw [if_neg (show ¬ (((gq_i M 6) p1.toInt) = 0) from hc91)] at h
                refine gx_iload_n hC dr_Mo_dual_73 rfl ?_
                refine gx_istore hC dr_Mo_dual_74 (by decide) ?_
                refine gx_aload_n hC dr_Mo_dual_76 rfl ?_
                refine gx_iload hC dr_Mo_dual_77 rfl ?_
                refine gx_aload_n hC dr_Mo_dual_79 rfl ?_
                refine gx_get hC dr_Mo_dual_80 lf_Mo_7 (by decide) rfl rfl ?_
                refine gx_iload hC dr_Mo_dual_83 rfl ?_
                refine gx_iald (f := (gq_i M 0)) hC dr_Mo_dual_85 (by decide) rfl hz69 ?_
                refine gx_iload_n hC dr_Mo_dual_86 rfl ?_
                obtain ⟨q111, e112, h⟩ := gb_of h
                refine gx_vI hC dr_Mo_dual_87 lk_Mo_124 (mt_Mo_isUnit e112) rfl (by decide) ⟨by decide, by decide⟩ ⟨by decide, by decide⟩ (by decide) ⟨_, _, rfl⟩ rfl rfl (Nat.le_of_ble_eq_true rfl) (fun z c2 hp => ?_)
                obtain ⟨hp1, rfl⟩ := hp; obtain rfl := hp1.symm
                refine gx_if_ne (tgt := 97) hC dr_Mo_dual_90 (by decide) (fun hc113 => ?_) (fun hc113 => ?_)
                · rw [if_neg (show ¬ (q111 = 0) from hc113)] at h
                  refine gx_aload_n hC dr_Mo_dual_97 rfl ?_
                  refine gx_aload_n hC dr_Mo_dual_98 rfl ?_
                  refine gx_get hC dr_Mo_dual_99 lf_Mo_7 (by decide) rfl rfl ?_
                  refine gx_iload hC dr_Mo_dual_102 rfl ?_
                  refine gx_iald (f := (gq_i M 0)) hC dr_Mo_dual_104 (by decide) rfl hz69 ?_
                  refine gx_iload_n hC dr_Mo_dual_105 rfl ?_
                  refine gx_iconst (v := (-1)) hC dr_Mo_dual_106 (by decide) ?_
                  refine gx_iconst (v := 0) hC dr_Mo_dual_107 (by decide) ?_
                  obtain ⟨q114, e115, h⟩ := gb_of h
                  refine gx_vV hC dr_Mo_dual_108 lk_Mo_145 (mt_Mo_reckon e115) rfl (by decide) ⟨by decide, by decide⟩ ⟨by decide, by decide⟩ (by decide) ⟨_, _, rfl⟩ rfl rfl (Nat.le_of_ble_eq_true rfl) (fun c2 hp => ?_)
                  subst hp
                  refine gx_aload_n hC dr_Mo_dual_111 rfl ?_
                  refine gx_get hC dr_Mo_dual_112 lf_Mo_69 (by decide) rfl rfl ?_
                  refine gx_iconst (v := 0) hC dr_Mo_dual_115 (by decide) ?_
                  have hz116 : 0 ≤ (0 : Int32).toInt ∧ (0 : Int32).toInt < ((4096 : Nat) : Int) := by decide
                  refine gx_lald (f := (gq_l q114 5)) hC dr_Mo_dual_116 (by decide) rfl hz116 ?_
                  refine gx_lstore hC dr_Mo_dual_117 (by decide) ?_
                  refine gx_iload_n hC dr_Mo_dual_119 rfl ?_
                  refine gx_iconst (v := 1) hC dr_Mo_dual_120 (by decide) ?_
                  refine gx_icmp_ne (tgt := 136) hC dr_Mo_dual_121 (by decide) (fun hc117 => ?_) (fun hc117 => ?_)
                  · rw [if_neg (show ¬ (p0 = 1) from hc117)] at h
                    refine gx_aload_n hC dr_Mo_dual_136 rfl ?_
                    refine gx_aload_n hC dr_Mo_dual_137 rfl ?_
                    refine gx_get hC dr_Mo_dual_138 lf_Mo_7 (by decide) rfl rfl ?_
                    refine gx_iload hC dr_Mo_dual_141 rfl ?_
                    refine gx_iald (f := (gq_i q114 0)) hC dr_Mo_dual_143 (by decide) rfl hz69 ?_
                    refine gx_iload_n hC dr_Mo_dual_144 rfl ?_
                    refine gx_iload hC dr_Mo_dual_145 rfl ?_
                    refine gx_iload_n hC dr_Mo_dual_147 rfl ?_
                    refine gx_if_ne (tgt := 155) hC dr_Mo_dual_148 (by decide) (fun hc124 => ?_) (fun hc124 => ?_)
                    · rw [if_neg (show ¬ (p0 = 0) from hc124)] at h
                      refine gx_iconst (v := (-1)) hC dr_Mo_dual_155 (by decide) ?_
                      obtain ⟨q127, e128, h⟩ := gb_of h
                      refine gx_vV hC dr_Mo_dual_156 lk_Mo_145 (mt_Mo_reckon e128) rfl (by decide) ⟨by decide, by decide⟩ ⟨by decide, by decide⟩ (by decide) ⟨_, _, rfl⟩ rfl rfl (Nat.le_of_ble_eq_true rfl) (fun c2 hp => ?_)
                      subst hp
                      refine gx_aload_n hC dr_Mo_dual_159 rfl ?_
                      refine gx_get hC dr_Mo_dual_160 lf_Mo_69 (by decide) rfl rfl ?_
                      refine gx_iconst (v := 0) hC dr_Mo_dual_163 (by decide) ?_
                      refine gx_lald (f := (gq_l q127 5)) hC dr_Mo_dual_164 (by decide) rfl hz116 ?_
                      refine gx_lload hC dr_Mo_dual_165 rfl ?_
                      refine gx_lsub hC dr_Mo_dual_167 ?_
                      obtain rfl := Option.some.inj h
                      exact hR (by decide) (by decide) dr_Mo_dual_168 ⟨rfl, rfl⟩
                    · rw [if_pos (show p0 = 0 from hc124)] at h
                      refine gx_iconst (v := 1) hC dr_Mo_dual_151 (by decide) ?_
                      refine gx_goto (tgt := 156) hC dr_Mo_dual_152 (by decide) ?_
                      obtain ⟨q125, e126, h⟩ := gb_of h
                      refine gx_vV hC dr_Mo_dual_156 lk_Mo_145 (mt_Mo_reckon e126) rfl (by decide) ⟨by decide, by decide⟩ ⟨by decide, by decide⟩ (by decide) ⟨_, _, rfl⟩ rfl rfl (Nat.le_of_ble_eq_true rfl) (fun c2 hp => ?_)
                      subst hp
                      refine gx_aload_n hC dr_Mo_dual_159 rfl ?_
                      refine gx_get hC dr_Mo_dual_160 lf_Mo_69 (by decide) rfl rfl ?_
                      refine gx_iconst (v := 0) hC dr_Mo_dual_163 (by decide) ?_
                      refine gx_lald (f := (gq_l q125 5)) hC dr_Mo_dual_164 (by decide) rfl hz116 ?_
                      refine gx_lload hC dr_Mo_dual_165 rfl ?_
                      refine gx_lsub hC dr_Mo_dual_167 ?_
                      obtain rfl := Option.some.inj h
                      exact hR (by decide) (by decide) dr_Mo_dual_168 ⟨rfl, rfl⟩
                  · rw [if_pos (show p0 = 1 from hc117)] at h
                    refine gx_aload_n hC dr_Mo_dual_124 rfl ?_
                    refine gx_get hC dr_Mo_dual_125 lf_Mo_121 (by decide) rfl rfl ?_
                    refine gx_iconst (v := 1) hC dr_Mo_dual_128 (by decide) ?_
                    refine gx_icmp_ne (tgt := 136) hC dr_Mo_dual_129 (by decide) (fun hc118 => ?_) (fun hc118 => ?_)
                    · rw [if_neg (show ¬ ((gq_f q114 5) = 1) from hc118)] at h
                      refine gx_aload_n hC dr_Mo_dual_136 rfl ?_
                      refine gx_aload_n hC dr_Mo_dual_137 rfl ?_
                      refine gx_get hC dr_Mo_dual_138 lf_Mo_7 (by decide) rfl rfl ?_
                      refine gx_iload hC dr_Mo_dual_141 rfl ?_
                      refine gx_iald (f := (gq_i q114 0)) hC dr_Mo_dual_143 (by decide) rfl hz69 ?_
                      refine gx_iload_n hC dr_Mo_dual_144 rfl ?_
                      refine gx_iload hC dr_Mo_dual_145 rfl ?_
                      refine gx_iload_n hC dr_Mo_dual_147 rfl ?_
                      refine gx_if_ne (tgt := 155) hC dr_Mo_dual_148 (by decide) (fun hc119 => ?_) (fun hc119 => ?_)
                      · rw [if_neg (show ¬ (p0 = 0) from hc119)] at h
                        refine gx_iconst (v := (-1)) hC dr_Mo_dual_155 (by decide) ?_
                        obtain ⟨q122, e123, h⟩ := gb_of h
                        refine gx_vV hC dr_Mo_dual_156 lk_Mo_145 (mt_Mo_reckon e123) rfl (by decide) ⟨by decide, by decide⟩ ⟨by decide, by decide⟩ (by decide) ⟨_, _, rfl⟩ rfl rfl (Nat.le_of_ble_eq_true rfl) (fun c2 hp => ?_)
                        subst hp
                        refine gx_aload_n hC dr_Mo_dual_159 rfl ?_
                        refine gx_get hC dr_Mo_dual_160 lf_Mo_69 (by decide) rfl rfl ?_
                        refine gx_iconst (v := 0) hC dr_Mo_dual_163 (by decide) ?_
                        refine gx_lald (f := (gq_l q122 5)) hC dr_Mo_dual_164 (by decide) rfl hz116 ?_
                        refine gx_lload hC dr_Mo_dual_165 rfl ?_
                        refine gx_lsub hC dr_Mo_dual_167 ?_
                        obtain rfl := Option.some.inj h
                        exact hR (by decide) (by decide) dr_Mo_dual_168 ⟨rfl, rfl⟩
                      · rw [if_pos (show p0 = 0 from hc119)] at h
                        refine gx_iconst (v := 1) hC dr_Mo_dual_151 (by decide) ?_
                        refine gx_goto (tgt := 156) hC dr_Mo_dual_152 (by decide) ?_
                        obtain ⟨q120, e121, h⟩ := gb_of h
                        refine gx_vV hC dr_Mo_dual_156 lk_Mo_145 (mt_Mo_reckon e121) rfl (by decide) ⟨by decide, by decide⟩ ⟨by decide, by decide⟩ (by decide) ⟨_, _, rfl⟩ rfl rfl (Nat.le_of_ble_eq_true rfl) (fun c2 hp => ?_)
                        subst hp
                        refine gx_aload_n hC dr_Mo_dual_159 rfl ?_
                        refine gx_get hC dr_Mo_dual_160 lf_Mo_69 (by decide) rfl rfl ?_
                        refine gx_iconst (v := 0) hC dr_Mo_dual_163 (by decide) ?_
                        refine gx_lald (f := (gq_l q120 5)) hC dr_Mo_dual_164 (by decide) rfl hz116 ?_
                        refine gx_lload hC dr_Mo_dual_165 rfl ?_
                        refine gx_lsub hC dr_Mo_dual_167 ?_
                        obtain rfl := Option.some.inj h
                        exact hR (by decide) (by decide) dr_Mo_dual_168 ⟨rfl, rfl⟩
                    · rw [if_pos (show (gq_f q114 5) = 1 from hc118)] at h
                      refine gx_ldc2 (v := (-1)) hC dr_Mo_dual_132 lc_Mo_162 ?_
                      obtain rfl := Option.some.inj h
                      exact hR (by decide) (by decide) dr_Mo_dual_135 ⟨rfl, rfl⟩
                · rw [if_pos (show q111 = 0 from hc113)] at h
                  refine gx_ldc2 (v := (-1)) hC dr_Mo_dual_93 lc_Mo_162 ?_
                  obtain rfl := Option.some.inj h
                  exact hR (by decide) (by decide) dr_Mo_dual_96 ⟨rfl, rfl⟩
              · rw [if_pos (show ((gq_i M 6) p1.toInt) = 0 from hc91)] at h
                refine gx_aload_n hC dr_Mo_dual_64 rfl ?_
                refine gx_get hC dr_Mo_dual_65 lf_Mo_33 (by decide) rfl rfl ?_
                refine gx_iload_n hC dr_Mo_dual_68 rfl ?_
                refine gx_iald (f := (gq_i M 5)) hC dr_Mo_dual_69 (by decide) rfl hz69 ?_
                refine gx_goto (tgt := 74) hC dr_Mo_dual_70 (by decide) ?_
                refine gx_istore hC dr_Mo_dual_74 (by decide) ?_
                refine gx_aload_n hC dr_Mo_dual_76 rfl ?_
                refine gx_iload hC dr_Mo_dual_77 rfl ?_
                refine gx_aload_n hC dr_Mo_dual_79 rfl ?_
                refine gx_get hC dr_Mo_dual_80 lf_Mo_7 (by decide) rfl rfl ?_
                refine gx_iload hC dr_Mo_dual_83 rfl ?_
                obtain ⟨hz92, h⟩ := gk_of h
                refine gx_iald (f := (gq_i M 0)) hC dr_Mo_dual_85 (by decide) rfl hz92 ?_
                refine gx_iload_n hC dr_Mo_dual_86 rfl ?_
                obtain ⟨q93, e94, h⟩ := gb_of h
                refine gx_vI hC dr_Mo_dual_87 lk_Mo_124 (mt_Mo_isUnit e94) rfl (by decide) ⟨by decide, by decide⟩ ⟨by decide, by decide⟩ (by decide) ⟨_, _, rfl⟩ rfl rfl (Nat.le_of_ble_eq_true rfl) (fun z c2 hp => ?_)
                obtain ⟨hp1, rfl⟩ := hp; obtain rfl := hp1.symm
                refine gx_if_ne (tgt := 97) hC dr_Mo_dual_90 (by decide) (fun hc95 => ?_) (fun hc95 => ?_)
                · rw [if_neg (show ¬ (q93 = 0) from hc95)] at h
                  refine gx_aload_n hC dr_Mo_dual_97 rfl ?_
                  refine gx_aload_n hC dr_Mo_dual_98 rfl ?_
                  refine gx_get hC dr_Mo_dual_99 lf_Mo_7 (by decide) rfl rfl ?_
                  refine gx_iload hC dr_Mo_dual_102 rfl ?_
                  refine gx_iald (f := (gq_i M 0)) hC dr_Mo_dual_104 (by decide) rfl hz92 ?_
                  refine gx_iload_n hC dr_Mo_dual_105 rfl ?_
                  refine gx_iconst (v := (-1)) hC dr_Mo_dual_106 (by decide) ?_
                  refine gx_iconst (v := 0) hC dr_Mo_dual_107 (by decide) ?_
                  obtain ⟨q96, e97, h⟩ := gb_of h
                  refine gx_vV hC dr_Mo_dual_108 lk_Mo_145 (mt_Mo_reckon e97) rfl (by decide) ⟨by decide, by decide⟩ ⟨by decide, by decide⟩ (by decide) ⟨_, _, rfl⟩ rfl rfl (Nat.le_of_ble_eq_true rfl) (fun c2 hp => ?_)
                  subst hp
                  refine gx_aload_n hC dr_Mo_dual_111 rfl ?_
                  refine gx_get hC dr_Mo_dual_112 lf_Mo_69 (by decide) rfl rfl ?_
                  refine gx_iconst (v := 0) hC dr_Mo_dual_115 (by decide) ?_
                  have hz98 : 0 ≤ (0 : Int32).toInt ∧ (0 : Int32).toInt < ((4096 : Nat) : Int) := by decide
                  refine gx_lald (f := (gq_l q96 5)) hC dr_Mo_dual_116 (by decide) rfl hz98 ?_
                  refine gx_lstore hC dr_Mo_dual_117 (by decide) ?_
                  refine gx_iload_n hC dr_Mo_dual_119 rfl ?_
                  refine gx_iconst (v := 1) hC dr_Mo_dual_120 (by decide) ?_
                  refine gx_icmp_ne (tgt := 136) hC dr_Mo_dual_121 (by decide) (fun hc99 => ?_) (fun hc99 => ?_)
                  · rw [if_neg (show ¬ (p0 = 1) from hc99)] at h
                    refine gx_aload_n hC dr_Mo_dual_136 rfl ?_
                    refine gx_aload_n hC dr_Mo_dual_137 rfl ?_
                    refine gx_get hC dr_Mo_dual_138 lf_Mo_7 (by decide) rfl rfl ?_
                    refine gx_iload hC dr_Mo_dual_141 rfl ?_
                    refine gx_iald (f := (gq_i q96 0)) hC dr_Mo_dual_143 (by decide) rfl hz92 ?_
                    refine gx_iload_n hC dr_Mo_dual_144 rfl ?_
                    refine gx_iload hC dr_Mo_dual_145 rfl ?_
                    refine gx_iload_n hC dr_Mo_dual_147 rfl ?_
                    refine gx_if_ne (tgt := 155) hC dr_Mo_dual_148 (by decide) (fun hc106 => ?_) (fun hc106 => ?_)
                    · rw [if_neg (show ¬ (p0 = 0) from hc106)] at h
                      refine gx_iconst (v := (-1)) hC dr_Mo_dual_155 (by decide) ?_
                      obtain ⟨q109, e110, h⟩ := gb_of h
                      refine gx_vV hC dr_Mo_dual_156 lk_Mo_145 (mt_Mo_reckon e110) rfl (by decide) ⟨by decide, by decide⟩ ⟨by decide, by decide⟩ (by decide) ⟨_, _, rfl⟩ rfl rfl (Nat.le_of_ble_eq_true rfl) (fun c2 hp => ?_)
                      subst hp
                      refine gx_aload_n hC dr_Mo_dual_159 rfl ?_
                      refine gx_get hC dr_Mo_dual_160 lf_Mo_69 (by decide) rfl rfl ?_
                      refine gx_iconst (v := 0) hC dr_Mo_dual_163 (by decide) ?_
                      refine gx_lald (f := (gq_l q109 5)) hC dr_Mo_dual_164 (by decide) rfl hz98 ?_
                      refine gx_lload hC dr_Mo_dual_165 rfl ?_
                      refine gx_lsub hC dr_Mo_dual_167 ?_
                      obtain rfl := Option.some.inj h
                      exact hR (by decide) (by decide) dr_Mo_dual_168 ⟨rfl, rfl⟩
                    · rw [if_pos (show p0 = 0 from hc106)] at h
                      refine gx_iconst (v := 1) hC dr_Mo_dual_151 (by decide) ?_
                      refine gx_goto (tgt := 156) hC dr_Mo_dual_152 (by decide) ?_
                      obtain ⟨q107, e108, h⟩ := gb_of h
                      refine gx_vV hC dr_Mo_dual_156 lk_Mo_145 (mt_Mo_reckon e108) rfl (by decide) ⟨by decide, by decide⟩ ⟨by decide, by decide⟩ (by decide) ⟨_, _, rfl⟩ rfl rfl (Nat.le_of_ble_eq_true rfl) (fun c2 hp => ?_)
                      subst hp
                      refine gx_aload_n hC dr_Mo_dual_159 rfl ?_
                      refine gx_get hC dr_Mo_dual_160 lf_Mo_69 (by decide) rfl rfl ?_
                      refine gx_iconst (v := 0) hC dr_Mo_dual_163 (by decide) ?_
                      refine gx_lald (f := (gq_l q107 5)) hC dr_Mo_dual_164 (by decide) rfl hz98 ?_
                      refine gx_lload hC dr_Mo_dual_165 rfl ?_
                      refine gx_lsub hC dr_Mo_dual_167 ?_
                      obtain rfl := Option.some.inj h
                      exact hR (by decide) (by decide) dr_Mo_dual_168 ⟨rfl, rfl⟩
                  · rw [if_pos (show p0 = 1 from hc99)] at h
                    refine gx_aload_n hC dr_Mo_dual_124 rfl ?_
                    refine gx_get hC dr_Mo_dual_125 lf_Mo_121 (by decide) rfl rfl ?_
                    refine gx_iconst (v := 1) hC dr_Mo_dual_128 (by decide) ?_
                    refine gx_icmp_ne (tgt := 136) hC dr_Mo_dual_129 (by decide) (fun hc100 => ?_) (fun hc100 => ?_)
                    · rw [if_neg (show ¬ ((gq_f q96 5) = 1) from hc100)] at h
                      refine gx_aload_n hC dr_Mo_dual_136 rfl ?_
                      refine gx_aload_n hC dr_Mo_dual_137 rfl ?_
                      refine gx_get hC dr_Mo_dual_138 lf_Mo_7 (by decide) rfl rfl ?_
                      refine gx_iload hC dr_Mo_dual_141 rfl ?_
                      refine gx_iald (f := (gq_i q96 0)) hC dr_Mo_dual_143 (by decide) rfl hz92 ?_
                      refine gx_iload_n hC dr_Mo_dual_144 rfl ?_
                      refine gx_iload hC dr_Mo_dual_145 rfl ?_
                      refine gx_iload_n hC dr_Mo_dual_147 rfl ?_
                      refine gx_if_ne (tgt := 155) hC dr_Mo_dual_148 (by decide) (fun hc101 => ?_) (fun hc101 => ?_)
                      · rw [if_neg (show ¬ (p0 = 0) from hc101)] at h
                        refine gx_iconst (v := (-1)) hC dr_Mo_dual_155 (by decide) ?_
                        obtain ⟨q104, e105, h⟩ := gb_of h
                        refine gx_vV hC dr_Mo_dual_156 lk_Mo_145 (mt_Mo_reckon e105) rfl (by decide) ⟨by decide, by decide⟩ ⟨by decide, by decide⟩ (by decide) ⟨_, _, rfl⟩ rfl rfl (Nat.le_of_ble_eq_true rfl) (fun c2 hp => ?_)
                        subst hp
                        refine gx_aload_n hC dr_Mo_dual_159 rfl ?_
                        refine gx_get hC dr_Mo_dual_160 lf_Mo_69 (by decide) rfl rfl ?_
                        refine gx_iconst (v := 0) hC dr_Mo_dual_163 (by decide) ?_
                        refine gx_lald (f := (gq_l q104 5)) hC dr_Mo_dual_164 (by decide) rfl hz98 ?_
                        refine gx_lload hC dr_Mo_dual_165 rfl ?_
                        refine gx_lsub hC dr_Mo_dual_167 ?_
                        obtain rfl := Option.some.inj h
                        exact hR (by decide) (by decide) dr_Mo_dual_168 ⟨rfl, rfl⟩
                      · rw [if_pos (show p0 = 0 from hc101)] at h
                        refine gx_iconst (v := 1) hC dr_Mo_dual_151 (by decide) ?_
                        refine gx_goto (tgt := 156) hC dr_Mo_dual_152 (by decide) ?_
                        obtain ⟨q102, e103, h⟩ := gb_of h
                        refine gx_vV hC dr_Mo_dual_156 lk_Mo_145 (mt_Mo_reckon e103) rfl (by decide) ⟨by decide, by decide⟩ ⟨by decide, by decide⟩ (by decide) ⟨_, _, rfl⟩ rfl rfl (Nat.le_of_ble_eq_true rfl) (fun c2 hp => ?_)
                        subst hp
                        refine gx_aload_n hC dr_Mo_dual_159 rfl ?_
                        refine gx_get hC dr_Mo_dual_160 lf_Mo_69 (by decide) rfl rfl ?_
                        refine gx_iconst (v := 0) hC dr_Mo_dual_163 (by decide) ?_
                        refine gx_lald (f := (gq_l q102 5)) hC dr_Mo_dual_164 (by decide) rfl hz98 ?_
                        refine gx_lload hC dr_Mo_dual_165 rfl ?_
                        refine gx_lsub hC dr_Mo_dual_167 ?_
                        obtain rfl := Option.some.inj h
                        exact hR (by decide) (by decide) dr_Mo_dual_168 ⟨rfl, rfl⟩
                    · rw [if_pos (show (gq_f q96 5) = 1 from hc100)] at h
                      refine gx_ldc2 (v := (-1)) hC dr_Mo_dual_132 lc_Mo_162 ?_
                      obtain rfl := Option.some.inj h
                      exact hR (by decide) (by decide) dr_Mo_dual_135 ⟨rfl, rfl⟩
                · rw [if_pos (show q93 = 0 from hc95)] at h
                  refine gx_ldc2 (v := (-1)) hC dr_Mo_dual_93 lc_Mo_162 ?_
                  obtain rfl := Option.some.inj h
                  exact hR (by decide) (by decide) dr_Mo_dual_96 ⟨rfl, rfl⟩
        · exact absurd (show ¬ ((0 : Int32) = 0) from hc68) (by decide)
