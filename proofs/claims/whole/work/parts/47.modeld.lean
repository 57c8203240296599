def fn_Mo_dual (p0 : Int32) (p1 : Int32) (M : gq_M) : Option (Int64 × gq_M) := (fn_Mo_isPin p1 M).bind fun q1 => if q1 = 0 then if 1 = 0 then if 0 ≤ p1.toInt ∧ p1.toInt < ((80 : Nat) : Int) then if ((gq_i M 5) p1.toInt) = (-1) then (fn_Mo_isUnit p1 ((gq_i M 0) p1.toInt) 0 (gs_f M 0 1)).bind fun q8 => if q8 = 0 then some ((-1), (gs_f M 0 1)) else (fn_Mo_reckon ((gq_i M 0) p1.toInt) 0 (-1) 0 (gs_f M 0 1)).bind fun q11 => if p0 = 1 then if (gq_f q11 5) = 1 then some ((-1), q11) else if p0 = 0 then (fn_Mo_reckon ((gq_i q11 0) p1.toInt) 0 p1 1 q11).bind fun q17 => some ((((gq_l q17 5) 0) - ((gq_l q11 5) 0)), q17) else (fn_Mo_reckon ((gq_i q11 0) p1.toInt) 0 p1 (-1) q11).bind fun q19 => some ((((gq_l q19 5) 0) - ((gq_l q11 5) 0)), q19) else if p0 = 0 then (fn_Mo_reckon ((gq_i q11 0) p1.toInt) 0 p1 1 q11).bind fun q22 => some ((((gq_l q22 5) 0) - ((gq_l q11 5) 0)), q22) else (fn_Mo_reckon ((gq_i q11 0) p1.toInt) 0 p1 (-1) q11).bind fun q24 => some ((((gq_l q24 5) 0) - ((gq_l q11 5) 0)), q24) else if ((gq_i M 6) p1.toInt) = 0 then if 0 ≤ ((gq_i M 5) p1.toInt).toInt ∧ ((gq_i M 5) p1.toInt).toInt < ((80 : Nat) : Int) then (fn_Mo_isUnit ((gq_i M 5) p1.toInt) ((gq_i M 0) ((gq_i M 5) p1.toInt).toInt) 1 (gs_f M 0 1)).bind fun q29 => if q29 = 0 then some ((-1), (gs_f M 0 1)) else (fn_Mo_reckon ((gq_i M 0) ((gq_i M 5) p1.toInt).toInt) 1 (-1) 0 (gs_f M 0 1)).bind fun q32 => if p0 = 1 then if (gq_f q32 5) = 1 then some ((-1), q32) else if p0 = 0 then (fn_Mo_reckon ((gq_i q32 0) ((gq_i M 5) p1.toInt).toInt) 1 ((gq_i M 5) p1.toInt) 1 q32).bind fun q38 => some ((((gq_l q38 5) 0) - ((gq_l q32 5) 0)), q38) else (fn_Mo_reckon ((gq_i q32 0) ((gq_i M 5) p1.toInt).toInt) 1 ((gq_i M 5) p1.toInt) (-1) q32).bind fun q40 => some ((((gq_l q40 5) 0) - ((gq_l q32 5) 0)), q40) else if p0 = 0 then (fn_Mo_reckon ((gq_i q32 0) ((gq_i M 5) p1.toInt).toInt) 1 ((gq_i M 5) p1.toInt) 1 q32).bind fun q43 => some ((((gq_l q43 5) 0) - ((gq_l q32 5) 0)), q43) else (fn_Mo_reckon ((gq_i q32 0) ((gq_i M 5) p1.toInt).toInt) 1 ((gq_i M 5) p1.toInt) (-1) q32).bind fun q45 => some ((((gq_l q45 5) 0) - ((gq_l q32 5) 0)), q45) else none else (fn_Mo_isUnit p1 ((gq_i M 0) p1.toInt) 1 (gs_f M 0 1)).bind fun q47 => if q47 = 0 then some ((-1), (gs_f M 0 1)) else (fn_Mo_reckon ((gq_i M 0) p1.toInt) 1 (-1) 0 (gs_f M 0 1)).bind fun q50 => if p0 = 1 then if (gq_f q50 5) = 1 then some ((-1), q50) else if p0 = 0 then (fn_Mo_reckon ((gq_i q50 0) p1.toInt) 1 p1 1 q50).bind fun q56 => some ((((gq_l q56 5) 0) - ((gq_l q50 5) 0)), q56) else (fn_Mo_reckon ((gq_i q50 0) p1.toInt) 1 p1 (-1) q50).bind fun q58 => some ((((gq_l q58 5) 0) - ((gq_l q50 5) 0)), q58) else if p0 = 0 then (fn_Mo_reckon ((gq_i q50 0) p1.toInt) 1 p1 1 q50).bind fun q61 => some ((((gq_l q61 5) 0) - ((gq_l q50 5) 0)), q61) else (fn_Mo_reckon ((gq_i q50 0) p1.toInt) 1 p1 (-1) q50).bind fun q63 => some ((((gq_l q63 5) 0) - ((gq_l q50 5) 0)), q63) else none else some ((Int64.ofNat (0 : Fin 2).val), (gs_f M 0 1)) else if p0 = 0 then if 0 = 0 then if 0 ≤ p1.toInt ∧ p1.toInt < ((80 : Nat) : Int) then if ((gq_i M 5) p1.toInt) = (-1) then (fn_Mo_isUnit p1 ((gq_i M 0) p1.toInt) 0 (gs_f M 0 0)).bind fun q70 => if q70 = 0 then some ((-1), (gs_f M 0 0)) else (fn_Mo_reckon ((gq_i M 0) p1.toInt) 0 (-1) 0 (gs_f M 0 0)).bind fun q73 => if p0 = 1 then if (gq_f q73 5) = 1 then some ((-1), q73) else if p0 = 0 then (fn_Mo_reckon ((gq_i q73 0) p1.toInt) 0 p1 1 q73).bind fun q79 => some ((((gq_l q79 5) 0) - ((gq_l q73 5) 0)), q79) else (fn_Mo_reckon ((gq_i q73 0) p1.toInt) 0 p1 (-1) q73).bind fun q81 => some ((((gq_l q81 5) 0) - ((gq_l q73 5) 0)), q81) else if p0 = 0 then (fn_Mo_reckon ((gq_i q73 0) p1.toInt) 0 p1 1 q73).bind fun q84 => some ((((gq_l q84 5) 0) - ((gq_l q73 5) 0)), q84) else (fn_Mo_reckon ((gq_i q73 0) p1.toInt) 0 p1 (-1) q73).bind fun q86 => some ((((gq_l q86 5) 0) - ((gq_l q73 5) 0)), q86) else if ((gq_i M 6) p1.toInt) = 0 then if 0 ≤ ((gq_i M 5) p1.toInt).toInt ∧ ((gq_i M 5) p1.toInt).toInt < ((80 : Nat) : Int) then (fn_Mo_isUnit ((gq_i M 5) p1.toInt) ((gq_i M 0) ((gq_i M 5) p1.toInt).toInt) 1 (gs_f M 0 0)).bind fun q91 => if q91 = 0 then some ((-1), (gs_f M 0 0)) else (fn_Mo_reckon ((gq_i M 0) ((gq_i M 5) p1.toInt).toInt) 1 (-1) 0 (gs_f M 0 0)).bind fun q94 => if p0 = 1 then if (gq_f q94 5) = 1 then some ((-1), q94) else if p0 = 0 then (fn_Mo_reckon ((gq_i q94 0) ((gq_i M 5) p1.toInt).toInt) 1 ((gq_i M 5) p1.toInt) 1 q94).bind fun q100 => some ((((gq_l q100 5) 0) - ((gq_l q94 5) 0)), q100) else (fn_Mo_reckon ((gq_i q94 0) ((gq_i M 5) p1.toInt).toInt) 1 ((gq_i M 5) p1.toInt) (-1) q94).bind fun q102 => some ((((gq_l q102 5) 0) - ((gq_l q94 5) 0)), q102) else if p0 = 0 then (fn_Mo_reckon ((gq_i q94 0) ((gq_i M 5) p1.toInt).toInt) 1 ((gq_i M 5) p1.toInt) 1 q94).bind fun q105 => some ((((gq_l q105 5) 0) - ((gq_l q94 5) 0)), q105) else (fn_Mo_reckon ((gq_i q94 0) ((gq_i M 5) p1.toInt).toInt) 1 ((gq_i M 5) p1.toInt) (-1) q94).bind fun q107 => some ((((gq_l q107 5) 0) - ((gq_l q94 5) 0)), q107) else none else (fn_Mo_isUnit p1 ((gq_i M 0) p1.toInt) 1 (gs_f M 0 0)).bind fun q109 => if q109 = 0 then some ((-1), (gs_f M 0 0)) else (fn_Mo_reckon ((gq_i M 0) p1.toInt) 1 (-1) 0 (gs_f M 0 0)).bind fun q112 => if p0 = 1 then if (gq_f q112 5) = 1 then some ((-1), q112) else if p0 = 0 then (fn_Mo_reckon ((gq_i q112 0) p1.toInt) 1 p1 1 q112).bind fun q118 => some ((((gq_l q118 5) 0) - ((gq_l q112 5) 0)), q118) else (fn_Mo_reckon ((gq_i q112 0) p1.toInt) 1 p1 (-1) q112).bind fun q120 => some ((((gq_l q120 5) 0) - ((gq_l q112 5) 0)), q120) else if p0 = 0 then (fn_Mo_reckon ((gq_i q112 0) p1.toInt) 1 p1 1 q112).bind fun q123 => some ((((gq_l q123 5) 0) - ((gq_l q112 5) 0)), q123) else (fn_Mo_reckon ((gq_i q112 0) p1.toInt) 1 p1 (-1) q112).bind fun q125 => some ((((gq_l q125 5) 0) - ((gq_l q112 5) 0)), q125) else none else some ((Int64.ofNat (0 : Fin 2).val), (gs_f M 0 0)) else if p0 = 1 then if 0 = 0 then if 0 ≤ p1.toInt ∧ p1.toInt < ((80 : Nat) : Int) then if ((gq_i M 5) p1.toInt) = (-1) then (fn_Mo_isUnit p1 ((gq_i M 0) p1.toInt) 0 (gs_f M 0 0)).bind fun q132 => if q132 = 0 then some ((-1), (gs_f M 0 0)) else (fn_Mo_reckon ((gq_i M 0) p1.toInt) 0 (-1) 0 (gs_f M 0 0)).bind fun q135 => if p0 = 1 then if (gq_f q135 5) = 1 then some ((-1), q135) else if p0 = 0 then (fn_Mo_reckon ((gq_i q135 0) p1.toInt) 0 p1 1 q135).bind fun q141 => some ((((gq_l q141 5) 0) - ((gq_l q135 5) 0)), q141) else (fn_Mo_reckon ((gq_i q135 0) p1.toInt) 0 p1 (-1) q135).bind fun q143 => some ((((gq_l q143 5) 0) - ((gq_l q135 5) 0)), q143) else if p0 = 0 then (fn_Mo_reckon ((gq_i q135 0) p1.toInt) 0 p1 1 q135).bind fun q146 => some ((((gq_l q146 5) 0) - ((gq_l q135 5) 0)), q146) else (fn_Mo_reckon ((gq_i q135 0) p1.toInt) 0 p1 (-1) q135).bind fun q148 => some ((((gq_l q148 5) 0) - ((gq_l q135 5) 0)), q148) else if ((gq_i M 6) p1.toInt) = 0 then if 0 ≤ ((gq_i M 5) p1.toInt).toInt ∧ ((gq_i M 5) p1.toInt).toInt < ((80 : Nat) : Int) then (fn_Mo_isUnit ((gq_i M 5) p1.toInt) ((gq_i M 0) ((gq_i M 5) p1.toInt).toInt) 1 (gs_f M 0 0)).bind fun q153 => if q153 = 0 then some ((-1), (gs_f M 0 0)) else (fn_Mo_reckon ((gq_i M 0) ((gq_i M 5) p1.toInt).toInt) 1 (-1) 0 (gs_f M 0 0)).bind fun q156 => if p0 = 1 then if (gq_f q156 5) = 1 then some ((-1), q156) else if p0 = 0 then (fn_Mo_reckon ((gq_i q156 0) ((gq_i M 5) p1.toInt).toInt) 1 ((gq_i M 5) p1.toInt) 1 q156).bind fun q162 => some ((((gq_l q162 5) 0) - ((gq_l q156 5) 0)), q162) else (fn_Mo_reckon ((gq_i q156 0) ((gq_i M 5) p1.toInt).toInt) 1 ((gq_i M 5) p1.toInt) (-1) q156).bind fun q164 => some ((((gq_l q164 5) 0) - ((gq_l q156 5) 0)), q164) else if p0 = 0 then (fn_Mo_reckon ((gq_i q156 0) ((gq_i M 5) p1.toInt).toInt) 1 ((gq_i M 5) p1.toInt) 1 q156).bind fun q167 => some ((((gq_l q167 5) 0) - ((gq_l q156 5) 0)), q167) else (fn_Mo_reckon ((gq_i q156 0) ((gq_i M 5) p1.toInt).toInt) 1 ((gq_i M 5) p1.toInt) (-1) q156).bind fun q169 => some ((((gq_l q169 5) 0) - ((gq_l q156 5) 0)), q169) else none else (fn_Mo_isUnit p1 ((gq_i M 0) p1.toInt) 1 (gs_f M 0 0)).bind fun q171 => if q171 = 0 then some ((-1), (gs_f M 0 0)) else (fn_Mo_reckon ((gq_i M 0) p1.toInt) 1 (-1) 0 (gs_f M 0 0)).bind fun q174 => if p0 = 1 then if (gq_f q174 5) = 1 then some ((-1), q174) else if p0 = 0 then (fn_Mo_reckon ((gq_i q174 0) p1.toInt) 1 p1 1 q174).bind fun q180 => some ((((gq_l q180 5) 0) - ((gq_l q174 5) 0)), q180) else (fn_Mo_reckon ((gq_i q174 0) p1.toInt) 1 p1 (-1) q174).bind fun q182 => some ((((gq_l q182 5) 0) - ((gq_l q174 5) 0)), q182) else if p0 = 0 then (fn_Mo_reckon ((gq_i q174 0) p1.toInt) 1 p1 1 q174).bind fun q185 => some ((((gq_l q185 5) 0) - ((gq_l q174 5) 0)), q185) else (fn_Mo_reckon ((gq_i q174 0) p1.toInt) 1 p1 (-1) q174).bind fun q187 => some ((((gq_l q187 5) 0) - ((gq_l q174 5) 0)), q187) else none else some ((Int64.ofNat (0 : Fin 2).val), (gs_f M 0 0)) else if 1 = 0 then if 0 ≤ p1.toInt ∧ p1.toInt < ((80 : Nat) : Int) then if ((gq_i M 5) p1.toInt) = (-1) then (fn_Mo_isUnit p1 ((gq_i M 0) p1.toInt) 0 (gs_f M 0 1)).bind fun q193 => if q193 = 0 then some ((-1), (gs_f M 0 1)) else (fn_Mo_reckon ((gq_i M 0) p1.toInt) 0 (-1) 0 (gs_f M 0 1)).bind fun q196 => if p0 = 1 then if (gq_f q196 5) = 1 then some ((-1), q196) else if p0 = 0 then (fn_Mo_reckon ((gq_i q196 0) p1.toInt) 0 p1 1 q196).bind fun q202 => some ((((gq_l q202 5) 0) - ((gq_l q196 5) 0)), q202) else (fn_Mo_reckon ((gq_i q196 0) p1.toInt) 0 p1 (-1) q196).bind fun q204 => some ((((gq_l q204 5) 0) - ((gq_l q196 5) 0)), q204) else if p0 = 0 then (fn_Mo_reckon ((gq_i q196 0) p1.toInt) 0 p1 1 q196).bind fun q207 => some ((((gq_l q207 5) 0) - ((gq_l q196 5) 0)), q207) else (fn_Mo_reckon ((gq_i q196 0) p1.toInt) 0 p1 (-1) q196).bind fun q209 => some ((((gq_l q209 5) 0) - ((gq_l q196 5) 0)), q209) else if ((gq_i M 6) p1.toInt) = 0 then if 0 ≤ ((gq_i M 5) p1.toInt).toInt ∧ ((gq_i M 5) p1.toInt).toInt < ((80 : Nat) : Int) then (fn_Mo_isUnit ((gq_i M 5) p1.toInt) ((gq_i M 0) ((gq_i M 5) p1.toInt).toInt) 1 (gs_f M 0 1)).bind fun q214 => if q214 = 0 then some ((-1), (gs_f M 0 1)) else (fn_Mo_reckon ((gq_i M 0) ((gq_i M 5) p1.toInt).toInt) 1 (-1) 0 (gs_f M 0 1)).bind fun q217 => if p0 = 1 then if (gq_f q217 5) = 1 then some ((-1), q217) else if p0 = 0 then (fn_Mo_reckon ((gq_i q217 0) ((gq_i M 5) p1.toInt).toInt) 1 ((gq_i M 5) p1.toInt) 1 q217).bind fun q223 => some ((((gq_l q223 5) 0) - ((gq_l q217 5) 0)), q223) else (fn_Mo_reckon ((gq_i q217 0) ((gq_i M 5) p1.toInt).toInt) 1 ((gq_i M 5) p1.toInt) (-1) q217).bind fun q225 => some ((((gq_l q225 5) 0) - ((gq_l q217 5) 0)), q225) else if p0 = 0 then (fn_Mo_reckon ((gq_i q217 0) ((gq_i M 5) p1.toInt).toInt) 1 ((gq_i M 5) p1.toInt) 1 q217).bind fun q228 => some ((((gq_l q228 5) 0) - ((gq_l q217 5) 0)), q228) else (fn_Mo_reckon ((gq_i q217 0) ((gq_i M 5) p1.toInt).toInt) 1 ((gq_i M 5) p1.toInt) (-1) q217).bind fun q230 => some ((((gq_l q230 5) 0) - ((gq_l q217 5) 0)), q230) else none else (fn_Mo_isUnit p1 ((gq_i M 0) p1.toInt) 1 (gs_f M 0 1)).bind fun q232 => if q232 = 0 then some ((-1), (gs_f M 0 1)) else (fn_Mo_reckon ((gq_i M 0) p1.toInt) 1 (-1) 0 (gs_f M 0 1)).bind fun q235 => if p0 = 1 then if (gq_f q235 5) = 1 then some ((-1), q235) else if p0 = 0 then (fn_Mo_reckon ((gq_i q235 0) p1.toInt) 1 p1 1 q235).bind fun q241 => some ((((gq_l q241 5) 0) - ((gq_l q235 5) 0)), q241) else (fn_Mo_reckon ((gq_i q235 0) p1.toInt) 1 p1 (-1) q235).bind fun q243 => some ((((gq_l q243 5) 0) - ((gq_l q235 5) 0)), q243) else if p0 = 0 then (fn_Mo_reckon ((gq_i q235 0) p1.toInt) 1 p1 1 q235).bind fun q246 => some ((((gq_l q246 5) 0) - ((gq_l q235 5) 0)), q246) else (fn_Mo_reckon ((gq_i q235 0) p1.toInt) 1 p1 (-1) q235).bind fun q248 => some ((((gq_l q248 5) 0) - ((gq_l q235 5) 0)), q248) else none else some ((Int64.ofNat (0 : Fin 2).val), (gs_f M 0 1))
set_option maxHeartbeats 4000000 in
set_option maxRecDepth 100000 in
theorem mt_Mo_dual {l : Launch} {D : va_G} {ad : Nat → Nat} {ck : Nat → ClassId} {G : gq_M × (Int → Int64)} {p0 : Int32} {p1 : Int32} {M : gq_M} {r : (Int64 × gq_M)} (h : fn_Mo_dual p0 p1 M = some r) : gm_J 81 81 l D ad ck yn_Mo_dual bc_Mo_dual 7 ({ frames := 4, cells := 0, slots := 0, locals := 100 } : Room) [gv_R 57, gv_I p0, gv_I p1] (ca_A (G.1, M, G.2)) (fun z c2 => z = r.1 ∧ c2 = ca_A (G.1, r.2, G.2)) := by
  refine gm_J.of (by decide) (Nat.le_of_ble_eq_true rfl) (fun x hC hR => ?_)
  unfold fn_Mo_dual at h
  refine gx_aload_n hC dr_Mo_dual_0 rfl ?_
  refine gx_aload_n hC dr_Mo_dual_1 rfl ?_
  refine gx_iload_n hC dr_Mo_dual_2 rfl ?_
  obtain ⟨q1, e2, h⟩ := gb_of h
  refine gx_vI hC dr_Mo_dual_3 lk_Mo_100 (mt_Mo_isPin e2) rfl (by decide) ⟨by decide, by decide⟩ ⟨by decide, by decide⟩ (by decide) ⟨_, _, rfl⟩ rfl rfl (Nat.le_of_ble_eq_true rfl) (fun z c2 hp => ?_)
  obtain ⟨rfl, rfl⟩ := hp
  refine gx_if_eq (tgt := 22) hC dr_Mo_dual_6 (by decide) (fun hc3 => ?_) (fun hc3 => ?_)
  · rw [if_pos hc3] at h
    refine gx_iconst (v := 1) hC dr_Mo_dual_22 (by decide) ?_
    refine gx_put hC (by decide) dr_Mo_dual_23 lf_Mo_78 lp_Mo_thrown (by decide) rfl (Nat.le_of_ble_eq_true rfl) (fun _ => rfl) (fun _ => rfl) ma_F0 ?_
    refine gx_aload_n hC dr_Mo_dual_26 rfl ?_
    refine gx_get hC dr_Mo_dual_27 lf_Mo_78 (by decide) rfl rfl ?_
    refine gx_if_eq (tgt := 35) hC dr_Mo_dual_30 (by decide) (fun hc4 => ?_) (fun hc4 => ?_)
    · rw [if_pos hc4] at h
      refine gx_aload_n hC dr_Mo_dual_35 rfl ?_
      refine gx_get hC dr_Mo_dual_36 lf_Mo_33 (by decide) rfl rfl ?_
      refine gx_iload_n hC dr_Mo_dual_39 rfl ?_
      obtain ⟨hz5, h⟩ := gk_of h
      refine gx_iald (f := (gq_i M 5)) hC dr_Mo_dual_40 (by decide) rfl hz5 ?_
      refine gx_iconst (v := (-1)) hC dr_Mo_dual_41 (by decide) ?_
      refine gx_icmp_eq (tgt := 49) hC dr_Mo_dual_42 (by decide) (fun hc6 => ?_) (fun hc6 => ?_)
      · rw [if_pos hc6] at h
        refine gx_iconst (v := 0) hC dr_Mo_dual_49 (by decide) ?_
        refine gx_istore_n hC dr_Mo_dual_50 (by decide) ?_
        refine gx_iload_n hC dr_Mo_dual_51 rfl ?_
        refine gx_if_eq (tgt := 73) hC dr_Mo_dual_52 (by decide) (fun hc7 => ?_) (fun hc7 => ?_)
        · refine gx_iload_n hC dr_Mo_dual_73 rfl ?_
          refine gx_istore hC dr_Mo_dual_74 (by decide) ?_
          refine gx_aload_n hC dr_Mo_dual_76 rfl ?_
          refine gx_iload hC dr_Mo_dual_77 rfl ?_
          refine gx_aload_n hC dr_Mo_dual_79 rfl ?_
          refine gx_get hC dr_Mo_dual_80 lf_Mo_7 (by decide) rfl rfl ?_
          refine gx_iload hC dr_Mo_dual_83 rfl ?_
          refine gx_iald (f := (gq_i M 0)) hC dr_Mo_dual_85 (by decide) rfl hz5 ?_
          refine gx_iload_n hC dr_Mo_dual_86 rfl ?_
          obtain ⟨q8, e9, h⟩ := gb_of h
          refine gx_vI hC dr_Mo_dual_87 lk_Mo_124 (mt_Mo_isUnit e9) rfl (by decide) ⟨by decide, by decide⟩ ⟨by decide, by decide⟩ (by decide) ⟨_, _, rfl⟩ rfl rfl (Nat.le_of_ble_eq_true rfl) (fun z c2 hp => ?_)
          obtain ⟨rfl, rfl⟩ := hp
          refine gx_if_ne (tgt := 97) hC dr_Mo_dual_90 (by decide) (fun hc10 => ?_) (fun hc10 => ?_)
          · rw [if_neg hc10] at h
            refine gx_aload_n hC dr_Mo_dual_97 rfl ?_
            refine gx_aload_n hC dr_Mo_dual_98 rfl ?_
            refine gx_get hC dr_Mo_dual_99 lf_Mo_7 (by decide) rfl rfl ?_
            refine gx_iload hC dr_Mo_dual_102 rfl ?_
            refine gx_iald (f := (gq_i M 0)) hC dr_Mo_dual_104 (by decide) rfl hz5 ?_
            refine gx_iload_n hC dr_Mo_dual_105 rfl ?_
            refine gx_iconst (v := (-1)) hC dr_Mo_dual_106 (by decide) ?_
            refine gx_iconst (v := 0) hC dr_Mo_dual_107 (by decide) ?_
            obtain ⟨q11, e12, h⟩ := gb_of h
            refine gx_vV hC dr_Mo_dual_108 lk_Mo_145 (mt_Mo_reckon e12) rfl (by decide) ⟨by decide, by decide⟩ ⟨by decide, by decide⟩ (by decide) ⟨_, _, rfl⟩ rfl rfl (Nat.le_of_ble_eq_true rfl) (fun c2 hp => ?_)
            subst hp
            refine gx_aload_n hC dr_Mo_dual_111 rfl ?_
            refine gx_get hC dr_Mo_dual_112 lf_Mo_69 (by decide) rfl rfl ?_
            refine gx_iconst (v := 0) hC dr_Mo_dual_115 (by decide) ?_
            have hz13 : 0 ≤ (0 : Int32).toInt ∧ (0 : Int32).toInt < ((4096 : Nat) : Int) := by decide
            refine gx_lald (f := (gq_l q11 5)) hC dr_Mo_dual_116 (by decide) rfl hz13 ?_
            refine gx_lstore hC dr_Mo_dual_117 (by decide) ?_
            refine gx_iload_n hC dr_Mo_dual_119 rfl ?_
            refine gx_iconst (v := 1) hC dr_Mo_dual_120 (by decide) ?_
            refine gx_icmp_ne (tgt := 136) hC dr_Mo_dual_121 (by decide) (fun hc14 => ?_) (fun hc14 => ?_)
            · rw [if_neg hc14] at h
              refine gx_aload_n hC dr_Mo_dual_136 rfl ?_
              refine gx_aload_n hC dr_Mo_dual_137 rfl ?_
              refine gx_get hC dr_Mo_dual_138 lf_Mo_7 (by decide) rfl rfl ?_
              refine gx_iload hC dr_Mo_dual_141 rfl ?_
              refine gx_iald (f := (gq_i q11 0)) hC dr_Mo_dual_143 (by decide) rfl hz5 ?_
              refine gx_iload_n hC dr_Mo_dual_144 rfl ?_
              refine gx_iload hC dr_Mo_dual_145 rfl ?_
              refine gx_iload_n hC dr_Mo_dual_147 rfl ?_
              refine gx_if_ne (tgt := 155) hC dr_Mo_dual_148 (by decide) (fun hc21 => ?_) (fun hc21 => ?_)
              · rw [if_neg hc21] at h
                refine gx_iconst (v := (-1)) hC dr_Mo_dual_155 (by decide) ?_
                obtain ⟨q24, e25, h⟩ := gb_of h
                refine gx_vV hC dr_Mo_dual_156 lk_Mo_145 (mt_Mo_reckon e25) rfl (by decide) ⟨by decide, by decide⟩ ⟨by decide, by decide⟩ (by decide) ⟨_, _, rfl⟩ rfl rfl (Nat.le_of_ble_eq_true rfl) (fun c2 hp => ?_)
                subst hp
                refine gx_aload_n hC dr_Mo_dual_159 rfl ?_
                refine gx_get hC dr_Mo_dual_160 lf_Mo_69 (by decide) rfl rfl ?_
                refine gx_iconst (v := 0) hC dr_Mo_dual_163 (by decide) ?_
                refine gx_lald (f := (gq_l q24 5)) hC dr_Mo_dual_164 (by decide) rfl hz13 ?_
                refine gx_lload hC dr_Mo_dual_165 rfl ?_
                refine gx_lsub hC dr_Mo_dual_167 ?_
                cases h
                exact hR (by decide) (by decide) dr_Mo_dual_168 ⟨rfl, rfl⟩
              · rw [if_pos hc21] at h
                refine gx_iconst (v := 1) hC dr_Mo_dual_151 (by decide) ?_
                refine gx_goto (tgt := 156) hC dr_Mo_dual_152 (by decide) ?_
                obtain ⟨q22, e23, h⟩ := gb_of h
                refine gx_vV hC dr_Mo_dual_156 lk_Mo_145 (mt_Mo_reckon e23) rfl (by decide) ⟨by decide, by decide⟩ ⟨by decide, by decide⟩ (by decide) ⟨_, _, rfl⟩ rfl rfl (Nat.le_of_ble_eq_true rfl) (fun c2 hp => ?_)
                subst hp
                refine gx_aload_n hC dr_Mo_dual_159 rfl ?_
                refine gx_get hC dr_Mo_dual_160 lf_Mo_69 (by decide) rfl rfl ?_
                refine gx_iconst (v := 0) hC dr_Mo_dual_163 (by decide) ?_
                refine gx_lald (f := (gq_l q22 5)) hC dr_Mo_dual_164 (by decide) rfl hz13 ?_
                refine gx_lload hC dr_Mo_dual_165 rfl ?_
                refine gx_lsub hC dr_Mo_dual_167 ?_
                cases h
                exact hR (by decide) (by decide) dr_Mo_dual_168 ⟨rfl, rfl⟩
            · rw [if_pos hc14] at h
              refine gx_aload_n hC dr_Mo_dual_124 rfl ?_
              refine gx_get hC dr_Mo_dual_125 lf_Mo_121 (by decide) rfl rfl ?_
              refine gx_iconst (v := 1) hC dr_Mo_dual_128 (by decide) ?_
              refine gx_icmp_ne (tgt := 136) hC dr_Mo_dual_129 (by decide) (fun hc15 => ?_) (fun hc15 => ?_)
              · rw [if_neg hc15] at h
                refine gx_aload_n hC dr_Mo_dual_136 rfl ?_
                refine gx_aload_n hC dr_Mo_dual_137 rfl ?_
                refine gx_get hC dr_Mo_dual_138 lf_Mo_7 (by decide) rfl rfl ?_
                refine gx_iload hC dr_Mo_dual_141 rfl ?_
                refine gx_iald (f := (gq_i q11 0)) hC dr_Mo_dual_143 (by decide) rfl hz5 ?_
                refine gx_iload_n hC dr_Mo_dual_144 rfl ?_
                refine gx_iload hC dr_Mo_dual_145 rfl ?_
                refine gx_iload_n hC dr_Mo_dual_147 rfl ?_
                refine gx_if_ne (tgt := 155) hC dr_Mo_dual_148 (by decide) (fun hc16 => ?_) (fun hc16 => ?_)
                · rw [if_neg hc16] at h
                  refine gx_iconst (v := (-1)) hC dr_Mo_dual_155 (by decide) ?_
                  obtain ⟨q19, e20, h⟩ := gb_of h
                  refine gx_vV hC dr_Mo_dual_156 lk_Mo_145 (mt_Mo_reckon e20) rfl (by decide) ⟨by decide, by decide⟩ ⟨by decide, by decide⟩ (by decide) ⟨_, _, rfl⟩ rfl rfl (Nat.le_of_ble_eq_true rfl) (fun c2 hp => ?_)
                  subst hp
                  refine gx_aload_n hC dr_Mo_dual_159 rfl ?_
                  refine gx_get hC dr_Mo_dual_160 lf_Mo_69 (by decide) rfl rfl ?_
                  refine gx_iconst (v := 0) hC dr_Mo_dual_163 (by decide) ?_
                  refine gx_lald (f := (gq_l q19 5)) hC dr_Mo_dual_164 (by decide) rfl hz13 ?_
                  refine gx_lload hC dr_Mo_dual_165 rfl ?_
                  refine gx_lsub hC dr_Mo_dual_167 ?_
                  cases h
                  exact hR (by decide) (by decide) dr_Mo_dual_168 ⟨rfl, rfl⟩
                · rw [if_pos hc16] at h
                  refine gx_iconst (v := 1) hC dr_Mo_dual_151 (by decide) ?_
                  refine gx_goto (tgt := 156) hC dr_Mo_dual_152 (by decide) ?_
                  obtain ⟨q17, e18, h⟩ := gb_of h
                  refine gx_vV hC dr_Mo_dual_156 lk_Mo_145 (mt_Mo_reckon e18) rfl (by decide) ⟨by decide, by decide⟩ ⟨by decide, by decide⟩ (by decide) ⟨_, _, rfl⟩ rfl rfl (Nat.le_of_ble_eq_true rfl) (fun c2 hp => ?_)
                  subst hp
                  refine gx_aload_n hC dr_Mo_dual_159 rfl ?_
                  refine gx_get hC dr_Mo_dual_160 lf_Mo_69 (by decide) rfl rfl ?_
                  refine gx_iconst (v := 0) hC dr_Mo_dual_163 (by decide) ?_
                  refine gx_lald (f := (gq_l q17 5)) hC dr_Mo_dual_164 (by decide) rfl hz13 ?_
                  refine gx_lload hC dr_Mo_dual_165 rfl ?_
                  refine gx_lsub hC dr_Mo_dual_167 ?_
                  cases h
                  exact hR (by decide) (by decide) dr_Mo_dual_168 ⟨rfl, rfl⟩
              · rw [if_pos hc15] at h
                refine gx_ldc2 (v := (-1)) hC dr_Mo_dual_132 lc_Mo_162 ?_
                cases h
                exact hR (by decide) (by decide) dr_Mo_dual_135 ⟨rfl, rfl⟩
          · rw [if_pos hc10] at h
            refine gx_ldc2 (v := (-1)) hC dr_Mo_dual_93 lc_Mo_162 ?_
            cases h
            exact hR (by decide) (by decide) dr_Mo_dual_96 ⟨rfl, rfl⟩
        · exact absurd hc7 (by decide)
      · rw [if_neg hc6] at h
        refine gx_iconst (v := 1) hC dr_Mo_dual_45 (by decide) ?_
        refine gx_goto (tgt := 50) hC dr_Mo_dual_46 (by decide) ?_
        refine gx_istore_n hC dr_Mo_dual_50 (by decide) ?_
        refine gx_iload_n hC dr_Mo_dual_51 rfl ?_
        refine gx_if_eq (tgt := 73) hC dr_Mo_dual_52 (by decide) (fun hc26 => ?_) (fun hc26 => ?_)
        · exact absurd hc26 (by decide)
        · refine gx_aload_n hC dr_Mo_dual_55 rfl ?_
          refine gx_get hC dr_Mo_dual_56 lf_Mo_36 (by decide) rfl rfl ?_
          refine gx_iload_n hC dr_Mo_dual_59 rfl ?_
          refine gx_zald (f := (gq_i M 6)) hC dr_Mo_dual_60 (by decide) rfl hz5 ?_
          refine gx_if_ne (tgt := 73) hC dr_Mo_dual_61 (by decide) (fun hc27 => ?_) (fun hc27 => ?_)
          · rw [if_neg hc27] at h
            refine gx_iload_n hC dr_Mo_dual_73 rfl ?_
            refine gx_istore hC dr_Mo_dual_74 (by decide) ?_
            refine gx_aload_n hC dr_Mo_dual_76 rfl ?_
            refine gx_iload hC dr_Mo_dual_77 rfl ?_
            refine gx_aload_n hC dr_Mo_dual_79 rfl ?_
            refine gx_get hC dr_Mo_dual_80 lf_Mo_7 (by decide) rfl rfl ?_
            refine gx_iload hC dr_Mo_dual_83 rfl ?_
            refine gx_iald (f := (gq_i M 0)) hC dr_Mo_dual_85 (by decide) rfl hz5 ?_
            refine gx_iload_n hC dr_Mo_dual_86 rfl ?_
            obtain ⟨q47, e48, h⟩ := gb_of h
            refine gx_vI hC dr_Mo_dual_87 lk_Mo_124 (mt_Mo_isUnit e48) rfl (by decide) ⟨by decide, by decide⟩ ⟨by decide, by decide⟩ (by decide) ⟨_, _, rfl⟩ rfl rfl (Nat.le_of_ble_eq_true rfl) (fun z c2 hp => ?_)
            obtain ⟨rfl, rfl⟩ := hp
            refine gx_if_ne (tgt := 97) hC dr_Mo_dual_90 (by decide) (fun hc49 => ?_) (fun hc49 => ?_)
            · rw [if_neg hc49] at h
              refine gx_aload_n hC dr_Mo_dual_97 rfl ?_
              refine gx_aload_n hC dr_Mo_dual_98 rfl ?_
              refine gx_get hC dr_Mo_dual_99 lf_Mo_7 (by decide) rfl rfl ?_
              refine gx_iload hC dr_Mo_dual_102 rfl ?_
              refine gx_iald (f := (gq_i M 0)) hC dr_Mo_dual_104 (by decide) rfl hz5 ?_
              refine gx_iload_n hC dr_Mo_dual_105 rfl ?_
              refine gx_iconst (v := (-1)) hC dr_Mo_dual_106 (by decide) ?_
              refine gx_iconst (v := 0) hC dr_Mo_dual_107 (by decide) ?_
              obtain ⟨q50, e51, h⟩ := gb_of h
              refine gx_vV hC dr_Mo_dual_108 lk_Mo_145 (mt_Mo_reckon e51) rfl (by decide) ⟨by decide, by decide⟩ ⟨by decide, by decide⟩ (by decide) ⟨_, _, rfl⟩ rfl rfl (Nat.le_of_ble_eq_true rfl) (fun c2 hp => ?_)
              subst hp
              refine gx_aload_n hC dr_Mo_dual_111 rfl ?_
              refine gx_get hC dr_Mo_dual_112 lf_Mo_69 (by decide) rfl rfl ?_
              refine gx_iconst (v := 0) hC dr_Mo_dual_115 (by decide) ?_
              have hz52 : 0 ≤ (0 : Int32).toInt ∧ (0 : Int32).toInt < ((4096 : Nat) : Int) := by decide
              refine gx_lald (f := (gq_l q50 5)) hC dr_Mo_dual_116 (by decide) rfl hz52 ?_
              refine gx_lstore hC dr_Mo_dual_117 (by decide) ?_
              refine gx_iload_n hC dr_Mo_dual_119 rfl ?_
              refine gx_iconst (v := 1) hC dr_Mo_dual_120 (by decide) ?_
              refine gx_icmp_ne (tgt := 136) hC dr_Mo_dual_121 (by decide) (fun hc53 => ?_) (fun hc53 => ?_)
              · rw [if_neg hc53] at h
                refine gx_aload_n hC dr_Mo_dual_136 rfl ?_
                refine gx_aload_n hC dr_Mo_dual_137 rfl ?_
                refine gx_get hC dr_Mo_dual_138 lf_Mo_7 (by decide) rfl rfl ?_
                refine gx_iload hC dr_Mo_dual_141 rfl ?_
                refine gx_iald (f := (gq_i q50 0)) hC dr_Mo_dual_143 (by decide) rfl hz5 ?_
                refine gx_iload_n hC dr_Mo_dual_144 rfl ?_
                refine gx_iload hC dr_Mo_dual_145 rfl ?_
                refine gx_iload_n hC dr_Mo_dual_147 rfl ?_
                refine gx_if_ne (tgt := 155) hC dr_Mo_dual_148 (by decide) (fun hc60 => ?_) (fun hc60 => ?_)
                · rw [if_neg hc60] at h
                  refine gx_iconst (v := (-1)) hC dr_Mo_dual_155 (by decide) ?_
                  obtain ⟨q63, e64, h⟩ := gb_of h
                  refine gx_vV hC dr_Mo_dual_156 lk_Mo_145 (mt_Mo_reckon e64) rfl (by decide) ⟨by decide, by decide⟩ ⟨by decide, by decide⟩ (by decide) ⟨_, _, rfl⟩ rfl rfl (Nat.le_of_ble_eq_true rfl) (fun c2 hp => ?_)
                  subst hp
                  refine gx_aload_n hC dr_Mo_dual_159 rfl ?_
                  refine gx_get hC dr_Mo_dual_160 lf_Mo_69 (by decide) rfl rfl ?_
                  refine gx_iconst (v := 0) hC dr_Mo_dual_163 (by decide) ?_
                  refine gx_lald (f := (gq_l q63 5)) hC dr_Mo_dual_164 (by decide) rfl hz52 ?_
                  refine gx_lload hC dr_Mo_dual_165 rfl ?_
                  refine gx_lsub hC dr_Mo_dual_167 ?_
                  cases h
                  exact hR (by decide) (by decide) dr_Mo_dual_168 ⟨rfl, rfl⟩
                · rw [if_pos hc60] at h
                  refine gx_iconst (v := 1) hC dr_Mo_dual_151 (by decide) ?_
                  refine gx_goto (tgt := 156) hC dr_Mo_dual_152 (by decide) ?_
                  obtain ⟨q61, e62, h⟩ := gb_of h
                  refine gx_vV hC dr_Mo_dual_156 lk_Mo_145 (mt_Mo_reckon e62) rfl (by decide) ⟨by decide, by decide⟩ ⟨by decide, by decide⟩ (by decide) ⟨_, _, rfl⟩ rfl rfl (Nat.le_of_ble_eq_true rfl) (fun c2 hp => ?_)
                  subst hp
                  refine gx_aload_n hC dr_Mo_dual_159 rfl ?_
                  refine gx_get hC dr_Mo_dual_160 lf_Mo_69 (by decide) rfl rfl ?_
                  refine gx_iconst (v := 0) hC dr_Mo_dual_163 (by decide) ?_
                  refine gx_lald (f := (gq_l q61 5)) hC dr_Mo_dual_164 (by decide) rfl hz52 ?_
                  refine gx_lload hC dr_Mo_dual_165 rfl ?_
                  refine gx_lsub hC dr_Mo_dual_167 ?_
                  cases h
                  exact hR (by decide) (by decide) dr_Mo_dual_168 ⟨rfl, rfl⟩
              · rw [if_pos hc53] at h
                refine gx_aload_n hC dr_Mo_dual_124 rfl ?_
                refine gx_get hC dr_Mo_dual_125 lf_Mo_121 (by decide) rfl rfl ?_
                refine gx_iconst (v := 1) hC dr_Mo_dual_128 (by decide) ?_
                refine gx_icmp_ne (tgt := 136) hC dr_Mo_dual_129 (by decide) (fun hc54 => ?_) (fun hc54 => ?_)
                · rw [if_neg hc54] at h
                  refine gx_aload_n hC dr_Mo_dual_136 rfl ?_
                  refine gx_aload_n hC dr_Mo_dual_137 rfl ?_
                  refine gx_get hC dr_Mo_dual_138 lf_Mo_7 (by decide) rfl rfl ?_
                  refine gx_iload hC dr_Mo_dual_141 rfl ?_
                  refine gx_iald (f := (gq_i q50 0)) hC dr_Mo_dual_143 (by decide) rfl hz5 ?_
                  refine gx_iload_n hC dr_Mo_dual_144 rfl ?_
                  refine gx_iload hC dr_Mo_dual_145 rfl ?_
                  refine gx_iload_n hC dr_Mo_dual_147 rfl ?_
                  refine gx_if_ne (tgt := 155) hC dr_Mo_dual_148 (by decide) (fun hc55 => ?_) (fun hc55 => ?_)
                  · rw [if_neg hc55] at h
                    refine gx_iconst (v := (-1)) hC dr_Mo_dual_155 (by decide) ?_
                    obtain ⟨q58, e59, h⟩ := gb_of h
                    refine gx_vV hC dr_Mo_dual_156 lk_Mo_145 (mt_Mo_reckon e59) rfl (by decide) ⟨by decide, by decide⟩ ⟨by decide, by decide⟩ (by decide) ⟨_, _, rfl⟩ rfl rfl (Nat.le_of_ble_eq_true rfl) (fun c2 hp => ?_)
                    subst hp
                    refine gx_aload_n hC dr_Mo_dual_159 rfl ?_
                    refine gx_get hC dr_Mo_dual_160 lf_Mo_69 (by decide) rfl rfl ?_
                    refine gx_iconst (v := 0) hC dr_Mo_dual_163 (by decide) ?_
                    refine gx_lald (f := (gq_l q58 5)) hC dr_Mo_dual_164 (by decide) rfl hz52 ?_
                    refine gx_lload hC dr_Mo_dual_165 rfl ?_
                    refine gx_lsub hC dr_Mo_dual_167 ?_
                    cases h
                    exact hR (by decide) (by decide) dr_Mo_dual_168 ⟨rfl, rfl⟩
                  · rw [if_pos hc55] at h
                    refine gx_iconst (v := 1) hC dr_Mo_dual_151 (by decide) ?_
                    refine gx_goto (tgt := 156) hC dr_Mo_dual_152 (by decide) ?_
                    obtain ⟨q56, e57, h⟩ := gb_of h
                    refine gx_vV hC dr_Mo_dual_156 lk_Mo_145 (mt_Mo_reckon e57) rfl (by decide) ⟨by decide, by decide⟩ ⟨by decide, by decide⟩ (by decide) ⟨_, _, rfl⟩ rfl rfl (Nat.le_of_ble_eq_true rfl) (fun c2 hp => ?_)
                    subst hp
                    refine gx_aload_n hC dr_Mo_dual_159 rfl ?_
                    refine gx_get hC dr_Mo_dual_160 lf_Mo_69 (by decide) rfl rfl ?_
                    refine gx_iconst (v := 0) hC dr_Mo_dual_163 (by decide) ?_
                    refine gx_lald (f := (gq_l q56 5)) hC dr_Mo_dual_164 (by decide) rfl hz52 ?_
                    refine gx_lload hC dr_Mo_dual_165 rfl ?_
                    refine gx_lsub hC dr_Mo_dual_167 ?_
                    cases h
                    exact hR (by decide) (by decide) dr_Mo_dual_168 ⟨rfl, rfl⟩
                · rw [if_pos hc54] at h
                  refine gx_ldc2 (v := (-1)) hC dr_Mo_dual_132 lc_Mo_162 ?_
                  cases h
                  exact hR (by decide) (by decide) dr_Mo_dual_135 ⟨rfl, rfl⟩
            · rw [if_pos hc49] at h
              refine gx_ldc2 (v := (-1)) hC dr_Mo_dual_93 lc_Mo_162 ?_
              cases h
              exact hR (by decide) (by decide) dr_Mo_dual_96 ⟨rfl, rfl⟩
          · rw [if_pos hc27] at h
            refine gx_aload_n hC dr_Mo_dual_64 rfl ?_
            refine gx_get hC dr_Mo_dual_65 lf_Mo_33 (by decide) rfl rfl ?_
            refine gx_iload_n hC dr_Mo_dual_68 rfl ?_
            refine gx_iald (f := (gq_i M 5)) hC dr_Mo_dual_69 (by decide) rfl hz5 ?_
            refine gx_goto (tgt := 74) hC dr_Mo_dual_70 (by decide) ?_
            refine gx_istore hC dr_Mo_dual_74 (by decide) ?_
            refine gx_aload_n hC dr_Mo_dual_76 rfl ?_
            refine gx_iload hC dr_Mo_dual_77 rfl ?_
            refine gx_aload_n hC dr_Mo_dual_79 rfl ?_
            refine gx_get hC dr_Mo_dual_80 lf_Mo_7 (by decide) rfl rfl ?_
            refine gx_iload hC dr_Mo_dual_83 rfl ?_
            obtain ⟨hz28, h⟩ := gk_of h
            refine gx_iald (f := (gq_i M 0)) hC dr_Mo_dual_85 (by decide) rfl hz28 ?_
            refine gx_iload_n hC dr_Mo_dual_86 rfl ?_
            obtain ⟨q29, e30, h⟩ := gb_of h
            refine gx_vI hC dr_Mo_dual_87 lk_Mo_124 (mt_Mo_isUnit e30) rfl (by decide) ⟨by decide, by decide⟩ ⟨by decide, by decide⟩ (by decide) ⟨_, _, rfl⟩ rfl rfl (Nat.le_of_ble_eq_true rfl) (fun z c2 hp => ?_)
            obtain ⟨rfl, rfl⟩ := hp
            refine gx_if_ne (tgt := 97) hC dr_Mo_dual_90 (by decide) (fun hc31 => ?_) (fun hc31 => ?_)
            · rw [if_neg hc31] at h
              refine gx_aload_n hC dr_Mo_dual_97 rfl ?_
              refine gx_aload_n hC dr_Mo_dual_98 rfl ?_
              refine gx_get hC dr_Mo_dual_99 lf_Mo_7 (by decide) rfl rfl ?_
              refine gx_iload hC dr_Mo_dual_102 rfl ?_
              refine gx_iald (f := (gq_i M 0)) hC dr_Mo_dual_104 (by decide) rfl hz28 ?_
              refine gx_iload_n hC dr_Mo_dual_105 rfl ?_
              refine gx_iconst (v := (-1)) hC dr_Mo_dual_106 (by decide) ?_
              refine gx_iconst (v := 0) hC dr_Mo_dual_107 (by decide) ?_
              obtain ⟨q32, e33, h⟩ := gb_of h
              refine gx_vV hC dr_Mo_dual_108 lk_Mo_145 (mt_Mo_reckon e33) rfl (by decide) ⟨by decide, by decide⟩ ⟨by decide, by decide⟩ (by decide) ⟨_, _, rfl⟩ rfl rfl (Nat.le_of_ble_eq_true rfl) (fun c2 hp => ?_)
              subst hp
              refine gx_aload_n hC dr_Mo_dual_111 rfl ?_
              refine gx_get hC dr_Mo_dual_112 lf_Mo_69 (by decide) rfl rfl ?_
              refine gx_iconst (v := 0) hC dr_Mo_dual_115 (by decide) ?_
              have hz34 : 0 ≤ (0 : Int32).toInt ∧ (0 : Int32).toInt < ((4096 : Nat) : Int) := by decide
              refine gx_lald (f := (gq_l q32 5)) hC dr_Mo_dual_116 (by decide) rfl hz34 ?_
              refine gx_lstore hC dr_Mo_dual_117 (by decide) ?_
              refine gx_iload_n hC dr_Mo_dual_119 rfl ?_
              refine gx_iconst (v := 1) hC dr_Mo_dual_120 (by decide) ?_
              refine gx_icmp_ne (tgt := 136) hC dr_Mo_dual_121 (by decide) (fun hc35 => ?_) (fun hc35 => ?_)
              · rw [if_neg hc35] at h
                refine gx_aload_n hC dr_Mo_dual_136 rfl ?_
                refine gx_aload_n hC dr_Mo_dual_137 rfl ?_
                refine gx_get hC dr_Mo_dual_138 lf_Mo_7 (by decide) rfl rfl ?_
                refine gx_iload hC dr_Mo_dual_141 rfl ?_
                refine gx_iald (f := (gq_i q32 0)) hC dr_Mo_dual_143 (by decide) rfl hz28 ?_
                refine gx_iload_n hC dr_Mo_dual_144 rfl ?_
                refine gx_iload hC dr_Mo_dual_145 rfl ?_
                refine gx_iload_n hC dr_Mo_dual_147 rfl ?_
                refine gx_if_ne (tgt := 155) hC dr_Mo_dual_148 (by decide) (fun hc42 => ?_) (fun hc42 => ?_)
                · rw [if_neg hc42] at h
                  refine gx_iconst (v := (-1)) hC dr_Mo_dual_155 (by decide) ?_
                  obtain ⟨q45, e46, h⟩ := gb_of h
                  refine gx_vV hC dr_Mo_dual_156 lk_Mo_145 (mt_Mo_reckon e46) rfl (by decide) ⟨by decide, by decide⟩ ⟨by decide, by decide⟩ (by decide) ⟨_, _, rfl⟩ rfl rfl (Nat.le_of_ble_eq_true rfl) (fun c2 hp => ?_)
                  subst hp
                  refine gx_aload_n hC dr_Mo_dual_159 rfl ?_
                  refine gx_get hC dr_Mo_dual_160 lf_Mo_69 (by decide) rfl rfl ?_
                  refine gx_iconst (v := 0) hC dr_Mo_dual_163 (by decide) ?_
                  refine gx_lald (f := (gq_l q45 5)) hC dr_Mo_dual_164 (by decide) rfl hz34 ?_
                  refine gx_lload hC dr_Mo_dual_165 rfl ?_
                  refine gx_lsub hC dr_Mo_dual_167 ?_
                  cases h
                  exact hR (by decide) (by decide) dr_Mo_dual_168 ⟨rfl, rfl⟩
                · rw [if_pos hc42] at h
                  refine gx_iconst (v := 1) hC dr_Mo_dual_151 (by decide) ?_
                  refine gx_goto (tgt := 156) hC dr_Mo_dual_152 (by decide) ?_
                  obtain ⟨q43, e44, h⟩ := gb_of h
                  refine gx_vV hC dr_Mo_dual_156 lk_Mo_145 (mt_Mo_reckon e44) rfl (by decide) ⟨by decide, by decide⟩ ⟨by decide, by decide⟩ (by decide) ⟨_, _, rfl⟩ rfl rfl (Nat.le_of_ble_eq_true rfl) (fun c2 hp => ?_)
                  subst hp
                  refine gx_aload_n hC dr_Mo_dual_159 rfl ?_
                  refine gx_get hC dr_Mo_dual_160 lf_Mo_69 (by decide) rfl rfl ?_
                  refine gx_iconst (v := 0) hC dr_Mo_dual_163 (by decide) ?_
                  refine gx_lald (f := (gq_l q43 5)) hC dr_Mo_dual_164 (by decide) rfl hz34 ?_
                  refine gx_lload hC dr_Mo_dual_165 rfl ?_
                  refine gx_lsub hC dr_Mo_dual_167 ?_
                  cases h
                  exact hR (by decide) (by decide) dr_Mo_dual_168 ⟨rfl, rfl⟩
              · rw [if_pos hc35] at h
                refine gx_aload_n hC dr_Mo_dual_124 rfl ?_
                refine gx_get hC dr_Mo_dual_125 lf_Mo_121 (by decide) rfl rfl ?_
                refine gx_iconst (v := 1) hC dr_Mo_dual_128 (by decide) ?_
                refine gx_icmp_ne (tgt := 136) hC dr_Mo_dual_129 (by decide) (fun hc36 => ?_) (fun hc36 => ?_)
                · rw [if_neg hc36] at h
                  refine gx_aload_n hC dr_Mo_dual_136 rfl ?_
                  refine gx_aload_n hC dr_Mo_dual_137 rfl ?_
                  refine gx_get hC dr_Mo_dual_138 lf_Mo_7 (by decide) rfl rfl ?_
                  refine gx_iload hC dr_Mo_dual_141 rfl ?_
                  refine gx_iald (f := (gq_i q32 0)) hC dr_Mo_dual_143 (by decide) rfl hz28 ?_
                  refine gx_iload_n hC dr_Mo_dual_144 rfl ?_
                  refine gx_iload hC dr_Mo_dual_145 rfl ?_
                  refine gx_iload_n hC dr_Mo_dual_147 rfl ?_
                  refine gx_if_ne (tgt := 155) hC dr_Mo_dual_148 (by decide) (fun hc37 => ?_) (fun hc37 => ?_)
                  · rw [if_neg hc37] at h
                    refine gx_iconst (v := (-1)) hC dr_Mo_dual_155 (by decide) ?_
                    obtain ⟨q40, e41, h⟩ := gb_of h
                    refine gx_vV hC dr_Mo_dual_156 lk_Mo_145 (mt_Mo_reckon e41) rfl (by decide) ⟨by decide, by decide⟩ ⟨by decide, by decide⟩ (by decide) ⟨_, _, rfl⟩ rfl rfl (Nat.le_of_ble_eq_true rfl) (fun c2 hp => ?_)
                    subst hp
                    refine gx_aload_n hC dr_Mo_dual_159 rfl ?_
                    refine gx_get hC dr_Mo_dual_160 lf_Mo_69 (by decide) rfl rfl ?_
                    refine gx_iconst (v := 0) hC dr_Mo_dual_163 (by decide) ?_
                    refine gx_lald (f := (gq_l q40 5)) hC dr_Mo_dual_164 (by decide) rfl hz34 ?_
                    refine gx_lload hC dr_Mo_dual_165 rfl ?_
                    refine gx_lsub hC dr_Mo_dual_167 ?_
                    cases h
                    exact hR (by decide) (by decide) dr_Mo_dual_168 ⟨rfl, rfl⟩
                  · rw [if_pos hc37] at h
                    refine gx_iconst (v := 1) hC dr_Mo_dual_151 (by decide) ?_
                    refine gx_goto (tgt := 156) hC dr_Mo_dual_152 (by decide) ?_
                    obtain ⟨q38, e39, h⟩ := gb_of h
                    refine gx_vV hC dr_Mo_dual_156 lk_Mo_145 (mt_Mo_reckon e39) rfl (by decide) ⟨by decide, by decide⟩ ⟨by decide, by decide⟩ (by decide) ⟨_, _, rfl⟩ rfl rfl (Nat.le_of_ble_eq_true rfl) (fun c2 hp => ?_)
                    subst hp
                    refine gx_aload_n hC dr_Mo_dual_159 rfl ?_
                    refine gx_get hC dr_Mo_dual_160 lf_Mo_69 (by decide) rfl rfl ?_
                    refine gx_iconst (v := 0) hC dr_Mo_dual_163 (by decide) ?_
                    refine gx_lald (f := (gq_l q38 5)) hC dr_Mo_dual_164 (by decide) rfl hz34 ?_
                    refine gx_lload hC dr_Mo_dual_165 rfl ?_
                    refine gx_lsub hC dr_Mo_dual_167 ?_
                    cases h
                    exact hR (by decide) (by decide) dr_Mo_dual_168 ⟨rfl, rfl⟩
                · rw [if_pos hc36] at h
                  refine gx_ldc2 (v := (-1)) hC dr_Mo_dual_132 lc_Mo_162 ?_
                  cases h
                  exact hR (by decide) (by decide) dr_Mo_dual_135 ⟨rfl, rfl⟩
            · rw [if_pos hc31] at h
              refine gx_ldc2 (v := (-1)) hC dr_Mo_dual_93 lc_Mo_162 ?_
              cases h
              exact hR (by decide) (by decide) dr_Mo_dual_96 ⟨rfl, rfl⟩
    · rw [if_neg hc4] at h
      refine gx_lconst hC dr_Mo_dual_33 ?_
      cases h
      exact hR (by decide) (by decide) dr_Mo_dual_34 ⟨rfl, rfl⟩
  · rw [if_neg hc3] at h
    refine gx_iload_n hC dr_Mo_dual_9 rfl ?_
    refine gx_if_eq (tgt := 18) hC dr_Mo_dual_10 (by decide) (fun hc65 => ?_) (fun hc65 => ?_)
    · rw [if_pos hc65] at h
      refine gx_iconst (v := 0) hC dr_Mo_dual_18 (by decide) ?_
      refine gx_goto (tgt := 23) hC dr_Mo_dual_19 (by decide) ?_
      refine gx_put hC (by decide) dr_Mo_dual_23 lf_Mo_78 lp_Mo_thrown (by decide) rfl (Nat.le_of_ble_eq_true rfl) (fun _ => rfl) (fun _ => rfl) ma_F0 ?_
      refine gx_aload_n hC dr_Mo_dual_26 rfl ?_
      refine gx_get hC dr_Mo_dual_27 lf_Mo_78 (by decide) rfl rfl ?_
      refine gx_if_eq (tgt := 35) hC dr_Mo_dual_30 (by decide) (fun hc66 => ?_) (fun hc66 => ?_)
      · rw [if_pos hc66] at h
        refine gx_aload_n hC dr_Mo_dual_35 rfl ?_
        refine gx_get hC dr_Mo_dual_36 lf_Mo_33 (by decide) rfl rfl ?_
        refine gx_iload_n hC dr_Mo_dual_39 rfl ?_
        obtain ⟨hz67, h⟩ := gk_of h
        refine gx_iald (f := (gq_i M 5)) hC dr_Mo_dual_40 (by decide) rfl hz67 ?_
        refine gx_iconst (v := (-1)) hC dr_Mo_dual_41 (by decide) ?_
        refine gx_icmp_eq (tgt := 49) hC dr_Mo_dual_42 (by decide) (fun hc68 => ?_) (fun hc68 => ?_)
        · rw [if_pos hc68] at h
          refine gx_iconst (v := 0) hC dr_Mo_dual_49 (by decide) ?_
          refine gx_istore_n hC dr_Mo_dual_50 (by decide) ?_
          refine gx_iload_n hC dr_Mo_dual_51 rfl ?_
          refine gx_if_eq (tgt := 73) hC dr_Mo_dual_52 (by decide) (fun hc69 => ?_) (fun hc69 => ?_)
          · refine gx_iload_n hC dr_Mo_dual_73 rfl ?_
            refine gx_istore hC dr_Mo_dual_74 (by decide) ?_
            refine gx_aload_n hC dr_Mo_dual_76 rfl ?_
            refine gx_iload hC dr_Mo_dual_77 rfl ?_
            refine gx_aload_n hC dr_Mo_dual_79 rfl ?_
            refine gx_get hC dr_Mo_dual_80 lf_Mo_7 (by decide) rfl rfl ?_
            refine gx_iload hC dr_Mo_dual_83 rfl ?_
            refine gx_iald (f := (gq_i M 0)) hC dr_Mo_dual_85 (by decide) rfl hz67 ?_
            refine gx_iload_n hC dr_Mo_dual_86 rfl ?_
            obtain ⟨q70, e71, h⟩ := gb_of h
            refine gx_vI hC dr_Mo_dual_87 lk_Mo_124 (mt_Mo_isUnit e71) rfl (by decide) ⟨by decide, by decide⟩ ⟨by decide, by decide⟩ (by decide) ⟨_, _, rfl⟩ rfl rfl (Nat.le_of_ble_eq_true rfl) (fun z c2 hp => ?_)
            obtain ⟨rfl, rfl⟩ := hp
            refine gx_if_ne (tgt := 97) hC dr_Mo_dual_90 (by decide) (fun hc72 => ?_) (fun hc72 => ?_)
            · rw [if_neg hc72] at h
              refine gx_aload_n hC dr_Mo_dual_97 rfl ?_
              refine gx_aload_n hC dr_Mo_dual_98 rfl ?_
              refine gx_get hC dr_Mo_dual_99 lf_Mo_7 (by decide) rfl rfl ?_
              refine gx_iload hC dr_Mo_dual_102 rfl ?_
              refine gx_iald (f := (gq_i M 0)) hC dr_Mo_dual_104 (by decide) rfl hz67 ?_
              refine gx_iload_n hC dr_Mo_dual_105 rfl ?_
              refine gx_iconst (v := (-1)) hC dr_Mo_dual_106 (by decide) ?_
              refine gx_iconst (v := 0) hC dr_Mo_dual_107 (by decide) ?_
              obtain ⟨q73, e74, h⟩ := gb_of h
              refine gx_vV hC dr_Mo_dual_108 lk_Mo_145 (mt_Mo_reckon e74) rfl (by decide) ⟨by decide, by decide⟩ ⟨by decide, by decide⟩ (by decide) ⟨_, _, rfl⟩ rfl rfl (Nat.le_of_ble_eq_true rfl) (fun c2 hp => ?_)
              subst hp
              refine gx_aload_n hC dr_Mo_dual_111 rfl ?_
              refine gx_get hC dr_Mo_dual_112 lf_Mo_69 (by decide) rfl rfl ?_
              refine gx_iconst (v := 0) hC dr_Mo_dual_115 (by decide) ?_
              have hz75 : 0 ≤ (0 : Int32).toInt ∧ (0 : Int32).toInt < ((4096 : Nat) : Int) := by decide
              refine gx_lald (f := (gq_l q73 5)) hC dr_Mo_dual_116 (by decide) rfl hz75 ?_
              refine gx_lstore hC dr_Mo_dual_117 (by decide) ?_
              refine gx_iload_n hC dr_Mo_dual_119 rfl ?_
              refine gx_iconst (v := 1) hC dr_Mo_dual_120 (by decide) ?_
              refine gx_icmp_ne (tgt := 136) hC dr_Mo_dual_121 (by decide) (fun hc76 => ?_) (fun hc76 => ?_)
              · rw [if_neg hc76] at h
                refine gx_aload_n hC dr_Mo_dual_136 rfl ?_
                refine gx_aload_n hC dr_Mo_dual_137 rfl ?_
                refine gx_get hC dr_Mo_dual_138 lf_Mo_7 (by decide) rfl rfl ?_
                refine gx_iload hC dr_Mo_dual_141 rfl ?_
                refine gx_iald (f := (gq_i q73 0)) hC dr_Mo_dual_143 (by decide) rfl hz67 ?_
                refine gx_iload_n hC dr_Mo_dual_144 rfl ?_
                refine gx_iload hC dr_Mo_dual_145 rfl ?_
                refine gx_iload_n hC dr_Mo_dual_147 rfl ?_
                refine gx_if_ne (tgt := 155) hC dr_Mo_dual_148 (by decide) (fun hc83 => ?_) (fun hc83 => ?_)
                · rw [if_neg hc83] at h
                  refine gx_iconst (v := (-1)) hC dr_Mo_dual_155 (by decide) ?_
                  obtain ⟨q86, e87, h⟩ := gb_of h
                  refine gx_vV hC dr_Mo_dual_156 lk_Mo_145 (mt_Mo_reckon e87) rfl (by decide) ⟨by decide, by decide⟩ ⟨by decide, by decide⟩ (by decide) ⟨_, _, rfl⟩ rfl rfl (Nat.le_of_ble_eq_true rfl) (fun c2 hp => ?_)
                  subst hp
                  refine gx_aload_n hC dr_Mo_dual_159 rfl ?_
                  refine gx_get hC dr_Mo_dual_160 lf_Mo_69 (by decide) rfl rfl ?_
                  refine gx_iconst (v := 0) hC dr_Mo_dual_163 (by decide) ?_
                  refine gx_lald (f := (gq_l q86 5)) hC dr_Mo_dual_164 (by decide) rfl hz75 ?_
                  refine gx_lload hC dr_Mo_dual_165 rfl ?_
                  refine gx_lsub hC dr_Mo_dual_167 ?_
                  cases h
                  exact hR (by decide) (by decide) dr_Mo_dual_168 ⟨rfl, rfl⟩
                · rw [if_pos hc83] at h
                  refine gx_iconst (v := 1) hC dr_Mo_dual_151 (by decide) ?_
                  refine gx_goto (tgt := 156) hC dr_Mo_dual_152 (by decide) ?_
                  obtain ⟨q84, e85, h⟩ := gb_of h
                  refine gx_vV hC dr_Mo_dual_156 lk_Mo_145 (mt_Mo_reckon e85) rfl (by decide) ⟨by decide, by decide⟩ ⟨by decide, by decide⟩ (by decide) ⟨_, _, rfl⟩ rfl rfl (Nat.le_of_ble_eq_true rfl) (fun c2 hp => ?_)
                  subst hp
                  refine gx_aload_n hC dr_Mo_dual_159 rfl ?_
                  refine gx_get hC dr_Mo_dual_160 lf_Mo_69 (by decide) rfl rfl ?_
                  refine gx_iconst (v := 0) hC dr_Mo_dual_163 (by decide) ?_
                  refine gx_lald (f := (gq_l q84 5)) hC dr_Mo_dual_164 (by decide) rfl hz75 ?_
                  refine gx_lload hC dr_Mo_dual_165 rfl ?_
                  refine gx_lsub hC dr_Mo_dual_167 ?_
                  cases h
                  exact hR (by decide) (by decide) dr_Mo_dual_168 ⟨rfl, rfl⟩
              · rw [if_pos hc76] at h
                refine gx_aload_n hC dr_Mo_dual_124 rfl ?_
                refine gx_get hC dr_Mo_dual_125 lf_Mo_121 (by decide) rfl rfl ?_
                refine gx_iconst (v := 1) hC dr_Mo_dual_128 (by decide) ?_
                refine gx_icmp_ne (tgt := 136) hC dr_Mo_dual_129 (by decide) (fun hc77 => ?_) (fun hc77 => ?_)
                · rw [if_neg hc77] at h
                  refine gx_aload_n hC dr_Mo_dual_136 rfl ?_
                  refine gx_aload_n hC dr_Mo_dual_137 rfl ?_
                  refine gx_get hC dr_Mo_dual_138 lf_Mo_7 (by decide) rfl rfl ?_
                  refine gx_iload hC dr_Mo_dual_141 rfl ?_
                  refine gx_iald (f := (gq_i q73 0)) hC dr_Mo_dual_143 (by decide) rfl hz67 ?_
                  refine gx_iload_n hC dr_Mo_dual_144 rfl ?_
                  refine gx_iload hC dr_Mo_dual_145 rfl ?_
                  refine gx_iload_n hC dr_Mo_dual_147 rfl ?_
                  refine gx_if_ne (tgt := 155) hC dr_Mo_dual_148 (by decide) (fun hc78 => ?_) (fun hc78 => ?_)
                  · rw [if_neg hc78] at h
                    refine gx_iconst (v := (-1)) hC dr_Mo_dual_155 (by decide) ?_
                    obtain ⟨q81, e82, h⟩ := gb_of h
                    refine gx_vV hC dr_Mo_dual_156 lk_Mo_145 (mt_Mo_reckon e82) rfl (by decide) ⟨by decide, by decide⟩ ⟨by decide, by decide⟩ (by decide) ⟨_, _, rfl⟩ rfl rfl (Nat.le_of_ble_eq_true rfl) (fun c2 hp => ?_)
                    subst hp
                    refine gx_aload_n hC dr_Mo_dual_159 rfl ?_
                    refine gx_get hC dr_Mo_dual_160 lf_Mo_69 (by decide) rfl rfl ?_
                    refine gx_iconst (v := 0) hC dr_Mo_dual_163 (by decide) ?_
                    refine gx_lald (f := (gq_l q81 5)) hC dr_Mo_dual_164 (by decide) rfl hz75 ?_
                    refine gx_lload hC dr_Mo_dual_165 rfl ?_
                    refine gx_lsub hC dr_Mo_dual_167 ?_
                    cases h
                    exact hR (by decide) (by decide) dr_Mo_dual_168 ⟨rfl, rfl⟩
                  · rw [if_pos hc78] at h
                    refine gx_iconst (v := 1) hC dr_Mo_dual_151 (by decide) ?_
                    refine gx_goto (tgt := 156) hC dr_Mo_dual_152 (by decide) ?_
                    obtain ⟨q79, e80, h⟩ := gb_of h
                    refine gx_vV hC dr_Mo_dual_156 lk_Mo_145 (mt_Mo_reckon e80) rfl (by decide) ⟨by decide, by decide⟩ ⟨by decide, by decide⟩ (by decide) ⟨_, _, rfl⟩ rfl rfl (Nat.le_of_ble_eq_true rfl) (fun c2 hp => ?_)
                    subst hp
                    refine gx_aload_n hC dr_Mo_dual_159 rfl ?_
                    refine gx_get hC dr_Mo_dual_160 lf_Mo_69 (by decide) rfl rfl ?_
                    refine gx_iconst (v := 0) hC dr_Mo_dual_163 (by decide) ?_
                    refine gx_lald (f := (gq_l q79 5)) hC dr_Mo_dual_164 (by decide) rfl hz75 ?_
                    refine gx_lload hC dr_Mo_dual_165 rfl ?_
                    refine gx_lsub hC dr_Mo_dual_167 ?_
                    cases h
                    exact hR (by decide) (by decide) dr_Mo_dual_168 ⟨rfl, rfl⟩
                · rw [if_pos hc77] at h
                  refine gx_ldc2 (v := (-1)) hC dr_Mo_dual_132 lc_Mo_162 ?_
                  cases h
                  exact hR (by decide) (by decide) dr_Mo_dual_135 ⟨rfl, rfl⟩
            · rw [if_pos hc72] at h
              refine gx_ldc2 (v := (-1)) hC dr_Mo_dual_93 lc_Mo_162 ?_
              cases h
              exact hR (by decide) (by decide) dr_Mo_dual_96 ⟨rfl, rfl⟩
          · exact absurd hc69 (by decide)
        · rw [if_neg hc68] at h
          refine gx_iconst (v := 1) hC dr_Mo_dual_45 (by decide) ?_
          refine gx_goto (tgt := 50) hC dr_Mo_dual_46 (by decide) ?_
          refine gx_istore_n hC dr_Mo_dual_50 (by decide) ?_
          refine gx_iload_n hC dr_Mo_dual_51 rfl ?_
          refine gx_if_eq (tgt := 73) hC dr_Mo_dual_52 (by decide) (fun hc88 => ?_) (fun hc88 => ?_)
          · exact absurd hc88 (by decide)
          · refine gx_aload_n hC dr_Mo_dual_55 rfl ?_
            refine gx_get hC dr_Mo_dual_56 lf_Mo_36 (by decide) rfl rfl ?_
            refine gx_iload_n hC dr_Mo_dual_59 rfl ?_
            refine gx_zald (f := (gq_i M 6)) hC dr_Mo_dual_60 (by decide) rfl hz67 ?_
            refine gx_if_ne (tgt := 73) hC dr_Mo_dual_61 (by decide) (fun hc89 => ?_) (fun hc89 => ?_)
            · rw [if_neg hc89] at h
              refine gx_iload_n hC dr_Mo_dual_73 rfl ?_
              refine gx_istore hC dr_Mo_dual_74 (by decide) ?_
              refine gx_aload_n hC dr_Mo_dual_76 rfl ?_
              refine gx_iload hC dr_Mo_dual_77 rfl ?_
              refine gx_aload_n hC dr_Mo_dual_79 rfl ?_
              refine gx_get hC dr_Mo_dual_80 lf_Mo_7 (by decide) rfl rfl ?_
              refine gx_iload hC dr_Mo_dual_83 rfl ?_
              refine gx_iald (f := (gq_i M 0)) hC dr_Mo_dual_85 (by decide) rfl hz67 ?_
              refine gx_iload_n hC dr_Mo_dual_86 rfl ?_
              obtain ⟨q109, e110, h⟩ := gb_of h
              refine gx_vI hC dr_Mo_dual_87 lk_Mo_124 (mt_Mo_isUnit e110) rfl (by decide) ⟨by decide, by decide⟩ ⟨by decide, by decide⟩ (by decide) ⟨_, _, rfl⟩ rfl rfl (Nat.le_of_ble_eq_true rfl) (fun z c2 hp => ?_)
              obtain ⟨rfl, rfl⟩ := hp
              refine gx_if_ne (tgt := 97) hC dr_Mo_dual_90 (by decide) (fun hc111 => ?_) (fun hc111 => ?_)
              · rw [if_neg hc111] at h
                refine gx_aload_n hC dr_Mo_dual_97 rfl ?_
                refine gx_aload_n hC dr_Mo_dual_98 rfl ?_
                refine gx_get hC dr_Mo_dual_99 lf_Mo_7 (by decide) rfl rfl ?_
                refine gx_iload hC dr_Mo_dual_102 rfl ?_
                refine gx_iald (f := (gq_i M 0)) hC dr_Mo_dual_104 (by decide) rfl hz67 ?_
                refine gx_iload_n hC dr_Mo_dual_105 rfl ?_
                refine gx_iconst (v := (-1)) hC dr_Mo_dual_106 (by decide) ?_
                refine gx_iconst (v := 0) hC dr_Mo_dual_107 (by decide) ?_
                obtain ⟨q112, e113, h⟩ := gb_of h
                refine gx_vV hC dr_Mo_dual_108 lk_Mo_145 (mt_Mo_reckon e113) rfl (by decide) ⟨by decide, by decide⟩ ⟨by decide, by decide⟩ (by decide) ⟨_, _, rfl⟩ rfl rfl (Nat.le_of_ble_eq_true rfl) (fun c2 hp => ?_)
                subst hp
                refine gx_aload_n hC dr_Mo_dual_111 rfl ?_
                refine gx_get hC dr_Mo_dual_112 lf_Mo_69 (by decide) rfl rfl ?_
                refine gx_iconst (v := 0) hC dr_Mo_dual_115 (by decide) ?_
                have hz114 : 0 ≤ (0 : Int32).toInt ∧ (0 : Int32).toInt < ((4096 : Nat) : Int) := by decide
                refine gx_lald (f := (gq_l q112 5)) hC dr_Mo_dual_116 (by decide) rfl hz114 ?_
                refine gx_lstore hC dr_Mo_dual_117 (by decide) ?_
                refine gx_iload_n hC dr_Mo_dual_119 rfl ?_
                refine gx_iconst (v := 1) hC dr_Mo_dual_120 (by decide) ?_
                refine gx_icmp_ne (tgt := 136) hC dr_Mo_dual_121 (by decide) (fun hc115 => ?_) (fun hc115 => ?_)
                · rw [if_neg hc115] at h
                  refine gx_aload_n hC dr_Mo_dual_136 rfl ?_
                  refine gx_aload_n hC dr_Mo_dual_137 rfl ?_
                  refine gx_get hC dr_Mo_dual_138 lf_Mo_7 (by decide) rfl rfl ?_
                  refine gx_iload hC dr_Mo_dual_141 rfl ?_
                  refine gx_iald (f := (gq_i q112 0)) hC dr_Mo_dual_143 (by decide) rfl hz67 ?_
                  refine gx_iload_n hC dr_Mo_dual_144 rfl ?_
                  refine gx_iload hC dr_Mo_dual_145 rfl ?_
                  refine gx_iload_n hC dr_Mo_dual_147 rfl ?_
                  refine gx_if_ne (tgt := 155) hC dr_Mo_dual_148 (by decide) (fun hc122 => ?_) (fun hc122 => ?_)
                  · rw [if_neg hc122] at h
                    refine gx_iconst (v := (-1)) hC dr_Mo_dual_155 (by decide) ?_
                    obtain ⟨q125, e126, h⟩ := gb_of h
                    refine gx_vV hC dr_Mo_dual_156 lk_Mo_145 (mt_Mo_reckon e126) rfl (by decide) ⟨by decide, by decide⟩ ⟨by decide, by decide⟩ (by decide) ⟨_, _, rfl⟩ rfl rfl (Nat.le_of_ble_eq_true rfl) (fun c2 hp => ?_)
                    subst hp
                    refine gx_aload_n hC dr_Mo_dual_159 rfl ?_
                    refine gx_get hC dr_Mo_dual_160 lf_Mo_69 (by decide) rfl rfl ?_
                    refine gx_iconst (v := 0) hC dr_Mo_dual_163 (by decide) ?_
                    refine gx_lald (f := (gq_l q125 5)) hC dr_Mo_dual_164 (by decide) rfl hz114 ?_
                    refine gx_lload hC dr_Mo_dual_165 rfl ?_
                    refine gx_lsub hC dr_Mo_dual_167 ?_
                    cases h
                    exact hR (by decide) (by decide) dr_Mo_dual_168 ⟨rfl, rfl⟩
                  · rw [if_pos hc122] at h
                    refine gx_iconst (v := 1) hC dr_Mo_dual_151 (by decide) ?_
                    refine gx_goto (tgt := 156) hC dr_Mo_dual_152 (by decide) ?_
                    obtain ⟨q123, e124, h⟩ := gb_of h
                    refine gx_vV hC dr_Mo_dual_156 lk_Mo_145 (mt_Mo_reckon e124) rfl (by decide) ⟨by decide, by decide⟩ ⟨by decide, by decide⟩ (by decide) ⟨_, _, rfl⟩ rfl rfl (Nat.le_of_ble_eq_true rfl) (fun c2 hp => ?_)
                    subst hp
                    refine gx_aload_n hC dr_Mo_dual_159 rfl ?_
                    refine gx_get hC dr_Mo_dual_160 lf_Mo_69 (by decide) rfl rfl ?_
                    refine gx_iconst (v := 0) hC dr_Mo_dual_163 (by decide) ?_
                    refine gx_lald (f := (gq_l q123 5)) hC dr_Mo_dual_164 (by decide) rfl hz114 ?_
                    refine gx_lload hC dr_Mo_dual_165 rfl ?_
                    refine gx_lsub hC dr_Mo_dual_167 ?_
                    cases h
                    exact hR (by decide) (by decide) dr_Mo_dual_168 ⟨rfl, rfl⟩
                · rw [if_pos hc115] at h
                  refine gx_aload_n hC dr_Mo_dual_124 rfl ?_
                  refine gx_get hC dr_Mo_dual_125 lf_Mo_121 (by decide) rfl rfl ?_
                  refine gx_iconst (v := 1) hC dr_Mo_dual_128 (by decide) ?_
                  refine gx_icmp_ne (tgt := 136) hC dr_Mo_dual_129 (by decide) (fun hc116 => ?_) (fun hc116 => ?_)
                  · rw [if_neg hc116] at h
                    refine gx_aload_n hC dr_Mo_dual_136 rfl ?_
                    refine gx_aload_n hC dr_Mo_dual_137 rfl ?_
                    refine gx_get hC dr_Mo_dual_138 lf_Mo_7 (by decide) rfl rfl ?_
                    refine gx_iload hC dr_Mo_dual_141 rfl ?_
                    refine gx_iald (f := (gq_i q112 0)) hC dr_Mo_dual_143 (by decide) rfl hz67 ?_
                    refine gx_iload_n hC dr_Mo_dual_144 rfl ?_
                    refine gx_iload hC dr_Mo_dual_145 rfl ?_
                    refine gx_iload_n hC dr_Mo_dual_147 rfl ?_
                    refine gx_if_ne (tgt := 155) hC dr_Mo_dual_148 (by decide) (fun hc117 => ?_) (fun hc117 => ?_)
                    · rw [if_neg hc117] at h
                      refine gx_iconst (v := (-1)) hC dr_Mo_dual_155 (by decide) ?_
                      obtain ⟨q120, e121, h⟩ := gb_of h
                      refine gx_vV hC dr_Mo_dual_156 lk_Mo_145 (mt_Mo_reckon e121) rfl (by decide) ⟨by decide, by decide⟩ ⟨by decide, by decide⟩ (by decide) ⟨_, _, rfl⟩ rfl rfl (Nat.le_of_ble_eq_true rfl) (fun c2 hp => ?_)
                      subst hp
                      refine gx_aload_n hC dr_Mo_dual_159 rfl ?_
                      refine gx_get hC dr_Mo_dual_160 lf_Mo_69 (by decide) rfl rfl ?_
                      refine gx_iconst (v := 0) hC dr_Mo_dual_163 (by decide) ?_
                      refine gx_lald (f := (gq_l q120 5)) hC dr_Mo_dual_164 (by decide) rfl hz114 ?_
                      refine gx_lload hC dr_Mo_dual_165 rfl ?_
                      refine gx_lsub hC dr_Mo_dual_167 ?_
                      cases h
                      exact hR (by decide) (by decide) dr_Mo_dual_168 ⟨rfl, rfl⟩
                    · rw [if_pos hc117] at h
                      refine gx_iconst (v := 1) hC dr_Mo_dual_151 (by decide) ?_
                      refine gx_goto (tgt := 156) hC dr_Mo_dual_152 (by decide) ?_
                      obtain ⟨q118, e119, h⟩ := gb_of h
                      refine gx_vV hC dr_Mo_dual_156 lk_Mo_145 (mt_Mo_reckon e119) rfl (by decide) ⟨by decide, by decide⟩ ⟨by decide, by decide⟩ (by decide) ⟨_, _, rfl⟩ rfl rfl (Nat.le_of_ble_eq_true rfl) (fun c2 hp => ?_)
                      subst hp
                      refine gx_aload_n hC dr_Mo_dual_159 rfl ?_
                      refine gx_get hC dr_Mo_dual_160 lf_Mo_69 (by decide) rfl rfl ?_
                      refine gx_iconst (v := 0) hC dr_Mo_dual_163 (by decide) ?_
                      refine gx_lald (f := (gq_l q118 5)) hC dr_Mo_dual_164 (by decide) rfl hz114 ?_
                      refine gx_lload hC dr_Mo_dual_165 rfl ?_
                      refine gx_lsub hC dr_Mo_dual_167 ?_
                      cases h
                      exact hR (by decide) (by decide) dr_Mo_dual_168 ⟨rfl, rfl⟩
                  · rw [if_pos hc116] at h
                    refine gx_ldc2 (v := (-1)) hC dr_Mo_dual_132 lc_Mo_162 ?_
                    cases h
                    exact hR (by decide) (by decide) dr_Mo_dual_135 ⟨rfl, rfl⟩
              · rw [if_pos hc111] at h
                refine gx_ldc2 (v := (-1)) hC dr_Mo_dual_93 lc_Mo_162 ?_
                cases h
                exact hR (by decide) (by decide) dr_Mo_dual_96 ⟨rfl, rfl⟩
            · rw [if_pos hc89] at h
              refine gx_aload_n hC dr_Mo_dual_64 rfl ?_
              refine gx_get hC dr_Mo_dual_65 lf_Mo_33 (by decide) rfl rfl ?_
              refine gx_iload_n hC dr_Mo_dual_68 rfl ?_
              refine gx_iald (f := (gq_i M 5)) hC dr_Mo_dual_69 (by decide) rfl hz67 ?_
              refine gx_goto (tgt := 74) hC dr_Mo_dual_70 (by decide) ?_
              refine gx_istore hC dr_Mo_dual_74 (by decide) ?_
              refine gx_aload_n hC dr_Mo_dual_76 rfl ?_
              refine gx_iload hC dr_Mo_dual_77 rfl ?_
              refine gx_aload_n hC dr_Mo_dual_79 rfl ?_
              refine gx_get hC dr_Mo_dual_80 lf_Mo_7 (by decide) rfl rfl ?_
              refine gx_iload hC dr_Mo_dual_83 rfl ?_
              obtain ⟨hz90, h⟩ := gk_of h
              refine gx_iald (f := (gq_i M 0)) hC dr_Mo_dual_85 (by decide) rfl hz90 ?_
              refine gx_iload_n hC dr_Mo_dual_86 rfl ?_
              obtain ⟨q91, e92, h⟩ := gb_of h
              refine gx_vI hC dr_Mo_dual_87 lk_Mo_124 (mt_Mo_isUnit e92) rfl (by decide) ⟨by decide, by decide⟩ ⟨by decide, by decide⟩ (by decide) ⟨_, _, rfl⟩ rfl rfl (Nat.le_of_ble_eq_true rfl) (fun z c2 hp => ?_)
              obtain ⟨rfl, rfl⟩ := hp
              refine gx_if_ne (tgt := 97) hC dr_Mo_dual_90 (by decide) (fun hc93 => ?_) (fun hc93 => ?_)
              · rw [if_neg hc93] at h
                refine gx_aload_n hC dr_Mo_dual_97 rfl ?_
                refine gx_aload_n hC dr_Mo_dual_98 rfl ?_
                refine gx_get hC dr_Mo_dual_99 lf_Mo_7 (by decide) rfl rfl ?_
                refine gx_iload hC dr_Mo_dual_102 rfl ?_
                refine gx_iald (f := (gq_i M 0)) hC dr_Mo_dual_104 (by decide) rfl hz90 ?_
                refine gx_iload_n hC dr_Mo_dual_105 rfl ?_
                refine gx_iconst (v := (-1)) hC dr_Mo_dual_106 (by decide) ?_
                refine gx_iconst (v := 0) hC dr_Mo_dual_107 (by decide) ?_
                obtain ⟨q94, e95, h⟩ := gb_of h
                refine gx_vV hC dr_Mo_dual_108 lk_Mo_145 (mt_Mo_reckon e95) rfl (by decide) ⟨by decide, by decide⟩ ⟨by decide, by decide⟩ (by decide) ⟨_, _, rfl⟩ rfl rfl (Nat.le_of_ble_eq_true rfl) (fun c2 hp => ?_)
                subst hp
                refine gx_aload_n hC dr_Mo_dual_111 rfl ?_
                refine gx_get hC dr_Mo_dual_112 lf_Mo_69 (by decide) rfl rfl ?_
                refine gx_iconst (v := 0) hC dr_Mo_dual_115 (by decide) ?_
                have hz96 : 0 ≤ (0 : Int32).toInt ∧ (0 : Int32).toInt < ((4096 : Nat) : Int) := by decide
                refine gx_lald (f := (gq_l q94 5)) hC dr_Mo_dual_116 (by decide) rfl hz96 ?_
                refine gx_lstore hC dr_Mo_dual_117 (by decide) ?_
                refine gx_iload_n hC dr_Mo_dual_119 rfl ?_
                refine gx_iconst (v := 1) hC dr_Mo_dual_120 (by decide) ?_
                refine gx_icmp_ne (tgt := 136) hC dr_Mo_dual_121 (by decide) (fun hc97 => ?_) (fun hc97 => ?_)
                · rw [if_neg hc97] at h
                  refine gx_aload_n hC dr_Mo_dual_136 rfl ?_
                  refine gx_aload_n hC dr_Mo_dual_137 rfl ?_
                  refine gx_get hC dr_Mo_dual_138 lf_Mo_7 (by decide) rfl rfl ?_
                  refine gx_iload hC dr_Mo_dual_141 rfl ?_
                  refine gx_iald (f := (gq_i q94 0)) hC dr_Mo_dual_143 (by decide) rfl hz90 ?_
                  refine gx_iload_n hC dr_Mo_dual_144 rfl ?_
                  refine gx_iload hC dr_Mo_dual_145 rfl ?_
                  refine gx_iload_n hC dr_Mo_dual_147 rfl ?_
                  refine gx_if_ne (tgt := 155) hC dr_Mo_dual_148 (by decide) (fun hc104 => ?_) (fun hc104 => ?_)
                  · rw [if_neg hc104] at h
                    refine gx_iconst (v := (-1)) hC dr_Mo_dual_155 (by decide) ?_
                    obtain ⟨q107, e108, h⟩ := gb_of h
                    refine gx_vV hC dr_Mo_dual_156 lk_Mo_145 (mt_Mo_reckon e108) rfl (by decide) ⟨by decide, by decide⟩ ⟨by decide, by decide⟩ (by decide) ⟨_, _, rfl⟩ rfl rfl (Nat.le_of_ble_eq_true rfl) (fun c2 hp => ?_)
                    subst hp
                    refine gx_aload_n hC dr_Mo_dual_159 rfl ?_
                    refine gx_get hC dr_Mo_dual_160 lf_Mo_69 (by decide) rfl rfl ?_
                    refine gx_iconst (v := 0) hC dr_Mo_dual_163 (by decide) ?_
                    refine gx_lald (f := (gq_l q107 5)) hC dr_Mo_dual_164 (by decide) rfl hz96 ?_
                    refine gx_lload hC dr_Mo_dual_165 rfl ?_
                    refine gx_lsub hC dr_Mo_dual_167 ?_
                    cases h
                    exact hR (by decide) (by decide) dr_Mo_dual_168 ⟨rfl, rfl⟩
                  · rw [if_pos hc104] at h
                    refine gx_iconst (v := 1) hC dr_Mo_dual_151 (by decide) ?_
                    refine gx_goto (tgt := 156) hC dr_Mo_dual_152 (by decide) ?_
                    obtain ⟨q105, e106, h⟩ := gb_of h
                    refine gx_vV hC dr_Mo_dual_156 lk_Mo_145 (mt_Mo_reckon e106) rfl (by decide) ⟨by decide, by decide⟩ ⟨by decide, by decide⟩ (by decide) ⟨_, _, rfl⟩ rfl rfl (Nat.le_of_ble_eq_true rfl) (fun c2 hp => ?_)
                    subst hp
                    refine gx_aload_n hC dr_Mo_dual_159 rfl ?_
                    refine gx_get hC dr_Mo_dual_160 lf_Mo_69 (by decide) rfl rfl ?_
                    refine gx_iconst (v := 0) hC dr_Mo_dual_163 (by decide) ?_
                    refine gx_lald (f := (gq_l q105 5)) hC dr_Mo_dual_164 (by decide) rfl hz96 ?_
                    refine gx_lload hC dr_Mo_dual_165 rfl ?_
                    refine gx_lsub hC dr_Mo_dual_167 ?_
                    cases h
                    exact hR (by decide) (by decide) dr_Mo_dual_168 ⟨rfl, rfl⟩
                · rw [if_pos hc97] at h
                  refine gx_aload_n hC dr_Mo_dual_124 rfl ?_
                  refine gx_get hC dr_Mo_dual_125 lf_Mo_121 (by decide) rfl rfl ?_
                  refine gx_iconst (v := 1) hC dr_Mo_dual_128 (by decide) ?_
                  refine gx_icmp_ne (tgt := 136) hC dr_Mo_dual_129 (by decide) (fun hc98 => ?_) (fun hc98 => ?_)
                  · rw [if_neg hc98] at h
                    refine gx_aload_n hC dr_Mo_dual_136 rfl ?_
                    refine gx_aload_n hC dr_Mo_dual_137 rfl ?_
                    refine gx_get hC dr_Mo_dual_138 lf_Mo_7 (by decide) rfl rfl ?_
                    refine gx_iload hC dr_Mo_dual_141 rfl ?_
                    refine gx_iald (f := (gq_i q94 0)) hC dr_Mo_dual_143 (by decide) rfl hz90 ?_
                    refine gx_iload_n hC dr_Mo_dual_144 rfl ?_
                    refine gx_iload hC dr_Mo_dual_145 rfl ?_
                    refine gx_iload_n hC dr_Mo_dual_147 rfl ?_
                    refine gx_if_ne (tgt := 155) hC dr_Mo_dual_148 (by decide) (fun hc99 => ?_) (fun hc99 => ?_)
                    · rw [if_neg hc99] at h
                      refine gx_iconst (v := (-1)) hC dr_Mo_dual_155 (by decide) ?_
                      obtain ⟨q102, e103, h⟩ := gb_of h
                      refine gx_vV hC dr_Mo_dual_156 lk_Mo_145 (mt_Mo_reckon e103) rfl (by decide) ⟨by decide, by decide⟩ ⟨by decide, by decide⟩ (by decide) ⟨_, _, rfl⟩ rfl rfl (Nat.le_of_ble_eq_true rfl) (fun c2 hp => ?_)
                      subst hp
                      refine gx_aload_n hC dr_Mo_dual_159 rfl ?_
                      refine gx_get hC dr_Mo_dual_160 lf_Mo_69 (by decide) rfl rfl ?_
                      refine gx_iconst (v := 0) hC dr_Mo_dual_163 (by decide) ?_
                      refine gx_lald (f := (gq_l q102 5)) hC dr_Mo_dual_164 (by decide) rfl hz96 ?_
                      refine gx_lload hC dr_Mo_dual_165 rfl ?_
                      refine gx_lsub hC dr_Mo_dual_167 ?_
                      cases h
                      exact hR (by decide) (by decide) dr_Mo_dual_168 ⟨rfl, rfl⟩
                    · rw [if_pos hc99] at h
                      refine gx_iconst (v := 1) hC dr_Mo_dual_151 (by decide) ?_
                      refine gx_goto (tgt := 156) hC dr_Mo_dual_152 (by decide) ?_
                      obtain ⟨q100, e101, h⟩ := gb_of h
                      refine gx_vV hC dr_Mo_dual_156 lk_Mo_145 (mt_Mo_reckon e101) rfl (by decide) ⟨by decide, by decide⟩ ⟨by decide, by decide⟩ (by decide) ⟨_, _, rfl⟩ rfl rfl (Nat.le_of_ble_eq_true rfl) (fun c2 hp => ?_)
                      subst hp
                      refine gx_aload_n hC dr_Mo_dual_159 rfl ?_
                      refine gx_get hC dr_Mo_dual_160 lf_Mo_69 (by decide) rfl rfl ?_
                      refine gx_iconst (v := 0) hC dr_Mo_dual_163 (by decide) ?_
                      refine gx_lald (f := (gq_l q100 5)) hC dr_Mo_dual_164 (by decide) rfl hz96 ?_
                      refine gx_lload hC dr_Mo_dual_165 rfl ?_
                      refine gx_lsub hC dr_Mo_dual_167 ?_
                      cases h
                      exact hR (by decide) (by decide) dr_Mo_dual_168 ⟨rfl, rfl⟩
                  · rw [if_pos hc98] at h
                    refine gx_ldc2 (v := (-1)) hC dr_Mo_dual_132 lc_Mo_162 ?_
                    cases h
                    exact hR (by decide) (by decide) dr_Mo_dual_135 ⟨rfl, rfl⟩
              · rw [if_pos hc93] at h
                refine gx_ldc2 (v := (-1)) hC dr_Mo_dual_93 lc_Mo_162 ?_
                cases h
                exact hR (by decide) (by decide) dr_Mo_dual_96 ⟨rfl, rfl⟩
      · rw [if_neg hc66] at h
        refine gx_lconst hC dr_Mo_dual_33 ?_
        cases h
        exact hR (by decide) (by decide) dr_Mo_dual_34 ⟨rfl, rfl⟩
    · rw [if_neg hc65] at h
      refine gx_iload_n hC dr_Mo_dual_13 rfl ?_
      refine gx_iconst (v := 1) hC dr_Mo_dual_14 (by decide) ?_
      refine gx_icmp_ne (tgt := 22) hC dr_Mo_dual_15 (by decide) (fun hc127 => ?_) (fun hc127 => ?_)
      · rw [if_neg hc127] at h
        refine gx_iconst (v := 1) hC dr_Mo_dual_22 (by decide) ?_
        refine gx_put hC (by decide) dr_Mo_dual_23 lf_Mo_78 lp_Mo_thrown (by decide) rfl (Nat.le_of_ble_eq_true rfl) (fun _ => rfl) (fun _ => rfl) ma_F0 ?_
        refine gx_aload_n hC dr_Mo_dual_26 rfl ?_
        refine gx_get hC dr_Mo_dual_27 lf_Mo_78 (by decide) rfl rfl ?_
        refine gx_if_eq (tgt := 35) hC dr_Mo_dual_30 (by decide) (fun hc189 => ?_) (fun hc189 => ?_)
        · rw [if_pos hc189] at h
          refine gx_aload_n hC dr_Mo_dual_35 rfl ?_
          refine gx_get hC dr_Mo_dual_36 lf_Mo_33 (by decide) rfl rfl ?_
          refine gx_iload_n hC dr_Mo_dual_39 rfl ?_
          obtain ⟨hz190, h⟩ := gk_of h
          refine gx_iald (f := (gq_i M 5)) hC dr_Mo_dual_40 (by decide) rfl hz190 ?_
          refine gx_iconst (v := (-1)) hC dr_Mo_dual_41 (by decide) ?_
          refine gx_icmp_eq (tgt := 49) hC dr_Mo_dual_42 (by decide) (fun hc191 => ?_) (fun hc191 => ?_)
          · rw [if_pos hc191] at h
            refine gx_iconst (v := 0) hC dr_Mo_dual_49 (by decide) ?_
            refine gx_istore_n hC dr_Mo_dual_50 (by decide) ?_
            refine gx_iload_n hC dr_Mo_dual_51 rfl ?_
            refine gx_if_eq (tgt := 73) hC dr_Mo_dual_52 (by decide) (fun hc192 => ?_) (fun hc192 => ?_)
            · refine gx_iload_n hC dr_Mo_dual_73 rfl ?_
              refine gx_istore hC dr_Mo_dual_74 (by decide) ?_
              refine gx_aload_n hC dr_Mo_dual_76 rfl ?_
              refine gx_iload hC dr_Mo_dual_77 rfl ?_
              refine gx_aload_n hC dr_Mo_dual_79 rfl ?_
              refine gx_get hC dr_Mo_dual_80 lf_Mo_7 (by decide) rfl rfl ?_
              refine gx_iload hC dr_Mo_dual_83 rfl ?_
              refine gx_iald (f := (gq_i M 0)) hC dr_Mo_dual_85 (by decide) rfl hz190 ?_
              refine gx_iload_n hC dr_Mo_dual_86 rfl ?_
              obtain ⟨q193, e194, h⟩ := gb_of h
              refine gx_vI hC dr_Mo_dual_87 lk_Mo_124 (mt_Mo_isUnit e194) rfl (by decide) ⟨by decide, by decide⟩ ⟨by decide, by decide⟩ (by decide) ⟨_, _, rfl⟩ rfl rfl (Nat.le_of_ble_eq_true rfl) (fun z c2 hp => ?_)
              obtain ⟨rfl, rfl⟩ := hp
              refine gx_if_ne (tgt := 97) hC dr_Mo_dual_90 (by decide) (fun hc195 => ?_) (fun hc195 => ?_)
              · rw [if_neg hc195] at h
                refine gx_aload_n hC dr_Mo_dual_97 rfl ?_
                refine gx_aload_n hC dr_Mo_dual_98 rfl ?_
                refine gx_get hC dr_Mo_dual_99 lf_Mo_7 (by decide) rfl rfl ?_
                refine gx_iload hC dr_Mo_dual_102 rfl ?_
                refine gx_iald (f := (gq_i M 0)) hC dr_Mo_dual_104 (by decide) rfl hz190 ?_
                refine gx_iload_n hC dr_Mo_dual_105 rfl ?_
                refine gx_iconst (v := (-1)) hC dr_Mo_dual_106 (by decide) ?_
                refine gx_iconst (v := 0) hC dr_Mo_dual_107 (by decide) ?_
                obtain ⟨q196, e197, h⟩ := gb_of h
                refine gx_vV hC dr_Mo_dual_108 lk_Mo_145 (mt_Mo_reckon e197) rfl (by decide) ⟨by decide, by decide⟩ ⟨by decide, by decide⟩ (by decide) ⟨_, _, rfl⟩ rfl rfl (Nat.le_of_ble_eq_true rfl) (fun c2 hp => ?_)
                subst hp
                refine gx_aload_n hC dr_Mo_dual_111 rfl ?_
                refine gx_get hC dr_Mo_dual_112 lf_Mo_69 (by decide) rfl rfl ?_
                refine gx_iconst (v := 0) hC dr_Mo_dual_115 (by decide) ?_
                have hz198 : 0 ≤ (0 : Int32).toInt ∧ (0 : Int32).toInt < ((4096 : Nat) : Int) := by decide
                refine gx_lald (f := (gq_l q196 5)) hC dr_Mo_dual_116 (by decide) rfl hz198 ?_
                refine gx_lstore hC dr_Mo_dual_117 (by decide) ?_
                refine gx_iload_n hC dr_Mo_dual_119 rfl ?_
                refine gx_iconst (v := 1) hC dr_Mo_dual_120 (by decide) ?_
                refine gx_icmp_ne (tgt := 136) hC dr_Mo_dual_121 (by decide) (fun hc199 => ?_) (fun hc199 => ?_)
                · rw [if_neg hc199] at h
                  refine gx_aload_n hC dr_Mo_dual_136 rfl ?_
                  refine gx_aload_n hC dr_Mo_dual_137 rfl ?_
                  refine gx_get hC dr_Mo_dual_138 lf_Mo_7 (by decide) rfl rfl ?_
                  refine gx_iload hC dr_Mo_dual_141 rfl ?_
                  refine gx_iald (f := (gq_i q196 0)) hC dr_Mo_dual_143 (by decide) rfl hz190 ?_
                  refine gx_iload_n hC dr_Mo_dual_144 rfl ?_
                  refine gx_iload hC dr_Mo_dual_145 rfl ?_
                  refine gx_iload_n hC dr_Mo_dual_147 rfl ?_
                  refine gx_if_ne (tgt := 155) hC dr_Mo_dual_148 (by decide) (fun hc206 => ?_) (fun hc206 => ?_)
                  · rw [if_neg hc206] at h
                    refine gx_iconst (v := (-1)) hC dr_Mo_dual_155 (by decide) ?_
                    obtain ⟨q209, e210, h⟩ := gb_of h
                    refine gx_vV hC dr_Mo_dual_156 lk_Mo_145 (mt_Mo_reckon e210) rfl (by decide) ⟨by decide, by decide⟩ ⟨by decide, by decide⟩ (by decide) ⟨_, _, rfl⟩ rfl rfl (Nat.le_of_ble_eq_true rfl) (fun c2 hp => ?_)
                    subst hp
                    refine gx_aload_n hC dr_Mo_dual_159 rfl ?_
                    refine gx_get hC dr_Mo_dual_160 lf_Mo_69 (by decide) rfl rfl ?_
                    refine gx_iconst (v := 0) hC dr_Mo_dual_163 (by decide) ?_
                    refine gx_lald (f := (gq_l q209 5)) hC dr_Mo_dual_164 (by decide) rfl hz198 ?_
                    refine gx_lload hC dr_Mo_dual_165 rfl ?_
                    refine gx_lsub hC dr_Mo_dual_167 ?_
                    cases h
                    exact hR (by decide) (by decide) dr_Mo_dual_168 ⟨rfl, rfl⟩
                  · rw [if_pos hc206] at h
                    refine gx_iconst (v := 1) hC dr_Mo_dual_151 (by decide) ?_
                    refine gx_goto (tgt := 156) hC dr_Mo_dual_152 (by decide) ?_
                    obtain ⟨q207, e208, h⟩ := gb_of h
                    refine gx_vV hC dr_Mo_dual_156 lk_Mo_145 (mt_Mo_reckon e208) rfl (by decide) ⟨by decide, by decide⟩ ⟨by decide, by decide⟩ (by decide) ⟨_, _, rfl⟩ rfl rfl (Nat.le_of_ble_eq_true rfl) (fun c2 hp => ?_)
                    subst hp
                    refine gx_aload_n hC dr_Mo_dual_159 rfl ?_
                    refine gx_get hC dr_Mo_dual_160 lf_Mo_69 (by decide) rfl rfl ?_
                    refine gx_iconst (v := 0) hC dr_Mo_dual_163 (by decide) ?_
                    refine gx_lald (f := (gq_l q207 5)) hC dr_Mo_dual_164 (by decide) rfl hz198 ?_
                    refine gx_lload hC dr_Mo_dual_165 rfl ?_
                    refine gx_lsub hC dr_Mo_dual_167 ?_
                    cases h
                    exact hR (by decide) (by decide) dr_Mo_dual_168 ⟨rfl, rfl⟩
                · rw [if_pos hc199] at h
                  refine gx_aload_n hC dr_Mo_dual_124 rfl ?_
                  refine gx_get hC dr_Mo_dual_125 lf_Mo_121 (by decide) rfl rfl ?_
                  refine gx_iconst (v := 1) hC dr_Mo_dual_128 (by decide) ?_
                  refine gx_icmp_ne (tgt := 136) hC dr_Mo_dual_129 (by decide) (fun hc200 => ?_) (fun hc200 => ?_)
                  · rw [if_neg hc200] at h
                    refine gx_aload_n hC dr_Mo_dual_136 rfl ?_
                    refine gx_aload_n hC dr_Mo_dual_137 rfl ?_
                    refine gx_get hC dr_Mo_dual_138 lf_Mo_7 (by decide) rfl rfl ?_
                    refine gx_iload hC dr_Mo_dual_141 rfl ?_
                    refine gx_iald (f := (gq_i q196 0)) hC dr_Mo_dual_143 (by decide) rfl hz190 ?_
                    refine gx_iload_n hC dr_Mo_dual_144 rfl ?_
                    refine gx_iload hC dr_Mo_dual_145 rfl ?_
                    refine gx_iload_n hC dr_Mo_dual_147 rfl ?_
                    refine gx_if_ne (tgt := 155) hC dr_Mo_dual_148 (by decide) (fun hc201 => ?_) (fun hc201 => ?_)
                    · rw [if_neg hc201] at h
                      refine gx_iconst (v := (-1)) hC dr_Mo_dual_155 (by decide) ?_
                      obtain ⟨q204, e205, h⟩ := gb_of h
                      refine gx_vV hC dr_Mo_dual_156 lk_Mo_145 (mt_Mo_reckon e205) rfl (by decide) ⟨by decide, by decide⟩ ⟨by decide, by decide⟩ (by decide) ⟨_, _, rfl⟩ rfl rfl (Nat.le_of_ble_eq_true rfl) (fun c2 hp => ?_)
                      subst hp
                      refine gx_aload_n hC dr_Mo_dual_159 rfl ?_
                      refine gx_get hC dr_Mo_dual_160 lf_Mo_69 (by decide) rfl rfl ?_
                      refine gx_iconst (v := 0) hC dr_Mo_dual_163 (by decide) ?_
                      refine gx_lald (f := (gq_l q204 5)) hC dr_Mo_dual_164 (by decide) rfl hz198 ?_
                      refine gx_lload hC dr_Mo_dual_165 rfl ?_
                      refine gx_lsub hC dr_Mo_dual_167 ?_
                      cases h
                      exact hR (by decide) (by decide) dr_Mo_dual_168 ⟨rfl, rfl⟩
                    · rw [if_pos hc201] at h
                      refine gx_iconst (v := 1) hC dr_Mo_dual_151 (by decide) ?_
                      refine gx_goto (tgt := 156) hC dr_Mo_dual_152 (by decide) ?_
                      obtain ⟨q202, e203, h⟩ := gb_of h
                      refine gx_vV hC dr_Mo_dual_156 lk_Mo_145 (mt_Mo_reckon e203) rfl (by decide) ⟨by decide, by decide⟩ ⟨by decide, by decide⟩ (by decide) ⟨_, _, rfl⟩ rfl rfl (Nat.le_of_ble_eq_true rfl) (fun c2 hp => ?_)
                      subst hp
                      refine gx_aload_n hC dr_Mo_dual_159 rfl ?_
                      refine gx_get hC dr_Mo_dual_160 lf_Mo_69 (by decide) rfl rfl ?_
                      refine gx_iconst (v := 0) hC dr_Mo_dual_163 (by decide) ?_
                      refine gx_lald (f := (gq_l q202 5)) hC dr_Mo_dual_164 (by decide) rfl hz198 ?_
                      refine gx_lload hC dr_Mo_dual_165 rfl ?_
                      refine gx_lsub hC dr_Mo_dual_167 ?_
                      cases h
                      exact hR (by decide) (by decide) dr_Mo_dual_168 ⟨rfl, rfl⟩
                  · rw [if_pos hc200] at h
                    refine gx_ldc2 (v := (-1)) hC dr_Mo_dual_132 lc_Mo_162 ?_
                    cases h
                    exact hR (by decide) (by decide) dr_Mo_dual_135 ⟨rfl, rfl⟩
              · rw [if_pos hc195] at h
                refine gx_ldc2 (v := (-1)) hC dr_Mo_dual_93 lc_Mo_162 ?_
                cases h
                exact hR (by decide) (by decide) dr_Mo_dual_96 ⟨rfl, rfl⟩
            · exact absurd hc192 (by decide)
          · rw [if_neg hc191] at h
            refine gx_iconst (v := 1) hC dr_Mo_dual_45 (by decide) ?_
            refine gx_goto (tgt := 50) hC dr_Mo_dual_46 (by decide) ?_
            refine gx_istore_n hC dr_Mo_dual_50 (by decide) ?_
            refine gx_iload_n hC dr_Mo_dual_51 rfl ?_
            refine gx_if_eq (tgt := 73) hC dr_Mo_dual_52 (by decide) (fun hc211 => ?_) (fun hc211 => ?_)
            · exact absurd hc211 (by decide)
            · refine gx_aload_n hC dr_Mo_dual_55 rfl ?_
              refine gx_get hC dr_Mo_dual_56 lf_Mo_36 (by decide) rfl rfl ?_
              refine gx_iload_n hC dr_Mo_dual_59 rfl ?_
              refine gx_zald (f := (gq_i M 6)) hC dr_Mo_dual_60 (by decide) rfl hz190 ?_
              refine gx_if_ne (tgt := 73) hC dr_Mo_dual_61 (by decide) (fun hc212 => ?_) (fun hc212 => ?_)
              · rw [if_neg hc212] at h
                refine gx_iload_n hC dr_Mo_dual_73 rfl ?_
                refine gx_istore hC dr_Mo_dual_74 (by decide) ?_
                refine gx_aload_n hC dr_Mo_dual_76 rfl ?_
                refine gx_iload hC dr_Mo_dual_77 rfl ?_
                refine gx_aload_n hC dr_Mo_dual_79 rfl ?_
                refine gx_get hC dr_Mo_dual_80 lf_Mo_7 (by decide) rfl rfl ?_
                refine gx_iload hC dr_Mo_dual_83 rfl ?_
                refine gx_iald (f := (gq_i M 0)) hC dr_Mo_dual_85 (by decide) rfl hz190 ?_
                refine gx_iload_n hC dr_Mo_dual_86 rfl ?_
                obtain ⟨q232, e233, h⟩ := gb_of h
                refine gx_vI hC dr_Mo_dual_87 lk_Mo_124 (mt_Mo_isUnit e233) rfl (by decide) ⟨by decide, by decide⟩ ⟨by decide, by decide⟩ (by decide) ⟨_, _, rfl⟩ rfl rfl (Nat.le_of_ble_eq_true rfl) (fun z c2 hp => ?_)
                obtain ⟨rfl, rfl⟩ := hp
                refine gx_if_ne (tgt := 97) hC dr_Mo_dual_90 (by decide) (fun hc234 => ?_) (fun hc234 => ?_)
                · rw [if_neg hc234] at h
                  refine gx_aload_n hC dr_Mo_dual_97 rfl ?_
                  refine gx_aload_n hC dr_Mo_dual_98 rfl ?_
                  refine gx_get hC dr_Mo_dual_99 lf_Mo_7 (by decide) rfl rfl ?_
                  refine gx_iload hC dr_Mo_dual_102 rfl ?_
                  refine gx_iald (f := (gq_i M 0)) hC dr_Mo_dual_104 (by decide) rfl hz190 ?_
                  refine gx_iload_n hC dr_Mo_dual_105 rfl ?_
                  refine gx_iconst (v := (-1)) hC dr_Mo_dual_106 (by decide) ?_
                  refine gx_iconst (v := 0) hC dr_Mo_dual_107 (by decide) ?_
                  obtain ⟨q235, e236, h⟩ := gb_of h
                  refine gx_vV hC dr_Mo_dual_108 lk_Mo_145 (mt_Mo_reckon e236) rfl (by decide) ⟨by decide, by decide⟩ ⟨by decide, by decide⟩ (by decide) ⟨_, _, rfl⟩ rfl rfl (Nat.le_of_ble_eq_true rfl) (fun c2 hp => ?_)
                  subst hp
                  refine gx_aload_n hC dr_Mo_dual_111 rfl ?_
                  refine gx_get hC dr_Mo_dual_112 lf_Mo_69 (by decide) rfl rfl ?_
                  refine gx_iconst (v := 0) hC dr_Mo_dual_115 (by decide) ?_
                  have hz237 : 0 ≤ (0 : Int32).toInt ∧ (0 : Int32).toInt < ((4096 : Nat) : Int) := by decide
                  refine gx_lald (f := (gq_l q235 5)) hC dr_Mo_dual_116 (by decide) rfl hz237 ?_
                  refine gx_lstore hC dr_Mo_dual_117 (by decide) ?_
                  refine gx_iload_n hC dr_Mo_dual_119 rfl ?_
                  refine gx_iconst (v := 1) hC dr_Mo_dual_120 (by decide) ?_
                  refine gx_icmp_ne (tgt := 136) hC dr_Mo_dual_121 (by decide) (fun hc238 => ?_) (fun hc238 => ?_)
                  · rw [if_neg hc238] at h
                    refine gx_aload_n hC dr_Mo_dual_136 rfl ?_
                    refine gx_aload_n hC dr_Mo_dual_137 rfl ?_
                    refine gx_get hC dr_Mo_dual_138 lf_Mo_7 (by decide) rfl rfl ?_
                    refine gx_iload hC dr_Mo_dual_141 rfl ?_
                    refine gx_iald (f := (gq_i q235 0)) hC dr_Mo_dual_143 (by decide) rfl hz190 ?_
                    refine gx_iload_n hC dr_Mo_dual_144 rfl ?_
                    refine gx_iload hC dr_Mo_dual_145 rfl ?_
                    refine gx_iload_n hC dr_Mo_dual_147 rfl ?_
                    refine gx_if_ne (tgt := 155) hC dr_Mo_dual_148 (by decide) (fun hc245 => ?_) (fun hc245 => ?_)
                    · rw [if_neg hc245] at h
                      refine gx_iconst (v := (-1)) hC dr_Mo_dual_155 (by decide) ?_
                      obtain ⟨q248, e249, h⟩ := gb_of h
                      refine gx_vV hC dr_Mo_dual_156 lk_Mo_145 (mt_Mo_reckon e249) rfl (by decide) ⟨by decide, by decide⟩ ⟨by decide, by decide⟩ (by decide) ⟨_, _, rfl⟩ rfl rfl (Nat.le_of_ble_eq_true rfl) (fun c2 hp => ?_)
                      subst hp
                      refine gx_aload_n hC dr_Mo_dual_159 rfl ?_
                      refine gx_get hC dr_Mo_dual_160 lf_Mo_69 (by decide) rfl rfl ?_
                      refine gx_iconst (v := 0) hC dr_Mo_dual_163 (by decide) ?_
                      refine gx_lald (f := (gq_l q248 5)) hC dr_Mo_dual_164 (by decide) rfl hz237 ?_
                      refine gx_lload hC dr_Mo_dual_165 rfl ?_
                      refine gx_lsub hC dr_Mo_dual_167 ?_
                      cases h
                      exact hR (by decide) (by decide) dr_Mo_dual_168 ⟨rfl, rfl⟩
                    · rw [if_pos hc245] at h
                      refine gx_iconst (v := 1) hC dr_Mo_dual_151 (by decide) ?_
                      refine gx_goto (tgt := 156) hC dr_Mo_dual_152 (by decide) ?_
                      obtain ⟨q246, e247, h⟩ := gb_of h
                      refine gx_vV hC dr_Mo_dual_156 lk_Mo_145 (mt_Mo_reckon e247) rfl (by decide) ⟨by decide, by decide⟩ ⟨by decide, by decide⟩ (by decide) ⟨_, _, rfl⟩ rfl rfl (Nat.le_of_ble_eq_true rfl) (fun c2 hp => ?_)
                      subst hp
                      refine gx_aload_n hC dr_Mo_dual_159 rfl ?_
                      refine gx_get hC dr_Mo_dual_160 lf_Mo_69 (by decide) rfl rfl ?_
                      refine gx_iconst (v := 0) hC dr_Mo_dual_163 (by decide) ?_
                      refine gx_lald (f := (gq_l q246 5)) hC dr_Mo_dual_164 (by decide) rfl hz237 ?_
                      refine gx_lload hC dr_Mo_dual_165 rfl ?_
                      refine gx_lsub hC dr_Mo_dual_167 ?_
                      cases h
                      exact hR (by decide) (by decide) dr_Mo_dual_168 ⟨rfl, rfl⟩
                  · rw [if_pos hc238] at h
                    refine gx_aload_n hC dr_Mo_dual_124 rfl ?_
                    refine gx_get hC dr_Mo_dual_125 lf_Mo_121 (by decide) rfl rfl ?_
                    refine gx_iconst (v := 1) hC dr_Mo_dual_128 (by decide) ?_
                    refine gx_icmp_ne (tgt := 136) hC dr_Mo_dual_129 (by decide) (fun hc239 => ?_) (fun hc239 => ?_)
                    · rw [if_neg hc239] at h
                      refine gx_aload_n hC dr_Mo_dual_136 rfl ?_
                      refine gx_aload_n hC dr_Mo_dual_137 rfl ?_
                      refine gx_get hC dr_Mo_dual_138 lf_Mo_7 (by decide) rfl rfl ?_
                      refine gx_iload hC dr_Mo_dual_141 rfl ?_
                      refine gx_iald (f := (gq_i q235 0)) hC dr_Mo_dual_143 (by decide) rfl hz190 ?_
                      refine gx_iload_n hC dr_Mo_dual_144 rfl ?_
                      refine gx_iload hC dr_Mo_dual_145 rfl ?_
                      refine gx_iload_n hC dr_Mo_dual_147 rfl ?_
                      refine gx_if_ne (tgt := 155) hC dr_Mo_dual_148 (by decide) (fun hc240 => ?_) (fun hc240 => ?_)
                      · rw [if_neg hc240] at h
                        refine gx_iconst (v := (-1)) hC dr_Mo_dual_155 (by decide) ?_
                        obtain ⟨q243, e244, h⟩ := gb_of h
                        refine gx_vV hC dr_Mo_dual_156 lk_Mo_145 (mt_Mo_reckon e244) rfl (by decide) ⟨by decide, by decide⟩ ⟨by decide, by decide⟩ (by decide) ⟨_, _, rfl⟩ rfl rfl (Nat.le_of_ble_eq_true rfl) (fun c2 hp => ?_)
                        subst hp
                        refine gx_aload_n hC dr_Mo_dual_159 rfl ?_
                        refine gx_get hC dr_Mo_dual_160 lf_Mo_69 (by decide) rfl rfl ?_
                        refine gx_iconst (v := 0) hC dr_Mo_dual_163 (by decide) ?_
                        refine gx_lald (f := (gq_l q243 5)) hC dr_Mo_dual_164 (by decide) rfl hz237 ?_
                        refine gx_lload hC dr_Mo_dual_165 rfl ?_
                        refine gx_lsub hC dr_Mo_dual_167 ?_
                        cases h
                        exact hR (by decide) (by decide) dr_Mo_dual_168 ⟨rfl, rfl⟩
                      · rw [if_pos hc240] at h
                        refine gx_iconst (v := 1) hC dr_Mo_dual_151 (by decide) ?_
                        refine gx_goto (tgt := 156) hC dr_Mo_dual_152 (by decide) ?_
                        obtain ⟨q241, e242, h⟩ := gb_of h
                        refine gx_vV hC dr_Mo_dual_156 lk_Mo_145 (mt_Mo_reckon e242) rfl (by decide) ⟨by decide, by decide⟩ ⟨by decide, by decide⟩ (by decide) ⟨_, _, rfl⟩ rfl rfl (Nat.le_of_ble_eq_true rfl) (fun c2 hp => ?_)
                        subst hp
                        refine gx_aload_n hC dr_Mo_dual_159 rfl ?_
                        refine gx_get hC dr_Mo_dual_160 lf_Mo_69 (by decide) rfl rfl ?_
                        refine gx_iconst (v := 0) hC dr_Mo_dual_163 (by decide) ?_
                        refine gx_lald (f := (gq_l q241 5)) hC dr_Mo_dual_164 (by decide) rfl hz237 ?_
                        refine gx_lload hC dr_Mo_dual_165 rfl ?_
                        refine gx_lsub hC dr_Mo_dual_167 ?_
                        cases h
                        exact hR (by decide) (by decide) dr_Mo_dual_168 ⟨rfl, rfl⟩
                    · rw [if_pos hc239] at h
                      refine gx_ldc2 (v := (-1)) hC dr_Mo_dual_132 lc_Mo_162 ?_
                      cases h
                      exact hR (by decide) (by decide) dr_Mo_dual_135 ⟨rfl, rfl⟩
                · rw [if_pos hc234] at h
                  refine gx_ldc2 (v := (-1)) hC dr_Mo_dual_93 lc_Mo_162 ?_
                  cases h
                  exact hR (by decide) (by decide) dr_Mo_dual_96 ⟨rfl, rfl⟩
              · rw [if_pos hc212] at h
                refine gx_aload_n hC dr_Mo_dual_64 rfl ?_
                refine gx_get hC dr_Mo_dual_65 lf_Mo_33 (by decide) rfl rfl ?_
                refine gx_iload_n hC dr_Mo_dual_68 rfl ?_
                refine gx_iald (f := (gq_i M 5)) hC dr_Mo_dual_69 (by decide) rfl hz190 ?_
                refine gx_goto (tgt := 74) hC dr_Mo_dual_70 (by decide) ?_
                refine gx_istore hC dr_Mo_dual_74 (by decide) ?_
                refine gx_aload_n hC dr_Mo_dual_76 rfl ?_
                refine gx_iload hC dr_Mo_dual_77 rfl ?_
                refine gx_aload_n hC dr_Mo_dual_79 rfl ?_
                refine gx_get hC dr_Mo_dual_80 lf_Mo_7 (by decide) rfl rfl ?_
                refine gx_iload hC dr_Mo_dual_83 rfl ?_
                obtain ⟨hz213, h⟩ := gk_of h
                refine gx_iald (f := (gq_i M 0)) hC dr_Mo_dual_85 (by decide) rfl hz213 ?_
                refine gx_iload_n hC dr_Mo_dual_86 rfl ?_
                obtain ⟨q214, e215, h⟩ := gb_of h
                refine gx_vI hC dr_Mo_dual_87 lk_Mo_124 (mt_Mo_isUnit e215) rfl (by decide) ⟨by decide, by decide⟩ ⟨by decide, by decide⟩ (by decide) ⟨_, _, rfl⟩ rfl rfl (Nat.le_of_ble_eq_true rfl) (fun z c2 hp => ?_)
                obtain ⟨rfl, rfl⟩ := hp
                refine gx_if_ne (tgt := 97) hC dr_Mo_dual_90 (by decide) (fun hc216 => ?_) (fun hc216 => ?_)
                · rw [if_neg hc216] at h
                  refine gx_aload_n hC dr_Mo_dual_97 rfl ?_
                  refine gx_aload_n hC dr_Mo_dual_98 rfl ?_
                  refine gx_get hC dr_Mo_dual_99 lf_Mo_7 (by decide) rfl rfl ?_
                  refine gx_iload hC dr_Mo_dual_102 rfl ?_
                  refine gx_iald (f := (gq_i M 0)) hC dr_Mo_dual_104 (by decide) rfl hz213 ?_
                  refine gx_iload_n hC dr_Mo_dual_105 rfl ?_
                  refine gx_iconst (v := (-1)) hC dr_Mo_dual_106 (by decide) ?_
                  refine gx_iconst (v := 0) hC dr_Mo_dual_107 (by decide) ?_
                  obtain ⟨q217, e218, h⟩ := gb_of h
                  refine gx_vV hC dr_Mo_dual_108 lk_Mo_145 (mt_Mo_reckon e218) rfl (by decide) ⟨by decide, by decide⟩ ⟨by decide, by decide⟩ (by decide) ⟨_, _, rfl⟩ rfl rfl (Nat.le_of_ble_eq_true rfl) (fun c2 hp => ?_)
                  subst hp
                  refine gx_aload_n hC dr_Mo_dual_111 rfl ?_
                  refine gx_get hC dr_Mo_dual_112 lf_Mo_69 (by decide) rfl rfl ?_
                  refine gx_iconst (v := 0) hC dr_Mo_dual_115 (by decide) ?_
                  have hz219 : 0 ≤ (0 : Int32).toInt ∧ (0 : Int32).toInt < ((4096 : Nat) : Int) := by decide
                  refine gx_lald (f := (gq_l q217 5)) hC dr_Mo_dual_116 (by decide) rfl hz219 ?_
                  refine gx_lstore hC dr_Mo_dual_117 (by decide) ?_
                  refine gx_iload_n hC dr_Mo_dual_119 rfl ?_
                  refine gx_iconst (v := 1) hC dr_Mo_dual_120 (by decide) ?_
                  refine gx_icmp_ne (tgt := 136) hC dr_Mo_dual_121 (by decide) (fun hc220 => ?_) (fun hc220 => ?_)
                  · rw [if_neg hc220] at h
                    refine gx_aload_n hC dr_Mo_dual_136 rfl ?_
                    refine gx_aload_n hC dr_Mo_dual_137 rfl ?_
                    refine gx_get hC dr_Mo_dual_138 lf_Mo_7 (by decide) rfl rfl ?_
                    refine gx_iload hC dr_Mo_dual_141 rfl ?_
                    refine gx_iald (f := (gq_i q217 0)) hC dr_Mo_dual_143 (by decide) rfl hz213 ?_
                    refine gx_iload_n hC dr_Mo_dual_144 rfl ?_
                    refine gx_iload hC dr_Mo_dual_145 rfl ?_
                    refine gx_iload_n hC dr_Mo_dual_147 rfl ?_
                    refine gx_if_ne (tgt := 155) hC dr_Mo_dual_148 (by decide) (fun hc227 => ?_) (fun hc227 => ?_)
                    · rw [if_neg hc227] at h
                      refine gx_iconst (v := (-1)) hC dr_Mo_dual_155 (by decide) ?_
                      obtain ⟨q230, e231, h⟩ := gb_of h
                      refine gx_vV hC dr_Mo_dual_156 lk_Mo_145 (mt_Mo_reckon e231) rfl (by decide) ⟨by decide, by decide⟩ ⟨by decide, by decide⟩ (by decide) ⟨_, _, rfl⟩ rfl rfl (Nat.le_of_ble_eq_true rfl) (fun c2 hp => ?_)
                      subst hp
                      refine gx_aload_n hC dr_Mo_dual_159 rfl ?_
                      refine gx_get hC dr_Mo_dual_160 lf_Mo_69 (by decide) rfl rfl ?_
                      refine gx_iconst (v := 0) hC dr_Mo_dual_163 (by decide) ?_
                      refine gx_lald (f := (gq_l q230 5)) hC dr_Mo_dual_164 (by decide) rfl hz219 ?_
                      refine gx_lload hC dr_Mo_dual_165 rfl ?_
                      refine gx_lsub hC dr_Mo_dual_167 ?_
                      cases h
                      exact hR (by decide) (by decide) dr_Mo_dual_168 ⟨rfl, rfl⟩
                    · rw [if_pos hc227] at h
                      refine gx_iconst (v := 1) hC dr_Mo_dual_151 (by decide) ?_
                      refine gx_goto (tgt := 156) hC dr_Mo_dual_152 (by decide) ?_
                      obtain ⟨q228, e229, h⟩ := gb_of h
                      refine gx_vV hC dr_Mo_dual_156 lk_Mo_145 (mt_Mo_reckon e229) rfl (by decide) ⟨by decide, by decide⟩ ⟨by decide, by decide⟩ (by decide) ⟨_, _, rfl⟩ rfl rfl (Nat.le_of_ble_eq_true rfl) (fun c2 hp => ?_)
                      subst hp
                      refine gx_aload_n hC dr_Mo_dual_159 rfl ?_
                      refine gx_get hC dr_Mo_dual_160 lf_Mo_69 (by decide) rfl rfl ?_
                      refine gx_iconst (v := 0) hC dr_Mo_dual_163 (by decide) ?_
                      refine gx_lald (f := (gq_l q228 5)) hC dr_Mo_dual_164 (by decide) rfl hz219 ?_
                      refine gx_lload hC dr_Mo_dual_165 rfl ?_
                      refine gx_lsub hC dr_Mo_dual_167 ?_
                      cases h
                      exact hR (by decide) (by decide) dr_Mo_dual_168 ⟨rfl, rfl⟩
                  · rw [if_pos hc220] at h
                    refine gx_aload_n hC dr_Mo_dual_124 rfl ?_
                    refine gx_get hC dr_Mo_dual_125 lf_Mo_121 (by decide) rfl rfl ?_
                    refine gx_iconst (v := 1) hC dr_Mo_dual_128 (by decide) ?_
                    refine gx_icmp_ne (tgt := 136) hC dr_Mo_dual_129 (by decide) (fun hc221 => ?_) (fun hc221 => ?_)
                    · rw [if_neg hc221] at h
                      refine gx_aload_n hC dr_Mo_dual_136 rfl ?_
                      refine gx_aload_n hC dr_Mo_dual_137 rfl ?_
                      refine gx_get hC dr_Mo_dual_138 lf_Mo_7 (by decide) rfl rfl ?_
                      refine gx_iload hC dr_Mo_dual_141 rfl ?_
                      refine gx_iald (f := (gq_i q217 0)) hC dr_Mo_dual_143 (by decide) rfl hz213 ?_
                      refine gx_iload_n hC dr_Mo_dual_144 rfl ?_
                      refine gx_iload hC dr_Mo_dual_145 rfl ?_
                      refine gx_iload_n hC dr_Mo_dual_147 rfl ?_
                      refine gx_if_ne (tgt := 155) hC dr_Mo_dual_148 (by decide) (fun hc222 => ?_) (fun hc222 => ?_)
                      · rw [if_neg hc222] at h
                        refine gx_iconst (v := (-1)) hC dr_Mo_dual_155 (by decide) ?_
                        obtain ⟨q225, e226, h⟩ := gb_of h
                        refine gx_vV hC dr_Mo_dual_156 lk_Mo_145 (mt_Mo_reckon e226) rfl (by decide) ⟨by decide, by decide⟩ ⟨by decide, by decide⟩ (by decide) ⟨_, _, rfl⟩ rfl rfl (Nat.le_of_ble_eq_true rfl) (fun c2 hp => ?_)
                        subst hp
                        refine gx_aload_n hC dr_Mo_dual_159 rfl ?_
                        refine gx_get hC dr_Mo_dual_160 lf_Mo_69 (by decide) rfl rfl ?_
                        refine gx_iconst (v := 0) hC dr_Mo_dual_163 (by decide) ?_
                        refine gx_lald (f := (gq_l q225 5)) hC dr_Mo_dual_164 (by decide) rfl hz219 ?_
                        refine gx_lload hC dr_Mo_dual_165 rfl ?_
                        refine gx_lsub hC dr_Mo_dual_167 ?_
                        cases h
                        exact hR (by decide) (by decide) dr_Mo_dual_168 ⟨rfl, rfl⟩
                      · rw [if_pos hc222] at h
                        refine gx_iconst (v := 1) hC dr_Mo_dual_151 (by decide) ?_
                        refine gx_goto (tgt := 156) hC dr_Mo_dual_152 (by decide) ?_
                        obtain ⟨q223, e224, h⟩ := gb_of h
                        refine gx_vV hC dr_Mo_dual_156 lk_Mo_145 (mt_Mo_reckon e224) rfl (by decide) ⟨by decide, by decide⟩ ⟨by decide, by decide⟩ (by decide) ⟨_, _, rfl⟩ rfl rfl (Nat.le_of_ble_eq_true rfl) (fun c2 hp => ?_)
                        subst hp
                        refine gx_aload_n hC dr_Mo_dual_159 rfl ?_
                        refine gx_get hC dr_Mo_dual_160 lf_Mo_69 (by decide) rfl rfl ?_
                        refine gx_iconst (v := 0) hC dr_Mo_dual_163 (by decide) ?_
                        refine gx_lald (f := (gq_l q223 5)) hC dr_Mo_dual_164 (by decide) rfl hz219 ?_
                        refine gx_lload hC dr_Mo_dual_165 rfl ?_
                        refine gx_lsub hC dr_Mo_dual_167 ?_
                        cases h
                        exact hR (by decide) (by decide) dr_Mo_dual_168 ⟨rfl, rfl⟩
                    · rw [if_pos hc221] at h
                      refine gx_ldc2 (v := (-1)) hC dr_Mo_dual_132 lc_Mo_162 ?_
                      cases h
                      exact hR (by decide) (by decide) dr_Mo_dual_135 ⟨rfl, rfl⟩
                · rw [if_pos hc216] at h
                  refine gx_ldc2 (v := (-1)) hC dr_Mo_dual_93 lc_Mo_162 ?_
                  cases h
                  exact hR (by decide) (by decide) dr_Mo_dual_96 ⟨rfl, rfl⟩
        · rw [if_neg hc189] at h
          refine gx_lconst hC dr_Mo_dual_33 ?_
          cases h
          exact hR (by decide) (by decide) dr_Mo_dual_34 ⟨rfl, rfl⟩
      · rw [if_pos hc127] at h
        refine gx_iconst (v := 0) hC dr_Mo_dual_18 (by decide) ?_
        refine gx_goto (tgt := 23) hC dr_Mo_dual_19 (by decide) ?_
        refine gx_put hC (by decide) dr_Mo_dual_23 lf_Mo_78 lp_Mo_thrown (by decide) rfl (Nat.le_of_ble_eq_true rfl) (fun _ => rfl) (fun _ => rfl) ma_F0 ?_
        refine gx_aload_n hC dr_Mo_dual_26 rfl ?_
        refine gx_get hC dr_Mo_dual_27 lf_Mo_78 (by decide) rfl rfl ?_
        refine gx_if_eq (tgt := 35) hC dr_Mo_dual_30 (by decide) (fun hc128 => ?_) (fun hc128 => ?_)
        · rw [if_pos hc128] at h
          refine gx_aload_n hC dr_Mo_dual_35 rfl ?_
          refine gx_get hC dr_Mo_dual_36 lf_Mo_33 (by decide) rfl rfl ?_
          refine gx_iload_n hC dr_Mo_dual_39 rfl ?_
          obtain ⟨hz129, h⟩ := gk_of h
          refine gx_iald (f := (gq_i M 5)) hC dr_Mo_dual_40 (by decide) rfl hz129 ?_
          refine gx_iconst (v := (-1)) hC dr_Mo_dual_41 (by decide) ?_
          refine gx_icmp_eq (tgt := 49) hC dr_Mo_dual_42 (by decide) (fun hc130 => ?_) (fun hc130 => ?_)
          · rw [if_pos hc130] at h
            refine gx_iconst (v := 0) hC dr_Mo_dual_49 (by decide) ?_
            refine gx_istore_n hC dr_Mo_dual_50 (by decide) ?_
            refine gx_iload_n hC dr_Mo_dual_51 rfl ?_
            refine gx_if_eq (tgt := 73) hC dr_Mo_dual_52 (by decide) (fun hc131 => ?_) (fun hc131 => ?_)
            · refine gx_iload_n hC dr_Mo_dual_73 rfl ?_
              refine gx_istore hC dr_Mo_dual_74 (by decide) ?_
              refine gx_aload_n hC dr_Mo_dual_76 rfl ?_
              refine gx_iload hC dr_Mo_dual_77 rfl ?_
              refine gx_aload_n hC dr_Mo_dual_79 rfl ?_
              refine gx_get hC dr_Mo_dual_80 lf_Mo_7 (by decide) rfl rfl ?_
              refine gx_iload hC dr_Mo_dual_83 rfl ?_
              refine gx_iald (f := (gq_i M 0)) hC dr_Mo_dual_85 (by decide) rfl hz129 ?_
              refine gx_iload_n hC dr_Mo_dual_86 rfl ?_
              obtain ⟨q132, e133, h⟩ := gb_of h
              refine gx_vI hC dr_Mo_dual_87 lk_Mo_124 (mt_Mo_isUnit e133) rfl (by decide) ⟨by decide, by decide⟩ ⟨by decide, by decide⟩ (by decide) ⟨_, _, rfl⟩ rfl rfl (Nat.le_of_ble_eq_true rfl) (fun z c2 hp => ?_)
              obtain ⟨rfl, rfl⟩ := hp
              refine gx_if_ne (tgt := 97) hC dr_Mo_dual_90 (by decide) (fun hc134 => ?_) (fun hc134 => ?_)
              · rw [if_neg hc134] at h
                refine gx_aload_n hC dr_Mo_dual_97 rfl ?_
                refine gx_aload_n hC dr_Mo_dual_98 rfl ?_
                refine gx_get hC dr_Mo_dual_99 lf_Mo_7 (by decide) rfl rfl ?_
                refine gx_iload hC dr_Mo_dual_102 rfl ?_
                refine gx_iald (f := (gq_i M 0)) hC dr_Mo_dual_104 (by decide) rfl hz129 ?_
                refine gx_iload_n hC dr_Mo_dual_105 rfl ?_
                refine gx_iconst (v := (-1)) hC dr_Mo_dual_106 (by decide) ?_
                refine gx_iconst (v := 0) hC dr_Mo_dual_107 (by decide) ?_
                obtain ⟨q135, e136, h⟩ := gb_of h
                refine gx_vV hC dr_Mo_dual_108 lk_Mo_145 (mt_Mo_reckon e136) rfl (by decide) ⟨by decide, by decide⟩ ⟨by decide, by decide⟩ (by decide) ⟨_, _, rfl⟩ rfl rfl (Nat.le_of_ble_eq_true rfl) (fun c2 hp => ?_)
                subst hp
                refine gx_aload_n hC dr_Mo_dual_111 rfl ?_
                refine gx_get hC dr_Mo_dual_112 lf_Mo_69 (by decide) rfl rfl ?_
                refine gx_iconst (v := 0) hC dr_Mo_dual_115 (by decide) ?_
                have hz137 : 0 ≤ (0 : Int32).toInt ∧ (0 : Int32).toInt < ((4096 : Nat) : Int) := by decide
                refine gx_lald (f := (gq_l q135 5)) hC dr_Mo_dual_116 (by decide) rfl hz137 ?_
                refine gx_lstore hC dr_Mo_dual_117 (by decide) ?_
                refine gx_iload_n hC dr_Mo_dual_119 rfl ?_
                refine gx_iconst (v := 1) hC dr_Mo_dual_120 (by decide) ?_
                refine gx_icmp_ne (tgt := 136) hC dr_Mo_dual_121 (by decide) (fun hc138 => ?_) (fun hc138 => ?_)
                · rw [if_neg hc138] at h
                  refine gx_aload_n hC dr_Mo_dual_136 rfl ?_
                  refine gx_aload_n hC dr_Mo_dual_137 rfl ?_
                  refine gx_get hC dr_Mo_dual_138 lf_Mo_7 (by decide) rfl rfl ?_
                  refine gx_iload hC dr_Mo_dual_141 rfl ?_
                  refine gx_iald (f := (gq_i q135 0)) hC dr_Mo_dual_143 (by decide) rfl hz129 ?_
                  refine gx_iload_n hC dr_Mo_dual_144 rfl ?_
                  refine gx_iload hC dr_Mo_dual_145 rfl ?_
                  refine gx_iload_n hC dr_Mo_dual_147 rfl ?_
                  refine gx_if_ne (tgt := 155) hC dr_Mo_dual_148 (by decide) (fun hc145 => ?_) (fun hc145 => ?_)
                  · rw [if_neg hc145] at h
                    refine gx_iconst (v := (-1)) hC dr_Mo_dual_155 (by decide) ?_
                    obtain ⟨q148, e149, h⟩ := gb_of h
                    refine gx_vV hC dr_Mo_dual_156 lk_Mo_145 (mt_Mo_reckon e149) rfl (by decide) ⟨by decide, by decide⟩ ⟨by decide, by decide⟩ (by decide) ⟨_, _, rfl⟩ rfl rfl (Nat.le_of_ble_eq_true rfl) (fun c2 hp => ?_)
                    subst hp
                    refine gx_aload_n hC dr_Mo_dual_159 rfl ?_
                    refine gx_get hC dr_Mo_dual_160 lf_Mo_69 (by decide) rfl rfl ?_
                    refine gx_iconst (v := 0) hC dr_Mo_dual_163 (by decide) ?_
                    refine gx_lald (f := (gq_l q148 5)) hC dr_Mo_dual_164 (by decide) rfl hz137 ?_
                    refine gx_lload hC dr_Mo_dual_165 rfl ?_
                    refine gx_lsub hC dr_Mo_dual_167 ?_
                    cases h
                    exact hR (by decide) (by decide) dr_Mo_dual_168 ⟨rfl, rfl⟩
                  · rw [if_pos hc145] at h
                    refine gx_iconst (v := 1) hC dr_Mo_dual_151 (by decide) ?_
                    refine gx_goto (tgt := 156) hC dr_Mo_dual_152 (by decide) ?_
                    obtain ⟨q146, e147, h⟩ := gb_of h
                    refine gx_vV hC dr_Mo_dual_156 lk_Mo_145 (mt_Mo_reckon e147) rfl (by decide) ⟨by decide, by decide⟩ ⟨by decide, by decide⟩ (by decide) ⟨_, _, rfl⟩ rfl rfl (Nat.le_of_ble_eq_true rfl) (fun c2 hp => ?_)
                    subst hp
                    refine gx_aload_n hC dr_Mo_dual_159 rfl ?_
                    refine gx_get hC dr_Mo_dual_160 lf_Mo_69 (by decide) rfl rfl ?_
                    refine gx_iconst (v := 0) hC dr_Mo_dual_163 (by decide) ?_
                    refine gx_lald (f := (gq_l q146 5)) hC dr_Mo_dual_164 (by decide) rfl hz137 ?_
                    refine gx_lload hC dr_Mo_dual_165 rfl ?_
                    refine gx_lsub hC dr_Mo_dual_167 ?_
                    cases h
                    exact hR (by decide) (by decide) dr_Mo_dual_168 ⟨rfl, rfl⟩
                · rw [if_pos hc138] at h
                  refine gx_aload_n hC dr_Mo_dual_124 rfl ?_
                  refine gx_get hC dr_Mo_dual_125 lf_Mo_121 (by decide) rfl rfl ?_
                  refine gx_iconst (v := 1) hC dr_Mo_dual_128 (by decide) ?_
                  refine gx_icmp_ne (tgt := 136) hC dr_Mo_dual_129 (by decide) (fun hc139 => ?_) (fun hc139 => ?_)
                  · rw [if_neg hc139] at h
                    refine gx_aload_n hC dr_Mo_dual_136 rfl ?_
                    refine gx_aload_n hC dr_Mo_dual_137 rfl ?_
                    refine gx_get hC dr_Mo_dual_138 lf_Mo_7 (by decide) rfl rfl ?_
                    refine gx_iload hC dr_Mo_dual_141 rfl ?_
                    refine gx_iald (f := (gq_i q135 0)) hC dr_Mo_dual_143 (by decide) rfl hz129 ?_
                    refine gx_iload_n hC dr_Mo_dual_144 rfl ?_
                    refine gx_iload hC dr_Mo_dual_145 rfl ?_
                    refine gx_iload_n hC dr_Mo_dual_147 rfl ?_
                    refine gx_if_ne (tgt := 155) hC dr_Mo_dual_148 (by decide) (fun hc140 => ?_) (fun hc140 => ?_)
                    · rw [if_neg hc140] at h
                      refine gx_iconst (v := (-1)) hC dr_Mo_dual_155 (by decide) ?_
                      obtain ⟨q143, e144, h⟩ := gb_of h
                      refine gx_vV hC dr_Mo_dual_156 lk_Mo_145 (mt_Mo_reckon e144) rfl (by decide) ⟨by decide, by decide⟩ ⟨by decide, by decide⟩ (by decide) ⟨_, _, rfl⟩ rfl rfl (Nat.le_of_ble_eq_true rfl) (fun c2 hp => ?_)
                      subst hp
                      refine gx_aload_n hC dr_Mo_dual_159 rfl ?_
                      refine gx_get hC dr_Mo_dual_160 lf_Mo_69 (by decide) rfl rfl ?_
                      refine gx_iconst (v := 0) hC dr_Mo_dual_163 (by decide) ?_
                      refine gx_lald (f := (gq_l q143 5)) hC dr_Mo_dual_164 (by decide) rfl hz137 ?_
                      refine gx_lload hC dr_Mo_dual_165 rfl ?_
                      refine gx_lsub hC dr_Mo_dual_167 ?_
                      cases h
                      exact hR (by decide) (by decide) dr_Mo_dual_168 ⟨rfl, rfl⟩
                    · rw [if_pos hc140] at h
                      refine gx_iconst (v := 1) hC dr_Mo_dual_151 (by decide) ?_
                      refine gx_goto (tgt := 156) hC dr_Mo_dual_152 (by decide) ?_
                      obtain ⟨q141, e142, h⟩ := gb_of h
                      refine gx_vV hC dr_Mo_dual_156 lk_Mo_145 (mt_Mo_reckon e142) rfl (by decide) ⟨by decide, by decide⟩ ⟨by decide, by decide⟩ (by decide) ⟨_, _, rfl⟩ rfl rfl (Nat.le_of_ble_eq_true rfl) (fun c2 hp => ?_)
                      subst hp
                      refine gx_aload_n hC dr_Mo_dual_159 rfl ?_
                      refine gx_get hC dr_Mo_dual_160 lf_Mo_69 (by decide) rfl rfl ?_
                      refine gx_iconst (v := 0) hC dr_Mo_dual_163 (by decide) ?_
                      refine gx_lald (f := (gq_l q141 5)) hC dr_Mo_dual_164 (by decide) rfl hz137 ?_
                      refine gx_lload hC dr_Mo_dual_165 rfl ?_
                      refine gx_lsub hC dr_Mo_dual_167 ?_
                      cases h
                      exact hR (by decide) (by decide) dr_Mo_dual_168 ⟨rfl, rfl⟩
                  · rw [if_pos hc139] at h
                    refine gx_ldc2 (v := (-1)) hC dr_Mo_dual_132 lc_Mo_162 ?_
                    cases h
                    exact hR (by decide) (by decide) dr_Mo_dual_135 ⟨rfl, rfl⟩
              · rw [if_pos hc134] at h
                refine gx_ldc2 (v := (-1)) hC dr_Mo_dual_93 lc_Mo_162 ?_
                cases h
                exact hR (by decide) (by decide) dr_Mo_dual_96 ⟨rfl, rfl⟩
            · exact absurd hc131 (by decide)
          · rw [if_neg hc130] at h
            refine gx_iconst (v := 1) hC dr_Mo_dual_45 (by decide) ?_
            refine gx_goto (tgt := 50) hC dr_Mo_dual_46 (by decide) ?_
            refine gx_istore_n hC dr_Mo_dual_50 (by decide) ?_
            refine gx_iload_n hC dr_Mo_dual_51 rfl ?_
            refine gx_if_eq (tgt := 73) hC dr_Mo_dual_52 (by decide) (fun hc150 => ?_) (fun hc150 => ?_)
            · exact absurd hc150 (by decide)
            · refine gx_aload_n hC dr_Mo_dual_55 rfl ?_
              refine gx_get hC dr_Mo_dual_56 lf_Mo_36 (by decide) rfl rfl ?_
              refine gx_iload_n hC dr_Mo_dual_59 rfl ?_
              refine gx_zald (f := (gq_i M 6)) hC dr_Mo_dual_60 (by decide) rfl hz129 ?_
              refine gx_if_ne (tgt := 73) hC dr_Mo_dual_61 (by decide) (fun hc151 => ?_) (fun hc151 => ?_)
              · rw [if_neg hc151] at h
                refine gx_iload_n hC dr_Mo_dual_73 rfl ?_
                refine gx_istore hC dr_Mo_dual_74 (by decide) ?_
                refine gx_aload_n hC dr_Mo_dual_76 rfl ?_
                refine gx_iload hC dr_Mo_dual_77 rfl ?_
                refine gx_aload_n hC dr_Mo_dual_79 rfl ?_
                refine gx_get hC dr_Mo_dual_80 lf_Mo_7 (by decide) rfl rfl ?_
                refine gx_iload hC dr_Mo_dual_83 rfl ?_
                refine gx_iald (f := (gq_i M 0)) hC dr_Mo_dual_85 (by decide) rfl hz129 ?_
                refine gx_iload_n hC dr_Mo_dual_86 rfl ?_
                obtain ⟨q171, e172, h⟩ := gb_of h
                refine gx_vI hC dr_Mo_dual_87 lk_Mo_124 (mt_Mo_isUnit e172) rfl (by decide) ⟨by decide, by decide⟩ ⟨by decide, by decide⟩ (by decide) ⟨_, _, rfl⟩ rfl rfl (Nat.le_of_ble_eq_true rfl) (fun z c2 hp => ?_)
                obtain ⟨rfl, rfl⟩ := hp
                refine gx_if_ne (tgt := 97) hC dr_Mo_dual_90 (by decide) (fun hc173 => ?_) (fun hc173 => ?_)
                · rw [if_neg hc173] at h
                  refine gx_aload_n hC dr_Mo_dual_97 rfl ?_
                  refine gx_aload_n hC dr_Mo_dual_98 rfl ?_
                  refine gx_get hC dr_Mo_dual_99 lf_Mo_7 (by decide) rfl rfl ?_
                  refine gx_iload hC dr_Mo_dual_102 rfl ?_
                  refine gx_iald (f := (gq_i M 0)) hC dr_Mo_dual_104 (by decide) rfl hz129 ?_
                  refine gx_iload_n hC dr_Mo_dual_105 rfl ?_
                  refine gx_iconst (v := (-1)) hC dr_Mo_dual_106 (by decide) ?_
                  refine gx_iconst (v := 0) hC dr_Mo_dual_107 (by decide) ?_
                  obtain ⟨q174, e175, h⟩ := gb_of h
                  refine gx_vV hC dr_Mo_dual_108 lk_Mo_145 (mt_Mo_reckon e175) rfl (by decide) ⟨by decide, by decide⟩ ⟨by decide, by decide⟩ (by decide) ⟨_, _, rfl⟩ rfl rfl (Nat.le_of_ble_eq_true rfl) (fun c2 hp => ?_)
                  subst hp
                  refine gx_aload_n hC dr_Mo_dual_111 rfl ?_
                  refine gx_get hC dr_Mo_dual_112 lf_Mo_69 (by decide) rfl rfl ?_
                  refine gx_iconst (v := 0) hC dr_Mo_dual_115 (by decide) ?_
                  have hz176 : 0 ≤ (0 : Int32).toInt ∧ (0 : Int32).toInt < ((4096 : Nat) : Int) := by decide
                  refine gx_lald (f := (gq_l q174 5)) hC dr_Mo_dual_116 (by decide) rfl hz176 ?_
                  refine gx_lstore hC dr_Mo_dual_117 (by decide) ?_
                  refine gx_iload_n hC dr_Mo_dual_119 rfl ?_
                  refine gx_iconst (v := 1) hC dr_Mo_dual_120 (by decide) ?_
                  refine gx_icmp_ne (tgt := 136) hC dr_Mo_dual_121 (by decide) (fun hc177 => ?_) (fun hc177 => ?_)
                  · rw [if_neg hc177] at h
                    refine gx_aload_n hC dr_Mo_dual_136 rfl ?_
                    refine gx_aload_n hC dr_Mo_dual_137 rfl ?_
                    refine gx_get hC dr_Mo_dual_138 lf_Mo_7 (by decide) rfl rfl ?_
                    refine gx_iload hC dr_Mo_dual_141 rfl ?_
                    refine gx_iald (f := (gq_i q174 0)) hC dr_Mo_dual_143 (by decide) rfl hz129 ?_
                    refine gx_iload_n hC dr_Mo_dual_144 rfl ?_
                    refine gx_iload hC dr_Mo_dual_145 rfl ?_
                    refine gx_iload_n hC dr_Mo_dual_147 rfl ?_
                    refine gx_if_ne (tgt := 155) hC dr_Mo_dual_148 (by decide) (fun hc184 => ?_) (fun hc184 => ?_)
                    · rw [if_neg hc184] at h
                      refine gx_iconst (v := (-1)) hC dr_Mo_dual_155 (by decide) ?_
                      obtain ⟨q187, e188, h⟩ := gb_of h
                      refine gx_vV hC dr_Mo_dual_156 lk_Mo_145 (mt_Mo_reckon e188) rfl (by decide) ⟨by decide, by decide⟩ ⟨by decide, by decide⟩ (by decide) ⟨_, _, rfl⟩ rfl rfl (Nat.le_of_ble_eq_true rfl) (fun c2 hp => ?_)
                      subst hp
                      refine gx_aload_n hC dr_Mo_dual_159 rfl ?_
                      refine gx_get hC dr_Mo_dual_160 lf_Mo_69 (by decide) rfl rfl ?_
                      refine gx_iconst (v := 0) hC dr_Mo_dual_163 (by decide) ?_
                      refine gx_lald (f := (gq_l q187 5)) hC dr_Mo_dual_164 (by decide) rfl hz176 ?_
                      refine gx_lload hC dr_Mo_dual_165 rfl ?_
                      refine gx_lsub hC dr_Mo_dual_167 ?_
                      cases h
                      exact hR (by decide) (by decide) dr_Mo_dual_168 ⟨rfl, rfl⟩
                    · rw [if_pos hc184] at h
                      refine gx_iconst (v := 1) hC dr_Mo_dual_151 (by decide) ?_
                      refine gx_goto (tgt := 156) hC dr_Mo_dual_152 (by decide) ?_
                      obtain ⟨q185, e186, h⟩ := gb_of h
                      refine gx_vV hC dr_Mo_dual_156 lk_Mo_145 (mt_Mo_reckon e186) rfl (by decide) ⟨by decide, by decide⟩ ⟨by decide, by decide⟩ (by decide) ⟨_, _, rfl⟩ rfl rfl (Nat.le_of_ble_eq_true rfl) (fun c2 hp => ?_)
                      subst hp
                      refine gx_aload_n hC dr_Mo_dual_159 rfl ?_
                      refine gx_get hC dr_Mo_dual_160 lf_Mo_69 (by decide) rfl rfl ?_
                      refine gx_iconst (v := 0) hC dr_Mo_dual_163 (by decide) ?_
                      refine gx_lald (f := (gq_l q185 5)) hC dr_Mo_dual_164 (by decide) rfl hz176 ?_
                      refine gx_lload hC dr_Mo_dual_165 rfl ?_
                      refine gx_lsub hC dr_Mo_dual_167 ?_
                      cases h
                      exact hR (by decide) (by decide) dr_Mo_dual_168 ⟨rfl, rfl⟩
                  · rw [if_pos hc177] at h
                    refine gx_aload_n hC dr_Mo_dual_124 rfl ?_
                    refine gx_get hC dr_Mo_dual_125 lf_Mo_121 (by decide) rfl rfl ?_
                    refine gx_iconst (v := 1) hC dr_Mo_dual_128 (by decide) ?_
                    refine gx_icmp_ne (tgt := 136) hC dr_Mo_dual_129 (by decide) (fun hc178 => ?_) (fun hc178 => ?_)
                    · rw [if_neg hc178] at h
                      refine gx_aload_n hC dr_Mo_dual_136 rfl ?_
                      refine gx_aload_n hC dr_Mo_dual_137 rfl ?_
                      refine gx_get hC dr_Mo_dual_138 lf_Mo_7 (by decide) rfl rfl ?_
                      refine gx_iload hC dr_Mo_dual_141 rfl ?_
                      refine gx_iald (f := (gq_i q174 0)) hC dr_Mo_dual_143 (by decide) rfl hz129 ?_
                      refine gx_iload_n hC dr_Mo_dual_144 rfl ?_
                      refine gx_iload hC dr_Mo_dual_145 rfl ?_
                      refine gx_iload_n hC dr_Mo_dual_147 rfl ?_
                      refine gx_if_ne (tgt := 155) hC dr_Mo_dual_148 (by decide) (fun hc179 => ?_) (fun hc179 => ?_)
                      · rw [if_neg hc179] at h
                        refine gx_iconst (v := (-1)) hC dr_Mo_dual_155 (by decide) ?_
                        obtain ⟨q182, e183, h⟩ := gb_of h
                        refine gx_vV hC dr_Mo_dual_156 lk_Mo_145 (mt_Mo_reckon e183) rfl (by decide) ⟨by decide, by decide⟩ ⟨by decide, by decide⟩ (by decide) ⟨_, _, rfl⟩ rfl rfl (Nat.le_of_ble_eq_true rfl) (fun c2 hp => ?_)
                        subst hp
                        refine gx_aload_n hC dr_Mo_dual_159 rfl ?_
                        refine gx_get hC dr_Mo_dual_160 lf_Mo_69 (by decide) rfl rfl ?_
                        refine gx_iconst (v := 0) hC dr_Mo_dual_163 (by decide) ?_
                        refine gx_lald (f := (gq_l q182 5)) hC dr_Mo_dual_164 (by decide) rfl hz176 ?_
                        refine gx_lload hC dr_Mo_dual_165 rfl ?_
                        refine gx_lsub hC dr_Mo_dual_167 ?_
                        cases h
                        exact hR (by decide) (by decide) dr_Mo_dual_168 ⟨rfl, rfl⟩
                      · rw [if_pos hc179] at h
                        refine gx_iconst (v := 1) hC dr_Mo_dual_151 (by decide) ?_
                        refine gx_goto (tgt := 156) hC dr_Mo_dual_152 (by decide) ?_
                        obtain ⟨q180, e181, h⟩ := gb_of h
                        refine gx_vV hC dr_Mo_dual_156 lk_Mo_145 (mt_Mo_reckon e181) rfl (by decide) ⟨by decide, by decide⟩ ⟨by decide, by decide⟩ (by decide) ⟨_, _, rfl⟩ rfl rfl (Nat.le_of_ble_eq_true rfl) (fun c2 hp => ?_)
                        subst hp
                        refine gx_aload_n hC dr_Mo_dual_159 rfl ?_
                        refine gx_get hC dr_Mo_dual_160 lf_Mo_69 (by decide) rfl rfl ?_
                        refine gx_iconst (v := 0) hC dr_Mo_dual_163 (by decide) ?_
                        refine gx_lald (f := (gq_l q180 5)) hC dr_Mo_dual_164 (by decide) rfl hz176 ?_
                        refine gx_lload hC dr_Mo_dual_165 rfl ?_
                        refine gx_lsub hC dr_Mo_dual_167 ?_
                        cases h
                        exact hR (by decide) (by decide) dr_Mo_dual_168 ⟨rfl, rfl⟩
                    · rw [if_pos hc178] at h
                      refine gx_ldc2 (v := (-1)) hC dr_Mo_dual_132 lc_Mo_162 ?_
                      cases h
                      exact hR (by decide) (by decide) dr_Mo_dual_135 ⟨rfl, rfl⟩
                · rw [if_pos hc173] at h
                  refine gx_ldc2 (v := (-1)) hC dr_Mo_dual_93 lc_Mo_162 ?_
                  cases h
                  exact hR (by decide) (by decide) dr_Mo_dual_96 ⟨rfl, rfl⟩
              · rw [if_pos hc151] at h
                refine gx_aload_n hC dr_Mo_dual_64 rfl ?_
                refine gx_get hC dr_Mo_dual_65 lf_Mo_33 (by decide) rfl rfl ?_
                refine gx_iload_n hC dr_Mo_dual_68 rfl ?_
                refine gx_iald (f := (gq_i M 5)) hC dr_Mo_dual_69 (by decide) rfl hz129 ?_
                refine gx_goto (tgt := 74) hC dr_Mo_dual_70 (by decide) ?_
                refine gx_istore hC dr_Mo_dual_74 (by decide) ?_
                refine gx_aload_n hC dr_Mo_dual_76 rfl ?_
                refine gx_iload hC dr_Mo_dual_77 rfl ?_
                refine gx_aload_n hC dr_Mo_dual_79 rfl ?_
                refine gx_get hC dr_Mo_dual_80 lf_Mo_7 (by decide) rfl rfl ?_
                refine gx_iload hC dr_Mo_dual_83 rfl ?_
                obtain ⟨hz152, h⟩ := gk_of h
                refine gx_iald (f := (gq_i M 0)) hC dr_Mo_dual_85 (by decide) rfl hz152 ?_
                refine gx_iload_n hC dr_Mo_dual_86 rfl ?_
                obtain ⟨q153, e154, h⟩ := gb_of h
                refine gx_vI hC dr_Mo_dual_87 lk_Mo_124 (mt_Mo_isUnit e154) rfl (by decide) ⟨by decide, by decide⟩ ⟨by decide, by decide⟩ (by decide) ⟨_, _, rfl⟩ rfl rfl (Nat.le_of_ble_eq_true rfl) (fun z c2 hp => ?_)
                obtain ⟨rfl, rfl⟩ := hp
                refine gx_if_ne (tgt := 97) hC dr_Mo_dual_90 (by decide) (fun hc155 => ?_) (fun hc155 => ?_)
                · rw [if_neg hc155] at h
                  refine gx_aload_n hC dr_Mo_dual_97 rfl ?_
                  refine gx_aload_n hC dr_Mo_dual_98 rfl ?_
                  refine gx_get hC dr_Mo_dual_99 lf_Mo_7 (by decide) rfl rfl ?_
                  refine gx_iload hC dr_Mo_dual_102 rfl ?_
                  refine gx_iald (f := (gq_i M 0)) hC dr_Mo_dual_104 (by decide) rfl hz152 ?_
                  refine gx_iload_n hC dr_Mo_dual_105 rfl ?_
                  refine gx_iconst (v := (-1)) hC dr_Mo_dual_106 (by decide) ?_
                  refine gx_iconst (v := 0) hC dr_Mo_dual_107 (by decide) ?_
                  obtain ⟨q156, e157, h⟩ := gb_of h
                  refine gx_vV hC dr_Mo_dual_108 lk_Mo_145 (mt_Mo_reckon e157) rfl (by decide) ⟨by decide, by decide⟩ ⟨by decide, by decide⟩ (by decide) ⟨_, _, rfl⟩ rfl rfl (Nat.le_of_ble_eq_true rfl) (fun c2 hp => ?_)
                  subst hp
                  refine gx_aload_n hC dr_Mo_dual_111 rfl ?_
                  refine gx_get hC dr_Mo_dual_112 lf_Mo_69 (by decide) rfl rfl ?_
                  refine gx_iconst (v := 0) hC dr_Mo_dual_115 (by decide) ?_
                  have hz158 : 0 ≤ (0 : Int32).toInt ∧ (0 : Int32).toInt < ((4096 : Nat) : Int) := by decide
                  refine gx_lald (f := (gq_l q156 5)) hC dr_Mo_dual_116 (by decide) rfl hz158 ?_
                  refine gx_lstore hC dr_Mo_dual_117 (by decide) ?_
                  refine gx_iload_n hC dr_Mo_dual_119 rfl ?_
                  refine gx_iconst (v := 1) hC dr_Mo_dual_120 (by decide) ?_
                  refine gx_icmp_ne (tgt := 136) hC dr_Mo_dual_121 (by decide) (fun hc159 => ?_) (fun hc159 => ?_)
                  · rw [if_neg hc159] at h
                    refine gx_aload_n hC dr_Mo_dual_136 rfl ?_
                    refine gx_aload_n hC dr_Mo_dual_137 rfl ?_
                    refine gx_get hC dr_Mo_dual_138 lf_Mo_7 (by decide) rfl rfl ?_
                    refine gx_iload hC dr_Mo_dual_141 rfl ?_
                    refine gx_iald (f := (gq_i q156 0)) hC dr_Mo_dual_143 (by decide) rfl hz152 ?_
                    refine gx_iload_n hC dr_Mo_dual_144 rfl ?_
                    refine gx_iload hC dr_Mo_dual_145 rfl ?_
                    refine gx_iload_n hC dr_Mo_dual_147 rfl ?_
                    refine gx_if_ne (tgt := 155) hC dr_Mo_dual_148 (by decide) (fun hc166 => ?_) (fun hc166 => ?_)
                    · rw [if_neg hc166] at h
                      refine gx_iconst (v := (-1)) hC dr_Mo_dual_155 (by decide) ?_
                      obtain ⟨q169, e170, h⟩ := gb_of h
                      refine gx_vV hC dr_Mo_dual_156 lk_Mo_145 (mt_Mo_reckon e170) rfl (by decide) ⟨by decide, by decide⟩ ⟨by decide, by decide⟩ (by decide) ⟨_, _, rfl⟩ rfl rfl (Nat.le_of_ble_eq_true rfl) (fun c2 hp => ?_)
                      subst hp
                      refine gx_aload_n hC dr_Mo_dual_159 rfl ?_
                      refine gx_get hC dr_Mo_dual_160 lf_Mo_69 (by decide) rfl rfl ?_
                      refine gx_iconst (v := 0) hC dr_Mo_dual_163 (by decide) ?_
                      refine gx_lald (f := (gq_l q169 5)) hC dr_Mo_dual_164 (by decide) rfl hz158 ?_
                      refine gx_lload hC dr_Mo_dual_165 rfl ?_
                      refine gx_lsub hC dr_Mo_dual_167 ?_
                      cases h
                      exact hR (by decide) (by decide) dr_Mo_dual_168 ⟨rfl, rfl⟩
                    · rw [if_pos hc166] at h
                      refine gx_iconst (v := 1) hC dr_Mo_dual_151 (by decide) ?_
                      refine gx_goto (tgt := 156) hC dr_Mo_dual_152 (by decide) ?_
                      obtain ⟨q167, e168, h⟩ := gb_of h
                      refine gx_vV hC dr_Mo_dual_156 lk_Mo_145 (mt_Mo_reckon e168) rfl (by decide) ⟨by decide, by decide⟩ ⟨by decide, by decide⟩ (by decide) ⟨_, _, rfl⟩ rfl rfl (Nat.le_of_ble_eq_true rfl) (fun c2 hp => ?_)
                      subst hp
                      refine gx_aload_n hC dr_Mo_dual_159 rfl ?_
                      refine gx_get hC dr_Mo_dual_160 lf_Mo_69 (by decide) rfl rfl ?_
                      refine gx_iconst (v := 0) hC dr_Mo_dual_163 (by decide) ?_
                      refine gx_lald (f := (gq_l q167 5)) hC dr_Mo_dual_164 (by decide) rfl hz158 ?_
                      refine gx_lload hC dr_Mo_dual_165 rfl ?_
                      refine gx_lsub hC dr_Mo_dual_167 ?_
                      cases h
                      exact hR (by decide) (by decide) dr_Mo_dual_168 ⟨rfl, rfl⟩
                  · rw [if_pos hc159] at h
                    refine gx_aload_n hC dr_Mo_dual_124 rfl ?_
                    refine gx_get hC dr_Mo_dual_125 lf_Mo_121 (by decide) rfl rfl ?_
                    refine gx_iconst (v := 1) hC dr_Mo_dual_128 (by decide) ?_
                    refine gx_icmp_ne (tgt := 136) hC dr_Mo_dual_129 (by decide) (fun hc160 => ?_) (fun hc160 => ?_)
                    · rw [if_neg hc160] at h
                      refine gx_aload_n hC dr_Mo_dual_136 rfl ?_
                      refine gx_aload_n hC dr_Mo_dual_137 rfl ?_
                      refine gx_get hC dr_Mo_dual_138 lf_Mo_7 (by decide) rfl rfl ?_
                      refine gx_iload hC dr_Mo_dual_141 rfl ?_
                      refine gx_iald (f := (gq_i q156 0)) hC dr_Mo_dual_143 (by decide) rfl hz152 ?_
                      refine gx_iload_n hC dr_Mo_dual_144 rfl ?_
                      refine gx_iload hC dr_Mo_dual_145 rfl ?_
                      refine gx_iload_n hC dr_Mo_dual_147 rfl ?_
                      refine gx_if_ne (tgt := 155) hC dr_Mo_dual_148 (by decide) (fun hc161 => ?_) (fun hc161 => ?_)
                      · rw [if_neg hc161] at h
                        refine gx_iconst (v := (-1)) hC dr_Mo_dual_155 (by decide) ?_
                        obtain ⟨q164, e165, h⟩ := gb_of h
                        refine gx_vV hC dr_Mo_dual_156 lk_Mo_145 (mt_Mo_reckon e165) rfl (by decide) ⟨by decide, by decide⟩ ⟨by decide, by decide⟩ (by decide) ⟨_, _, rfl⟩ rfl rfl (Nat.le_of_ble_eq_true rfl) (fun c2 hp => ?_)
                        subst hp
                        refine gx_aload_n hC dr_Mo_dual_159 rfl ?_
                        refine gx_get hC dr_Mo_dual_160 lf_Mo_69 (by decide) rfl rfl ?_
                        refine gx_iconst (v := 0) hC dr_Mo_dual_163 (by decide) ?_
                        refine gx_lald (f := (gq_l q164 5)) hC dr_Mo_dual_164 (by decide) rfl hz158 ?_
                        refine gx_lload hC dr_Mo_dual_165 rfl ?_
                        refine gx_lsub hC dr_Mo_dual_167 ?_
                        cases h
                        exact hR (by decide) (by decide) dr_Mo_dual_168 ⟨rfl, rfl⟩
                      · rw [if_pos hc161] at h
                        refine gx_iconst (v := 1) hC dr_Mo_dual_151 (by decide) ?_
                        refine gx_goto (tgt := 156) hC dr_Mo_dual_152 (by decide) ?_
                        obtain ⟨q162, e163, h⟩ := gb_of h
                        refine gx_vV hC dr_Mo_dual_156 lk_Mo_145 (mt_Mo_reckon e163) rfl (by decide) ⟨by decide, by decide⟩ ⟨by decide, by decide⟩ (by decide) ⟨_, _, rfl⟩ rfl rfl (Nat.le_of_ble_eq_true rfl) (fun c2 hp => ?_)
                        subst hp
                        refine gx_aload_n hC dr_Mo_dual_159 rfl ?_
                        refine gx_get hC dr_Mo_dual_160 lf_Mo_69 (by decide) rfl rfl ?_
                        refine gx_iconst (v := 0) hC dr_Mo_dual_163 (by decide) ?_
                        refine gx_lald (f := (gq_l q162 5)) hC dr_Mo_dual_164 (by decide) rfl hz158 ?_
                        refine gx_lload hC dr_Mo_dual_165 rfl ?_
                        refine gx_lsub hC dr_Mo_dual_167 ?_
                        cases h
                        exact hR (by decide) (by decide) dr_Mo_dual_168 ⟨rfl, rfl⟩
                    · rw [if_pos hc160] at h
                      refine gx_ldc2 (v := (-1)) hC dr_Mo_dual_132 lc_Mo_162 ?_
                      cases h
                      exact hR (by decide) (by decide) dr_Mo_dual_135 ⟨rfl, rfl⟩
                · rw [if_pos hc155] at h
                  refine gx_ldc2 (v := (-1)) hC dr_Mo_dual_93 lc_Mo_162 ?_
                  cases h
                  exact hR (by decide) (by decide) dr_Mo_dual_96 ⟨rfl, rfl⟩
        · rw [if_neg hc128] at h
          refine gx_lconst hC dr_Mo_dual_33 ?_
          cases h
          exact hR (by decide) (by decide) dr_Mo_dual_34 ⟨rfl, rfl⟩
