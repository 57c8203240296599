def fl_Mo_reckon_225 (K205 : Int32 → gq_M → Option gq_M) : Nat → Int32 → Int32 → Int64 → Int32 → gq_M → Option gq_M
  | 0, _, _, _, _, _ => none
  | k + 1, v6, v7, v8, v10, M => if (gq_f M 5) ≤ v10 then if 0 ≤ v6.toInt ∧ v6.toInt < ((4096 : Nat) : Int) then K205 (v6 + (-1)) (gs_l M 5 (gz_ul (gq_l M 5) v6.toInt v8)) else none else if (((v6 >>> (v10 &&& 31)) : Int32) &&& 1) = 1 then fl_Mo_reckon_225 K205 k v6 v7 v8 (v10 + 1) M else if 0 ≤ ((12 * v7) + v10).toInt ∧ ((12 * v7) + v10).toInt < ((144 : Nat) : Int) then if 0 ≤ (v6 ||| (((1 : Int32) <<< (v10 &&& 31)) : Int32)).toInt ∧ (v6 ||| (((1 : Int32) <<< (v10 &&& 31)) : Int32)).toInt < ((4096 : Nat) : Int) then if v8 ≤ (((gq_l M 4) ((12 * v7) + v10).toInt) + ((gq_l M 5) (v6 ||| (((1 : Int32) <<< (v10 &&& 31)) : Int32)).toInt)) then fl_Mo_reckon_225 K205 k v6 v7 v8 (v10 + 1) M else fl_Mo_reckon_225 K205 k v6 v7 (((gq_l M 4) ((12 * v7) + v10).toInt) + ((gq_l M 5) (v6 ||| (((1 : Int32) <<< (v10 &&& 31)) : Int32)).toInt)) (v10 + 1) M else none else none
def fl_Mo_reckon_205 : Nat → Int32 → gq_M → Option gq_M
  | 0, _, _ => none
  | k + 1, v6, M => if v6 < 0 then some M else (fn_Mo_bits v6 M).bind fun q5 => fl_Mo_reckon_225 (fl_Mo_reckon_205 k) 5000 v6 q5 1000000000000000 0 M
def fl_Mo_reckon_73 (K61 : Int32 → Int32 → Int32 → Int32 → gq_M → Option gq_M) : Nat → Int32 → Int32 → Int32 → Int32 → Int32 → gq_M → Option gq_M
  | 0, _, _, _, _, _, _ => none
  | k + 1, v2, v3, v4, v5, v6, M => if (gq_f M 5) ≤ v6 then K61 v2 v3 v4 (v5 + 1) M else if 0 ≤ v5.toInt ∧ v5.toInt < ((12 : Nat) : Int) then if ((gq_i M 13) v5.toInt) = v3 then if v4 = 1 then if v5 = v6 then if v4 = (-1) then if v5 = v6 then if 0 ≤ ((12 * v5) + v6).toInt ∧ ((12 * v5) + v6).toInt < ((144 : Nat) : Int) then fl_Mo_reckon_73 K61 k v2 v3 v4 v5 (v6 + 1) (gs_l M 4 (gz_ul (gq_l M 4) ((12 * v5) + v6).toInt 1000000000000000)) else none else if 0 ≤ v6.toInt ∧ v6.toInt < ((12 : Nat) : Int) then (fn_Mo_unitCost ((gq_i M 13) v5.toInt) ((gq_i M 13) v6.toInt) v2 M).bind fun q24 => if 0 ≤ ((12 * v5) + v6).toInt ∧ ((12 * v5) + v6).toInt < ((144 : Nat) : Int) then fl_Mo_reckon_73 K61 k v2 v3 v4 v5 (v6 + 1) (gs_l M 4 (gz_ul (gq_l M 4) ((12 * v5) + v6).toInt q24)) else none else none else if 0 ≤ v6.toInt ∧ v6.toInt < ((12 : Nat) : Int) then (fn_Mo_unitCost ((gq_i M 13) v5.toInt) ((gq_i M 13) v6.toInt) v2 M).bind fun q29 => if 0 ≤ ((12 * v5) + v6).toInt ∧ ((12 * v5) + v6).toInt < ((144 : Nat) : Int) then fl_Mo_reckon_73 K61 k v2 v3 v4 v5 (v6 + 1) (gs_l M 4 (gz_ul (gq_l M 4) ((12 * v5) + v6).toInt q29)) else none else none else if 0 ≤ ((12 * v5) + v6).toInt ∧ ((12 * v5) + v6).toInt < ((144 : Nat) : Int) then fl_Mo_reckon_73 K61 k v2 v3 v4 v5 (v6 + 1) (gs_l M 4 (gz_ul (gq_l M 4) ((12 * v5) + v6).toInt 1000000000000000)) else none else if v4 = (-1) then if v5 = v6 then if 0 ≤ ((12 * v5) + v6).toInt ∧ ((12 * v5) + v6).toInt < ((144 : Nat) : Int) then fl_Mo_reckon_73 K61 k v2 v3 v4 v5 (v6 + 1) (gs_l M 4 (gz_ul (gq_l M 4) ((12 * v5) + v6).toInt 1000000000000000)) else none else if 0 ≤ v6.toInt ∧ v6.toInt < ((12 : Nat) : Int) then (fn_Mo_unitCost ((gq_i M 13) v5.toInt) ((gq_i M 13) v6.toInt) v2 M).bind fun q40 => if 0 ≤ ((12 * v5) + v6).toInt ∧ ((12 * v5) + v6).toInt < ((144 : Nat) : Int) then fl_Mo_reckon_73 K61 k v2 v3 v4 v5 (v6 + 1) (gs_l M 4 (gz_ul (gq_l M 4) ((12 * v5) + v6).toInt q40)) else none else none else if 0 ≤ v6.toInt ∧ v6.toInt < ((12 : Nat) : Int) then (fn_Mo_unitCost ((gq_i M 13) v5.toInt) ((gq_i M 13) v6.toInt) v2 M).bind fun q45 => if 0 ≤ ((12 * v5) + v6).toInt ∧ ((12 * v5) + v6).toInt < ((144 : Nat) : Int) then fl_Mo_reckon_73 K61 k v2 v3 v4 v5 (v6 + 1) (gs_l M 4 (gz_ul (gq_l M 4) ((12 * v5) + v6).toInt q45)) else none else none else if 0 ≤ v6.toInt ∧ v6.toInt < ((12 : Nat) : Int) then (fn_Mo_unitCost ((gq_i M 13) v5.toInt) ((gq_i M 13) v6.toInt) v2 M).bind fun q50 => if 0 ≤ ((12 * v5) + v6).toInt ∧ ((12 * v5) + v6).toInt < ((144 : Nat) : Int) then fl_Mo_reckon_73 K61 k v2 v3 v4 v5 (v6 + 1) (gs_l M 4 (gz_ul (gq_l M 4) ((12 * v5) + v6).toInt q50)) else none else none else none
def fl_Mo_reckon_61 : Nat → Int32 → Int32 → Int32 → Int32 → gq_M → Option gq_M
  | 0, _, _, _, _, _ => none
  | k + 1, v2, v3, v4, v5, M => if (gq_f M 5) ≤ v5 then if 0 ≤ ((((1 : Int32) <<< ((gq_f M 5) &&& 31)) : Int32) - 1).toInt ∧ ((((1 : Int32) <<< ((gq_f M 5) &&& 31)) : Int32) - 1).toInt < ((4096 : Nat) : Int) then fl_Mo_reckon_205 5000 (((((1 : Int32) <<< ((gq_f M 5) &&& 31)) : Int32) - 1) - 1) (gs_l M 5 (gz_ul (gq_l M 5) ((((1 : Int32) <<< ((gq_f M 5) &&& 31)) : Int32) - 1).toInt (Int64.ofNat (0 : Fin 2).val))) else none else fl_Mo_reckon_73 (fl_Mo_reckon_61 k) 5000 v2 v3 v4 v5 0 M
def fl_Mo_reckon_8 : Nat → Int32 → Int32 → Int32 → Int32 → Int32 → gq_M → Option gq_M
  | 0, _, _, _, _, _, _ => none
  | k + 1, v1, v2, v3, v4, v5, M => if (gq_f M 2) ≤ v5 then fl_Mo_reckon_61 5000 v2 v3 v4 0 M else (fn_Mo_isUnit v5 v1 v2 M).bind fun q53 => if q53 = 0 then fl_Mo_reckon_8 k v1 v2 v3 v4 (v5 + 1) M else if 0 ≤ (gq_f M 5).toInt ∧ (gq_f M 5).toInt < ((12 : Nat) : Int) then fl_Mo_reckon_8 k v1 v2 v3 v4 (v5 + 1) (gs_f (gs_i M 13 (gz_u (gq_i M 13) (gq_f M 5).toInt v5)) 5 ((gq_f M 5) + 1)) else none
def fn_Mo_reckon (p0 : Int32) (p1 : Int32) (p2 : Int32) (p3 : Int32) (M : gq_M) : Option gq_M := fl_Mo_reckon_8 5000 p0 p1 p2 p3 0 (gs_f M 5 0)
set_option maxHeartbeats 4000000 in
set_option maxRecDepth 100000 in
theorem gl_Mo_reckon_225 {x : gx_X} {G : gq_M × (Int → Int64)} {r : gq_M} (hC : gw_C 81 81 yn_Mo_reckon.cls bc_Mo_reckon 13 x) (hR : gr_V 81 bc_Mo_reckon 13 ({ frames := 3, cells := 0, slots := 0, locals := 68 } : Room) x (fun c2 => c2 = ca_A (G.1, r, G.2))) {K205 : Int32 → gq_M → Option gq_M} (hK205 : ∀ (v6 : Int32) (M : gq_M), K205 v6 M = some r → gw_G 81 13 ({ frames := 3, cells := 0, slots := 0, locals := 68 } : Room) x 0 0 (ca_A (G.1, M, G.2)) 205 [(0, gv_R 57), (6, gv_I v6)] []) : ∀ (k : Nat) (v6 : Int32) (v7 : Int32) (v8 : Int64) (v10 : Int32) (M : gq_M), fl_Mo_reckon_225 K205 k v6 v7 v8 v10 M = some r → gw_G 81 13 ({ frames := 3, cells := 0, slots := 0, locals := 68 } : Room) x 0 0 (ca_A (G.1, M, G.2)) 225 [(0, gv_R 57), (6, gv_I v6), (7, gv_I v7), (8, gv_L v8), (10, gv_I v10)] [] := by
  intro k
  induction k with
  | zero =>
    intro v6 v7 v8 v10 M h
    cases h
  | succ k ih =>
    intro v6 v7 v8 v10 M h
    rw [fl_Mo_reckon_225] at h
    refine gx_iload hC dr_Mo_reckon_225 rfl ?_
    refine gx_aload_n hC dr_Mo_reckon_227 rfl ?_
    refine gx_get hC dr_Mo_reckon_228 lf_Mo_121 (by decide) rfl rfl ?_
    refine gx_icmp_ge (tgt := 299) hC dr_Mo_reckon_231 (by decide) (fun hc7 => ?_) (fun hc7 => ?_)
    · rw [if_pos (show (gq_f M 5) ≤ v10 from hc7)] at h
      refine gx_aload_n hC dr_Mo_reckon_299 rfl ?_
      refine gx_get hC dr_Mo_reckon_300 lf_Mo_69 (by decide) rfl rfl ?_
      refine gx_iload hC dr_Mo_reckon_303 rfl ?_
      refine gx_lload hC dr_Mo_reckon_305 rfl ?_
      obtain ⟨hz8, h⟩ := gk_of h
      refine gx_last (f := (gq_l M 5)) hC (by decide) dr_Mo_reckon_307 (by decide) rfl hz8 (ma_L 5 (by decide)) ?_
      refine gx_iinc (v := (v6 + (-1))) hC dr_Mo_reckon_308 rfl (by decide) rfl ?_
      refine gx_goto (tgt := 205) hC dr_Mo_reckon_311 (by decide) ?_
      exact gx_lv [(0, gv_R 57), (6, gv_I (v6 + (-1)))] ⟨rfl, rfl, trivial⟩ (hK205 _ _ h)
    · rw [if_neg (show ¬ ((gq_f M 5) ≤ v10) from hc7)] at h
      refine gx_iload hC dr_Mo_reckon_234 rfl ?_
      refine gx_iload hC dr_Mo_reckon_236 rfl ?_
      refine gx_ishr hC dr_Mo_reckon_238 ?_
      refine gx_iconst (v := 1) hC dr_Mo_reckon_239 (by decide) ?_
      refine gx_iand hC dr_Mo_reckon_240 ?_
      refine gx_iconst (v := 1) hC dr_Mo_reckon_241 (by decide) ?_
      refine gx_icmp_ne (tgt := 248) hC dr_Mo_reckon_242 (by decide) (fun hc9 => ?_) (fun hc9 => ?_)
      · rw [if_neg (show ¬ ((((v6 >>> (v10 &&& 31)) : Int32) &&& 1) = 1) from hc9)] at h
        refine gx_aload_n hC dr_Mo_reckon_248 rfl ?_
        refine gx_get hC dr_Mo_reckon_249 lf_Mo_66 (by decide) rfl rfl ?_
        refine gx_bipush (v := 12) hC dr_Mo_reckon_252 (by decide) ?_
        refine gx_iload hC dr_Mo_reckon_254 rfl ?_
        refine gx_imul hC dr_Mo_reckon_256 ?_
        refine gx_iload hC dr_Mo_reckon_257 rfl ?_
        refine gx_iadd hC dr_Mo_reckon_259 ?_
        obtain ⟨hz10, h⟩ := gk_of h
        refine gx_lald (f := (gq_l M 4)) hC dr_Mo_reckon_260 (by decide) rfl hz10 ?_
        refine gx_aload_n hC dr_Mo_reckon_261 rfl ?_
        refine gx_get hC dr_Mo_reckon_262 lf_Mo_69 (by decide) rfl rfl ?_
        refine gx_iload hC dr_Mo_reckon_265 rfl ?_
        refine gx_iconst (v := 1) hC dr_Mo_reckon_267 (by decide) ?_
        refine gx_iload hC dr_Mo_reckon_268 rfl ?_
        refine gx_ishl hC dr_Mo_reckon_270 ?_
        refine gx_ior hC dr_Mo_reckon_271 ?_
        obtain ⟨hz11, h⟩ := gk_of h
        refine gx_lald (f := (gq_l M 5)) hC dr_Mo_reckon_272 (by decide) rfl hz11 ?_
        refine gx_ladd hC dr_Mo_reckon_273 ?_
        refine gx_lstore hC dr_Mo_reckon_274 (by decide) ?_
        refine gx_lload hC dr_Mo_reckon_276 rfl ?_
        refine gx_lload hC dr_Mo_reckon_278 rfl ?_
        refine gx_lcmp_ge (tgt := 289) hC dr_Mo_reckon_280 dr_Mo_reckon_281 (by decide) (fun hc12 => ?_) (fun hc12 => ?_)
        · rw [if_pos (show v8 ≤ (((gq_l M 4) ((12 * v7) + v10).toInt) + ((gq_l M 5) (v6 ||| (((1 : Int32) <<< (v10 &&& 31)) : Int32)).toInt)) from hc12)] at h
          refine gx_lload hC dr_Mo_reckon_289 rfl ?_
          refine gx_lstore hC dr_Mo_reckon_291 (by decide) ?_
          refine gx_iinc (v := (v10 + 1)) hC dr_Mo_reckon_293 rfl (by decide) rfl ?_
          refine gx_goto (tgt := 225) hC dr_Mo_reckon_296 (by decide) ?_
          exact gx_lv [(0, gv_R 57), (6, gv_I v6), (7, gv_I v7), (8, gv_L v8), (10, gv_I (v10 + 1))] ⟨rfl, rfl, rfl, rfl, rfl, trivial⟩ (ih _ _ _ _ _ h)
        · rw [if_neg (show ¬ (v8 ≤ (((gq_l M 4) ((12 * v7) + v10).toInt) + ((gq_l M 5) (v6 ||| (((1 : Int32) <<< (v10 &&& 31)) : Int32)).toInt))) from hc12)] at h
          refine gx_lload hC dr_Mo_reckon_284 rfl ?_
          refine gx_goto (tgt := 291) hC dr_Mo_reckon_286 (by decide) ?_
          refine gx_lstore hC dr_Mo_reckon_291 (by decide) ?_
          refine gx_iinc (v := (v10 + 1)) hC dr_Mo_reckon_293 rfl (by decide) rfl ?_
          refine gx_goto (tgt := 225) hC dr_Mo_reckon_296 (by decide) ?_
          exact gx_lv [(0, gv_R 57), (6, gv_I v6), (7, gv_I v7), (8, gv_L (((gq_l M 4) ((12 * v7) + v10).toInt) + ((gq_l M 5) (v6 ||| (((1 : Int32) <<< (v10 &&& 31)) : Int32)).toInt))), (10, gv_I (v10 + 1))] ⟨rfl, rfl, rfl, rfl, rfl, trivial⟩ (ih _ _ _ _ _ h)
      · rw [if_pos (show (((v6 >>> (v10 &&& 31)) : Int32) &&& 1) = 1 from hc9)] at h
        refine gx_goto (tgt := 293) hC dr_Mo_reckon_245 (by decide) ?_
        refine gx_iinc (v := (v10 + 1)) hC dr_Mo_reckon_293 rfl (by decide) rfl ?_
        refine gx_goto (tgt := 225) hC dr_Mo_reckon_296 (by decide) ?_
        exact gx_lv [(0, gv_R 57), (6, gv_I v6), (7, gv_I v7), (8, gv_L v8), (10, gv_I (v10 + 1))] ⟨rfl, rfl, rfl, rfl, rfl, trivial⟩ (ih _ _ _ _ _ h)
set_option maxHeartbeats 4000000 in
set_option maxRecDepth 100000 in
theorem gl_Mo_reckon_205 {x : gx_X} {G : gq_M × (Int → Int64)} {r : gq_M} (hC : gw_C 81 81 yn_Mo_reckon.cls bc_Mo_reckon 13 x) (hR : gr_V 81 bc_Mo_reckon 13 ({ frames := 3, cells := 0, slots := 0, locals := 68 } : Room) x (fun c2 => c2 = ca_A (G.1, r, G.2))) : ∀ (k : Nat) (v6 : Int32) (M : gq_M), fl_Mo_reckon_205 k v6 M = some r → gw_G 81 13 ({ frames := 3, cells := 0, slots := 0, locals := 68 } : Room) x 0 0 (ca_A (G.1, M, G.2)) 205 [(0, gv_R 57), (6, gv_I v6)] [] := by
  intro k
  induction k with
  | zero =>
    intro v6 M h
    cases h
  | succ k ih =>
    intro v6 M h
    rw [fl_Mo_reckon_205] at h
    refine gx_iload hC dr_Mo_reckon_205 rfl ?_
    refine gx_if_lt (tgt := 314) hC dr_Mo_reckon_207 (by decide) (fun hc4 => ?_) (fun hc4 => ?_)
    · rw [if_pos (show v6 < 0 from hc4)] at h
      obtain rfl := Option.some.inj h
      exact hR (by decide) (by decide) dr_Mo_reckon_314 rfl
    · rw [if_neg (show ¬ (v6 < 0) from hc4)] at h
      refine gx_iload hC dr_Mo_reckon_210 rfl ?_
      obtain ⟨q5, e6, h⟩ := gb_of h
      refine gx_sI hC dr_Mo_reckon_212 lk_Mo_134 (mt_Mo_bits e6) rfl (by decide) ⟨by decide, by decide⟩ ⟨by decide, by decide⟩ rfl (Nat.le_of_ble_eq_true rfl) (fun z c2 hp => ?_)
      obtain ⟨hp1, rfl⟩ := hp; obtain rfl := hp1.symm
      refine gx_istore hC dr_Mo_reckon_215 (by decide) ?_
      refine gx_ldc2 (v := 1000000000000000) hC dr_Mo_reckon_217 lc_Mo_128 ?_
      refine gx_lstore hC dr_Mo_reckon_220 (by decide) ?_
      refine gx_iconst (v := 0) hC dr_Mo_reckon_222 (by decide) ?_
      refine gx_istore hC dr_Mo_reckon_223 (by decide) ?_
      exact gx_lv [(0, gv_R 57), (6, gv_I v6), (7, gv_I q5), (8, gv_L 1000000000000000), (10, gv_I 0)] ⟨rfl, rfl, rfl, rfl, rfl, trivial⟩ (gl_Mo_reckon_225 hC hR (fun _ _ h => ih _ _ h) 5000 _ _ _ _ _ h)
set_option maxHeartbeats 4000000 in
set_option maxRecDepth 100000 in
theorem gl_Mo_reckon_73 {x : gx_X} {G : gq_M × (Int → Int64)} {r : gq_M} (hC : gw_C 81 81 yn_Mo_reckon.cls bc_Mo_reckon 13 x) (hR : gr_V 81 bc_Mo_reckon 13 ({ frames := 3, cells := 0, slots := 0, locals := 68 } : Room) x (fun c2 => c2 = ca_A (G.1, r, G.2))) {K61 : Int32 → Int32 → Int32 → Int32 → gq_M → Option gq_M} (hK61 : ∀ (v2 : Int32) (v3 : Int32) (v4 : Int32) (v5 : Int32) (M : gq_M), K61 v2 v3 v4 v5 M = some r → gw_G 81 13 ({ frames := 3, cells := 0, slots := 0, locals := 68 } : Room) x 0 0 (ca_A (G.1, M, G.2)) 61 [(0, gv_R 57), (2, gv_I v2), (3, gv_I v3), (4, gv_I v4), (5, gv_I v5)] []) : ∀ (k : Nat) (v2 : Int32) (v3 : Int32) (v4 : Int32) (v5 : Int32) (v6 : Int32) (M : gq_M), fl_Mo_reckon_73 K61 k v2 v3 v4 v5 v6 M = some r → gw_G 81 13 ({ frames := 3, cells := 0, slots := 0, locals := 68 } : Room) x 0 0 (ca_A (G.1, M, G.2)) 73 [(0, gv_R 57), (2, gv_I v2), (3, gv_I v3), (4, gv_I v4), (5, gv_I v5), (6, gv_I v6)] [] := by
  intro k
  induction k with
  | zero =>
    intro v2 v3 v4 v5 v6 M h
    cases h
  | succ k ih =>
    intro v2 v3 v4 v5 v6 M h
    rw [fl_Mo_reckon_73] at h
    refine gx_iload hC dr_Mo_reckon_73 rfl ?_
    refine gx_aload_n hC dr_Mo_reckon_75 rfl ?_
    refine gx_get hC dr_Mo_reckon_76 lf_Mo_121 (by decide) rfl rfl ?_
    refine gx_icmp_ge (tgt := 175) hC dr_Mo_reckon_79 (by decide) (fun hc13 => ?_) (fun hc13 => ?_)
    · rw [if_pos (show (gq_f M 5) ≤ v6 from hc13)] at h
      refine gx_iinc (v := (v5 + 1)) hC dr_Mo_reckon_175 rfl (by decide) rfl ?_
      refine gx_goto (tgt := 61) hC dr_Mo_reckon_178 (by decide) ?_
      exact gx_lv [(0, gv_R 57), (2, gv_I v2), (3, gv_I v3), (4, gv_I v4), (5, gv_I (v5 + 1))] ⟨rfl, rfl, rfl, rfl, rfl, trivial⟩ (hK61 _ _ _ _ _ h)
    · rw [if_neg (show ¬ ((gq_f M 5) ≤ v6) from hc13)] at h
      refine gx_aload_n hC dr_Mo_reckon_82 rfl ?_
      refine gx_get hC dr_Mo_reckon_83 lf_Mo_63 (by decide) rfl rfl ?_
      refine gx_iload hC dr_Mo_reckon_86 rfl ?_
      obtain ⟨hz14, h⟩ := gk_of h
      refine gx_iald (f := (gq_i M 13)) hC dr_Mo_reckon_88 (by decide) rfl hz14 ?_
      refine gx_iload_n hC dr_Mo_reckon_89 rfl ?_
      refine gx_icmp_ne (tgt := 123) hC dr_Mo_reckon_90 (by decide) (fun hc15 => ?_) (fun hc15 => ?_)
      · rw [if_neg (show ¬ (((gq_i M 13) v5.toInt) = v3) from hc15)] at h
        refine gx_iconst (v := 0) hC dr_Mo_reckon_123 (by decide) ?_
        refine gx_istore hC dr_Mo_reckon_124 (by decide) ?_
        refine gx_aload_n hC dr_Mo_reckon_126 rfl ?_
        refine gx_get hC dr_Mo_reckon_127 lf_Mo_66 (by decide) rfl rfl ?_
        refine gx_bipush (v := 12) hC dr_Mo_reckon_130 (by decide) ?_
        refine gx_iload hC dr_Mo_reckon_132 rfl ?_
        refine gx_imul hC dr_Mo_reckon_134 ?_
        refine gx_iload hC dr_Mo_reckon_135 rfl ?_
        refine gx_iadd hC dr_Mo_reckon_137 ?_
        refine gx_iload hC dr_Mo_reckon_138 rfl ?_
        refine gx_if_eq (tgt := 149) hC dr_Mo_reckon_140 (by decide) (fun hc48 => ?_) (fun hc48 => ?_)
        · refine gx_aload_n hC dr_Mo_reckon_149 rfl ?_
          refine gx_aload_n hC dr_Mo_reckon_150 rfl ?_
          refine gx_get hC dr_Mo_reckon_151 lf_Mo_63 (by decide) rfl rfl ?_
          refine gx_iload hC dr_Mo_reckon_154 rfl ?_
          refine gx_iald (f := (gq_i M 13)) hC dr_Mo_reckon_156 (by decide) rfl hz14 ?_
          refine gx_aload_n hC dr_Mo_reckon_157 rfl ?_
          refine gx_get hC dr_Mo_reckon_158 lf_Mo_63 (by decide) rfl rfl ?_
          refine gx_iload hC dr_Mo_reckon_161 rfl ?_
          obtain ⟨hz49, h⟩ := gk_of h
          refine gx_iald (f := (gq_i M 13)) hC dr_Mo_reckon_163 (by decide) rfl hz49 ?_
          refine gx_iload_n hC dr_Mo_reckon_164 rfl ?_
          obtain ⟨q50, e51, h⟩ := gb_of h
          refine gx_vJ hC dr_Mo_reckon_165 lk_Mo_130 (mt_Mo_unitCost e51) rfl (by decide) ⟨by decide, by decide⟩ ⟨by decide, by decide⟩ (by decide) ⟨_, _, rfl⟩ rfl rfl (Nat.le_of_ble_eq_true rfl) (fun z c2 hp => ?_)
          obtain ⟨hp1, rfl⟩ := hp; obtain rfl := hp1.symm
          obtain ⟨hz52, h⟩ := gk_of h
          refine gx_last (f := (gq_l M 4)) hC (by decide) dr_Mo_reckon_168 (by decide) rfl hz52 (ma_L 4 (by decide)) ?_
          refine gx_iinc (v := (v6 + 1)) hC dr_Mo_reckon_169 rfl (by decide) rfl ?_
          refine gx_goto (tgt := 73) hC dr_Mo_reckon_172 (by decide) ?_
          exact gx_lv [(0, gv_R 57), (2, gv_I v2), (3, gv_I v3), (4, gv_I v4), (5, gv_I v5), (6, gv_I (v6 + 1))] ⟨rfl, rfl, rfl, rfl, rfl, rfl, trivial⟩ (ih _ _ _ _ _ _ h)
        · exact absurd (show ¬ ((0 : Int32) = 0) from hc48) (by decide)
      · rw [if_pos (show ((gq_i M 13) v5.toInt) = v3 from hc15)] at h
        refine gx_iload hC dr_Mo_reckon_93 rfl ?_
        refine gx_iconst (v := 1) hC dr_Mo_reckon_95 (by decide) ?_
        refine gx_icmp_ne (tgt := 106) hC dr_Mo_reckon_96 (by decide) (fun hc16 => ?_) (fun hc16 => ?_)
        · rw [if_neg (show ¬ (v4 = 1) from hc16)] at h
          refine gx_iload hC dr_Mo_reckon_106 rfl ?_
          refine gx_iconst (v := (-1)) hC dr_Mo_reckon_108 (by decide) ?_
          refine gx_icmp_ne (tgt := 123) hC dr_Mo_reckon_109 (by decide) (fun hc34 => ?_) (fun hc34 => ?_)
          · rw [if_neg (show ¬ (v4 = (-1)) from hc34)] at h
            refine gx_iconst (v := 0) hC dr_Mo_reckon_123 (by decide) ?_
            refine gx_istore hC dr_Mo_reckon_124 (by decide) ?_
            refine gx_aload_n hC dr_Mo_reckon_126 rfl ?_
            refine gx_get hC dr_Mo_reckon_127 lf_Mo_66 (by decide) rfl rfl ?_
            refine gx_bipush (v := 12) hC dr_Mo_reckon_130 (by decide) ?_
            refine gx_iload hC dr_Mo_reckon_132 rfl ?_
            refine gx_imul hC dr_Mo_reckon_134 ?_
            refine gx_iload hC dr_Mo_reckon_135 rfl ?_
            refine gx_iadd hC dr_Mo_reckon_137 ?_
            refine gx_iload hC dr_Mo_reckon_138 rfl ?_
            refine gx_if_eq (tgt := 149) hC dr_Mo_reckon_140 (by decide) (fun hc43 => ?_) (fun hc43 => ?_)
            · refine gx_aload_n hC dr_Mo_reckon_149 rfl ?_
              refine gx_aload_n hC dr_Mo_reckon_150 rfl ?_
              refine gx_get hC dr_Mo_reckon_151 lf_Mo_63 (by decide) rfl rfl ?_
              refine gx_iload hC dr_Mo_reckon_154 rfl ?_
              refine gx_iald (f := (gq_i M 13)) hC dr_Mo_reckon_156 (by decide) rfl hz14 ?_
              refine gx_aload_n hC dr_Mo_reckon_157 rfl ?_
              refine gx_get hC dr_Mo_reckon_158 lf_Mo_63 (by decide) rfl rfl ?_
              refine gx_iload hC dr_Mo_reckon_161 rfl ?_
              obtain ⟨hz44, h⟩ := gk_of h
              refine gx_iald (f := (gq_i M 13)) hC dr_Mo_reckon_163 (by decide) rfl hz44 ?_
              refine gx_iload_n hC dr_Mo_reckon_164 rfl ?_
              obtain ⟨q45, e46, h⟩ := gb_of h
              refine gx_vJ hC dr_Mo_reckon_165 lk_Mo_130 (mt_Mo_unitCost e46) rfl (by decide) ⟨by decide, by decide⟩ ⟨by decide, by decide⟩ (by decide) ⟨_, _, rfl⟩ rfl rfl (Nat.le_of_ble_eq_true rfl) (fun z c2 hp => ?_)
              obtain ⟨hp1, rfl⟩ := hp; obtain rfl := hp1.symm
              obtain ⟨hz47, h⟩ := gk_of h
              refine gx_last (f := (gq_l M 4)) hC (by decide) dr_Mo_reckon_168 (by decide) rfl hz47 (ma_L 4 (by decide)) ?_
              refine gx_iinc (v := (v6 + 1)) hC dr_Mo_reckon_169 rfl (by decide) rfl ?_
              refine gx_goto (tgt := 73) hC dr_Mo_reckon_172 (by decide) ?_
              exact gx_lv [(0, gv_R 57), (2, gv_I v2), (3, gv_I v3), (4, gv_I v4), (5, gv_I v5), (6, gv_I (v6 + 1))] ⟨rfl, rfl, rfl, rfl, rfl, rfl, trivial⟩ (ih _ _ _ _ _ _ h)
            · exact absurd (show ¬ ((0 : Int32) = 0) from hc43) (by decide)
          · rw [if_pos (show v4 = (-1) from hc34)] at h
            refine gx_iload hC dr_Mo_reckon_112 rfl ?_
            refine gx_iload hC dr_Mo_reckon_114 rfl ?_
            refine gx_icmp_ne (tgt := 123) hC dr_Mo_reckon_116 (by decide) (fun hc35 => ?_) (fun hc35 => ?_)
            · rw [if_neg (show ¬ (v5 = v6) from hc35)] at h
              refine gx_iconst (v := 0) hC dr_Mo_reckon_123 (by decide) ?_
              refine gx_istore hC dr_Mo_reckon_124 (by decide) ?_
              refine gx_aload_n hC dr_Mo_reckon_126 rfl ?_
              refine gx_get hC dr_Mo_reckon_127 lf_Mo_66 (by decide) rfl rfl ?_
              refine gx_bipush (v := 12) hC dr_Mo_reckon_130 (by decide) ?_
              refine gx_iload hC dr_Mo_reckon_132 rfl ?_
              refine gx_imul hC dr_Mo_reckon_134 ?_
              refine gx_iload hC dr_Mo_reckon_135 rfl ?_
              refine gx_iadd hC dr_Mo_reckon_137 ?_
              refine gx_iload hC dr_Mo_reckon_138 rfl ?_
              refine gx_if_eq (tgt := 149) hC dr_Mo_reckon_140 (by decide) (fun hc38 => ?_) (fun hc38 => ?_)
              · refine gx_aload_n hC dr_Mo_reckon_149 rfl ?_
                refine gx_aload_n hC dr_Mo_reckon_150 rfl ?_
                refine gx_get hC dr_Mo_reckon_151 lf_Mo_63 (by decide) rfl rfl ?_
                refine gx_iload hC dr_Mo_reckon_154 rfl ?_
                refine gx_iald (f := (gq_i M 13)) hC dr_Mo_reckon_156 (by decide) rfl hz14 ?_
                refine gx_aload_n hC dr_Mo_reckon_157 rfl ?_
                refine gx_get hC dr_Mo_reckon_158 lf_Mo_63 (by decide) rfl rfl ?_
                refine gx_iload hC dr_Mo_reckon_161 rfl ?_
                obtain ⟨hz39, h⟩ := gk_of h
                refine gx_iald (f := (gq_i M 13)) hC dr_Mo_reckon_163 (by decide) rfl hz39 ?_
                refine gx_iload_n hC dr_Mo_reckon_164 rfl ?_
                obtain ⟨q40, e41, h⟩ := gb_of h
                refine gx_vJ hC dr_Mo_reckon_165 lk_Mo_130 (mt_Mo_unitCost e41) rfl (by decide) ⟨by decide, by decide⟩ ⟨by decide, by decide⟩ (by decide) ⟨_, _, rfl⟩ rfl rfl (Nat.le_of_ble_eq_true rfl) (fun z c2 hp => ?_)
                obtain ⟨hp1, rfl⟩ := hp; obtain rfl := hp1.symm
                obtain ⟨hz42, h⟩ := gk_of h
                refine gx_last (f := (gq_l M 4)) hC (by decide) dr_Mo_reckon_168 (by decide) rfl hz42 (ma_L 4 (by decide)) ?_
                refine gx_iinc (v := (v6 + 1)) hC dr_Mo_reckon_169 rfl (by decide) rfl ?_
                refine gx_goto (tgt := 73) hC dr_Mo_reckon_172 (by decide) ?_
                exact gx_lv [(0, gv_R 57), (2, gv_I v2), (3, gv_I v3), (4, gv_I v4), (5, gv_I v5), (6, gv_I (v6 + 1))] ⟨rfl, rfl, rfl, rfl, rfl, rfl, trivial⟩ (ih _ _ _ _ _ _ h)
              · exact absurd (show ¬ ((0 : Int32) = 0) from hc38) (by decide)
            · rw [if_pos (show v5 = v6 from hc35)] at h
              refine gx_iconst (v := 1) hC dr_Mo_reckon_119 (by decide) ?_
              refine gx_goto (tgt := 124) hC dr_Mo_reckon_120 (by decide) ?_
              refine gx_istore hC dr_Mo_reckon_124 (by decide) ?_
              refine gx_aload_n hC dr_Mo_reckon_126 rfl ?_
              refine gx_get hC dr_Mo_reckon_127 lf_Mo_66 (by decide) rfl rfl ?_
              refine gx_bipush (v := 12) hC dr_Mo_reckon_130 (by decide) ?_
              refine gx_iload hC dr_Mo_reckon_132 rfl ?_
              refine gx_imul hC dr_Mo_reckon_134 ?_
              refine gx_iload hC dr_Mo_reckon_135 rfl ?_
              refine gx_iadd hC dr_Mo_reckon_137 ?_
              refine gx_iload hC dr_Mo_reckon_138 rfl ?_
              refine gx_if_eq (tgt := 149) hC dr_Mo_reckon_140 (by decide) (fun hc36 => ?_) (fun hc36 => ?_)
              · exact absurd (show (1 : Int32) = 0 from hc36) (by decide)
              · refine gx_ldc2 (v := 1000000000000000) hC dr_Mo_reckon_143 lc_Mo_128 ?_
                refine gx_goto (tgt := 168) hC dr_Mo_reckon_146 (by decide) ?_
                obtain ⟨hz37, h⟩ := gk_of h
                refine gx_last (f := (gq_l M 4)) hC (by decide) dr_Mo_reckon_168 (by decide) rfl hz37 (ma_L 4 (by decide)) ?_
                refine gx_iinc (v := (v6 + 1)) hC dr_Mo_reckon_169 rfl (by decide) rfl ?_
                refine gx_goto (tgt := 73) hC dr_Mo_reckon_172 (by decide) ?_
                exact gx_lv [(0, gv_R 57), (2, gv_I v2), (3, gv_I v3), (4, gv_I v4), (5, gv_I v5), (6, gv_I (v6 + 1))] ⟨rfl, rfl, rfl, rfl, rfl, rfl, trivial⟩ (ih _ _ _ _ _ _ h)
        · rw [if_pos (show v4 = 1 from hc16)] at h
          refine gx_iload hC dr_Mo_reckon_99 rfl ?_
          refine gx_iload hC dr_Mo_reckon_101 rfl ?_
          refine gx_icmp_ne (tgt := 119) hC dr_Mo_reckon_103 (by decide) (fun hc17 => ?_) (fun hc17 => ?_)
          · rw [if_neg (show ¬ (v5 = v6) from hc17)] at h
            refine gx_iconst (v := 1) hC dr_Mo_reckon_119 (by decide) ?_
            refine gx_goto (tgt := 124) hC dr_Mo_reckon_120 (by decide) ?_
            refine gx_istore hC dr_Mo_reckon_124 (by decide) ?_
            refine gx_aload_n hC dr_Mo_reckon_126 rfl ?_
            refine gx_get hC dr_Mo_reckon_127 lf_Mo_66 (by decide) rfl rfl ?_
            refine gx_bipush (v := 12) hC dr_Mo_reckon_130 (by decide) ?_
            refine gx_iload hC dr_Mo_reckon_132 rfl ?_
            refine gx_imul hC dr_Mo_reckon_134 ?_
            refine gx_iload hC dr_Mo_reckon_135 rfl ?_
            refine gx_iadd hC dr_Mo_reckon_137 ?_
            refine gx_iload hC dr_Mo_reckon_138 rfl ?_
            refine gx_if_eq (tgt := 149) hC dr_Mo_reckon_140 (by decide) (fun hc32 => ?_) (fun hc32 => ?_)
            · exact absurd (show (1 : Int32) = 0 from hc32) (by decide)
            · refine gx_ldc2 (v := 1000000000000000) hC dr_Mo_reckon_143 lc_Mo_128 ?_
              refine gx_goto (tgt := 168) hC dr_Mo_reckon_146 (by decide) ?_
              obtain ⟨hz33, h⟩ := gk_of h
              refine gx_last (f := (gq_l M 4)) hC (by decide) dr_Mo_reckon_168 (by decide) rfl hz33 (ma_L 4 (by decide)) ?_
              refine gx_iinc (v := (v6 + 1)) hC dr_Mo_reckon_169 rfl (by decide) rfl ?_
              refine gx_goto (tgt := 73) hC dr_Mo_reckon_172 (by decide) ?_
              exact gx_lv [(0, gv_R 57), (2, gv_I v2), (3, gv_I v3), (4, gv_I v4), (5, gv_I v5), (6, gv_I (v6 + 1))] ⟨rfl, rfl, rfl, rfl, rfl, rfl, trivial⟩ (ih _ _ _ _ _ _ h)
          · rw [if_pos (show v5 = v6 from hc17)] at h
            refine gx_iload hC dr_Mo_reckon_106 rfl ?_
            refine gx_iconst (v := (-1)) hC dr_Mo_reckon_108 (by decide) ?_
            refine gx_icmp_ne (tgt := 123) hC dr_Mo_reckon_109 (by decide) (fun hc18 => ?_) (fun hc18 => ?_)
            · rw [if_neg (show ¬ (v4 = (-1)) from hc18)] at h
              refine gx_iconst (v := 0) hC dr_Mo_reckon_123 (by decide) ?_
              refine gx_istore hC dr_Mo_reckon_124 (by decide) ?_
              refine gx_aload_n hC dr_Mo_reckon_126 rfl ?_
              refine gx_get hC dr_Mo_reckon_127 lf_Mo_66 (by decide) rfl rfl ?_
              refine gx_bipush (v := 12) hC dr_Mo_reckon_130 (by decide) ?_
              refine gx_iload hC dr_Mo_reckon_132 rfl ?_
              refine gx_imul hC dr_Mo_reckon_134 ?_
              refine gx_iload hC dr_Mo_reckon_135 rfl ?_
              refine gx_iadd hC dr_Mo_reckon_137 ?_
              refine gx_iload hC dr_Mo_reckon_138 rfl ?_
              refine gx_if_eq (tgt := 149) hC dr_Mo_reckon_140 (by decide) (fun hc27 => ?_) (fun hc27 => ?_)
              · refine gx_aload_n hC dr_Mo_reckon_149 rfl ?_
                refine gx_aload_n hC dr_Mo_reckon_150 rfl ?_
                refine gx_get hC dr_Mo_reckon_151 lf_Mo_63 (by decide) rfl rfl ?_
                refine gx_iload hC dr_Mo_reckon_154 rfl ?_
                refine gx_iald (f := (gq_i M 13)) hC dr_Mo_reckon_156 (by decide) rfl hz14 ?_
                refine gx_aload_n hC dr_Mo_reckon_157 rfl ?_
                refine gx_get hC dr_Mo_reckon_158 lf_Mo_63 (by decide) rfl rfl ?_
                refine gx_iload hC dr_Mo_reckon_161 rfl ?_
                obtain ⟨hz28, h⟩ := gk_of h
                refine gx_iald (f := (gq_i M 13)) hC dr_Mo_reckon_163 (by decide) rfl hz28 ?_
                refine gx_iload_n hC dr_Mo_reckon_164 rfl ?_
                obtain ⟨q29, e30, h⟩ := gb_of h
                refine gx_vJ hC dr_Mo_reckon_165 lk_Mo_130 (mt_Mo_unitCost e30) rfl (by decide) ⟨by decide, by decide⟩ ⟨by decide, by decide⟩ (by decide) ⟨_, _, rfl⟩ rfl rfl (Nat.le_of_ble_eq_true rfl) (fun z c2 hp => ?_)
                obtain ⟨hp1, rfl⟩ := hp; obtain rfl := hp1.symm
                obtain ⟨hz31, h⟩ := gk_of h
                refine gx_last (f := (gq_l M 4)) hC (by decide) dr_Mo_reckon_168 (by decide) rfl hz31 (ma_L 4 (by decide)) ?_
                refine gx_iinc (v := (v6 + 1)) hC dr_Mo_reckon_169 rfl (by decide) rfl ?_
                refine gx_goto (tgt := 73) hC dr_Mo_reckon_172 (by decide) ?_
                exact gx_lv [(0, gv_R 57), (2, gv_I v2), (3, gv_I v3), (4, gv_I v4), (5, gv_I v5), (6, gv_I (v6 + 1))] ⟨rfl, rfl, rfl, rfl, rfl, rfl, trivial⟩ (ih _ _ _ _ _ _ h)
              · exact absurd (show ¬ ((0 : Int32) = 0) from hc27) (by decide)
            · rw [if_pos (show v4 = (-1) from hc18)] at h
              refine gx_iload hC dr_Mo_reckon_112 rfl ?_
              refine gx_iload hC dr_Mo_reckon_114 rfl ?_
              refine gx_icmp_ne (tgt := 123) hC dr_Mo_reckon_116 (by decide) (fun hc19 => ?_) (fun hc19 => ?_)
              · rw [if_neg (show ¬ (v5 = v6) from hc19)] at h
                refine gx_iconst (v := 0) hC dr_Mo_reckon_123 (by decide) ?_
                refine gx_istore hC dr_Mo_reckon_124 (by decide) ?_
                refine gx_aload_n hC dr_Mo_reckon_126 rfl ?_
                refine gx_get hC dr_Mo_reckon_127 lf_Mo_66 (by decide) rfl rfl ?_
                refine gx_bipush (v := 12) hC dr_Mo_reckon_130 (by decide) ?_
                refine gx_iload hC dr_Mo_reckon_132 rfl ?_
                refine gx_imul hC dr_Mo_reckon_134 ?_
                refine gx_iload hC dr_Mo_reckon_135 rfl ?_
                refine gx_iadd hC dr_Mo_reckon_137 ?_
                refine gx_iload hC dr_Mo_reckon_138 rfl ?_
                refine gx_if_eq (tgt := 149) hC dr_Mo_reckon_140 (by decide) (fun hc22 => ?_) (fun hc22 => ?_)
                · refine gx_aload_n hC dr_Mo_reckon_149 rfl ?_
                  refine gx_aload_n hC dr_Mo_reckon_150 rfl ?_
                  refine gx_get hC dr_Mo_reckon_151 lf_Mo_63 (by decide) rfl rfl ?_
                  refine gx_iload hC dr_Mo_reckon_154 rfl ?_
                  refine gx_iald (f := (gq_i M 13)) hC dr_Mo_reckon_156 (by decide) rfl hz14 ?_
                  refine gx_aload_n hC dr_Mo_reckon_157 rfl ?_
                  refine gx_get hC dr_Mo_reckon_158 lf_Mo_63 (by decide) rfl rfl ?_
                  refine gx_iload hC dr_Mo_reckon_161 rfl ?_
                  obtain ⟨hz23, h⟩ := gk_of h
                  refine gx_iald (f := (gq_i M 13)) hC dr_Mo_reckon_163 (by decide) rfl hz23 ?_
                  refine gx_iload_n hC dr_Mo_reckon_164 rfl ?_
                  obtain ⟨q24, e25, h⟩ := gb_of h
                  refine gx_vJ hC dr_Mo_reckon_165 lk_Mo_130 (mt_Mo_unitCost e25) rfl (by decide) ⟨by decide, by decide⟩ ⟨by decide, by decide⟩ (by decide) ⟨_, _, rfl⟩ rfl rfl (Nat.le_of_ble_eq_true rfl) (fun z c2 hp => ?_)
                  obtain ⟨hp1, rfl⟩ := hp; obtain rfl := hp1.symm
                  obtain ⟨hz26, h⟩ := gk_of h
                  refine gx_last (f := (gq_l M 4)) hC (by decide) dr_Mo_reckon_168 (by decide) rfl hz26 (ma_L 4 (by decide)) ?_
                  refine gx_iinc (v := (v6 + 1)) hC dr_Mo_reckon_169 rfl (by decide) rfl ?_
                  refine gx_goto (tgt := 73) hC dr_Mo_reckon_172 (by decide) ?_
                  exact gx_lv [(0, gv_R 57), (2, gv_I v2), (3, gv_I v3), (4, gv_I v4), (5, gv_I v5), (6, gv_I (v6 + 1))] ⟨rfl, rfl, rfl, rfl, rfl, rfl, trivial⟩ (ih _ _ _ _ _ _ h)
                · exact absurd (show ¬ ((0 : Int32) = 0) from hc22) (by decide)
              · rw [if_pos (show v5 = v6 from hc19)] at h
                refine gx_iconst (v := 1) hC dr_Mo_reckon_119 (by decide) ?_
                refine gx_goto (tgt := 124) hC dr_Mo_reckon_120 (by decide) ?_
                refine gx_istore hC dr_Mo_reckon_124 (by decide) ?_
                refine gx_aload_n hC dr_Mo_reckon_126 rfl ?_
                refine gx_get hC dr_Mo_reckon_127 lf_Mo_66 (by decide) rfl rfl ?_
                refine gx_bipush (v := 12) hC dr_Mo_reckon_130 (by decide) ?_
                refine gx_iload hC dr_Mo_reckon_132 rfl ?_
                refine gx_imul hC dr_Mo_reckon_134 ?_
                refine gx_iload hC dr_Mo_reckon_135 rfl ?_
                refine gx_iadd hC dr_Mo_reckon_137 ?_
                refine gx_iload hC dr_Mo_reckon_138 rfl ?_
                refine gx_if_eq (tgt := 149) hC dr_Mo_reckon_140 (by decide) (fun hc20 => ?_) (fun hc20 => ?_)
                · exact absurd (show (1 : Int32) = 0 from hc20) (by decide)
                · refine gx_ldc2 (v := 1000000000000000) hC dr_Mo_reckon_143 lc_Mo_128 ?_
                  refine gx_goto (tgt := 168) hC dr_Mo_reckon_146 (by decide) ?_
                  obtain ⟨hz21, h⟩ := gk_of h
                  refine gx_last (f := (gq_l M 4)) hC (by decide) dr_Mo_reckon_168 (by decide) rfl hz21 (ma_L 4 (by decide)) ?_
                  refine gx_iinc (v := (v6 + 1)) hC dr_Mo_reckon_169 rfl (by decide) rfl ?_
                  refine gx_goto (tgt := 73) hC dr_Mo_reckon_172 (by decide) ?_
                  exact gx_lv [(0, gv_R 57), (2, gv_I v2), (3, gv_I v3), (4, gv_I v4), (5, gv_I v5), (6, gv_I (v6 + 1))] ⟨rfl, rfl, rfl, rfl, rfl, rfl, trivial⟩ (ih _ _ _ _ _ _ h)
set_option maxHeartbeats 4000000 in
set_option maxRecDepth 100000 in
theorem gl_Mo_reckon_61 {x : gx_X} {G : gq_M × (Int → Int64)} {r : gq_M} (hC : gw_C 81 81 yn_Mo_reckon.cls bc_Mo_reckon 13 x) (hR : gr_V 81 bc_Mo_reckon 13 ({ frames := 3, cells := 0, slots := 0, locals := 68 } : Room) x (fun c2 => c2 = ca_A (G.1, r, G.2))) : ∀ (k : Nat) (v2 : Int32) (v3 : Int32) (v4 : Int32) (v5 : Int32) (M : gq_M), fl_Mo_reckon_61 k v2 v3 v4 v5 M = some r → gw_G 81 13 ({ frames := 3, cells := 0, slots := 0, locals := 68 } : Room) x 0 0 (ca_A (G.1, M, G.2)) 61 [(0, gv_R 57), (2, gv_I v2), (3, gv_I v3), (4, gv_I v4), (5, gv_I v5)] [] := by
  intro k
  induction k with
  | zero =>
    intro v2 v3 v4 v5 M h
    cases h
  | succ k ih =>
    intro v2 v3 v4 v5 M h
    rw [fl_Mo_reckon_61] at h
    refine gx_iload hC dr_Mo_reckon_61 rfl ?_
    refine gx_aload_n hC dr_Mo_reckon_63 rfl ?_
    refine gx_get hC dr_Mo_reckon_64 lf_Mo_121 (by decide) rfl rfl ?_
    refine gx_icmp_ge (tgt := 181) hC dr_Mo_reckon_67 (by decide) (fun hc2 => ?_) (fun hc2 => ?_)
    · rw [if_pos (show (gq_f M 5) ≤ v5 from hc2)] at h
      refine gx_iconst (v := 1) hC dr_Mo_reckon_181 (by decide) ?_
      refine gx_aload_n hC dr_Mo_reckon_182 rfl ?_
      refine gx_get hC dr_Mo_reckon_183 lf_Mo_121 (by decide) rfl rfl ?_
      refine gx_ishl hC dr_Mo_reckon_186 ?_
      refine gx_iconst (v := 1) hC dr_Mo_reckon_187 (by decide) ?_
      refine gx_isub hC dr_Mo_reckon_188 ?_
      refine gx_istore hC dr_Mo_reckon_189 (by decide) ?_
      refine gx_aload_n hC dr_Mo_reckon_191 rfl ?_
      refine gx_get hC dr_Mo_reckon_192 lf_Mo_69 (by decide) rfl rfl ?_
      refine gx_iload hC dr_Mo_reckon_195 rfl ?_
      refine gx_lconst hC dr_Mo_reckon_197 ?_
      obtain ⟨hz3, h⟩ := gk_of h
      refine gx_last (f := (gq_l M 5)) hC (by decide) dr_Mo_reckon_198 (by decide) rfl hz3 (ma_L 5 (by decide)) ?_
      refine gx_iload hC dr_Mo_reckon_199 rfl ?_
      refine gx_iconst (v := 1) hC dr_Mo_reckon_201 (by decide) ?_
      refine gx_isub hC dr_Mo_reckon_202 ?_
      refine gx_istore hC dr_Mo_reckon_203 (by decide) ?_
      exact gx_lv [(0, gv_R 57), (6, gv_I (((((1 : Int32) <<< ((gq_f M 5) &&& 31)) : Int32) - 1) - 1))] ⟨rfl, rfl, trivial⟩ (gl_Mo_reckon_205 hC hR 5000 _ _ h)
    · rw [if_neg (show ¬ ((gq_f M 5) ≤ v5) from hc2)] at h
      refine gx_iconst (v := 0) hC dr_Mo_reckon_70 (by decide) ?_
      refine gx_istore hC dr_Mo_reckon_71 (by decide) ?_
      exact gx_lv [(0, gv_R 57), (2, gv_I v2), (3, gv_I v3), (4, gv_I v4), (5, gv_I v5), (6, gv_I 0)] ⟨rfl, rfl, rfl, rfl, rfl, rfl, trivial⟩ (gl_Mo_reckon_73 hC hR (fun _ _ _ _ _ h => ih _ _ _ _ _ h) 5000 _ _ _ _ _ _ h)
set_option maxHeartbeats 4000000 in
set_option maxRecDepth 100000 in
theorem gl_Mo_reckon_8 {x : gx_X} {G : gq_M × (Int → Int64)} {r : gq_M} (hC : gw_C 81 81 yn_Mo_reckon.cls bc_Mo_reckon 13 x) (hR : gr_V 81 bc_Mo_reckon 13 ({ frames := 3, cells := 0, slots := 0, locals := 68 } : Room) x (fun c2 => c2 = ca_A (G.1, r, G.2))) : ∀ (k : Nat) (v1 : Int32) (v2 : Int32) (v3 : Int32) (v4 : Int32) (v5 : Int32) (M : gq_M), fl_Mo_reckon_8 k v1 v2 v3 v4 v5 M = some r → gw_G 81 13 ({ frames := 3, cells := 0, slots := 0, locals := 68 } : Room) x 0 0 (ca_A (G.1, M, G.2)) 8 [(0, gv_R 57), (1, gv_I v1), (2, gv_I v2), (3, gv_I v3), (4, gv_I v4), (5, gv_I v5)] [] := by
  intro k
  induction k with
  | zero =>
    intro v1 v2 v3 v4 v5 M h
    cases h
  | succ k ih =>
    intro v1 v2 v3 v4 v5 M h
    rw [fl_Mo_reckon_8] at h
    refine gx_iload hC dr_Mo_reckon_8 rfl ?_
    refine gx_aload_n hC dr_Mo_reckon_10 rfl ?_
    refine gx_get hC dr_Mo_reckon_11 lf_Mo_89 (by decide) rfl rfl ?_
    refine gx_icmp_ge (tgt := 58) hC dr_Mo_reckon_14 (by decide) (fun hc1 => ?_) (fun hc1 => ?_)
    · rw [if_pos (show (gq_f M 2) ≤ v5 from hc1)] at h
      refine gx_iconst (v := 0) hC dr_Mo_reckon_58 (by decide) ?_
      refine gx_istore hC dr_Mo_reckon_59 (by decide) ?_
      exact gx_lv [(0, gv_R 57), (2, gv_I v2), (3, gv_I v3), (4, gv_I v4), (5, gv_I 0)] ⟨rfl, rfl, rfl, rfl, rfl, trivial⟩ (gl_Mo_reckon_61 hC hR 5000 _ _ _ _ _ h)
    · rw [if_neg (show ¬ ((gq_f M 2) ≤ v5) from hc1)] at h
      refine gx_aload_n hC dr_Mo_reckon_17 rfl ?_
      refine gx_iload hC dr_Mo_reckon_18 rfl ?_
      refine gx_iload_n hC dr_Mo_reckon_20 rfl ?_
      refine gx_iload_n hC dr_Mo_reckon_21 rfl ?_
      obtain ⟨q53, e54, h⟩ := gb_of h
      refine gx_vI hC dr_Mo_reckon_22 lk_Mo_124 (mt_Mo_isUnit e54) rfl (by decide) ⟨by decide, by decide⟩ ⟨by decide, by decide⟩ (by decide) ⟨_, _, rfl⟩ rfl rfl (Nat.le_of_ble_eq_true rfl) (fun z c2 hp => ?_)
      obtain ⟨hp1, rfl⟩ := hp; obtain rfl := hp1.symm
      refine gx_if_ne (tgt := 31) hC dr_Mo_reckon_25 (by decide) (fun hc55 => ?_) (fun hc55 => ?_)
      · rw [if_neg (show ¬ (q53 = 0) from hc55)] at h
        refine gx_aload_n hC dr_Mo_reckon_31 rfl ?_
        refine gx_get hC dr_Mo_reckon_32 lf_Mo_63 (by decide) rfl rfl ?_
        refine gx_aload_n hC dr_Mo_reckon_35 rfl ?_
        refine gx_get hC dr_Mo_reckon_36 lf_Mo_121 (by decide) rfl rfl ?_
        refine gx_iload hC dr_Mo_reckon_39 rfl ?_
        obtain ⟨hz56, h⟩ := gk_of h
        refine gx_iast (f := (gq_i M 13)) hC (by decide) dr_Mo_reckon_41 (by decide) rfl hz56 (ma_I 13 (by decide)) ?_
        refine gx_aload_n hC dr_Mo_reckon_42 rfl ?_
        refine gx_dup hC dr_Mo_reckon_43 rfl ?_
        refine gx_get hC dr_Mo_reckon_44 lf_Mo_121 (by decide) rfl rfl ?_
        refine gx_iconst (v := 1) hC dr_Mo_reckon_47 (by decide) ?_
        refine gx_iadd hC dr_Mo_reckon_48 ?_
        refine gx_put hC (by decide) dr_Mo_reckon_49 lf_Mo_121 lp_Mo_units (by decide) rfl (Nat.le_of_ble_eq_true rfl) (fun _ => rfl) (fun _ => rfl) ma_F5 ?_
        refine gx_iinc (v := (v5 + 1)) hC dr_Mo_reckon_52 rfl (by decide) rfl ?_
        refine gx_goto (tgt := 8) hC dr_Mo_reckon_55 (by decide) ?_
        exact gx_lv [(0, gv_R 57), (1, gv_I v1), (2, gv_I v2), (3, gv_I v3), (4, gv_I v4), (5, gv_I (v5 + 1))] ⟨rfl, rfl, rfl, rfl, rfl, rfl, trivial⟩ (ih _ _ _ _ _ _ h)
      · rw [if_pos (show q53 = 0 from hc55)] at h
        refine gx_goto (tgt := 52) hC dr_Mo_reckon_28 (by decide) ?_
        refine gx_iinc (v := (v5 + 1)) hC dr_Mo_reckon_52 rfl (by decide) rfl ?_
        refine gx_goto (tgt := 8) hC dr_Mo_reckon_55 (by decide) ?_
        exact gx_lv [(0, gv_R 57), (1, gv_I v1), (2, gv_I v2), (3, gv_I v3), (4, gv_I v4), (5, gv_I (v5 + 1))] ⟨rfl, rfl, rfl, rfl, rfl, rfl, trivial⟩ (ih _ _ _ _ _ _ h)
set_option maxHeartbeats 4000000 in
set_option maxRecDepth 100000 in
theorem mt_Mo_reckon {l : Launch} {D : va_G} {ad : Nat → Nat} {ck : Nat → ClassId} {G : gq_M × (Int → Int64)} {p0 : Int32} {p1 : Int32} {p2 : Int32} {p3 : Int32} {M : gq_M} {r : gq_M} (h : fn_Mo_reckon p0 p1 p2 p3 M = some r) : gm_V 81 81 l D ad ck yn_Mo_reckon bc_Mo_reckon 13 ({ frames := 3, cells := 0, slots := 0, locals := 68 } : Room) [gv_R 57, gv_I p0, gv_I p1, gv_I p2, gv_I p3] (ca_A (G.1, M, G.2)) (fun c2 => c2 = ca_A (G.1, r, G.2)) := by
  refine gm_V.of (by decide) (Nat.le_of_ble_eq_true rfl) (fun x hC hR => ?_)
  unfold fn_Mo_reckon at h
  refine gx_aload_n hC dr_Mo_reckon_0 rfl ?_
  refine gx_iconst (v := 0) hC dr_Mo_reckon_1 (by decide) ?_
  refine gx_put hC (by decide) dr_Mo_reckon_2 lf_Mo_121 lp_Mo_units (by decide) rfl (Nat.le_of_ble_eq_true rfl) (fun _ => rfl) (fun _ => rfl) ma_F5 ?_
  refine gx_iconst (v := 0) hC dr_Mo_reckon_5 (by decide) ?_
  refine gx_istore hC dr_Mo_reckon_6 (by decide) ?_
  exact gx_lv [(0, gv_R 57), (1, gv_I p0), (2, gv_I p1), (3, gv_I p2), (4, gv_I p3), (5, gv_I 0)] ⟨rfl, rfl, rfl, rfl, rfl, rfl, trivial⟩ (gl_Mo_reckon_8 hC hR 5000 _ _ _ _ _ _ h)
def fl_Mo_choose_55 (K24 : Int32 → Int32 → Int32 → gq_M → Option gq_M) : Nat → Int32 → Int32 → Int32 → Int32 → gq_M → Option gq_M
  | 0, _, _, _, _, _ => none
  | k + 1, v1, v2, v3, v4, M => (fn_Mo_fits v3 v4 v1 M).bind fun q10 => if q10 = 0 then fl_Mo_choose_55 K24 k v1 v2 v3 (v4 + 1) M else if 0 ≤ v3.toInt ∧ v3.toInt < ((12 : Nat) : Int) then K24 (v1 ||| (((1 : Int32) <<< (v4 &&& 31)) : Int32)) v2 (v3 + 1) (gs_i M 14 (gz_u (gq_i M 14) v3.toInt v4)) else none
def fl_Mo_choose_24 : Nat → Int32 → Int32 → Int32 → gq_M → Option gq_M
  | 0, _, _, _, _ => none
  | k + 1, v1, v2, v3, M => if (gq_f M 5) ≤ v3 then some M else if v2 = 0 then (fn_Mo_fits v3 v3 v1 M).bind fun q7 => if q7 = 0 then fl_Mo_choose_55 (fl_Mo_choose_24 k) 5000 v1 v2 v3 0 M else if 0 ≤ v3.toInt ∧ v3.toInt < ((12 : Nat) : Int) then fl_Mo_choose_24 k (v1 ||| (((1 : Int32) <<< (v3 &&& 31)) : Int32)) v2 (v3 + 1) (gs_i M 14 (gz_u (gq_i M 14) v3.toInt v3)) else none else if 0 ≤ v3.toInt ∧ v3.toInt < ((12 : Nat) : Int) then fl_Mo_choose_24 k (v1 ||| (((1 : Int32) <<< (v3 &&& 31)) : Int32)) v2 (v3 + 1) (gs_i M 14 (gz_u (gq_i M 14) v3.toInt v3)) else none
def fn_Mo_choose  (M : gq_M) : Option gq_M := (fn_Mo_sumNow  M).bind fun q1 => if q1 = ((gq_l M 5) 0) then fl_Mo_choose_24 5000 0 1 0 M else fl_Mo_choose_24 5000 0 0 0 M
set_option maxHeartbeats 4000000 in
set_option maxRecDepth 100000 in
theorem gl_Mo_choose_55 {x : gx_X} {G : gq_M × (Int → Int64)} {r : gq_M} (hC : gw_C 81 81 yn_Mo_choose.cls bc_Mo_choose 5 x) (hR : gr_V 81 bc_Mo_choose 5 ({ frames := 1, cells := 0, slots := 0, locals := 23 } : Room) x (fun c2 => c2 = ca_A (G.1, r, G.2))) {K24 : Int32 → Int32 → Int32 → gq_M → Option gq_M} (hK24 : ∀ (v1 : Int32) (v2 : Int32) (v3 : Int32) (M : gq_M), K24 v1 v2 v3 M = some r → gw_G 81 5 ({ frames := 1, cells := 0, slots := 0, locals := 23 } : Room) x 0 0 (ca_A (G.1, M, G.2)) 24 [(0, gv_R 57), (1, gv_I v1), (2, gv_I v2), (3, gv_I v3)] []) : ∀ (k : Nat) (v1 : Int32) (v2 : Int32) (v3 : Int32) (v4 : Int32) (M : gq_M), fl_Mo_choose_55 K24 k v1 v2 v3 v4 M = some r → gw_G 81 5 ({ frames := 1, cells := 0, slots := 0, locals := 23 } : Room) x 0 0 (ca_A (G.1, M, G.2)) 55 [(0, gv_R 57), (1, gv_I v1), (2, gv_I v2), (3, gv_I v3), (4, gv_I v4)] [] := by
  intro k
  induction k with
  | zero =>
    intro v1 v2 v3 v4 M h
    cases h
  | succ k ih =>
    intro v1 v2 v3 v4 M h
    rw [fl_Mo_choose_55] at h
    refine gx_aload_n hC dr_Mo_choose_55 rfl ?_
    refine gx_iload_n hC dr_Mo_choose_56 rfl ?_
    refine gx_iload hC dr_Mo_choose_57 rfl ?_
    refine gx_iload_n hC dr_Mo_choose_59 rfl ?_
    obtain ⟨q10, e11, h⟩ := gb_of h
    refine gx_vI hC dr_Mo_choose_60 lk_Mo_141 (mt_Mo_fits e11) rfl (by decide) ⟨by decide, by decide⟩ ⟨by decide, by decide⟩ (by decide) ⟨_, _, rfl⟩ rfl rfl (Nat.le_of_ble_eq_true rfl) (fun z c2 hp => ?_)
    obtain ⟨hp1, rfl⟩ := hp; obtain rfl := hp1.symm
    refine gx_if_ne (tgt := 72) hC dr_Mo_choose_63 (by decide) (fun hc12 => ?_) (fun hc12 => ?_)
    · rw [if_neg (show ¬ (q10 = 0) from hc12)] at h
      refine gx_aload_n hC dr_Mo_choose_72 rfl ?_
      refine gx_get hC dr_Mo_choose_73 lf_Mo_72 (by decide) rfl rfl ?_
      refine gx_iload_n hC dr_Mo_choose_76 rfl ?_
      refine gx_iload hC dr_Mo_choose_77 rfl ?_
      obtain ⟨hz13, h⟩ := gk_of h
      refine gx_iast (f := (gq_i M 14)) hC (by decide) dr_Mo_choose_79 (by decide) rfl hz13 (ma_I 14 (by decide)) ?_
      refine gx_iload_n hC dr_Mo_choose_80 rfl ?_
      refine gx_iconst (v := 1) hC dr_Mo_choose_81 (by decide) ?_
      refine gx_iload hC dr_Mo_choose_82 rfl ?_
      refine gx_ishl hC dr_Mo_choose_84 ?_
      refine gx_ior hC dr_Mo_choose_85 ?_
      refine gx_istore_n hC dr_Mo_choose_86 (by decide) ?_
      refine gx_iinc (v := (v3 + 1)) hC dr_Mo_choose_87 rfl (by decide) rfl ?_
      refine gx_goto (tgt := 24) hC dr_Mo_choose_90 (by decide) ?_
      exact gx_lv [(0, gv_R 57), (1, gv_I (v1 ||| (((1 : Int32) <<< (v4 &&& 31)) : Int32))), (2, gv_I v2), (3, gv_I (v3 + 1))] ⟨rfl, rfl, rfl, rfl, trivial⟩ (hK24 _ _ _ _ h)
    · rw [if_pos (show q10 = 0 from hc12)] at h
      refine gx_iinc (v := (v4 + 1)) hC dr_Mo_choose_66 rfl (by decide) rfl ?_
      refine gx_goto (tgt := 55) hC dr_Mo_choose_69 (by decide) ?_
      exact gx_lv [(0, gv_R 57), (1, gv_I v1), (2, gv_I v2), (3, gv_I v3), (4, gv_I (v4 + 1))] ⟨rfl, rfl, rfl, rfl, rfl, trivial⟩ (ih _ _ _ _ _ h)
set_option maxHeartbeats 4000000 in
set_option maxRecDepth 100000 in
theorem gl_Mo_choose_24 {x : gx_X} {G : gq_M × (Int → Int64)} {r : gq_M} (hC : gw_C 81 81 yn_Mo_choose.cls bc_Mo_choose 5 x) (hR : gr_V 81 bc_Mo_choose 5 ({ frames := 1, cells := 0, slots := 0, locals := 23 } : Room) x (fun c2 => c2 = ca_A (G.1, r, G.2))) : ∀ (k : Nat) (v1 : Int32) (v2 : Int32) (v3 : Int32) (M : gq_M), fl_Mo_choose_24 k v1 v2 v3 M = some r → gw_G 81 5 ({ frames := 1, cells := 0, slots := 0, locals := 23 } : Room) x 0 0 (ca_A (G.1, M, G.2)) 24 [(0, gv_R 57), (1, gv_I v1), (2, gv_I v2), (3, gv_I v3)] [] := by
  intro k
  induction k with
  | zero =>
    intro v1 v2 v3 M h
    cases h
  | succ k ih =>
    intro v1 v2 v3 M h
    rw [fl_Mo_choose_24] at h
    refine gx_iload_n hC dr_Mo_choose_24 rfl ?_
    refine gx_aload_n hC dr_Mo_choose_25 rfl ?_
    refine gx_get hC dr_Mo_choose_26 lf_Mo_121 (by decide) rfl rfl ?_
    refine gx_icmp_ge (tgt := 93) hC dr_Mo_choose_29 (by decide) (fun hc5 => ?_) (fun hc5 => ?_)
    · rw [if_pos (show (gq_f M 5) ≤ v3 from hc5)] at h
      obtain rfl := Option.some.inj h
      exact hR (by decide) (by decide) dr_Mo_choose_93 rfl
    · rw [if_neg (show ¬ ((gq_f M 5) ≤ v3) from hc5)] at h
      refine gx_iconst (v := 0) hC dr_Mo_choose_32 (by decide) ?_
      refine gx_istore hC dr_Mo_choose_33 (by decide) ?_
      refine gx_iload_n hC dr_Mo_choose_35 rfl ?_
      refine gx_if_ne (tgt := 49) hC dr_Mo_choose_36 (by decide) (fun hc6 => ?_) (fun hc6 => ?_)
      · rw [if_neg (show ¬ (v2 = 0) from hc6)] at h
        refine gx_iload_n hC dr_Mo_choose_49 rfl ?_
        refine gx_istore hC dr_Mo_choose_50 (by decide) ?_
        refine gx_goto (tgt := 72) hC dr_Mo_choose_52 (by decide) ?_
        refine gx_aload_n hC dr_Mo_choose_72 rfl ?_
        refine gx_get hC dr_Mo_choose_73 lf_Mo_72 (by decide) rfl rfl ?_
        refine gx_iload_n hC dr_Mo_choose_76 rfl ?_
        refine gx_iload hC dr_Mo_choose_77 rfl ?_
        obtain ⟨hz15, h⟩ := gk_of h
        refine gx_iast (f := (gq_i M 14)) hC (by decide) dr_Mo_choose_79 (by decide) rfl hz15 (ma_I 14 (by decide)) ?_
        refine gx_iload_n hC dr_Mo_choose_80 rfl ?_
        refine gx_iconst (v := 1) hC dr_Mo_choose_81 (by decide) ?_
        refine gx_iload hC dr_Mo_choose_82 rfl ?_
        refine gx_ishl hC dr_Mo_choose_84 ?_
        refine gx_ior hC dr_Mo_choose_85 ?_
        refine gx_istore_n hC dr_Mo_choose_86 (by decide) ?_
        refine gx_iinc (v := (v3 + 1)) hC dr_Mo_choose_87 rfl (by decide) rfl ?_
        refine gx_goto (tgt := 24) hC dr_Mo_choose_90 (by decide) ?_
        exact gx_lv [(0, gv_R 57), (1, gv_I (v1 ||| (((1 : Int32) <<< (v3 &&& 31)) : Int32))), (2, gv_I v2), (3, gv_I (v3 + 1))] ⟨rfl, rfl, rfl, rfl, trivial⟩ (ih _ _ _ _ h)
      · rw [if_pos (show v2 = 0 from hc6)] at h
        refine gx_aload_n hC dr_Mo_choose_39 rfl ?_
        refine gx_iload_n hC dr_Mo_choose_40 rfl ?_
        refine gx_iload_n hC dr_Mo_choose_41 rfl ?_
        refine gx_iload_n hC dr_Mo_choose_42 rfl ?_
        obtain ⟨q7, e8, h⟩ := gb_of h
        refine gx_vI hC dr_Mo_choose_43 lk_Mo_141 (mt_Mo_fits e8) rfl (by decide) ⟨by decide, by decide⟩ ⟨by decide, by decide⟩ (by decide) ⟨_, _, rfl⟩ rfl rfl (Nat.le_of_ble_eq_true rfl) (fun z c2 hp => ?_)
        obtain ⟨hp1, rfl⟩ := hp; obtain rfl := hp1.symm
        refine gx_if_eq (tgt := 55) hC dr_Mo_choose_46 (by decide) (fun hc9 => ?_) (fun hc9 => ?_)
        · rw [if_pos (show q7 = 0 from hc9)] at h
          exact gx_lv [(0, gv_R 57), (1, gv_I v1), (2, gv_I v2), (3, gv_I v3), (4, gv_I 0)] ⟨rfl, rfl, rfl, rfl, rfl, trivial⟩ (gl_Mo_choose_55 hC hR (fun _ _ _ _ h => ih _ _ _ _ h) 5000 _ _ _ _ _ h)
        · rw [if_neg (show ¬ (q7 = 0) from hc9)] at h
          refine gx_iload_n hC dr_Mo_choose_49 rfl ?_
          refine gx_istore hC dr_Mo_choose_50 (by decide) ?_
          refine gx_goto (tgt := 72) hC dr_Mo_choose_52 (by decide) ?_
          refine gx_aload_n hC dr_Mo_choose_72 rfl ?_
          refine gx_get hC dr_Mo_choose_73 lf_Mo_72 (by decide) rfl rfl ?_
          refine gx_iload_n hC dr_Mo_choose_76 rfl ?_
          refine gx_iload hC dr_Mo_choose_77 rfl ?_
          obtain ⟨hz14, h⟩ := gk_of h
          refine gx_iast (f := (gq_i M 14)) hC (by decide) dr_Mo_choose_79 (by decide) rfl hz14 (ma_I 14 (by decide)) ?_
          refine gx_iload_n hC dr_Mo_choose_80 rfl ?_
          refine gx_iconst (v := 1) hC dr_Mo_choose_81 (by decide) ?_
          refine gx_iload hC dr_Mo_choose_82 rfl ?_
          refine gx_ishl hC dr_Mo_choose_84 ?_
          refine gx_ior hC dr_Mo_choose_85 ?_
          refine gx_istore_n hC dr_Mo_choose_86 (by decide) ?_
          refine gx_iinc (v := (v3 + 1)) hC dr_Mo_choose_87 rfl (by decide) rfl ?_
          refine gx_goto (tgt := 24) hC dr_Mo_choose_90 (by decide) ?_
          exact gx_lv [(0, gv_R 57), (1, gv_I (v1 ||| (((1 : Int32) <<< (v3 &&& 31)) : Int32))), (2, gv_I v2), (3, gv_I (v3 + 1))] ⟨rfl, rfl, rfl, rfl, trivial⟩ (ih _ _ _ _ h)
set_option maxHeartbeats 4000000 in
set_option maxRecDepth 100000 in
theorem mt_Mo_choose {l : Launch} {D : va_G} {ad : Nat → Nat} {ck : Nat → ClassId} {G : gq_M × (Int → Int64)}  {M : gq_M} {r : gq_M} (h : fn_Mo_choose  M = some r) : gm_V 81 81 l D ad ck yn_Mo_choose bc_Mo_choose 5 ({ frames := 1, cells := 0, slots := 0, locals := 23 } : Room) [gv_R 57] (ca_A (G.1, M, G.2)) (fun c2 => c2 = ca_A (G.1, r, G.2)) := by
  refine gm_V.of (by decide) (Nat.le_of_ble_eq_true rfl) (fun x hC hR => ?_)
  unfold fn_Mo_choose at h
  refine gx_iconst (v := 0) hC dr_Mo_choose_0 (by decide) ?_
  refine gx_istore_n hC dr_Mo_choose_1 (by decide) ?_
  refine gx_aload_n hC dr_Mo_choose_2 rfl ?_
  obtain ⟨q1, e2, h⟩ := gb_of h
  refine gx_vJ hC dr_Mo_choose_3 lk_Mo_138 (mt_Mo_sumNow e2) rfl (by decide) ⟨by decide, by decide⟩ ⟨by decide, by decide⟩ (by decide) ⟨_, _, rfl⟩ rfl rfl (Nat.le_of_ble_eq_true rfl) (fun z c2 hp => ?_)
  obtain ⟨hp1, rfl⟩ := hp; obtain rfl := hp1.symm
  refine gx_aload_n hC dr_Mo_choose_6 rfl ?_
  refine gx_get hC dr_Mo_choose_7 lf_Mo_69 (by decide) rfl rfl ?_
  refine gx_iconst (v := 0) hC dr_Mo_choose_10 (by decide) ?_
  have hz3 : 0 ≤ (0 : Int32).toInt ∧ (0 : Int32).toInt < ((4096 : Nat) : Int) := by decide
  refine gx_lald (f := (gq_l M 5)) hC dr_Mo_choose_11 (by decide) rfl hz3 ?_
  refine gx_lcmp_ne (tgt := 20) hC dr_Mo_choose_12 dr_Mo_choose_13 (by decide) (fun hc4 => ?_) (fun hc4 => ?_)
  · rw [if_neg (show ¬ (q1 = ((gq_l M 5) 0)) from hc4)] at h
    refine gx_iconst (v := 0) hC dr_Mo_choose_20 (by decide) ?_
    refine gx_istore_n hC dr_Mo_choose_21 (by decide) ?_
    refine gx_iconst (v := 0) hC dr_Mo_choose_22 (by decide) ?_
    refine gx_istore_n hC dr_Mo_choose_23 (by decide) ?_
    exact gx_lv [(0, gv_R 57), (1, gv_I 0), (2, gv_I 0), (3, gv_I 0)] ⟨rfl, rfl, rfl, rfl, trivial⟩ (gl_Mo_choose_24 hC hR 5000 _ _ _ _ h)
  · rw [if_pos (show q1 = ((gq_l M 5) 0) from hc4)] at h
    refine gx_iconst (v := 1) hC dr_Mo_choose_16 (by decide) ?_
    refine gx_goto (tgt := 21) hC dr_Mo_choose_17 (by decide) ?_
    refine gx_istore_n hC dr_Mo_choose_21 (by decide) ?_
    refine gx_iconst (v := 0) hC dr_Mo_choose_22 (by decide) ?_
    refine gx_istore_n hC dr_Mo_choose_23 (by decide) ?_
    exact gx_lv [(0, gv_R 57), (1, gv_I 0), (2, gv_I 1), (3, gv_I 0)] ⟨rfl, rfl, rfl, rfl, trivial⟩ (gl_Mo_choose_24 hC hR 5000 _ _ _ _ h)
def fl_Mo_match_14 : Nat → Int32 → Int32 → gq_M → Option gq_M
  | 0, _, _, _ => none
  | k + 1, v2, v3, M => if (gq_f M 5) ≤ v3 then some M else if 0 ≤ v3.toInt ∧ v3.toInt < ((12 : Nat) : Int) then if 0 ≤ ((gq_i M 14) v3.toInt).toInt ∧ ((gq_i M 14) v3.toInt).toInt < ((12 : Nat) : Int) then if 0 ≤ ((gq_i M 13) ((gq_i M 14) v3.toInt).toInt).toInt ∧ ((gq_i M 13) ((gq_i M 14) v3.toInt).toInt).toInt < ((80 : Nat) : Int) then if 0 ≤ ((gq_i M 13) v3.toInt).toInt ∧ ((gq_i M 13) v3.toInt).toInt < ((80 : Nat) : Int) then if v2 = 0 then fl_Mo_match_14 k v2 (v3 + 1) (gs_i M 15 (gz_u (gq_i M 15) ((gq_i M 13) v3.toInt).toInt ((gq_i M 2) ((gq_i M 13) ((gq_i M 14) v3.toInt).toInt).toInt))) else if 0 ≤ ((gq_i M 5) ((gq_i M 13) ((gq_i M 14) v3.toInt).toInt).toInt).toInt ∧ ((gq_i M 5) ((gq_i M 13) ((gq_i M 14) v3.toInt).toInt).toInt).toInt < ((80 : Nat) : Int) then if 0 ≤ ((gq_i M 5) ((gq_i M 13) v3.toInt).toInt).toInt ∧ ((gq_i M 5) ((gq_i M 13) v3.toInt).toInt).toInt < ((80 : Nat) : Int) then fl_Mo_match_14 k v2 (v3 + 1) (gs_i (gs_i M 15 (gz_u (gq_i M 15) ((gq_i M 13) v3.toInt).toInt ((gq_i M 2) ((gq_i M 13) ((gq_i M 14) v3.toInt).toInt).toInt))) 15 (gz_u (gz_u (gq_i M 15) ((gq_i M 13) v3.toInt).toInt ((gq_i M 2) ((gq_i M 13) ((gq_i M 14) v3.toInt).toInt).toInt)) ((gq_i M 5) ((gq_i M 13) v3.toInt).toInt).toInt ((gq_i M 2) ((gq_i M 5) ((gq_i M 13) ((gq_i M 14) v3.toInt).toInt).toInt).toInt))) else none else none else none else none else none else none
def fn_Mo_match (p0 : Int32) (p1 : Int32) (M : gq_M) : Option gq_M := (fn_Mo_reckon p0 p1 (-1) 0 M).bind fun q1 => (fn_Mo_choose  q1).bind fun q3 => fl_Mo_match_14 5000 p1 0 q3
set_option maxHeartbeats 4000000 in
set_option maxRecDepth 100000 in
theorem gl_Mo_match_14 {x : gx_X} {G : gq_M × (Int → Int64)} {r : gq_M} (hC : gw_C 81 81 yn_Mo_match.cls bc_Mo_match 6 x) (hR : gr_V 81 bc_Mo_match 6 ({ frames := 4, cells := 0, slots := 0, locals := 100 } : Room) x (fun c2 => c2 = ca_A (G.1, r, G.2))) : ∀ (k : Nat) (v2 : Int32) (v3 : Int32) (M : gq_M), fl_Mo_match_14 k v2 v3 M = some r → gw_G 81 6 ({ frames := 4, cells := 0, slots := 0, locals := 100 } : Room) x 0 0 (ca_A (G.1, M, G.2)) 14 [(0, gv_R 57), (2, gv_I v2), (3, gv_I v3)] [] := by
  intro k
  induction k with
  | zero =>
    intro v2 v3 M h
    cases h
  | succ k ih =>
    intro v2 v3 M h
    rw [fl_Mo_match_14] at h
    refine gx_iload_n hC dr_Mo_match_14 rfl ?_
    refine gx_aload_n hC dr_Mo_match_15 rfl ?_
    refine gx_get hC dr_Mo_match_16 lf_Mo_121 (by decide) rfl rfl ?_
    refine gx_icmp_ge (tgt := 91) hC dr_Mo_match_19 (by decide) (fun hc5 => ?_) (fun hc5 => ?_)
    · rw [if_pos (show (gq_f M 5) ≤ v3 from hc5)] at h
      obtain rfl := Option.some.inj h
      exact hR (by decide) (by decide) dr_Mo_match_91 rfl
    · rw [if_neg (show ¬ ((gq_f M 5) ≤ v3) from hc5)] at h
      refine gx_aload_n hC dr_Mo_match_22 rfl ?_
      refine gx_get hC dr_Mo_match_23 lf_Mo_63 (by decide) rfl rfl ?_
      refine gx_iload_n hC dr_Mo_match_26 rfl ?_
      obtain ⟨hz6, h⟩ := gk_of h
      refine gx_iald (f := (gq_i M 13)) hC dr_Mo_match_27 (by decide) rfl hz6 ?_
      refine gx_istore hC dr_Mo_match_28 (by decide) ?_
      refine gx_aload_n hC dr_Mo_match_30 rfl ?_
      refine gx_get hC dr_Mo_match_31 lf_Mo_63 (by decide) rfl rfl ?_
      refine gx_aload_n hC dr_Mo_match_34 rfl ?_
      refine gx_get hC dr_Mo_match_35 lf_Mo_72 (by decide) rfl rfl ?_
      refine gx_iload_n hC dr_Mo_match_38 rfl ?_
      refine gx_iald (f := (gq_i M 14)) hC dr_Mo_match_39 (by decide) rfl hz6 ?_
      obtain ⟨hz7, h⟩ := gk_of h
      refine gx_iald (f := (gq_i M 13)) hC dr_Mo_match_40 (by decide) rfl hz7 ?_
      refine gx_istore hC dr_Mo_match_41 (by decide) ?_
      refine gx_aload_n hC dr_Mo_match_43 rfl ?_
      refine gx_get hC dr_Mo_match_44 lf_Mo_75 (by decide) rfl rfl ?_
      refine gx_iload hC dr_Mo_match_47 rfl ?_
      refine gx_aload_n hC dr_Mo_match_49 rfl ?_
      refine gx_get hC dr_Mo_match_50 lf_Mo_23 (by decide) rfl rfl ?_
      refine gx_iload hC dr_Mo_match_53 rfl ?_
      obtain ⟨hz8, h⟩ := gk_of h
      refine gx_iald (f := (gq_i M 2)) hC dr_Mo_match_55 (by decide) rfl hz8 ?_
      obtain ⟨hz9, h⟩ := gk_of h
      refine gx_iast (f := (gq_i M 15)) hC (by decide) dr_Mo_match_56 (by decide) rfl hz9 (ma_I 15 (by decide)) ?_
      refine gx_iload_n hC dr_Mo_match_57 rfl ?_
      refine gx_if_eq (tgt := 85) hC dr_Mo_match_58 (by decide) (fun hc10 => ?_) (fun hc10 => ?_)
      · rw [if_pos (show v2 = 0 from hc10)] at h
        refine gx_iinc (v := (v3 + 1)) hC dr_Mo_match_85 rfl (by decide) rfl ?_
        refine gx_goto (tgt := 14) hC dr_Mo_match_88 (by decide) ?_
        exact gx_lv [(0, gv_R 57), (2, gv_I v2), (3, gv_I (v3 + 1))] ⟨rfl, rfl, rfl, trivial⟩ (ih _ _ _ h)
      · rw [if_neg (show ¬ (v2 = 0) from hc10)] at h
        refine gx_aload_n hC dr_Mo_match_61 rfl ?_
        refine gx_get hC dr_Mo_match_62 lf_Mo_75 (by decide) rfl rfl ?_
        refine gx_aload_n hC dr_Mo_match_65 rfl ?_
        refine gx_get hC dr_Mo_match_66 lf_Mo_33 (by decide) rfl rfl ?_
        refine gx_iload hC dr_Mo_match_69 rfl ?_
        refine gx_iald (f := (gq_i M 5)) hC dr_Mo_match_71 (by decide) rfl hz9 ?_
        refine gx_aload_n hC dr_Mo_match_72 rfl ?_
        refine gx_get hC dr_Mo_match_73 lf_Mo_23 (by decide) rfl rfl ?_
        refine gx_aload_n hC dr_Mo_match_76 rfl ?_
        refine gx_get hC dr_Mo_match_77 lf_Mo_33 (by decide) rfl rfl ?_
        refine gx_iload hC dr_Mo_match_80 rfl ?_
        refine gx_iald (f := (gq_i M 5)) hC dr_Mo_match_82 (by decide) rfl hz8 ?_
        obtain ⟨hz11, h⟩ := gk_of h
        refine gx_iald (f := (gq_i M 2)) hC dr_Mo_match_83 (by decide) rfl hz11 ?_
        obtain ⟨hz12, h⟩ := gk_of h
        refine gx_iast (f := (gz_u (gq_i M 15) ((gq_i M 13) v3.toInt).toInt ((gq_i M 2) ((gq_i M 13) ((gq_i M 14) v3.toInt).toInt).toInt))) hC (by decide) dr_Mo_match_84 (by decide) rfl hz12 (ma_I 15 (by decide)) ?_
        refine gx_iinc (v := (v3 + 1)) hC dr_Mo_match_85 rfl (by decide) rfl ?_
        refine gx_goto (tgt := 14) hC dr_Mo_match_88 (by decide) ?_
        exact gx_lv [(0, gv_R 57), (2, gv_I v2), (3, gv_I (v3 + 1))] ⟨rfl, rfl, rfl, trivial⟩ (ih _ _ _ h)
set_option maxHeartbeats 4000000 in
set_option maxRecDepth 100000 in
theorem mt_Mo_match {l : Launch} {D : va_G} {ad : Nat → Nat} {ck : Nat → ClassId} {G : gq_M × (Int → Int64)} {p0 : Int32} {p1 : Int32} {M : gq_M} {r : gq_M} (h : fn_Mo_match p0 p1 M = some r) : gm_V 81 81 l D ad ck yn_Mo_match bc_Mo_match 6 ({ frames := 4, cells := 0, slots := 0, locals := 100 } : Room) [gv_R 57, gv_I p0, gv_I p1] (ca_A (G.1, M, G.2)) (fun c2 => c2 = ca_A (G.1, r, G.2)) := by
  refine gm_V.of (by decide) (Nat.le_of_ble_eq_true rfl) (fun x hC hR => ?_)
  unfold fn_Mo_match at h
  refine gx_aload_n hC dr_Mo_match_0 rfl ?_
  refine gx_iload_n hC dr_Mo_match_1 rfl ?_
  refine gx_iload_n hC dr_Mo_match_2 rfl ?_
  refine gx_iconst (v := (-1)) hC dr_Mo_match_3 (by decide) ?_
  refine gx_iconst (v := 0) hC dr_Mo_match_4 (by decide) ?_
  obtain ⟨q1, e2, h⟩ := gb_of h
  refine gx_vV hC dr_Mo_match_5 lk_Mo_145 (mt_Mo_reckon e2) rfl (by decide) ⟨by decide, by decide⟩ ⟨by decide, by decide⟩ (by decide) ⟨_, _, rfl⟩ rfl rfl (Nat.le_of_ble_eq_true rfl) (fun c2 hp => ?_)
  subst hp
  refine gx_aload_n hC dr_Mo_match_8 rfl ?_
  obtain ⟨q3, e4, h⟩ := gb_of h
  refine gx_vV hC dr_Mo_match_9 lk_Mo_149 (mt_Mo_choose e4) rfl (by decide) ⟨by decide, by decide⟩ ⟨by decide, by decide⟩ (by decide) ⟨_, _, rfl⟩ rfl rfl (Nat.le_of_ble_eq_true rfl) (fun c2 hp => ?_)
  subst hp
  refine gx_iconst (v := 0) hC dr_Mo_match_12 (by decide) ?_
  refine gx_istore_n hC dr_Mo_match_13 (by decide) ?_
  exact gx_lv [(0, gv_R 57), (2, gv_I p1), (3, gv_I 0)] ⟨rfl, rfl, rfl, trivial⟩ (gl_Mo_match_14 hC hR 5000 _ _ _ h)
def fl_Mo_keepNets_101 : Nat → Int32 → gq_M → Option gq_M
  | 0, _, _ => none
  | k + 1, v1, M => if (gq_f M 2) ≤ v1 then some (gs_f M 3 ((gq_f M 3) + 1)) else if 0 ≤ v1.toInt ∧ v1.toInt < ((80 : Nat) : Int) then if 0 ≤ ((80 * (gq_f M 3)) + v1).toInt ∧ ((80 * (gq_f M 3)) + v1).toInt < ((800 : Nat) : Int) then fl_Mo_keepNets_101 k (v1 + 1) (gs_i M 10 (gz_u (gq_i M 10) ((80 * (gq_f M 3)) + v1).toInt ((gq_i M 2) v1.toInt))) else none else none
def fl_Mo_keepNets_33 (K11 : Int32 → gq_M → Option gq_M) : Nat → Int32 → Int32 → gq_M → Option gq_M
  | 0, _, _, _ => none
  | k + 1, v1, v2, M => if 80 ≤ v2 then K11 (v1 + 1) M else if 0 ≤ ((80 * v1) + v2).toInt ∧ ((80 * v1) + v2).toInt < ((800 : Nat) : Int) then if 0 ≤ (((80 * v1) - 80) + v2).toInt ∧ (((80 * v1) - 80) + v2).toInt < ((800 : Nat) : Int) then fl_Mo_keepNets_33 K11 k v1 (v2 + 1) (gs_i M 10 (gz_u (gq_i M 10) (((80 * v1) - 80) + v2).toInt ((gq_i M 10) ((80 * v1) + v2).toInt))) else none else none
def fl_Mo_keepNets_11 : Nat → Int32 → gq_M → Option gq_M
  | 0, _, _ => none
  | k + 1, v1, M => if 10 ≤ v1 then if 0 ≤ ((gq_f M 3) - 1).toInt ∧ ((gq_f M 3) - 1).toInt < ((10 : Nat) : Int) then fl_Mo_keepNets_101 5000 0 (gs_i (gs_f M 3 ((gq_f M 3) - 1)) 9 (gz_u (gq_i M 9) ((gq_f M 3) - 1).toInt (gq_f M 2))) else none else if 0 ≤ v1.toInt ∧ v1.toInt < ((10 : Nat) : Int) then if 0 ≤ (v1 - 1).toInt ∧ (v1 - 1).toInt < ((10 : Nat) : Int) then fl_Mo_keepNets_33 (fl_Mo_keepNets_11 k) 5000 v1 0 (gs_i M 9 (gz_u (gq_i M 9) (v1 - 1).toInt ((gq_i M 9) v1.toInt))) else none else none
def fn_Mo_keepNets  (M : gq_M) : Option gq_M := if (gq_f M 3) = 10 then fl_Mo_keepNets_11 5000 1 M else if 0 ≤ (gq_f M 3).toInt ∧ (gq_f M 3).toInt < ((10 : Nat) : Int) then fl_Mo_keepNets_101 5000 0 (gs_i M 9 (gz_u (gq_i M 9) (gq_f M 3).toInt (gq_f M 2))) else none
set_option maxHeartbeats 4000000 in
set_option maxRecDepth 100000 in
theorem gl_Mo_keepNets_101 {x : gx_X} {G : gq_M × (Int → Int64)} {r : gq_M} (hC : gw_C 81 81 yn_Mo_keepNets.cls bc_Mo_keepNets 3 x) (hR : gr_V 81 bc_Mo_keepNets 3 ({ frames := 0, cells := 0, slots := 0, locals := 0 } : Room) x (fun c2 => c2 = ca_A (G.1, r, G.2))) : ∀ (k : Nat) (v1 : Int32) (M : gq_M), fl_Mo_keepNets_101 k v1 M = some r → gw_G 81 3 ({ frames := 0, cells := 0, slots := 0, locals := 0 } : Room) x 0 0 (ca_A (G.1, M, G.2)) 101 [(0, gv_R 57), (1, gv_I v1)] [] := by
  intro k
  induction k with
  | zero =>
    intro v1 M h
    cases h
  | succ k ih =>
    intro v1 M h
    rw [fl_Mo_keepNets_101] at h
    refine gx_iload_n hC dr_Mo_keepNets_101 rfl ?_
    refine gx_aload_n hC dr_Mo_keepNets_102 rfl ?_
    refine gx_get hC dr_Mo_keepNets_103 lf_Mo_89 (by decide) rfl rfl ?_
    refine gx_icmp_ge (tgt := 135) hC dr_Mo_keepNets_106 (by decide) (fun hc4 => ?_) (fun hc4 => ?_)
    · rw [if_pos (show (gq_f M 2) ≤ v1 from hc4)] at h
      refine gx_aload_n hC dr_Mo_keepNets_135 rfl ?_
      refine gx_dup hC dr_Mo_keepNets_136 rfl ?_
      refine gx_get hC dr_Mo_keepNets_137 lf_Mo_152 (by decide) rfl rfl ?_
      refine gx_iconst (v := 1) hC dr_Mo_keepNets_140 (by decide) ?_
      refine gx_iadd hC dr_Mo_keepNets_141 ?_
      refine gx_put hC (by decide) dr_Mo_keepNets_142 lf_Mo_152 lp_Mo_kept (by decide) rfl (Nat.le_of_ble_eq_true rfl) (fun _ => rfl) (fun _ => rfl) ma_F3 ?_
      obtain rfl := Option.some.inj h
      exact hR (by decide) (by decide) dr_Mo_keepNets_145 rfl
    · rw [if_neg (show ¬ ((gq_f M 2) ≤ v1) from hc4)] at h
      refine gx_aload_n hC dr_Mo_keepNets_109 rfl ?_
      refine gx_get hC dr_Mo_keepNets_110 lf_Mo_54 (by decide) rfl rfl ?_
      refine gx_bipush (v := 80) hC dr_Mo_keepNets_113 (by decide) ?_
      refine gx_aload_n hC dr_Mo_keepNets_115 rfl ?_
      refine gx_get hC dr_Mo_keepNets_116 lf_Mo_152 (by decide) rfl rfl ?_
      refine gx_imul hC dr_Mo_keepNets_119 ?_
      refine gx_iload_n hC dr_Mo_keepNets_120 rfl ?_
      refine gx_iadd hC dr_Mo_keepNets_121 ?_
      refine gx_aload_n hC dr_Mo_keepNets_122 rfl ?_
      refine gx_get hC dr_Mo_keepNets_123 lf_Mo_23 (by decide) rfl rfl ?_
      refine gx_iload_n hC dr_Mo_keepNets_126 rfl ?_
      obtain ⟨hz5, h⟩ := gk_of h
      refine gx_iald (f := (gq_i M 2)) hC dr_Mo_keepNets_127 (by decide) rfl hz5 ?_
      obtain ⟨hz6, h⟩ := gk_of h
      refine gx_iast (f := (gq_i M 10)) hC (by decide) dr_Mo_keepNets_128 (by decide) rfl hz6 (ma_I 10 (by decide)) ?_
      refine gx_iinc (v := (v1 + 1)) hC dr_Mo_keepNets_129 rfl (by decide) rfl ?_
      refine gx_goto (tgt := 101) hC dr_Mo_keepNets_132 (by decide) ?_
      exact gx_lv [(0, gv_R 57), (1, gv_I (v1 + 1))] ⟨rfl, rfl, trivial⟩ (ih _ _ h)
set_option maxHeartbeats 4000000 in
set_option maxRecDepth 100000 in
theorem gl_Mo_keepNets_33 {x : gx_X} {G : gq_M × (Int → Int64)} {r : gq_M} (hC : gw_C 81 81 yn_Mo_keepNets.cls bc_Mo_keepNets 3 x) (hR : gr_V 81 bc_Mo_keepNets 3 ({ frames := 0, cells := 0, slots := 0, locals := 0 } : Room) x (fun c2 => c2 = ca_A (G.1, r, G.2))) {K11 : Int32 → gq_M → Option gq_M} (hK11 : ∀ (v1 : Int32) (M : gq_M), K11 v1 M = some r → gw_G 81 3 ({ frames := 0, cells := 0, slots := 0, locals := 0 } : Room) x 0 0 (ca_A (G.1, M, G.2)) 11 [(0, gv_R 57), (1, gv_I v1)] []) : ∀ (k : Nat) (v1 : Int32) (v2 : Int32) (M : gq_M), fl_Mo_keepNets_33 K11 k v1 v2 M = some r → gw_G 81 3 ({ frames := 0, cells := 0, slots := 0, locals := 0 } : Room) x 0 0 (ca_A (G.1, M, G.2)) 33 [(0, gv_R 57), (1, gv_I v1), (2, gv_I v2)] [] := by
  intro k
  induction k with
  | zero =>
    intro v1 v2 M h
    cases h
  | succ k ih =>
    intro v1 v2 M h
    rw [fl_Mo_keepNets_33] at h
    refine gx_iload_n hC dr_Mo_keepNets_33 rfl ?_
    refine gx_bipush (v := 80) hC dr_Mo_keepNets_34 (by decide) ?_
    refine gx_icmp_ge (tgt := 70) hC dr_Mo_keepNets_36 (by decide) (fun hc9 => ?_) (fun hc9 => ?_)
    · rw [if_pos (show 80 ≤ v2 from hc9)] at h
      refine gx_iinc (v := (v1 + 1)) hC dr_Mo_keepNets_70 rfl (by decide) rfl ?_
      refine gx_goto (tgt := 11) hC dr_Mo_keepNets_73 (by decide) ?_
      exact gx_lv [(0, gv_R 57), (1, gv_I (v1 + 1))] ⟨rfl, rfl, trivial⟩ (hK11 _ _ h)
    · rw [if_neg (show ¬ (80 ≤ v2) from hc9)] at h
      refine gx_aload_n hC dr_Mo_keepNets_39 rfl ?_
      refine gx_get hC dr_Mo_keepNets_40 lf_Mo_54 (by decide) rfl rfl ?_
      refine gx_bipush (v := 80) hC dr_Mo_keepNets_43 (by decide) ?_
      refine gx_iload_n hC dr_Mo_keepNets_45 rfl ?_
      refine gx_imul hC dr_Mo_keepNets_46 ?_
      refine gx_bipush (v := 80) hC dr_Mo_keepNets_47 (by decide) ?_
      refine gx_isub hC dr_Mo_keepNets_49 ?_
      refine gx_iload_n hC dr_Mo_keepNets_50 rfl ?_
      refine gx_iadd hC dr_Mo_keepNets_51 ?_
      refine gx_aload_n hC dr_Mo_keepNets_52 rfl ?_
      refine gx_get hC dr_Mo_keepNets_53 lf_Mo_54 (by decide) rfl rfl ?_
      refine gx_bipush (v := 80) hC dr_Mo_keepNets_56 (by decide) ?_
      refine gx_iload_n hC dr_Mo_keepNets_58 rfl ?_
      refine gx_imul hC dr_Mo_keepNets_59 ?_
      refine gx_iload_n hC dr_Mo_keepNets_60 rfl ?_
      refine gx_iadd hC dr_Mo_keepNets_61 ?_
      obtain ⟨hz10, h⟩ := gk_of h
      refine gx_iald (f := (gq_i M 10)) hC dr_Mo_keepNets_62 (by decide) rfl hz10 ?_
      obtain ⟨hz11, h⟩ := gk_of h
      refine gx_iast (f := (gq_i M 10)) hC (by decide) dr_Mo_keepNets_63 (by decide) rfl hz11 (ma_I 10 (by decide)) ?_
      refine gx_iinc (v := (v2 + 1)) hC dr_Mo_keepNets_64 rfl (by decide) rfl ?_
      refine gx_goto (tgt := 33) hC dr_Mo_keepNets_67 (by decide) ?_
      exact gx_lv [(0, gv_R 57), (1, gv_I v1), (2, gv_I (v2 + 1))] ⟨rfl, rfl, rfl, trivial⟩ (ih _ _ _ h)
set_option maxHeartbeats 4000000 in
set_option maxRecDepth 100000 in
theorem gl_Mo_keepNets_11 {x : gx_X} {G : gq_M × (Int → Int64)} {r : gq_M} (hC : gw_C 81 81 yn_Mo_keepNets.cls bc_Mo_keepNets 3 x) (hR : gr_V 81 bc_Mo_keepNets 3 ({ frames := 0, cells := 0, slots := 0, locals := 0 } : Room) x (fun c2 => c2 = ca_A (G.1, r, G.2))) : ∀ (k : Nat) (v1 : Int32) (M : gq_M), fl_Mo_keepNets_11 k v1 M = some r → gw_G 81 3 ({ frames := 0, cells := 0, slots := 0, locals := 0 } : Room) x 0 0 (ca_A (G.1, M, G.2)) 11 [(0, gv_R 57), (1, gv_I v1)] [] := by
  intro k
  induction k with
  | zero =>
    intro v1 M h
    cases h
  | succ k ih =>
    intro v1 M h
    rw [fl_Mo_keepNets_11] at h
    refine gx_iload_n hC dr_Mo_keepNets_11 rfl ?_
    refine gx_bipush (v := 10) hC dr_Mo_keepNets_12 (by decide) ?_
    refine gx_icmp_ge (tgt := 76) hC dr_Mo_keepNets_14 (by decide) (fun hc2 => ?_) (fun hc2 => ?_)
    · rw [if_pos (show 10 ≤ v1 from hc2)] at h
      refine gx_aload_n hC dr_Mo_keepNets_76 rfl ?_
      refine gx_dup hC dr_Mo_keepNets_77 rfl ?_
      refine gx_get hC dr_Mo_keepNets_78 lf_Mo_152 (by decide) rfl rfl ?_
      refine gx_iconst (v := 1) hC dr_Mo_keepNets_81 (by decide) ?_
      refine gx_isub hC dr_Mo_keepNets_82 ?_
      refine gx_put hC (by decide) dr_Mo_keepNets_83 lf_Mo_152 lp_Mo_kept (by decide) rfl (Nat.le_of_ble_eq_true rfl) (fun _ => rfl) (fun _ => rfl) ma_F3 ?_
      refine gx_aload_n hC dr_Mo_keepNets_86 rfl ?_
      refine gx_get hC dr_Mo_keepNets_87 lf_Mo_51 (by decide) rfl rfl ?_
      refine gx_aload_n hC dr_Mo_keepNets_90 rfl ?_
      refine gx_get hC dr_Mo_keepNets_91 lf_Mo_152 (by decide) rfl rfl ?_
      refine gx_aload_n hC dr_Mo_keepNets_94 rfl ?_
      refine gx_get hC dr_Mo_keepNets_95 lf_Mo_89 (by decide) rfl rfl ?_
      obtain ⟨hz3, h⟩ := gk_of h
      refine gx_iast (f := (gq_i M 9)) hC (by decide) dr_Mo_keepNets_98 (by decide) rfl hz3 (ma_I 9 (by decide)) ?_
      refine gx_iconst (v := 0) hC dr_Mo_keepNets_99 (by decide) ?_
      refine gx_istore_n hC dr_Mo_keepNets_100 (by decide) ?_
      exact gx_lv [(0, gv_R 57), (1, gv_I 0)] ⟨rfl, rfl, trivial⟩ (gl_Mo_keepNets_101 hC hR 5000 _ _ h)
    · rw [if_neg (show ¬ (10 ≤ v1) from hc2)] at h
      refine gx_aload_n hC dr_Mo_keepNets_17 rfl ?_
      refine gx_get hC dr_Mo_keepNets_18 lf_Mo_51 (by decide) rfl rfl ?_
      refine gx_iload_n hC dr_Mo_keepNets_21 rfl ?_
      refine gx_iconst (v := 1) hC dr_Mo_keepNets_22 (by decide) ?_
      refine gx_isub hC dr_Mo_keepNets_23 ?_
      refine gx_aload_n hC dr_Mo_keepNets_24 rfl ?_
      refine gx_get hC dr_Mo_keepNets_25 lf_Mo_51 (by decide) rfl rfl ?_
      refine gx_iload_n hC dr_Mo_keepNets_28 rfl ?_
      obtain ⟨hz7, h⟩ := gk_of h
      refine gx_iald (f := (gq_i M 9)) hC dr_Mo_keepNets_29 (by decide) rfl hz7 ?_
      obtain ⟨hz8, h⟩ := gk_of h
      refine gx_iast (f := (gq_i M 9)) hC (by decide) dr_Mo_keepNets_30 (by decide) rfl hz8 (ma_I 9 (by decide)) ?_
      refine gx_iconst (v := 0) hC dr_Mo_keepNets_31 (by decide) ?_
      refine gx_istore_n hC dr_Mo_keepNets_32 (by decide) ?_
      exact gx_lv [(0, gv_R 57), (1, gv_I v1), (2, gv_I 0)] ⟨rfl, rfl, rfl, trivial⟩ (gl_Mo_keepNets_33 hC hR (fun _ _ h => ih _ _ h) 5000 _ _ _ h)
set_option maxHeartbeats 4000000 in
set_option maxRecDepth 100000 in
theorem mt_Mo_keepNets {l : Launch} {D : va_G} {ad : Nat → Nat} {ck : Nat → ClassId} {G : gq_M × (Int → Int64)}  {M : gq_M} {r : gq_M} (h : fn_Mo_keepNets  M = some r) : gm_V 81 81 l D ad ck yn_Mo_keepNets bc_Mo_keepNets 3 ({ frames := 0, cells := 0, slots := 0, locals := 0 } : Room) [gv_R 57] (ca_A (G.1, M, G.2)) (fun c2 => c2 = ca_A (G.1, r, G.2)) := by
  refine gm_V.of (by decide) (Nat.le_of_ble_eq_true rfl) (fun x hC hR => ?_)
  unfold fn_Mo_keepNets at h
  refine gx_aload_n hC dr_Mo_keepNets_0 rfl ?_
  refine gx_get hC dr_Mo_keepNets_1 lf_Mo_152 (by decide) rfl rfl ?_
  refine gx_bipush (v := 10) hC dr_Mo_keepNets_4 (by decide) ?_
  refine gx_icmp_ne (tgt := 86) hC dr_Mo_keepNets_6 (by decide) (fun hc1 => ?_) (fun hc1 => ?_)
  · rw [if_neg (show ¬ ((gq_f M 3) = 10) from hc1)] at h
    refine gx_aload_n hC dr_Mo_keepNets_86 rfl ?_
    refine gx_get hC dr_Mo_keepNets_87 lf_Mo_51 (by decide) rfl rfl ?_
    refine gx_aload_n hC dr_Mo_keepNets_90 rfl ?_
    refine gx_get hC dr_Mo_keepNets_91 lf_Mo_152 (by decide) rfl rfl ?_
    refine gx_aload_n hC dr_Mo_keepNets_94 rfl ?_
    refine gx_get hC dr_Mo_keepNets_95 lf_Mo_89 (by decide) rfl rfl ?_
    obtain ⟨hz12, h⟩ := gk_of h
    refine gx_iast (f := (gq_i M 9)) hC (by decide) dr_Mo_keepNets_98 (by decide) rfl hz12 (ma_I 9 (by decide)) ?_
    refine gx_iconst (v := 0) hC dr_Mo_keepNets_99 (by decide) ?_
    refine gx_istore_n hC dr_Mo_keepNets_100 (by decide) ?_
    exact gx_lv [(0, gv_R 57), (1, gv_I 0)] ⟨rfl, rfl, trivial⟩ (gl_Mo_keepNets_101 hC hR 5000 _ _ h)
  · rw [if_pos (show (gq_f M 3) = 10 from hc1)] at h
    refine gx_iconst (v := 1) hC dr_Mo_keepNets_9 (by decide) ?_
    refine gx_istore_n hC dr_Mo_keepNets_10 (by decide) ?_
    exact gx_lv [(0, gv_R 57), (1, gv_I 1)] ⟨rfl, rfl, trivial⟩ (gl_Mo_keepNets_11 hC hR 5000 _ _ h)
def fl_Mo_run_120 : Nat → Int32 → Int32 → gq_M → Option (Int32 × gq_M)
  | 0, _, _, _ => none
  | k + 1, v1, v2, M => if (gq_f M 2) ≤ v2 then some (v1, M) else if 0 ≤ v2.toInt ∧ v2.toInt < ((80 : Nat) : Int) then fl_Mo_run_120 k v1 (v2 + 1) (gs_i M 2 (gz_u (gq_i M 2) v2.toInt ((gq_i M 15) v2.toInt))) else none
def fl_Mo_run_73 : Nat → Int32 → Int32 → gq_M → Option (Int32 × gq_M)
  | 0, _, _, _ => none
  | k + 1, v1, v2, M => if (gq_f M 2) ≤ v2 then if v1 ≤ 0 then fl_Mo_run_120 5000 v1 0 M else (fn_Mo_keepNets  M).bind fun q9 => fl_Mo_run_120 5000 v1 0 q9 else if 0 ≤ v2.toInt ∧ v2.toInt < ((80 : Nat) : Int) then if ((gq_i M 15) v2.toInt) = ((gq_i M 2) v2.toInt) then fl_Mo_run_73 k (v1 + 0) (v2 + 1) M else fl_Mo_run_73 k (v1 + 1) (v2 + 1) M else none
def fl_Mo_run_43 : Nat → Int32 → gq_M → Option (Int32 × gq_M)
  | 0, _, _ => none
  | k + 1, v1, M => if (gq_f M 1) ≤ v1 then fl_Mo_run_73 5000 0 0 M else (fn_Mo_match v1 0 M).bind fun q13 => (fn_Mo_match v1 1 q13).bind fun q15 => fl_Mo_run_43 k (v1 + 1) q15
def fl_Mo_run_15 : Nat → Int32 → gq_M → Option (Int32 × gq_M)
  | 0, _, _ => none
  | k + 1, v1, M => if (gq_f M 2) ≤ v1 then fl_Mo_run_43 5000 0 M else if 0 ≤ v1.toInt ∧ v1.toInt < ((80 : Nat) : Int) then fl_Mo_run_15 k (v1 + 1) (gs_i M 15 (gz_u (gq_i M 15) v1.toInt ((gq_i M 2) v1.toInt))) else none
def fn_Mo_run  (M : gq_M) : Option (Int32 × gq_M) := (fn_Mo_sumOf  (gs_f M 0 0)).bind fun q1 => fl_Mo_run_15 5000 0 (gs_j (gs_f M 0 0) 0 q1)
set_option maxHeartbeats 4000000 in
set_option maxRecDepth 100000 in
theorem gl_Mo_run_120 {x : gx_X} {G : gq_M × (Int → Int64)} {r : (Int32 × gq_M)} (hC : gw_C 81 81 yn_Mo_run.cls bc_Mo_run 3 x) (hR : gr_I 81 bc_Mo_run 3 .int ({ frames := 5, cells := 0, slots := 0, locals := 125 } : Room) x (fun z c2 => z = r.1 ∧ c2 = ca_A (G.1, r.2, G.2))) : ∀ (k : Nat) (v1 : Int32) (v2 : Int32) (M : gq_M), fl_Mo_run_120 k v1 v2 M = some r → gw_G 81 3 ({ frames := 5, cells := 0, slots := 0, locals := 125 } : Room) x 0 0 (ca_A (G.1, M, G.2)) 120 [(0, gv_R 57), (1, gv_I v1), (2, gv_I v2)] [] := by
  intro k
  induction k with
  | zero =>
    intro v1 v2 M h
    cases h
  | succ k ih =>
    intro v1 v2 M h
    rw [fl_Mo_run_120] at h
    refine gx_iload_n hC dr_Mo_run_120 rfl ?_
    refine gx_aload_n hC dr_Mo_run_121 rfl ?_
    refine gx_get hC dr_Mo_run_122 lf_Mo_89 (by decide) rfl rfl ?_
    refine gx_icmp_ge (tgt := 146) hC dr_Mo_run_125 (by decide) (fun hc7 => ?_) (fun hc7 => ?_)
    · rw [if_pos (show (gq_f M 2) ≤ v2 from hc7)] at h
      refine gx_iload_n hC dr_Mo_run_146 rfl ?_
      obtain rfl := Option.some.inj h
      exact hR (by decide) (by decide) dr_Mo_run_147 rfl ⟨rfl, rfl⟩
    · rw [if_neg (show ¬ ((gq_f M 2) ≤ v2) from hc7)] at h
      refine gx_aload_n hC dr_Mo_run_128 rfl ?_
      refine gx_get hC dr_Mo_run_129 lf_Mo_23 (by decide) rfl rfl ?_
      refine gx_iload_n hC dr_Mo_run_132 rfl ?_
      refine gx_aload_n hC dr_Mo_run_133 rfl ?_
      refine gx_get hC dr_Mo_run_134 lf_Mo_75 (by decide) rfl rfl ?_
      refine gx_iload_n hC dr_Mo_run_137 rfl ?_
      obtain ⟨hz8, h⟩ := gk_of h
      refine gx_iald (f := (gq_i M 15)) hC dr_Mo_run_138 (by decide) rfl hz8 ?_
      refine gx_iast (f := (gq_i M 2)) hC (by decide) dr_Mo_run_139 (by decide) rfl hz8 (ma_I 2 (by decide)) ?_
      refine gx_iinc (v := (v2 + 1)) hC dr_Mo_run_140 rfl (by decide) rfl ?_
      refine gx_goto (tgt := 120) hC dr_Mo_run_143 (by decide) ?_
      exact gx_lv [(0, gv_R 57), (1, gv_I v1), (2, gv_I (v2 + 1))] ⟨rfl, rfl, rfl, trivial⟩ (ih _ _ _ h)
set_option maxHeartbeats 4000000 in
set_option maxRecDepth 100000 in
theorem gl_Mo_run_73 {x : gx_X} {G : gq_M × (Int → Int64)} {r : (Int32 × gq_M)} (hC : gw_C 81 81 yn_Mo_run.cls bc_Mo_run 3 x) (hR : gr_I 81 bc_Mo_run 3 .int ({ frames := 5, cells := 0, slots := 0, locals := 125 } : Room) x (fun z c2 => z = r.1 ∧ c2 = ca_A (G.1, r.2, G.2))) : ∀ (k : Nat) (v1 : Int32) (v2 : Int32) (M : gq_M), fl_Mo_run_73 k v1 v2 M = some r → gw_G 81 3 ({ frames := 5, cells := 0, slots := 0, locals := 125 } : Room) x 0 0 (ca_A (G.1, M, G.2)) 73 [(0, gv_R 57), (1, gv_I v1), (2, gv_I v2)] [] := by
  intro k
  induction k with
  | zero =>
    intro v1 v2 M h
    cases h
  | succ k ih =>
    intro v1 v2 M h
    rw [fl_Mo_run_73] at h
    refine gx_iload_n hC dr_Mo_run_73 rfl ?_
    refine gx_aload_n hC dr_Mo_run_74 rfl ?_
    refine gx_get hC dr_Mo_run_75 lf_Mo_89 (by decide) rfl rfl ?_
    refine gx_icmp_ge (tgt := 110) hC dr_Mo_run_78 (by decide) (fun hc5 => ?_) (fun hc5 => ?_)
    · rw [if_pos (show (gq_f M 2) ≤ v2 from hc5)] at h
      refine gx_iload_n hC dr_Mo_run_110 rfl ?_
      refine gx_if_le (tgt := 118) hC dr_Mo_run_111 (by decide) (fun hc6 => ?_) (fun hc6 => ?_)
      · rw [if_pos (show v1 ≤ 0 from hc6)] at h
        refine gx_iconst (v := 0) hC dr_Mo_run_118 (by decide) ?_
        refine gx_istore_n hC dr_Mo_run_119 (by decide) ?_
        exact gx_lv [(0, gv_R 57), (1, gv_I v1), (2, gv_I 0)] ⟨rfl, rfl, rfl, trivial⟩ (gl_Mo_run_120 hC hR 5000 _ _ _ h)
      · rw [if_neg (show ¬ (v1 ≤ 0) from hc6)] at h
        refine gx_aload_n hC dr_Mo_run_114 rfl ?_
        obtain ⟨q9, e10, h⟩ := gb_of h
        refine gx_vV hC dr_Mo_run_115 lk_Mo_159 (mt_Mo_keepNets e10) rfl (by decide) ⟨by decide, by decide⟩ ⟨by decide, by decide⟩ (by decide) ⟨_, _, rfl⟩ rfl rfl (Nat.le_of_ble_eq_true rfl) (fun c2 hp => ?_)
        subst hp
        refine gx_iconst (v := 0) hC dr_Mo_run_118 (by decide) ?_
        refine gx_istore_n hC dr_Mo_run_119 (by decide) ?_
        exact gx_lv [(0, gv_R 57), (1, gv_I v1), (2, gv_I 0)] ⟨rfl, rfl, rfl, trivial⟩ (gl_Mo_run_120 hC hR 5000 _ _ _ h)
    · rw [if_neg (show ¬ ((gq_f M 2) ≤ v2) from hc5)] at h
      refine gx_iload_n hC dr_Mo_run_81 rfl ?_
      refine gx_aload_n hC dr_Mo_run_82 rfl ?_
      refine gx_get hC dr_Mo_run_83 lf_Mo_75 (by decide) rfl rfl ?_
      refine gx_iload_n hC dr_Mo_run_86 rfl ?_
      obtain ⟨hz11, h⟩ := gk_of h
      refine gx_iald (f := (gq_i M 15)) hC dr_Mo_run_87 (by decide) rfl hz11 ?_
      refine gx_aload_n hC dr_Mo_run_88 rfl ?_
      refine gx_get hC dr_Mo_run_89 lf_Mo_23 (by decide) rfl rfl ?_
      refine gx_iload_n hC dr_Mo_run_92 rfl ?_
      refine gx_iald (f := (gq_i M 2)) hC dr_Mo_run_93 (by decide) rfl hz11 ?_
      refine gx_icmp_eq (tgt := 101) hC dr_Mo_run_94 (by decide) (fun hc12 => ?_) (fun hc12 => ?_)
      · rw [if_pos (show ((gq_i M 15) v2.toInt) = ((gq_i M 2) v2.toInt) from hc12)] at h
        refine gx_iconst (v := 0) hC dr_Mo_run_101 (by decide) ?_
        refine gx_iadd hC dr_Mo_run_102 ?_
        refine gx_istore_n hC dr_Mo_run_103 (by decide) ?_
        refine gx_iinc (v := (v2 + 1)) hC dr_Mo_run_104 rfl (by decide) rfl ?_
        refine gx_goto (tgt := 73) hC dr_Mo_run_107 (by decide) ?_
        exact gx_lv [(0, gv_R 57), (1, gv_I (v1 + 0)), (2, gv_I (v2 + 1))] ⟨rfl, rfl, rfl, trivial⟩ (ih _ _ _ h)
      · rw [if_neg (show ¬ (((gq_i M 15) v2.toInt) = ((gq_i M 2) v2.toInt)) from hc12)] at h
        refine gx_iconst (v := 1) hC dr_Mo_run_97 (by decide) ?_
        refine gx_goto (tgt := 102) hC dr_Mo_run_98 (by decide) ?_
        refine gx_iadd hC dr_Mo_run_102 ?_
        refine gx_istore_n hC dr_Mo_run_103 (by decide) ?_
        refine gx_iinc (v := (v2 + 1)) hC dr_Mo_run_104 rfl (by decide) rfl ?_
        refine gx_goto (tgt := 73) hC dr_Mo_run_107 (by decide) ?_
        exact gx_lv [(0, gv_R 57), (1, gv_I (v1 + 1)), (2, gv_I (v2 + 1))] ⟨rfl, rfl, rfl, trivial⟩ (ih _ _ _ h)
set_option maxHeartbeats 4000000 in
set_option maxRecDepth 100000 in
theorem gl_Mo_run_43 {x : gx_X} {G : gq_M × (Int → Int64)} {r : (Int32 × gq_M)} (hC : gw_C 81 81 yn_Mo_run.cls bc_Mo_run 3 x) (hR : gr_I 81 bc_Mo_run 3 .int ({ frames := 5, cells := 0, slots := 0, locals := 125 } : Room) x (fun z c2 => z = r.1 ∧ c2 = ca_A (G.1, r.2, G.2))) : ∀ (k : Nat) (v1 : Int32) (M : gq_M), fl_Mo_run_43 k v1 M = some r → gw_G 81 3 ({ frames := 5, cells := 0, slots := 0, locals := 125 } : Room) x 0 0 (ca_A (G.1, M, G.2)) 43 [(0, gv_R 57), (1, gv_I v1)] [] := by
  intro k
  induction k with
  | zero =>
    intro v1 M h
    cases h
  | succ k ih =>
    intro v1 M h
    rw [fl_Mo_run_43] at h
    refine gx_iload_n hC dr_Mo_run_43 rfl ?_
    refine gx_aload_n hC dr_Mo_run_44 rfl ?_
    refine gx_get hC dr_Mo_run_45 lf_Mo_82 (by decide) rfl rfl ?_
    refine gx_icmp_ge (tgt := 69) hC dr_Mo_run_48 (by decide) (fun hc4 => ?_) (fun hc4 => ?_)
    · rw [if_pos (show (gq_f M 1) ≤ v1 from hc4)] at h
      refine gx_iconst (v := 0) hC dr_Mo_run_69 (by decide) ?_
      refine gx_istore_n hC dr_Mo_run_70 (by decide) ?_
      refine gx_iconst (v := 0) hC dr_Mo_run_71 (by decide) ?_
      refine gx_istore_n hC dr_Mo_run_72 (by decide) ?_
      exact gx_lv [(0, gv_R 57), (1, gv_I 0), (2, gv_I 0)] ⟨rfl, rfl, rfl, trivial⟩ (gl_Mo_run_73 hC hR 5000 _ _ _ h)
    · rw [if_neg (show ¬ ((gq_f M 1) ≤ v1) from hc4)] at h
      refine gx_aload_n hC dr_Mo_run_51 rfl ?_
      refine gx_iload_n hC dr_Mo_run_52 rfl ?_
      refine gx_iconst (v := 0) hC dr_Mo_run_53 (by decide) ?_
      obtain ⟨q13, e14, h⟩ := gb_of h
      refine gx_vV hC dr_Mo_run_54 lk_Mo_155 (mt_Mo_match e14) rfl (by decide) ⟨by decide, by decide⟩ ⟨by decide, by decide⟩ (by decide) ⟨_, _, rfl⟩ rfl rfl (Nat.le_of_ble_eq_true rfl) (fun c2 hp => ?_)
      subst hp
      refine gx_aload_n hC dr_Mo_run_57 rfl ?_
      refine gx_iload_n hC dr_Mo_run_58 rfl ?_
      refine gx_iconst (v := 1) hC dr_Mo_run_59 (by decide) ?_
      obtain ⟨q15, e16, h⟩ := gb_of h
      refine gx_vV hC dr_Mo_run_60 lk_Mo_155 (mt_Mo_match e16) rfl (by decide) ⟨by decide, by decide⟩ ⟨by decide, by decide⟩ (by decide) ⟨_, _, rfl⟩ rfl rfl (Nat.le_of_ble_eq_true rfl) (fun c2 hp => ?_)
      subst hp
      refine gx_iinc (v := (v1 + 1)) hC dr_Mo_run_63 rfl (by decide) rfl ?_
      refine gx_goto (tgt := 43) hC dr_Mo_run_66 (by decide) ?_
      exact gx_lv [(0, gv_R 57), (1, gv_I (v1 + 1))] ⟨rfl, rfl, trivial⟩ (ih _ _ h)
set_option maxHeartbeats 4000000 in
set_option maxRecDepth 100000 in
theorem gl_Mo_run_15 {x : gx_X} {G : gq_M × (Int → Int64)} {r : (Int32 × gq_M)} (hC : gw_C 81 81 yn_Mo_run.cls bc_Mo_run 3 x) (hR : gr_I 81 bc_Mo_run 3 .int ({ frames := 5, cells := 0, slots := 0, locals := 125 } : Room) x (fun z c2 => z = r.1 ∧ c2 = ca_A (G.1, r.2, G.2))) : ∀ (k : Nat) (v1 : Int32) (M : gq_M), fl_Mo_run_15 k v1 M = some r → gw_G 81 3 ({ frames := 5, cells := 0, slots := 0, locals := 125 } : Room) x 0 0 (ca_A (G.1, M, G.2)) 15 [(0, gv_R 57), (1, gv_I v1)] [] := by
  intro k
  induction k with
  | zero =>
    intro v1 M h
    cases h
  | succ k ih =>
    intro v1 M h
    rw [fl_Mo_run_15] at h
    refine gx_iload_n hC dr_Mo_run_15 rfl ?_
    refine gx_aload_n hC dr_Mo_run_16 rfl ?_
    refine gx_get hC dr_Mo_run_17 lf_Mo_89 (by decide) rfl rfl ?_
    refine gx_icmp_ge (tgt := 41) hC dr_Mo_run_20 (by decide) (fun hc3 => ?_) (fun hc3 => ?_)
    · rw [if_pos (show (gq_f M 2) ≤ v1 from hc3)] at h
      refine gx_iconst (v := 0) hC dr_Mo_run_41 (by decide) ?_
      refine gx_istore_n hC dr_Mo_run_42 (by decide) ?_
      exact gx_lv [(0, gv_R 57), (1, gv_I 0)] ⟨rfl, rfl, trivial⟩ (gl_Mo_run_43 hC hR 5000 _ _ h)
    · rw [if_neg (show ¬ ((gq_f M 2) ≤ v1) from hc3)] at h
      refine gx_aload_n hC dr_Mo_run_23 rfl ?_
      refine gx_get hC dr_Mo_run_24 lf_Mo_75 (by decide) rfl rfl ?_
      refine gx_iload_n hC dr_Mo_run_27 rfl ?_
      refine gx_aload_n hC dr_Mo_run_28 rfl ?_
      refine gx_get hC dr_Mo_run_29 lf_Mo_23 (by decide) rfl rfl ?_
      refine gx_iload_n hC dr_Mo_run_32 rfl ?_
      obtain ⟨hz17, h⟩ := gk_of h
      refine gx_iald (f := (gq_i M 2)) hC dr_Mo_run_33 (by decide) rfl hz17 ?_
      refine gx_iast (f := (gq_i M 15)) hC (by decide) dr_Mo_run_34 (by decide) rfl hz17 (ma_I 15 (by decide)) ?_
      refine gx_iinc (v := (v1 + 1)) hC dr_Mo_run_35 rfl (by decide) rfl ?_
      refine gx_goto (tgt := 15) hC dr_Mo_run_38 (by decide) ?_
      exact gx_lv [(0, gv_R 57), (1, gv_I (v1 + 1))] ⟨rfl, rfl, trivial⟩ (ih _ _ h)
set_option maxHeartbeats 4000000 in
set_option maxRecDepth 100000 in
theorem mt_Mo_run {l : Launch} {D : va_G} {ad : Nat → Nat} {ck : Nat → ClassId} {G : gq_M × (Int → Int64)}  {M : gq_M} {r : (Int32 × gq_M)} (h : fn_Mo_run  M = some r) : gm_I 81 81 l D ad ck yn_Mo_run bc_Mo_run 3 .int ({ frames := 5, cells := 0, slots := 0, locals := 125 } : Room) [gv_R 57] (ca_A (G.1, M, G.2)) (fun z c2 => z = r.1 ∧ c2 = ca_A (G.1, r.2, G.2)) := by
  refine gm_I.of (by decide) (Nat.le_of_ble_eq_true rfl) (fun x hC hR => ?_)
  unfold fn_Mo_run at h
  refine gx_aload_n hC dr_Mo_run_0 rfl ?_
  refine gx_iconst (v := 0) hC dr_Mo_run_1 (by decide) ?_
  refine gx_put hC (by decide) dr_Mo_run_2 lf_Mo_78 lp_Mo_thrown (by decide) rfl (Nat.le_of_ble_eq_true rfl) (fun _ => rfl) (fun _ => rfl) ma_F0 ?_
  refine gx_aload_n hC dr_Mo_run_5 rfl ?_
  refine gx_aload_n hC dr_Mo_run_6 rfl ?_
  obtain ⟨q1, e2, h⟩ := gb_of h
  refine gx_vJ hC dr_Mo_run_7 lk_Mo_113 (mt_Mo_sumOf e2) rfl (by decide) ⟨by decide, by decide⟩ ⟨by decide, by decide⟩ (by decide) ⟨_, _, rfl⟩ rfl rfl (Nat.le_of_ble_eq_true rfl) (fun z c2 hp => ?_)
  obtain ⟨hp1, rfl⟩ := hp; obtain rfl := hp1.symm
  refine gx_put hC (by decide) dr_Mo_run_10 lf_Mo_117 lp_Mo_beforeSum (by decide) rfl (Nat.le_of_ble_eq_true rfl) (fun _ => rfl) (fun _ => rfl) ma_J0 ?_
  refine gx_iconst (v := 0) hC dr_Mo_run_13 (by decide) ?_
  refine gx_istore_n hC dr_Mo_run_14 (by decide) ?_
  exact gx_lv [(0, gv_R 57), (1, gv_I 0)] ⟨rfl, rfl, trivial⟩ (gl_Mo_run_15 hC hR 5000 _ _ h)
def fl_Mo_undo_26 : Nat → Int32 → gq_M → Option (Int32 × gq_M)
  | 0, _, _ => none
  | k + 1, v1, M => if 0 ≤ (gq_f M 3).toInt ∧ (gq_f M 3).toInt < ((10 : Nat) : Int) then if ((gq_i M 9) (gq_f M 3).toInt) ≤ v1 then some (1, M) else if 0 ≤ ((80 * (gq_f M 3)) + v1).toInt ∧ ((80 * (gq_f M 3)) + v1).toInt < ((800 : Nat) : Int) then if 0 ≤ v1.toInt ∧ v1.toInt < ((80 : Nat) : Int) then fl_Mo_undo_26 k (v1 + 1) (gs_i M 2 (gz_u (gq_i M 2) v1.toInt ((gq_i M 10) ((80 * (gq_f M 3)) + v1).toInt))) else none else none else none
def fn_Mo_undo  (M : gq_M) : Option (Int32 × gq_M) := if (gq_f M 3) = 0 then some (0, (gs_f M 0 0)) else fl_Mo_undo_26 5000 0 (gs_f (gs_f M 0 0) 3 ((gq_f M 3) - 1))
set_option maxHeartbeats 4000000 in
set_option maxRecDepth 100000 in
theorem gl_Mo_undo_26 {x : gx_X} {G : gq_M × (Int → Int64)} {r : (Int32 × gq_M)} (hC : gw_C 81 81 yn_Mo_undo.cls bc_Mo_undo 2 x) (hR : gr_I 81 bc_Mo_undo 2 .boolean ({ frames := 0, cells := 0, slots := 0, locals := 0 } : Room) x (fun z c2 => z = r.1 ∧ c2 = ca_A (G.1, r.2, G.2))) : ∀ (k : Nat) (v1 : Int32) (M : gq_M), fl_Mo_undo_26 k v1 M = some r → gw_G 81 2 ({ frames := 0, cells := 0, slots := 0, locals := 0 } : Room) x 0 0 (ca_A (G.1, M, G.2)) 26 [(0, gv_R 57), (1, gv_I v1)] [] := by
  intro k
  induction k with
  | zero =>
    intro v1 M h
    cases h
  | succ k ih =>
    intro v1 M h
    rw [fl_Mo_undo_26] at h
    refine gx_iload_n hC dr_Mo_undo_26 rfl ?_
    refine gx_aload_n hC dr_Mo_undo_27 rfl ?_
    refine gx_get hC dr_Mo_undo_28 lf_Mo_51 (by decide) rfl rfl ?_
    refine gx_aload_n hC dr_Mo_undo_31 rfl ?_
    refine gx_get hC dr_Mo_undo_32 lf_Mo_152 (by decide) rfl rfl ?_
    obtain ⟨hz2, h⟩ := gk_of h
    refine gx_iald (f := (gq_i M 9)) hC dr_Mo_undo_35 (by decide) rfl hz2 ?_
    refine gx_icmp_ge (tgt := 65) hC dr_Mo_undo_36 (by decide) (fun hc3 => ?_) (fun hc3 => ?_)
    · rw [if_pos (show ((gq_i M 9) (gq_f M 3).toInt) ≤ v1 from hc3)] at h
      refine gx_iconst (v := 1) hC dr_Mo_undo_65 (by decide) ?_
      obtain rfl := Option.some.inj h
      exact hR (by decide) (by decide) dr_Mo_undo_66 rfl ⟨rfl, rfl⟩
    · rw [if_neg (show ¬ (((gq_i M 9) (gq_f M 3).toInt) ≤ v1) from hc3)] at h
      refine gx_aload_n hC dr_Mo_undo_39 rfl ?_
      refine gx_get hC dr_Mo_undo_40 lf_Mo_23 (by decide) rfl rfl ?_
      refine gx_iload_n hC dr_Mo_undo_43 rfl ?_
      refine gx_aload_n hC dr_Mo_undo_44 rfl ?_
      refine gx_get hC dr_Mo_undo_45 lf_Mo_54 (by decide) rfl rfl ?_
      refine gx_bipush (v := 80) hC dr_Mo_undo_48 (by decide) ?_
      refine gx_aload_n hC dr_Mo_undo_50 rfl ?_
      refine gx_get hC dr_Mo_undo_51 lf_Mo_152 (by decide) rfl rfl ?_
      refine gx_imul hC dr_Mo_undo_54 ?_
      refine gx_iload_n hC dr_Mo_undo_55 rfl ?_
      refine gx_iadd hC dr_Mo_undo_56 ?_
      obtain ⟨hz4, h⟩ := gk_of h
      refine gx_iald (f := (gq_i M 10)) hC dr_Mo_undo_57 (by decide) rfl hz4 ?_
      obtain ⟨hz5, h⟩ := gk_of h
      refine gx_iast (f := (gq_i M 2)) hC (by decide) dr_Mo_undo_58 (by decide) rfl hz5 (ma_I 2 (by decide)) ?_
      refine gx_iinc (v := (v1 + 1)) hC dr_Mo_undo_59 rfl (by decide) rfl ?_
      refine gx_goto (tgt := 26) hC dr_Mo_undo_62 (by decide) ?_
      exact gx_lv [(0, gv_R 57), (1, gv_I (v1 + 1))] ⟨rfl, rfl, trivial⟩ (ih _ _ h)
set_option maxHeartbeats 4000000 in
set_option maxRecDepth 100000 in
theorem mt_Mo_undo {l : Launch} {D : va_G} {ad : Nat → Nat} {ck : Nat → ClassId} {G : gq_M × (Int → Int64)}  {M : gq_M} {r : (Int32 × gq_M)} (h : fn_Mo_undo  M = some r) : gm_I 81 81 l D ad ck yn_Mo_undo bc_Mo_undo 2 .boolean ({ frames := 0, cells := 0, slots := 0, locals := 0 } : Room) [gv_R 57] (ca_A (G.1, M, G.2)) (fun z c2 => z = r.1 ∧ c2 = ca_A (G.1, r.2, G.2)) := by
  refine gm_I.of (by decide) (Nat.le_of_ble_eq_true rfl) (fun x hC hR => ?_)
  unfold fn_Mo_undo at h
  refine gx_aload_n hC dr_Mo_undo_0 rfl ?_
  refine gx_iconst (v := 0) hC dr_Mo_undo_1 (by decide) ?_
  refine gx_put hC (by decide) dr_Mo_undo_2 lf_Mo_78 lp_Mo_thrown (by decide) rfl (Nat.le_of_ble_eq_true rfl) (fun _ => rfl) (fun _ => rfl) ma_F0 ?_
  refine gx_aload_n hC dr_Mo_undo_5 rfl ?_
  refine gx_get hC dr_Mo_undo_6 lf_Mo_152 (by decide) rfl rfl ?_
  refine gx_if_ne (tgt := 14) hC dr_Mo_undo_9 (by decide) (fun hc1 => ?_) (fun hc1 => ?_)
  · rw [if_neg (show ¬ ((gq_f M 3) = 0) from hc1)] at h
    refine gx_aload_n hC dr_Mo_undo_14 rfl ?_
    refine gx_dup hC dr_Mo_undo_15 rfl ?_
    refine gx_get hC dr_Mo_undo_16 lf_Mo_152 (by decide) rfl rfl ?_
    refine gx_iconst (v := 1) hC dr_Mo_undo_19 (by decide) ?_
    refine gx_isub hC dr_Mo_undo_20 ?_
    refine gx_put hC (by decide) dr_Mo_undo_21 lf_Mo_152 lp_Mo_kept (by decide) rfl (Nat.le_of_ble_eq_true rfl) (fun _ => rfl) (fun _ => rfl) ma_F3 ?_
    refine gx_iconst (v := 0) hC dr_Mo_undo_24 (by decide) ?_
    refine gx_istore_n hC dr_Mo_undo_25 (by decide) ?_
    exact gx_lv [(0, gv_R 57), (1, gv_I 0)] ⟨rfl, rfl, trivial⟩ (gl_Mo_undo_26 hC hR 5000 _ _ h)
  · rw [if_pos (show (gq_f M 3) = 0 from hc1)] at h
    refine gx_iconst (v := 0) hC dr_Mo_undo_12 (by decide) ?_
    obtain rfl := Option.some.inj h
    exact hR (by decide) (by decide) dr_Mo_undo_13 rfl ⟨rfl, rfl⟩
