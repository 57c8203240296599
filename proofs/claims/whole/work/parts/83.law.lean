/-! THE LAW'S CASES (written by gen_law.py) -/
def gs_X (L : Nat) (xs : Nat → Int32) : gx_X → Prop
  | (_, _, _, s, _, _, _, _, _, _, _, A, ad, _) => va_X (ad 92) L xs s s.heap ∧ ad 92 < s.heap.size ∧ ¬ A (ad 92)
section GSX
variable {N w nL : Nat} {own : String} {cc : ByteArray} {R : Room} {x : gx_X} {k n : Nat} {cf : Nat → gc_T} {pc : Nat} {lv : List (Nat × gv_V)} {st : List gv_V} {L : Nat} {xs : Nat → Int32}
theorem gx_sld (hC : gw_C N w own cc nL x) (hX : gs_X L xs x) {z : Int32} (hd : decode cc pc = .ok (.iaload, 1)) (hz : 0 ≤ z.toInt ∧ z.toInt < (L : Int))
    (kk : gw_G N nL R x k n cf (pc + 1) lv (gv_I (xs z.toInt.toNat) :: st)) : gw_G N nL R x k n cf pc lv (gv_I z :: gv_R 92 :: st) := by
  obtain ⟨p, l, e, s, m, args, below, meth, c, Q, D, A, ad, ck⟩ := x
  obtain ⟨hx, hb, hml, hown, hts, hnw, hK, hA, hij, hAd, hlk⟩ := hC
  intro H locs ls hP hS hl
  exact va_sld hx hb hX.1 hX.2.1 hX.2.2 hS (gv_vin hz) hd (kk H locs ls hP hS hl)
theorem gx_slen (hC : gw_C N w own cc nL x) (hX : gs_X L xs x) (hd : decode cc pc = .ok (.arraylength, 1))
    (kk : gw_G N nL R x k n cf (pc + 1) lv (gv_I (nI L) :: st)) : gw_G N nL R x k n cf pc lv (gv_R 92 :: st) := by
  obtain ⟨p, l, e, s, m, args, below, meth, c, Q, D, A, ad, ck⟩ := x
  obtain ⟨hx, hb, hml, hown, hts, hnw, hK, hA, hij, hAd, hlk⟩ := hC
  intro H locs ls hP hS hl
  exact va_slen hx hb hX.1 hX.2.1 hX.2.2 hS hd (kk H locs ls hP hS hl)
theorem gx_swO (hC : gw_C N w own cc nL x) {dflt lo hi : Int} {offs : Array Int} {len tgt : Nat} {v : Int32} (hd : decode cc pc = .ok (.tableswitch dflt lo hi offs, len)) (h : v.toInt < lo ∨ hi < v.toInt) (ht : (pc : Int) + dflt = (tgt : Int))
    (kk : gw_G N nL R x k n cf tgt lv st) : gw_G N nL R x k n cf pc lv (gv_I v :: st) := by
  obtain ⟨p, l, e, s, m, args, below, meth, c, Q, D, A, ad, ck⟩ := x
  obtain ⟨hx, hb, hml, hown, hts, hnw, hK, hA, hij, hAd, hlk⟩ := hC
  intro H locs ls hP hS hl
  exact lv_tableOut hx hb hd h ht (kk H locs ls hP hS hl)
theorem gx_swI (hC : gw_C N w own cc nL x) {dflt lo hi off : Int} {offs : Array Int} {len tgt : Nat} {v : Int32} (hd : decode cc pc = .ok (.tableswitch dflt lo hi offs, len)) (h1 : ¬ v.toInt < lo) (h2 : ¬ hi < v.toInt) (ho : offs[(v.toInt - lo).toNat]? = some off) (ht : (pc : Int) + off = (tgt : Int))
    (kk : gw_G N nL R x k n cf tgt lv st) : gw_G N nL R x k n cf pc lv (gv_I v :: st) := by
  obtain ⟨p, l, e, s, m, args, below, meth, c, Q, D, A, ad, ck⟩ := x
  obtain ⟨hx, hb, hml, hown, hts, hnw, hK, hA, hij, hAd, hlk⟩ := hC
  intro H locs ls hP hS hl
  exact lv_tableIn hx hb hd h1 h2 ho ht (kk H locs ls hP hS hl)
end GSX
abbrev la_L (i : Nat) : List (Nat × gv_V) := [(0, gv_R 92), (1, gv_R 0), (2, gv_R 57), (3, gv_R 80), (4, gv_I (nI i))]
theorem la_ix {i L : Nat} (hi : i + 7 ≤ L) (hL : L ≤ 3584) (j : Int32) (hj : 0 ≤ j.toInt ∧ j.toInt < 7) : 0 ≤ (nI i + j).toInt ∧ (nI i + j).toInt < (L : Int) := by
  have e : (nI i).toInt = i := pa_nI (by omega)
  rw [pa_add (by rw [e]; omega) (by rw [e]; omega), e]
  omega
theorem la_i0 {i L : Nat} (hi : i + 7 ≤ L) (hL : L ≤ 3584) : 0 ≤ (nI i).toInt ∧ (nI i).toInt < (L : Int) := by
  have e : (nI i).toInt = i := pa_nI (by omega)
  rw [e]
  omega
/-- what a case is given to go on with -/
def la_K (x : gx_X) (i k n : Nat) : Prop := ∀ {M2 W2 : gq_M} {o2 : Int → Int64} {k2 n2 : Nat}, rl_R M2 W2 → k2 ≤ k + 1 → n2 ≤ n + 6 → gw_G 81 8 room_1 x k2 n2 (ca_A (M2, W2, o2)) 1123 (la_L i) []
theorem cs_group {x : gx_X} {L : Nat} {xs : Nat → Int32} (hC : gw_C 81 81 "PinSwapsLaw" bc_Lw_law 8 x) (hX : gs_X L xs x) (hfl : (gx_l x).flags = pinnedFlags ++ [noTraceFlag]) {M W : gq_M} {o : Int → Int64} (hR : rl_R M W) {i k n : Nat} (hi : i + 7 ≤ L) (hL : L ≤ 3584) (hk : k + 1 ≤ room_1.cells) (hn : n + 6 ≤ room_1.slots) (kk : la_K x i k n) : gw_G 81 8 room_1 x k n (ca_A (M, W, o)) 124 (la_L i) [] := by
  obtain ⟨y, M2, W2, f1, f2, f3⟩ := op_group hR
  have hk0 : k ≤ room_1.cells := by omega
  have hn0 : n ≤ room_1.slots := by omega
  refine gx_aload_n hC dr_Lw_law_124 rfl ?_
  refine gx_vI hC dr_Lw_law_125 lk_Lw_57 (mt_PS_group (G := (W, o)) f1) rfl (by decide) ⟨by decide, by decide⟩ ⟨by exact hk0, by exact hn0⟩ (by decide) ⟨_, _, rfl⟩ rfl rfl (Nat.le_of_ble_eq_true rfl) (fun z c2 hp => ?_)
  obtain ⟨rfl, rfl⟩ := hp
  refine gx_aload_n hC dr_Lw_law_128 rfl ?_
  refine gx_vI hC dr_Lw_law_129 lk_Lw_61 (mt_Mo_group (G := (M2, o)) f2) rfl (by decide) ⟨by decide, by decide⟩ ⟨by exact hk0, by exact hn0⟩ (by decide) ⟨_, _, rfl⟩ rfl rfl (Nat.le_of_ble_eq_true rfl) (fun z c2 hp => ?_)
  obtain ⟨rfl, rfl⟩ := hp
  refine gx_icmp_eq (tgt := 1123) hC dr_Lw_law_132 (by decide) (fun _ => ?_) (fun e => absurd rfl e)
  exact kk f3 (Nat.le_succ k) (Nat.le_add_right n 6)
set_option maxHeartbeats 1000000 in
theorem cs_pin {x : gx_X} {L : Nat} {xs : Nat → Int32} (hC : gw_C 81 81 "PinSwapsLaw" bc_Lw_law 8 x) (hX : gs_X L xs x) (hfl : (gx_l x).flags = pinnedFlags ++ [noTraceFlag]) {M W : gq_M} {o : Int → Int64} (hR : rl_R M W) {i k n : Nat} (hi : i + 7 ≤ L) (hL : L ≤ 3584) (hk : k + 1 ≤ room_1.cells) (hn : n + 6 ≤ room_1.slots) (kk : la_K x i k n) : gw_G 81 8 room_1 x k n (ca_A (M, W, o)) 137 (la_L i) [] := by
  obtain ⟨b, W2, g1, g2⟩ := op_pin hR (xs (nI i + 1).toInt.toNat) (((((xs (nI i + 2).toInt.toNat) : Int32).toInt64 <<< ((32 : Int32).toInt64 &&& 63)) ||| (((xs (nI i + 3).toInt.toNat) : Int32).toInt64 &&& 4294967295)) : Int64) (((((xs (nI i + 4).toInt.toNat) : Int32).toInt64 <<< ((32 : Int32).toInt64 &&& 63)) ||| (((xs (nI i + 5).toInt.toNat) : Int32).toInt64 &&& 4294967295)) : Int64) (xs (nI i + 6).toInt.toNat)
  rcases g2 with ⟨kd, f1, f2, f3, f4⟩ | ⟨M2, f1, f3, f4⟩
  · rcases f2 with rfl | rfl
    · refine gx_aload_n hC dr_Lw_law_137 rfl ?_
      refine gx_aload_n hC dr_Lw_law_138 rfl ?_
      refine gx_iload hC dr_Lw_law_139 rfl ?_
      refine gx_iconst (v := 1) hC dr_Lw_law_141 (by decide) ?_
      refine gx_iadd hC dr_Lw_law_142 ?_
      refine gx_sld hC hX dr_Lw_law_143 (la_ix hi hL 1 (by decide)) ?_
      refine gx_aload_n hC dr_Lw_law_144 rfl ?_
      refine gx_iload hC dr_Lw_law_145 rfl ?_
      refine gx_iconst (v := 2) hC dr_Lw_law_147 (by decide) ?_
      refine gx_iadd hC dr_Lw_law_148 ?_
      refine gx_sld hC hX dr_Lw_law_149 (la_ix hi hL 2 (by decide)) ?_
      refine gx_i2l hC dr_Lw_law_150 ?_
      refine gx_bipush (v := 32) hC dr_Lw_law_151 (by decide) ?_
      refine gx_lshl hC dr_Lw_law_153 ?_
      refine gx_aload_n hC dr_Lw_law_154 rfl ?_
      refine gx_iload hC dr_Lw_law_155 rfl ?_
      refine gx_iconst (v := 3) hC dr_Lw_law_157 (by decide) ?_
      refine gx_iadd hC dr_Lw_law_158 ?_
      refine gx_sld hC hX dr_Lw_law_159 (la_ix hi hL 3 (by decide)) ?_
      refine gx_i2l hC dr_Lw_law_160 ?_
      refine gx_ldc2 hC dr_Lw_law_161 lc_Lw_62 ?_
      refine gx_land hC dr_Lw_law_164 ?_
      refine gx_lor hC dr_Lw_law_165 ?_
      refine gx_aload_n hC dr_Lw_law_166 rfl ?_
      refine gx_iload hC dr_Lw_law_167 rfl ?_
      refine gx_iconst (v := 4) hC dr_Lw_law_169 (by decide) ?_
      refine gx_iadd hC dr_Lw_law_170 ?_
      refine gx_sld hC hX dr_Lw_law_171 (la_ix hi hL 4 (by decide)) ?_
      refine gx_i2l hC dr_Lw_law_172 ?_
      refine gx_bipush (v := 32) hC dr_Lw_law_173 (by decide) ?_
      refine gx_lshl hC dr_Lw_law_175 ?_
      refine gx_aload_n hC dr_Lw_law_176 rfl ?_
      refine gx_iload hC dr_Lw_law_177 rfl ?_
      refine gx_iconst (v := 5) hC dr_Lw_law_179 (by decide) ?_
      refine gx_iadd hC dr_Lw_law_180 ?_
      refine gx_sld hC hX dr_Lw_law_181 (la_ix hi hL 5 (by decide)) ?_
      refine gx_i2l hC dr_Lw_law_182 ?_
      refine gx_ldc2 hC dr_Lw_law_183 lc_Lw_62 ?_
      refine gx_land hC dr_Lw_law_186 ?_
      refine gx_lor hC dr_Lw_law_187 ?_
      refine gx_aload_n hC dr_Lw_law_188 rfl ?_
      refine gx_iload hC dr_Lw_law_189 rfl ?_
      refine gx_bipush (v := 6) hC dr_Lw_law_191 (by decide) ?_
      refine gx_iadd hC dr_Lw_law_193 ?_
      refine gx_sld hC hX dr_Lw_law_194 (la_ix hi hL 6 (by decide)) ?_
      refine gx_aload_n hC dr_Lw_law_195 rfl ?_
      refine gx_sW hC dr_Lw_law_196 ly_64 (mw_pin_1 (X := W) (o := o) hfl f1) rfl (by decide) ⟨by decide, by decide⟩ ⟨by exact hk, by exact hn⟩ rfl (Nat.le_of_ble_eq_true rfl) (fun z c2 hp => ?_)
      obtain ⟨rfl, rfl⟩ := hp
      refine gx_istore hC dr_Lw_law_199 (by decide) ?_
      refine gx_aload_n hC dr_Lw_law_201 rfl ?_
      refine gx_aload_n hC dr_Lw_law_202 rfl ?_
      refine gx_iload hC dr_Lw_law_203 rfl ?_
      refine gx_iconst (v := 1) hC dr_Lw_law_205 (by decide) ?_
      refine gx_iadd hC dr_Lw_law_206 ?_
      refine gx_sld hC hX dr_Lw_law_207 (la_ix hi hL 1 (by decide)) ?_
      refine gx_aload_n hC dr_Lw_law_208 rfl ?_
      refine gx_iload hC dr_Lw_law_209 rfl ?_
      refine gx_iconst (v := 2) hC dr_Lw_law_211 (by decide) ?_
      refine gx_iadd hC dr_Lw_law_212 ?_
      refine gx_sld hC hX dr_Lw_law_213 (la_ix hi hL 2 (by decide)) ?_
      refine gx_i2l hC dr_Lw_law_214 ?_
      refine gx_bipush (v := 32) hC dr_Lw_law_215 (by decide) ?_
      refine gx_lshl hC dr_Lw_law_217 ?_
      refine gx_aload_n hC dr_Lw_law_218 rfl ?_
      refine gx_iload hC dr_Lw_law_219 rfl ?_
      refine gx_iconst (v := 3) hC dr_Lw_law_221 (by decide) ?_
      refine gx_iadd hC dr_Lw_law_222 ?_
      refine gx_sld hC hX dr_Lw_law_223 (la_ix hi hL 3 (by decide)) ?_
      refine gx_i2l hC dr_Lw_law_224 ?_
      refine gx_ldc2 hC dr_Lw_law_225 lc_Lw_62 ?_
      refine gx_land hC dr_Lw_law_228 ?_
      refine gx_lor hC dr_Lw_law_229 ?_
      refine gx_aload_n hC dr_Lw_law_230 rfl ?_
      refine gx_iload hC dr_Lw_law_231 rfl ?_
      refine gx_iconst (v := 4) hC dr_Lw_law_233 (by decide) ?_
      refine gx_iadd hC dr_Lw_law_234 ?_
      refine gx_sld hC hX dr_Lw_law_235 (la_ix hi hL 4 (by decide)) ?_
      refine gx_i2l hC dr_Lw_law_236 ?_
      refine gx_bipush (v := 32) hC dr_Lw_law_237 (by decide) ?_
      refine gx_lshl hC dr_Lw_law_239 ?_
      refine gx_aload_n hC dr_Lw_law_240 rfl ?_
      refine gx_iload hC dr_Lw_law_241 rfl ?_
      refine gx_iconst (v := 5) hC dr_Lw_law_243 (by decide) ?_
      refine gx_iadd hC dr_Lw_law_244 ?_
      refine gx_sld hC hX dr_Lw_law_245 (la_ix hi hL 5 (by decide)) ?_
      refine gx_i2l hC dr_Lw_law_246 ?_
      refine gx_ldc2 hC dr_Lw_law_247 lc_Lw_62 ?_
      refine gx_land hC dr_Lw_law_250 ?_
      refine gx_lor hC dr_Lw_law_251 ?_
      refine gx_aload_n hC dr_Lw_law_252 rfl ?_
      refine gx_iload hC dr_Lw_law_253 rfl ?_
      refine gx_bipush (v := 6) hC dr_Lw_law_255 (by decide) ?_
      refine gx_iadd hC dr_Lw_law_257 ?_
      refine gx_sld hC hX dr_Lw_law_258 (la_ix hi hL 6 (by decide)) ?_
      refine gx_vI hC dr_Lw_law_259 lk_Lw_69 (mt_Mo_pin (G := (M, o)) g1) rfl (by decide) ⟨by decide, by decide⟩ ⟨by exact hk, by exact hn⟩ (by decide) ⟨_, _, rfl⟩ rfl rfl (Nat.le_of_ble_eq_true rfl) (fun z c2 hp => ?_)
      obtain ⟨rfl, rfl⟩ := hp
      refine gx_istore hC dr_Lw_law_262 (by decide) ?_
      refine gx_aload_n hC dr_Lw_law_264 rfl ?_
      refine gx_vI hC dr_Lw_law_265 lk_Lw_70 (mt_Mo_thrown (G := (M, o)) (M := W2) rfl) rfl (by decide) ⟨by decide, by decide⟩ ⟨by exact hk, by exact hn⟩ (by decide) ⟨_, _, rfl⟩ rfl rfl (Nat.le_of_ble_eq_true rfl) (fun z c2 hp => ?_)
      obtain ⟨rfl, rfl⟩ := hp
      refine gx_iload hC dr_Lw_law_268 rfl ?_
      refine gx_icmp_eq (tgt := 275) hC dr_Lw_law_270 (by decide) (fun _ => ?_) (fun e => absurd f3 e)
      refine gx_iload hC dr_Lw_law_275 rfl ?_
      refine gx_if_ne (tgt := 292) hC dr_Lw_law_277 (by decide) (fun e => ?_) (fun e => absurd e (by decide))
      refine gx_goto (tgt := 1123) hC dr_Lw_law_292 (by decide) ?_
      refine gx_lv (la_L i) ⟨rfl, rfl, rfl, rfl, rfl, trivial⟩ ?_
      exact kk f4 (Nat.le_refl (k + 1)) (Nat.le_refl (n + 6))
    · refine gx_aload_n hC dr_Lw_law_137 rfl ?_
      refine gx_aload_n hC dr_Lw_law_138 rfl ?_
      refine gx_iload hC dr_Lw_law_139 rfl ?_
      refine gx_iconst (v := 1) hC dr_Lw_law_141 (by decide) ?_
      refine gx_iadd hC dr_Lw_law_142 ?_
      refine gx_sld hC hX dr_Lw_law_143 (la_ix hi hL 1 (by decide)) ?_
      refine gx_aload_n hC dr_Lw_law_144 rfl ?_
      refine gx_iload hC dr_Lw_law_145 rfl ?_
      refine gx_iconst (v := 2) hC dr_Lw_law_147 (by decide) ?_
      refine gx_iadd hC dr_Lw_law_148 ?_
      refine gx_sld hC hX dr_Lw_law_149 (la_ix hi hL 2 (by decide)) ?_
      refine gx_i2l hC dr_Lw_law_150 ?_
      refine gx_bipush (v := 32) hC dr_Lw_law_151 (by decide) ?_
      refine gx_lshl hC dr_Lw_law_153 ?_
      refine gx_aload_n hC dr_Lw_law_154 rfl ?_
      refine gx_iload hC dr_Lw_law_155 rfl ?_
      refine gx_iconst (v := 3) hC dr_Lw_law_157 (by decide) ?_
      refine gx_iadd hC dr_Lw_law_158 ?_
      refine gx_sld hC hX dr_Lw_law_159 (la_ix hi hL 3 (by decide)) ?_
      refine gx_i2l hC dr_Lw_law_160 ?_
      refine gx_ldc2 hC dr_Lw_law_161 lc_Lw_62 ?_
      refine gx_land hC dr_Lw_law_164 ?_
      refine gx_lor hC dr_Lw_law_165 ?_
      refine gx_aload_n hC dr_Lw_law_166 rfl ?_
      refine gx_iload hC dr_Lw_law_167 rfl ?_
      refine gx_iconst (v := 4) hC dr_Lw_law_169 (by decide) ?_
      refine gx_iadd hC dr_Lw_law_170 ?_
      refine gx_sld hC hX dr_Lw_law_171 (la_ix hi hL 4 (by decide)) ?_
      refine gx_i2l hC dr_Lw_law_172 ?_
      refine gx_bipush (v := 32) hC dr_Lw_law_173 (by decide) ?_
      refine gx_lshl hC dr_Lw_law_175 ?_
      refine gx_aload_n hC dr_Lw_law_176 rfl ?_
      refine gx_iload hC dr_Lw_law_177 rfl ?_
      refine gx_iconst (v := 5) hC dr_Lw_law_179 (by decide) ?_
      refine gx_iadd hC dr_Lw_law_180 ?_
      refine gx_sld hC hX dr_Lw_law_181 (la_ix hi hL 5 (by decide)) ?_
      refine gx_i2l hC dr_Lw_law_182 ?_
      refine gx_ldc2 hC dr_Lw_law_183 lc_Lw_62 ?_
      refine gx_land hC dr_Lw_law_186 ?_
      refine gx_lor hC dr_Lw_law_187 ?_
      refine gx_aload_n hC dr_Lw_law_188 rfl ?_
      refine gx_iload hC dr_Lw_law_189 rfl ?_
      refine gx_bipush (v := 6) hC dr_Lw_law_191 (by decide) ?_
      refine gx_iadd hC dr_Lw_law_193 ?_
      refine gx_sld hC hX dr_Lw_law_194 (la_ix hi hL 6 (by decide)) ?_
      refine gx_aload_n hC dr_Lw_law_195 rfl ?_
      refine gx_sW hC dr_Lw_law_196 ly_64 (mw_pin_2 (X := W) (o := o) hfl f1) rfl (by decide) ⟨by decide, by decide⟩ ⟨by exact hk, by exact hn⟩ rfl (Nat.le_of_ble_eq_true rfl) (fun z c2 hp => ?_)
      obtain ⟨rfl, rfl⟩ := hp
      refine gx_istore hC dr_Lw_law_199 (by decide) ?_
      refine gx_aload_n hC dr_Lw_law_201 rfl ?_
      refine gx_aload_n hC dr_Lw_law_202 rfl ?_
      refine gx_iload hC dr_Lw_law_203 rfl ?_
      refine gx_iconst (v := 1) hC dr_Lw_law_205 (by decide) ?_
      refine gx_iadd hC dr_Lw_law_206 ?_
      refine gx_sld hC hX dr_Lw_law_207 (la_ix hi hL 1 (by decide)) ?_
      refine gx_aload_n hC dr_Lw_law_208 rfl ?_
      refine gx_iload hC dr_Lw_law_209 rfl ?_
      refine gx_iconst (v := 2) hC dr_Lw_law_211 (by decide) ?_
      refine gx_iadd hC dr_Lw_law_212 ?_
      refine gx_sld hC hX dr_Lw_law_213 (la_ix hi hL 2 (by decide)) ?_
      refine gx_i2l hC dr_Lw_law_214 ?_
      refine gx_bipush (v := 32) hC dr_Lw_law_215 (by decide) ?_
      refine gx_lshl hC dr_Lw_law_217 ?_
      refine gx_aload_n hC dr_Lw_law_218 rfl ?_
      refine gx_iload hC dr_Lw_law_219 rfl ?_
      refine gx_iconst (v := 3) hC dr_Lw_law_221 (by decide) ?_
      refine gx_iadd hC dr_Lw_law_222 ?_
      refine gx_sld hC hX dr_Lw_law_223 (la_ix hi hL 3 (by decide)) ?_
      refine gx_i2l hC dr_Lw_law_224 ?_
      refine gx_ldc2 hC dr_Lw_law_225 lc_Lw_62 ?_
      refine gx_land hC dr_Lw_law_228 ?_
      refine gx_lor hC dr_Lw_law_229 ?_
      refine gx_aload_n hC dr_Lw_law_230 rfl ?_
      refine gx_iload hC dr_Lw_law_231 rfl ?_
      refine gx_iconst (v := 4) hC dr_Lw_law_233 (by decide) ?_
      refine gx_iadd hC dr_Lw_law_234 ?_
      refine gx_sld hC hX dr_Lw_law_235 (la_ix hi hL 4 (by decide)) ?_
      refine gx_i2l hC dr_Lw_law_236 ?_
      refine gx_bipush (v := 32) hC dr_Lw_law_237 (by decide) ?_
      refine gx_lshl hC dr_Lw_law_239 ?_
      refine gx_aload_n hC dr_Lw_law_240 rfl ?_
      refine gx_iload hC dr_Lw_law_241 rfl ?_
      refine gx_iconst (v := 5) hC dr_Lw_law_243 (by decide) ?_
      refine gx_iadd hC dr_Lw_law_244 ?_
      refine gx_sld hC hX dr_Lw_law_245 (la_ix hi hL 5 (by decide)) ?_
      refine gx_i2l hC dr_Lw_law_246 ?_
      refine gx_ldc2 hC dr_Lw_law_247 lc_Lw_62 ?_
      refine gx_land hC dr_Lw_law_250 ?_
      refine gx_lor hC dr_Lw_law_251 ?_
      refine gx_aload_n hC dr_Lw_law_252 rfl ?_
      refine gx_iload hC dr_Lw_law_253 rfl ?_
      refine gx_bipush (v := 6) hC dr_Lw_law_255 (by decide) ?_
      refine gx_iadd hC dr_Lw_law_257 ?_
      refine gx_sld hC hX dr_Lw_law_258 (la_ix hi hL 6 (by decide)) ?_
      refine gx_vI hC dr_Lw_law_259 lk_Lw_69 (mt_Mo_pin (G := (M, o)) g1) rfl (by decide) ⟨by decide, by decide⟩ ⟨by exact hk, by exact hn⟩ (by decide) ⟨_, _, rfl⟩ rfl rfl (Nat.le_of_ble_eq_true rfl) (fun z c2 hp => ?_)
      obtain ⟨rfl, rfl⟩ := hp
      refine gx_istore hC dr_Lw_law_262 (by decide) ?_
      refine gx_aload_n hC dr_Lw_law_264 rfl ?_
      refine gx_vI hC dr_Lw_law_265 lk_Lw_70 (mt_Mo_thrown (G := (M, o)) (M := W2) rfl) rfl (by decide) ⟨by decide, by decide⟩ ⟨by exact hk, by exact hn⟩ (by decide) ⟨_, _, rfl⟩ rfl rfl (Nat.le_of_ble_eq_true rfl) (fun z c2 hp => ?_)
      obtain ⟨rfl, rfl⟩ := hp
      refine gx_iload hC dr_Lw_law_268 rfl ?_
      refine gx_icmp_eq (tgt := 275) hC dr_Lw_law_270 (by decide) (fun _ => ?_) (fun e => absurd f3 e)
      refine gx_iload hC dr_Lw_law_275 rfl ?_
      refine gx_if_ne (tgt := 292) hC dr_Lw_law_277 (by decide) (fun e => ?_) (fun e => absurd e (by decide))
      refine gx_goto (tgt := 1123) hC dr_Lw_law_292 (by decide) ?_
      refine gx_lv (la_L i) ⟨rfl, rfl, rfl, rfl, rfl, trivial⟩ ?_
      exact kk f4 (Nat.le_refl (k + 1)) (Nat.le_refl (n + 6))
  · refine gx_aload_n hC dr_Lw_law_137 rfl ?_
    refine gx_aload_n hC dr_Lw_law_138 rfl ?_
    refine gx_iload hC dr_Lw_law_139 rfl ?_
    refine gx_iconst (v := 1) hC dr_Lw_law_141 (by decide) ?_
    refine gx_iadd hC dr_Lw_law_142 ?_
    refine gx_sld hC hX dr_Lw_law_143 (la_ix hi hL 1 (by decide)) ?_
    refine gx_aload_n hC dr_Lw_law_144 rfl ?_
    refine gx_iload hC dr_Lw_law_145 rfl ?_
    refine gx_iconst (v := 2) hC dr_Lw_law_147 (by decide) ?_
    refine gx_iadd hC dr_Lw_law_148 ?_
    refine gx_sld hC hX dr_Lw_law_149 (la_ix hi hL 2 (by decide)) ?_
    refine gx_i2l hC dr_Lw_law_150 ?_
    refine gx_bipush (v := 32) hC dr_Lw_law_151 (by decide) ?_
    refine gx_lshl hC dr_Lw_law_153 ?_
    refine gx_aload_n hC dr_Lw_law_154 rfl ?_
    refine gx_iload hC dr_Lw_law_155 rfl ?_
    refine gx_iconst (v := 3) hC dr_Lw_law_157 (by decide) ?_
    refine gx_iadd hC dr_Lw_law_158 ?_
    refine gx_sld hC hX dr_Lw_law_159 (la_ix hi hL 3 (by decide)) ?_
    refine gx_i2l hC dr_Lw_law_160 ?_
    refine gx_ldc2 hC dr_Lw_law_161 lc_Lw_62 ?_
    refine gx_land hC dr_Lw_law_164 ?_
    refine gx_lor hC dr_Lw_law_165 ?_
    refine gx_aload_n hC dr_Lw_law_166 rfl ?_
    refine gx_iload hC dr_Lw_law_167 rfl ?_
    refine gx_iconst (v := 4) hC dr_Lw_law_169 (by decide) ?_
    refine gx_iadd hC dr_Lw_law_170 ?_
    refine gx_sld hC hX dr_Lw_law_171 (la_ix hi hL 4 (by decide)) ?_
    refine gx_i2l hC dr_Lw_law_172 ?_
    refine gx_bipush (v := 32) hC dr_Lw_law_173 (by decide) ?_
    refine gx_lshl hC dr_Lw_law_175 ?_
    refine gx_aload_n hC dr_Lw_law_176 rfl ?_
    refine gx_iload hC dr_Lw_law_177 rfl ?_
    refine gx_iconst (v := 5) hC dr_Lw_law_179 (by decide) ?_
    refine gx_iadd hC dr_Lw_law_180 ?_
    refine gx_sld hC hX dr_Lw_law_181 (la_ix hi hL 5 (by decide)) ?_
    refine gx_i2l hC dr_Lw_law_182 ?_
    refine gx_ldc2 hC dr_Lw_law_183 lc_Lw_62 ?_
    refine gx_land hC dr_Lw_law_186 ?_
    refine gx_lor hC dr_Lw_law_187 ?_
    refine gx_aload_n hC dr_Lw_law_188 rfl ?_
    refine gx_iload hC dr_Lw_law_189 rfl ?_
    refine gx_bipush (v := 6) hC dr_Lw_law_191 (by decide) ?_
    refine gx_iadd hC dr_Lw_law_193 ?_
    refine gx_sld hC hX dr_Lw_law_194 (la_ix hi hL 6 (by decide)) ?_
    refine gx_aload_n hC dr_Lw_law_195 rfl ?_
    refine gx_sW hC dr_Lw_law_196 ly_64 (mw_pin_r (X := W) (o := o) f1) rfl (by decide) ⟨by decide, by decide⟩ ⟨by exact hk, by exact hn⟩ rfl (Nat.le_of_ble_eq_true rfl) (fun z c2 hp => ?_)
    obtain ⟨rfl, rfl⟩ := hp
    have q9 : gz_ul o (0 : Int32).toInt (b, M2).1.toInt64 (0 : Int32).toInt = (b, M2).1.toInt64 := gz_uls _ _ _
    generalize gz_ul o (0 : Int32).toInt (b, M2).1.toInt64 = o2 at q9 ⊢
    refine gx_istore hC dr_Lw_law_199 (by decide) ?_
    refine gx_aload_n hC dr_Lw_law_201 rfl ?_
    refine gx_aload_n hC dr_Lw_law_202 rfl ?_
    refine gx_iload hC dr_Lw_law_203 rfl ?_
    refine gx_iconst (v := 1) hC dr_Lw_law_205 (by decide) ?_
    refine gx_iadd hC dr_Lw_law_206 ?_
    refine gx_sld hC hX dr_Lw_law_207 (la_ix hi hL 1 (by decide)) ?_
    refine gx_aload_n hC dr_Lw_law_208 rfl ?_
    refine gx_iload hC dr_Lw_law_209 rfl ?_
    refine gx_iconst (v := 2) hC dr_Lw_law_211 (by decide) ?_
    refine gx_iadd hC dr_Lw_law_212 ?_
    refine gx_sld hC hX dr_Lw_law_213 (la_ix hi hL 2 (by decide)) ?_
    refine gx_i2l hC dr_Lw_law_214 ?_
    refine gx_bipush (v := 32) hC dr_Lw_law_215 (by decide) ?_
    refine gx_lshl hC dr_Lw_law_217 ?_
    refine gx_aload_n hC dr_Lw_law_218 rfl ?_
    refine gx_iload hC dr_Lw_law_219 rfl ?_
    refine gx_iconst (v := 3) hC dr_Lw_law_221 (by decide) ?_
    refine gx_iadd hC dr_Lw_law_222 ?_
    refine gx_sld hC hX dr_Lw_law_223 (la_ix hi hL 3 (by decide)) ?_
    refine gx_i2l hC dr_Lw_law_224 ?_
    refine gx_ldc2 hC dr_Lw_law_225 lc_Lw_62 ?_
    refine gx_land hC dr_Lw_law_228 ?_
    refine gx_lor hC dr_Lw_law_229 ?_
    refine gx_aload_n hC dr_Lw_law_230 rfl ?_
    refine gx_iload hC dr_Lw_law_231 rfl ?_
    refine gx_iconst (v := 4) hC dr_Lw_law_233 (by decide) ?_
    refine gx_iadd hC dr_Lw_law_234 ?_
    refine gx_sld hC hX dr_Lw_law_235 (la_ix hi hL 4 (by decide)) ?_
    refine gx_i2l hC dr_Lw_law_236 ?_
    refine gx_bipush (v := 32) hC dr_Lw_law_237 (by decide) ?_
    refine gx_lshl hC dr_Lw_law_239 ?_
    refine gx_aload_n hC dr_Lw_law_240 rfl ?_
    refine gx_iload hC dr_Lw_law_241 rfl ?_
    refine gx_iconst (v := 5) hC dr_Lw_law_243 (by decide) ?_
    refine gx_iadd hC dr_Lw_law_244 ?_
    refine gx_sld hC hX dr_Lw_law_245 (la_ix hi hL 5 (by decide)) ?_
    refine gx_i2l hC dr_Lw_law_246 ?_
    refine gx_ldc2 hC dr_Lw_law_247 lc_Lw_62 ?_
    refine gx_land hC dr_Lw_law_250 ?_
    refine gx_lor hC dr_Lw_law_251 ?_
    refine gx_aload_n hC dr_Lw_law_252 rfl ?_
    refine gx_iload hC dr_Lw_law_253 rfl ?_
    refine gx_bipush (v := 6) hC dr_Lw_law_255 (by decide) ?_
    refine gx_iadd hC dr_Lw_law_257 ?_
    refine gx_sld hC hX dr_Lw_law_258 (la_ix hi hL 6 (by decide)) ?_
    refine gx_vI hC dr_Lw_law_259 lk_Lw_69 (mt_Mo_pin (G := (M2, o2)) g1) rfl (by decide) ⟨by decide, by decide⟩ ⟨by exact hk, by exact hn⟩ (by decide) ⟨_, _, rfl⟩ rfl rfl (Nat.le_of_ble_eq_true rfl) (fun z c2 hp => ?_)
    obtain ⟨rfl, rfl⟩ := hp
    refine gx_istore hC dr_Lw_law_262 (by decide) ?_
    refine gx_aload_n hC dr_Lw_law_264 rfl ?_
    refine gx_vI hC dr_Lw_law_265 lk_Lw_70 (mt_Mo_thrown (G := (M2, o2)) (M := W2) rfl) rfl (by decide) ⟨by decide, by decide⟩ ⟨by exact hk, by exact hn⟩ (by decide) ⟨_, _, rfl⟩ rfl rfl (Nat.le_of_ble_eq_true rfl) (fun z c2 hp => ?_)
    obtain ⟨rfl, rfl⟩ := hp
    refine gx_iload hC dr_Lw_law_268 rfl ?_
    refine gx_icmp_eq (tgt := 275) hC dr_Lw_law_270 (by decide) (fun _ => ?_) (fun e => absurd f3 e)
    refine gx_iload hC dr_Lw_law_275 rfl ?_
    refine gx_if_ne (tgt := 292) hC dr_Lw_law_277 (by decide) (fun e => absurd rfl e) (fun e => ?_)
    refine gx_aload_n hC dr_Lw_law_280 rfl ?_
    refine gx_iconst (v := 0) hC dr_Lw_law_281 (by decide) ?_
    refine gx_lald (o := 80) hC dr_Lw_law_282 (by decide) rfl (by decide) ?_
    refine gx_iload hC dr_Lw_law_283 rfl ?_
    refine gx_i2l hC dr_Lw_law_285 ?_
    refine gx_lcmp_eq (tgt := 292) hC dr_Lw_law_286 dr_Lw_law_287 (by decide) (fun _ => ?_) (fun e => absurd q9 e)
    refine gx_goto (tgt := 1123) hC dr_Lw_law_292 (by decide) ?_
    refine gx_lv (la_L i) ⟨rfl, rfl, rfl, rfl, rfl, trivial⟩ ?_
    exact kk f4 (Nat.le_refl (k + 1)) (Nat.le_refl (n + 6))
set_option maxHeartbeats 1000000 in
theorem cs_target {x : gx_X} {L : Nat} {xs : Nat → Int32} (hC : gw_C 81 81 "PinSwapsLaw" bc_Lw_law 8 x) (hX : gs_X L xs x) (hfl : (gx_l x).flags = pinnedFlags ++ [noTraceFlag]) {M W : gq_M} {o : Int → Int64} (hR : rl_R M W) {i k n : Nat} (hi : i + 7 ≤ L) (hL : L ≤ 3584) (hk : k + 1 ≤ room_1.cells) (hn : n + 6 ≤ room_1.slots) (kk : la_K x i k n) : gw_G 81 8 room_1 x k n (ca_A (M, W, o)) 295 (la_L i) [] := by
  obtain ⟨b, W2, g1, g2⟩ := op_target hR (xs (nI i + 1).toInt.toNat) (((((xs (nI i + 2).toInt.toNat) : Int32).toInt64 <<< ((32 : Int32).toInt64 &&& 63)) ||| (((xs (nI i + 3).toInt.toNat) : Int32).toInt64 &&& 4294967295)) : Int64) (((((xs (nI i + 4).toInt.toNat) : Int32).toInt64 <<< ((32 : Int32).toInt64 &&& 63)) ||| (((xs (nI i + 5).toInt.toNat) : Int32).toInt64 &&& 4294967295)) : Int64)
  rcases g2 with ⟨kd, f1, f2, f3, f4⟩ | ⟨M2, f1, f3, f4⟩
  · rcases f2 with rfl | rfl
    · refine gx_aload_n hC dr_Lw_law_295 rfl ?_
      refine gx_aload_n hC dr_Lw_law_296 rfl ?_
      refine gx_iload hC dr_Lw_law_297 rfl ?_
      refine gx_iconst (v := 1) hC dr_Lw_law_299 (by decide) ?_
      refine gx_iadd hC dr_Lw_law_300 ?_
      refine gx_sld hC hX dr_Lw_law_301 (la_ix hi hL 1 (by decide)) ?_
      refine gx_aload_n hC dr_Lw_law_302 rfl ?_
      refine gx_iload hC dr_Lw_law_303 rfl ?_
      refine gx_iconst (v := 2) hC dr_Lw_law_305 (by decide) ?_
      refine gx_iadd hC dr_Lw_law_306 ?_
      refine gx_sld hC hX dr_Lw_law_307 (la_ix hi hL 2 (by decide)) ?_
      refine gx_i2l hC dr_Lw_law_308 ?_
      refine gx_bipush (v := 32) hC dr_Lw_law_309 (by decide) ?_
      refine gx_lshl hC dr_Lw_law_311 ?_
      refine gx_aload_n hC dr_Lw_law_312 rfl ?_
      refine gx_iload hC dr_Lw_law_313 rfl ?_
      refine gx_iconst (v := 3) hC dr_Lw_law_315 (by decide) ?_
      refine gx_iadd hC dr_Lw_law_316 ?_
      refine gx_sld hC hX dr_Lw_law_317 (la_ix hi hL 3 (by decide)) ?_
      refine gx_i2l hC dr_Lw_law_318 ?_
      refine gx_ldc2 hC dr_Lw_law_319 lc_Lw_62 ?_
      refine gx_land hC dr_Lw_law_322 ?_
      refine gx_lor hC dr_Lw_law_323 ?_
      refine gx_aload_n hC dr_Lw_law_324 rfl ?_
      refine gx_iload hC dr_Lw_law_325 rfl ?_
      refine gx_iconst (v := 4) hC dr_Lw_law_327 (by decide) ?_
      refine gx_iadd hC dr_Lw_law_328 ?_
      refine gx_sld hC hX dr_Lw_law_329 (la_ix hi hL 4 (by decide)) ?_
      refine gx_i2l hC dr_Lw_law_330 ?_
      refine gx_bipush (v := 32) hC dr_Lw_law_331 (by decide) ?_
      refine gx_lshl hC dr_Lw_law_333 ?_
      refine gx_aload_n hC dr_Lw_law_334 rfl ?_
      refine gx_iload hC dr_Lw_law_335 rfl ?_
      refine gx_iconst (v := 5) hC dr_Lw_law_337 (by decide) ?_
      refine gx_iadd hC dr_Lw_law_338 ?_
      refine gx_sld hC hX dr_Lw_law_339 (la_ix hi hL 5 (by decide)) ?_
      refine gx_i2l hC dr_Lw_law_340 ?_
      refine gx_ldc2 hC dr_Lw_law_341 lc_Lw_62 ?_
      refine gx_land hC dr_Lw_law_344 ?_
      refine gx_lor hC dr_Lw_law_345 ?_
      refine gx_aload_n hC dr_Lw_law_346 rfl ?_
      refine gx_sW hC dr_Lw_law_347 ly_73 (mw_target_1 (X := W) (o := o) hfl f1) rfl (by decide) ⟨by decide, by decide⟩ ⟨by exact hk, by exact hn⟩ rfl (Nat.le_of_ble_eq_true rfl) (fun z c2 hp => ?_)
      obtain ⟨rfl, rfl⟩ := hp
      refine gx_istore hC dr_Lw_law_350 (by decide) ?_
      refine gx_aload_n hC dr_Lw_law_352 rfl ?_
      refine gx_aload_n hC dr_Lw_law_353 rfl ?_
      refine gx_iload hC dr_Lw_law_354 rfl ?_
      refine gx_iconst (v := 1) hC dr_Lw_law_356 (by decide) ?_
      refine gx_iadd hC dr_Lw_law_357 ?_
      refine gx_sld hC hX dr_Lw_law_358 (la_ix hi hL 1 (by decide)) ?_
      refine gx_aload_n hC dr_Lw_law_359 rfl ?_
      refine gx_iload hC dr_Lw_law_360 rfl ?_
      refine gx_iconst (v := 2) hC dr_Lw_law_362 (by decide) ?_
      refine gx_iadd hC dr_Lw_law_363 ?_
      refine gx_sld hC hX dr_Lw_law_364 (la_ix hi hL 2 (by decide)) ?_
      refine gx_i2l hC dr_Lw_law_365 ?_
      refine gx_bipush (v := 32) hC dr_Lw_law_366 (by decide) ?_
      refine gx_lshl hC dr_Lw_law_368 ?_
      refine gx_aload_n hC dr_Lw_law_369 rfl ?_
      refine gx_iload hC dr_Lw_law_370 rfl ?_
      refine gx_iconst (v := 3) hC dr_Lw_law_372 (by decide) ?_
      refine gx_iadd hC dr_Lw_law_373 ?_
      refine gx_sld hC hX dr_Lw_law_374 (la_ix hi hL 3 (by decide)) ?_
      refine gx_i2l hC dr_Lw_law_375 ?_
      refine gx_ldc2 hC dr_Lw_law_376 lc_Lw_62 ?_
      refine gx_land hC dr_Lw_law_379 ?_
      refine gx_lor hC dr_Lw_law_380 ?_
      refine gx_aload_n hC dr_Lw_law_381 rfl ?_
      refine gx_iload hC dr_Lw_law_382 rfl ?_
      refine gx_iconst (v := 4) hC dr_Lw_law_384 (by decide) ?_
      refine gx_iadd hC dr_Lw_law_385 ?_
      refine gx_sld hC hX dr_Lw_law_386 (la_ix hi hL 4 (by decide)) ?_
      refine gx_i2l hC dr_Lw_law_387 ?_
      refine gx_bipush (v := 32) hC dr_Lw_law_388 (by decide) ?_
      refine gx_lshl hC dr_Lw_law_390 ?_
      refine gx_aload_n hC dr_Lw_law_391 rfl ?_
      refine gx_iload hC dr_Lw_law_392 rfl ?_
      refine gx_iconst (v := 5) hC dr_Lw_law_394 (by decide) ?_
      refine gx_iadd hC dr_Lw_law_395 ?_
      refine gx_sld hC hX dr_Lw_law_396 (la_ix hi hL 5 (by decide)) ?_
      refine gx_i2l hC dr_Lw_law_397 ?_
      refine gx_ldc2 hC dr_Lw_law_398 lc_Lw_62 ?_
      refine gx_land hC dr_Lw_law_401 ?_
      refine gx_lor hC dr_Lw_law_402 ?_
      refine gx_vI hC dr_Lw_law_403 lk_Lw_76 (mt_Mo_target (G := (M, o)) g1) rfl (by decide) ⟨by decide, by decide⟩ ⟨by exact hk, by exact hn⟩ (by decide) ⟨_, _, rfl⟩ rfl rfl (Nat.le_of_ble_eq_true rfl) (fun z c2 hp => ?_)
      obtain ⟨rfl, rfl⟩ := hp
      refine gx_istore hC dr_Lw_law_406 (by decide) ?_
      refine gx_aload_n hC dr_Lw_law_408 rfl ?_
      refine gx_vI hC dr_Lw_law_409 lk_Lw_70 (mt_Mo_thrown (G := (M, o)) (M := W2) rfl) rfl (by decide) ⟨by decide, by decide⟩ ⟨by exact hk, by exact hn⟩ (by decide) ⟨_, _, rfl⟩ rfl rfl (Nat.le_of_ble_eq_true rfl) (fun z c2 hp => ?_)
      obtain ⟨rfl, rfl⟩ := hp
      refine gx_iload hC dr_Lw_law_412 rfl ?_
      refine gx_icmp_eq (tgt := 419) hC dr_Lw_law_414 (by decide) (fun _ => ?_) (fun e => absurd f3 e)
      refine gx_iload hC dr_Lw_law_419 rfl ?_
      refine gx_if_ne (tgt := 443) hC dr_Lw_law_421 (by decide) (fun e => ?_) (fun e => absurd e (by decide))
      refine gx_goto (tgt := 1123) hC dr_Lw_law_443 (by decide) ?_
      refine gx_lv (la_L i) ⟨rfl, rfl, rfl, rfl, rfl, trivial⟩ ?_
      exact kk f4 (Nat.le_refl (k + 1)) (Nat.le_refl (n + 6))
    · refine gx_aload_n hC dr_Lw_law_295 rfl ?_
      refine gx_aload_n hC dr_Lw_law_296 rfl ?_
      refine gx_iload hC dr_Lw_law_297 rfl ?_
      refine gx_iconst (v := 1) hC dr_Lw_law_299 (by decide) ?_
      refine gx_iadd hC dr_Lw_law_300 ?_
      refine gx_sld hC hX dr_Lw_law_301 (la_ix hi hL 1 (by decide)) ?_
      refine gx_aload_n hC dr_Lw_law_302 rfl ?_
      refine gx_iload hC dr_Lw_law_303 rfl ?_
      refine gx_iconst (v := 2) hC dr_Lw_law_305 (by decide) ?_
      refine gx_iadd hC dr_Lw_law_306 ?_
      refine gx_sld hC hX dr_Lw_law_307 (la_ix hi hL 2 (by decide)) ?_
      refine gx_i2l hC dr_Lw_law_308 ?_
      refine gx_bipush (v := 32) hC dr_Lw_law_309 (by decide) ?_
      refine gx_lshl hC dr_Lw_law_311 ?_
      refine gx_aload_n hC dr_Lw_law_312 rfl ?_
      refine gx_iload hC dr_Lw_law_313 rfl ?_
      refine gx_iconst (v := 3) hC dr_Lw_law_315 (by decide) ?_
      refine gx_iadd hC dr_Lw_law_316 ?_
      refine gx_sld hC hX dr_Lw_law_317 (la_ix hi hL 3 (by decide)) ?_
      refine gx_i2l hC dr_Lw_law_318 ?_
      refine gx_ldc2 hC dr_Lw_law_319 lc_Lw_62 ?_
      refine gx_land hC dr_Lw_law_322 ?_
      refine gx_lor hC dr_Lw_law_323 ?_
      refine gx_aload_n hC dr_Lw_law_324 rfl ?_
      refine gx_iload hC dr_Lw_law_325 rfl ?_
      refine gx_iconst (v := 4) hC dr_Lw_law_327 (by decide) ?_
      refine gx_iadd hC dr_Lw_law_328 ?_
      refine gx_sld hC hX dr_Lw_law_329 (la_ix hi hL 4 (by decide)) ?_
      refine gx_i2l hC dr_Lw_law_330 ?_
      refine gx_bipush (v := 32) hC dr_Lw_law_331 (by decide) ?_
      refine gx_lshl hC dr_Lw_law_333 ?_
      refine gx_aload_n hC dr_Lw_law_334 rfl ?_
      refine gx_iload hC dr_Lw_law_335 rfl ?_
      refine gx_iconst (v := 5) hC dr_Lw_law_337 (by decide) ?_
      refine gx_iadd hC dr_Lw_law_338 ?_
      refine gx_sld hC hX dr_Lw_law_339 (la_ix hi hL 5 (by decide)) ?_
      refine gx_i2l hC dr_Lw_law_340 ?_
      refine gx_ldc2 hC dr_Lw_law_341 lc_Lw_62 ?_
      refine gx_land hC dr_Lw_law_344 ?_
      refine gx_lor hC dr_Lw_law_345 ?_
      refine gx_aload_n hC dr_Lw_law_346 rfl ?_
      refine gx_sW hC dr_Lw_law_347 ly_73 (mw_target_2 (X := W) (o := o) hfl f1) rfl (by decide) ⟨by decide, by decide⟩ ⟨by exact hk, by exact hn⟩ rfl (Nat.le_of_ble_eq_true rfl) (fun z c2 hp => ?_)
      obtain ⟨rfl, rfl⟩ := hp
      refine gx_istore hC dr_Lw_law_350 (by decide) ?_
      refine gx_aload_n hC dr_Lw_law_352 rfl ?_
      refine gx_aload_n hC dr_Lw_law_353 rfl ?_
      refine gx_iload hC dr_Lw_law_354 rfl ?_
      refine gx_iconst (v := 1) hC dr_Lw_law_356 (by decide) ?_
      refine gx_iadd hC dr_Lw_law_357 ?_
      refine gx_sld hC hX dr_Lw_law_358 (la_ix hi hL 1 (by decide)) ?_
      refine gx_aload_n hC dr_Lw_law_359 rfl ?_
      refine gx_iload hC dr_Lw_law_360 rfl ?_
      refine gx_iconst (v := 2) hC dr_Lw_law_362 (by decide) ?_
      refine gx_iadd hC dr_Lw_law_363 ?_
      refine gx_sld hC hX dr_Lw_law_364 (la_ix hi hL 2 (by decide)) ?_
      refine gx_i2l hC dr_Lw_law_365 ?_
      refine gx_bipush (v := 32) hC dr_Lw_law_366 (by decide) ?_
      refine gx_lshl hC dr_Lw_law_368 ?_
      refine gx_aload_n hC dr_Lw_law_369 rfl ?_
      refine gx_iload hC dr_Lw_law_370 rfl ?_
      refine gx_iconst (v := 3) hC dr_Lw_law_372 (by decide) ?_
      refine gx_iadd hC dr_Lw_law_373 ?_
      refine gx_sld hC hX dr_Lw_law_374 (la_ix hi hL 3 (by decide)) ?_
      refine gx_i2l hC dr_Lw_law_375 ?_
      refine gx_ldc2 hC dr_Lw_law_376 lc_Lw_62 ?_
      refine gx_land hC dr_Lw_law_379 ?_
      refine gx_lor hC dr_Lw_law_380 ?_
      refine gx_aload_n hC dr_Lw_law_381 rfl ?_
      refine gx_iload hC dr_Lw_law_382 rfl ?_
      refine gx_iconst (v := 4) hC dr_Lw_law_384 (by decide) ?_
      refine gx_iadd hC dr_Lw_law_385 ?_
      refine gx_sld hC hX dr_Lw_law_386 (la_ix hi hL 4 (by decide)) ?_
      refine gx_i2l hC dr_Lw_law_387 ?_
      refine gx_bipush (v := 32) hC dr_Lw_law_388 (by decide) ?_
      refine gx_lshl hC dr_Lw_law_390 ?_
      refine gx_aload_n hC dr_Lw_law_391 rfl ?_
      refine gx_iload hC dr_Lw_law_392 rfl ?_
      refine gx_iconst (v := 5) hC dr_Lw_law_394 (by decide) ?_
      refine gx_iadd hC dr_Lw_law_395 ?_
      refine gx_sld hC hX dr_Lw_law_396 (la_ix hi hL 5 (by decide)) ?_
      refine gx_i2l hC dr_Lw_law_397 ?_
      refine gx_ldc2 hC dr_Lw_law_398 lc_Lw_62 ?_
      refine gx_land hC dr_Lw_law_401 ?_
      refine gx_lor hC dr_Lw_law_402 ?_
      refine gx_vI hC dr_Lw_law_403 lk_Lw_76 (mt_Mo_target (G := (M, o)) g1) rfl (by decide) ⟨by decide, by decide⟩ ⟨by exact hk, by exact hn⟩ (by decide) ⟨_, _, rfl⟩ rfl rfl (Nat.le_of_ble_eq_true rfl) (fun z c2 hp => ?_)
      obtain ⟨rfl, rfl⟩ := hp
      refine gx_istore hC dr_Lw_law_406 (by decide) ?_
      refine gx_aload_n hC dr_Lw_law_408 rfl ?_
      refine gx_vI hC dr_Lw_law_409 lk_Lw_70 (mt_Mo_thrown (G := (M, o)) (M := W2) rfl) rfl (by decide) ⟨by decide, by decide⟩ ⟨by exact hk, by exact hn⟩ (by decide) ⟨_, _, rfl⟩ rfl rfl (Nat.le_of_ble_eq_true rfl) (fun z c2 hp => ?_)
      obtain ⟨rfl, rfl⟩ := hp
      refine gx_iload hC dr_Lw_law_412 rfl ?_
      refine gx_icmp_eq (tgt := 419) hC dr_Lw_law_414 (by decide) (fun _ => ?_) (fun e => absurd f3 e)
      refine gx_iload hC dr_Lw_law_419 rfl ?_
      refine gx_if_ne (tgt := 443) hC dr_Lw_law_421 (by decide) (fun e => ?_) (fun e => absurd e (by decide))
      refine gx_goto (tgt := 1123) hC dr_Lw_law_443 (by decide) ?_
      refine gx_lv (la_L i) ⟨rfl, rfl, rfl, rfl, rfl, trivial⟩ ?_
      exact kk f4 (Nat.le_refl (k + 1)) (Nat.le_refl (n + 6))
  · refine gx_aload_n hC dr_Lw_law_295 rfl ?_
    refine gx_aload_n hC dr_Lw_law_296 rfl ?_
    refine gx_iload hC dr_Lw_law_297 rfl ?_
    refine gx_iconst (v := 1) hC dr_Lw_law_299 (by decide) ?_
    refine gx_iadd hC dr_Lw_law_300 ?_
    refine gx_sld hC hX dr_Lw_law_301 (la_ix hi hL 1 (by decide)) ?_
    refine gx_aload_n hC dr_Lw_law_302 rfl ?_
    refine gx_iload hC dr_Lw_law_303 rfl ?_
    refine gx_iconst (v := 2) hC dr_Lw_law_305 (by decide) ?_
    refine gx_iadd hC dr_Lw_law_306 ?_
    refine gx_sld hC hX dr_Lw_law_307 (la_ix hi hL 2 (by decide)) ?_
    refine gx_i2l hC dr_Lw_law_308 ?_
    refine gx_bipush (v := 32) hC dr_Lw_law_309 (by decide) ?_
    refine gx_lshl hC dr_Lw_law_311 ?_
    refine gx_aload_n hC dr_Lw_law_312 rfl ?_
    refine gx_iload hC dr_Lw_law_313 rfl ?_
    refine gx_iconst (v := 3) hC dr_Lw_law_315 (by decide) ?_
    refine gx_iadd hC dr_Lw_law_316 ?_
    refine gx_sld hC hX dr_Lw_law_317 (la_ix hi hL 3 (by decide)) ?_
    refine gx_i2l hC dr_Lw_law_318 ?_
    refine gx_ldc2 hC dr_Lw_law_319 lc_Lw_62 ?_
    refine gx_land hC dr_Lw_law_322 ?_
    refine gx_lor hC dr_Lw_law_323 ?_
    refine gx_aload_n hC dr_Lw_law_324 rfl ?_
    refine gx_iload hC dr_Lw_law_325 rfl ?_
    refine gx_iconst (v := 4) hC dr_Lw_law_327 (by decide) ?_
    refine gx_iadd hC dr_Lw_law_328 ?_
    refine gx_sld hC hX dr_Lw_law_329 (la_ix hi hL 4 (by decide)) ?_
    refine gx_i2l hC dr_Lw_law_330 ?_
    refine gx_bipush (v := 32) hC dr_Lw_law_331 (by decide) ?_
    refine gx_lshl hC dr_Lw_law_333 ?_
    refine gx_aload_n hC dr_Lw_law_334 rfl ?_
    refine gx_iload hC dr_Lw_law_335 rfl ?_
    refine gx_iconst (v := 5) hC dr_Lw_law_337 (by decide) ?_
    refine gx_iadd hC dr_Lw_law_338 ?_
    refine gx_sld hC hX dr_Lw_law_339 (la_ix hi hL 5 (by decide)) ?_
    refine gx_i2l hC dr_Lw_law_340 ?_
    refine gx_ldc2 hC dr_Lw_law_341 lc_Lw_62 ?_
    refine gx_land hC dr_Lw_law_344 ?_
    refine gx_lor hC dr_Lw_law_345 ?_
    refine gx_aload_n hC dr_Lw_law_346 rfl ?_
    refine gx_sW hC dr_Lw_law_347 ly_73 (mw_target_r (X := W) (o := o) f1) rfl (by decide) ⟨by decide, by decide⟩ ⟨by exact hk, by exact hn⟩ rfl (Nat.le_of_ble_eq_true rfl) (fun z c2 hp => ?_)
    obtain ⟨rfl, rfl⟩ := hp
    have q9 : gz_ul o (0 : Int32).toInt (if (b, M2).1 = 0 then (Int64.ofNat (0 : Fin 2).val) else (Int64.ofNat (1 : Fin 2).val)) (0 : Int32).toInt = (if (b, M2).1 = 0 then (Int64.ofNat (0 : Fin 2).val) else (Int64.ofNat (1 : Fin 2).val)) := gz_uls _ _ _
    generalize gz_ul o (0 : Int32).toInt (if (b, M2).1 = 0 then (Int64.ofNat (0 : Fin 2).val) else (Int64.ofNat (1 : Fin 2).val)) = o2 at q9 ⊢
    refine gx_istore hC dr_Lw_law_350 (by decide) ?_
    refine gx_aload_n hC dr_Lw_law_352 rfl ?_
    refine gx_aload_n hC dr_Lw_law_353 rfl ?_
    refine gx_iload hC dr_Lw_law_354 rfl ?_
    refine gx_iconst (v := 1) hC dr_Lw_law_356 (by decide) ?_
    refine gx_iadd hC dr_Lw_law_357 ?_
    refine gx_sld hC hX dr_Lw_law_358 (la_ix hi hL 1 (by decide)) ?_
    refine gx_aload_n hC dr_Lw_law_359 rfl ?_
    refine gx_iload hC dr_Lw_law_360 rfl ?_
    refine gx_iconst (v := 2) hC dr_Lw_law_362 (by decide) ?_
    refine gx_iadd hC dr_Lw_law_363 ?_
    refine gx_sld hC hX dr_Lw_law_364 (la_ix hi hL 2 (by decide)) ?_
    refine gx_i2l hC dr_Lw_law_365 ?_
    refine gx_bipush (v := 32) hC dr_Lw_law_366 (by decide) ?_
    refine gx_lshl hC dr_Lw_law_368 ?_
    refine gx_aload_n hC dr_Lw_law_369 rfl ?_
    refine gx_iload hC dr_Lw_law_370 rfl ?_
    refine gx_iconst (v := 3) hC dr_Lw_law_372 (by decide) ?_
    refine gx_iadd hC dr_Lw_law_373 ?_
    refine gx_sld hC hX dr_Lw_law_374 (la_ix hi hL 3 (by decide)) ?_
    refine gx_i2l hC dr_Lw_law_375 ?_
    refine gx_ldc2 hC dr_Lw_law_376 lc_Lw_62 ?_
    refine gx_land hC dr_Lw_law_379 ?_
    refine gx_lor hC dr_Lw_law_380 ?_
    refine gx_aload_n hC dr_Lw_law_381 rfl ?_
    refine gx_iload hC dr_Lw_law_382 rfl ?_
    refine gx_iconst (v := 4) hC dr_Lw_law_384 (by decide) ?_
    refine gx_iadd hC dr_Lw_law_385 ?_
    refine gx_sld hC hX dr_Lw_law_386 (la_ix hi hL 4 (by decide)) ?_
    refine gx_i2l hC dr_Lw_law_387 ?_
    refine gx_bipush (v := 32) hC dr_Lw_law_388 (by decide) ?_
    refine gx_lshl hC dr_Lw_law_390 ?_
    refine gx_aload_n hC dr_Lw_law_391 rfl ?_
    refine gx_iload hC dr_Lw_law_392 rfl ?_
    refine gx_iconst (v := 5) hC dr_Lw_law_394 (by decide) ?_
    refine gx_iadd hC dr_Lw_law_395 ?_
    refine gx_sld hC hX dr_Lw_law_396 (la_ix hi hL 5 (by decide)) ?_
    refine gx_i2l hC dr_Lw_law_397 ?_
    refine gx_ldc2 hC dr_Lw_law_398 lc_Lw_62 ?_
    refine gx_land hC dr_Lw_law_401 ?_
    refine gx_lor hC dr_Lw_law_402 ?_
    refine gx_vI hC dr_Lw_law_403 lk_Lw_76 (mt_Mo_target (G := (M2, o2)) g1) rfl (by decide) ⟨by decide, by decide⟩ ⟨by exact hk, by exact hn⟩ (by decide) ⟨_, _, rfl⟩ rfl rfl (Nat.le_of_ble_eq_true rfl) (fun z c2 hp => ?_)
    obtain ⟨rfl, rfl⟩ := hp
    refine gx_istore hC dr_Lw_law_406 (by decide) ?_
    refine gx_aload_n hC dr_Lw_law_408 rfl ?_
    refine gx_vI hC dr_Lw_law_409 lk_Lw_70 (mt_Mo_thrown (G := (M2, o2)) (M := W2) rfl) rfl (by decide) ⟨by decide, by decide⟩ ⟨by exact hk, by exact hn⟩ (by decide) ⟨_, _, rfl⟩ rfl rfl (Nat.le_of_ble_eq_true rfl) (fun z c2 hp => ?_)
    obtain ⟨rfl, rfl⟩ := hp
    refine gx_iload hC dr_Lw_law_412 rfl ?_
    refine gx_icmp_eq (tgt := 419) hC dr_Lw_law_414 (by decide) (fun _ => ?_) (fun e => absurd f3 e)
    refine gx_iload hC dr_Lw_law_419 rfl ?_
    refine gx_if_ne (tgt := 443) hC dr_Lw_law_421 (by decide) (fun e => absurd rfl e) (fun e => ?_)
    refine gx_aload_n hC dr_Lw_law_424 rfl ?_
    refine gx_iconst (v := 0) hC dr_Lw_law_425 (by decide) ?_
    refine gx_lald (o := 80) hC dr_Lw_law_426 (by decide) rfl (by decide) ?_
    refine gx_iload hC dr_Lw_law_427 rfl ?_
    refine gx_if_eq (tgt := 436) hC dr_Lw_law_429 (by decide) (fun e6 => ?_) (fun e6 => ?_)
    · refine gx_lconst hC dr_Lw_law_436 ?_
      refine gx_lcmp_eq (tgt := 443) hC dr_Lw_law_437 dr_Lw_law_438 (by decide) (fun _ => ?_) (fun e => absurd (q9.trans (if_pos e6)) e)
      refine gx_goto (tgt := 1123) hC dr_Lw_law_443 (by decide) ?_
      refine gx_lv (la_L i) ⟨rfl, rfl, rfl, rfl, rfl, trivial⟩ ?_
      exact kk f4 (Nat.le_refl (k + 1)) (Nat.le_refl (n + 6))
    · refine gx_lconst hC dr_Lw_law_432 ?_
      refine gx_goto (tgt := 437) hC dr_Lw_law_433 (by decide) ?_
      refine gx_lcmp_eq (tgt := 443) hC dr_Lw_law_437 dr_Lw_law_438 (by decide) (fun _ => ?_) (fun e => absurd (q9.trans (if_neg e6)) e)
      refine gx_goto (tgt := 1123) hC dr_Lw_law_443 (by decide) ?_
      refine gx_lv (la_L i) ⟨rfl, rfl, rfl, rfl, rfl, trivial⟩ ?_
      exact kk f4 (Nat.le_refl (k + 1)) (Nat.le_refl (n + 6))
set_option maxHeartbeats 1000000 in
theorem cs_lock {x : gx_X} {L : Nat} {xs : Nat → Int32} (hC : gw_C 81 81 "PinSwapsLaw" bc_Lw_law 8 x) (hX : gs_X L xs x) (hfl : (gx_l x).flags = pinnedFlags ++ [noTraceFlag]) {M W : gq_M} {o : Int → Int64} (hR : rl_R M W) {i k n : Nat} (hi : i + 7 ≤ L) (hL : L ≤ 3584) (hk : k + 1 ≤ room_1.cells) (hn : n + 6 ≤ room_1.slots) (kk : la_K x i k n) : gw_G 81 8 room_1 x k n (ca_A (M, W, o)) 446 (la_L i) [] := by
  obtain ⟨b, W2, g1, g2⟩ := op_lock hR (xs (nI i + 1).toInt.toNat)
  rcases g2 with ⟨kd, f1, f2, f3, f4⟩ | ⟨M2, f1, f3, f4⟩
  · have e9 := kd_lock f1
    subst e9
    refine gx_aload_n hC dr_Lw_law_446 rfl ?_
    refine gx_aload_n hC dr_Lw_law_447 rfl ?_
    refine gx_iload hC dr_Lw_law_448 rfl ?_
    refine gx_iconst (v := 1) hC dr_Lw_law_450 (by decide) ?_
    refine gx_iadd hC dr_Lw_law_451 ?_
    refine gx_sld hC hX dr_Lw_law_452 (la_ix hi hL 1 (by decide)) ?_
    refine gx_aload_n hC dr_Lw_law_453 rfl ?_
    refine gx_sW hC dr_Lw_law_454 ly_77 (mw_lock_1 (X := W) (o := o) hfl f1) rfl (by decide) ⟨by decide, by decide⟩ ⟨by exact hk, by exact hn⟩ rfl (Nat.le_of_ble_eq_true rfl) (fun z c2 hp => ?_)
    obtain ⟨rfl, rfl⟩ := hp
    refine gx_istore hC dr_Lw_law_457 (by decide) ?_
    refine gx_aload_n hC dr_Lw_law_459 rfl ?_
    refine gx_aload_n hC dr_Lw_law_460 rfl ?_
    refine gx_iload hC dr_Lw_law_461 rfl ?_
    refine gx_iconst (v := 1) hC dr_Lw_law_463 (by decide) ?_
    refine gx_iadd hC dr_Lw_law_464 ?_
    refine gx_sld hC hX dr_Lw_law_465 (la_ix hi hL 1 (by decide)) ?_
    refine gx_vI hC dr_Lw_law_466 lk_Lw_80 (mt_Mo_lock (G := (M, o)) g1) rfl (by decide) ⟨by decide, by decide⟩ ⟨by exact hk, by exact hn⟩ (by decide) ⟨_, _, rfl⟩ rfl rfl (Nat.le_of_ble_eq_true rfl) (fun z c2 hp => ?_)
    obtain ⟨rfl, rfl⟩ := hp
    refine gx_istore hC dr_Lw_law_469 (by decide) ?_
    refine gx_aload_n hC dr_Lw_law_471 rfl ?_
    refine gx_vI hC dr_Lw_law_472 lk_Lw_70 (mt_Mo_thrown (G := (M, o)) (M := W2) rfl) rfl (by decide) ⟨by decide, by decide⟩ ⟨by exact hk, by exact hn⟩ (by decide) ⟨_, _, rfl⟩ rfl rfl (Nat.le_of_ble_eq_true rfl) (fun z c2 hp => ?_)
    obtain ⟨rfl, rfl⟩ := hp
    refine gx_iload hC dr_Lw_law_475 rfl ?_
    refine gx_icmp_eq (tgt := 482) hC dr_Lw_law_477 (by decide) (fun _ => ?_) (fun e => absurd f3 e)
    refine gx_iload hC dr_Lw_law_482 rfl ?_
    refine gx_if_ne (tgt := 506) hC dr_Lw_law_484 (by decide) (fun e => ?_) (fun e => absurd e (by decide))
    refine gx_goto (tgt := 1123) hC dr_Lw_law_506 (by decide) ?_
    refine gx_lv (la_L i) ⟨rfl, rfl, rfl, rfl, rfl, trivial⟩ ?_
    exact kk f4 (Nat.le_refl (k + 1)) (Nat.le_refl (n + 6))
  · refine gx_aload_n hC dr_Lw_law_446 rfl ?_
    refine gx_aload_n hC dr_Lw_law_447 rfl ?_
    refine gx_iload hC dr_Lw_law_448 rfl ?_
    refine gx_iconst (v := 1) hC dr_Lw_law_450 (by decide) ?_
    refine gx_iadd hC dr_Lw_law_451 ?_
    refine gx_sld hC hX dr_Lw_law_452 (la_ix hi hL 1 (by decide)) ?_
    refine gx_aload_n hC dr_Lw_law_453 rfl ?_
    refine gx_sW hC dr_Lw_law_454 ly_77 (mw_lock_r (X := W) (o := o) f1) rfl (by decide) ⟨by decide, by decide⟩ ⟨by exact hk, by exact hn⟩ rfl (Nat.le_of_ble_eq_true rfl) (fun z c2 hp => ?_)
    obtain ⟨rfl, rfl⟩ := hp
    have q9 : gz_ul o (0 : Int32).toInt (if (b, M2).1 = 0 then (Int64.ofNat (0 : Fin 2).val) else (Int64.ofNat (1 : Fin 2).val)) (0 : Int32).toInt = (if (b, M2).1 = 0 then (Int64.ofNat (0 : Fin 2).val) else (Int64.ofNat (1 : Fin 2).val)) := gz_uls _ _ _
    generalize gz_ul o (0 : Int32).toInt (if (b, M2).1 = 0 then (Int64.ofNat (0 : Fin 2).val) else (Int64.ofNat (1 : Fin 2).val)) = o2 at q9 ⊢
    refine gx_istore hC dr_Lw_law_457 (by decide) ?_
    refine gx_aload_n hC dr_Lw_law_459 rfl ?_
    refine gx_aload_n hC dr_Lw_law_460 rfl ?_
    refine gx_iload hC dr_Lw_law_461 rfl ?_
    refine gx_iconst (v := 1) hC dr_Lw_law_463 (by decide) ?_
    refine gx_iadd hC dr_Lw_law_464 ?_
    refine gx_sld hC hX dr_Lw_law_465 (la_ix hi hL 1 (by decide)) ?_
    refine gx_vI hC dr_Lw_law_466 lk_Lw_80 (mt_Mo_lock (G := (M2, o2)) g1) rfl (by decide) ⟨by decide, by decide⟩ ⟨by exact hk, by exact hn⟩ (by decide) ⟨_, _, rfl⟩ rfl rfl (Nat.le_of_ble_eq_true rfl) (fun z c2 hp => ?_)
    obtain ⟨rfl, rfl⟩ := hp
    refine gx_istore hC dr_Lw_law_469 (by decide) ?_
    refine gx_aload_n hC dr_Lw_law_471 rfl ?_
    refine gx_vI hC dr_Lw_law_472 lk_Lw_70 (mt_Mo_thrown (G := (M2, o2)) (M := W2) rfl) rfl (by decide) ⟨by decide, by decide⟩ ⟨by exact hk, by exact hn⟩ (by decide) ⟨_, _, rfl⟩ rfl rfl (Nat.le_of_ble_eq_true rfl) (fun z c2 hp => ?_)
    obtain ⟨rfl, rfl⟩ := hp
    refine gx_iload hC dr_Lw_law_475 rfl ?_
    refine gx_icmp_eq (tgt := 482) hC dr_Lw_law_477 (by decide) (fun _ => ?_) (fun e => absurd f3 e)
    refine gx_iload hC dr_Lw_law_482 rfl ?_
    refine gx_if_ne (tgt := 506) hC dr_Lw_law_484 (by decide) (fun e => absurd rfl e) (fun e => ?_)
    refine gx_aload_n hC dr_Lw_law_487 rfl ?_
    refine gx_iconst (v := 0) hC dr_Lw_law_488 (by decide) ?_
    refine gx_lald (o := 80) hC dr_Lw_law_489 (by decide) rfl (by decide) ?_
    refine gx_iload hC dr_Lw_law_490 rfl ?_
    refine gx_if_eq (tgt := 499) hC dr_Lw_law_492 (by decide) (fun e6 => ?_) (fun e6 => ?_)
    · refine gx_lconst hC dr_Lw_law_499 ?_
      refine gx_lcmp_eq (tgt := 506) hC dr_Lw_law_500 dr_Lw_law_501 (by decide) (fun _ => ?_) (fun e => absurd (q9.trans (if_pos e6)) e)
      refine gx_goto (tgt := 1123) hC dr_Lw_law_506 (by decide) ?_
      refine gx_lv (la_L i) ⟨rfl, rfl, rfl, rfl, rfl, trivial⟩ ?_
      exact kk f4 (Nat.le_refl (k + 1)) (Nat.le_refl (n + 6))
    · refine gx_lconst hC dr_Lw_law_495 ?_
      refine gx_goto (tgt := 500) hC dr_Lw_law_496 (by decide) ?_
      refine gx_lcmp_eq (tgt := 506) hC dr_Lw_law_500 dr_Lw_law_501 (by decide) (fun _ => ?_) (fun e => absurd (q9.trans (if_neg e6)) e)
      refine gx_goto (tgt := 1123) hC dr_Lw_law_506 (by decide) ?_
      refine gx_lv (la_L i) ⟨rfl, rfl, rfl, rfl, rfl, trivial⟩ ?_
      exact kk f4 (Nat.le_refl (k + 1)) (Nat.le_refl (n + 6))
set_option maxHeartbeats 1000000 in
theorem cs_pair {x : gx_X} {L : Nat} {xs : Nat → Int32} (hC : gw_C 81 81 "PinSwapsLaw" bc_Lw_law 8 x) (hX : gs_X L xs x) (hfl : (gx_l x).flags = pinnedFlags ++ [noTraceFlag]) {M W : gq_M} {o : Int → Int64} (hR : rl_R M W) {i k n : Nat} (hi : i + 7 ≤ L) (hL : L ≤ 3584) (hk : k + 1 ≤ room_1.cells) (hn : n + 6 ≤ room_1.slots) (kk : la_K x i k n) : gw_G 81 8 room_1 x k n (ca_A (M, W, o)) 509 (la_L i) [] := by
  obtain ⟨b, W2, g1, g2⟩ := op_pair hR (xs (nI i + 1).toInt.toNat) (xs (nI i + 2).toInt.toNat)
  rcases g2 with ⟨kd, f1, f2, f3, f4⟩ | ⟨M2, f1, f3, f4⟩
  · have e9 := kd_pair f1
    subst e9
    refine gx_aload_n hC dr_Lw_law_509 rfl ?_
    refine gx_aload_n hC dr_Lw_law_510 rfl ?_
    refine gx_iload hC dr_Lw_law_511 rfl ?_
    refine gx_iconst (v := 1) hC dr_Lw_law_513 (by decide) ?_
    refine gx_iadd hC dr_Lw_law_514 ?_
    refine gx_sld hC hX dr_Lw_law_515 (la_ix hi hL 1 (by decide)) ?_
    refine gx_aload_n hC dr_Lw_law_516 rfl ?_
    refine gx_iload hC dr_Lw_law_517 rfl ?_
    refine gx_iconst (v := 2) hC dr_Lw_law_519 (by decide) ?_
    refine gx_iadd hC dr_Lw_law_520 ?_
    refine gx_sld hC hX dr_Lw_law_521 (la_ix hi hL 2 (by decide)) ?_
    refine gx_aload_n hC dr_Lw_law_522 rfl ?_
    refine gx_sW hC dr_Lw_law_523 ly_81 (mw_pair_1 (X := W) (o := o) hfl f1) rfl (by decide) ⟨by decide, by decide⟩ ⟨by exact hk, by exact hn⟩ rfl (Nat.le_of_ble_eq_true rfl) (fun z c2 hp => ?_)
    obtain ⟨rfl, rfl⟩ := hp
    refine gx_istore hC dr_Lw_law_526 (by decide) ?_
    refine gx_aload_n hC dr_Lw_law_528 rfl ?_
    refine gx_aload_n hC dr_Lw_law_529 rfl ?_
    refine gx_iload hC dr_Lw_law_530 rfl ?_
    refine gx_iconst (v := 1) hC dr_Lw_law_532 (by decide) ?_
    refine gx_iadd hC dr_Lw_law_533 ?_
    refine gx_sld hC hX dr_Lw_law_534 (la_ix hi hL 1 (by decide)) ?_
    refine gx_aload_n hC dr_Lw_law_535 rfl ?_
    refine gx_iload hC dr_Lw_law_536 rfl ?_
    refine gx_iconst (v := 2) hC dr_Lw_law_538 (by decide) ?_
    refine gx_iadd hC dr_Lw_law_539 ?_
    refine gx_sld hC hX dr_Lw_law_540 (la_ix hi hL 2 (by decide)) ?_
    refine gx_vI hC dr_Lw_law_541 lk_Lw_84 (mt_Mo_pair (G := (M, o)) g1) rfl (by decide) ⟨by decide, by decide⟩ ⟨by exact hk, by exact hn⟩ (by decide) ⟨_, _, rfl⟩ rfl rfl (Nat.le_of_ble_eq_true rfl) (fun z c2 hp => ?_)
    obtain ⟨rfl, rfl⟩ := hp
    refine gx_istore hC dr_Lw_law_544 (by decide) ?_
    refine gx_aload_n hC dr_Lw_law_546 rfl ?_
    refine gx_vI hC dr_Lw_law_547 lk_Lw_70 (mt_Mo_thrown (G := (M, o)) (M := W2) rfl) rfl (by decide) ⟨by decide, by decide⟩ ⟨by exact hk, by exact hn⟩ (by decide) ⟨_, _, rfl⟩ rfl rfl (Nat.le_of_ble_eq_true rfl) (fun z c2 hp => ?_)
    obtain ⟨rfl, rfl⟩ := hp
    refine gx_iload hC dr_Lw_law_550 rfl ?_
    refine gx_icmp_eq (tgt := 557) hC dr_Lw_law_552 (by decide) (fun _ => ?_) (fun e => absurd f3 e)
    refine gx_iload hC dr_Lw_law_557 rfl ?_
    refine gx_if_ne (tgt := 581) hC dr_Lw_law_559 (by decide) (fun e => ?_) (fun e => absurd e (by decide))
    refine gx_goto (tgt := 1123) hC dr_Lw_law_581 (by decide) ?_
    refine gx_lv (la_L i) ⟨rfl, rfl, rfl, rfl, rfl, trivial⟩ ?_
    exact kk f4 (Nat.le_refl (k + 1)) (Nat.le_refl (n + 6))
  · refine gx_aload_n hC dr_Lw_law_509 rfl ?_
    refine gx_aload_n hC dr_Lw_law_510 rfl ?_
    refine gx_iload hC dr_Lw_law_511 rfl ?_
    refine gx_iconst (v := 1) hC dr_Lw_law_513 (by decide) ?_
    refine gx_iadd hC dr_Lw_law_514 ?_
    refine gx_sld hC hX dr_Lw_law_515 (la_ix hi hL 1 (by decide)) ?_
    refine gx_aload_n hC dr_Lw_law_516 rfl ?_
    refine gx_iload hC dr_Lw_law_517 rfl ?_
    refine gx_iconst (v := 2) hC dr_Lw_law_519 (by decide) ?_
    refine gx_iadd hC dr_Lw_law_520 ?_
    refine gx_sld hC hX dr_Lw_law_521 (la_ix hi hL 2 (by decide)) ?_
    refine gx_aload_n hC dr_Lw_law_522 rfl ?_
    refine gx_sW hC dr_Lw_law_523 ly_81 (mw_pair_r (X := W) (o := o) f1) rfl (by decide) ⟨by decide, by decide⟩ ⟨by exact hk, by exact hn⟩ rfl (Nat.le_of_ble_eq_true rfl) (fun z c2 hp => ?_)
    obtain ⟨rfl, rfl⟩ := hp
    have q9 : gz_ul o (0 : Int32).toInt (if (b, M2).1 = 0 then (Int64.ofNat (0 : Fin 2).val) else (Int64.ofNat (1 : Fin 2).val)) (0 : Int32).toInt = (if (b, M2).1 = 0 then (Int64.ofNat (0 : Fin 2).val) else (Int64.ofNat (1 : Fin 2).val)) := gz_uls _ _ _
    generalize gz_ul o (0 : Int32).toInt (if (b, M2).1 = 0 then (Int64.ofNat (0 : Fin 2).val) else (Int64.ofNat (1 : Fin 2).val)) = o2 at q9 ⊢
    refine gx_istore hC dr_Lw_law_526 (by decide) ?_
    refine gx_aload_n hC dr_Lw_law_528 rfl ?_
    refine gx_aload_n hC dr_Lw_law_529 rfl ?_
    refine gx_iload hC dr_Lw_law_530 rfl ?_
    refine gx_iconst (v := 1) hC dr_Lw_law_532 (by decide) ?_
    refine gx_iadd hC dr_Lw_law_533 ?_
    refine gx_sld hC hX dr_Lw_law_534 (la_ix hi hL 1 (by decide)) ?_
    refine gx_aload_n hC dr_Lw_law_535 rfl ?_
    refine gx_iload hC dr_Lw_law_536 rfl ?_
    refine gx_iconst (v := 2) hC dr_Lw_law_538 (by decide) ?_
    refine gx_iadd hC dr_Lw_law_539 ?_
    refine gx_sld hC hX dr_Lw_law_540 (la_ix hi hL 2 (by decide)) ?_
    refine gx_vI hC dr_Lw_law_541 lk_Lw_84 (mt_Mo_pair (G := (M2, o2)) g1) rfl (by decide) ⟨by decide, by decide⟩ ⟨by exact hk, by exact hn⟩ (by decide) ⟨_, _, rfl⟩ rfl rfl (Nat.le_of_ble_eq_true rfl) (fun z c2 hp => ?_)
    obtain ⟨rfl, rfl⟩ := hp
    refine gx_istore hC dr_Lw_law_544 (by decide) ?_
    refine gx_aload_n hC dr_Lw_law_546 rfl ?_
    refine gx_vI hC dr_Lw_law_547 lk_Lw_70 (mt_Mo_thrown (G := (M2, o2)) (M := W2) rfl) rfl (by decide) ⟨by decide, by decide⟩ ⟨by exact hk, by exact hn⟩ (by decide) ⟨_, _, rfl⟩ rfl rfl (Nat.le_of_ble_eq_true rfl) (fun z c2 hp => ?_)
    obtain ⟨rfl, rfl⟩ := hp
    refine gx_iload hC dr_Lw_law_550 rfl ?_
    refine gx_icmp_eq (tgt := 557) hC dr_Lw_law_552 (by decide) (fun _ => ?_) (fun e => absurd f3 e)
    refine gx_iload hC dr_Lw_law_557 rfl ?_
    refine gx_if_ne (tgt := 581) hC dr_Lw_law_559 (by decide) (fun e => absurd rfl e) (fun e => ?_)
    refine gx_aload_n hC dr_Lw_law_562 rfl ?_
    refine gx_iconst (v := 0) hC dr_Lw_law_563 (by decide) ?_
    refine gx_lald (o := 80) hC dr_Lw_law_564 (by decide) rfl (by decide) ?_
    refine gx_iload hC dr_Lw_law_565 rfl ?_
    refine gx_if_eq (tgt := 574) hC dr_Lw_law_567 (by decide) (fun e6 => ?_) (fun e6 => ?_)
    · refine gx_lconst hC dr_Lw_law_574 ?_
      refine gx_lcmp_eq (tgt := 581) hC dr_Lw_law_575 dr_Lw_law_576 (by decide) (fun _ => ?_) (fun e => absurd (q9.trans (if_pos e6)) e)
      refine gx_goto (tgt := 1123) hC dr_Lw_law_581 (by decide) ?_
      refine gx_lv (la_L i) ⟨rfl, rfl, rfl, rfl, rfl, trivial⟩ ?_
      exact kk f4 (Nat.le_refl (k + 1)) (Nat.le_refl (n + 6))
    · refine gx_lconst hC dr_Lw_law_570 ?_
      refine gx_goto (tgt := 575) hC dr_Lw_law_571 (by decide) ?_
      refine gx_lcmp_eq (tgt := 581) hC dr_Lw_law_575 dr_Lw_law_576 (by decide) (fun _ => ?_) (fun e => absurd (q9.trans (if_neg e6)) e)
      refine gx_goto (tgt := 1123) hC dr_Lw_law_581 (by decide) ?_
      refine gx_lv (la_L i) ⟨rfl, rfl, rfl, rfl, rfl, trivial⟩ ?_
      exact kk f4 (Nat.le_refl (k + 1)) (Nat.le_refl (n + 6))
set_option maxHeartbeats 1000000 in
theorem cs_bank {x : gx_X} {L : Nat} {xs : Nat → Int32} (hC : gw_C 81 81 "PinSwapsLaw" bc_Lw_law 8 x) (hX : gs_X L xs x) (hfl : (gx_l x).flags = pinnedFlags ++ [noTraceFlag]) {M W : gq_M} {o : Int → Int64} (hR : rl_R M W) {i k n : Nat} (hi : i + 7 ≤ L) (hL : L ≤ 3584) (hk : k + 1 ≤ room_1.cells) (hn : n + 6 ≤ room_1.slots) (kk : la_K x i k n) : gw_G 81 8 room_1 x k n (ca_A (M, W, o)) 584 (la_L i) [] := by
  obtain ⟨b, W2, g1, g2⟩ := op_bank hR (xs (nI i + 1).toInt.toNat) (xs (nI i + 2).toInt.toNat)
  rcases g2 with ⟨kd, f1, f2, f3, f4⟩ | ⟨M2, f1, f3, f4⟩
  · rcases f2 with rfl | rfl
    · refine gx_aload_n hC dr_Lw_law_584 rfl ?_
      refine gx_aload_n hC dr_Lw_law_585 rfl ?_
      refine gx_iload hC dr_Lw_law_586 rfl ?_
      refine gx_iconst (v := 1) hC dr_Lw_law_588 (by decide) ?_
      refine gx_iadd hC dr_Lw_law_589 ?_
      refine gx_sld hC hX dr_Lw_law_590 (la_ix hi hL 1 (by decide)) ?_
      refine gx_aload_n hC dr_Lw_law_591 rfl ?_
      refine gx_iload hC dr_Lw_law_592 rfl ?_
      refine gx_iconst (v := 2) hC dr_Lw_law_594 (by decide) ?_
      refine gx_iadd hC dr_Lw_law_595 ?_
      refine gx_sld hC hX dr_Lw_law_596 (la_ix hi hL 2 (by decide)) ?_
      refine gx_aload_n hC dr_Lw_law_597 rfl ?_
      refine gx_sW hC dr_Lw_law_598 ly_85 (mw_bank_1 (X := W) (o := o) hfl f1) rfl (by decide) ⟨by decide, by decide⟩ ⟨by exact hk, by exact hn⟩ rfl (Nat.le_of_ble_eq_true rfl) (fun z c2 hp => ?_)
      obtain ⟨rfl, rfl⟩ := hp
      refine gx_istore hC dr_Lw_law_601 (by decide) ?_
      refine gx_aload_n hC dr_Lw_law_603 rfl ?_
      refine gx_aload_n hC dr_Lw_law_604 rfl ?_
      refine gx_iload hC dr_Lw_law_605 rfl ?_
      refine gx_iconst (v := 1) hC dr_Lw_law_607 (by decide) ?_
      refine gx_iadd hC dr_Lw_law_608 ?_
      refine gx_sld hC hX dr_Lw_law_609 (la_ix hi hL 1 (by decide)) ?_
      refine gx_aload_n hC dr_Lw_law_610 rfl ?_
      refine gx_iload hC dr_Lw_law_611 rfl ?_
      refine gx_iconst (v := 2) hC dr_Lw_law_613 (by decide) ?_
      refine gx_iadd hC dr_Lw_law_614 ?_
      refine gx_sld hC hX dr_Lw_law_615 (la_ix hi hL 2 (by decide)) ?_
      refine gx_vI hC dr_Lw_law_616 lk_Lw_87 (mt_Mo_bank (G := (M, o)) g1) rfl (by decide) ⟨by decide, by decide⟩ ⟨by exact hk, by exact hn⟩ (by decide) ⟨_, _, rfl⟩ rfl rfl (Nat.le_of_ble_eq_true rfl) (fun z c2 hp => ?_)
      obtain ⟨rfl, rfl⟩ := hp
      refine gx_istore hC dr_Lw_law_619 (by decide) ?_
      refine gx_aload_n hC dr_Lw_law_621 rfl ?_
      refine gx_vI hC dr_Lw_law_622 lk_Lw_70 (mt_Mo_thrown (G := (M, o)) (M := W2) rfl) rfl (by decide) ⟨by decide, by decide⟩ ⟨by exact hk, by exact hn⟩ (by decide) ⟨_, _, rfl⟩ rfl rfl (Nat.le_of_ble_eq_true rfl) (fun z c2 hp => ?_)
      obtain ⟨rfl, rfl⟩ := hp
      refine gx_iload hC dr_Lw_law_625 rfl ?_
      refine gx_icmp_eq (tgt := 632) hC dr_Lw_law_627 (by decide) (fun _ => ?_) (fun e => absurd f3 e)
      refine gx_iload hC dr_Lw_law_632 rfl ?_
      refine gx_if_ne (tgt := 656) hC dr_Lw_law_634 (by decide) (fun e => ?_) (fun e => absurd e (by decide))
      refine gx_goto (tgt := 1123) hC dr_Lw_law_656 (by decide) ?_
      refine gx_lv (la_L i) ⟨rfl, rfl, rfl, rfl, rfl, trivial⟩ ?_
      exact kk f4 (Nat.le_refl (k + 1)) (Nat.le_refl (n + 6))
    · refine gx_aload_n hC dr_Lw_law_584 rfl ?_
      refine gx_aload_n hC dr_Lw_law_585 rfl ?_
      refine gx_iload hC dr_Lw_law_586 rfl ?_
      refine gx_iconst (v := 1) hC dr_Lw_law_588 (by decide) ?_
      refine gx_iadd hC dr_Lw_law_589 ?_
      refine gx_sld hC hX dr_Lw_law_590 (la_ix hi hL 1 (by decide)) ?_
      refine gx_aload_n hC dr_Lw_law_591 rfl ?_
      refine gx_iload hC dr_Lw_law_592 rfl ?_
      refine gx_iconst (v := 2) hC dr_Lw_law_594 (by decide) ?_
      refine gx_iadd hC dr_Lw_law_595 ?_
      refine gx_sld hC hX dr_Lw_law_596 (la_ix hi hL 2 (by decide)) ?_
      refine gx_aload_n hC dr_Lw_law_597 rfl ?_
      refine gx_sW hC dr_Lw_law_598 ly_85 (mw_bank_2 (X := W) (o := o) hfl f1) rfl (by decide) ⟨by decide, by decide⟩ ⟨by exact hk, by exact hn⟩ rfl (Nat.le_of_ble_eq_true rfl) (fun z c2 hp => ?_)
      obtain ⟨rfl, rfl⟩ := hp
      refine gx_istore hC dr_Lw_law_601 (by decide) ?_
      refine gx_aload_n hC dr_Lw_law_603 rfl ?_
      refine gx_aload_n hC dr_Lw_law_604 rfl ?_
      refine gx_iload hC dr_Lw_law_605 rfl ?_
      refine gx_iconst (v := 1) hC dr_Lw_law_607 (by decide) ?_
      refine gx_iadd hC dr_Lw_law_608 ?_
      refine gx_sld hC hX dr_Lw_law_609 (la_ix hi hL 1 (by decide)) ?_
      refine gx_aload_n hC dr_Lw_law_610 rfl ?_
      refine gx_iload hC dr_Lw_law_611 rfl ?_
      refine gx_iconst (v := 2) hC dr_Lw_law_613 (by decide) ?_
      refine gx_iadd hC dr_Lw_law_614 ?_
      refine gx_sld hC hX dr_Lw_law_615 (la_ix hi hL 2 (by decide)) ?_
      refine gx_vI hC dr_Lw_law_616 lk_Lw_87 (mt_Mo_bank (G := (M, o)) g1) rfl (by decide) ⟨by decide, by decide⟩ ⟨by exact hk, by exact hn⟩ (by decide) ⟨_, _, rfl⟩ rfl rfl (Nat.le_of_ble_eq_true rfl) (fun z c2 hp => ?_)
      obtain ⟨rfl, rfl⟩ := hp
      refine gx_istore hC dr_Lw_law_619 (by decide) ?_
      refine gx_aload_n hC dr_Lw_law_621 rfl ?_
      refine gx_vI hC dr_Lw_law_622 lk_Lw_70 (mt_Mo_thrown (G := (M, o)) (M := W2) rfl) rfl (by decide) ⟨by decide, by decide⟩ ⟨by exact hk, by exact hn⟩ (by decide) ⟨_, _, rfl⟩ rfl rfl (Nat.le_of_ble_eq_true rfl) (fun z c2 hp => ?_)
      obtain ⟨rfl, rfl⟩ := hp
      refine gx_iload hC dr_Lw_law_625 rfl ?_
      refine gx_icmp_eq (tgt := 632) hC dr_Lw_law_627 (by decide) (fun _ => ?_) (fun e => absurd f3 e)
      refine gx_iload hC dr_Lw_law_632 rfl ?_
      refine gx_if_ne (tgt := 656) hC dr_Lw_law_634 (by decide) (fun e => ?_) (fun e => absurd e (by decide))
      refine gx_goto (tgt := 1123) hC dr_Lw_law_656 (by decide) ?_
      refine gx_lv (la_L i) ⟨rfl, rfl, rfl, rfl, rfl, trivial⟩ ?_
      exact kk f4 (Nat.le_refl (k + 1)) (Nat.le_refl (n + 6))
  · refine gx_aload_n hC dr_Lw_law_584 rfl ?_
    refine gx_aload_n hC dr_Lw_law_585 rfl ?_
    refine gx_iload hC dr_Lw_law_586 rfl ?_
    refine gx_iconst (v := 1) hC dr_Lw_law_588 (by decide) ?_
    refine gx_iadd hC dr_Lw_law_589 ?_
    refine gx_sld hC hX dr_Lw_law_590 (la_ix hi hL 1 (by decide)) ?_
    refine gx_aload_n hC dr_Lw_law_591 rfl ?_
    refine gx_iload hC dr_Lw_law_592 rfl ?_
    refine gx_iconst (v := 2) hC dr_Lw_law_594 (by decide) ?_
    refine gx_iadd hC dr_Lw_law_595 ?_
    refine gx_sld hC hX dr_Lw_law_596 (la_ix hi hL 2 (by decide)) ?_
    refine gx_aload_n hC dr_Lw_law_597 rfl ?_
    refine gx_sW hC dr_Lw_law_598 ly_85 (mw_bank_r (X := W) (o := o) f1) rfl (by decide) ⟨by decide, by decide⟩ ⟨by exact hk, by exact hn⟩ rfl (Nat.le_of_ble_eq_true rfl) (fun z c2 hp => ?_)
    obtain ⟨rfl, rfl⟩ := hp
    have q9 : gz_ul o (0 : Int32).toInt (if (b, M2).1 = 0 then (Int64.ofNat (0 : Fin 2).val) else (Int64.ofNat (1 : Fin 2).val)) (0 : Int32).toInt = (if (b, M2).1 = 0 then (Int64.ofNat (0 : Fin 2).val) else (Int64.ofNat (1 : Fin 2).val)) := gz_uls _ _ _
    generalize gz_ul o (0 : Int32).toInt (if (b, M2).1 = 0 then (Int64.ofNat (0 : Fin 2).val) else (Int64.ofNat (1 : Fin 2).val)) = o2 at q9 ⊢
    refine gx_istore hC dr_Lw_law_601 (by decide) ?_
    refine gx_aload_n hC dr_Lw_law_603 rfl ?_
    refine gx_aload_n hC dr_Lw_law_604 rfl ?_
    refine gx_iload hC dr_Lw_law_605 rfl ?_
    refine gx_iconst (v := 1) hC dr_Lw_law_607 (by decide) ?_
    refine gx_iadd hC dr_Lw_law_608 ?_
    refine gx_sld hC hX dr_Lw_law_609 (la_ix hi hL 1 (by decide)) ?_
    refine gx_aload_n hC dr_Lw_law_610 rfl ?_
    refine gx_iload hC dr_Lw_law_611 rfl ?_
    refine gx_iconst (v := 2) hC dr_Lw_law_613 (by decide) ?_
    refine gx_iadd hC dr_Lw_law_614 ?_
    refine gx_sld hC hX dr_Lw_law_615 (la_ix hi hL 2 (by decide)) ?_
    refine gx_vI hC dr_Lw_law_616 lk_Lw_87 (mt_Mo_bank (G := (M2, o2)) g1) rfl (by decide) ⟨by decide, by decide⟩ ⟨by exact hk, by exact hn⟩ (by decide) ⟨_, _, rfl⟩ rfl rfl (Nat.le_of_ble_eq_true rfl) (fun z c2 hp => ?_)
    obtain ⟨rfl, rfl⟩ := hp
    refine gx_istore hC dr_Lw_law_619 (by decide) ?_
    refine gx_aload_n hC dr_Lw_law_621 rfl ?_
    refine gx_vI hC dr_Lw_law_622 lk_Lw_70 (mt_Mo_thrown (G := (M2, o2)) (M := W2) rfl) rfl (by decide) ⟨by decide, by decide⟩ ⟨by exact hk, by exact hn⟩ (by decide) ⟨_, _, rfl⟩ rfl rfl (Nat.le_of_ble_eq_true rfl) (fun z c2 hp => ?_)
    obtain ⟨rfl, rfl⟩ := hp
    refine gx_iload hC dr_Lw_law_625 rfl ?_
    refine gx_icmp_eq (tgt := 632) hC dr_Lw_law_627 (by decide) (fun _ => ?_) (fun e => absurd f3 e)
    refine gx_iload hC dr_Lw_law_632 rfl ?_
    refine gx_if_ne (tgt := 656) hC dr_Lw_law_634 (by decide) (fun e => absurd rfl e) (fun e => ?_)
    refine gx_aload_n hC dr_Lw_law_637 rfl ?_
    refine gx_iconst (v := 0) hC dr_Lw_law_638 (by decide) ?_
    refine gx_lald (o := 80) hC dr_Lw_law_639 (by decide) rfl (by decide) ?_
    refine gx_iload hC dr_Lw_law_640 rfl ?_
    refine gx_if_eq (tgt := 649) hC dr_Lw_law_642 (by decide) (fun e6 => ?_) (fun e6 => ?_)
    · refine gx_lconst hC dr_Lw_law_649 ?_
      refine gx_lcmp_eq (tgt := 656) hC dr_Lw_law_650 dr_Lw_law_651 (by decide) (fun _ => ?_) (fun e => absurd (q9.trans (if_pos e6)) e)
      refine gx_goto (tgt := 1123) hC dr_Lw_law_656 (by decide) ?_
      refine gx_lv (la_L i) ⟨rfl, rfl, rfl, rfl, rfl, trivial⟩ ?_
      exact kk f4 (Nat.le_refl (k + 1)) (Nat.le_refl (n + 6))
    · refine gx_lconst hC dr_Lw_law_645 ?_
      refine gx_goto (tgt := 650) hC dr_Lw_law_646 (by decide) ?_
      refine gx_lcmp_eq (tgt := 656) hC dr_Lw_law_650 dr_Lw_law_651 (by decide) (fun _ => ?_) (fun e => absurd (q9.trans (if_neg e6)) e)
      refine gx_goto (tgt := 1123) hC dr_Lw_law_656 (by decide) ?_
      refine gx_lv (la_L i) ⟨rfl, rfl, rfl, rfl, rfl, trivial⟩ ?_
      exact kk f4 (Nat.le_refl (k + 1)) (Nat.le_refl (n + 6))
set_option maxHeartbeats 1000000 in
theorem cs_needs {x : gx_X} {L : Nat} {xs : Nat → Int32} (hC : gw_C 81 81 "PinSwapsLaw" bc_Lw_law 8 x) (hX : gs_X L xs x) (hfl : (gx_l x).flags = pinnedFlags ++ [noTraceFlag]) {M W : gq_M} {o : Int → Int64} (hR : rl_R M W) {i k n : Nat} (hi : i + 7 ≤ L) (hL : L ≤ 3584) (hk : k + 1 ≤ room_1.cells) (hn : n + 6 ≤ room_1.slots) (kk : la_K x i k n) : gw_G 81 8 room_1 x k n (ca_A (M, W, o)) 659 (la_L i) [] := by
  obtain ⟨b, W2, g1, g2⟩ := op_needs hR (xs (nI i + 1).toInt.toNat) (xs (nI i + 2).toInt.toNat)
  rcases g2 with ⟨kd, f1, f2, f3, f4⟩ | ⟨M2, f1, f3, f4⟩
  · rcases f2 with rfl | rfl
    · refine gx_aload_n hC dr_Lw_law_659 rfl ?_
      refine gx_aload_n hC dr_Lw_law_660 rfl ?_
      refine gx_iload hC dr_Lw_law_661 rfl ?_
      refine gx_iconst (v := 1) hC dr_Lw_law_663 (by decide) ?_
      refine gx_iadd hC dr_Lw_law_664 ?_
      refine gx_sld hC hX dr_Lw_law_665 (la_ix hi hL 1 (by decide)) ?_
      refine gx_aload_n hC dr_Lw_law_666 rfl ?_
      refine gx_iload hC dr_Lw_law_667 rfl ?_
      refine gx_iconst (v := 2) hC dr_Lw_law_669 (by decide) ?_
      refine gx_iadd hC dr_Lw_law_670 ?_
      refine gx_sld hC hX dr_Lw_law_671 (la_ix hi hL 2 (by decide)) ?_
      refine gx_aload_n hC dr_Lw_law_672 rfl ?_
      refine gx_sW hC dr_Lw_law_673 ly_88 (mw_needs_1 (X := W) (o := o) hfl f1) rfl (by decide) ⟨by decide, by decide⟩ ⟨by exact hk, by exact hn⟩ rfl (Nat.le_of_ble_eq_true rfl) (fun z c2 hp => ?_)
      obtain ⟨rfl, rfl⟩ := hp
      refine gx_istore hC dr_Lw_law_676 (by decide) ?_
      refine gx_aload_n hC dr_Lw_law_678 rfl ?_
      refine gx_aload_n hC dr_Lw_law_679 rfl ?_
      refine gx_iload hC dr_Lw_law_680 rfl ?_
      refine gx_iconst (v := 1) hC dr_Lw_law_682 (by decide) ?_
      refine gx_iadd hC dr_Lw_law_683 ?_
      refine gx_sld hC hX dr_Lw_law_684 (la_ix hi hL 1 (by decide)) ?_
      refine gx_aload_n hC dr_Lw_law_685 rfl ?_
      refine gx_iload hC dr_Lw_law_686 rfl ?_
      refine gx_iconst (v := 2) hC dr_Lw_law_688 (by decide) ?_
      refine gx_iadd hC dr_Lw_law_689 ?_
      refine gx_sld hC hX dr_Lw_law_690 (la_ix hi hL 2 (by decide)) ?_
      refine gx_vI hC dr_Lw_law_691 lk_Lw_90 (mt_Mo_needs (G := (M, o)) g1) rfl (by decide) ⟨by decide, by decide⟩ ⟨by exact hk, by exact hn⟩ (by decide) ⟨_, _, rfl⟩ rfl rfl (Nat.le_of_ble_eq_true rfl) (fun z c2 hp => ?_)
      obtain ⟨rfl, rfl⟩ := hp
      refine gx_istore hC dr_Lw_law_694 (by decide) ?_
      refine gx_aload_n hC dr_Lw_law_696 rfl ?_
      refine gx_vI hC dr_Lw_law_697 lk_Lw_70 (mt_Mo_thrown (G := (M, o)) (M := W2) rfl) rfl (by decide) ⟨by decide, by decide⟩ ⟨by exact hk, by exact hn⟩ (by decide) ⟨_, _, rfl⟩ rfl rfl (Nat.le_of_ble_eq_true rfl) (fun z c2 hp => ?_)
      obtain ⟨rfl, rfl⟩ := hp
      refine gx_iload hC dr_Lw_law_700 rfl ?_
      refine gx_icmp_eq (tgt := 707) hC dr_Lw_law_702 (by decide) (fun _ => ?_) (fun e => absurd f3 e)
      refine gx_iload hC dr_Lw_law_707 rfl ?_
      refine gx_if_ne (tgt := 731) hC dr_Lw_law_709 (by decide) (fun e => ?_) (fun e => absurd e (by decide))
      refine gx_goto (tgt := 1123) hC dr_Lw_law_731 (by decide) ?_
      refine gx_lv (la_L i) ⟨rfl, rfl, rfl, rfl, rfl, trivial⟩ ?_
      exact kk f4 (Nat.le_refl (k + 1)) (Nat.le_refl (n + 6))
    · refine gx_aload_n hC dr_Lw_law_659 rfl ?_
      refine gx_aload_n hC dr_Lw_law_660 rfl ?_
      refine gx_iload hC dr_Lw_law_661 rfl ?_
      refine gx_iconst (v := 1) hC dr_Lw_law_663 (by decide) ?_
      refine gx_iadd hC dr_Lw_law_664 ?_
      refine gx_sld hC hX dr_Lw_law_665 (la_ix hi hL 1 (by decide)) ?_
      refine gx_aload_n hC dr_Lw_law_666 rfl ?_
      refine gx_iload hC dr_Lw_law_667 rfl ?_
      refine gx_iconst (v := 2) hC dr_Lw_law_669 (by decide) ?_
      refine gx_iadd hC dr_Lw_law_670 ?_
      refine gx_sld hC hX dr_Lw_law_671 (la_ix hi hL 2 (by decide)) ?_
      refine gx_aload_n hC dr_Lw_law_672 rfl ?_
      refine gx_sW hC dr_Lw_law_673 ly_88 (mw_needs_2 (X := W) (o := o) hfl f1) rfl (by decide) ⟨by decide, by decide⟩ ⟨by exact hk, by exact hn⟩ rfl (Nat.le_of_ble_eq_true rfl) (fun z c2 hp => ?_)
      obtain ⟨rfl, rfl⟩ := hp
      refine gx_istore hC dr_Lw_law_676 (by decide) ?_
      refine gx_aload_n hC dr_Lw_law_678 rfl ?_
      refine gx_aload_n hC dr_Lw_law_679 rfl ?_
      refine gx_iload hC dr_Lw_law_680 rfl ?_
      refine gx_iconst (v := 1) hC dr_Lw_law_682 (by decide) ?_
      refine gx_iadd hC dr_Lw_law_683 ?_
      refine gx_sld hC hX dr_Lw_law_684 (la_ix hi hL 1 (by decide)) ?_
      refine gx_aload_n hC dr_Lw_law_685 rfl ?_
      refine gx_iload hC dr_Lw_law_686 rfl ?_
      refine gx_iconst (v := 2) hC dr_Lw_law_688 (by decide) ?_
      refine gx_iadd hC dr_Lw_law_689 ?_
      refine gx_sld hC hX dr_Lw_law_690 (la_ix hi hL 2 (by decide)) ?_
      refine gx_vI hC dr_Lw_law_691 lk_Lw_90 (mt_Mo_needs (G := (M, o)) g1) rfl (by decide) ⟨by decide, by decide⟩ ⟨by exact hk, by exact hn⟩ (by decide) ⟨_, _, rfl⟩ rfl rfl (Nat.le_of_ble_eq_true rfl) (fun z c2 hp => ?_)
      obtain ⟨rfl, rfl⟩ := hp
      refine gx_istore hC dr_Lw_law_694 (by decide) ?_
      refine gx_aload_n hC dr_Lw_law_696 rfl ?_
      refine gx_vI hC dr_Lw_law_697 lk_Lw_70 (mt_Mo_thrown (G := (M, o)) (M := W2) rfl) rfl (by decide) ⟨by decide, by decide⟩ ⟨by exact hk, by exact hn⟩ (by decide) ⟨_, _, rfl⟩ rfl rfl (Nat.le_of_ble_eq_true rfl) (fun z c2 hp => ?_)
      obtain ⟨rfl, rfl⟩ := hp
      refine gx_iload hC dr_Lw_law_700 rfl ?_
      refine gx_icmp_eq (tgt := 707) hC dr_Lw_law_702 (by decide) (fun _ => ?_) (fun e => absurd f3 e)
      refine gx_iload hC dr_Lw_law_707 rfl ?_
      refine gx_if_ne (tgt := 731) hC dr_Lw_law_709 (by decide) (fun e => ?_) (fun e => absurd e (by decide))
      refine gx_goto (tgt := 1123) hC dr_Lw_law_731 (by decide) ?_
      refine gx_lv (la_L i) ⟨rfl, rfl, rfl, rfl, rfl, trivial⟩ ?_
      exact kk f4 (Nat.le_refl (k + 1)) (Nat.le_refl (n + 6))
  · refine gx_aload_n hC dr_Lw_law_659 rfl ?_
    refine gx_aload_n hC dr_Lw_law_660 rfl ?_
    refine gx_iload hC dr_Lw_law_661 rfl ?_
    refine gx_iconst (v := 1) hC dr_Lw_law_663 (by decide) ?_
    refine gx_iadd hC dr_Lw_law_664 ?_
    refine gx_sld hC hX dr_Lw_law_665 (la_ix hi hL 1 (by decide)) ?_
    refine gx_aload_n hC dr_Lw_law_666 rfl ?_
    refine gx_iload hC dr_Lw_law_667 rfl ?_
    refine gx_iconst (v := 2) hC dr_Lw_law_669 (by decide) ?_
    refine gx_iadd hC dr_Lw_law_670 ?_
    refine gx_sld hC hX dr_Lw_law_671 (la_ix hi hL 2 (by decide)) ?_
    refine gx_aload_n hC dr_Lw_law_672 rfl ?_
    refine gx_sW hC dr_Lw_law_673 ly_88 (mw_needs_r (X := W) (o := o) f1) rfl (by decide) ⟨by decide, by decide⟩ ⟨by exact hk, by exact hn⟩ rfl (Nat.le_of_ble_eq_true rfl) (fun z c2 hp => ?_)
    obtain ⟨rfl, rfl⟩ := hp
    have q9 : gz_ul o (0 : Int32).toInt (if (b, M2).1 = 0 then (Int64.ofNat (0 : Fin 2).val) else (Int64.ofNat (1 : Fin 2).val)) (0 : Int32).toInt = (if (b, M2).1 = 0 then (Int64.ofNat (0 : Fin 2).val) else (Int64.ofNat (1 : Fin 2).val)) := gz_uls _ _ _
    generalize gz_ul o (0 : Int32).toInt (if (b, M2).1 = 0 then (Int64.ofNat (0 : Fin 2).val) else (Int64.ofNat (1 : Fin 2).val)) = o2 at q9 ⊢
    refine gx_istore hC dr_Lw_law_676 (by decide) ?_
    refine gx_aload_n hC dr_Lw_law_678 rfl ?_
    refine gx_aload_n hC dr_Lw_law_679 rfl ?_
    refine gx_iload hC dr_Lw_law_680 rfl ?_
    refine gx_iconst (v := 1) hC dr_Lw_law_682 (by decide) ?_
    refine gx_iadd hC dr_Lw_law_683 ?_
    refine gx_sld hC hX dr_Lw_law_684 (la_ix hi hL 1 (by decide)) ?_
    refine gx_aload_n hC dr_Lw_law_685 rfl ?_
    refine gx_iload hC dr_Lw_law_686 rfl ?_
    refine gx_iconst (v := 2) hC dr_Lw_law_688 (by decide) ?_
    refine gx_iadd hC dr_Lw_law_689 ?_
    refine gx_sld hC hX dr_Lw_law_690 (la_ix hi hL 2 (by decide)) ?_
    refine gx_vI hC dr_Lw_law_691 lk_Lw_90 (mt_Mo_needs (G := (M2, o2)) g1) rfl (by decide) ⟨by decide, by decide⟩ ⟨by exact hk, by exact hn⟩ (by decide) ⟨_, _, rfl⟩ rfl rfl (Nat.le_of_ble_eq_true rfl) (fun z c2 hp => ?_)
    obtain ⟨rfl, rfl⟩ := hp
    refine gx_istore hC dr_Lw_law_694 (by decide) ?_
    refine gx_aload_n hC dr_Lw_law_696 rfl ?_
    refine gx_vI hC dr_Lw_law_697 lk_Lw_70 (mt_Mo_thrown (G := (M2, o2)) (M := W2) rfl) rfl (by decide) ⟨by decide, by decide⟩ ⟨by exact hk, by exact hn⟩ (by decide) ⟨_, _, rfl⟩ rfl rfl (Nat.le_of_ble_eq_true rfl) (fun z c2 hp => ?_)
    obtain ⟨rfl, rfl⟩ := hp
    refine gx_iload hC dr_Lw_law_700 rfl ?_
    refine gx_icmp_eq (tgt := 707) hC dr_Lw_law_702 (by decide) (fun _ => ?_) (fun e => absurd f3 e)
    refine gx_iload hC dr_Lw_law_707 rfl ?_
    refine gx_if_ne (tgt := 731) hC dr_Lw_law_709 (by decide) (fun e => absurd rfl e) (fun e => ?_)
    refine gx_aload_n hC dr_Lw_law_712 rfl ?_
    refine gx_iconst (v := 0) hC dr_Lw_law_713 (by decide) ?_
    refine gx_lald (o := 80) hC dr_Lw_law_714 (by decide) rfl (by decide) ?_
    refine gx_iload hC dr_Lw_law_715 rfl ?_
    refine gx_if_eq (tgt := 724) hC dr_Lw_law_717 (by decide) (fun e6 => ?_) (fun e6 => ?_)
    · refine gx_lconst hC dr_Lw_law_724 ?_
      refine gx_lcmp_eq (tgt := 731) hC dr_Lw_law_725 dr_Lw_law_726 (by decide) (fun _ => ?_) (fun e => absurd (q9.trans (if_pos e6)) e)
      refine gx_goto (tgt := 1123) hC dr_Lw_law_731 (by decide) ?_
      refine gx_lv (la_L i) ⟨rfl, rfl, rfl, rfl, rfl, trivial⟩ ?_
      exact kk f4 (Nat.le_refl (k + 1)) (Nat.le_refl (n + 6))
    · refine gx_lconst hC dr_Lw_law_720 ?_
      refine gx_goto (tgt := 725) hC dr_Lw_law_721 (by decide) ?_
      refine gx_lcmp_eq (tgt := 731) hC dr_Lw_law_725 dr_Lw_law_726 (by decide) (fun _ => ?_) (fun e => absurd (q9.trans (if_neg e6)) e)
      refine gx_goto (tgt := 1123) hC dr_Lw_law_731 (by decide) ?_
      refine gx_lv (la_L i) ⟨rfl, rfl, rfl, rfl, rfl, trivial⟩ ?_
      exact kk f4 (Nat.le_refl (k + 1)) (Nat.le_refl (n + 6))
theorem cs_run {x : gx_X} {L : Nat} {xs : Nat → Int32} (hC : gw_C 81 81 "PinSwapsLaw" bc_Lw_law 8 x) (hX : gs_X L xs x) (hfl : (gx_l x).flags = pinnedFlags ++ [noTraceFlag]) {M W : gq_M} {o : Int → Int64} (hR : rl_R M W) {i k n : Nat} (hi : i + 7 ≤ L) (hL : L ≤ 3584) (hk : k + 1 ≤ room_1.cells) (hn : n + 6 ≤ room_1.slots) (kk : la_K x i k n) : gw_G 81 8 room_1 x k n (ca_A (M, W, o)) 734 (la_L i) [] := by
  obtain ⟨y, M2, W2, f1, f2, f3⟩ := rl_run hR
  have hk0 : k ≤ room_1.cells := by omega
  have hn0 : n ≤ room_1.slots := by omega
  refine gx_aload_n hC dr_Lw_law_734 rfl ?_
  refine gx_vI hC dr_Lw_law_735 lk_Lw_91 (mt_PS_run (G := (W, o)) f1) rfl (by decide) ⟨by decide, by decide⟩ ⟨by exact hk0, by exact hn0⟩ (by decide) ⟨_, _, rfl⟩ rfl rfl (Nat.le_of_ble_eq_true rfl) (fun z c2 hp => ?_)
  obtain ⟨rfl, rfl⟩ := hp
  refine gx_aload_n hC dr_Lw_law_738 rfl ?_
  refine gx_vI hC dr_Lw_law_739 lk_Lw_94 (mt_Mo_run (G := (M2, o)) f2) rfl (by decide) ⟨by decide, by decide⟩ ⟨by exact hk0, by exact hn0⟩ (by decide) ⟨_, _, rfl⟩ rfl rfl (Nat.le_of_ble_eq_true rfl) (fun z c2 hp => ?_)
  obtain ⟨rfl, rfl⟩ := hp
  refine gx_icmp_eq (tgt := 1123) hC dr_Lw_law_742 (by decide) (fun _ => ?_) (fun e => absurd rfl e)
  exact kk f3 (Nat.le_succ k) (Nat.le_add_right n 6)
set_option maxHeartbeats 1000000 in
theorem cs_netOf {x : gx_X} {L : Nat} {xs : Nat → Int32} (hC : gw_C 81 81 "PinSwapsLaw" bc_Lw_law 8 x) (hX : gs_X L xs x) (hfl : (gx_l x).flags = pinnedFlags ++ [noTraceFlag]) {M W : gq_M} {o : Int → Int64} (hR : rl_R M W) {i k n : Nat} (hi : i + 7 ≤ L) (hL : L ≤ 3584) (hk : k + 1 ≤ room_1.cells) (hn : n + 6 ≤ room_1.slots) (kk : la_K x i k n) : gw_G 81 8 room_1 x k n (ca_A (M, W, o)) 747 (la_L i) [] := by
  obtain ⟨b, W2, g1, g2⟩ := op_netOf hR (xs (nI i + 1).toInt.toNat)
  rcases g2 with ⟨kd, f1, f2, f3, f4⟩ | ⟨f1, f3, f4⟩
  · have e9 := kd_netOf f1
    subst e9
    refine gx_aload_n hC dr_Lw_law_747 rfl ?_
    refine gx_aload_n hC dr_Lw_law_748 rfl ?_
    refine gx_iload hC dr_Lw_law_749 rfl ?_
    refine gx_iconst (v := 1) hC dr_Lw_law_751 (by decide) ?_
    refine gx_iadd hC dr_Lw_law_752 ?_
    refine gx_sld hC hX dr_Lw_law_753 (la_ix hi hL 1 (by decide)) ?_
    refine gx_aload_n hC dr_Lw_law_754 rfl ?_
    refine gx_sW hC dr_Lw_law_755 ly_95 (mw_netOf_1 (X := W) (o := o) hfl f1) rfl (by decide) ⟨by decide, by decide⟩ ⟨by exact hk, by exact hn⟩ rfl (Nat.le_of_ble_eq_true rfl) (fun z c2 hp => ?_)
    obtain ⟨rfl, rfl⟩ := hp
    refine gx_istore hC dr_Lw_law_758 (by decide) ?_
    refine gx_aload_n hC dr_Lw_law_760 rfl ?_
    refine gx_aload_n hC dr_Lw_law_761 rfl ?_
    refine gx_iload hC dr_Lw_law_762 rfl ?_
    refine gx_iconst (v := 1) hC dr_Lw_law_764 (by decide) ?_
    refine gx_iadd hC dr_Lw_law_765 ?_
    refine gx_sld hC hX dr_Lw_law_766 (la_ix hi hL 1 (by decide)) ?_
    refine gx_vI hC dr_Lw_law_767 lk_Lw_97 (mt_Mo_netOf (G := (M, o)) g1) rfl (by decide) ⟨by decide, by decide⟩ ⟨by exact hk, by exact hn⟩ (by decide) ⟨_, _, rfl⟩ rfl rfl (Nat.le_of_ble_eq_true rfl) (fun z c2 hp => ?_)
    obtain ⟨rfl, rfl⟩ := hp
    refine gx_istore hC dr_Lw_law_770 (by decide) ?_
    refine gx_aload_n hC dr_Lw_law_772 rfl ?_
    refine gx_vI hC dr_Lw_law_773 lk_Lw_70 (mt_Mo_thrown (G := (M, o)) (M := W2) rfl) rfl (by decide) ⟨by decide, by decide⟩ ⟨by exact hk, by exact hn⟩ (by decide) ⟨_, _, rfl⟩ rfl rfl (Nat.le_of_ble_eq_true rfl) (fun z c2 hp => ?_)
    obtain ⟨rfl, rfl⟩ := hp
    refine gx_iload hC dr_Lw_law_776 rfl ?_
    refine gx_icmp_eq (tgt := 783) hC dr_Lw_law_778 (by decide) (fun _ => ?_) (fun e => absurd f3 e)
    refine gx_iload hC dr_Lw_law_783 rfl ?_
    refine gx_if_ne (tgt := 800) hC dr_Lw_law_785 (by decide) (fun e => ?_) (fun e => absurd e (by decide))
    refine gx_goto (tgt := 1123) hC dr_Lw_law_800 (by decide) ?_
    refine gx_lv (la_L i) ⟨rfl, rfl, rfl, rfl, rfl, trivial⟩ ?_
    exact kk f4 (Nat.le_refl (k + 1)) (Nat.le_refl (n + 6))
  · refine gx_aload_n hC dr_Lw_law_747 rfl ?_
    refine gx_aload_n hC dr_Lw_law_748 rfl ?_
    refine gx_iload hC dr_Lw_law_749 rfl ?_
    refine gx_iconst (v := 1) hC dr_Lw_law_751 (by decide) ?_
    refine gx_iadd hC dr_Lw_law_752 ?_
    refine gx_sld hC hX dr_Lw_law_753 (la_ix hi hL 1 (by decide)) ?_
    refine gx_aload_n hC dr_Lw_law_754 rfl ?_
    refine gx_sW hC dr_Lw_law_755 ly_95 (mw_netOf_r (X := W) (o := o) f1) rfl (by decide) ⟨by decide, by decide⟩ ⟨by exact hk, by exact hn⟩ rfl (Nat.le_of_ble_eq_true rfl) (fun z c2 hp => ?_)
    obtain ⟨rfl, rfl⟩ := hp
    have q9 : gz_ul o (0 : Int32).toInt b.toInt64 (0 : Int32).toInt = b.toInt64 := gz_uls _ _ _
    generalize gz_ul o (0 : Int32).toInt b.toInt64 = o2 at q9 ⊢
    refine gx_istore hC dr_Lw_law_758 (by decide) ?_
    refine gx_aload_n hC dr_Lw_law_760 rfl ?_
    refine gx_aload_n hC dr_Lw_law_761 rfl ?_
    refine gx_iload hC dr_Lw_law_762 rfl ?_
    refine gx_iconst (v := 1) hC dr_Lw_law_764 (by decide) ?_
    refine gx_iadd hC dr_Lw_law_765 ?_
    refine gx_sld hC hX dr_Lw_law_766 (la_ix hi hL 1 (by decide)) ?_
    refine gx_vI hC dr_Lw_law_767 lk_Lw_97 (mt_Mo_netOf (G := (M, o2)) g1) rfl (by decide) ⟨by decide, by decide⟩ ⟨by exact hk, by exact hn⟩ (by decide) ⟨_, _, rfl⟩ rfl rfl (Nat.le_of_ble_eq_true rfl) (fun z c2 hp => ?_)
    obtain ⟨rfl, rfl⟩ := hp
    refine gx_istore hC dr_Lw_law_770 (by decide) ?_
    refine gx_aload_n hC dr_Lw_law_772 rfl ?_
    refine gx_vI hC dr_Lw_law_773 lk_Lw_70 (mt_Mo_thrown (G := (M, o2)) (M := W2) rfl) rfl (by decide) ⟨by decide, by decide⟩ ⟨by exact hk, by exact hn⟩ (by decide) ⟨_, _, rfl⟩ rfl rfl (Nat.le_of_ble_eq_true rfl) (fun z c2 hp => ?_)
    obtain ⟨rfl, rfl⟩ := hp
    refine gx_iload hC dr_Lw_law_776 rfl ?_
    refine gx_icmp_eq (tgt := 783) hC dr_Lw_law_778 (by decide) (fun _ => ?_) (fun e => absurd f3 e)
    refine gx_iload hC dr_Lw_law_783 rfl ?_
    refine gx_if_ne (tgt := 800) hC dr_Lw_law_785 (by decide) (fun e => absurd rfl e) (fun e => ?_)
    refine gx_aload_n hC dr_Lw_law_788 rfl ?_
    refine gx_iconst (v := 0) hC dr_Lw_law_789 (by decide) ?_
    refine gx_lald (o := 80) hC dr_Lw_law_790 (by decide) rfl (by decide) ?_
    refine gx_iload hC dr_Lw_law_791 rfl ?_
    refine gx_i2l hC dr_Lw_law_793 ?_
    refine gx_lcmp_eq (tgt := 800) hC dr_Lw_law_794 dr_Lw_law_795 (by decide) (fun _ => ?_) (fun e => absurd q9 e)
    refine gx_goto (tgt := 1123) hC dr_Lw_law_800 (by decide) ?_
    refine gx_lv (la_L i) ⟨rfl, rfl, rfl, rfl, rfl, trivial⟩ ?_
    exact kk f4 (Nat.le_refl (k + 1)) (Nat.le_refl (n + 6))
theorem cs_sum {x : gx_X} {L : Nat} {xs : Nat → Int32} (hC : gw_C 81 81 "PinSwapsLaw" bc_Lw_law 8 x) (hX : gs_X L xs x) (hfl : (gx_l x).flags = pinnedFlags ++ [noTraceFlag]) {M W : gq_M} {o : Int → Int64} (hR : rl_R M W) {i k n : Nat} (hi : i + 7 ≤ L) (hL : L ≤ 3584) (hk : k + 1 ≤ room_1.cells) (hn : n + 6 ≤ room_1.slots) (kk : la_K x i k n) : gw_G 81 8 room_1 x k n (ca_A (M, W, o)) 803 (la_L i) [] := by
  obtain ⟨y, W2, f1, f2, f3⟩ := op_sum hR
  have hk0 : k ≤ room_1.cells := by omega
  have hn0 : n ≤ room_1.slots := by omega
  refine gx_aload_n hC dr_Lw_law_803 rfl ?_
  refine gx_vJ hC dr_Lw_law_804 lk_Lw_98 (mt_PS_sum (G := (W, o)) f1) rfl (by decide) ⟨by decide, by decide⟩ ⟨by exact hk0, by exact hn0⟩ (by decide) ⟨_, _, rfl⟩ rfl rfl (Nat.le_of_ble_eq_true rfl) (fun z c2 hp => ?_)
  obtain ⟨rfl, rfl⟩ := hp
  refine gx_aload_n hC dr_Lw_law_807 rfl ?_
  refine gx_vJ hC dr_Lw_law_808 lk_Lw_102 (mt_Mo_sum (G := (M, o)) f2) rfl (by decide) ⟨by decide, by decide⟩ ⟨by exact hk0, by exact hn0⟩ (by decide) ⟨_, _, rfl⟩ rfl rfl (Nat.le_of_ble_eq_true rfl) (fun z c2 hp => ?_)
  obtain ⟨rfl, rfl⟩ := hp
  refine gx_lcmp_eq (tgt := 1123) hC dr_Lw_law_811 dr_Lw_law_812 (by decide) (fun _ => ?_) (fun e => absurd rfl e)
  exact kk f3 (Nat.le_succ k) (Nat.le_add_right n 6)
theorem cs_before {x : gx_X} {L : Nat} {xs : Nat → Int32} (hC : gw_C 81 81 "PinSwapsLaw" bc_Lw_law 8 x) (hX : gs_X L xs x) (hfl : (gx_l x).flags = pinnedFlags ++ [noTraceFlag]) {M W : gq_M} {o : Int → Int64} (hR : rl_R M W) {i k n : Nat} (hi : i + 7 ≤ L) (hL : L ≤ 3584) (hk : k + 1 ≤ room_1.cells) (hn : n + 6 ≤ room_1.slots) (kk : la_K x i k n) : gw_G 81 8 room_1 x k n (ca_A (M, W, o)) 817 (la_L i) [] := by
  obtain ⟨y, W2, f1, f2, f3⟩ := op_before hR
  have hk0 : k ≤ room_1.cells := by omega
  have hn0 : n ≤ room_1.slots := by omega
  refine gx_aload_n hC dr_Lw_law_817 rfl ?_
  refine gx_vJ hC dr_Lw_law_818 lk_Lw_103 (mt_PS_before (G := (W, o)) f1) rfl (by decide) ⟨by decide, by decide⟩ ⟨by exact hk0, by exact hn0⟩ (by decide) ⟨_, _, rfl⟩ rfl rfl (Nat.le_of_ble_eq_true rfl) (fun z c2 hp => ?_)
  obtain ⟨rfl, rfl⟩ := hp
  refine gx_aload_n hC dr_Lw_law_821 rfl ?_
  refine gx_vJ hC dr_Lw_law_822 lk_Lw_106 (mt_Mo_before (G := (M, o)) f2) rfl (by decide) ⟨by decide, by decide⟩ ⟨by exact hk0, by exact hn0⟩ (by decide) ⟨_, _, rfl⟩ rfl rfl (Nat.le_of_ble_eq_true rfl) (fun z c2 hp => ?_)
  obtain ⟨rfl, rfl⟩ := hp
  refine gx_lcmp_eq (tgt := 1123) hC dr_Lw_law_825 dr_Lw_law_826 (by decide) (fun _ => ?_) (fun e => absurd rfl e)
  exact kk f3 (Nat.le_succ k) (Nat.le_add_right n 6)
set_option maxHeartbeats 1000000 in
theorem cs_dual {x : gx_X} {L : Nat} {xs : Nat → Int32} (hC : gw_C 81 81 "PinSwapsLaw" bc_Lw_law 8 x) (hX : gs_X L xs x) (hfl : (gx_l x).flags = pinnedFlags ++ [noTraceFlag]) {M W : gq_M} {o : Int → Int64} (hR : rl_R M W) {i k n : Nat} (hi : i + 7 ≤ L) (hL : L ≤ 3584) (hk : k + 1 ≤ room_1.cells) (hn : n + 6 ≤ room_1.slots) (kk : la_K x i k n) : gw_G 81 8 room_1 x k n (ca_A (M, W, o)) 831 (la_L i) [] := by
  obtain ⟨b, W2, g1, g2⟩ := op_dual hR (xs (nI i + 1).toInt.toNat) (xs (nI i + 2).toInt.toNat)
  rcases g2 with ⟨kd, f1, f2, f3, f4⟩ | ⟨M2, f1, f3, f4⟩
  · have e9 := kd_dual f1
    subst e9
    refine gx_aload_n hC dr_Lw_law_831 rfl ?_
    refine gx_aload_n hC dr_Lw_law_832 rfl ?_
    refine gx_iload hC dr_Lw_law_833 rfl ?_
    refine gx_iconst (v := 1) hC dr_Lw_law_835 (by decide) ?_
    refine gx_iadd hC dr_Lw_law_836 ?_
    refine gx_sld hC hX dr_Lw_law_837 (la_ix hi hL 1 (by decide)) ?_
    refine gx_aload_n hC dr_Lw_law_838 rfl ?_
    refine gx_iload hC dr_Lw_law_839 rfl ?_
    refine gx_iconst (v := 2) hC dr_Lw_law_841 (by decide) ?_
    refine gx_iadd hC dr_Lw_law_842 ?_
    refine gx_sld hC hX dr_Lw_law_843 (la_ix hi hL 2 (by decide)) ?_
    refine gx_aload_n hC dr_Lw_law_844 rfl ?_
    refine gx_sW hC dr_Lw_law_845 ly_107 (mw_dual_1 (X := W) (o := o) hfl f1) rfl (by decide) ⟨by decide, by decide⟩ ⟨by exact hk, by exact hn⟩ rfl (Nat.le_of_ble_eq_true rfl) (fun z c2 hp => ?_)
    obtain ⟨rfl, rfl⟩ := hp
    refine gx_istore hC dr_Lw_law_848 (by decide) ?_
    refine gx_aload_n hC dr_Lw_law_850 rfl ?_
    refine gx_aload_n hC dr_Lw_law_851 rfl ?_
    refine gx_iload hC dr_Lw_law_852 rfl ?_
    refine gx_iconst (v := 1) hC dr_Lw_law_854 (by decide) ?_
    refine gx_iadd hC dr_Lw_law_855 ?_
    refine gx_sld hC hX dr_Lw_law_856 (la_ix hi hL 1 (by decide)) ?_
    refine gx_aload_n hC dr_Lw_law_857 rfl ?_
    refine gx_iload hC dr_Lw_law_858 rfl ?_
    refine gx_iconst (v := 2) hC dr_Lw_law_860 (by decide) ?_
    refine gx_iadd hC dr_Lw_law_861 ?_
    refine gx_sld hC hX dr_Lw_law_862 (la_ix hi hL 2 (by decide)) ?_
    refine gx_vJ hC dr_Lw_law_863 lk_Lw_109 (mt_Mo_dual (G := (M, o)) g1) rfl (by decide) ⟨by decide, by decide⟩ ⟨by exact hk, by exact hn⟩ (by decide) ⟨_, _, rfl⟩ rfl rfl (Nat.le_of_ble_eq_true rfl) (fun z c2 hp => ?_)
    obtain ⟨rfl, rfl⟩ := hp
    refine gx_lstore hC dr_Lw_law_866 (by decide) ?_
    refine gx_aload_n hC dr_Lw_law_868 rfl ?_
    refine gx_vI hC dr_Lw_law_869 lk_Lw_70 (mt_Mo_thrown (G := (M, o)) (M := W2) rfl) rfl (by decide) ⟨by decide, by decide⟩ ⟨by exact hk, by exact hn⟩ (by decide) ⟨_, _, rfl⟩ rfl rfl (Nat.le_of_ble_eq_true rfl) (fun z c2 hp => ?_)
    obtain ⟨rfl, rfl⟩ := hp
    refine gx_iload hC dr_Lw_law_872 rfl ?_
    refine gx_icmp_eq (tgt := 879) hC dr_Lw_law_874 (by decide) (fun _ => ?_) (fun e => absurd f3 e)
    refine gx_iload hC dr_Lw_law_879 rfl ?_
    refine gx_if_ne (tgt := 895) hC dr_Lw_law_881 (by decide) (fun e => ?_) (fun e => absurd e (by decide))
    refine gx_goto (tgt := 1123) hC dr_Lw_law_895 (by decide) ?_
    refine gx_lv (la_L i) ⟨rfl, rfl, rfl, rfl, rfl, trivial⟩ ?_
    exact kk f4 (Nat.le_refl (k + 1)) (Nat.le_refl (n + 6))
  · refine gx_aload_n hC dr_Lw_law_831 rfl ?_
    refine gx_aload_n hC dr_Lw_law_832 rfl ?_
    refine gx_iload hC dr_Lw_law_833 rfl ?_
    refine gx_iconst (v := 1) hC dr_Lw_law_835 (by decide) ?_
    refine gx_iadd hC dr_Lw_law_836 ?_
    refine gx_sld hC hX dr_Lw_law_837 (la_ix hi hL 1 (by decide)) ?_
    refine gx_aload_n hC dr_Lw_law_838 rfl ?_
    refine gx_iload hC dr_Lw_law_839 rfl ?_
    refine gx_iconst (v := 2) hC dr_Lw_law_841 (by decide) ?_
    refine gx_iadd hC dr_Lw_law_842 ?_
    refine gx_sld hC hX dr_Lw_law_843 (la_ix hi hL 2 (by decide)) ?_
    refine gx_aload_n hC dr_Lw_law_844 rfl ?_
    refine gx_sW hC dr_Lw_law_845 ly_107 (mw_dual_r (X := W) (o := o) f1) rfl (by decide) ⟨by decide, by decide⟩ ⟨by exact hk, by exact hn⟩ rfl (Nat.le_of_ble_eq_true rfl) (fun z c2 hp => ?_)
    obtain ⟨rfl, rfl⟩ := hp
    have q9 : gz_ul o (0 : Int32).toInt (b, M2).1 (0 : Int32).toInt = (b, M2).1 := gz_uls _ _ _
    generalize gz_ul o (0 : Int32).toInt (b, M2).1 = o2 at q9 ⊢
    refine gx_istore hC dr_Lw_law_848 (by decide) ?_
    refine gx_aload_n hC dr_Lw_law_850 rfl ?_
    refine gx_aload_n hC dr_Lw_law_851 rfl ?_
    refine gx_iload hC dr_Lw_law_852 rfl ?_
    refine gx_iconst (v := 1) hC dr_Lw_law_854 (by decide) ?_
    refine gx_iadd hC dr_Lw_law_855 ?_
    refine gx_sld hC hX dr_Lw_law_856 (la_ix hi hL 1 (by decide)) ?_
    refine gx_aload_n hC dr_Lw_law_857 rfl ?_
    refine gx_iload hC dr_Lw_law_858 rfl ?_
    refine gx_iconst (v := 2) hC dr_Lw_law_860 (by decide) ?_
    refine gx_iadd hC dr_Lw_law_861 ?_
    refine gx_sld hC hX dr_Lw_law_862 (la_ix hi hL 2 (by decide)) ?_
    refine gx_vJ hC dr_Lw_law_863 lk_Lw_109 (mt_Mo_dual (G := (M2, o2)) g1) rfl (by decide) ⟨by decide, by decide⟩ ⟨by exact hk, by exact hn⟩ (by decide) ⟨_, _, rfl⟩ rfl rfl (Nat.le_of_ble_eq_true rfl) (fun z c2 hp => ?_)
    obtain ⟨rfl, rfl⟩ := hp
    refine gx_lstore hC dr_Lw_law_866 (by decide) ?_
    refine gx_aload_n hC dr_Lw_law_868 rfl ?_
    refine gx_vI hC dr_Lw_law_869 lk_Lw_70 (mt_Mo_thrown (G := (M2, o2)) (M := W2) rfl) rfl (by decide) ⟨by decide, by decide⟩ ⟨by exact hk, by exact hn⟩ (by decide) ⟨_, _, rfl⟩ rfl rfl (Nat.le_of_ble_eq_true rfl) (fun z c2 hp => ?_)
    obtain ⟨rfl, rfl⟩ := hp
    refine gx_iload hC dr_Lw_law_872 rfl ?_
    refine gx_icmp_eq (tgt := 879) hC dr_Lw_law_874 (by decide) (fun _ => ?_) (fun e => absurd f3 e)
    refine gx_iload hC dr_Lw_law_879 rfl ?_
    refine gx_if_ne (tgt := 895) hC dr_Lw_law_881 (by decide) (fun e => absurd rfl e) (fun e => ?_)
    refine gx_aload_n hC dr_Lw_law_884 rfl ?_
    refine gx_iconst (v := 0) hC dr_Lw_law_885 (by decide) ?_
    refine gx_lald (o := 80) hC dr_Lw_law_886 (by decide) rfl (by decide) ?_
    refine gx_lload hC dr_Lw_law_887 rfl ?_
    refine gx_lcmp_eq (tgt := 895) hC dr_Lw_law_889 dr_Lw_law_890 (by decide) (fun _ => ?_) (fun e => absurd q9 e)
    refine gx_goto (tgt := 1123) hC dr_Lw_law_895 (by decide) ?_
    refine gx_lv (la_L i) ⟨rfl, rfl, rfl, rfl, rfl, trivial⟩ ?_
    exact kk f4 (Nat.le_refl (k + 1)) (Nat.le_refl (n + 6))
set_option maxHeartbeats 1000000 in
theorem cs_note {x : gx_X} {L : Nat} {xs : Nat → Int32} (hC : gw_C 81 81 "PinSwapsLaw" bc_Lw_law 8 x) (hX : gs_X L xs x) (hfl : (gx_l x).flags = pinnedFlags ++ [noTraceFlag]) {M W : gq_M} {o : Int → Int64} (hR : rl_R M W) {i k n : Nat} (hi : i + 7 ≤ L) (hL : L ≤ 3584) (hk : k + 1 ≤ room_1.cells) (hn : n + 6 ≤ room_1.slots) (kk : la_K x i k n) : gw_G 81 8 room_1 x k n (ca_A (M, W, o)) 898 (la_L i) [] := by
  obtain ⟨b, W2, g1, g2⟩ := op_note hR (xs (nI i + 1).toInt.toNat) (xs (nI i + 2).toInt.toNat)
  rcases g2 with ⟨kd, f1, f2, f3, f4⟩ | ⟨f1, f3, f4⟩
  · have e9 := kd_note f1
    subst e9
    refine gx_aload_n hC dr_Lw_law_898 rfl ?_
    refine gx_aload_n hC dr_Lw_law_899 rfl ?_
    refine gx_iload hC dr_Lw_law_900 rfl ?_
    refine gx_iconst (v := 1) hC dr_Lw_law_902 (by decide) ?_
    refine gx_iadd hC dr_Lw_law_903 ?_
    refine gx_sld hC hX dr_Lw_law_904 (la_ix hi hL 1 (by decide)) ?_
    refine gx_aload_n hC dr_Lw_law_905 rfl ?_
    refine gx_iload hC dr_Lw_law_906 rfl ?_
    refine gx_iconst (v := 2) hC dr_Lw_law_908 (by decide) ?_
    refine gx_iadd hC dr_Lw_law_909 ?_
    refine gx_sld hC hX dr_Lw_law_910 (la_ix hi hL 2 (by decide)) ?_
    refine gx_aload_n hC dr_Lw_law_911 rfl ?_
    refine gx_sW hC dr_Lw_law_912 ly_110 (mw_note_1 (X := W) (o := o) hfl f1) rfl (by decide) ⟨by decide, by decide⟩ ⟨by exact hk, by exact hn⟩ rfl (Nat.le_of_ble_eq_true rfl) (fun z c2 hp => ?_)
    obtain ⟨rfl, rfl⟩ := hp
    refine gx_istore hC dr_Lw_law_915 (by decide) ?_
    refine gx_aload_n hC dr_Lw_law_917 rfl ?_
    refine gx_aload_n hC dr_Lw_law_918 rfl ?_
    refine gx_iload hC dr_Lw_law_919 rfl ?_
    refine gx_iconst (v := 1) hC dr_Lw_law_921 (by decide) ?_
    refine gx_iadd hC dr_Lw_law_922 ?_
    refine gx_sld hC hX dr_Lw_law_923 (la_ix hi hL 1 (by decide)) ?_
    refine gx_aload_n hC dr_Lw_law_924 rfl ?_
    refine gx_iload hC dr_Lw_law_925 rfl ?_
    refine gx_iconst (v := 2) hC dr_Lw_law_927 (by decide) ?_
    refine gx_iadd hC dr_Lw_law_928 ?_
    refine gx_sld hC hX dr_Lw_law_929 (la_ix hi hL 2 (by decide)) ?_
    refine gx_vI hC dr_Lw_law_930 lk_Lw_112 (mt_Mo_note (G := (M, o)) g1) rfl (by decide) ⟨by decide, by decide⟩ ⟨by exact hk, by exact hn⟩ (by decide) ⟨_, _, rfl⟩ rfl rfl (Nat.le_of_ble_eq_true rfl) (fun z c2 hp => ?_)
    obtain ⟨rfl, rfl⟩ := hp
    refine gx_istore hC dr_Lw_law_933 (by decide) ?_
    refine gx_aload_n hC dr_Lw_law_935 rfl ?_
    refine gx_vI hC dr_Lw_law_936 lk_Lw_70 (mt_Mo_thrown (G := (M, o)) (M := W2) rfl) rfl (by decide) ⟨by decide, by decide⟩ ⟨by exact hk, by exact hn⟩ (by decide) ⟨_, _, rfl⟩ rfl rfl (Nat.le_of_ble_eq_true rfl) (fun z c2 hp => ?_)
    obtain ⟨rfl, rfl⟩ := hp
    refine gx_iload hC dr_Lw_law_939 rfl ?_
    refine gx_icmp_eq (tgt := 946) hC dr_Lw_law_941 (by decide) (fun _ => ?_) (fun e => absurd f3 e)
    refine gx_iload hC dr_Lw_law_946 rfl ?_
    refine gx_if_ne (tgt := 963) hC dr_Lw_law_948 (by decide) (fun e => ?_) (fun e => absurd e (by decide))
    refine gx_goto (tgt := 1123) hC dr_Lw_law_963 (by decide) ?_
    refine gx_lv (la_L i) ⟨rfl, rfl, rfl, rfl, rfl, trivial⟩ ?_
    exact kk f4 (Nat.le_refl (k + 1)) (Nat.le_refl (n + 6))
  · refine gx_aload_n hC dr_Lw_law_898 rfl ?_
    refine gx_aload_n hC dr_Lw_law_899 rfl ?_
    refine gx_iload hC dr_Lw_law_900 rfl ?_
    refine gx_iconst (v := 1) hC dr_Lw_law_902 (by decide) ?_
    refine gx_iadd hC dr_Lw_law_903 ?_
    refine gx_sld hC hX dr_Lw_law_904 (la_ix hi hL 1 (by decide)) ?_
    refine gx_aload_n hC dr_Lw_law_905 rfl ?_
    refine gx_iload hC dr_Lw_law_906 rfl ?_
    refine gx_iconst (v := 2) hC dr_Lw_law_908 (by decide) ?_
    refine gx_iadd hC dr_Lw_law_909 ?_
    refine gx_sld hC hX dr_Lw_law_910 (la_ix hi hL 2 (by decide)) ?_
    refine gx_aload_n hC dr_Lw_law_911 rfl ?_
    refine gx_sW hC dr_Lw_law_912 ly_110 (mw_note_r (X := W) (o := o) f1) rfl (by decide) ⟨by decide, by decide⟩ ⟨by exact hk, by exact hn⟩ rfl (Nat.le_of_ble_eq_true rfl) (fun z c2 hp => ?_)
    obtain ⟨rfl, rfl⟩ := hp
    have q9 : gz_ul o (0 : Int32).toInt b.toInt64 (0 : Int32).toInt = b.toInt64 := gz_uls _ _ _
    generalize gz_ul o (0 : Int32).toInt b.toInt64 = o2 at q9 ⊢
    refine gx_istore hC dr_Lw_law_915 (by decide) ?_
    refine gx_aload_n hC dr_Lw_law_917 rfl ?_
    refine gx_aload_n hC dr_Lw_law_918 rfl ?_
    refine gx_iload hC dr_Lw_law_919 rfl ?_
    refine gx_iconst (v := 1) hC dr_Lw_law_921 (by decide) ?_
    refine gx_iadd hC dr_Lw_law_922 ?_
    refine gx_sld hC hX dr_Lw_law_923 (la_ix hi hL 1 (by decide)) ?_
    refine gx_aload_n hC dr_Lw_law_924 rfl ?_
    refine gx_iload hC dr_Lw_law_925 rfl ?_
    refine gx_iconst (v := 2) hC dr_Lw_law_927 (by decide) ?_
    refine gx_iadd hC dr_Lw_law_928 ?_
    refine gx_sld hC hX dr_Lw_law_929 (la_ix hi hL 2 (by decide)) ?_
    refine gx_vI hC dr_Lw_law_930 lk_Lw_112 (mt_Mo_note (G := (M, o2)) g1) rfl (by decide) ⟨by decide, by decide⟩ ⟨by exact hk, by exact hn⟩ (by decide) ⟨_, _, rfl⟩ rfl rfl (Nat.le_of_ble_eq_true rfl) (fun z c2 hp => ?_)
    obtain ⟨rfl, rfl⟩ := hp
    refine gx_istore hC dr_Lw_law_933 (by decide) ?_
    refine gx_aload_n hC dr_Lw_law_935 rfl ?_
    refine gx_vI hC dr_Lw_law_936 lk_Lw_70 (mt_Mo_thrown (G := (M, o2)) (M := W2) rfl) rfl (by decide) ⟨by decide, by decide⟩ ⟨by exact hk, by exact hn⟩ (by decide) ⟨_, _, rfl⟩ rfl rfl (Nat.le_of_ble_eq_true rfl) (fun z c2 hp => ?_)
    obtain ⟨rfl, rfl⟩ := hp
    refine gx_iload hC dr_Lw_law_939 rfl ?_
    refine gx_icmp_eq (tgt := 946) hC dr_Lw_law_941 (by decide) (fun _ => ?_) (fun e => absurd f3 e)
    refine gx_iload hC dr_Lw_law_946 rfl ?_
    refine gx_if_ne (tgt := 963) hC dr_Lw_law_948 (by decide) (fun e => absurd rfl e) (fun e => ?_)
    refine gx_aload_n hC dr_Lw_law_951 rfl ?_
    refine gx_iconst (v := 0) hC dr_Lw_law_952 (by decide) ?_
    refine gx_lald (o := 80) hC dr_Lw_law_953 (by decide) rfl (by decide) ?_
    refine gx_iload hC dr_Lw_law_954 rfl ?_
    refine gx_i2l hC dr_Lw_law_956 ?_
    refine gx_lcmp_eq (tgt := 963) hC dr_Lw_law_957 dr_Lw_law_958 (by decide) (fun _ => ?_) (fun e => absurd q9 e)
    refine gx_goto (tgt := 1123) hC dr_Lw_law_963 (by decide) ?_
    refine gx_lv (la_L i) ⟨rfl, rfl, rfl, rfl, rfl, trivial⟩ ?_
    exact kk f4 (Nat.le_refl (k + 1)) (Nat.le_refl (n + 6))
set_option maxHeartbeats 1000000 in
theorem cs_gate {x : gx_X} {L : Nat} {xs : Nat → Int32} (hC : gw_C 81 81 "PinSwapsLaw" bc_Lw_law 8 x) (hX : gs_X L xs x) (hfl : (gx_l x).flags = pinnedFlags ++ [noTraceFlag]) {M W : gq_M} {o : Int → Int64} (hR : rl_R M W) {i k n : Nat} (hi : i + 7 ≤ L) (hL : L ≤ 3584) (hk : k + 1 ≤ room_1.cells) (hn : n + 6 ≤ room_1.slots) (kk : la_K x i k n) : gw_G 81 8 room_1 x k n (ca_A (M, W, o)) 966 (la_L i) [] := by
  obtain ⟨b, W2, g1, g2⟩ := op_gate hR (xs (nI i + 1).toInt.toNat)
  rcases g2 with ⟨kd, f1, f2, f3, f4⟩ | ⟨M2, f1, f3, f4⟩
  · have e9 := kd_gate f1
    subst e9
    refine gx_aload_n hC dr_Lw_law_966 rfl ?_
    refine gx_aload_n hC dr_Lw_law_967 rfl ?_
    refine gx_iload hC dr_Lw_law_968 rfl ?_
    refine gx_iconst (v := 1) hC dr_Lw_law_970 (by decide) ?_
    refine gx_iadd hC dr_Lw_law_971 ?_
    refine gx_sld hC hX dr_Lw_law_972 (la_ix hi hL 1 (by decide)) ?_
    refine gx_aload_n hC dr_Lw_law_973 rfl ?_
    refine gx_sW hC dr_Lw_law_974 ly_113 (mw_gate_2 (X := W) (o := o) hfl f1) rfl (by decide) ⟨by decide, by decide⟩ ⟨by exact hk, by exact hn⟩ rfl (Nat.le_of_ble_eq_true rfl) (fun z c2 hp => ?_)
    obtain ⟨rfl, rfl⟩ := hp
    refine gx_istore hC dr_Lw_law_977 (by decide) ?_
    refine gx_aload_n hC dr_Lw_law_979 rfl ?_
    refine gx_aload_n hC dr_Lw_law_980 rfl ?_
    refine gx_iload hC dr_Lw_law_981 rfl ?_
    refine gx_iconst (v := 1) hC dr_Lw_law_983 (by decide) ?_
    refine gx_iadd hC dr_Lw_law_984 ?_
    refine gx_sld hC hX dr_Lw_law_985 (la_ix hi hL 1 (by decide)) ?_
    refine gx_vI hC dr_Lw_law_986 lk_Lw_115 (mt_Mo_gate (G := (M, o)) g1) rfl (by decide) ⟨by decide, by decide⟩ ⟨by exact hk, by exact hn⟩ (by decide) ⟨_, _, rfl⟩ rfl rfl (Nat.le_of_ble_eq_true rfl) (fun z c2 hp => ?_)
    obtain ⟨rfl, rfl⟩ := hp
    refine gx_istore hC dr_Lw_law_989 (by decide) ?_
    refine gx_aload_n hC dr_Lw_law_991 rfl ?_
    refine gx_vI hC dr_Lw_law_992 lk_Lw_70 (mt_Mo_thrown (G := (M, o)) (M := W2) rfl) rfl (by decide) ⟨by decide, by decide⟩ ⟨by exact hk, by exact hn⟩ (by decide) ⟨_, _, rfl⟩ rfl rfl (Nat.le_of_ble_eq_true rfl) (fun z c2 hp => ?_)
    obtain ⟨rfl, rfl⟩ := hp
    refine gx_iload hC dr_Lw_law_995 rfl ?_
    refine gx_icmp_eq (tgt := 1002) hC dr_Lw_law_997 (by decide) (fun _ => ?_) (fun e => absurd f3 e)
    refine gx_iload hC dr_Lw_law_1002 rfl ?_
    refine gx_if_ne (tgt := 1019) hC dr_Lw_law_1004 (by decide) (fun e => ?_) (fun e => absurd e (by decide))
    refine gx_goto (tgt := 1123) hC dr_Lw_law_1019 (by decide) ?_
    refine gx_lv (la_L i) ⟨rfl, rfl, rfl, rfl, rfl, trivial⟩ ?_
    exact kk f4 (Nat.le_refl (k + 1)) (Nat.le_refl (n + 6))
  · refine gx_aload_n hC dr_Lw_law_966 rfl ?_
    refine gx_aload_n hC dr_Lw_law_967 rfl ?_
    refine gx_iload hC dr_Lw_law_968 rfl ?_
    refine gx_iconst (v := 1) hC dr_Lw_law_970 (by decide) ?_
    refine gx_iadd hC dr_Lw_law_971 ?_
    refine gx_sld hC hX dr_Lw_law_972 (la_ix hi hL 1 (by decide)) ?_
    refine gx_aload_n hC dr_Lw_law_973 rfl ?_
    refine gx_sW hC dr_Lw_law_974 ly_113 (mw_gate_r (X := W) (o := o) f1) rfl (by decide) ⟨by decide, by decide⟩ ⟨by exact hk, by exact hn⟩ rfl (Nat.le_of_ble_eq_true rfl) (fun z c2 hp => ?_)
    obtain ⟨rfl, rfl⟩ := hp
    have q9 : gz_ul o (0 : Int32).toInt (b, M2).1.toInt64 (0 : Int32).toInt = (b, M2).1.toInt64 := gz_uls _ _ _
    generalize gz_ul o (0 : Int32).toInt (b, M2).1.toInt64 = o2 at q9 ⊢
    refine gx_istore hC dr_Lw_law_977 (by decide) ?_
    refine gx_aload_n hC dr_Lw_law_979 rfl ?_
    refine gx_aload_n hC dr_Lw_law_980 rfl ?_
    refine gx_iload hC dr_Lw_law_981 rfl ?_
    refine gx_iconst (v := 1) hC dr_Lw_law_983 (by decide) ?_
    refine gx_iadd hC dr_Lw_law_984 ?_
    refine gx_sld hC hX dr_Lw_law_985 (la_ix hi hL 1 (by decide)) ?_
    refine gx_vI hC dr_Lw_law_986 lk_Lw_115 (mt_Mo_gate (G := (M2, o2)) g1) rfl (by decide) ⟨by decide, by decide⟩ ⟨by exact hk, by exact hn⟩ (by decide) ⟨_, _, rfl⟩ rfl rfl (Nat.le_of_ble_eq_true rfl) (fun z c2 hp => ?_)
    obtain ⟨rfl, rfl⟩ := hp
    refine gx_istore hC dr_Lw_law_989 (by decide) ?_
    refine gx_aload_n hC dr_Lw_law_991 rfl ?_
    refine gx_vI hC dr_Lw_law_992 lk_Lw_70 (mt_Mo_thrown (G := (M2, o2)) (M := W2) rfl) rfl (by decide) ⟨by decide, by decide⟩ ⟨by exact hk, by exact hn⟩ (by decide) ⟨_, _, rfl⟩ rfl rfl (Nat.le_of_ble_eq_true rfl) (fun z c2 hp => ?_)
    obtain ⟨rfl, rfl⟩ := hp
    refine gx_iload hC dr_Lw_law_995 rfl ?_
    refine gx_icmp_eq (tgt := 1002) hC dr_Lw_law_997 (by decide) (fun _ => ?_) (fun e => absurd f3 e)
    refine gx_iload hC dr_Lw_law_1002 rfl ?_
    refine gx_if_ne (tgt := 1019) hC dr_Lw_law_1004 (by decide) (fun e => absurd rfl e) (fun e => ?_)
    refine gx_aload_n hC dr_Lw_law_1007 rfl ?_
    refine gx_iconst (v := 0) hC dr_Lw_law_1008 (by decide) ?_
    refine gx_lald (o := 80) hC dr_Lw_law_1009 (by decide) rfl (by decide) ?_
    refine gx_iload hC dr_Lw_law_1010 rfl ?_
    refine gx_i2l hC dr_Lw_law_1012 ?_
    refine gx_lcmp_eq (tgt := 1019) hC dr_Lw_law_1013 dr_Lw_law_1014 (by decide) (fun _ => ?_) (fun e => absurd q9 e)
    refine gx_goto (tgt := 1123) hC dr_Lw_law_1019 (by decide) ?_
    refine gx_lv (la_L i) ⟨rfl, rfl, rfl, rfl, rfl, trivial⟩ ?_
    exact kk f4 (Nat.le_refl (k + 1)) (Nat.le_refl (n + 6))
set_option maxHeartbeats 1000000 in
theorem cs_equalGate {x : gx_X} {L : Nat} {xs : Nat → Int32} (hC : gw_C 81 81 "PinSwapsLaw" bc_Lw_law 8 x) (hX : gs_X L xs x) (hfl : (gx_l x).flags = pinnedFlags ++ [noTraceFlag]) {M W : gq_M} {o : Int → Int64} (hR : rl_R M W) {i k n : Nat} (hi : i + 7 ≤ L) (hL : L ≤ 3584) (hk : k + 1 ≤ room_1.cells) (hn : n + 6 ≤ room_1.slots) (kk : la_K x i k n) : gw_G 81 8 room_1 x k n (ca_A (M, W, o)) 1022 (la_L i) [] := by
  obtain ⟨b, W2, g1, g2⟩ := op_equalGate hR (xs (nI i + 1).toInt.toNat) (xs (nI i + 2).toInt.toNat)
  rcases g2 with ⟨kd, f1, f2, f3, f4⟩ | ⟨f1, f3, f4⟩
  · have e9 := kd_equalGate f1
    subst e9
    refine gx_aload_n hC dr_Lw_law_1022 rfl ?_
    refine gx_aload_n hC dr_Lw_law_1023 rfl ?_
    refine gx_iload hC dr_Lw_law_1024 rfl ?_
    refine gx_iconst (v := 1) hC dr_Lw_law_1026 (by decide) ?_
    refine gx_iadd hC dr_Lw_law_1027 ?_
    refine gx_sld hC hX dr_Lw_law_1028 (la_ix hi hL 1 (by decide)) ?_
    refine gx_aload_n hC dr_Lw_law_1029 rfl ?_
    refine gx_iload hC dr_Lw_law_1030 rfl ?_
    refine gx_iconst (v := 2) hC dr_Lw_law_1032 (by decide) ?_
    refine gx_iadd hC dr_Lw_law_1033 ?_
    refine gx_sld hC hX dr_Lw_law_1034 (la_ix hi hL 2 (by decide)) ?_
    refine gx_aload_n hC dr_Lw_law_1035 rfl ?_
    refine gx_sW hC dr_Lw_law_1036 ly_116 (mw_equalGate_1 (X := W) (o := o) hfl f1) rfl (by decide) ⟨by decide, by decide⟩ ⟨by exact hk, by exact hn⟩ rfl (Nat.le_of_ble_eq_true rfl) (fun z c2 hp => ?_)
    obtain ⟨rfl, rfl⟩ := hp
    refine gx_istore hC dr_Lw_law_1039 (by decide) ?_
    refine gx_aload_n hC dr_Lw_law_1041 rfl ?_
    refine gx_aload_n hC dr_Lw_law_1042 rfl ?_
    refine gx_iload hC dr_Lw_law_1043 rfl ?_
    refine gx_iconst (v := 1) hC dr_Lw_law_1045 (by decide) ?_
    refine gx_iadd hC dr_Lw_law_1046 ?_
    refine gx_sld hC hX dr_Lw_law_1047 (la_ix hi hL 1 (by decide)) ?_
    refine gx_aload_n hC dr_Lw_law_1048 rfl ?_
    refine gx_iload hC dr_Lw_law_1049 rfl ?_
    refine gx_iconst (v := 2) hC dr_Lw_law_1051 (by decide) ?_
    refine gx_iadd hC dr_Lw_law_1052 ?_
    refine gx_sld hC hX dr_Lw_law_1053 (la_ix hi hL 2 (by decide)) ?_
    refine gx_vI hC dr_Lw_law_1054 lk_Lw_118 (mt_Mo_equalGate (G := (M, o)) g1) rfl (by decide) ⟨by decide, by decide⟩ ⟨by exact hk, by exact hn⟩ (by decide) ⟨_, _, rfl⟩ rfl rfl (Nat.le_of_ble_eq_true rfl) (fun z c2 hp => ?_)
    obtain ⟨rfl, rfl⟩ := hp
    refine gx_istore hC dr_Lw_law_1057 (by decide) ?_
    refine gx_aload_n hC dr_Lw_law_1059 rfl ?_
    refine gx_vI hC dr_Lw_law_1060 lk_Lw_70 (mt_Mo_thrown (G := (M, o)) (M := W2) rfl) rfl (by decide) ⟨by decide, by decide⟩ ⟨by exact hk, by exact hn⟩ (by decide) ⟨_, _, rfl⟩ rfl rfl (Nat.le_of_ble_eq_true rfl) (fun z c2 hp => ?_)
    obtain ⟨rfl, rfl⟩ := hp
    refine gx_iload hC dr_Lw_law_1063 rfl ?_
    refine gx_icmp_eq (tgt := 1070) hC dr_Lw_law_1065 (by decide) (fun _ => ?_) (fun e => absurd f3 e)
    refine gx_iload hC dr_Lw_law_1070 rfl ?_
    refine gx_if_ne (tgt := 1094) hC dr_Lw_law_1072 (by decide) (fun e => ?_) (fun e => absurd e (by decide))
    refine gx_goto (tgt := 1123) hC dr_Lw_law_1094 (by decide) ?_
    refine gx_lv (la_L i) ⟨rfl, rfl, rfl, rfl, rfl, trivial⟩ ?_
    exact kk f4 (Nat.le_refl (k + 1)) (Nat.le_refl (n + 6))
  · refine gx_aload_n hC dr_Lw_law_1022 rfl ?_
    refine gx_aload_n hC dr_Lw_law_1023 rfl ?_
    refine gx_iload hC dr_Lw_law_1024 rfl ?_
    refine gx_iconst (v := 1) hC dr_Lw_law_1026 (by decide) ?_
    refine gx_iadd hC dr_Lw_law_1027 ?_
    refine gx_sld hC hX dr_Lw_law_1028 (la_ix hi hL 1 (by decide)) ?_
    refine gx_aload_n hC dr_Lw_law_1029 rfl ?_
    refine gx_iload hC dr_Lw_law_1030 rfl ?_
    refine gx_iconst (v := 2) hC dr_Lw_law_1032 (by decide) ?_
    refine gx_iadd hC dr_Lw_law_1033 ?_
    refine gx_sld hC hX dr_Lw_law_1034 (la_ix hi hL 2 (by decide)) ?_
    refine gx_aload_n hC dr_Lw_law_1035 rfl ?_
    refine gx_sW hC dr_Lw_law_1036 ly_116 (mw_equalGate_r (X := W) (o := o) f1) rfl (by decide) ⟨by decide, by decide⟩ ⟨by exact hk, by exact hn⟩ rfl (Nat.le_of_ble_eq_true rfl) (fun z c2 hp => ?_)
    obtain ⟨rfl, rfl⟩ := hp
    have q9 : gz_ul o (0 : Int32).toInt (if b = 0 then (Int64.ofNat (0 : Fin 2).val) else (Int64.ofNat (1 : Fin 2).val)) (0 : Int32).toInt = (if b = 0 then (Int64.ofNat (0 : Fin 2).val) else (Int64.ofNat (1 : Fin 2).val)) := gz_uls _ _ _
    generalize gz_ul o (0 : Int32).toInt (if b = 0 then (Int64.ofNat (0 : Fin 2).val) else (Int64.ofNat (1 : Fin 2).val)) = o2 at q9 ⊢
    refine gx_istore hC dr_Lw_law_1039 (by decide) ?_
    refine gx_aload_n hC dr_Lw_law_1041 rfl ?_
    refine gx_aload_n hC dr_Lw_law_1042 rfl ?_
    refine gx_iload hC dr_Lw_law_1043 rfl ?_
    refine gx_iconst (v := 1) hC dr_Lw_law_1045 (by decide) ?_
    refine gx_iadd hC dr_Lw_law_1046 ?_
    refine gx_sld hC hX dr_Lw_law_1047 (la_ix hi hL 1 (by decide)) ?_
    refine gx_aload_n hC dr_Lw_law_1048 rfl ?_
    refine gx_iload hC dr_Lw_law_1049 rfl ?_
    refine gx_iconst (v := 2) hC dr_Lw_law_1051 (by decide) ?_
    refine gx_iadd hC dr_Lw_law_1052 ?_
    refine gx_sld hC hX dr_Lw_law_1053 (la_ix hi hL 2 (by decide)) ?_
    refine gx_vI hC dr_Lw_law_1054 lk_Lw_118 (mt_Mo_equalGate (G := (M, o2)) g1) rfl (by decide) ⟨by decide, by decide⟩ ⟨by exact hk, by exact hn⟩ (by decide) ⟨_, _, rfl⟩ rfl rfl (Nat.le_of_ble_eq_true rfl) (fun z c2 hp => ?_)
    obtain ⟨rfl, rfl⟩ := hp
    refine gx_istore hC dr_Lw_law_1057 (by decide) ?_
    refine gx_aload_n hC dr_Lw_law_1059 rfl ?_
    refine gx_vI hC dr_Lw_law_1060 lk_Lw_70 (mt_Mo_thrown (G := (M, o2)) (M := W2) rfl) rfl (by decide) ⟨by decide, by decide⟩ ⟨by exact hk, by exact hn⟩ (by decide) ⟨_, _, rfl⟩ rfl rfl (Nat.le_of_ble_eq_true rfl) (fun z c2 hp => ?_)
    obtain ⟨rfl, rfl⟩ := hp
    refine gx_iload hC dr_Lw_law_1063 rfl ?_
    refine gx_icmp_eq (tgt := 1070) hC dr_Lw_law_1065 (by decide) (fun _ => ?_) (fun e => absurd f3 e)
    refine gx_iload hC dr_Lw_law_1070 rfl ?_
    refine gx_if_ne (tgt := 1094) hC dr_Lw_law_1072 (by decide) (fun e => absurd rfl e) (fun e => ?_)
    refine gx_aload_n hC dr_Lw_law_1075 rfl ?_
    refine gx_iconst (v := 0) hC dr_Lw_law_1076 (by decide) ?_
    refine gx_lald (o := 80) hC dr_Lw_law_1077 (by decide) rfl (by decide) ?_
    refine gx_iload hC dr_Lw_law_1078 rfl ?_
    refine gx_if_eq (tgt := 1087) hC dr_Lw_law_1080 (by decide) (fun e6 => ?_) (fun e6 => ?_)
    · refine gx_lconst hC dr_Lw_law_1087 ?_
      refine gx_lcmp_eq (tgt := 1094) hC dr_Lw_law_1088 dr_Lw_law_1089 (by decide) (fun _ => ?_) (fun e => absurd (q9.trans (if_pos e6)) e)
      refine gx_goto (tgt := 1123) hC dr_Lw_law_1094 (by decide) ?_
      refine gx_lv (la_L i) ⟨rfl, rfl, rfl, rfl, rfl, trivial⟩ ?_
      exact kk f4 (Nat.le_refl (k + 1)) (Nat.le_refl (n + 6))
    · refine gx_lconst hC dr_Lw_law_1083 ?_
      refine gx_goto (tgt := 1088) hC dr_Lw_law_1084 (by decide) ?_
      refine gx_lcmp_eq (tgt := 1094) hC dr_Lw_law_1088 dr_Lw_law_1089 (by decide) (fun _ => ?_) (fun e => absurd (q9.trans (if_neg e6)) e)
      refine gx_goto (tgt := 1123) hC dr_Lw_law_1094 (by decide) ?_
      refine gx_lv (la_L i) ⟨rfl, rfl, rfl, rfl, rfl, trivial⟩ ?_
      exact kk f4 (Nat.le_refl (k + 1)) (Nat.le_refl (n + 6))
theorem cs_undo {x : gx_X} {L : Nat} {xs : Nat → Int32} (hC : gw_C 81 81 "PinSwapsLaw" bc_Lw_law 8 x) (hX : gs_X L xs x) (hfl : (gx_l x).flags = pinnedFlags ++ [noTraceFlag]) {M W : gq_M} {o : Int → Int64} (hR : rl_R M W) {i k n : Nat} (hi : i + 7 ≤ L) (hL : L ≤ 3584) (hk : k + 1 ≤ room_1.cells) (hn : n + 6 ≤ room_1.slots) (kk : la_K x i k n) : gw_G 81 8 room_1 x k n (ca_A (M, W, o)) 1097 (la_L i) [] := by
  obtain ⟨y, M2, W2, f1, f2, f3⟩ := op_undo hR
  have hk0 : k ≤ room_1.cells := by omega
  have hn0 : n ≤ room_1.slots := by omega
  refine gx_aload_n hC dr_Lw_law_1097 rfl ?_
  refine gx_vI hC dr_Lw_law_1098 lk_Lw_119 (mt_PS_undo (G := (W, o)) f1) rfl (by decide) ⟨by decide, by decide⟩ ⟨by exact hk0, by exact hn0⟩ (by decide) ⟨_, _, rfl⟩ rfl rfl (Nat.le_of_ble_eq_true rfl) (fun z c2 hp => ?_)
  obtain ⟨rfl, rfl⟩ := hp
  refine gx_aload_n hC dr_Lw_law_1101 rfl ?_
  refine gx_vI hC dr_Lw_law_1102 lk_Lw_123 (mt_Mo_undo (G := (M2, o)) f2) rfl (by decide) ⟨by decide, by decide⟩ ⟨by exact hk0, by exact hn0⟩ (by decide) ⟨_, _, rfl⟩ rfl rfl (Nat.le_of_ble_eq_true rfl) (fun z c2 hp => ?_)
  obtain ⟨rfl, rfl⟩ := hp
  refine gx_icmp_eq (tgt := 1123) hC dr_Lw_law_1105 (by decide) (fun _ => ?_) (fun e => absurd rfl e)
  exact kk f3 (Nat.le_succ k) (Nat.le_add_right n 6)
theorem cs_crossings {x : gx_X} {L : Nat} {xs : Nat → Int32} (hC : gw_C 81 81 "PinSwapsLaw" bc_Lw_law 8 x) (hX : gs_X L xs x) (hfl : (gx_l x).flags = pinnedFlags ++ [noTraceFlag]) {M W : gq_M} {o : Int → Int64} (hR : rl_R M W) {i k n : Nat} (hi : i + 7 ≤ L) (hL : L ≤ 3584) (hk : k + 1 ≤ room_1.cells) (hn : n + 6 ≤ room_1.slots) (kk : la_K x i k n) : gw_G 81 8 room_1 x k n (ca_A (M, W, o)) 1110 (la_L i) [] := by
  obtain ⟨y, W2, f1, f2, f3⟩ := op_crossings hR
  have hk0 : k ≤ room_1.cells := by omega
  have hn0 : n ≤ room_1.slots := by omega
  refine gx_aload_n hC dr_Lw_law_1110 rfl ?_
  refine gx_vI hC dr_Lw_law_1111 lk_Lw_124 (mt_PS_crossings (G := (W, o)) f1) rfl (by decide) ⟨by decide, by decide⟩ ⟨by exact hk0, by exact hn0⟩ (by decide) ⟨_, _, rfl⟩ rfl rfl (Nat.le_of_ble_eq_true rfl) (fun z c2 hp => ?_)
  obtain ⟨rfl, rfl⟩ := hp
  refine gx_aload_n hC dr_Lw_law_1114 rfl ?_
  refine gx_vI hC dr_Lw_law_1115 lk_Lw_127 (mt_Mo_crossings (G := (M, o)) f2) rfl (by decide) ⟨by decide, by decide⟩ ⟨by exact hk0, by exact hn0⟩ (by decide) ⟨_, _, rfl⟩ rfl rfl (Nat.le_of_ble_eq_true rfl) (fun z c2 hp => ?_)
  obtain ⟨rfl, rfl⟩ := hp
  refine gx_icmp_eq (tgt := 1123) hC dr_Lw_law_1118 (by decide) (fun _ => ?_) (fun e => absurd rfl e)
  exact kk f3 (Nat.le_succ k) (Nat.le_add_right n 6)
