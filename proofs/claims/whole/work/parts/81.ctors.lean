/-! THE CONSTRUCTORS (written by gen_ctors.py) -/
def cz_M : gq_M := (gq_up (fun _ _ => 0) 9 (gz_fill (fun _ => 0) 200 (-1)), fun _ _ => 0, fun _ => 0, fun _ => 0)
def cz_W : gq_M := (fun _ _ => 0, fun _ _ => 0, fun _ => 0, fun _ => 0)
def cz_A : Nat → gc_T := ca_A (cz_M, cz_W, fun _ => 0)
abbrev cz_w (L : List Nat) : gl_T := L.map (fun k => (k, cz_A k))
theorem cz_at {L : List Nat} {ad : Nat → Nat} {sz : Nat} {o : Nat} (h : ∀ i k, L[i]? = some k → ad k = sz + i) : ∀ (j : Nat) (q : Nat × gc_T), (cz_w (o :: L))[j]? = some q → (j = 0 ∧ q.1 = o) ∨ (1 ≤ j ∧ ad q.1 = sz + (j - 1)) := by
  intro j q hq
  cases j with
  | zero => cases hq; exact Or.inl ⟨rfl, rfl⟩
  | succ j =>
    have h1 : (L.map (fun k => (k, cz_A k)))[j]? = some q := hq
    rw [List.getElem?_map] at h1
    cases h2 : L[j]? with
    | none => rw [h2] at h1; cases h1
    | some z =>
      rw [h2] at h1
      cases h1
      exact Or.inr ⟨by omega, h j z h2⟩
theorem cz_sub {pre A post : List Nat} {i k : Nat} (h : A[i]? = some k) : (pre ++ (A ++ post))[pre.length + i]? = some k := by
  have h1 : i < A.length := (List.getElem?_eq_some_iff.mp h).1
  rw [List.getElem?_append_right (by omega), show pre.length + i - pre.length = i by omega, List.getElem?_append_left h1]
  exact h
section GBF
variable {nL : Nat} {own : String} {cc : ByteArray} {R : Room} {x : gx_X} {k n hz : Nat} {ws : gl_T} {pc : Nat} {lv : List (Nat × gv_V)} {st : List gv_V}
theorem gb_get (hC : gb_C own cc nL x) {i ci j o q0 : Nat} {fs : List gv_V} {v : gv_V} (hd : decode cc pc = .ok (.getfield i, 3)) (hF : gb_F own i ci j) (hc : ws[q0]? = some (o, gc_O ci fs)) (hv : fs[j]? = some v)
    (kk : gb_G nL R x k n hz ws (pc + 3) lv (v :: st)) : gb_G nL R x k n hz ws pc lv (gv_R o :: st) := by
  obtain ⟨p, l, e, s, m, args, below, meth, c, Q, D, A, ad, ck⟩ := x
  obtain ⟨hx, hb, hml, hown, hts, hnw, hK, hA, hlk, hAg, hE, hO9⟩ := hC
  intro H locs ls hh hP hD hS hl
  obtain ⟨T, M, h1, h2, h3, h4⟩ := hF
  have hv2 : (fs.map (gv_v ad))[j]? = some (gv_v ad v) := by rw [List.getElem?_map, hv]; rfl
  exact va_get hx hb hts h3 hown hK hP q0 (gl_at hc) h1 j h2 (hts _ h4) (fun _ z => z) hv2 hd (kk H locs ls hh hP hD hS hl)
theorem lu_fill {len : Nat} {cf cf2 : Nat → gc_T} {f : Int → Int32} {v : Int32} {x : gx_X} {rm : Room} (hC : gw_C 1 1 yn_Ar_fill.cls bc_Ar_fill 4 x) (hR : gr_V 1 bc_Ar_fill 4 rm x (fun c2 => c2 = cf2)) (hlen : len < 1000000) (hu : gc_up cf 0 (gc_I 0 len (gz_fill f len v)) cf2) :
    ∀ (k i : Nat), i + k = len → gw_G 1 4 rm x 0 0 (fun j => if j = 0 then gc_I 0 len (gz_fill f i v) else cf j) 5 [(0, gv_R 0), (1, gv_I v), (2, gv_I (nI i)), (3, gv_I (nI len))] [] := by
  intro k
  have ho : 0 < 1 := by decide
  induction k with
  | zero =>
    intro i hi
    refine gx_iload_n hC dr_Ar_fill_5 rfl ?_
    refine gx_iload_n hC dr_Ar_fill_6 rfl ?_
    refine gx_icmp_ge (tgt := 20) hC dr_Ar_fill_7 (by decide) (fun _ => ?_) (fun h => ?_)
    · refine hR (Nat.zero_le _) (Nat.zero_le _) dr_Ar_fill_20 ?_
      funext j
      rw [hu j, show i = len by omega]
    · exact absurd (by rw [show i = len by omega]; exact nI_le (Nat.le_refl _) (by omega)) h
  | succ k ih =>
    intro i hi
    have e1 : (nI i).toInt = (i : Int) := nI_toInt (by omega)
    refine gx_iload_n hC dr_Ar_fill_5 rfl ?_
    refine gx_iload_n hC dr_Ar_fill_6 rfl ?_
    refine gx_icmp_ge (tgt := 20) hC dr_Ar_fill_7 (by decide) (fun h => ?_) (fun _ => ?_)
    · exact absurd h (nI_ge (by omega) (by omega))
    · refine gx_aload_n hC dr_Ar_fill_10 rfl ?_
      refine gx_iload_n hC dr_Ar_fill_11 rfl ?_
      refine gx_iload_n hC dr_Ar_fill_12 rfl ?_
      refine gx_iast (f := gz_fill f i v) (cf2 := fun j => if j = 0 then gc_I 0 len (gz_fill f (i + 1) v) else cf j) hC (Nat.le_refl _) dr_Ar_fill_13 ho (if_pos rfl) (by rw [e1]; omega) (fun j => ?_) ?_
      · dsimp only
        by_cases e : j = 0
        · rw [if_pos e, if_pos e, e1, gz_fillS]
        · rw [if_neg e, if_neg e, if_neg e]
      · refine gx_iinc (v := nI (i + 1)) hC dr_Ar_fill_14 rfl (by decide) (nI_1 i) ?_
        refine gx_goto (tgt := 5) hC dr_Ar_fill_17 (by decide) ?_
        exact ih (i + 1) (by omega)
theorem mu_Ar_fill {l : Launch} {D : va_G} {ad : Nat → Nat} {ck : Nat → ClassId} {len : Nat} {f : Int → Int32} {v : Int32} (hlen : len < 1000000) :
    gm_V 1 1 l D ad ck yn_Ar_fill bc_Ar_fill 4 ({ frames := 0, cells := 0, slots := 0, locals := 0 } : Room) [gv_R 0, gv_I v] (fun _ => gc_I 0 len f) (fun c2 => c2 = fun j => if j = 0 then gc_I 0 len (gz_fill f len v) else gc_I 0 len f) := by
  refine gm_V.of (by decide) (Nat.le_of_ble_eq_true rfl) (fun x hC hR => ?_)
  refine gx_iconst (v := 0) hC dr_Ar_fill_0 (by decide) ?_
  refine gx_istore_n hC dr_Ar_fill_1 (by decide) ?_
  refine gx_aload_n hC dr_Ar_fill_2 rfl ?_
  refine gx_alen (len := len) (f := f) hC dr_Ar_fill_3 (by decide) rfl (Or.inl rfl) ?_
  refine gx_istore_n hC dr_Ar_fill_4 (by decide) ?_
  have h := lu_fill (f := f) (cf := fun _ => gc_I 0 len f) hC hR hlen (fun _ => rfl) len 0 (by omega)
  have e : (fun j : Nat => if j = 0 then gc_I 0 len (gz_fill f 0 v) else gc_I 0 len f) = fun _ => gc_I 0 len f := by
    funext j
    by_cases e : j = 0
    · rw [if_pos e, gz_fill0]
    · rw [if_neg e]
  rw [e] at h
  exact h
theorem gb_fill (hC : gb_C own cc nL x) {i o2 len q0 : Nat} {f : Int → Int32} {v : Int32} {ws2 : gl_T} (hd : decode cc pc = .ok (.invokestatic i, 3)) (hV : gw_S own i yn_Ar_fill bc_Ar_fill 4 none 2) (hc : ws[q0]? = some (o2, gc_I 0 len f)) (ho : o2 < 81) (hlen : len < 1000000) (hR : 0 + 1 ≤ R.frames ∧ 8 + (4 + 11) + 0 ≤ R.locals) (hf : k + 0 ≤ R.cells ∧ n + 0 ≤ R.slots) (hk : (gx_s x).heap.size + k = hz) (hu : ws.set q0 (o2, gc_I 0 len (gz_fill f len v)) = ws2) (hcat : gv_w st ≤ 8)
    (kk : gb_G nL R x k n hz ws2 (pc + 3) lv st) : gb_G nL R x k n hz ws pc lv (gv_I v :: gv_R o2 :: st) := by
  obtain ⟨p, l, e, s, m, args, below, meth, c, Q, D, A, ad, ck⟩ := x
  obtain ⟨hx, hb, hml, hown, hts, hnw, hK, hA, hlk, hAg, hE, hO9⟩ := hC
  intro H locs ls hh hP hD hS hl
  subst hh
  have hk' : s.heap.size + k = H.size := hk
  have hAo : A (ad o2) := hD.2 q0 _ (gl_at hc)
  have hPo : va_at D vwCl (ad o2, gc_E ad ck (gc_I 0 len f)) H := hP q0 _ (gl_at hc)
  generalize had : (fun i : Nat => if i = 90 then ck 11 else if i = 91 then ck 12 else ad o2) = ad1
  have h0 : ad1 0 = ad o2 := by rw [← had]; rfl
  have hE1 : gm_E ck ad1 s := by
    obtain ⟨⟨e1, e2, e3⟩, e4⟩ := hE
    refine ⟨⟨fun i hi => ?_, by rw [← had]; rfl, by rw [← had]; rfl⟩, e4⟩
    have : ad1 i = ad o2 := by
      rw [← had]
      show (if i = 90 then ck 11 else if i = 91 then ck 12 else ad o2) = ad o2
      rw [if_neg (by omega), if_neg (by omega)]
    rw [this]
    exact e1 o2 ho
  have hFc : ∀ q, gm_A 1 ad1 H.size q → A q := fun q hq => by
    rcases hq with ⟨i9, hi9, rfl⟩ | hq
    · rw [show i9 = 0 by omega, h0]; exact hAo
    · exact hA q (Nat.le_trans hS.1 hq)
  have hW1 : va_P D vwCl (gw_L 1 ad1 ck (fun _ => gc_I 0 len f)) H := by
    intro k9 q hq
    have h1 : k9 < 1 := by
      have := (List.getElem?_eq_some_iff.mp hq).1
      simpa [gw_L] using this
    rw [show k9 = 0 by omega] at hq
    cases hq
    show va_at D vwCl (ad1 0, gc_E ad1 ck (gc_I 0 len f)) H
    rw [h0]
    exact hPo
  refine va_callv (gw_runS (As := [.ref (ad o2), .int v]) (rest := st.map (gv_v ad)) ⟨hx, hb, hml, hown, hts⟩ hnw (mu_Ar_fill (l := l) (D := D) (ad := ad1) (ck := ck) (f := f) (v := v) hlen H.size) hV hR ⟨gm_blind, fun U hU hW => ⟨by show _ = #[Value.ref (ad1 0), .int v]; rw [h0], by rw [hU], by rw [hU]; exact hW1, va_K.moved hW.alike hK, gw_warm hW hnw, fun i j hi hj _ => by omega, hE1.go hU hW hAg hS⟩⟩ rfl rfl hl.1 rfl (lv_room (by rw [gv_w_sum]; exact hcat)) hd hf) hS (fun q _ h => hFc q h) hFc (fun u t H1 locs1 ht hvm hq hB hz1 hk1 hS1 => ?_)
  intro T hT X
  have hsz : H1.size = H.size := by
    have h1 : T.heap.size ≤ s.heap.size + (k + 0) := X.same.2.2.1
    rw [hT] at h1
    omega
  have hq' : u = fun j => if j = 0 then gc_I 0 len (gz_fill f len v) else gc_I 0 len f := hq
  subst hq'
  rw [ht] at hB
  have hnew : va_at D vwCl (ad o2, gc_E ad ck (gc_I 0 len (gz_fill f len v))) H1 := by
    have := hB 0 (ad1 0, gc_E ad1 ck (gc_I 0 len (gz_fill f len v))) rfl
    rw [h0] at this
    exact this
  have hoth : ∀ q : Nat, q ≠ ad o2 → H1[q]? = H[q]? := fun q hq => by
    by_cases h1 : q < H.size
    · refine hk1 q h1 (fun z => ?_)
      rcases z with ⟨i9, hi9, z⟩ | z
      · rw [show i9 = 0 by omega, h0] at z; exact hq z
      · omega
    · rw [Array.getElem?_eq_none (by omega), Array.getElem?_eq_none (by omega)]
  have hP1 := hP.set hD (gl_at hc) (e := gc_E ad ck (gc_I 0 len (gz_fill f len v))) hnew hoth
  have hD1 := hD.set (e := gc_E ad ck (gc_I 0 len (gz_fill f len v))) (gl_at hc)
  rw [gl_set, hu] at hP1 hD1
  exact kk H1 locs1 ls hsz hP1 hD1 hS1 hl T hT X
end GBF
theorem lb_Pi_9 : gb_F "PinSwaps$Pins" 9 5 2 := ⟨ft_Pi, 12, rfl, by decide, wi_Pi, gw_in 87 (by decide +kernel) (by decide +kernel)⟩
theorem lq_Pi_inGroup : gb_Pf 5 2 (.array .int) := ⟨"PinSwaps$Pins", ft_Pi, 12, ty_Pi, rfl, ty_Pi_ok, nm_Pi, rfl, rfl, by decide +kernel⟩
theorem lb_Pi_15 : gb_F "PinSwaps$Pins" 15 5 3 := ⟨ft_Pi, 12, rfl, by decide, wi_Pi, gw_in 89 (by decide +kernel) (by decide +kernel)⟩
theorem lq_Pi_group : gb_Pf 5 3 (.array .int) := ⟨"PinSwaps$Pins", ft_Pi, 12, ty_Pi, rfl, ty_Pi_ok, nm_Pi, rfl, rfl, by decide +kernel⟩
theorem lb_Pi_18 : gb_F "PinSwaps$Pins" 18 5 4 := ⟨ft_Pi, 12, rfl, by decide, wi_Pi, gw_in 91 (by decide +kernel) (by decide +kernel)⟩
theorem lq_Pi_x : gb_Pf 5 4 (.array .long) := ⟨"PinSwaps$Pins", ft_Pi, 12, ty_Pi, rfl, ty_Pi_ok, nm_Pi, rfl, rfl, by decide +kernel⟩
theorem lb_Pi_22 : gb_F "PinSwaps$Pins" 22 5 5 := ⟨ft_Pi, 12, rfl, by decide, wi_Pi, gw_in 93 (by decide +kernel) (by decide +kernel)⟩
theorem lq_Pi_y : gb_Pf 5 5 (.array .long) := ⟨"PinSwaps$Pins", ft_Pi, 12, ty_Pi, rfl, ty_Pi_ok, nm_Pi, rfl, rfl, by decide +kernel⟩
theorem lb_Pi_25 : gb_F "PinSwaps$Pins" 25 5 6 := ⟨ft_Pi, 12, rfl, by decide, wi_Pi, gw_in 95 (by decide +kernel) (by decide +kernel)⟩
theorem lq_Pi_bank : gb_Pf 5 6 (.array .int) := ⟨"PinSwaps$Pins", ft_Pi, 12, ty_Pi, rfl, ty_Pi_ok, nm_Pi, rfl, rfl, by decide +kernel⟩
theorem lb_Pi_28 : gb_F "PinSwaps$Pins" 28 5 7 := ⟨ft_Pi, 12, rfl, by decide, wi_Pi, gw_in 97 (by decide +kernel) (by decide +kernel)⟩
theorem lq_Pi_net : gb_Pf 5 7 (.array .int) := ⟨"PinSwaps$Pins", ft_Pi, 12, ty_Pi, rfl, ty_Pi_ok, nm_Pi, rfl, rfl, by decide +kernel⟩
theorem lb_Pi_31 : gb_F "PinSwaps$Pins" 31 5 8 := ⟨ft_Pi, 12, rfl, by decide, wi_Pi, gw_in 99 (by decide +kernel) (by decide +kernel)⟩
theorem lq_Pi_toldNet : gb_Pf 5 8 (.array .int) := ⟨"PinSwaps$Pins", ft_Pi, 12, ty_Pi, rfl, ty_Pi_ok, nm_Pi, rfl, rfl, by decide +kernel⟩
theorem lb_Pi_34 : gb_F "PinSwaps$Pins" 34 5 9 := ⟨ft_Pi, 12, rfl, by decide, wi_Pi, gw_in 101 (by decide +kernel) (by decide +kernel)⟩
theorem lq_Pi_partner : gb_Pf 5 9 (.array .int) := ⟨"PinSwaps$Pins", ft_Pi, 12, ty_Pi, rfl, ty_Pi_ok, nm_Pi, rfl, rfl, by decide +kernel⟩
theorem lb_Pi_37 : gb_F "PinSwaps$Pins" 37 5 10 := ⟨ft_Pi, 12, rfl, by decide, wi_Pi, gw_in 103 (by decide +kernel) (by decide +kernel)⟩
theorem lq_Pi_second : gb_Pf 5 10 (.array .boolean) := ⟨"PinSwaps$Pins", ft_Pi, 12, ty_Pi, rfl, ty_Pi_ok, nm_Pi, rfl, rfl, by decide +kernel⟩
theorem lb_Pi_41 : gb_F "PinSwaps$Pins" 41 5 11 := ⟨ft_Pi, 12, rfl, by decide, wi_Pi, gw_in 104 (by decide +kernel) (by decide +kernel)⟩
theorem lq_Pi_locked : gb_Pf 5 11 (.array .boolean) := ⟨"PinSwaps$Pins", ft_Pi, 12, ty_Pi, rfl, ty_Pi_ok, nm_Pi, rfl, rfl, by decide +kernel⟩
def nu_Pi : List Nat := [6, 7, 35, 36, 8, 9, 10, 11, 12, 13]
set_option maxRecDepth 20000 in
set_option maxHeartbeats 4000000 in
theorem mc_Pi_init {l : Launch} {D : va_G} {ad : Nat → Nat} {ck : Nat → ClassId} {sz : Nat} (h : ∀ i k, nu_Pi[i]? = some k → ad k = sz + i) : gb_M l D ad ck yn_Pi_init bc_Pi_init ({ frames := 1, cells := 10, slots := 732, locals := 12 } : Room) 1 (gc_O 5 [gv_I 0, gv_I 0, gv_N, gv_N, gv_N, gv_N, gv_N, gv_N, gv_N, gv_N, gv_N, gv_N]) (cz_w (1 :: nu_Pi)) sz 10 := by
  refine gb_M.of (by decide) rfl (by decide) (fun x el eD ea ec es hC hI hR => ?_)
  refine gb_aload_n hC dr_Pi_init_0 rfl ?_
  refine gb_obj hC dr_Pi_init_1 (gw_in 83 (by decide +kernel) (by decide +kernel)) (by decide) (by decide) ?_
  refine gb_aload_n hC dr_Pi_init_4 rfl ?_
  refine gb_bipush (v := 12) hC dr_Pi_init_5 (by decide) ?_
  refine gb_nai (N' := 12) (o := 6) hC dr_Pi_init_7 (by rw [ea]; have e := h 0 6 rfl; omega) (by decide) (by decide) (by decide) (by decide) (by decide) ?_
  refine gb_put (q0 := 0) (ws2 := [(1, gc_O 5 [gv_I 0, gv_I 0, gv_R 6, gv_N, gv_N, gv_N, gv_N, gv_N, gv_N, gv_N, gv_N, gv_N]), (6, gc_I 0 12 (fun _ => 0))]) hC hI dr_Pi_init_9 lb_Pi_9 lq_Pi_inGroup rfl (by decide) (fun _ => rfl) (fun _ => rfl) rfl ?_
  refine gb_aload_n hC dr_Pi_init_12 rfl ?_
  refine gb_bipush (v := 80) hC dr_Pi_init_13 (by decide) ?_
  refine gb_nai (N' := 80) (o := 7) hC dr_Pi_init_15 (by rw [ea]; have e := h 1 7 rfl; omega) (by decide) (by decide) (by decide) (by decide) (by decide) ?_
  refine gb_put (q0 := 0) (ws2 := [(1, gc_O 5 [gv_I 0, gv_I 0, gv_R 6, gv_R 7, gv_N, gv_N, gv_N, gv_N, gv_N, gv_N, gv_N, gv_N]), (6, gc_I 0 12 (fun _ => 0)), (7, gc_I 0 80 (fun _ => 0))]) hC hI dr_Pi_init_17 lb_Pi_15 lq_Pi_group rfl (by decide) (fun _ => rfl) (fun _ => rfl) rfl ?_
  refine gb_aload_n hC dr_Pi_init_20 rfl ?_
  refine gb_bipush (v := 80) hC dr_Pi_init_21 (by decide) ?_
  refine gb_nal (N' := 80) (o := 35) hC dr_Pi_init_23 (by rw [ea]; have e := h 2 35 rfl; omega) (by decide) (by decide) (by decide) (by decide) (by decide) ?_
  refine gb_put (q0 := 0) (ws2 := [(1, gc_O 5 [gv_I 0, gv_I 0, gv_R 6, gv_R 7, gv_R 35, gv_N, gv_N, gv_N, gv_N, gv_N, gv_N, gv_N]), (6, gc_I 0 12 (fun _ => 0)), (7, gc_I 0 80 (fun _ => 0)), (35, gc_L 80 (fun _ => 0))]) hC hI dr_Pi_init_25 lb_Pi_18 lq_Pi_x rfl (by decide) (fun _ => rfl) (fun _ => rfl) rfl ?_
  refine gb_aload_n hC dr_Pi_init_28 rfl ?_
  refine gb_bipush (v := 80) hC dr_Pi_init_29 (by decide) ?_
  refine gb_nal (N' := 80) (o := 36) hC dr_Pi_init_31 (by rw [ea]; have e := h 3 36 rfl; omega) (by decide) (by decide) (by decide) (by decide) (by decide) ?_
  refine gb_put (q0 := 0) (ws2 := [(1, gc_O 5 [gv_I 0, gv_I 0, gv_R 6, gv_R 7, gv_R 35, gv_R 36, gv_N, gv_N, gv_N, gv_N, gv_N, gv_N]), (6, gc_I 0 12 (fun _ => 0)), (7, gc_I 0 80 (fun _ => 0)), (35, gc_L 80 (fun _ => 0)), (36, gc_L 80 (fun _ => 0))]) hC hI dr_Pi_init_33 lb_Pi_22 lq_Pi_y rfl (by decide) (fun _ => rfl) (fun _ => rfl) rfl ?_
  refine gb_aload_n hC dr_Pi_init_36 rfl ?_
  refine gb_bipush (v := 80) hC dr_Pi_init_37 (by decide) ?_
  refine gb_nai (N' := 80) (o := 8) hC dr_Pi_init_39 (by rw [ea]; have e := h 4 8 rfl; omega) (by decide) (by decide) (by decide) (by decide) (by decide) ?_
  refine gb_put (q0 := 0) (ws2 := [(1, gc_O 5 [gv_I 0, gv_I 0, gv_R 6, gv_R 7, gv_R 35, gv_R 36, gv_R 8, gv_N, gv_N, gv_N, gv_N, gv_N]), (6, gc_I 0 12 (fun _ => 0)), (7, gc_I 0 80 (fun _ => 0)), (35, gc_L 80 (fun _ => 0)), (36, gc_L 80 (fun _ => 0)), (8, gc_I 0 80 (fun _ => 0))]) hC hI dr_Pi_init_41 lb_Pi_25 lq_Pi_bank rfl (by decide) (fun _ => rfl) (fun _ => rfl) rfl ?_
  refine gb_aload_n hC dr_Pi_init_44 rfl ?_
  refine gb_bipush (v := 80) hC dr_Pi_init_45 (by decide) ?_
  refine gb_nai (N' := 80) (o := 9) hC dr_Pi_init_47 (by rw [ea]; have e := h 5 9 rfl; omega) (by decide) (by decide) (by decide) (by decide) (by decide) ?_
  refine gb_put (q0 := 0) (ws2 := [(1, gc_O 5 [gv_I 0, gv_I 0, gv_R 6, gv_R 7, gv_R 35, gv_R 36, gv_R 8, gv_R 9, gv_N, gv_N, gv_N, gv_N]), (6, gc_I 0 12 (fun _ => 0)), (7, gc_I 0 80 (fun _ => 0)), (35, gc_L 80 (fun _ => 0)), (36, gc_L 80 (fun _ => 0)), (8, gc_I 0 80 (fun _ => 0)), (9, gc_I 0 80 (fun _ => 0))]) hC hI dr_Pi_init_49 lb_Pi_28 lq_Pi_net rfl (by decide) (fun _ => rfl) (fun _ => rfl) rfl ?_
  refine gb_aload_n hC dr_Pi_init_52 rfl ?_
  refine gb_bipush (v := 80) hC dr_Pi_init_53 (by decide) ?_
  refine gb_nai (N' := 80) (o := 10) hC dr_Pi_init_55 (by rw [ea]; have e := h 6 10 rfl; omega) (by decide) (by decide) (by decide) (by decide) (by decide) ?_
  refine gb_put (q0 := 0) (ws2 := [(1, gc_O 5 [gv_I 0, gv_I 0, gv_R 6, gv_R 7, gv_R 35, gv_R 36, gv_R 8, gv_R 9, gv_R 10, gv_N, gv_N, gv_N]), (6, gc_I 0 12 (fun _ => 0)), (7, gc_I 0 80 (fun _ => 0)), (35, gc_L 80 (fun _ => 0)), (36, gc_L 80 (fun _ => 0)), (8, gc_I 0 80 (fun _ => 0)), (9, gc_I 0 80 (fun _ => 0)), (10, gc_I 0 80 (fun _ => 0))]) hC hI dr_Pi_init_57 lb_Pi_31 lq_Pi_toldNet rfl (by decide) (fun _ => rfl) (fun _ => rfl) rfl ?_
  refine gb_aload_n hC dr_Pi_init_60 rfl ?_
  refine gb_bipush (v := 80) hC dr_Pi_init_61 (by decide) ?_
  refine gb_nai (N' := 80) (o := 11) hC dr_Pi_init_63 (by rw [ea]; have e := h 7 11 rfl; omega) (by decide) (by decide) (by decide) (by decide) (by decide) ?_
  refine gb_put (q0 := 0) (ws2 := [(1, gc_O 5 [gv_I 0, gv_I 0, gv_R 6, gv_R 7, gv_R 35, gv_R 36, gv_R 8, gv_R 9, gv_R 10, gv_R 11, gv_N, gv_N]), (6, gc_I 0 12 (fun _ => 0)), (7, gc_I 0 80 (fun _ => 0)), (35, gc_L 80 (fun _ => 0)), (36, gc_L 80 (fun _ => 0)), (8, gc_I 0 80 (fun _ => 0)), (9, gc_I 0 80 (fun _ => 0)), (10, gc_I 0 80 (fun _ => 0)), (11, gc_I 0 80 (fun _ => 0))]) hC hI dr_Pi_init_65 lb_Pi_34 lq_Pi_partner rfl (by decide) (fun _ => rfl) (fun _ => rfl) rfl ?_
  refine gb_aload_n hC dr_Pi_init_68 rfl ?_
  refine gb_bipush (v := 80) hC dr_Pi_init_69 (by decide) ?_
  refine gb_naz (N' := 80) (o := 12) hC dr_Pi_init_71 (by rw [ea]; have e := h 8 12 rfl; omega) (by decide) (by decide) (by decide) (by decide) (by decide) ?_
  refine gb_put (q0 := 0) (ws2 := [(1, gc_O 5 [gv_I 0, gv_I 0, gv_R 6, gv_R 7, gv_R 35, gv_R 36, gv_R 8, gv_R 9, gv_R 10, gv_R 11, gv_R 12, gv_N]), (6, gc_I 0 12 (fun _ => 0)), (7, gc_I 0 80 (fun _ => 0)), (35, gc_L 80 (fun _ => 0)), (36, gc_L 80 (fun _ => 0)), (8, gc_I 0 80 (fun _ => 0)), (9, gc_I 0 80 (fun _ => 0)), (10, gc_I 0 80 (fun _ => 0)), (11, gc_I 0 80 (fun _ => 0)), (12, gc_I 1 80 (fun _ => 0))]) hC hI dr_Pi_init_73 lb_Pi_37 lq_Pi_second rfl (by decide) (fun _ => rfl) (fun _ => rfl) rfl ?_
  refine gb_aload_n hC dr_Pi_init_76 rfl ?_
  refine gb_bipush (v := 80) hC dr_Pi_init_77 (by decide) ?_
  refine gb_naz (N' := 80) (o := 13) hC dr_Pi_init_79 (by rw [ea]; have e := h 9 13 rfl; omega) (by decide) (by decide) (by decide) (by decide) (by decide) ?_
  refine gb_put (q0 := 0) (ws2 := [(1, gc_O 5 [gv_I 0, gv_I 0, gv_R 6, gv_R 7, gv_R 35, gv_R 36, gv_R 8, gv_R 9, gv_R 10, gv_R 11, gv_R 12, gv_R 13]), (6, gc_I 0 12 (fun _ => 0)), (7, gc_I 0 80 (fun _ => 0)), (35, gc_L 80 (fun _ => 0)), (36, gc_L 80 (fun _ => 0)), (8, gc_I 0 80 (fun _ => 0)), (9, gc_I 0 80 (fun _ => 0)), (10, gc_I 0 80 (fun _ => 0)), (11, gc_I 0 80 (fun _ => 0)), (12, gc_I 1 80 (fun _ => 0)), (13, gc_I 1 80 (fun _ => 0))]) hC hI dr_Pi_init_81 lb_Pi_41 lq_Pi_locked rfl (by decide) (fun _ => rfl) (fun _ => rfl) rfl ?_
  exact hR (by decide) (by decide) rfl dr_Pi_init_84
theorem lb_Ne_9 : gb_F "PinSwaps$Nets" 9 4 0 := ⟨ft_Ne, 4, rfl, by decide, wi_Ne, gw_in 143 (by decide +kernel) (by decide +kernel)⟩
theorem lq_Ne_aimed : gb_Pf 4 0 (.array .boolean) := ⟨"PinSwaps$Nets", ft_Ne, 4, ty_Ne, rfl, ty_Ne_ok, nm_Ne, rfl, rfl, by decide +kernel⟩
theorem lb_Ne_15 : gb_F "PinSwaps$Nets" 15 4 1 := ⟨ft_Ne, 4, rfl, by decide, wi_Ne, gw_in 145 (by decide +kernel) (by decide +kernel)⟩
theorem lq_Ne_x : gb_Pf 4 1 (.array .long) := ⟨"PinSwaps$Nets", ft_Ne, 4, ty_Ne, rfl, ty_Ne_ok, nm_Ne, rfl, rfl, by decide +kernel⟩
theorem lb_Ne_19 : gb_F "PinSwaps$Nets" 19 4 2 := ⟨ft_Ne, 4, rfl, by decide, wi_Ne, gw_in 147 (by decide +kernel) (by decide +kernel)⟩
theorem lq_Ne_y : gb_Pf 4 2 (.array .long) := ⟨"PinSwaps$Nets", ft_Ne, 4, ty_Ne, rfl, ty_Ne_ok, nm_Ne, rfl, rfl, by decide +kernel⟩
theorem lb_Ne_22 : gb_F "PinSwaps$Nets" 22 4 3 := ⟨ft_Ne, 4, rfl, by decide, wi_Ne, gw_in 149 (by decide +kernel) (by decide +kernel)⟩
theorem lq_Ne_neededBank : gb_Pf 4 3 (.array .int) := ⟨"PinSwaps$Nets", ft_Ne, 4, ty_Ne, rfl, ty_Ne_ok, nm_Ne, rfl, rfl, by decide +kernel⟩
def nu_Ne : List Nat := [14, 37, 38, 15]
set_option maxRecDepth 20000 in
set_option maxHeartbeats 4000000 in
theorem mc_Ne_init {l : Launch} {D : va_G} {ad : Nat → Nat} {ck : Nat → ClassId} {sz : Nat} (h : ∀ i k, nu_Ne[i]? = some k → ad k = sz + i) : gb_M l D ad ck yn_Ne_init bc_Ne_init ({ frames := 1, cells := 4, slots := 800, locals := 23 } : Room) 2 (gc_O 4 [gv_N, gv_N, gv_N, gv_N]) (cz_w (2 :: nu_Ne)) sz 4 := by
  refine gb_M.of (by decide) rfl (by decide) (fun x el eD ea ec es hC hI hR => ?_)
  refine gb_aload_n hC dr_Ne_init_0 rfl ?_
  refine gb_obj hC dr_Ne_init_1 (gw_in 139 (by decide +kernel) (by decide +kernel)) (by decide) (by decide) ?_
  refine gb_aload_n hC dr_Ne_init_4 rfl ?_
  refine gb_sipush (v := 200) hC dr_Ne_init_5 (by decide) ?_
  refine gb_naz (N' := 200) (o := 14) hC dr_Ne_init_8 (by rw [ea]; have e := h 0 14 rfl; omega) (by decide) (by decide) (by decide) (by decide) (by decide) ?_
  refine gb_put (q0 := 0) (ws2 := [(2, gc_O 4 [gv_R 14, gv_N, gv_N, gv_N]), (14, gc_I 1 200 (fun _ => 0))]) hC hI dr_Ne_init_10 lb_Ne_9 lq_Ne_aimed rfl (by decide) (fun _ => rfl) (fun _ => rfl) rfl ?_
  refine gb_aload_n hC dr_Ne_init_13 rfl ?_
  refine gb_sipush (v := 200) hC dr_Ne_init_14 (by decide) ?_
  refine gb_nal (N' := 200) (o := 37) hC dr_Ne_init_17 (by rw [ea]; have e := h 1 37 rfl; omega) (by decide) (by decide) (by decide) (by decide) (by decide) ?_
  refine gb_put (q0 := 0) (ws2 := [(2, gc_O 4 [gv_R 14, gv_R 37, gv_N, gv_N]), (14, gc_I 1 200 (fun _ => 0)), (37, gc_L 200 (fun _ => 0))]) hC hI dr_Ne_init_19 lb_Ne_15 lq_Ne_x rfl (by decide) (fun _ => rfl) (fun _ => rfl) rfl ?_
  refine gb_aload_n hC dr_Ne_init_22 rfl ?_
  refine gb_sipush (v := 200) hC dr_Ne_init_23 (by decide) ?_
  refine gb_nal (N' := 200) (o := 38) hC dr_Ne_init_26 (by rw [ea]; have e := h 2 38 rfl; omega) (by decide) (by decide) (by decide) (by decide) (by decide) ?_
  refine gb_put (q0 := 0) (ws2 := [(2, gc_O 4 [gv_R 14, gv_R 37, gv_R 38, gv_N]), (14, gc_I 1 200 (fun _ => 0)), (37, gc_L 200 (fun _ => 0)), (38, gc_L 200 (fun _ => 0))]) hC hI dr_Ne_init_28 lb_Ne_19 lq_Ne_y rfl (by decide) (fun _ => rfl) (fun _ => rfl) rfl ?_
  refine gb_aload_n hC dr_Ne_init_31 rfl ?_
  refine gb_sipush (v := 200) hC dr_Ne_init_32 (by decide) ?_
  refine gb_nai (N' := 200) (o := 15) hC dr_Ne_init_35 (by rw [ea]; have e := h 3 15 rfl; omega) (by decide) (by decide) (by decide) (by decide) (by decide) ?_
  refine gb_put (q0 := 0) (ws2 := [(2, gc_O 4 [gv_R 14, gv_R 37, gv_R 38, gv_R 15]), (14, gc_I 1 200 (fun _ => 0)), (37, gc_L 200 (fun _ => 0)), (38, gc_L 200 (fun _ => 0)), (15, gc_I 0 200 (fun _ => 0))]) hC hI dr_Ne_init_37 lb_Ne_22 lq_Ne_neededBank rfl (by decide) (fun _ => rfl) (fun _ => rfl) rfl ?_
  refine gb_aload_n hC dr_Ne_init_40 rfl ?_
  refine gb_get (q0 := 0) hC dr_Ne_init_41 lb_Ne_22 rfl rfl ?_
  refine gb_iconst (v := -1) hC dr_Ne_init_44 (by decide) ?_
  refine gb_fill (q0 := 4) (ws2 := [(2, gc_O 4 [gv_R 14, gv_R 37, gv_R 38, gv_R 15]), (14, gc_I 1 200 (fun _ => 0)), (37, gc_L 200 (fun _ => 0)), (38, gc_L 200 (fun _ => 0)), (15, gc_I 0 200 (gz_fill (fun _ => 0) 200 (-1)))]) hC dr_Ne_init_45 lk_Ne_26 rfl (by decide) (by decide) (by decide) (by decide) (by have := es; omega) rfl (by decide) ?_
  exact hR (by decide) (by decide) rfl dr_Ne_init_48
theorem lb_Ma_11 : gb_F "PinSwaps$Matching" 11 3 1 := ⟨ft_Ma, 10, rfl, by decide, wi_Ma, gw_in 170 (by decide +kernel) (by decide +kernel)⟩
theorem lq_Ma_unit : gb_Pf 3 1 (.array .int) := ⟨"PinSwaps$Matching", ft_Ma, 10, ty_Ma, rfl, ty_Ma_ok, nm_Ma, rfl, rfl, by decide +kernel⟩
theorem lb_Ma_17 : gb_F "PinSwaps$Matching" 17 3 2 := ⟨ft_Ma, 10, rfl, by decide, wi_Ma, gw_in 172 (by decide +kernel) (by decide +kernel)⟩
theorem lq_Ma_cost : gb_Pf 3 2 (.array (.array .long)) := ⟨"PinSwaps$Matching", ft_Ma, 10, ty_Ma, rfl, ty_Ma_ok, nm_Ma, rfl, rfl, by decide +kernel⟩
theorem lb_Ma_20 : gb_F "PinSwaps$Matching" 20 3 3 := ⟨ft_Ma, 10, rfl, by decide, wi_Ma, gw_in 174 (by decide +kernel) (by decide +kernel)⟩
theorem lq_Ma_rowPrice : gb_Pf 3 3 (.array .long) := ⟨"PinSwaps$Matching", ft_Ma, 10, ty_Ma, rfl, ty_Ma_ok, nm_Ma, rfl, rfl, by decide +kernel⟩
theorem lb_Ma_24 : gb_F "PinSwaps$Matching" 24 3 4 := ⟨ft_Ma, 10, rfl, by decide, wi_Ma, gw_in 175 (by decide +kernel) (by decide +kernel)⟩
theorem lq_Ma_colPrice : gb_Pf 3 4 (.array .long) := ⟨"PinSwaps$Matching", ft_Ma, 10, ty_Ma, rfl, ty_Ma_ok, nm_Ma, rfl, rfl, by decide +kernel⟩
theorem lb_Ma_27 : gb_F "PinSwaps$Matching" 27 3 5 := ⟨ft_Ma, 10, rfl, by decide, wi_Ma, gw_in 176 (by decide +kernel) (by decide +kernel)⟩
theorem lq_Ma_rowOf : gb_Pf 3 5 (.array .int) := ⟨"PinSwaps$Matching", ft_Ma, 10, ty_Ma, rfl, ty_Ma_ok, nm_Ma, rfl, rfl, by decide +kernel⟩
theorem lb_Ma_30 : gb_F "PinSwaps$Matching" 30 3 6 := ⟨ft_Ma, 10, rfl, by decide, wi_Ma, gw_in 178 (by decide +kernel) (by decide +kernel)⟩
theorem lq_Ma_cameFrom : gb_Pf 3 6 (.array .int) := ⟨"PinSwaps$Matching", ft_Ma, 10, ty_Ma, rfl, ty_Ma_ok, nm_Ma, rfl, rfl, by decide +kernel⟩
theorem lb_Ma_33 : gb_F "PinSwaps$Matching" 33 3 7 := ⟨ft_Ma, 10, rfl, by decide, wi_Ma, gw_in 179 (by decide +kernel) (by decide +kernel)⟩
theorem lq_Ma_slack : gb_Pf 3 7 (.array .long) := ⟨"PinSwaps$Matching", ft_Ma, 10, ty_Ma, rfl, ty_Ma_ok, nm_Ma, rfl, rfl, by decide +kernel⟩
theorem lb_Ma_36 : gb_F "PinSwaps$Matching" 36 3 8 := ⟨ft_Ma, 10, rfl, by decide, wi_Ma, gw_in 180 (by decide +kernel) (by decide +kernel)⟩
theorem lq_Ma_seen : gb_Pf 3 8 (.array .boolean) := ⟨"PinSwaps$Matching", ft_Ma, 10, ty_Ma, rfl, ty_Ma_ok, nm_Ma, rfl, rfl, by decide +kernel⟩
theorem lb_Ma_40 : gb_F "PinSwaps$Matching" 40 3 9 := ⟨ft_Ma, 10, rfl, by decide, wi_Ma, gw_in 181 (by decide +kernel) (by decide +kernel)⟩
theorem lq_Ma_queue : gb_Pf 3 9 (.array .int) := ⟨"PinSwaps$Matching", ft_Ma, 10, ty_Ma, rfl, ty_Ma_ok, nm_Ma, rfl, rfl, by decide +kernel⟩
def nu_Ma : List Nat := [16, 55, 42, 43, 44, 45, 46, 47, 48, 49, 50, 51, 52, 53, 54, 39, 40, 17, 18, 41, 19, 20]
set_option maxRecDepth 20000 in
set_option maxHeartbeats 4000000 in
theorem mc_Ma_init {l : Launch} {D : va_G} {ad : Nat → Nat} {ck : Nat → ClassId} {sz : Nat} (h : ∀ i k, nu_Ma[i]? = some k → ad k = sz + i) : gb_M l D ad ck yn_Ma_init bc_Ma_init ({ frames := 1, cells := 22, slots := 286, locals := 12 } : Room) 3 (gc_O 3 [gv_I 0, gv_N, gv_N, gv_N, gv_N, gv_N, gv_N, gv_N, gv_N, gv_N]) (cz_w (3 :: nu_Ma)) sz 22 := by
  refine gb_M.of (by decide) rfl (by decide) (fun x el eD ea ec es hC hI hR => ?_)
  refine gb_aload_n hC dr_Ma_init_0 rfl ?_
  refine gb_obj hC dr_Ma_init_1 (gw_in 165 (by decide +kernel) (by decide +kernel)) (by decide) (by decide) ?_
  refine gb_aload_n hC dr_Ma_init_4 rfl ?_
  refine gb_bipush (v := 13) hC dr_Ma_init_5 (by decide) ?_
  refine gb_nai (N' := 13) (o := 16) hC dr_Ma_init_7 (by rw [ea]; have e := h 0 16 rfl; omega) (by decide) (by decide) (by decide) (by decide) (by decide) ?_
  refine gb_put (q0 := 0) (ws2 := [(3, gc_O 3 [gv_I 0, gv_R 16, gv_N, gv_N, gv_N, gv_N, gv_N, gv_N, gv_N, gv_N]), (16, gc_I 0 13 (fun _ => 0))]) hC hI dr_Ma_init_9 lb_Ma_11 lq_Ma_unit rfl (by decide) (fun _ => rfl) (fun _ => rfl) rfl ?_
  refine gb_aload_n hC dr_Ma_init_12 rfl ?_
  refine gb_bipush (v := 13) hC dr_Ma_init_13 (by decide) ?_
  refine gb_bipush (v := 13) hC dr_Ma_init_15 (by decide) ?_
  refine gb_mna (ty := .long) (kd := 3) (t0 := 3) (N := 13) (K := 13) (o := 55) (r0 := 42) (ci := gc_L 13 (fun _ => 0)) hC dr_Ma_init_17 (gw_in 166 (by decide +kernel) (by decide +kernel)) (fun _ h => h.2) (gw_in 132 (by decide +kernel) (by decide +kernel)) (fun _ => rfl) (by decide) (by decide) (by decide) (by decide) (by decide) (by decide) (by decide) (by decide) (by decide) (fun ad D ck s comp a Hp hK hc hc2 => by
    have e : comp = ck 2 := Option.some.inj (hc.symm.trans (hK.2 2 _ rfl).2)
    subst e
    show Hp[a]? = some _
    rw [hc2]
    show some ({ cls := _, slots := Array.replicate 13 _, vm := .none } : Cell) = _
    rw [arrV_new]
    rfl) (by rw [ea]; have e := h 1 55 rfl; omega) (fun j hj => by rw [ea]; have e := h (2 + j) (42 + j) (by revert j; decide); omega) (by decide) (by decide) ?_
  refine gb_put (q0 := 0) (ws2 := [(3, gc_O 3 [gv_I 0, gv_R 16, gv_R 55, gv_N, gv_N, gv_N, gv_N, gv_N, gv_N, gv_N]), (16, gc_I 0 13 (fun _ => 0)), (55, gc_R 3 13 (fun j => some (42 + j.toNat))), (42, gc_L 13 (fun _ => 0)), (43, gc_L 13 (fun _ => 0)), (44, gc_L 13 (fun _ => 0)), (45, gc_L 13 (fun _ => 0)), (46, gc_L 13 (fun _ => 0)), (47, gc_L 13 (fun _ => 0)), (48, gc_L 13 (fun _ => 0)), (49, gc_L 13 (fun _ => 0)), (50, gc_L 13 (fun _ => 0)), (51, gc_L 13 (fun _ => 0)), (52, gc_L 13 (fun _ => 0)), (53, gc_L 13 (fun _ => 0)), (54, gc_L 13 (fun _ => 0))]) hC hI dr_Ma_init_21 lb_Ma_17 lq_Ma_cost rfl (by decide) (fun _ => rfl) (fun _ => rfl) rfl ?_
  refine gb_aload_n hC dr_Ma_init_24 rfl ?_
  refine gb_bipush (v := 13) hC dr_Ma_init_25 (by decide) ?_
  refine gb_nal (N' := 13) (o := 39) hC dr_Ma_init_27 (by rw [ea]; have e := h 15 39 rfl; omega) (by decide) (by decide) (by decide) (by decide) (by decide) ?_
  refine gb_put (q0 := 0) (ws2 := [(3, gc_O 3 [gv_I 0, gv_R 16, gv_R 55, gv_R 39, gv_N, gv_N, gv_N, gv_N, gv_N, gv_N]), (16, gc_I 0 13 (fun _ => 0)), (55, gc_R 3 13 (fun j => some (42 + j.toNat))), (42, gc_L 13 (fun _ => 0)), (43, gc_L 13 (fun _ => 0)), (44, gc_L 13 (fun _ => 0)), (45, gc_L 13 (fun _ => 0)), (46, gc_L 13 (fun _ => 0)), (47, gc_L 13 (fun _ => 0)), (48, gc_L 13 (fun _ => 0)), (49, gc_L 13 (fun _ => 0)), (50, gc_L 13 (fun _ => 0)), (51, gc_L 13 (fun _ => 0)), (52, gc_L 13 (fun _ => 0)), (53, gc_L 13 (fun _ => 0)), (54, gc_L 13 (fun _ => 0)), (39, gc_L 13 (fun _ => 0))]) hC hI dr_Ma_init_29 lb_Ma_20 lq_Ma_rowPrice rfl (by decide) (fun _ => rfl) (fun _ => rfl) rfl ?_
  refine gb_aload_n hC dr_Ma_init_32 rfl ?_
  refine gb_bipush (v := 13) hC dr_Ma_init_33 (by decide) ?_
  refine gb_nal (N' := 13) (o := 40) hC dr_Ma_init_35 (by rw [ea]; have e := h 16 40 rfl; omega) (by decide) (by decide) (by decide) (by decide) (by decide) ?_
  refine gb_put (q0 := 0) (ws2 := [(3, gc_O 3 [gv_I 0, gv_R 16, gv_R 55, gv_R 39, gv_R 40, gv_N, gv_N, gv_N, gv_N, gv_N]), (16, gc_I 0 13 (fun _ => 0)), (55, gc_R 3 13 (fun j => some (42 + j.toNat))), (42, gc_L 13 (fun _ => 0)), (43, gc_L 13 (fun _ => 0)), (44, gc_L 13 (fun _ => 0)), (45, gc_L 13 (fun _ => 0)), (46, gc_L 13 (fun _ => 0)), (47, gc_L 13 (fun _ => 0)), (48, gc_L 13 (fun _ => 0)), (49, gc_L 13 (fun _ => 0)), (50, gc_L 13 (fun _ => 0)), (51, gc_L 13 (fun _ => 0)), (52, gc_L 13 (fun _ => 0)), (53, gc_L 13 (fun _ => 0)), (54, gc_L 13 (fun _ => 0)), (39, gc_L 13 (fun _ => 0)), (40, gc_L 13 (fun _ => 0))]) hC hI dr_Ma_init_37 lb_Ma_24 lq_Ma_colPrice rfl (by decide) (fun _ => rfl) (fun _ => rfl) rfl ?_
  refine gb_aload_n hC dr_Ma_init_40 rfl ?_
  refine gb_bipush (v := 13) hC dr_Ma_init_41 (by decide) ?_
  refine gb_nai (N' := 13) (o := 17) hC dr_Ma_init_43 (by rw [ea]; have e := h 17 17 rfl; omega) (by decide) (by decide) (by decide) (by decide) (by decide) ?_
  refine gb_put (q0 := 0) (ws2 := [(3, gc_O 3 [gv_I 0, gv_R 16, gv_R 55, gv_R 39, gv_R 40, gv_R 17, gv_N, gv_N, gv_N, gv_N]), (16, gc_I 0 13 (fun _ => 0)), (55, gc_R 3 13 (fun j => some (42 + j.toNat))), (42, gc_L 13 (fun _ => 0)), (43, gc_L 13 (fun _ => 0)), (44, gc_L 13 (fun _ => 0)), (45, gc_L 13 (fun _ => 0)), (46, gc_L 13 (fun _ => 0)), (47, gc_L 13 (fun _ => 0)), (48, gc_L 13 (fun _ => 0)), (49, gc_L 13 (fun _ => 0)), (50, gc_L 13 (fun _ => 0)), (51, gc_L 13 (fun _ => 0)), (52, gc_L 13 (fun _ => 0)), (53, gc_L 13 (fun _ => 0)), (54, gc_L 13 (fun _ => 0)), (39, gc_L 13 (fun _ => 0)), (40, gc_L 13 (fun _ => 0)), (17, gc_I 0 13 (fun _ => 0))]) hC hI dr_Ma_init_45 lb_Ma_27 lq_Ma_rowOf rfl (by decide) (fun _ => rfl) (fun _ => rfl) rfl ?_
  refine gb_aload_n hC dr_Ma_init_48 rfl ?_
  refine gb_bipush (v := 13) hC dr_Ma_init_49 (by decide) ?_
  refine gb_nai (N' := 13) (o := 18) hC dr_Ma_init_51 (by rw [ea]; have e := h 18 18 rfl; omega) (by decide) (by decide) (by decide) (by decide) (by decide) ?_
  refine gb_put (q0 := 0) (ws2 := [(3, gc_O 3 [gv_I 0, gv_R 16, gv_R 55, gv_R 39, gv_R 40, gv_R 17, gv_R 18, gv_N, gv_N, gv_N]), (16, gc_I 0 13 (fun _ => 0)), (55, gc_R 3 13 (fun j => some (42 + j.toNat))), (42, gc_L 13 (fun _ => 0)), (43, gc_L 13 (fun _ => 0)), (44, gc_L 13 (fun _ => 0)), (45, gc_L 13 (fun _ => 0)), (46, gc_L 13 (fun _ => 0)), (47, gc_L 13 (fun _ => 0)), (48, gc_L 13 (fun _ => 0)), (49, gc_L 13 (fun _ => 0)), (50, gc_L 13 (fun _ => 0)), (51, gc_L 13 (fun _ => 0)), (52, gc_L 13 (fun _ => 0)), (53, gc_L 13 (fun _ => 0)), (54, gc_L 13 (fun _ => 0)), (39, gc_L 13 (fun _ => 0)), (40, gc_L 13 (fun _ => 0)), (17, gc_I 0 13 (fun _ => 0)), (18, gc_I 0 13 (fun _ => 0))]) hC hI dr_Ma_init_53 lb_Ma_30 lq_Ma_cameFrom rfl (by decide) (fun _ => rfl) (fun _ => rfl) rfl ?_
  refine gb_aload_n hC dr_Ma_init_56 rfl ?_
  refine gb_bipush (v := 13) hC dr_Ma_init_57 (by decide) ?_
  refine gb_nal (N' := 13) (o := 41) hC dr_Ma_init_59 (by rw [ea]; have e := h 19 41 rfl; omega) (by decide) (by decide) (by decide) (by decide) (by decide) ?_
  refine gb_put (q0 := 0) (ws2 := [(3, gc_O 3 [gv_I 0, gv_R 16, gv_R 55, gv_R 39, gv_R 40, gv_R 17, gv_R 18, gv_R 41, gv_N, gv_N]), (16, gc_I 0 13 (fun _ => 0)), (55, gc_R 3 13 (fun j => some (42 + j.toNat))), (42, gc_L 13 (fun _ => 0)), (43, gc_L 13 (fun _ => 0)), (44, gc_L 13 (fun _ => 0)), (45, gc_L 13 (fun _ => 0)), (46, gc_L 13 (fun _ => 0)), (47, gc_L 13 (fun _ => 0)), (48, gc_L 13 (fun _ => 0)), (49, gc_L 13 (fun _ => 0)), (50, gc_L 13 (fun _ => 0)), (51, gc_L 13 (fun _ => 0)), (52, gc_L 13 (fun _ => 0)), (53, gc_L 13 (fun _ => 0)), (54, gc_L 13 (fun _ => 0)), (39, gc_L 13 (fun _ => 0)), (40, gc_L 13 (fun _ => 0)), (17, gc_I 0 13 (fun _ => 0)), (18, gc_I 0 13 (fun _ => 0)), (41, gc_L 13 (fun _ => 0))]) hC hI dr_Ma_init_61 lb_Ma_33 lq_Ma_slack rfl (by decide) (fun _ => rfl) (fun _ => rfl) rfl ?_
  refine gb_aload_n hC dr_Ma_init_64 rfl ?_
  refine gb_bipush (v := 13) hC dr_Ma_init_65 (by decide) ?_
  refine gb_naz (N' := 13) (o := 19) hC dr_Ma_init_67 (by rw [ea]; have e := h 20 19 rfl; omega) (by decide) (by decide) (by decide) (by decide) (by decide) ?_
  refine gb_put (q0 := 0) (ws2 := [(3, gc_O 3 [gv_I 0, gv_R 16, gv_R 55, gv_R 39, gv_R 40, gv_R 17, gv_R 18, gv_R 41, gv_R 19, gv_N]), (16, gc_I 0 13 (fun _ => 0)), (55, gc_R 3 13 (fun j => some (42 + j.toNat))), (42, gc_L 13 (fun _ => 0)), (43, gc_L 13 (fun _ => 0)), (44, gc_L 13 (fun _ => 0)), (45, gc_L 13 (fun _ => 0)), (46, gc_L 13 (fun _ => 0)), (47, gc_L 13 (fun _ => 0)), (48, gc_L 13 (fun _ => 0)), (49, gc_L 13 (fun _ => 0)), (50, gc_L 13 (fun _ => 0)), (51, gc_L 13 (fun _ => 0)), (52, gc_L 13 (fun _ => 0)), (53, gc_L 13 (fun _ => 0)), (54, gc_L 13 (fun _ => 0)), (39, gc_L 13 (fun _ => 0)), (40, gc_L 13 (fun _ => 0)), (17, gc_I 0 13 (fun _ => 0)), (18, gc_I 0 13 (fun _ => 0)), (41, gc_L 13 (fun _ => 0)), (19, gc_I 1 13 (fun _ => 0))]) hC hI dr_Ma_init_69 lb_Ma_36 lq_Ma_seen rfl (by decide) (fun _ => rfl) (fun _ => rfl) rfl ?_
  refine gb_aload_n hC dr_Ma_init_72 rfl ?_
  refine gb_bipush (v := 13) hC dr_Ma_init_73 (by decide) ?_
  refine gb_nai (N' := 13) (o := 20) hC dr_Ma_init_75 (by rw [ea]; have e := h 21 20 rfl; omega) (by decide) (by decide) (by decide) (by decide) (by decide) ?_
  refine gb_put (q0 := 0) (ws2 := [(3, gc_O 3 [gv_I 0, gv_R 16, gv_R 55, gv_R 39, gv_R 40, gv_R 17, gv_R 18, gv_R 41, gv_R 19, gv_R 20]), (16, gc_I 0 13 (fun _ => 0)), (55, gc_R 3 13 (fun j => some (42 + j.toNat))), (42, gc_L 13 (fun _ => 0)), (43, gc_L 13 (fun _ => 0)), (44, gc_L 13 (fun _ => 0)), (45, gc_L 13 (fun _ => 0)), (46, gc_L 13 (fun _ => 0)), (47, gc_L 13 (fun _ => 0)), (48, gc_L 13 (fun _ => 0)), (49, gc_L 13 (fun _ => 0)), (50, gc_L 13 (fun _ => 0)), (51, gc_L 13 (fun _ => 0)), (52, gc_L 13 (fun _ => 0)), (53, gc_L 13 (fun _ => 0)), (54, gc_L 13 (fun _ => 0)), (39, gc_L 13 (fun _ => 0)), (40, gc_L 13 (fun _ => 0)), (17, gc_I 0 13 (fun _ => 0)), (18, gc_I 0 13 (fun _ => 0)), (41, gc_L 13 (fun _ => 0)), (19, gc_I 1 13 (fun _ => 0)), (20, gc_I 0 13 (fun _ => 0))]) hC hI dr_Ma_init_77 lb_Ma_40 lq_Ma_queue rfl (by decide) (fun _ => rfl) (fun _ => rfl) rfl ?_
  exact hR (by decide) (by decide) rfl dr_Ma_init_80
theorem lb_Hi_13 : gb_F "PinSwaps$History" 13 2 0 := ⟨ft_Hi, 4, rfl, by decide, wi_Hi, gw_in 211 (by decide +kernel) (by decide +kernel)⟩
theorem lq_Hi_nets : gb_Pf 2 0 (.array (.array .int)) := ⟨"PinSwaps$History", ft_Hi, 4, ty_Hi, rfl, ty_Hi_ok, nm_Hi, rfl, rfl, by decide +kernel⟩
theorem lb_Hi_16 : gb_F "PinSwaps$History" 16 2 1 := ⟨ft_Hi, 4, rfl, by decide, wi_Hi, gw_in 212 (by decide +kernel) (by decide +kernel)⟩
theorem lq_Hi_pinCount : gb_Pf 2 1 (.array .int) := ⟨"PinSwaps$History", ft_Hi, 4, ty_Hi, rfl, ty_Hi_ok, nm_Hi, rfl, rfl, by decide +kernel⟩
def nu_Hi : List Nat := [56, 24, 25, 26, 27, 28, 29, 30, 31, 32, 33, 34, 21]
set_option maxRecDepth 20000 in
set_option maxHeartbeats 4000000 in
theorem mc_Hi_init {l : Launch} {D : va_G} {ad : Nat → Nat} {ck : Nat → ClassId} {sz : Nat} (h : ∀ i k, nu_Hi[i]? = some k → ad k = sz + i) : gb_M l D ad ck yn_Hi_init bc_Hi_init ({ frames := 1, cells := 13, slots := 902, locals := 12 } : Room) 4 (gc_O 2 [gv_N, gv_N, gv_I 0, gv_I 0]) (cz_w (4 :: nu_Hi)) sz 13 := by
  refine gb_M.of (by decide) rfl (by decide) (fun x el eD ea ec es hC hI hR => ?_)
  refine gb_aload_n hC dr_Hi_init_0 rfl ?_
  refine gb_obj hC dr_Hi_init_1 (gw_in 208 (by decide +kernel) (by decide +kernel)) (by decide) (by decide) ?_
  refine gb_aload_n hC dr_Hi_init_4 rfl ?_
  refine gb_bipush (v := 11) hC dr_Hi_init_5 (by decide) ?_
  refine gb_bipush (v := 80) hC dr_Hi_init_7 (by decide) ?_
  refine gb_mna (ty := .int) (kd := 4) (t0 := 4) (N := 11) (K := 80) (o := 56) (r0 := 24) (ci := gc_I 0 80 (fun _ => 0)) hC dr_Hi_init_9 (gw_in 209 (by decide +kernel) (by decide +kernel)) (fun _ h => h.1) (gw_in 131 (by decide +kernel) (by decide +kernel)) (fun _ => rfl) (by decide) (by decide) (by decide) (by decide) (by decide) (by decide) (by decide) (by decide) (by decide) (fun ad D ck s comp a Hp hK hc hc2 => by
    have e : comp = ck 0 := Option.some.inj (hc.symm.trans (hK.2 0 _ rfl).2)
    subst e
    show Hp[a]? = some _
    rw [hc2]
    show some ({ cls := _, slots := Array.replicate 80 _, vm := .none } : Cell) = _
    rw [arrV_new]
    rfl) (by rw [ea]; have e := h 0 56 rfl; omega) (fun j hj => by rw [ea]; have e := h (1 + j) (24 + j) (by revert j; decide); omega) (by decide) (by decide) ?_
  refine gb_put (q0 := 0) (ws2 := [(4, gc_O 2 [gv_R 56, gv_N, gv_I 0, gv_I 0]), (56, gc_R 4 11 (fun j => some (24 + j.toNat))), (24, gc_I 0 80 (fun _ => 0)), (25, gc_I 0 80 (fun _ => 0)), (26, gc_I 0 80 (fun _ => 0)), (27, gc_I 0 80 (fun _ => 0)), (28, gc_I 0 80 (fun _ => 0)), (29, gc_I 0 80 (fun _ => 0)), (30, gc_I 0 80 (fun _ => 0)), (31, gc_I 0 80 (fun _ => 0)), (32, gc_I 0 80 (fun _ => 0)), (33, gc_I 0 80 (fun _ => 0)), (34, gc_I 0 80 (fun _ => 0))]) hC hI dr_Hi_init_13 lb_Hi_13 lq_Hi_nets rfl (by decide) (fun _ => rfl) (fun _ => rfl) rfl ?_
  refine gb_aload_n hC dr_Hi_init_16 rfl ?_
  refine gb_bipush (v := 11) hC dr_Hi_init_17 (by decide) ?_
  refine gb_nai (N' := 11) (o := 21) hC dr_Hi_init_19 (by rw [ea]; have e := h 12 21 rfl; omega) (by decide) (by decide) (by decide) (by decide) (by decide) ?_
  refine gb_put (q0 := 0) (ws2 := [(4, gc_O 2 [gv_R 56, gv_R 21, gv_I 0, gv_I 0]), (56, gc_R 4 11 (fun j => some (24 + j.toNat))), (24, gc_I 0 80 (fun _ => 0)), (25, gc_I 0 80 (fun _ => 0)), (26, gc_I 0 80 (fun _ => 0)), (27, gc_I 0 80 (fun _ => 0)), (28, gc_I 0 80 (fun _ => 0)), (29, gc_I 0 80 (fun _ => 0)), (30, gc_I 0 80 (fun _ => 0)), (31, gc_I 0 80 (fun _ => 0)), (32, gc_I 0 80 (fun _ => 0)), (33, gc_I 0 80 (fun _ => 0)), (34, gc_I 0 80 (fun _ => 0)), (21, gc_I 0 11 (fun _ => 0))]) hC hI dr_Hi_init_21 lb_Hi_16 lq_Hi_pinCount rfl (by decide) (fun _ => rfl) (fun _ => rfl) rfl ?_
  exact hR (by decide) (by decide) rfl dr_Hi_init_24
theorem lb_Gt_9 : gb_F "PinSwaps$Gates" 9 1 1 := ⟨ft_Gt, 3, rfl, by decide, wi_Gt, gw_in 232 (by decide +kernel) (by decide +kernel)⟩
theorem lq_Gt_inputs : gb_Pf 1 1 (.array .int) := ⟨"PinSwaps$Gates", ft_Gt, 3, ty_Gt, rfl, ty_Gt_ok, nm_Gt, rfl, rfl, by decide +kernel⟩
theorem lb_Gt_15 : gb_F "PinSwaps$Gates" 15 1 2 := ⟨ft_Gt, 3, rfl, by decide, wi_Gt, gw_in 233 (by decide +kernel) (by decide +kernel)⟩
theorem lq_Gt_table : gb_Pf 1 2 (.array .int) := ⟨"PinSwaps$Gates", ft_Gt, 3, ty_Gt, rfl, ty_Gt_ok, nm_Gt, rfl, rfl, by decide +kernel⟩
def nu_Gt : List Nat := [22, 23]
set_option maxRecDepth 20000 in
set_option maxHeartbeats 4000000 in
theorem mc_Gt_init {l : Launch} {D : va_G} {ad : Nat → Nat} {ck : Nat → ClassId} {sz : Nat} (h : ∀ i k, nu_Gt[i]? = some k → ad k = sz + i) : gb_M l D ad ck yn_Gt_init bc_Gt_init ({ frames := 1, cells := 2, slots := 40, locals := 12 } : Room) 5 (gc_O 1 [gv_I 0, gv_N, gv_N]) (cz_w (5 :: nu_Gt)) sz 2 := by
  refine gb_M.of (by decide) rfl (by decide) (fun x el eD ea ec es hC hI hR => ?_)
  refine gb_aload_n hC dr_Gt_init_0 rfl ?_
  refine gb_obj hC dr_Gt_init_1 (gw_in 229 (by decide +kernel) (by decide +kernel)) (by decide) (by decide) ?_
  refine gb_aload_n hC dr_Gt_init_4 rfl ?_
  refine gb_bipush (v := 20) hC dr_Gt_init_5 (by decide) ?_
  refine gb_nai (N' := 20) (o := 22) hC dr_Gt_init_7 (by rw [ea]; have e := h 0 22 rfl; omega) (by decide) (by decide) (by decide) (by decide) (by decide) ?_
  refine gb_put (q0 := 0) (ws2 := [(5, gc_O 1 [gv_I 0, gv_R 22, gv_N]), (22, gc_I 0 20 (fun _ => 0))]) hC hI dr_Gt_init_9 lb_Gt_9 lq_Gt_inputs rfl (by decide) (fun _ => rfl) (fun _ => rfl) rfl ?_
  refine gb_aload_n hC dr_Gt_init_12 rfl ?_
  refine gb_bipush (v := 20) hC dr_Gt_init_13 (by decide) ?_
  refine gb_nai (N' := 20) (o := 23) hC dr_Gt_init_15 (by rw [ea]; have e := h 1 23 rfl; omega) (by decide) (by decide) (by decide) (by decide) (by decide) ?_
  refine gb_put (q0 := 0) (ws2 := [(5, gc_O 1 [gv_I 0, gv_R 22, gv_R 23]), (22, gc_I 0 20 (fun _ => 0)), (23, gc_I 0 20 (fun _ => 0))]) hC hI dr_Gt_init_17 lb_Gt_15 lq_Gt_table rfl (by decide) (fun _ => rfl) (fun _ => rfl) rfl ?_
  exact hR (by decide) (by decide) rfl dr_Gt_init_20
theorem lb_Mo_7 : gb_F "PinSwapsModel" 7 6 3 := ⟨ft_Mo, 29, rfl, by decide, wi_Mo, gw_in 663 (by decide +kernel) (by decide +kernel)⟩
theorem lq_Mo_groupOf : gb_Pf 6 3 (.array .int) := ⟨"PinSwapsModel", ft_Mo, 29, ty_Mo, rfl, ty_Mo_ok, nm_Mo, rfl, rfl, by decide +kernel⟩
theorem lb_Mo_13 : gb_F "PinSwapsModel" 13 6 4 := ⟨ft_Mo, 29, rfl, by decide, wi_Mo, gw_in 664 (by decide +kernel) (by decide +kernel)⟩
theorem lq_Mo_x : gb_Pf 6 4 (.array .long) := ⟨"PinSwapsModel", ft_Mo, 29, ty_Mo, rfl, ty_Mo_ok, nm_Mo, rfl, rfl, by decide +kernel⟩
theorem lb_Mo_17 : gb_F "PinSwapsModel" 17 6 5 := ⟨ft_Mo, 29, rfl, by decide, wi_Mo, gw_in 665 (by decide +kernel) (by decide +kernel)⟩
theorem lq_Mo_y : gb_Pf 6 5 (.array .long) := ⟨"PinSwapsModel", ft_Mo, 29, ty_Mo, rfl, ty_Mo_ok, nm_Mo, rfl, rfl, by decide +kernel⟩
theorem lb_Mo_20 : gb_F "PinSwapsModel" 20 6 6 := ⟨ft_Mo, 29, rfl, by decide, wi_Mo, gw_in 666 (by decide +kernel) (by decide +kernel)⟩
theorem lq_Mo_banks : gb_Pf 6 6 (.array .int) := ⟨"PinSwapsModel", ft_Mo, 29, ty_Mo, rfl, ty_Mo_ok, nm_Mo, rfl, rfl, by decide +kernel⟩
theorem lb_Mo_23 : gb_F "PinSwapsModel" 23 6 7 := ⟨ft_Mo, 29, rfl, by decide, wi_Mo, gw_in 667 (by decide +kernel) (by decide +kernel)⟩
theorem lq_Mo_nets : gb_Pf 6 7 (.array .int) := ⟨"PinSwapsModel", ft_Mo, 29, ty_Mo, rfl, ty_Mo_ok, nm_Mo, rfl, rfl, by decide +kernel⟩
theorem lb_Mo_26 : gb_F "PinSwapsModel" 26 6 8 := ⟨ft_Mo, 29, rfl, by decide, wi_Mo, gw_in 668 (by decide +kernel) (by decide +kernel)⟩
theorem lq_Mo_firstNets : gb_Pf 6 8 (.array .int) := ⟨"PinSwapsModel", ft_Mo, 29, ty_Mo, rfl, ty_Mo_ok, nm_Mo, rfl, rfl, by decide +kernel⟩
theorem lb_Mo_29 : gb_F "PinSwapsModel" 29 6 9 := ⟨ft_Mo, 29, rfl, by decide, wi_Mo, gw_in 669 (by decide +kernel) (by decide +kernel)⟩
theorem lq_Mo_locked : gb_Pf 6 9 (.array .boolean) := ⟨"PinSwapsModel", ft_Mo, 29, ty_Mo, rfl, ty_Mo_ok, nm_Mo, rfl, rfl, by decide +kernel⟩
theorem lb_Mo_33 : gb_F "PinSwapsModel" 33 6 10 := ⟨ft_Mo, 29, rfl, by decide, wi_Mo, gw_in 670 (by decide +kernel) (by decide +kernel)⟩
theorem lq_Mo_mates : gb_Pf 6 10 (.array .int) := ⟨"PinSwapsModel", ft_Mo, 29, ty_Mo, rfl, ty_Mo_ok, nm_Mo, rfl, rfl, by decide +kernel⟩
theorem lb_Mo_36 : gb_F "PinSwapsModel" 36 6 11 := ⟨ft_Mo, 29, rfl, by decide, wi_Mo, gw_in 671 (by decide +kernel) (by decide +kernel)⟩
theorem lq_Mo_leads : gb_Pf 6 11 (.array .boolean) := ⟨"PinSwapsModel", ft_Mo, 29, ty_Mo, rfl, ty_Mo_ok, nm_Mo, rfl, rfl, by decide +kernel⟩
theorem lb_Mo_39 : gb_F "PinSwapsModel" 39 6 12 := ⟨ft_Mo, 29, rfl, by decide, wi_Mo, gw_in 672 (by decide +kernel) (by decide +kernel)⟩
theorem lq_Mo_hasTarget : gb_Pf 6 12 (.array .boolean) := ⟨"PinSwapsModel", ft_Mo, 29, ty_Mo, rfl, ty_Mo_ok, nm_Mo, rfl, rfl, by decide +kernel⟩
theorem lb_Mo_42 : gb_F "PinSwapsModel" 42 6 13 := ⟨ft_Mo, 29, rfl, by decide, wi_Mo, gw_in 673 (by decide +kernel) (by decide +kernel)⟩
theorem lq_Mo_targetX : gb_Pf 6 13 (.array .long) := ⟨"PinSwapsModel", ft_Mo, 29, ty_Mo, rfl, ty_Mo_ok, nm_Mo, rfl, rfl, by decide +kernel⟩
theorem lb_Mo_45 : gb_F "PinSwapsModel" 45 6 14 := ⟨ft_Mo, 29, rfl, by decide, wi_Mo, gw_in 674 (by decide +kernel) (by decide +kernel)⟩
theorem lq_Mo_targetY : gb_Pf 6 14 (.array .long) := ⟨"PinSwapsModel", ft_Mo, 29, ty_Mo, rfl, ty_Mo_ok, nm_Mo, rfl, rfl, by decide +kernel⟩
theorem lb_Mo_48 : gb_F "PinSwapsModel" 48 6 15 := ⟨ft_Mo, 29, rfl, by decide, wi_Mo, gw_in 675 (by decide +kernel) (by decide +kernel)⟩
theorem lq_Mo_needs : gb_Pf 6 15 (.array .int) := ⟨"PinSwapsModel", ft_Mo, 29, ty_Mo, rfl, ty_Mo_ok, nm_Mo, rfl, rfl, by decide +kernel⟩
theorem lb_Mo_51 : gb_F "PinSwapsModel" 51 6 18 := ⟨ft_Mo, 29, rfl, by decide, wi_Mo, gw_in 678 (by decide +kernel) (by decide +kernel)⟩
theorem lq_Mo_keptPins : gb_Pf 6 18 (.array .int) := ⟨"PinSwapsModel", ft_Mo, 29, ty_Mo, rfl, ty_Mo_ok, nm_Mo, rfl, rfl, by decide +kernel⟩
theorem lb_Mo_54 : gb_F "PinSwapsModel" 54 6 19 := ⟨ft_Mo, 29, rfl, by decide, wi_Mo, gw_in 679 (by decide +kernel) (by decide +kernel)⟩
theorem lq_Mo_keptNets : gb_Pf 6 19 (.array .int) := ⟨"PinSwapsModel", ft_Mo, 29, ty_Mo, rfl, ty_Mo_ok, nm_Mo, rfl, rfl, by decide +kernel⟩
theorem lb_Mo_57 : gb_F "PinSwapsModel" 57 6 21 := ⟨ft_Mo, 29, rfl, by decide, wi_Mo, gw_in 681 (by decide +kernel) (by decide +kernel)⟩
theorem lq_Mo_inputs : gb_Pf 6 21 (.array .int) := ⟨"PinSwapsModel", ft_Mo, 29, ty_Mo, rfl, ty_Mo_ok, nm_Mo, rfl, rfl, by decide +kernel⟩
theorem lb_Mo_60 : gb_F "PinSwapsModel" 60 6 22 := ⟨ft_Mo, 29, rfl, by decide, wi_Mo, gw_in 682 (by decide +kernel) (by decide +kernel)⟩
theorem lq_Mo_tables : gb_Pf 6 22 (.array .int) := ⟨"PinSwapsModel", ft_Mo, 29, ty_Mo, rfl, ty_Mo_ok, nm_Mo, rfl, rfl, by decide +kernel⟩
theorem lb_Mo_63 : gb_F "PinSwapsModel" 63 6 24 := ⟨ft_Mo, 29, rfl, by decide, wi_Mo, gw_in 684 (by decide +kernel) (by decide +kernel)⟩
theorem lq_Mo_unit : gb_Pf 6 24 (.array .int) := ⟨"PinSwapsModel", ft_Mo, 29, ty_Mo, rfl, ty_Mo_ok, nm_Mo, rfl, rfl, by decide +kernel⟩
theorem lb_Mo_66 : gb_F "PinSwapsModel" 66 6 25 := ⟨ft_Mo, 29, rfl, by decide, wi_Mo, gw_in 685 (by decide +kernel) (by decide +kernel)⟩
theorem lq_Mo_costs : gb_Pf 6 25 (.array .long) := ⟨"PinSwapsModel", ft_Mo, 29, ty_Mo, rfl, ty_Mo_ok, nm_Mo, rfl, rfl, by decide +kernel⟩
theorem lb_Mo_69 : gb_F "PinSwapsModel" 69 6 26 := ⟨ft_Mo, 29, rfl, by decide, wi_Mo, gw_in 686 (by decide +kernel) (by decide +kernel)⟩
theorem lq_Mo_least : gb_Pf 6 26 (.array .long) := ⟨"PinSwapsModel", ft_Mo, 29, ty_Mo, rfl, ty_Mo_ok, nm_Mo, rfl, rfl, by decide +kernel⟩
theorem lb_Mo_72 : gb_F "PinSwapsModel" 72 6 27 := ⟨ft_Mo, 29, rfl, by decide, wi_Mo, gw_in 687 (by decide +kernel) (by decide +kernel)⟩
theorem lq_Mo_gets : gb_Pf 6 27 (.array .int) := ⟨"PinSwapsModel", ft_Mo, 29, ty_Mo, rfl, ty_Mo_ok, nm_Mo, rfl, rfl, by decide +kernel⟩
theorem lb_Mo_75 : gb_F "PinSwapsModel" 75 6 28 := ⟨ft_Mo, 29, rfl, by decide, wi_Mo, gw_in 688 (by decide +kernel) (by decide +kernel)⟩
theorem lq_Mo_fresh : gb_Pf 6 28 (.array .int) := ⟨"PinSwapsModel", ft_Mo, 29, ty_Mo, rfl, ty_Mo_ok, nm_Mo, rfl, rfl, by decide +kernel⟩
def nu_Mo : List Nat := [58, 74, 75, 59, 60, 61, 62, 63, 64, 65, 76, 77, 66, 67, 68, 69, 70, 71, 78, 79, 72, 73]
set_option maxRecDepth 20000 in
set_option maxHeartbeats 4000000 in
theorem mc_Mo_init {l : Launch} {D : va_G} {ad : Nat → Nat} {ck : Nat → ClassId} {sz : Nat} (h : ∀ i k, nu_Mo[i]? = some k → ad k = sz + i) : gb_M l D ad ck yn_Mo_init bc_Mo_init ({ frames := 1, cells := 22, slots := 6714, locals := 12 } : Room) 57 (gc_O 6 [gv_I 0, gv_I 0, gv_I 0, gv_N, gv_N, gv_N, gv_N, gv_N, gv_N, gv_N, gv_N, gv_N, gv_N, gv_N, gv_N, gv_N, gv_L 0, gv_I 0, gv_N, gv_N, gv_I 0, gv_N, gv_N, gv_I 0, gv_N, gv_N, gv_N, gv_N, gv_N]) (cz_w (57 :: nu_Mo)) sz 22 := by
  refine gb_M.of (by decide) rfl (by decide) (fun x el eD ea ec es hC hI hR => ?_)
  refine gb_aload_n hC dr_Mo_init_0 rfl ?_
  refine gb_obj hC dr_Mo_init_1 (gw_in 659 (by decide +kernel) (by decide +kernel)) (by decide) (by decide) ?_
  refine gb_aload_n hC dr_Mo_init_4 rfl ?_
  refine gb_bipush (v := 80) hC dr_Mo_init_5 (by decide) ?_
  refine gb_nai (N' := 80) (o := 58) hC dr_Mo_init_7 (by rw [ea]; have e := h 0 58 rfl; omega) (by decide) (by decide) (by decide) (by decide) (by decide) ?_
  refine gb_put (q0 := 0) (ws2 := [(57, gc_O 6 [gv_I 0, gv_I 0, gv_I 0, gv_R 58, gv_N, gv_N, gv_N, gv_N, gv_N, gv_N, gv_N, gv_N, gv_N, gv_N, gv_N, gv_N, gv_L 0, gv_I 0, gv_N, gv_N, gv_I 0, gv_N, gv_N, gv_I 0, gv_N, gv_N, gv_N, gv_N, gv_N]), (58, gc_I 0 80 (fun _ => 0))]) hC hI dr_Mo_init_9 lb_Mo_7 lq_Mo_groupOf rfl (by decide) (fun _ => rfl) (fun _ => rfl) rfl ?_
  refine gb_aload_n hC dr_Mo_init_12 rfl ?_
  refine gb_bipush (v := 80) hC dr_Mo_init_13 (by decide) ?_
  refine gb_nal (N' := 80) (o := 74) hC dr_Mo_init_15 (by rw [ea]; have e := h 1 74 rfl; omega) (by decide) (by decide) (by decide) (by decide) (by decide) ?_
  refine gb_put (q0 := 0) (ws2 := [(57, gc_O 6 [gv_I 0, gv_I 0, gv_I 0, gv_R 58, gv_R 74, gv_N, gv_N, gv_N, gv_N, gv_N, gv_N, gv_N, gv_N, gv_N, gv_N, gv_N, gv_L 0, gv_I 0, gv_N, gv_N, gv_I 0, gv_N, gv_N, gv_I 0, gv_N, gv_N, gv_N, gv_N, gv_N]), (58, gc_I 0 80 (fun _ => 0)), (74, gc_L 80 (fun _ => 0))]) hC hI dr_Mo_init_17 lb_Mo_13 lq_Mo_x rfl (by decide) (fun _ => rfl) (fun _ => rfl) rfl ?_
  refine gb_aload_n hC dr_Mo_init_20 rfl ?_
  refine gb_bipush (v := 80) hC dr_Mo_init_21 (by decide) ?_
  refine gb_nal (N' := 80) (o := 75) hC dr_Mo_init_23 (by rw [ea]; have e := h 2 75 rfl; omega) (by decide) (by decide) (by decide) (by decide) (by decide) ?_
  refine gb_put (q0 := 0) (ws2 := [(57, gc_O 6 [gv_I 0, gv_I 0, gv_I 0, gv_R 58, gv_R 74, gv_R 75, gv_N, gv_N, gv_N, gv_N, gv_N, gv_N, gv_N, gv_N, gv_N, gv_N, gv_L 0, gv_I 0, gv_N, gv_N, gv_I 0, gv_N, gv_N, gv_I 0, gv_N, gv_N, gv_N, gv_N, gv_N]), (58, gc_I 0 80 (fun _ => 0)), (74, gc_L 80 (fun _ => 0)), (75, gc_L 80 (fun _ => 0))]) hC hI dr_Mo_init_25 lb_Mo_17 lq_Mo_y rfl (by decide) (fun _ => rfl) (fun _ => rfl) rfl ?_
  refine gb_aload_n hC dr_Mo_init_28 rfl ?_
  refine gb_bipush (v := 80) hC dr_Mo_init_29 (by decide) ?_
  refine gb_nai (N' := 80) (o := 59) hC dr_Mo_init_31 (by rw [ea]; have e := h 3 59 rfl; omega) (by decide) (by decide) (by decide) (by decide) (by decide) ?_
  refine gb_put (q0 := 0) (ws2 := [(57, gc_O 6 [gv_I 0, gv_I 0, gv_I 0, gv_R 58, gv_R 74, gv_R 75, gv_R 59, gv_N, gv_N, gv_N, gv_N, gv_N, gv_N, gv_N, gv_N, gv_N, gv_L 0, gv_I 0, gv_N, gv_N, gv_I 0, gv_N, gv_N, gv_I 0, gv_N, gv_N, gv_N, gv_N, gv_N]), (58, gc_I 0 80 (fun _ => 0)), (74, gc_L 80 (fun _ => 0)), (75, gc_L 80 (fun _ => 0)), (59, gc_I 0 80 (fun _ => 0))]) hC hI dr_Mo_init_33 lb_Mo_20 lq_Mo_banks rfl (by decide) (fun _ => rfl) (fun _ => rfl) rfl ?_
  refine gb_aload_n hC dr_Mo_init_36 rfl ?_
  refine gb_bipush (v := 80) hC dr_Mo_init_37 (by decide) ?_
  refine gb_nai (N' := 80) (o := 60) hC dr_Mo_init_39 (by rw [ea]; have e := h 4 60 rfl; omega) (by decide) (by decide) (by decide) (by decide) (by decide) ?_
  refine gb_put (q0 := 0) (ws2 := [(57, gc_O 6 [gv_I 0, gv_I 0, gv_I 0, gv_R 58, gv_R 74, gv_R 75, gv_R 59, gv_R 60, gv_N, gv_N, gv_N, gv_N, gv_N, gv_N, gv_N, gv_N, gv_L 0, gv_I 0, gv_N, gv_N, gv_I 0, gv_N, gv_N, gv_I 0, gv_N, gv_N, gv_N, gv_N, gv_N]), (58, gc_I 0 80 (fun _ => 0)), (74, gc_L 80 (fun _ => 0)), (75, gc_L 80 (fun _ => 0)), (59, gc_I 0 80 (fun _ => 0)), (60, gc_I 0 80 (fun _ => 0))]) hC hI dr_Mo_init_41 lb_Mo_23 lq_Mo_nets rfl (by decide) (fun _ => rfl) (fun _ => rfl) rfl ?_
  refine gb_aload_n hC dr_Mo_init_44 rfl ?_
  refine gb_bipush (v := 80) hC dr_Mo_init_45 (by decide) ?_
  refine gb_nai (N' := 80) (o := 61) hC dr_Mo_init_47 (by rw [ea]; have e := h 5 61 rfl; omega) (by decide) (by decide) (by decide) (by decide) (by decide) ?_
  refine gb_put (q0 := 0) (ws2 := [(57, gc_O 6 [gv_I 0, gv_I 0, gv_I 0, gv_R 58, gv_R 74, gv_R 75, gv_R 59, gv_R 60, gv_R 61, gv_N, gv_N, gv_N, gv_N, gv_N, gv_N, gv_N, gv_L 0, gv_I 0, gv_N, gv_N, gv_I 0, gv_N, gv_N, gv_I 0, gv_N, gv_N, gv_N, gv_N, gv_N]), (58, gc_I 0 80 (fun _ => 0)), (74, gc_L 80 (fun _ => 0)), (75, gc_L 80 (fun _ => 0)), (59, gc_I 0 80 (fun _ => 0)), (60, gc_I 0 80 (fun _ => 0)), (61, gc_I 0 80 (fun _ => 0))]) hC hI dr_Mo_init_49 lb_Mo_26 lq_Mo_firstNets rfl (by decide) (fun _ => rfl) (fun _ => rfl) rfl ?_
  refine gb_aload_n hC dr_Mo_init_52 rfl ?_
  refine gb_bipush (v := 80) hC dr_Mo_init_53 (by decide) ?_
  refine gb_naz (N' := 80) (o := 62) hC dr_Mo_init_55 (by rw [ea]; have e := h 6 62 rfl; omega) (by decide) (by decide) (by decide) (by decide) (by decide) ?_
  refine gb_put (q0 := 0) (ws2 := [(57, gc_O 6 [gv_I 0, gv_I 0, gv_I 0, gv_R 58, gv_R 74, gv_R 75, gv_R 59, gv_R 60, gv_R 61, gv_R 62, gv_N, gv_N, gv_N, gv_N, gv_N, gv_N, gv_L 0, gv_I 0, gv_N, gv_N, gv_I 0, gv_N, gv_N, gv_I 0, gv_N, gv_N, gv_N, gv_N, gv_N]), (58, gc_I 0 80 (fun _ => 0)), (74, gc_L 80 (fun _ => 0)), (75, gc_L 80 (fun _ => 0)), (59, gc_I 0 80 (fun _ => 0)), (60, gc_I 0 80 (fun _ => 0)), (61, gc_I 0 80 (fun _ => 0)), (62, gc_I 1 80 (fun _ => 0))]) hC hI dr_Mo_init_57 lb_Mo_29 lq_Mo_locked rfl (by decide) (fun _ => rfl) (fun _ => rfl) rfl ?_
  refine gb_aload_n hC dr_Mo_init_60 rfl ?_
  refine gb_bipush (v := 80) hC dr_Mo_init_61 (by decide) ?_
  refine gb_nai (N' := 80) (o := 63) hC dr_Mo_init_63 (by rw [ea]; have e := h 7 63 rfl; omega) (by decide) (by decide) (by decide) (by decide) (by decide) ?_
  refine gb_put (q0 := 0) (ws2 := [(57, gc_O 6 [gv_I 0, gv_I 0, gv_I 0, gv_R 58, gv_R 74, gv_R 75, gv_R 59, gv_R 60, gv_R 61, gv_R 62, gv_R 63, gv_N, gv_N, gv_N, gv_N, gv_N, gv_L 0, gv_I 0, gv_N, gv_N, gv_I 0, gv_N, gv_N, gv_I 0, gv_N, gv_N, gv_N, gv_N, gv_N]), (58, gc_I 0 80 (fun _ => 0)), (74, gc_L 80 (fun _ => 0)), (75, gc_L 80 (fun _ => 0)), (59, gc_I 0 80 (fun _ => 0)), (60, gc_I 0 80 (fun _ => 0)), (61, gc_I 0 80 (fun _ => 0)), (62, gc_I 1 80 (fun _ => 0)), (63, gc_I 0 80 (fun _ => 0))]) hC hI dr_Mo_init_65 lb_Mo_33 lq_Mo_mates rfl (by decide) (fun _ => rfl) (fun _ => rfl) rfl ?_
  refine gb_aload_n hC dr_Mo_init_68 rfl ?_
  refine gb_bipush (v := 80) hC dr_Mo_init_69 (by decide) ?_
  refine gb_naz (N' := 80) (o := 64) hC dr_Mo_init_71 (by rw [ea]; have e := h 8 64 rfl; omega) (by decide) (by decide) (by decide) (by decide) (by decide) ?_
  refine gb_put (q0 := 0) (ws2 := [(57, gc_O 6 [gv_I 0, gv_I 0, gv_I 0, gv_R 58, gv_R 74, gv_R 75, gv_R 59, gv_R 60, gv_R 61, gv_R 62, gv_R 63, gv_R 64, gv_N, gv_N, gv_N, gv_N, gv_L 0, gv_I 0, gv_N, gv_N, gv_I 0, gv_N, gv_N, gv_I 0, gv_N, gv_N, gv_N, gv_N, gv_N]), (58, gc_I 0 80 (fun _ => 0)), (74, gc_L 80 (fun _ => 0)), (75, gc_L 80 (fun _ => 0)), (59, gc_I 0 80 (fun _ => 0)), (60, gc_I 0 80 (fun _ => 0)), (61, gc_I 0 80 (fun _ => 0)), (62, gc_I 1 80 (fun _ => 0)), (63, gc_I 0 80 (fun _ => 0)), (64, gc_I 1 80 (fun _ => 0))]) hC hI dr_Mo_init_73 lb_Mo_36 lq_Mo_leads rfl (by decide) (fun _ => rfl) (fun _ => rfl) rfl ?_
  refine gb_aload_n hC dr_Mo_init_76 rfl ?_
  refine gb_sipush (v := 200) hC dr_Mo_init_77 (by decide) ?_
  refine gb_naz (N' := 200) (o := 65) hC dr_Mo_init_80 (by rw [ea]; have e := h 9 65 rfl; omega) (by decide) (by decide) (by decide) (by decide) (by decide) ?_
  refine gb_put (q0 := 0) (ws2 := [(57, gc_O 6 [gv_I 0, gv_I 0, gv_I 0, gv_R 58, gv_R 74, gv_R 75, gv_R 59, gv_R 60, gv_R 61, gv_R 62, gv_R 63, gv_R 64, gv_R 65, gv_N, gv_N, gv_N, gv_L 0, gv_I 0, gv_N, gv_N, gv_I 0, gv_N, gv_N, gv_I 0, gv_N, gv_N, gv_N, gv_N, gv_N]), (58, gc_I 0 80 (fun _ => 0)), (74, gc_L 80 (fun _ => 0)), (75, gc_L 80 (fun _ => 0)), (59, gc_I 0 80 (fun _ => 0)), (60, gc_I 0 80 (fun _ => 0)), (61, gc_I 0 80 (fun _ => 0)), (62, gc_I 1 80 (fun _ => 0)), (63, gc_I 0 80 (fun _ => 0)), (64, gc_I 1 80 (fun _ => 0)), (65, gc_I 1 200 (fun _ => 0))]) hC hI dr_Mo_init_82 lb_Mo_39 lq_Mo_hasTarget rfl (by decide) (fun _ => rfl) (fun _ => rfl) rfl ?_
  refine gb_aload_n hC dr_Mo_init_85 rfl ?_
  refine gb_sipush (v := 200) hC dr_Mo_init_86 (by decide) ?_
  refine gb_nal (N' := 200) (o := 76) hC dr_Mo_init_89 (by rw [ea]; have e := h 10 76 rfl; omega) (by decide) (by decide) (by decide) (by decide) (by decide) ?_
  refine gb_put (q0 := 0) (ws2 := [(57, gc_O 6 [gv_I 0, gv_I 0, gv_I 0, gv_R 58, gv_R 74, gv_R 75, gv_R 59, gv_R 60, gv_R 61, gv_R 62, gv_R 63, gv_R 64, gv_R 65, gv_R 76, gv_N, gv_N, gv_L 0, gv_I 0, gv_N, gv_N, gv_I 0, gv_N, gv_N, gv_I 0, gv_N, gv_N, gv_N, gv_N, gv_N]), (58, gc_I 0 80 (fun _ => 0)), (74, gc_L 80 (fun _ => 0)), (75, gc_L 80 (fun _ => 0)), (59, gc_I 0 80 (fun _ => 0)), (60, gc_I 0 80 (fun _ => 0)), (61, gc_I 0 80 (fun _ => 0)), (62, gc_I 1 80 (fun _ => 0)), (63, gc_I 0 80 (fun _ => 0)), (64, gc_I 1 80 (fun _ => 0)), (65, gc_I 1 200 (fun _ => 0)), (76, gc_L 200 (fun _ => 0))]) hC hI dr_Mo_init_91 lb_Mo_42 lq_Mo_targetX rfl (by decide) (fun _ => rfl) (fun _ => rfl) rfl ?_
  refine gb_aload_n hC dr_Mo_init_94 rfl ?_
  refine gb_sipush (v := 200) hC dr_Mo_init_95 (by decide) ?_
  refine gb_nal (N' := 200) (o := 77) hC dr_Mo_init_98 (by rw [ea]; have e := h 11 77 rfl; omega) (by decide) (by decide) (by decide) (by decide) (by decide) ?_
  refine gb_put (q0 := 0) (ws2 := [(57, gc_O 6 [gv_I 0, gv_I 0, gv_I 0, gv_R 58, gv_R 74, gv_R 75, gv_R 59, gv_R 60, gv_R 61, gv_R 62, gv_R 63, gv_R 64, gv_R 65, gv_R 76, gv_R 77, gv_N, gv_L 0, gv_I 0, gv_N, gv_N, gv_I 0, gv_N, gv_N, gv_I 0, gv_N, gv_N, gv_N, gv_N, gv_N]), (58, gc_I 0 80 (fun _ => 0)), (74, gc_L 80 (fun _ => 0)), (75, gc_L 80 (fun _ => 0)), (59, gc_I 0 80 (fun _ => 0)), (60, gc_I 0 80 (fun _ => 0)), (61, gc_I 0 80 (fun _ => 0)), (62, gc_I 1 80 (fun _ => 0)), (63, gc_I 0 80 (fun _ => 0)), (64, gc_I 1 80 (fun _ => 0)), (65, gc_I 1 200 (fun _ => 0)), (76, gc_L 200 (fun _ => 0)), (77, gc_L 200 (fun _ => 0))]) hC hI dr_Mo_init_100 lb_Mo_45 lq_Mo_targetY rfl (by decide) (fun _ => rfl) (fun _ => rfl) rfl ?_
  refine gb_aload_n hC dr_Mo_init_103 rfl ?_
  refine gb_sipush (v := 200) hC dr_Mo_init_104 (by decide) ?_
  refine gb_nai (N' := 200) (o := 66) hC dr_Mo_init_107 (by rw [ea]; have e := h 12 66 rfl; omega) (by decide) (by decide) (by decide) (by decide) (by decide) ?_
  refine gb_put (q0 := 0) (ws2 := [(57, gc_O 6 [gv_I 0, gv_I 0, gv_I 0, gv_R 58, gv_R 74, gv_R 75, gv_R 59, gv_R 60, gv_R 61, gv_R 62, gv_R 63, gv_R 64, gv_R 65, gv_R 76, gv_R 77, gv_R 66, gv_L 0, gv_I 0, gv_N, gv_N, gv_I 0, gv_N, gv_N, gv_I 0, gv_N, gv_N, gv_N, gv_N, gv_N]), (58, gc_I 0 80 (fun _ => 0)), (74, gc_L 80 (fun _ => 0)), (75, gc_L 80 (fun _ => 0)), (59, gc_I 0 80 (fun _ => 0)), (60, gc_I 0 80 (fun _ => 0)), (61, gc_I 0 80 (fun _ => 0)), (62, gc_I 1 80 (fun _ => 0)), (63, gc_I 0 80 (fun _ => 0)), (64, gc_I 1 80 (fun _ => 0)), (65, gc_I 1 200 (fun _ => 0)), (76, gc_L 200 (fun _ => 0)), (77, gc_L 200 (fun _ => 0)), (66, gc_I 0 200 (fun _ => 0))]) hC hI dr_Mo_init_109 lb_Mo_48 lq_Mo_needs rfl (by decide) (fun _ => rfl) (fun _ => rfl) rfl ?_
  refine gb_aload_n hC dr_Mo_init_112 rfl ?_
  refine gb_bipush (v := 10) hC dr_Mo_init_113 (by decide) ?_
  refine gb_nai (N' := 10) (o := 67) hC dr_Mo_init_115 (by rw [ea]; have e := h 13 67 rfl; omega) (by decide) (by decide) (by decide) (by decide) (by decide) ?_
  refine gb_put (q0 := 0) (ws2 := [(57, gc_O 6 [gv_I 0, gv_I 0, gv_I 0, gv_R 58, gv_R 74, gv_R 75, gv_R 59, gv_R 60, gv_R 61, gv_R 62, gv_R 63, gv_R 64, gv_R 65, gv_R 76, gv_R 77, gv_R 66, gv_L 0, gv_I 0, gv_R 67, gv_N, gv_I 0, gv_N, gv_N, gv_I 0, gv_N, gv_N, gv_N, gv_N, gv_N]), (58, gc_I 0 80 (fun _ => 0)), (74, gc_L 80 (fun _ => 0)), (75, gc_L 80 (fun _ => 0)), (59, gc_I 0 80 (fun _ => 0)), (60, gc_I 0 80 (fun _ => 0)), (61, gc_I 0 80 (fun _ => 0)), (62, gc_I 1 80 (fun _ => 0)), (63, gc_I 0 80 (fun _ => 0)), (64, gc_I 1 80 (fun _ => 0)), (65, gc_I 1 200 (fun _ => 0)), (76, gc_L 200 (fun _ => 0)), (77, gc_L 200 (fun _ => 0)), (66, gc_I 0 200 (fun _ => 0)), (67, gc_I 0 10 (fun _ => 0))]) hC hI dr_Mo_init_117 lb_Mo_51 lq_Mo_keptPins rfl (by decide) (fun _ => rfl) (fun _ => rfl) rfl ?_
  refine gb_aload_n hC dr_Mo_init_120 rfl ?_
  refine gb_sipush (v := 800) hC dr_Mo_init_121 (by decide) ?_
  refine gb_nai (N' := 800) (o := 68) hC dr_Mo_init_124 (by rw [ea]; have e := h 14 68 rfl; omega) (by decide) (by decide) (by decide) (by decide) (by decide) ?_
  refine gb_put (q0 := 0) (ws2 := [(57, gc_O 6 [gv_I 0, gv_I 0, gv_I 0, gv_R 58, gv_R 74, gv_R 75, gv_R 59, gv_R 60, gv_R 61, gv_R 62, gv_R 63, gv_R 64, gv_R 65, gv_R 76, gv_R 77, gv_R 66, gv_L 0, gv_I 0, gv_R 67, gv_R 68, gv_I 0, gv_N, gv_N, gv_I 0, gv_N, gv_N, gv_N, gv_N, gv_N]), (58, gc_I 0 80 (fun _ => 0)), (74, gc_L 80 (fun _ => 0)), (75, gc_L 80 (fun _ => 0)), (59, gc_I 0 80 (fun _ => 0)), (60, gc_I 0 80 (fun _ => 0)), (61, gc_I 0 80 (fun _ => 0)), (62, gc_I 1 80 (fun _ => 0)), (63, gc_I 0 80 (fun _ => 0)), (64, gc_I 1 80 (fun _ => 0)), (65, gc_I 1 200 (fun _ => 0)), (76, gc_L 200 (fun _ => 0)), (77, gc_L 200 (fun _ => 0)), (66, gc_I 0 200 (fun _ => 0)), (67, gc_I 0 10 (fun _ => 0)), (68, gc_I 0 800 (fun _ => 0))]) hC hI dr_Mo_init_126 lb_Mo_54 lq_Mo_keptNets rfl (by decide) (fun _ => rfl) (fun _ => rfl) rfl ?_
  refine gb_aload_n hC dr_Mo_init_129 rfl ?_
  refine gb_bipush (v := 20) hC dr_Mo_init_130 (by decide) ?_
  refine gb_nai (N' := 20) (o := 69) hC dr_Mo_init_132 (by rw [ea]; have e := h 15 69 rfl; omega) (by decide) (by decide) (by decide) (by decide) (by decide) ?_
  refine gb_put (q0 := 0) (ws2 := [(57, gc_O 6 [gv_I 0, gv_I 0, gv_I 0, gv_R 58, gv_R 74, gv_R 75, gv_R 59, gv_R 60, gv_R 61, gv_R 62, gv_R 63, gv_R 64, gv_R 65, gv_R 76, gv_R 77, gv_R 66, gv_L 0, gv_I 0, gv_R 67, gv_R 68, gv_I 0, gv_R 69, gv_N, gv_I 0, gv_N, gv_N, gv_N, gv_N, gv_N]), (58, gc_I 0 80 (fun _ => 0)), (74, gc_L 80 (fun _ => 0)), (75, gc_L 80 (fun _ => 0)), (59, gc_I 0 80 (fun _ => 0)), (60, gc_I 0 80 (fun _ => 0)), (61, gc_I 0 80 (fun _ => 0)), (62, gc_I 1 80 (fun _ => 0)), (63, gc_I 0 80 (fun _ => 0)), (64, gc_I 1 80 (fun _ => 0)), (65, gc_I 1 200 (fun _ => 0)), (76, gc_L 200 (fun _ => 0)), (77, gc_L 200 (fun _ => 0)), (66, gc_I 0 200 (fun _ => 0)), (67, gc_I 0 10 (fun _ => 0)), (68, gc_I 0 800 (fun _ => 0)), (69, gc_I 0 20 (fun _ => 0))]) hC hI dr_Mo_init_134 lb_Mo_57 lq_Mo_inputs rfl (by decide) (fun _ => rfl) (fun _ => rfl) rfl ?_
  refine gb_aload_n hC dr_Mo_init_137 rfl ?_
  refine gb_bipush (v := 20) hC dr_Mo_init_138 (by decide) ?_
  refine gb_nai (N' := 20) (o := 70) hC dr_Mo_init_140 (by rw [ea]; have e := h 16 70 rfl; omega) (by decide) (by decide) (by decide) (by decide) (by decide) ?_
  refine gb_put (q0 := 0) (ws2 := [(57, gc_O 6 [gv_I 0, gv_I 0, gv_I 0, gv_R 58, gv_R 74, gv_R 75, gv_R 59, gv_R 60, gv_R 61, gv_R 62, gv_R 63, gv_R 64, gv_R 65, gv_R 76, gv_R 77, gv_R 66, gv_L 0, gv_I 0, gv_R 67, gv_R 68, gv_I 0, gv_R 69, gv_R 70, gv_I 0, gv_N, gv_N, gv_N, gv_N, gv_N]), (58, gc_I 0 80 (fun _ => 0)), (74, gc_L 80 (fun _ => 0)), (75, gc_L 80 (fun _ => 0)), (59, gc_I 0 80 (fun _ => 0)), (60, gc_I 0 80 (fun _ => 0)), (61, gc_I 0 80 (fun _ => 0)), (62, gc_I 1 80 (fun _ => 0)), (63, gc_I 0 80 (fun _ => 0)), (64, gc_I 1 80 (fun _ => 0)), (65, gc_I 1 200 (fun _ => 0)), (76, gc_L 200 (fun _ => 0)), (77, gc_L 200 (fun _ => 0)), (66, gc_I 0 200 (fun _ => 0)), (67, gc_I 0 10 (fun _ => 0)), (68, gc_I 0 800 (fun _ => 0)), (69, gc_I 0 20 (fun _ => 0)), (70, gc_I 0 20 (fun _ => 0))]) hC hI dr_Mo_init_142 lb_Mo_60 lq_Mo_tables rfl (by decide) (fun _ => rfl) (fun _ => rfl) rfl ?_
  refine gb_aload_n hC dr_Mo_init_145 rfl ?_
  refine gb_bipush (v := 12) hC dr_Mo_init_146 (by decide) ?_
  refine gb_nai (N' := 12) (o := 71) hC dr_Mo_init_148 (by rw [ea]; have e := h 17 71 rfl; omega) (by decide) (by decide) (by decide) (by decide) (by decide) ?_
  refine gb_put (q0 := 0) (ws2 := [(57, gc_O 6 [gv_I 0, gv_I 0, gv_I 0, gv_R 58, gv_R 74, gv_R 75, gv_R 59, gv_R 60, gv_R 61, gv_R 62, gv_R 63, gv_R 64, gv_R 65, gv_R 76, gv_R 77, gv_R 66, gv_L 0, gv_I 0, gv_R 67, gv_R 68, gv_I 0, gv_R 69, gv_R 70, gv_I 0, gv_R 71, gv_N, gv_N, gv_N, gv_N]), (58, gc_I 0 80 (fun _ => 0)), (74, gc_L 80 (fun _ => 0)), (75, gc_L 80 (fun _ => 0)), (59, gc_I 0 80 (fun _ => 0)), (60, gc_I 0 80 (fun _ => 0)), (61, gc_I 0 80 (fun _ => 0)), (62, gc_I 1 80 (fun _ => 0)), (63, gc_I 0 80 (fun _ => 0)), (64, gc_I 1 80 (fun _ => 0)), (65, gc_I 1 200 (fun _ => 0)), (76, gc_L 200 (fun _ => 0)), (77, gc_L 200 (fun _ => 0)), (66, gc_I 0 200 (fun _ => 0)), (67, gc_I 0 10 (fun _ => 0)), (68, gc_I 0 800 (fun _ => 0)), (69, gc_I 0 20 (fun _ => 0)), (70, gc_I 0 20 (fun _ => 0)), (71, gc_I 0 12 (fun _ => 0))]) hC hI dr_Mo_init_150 lb_Mo_63 lq_Mo_unit rfl (by decide) (fun _ => rfl) (fun _ => rfl) rfl ?_
  refine gb_aload_n hC dr_Mo_init_153 rfl ?_
  refine gb_sipush (v := 144) hC dr_Mo_init_154 (by decide) ?_
  refine gb_nal (N' := 144) (o := 78) hC dr_Mo_init_157 (by rw [ea]; have e := h 18 78 rfl; omega) (by decide) (by decide) (by decide) (by decide) (by decide) ?_
  refine gb_put (q0 := 0) (ws2 := [(57, gc_O 6 [gv_I 0, gv_I 0, gv_I 0, gv_R 58, gv_R 74, gv_R 75, gv_R 59, gv_R 60, gv_R 61, gv_R 62, gv_R 63, gv_R 64, gv_R 65, gv_R 76, gv_R 77, gv_R 66, gv_L 0, gv_I 0, gv_R 67, gv_R 68, gv_I 0, gv_R 69, gv_R 70, gv_I 0, gv_R 71, gv_R 78, gv_N, gv_N, gv_N]), (58, gc_I 0 80 (fun _ => 0)), (74, gc_L 80 (fun _ => 0)), (75, gc_L 80 (fun _ => 0)), (59, gc_I 0 80 (fun _ => 0)), (60, gc_I 0 80 (fun _ => 0)), (61, gc_I 0 80 (fun _ => 0)), (62, gc_I 1 80 (fun _ => 0)), (63, gc_I 0 80 (fun _ => 0)), (64, gc_I 1 80 (fun _ => 0)), (65, gc_I 1 200 (fun _ => 0)), (76, gc_L 200 (fun _ => 0)), (77, gc_L 200 (fun _ => 0)), (66, gc_I 0 200 (fun _ => 0)), (67, gc_I 0 10 (fun _ => 0)), (68, gc_I 0 800 (fun _ => 0)), (69, gc_I 0 20 (fun _ => 0)), (70, gc_I 0 20 (fun _ => 0)), (71, gc_I 0 12 (fun _ => 0)), (78, gc_L 144 (fun _ => 0))]) hC hI dr_Mo_init_159 lb_Mo_66 lq_Mo_costs rfl (by decide) (fun _ => rfl) (fun _ => rfl) rfl ?_
  refine gb_aload_n hC dr_Mo_init_162 rfl ?_
  refine gb_sipush (v := 4096) hC dr_Mo_init_163 (by decide) ?_
  refine gb_nal (N' := 4096) (o := 79) hC dr_Mo_init_166 (by rw [ea]; have e := h 19 79 rfl; omega) (by decide) (by decide) (by decide) (by decide) (by decide) ?_
  refine gb_put (q0 := 0) (ws2 := [(57, gc_O 6 [gv_I 0, gv_I 0, gv_I 0, gv_R 58, gv_R 74, gv_R 75, gv_R 59, gv_R 60, gv_R 61, gv_R 62, gv_R 63, gv_R 64, gv_R 65, gv_R 76, gv_R 77, gv_R 66, gv_L 0, gv_I 0, gv_R 67, gv_R 68, gv_I 0, gv_R 69, gv_R 70, gv_I 0, gv_R 71, gv_R 78, gv_R 79, gv_N, gv_N]), (58, gc_I 0 80 (fun _ => 0)), (74, gc_L 80 (fun _ => 0)), (75, gc_L 80 (fun _ => 0)), (59, gc_I 0 80 (fun _ => 0)), (60, gc_I 0 80 (fun _ => 0)), (61, gc_I 0 80 (fun _ => 0)), (62, gc_I 1 80 (fun _ => 0)), (63, gc_I 0 80 (fun _ => 0)), (64, gc_I 1 80 (fun _ => 0)), (65, gc_I 1 200 (fun _ => 0)), (76, gc_L 200 (fun _ => 0)), (77, gc_L 200 (fun _ => 0)), (66, gc_I 0 200 (fun _ => 0)), (67, gc_I 0 10 (fun _ => 0)), (68, gc_I 0 800 (fun _ => 0)), (69, gc_I 0 20 (fun _ => 0)), (70, gc_I 0 20 (fun _ => 0)), (71, gc_I 0 12 (fun _ => 0)), (78, gc_L 144 (fun _ => 0)), (79, gc_L 4096 (fun _ => 0))]) hC hI dr_Mo_init_168 lb_Mo_69 lq_Mo_least rfl (by decide) (fun _ => rfl) (fun _ => rfl) rfl ?_
  refine gb_aload_n hC dr_Mo_init_171 rfl ?_
  refine gb_bipush (v := 12) hC dr_Mo_init_172 (by decide) ?_
  refine gb_nai (N' := 12) (o := 72) hC dr_Mo_init_174 (by rw [ea]; have e := h 20 72 rfl; omega) (by decide) (by decide) (by decide) (by decide) (by decide) ?_
  refine gb_put (q0 := 0) (ws2 := [(57, gc_O 6 [gv_I 0, gv_I 0, gv_I 0, gv_R 58, gv_R 74, gv_R 75, gv_R 59, gv_R 60, gv_R 61, gv_R 62, gv_R 63, gv_R 64, gv_R 65, gv_R 76, gv_R 77, gv_R 66, gv_L 0, gv_I 0, gv_R 67, gv_R 68, gv_I 0, gv_R 69, gv_R 70, gv_I 0, gv_R 71, gv_R 78, gv_R 79, gv_R 72, gv_N]), (58, gc_I 0 80 (fun _ => 0)), (74, gc_L 80 (fun _ => 0)), (75, gc_L 80 (fun _ => 0)), (59, gc_I 0 80 (fun _ => 0)), (60, gc_I 0 80 (fun _ => 0)), (61, gc_I 0 80 (fun _ => 0)), (62, gc_I 1 80 (fun _ => 0)), (63, gc_I 0 80 (fun _ => 0)), (64, gc_I 1 80 (fun _ => 0)), (65, gc_I 1 200 (fun _ => 0)), (76, gc_L 200 (fun _ => 0)), (77, gc_L 200 (fun _ => 0)), (66, gc_I 0 200 (fun _ => 0)), (67, gc_I 0 10 (fun _ => 0)), (68, gc_I 0 800 (fun _ => 0)), (69, gc_I 0 20 (fun _ => 0)), (70, gc_I 0 20 (fun _ => 0)), (71, gc_I 0 12 (fun _ => 0)), (78, gc_L 144 (fun _ => 0)), (79, gc_L 4096 (fun _ => 0)), (72, gc_I 0 12 (fun _ => 0))]) hC hI dr_Mo_init_176 lb_Mo_72 lq_Mo_gets rfl (by decide) (fun _ => rfl) (fun _ => rfl) rfl ?_
  refine gb_aload_n hC dr_Mo_init_179 rfl ?_
  refine gb_bipush (v := 80) hC dr_Mo_init_180 (by decide) ?_
  refine gb_nai (N' := 80) (o := 73) hC dr_Mo_init_182 (by rw [ea]; have e := h 21 73 rfl; omega) (by decide) (by decide) (by decide) (by decide) (by decide) ?_
  refine gb_put (q0 := 0) (ws2 := [(57, gc_O 6 [gv_I 0, gv_I 0, gv_I 0, gv_R 58, gv_R 74, gv_R 75, gv_R 59, gv_R 60, gv_R 61, gv_R 62, gv_R 63, gv_R 64, gv_R 65, gv_R 76, gv_R 77, gv_R 66, gv_L 0, gv_I 0, gv_R 67, gv_R 68, gv_I 0, gv_R 69, gv_R 70, gv_I 0, gv_R 71, gv_R 78, gv_R 79, gv_R 72, gv_R 73]), (58, gc_I 0 80 (fun _ => 0)), (74, gc_L 80 (fun _ => 0)), (75, gc_L 80 (fun _ => 0)), (59, gc_I 0 80 (fun _ => 0)), (60, gc_I 0 80 (fun _ => 0)), (61, gc_I 0 80 (fun _ => 0)), (62, gc_I 1 80 (fun _ => 0)), (63, gc_I 0 80 (fun _ => 0)), (64, gc_I 1 80 (fun _ => 0)), (65, gc_I 1 200 (fun _ => 0)), (76, gc_L 200 (fun _ => 0)), (77, gc_L 200 (fun _ => 0)), (66, gc_I 0 200 (fun _ => 0)), (67, gc_I 0 10 (fun _ => 0)), (68, gc_I 0 800 (fun _ => 0)), (69, gc_I 0 20 (fun _ => 0)), (70, gc_I 0 20 (fun _ => 0)), (71, gc_I 0 12 (fun _ => 0)), (78, gc_L 144 (fun _ => 0)), (79, gc_L 4096 (fun _ => 0)), (72, gc_I 0 12 (fun _ => 0)), (73, gc_I 0 80 (fun _ => 0))]) hC hI dr_Mo_init_184 lb_Mo_75 lq_Mo_fresh rfl (by decide) (fun _ => rfl) (fun _ => rfl) rfl ?_
  exact hR (by decide) (by decide) rfl dr_Mo_init_187
theorem ln_PS_7 : gb_N "PinSwaps" 7 5 12 [gv_I 0, gv_I 0, gv_N, gv_N, gv_N, gv_N, gv_N, gv_N, gv_N, gv_N, gv_N, gv_N] := ⟨"PinSwaps$Pins", ft_Pi, ty_Pi, rfl, wi_Pi, ty_Pi_ok, gw_in 78 (by decide +kernel) (by decide +kernel), gw_in 79 (by decide +kernel) (by decide +kernel), gw_in 56 (by decide +kernel) (by decide +kernel), fun ad j hj => by
  revert j
  exact fun j hj => by
    have hj2 : j < 12 := hj
    match j, hj2 with
    | 0, _ => rfl
    | 1, _ => rfl
    | 2, _ => rfl
    | 3, _ => rfl
    | 4, _ => rfl
    | 5, _ => rfl
    | 6, _ => rfl
    | 7, _ => rfl
    | 8, _ => rfl
    | 9, _ => rfl
    | 10, _ => rfl
    | 11, _ => rfl⟩
theorem lv_PS_9 : gb_V "PinSwaps" 9 yn_Pi_init bc_Pi_init := ⟨Or.inr ⟨"PinSwaps", gw_inN 80 (by decide +kernel) (by decide +kernel)⟩, gw_in 81 (by decide +kernel) (by decide +kernel), gw_in 56 (by decide +kernel) (by decide +kernel), gw_in 82 (by decide +kernel) (by decide +kernel), rfl, ⟨by decide +kernel, by decide +kernel⟩, by decide +kernel⟩
theorem lb_PS_10 : gb_F "PinSwaps" 10 0 0 := ⟨ft_PS, 6, rfl, by decide, wi_PS, gw_in 241 (by decide +kernel) (by decide +kernel)⟩
theorem lq_PS_pins : gb_Pf 0 0 (.object "PinSwaps$Pins") := ⟨"PinSwaps", ft_PS, 6, ty_PS, rfl, ty_PS_ok, nm_PS, rfl, rfl, by decide +kernel⟩
theorem ln_PS_16 : gb_N "PinSwaps" 16 4 4 [gv_N, gv_N, gv_N, gv_N] := ⟨"PinSwaps$Nets", ft_Ne, ty_Ne, rfl, wi_Ne, ty_Ne_ok, gw_in 134 (by decide +kernel) (by decide +kernel), gw_in 135 (by decide +kernel) (by decide +kernel), gw_in 57 (by decide +kernel) (by decide +kernel), fun ad j hj => by
  revert j
  exact fun j hj => by
    have hj2 : j < 4 := hj
    match j, hj2 with
    | 0, _ => rfl
    | 1, _ => rfl
    | 2, _ => rfl
    | 3, _ => rfl⟩
theorem lv_PS_18 : gb_V "PinSwaps" 18 yn_Ne_init bc_Ne_init := ⟨Or.inr ⟨"PinSwaps", gw_inN 136 (by decide +kernel) (by decide +kernel)⟩, gw_in 137 (by decide +kernel) (by decide +kernel), gw_in 57 (by decide +kernel) (by decide +kernel), gw_in 138 (by decide +kernel) (by decide +kernel), rfl, ⟨by decide +kernel, by decide +kernel⟩, by decide +kernel⟩
theorem lb_PS_19 : gb_F "PinSwaps" 19 0 1 := ⟨ft_PS, 6, rfl, by decide, wi_PS, gw_in 242 (by decide +kernel) (by decide +kernel)⟩
theorem lq_PS_nets : gb_Pf 0 1 (.object "PinSwaps$Nets") := ⟨"PinSwaps", ft_PS, 6, ty_PS, rfl, ty_PS_ok, nm_PS, rfl, rfl, by decide +kernel⟩
theorem ln_PS_23 : gb_N "PinSwaps" 23 3 10 [gv_I 0, gv_N, gv_N, gv_N, gv_N, gv_N, gv_N, gv_N, gv_N, gv_N] := ⟨"PinSwaps$Matching", ft_Ma, ty_Ma, rfl, wi_Ma, ty_Ma_ok, gw_in 160 (by decide +kernel) (by decide +kernel), gw_in 161 (by decide +kernel) (by decide +kernel), gw_in 59 (by decide +kernel) (by decide +kernel), fun ad j hj => by
  revert j
  exact fun j hj => by
    have hj2 : j < 10 := hj
    match j, hj2 with
    | 0, _ => rfl
    | 1, _ => rfl
    | 2, _ => rfl
    | 3, _ => rfl
    | 4, _ => rfl
    | 5, _ => rfl
    | 6, _ => rfl
    | 7, _ => rfl
    | 8, _ => rfl
    | 9, _ => rfl⟩
theorem lv_PS_25 : gb_V "PinSwaps" 25 yn_Ma_init bc_Ma_init := ⟨Or.inr ⟨"PinSwaps", gw_inN 162 (by decide +kernel) (by decide +kernel)⟩, gw_in 163 (by decide +kernel) (by decide +kernel), gw_in 59 (by decide +kernel) (by decide +kernel), gw_in 164 (by decide +kernel) (by decide +kernel), rfl, ⟨by decide +kernel, by decide +kernel⟩, by decide +kernel⟩
theorem lb_PS_26 : gb_F "PinSwaps" 26 0 2 := ⟨ft_PS, 6, rfl, by decide, wi_PS, gw_in 243 (by decide +kernel) (by decide +kernel)⟩
theorem lq_PS_matching : gb_Pf 0 2 (.object "PinSwaps$Matching") := ⟨"PinSwaps", ft_PS, 6, ty_PS, rfl, ty_PS_ok, nm_PS, rfl, rfl, by decide +kernel⟩
theorem ln_PS_30 : gb_N "PinSwaps" 30 2 4 [gv_N, gv_N, gv_I 0, gv_I 0] := ⟨"PinSwaps$History", ft_Hi, ty_Hi, rfl, wi_Hi, ty_Hi_ok, gw_in 203 (by decide +kernel) (by decide +kernel), gw_in 204 (by decide +kernel) (by decide +kernel), gw_in 60 (by decide +kernel) (by decide +kernel), fun ad j hj => by
  revert j
  exact fun j hj => by
    have hj2 : j < 4 := hj
    match j, hj2 with
    | 0, _ => rfl
    | 1, _ => rfl
    | 2, _ => rfl
    | 3, _ => rfl⟩
theorem lv_PS_32 : gb_V "PinSwaps" 32 yn_Hi_init bc_Hi_init := ⟨Or.inr ⟨"PinSwaps", gw_inN 205 (by decide +kernel) (by decide +kernel)⟩, gw_in 206 (by decide +kernel) (by decide +kernel), gw_in 60 (by decide +kernel) (by decide +kernel), gw_in 207 (by decide +kernel) (by decide +kernel), rfl, ⟨by decide +kernel, by decide +kernel⟩, by decide +kernel⟩
theorem lb_PS_33 : gb_F "PinSwaps" 33 0 3 := ⟨ft_PS, 6, rfl, by decide, wi_PS, gw_in 244 (by decide +kernel) (by decide +kernel)⟩
theorem lq_PS_history : gb_Pf 0 3 (.object "PinSwaps$History") := ⟨"PinSwaps", ft_PS, 6, ty_PS, rfl, ty_PS_ok, nm_PS, rfl, rfl, by decide +kernel⟩
theorem ln_PS_37 : gb_N "PinSwaps" 37 1 3 [gv_I 0, gv_N, gv_N] := ⟨"PinSwaps$Gates", ft_Gt, ty_Gt, rfl, wi_Gt, ty_Gt_ok, gw_in 224 (by decide +kernel) (by decide +kernel), gw_in 225 (by decide +kernel) (by decide +kernel), gw_in 61 (by decide +kernel) (by decide +kernel), fun ad j hj => by
  revert j
  exact fun j hj => by
    have hj2 : j < 3 := hj
    match j, hj2 with
    | 0, _ => rfl
    | 1, _ => rfl
    | 2, _ => rfl⟩
theorem lv_PS_39 : gb_V "PinSwaps" 39 yn_Gt_init bc_Gt_init := ⟨Or.inr ⟨"PinSwaps", gw_inN 226 (by decide +kernel) (by decide +kernel)⟩, gw_in 227 (by decide +kernel) (by decide +kernel), gw_in 61 (by decide +kernel) (by decide +kernel), gw_in 228 (by decide +kernel) (by decide +kernel), rfl, ⟨by decide +kernel, by decide +kernel⟩, by decide +kernel⟩
theorem lb_PS_40 : gb_F "PinSwaps" 40 0 4 := ⟨ft_PS, 6, rfl, by decide, wi_PS, gw_in 245 (by decide +kernel) (by decide +kernel)⟩
theorem lq_PS_gates : gb_Pf 0 4 (.object "PinSwaps$Gates") := ⟨"PinSwaps", ft_PS, 6, ty_PS, rfl, ty_PS_ok, nm_PS, rfl, rfl, by decide +kernel⟩
def nu_PS : List Nat := [1, 6, 7, 35, 36, 8, 9, 10, 11, 12, 13, 2, 14, 37, 38, 15, 3, 16, 55, 42, 43, 44, 45, 46, 47, 48, 49, 50, 51, 52, 53, 54, 39, 40, 17, 18, 41, 19, 20, 4, 56, 24, 25, 26, 27, 28, 29, 30, 31, 32, 33, 34, 21, 5, 22, 23]
set_option maxRecDepth 20000 in
set_option maxHeartbeats 4000000 in
theorem mc_PS_init {l : Launch} {D : va_G} {ad : Nat → Nat} {ck : Nat → ClassId} {sz : Nat} (h : ∀ i k, nu_PS[i]? = some k → ad k = sz + i) : gb_M l D ad ck yn_PS_init bc_PS_init ({ frames := 2, cells := 56, slots := 2793, locals := 43 } : Room) 0 (gc_O 0 [gv_N, gv_N, gv_N, gv_N, gv_N, gv_L 0]) (cz_w (0 :: nu_PS)) sz 56 := by
  refine gb_M.of (by decide) rfl (by decide) (fun x el eD ea ec es hC hI hR => ?_)
  refine gb_aload_n hC dr_PS_init_0 rfl ?_
  refine gb_obj hC dr_PS_init_1 (gw_in 75 (by decide +kernel) (by decide +kernel)) (by decide) (by decide) ?_
  refine gb_aload_n hC dr_PS_init_4 rfl ?_
  refine gb_new (o := 1) hC dr_PS_init_5 ln_PS_7 (by rw [ea]; have e := h 0 1 rfl; omega) (by decide) (by decide) ?_
  refine gb_dup hC dr_PS_init_8 rfl ?_
  have s1 : ∀ i k, nu_Pi[i]? = some k → ad k = (sz + 1) + i := fun i k hk => by
    have e := h _ _ (cz_sub (pre := [1]) (post := [2, 14, 37, 38, 15, 3, 16, 55, 42, 43, 44, 45, 46, 47, 48, 49, 50, 51, 52, 53, 54, 39, 40, 17, 18, 41, 19, 20, 4, 56, 24, 25, 26, 27, 28, 29, 30, 31, 32, 33, 34, 21, 5, 22, 23]) hk)
    have e2 : ad k = sz + (1 + i) := e
    omega
  refine gb_call (wa := [(0, gc_O 0 [gv_N, gv_N, gv_N, gv_N, gv_N, gv_L 0])]) (o := 1) (ws2 := cz_w (1 :: nu_Pi)) (nz := 10) hC dr_PS_init_9 lv_PS_9 (by rw [el, eD, ea, ec]; exact mc_Pi_init s1) rfl (by decide) (by decide) (by decide) (by rw [ea]; exact cz_at s1) ?_
  refine gb_put (q0 := 0) (ws2 := [(0, gc_O 0 [gv_R 1, gv_N, gv_N, gv_N, gv_N, gv_L 0])] ++ cz_w (1 :: nu_Pi)) hC hI dr_PS_init_12 lb_PS_10 lq_PS_pins rfl (by decide) (fun _ => rfl) (fun _ => rfl) rfl ?_
  refine gb_aload_n hC dr_PS_init_15 rfl ?_
  refine gb_new (o := 2) hC dr_PS_init_16 ln_PS_16 (by rw [ea]; have e := h 11 2 rfl; omega) (by decide) (by decide) ?_
  refine gb_dup hC dr_PS_init_19 rfl ?_
  have s2 : ∀ i k, nu_Ne[i]? = some k → ad k = (sz + 12) + i := fun i k hk => by
    have e := h _ _ (cz_sub (pre := [1, 6, 7, 35, 36, 8, 9, 10, 11, 12, 13, 2]) (post := [3, 16, 55, 42, 43, 44, 45, 46, 47, 48, 49, 50, 51, 52, 53, 54, 39, 40, 17, 18, 41, 19, 20, 4, 56, 24, 25, 26, 27, 28, 29, 30, 31, 32, 33, 34, 21, 5, 22, 23]) hk)
    have e2 : ad k = sz + (12 + i) := e
    omega
  refine gb_call (wa := [(0, gc_O 0 [gv_R 1, gv_N, gv_N, gv_N, gv_N, gv_L 0])] ++ cz_w (1 :: nu_Pi)) (o := 2) (ws2 := cz_w (2 :: nu_Ne)) (nz := 4) hC dr_PS_init_20 lv_PS_18 (by rw [el, eD, ea, ec]; exact mc_Ne_init s2) rfl (by decide) (by decide) (by decide) (by rw [ea]; exact cz_at s2) ?_
  refine gb_put (q0 := 0) (ws2 := [(0, gc_O 0 [gv_R 1, gv_R 2, gv_N, gv_N, gv_N, gv_L 0])] ++ cz_w (1 :: nu_Pi) ++ cz_w (2 :: nu_Ne)) hC hI dr_PS_init_23 lb_PS_19 lq_PS_nets rfl (by decide) (fun _ => rfl) (fun _ => rfl) rfl ?_
  refine gb_aload_n hC dr_PS_init_26 rfl ?_
  refine gb_new (o := 3) hC dr_PS_init_27 ln_PS_23 (by rw [ea]; have e := h 16 3 rfl; omega) (by decide) (by decide) ?_
  refine gb_dup hC dr_PS_init_30 rfl ?_
  have s3 : ∀ i k, nu_Ma[i]? = some k → ad k = (sz + 17) + i := fun i k hk => by
    have e := h _ _ (cz_sub (pre := [1, 6, 7, 35, 36, 8, 9, 10, 11, 12, 13, 2, 14, 37, 38, 15, 3]) (post := [4, 56, 24, 25, 26, 27, 28, 29, 30, 31, 32, 33, 34, 21, 5, 22, 23]) hk)
    have e2 : ad k = sz + (17 + i) := e
    omega
  refine gb_call (wa := [(0, gc_O 0 [gv_R 1, gv_R 2, gv_N, gv_N, gv_N, gv_L 0])] ++ cz_w (1 :: nu_Pi) ++ cz_w (2 :: nu_Ne)) (o := 3) (ws2 := cz_w (3 :: nu_Ma)) (nz := 22) hC dr_PS_init_31 lv_PS_25 (by rw [el, eD, ea, ec]; exact mc_Ma_init s3) rfl (by decide) (by decide) (by decide) (by rw [ea]; exact cz_at s3) ?_
  refine gb_put (q0 := 0) (ws2 := [(0, gc_O 0 [gv_R 1, gv_R 2, gv_R 3, gv_N, gv_N, gv_L 0])] ++ cz_w (1 :: nu_Pi) ++ cz_w (2 :: nu_Ne) ++ cz_w (3 :: nu_Ma)) hC hI dr_PS_init_34 lb_PS_26 lq_PS_matching rfl (by decide) (fun _ => rfl) (fun _ => rfl) rfl ?_
  refine gb_aload_n hC dr_PS_init_37 rfl ?_
  refine gb_new (o := 4) hC dr_PS_init_38 ln_PS_30 (by rw [ea]; have e := h 39 4 rfl; omega) (by decide) (by decide) ?_
  refine gb_dup hC dr_PS_init_41 rfl ?_
  have s4 : ∀ i k, nu_Hi[i]? = some k → ad k = (sz + 40) + i := fun i k hk => by
    have e := h _ _ (cz_sub (pre := [1, 6, 7, 35, 36, 8, 9, 10, 11, 12, 13, 2, 14, 37, 38, 15, 3, 16, 55, 42, 43, 44, 45, 46, 47, 48, 49, 50, 51, 52, 53, 54, 39, 40, 17, 18, 41, 19, 20, 4]) (post := [5, 22, 23]) hk)
    have e2 : ad k = sz + (40 + i) := e
    omega
  refine gb_call (wa := [(0, gc_O 0 [gv_R 1, gv_R 2, gv_R 3, gv_N, gv_N, gv_L 0])] ++ cz_w (1 :: nu_Pi) ++ cz_w (2 :: nu_Ne) ++ cz_w (3 :: nu_Ma)) (o := 4) (ws2 := cz_w (4 :: nu_Hi)) (nz := 13) hC dr_PS_init_42 lv_PS_32 (by rw [el, eD, ea, ec]; exact mc_Hi_init s4) rfl (by decide) (by decide) (by decide) (by rw [ea]; exact cz_at s4) ?_
  refine gb_put (q0 := 0) (ws2 := [(0, gc_O 0 [gv_R 1, gv_R 2, gv_R 3, gv_R 4, gv_N, gv_L 0])] ++ cz_w (1 :: nu_Pi) ++ cz_w (2 :: nu_Ne) ++ cz_w (3 :: nu_Ma) ++ cz_w (4 :: nu_Hi)) hC hI dr_PS_init_45 lb_PS_33 lq_PS_history rfl (by decide) (fun _ => rfl) (fun _ => rfl) rfl ?_
  refine gb_aload_n hC dr_PS_init_48 rfl ?_
  refine gb_new (o := 5) hC dr_PS_init_49 ln_PS_37 (by rw [ea]; have e := h 53 5 rfl; omega) (by decide) (by decide) ?_
  refine gb_dup hC dr_PS_init_52 rfl ?_
  have s5 : ∀ i k, nu_Gt[i]? = some k → ad k = (sz + 54) + i := fun i k hk => by
    have e := h _ _ (cz_sub (pre := [1, 6, 7, 35, 36, 8, 9, 10, 11, 12, 13, 2, 14, 37, 38, 15, 3, 16, 55, 42, 43, 44, 45, 46, 47, 48, 49, 50, 51, 52, 53, 54, 39, 40, 17, 18, 41, 19, 20, 4, 56, 24, 25, 26, 27, 28, 29, 30, 31, 32, 33, 34, 21, 5]) (post := []) hk)
    have e2 : ad k = sz + (54 + i) := e
    omega
  refine gb_call (wa := [(0, gc_O 0 [gv_R 1, gv_R 2, gv_R 3, gv_R 4, gv_N, gv_L 0])] ++ cz_w (1 :: nu_Pi) ++ cz_w (2 :: nu_Ne) ++ cz_w (3 :: nu_Ma) ++ cz_w (4 :: nu_Hi)) (o := 5) (ws2 := cz_w (5 :: nu_Gt)) (nz := 2) hC dr_PS_init_53 lv_PS_39 (by rw [el, eD, ea, ec]; exact mc_Gt_init s5) rfl (by decide) (by decide) (by decide) (by rw [ea]; exact cz_at s5) ?_
  refine gb_put (q0 := 0) (ws2 := [(0, gc_O 0 [gv_R 1, gv_R 2, gv_R 3, gv_R 4, gv_R 5, gv_L 0])] ++ cz_w (1 :: nu_Pi) ++ cz_w (2 :: nu_Ne) ++ cz_w (3 :: nu_Ma) ++ cz_w (4 :: nu_Hi) ++ cz_w (5 :: nu_Gt)) hC hI dr_PS_init_56 lb_PS_40 lq_PS_gates rfl (by decide) (fun _ => rfl) (fun _ => rfl) rfl ?_
  exact hR (by decide) (by decide) rfl dr_PS_init_59
