/-! THE WHOLE LAW -/
theorem ln_Lw_8 : gb_N "PinSwapsLaw" 8 0 6 [gv_N, gv_N, gv_N, gv_N, gv_N, gv_L 0] := ⟨"PinSwaps", ft_PS, ty_PS, rfl, wi_PS, ty_PS_ok, gw_in 70 (by decide +kernel) (by decide +kernel), gw_in 71 (by decide +kernel) (by decide +kernel), gw_in 55 (by decide +kernel) (by decide +kernel), fun ad j hj => by
  revert j
  exact fun j hj => by
    have hj2 : j < 6 := hj
    match j, hj2 with
    | 0, _ => rfl
    | 1, _ => rfl
    | 2, _ => rfl
    | 3, _ => rfl
    | 4, _ => rfl
    | 5, _ => rfl
    | z + 6, h9 => exact absurd h9 (by omega)⟩
theorem lv_Lw_53 : gb_V "PinSwapsLaw" 53 yn_PS_init bc_PS_init := ⟨Or.inl (gw_in 72 (by decide +kernel) (by decide +kernel)), gw_in 73 (by decide +kernel) (by decide +kernel), gw_in 55 (by decide +kernel) (by decide +kernel), gw_in 74 (by decide +kernel) (by decide +kernel), rfl, ⟨by decide +kernel, by decide +kernel⟩, by decide +kernel⟩
theorem ln_Lw_54 : gb_N "PinSwapsLaw" 54 6 29 [gv_I 0, gv_I 0, gv_I 0, gv_N, gv_N, gv_N, gv_N, gv_N, gv_N, gv_N, gv_N, gv_N, gv_N, gv_N, gv_N, gv_N, gv_L 0, gv_I 0, gv_N, gv_N, gv_I 0, gv_N, gv_N, gv_I 0, gv_N, gv_N, gv_N, gv_N, gv_N] := ⟨"PinSwapsModel", ft_Mo, ty_Mo, rfl, wi_Mo, ty_Mo_ok, gw_in 654 (by decide +kernel) (by decide +kernel), gw_in 655 (by decide +kernel) (by decide +kernel), gw_in 62 (by decide +kernel) (by decide +kernel), fun ad j hj => by
  revert j
  exact fun j hj => by
    have hj2 : j < 29 := hj
    match j, hj2 with
    | 0, _ => rfl
    | 1, _ => rfl
    | 2, _ => rfl
    | 3, _ => rfl
    | 4, _ => rfl
    | 5, _ => rfl
    | 6, _ => rfl
    | 7, _ => rfl
    | 8, _ => rfl
    | 9, _ => rfl
    | 10, _ => rfl
    | 11, _ => rfl
    | 12, _ => rfl
    | 13, _ => rfl
    | 14, _ => rfl
    | 15, _ => rfl
    | 16, _ => rfl
    | 17, _ => rfl
    | 18, _ => rfl
    | 19, _ => rfl
    | 20, _ => rfl
    | 21, _ => rfl
    | 22, _ => rfl
    | 23, _ => rfl
    | 24, _ => rfl
    | 25, _ => rfl
    | 26, _ => rfl
    | 27, _ => rfl
    | 28, _ => rfl
    | z + 29, h9 => exact absurd h9 (by omega)⟩
theorem lv_Lw_56 : gb_V "PinSwapsLaw" 56 yn_Mo_init bc_Mo_init := ⟨Or.inl (gw_in 656 (by decide +kernel) (by decide +kernel)), gw_in 657 (by decide +kernel) (by decide +kernel), gw_in 62 (by decide +kernel) (by decide +kernel), gw_in 658 (by decide +kernel) (by decide +kernel), rfl, ⟨by decide +kernel, by decide +kernel⟩, by decide +kernel⟩
def R_law : String := "PinSwapsLaw"
def lw_P (b : Addr) (xs : List Int32) (args : Array Value) (s : State) : Prop := args = #[.ref b] ∧ s.IntsAt b xs ∧ xs.length ≤ 3584 ∧ (Jvm.Cond.and given_1 narrow_1).before args s = true
def lw_Q (_ : Array Value) (s : State) (o : Outcome) (t : State) : Prop := o = .returned (some (.int 1)) ∧ Framed s o t [] 601024 7293034
def lw_Z (below : List Frame) (a : Array Value) (s : State) : State → Prop := fun t => ∃ o, t.status = .running ∧ Ended t below o ∧ lw_Q a s o t
/-- the law's own end, with 1 on the stack, nothing written that was there before, its room as the claim has it -/
theorem lw_ret {p : Program} {l : Launch} {e : Env} {s : State} {m : MethodId} {below : List Frame} {meth : Method} {c : Code} {b : Nat} (hx : p.tables.exec = Jvm.exec) (hb : c.code = code) (hr : meth.sig.returnType = ret) (hlocks : meth.locks = false) {pc : Nat} {H : Heap} {ls : Array Slot} (hdg : decode code pc = .ok (.ireturn, 1)) : W p l e room_1 s m #[Value.ref b] below meth c H [] 601024 7293034 (lw_Z below #[Value.ref b] s) (F0 m pc ls [.int 1]) := by
  intro T hT X
  obtain ⟨fs, hret, hrun, hended, hW, hframe⟩ := X.leave (v := some (.int 1)) (hlocks := hlocks) (fun h => by rw [hr] at h; cases h)
  have hmeth' : T.vm.method? m = some meth := X.method'
  refine ⟨T.setFrames fs, ?_, .returned (some (.int 1)), hrun, hended, rfl, ⟨_, rfl⟩, hW, hframe⟩
  jvm_step X.here [X.here.top, hx, hb, hdg, hmeth', hr, ret, narrow_b1]
  (try refine ⟨rfl, ?_⟩); (try refine ⟨rfl, ?_⟩)
  first | (intro acts; rw [hret _ acts rfl rfl rfl]) | rw [hret _ _ rfl rfl rfl]
  exact Steps.refl _
/-- what holds at the law's entry: the machine, the code, the tables' words (any of lw_tbl by 'hts w (by decide +kernel)'), the script of L ints xs at the cell b, what the Statement gives of the start (any of its parts by flat_of_before) -/
def lw_At (p : Program) (s : State) (m : MethodId) (meth : Method) (c : Code) (b L : Nat) (xs : Nat → Int32) : Prop :=
  p.tables.exec = Jvm.exec ∧ c.code = code ∧ meth.sig.returnType = ret ∧ c.maxLocals = 8 ∧ s.vm.findClass R_law = some m.cls ∧ (∀ w ∈ lw_tbl, w.before #[Value.ref b] s = true) ∧ va_X b L xs s s.heap ∧ b < s.heap.size ∧ meth.locks = false ∧ (Jvm.Cond.and given_1 narrow_1).before #[Value.ref b] s = true
def nu_All : List Nat := 0 :: (nu_PS ++ (57 :: (nu_Mo ++ [80])))
theorem nu_A : ∀ i, i < 81 → nu_All.idxOf (nu_All.getD i 0) = i ∧ nu_All.getD i 0 < 81 := by decide +kernel
theorem nu_B : ∀ k, k < 81 → k ∈ nu_All := by decide +kernel
theorem nu_C : ∀ i, i < 81 → ∀ j, j < 81 → nu_All.idxOf i = nu_All.idxOf j → i = j := by decide +kernel
theorem gb_go {nL : Nat} {R : Room} {x : gx_X} {k n hz : Nat} {ws : gl_T} {pc : Nat} {lv : List (Nat × gv_V)} {st : List gv_V} (hw : ∀ k, k < 81 → (k, cz_A k) ∈ ws) (kk : gw_G 81 nL R x k n cz_A pc lv st) : gb_G nL R x k n hz ws pc lv st := by
  obtain ⟨p, l, e, s, m, args, below, meth, c, Q, D, A, ad, ck⟩ := x
  intro H locs ls hh hP hD hS hl
  refine kk H locs ls (fun k q hq => ?_) hS hl
  have h81 : k < 81 := (gw_lt hq).1
  have e2 := gw_at (N := 81) (ad := ad) (ck := ck) (cf := cz_A) h81
  cases hq.symm.trans e2
  exact gl_in.mp hP (k, cz_A k) (hw k h81)
set_option maxRecDepth 20000 in
theorem nu_D : (([] ++ cz_w (0 :: nu_PS)) ++ cz_w (57 :: nu_Mo)) ++ [(80, gc_L 1 (fun _ => 0))] = cz_w nu_All := rfl
set_option maxRecDepth 20000 in
set_option maxHeartbeats 4000000 in
/-- from the entry, for every script of at most 3584 ints, the law comes to its end with true -/
theorem whole_start {p : Program} {e : Env} {s : State} {m : MethodId} {below : List Frame} {meth : Method} {c : Code} (l : Launch) (hfl : l.flags = flags0) {b L : Nat} {xs : Nat → Int32} (hL : L ≤ 3584) (C0 : lw_At p s m meth c b L xs) : W p l e room_1 s m #[Value.ref b] below meth c s.heap [] 0 0 (lw_Z below #[Value.ref b] s) (entryFrame m ([Value.ref b] : List Value).toArray 8) := by
  obtain ⟨hx, hb, hr, hml, hown, hts, hX, hbl, hlk, hgv⟩ := C0
  have hT : ∀ w ∈ gw_T, w.before #[Value.ref b] s = true := fun w hw => hts w (List.mem_filter.mp hw).1
  have hNw : ∀ w ∈ gw_Nl, va_Nw w s := fun w hw => va_Nw.of (gw_Nl_on w hw) (hts w (List.mem_filter.mp hw).1)
  have o1 : (Cond.arrayOver (.array .int)).before #[Value.ref b] s = true := hts _ (by decide +kernel)
  have o2 : (Cond.arrayOver (.array .long)).before #[Value.ref b] s = true := hts _ (by decide +kernel)
  obtain ⟨D, c0, c1, c2, c3, c4, hcur, hKK⟩ := st_K hT o1 o2
  obtain ⟨t1, t2, hEE⟩ := st_E hts hgv hcur
  generalize hck : (fun i : Nat => (if i = 0 then c0 else if i = 1 then c1 else if i = 2 then c2 else if i = 3 then c3 else if i = 4 then c4 else if i = 10 then s.heap.size else if i = 11 then t1 else if i = 12 then t2 else 0 : ClassId)) = ck
  have k0 : ck 0 = c0 := by rw [← hck]; rfl
  have k1 : ck 1 = c1 := by rw [← hck]; rfl
  have k2 : ck 2 = c2 := by rw [← hck]; rfl
  have k3 : ck 3 = c3 := by rw [← hck]; rfl
  have k4 : ck 4 = c4 := by rw [← hck]; rfl
  have k10 : ck 10 = s.heap.size := by rw [← hck]; rfl
  have k11 : ck 11 = t1 := by rw [← hck]; rfl
  have k12 : ck 12 = t2 := by rw [← hck]; rfl
  have hK := hKK ck k0 k1 k2 k3 k4
  generalize had : (fun i : Nat => if i = 90 then t1 else if i = 91 then t2 else if i = 92 then b else s.heap.size + nu_All.idxOf i) = ad
  have ad90 : ad 90 = t1 := by rw [← had]; rfl
  have ad91 : ad 91 = t2 := by rw [← had]; rfl
  have ad92 : ad 92 = b := by rw [← had]; rfl
  have ad81 : ∀ i, i < 81 → ad i = s.heap.size + nu_All.idxOf i := fun i hi => by
    rw [← had]
    show (if i = 90 then t1 else if i = 91 then t2 else if i = 92 then b else s.heap.size + nu_All.idxOf i) = _
    rw [if_neg (by omega), if_neg (by omega), if_neg (by omega)]
  have adN : ∀ i k, nu_All[i]? = some k → ad k = s.heap.size + i := fun i k hk => by
    have h1 : i < 81 := (List.getElem?_eq_some_iff.mp hk).1
    have h2 := nu_A i h1
    rw [show nu_All.getD i 0 = k by rw [List.getD_eq_getElem?_getD, hk]; rfl] at h2
    rw [ad81 k h2.2, h2.1]
  have hE : gm_E ck ad s := ⟨⟨fun i hi => by rw [k10, ad81 i hi]; exact Nat.le_add_right _ _, by rw [ad90, k11], by rw [ad91, k12]⟩, by rw [k10]; exact Nat.le_refl _, hEE ck k10 k11 k12⟩
  have hA : ∀ q, s.heap.size ≤ q → ck 10 ≤ q := fun q hq => by rw [k10]; exact hq
  generalize hxx : ((p, l, e, s, m, #[Value.ref b], below, meth, c, lw_Z below #[Value.ref b] s, D, (fun q => ck 10 ≤ q), ad, ck) : gx_X) = x
  have hCb : gb_C "PinSwapsLaw" bc_Lw_law 8 x := by
    rw [← hxx]
    exact ⟨hx, hb, hml, hown, hT, hNw, hK, hA, hlk, fun q h => h, hE, gb_ov rfl o1, gb_ov rfl o2⟩
  have hCw : gw_C 81 81 "PinSwapsLaw" bc_Lw_law 8 x := by
    rw [← hxx]
    exact ⟨hx, hb, hml, hown, hT, hNw, hK, hA, fun i j hi hj h => nu_C i hi j hj (by rw [ad81 i hi, ad81 j hj] at h; omega), fun i hi => hE.1.1 i hi, hlk, fun q h => h, hE⟩
  have hXs : gs_X L xs x := by
    rw [← hxx]
    refine ⟨?_, ?_, ?_⟩
    · show va_X (ad 92) L xs s s.heap
      rw [ad92]; exact hX
    · show ad 92 < s.heap.size
      rw [ad92]; exact hbl
    · show ¬ ck 10 ≤ ad 92
      rw [ad92, k10]; exact Nat.not_le.mpr hbl
  have hend : ∀ {k n : Nat} {cf : Nat → gc_T} {lv : List (Nat × gv_V)}, k ≤ room_1.cells → n ≤ room_1.slots → gw_G 81 8 room_1 x k n cf 1130 lv [gv_I 1] := by
    intro k n cf lv hk hn
    rw [← hxx]
    intro H locs ls hP hS hl
    refine W.widen (k := 601024) (n := 7293034) hk hn ?_
    refine va_forget (fun q hq => ?_) ?_
    · have h9 : ck 10 ≤ q.base := hS.2.2 q hq
      rw [k10] at h9
      exact h9
    · exact lw_ret hx hb hr hlk dr_Lw_law_1130
  have hflx : (gx_l x).flags = pinnedFlags ++ [noTraceFlag] := by rw [← hxx]; exact hfl
  have hax : gx_ad x = ad := by rw [← hxx]
  have hlx : gx_l x = l := by rw [← hxx]
  have hDx : gx_D x = D := by rw [← hxx]
  have hcx : gx_ck x = ck := by rw [← hxx]
  have s1 : ∀ i k, nu_PS[i]? = some k → ad k = (s.heap.size + 1) + i := fun i k hk => by
    have h1 := adN _ _ (cz_sub (pre := [0]) (post := 57 :: (nu_Mo ++ [80])) hk)
    have h2 : ad k = s.heap.size + (1 + i) := h1
    omega
  have s2 : ∀ i k, nu_Mo[i]? = some k → ad k = (s.heap.size + 1 + 56 + 1) + i := fun i k hk => by
    have h1 := adN _ _ (cz_sub (pre := 0 :: (nu_PS ++ [57])) (post := [80]) hk)
    have h2 : ad k = s.heap.size + (58 + i) := h1
    omega
  have G : gb_G 8 room_1 x 0 0 s.heap.size [] 0 [(0, gv_R 92)] [] := by
    refine gb_new (o := 0) hCb dr_Lw_law_0 ln_Lw_8 (by rw [hax]; have e9 := adN 0 0 rfl; omega) (by decide) (by decide) ?_
    refine gb_dup hCb dr_Lw_law_3 rfl ?_
    refine gb_call (wa := []) (o := 0) (ws2 := cz_w (0 :: nu_PS)) (nz := 56) hCb dr_Lw_law_4 lv_Lw_53 (by rw [hlx, hDx, hax, hcx]; exact mc_PS_init s1) rfl (by decide) (by decide) (by decide) (by rw [hax]; exact cz_at s1) ?_
    refine gb_astore_n hCb dr_Lw_law_7 (by decide) ?_
    refine gb_new (o := 57) hCb dr_Lw_law_8 ln_Lw_54 (by rw [hax]; have e9 := adN 57 57 rfl; omega) (by decide) (by decide) ?_
    refine gb_dup hCb dr_Lw_law_11 rfl ?_
    refine gb_call (wa := [] ++ cz_w (0 :: nu_PS)) (o := 57) (ws2 := cz_w (57 :: nu_Mo)) (nz := 22) hCb dr_Lw_law_12 lv_Lw_56 (by rw [hlx, hDx, hax, hcx]; exact mc_Mo_init s2) rfl (by decide) (by decide) (by decide) (by rw [hax]; exact cz_at s2) ?_
    refine gb_astore_n hCb dr_Lw_law_15 (by decide) ?_
    refine gb_iconst (v := 1) hCb dr_Lw_law_16 (by decide) ?_
    refine gb_nal (N' := 1) (o := 80) hCb dr_Lw_law_17 (by rw [hax]; have e9 := adN 80 80 rfl; omega) (by decide) (by decide) (by decide) (by decide) (by decide) ?_
    refine gb_astore_n hCb dr_Lw_law_19 (by decide) ?_
    refine gb_go (fun k hk => ?_) ?_
    · rw [nu_D]
      exact List.mem_map.mpr ⟨k, nu_B k hk, rfl⟩
    · refine gx_iconst (v := 0) hCw dr_Lw_law_20 (by decide) ?_
      refine gx_istore hCw dr_Lw_law_21 (by decide) ?_
      refine gx_lv (la_L 0) ⟨rfl, rfl, rfl, rfl, rfl, trivial⟩ ?_
      exact la_loop hCw hXs hflx hL hend 512 0 _ _ cz_M cz_W (fun _ => 0) st_R (by omega) (by decide) (by decide) (by decide)
  have hl := lv_entry ([Value.ref b]) (n := 8) (Nat.le_of_ble_eq_true rfl)
  rw [lg_entry_eq]
  rw [← hxx] at G
  have G2 : ∀ (H : Heap) (locs : List Loc) (ls : Array Slot), H.size = s.heap.size → va_P D vwCl (gl_L [] ad ck) H → va_D (fun q => ck 10 ≤ q) (gl_L [] ad ck) → va_S (fun q => ck 10 ≤ q) s.heap H locs → lv_has ls 8 (([(0, gv_R 92)] : List (Nat × gv_V)).map (gv_p ad)) → W p l e room_1 s m #[Value.ref b] below meth c H locs 0 0 (lw_Z below #[Value.ref b] s) (F0 m 0 ls (([] : List gv_V).map (gv_v ad))) := G
  refine G2 s.heap [] _ rfl (fun k q hk => by cases hk) ⟨fun i j p q hi _ _ => (by cases hi), fun k q hk => (by cases hk)⟩ va_S.rf ?_
  show lv_has _ 8 [(0, Value.ref (ad 92))]
  rw [ad92]
  exact hl
set_option maxHeartbeats 4000000 in
theorem lw_walk (l : Launch) (hfl : l.flags = flags0) (b : Addr) (xs : List Int32) : MetFree l x (headSpec (Jvm.Cond.code x code maxLocals ret :: tables_1) room_1) (lw_P b xs) (fun _ _ _ _ _ => True) lw_Q := by
  refine MetFree.of_bodyS (code := code) (maxLocals := maxLocals) (ret := ret) (by decide) ?_ ?_
  · intro args s m h hn
    obtain ⟨meth, c, h1, h2, h3, h4, h5, h6, -, -⟩ := Cond.code_spec hn (atoms_spec (ws := Jvm.Cond.code x code maxLocals ret :: tables_1) h _ List.mem_cons_self)
    exact ⟨meth, c, h1, h2, h3, h4, h5, h6⟩
  · intro p e s m args below meth c s₁ B hml0 hP _
    obtain ⟨rfl, hx, hbd, hgv⟩ := hP
    obtain ⟨scr, harrAt, hlist, hof, hsmall⟩ := hx
    obtain ⟨hcb, hkn, -, -⟩ := State.arrayAt?_spec harrAt
    have hown : s.vm.findClass R_law = some m.cls := findClass_of_methodNamed B.named
    have hts0 : ∀ c ∈ (Jvm.Cond.code x code maxLocals ret :: tables_1), c.before #[Value.ref b] s = true := atoms_spec (ws := Jvm.Cond.code x code maxLocals ret :: tables_1) B.pre
    have hts : ∀ w ∈ lw_tbl, w.before #[Value.ref b] s = true := k2_hts_sels lw_privs (fun w hw => hts0 w (List.mem_cons_of_mem _ hw)) lw_privs_ok
    have hml : c.maxLocals = 8 := B.maxLocals_eq (hts0 _ List.mem_cons_self)
    have X₀ : Stand p l e room_1 s m #[Value.ref b] below meth c s₁ [] 0 0 := Stand.of_body B
    have hh0 : s₁.heap = s.heap := by rw [B.state]; rfl
    have hsz : scr.slots.size = xs.length := by rw [← Array.length_toList, hlist, List.length_map]
    have hval : ∀ j : Nat, j < xs.length → scr.slots[j]? = some (.int (xs.getD j 0)) := fun j hj => by
      rw [← Array.getElem?_toList, hlist]
      simp [hj]
    have hbl : b < s.heap.size := (Array.getElem?_eq_some_iff.mp hcb).1
    have hX : va_X b xs.length (fun j => xs.getD j 0) s s.heap := ⟨scr, hcb, hof, hkn, hsz, hval⟩
    have K : W p l e room_1 s m #[Value.ref b] below meth c s₁.heap [] 0 0 (lw_Z below #[Value.ref b] s) (entryFrame m ([Value.ref b] : List Value).toArray 8) := by
      rw [hh0]
      exact whole_start l hfl hbd ⟨B.exec, B.bytes, B.returns, hml, hown, hts, hX, hbl, B.notSynchronized, hgv⟩
    obtain ⟨t, a1, o, b1, b2, b3⟩ := K s₁ rfl X₀
    exact ⟨t, o, a1, b1, b2, b3⟩
theorem lw_pre_spec {args : Array Value} {s : State} (h : (Jvm.Cond.and given_1 narrow_1).before args s = true) (hr : rest_1_c.before args s = true) : ∃ (b : Addr) (xs : List Int32), lw_P b xs args s := by
  have hs := flat_of_before _ h
  have hq := flat_of_before _ hr
  have hc : (Cond.count 1).before args s = true := hs _ (by decide +kernel)
  have harr : (Cond.arrayOf (.arg 0) .int).before args s = true := hs _ (by decide +kernel)
  have hle : (Cond.le (.length (.arg 0)) (.int 3584)).before args s = true := hs _ (by decide +kernel)
  have hlen : (Cond.isInt (.length (.arg 0))).before args s = true := hq _ (by decide +kernel)
  have hall : (Cond.all (.arg 0) (.isInt (.elem (.arg 0) (.index 0)))).before args s = true := hq _ (by decide +kernel)
  obtain ⟨b, xs, hb, hx⟩ := State.ints_of_pre rfl harr hlen hall
  have hsm : xs.length < 2 ^ 31 := hx.choose_spec.2.2.2
  have hev : (Term.length (.arg 0)).eval args s none [] s = some (.int xs.length.toInt32) := hx.length_eval hb
  have hv := Cond.le_ints hev (show (Term.int 3584).eval args s none [] s = some (.int 3584) from rfl)
  have hd : xs.length.toInt32 ≤ 3584 := by
    simpa [Cond.before, Cond.holds, hv] using hle
  have hN : xs.length ≤ 3584 := (Int32.ofNat_le_ofNat hsm (by decide)).mp (show Int32.ofNat xs.length ≤ Int32.ofNat 3584 from hd)
  exact ⟨b, xs, Cond.one_arg hc (show args[0]? = some (.ref b) from hb), hx, hN, h⟩
theorem lw_comes (l : Launch) (hfl : l.flags = flags0) : Comes l x (Jvm.Cond.code x code maxLocals ret :: tables_1) room_1 (fun tb e args s => Calls_1 tb e args s ∧ rest_1 tb e args s ∧ Pre_1 tb e args s)
    (fun _ _ args s o t => lw_Q args s o t) := by
  intro p e ha hc hk s m args below hf hfit hheap happ hpre
  obtain ⟨b, xs, hP⟩ := lw_pre_spec hpre.2.2 hpre.2.1
  obtain ⟨k, o, h1, h2, h3, hQ⟩   := lw_walk l hfl b xs p e ha hc hk s m args below hf ((Spec.applies_iff_loose hf).mp happ).1 hP trivial
  exact ⟨k, o, h1, h2, h3, hQ⟩
theorem lw_frame {s t : State} {o : Outcome} {args : Array Value} (h : Framed s o t [] 601024 7293034) :
    Framed s o t (fieldLocs frame_1_writes args s ++ arrayLocs frame_1_arrays args s ++ staticLocs frame_1_statics s) 601024 7293034 := h
theorem lw_limb (L : Cond) (hL : ∀ (args : Array Value) (s t : State), L.after args s (.returned (some (.int 1))) t = true) :
    ArmFor flags0 classFile x code maxLocals ret World_1 tables_1 room_1 Calls_1 rest_1 Pre_1
      (fun tb e a s o t => postC L tb e a s o t ∧ Framed s o t (fieldLocs frame_1_writes a s ++ arrayLocs frame_1_arrays a s ++ staticLocs frame_1_statics s) 601024 7293034) := by
  intro l hfl _ _ p e ha hc hk s m args below hf hfit hheap happ hpre
  obtain ⟨k, o, h1, h2, h3, rfl, hF⟩ := lw_comes l hfl p e ha hc hk s m args below hf hfit hheap happ hpre
  exact ⟨k, _, h1, h2, h3, hL args s _, lw_frame hF⟩
theorem i_vc : Claimed_1_1 ∧ Claimed_1_2 := ⟨lw_limb limb_1_1 (fun args s t => by simp [limb_1_1, Cond.after, Cond.holds, Cond.value]), lw_limb limb_1_2 (fun args s t => Cond.after_iff.mpr (by
  first | (rw [show limb_1_2 = Cond.eq .result (.int 1) from rfl, Cond.eq_ints (x := 1) (y := 1) rfl rfl]; simp; done) | (simp [limb_1_2, Cond.value, Term.eval]; done)))⟩

