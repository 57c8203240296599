/-! THE LOOP OF THE LAW; the relation at the start; what the tables say at the start -/
theorem la_7 (i : Nat) : nI i + Int32.ofInt 7 = nI (i + 7) := by
  show Int32.ofNat i + Int32.ofNat 7 = Int32.ofNat (i + 7)
  rw [Int32.ofNat_add]
theorem la_loop {x : gx_X} {L : Nat} {xs : Nat → Int32} (hC : gw_C 81 81 "PinSwapsLaw" bc_Lw_law 8 x) (hX : gs_X L xs x) (hfl : (gx_l x).flags = pinnedFlags ++ [noTraceFlag]) (hL : L ≤ 3584)
    (hend : ∀ {k n : Nat} {cf : Nat → gc_T} {lv : List (Nat × gv_V)}, k ≤ room_1.cells → n ≤ room_1.slots → gw_G 81 8 room_1 x k n cf 1130 lv [gv_I 1]) :
    ∀ (t i k n : Nat) (M W : gq_M) (o : Int → Int64), rl_R M W → L < i + 7 * t + 7 → i ≤ 3600 → k + t ≤ room_1.cells → n + 6 * t ≤ room_1.slots → gw_G 81 8 room_1 x k n (ca_A (M, W, o)) 23 (la_L i) [] := by
  intro t
  induction t with
  | zero =>
    intro i k n M W o hR ht hi0 hk hn
    have e1 : (nI i).toInt = i := pa_nI (by omega)
    have e2 : (nI L).toInt = L := pa_nI (by omega)
    have e7 : (7 : Int32).toInt = 7 := rfl
    have e3 : (nI L - 7).toInt = (L : Int) - 7 := by rw [pa_sub (by rw [e2, e7]; omega) (by rw [e2, e7]; omega), e2, e7]
    refine gx_iload hC dr_Lw_law_23 rfl ?_
    refine gx_aload_n hC dr_Lw_law_25 rfl ?_
    refine gx_slen hC hX dr_Lw_law_26 ?_
    refine gx_bipush (v := 7) hC dr_Lw_law_27 (by decide) ?_
    refine gx_isub hC dr_Lw_law_29 ?_
    refine gx_icmp_gt (tgt := 1129) hC dr_Lw_law_30 (by decide) (fun e => ?_) (fun e => ?_)
    · refine gx_iconst (v := 1) hC dr_Lw_law_1129 (by decide) ?_
      exact hend (by omega) (by omega)
    · exact absurd (by rw [pa_lt, e1, e3]; omega) e
  | succ t ih =>
    intro i k n M W o hR ht hi0 hk hn
    have e1 : (nI i).toInt = i := pa_nI (by omega)
    have e2 : (nI L).toInt = L := pa_nI (by omega)
    have e7 : (7 : Int32).toInt = 7 := rfl
    have e3 : (nI L - 7).toInt = (L : Int) - 7 := by rw [pa_sub (by rw [e2, e7]; omega) (by rw [e2, e7]; omega), e2, e7]
    refine gx_iload hC dr_Lw_law_23 rfl ?_
    refine gx_aload_n hC dr_Lw_law_25 rfl ?_
    refine gx_slen hC hX dr_Lw_law_26 ?_
    refine gx_bipush (v := 7) hC dr_Lw_law_27 (by decide) ?_
    refine gx_isub hC dr_Lw_law_29 ?_
    refine gx_icmp_gt (tgt := 1129) hC dr_Lw_law_30 (by decide) (fun e => ?_) (fun e => ?_)
    · refine gx_iconst (v := 1) hC dr_Lw_law_1129 (by decide) ?_
      exact hend (by omega) (by omega)
    · have hi : i + 7 ≤ L := by
        rw [pa_lt, e1, e3] at e
        omega
      have next : la_K x i k n := by
        intro M2 W2 o2 k2 n2 h1 h2 h3
        refine gx_iinc (v := nI (i + 7)) hC dr_Lw_law_1123 rfl (by decide) (la_7 i) ?_
        refine gx_goto (tgt := 23) hC dr_Lw_law_1126 (by decide) ?_
        refine gx_lv (la_L (i + 7)) ⟨rfl, rfl, rfl, rfl, rfl, trivial⟩ ?_
        exact ih (i + 7) k2 n2 M2 W2 o2 h1 (by omega) (by omega) (by omega) (by omega)
      refine gx_aload_n hC dr_Lw_law_33 rfl ?_
      refine gx_iload hC dr_Lw_law_34 rfl ?_
      refine gx_sld hC hX dr_Lw_law_36 (la_i0 hi hL) ?_
      refine gx_bipush (v := 31) hC dr_Lw_law_37 (by decide) ?_
      refine gx_iand hC dr_Lw_law_39 ?_
      generalize (xs (nI i).toInt.toNat) &&& 31 = v
      by_cases hv : 0 ≤ v.toInt ∧ v.toInt ≤ 16
      · have h17 : v.toInt = 0 ∨ v.toInt = 1 ∨ v.toInt = 2 ∨ v.toInt = 3 ∨ v.toInt = 4 ∨ v.toInt = 5 ∨ v.toInt = 6 ∨ v.toInt = 7 ∨ v.toInt = 8 ∨ v.toInt = 9 ∨ v.toInt = 10 ∨ v.toInt = 11 ∨ v.toInt = 12 ∨ v.toInt = 13 ∨ v.toInt = 14 ∨ v.toInt = 15 ∨ v.toInt = 16 := by omega
        rcases h17 with h | h | h | h | h | h | h | h | h | h | h | h | h | h | h | h | h
        · refine gx_swI (off := 84) (tgt := 124) hC dr_Lw_law_40 (by rw [h]; decide) (by rw [h]; decide) (by rw [h]; rfl) (by decide) ?_
          exact cs_group hC hX hfl hR hi hL (by omega) (by omega) next
        · refine gx_swI (off := 97) (tgt := 137) hC dr_Lw_law_40 (by rw [h]; decide) (by rw [h]; decide) (by rw [h]; rfl) (by decide) ?_
          exact cs_pin hC hX hfl hR hi hL (by omega) (by omega) next
        · refine gx_swI (off := 255) (tgt := 295) hC dr_Lw_law_40 (by rw [h]; decide) (by rw [h]; decide) (by rw [h]; rfl) (by decide) ?_
          exact cs_target hC hX hfl hR hi hL (by omega) (by omega) next
        · refine gx_swI (off := 406) (tgt := 446) hC dr_Lw_law_40 (by rw [h]; decide) (by rw [h]; decide) (by rw [h]; rfl) (by decide) ?_
          exact cs_lock hC hX hfl hR hi hL (by omega) (by omega) next
        · refine gx_swI (off := 469) (tgt := 509) hC dr_Lw_law_40 (by rw [h]; decide) (by rw [h]; decide) (by rw [h]; rfl) (by decide) ?_
          exact cs_pair hC hX hfl hR hi hL (by omega) (by omega) next
        · refine gx_swI (off := 544) (tgt := 584) hC dr_Lw_law_40 (by rw [h]; decide) (by rw [h]; decide) (by rw [h]; rfl) (by decide) ?_
          exact cs_bank hC hX hfl hR hi hL (by omega) (by omega) next
        · refine gx_swI (off := 619) (tgt := 659) hC dr_Lw_law_40 (by rw [h]; decide) (by rw [h]; decide) (by rw [h]; rfl) (by decide) ?_
          exact cs_needs hC hX hfl hR hi hL (by omega) (by omega) next
        · refine gx_swI (off := 694) (tgt := 734) hC dr_Lw_law_40 (by rw [h]; decide) (by rw [h]; decide) (by rw [h]; rfl) (by decide) ?_
          exact cs_run hC hX hfl hR hi hL (by omega) (by omega) next
        · refine gx_swI (off := 707) (tgt := 747) hC dr_Lw_law_40 (by rw [h]; decide) (by rw [h]; decide) (by rw [h]; rfl) (by decide) ?_
          exact cs_netOf hC hX hfl hR hi hL (by omega) (by omega) next
        · refine gx_swI (off := 763) (tgt := 803) hC dr_Lw_law_40 (by rw [h]; decide) (by rw [h]; decide) (by rw [h]; rfl) (by decide) ?_
          exact cs_sum hC hX hfl hR hi hL (by omega) (by omega) next
        · refine gx_swI (off := 777) (tgt := 817) hC dr_Lw_law_40 (by rw [h]; decide) (by rw [h]; decide) (by rw [h]; rfl) (by decide) ?_
          exact cs_before hC hX hfl hR hi hL (by omega) (by omega) next
        · refine gx_swI (off := 791) (tgt := 831) hC dr_Lw_law_40 (by rw [h]; decide) (by rw [h]; decide) (by rw [h]; rfl) (by decide) ?_
          exact cs_dual hC hX hfl hR hi hL (by omega) (by omega) next
        · refine gx_swI (off := 858) (tgt := 898) hC dr_Lw_law_40 (by rw [h]; decide) (by rw [h]; decide) (by rw [h]; rfl) (by decide) ?_
          exact cs_note hC hX hfl hR hi hL (by omega) (by omega) next
        · refine gx_swI (off := 926) (tgt := 966) hC dr_Lw_law_40 (by rw [h]; decide) (by rw [h]; decide) (by rw [h]; rfl) (by decide) ?_
          exact cs_gate hC hX hfl hR hi hL (by omega) (by omega) next
        · refine gx_swI (off := 982) (tgt := 1022) hC dr_Lw_law_40 (by rw [h]; decide) (by rw [h]; decide) (by rw [h]; rfl) (by decide) ?_
          exact cs_equalGate hC hX hfl hR hi hL (by omega) (by omega) next
        · refine gx_swI (off := 1057) (tgt := 1097) hC dr_Lw_law_40 (by rw [h]; decide) (by rw [h]; decide) (by rw [h]; rfl) (by decide) ?_
          exact cs_undo hC hX hfl hR hi hL (by omega) (by omega) next
        · refine gx_swI (off := 1070) (tgt := 1110) hC dr_Lw_law_40 (by rw [h]; decide) (by rw [h]; decide) (by rw [h]; rfl) (by decide) ?_
          exact cs_crossings hC hX hfl hR hi hL (by omega) (by omega) next
      · refine gx_swO (tgt := 1123) hC dr_Lw_law_40 (by omega) (by decide) ?_
        exact next hR (Nat.le_succ k) (Nat.le_add_right n 6)
theorem st_z : (-1000000 : Int) ≤ (0 : Int64).toInt ∧ (0 : Int64).toInt ≤ 1000000 := by decide
theorem st_y : (0 : Int) ≤ (0 : Int32).toInt ∧ (0 : Int32).toInt ≤ 12 := by decide
theorem st_R : rl_R cz_M cz_W := by
  have z0 : (0 : Int32).toInt = 0 := rfl
  refine ⟨⟨⟨⟨rfl, rfl⟩, by decide, by decide⟩, fun p h1 h2 => ?_, fun p _ _ => ⟨rfl, rfl, rfl, rfl, rfl, rfl⟩, fun q h1 h2 => ⟨⟨rfl, Or.inl rfl⟩, ⟨rfl, rfl, st_z.1, st_z.2, st_z.1, st_z.2⟩, ?_⟩, fun g _ _ => ⟨rfl, Nat.zero_le _⟩, ⟨⟨rfl, by decide, by decide⟩, fun i h1 h2 => ?_⟩⟩, fun p h1 h2 => ?_, ⟨⟨rfl, by decide, by decide, by decide, by decide⟩, fun k hk => absurd hk (by decide +revert)⟩, rfl, fun z _ _ => st_y⟩
  · have : p < 0 := h2
    omega
  · have e : gq_i cz_M 9 q = -1 := by
      show gz_fill (fun _ => 0) 200 (-1) q = -1
      unfold gz_fill
      rw [if_pos (by omega)]
    rw [e]
    show (0 : Int32).toInt = (-1 : Int32).toInt + 1 ∧ -1 ≤ (-1 : Int32).toInt ∧ (-1 : Int32).toInt ≤ 15
    decide
  · have : i < 0 := h2
    omega
  · have : p < 0 := h2
    omega
theorem st_lay {C n d : String} {args : Array Value} {s : State} (h : (Cond.laysStatic C n d).before args s = true) : (Cond.laysStatic C n d).before #[] s = true := by
  obtain ⟨cc, k, ix, f, ad, cell, h1, h2, h3, h4, h5, h6, h7, h8, h9⟩ := Cond.laysStatic_spec h
  exact Cond.laysStatic_of (s := s) h1 h2 h3 h4 h5 h6 h7 h8 h9
theorem st_arr {ty : FieldType} {s : State} {args : Array Value} (h : (Cond.arrayClass ty).before args s = true) : ∃ cA : ClassId, ArrOfT s cA ty ∧ s.vm.findClass ("[" ++ ty.toString) = some cA := by
  obtain ⟨cA, kA, comp, h1, h2, h3⟩ := Cond.arrayClass_spec h
  exact ⟨cA, fun n z => ⟨fun k h => (by cases h), kA, h2, comp, h3⟩, h1⟩
theorem st_over {ty : FieldType} {s : State} {args : Array Value} (h : (Cond.arrayOver (.array ty)).before args s = true) : ∃ cA : ClassId, ArrOfT s cA (.array ty) ∧ s.vm.findClass ("[" ++ (FieldType.array ty).toString) = some cA := by
  simp only [Cond.before, Cond.holds, Cond.value] at h
  cases h1 : s.vm.findClass (FieldType.array ty).toString with
  | none => rw [h1] at h; simp at h
  | some comp =>
    rw [h1] at h
    simp only [Option.bind_some] at h
    generalize hidx : (s.vm.classes.findIdx? fun (x : Class) => match x.kind with | .array component _ => component == comp | _ => false) = idx at h
    cases idx with
    | none => simp at h
    | some c =>
      simp only [Option.bind_some] at h
      cases h3 : s.vm.classes[c]? with
      | none => rw [h3] at h; simp at h
      | some k =>
        rw [h3] at h
        simp only [Option.map_some] at h
        cases h4 : k.kind with
        | array cm t =>
          rw [h4] at h
          simp at h
          obtain ⟨rfl, h5⟩ := h
          exact ⟨c, fun n z => ⟨fun k h => (by cases h), k, h3, cm, h4⟩, h5⟩
        | _ => rw [h4] at h; simp at h
theorem st_K {s : State} {args : Array Value} (hts : ∀ w ∈ gw_T, w.before args s = true) (h1 : (Cond.arrayOver (.array .int)).before args s = true) (h2 : (Cond.arrayOver (.array .long)).before args s = true) : ∃ (D : va_G) (c0 c1 c2 c3 c4 : ClassId), (∃ cur, s.vm.findClass "PinSwaps" = some cur) ∧ ∀ ck : Nat → ClassId, ck 0 = c0 → ck 1 = c1 → ck 2 = c2 → ck 3 = c3 → ck 4 = c4 → va_K D vwCl (gv_tys ck) s := by
  obtain ⟨d0, j0, k0⟩ := u_known (n := 6) hts wi_PS (hts _ (gw_in 71 (by decide +kernel) (by decide +kernel)))
  obtain ⟨d1, j1, k1⟩ := u_known (n := 3) hts wi_Gt (hts _ (gw_in 225 (by decide +kernel) (by decide +kernel)))
  obtain ⟨d2, j2, k2⟩ := u_known (n := 4) hts wi_Hi (hts _ (gw_in 204 (by decide +kernel) (by decide +kernel)))
  obtain ⟨d3, j3, k3⟩ := u_known (n := 10) hts wi_Ma (hts _ (gw_in 161 (by decide +kernel) (by decide +kernel)))
  obtain ⟨d4, j4, k4⟩ := u_known (n := 4) hts wi_Ne (hts _ (gw_in 135 (by decide +kernel) (by decide +kernel)))
  obtain ⟨d5, j5, k5⟩ := u_known (n := 12) hts wi_Pi (hts _ (gw_in 79 (by decide +kernel) (by decide +kernel)))
  obtain ⟨d6, j6, k6⟩ := u_known (n := 29) hts wi_Mo (hts _ (gw_in 655 (by decide +kernel) (by decide +kernel)))
  obtain ⟨c0, a0, b0⟩ := st_arr (ty := .int) (hts _ (gw_in 131 (by decide +kernel) (by decide +kernel)))
  obtain ⟨c1, a1, b1⟩ := st_arr (ty := .boolean) (hts _ (gw_in 133 (by decide +kernel) (by decide +kernel)))
  obtain ⟨c2, a2, b2⟩ := st_arr (ty := .long) (hts _ (gw_in 132 (by decide +kernel) (by decide +kernel)))
  obtain ⟨c3, a3, b3⟩ := st_over h2
  obtain ⟨c4, a4, b4⟩ := st_over h1
  refine ⟨(fun c => ([d0, d1, d2, d3, d4, d5, d6] : List ClassId).getD c 0, fun c => ([j0, j1, j2, j3, j4, j5, j6] : List (Nat → Nat)).getD c (fun _ => 0)), c0, c1, c2, c3, c4, ⟨_, k0.2.1⟩, fun ck e0 e1 e2 e3 e4 => ⟨fun c q hq => ?_, fun k q hq => ?_⟩⟩
  · match c, hq with
    | 0, hq => cases hq; exact k0
    | 1, hq => cases hq; exact k1
    | 2, hq => cases hq; exact k2
    | 3, hq => cases hq; exact k3
    | 4, hq => cases hq; exact k4
    | 5, hq => cases hq; exact k5
    | 6, hq => cases hq; exact k6
    | c + 7, hq => cases hq
  · unfold gv_tys at hq
    rw [e0, e1, e2, e3, e4] at hq
    match k, hq with
    | 0, hq => cases hq; exact ⟨a0, b0⟩
    | 1, hq => cases hq; exact ⟨a1, b1⟩
    | 2, hq => cases hq; exact ⟨a2, b2⟩
    | 3, hq => cases hq; exact ⟨a3, b3⟩
    | 4, hq => cases hq; exact ⟨a4, b4⟩
    | k + 5, hq => cases hq
theorem st_m1 : ∀ j, j < 24 → Cond.eq (.elem (.static "PinSwaps$Gates" "ORDERS" "[I") (.int (Int32.ofNat j))) (.int (gk_ord.getD j 0)) ∈ flatC (Jvm.Cond.and given_1 narrow_1) := by decide +kernel
theorem st_m2 : ∀ j, j < 5 → Cond.eq (.elem (.static "PinSwaps$Gates" "ORDER_COUNT" "[I") (.int (Int32.ofNat j))) (.int (gk_cnt.getD j 0)) ∈ flatC (Jvm.Cond.and given_1 narrow_1) := by decide +kernel
theorem st_s : ∀ q ∈ gk_strs, Cond.stringRef "PinSwaps" q.1 q.2 ∈ lw_tbl := by decide +kernel
theorem st_E {s : State} {b : Nat} (hts : ∀ w ∈ lw_tbl, w.before #[Value.ref b] s = true) (hgv : (Jvm.Cond.and given_1 narrow_1).before #[Value.ref b] s = true) (hcur : ∃ cur, s.vm.findClass "PinSwaps" = some cur) : ∃ t1 t2 : Nat, ∀ ck : Nat → ClassId, ck 10 = s.heap.size → ck 11 = t1 → ck 12 = t2 → gk_E ck s := by
  have hs := flat_of_before _ hgv
  obtain ⟨cur, hcur⟩ := hcur
  have hA0 : ∀ a : Nat, a < s.heap.size → ¬ (s.heap.size ≤ a) := fun a h z => by omega
  have hi : (Cond.initialized "PinSwaps$Gates").before #[Value.ref b] s = true := hts _ (by decide +kernel)
  have hiT : (Cond.initialized "java/lang/Throwable").before #[Value.ref b] s = true := hts _ (by decide +kernel)
  have hl1 : (Cond.laysStatic "PinSwaps$Gates" "ORDERS" "[I").before #[Value.ref b] s = true := hts _ (by decide +kernel)
  have hl2 : (Cond.laysStatic "PinSwaps$Gates" "ORDER_COUNT" "[I").before #[Value.ref b] s = true := hts _ (by decide +kernel)
  have hl3 : (Cond.laysStatic "java/lang/Throwable" "UNASSIGNED_STACK" "[Ljava/lang/StackTraceElement;").before #[Value.ref b] s = true := hts _ (by decide +kernel)
  have hl4 : (Cond.laysStatic "java/lang/Throwable" "SUPPRESSED_SENTINEL" "Ljava/util/List;").before #[Value.ref b] s = true := hts _ (by decide +kernel)
  obtain ⟨t1, e1, T1⟩ := va_Tof (args := #[Value.ref b]) (s := s) (tm := .static "PinSwaps$Gates" "ORDERS" "[I") (ty := .int) (N := 24) (f := fun j => .int (gk_ord.getD j 0)) (A := fun q => s.heap.size ≤ q) (by decide) (hs _ (by decide +kernel)) (va_eqt (hs _ (by decide +kernel))) (fun j hj => va_eqt (hs _ (st_m1 j hj))) hA0
  obtain ⟨t2, e2, T2⟩ := va_Tof (args := #[Value.ref b]) (s := s) (tm := .static "PinSwaps$Gates" "ORDER_COUNT" "[I") (ty := .int) (N := 5) (f := fun j => .int (gk_cnt.getD j 0)) (A := fun q => s.heap.size ≤ q) (by decide) (hs _ (by decide +kernel)) (va_eqt (hs _ (by decide +kernel))) (fun j hj => va_eqt (hs _ (st_m2 j hj))) hA0
  have Z1 := va_Zof hl1 hi e1 hA0
  have Z2 := va_Zof hl2 hi e2 hA0
  have Z3 := va_Zqof hl3 hiT (hs (Cond.isRef (.static "java/lang/Throwable" "UNASSIGNED_STACK" "[Ljava/lang/StackTraceElement;")) (by decide +kernel)) hA0
  have Z4 := va_Zqof hl4 hiT (hs (Cond.isRef (.static "java/lang/Throwable" "SUPPRESSED_SENTINEL" "Ljava/util/List;")) (by decide +kernel)) hA0
  have hnc : (Cond.not (Cond.castable "java/lang/IllegalArgumentException" "java/lang/IndexOutOfBoundsException")).before #[Value.ref b] s = true := hs _ (by decide +kernel)
  refine ⟨t1, t2, fun ck c10 c11 c12 => ?_⟩
  unfold gk_E
  rw [c10, c11, c12]
  refine ⟨⟨fun w hw => ?_, st_lay hl3, st_lay hl4⟩, fun q hq => ?_, Z3, Z4, Z1, T1, Z2, T2, fun cX cT f1 f2 => ?_⟩
  · have h9 := Cond.tabsOnly_warm (args' := #[]) (T := s) (State.WarmedH.refl s) w (List.mem_filter.mp hw).2 (hts w (List.mem_filter.mp hw).1)
    rwa [State.setVm_self] at h9
  · have h9 := hts _ (st_s q hq)
    obtain ⟨k, cf, i, a, -, -, -, -, -, h10⟩ := Cond.stringRef_spec hcur h9
    exact ⟨a, vk_R.of h9 h10⟩
  · simp [Cond.before, Cond.holds, Cond.value, f1, f2] at hnc
    exact hnc
