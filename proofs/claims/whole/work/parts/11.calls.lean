/-! WORDS THAT ARE GOOD EVERYWHERE -/
theorem gw_good {y : MethodName} {b : ByteArray} {mL : Nat} {ret : Option FieldType} (h : Cond.code y b mL ret ∈ gw_T) : GoodIn gw_T (Cond.code y b mL ret :: gw_T) := by
  intro w hw
  rcases List.mem_cons.mp hw with rfl | hw
  · exact ⟨h, Or.inl rfl⟩
  · exact ⟨hw, good_of_word (List.mem_filter.mp hw).2⟩
theorem gw_Nl_on : ∀ w ∈ gw_Nl, w.onTables = true := by
  intro w hw
  have h := (List.mem_filter.mp hw).2
  cases w <;> first | rfl | (simp [gw_isN] at h; done)
theorem gw_warm {s U : State} (hW : s.WarmedH U.vm) (h : ∀ w ∈ gw_Nl, va_Nw w s) : ∀ w ∈ gw_Nl, va_Nw w U := by
  intro w hw
  have h1 := (List.mem_filter.mp hw).2
  have h2 := h w hw
  cases w <;> first | exact va_Nw.warmF hW h2 | exact va_Nw.warmM hW h2 | (simp [gw_isN] at h1; done)
/-! CONTRACTS: 'as' are the arguments, cf the cells ahead, post what is answered and the cells behind -/
def gm_H (N : Nat) (D : va_G) (ad : Nat → Nat) (ck : Nat → ClassId) (cf : Nat → gc_T) (U : State) : Prop := va_P D vwCl (gw_L N ad ck cf) U.heap ∧ va_K D vwCl (gv_tys ck) U ∧ (∀ w ∈ gw_Nl, va_Nw w U) ∧ (∀ i j, i < N → j < N → ad i = ad j → i = j) ∧ gm_E ck ad U
def gm_A (N : Nat) (ad : Nat → Nat) (sz : Nat) : Nat → Prop := fun q => (∃ i, i < N ∧ q = ad i) ∨ sz ≤ q
def gm_P (N : Nat) (D : va_G) (ad : Nat → Nat) (ck : Nat → ClassId) (as : List gv_V) (cf : Nat → gc_T) (sz : Nat) : Array Value → State → Prop := va_Pc (as.map (gv_v ad)) (fun U => U.heap.size = sz ∧ gm_H N D ad ck cf U)
theorem gm_blind {N : Nat} {D : va_G} {ad : Nat → Nat} {ck : Nat → ClassId} {as : List gv_V} {cf : Nat → gc_T} {sz : Nat} : FrameBlind (gm_P N D ad ck as cf sz) := by
  intro a U g mk q
  obtain ⟨q0, q1, qP, qK, qn, qi, q2, q3, q4⟩ := q
  exact ⟨q0, q1, qP, va_K.moved (u := U) (U := U.calling g mk a) (Vm.Alike.refl U.vm) qK, fun w hw => va_Nw.same (u := U) (U := U.calling g mk a) (gw_Nl_on w hw) rfl (qn w hw), qi, q2, q3, q4.go (u := U) (U := U.calling g mk a) (State.WarmedH.refl U) (fun _ _ _ => rfl)⟩
theorem gm_free {N w : Nat} {ad : Nat → Nat} {A : Nat → Prop} {H0 H : Heap} {locs : List Loc} (hAd : ∀ i, i < w → A (ad i)) (hw : N ≤ w) (hA : ∀ q, H0.size ≤ q → A q) (hS : va_S A H0 H locs) : ∀ q, gm_A N ad H.size q → A q := by
  intro q h
  rcases h with ⟨i, hi, rfl⟩ | h
  · exact hAd i (Nat.lt_of_lt_of_le hi hw)
  · exact hA q (Nat.le_trans hS.1 h)
theorem gm_Age {ck : Nat → ClassId} {ad : Nat → Nat} {w sz : Nat} {s : State} (hw : w ≤ 81) (hE : gm_E ck ad s) (hsz : s.heap.size = sz) : ∀ q, gm_A w ad sz q → ck 10 ≤ q := by
  intro q h
  rcases h with ⟨i, hi, rfl⟩ | h
  · exact hE.1.1 i (Nat.lt_of_lt_of_le hi hw)
  · exact Nat.le_trans (by rw [← hsz]; exact hE.2.1) h
theorem gv_w_sum (ad : Nat → Nat) : ∀ vs : List gv_V, ((vs.map (gv_v ad)).map fun v => v.category).sum = gv_w vs
  | [] => rfl
  | v :: r => by
    have h := gv_w_sum ad r
    simp only [List.map_cons, List.sum_cons, gv_w, gv_cat]
    omega
def gw_V (own : String) (i : Nat) (y : MethodName) (b : ByteArray) (mL : Nat) (ret : Option FieldType) (na : Nat) : Prop := (Cond.methodLink own i y ∈ gw_T ∨ ∃ host, Cond.methodLinkNest own i y host ∈ gw_Nl) ∧ Cond.instanceMethod y ∈ gw_T ∧ Cond.selects y.cls y y ∈ gw_T ∧ Cond.initialized y.cls ∈ gw_T ∧ Cond.code y b mL ret ∈ gw_T ∧ (y.cls ≠ "java/lang/invoke/MethodHandle" ∧ y.cls ≠ "java/lang/invoke/VarHandle") ∧ (parseMethodDescriptor y.desc).map (fun d => d.parameters.length) = some na
def gw_S (own : String) (i : Nat) (y : MethodName) (b : ByteArray) (mL : Nat) (ret : Option FieldType) (na : Nat) : Prop := (Cond.methodLink own i y ∈ gw_T ∨ ∃ host, Cond.methodLinkNest own i y host ∈ gw_Nl) ∧ Cond.static y ∈ gw_T ∧ Cond.initialized y.cls ∈ gw_T ∧ Cond.code y b mL ret ∈ gw_T ∧ (y.cls ≠ "java/lang/invoke/MethodHandle" ∧ y.cls ≠ "java/lang/invoke/VarHandle") ∧ (parseMethodDescriptor y.desc).map (fun d => d.parameters.length) = some na
section GRUN
variable {p : Program} {l : Launch} {e : Env} {R : Room} {s : State} {m : MethodId} {args : Array Value} {below : List Frame} {meth : Method} {c : Code} {H : Heap} {locs : List Loc} {k n : Nat} {cc : ByteArray} {nL : Nat} {own : String} {y : MethodName} {b : ByteArray} {mL : Nat} {ret : Option FieldType} {rm : Room} {Pc : Array Value → State → Prop} {Qc : Array Value → State → Outcome → State → Prop} {free : Addr → Prop} {i na o : Nat} {As rest : List Value} {g : JFrame}
theorem gw_runV (S : CallFix p m c cc nL s args gw_T own) (hnw : ∀ w ∈ gw_Nl, va_Nw w s) (hM : Met l y (Cond.code y b mL ret :: gw_T) rm Pc Qc rm.cells rm.slots free) (hV : gw_V own i y b mL ret na) (hR : rm.frames + 1 ≤ R.frames ∧ 8 + (mL + 11) + rm.locals ≤ R.locals) (hp : PreV s H y.cls o Pc As)
    (hg : g.method = m) (hn : As.length = na) (hsize : g.locals.size = nL) (hstack : g.stack = As.reverse ++ .ref o :: rest) (hW : 2 * g.monitorRoom + (rest.map fun v => v.category).sum ≤ 8) (hdg : decode cc g.pc = .ok (.invokevirtual i, 3)) (hf : k + rm.cells ≤ R.cells ∧ n + rm.slots ≤ R.slots) :
    va_Run p l e R s m args below meth c H locs k n rm.cells rm.slots g rest (Qc (Value.ref o :: As).toArray) free := by
  obtain ⟨hl, hi, hs, hin, hc, hne, hpar⟩ := hV
  have hts := S.2.2.2.2
  rcases hl with hl | ⟨host, hl⟩
  · exact va_runV S hM ⟨callB_of na hts (gw_good hc) rfl rfl rfl (hts _ hin) (hts _ hl) ⟨hne.1, hne.2, hpar⟩ hR, hts _ hi, hts _ hs⟩ hp hg hn hsize hstack hW hdg hf
  · exact va_runVN S hM ⟨va_cnB na hts (gw_good hc) rfl rfl rfl (hnw _ hl) (hts _ hin) ⟨hne.1, hne.2, hpar⟩ hR, hts _ hi, hts _ hs⟩ hp hg hn hsize hstack hW hdg hf
theorem gw_runS (S : CallFix p m c cc nL s args gw_T own) (hnw : ∀ w ∈ gw_Nl, va_Nw w s) (hM : Met l y (Cond.code y b mL ret :: gw_T) rm Pc Qc rm.cells rm.slots free) (hV : gw_S own i y b mL ret na) (hR : rm.frames + 1 ≤ R.frames ∧ 8 + (mL + 11) + rm.locals ≤ R.locals) (hp : PreS s H Pc As)
    (hg : g.method = m) (hn : As.length = na) (hsize : g.locals.size = nL) (hstack : g.stack = As.reverse ++ rest) (hW : 2 * g.monitorRoom + (rest.map fun v => v.category).sum ≤ 8) (hdg : decode cc g.pc = .ok (.invokestatic i, 3)) (hf : k + rm.cells ≤ R.cells ∧ n + rm.slots ≤ R.slots) :
    va_Run p l e R s m args below meth c H locs k n rm.cells rm.slots g rest (Qc As.toArray) free := by
  obtain ⟨hl, hi, hin, hc, hne, hpar⟩ := hV
  have hts := S.2.2.2.2
  rcases hl with hl | ⟨host, hl⟩
  · exact va_runS S hM ⟨callB_of na hts (gw_good hc) rfl rfl rfl (hts _ hin) (hts _ hl) ⟨hne.1, hne.2, hpar⟩ hR, hts _ hi⟩ hp hg hn hsize hstack hW hdg hf
  · exact va_runSN S hM ⟨va_cnB na hts (gw_good hc) rfl rfl rfl (hnw _ hl) (hts _ hin) ⟨hne.1, hne.2, hpar⟩ hR, hts _ hi, trivial⟩ hp hg hn hsize hstack hW hdg hf
end GRUN
def gm_I (N w : Nat) (l : Launch) (D : va_G) (ad : Nat → Nat) (ck : Nat → ClassId) (y : MethodName) (b : ByteArray) (nL : Nat) (rt : FieldType) (rm : Room) (as : List gv_V) (cf : Nat → gc_T) (post : Int32 → (Nat → gc_T) → Prop) : Prop :=
  ∀ sz, Met l y (Cond.code y b nL (some rt) :: gw_T) rm (gm_P N D ad ck as cf sz) (va_Qi (fun (r : Int32) (c2 : Nat → gc_T) => post r c2) (fun c2 t => va_P D vwCl (gw_L N ad ck c2) t.heap) (gm_A w ad sz)) rm.cells rm.slots (gm_A w ad sz)
def gr_I (N : Nat) (b : ByteArray) (nL : Nat) (rt : FieldType) (rm : Room) (x : gx_X) (post : Int32 → (Nat → gc_T) → Prop) : Prop := ∀ {z : Int32} {c2 : Nat → gc_T} {k n pc : Nat} {lv : List (Nat × gv_V)}, k ≤ rm.cells → n ≤ rm.slots → decode b pc = .ok (.ireturn, 1) → narrow rt (.int z) = .int z → post z c2 → gw_G N nL rm x k n c2 pc lv [gv_I z]
theorem gm_I.of {N w : Nat} {l : Launch} {D : va_G} {ad : Nat → Nat} {ck : Nat → ClassId} {y : MethodName} {b : ByteArray} {nL : Nat} {rt : FieldType} {rm : Room} {as : List gv_V} {cf : Nat → gc_T} {post : Int32 → (Nat → gc_T) → Prop} (hy : plainName y.cls = true) (hw : gv_w as ≤ nL)
    (h : ∀ x : gx_X, gw_C N w y.cls b nL x → gr_I N b nL rt rm x post → gw_G N nL rm x 0 0 cf 0 (gv_args 0 as) []) (hw81 : w ≤ 81 := by decide) : gm_I N w l D ad ck y b nL rt rm as cf post := by
  intro sz
  refine Met.ofW (cc := b) (maxL := nL) (ret := (some rt)) hy rfl ?_
  intro p e s m args below meth c s₁ B hml hv
  obtain ⟨rfl, hsz, hP, hK, hnw, hij, hE⟩ := hv
  have hts := atoms_spec (ws := Cond.code y b nL (some rt) :: gw_T) B.pre
  have hown : s.vm.findClass y.cls = some m.cls := findClass_of_methodNamed B.named
  have hl := lv_entry (as.map (gv_v ad)) (n := nL) (by rw [gv_w_len]; exact hw)
  rw [lg_entry_eq]
  rw [gv_args_eq] at hl
  refine h (p, l, e, s, m, (as.map (gv_v ad)).toArray, below, meth, c, _, D, gm_A w ad sz, ad, ck) ⟨B.exec, B.bytes, hml, hown, fun w hw => hts w (List.mem_cons_of_mem _ hw), hnw, hK, fun q hq => Or.inr (by rw [← hsz]; exact hq), hij, fun i hi => Or.inl ⟨i, hi, rfl⟩, B.notSynchronized, gm_Age hw81 hE hsz, hE⟩ ?_ s.heap [] _ hP va_S.rf hl
  intro z c2 k n pc lv hk hn hd hnar hpost
  intro H1 locs1 ls1 hP1 hS1 hl1
  refine W.widen (k := rm.cells) (n := rm.slots) hk hn ?_
  exact W.zret B.exec B.bytes B.returns hnar (fun t ht hW => ⟨⟨z, c2, rfl, hpost, by show va_P D vwCl (gw_L N ad ck c2) t.heap; rw [ht]; exact hP1⟩, hS1.F ht⟩) hS1.2.2 hd B.notSynchronized
def gm_J (N w : Nat) (l : Launch) (D : va_G) (ad : Nat → Nat) (ck : Nat → ClassId) (y : MethodName) (b : ByteArray) (nL : Nat) (rm : Room) (as : List gv_V) (cf : Nat → gc_T) (post : Int64 → (Nat → gc_T) → Prop) : Prop :=
  ∀ sz, Met l y (Cond.code y b nL (some .long) :: gw_T) rm (gm_P N D ad ck as cf sz) (va_Ql (fun (r : Int64) (c2 : Nat → gc_T) => post r c2) (fun c2 t => va_P D vwCl (gw_L N ad ck c2) t.heap) (gm_A w ad sz)) rm.cells rm.slots (gm_A w ad sz)
def gr_J (N : Nat) (b : ByteArray) (nL : Nat) (rm : Room) (x : gx_X) (post : Int64 → (Nat → gc_T) → Prop) : Prop := ∀ {z : Int64} {c2 : Nat → gc_T} {k n pc : Nat} {lv : List (Nat × gv_V)}, k ≤ rm.cells → n ≤ rm.slots → decode b pc = .ok (.lreturn, 1) → post z c2 → gw_G N nL rm x k n c2 pc lv [gv_L z]
theorem gm_J.of {N w : Nat} {l : Launch} {D : va_G} {ad : Nat → Nat} {ck : Nat → ClassId} {y : MethodName} {b : ByteArray} {nL : Nat} {rm : Room} {as : List gv_V} {cf : Nat → gc_T} {post : Int64 → (Nat → gc_T) → Prop} (hy : plainName y.cls = true) (hw : gv_w as ≤ nL)
    (h : ∀ x : gx_X, gw_C N w y.cls b nL x → gr_J N b nL rm x post → gw_G N nL rm x 0 0 cf 0 (gv_args 0 as) []) (hw81 : w ≤ 81 := by decide) : gm_J N w l D ad ck y b nL rm as cf post := by
  intro sz
  refine Met.ofW (cc := b) (maxL := nL) (ret := (some .long)) hy rfl ?_
  intro p e s m args below meth c s₁ B hml hv
  obtain ⟨rfl, hsz, hP, hK, hnw, hij, hE⟩ := hv
  have hts := atoms_spec (ws := Cond.code y b nL (some .long) :: gw_T) B.pre
  have hown : s.vm.findClass y.cls = some m.cls := findClass_of_methodNamed B.named
  have hl := lv_entry (as.map (gv_v ad)) (n := nL) (by rw [gv_w_len]; exact hw)
  rw [lg_entry_eq]
  rw [gv_args_eq] at hl
  refine h (p, l, e, s, m, (as.map (gv_v ad)).toArray, below, meth, c, _, D, gm_A w ad sz, ad, ck) ⟨B.exec, B.bytes, hml, hown, fun w hw => hts w (List.mem_cons_of_mem _ hw), hnw, hK, fun q hq => Or.inr (by rw [← hsz]; exact hq), hij, fun i hi => Or.inl ⟨i, hi, rfl⟩, B.notSynchronized, gm_Age hw81 hE hsz, hE⟩ ?_ s.heap [] _ hP va_S.rf hl
  intro z c2 k n pc lv hk hn hd hpost
  intro H1 locs1 ls1 hP1 hS1 hl1
  refine W.widen (k := rm.cells) (n := rm.slots) hk hn ?_
  exact W.lret B.exec B.bytes B.returns (fun t ht hW => ⟨⟨z, c2, rfl, hpost, by show va_P D vwCl (gw_L N ad ck c2) t.heap; rw [ht]; exact hP1⟩, hS1.F ht⟩) hS1.2.2 hd B.notSynchronized
def gm_V (N w : Nat) (l : Launch) (D : va_G) (ad : Nat → Nat) (ck : Nat → ClassId) (y : MethodName) (b : ByteArray) (nL : Nat) (rm : Room) (as : List gv_V) (cf : Nat → gc_T) (post : (Nat → gc_T) → Prop) : Prop :=
  ∀ sz, Met l y (Cond.code y b nL none :: gw_T) rm (gm_P N D ad ck as cf sz) (va_Qv (fun (c2 : Nat → gc_T) => post c2) (fun c2 t => va_P D vwCl (gw_L N ad ck c2) t.heap) (gm_A w ad sz)) rm.cells rm.slots (gm_A w ad sz)
def gr_V (N : Nat) (b : ByteArray) (nL : Nat) (rm : Room) (x : gx_X) (post : (Nat → gc_T) → Prop) : Prop := ∀ {c2 : Nat → gc_T} {k n pc : Nat} {lv : List (Nat × gv_V)}, k ≤ rm.cells → n ≤ rm.slots → decode b pc = .ok (.return_, 1) → post c2 → gw_G N nL rm x k n c2 pc lv []
theorem gm_V.of {N w : Nat} {l : Launch} {D : va_G} {ad : Nat → Nat} {ck : Nat → ClassId} {y : MethodName} {b : ByteArray} {nL : Nat} {rm : Room} {as : List gv_V} {cf : Nat → gc_T} {post : (Nat → gc_T) → Prop} (hy : plainName y.cls = true) (hw : gv_w as ≤ nL)
    (h : ∀ x : gx_X, gw_C N w y.cls b nL x → gr_V N b nL rm x post → gw_G N nL rm x 0 0 cf 0 (gv_args 0 as) []) (hw81 : w ≤ 81 := by decide) : gm_V N w l D ad ck y b nL rm as cf post := by
  intro sz
  refine Met.ofW (cc := b) (maxL := nL) (ret := none) hy rfl ?_
  intro p e s m args below meth c s₁ B hml hv
  obtain ⟨rfl, hsz, hP, hK, hnw, hij, hE⟩ := hv
  have hts := atoms_spec (ws := Cond.code y b nL none :: gw_T) B.pre
  have hown : s.vm.findClass y.cls = some m.cls := findClass_of_methodNamed B.named
  have hl := lv_entry (as.map (gv_v ad)) (n := nL) (by rw [gv_w_len]; exact hw)
  rw [lg_entry_eq]
  rw [gv_args_eq] at hl
  refine h (p, l, e, s, m, (as.map (gv_v ad)).toArray, below, meth, c, _, D, gm_A w ad sz, ad, ck) ⟨B.exec, B.bytes, hml, hown, fun w hw => hts w (List.mem_cons_of_mem _ hw), hnw, hK, fun q hq => Or.inr (by rw [← hsz]; exact hq), hij, fun i hi => Or.inl ⟨i, hi, rfl⟩, B.notSynchronized, gm_Age hw81 hE hsz, hE⟩ ?_ s.heap [] _ hP va_S.rf hl
  intro c2 k n pc lv hk hn hd hpost
  intro H1 locs1 ls1 hP1 hS1 hl1
  refine W.widen (k := rm.cells) (n := rm.slots) hk hn ?_
  exact W.vret B.exec B.bytes B.returns (fun t ht hW => ⟨⟨c2, rfl, hpost, by show va_P D vwCl (gw_L N ad ck c2) t.heap; rw [ht]; exact hP1⟩, hS1.F ht⟩) hS1.2.2 hd B.notSynchronized
section GCALL
variable {N w w2 nL : Nat} {own : String} {cc : ByteArray} {R : Room} {x : gx_X} {k n : Nat} {cf : Nat → gc_T} {pc : Nat} {lv : List (Nat × gv_V)} {st stk : List gv_V} {y : MethodName} {b : ByteArray} {mL : Nat} {rt : FieldType} {rm : Room} {as : List gv_V}
theorem gx_vI (hC : gw_C N w own cc nL x) {i na o ci : Nat} {fs : List gv_V} {post : Int32 → (Nat → gc_T) → Prop} (hd : decode cc pc = .ok (.invokevirtual i, 3)) (hV : gw_V own i y b mL (some rt) na) (hM : gm_I N w2 (gx_l x) (gx_D x) (gx_ad x) (gx_ck x) y b mL rt rm (gv_R o :: as) cf post) (hn : as.length = na) (hw2 : w2 ≤ w) (hR : rm.frames + 1 ≤ R.frames ∧ 8 + (mL + 11) + rm.locals ≤ R.locals) (hf : k + rm.cells ≤ R.cells ∧ n + rm.slots ≤ R.slots) (ho : o < N) (hci : ∃ (T : u_T) (M : Nat), vwCl[ci]? = some (y.cls, T, M)) (hc : cf o = gc_O ci fs) (hst : stk = as.reverse ++ gv_R o :: st) (hcat : gv_w st ≤ 8)
    (kk : ∀ (z : Int32) (c2 : Nat → gc_T), post z c2 → gw_G N nL R x (k + rm.cells) (n + rm.slots) c2 (pc + 3) lv (gv_I z :: st)) : gw_G N nL R x k n cf pc lv stk := by
  obtain ⟨p, l, e, s, m, args, below, meth, c, Q, D, A, ad, ck⟩ := x
  obtain ⟨hx, hb, hml, hown, hts, hnw, hK, hA, hij, hAd, hlk⟩ := hC
  subst hst
  intro H locs ls hP hS hl
  obtain ⟨T, M, hci⟩ := hci
  have hFc := gm_free (N := w2) hAd hw2 hA hS
  refine va_calli (gw_runV (As := as.map (gv_v ad)) (rest := st.map (gv_v ad)) (o := ad o) ⟨hx, hb, hml, hown, hts⟩ hnw (hM H.size) hV hR ⟨gm_blind, va_recv hK hP hci (gw_atE ho hc), fun U hU hW => ⟨rfl, by rw [hU], by rw [hU]; exact hP, va_K.moved hW.alike hK, gw_warm hW hnw, hij, hlk.2.2.go hU hW hlk.2.1 hS⟩⟩ rfl (by simpa using hn) hl.1 (by simp [gv_v]) (lv_room (by rw [gv_w_sum]; exact hcat)) hd hf) hS (fun q _ h => hFc q h) hFc (fun r u t H1 locs1 ht hvm hq hB hz1 hk1 hS1 => kk r u hq H1 locs1 ls (by rw [← ht]; exact hB) hS1 hl)
theorem gx_sI (hC : gw_C N w own cc nL x) {i na : Nat} {post : Int32 → (Nat → gc_T) → Prop} (hd : decode cc pc = .ok (.invokestatic i, 3)) (hV : gw_S own i y b mL (some rt) na) (hM : gm_I N w2 (gx_l x) (gx_D x) (gx_ad x) (gx_ck x) y b mL rt rm as cf post) (hn : as.length = na) (hw2 : w2 ≤ w) (hR : rm.frames + 1 ≤ R.frames ∧ 8 + (mL + 11) + rm.locals ≤ R.locals) (hf : k + rm.cells ≤ R.cells ∧ n + rm.slots ≤ R.slots) (hst : stk = as.reverse ++ st) (hcat : gv_w st ≤ 8)
    (kk : ∀ (z : Int32) (c2 : Nat → gc_T), post z c2 → gw_G N nL R x (k + rm.cells) (n + rm.slots) c2 (pc + 3) lv (gv_I z :: st)) : gw_G N nL R x k n cf pc lv stk := by
  obtain ⟨p, l, e, s, m, args, below, meth, c, Q, D, A, ad, ck⟩ := x
  obtain ⟨hx, hb, hml, hown, hts, hnw, hK, hA, hij, hAd, hlk⟩ := hC
  subst hst
  intro H locs ls hP hS hl
  have hFc := gm_free (N := w2) hAd hw2 hA hS
  refine va_calli (gw_runS (As := as.map (gv_v ad)) (rest := st.map (gv_v ad)) ⟨hx, hb, hml, hown, hts⟩ hnw (hM H.size) hV hR ⟨gm_blind, fun U hU hW => ⟨rfl, by rw [hU], by rw [hU]; exact hP, va_K.moved hW.alike hK, gw_warm hW hnw, hij, hlk.2.2.go hU hW hlk.2.1 hS⟩⟩ rfl (by simpa using hn) hl.1 (by simp) (lv_room (by rw [gv_w_sum]; exact hcat)) hd hf) hS (fun q _ h => hFc q h) hFc (fun r u t H1 locs1 ht hvm hq hB hz1 hk1 hS1 => kk r u hq H1 locs1 ls (by rw [← ht]; exact hB) hS1 hl)
theorem gx_vJ (hC : gw_C N w own cc nL x) {i na o ci : Nat} {fs : List gv_V} {post : Int64 → (Nat → gc_T) → Prop} (hd : decode cc pc = .ok (.invokevirtual i, 3)) (hV : gw_V own i y b mL (some .long) na) (hM : gm_J N w2 (gx_l x) (gx_D x) (gx_ad x) (gx_ck x) y b mL rm (gv_R o :: as) cf post) (hn : as.length = na) (hw2 : w2 ≤ w) (hR : rm.frames + 1 ≤ R.frames ∧ 8 + (mL + 11) + rm.locals ≤ R.locals) (hf : k + rm.cells ≤ R.cells ∧ n + rm.slots ≤ R.slots) (ho : o < N) (hci : ∃ (T : u_T) (M : Nat), vwCl[ci]? = some (y.cls, T, M)) (hc : cf o = gc_O ci fs) (hst : stk = as.reverse ++ gv_R o :: st) (hcat : gv_w st ≤ 8)
    (kk : ∀ (z : Int64) (c2 : Nat → gc_T), post z c2 → gw_G N nL R x (k + rm.cells) (n + rm.slots) c2 (pc + 3) lv (gv_L z :: st)) : gw_G N nL R x k n cf pc lv stk := by
  obtain ⟨p, l, e, s, m, args, below, meth, c, Q, D, A, ad, ck⟩ := x
  obtain ⟨hx, hb, hml, hown, hts, hnw, hK, hA, hij, hAd, hlk⟩ := hC
  subst hst
  intro H locs ls hP hS hl
  obtain ⟨T, M, hci⟩ := hci
  have hFc := gm_free (N := w2) hAd hw2 hA hS
  refine va_calll (gw_runV (As := as.map (gv_v ad)) (rest := st.map (gv_v ad)) (o := ad o) ⟨hx, hb, hml, hown, hts⟩ hnw (hM H.size) hV hR ⟨gm_blind, va_recv hK hP hci (gw_atE ho hc), fun U hU hW => ⟨rfl, by rw [hU], by rw [hU]; exact hP, va_K.moved hW.alike hK, gw_warm hW hnw, hij, hlk.2.2.go hU hW hlk.2.1 hS⟩⟩ rfl (by simpa using hn) hl.1 (by simp [gv_v]) (lv_room (by rw [gv_w_sum]; exact hcat)) hd hf) hS (fun q _ h => hFc q h) hFc (fun r u t H1 locs1 ht hvm hq hB hz1 hk1 hS1 => kk r u hq H1 locs1 ls (by rw [← ht]; exact hB) hS1 hl)
theorem gx_sJ (hC : gw_C N w own cc nL x) {i na : Nat} {post : Int64 → (Nat → gc_T) → Prop} (hd : decode cc pc = .ok (.invokestatic i, 3)) (hV : gw_S own i y b mL (some .long) na) (hM : gm_J N w2 (gx_l x) (gx_D x) (gx_ad x) (gx_ck x) y b mL rm as cf post) (hn : as.length = na) (hw2 : w2 ≤ w) (hR : rm.frames + 1 ≤ R.frames ∧ 8 + (mL + 11) + rm.locals ≤ R.locals) (hf : k + rm.cells ≤ R.cells ∧ n + rm.slots ≤ R.slots) (hst : stk = as.reverse ++ st) (hcat : gv_w st ≤ 8)
    (kk : ∀ (z : Int64) (c2 : Nat → gc_T), post z c2 → gw_G N nL R x (k + rm.cells) (n + rm.slots) c2 (pc + 3) lv (gv_L z :: st)) : gw_G N nL R x k n cf pc lv stk := by
  obtain ⟨p, l, e, s, m, args, below, meth, c, Q, D, A, ad, ck⟩ := x
  obtain ⟨hx, hb, hml, hown, hts, hnw, hK, hA, hij, hAd, hlk⟩ := hC
  subst hst
  intro H locs ls hP hS hl
  have hFc := gm_free (N := w2) hAd hw2 hA hS
  refine va_calll (gw_runS (As := as.map (gv_v ad)) (rest := st.map (gv_v ad)) ⟨hx, hb, hml, hown, hts⟩ hnw (hM H.size) hV hR ⟨gm_blind, fun U hU hW => ⟨rfl, by rw [hU], by rw [hU]; exact hP, va_K.moved hW.alike hK, gw_warm hW hnw, hij, hlk.2.2.go hU hW hlk.2.1 hS⟩⟩ rfl (by simpa using hn) hl.1 (by simp) (lv_room (by rw [gv_w_sum]; exact hcat)) hd hf) hS (fun q _ h => hFc q h) hFc (fun r u t H1 locs1 ht hvm hq hB hz1 hk1 hS1 => kk r u hq H1 locs1 ls (by rw [← ht]; exact hB) hS1 hl)
theorem gx_vV (hC : gw_C N w own cc nL x) {i na o ci : Nat} {fs : List gv_V} {post : (Nat → gc_T) → Prop} (hd : decode cc pc = .ok (.invokevirtual i, 3)) (hV : gw_V own i y b mL none na) (hM : gm_V N w2 (gx_l x) (gx_D x) (gx_ad x) (gx_ck x) y b mL rm (gv_R o :: as) cf post) (hn : as.length = na) (hw2 : w2 ≤ w) (hR : rm.frames + 1 ≤ R.frames ∧ 8 + (mL + 11) + rm.locals ≤ R.locals) (hf : k + rm.cells ≤ R.cells ∧ n + rm.slots ≤ R.slots) (ho : o < N) (hci : ∃ (T : u_T) (M : Nat), vwCl[ci]? = some (y.cls, T, M)) (hc : cf o = gc_O ci fs) (hst : stk = as.reverse ++ gv_R o :: st) (hcat : gv_w st ≤ 8)
    (kk : ∀ (c2 : Nat → gc_T), post c2 → gw_G N nL R x (k + rm.cells) (n + rm.slots) c2 (pc + 3) lv st) : gw_G N nL R x k n cf pc lv stk := by
  obtain ⟨p, l, e, s, m, args, below, meth, c, Q, D, A, ad, ck⟩ := x
  obtain ⟨hx, hb, hml, hown, hts, hnw, hK, hA, hij, hAd, hlk⟩ := hC
  subst hst
  intro H locs ls hP hS hl
  obtain ⟨T, M, hci⟩ := hci
  have hFc := gm_free (N := w2) hAd hw2 hA hS
  refine va_callv (gw_runV (As := as.map (gv_v ad)) (rest := st.map (gv_v ad)) (o := ad o) ⟨hx, hb, hml, hown, hts⟩ hnw (hM H.size) hV hR ⟨gm_blind, va_recv hK hP hci (gw_atE ho hc), fun U hU hW => ⟨rfl, by rw [hU], by rw [hU]; exact hP, va_K.moved hW.alike hK, gw_warm hW hnw, hij, hlk.2.2.go hU hW hlk.2.1 hS⟩⟩ rfl (by simpa using hn) hl.1 (by simp [gv_v]) (lv_room (by rw [gv_w_sum]; exact hcat)) hd hf) hS (fun q _ h => hFc q h) hFc (fun u t H1 locs1 ht hvm hq hB hz1 hk1 hS1 => kk u hq H1 locs1 ls (by rw [← ht]; exact hB) hS1 hl)
theorem gx_sV (hC : gw_C N w own cc nL x) {i na : Nat} {post : (Nat → gc_T) → Prop} (hd : decode cc pc = .ok (.invokestatic i, 3)) (hV : gw_S own i y b mL none na) (hM : gm_V N w2 (gx_l x) (gx_D x) (gx_ad x) (gx_ck x) y b mL rm as cf post) (hn : as.length = na) (hw2 : w2 ≤ w) (hR : rm.frames + 1 ≤ R.frames ∧ 8 + (mL + 11) + rm.locals ≤ R.locals) (hf : k + rm.cells ≤ R.cells ∧ n + rm.slots ≤ R.slots) (hst : stk = as.reverse ++ st) (hcat : gv_w st ≤ 8)
    (kk : ∀ (c2 : Nat → gc_T), post c2 → gw_G N nL R x (k + rm.cells) (n + rm.slots) c2 (pc + 3) lv st) : gw_G N nL R x k n cf pc lv stk := by
  obtain ⟨p, l, e, s, m, args, below, meth, c, Q, D, A, ad, ck⟩ := x
  obtain ⟨hx, hb, hml, hown, hts, hnw, hK, hA, hij, hAd, hlk⟩ := hC
  subst hst
  intro H locs ls hP hS hl
  have hFc := gm_free (N := w2) hAd hw2 hA hS
  refine va_callv (gw_runS (As := as.map (gv_v ad)) (rest := st.map (gv_v ad)) ⟨hx, hb, hml, hown, hts⟩ hnw (hM H.size) hV hR ⟨gm_blind, fun U hU hW => ⟨rfl, by rw [hU], by rw [hU]; exact hP, va_K.moved hW.alike hK, gw_warm hW hnw, hij, hlk.2.2.go hU hW hlk.2.1 hS⟩⟩ rfl (by simpa using hn) hl.1 (by simp) (lv_room (by rw [gv_w_sum]; exact hcat)) hd hf) hS (fun q _ h => hFc q h) hFc (fun u t H1 locs1 ht hvm hq hB hz1 hk1 hS1 => kk u hq H1 locs1 ls (by rw [← ht]; exact hB) hS1 hl)
end GCALL
