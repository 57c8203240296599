/-! THROWS: a method that throws, makes one new cell and changes nothing -/
def gt_N : Nat → String
  | 1 => "java/lang/IndexOutOfBoundsException"
  | _ => "java/lang/IllegalArgumentException"
def gt_Q (kd mc ms : Nat) : Array Value → State → Outcome → State → Prop := fun _ st o t => ∃ (q : Nat) (ce : Cell), o = .threw q ∧ st.heap.size ≤ q ∧ t.heap[q]? = some ce ∧ ce.vm = .none ∧ st.vm.findClass (gt_N kd) = some ce.cls ∧ FrameEndT st o t [] mc ms
theorem gt_same {s t : State} {mc ms : Nat} (h : s.sameButNew t [] mc ms) : ∀ j : Nat, j < s.heap.size → t.heap[j]? = s.heap[j]? := by
  intro j hj
  obtain ⟨-, -, -, -, -, h6⟩ := h
  have hc : s.heap[j]? = some s.heap[j] := Array.getElem?_eq_getElem hj
  obtain ⟨c', h1, h2, h3, h4⟩ := h6 j _ hc
  have e : c'.slots = s.heap[j].slots := Array.ext_getElem? (fun i => h4 i (by simp))
  rw [h1, hc]
  exact congrArg some (h2.trans (by rw [e]))
def gt_B (kd mc ms : Nat) : Pt → Array Value → Addr → Pt → Prop := fun A _ q B => B.locs = A.locs ∧ B.cells = A.cells + mc ∧ B.slots = A.slots + ms ∧ ∃ ce : Cell, A.U.heap.size ≤ q ∧ B.U.heap[q]? = some ce ∧ ce.vm = .none ∧ A.U.vm.findClass (gt_N kd) = some ce.cls ∧ (∀ j : Nat, j < A.U.heap.size → B.U.heap[j]? = A.U.heap[j]?) ∧ A.U.heap.size ≤ B.U.heap.size
section GTB
variable {l : Launch} {R : Room} {p : Program} {e : Env} {below : List Frame} {s : State} {sargs : Array Value} {y : MethodName} {b : ByteArray} {mL kd : Nat} {ret : Option FieldType} {rm : Room} {Pc : Array Value → State → Prop}
theorem gt_back (hM : MetFree l y (headSpec (Cond.code y b mL ret :: gw_T) rm) Pc (fun _ _ _ _ _ => True) (gt_Q kd rm.cells rm.slots)) (hblind : FrameBlind Pc) (hR : rm.frames + 1 ≤ R.frames ∧ 8 + (mL + 11) + rm.locals ≤ R.locals)
    (hws : ∀ w ∈ Cond.code y b mL ret :: gw_T, ∀ (a' : Array Value) (U : State), s.WarmedH U.vm → w.before a' U = true) (hinit : ∀ (a' : Array Value) (U : State), s.WarmedH U.vm → (Cond.initialized y.cls).before a' U = true) :
    BackT l R p e below s sargs y 3 8 (PreOf R rm.cells rm.slots Pc) (gt_B kd rm.cells rm.slots) := by
  refine BackT.of_free (S := headSpec (Cond.code y b mL ret :: gw_T) rm) (P := Pc) (bytes := b) (maxL := mL) (ret := ret) (E := fun a st o t L k n => L = [] ∧ k = rm.cells ∧ n = rm.slots) hM hR.1 hR.2 ?_ ?_ (fun _ _ _ _ _ _ _ _ _ => trivial) ?_ ?_
  · intro m meth c A a X hp
    exact ⟨atoms_intro fun w hw => hws w hw _ _ X.warmed, hws _ List.mem_cons_self _ _ X.warmed, hinit _ _ X.warmed, hp.1, hp.2.1⟩
  · intro m meth c A a g mk X hp
    exact hblind _ _ _ _ hp.2.2
  · intro a st o t ⟨q, ce, h1, h2, h3, h4, h5, h6⟩
    exact ⟨[], rm.cells, rm.slots, h6, rfl, rfl, rfl⟩
  · intro m meth c A a g mk v t L k n X hp hq hF hE
    obtain ⟨rfl, rfl, rfl⟩ := hE
    obtain ⟨q, ce, h1, h2, h3, h4, h5, h6⟩ := hq
    cases h1
    refine ⟨by simp [Pt.locs], rfl, rfl, ce, h2, h3, h4, h5, fun j hj => ?_, h6.2.2.2.1⟩
    exact gt_same h6.2.2 j hj
end GTB
section GTC
variable {p : Program} {l : Launch} {e : Env} {R : Room} {s : State} {m : MethodId} {args : Array Value} {below : List Frame} {meth : Method} {c : Code} {T : State} {locs : List Loc} {cells slots : Nat}
theorem gt_callV (X : Stand p l e R s m args below meth c T locs cells slots) (hexec : p.tables.exec = Jvm.exec) {own C : String} {index : Nat} {y : MethodName} {bytes : ByteArray} {maxL : Nat} {ret : Option FieldType}
    (hown : s.vm.findClass own = some m.cls) (hlink : (Cond.methodLink own index y).before args s = true) (hinst : (Cond.instanceMethod y).before args s = true) (hsel : (Cond.selects C y y).before args s = true)
    (hcode : (Cond.code y bytes maxL ret).before args s = true) (hy : y.cls ≠ "java/lang/invoke/MethodHandle" ∧ y.cls ≠ "java/lang/invoke/VarHandle")
    {W : Nat} {Pre : Pt → Array Value → Prop} {Post : Pt → Array Value → Addr → Pt → Prop} (hK : BackT l R p e below s args y 3 W Pre Post)
    {b : Addr} {cellB : Cell} (hcell : T.heap[b]? = some cellB) (hobj : cellB.vm.isStatics = false) (hcls : s.vm.findClass C = some cellB.cls)
    {g : JFrame} (hg : g.method = m) (hsize : g.locals.size = c.maxLocals) {argsL rest : List Value} (hlen : ∀ sig, parseMethodDescriptor y.desc = some sig → argsL.length = sig.parameters.length)
    (hstack : g.stack = argsL.reverse ++ .ref b :: rest) (hW : 2 * g.monitorRoom + (rest.map fun v => v.category).sum ≤ W) (hdg : decode c.code g.pc = .ok (.invokevirtual index, 3))
    (hpre : ∀ vm₁, s.WarmedH vm₁ → Pre ⟨T.setVm vm₁, locs, cells, slots⟩ (Value.ref b :: argsL).toArray) :
    ∃ (v : Addr) (vm₁ : Vm) (B : Pt), s.WarmedH vm₁ ∧ Stand p l e R s m args below meth c B.U B.locs B.cells B.slots ∧ Post ⟨T.setVm vm₁, locs, cells, slots⟩ (Value.ref b :: argsL).toArray v B ∧
      Steps p.tables e below (T.setTop g) ((B.U.setTop { g with stack := rest }).pushFrame (.throwing v)) := by
  obtain ⟨mk, methM, hnamed, hmethM, hstM, habM⟩ := Cond.instanceMethod_spec hinst
  obtain ⟨methM', cM, hmethM', -, -, -, -, -, -, hsigM⟩ := Cond.code_spec hnamed hcode
  cases hmethM.symm.trans hmethM'
  obtain ⟨c2, r2, m2, q1, q2, q3, q4, kP, hkP, hkPi⟩ := Cond.selects_spec hsel
  cases hcls.symm.trans q1
  cases (State.methodFound?_of_named hnamed hy).symm.trans q2
  cases hnamed.symm.trans q3
  have hselP : selectMethod e.platform s.vm cellB.cls mk = .method mk := by rw [Launch.admits_selectMethod X.admits]; exact q4
  obtain ⟨vm₁, X₁, hstep₁⟩ := X.invokevirtual hexec hown hlink hnamed hmethM hstM hkP hkPi hy (a := b) (cell := cellB) hcell
    (fun z h => by rw [h] at hobj; cases hobj) hselP hmethM habM hkP hkPi (g := g) hg (argsL := argsL) (rest := rest) (hlen _ hsigM) hstack hdg
  obtain ⟨v, B, X', hpost, hsteps⟩ := hK m meth c ⟨T.setVm vm₁, locs, cells, slots⟩ { g with stack := rest } (.invokevirtual index) mk (Value.ref b :: argsL).toArray X₁ hg hsize hdg hW (X₁.named hnamed) (hpre vm₁ X₁.warmed)
  exact ⟨v, vm₁, B, X₁.warmed, X', hpost, hstep₁ _ fun acts => by rw [doInvoke_state]; exact hsteps⟩
theorem gt_callS (X : Stand p l e R s m args below meth c T locs cells slots) (hexec : p.tables.exec = Jvm.exec) {own : String} {index : Nat} {y : MethodName} {bytes : ByteArray} {maxL : Nat} {ret : Option FieldType}
    (hown : s.vm.findClass own = some m.cls) (hlink : (Cond.methodLink own index y).before args s = true) (hstat : (Cond.static y).before args s = true) (hinit : (Cond.initialized y.cls).before args s = true)
    (hcode : (Cond.code y bytes maxL ret).before args s = true) (hy : y.cls ≠ "java/lang/invoke/MethodHandle" ∧ y.cls ≠ "java/lang/invoke/VarHandle")
    {W : Nat} {Pre : Pt → Array Value → Prop} {Post : Pt → Array Value → Addr → Pt → Prop} (hK : BackT l R p e below s args y 3 W Pre Post)
    {g : JFrame} (hg : g.method = m) (hsize : g.locals.size = c.maxLocals) {argsL rest : List Value} (hlen : ∀ sig, parseMethodDescriptor y.desc = some sig → argsL.length = sig.parameters.length)
    (hstack : g.stack = argsL.reverse ++ rest) (hW : 2 * g.monitorRoom + (rest.map fun v => v.category).sum ≤ W) (hdg : decode c.code g.pc = .ok (.invokestatic index, 3))
    (hpre : ∀ vm₁, s.WarmedH vm₁ → Pre ⟨T.setVm vm₁, locs, cells, slots⟩ argsL.toArray) :
    ∃ (v : Addr) (vm₁ : Vm) (B : Pt), s.WarmedH vm₁ ∧ Stand p l e R s m args below meth c B.U B.locs B.cells B.slots ∧ Post ⟨T.setVm vm₁, locs, cells, slots⟩ argsL.toArray v B ∧
      Steps p.tables e below (T.setTop g) ((B.U.setTop { g with stack := rest }).pushFrame (.throwing v)) := by
  obtain ⟨mk, hnamed⟩ := Cond.code_named hcode
  obtain ⟨methM, cM, hmethM, -, -, -, -, -, -, hsigM⟩ := Cond.code_spec hnamed hcode
  have hstatic : methM.isStatic = true := Cond.static_spec hnamed hmethM hstat
  obtain ⟨kP, hkP, -⟩ := className_of_methodNamed hnamed
  have hinitP : kP.init = .initialized := Cond.initialized_spec (findClass_of_methodNamed hnamed) hkP hinit
  obtain ⟨vm₁, X₁, hstep₁⟩ := X.invokestatic hexec hown hlink hnamed hmethM hstatic hkP hinitP hy (g := g) hg (argsL := argsL) (rest := rest) (hlen _ hsigM) hstack hdg
  obtain ⟨v, B, X', hpost, hsteps⟩ := hK m meth c ⟨T.setVm vm₁, locs, cells, slots⟩ { g with stack := rest } (.invokestatic index) mk argsL.toArray X₁ hg hsize hdg hW (X₁.named hnamed) (hpre vm₁ X₁.warmed)
  exact ⟨v, vm₁, B, X₁.warmed, X', hpost, hstep₁ _ fun acts => by rw [doInvoke_state]; exact hsteps⟩
end GTC
/-! the contract of a method that throws -/
def gm_X (N : Nat) (l : Launch) (D : va_G) (ad : Nat → Nat) (ck : Nat → ClassId) (y : MethodName) (b : ByteArray) (nL : Nat) (ret : Option FieldType) (rm : Room) (as : List gv_V) (cf : Nat → gc_T) (kd : Nat) : Prop :=
  ∀ sz, MetFree l y (headSpec (Cond.code y b nL ret :: gw_T) rm) (gm_P N D ad ck as cf sz) (fun _ _ _ _ _ => True) (gt_Q kd rm.cells rm.slots)
/-- what a walk knows that ends in a throw -/
def gt_X (R : Room) (kd : Nat) (x : gx_X) : Prop := match x with
  | (p, l, e, s, m, args, below, meth, c, Q, D, A, ad, ck) => e.platform.stackTraces = false ∧ (∀ z ∈ c.exceptionTable.toList, ∀ pc, covers z pc = false) ∧ meth.locks = false ∧ (∀ q, A q → s.heap.size ≤ q) ∧
    ∀ (t : State) (q : Nat) (ce : Cell), t.status = .running → Ended t below (.threw q) → s.WarmedH t.vm → s.sameButNew ({ t with vm := s.vm } : State) [] R.cells R.slots → t.heap[q]? = some ce → ce.vm = .none → s.vm.findClass (gt_N kd) = some ce.cls → s.heap.size ≤ q → Q t
theorem gm_X.of {N : Nat} {l : Launch} {D : va_G} {ad : Nat → Nat} {ck : Nat → ClassId} {y : MethodName} {b : ByteArray} {nL : Nat} {ret : Option FieldType} {rm : Room} {as : List gv_V} {cf : Nat → gc_T} {kd : Nat} (hfl : l.flags = pinnedFlags ++ [noTraceFlag]) (hy : plainName y.cls = true) (hw : gv_w as ≤ nL)
    (h : ∀ x : gx_X, (gx_l x).flags = pinnedFlags ++ [noTraceFlag] → gw_C N 0 y.cls b nL x → gt_X rm kd x → gw_G N nL rm x 0 0 cf 0 (gv_args 0 as) []) : gm_X N l D ad ck y b nL ret rm as cf kd := by
  intro sz
  refine MetFree.of_bodyS (code := b) (maxLocals := nL) (ret := ret) hy ?_ ?_
  · intro args s m h hn
    obtain ⟨meth, c, h1, h2, h3, h4, h5, h6, -, -⟩ := Cond.code_spec hn (atoms_spec (ws := Cond.code y b nL ret :: gw_T) h _ List.mem_cons_self)
    exact ⟨meth, c, h1, h2, h3, h4, h5, h6⟩
  · intro p e s m args below meth c s₁ B hml hv _
    have hts := atoms_spec (ws := Cond.code y b nL ret :: gw_T) B.pre
    obtain ⟨rfl, hsz, hP, hK, hnw, hij, hE⟩ := hv
    have hh0 : s₁.heap = s.heap := by rw [B.state]; rfl
    have X := Stand.of_body B
    have hown : s.vm.findClass y.cls = some m.cls := findClass_of_methodNamed B.named
    have hl := lv_entry (as.map (gv_v ad)) (n := nL) (by rw [gv_w_len]; exact hw)
    rw [gv_args_eq] at hl
    have hex : c.exceptionTable.toList = [] := by
      obtain ⟨meth', c', h1, h2, -, -, -, -, h6, -⟩ := Cond.code_spec B.named (hts _ List.mem_cons_self)
      cases h1.symm.trans B.method
      cases h2.symm.trans X.code
      simpa using h6
    obtain ⟨t, a1, o, b1, b2, b3⟩ := h (p, l, e, s, m, (as.map (gv_v ad)).toArray, below, meth, c, fun t => ∃ o, t.status = .running ∧ Ended t below o ∧ gt_Q kd rm.cells rm.slots (as.map (gv_v ad)).toArray s o t, D, gm_A 0 ad sz, ad, ck) hfl
      ⟨B.exec, B.bytes, hml, hown, fun w hw => hts w (List.mem_cons_of_mem _ hw), hnw, hK, fun q hq => Or.inr (by rw [← hsz]; exact hq), hij, fun i hi => absurd hi (Nat.not_lt_zero i), B.notSynchronized, gm_Age (Nat.zero_le _) hE hsz, hE⟩
      ⟨Launch.traces_off hfl X.admits, (by rw [hex]; intro z hz; cases hz), B.notSynchronized, (fun q hq => by
        rcases hq with ⟨i, hi, _⟩ | hq
        · exact absurd hi (Nat.not_lt_zero i)
        · rw [hsz]; exact hq), fun t q ce g1 g2 g3 g4 g5 g6 g7 g8 => ⟨_, g1, g2, q, ce, rfl, g8, g5, g6, g7, ⟨q, rfl⟩, g3, g4⟩⟩
      s.heap [] _ hP va_S.rf hl s₁ hh0 X
    refine ⟨t, o, ?_, b1, b2, b3⟩
    rw [lg_entry_eq]
    exact a1
theorem gk_isRef {C n d : String} {A : Nat → Prop} {args : Array Value} {s : State} (h : va_Zq C n d A s s.heap) : (Cond.isRef (.static C n d)).before args s = true := by
  have key : ∀ v : Value, va_Z C n d v A s s.heap → (Term.static C n d).eval args s none [] s = some v := by
    intro v hv
    obtain ⟨cf, kf, fi, f, a, cell, h1, h2, h3, h4, h5, h6, h7, h8⟩ := hv
    simp [Term.eval, State.fieldNamed?, h1, h2, h4, h5, h6, h7]
  rcases h with h | ⟨t, h⟩
  · simp [Cond.before, Cond.holds, Cond.value, key _ h]
  · simp [Cond.before, Cond.holds, Cond.value, key _ h]
def gt_U1 : Cond := Cond.isRef (.static "java/lang/Throwable" "UNASSIGNED_STACK" "[Ljava/lang/StackTraceElement;")
def gt_U2 : Cond := Cond.isRef (.static "java/lang/Throwable" "SUPPRESSED_SENTINEL" "Ljava/util/List;")
def gt_L1 : Cond := Cond.laysStatic "java/lang/Throwable" "UNASSIGNED_STACK" "[Ljava/lang/StackTraceElement;"
def gt_L2 : Cond := Cond.laysStatic "java/lang/Throwable" "SUPPRESSED_SENTINEL" "Ljava/util/List;"
/-- the words of 'new X(text)' and its throw -/
def gt_W (own : String) (ci ic kd : Nat) : Prop := (∀ a ∈ Bundle.ownAtoms own ic (gt_N kd) ["java/lang/RuntimeException", "java/lang/Exception"], a ∈ gw_T ∨ a ∈ gk_Tw ∨ a = gt_U1 ∨ a = gt_U2 ∨ a = gt_L1 ∨ a = gt_L2) ∧ Cond.classLink own ci (gt_N kd) ∈ gw_T ∧ Cond.instantiable (gt_N kd) 6 ∈ gw_T ∧ Cond.initialized (gt_N kd) ∈ gw_T ∧ Bundle.fit (gt_N kd) = true
theorem lt_1 : gt_W "PinSwaps" 48 52 1 := ⟨by decide +kernel, by decide +kernel, by decide +kernel, by decide +kernel, by decide +kernel⟩
theorem lt_2 : gt_W "PinSwaps" 63 67 2 := ⟨by decide +kernel, by decide +kernel, by decide +kernel, by decide +kernel, by decide +kernel⟩
section GTX
variable {N w nL : Nat} {cc : ByteArray} {R : Room} {x : gx_X} {k n : Nat} {cf : Nat → gc_T} {pc : Nat} {lv : List (Nat × gv_V)} {st stk : List gv_V} {y : MethodName} {b : ByteArray} {mL : Nat} {ret : Option FieldType} {rm : Room} {as : List gv_V} {kd : Nat}
theorem gx_throw (hC : gw_C N w "PinSwaps" cc nL x) (hT : gt_X R kd x) {ci i ic : Nat} {tx : String} (hd0 : decode cc pc = .ok (.new ci, 3)) (hd1 : decode cc (pc + 3) = .ok (.dup, 1)) (hd2 : decode cc (pc + 4) = .ok (.ldc i, 2)) (hd3 : decode cc (pc + 6) = .ok (.invokespecial ic, 3)) (hd4 : decode cc (pc + 9) = .ok (.athrow, 1))
    (hw : gt_W "PinSwaps" ci ic kd) (hs : (i, tx) ∈ gk_strs) (hk : k + 1 ≤ R.cells) (hn : n + 6 ≤ R.slots) (hf : 5 < R.frames) (hlo : 1 + gv_w st + 81 ≤ R.locals) : gw_G N nL R x k n cf pc lv st := by
  obtain ⟨p, l, e, s, m, args, below, meth, c, Q, D, A, ad, ck⟩ := x
  obtain ⟨hx, hb, hml, hown, hts, hnw, hK, hA, hij, hAd, hlk, hAg, hE⟩ := hC
  obtain ⟨t1, t2, t3, t4, t5⟩ := hT
  obtain ⟨w1, w2, w3, w4, w5⟩ := hw
  obtain ⟨-, -, hE⟩ := hE
  intro H locs ls hP hS hl
  obtain ⟨a0, hR0⟩ := hE.2.1 _ hs
  obtain ⟨cC, kC0, hfc, hkC0, -⟩ := Cond.instantiable_spec (hts _ w3)
  refine va_forget (fun q hq => t4 _ (hS.2.2 q hq)) ?_
  refine W.newcK hx hb hown (hts _ w2) (hts _ w3) (hts _ w4) rfl hd0 hk hn hfc rfl ?_
  intro H' kC hkC hnew hz hkeep
  refine lv_dup hx hb hd1 rfl ?_
  refine va_ldcS hx hb hown hR0 hd2 ?_
  intro T hTh X
  have hwords : ∀ a ∈ Bundle.ownAtoms "PinSwaps" ic (gt_N kd) ["java/lang/RuntimeException", "java/lang/Exception"], a.before args s = true := by
    intro a ha
    rcases w1 a ha with h | h | h | h | h | h
    · exact hts _ h
    · have h9 := Cond.tabsOnly_warm (args' := args) (T := s) (State.WarmedH.refl s) a (List.mem_filter.mp h).2 (hE.1.1 a h)
      rwa [State.setVm_self] at h9
    · rw [h]; exact gk_isRef hE.2.2.1
    · rw [h]; exact gk_isRef hE.2.2.2.1
    · rw [h]; exact hE.1.2.1
    · rw [h]; exact hE.1.2.2
  obtain ⟨U, hst, hrun, hend, hW, hsame, ce, hce, hoc⟩ := X.ctorThrowS hx t1 hown w5 (by decide +kernel) hwords (fun q hq => by cases hq) hfc hkC (by rw [hTh]; exact hnew) hS.1 (msg := .ref a0) rfl (g := F0 m (pc + 3 + 1 + 2) ls (.ref a0 :: .ref H.size :: .ref H.size :: st.map (gv_v ad))) rfl (hl.1.trans hml.symm) rfl rfl rfl (by rw [hb]; exact hd3) (by rw [hb]; exact hd4) (fun z hz => t2 z hz _) (by simpa using hf) (by
      have h0 : ((st.map (gv_v ad)).map fun v => v.category).sum = gv_w st := gv_w_sum ad st
      have h1 : ((Value.ref H.size :: st.map (gv_v ad)).map fun v => v.category).sum = 1 + gv_w st := by rw [List.map_cons, List.sum_cons, h0]; rfl
      have h2 : (F0 m (pc + 3 + 1 + 2) ls (.ref a0 :: .ref H.size :: .ref H.size :: st.map (gv_v ad))).monitorRoom = 0 := rfl
      rw [h1, h2]
      simp only [List.length_cons, List.length_nil]
      omega) t3
  refine ⟨U, hst, ?_⟩
  exact t5 U H.size ce hrun hend hW (hsame.weaken (fun q hq _ => hq) hk hn) hce hoc.vm hoc.cls hS.1
end GTX
