/-! CALLS OF METHODS THAT THROW: not caught, caught -/
section GTY
variable {N w nL : Nat} {own : String} {cc : ByteArray} {R : Room} {x : gx_X} {k n : Nat} {cf : Nat → gc_T} {pc : Nat} {lv : List (Nat × gv_V)} {st stk : List gv_V} {y : MethodName} {b : ByteArray} {mL : Nat} {ret : Option FieldType} {rm : Room} {as : List gv_V} {kd : Nat}
/-- the machine comes to the note of the throw, over the caller's frame -/
def gt_Z (p : Program) (l : Launch) (e : Env) (R : Room) (s : State) (m : MethodId) (args : Array Value) (below : List Frame) (meth : Method) (c : Code) (H : Heap) (locs : List Loc) (k n mc ms kd : Nat) (g : JFrame) (rest : List Value) : Prop :=
  ∀ T : State, T.heap = H → Stand p l e R s m args below meth c T locs k n → ∃ (q : Nat) (T' : State) (ce : Cell), Stand p l e R s m args below meth c T' locs (k + mc) (n + ms) ∧ H.size ≤ q ∧ T'.heap[q]? = some ce ∧ ce.vm = .none ∧ s.vm.findClass (gt_N kd) = some ce.cls ∧ (∀ j : Nat, j < H.size → T'.heap[j]? = H[j]?) ∧ H.size ≤ T'.heap.size ∧ Steps p.tables e below (T.setTop g) ((T'.setTop { g with stack := rest }).pushFrame (.throwing q))
theorem gt_runV {p : Program} {l : Launch} {e : Env} {s : State} {m : MethodId} {args : Array Value} {below : List Frame} {meth : Method} {c : Code} {H : Heap} {locs : List Loc} {Pc : Array Value → State → Prop} {i na o : Nat} {As rest : List Value} {g : JFrame}
    (S : CallFix p m c cc nL s args gw_T own) (hM : MetFree l y (headSpec (Cond.code y b mL ret :: gw_T) rm) Pc (fun _ _ _ _ _ => True) (gt_Q kd rm.cells rm.slots)) (hl0 : Cond.methodLink own i y ∈ gw_T) (hV : gw_V own i y b mL ret na) (hR : rm.frames + 1 ≤ R.frames ∧ 8 + (mL + 11) + rm.locals ≤ R.locals) (hp : PreV s H y.cls o Pc As)
    (hg : g.method = m) (hn : As.length = na) (hsize : g.locals.size = nL) (hstack : g.stack = As.reverse ++ .ref o :: rest) (hW : 2 * g.monitorRoom + (rest.map fun v => v.category).sum ≤ 8) (hdg : decode cc g.pc = .ok (.invokevirtual i, 3)) (hf : k + rm.cells ≤ R.cells ∧ n + rm.slots ≤ R.slots) :
    gt_Z p l e R s m args below meth c H locs k n rm.cells rm.slots kd g rest := by
  obtain ⟨hx, hb, hml, hown, hts⟩ := S
  obtain ⟨-, hi, hs, hin, hcd, hne, hpar⟩ := hV
  obtain ⟨hbl, ⟨cellB, hcB, hoB, hclB⟩, hPc⟩ := hp
  intro T hTh X
  have hK' := gt_back (R := R) (p := p) (e := e) (below := below) (s := s) (sargs := args) hM hbl hR (pay_in hts (gw_good hcd)) (fun a' U hW => word_at hW (good_of_word (List.mem_filter.mp hin).2) (hts _ hin))
  obtain ⟨q, vm₁, ⟨U', l2, c2, s2⟩, hW₁, X', ⟨e1, e2, e3, ce, g1, g2, g3, g4, g5, g6⟩, hst⟩ := gt_callV X hx hown (hts _ hl0) (hts _ hi) (hts _ hs) (hts _ hcd) hne hK' (by rw [hTh]; exact hcB) hoB hclB hg (hsize.trans hml.symm) (argsL := As) (rest := rest) (fun sig h => by rw [h] at hpar; exact hn.trans (Option.some.inj hpar).symm) hstack hW (by rw [hb]; exact hdg)
    (fun vm₁ hW₁ => ⟨hf.1, hf.2, hPc (T.setVm vm₁) hTh hW₁⟩)
  dsimp only [Pt.U, Pt.locs, Pt.cells, Pt.slots] at X' e1 e2 e3 g1 g2 g4 g5 g6 hst
  subst e1; subst e2; subst e3
  have hsz : (T.setVm vm₁).heap = H := hTh
  rw [hsz] at g1 g5 g6
  refine ⟨q, U', ce, X', g1, g2, g3, ?_, g5, g6, hst⟩
  rw [← hW₁.alike.findClass]
  exact g4
theorem gt_runS {p : Program} {l : Launch} {e : Env} {s : State} {m : MethodId} {args : Array Value} {below : List Frame} {meth : Method} {c : Code} {H : Heap} {locs : List Loc} {Pc : Array Value → State → Prop} {i na : Nat} {As rest : List Value} {g : JFrame}
    (S : CallFix p m c cc nL s args gw_T own) (hM : MetFree l y (headSpec (Cond.code y b mL ret :: gw_T) rm) Pc (fun _ _ _ _ _ => True) (gt_Q kd rm.cells rm.slots)) (hl0 : Cond.methodLink own i y ∈ gw_T) (hV : gw_S own i y b mL ret na) (hR : rm.frames + 1 ≤ R.frames ∧ 8 + (mL + 11) + rm.locals ≤ R.locals) (hp : PreS s H Pc As)
    (hg : g.method = m) (hn : As.length = na) (hsize : g.locals.size = nL) (hstack : g.stack = As.reverse ++ rest) (hW : 2 * g.monitorRoom + (rest.map fun v => v.category).sum ≤ 8) (hdg : decode cc g.pc = .ok (.invokestatic i, 3)) (hf : k + rm.cells ≤ R.cells ∧ n + rm.slots ≤ R.slots) :
    gt_Z p l e R s m args below meth c H locs k n rm.cells rm.slots kd g rest := by
  obtain ⟨hx, hb, hml, hown, hts⟩ := S
  obtain ⟨-, hi, hin, hcd, hne, hpar⟩ := hV
  obtain ⟨hbl, hPc⟩ := hp
  intro T hTh X
  have hK' := gt_back (R := R) (p := p) (e := e) (below := below) (s := s) (sargs := args) hM hbl hR (pay_in hts (gw_good hcd)) (fun a' U hW => word_at hW (good_of_word (List.mem_filter.mp hin).2) (hts _ hin))
  obtain ⟨q, vm₁, ⟨U', l2, c2, s2⟩, hW₁, X', ⟨e1, e2, e3, ce, g1, g2, g3, g4, g5, g6⟩, hst⟩ := gt_callS X hx hown (hts _ hl0) (hts _ hi) (hts _ hin) (hts _ hcd) hne hK' hg (hsize.trans hml.symm) (argsL := As) (rest := rest) (fun sig h => by rw [h] at hpar; exact hn.trans (Option.some.inj hpar).symm) hstack hW (by rw [hb]; exact hdg)
    (fun vm₁ hW₁ => ⟨hf.1, hf.2, hPc (T.setVm vm₁) hTh hW₁⟩)
  dsimp only [Pt.U, Pt.locs, Pt.cells, Pt.slots] at X' e1 e2 e3 g1 g2 g4 g5 g6 hst
  subst e1; subst e2; subst e3
  have hsz : (T.setVm vm₁).heap = H := hTh
  rw [hsz] at g1 g5 g6
  refine ⟨q, U', ce, X', g1, g2, g3, ?_, g5, g6, hst⟩
  rw [← hW₁.alike.findClass]
  exact g4
theorem gx_tV (hC : gw_C N w own cc nL x) (hT : gt_X R kd x) {i na o ci : Nat} {fs : List gv_V} (hd : decode cc pc = .ok (.invokevirtual i, 3)) (hl0 : Cond.methodLink own i y ∈ gw_T) (hV : gw_V own i y b mL ret na) (hM : gm_X N (gx_l x) (gx_D x) (gx_ad x) (gx_ck x) y b mL ret rm (gv_R o :: as) cf kd) (hn : as.length = na) (hR : rm.frames + 1 ≤ R.frames ∧ 8 + (mL + 11) + rm.locals ≤ R.locals) (hf : k + rm.cells ≤ R.cells ∧ n + rm.slots ≤ R.slots) (ho : o < N) (hci : ∃ (T : u_T) (M : Nat), vwCl[ci]? = some (y.cls, T, M)) (hc : cf o = gc_O ci fs) (hst : stk = as.reverse ++ gv_R o :: st) (hcat : gv_w st ≤ 8) : gw_G N nL R x k n cf pc lv stk := by
  obtain ⟨p, l, e, s, m, args, below, meth, c, Q, D, A, ad, ck⟩ := x
  obtain ⟨hx, hb, hml, hown, hts, hnw, hK, hA, hij, hAd, hlk, hAg, hE⟩ := hC
  obtain ⟨t1, t2, t3, t4, t5⟩ := hT
  subst hst
  intro H locs ls hP hS hl
  obtain ⟨T0, M0, hci⟩ := hci
  refine va_forget (fun q hq => t4 _ (hS.2.2 q hq)) ?_
  intro T hTh X
  obtain ⟨q, T', ce, X', g1, g2, g3, g4, g5, g6, hst⟩ := gt_runV (As := as.map (gv_v ad)) (rest := st.map (gv_v ad)) (o := ad o) ⟨hx, hb, hml, hown, hts⟩ (hM H.size) hl0 hV hR ⟨gm_blind, va_recv hK hP hci (gw_atE ho hc), fun U hU hW => ⟨rfl, by rw [hU], by rw [hU]; exact hP, va_K.moved hW.alike hK, gw_warm hW hnw, hij, hE.go hU hW hAg hS⟩⟩ (g := F0 m pc ls ((as.reverse ++ gv_R o :: st).map (gv_v ad))) rfl (by simpa using hn) hl.1 (by simp [gv_v]) (lv_room (by rw [gv_w_sum]; exact hcat)) hd hf T hTh X
  obtain ⟨st2, hrun, hend, hWU, hsame⟩ := X'.leaveThrown q (g := { F0 m pc ls ((as.reverse ++ gv_R o :: st).map (gv_v ad)) with stack := st.map (gv_v ad) }) rfl rfl rfl (fun z hz => t2 z hz _) t3
  exact ⟨_, hst.trans st2, t5 _ q ce hrun hend hWU (hsame.weaken (fun q hq _ => hq) hf.1 hf.2) g2 g3 g4 (Nat.le_trans hS.1 g1)⟩
theorem gx_tS (hC : gw_C N w own cc nL x) (hT : gt_X R kd x) {i na : Nat} (hd : decode cc pc = .ok (.invokestatic i, 3)) (hl0 : Cond.methodLink own i y ∈ gw_T) (hV : gw_S own i y b mL ret na) (hM : gm_X N (gx_l x) (gx_D x) (gx_ad x) (gx_ck x) y b mL ret rm as cf kd) (hn : as.length = na) (hR : rm.frames + 1 ≤ R.frames ∧ 8 + (mL + 11) + rm.locals ≤ R.locals) (hf : k + rm.cells ≤ R.cells ∧ n + rm.slots ≤ R.slots) (hst : stk = as.reverse ++ st) (hcat : gv_w st ≤ 8) : gw_G N nL R x k n cf pc lv stk := by
  obtain ⟨p, l, e, s, m, args, below, meth, c, Q, D, A, ad, ck⟩ := x
  obtain ⟨hx, hb, hml, hown, hts, hnw, hK, hA, hij, hAd, hlk, hAg, hE⟩ := hC
  obtain ⟨t1, t2, t3, t4, t5⟩ := hT
  subst hst
  intro H locs ls hP hS hl
  refine va_forget (fun q hq => t4 _ (hS.2.2 q hq)) ?_
  intro T hTh X
  obtain ⟨q, T', ce, X', g1, g2, g3, g4, g5, g6, hst⟩ := gt_runS (As := as.map (gv_v ad)) (rest := st.map (gv_v ad)) ⟨hx, hb, hml, hown, hts⟩ (hM H.size) hl0 hV hR ⟨gm_blind, fun U hU hW => ⟨rfl, by rw [hU], by rw [hU]; exact hP, va_K.moved hW.alike hK, gw_warm hW hnw, hij, hE.go hU hW hAg hS⟩⟩ (g := F0 m pc ls ((as.reverse ++ st).map (gv_v ad))) rfl (by simpa using hn) hl.1 (by simp) (lv_room (by rw [gv_w_sum]; exact hcat)) hd hf T hTh X
  obtain ⟨st2, hrun, hend, hWU, hsame⟩ := X'.leaveThrown q (g := { F0 m pc ls ((as.reverse ++ st).map (gv_v ad)) with stack := st.map (gv_v ad) }) rfl rfl rfl (fun z hz => t2 z hz _) t3
  exact ⟨_, hst.trans st2, t5 _ q ce hrun hend hWU (hsame.weaken (fun q hq _ => hq) hf.1 hf.2) g2 g3 g4 (Nat.le_trans hS.1 g1)⟩
/-- the handlers of a method -/
def gh_e (h : Nat × Nat × Nat × Nat) : ExceptionTableEntry := ⟨h.1, h.2.1, h.2.2.1, h.2.2.2⟩
def gh_T (hs : List (Nat × Nat × Nat × Nat)) : gx_X → Prop
  | (_, _, _, _, _, _, _, _, c, _, _, _, _, _) => c.exceptionTable.toList = hs.map gh_e
theorem gh_of {l : List ExceptionTableEntry} {hs : List (Nat × Nat × Nat × Nat)} (h : l.map (fun h => (h.startPc, h.endPc, h.handlerPc, h.catchType)) = hs) : l = hs.map gh_e := by
  rw [← h, List.map_map]
  have : (gh_e ∘ fun h : ExceptionTableEntry => (h.startPc, h.endPc, h.handlerPc, h.catchType)) = id := by
    funext z
    rfl
  rw [this, List.map_id]
/-- the handler h catches what is thrown by kind: those before it don't -/
def gh_C (own : String) (kd : Nat) (pre : List (Nat × Nat × Nat × Nat)) (h : Nat × Nat × Nat × Nat) (pc : Nat) : Prop :=
  covers (gh_e h) pc = true ∧ h.2.2.2 ≠ 0 ∧ Cond.classLink own h.2.2.2 (gt_N kd) ∈ gw_T ∧ Cond.castable (gt_N kd) (gt_N kd) ∈ gk_Tw ∧
  (∀ g ∈ pre, kd = 2 ∧ g.2.2.2 ≠ 0 ∧ Cond.classLink own g.2.2.2 (gt_N 1) ∈ gw_T)
theorem gx_cV (hC : gw_C N w own cc nL x) {pre rst : List (Nat × Nat × Nat × Nat)} {hh : Nat × Nat × Nat × Nat} (hH : gh_T (pre ++ hh :: rst) x) (hG : gh_C own kd pre hh pc) {i na o ci j len : Nat} {fs : List gv_V} (hd : decode cc pc = .ok (.invokevirtual i, 3)) (hda : (∃ j4 : Fin 4, j4.val = j ∧ decode cc hh.2.2.1 = .ok (.astore_n j4, 1) ∧ len = 1) ∨ (decode cc hh.2.2.1 = .ok (.astore j, 2) ∧ len = 2)) (hj : j < nL) (hl0 : Cond.methodLink own i y ∈ gw_T) (hV : gw_V own i y b mL ret na) (hM : gm_X N (gx_l x) (gx_D x) (gx_ad x) (gx_ck x) y b mL ret rm (gv_R o :: as) cf kd) (hn : as.length = na) (hR : rm.frames + 1 ≤ R.frames ∧ 8 + (mL + 11) + rm.locals ≤ R.locals) (hf : k + rm.cells ≤ R.cells ∧ n + rm.slots ≤ R.slots) (ho : o < N) (hci : ∃ (T : u_T) (M : Nat), vwCl[ci]? = some (y.cls, T, M)) (hc : cf o = gc_O ci fs) (hst : stk = as.reverse ++ gv_R o :: st) (hcat : gv_w st ≤ 8)
    (kk : gw_G N nL R x (k + rm.cells) (n + rm.slots) cf (hh.2.2.1 + len) [] []) : gw_G N nL R x k n cf pc lv stk := by
  obtain ⟨p, l, e, s, m, args, below, meth, c, Q, D, A, ad, ck⟩ := x
  obtain ⟨hx, hb, hml, hown, hts, hnw, hK, hA, hij, hAd, hlk, hAg, hE⟩ := hC
  subst hst
  intro H locs ls hP hS hl
  obtain ⟨T0, M0, hci⟩ := hci
  intro T hTh X
  obtain ⟨q, T', ce, X', g1, g2, g3, g4, g5, g6, hst⟩ := gt_runV (As := as.map (gv_v ad)) (rest := st.map (gv_v ad)) (o := ad o) ⟨hx, hb, hml, hown, hts⟩ (hM H.size) hl0 hV hR ⟨gm_blind, va_recv hK hP hci (gw_atE ho hc), fun U hU hW => ⟨rfl, by rw [hU], by rw [hU]; exact hP, va_K.moved hW.alike hK, gw_warm hW hnw, hij, hE.go hU hW hAg hS⟩⟩ (g := F0 m pc ls ((as.reverse ++ gv_R o :: st).map (gv_v ad))) rfl (by simpa using hn) hl.1 (by simp [gv_v]) (lv_room (by rw [gv_w_sum]; exact hcat)) hd hf T hTh X
  obtain ⟨c1, c2, c3, c4, c5⟩ := hG
  have hpl : e.platform.magicAccessors = ({} : Platform).magicAccessors := by rw [X.admits.platform]
  have hcast : (Cond.castable (gt_N kd) (gt_N kd)).before args s = true := by
    have h9 := Cond.tabsOnly_warm (args' := args) (T := s) (State.WarmedH.refl s) _ (List.mem_filter.mp c4).2 (hE.2.2.1.1 _ c4)
    rwa [State.setVm_self] at h9
  obtain ⟨d3, d4, hd3, hd4, hasg⟩ := Cond.castable_spec hcast
  cases hd3.symm.trans g4
  cases hd4.symm.trans g4
  obtain ⟨hend, hk0⟩ := X'.catches_of_link (x := gh_e hh) hown c2 (hts _ c3) g4 hasg
  have hpass : ∀ z ∈ pre.map gh_e, RowPassed e.platform s m.cls pc ce.cls z := by
    intro z hz
    obtain ⟨g, hg, rfl⟩ := List.mem_map.mp hz
    obtain ⟨e1, e2, e3⟩ := c5 g hg
    subst e1
    obtain ⟨c', hc', hcl⟩ := Cond.classLink_spec hown (hts _ e3) e.platform hpl
    exact Or.inr ⟨e2, c', hcl, hE.2.2.2.2.2.2.2.2.2.2 _ _ g4 hc'⟩
  obtain ⟨vm', XV, stV⟩ := X'.thenCaughtThrough q (g := { F0 m pc ls ((as.reverse ++ gv_R o :: st).map (gv_v ad)) with stack := st.map (gv_v ad) }) rfl hst g2 (by rw [g3]; rfl) hk0 (pre.map gh_e) (gh_e hh) (rst.map gh_e) (by rw [show c.exceptionTable.toList = (pre ++ hh :: rst).map gh_e from hH, List.map_append, List.map_cons]) hpass c1 hend
  have hP' : va_P D vwCl (gw_L N ad ck cf) T'.heap := hP.kept (fun k' q' hq => g5 _ (hP k' q' hq).lt)
  have hS' : va_S A s.heap T'.heap locs := ⟨Nat.le_trans hS.1 g6, fun a h1 h2 => by rw [g5 a (Nat.lt_of_lt_of_le h1 hS.1)]; exact hS.2.1 a h1 h2, hS.2.2⟩
  have Wh : W p l e R s m args below meth c T'.heap locs (k + rm.cells) (n + rm.slots) Q (F0 m hh.2.2.1 ls [.ref q]) := by
    rcases hda with ⟨j4, hj4, hda, rfl⟩ | ⟨hda, rfl⟩
    · exact lv_astore_n hx hb hda hj4 hl hj rfl (fun ls' h' => kk T'.heap locs ls' hP' hS' ⟨h'.1, h'.2.1, fun z hz => by cases hz⟩)
    · exact lv_astore hx hb hda hl hj rfl (fun ls' h' => kk T'.heap locs ls' hP' hS' ⟨h'.1, h'.2.1, fun z hz => by cases hz⟩)
  obtain ⟨t, a1, b1⟩ := Wh (T'.setVm vm') rfl XV
  exact ⟨t, stV.trans a1, b1⟩
end GTY
/-! A METHOD WITH HANDLERS, static, an int for its answer: its contract, the call -/
def gm_W (N w : Nat) (l : Launch) (D : va_G) (ad : Nat → Nat) (ck : Nat → ClassId) (y : MethodName) (b : ByteArray) (nL : Nat) (hs : List (Nat × Nat × Nat × Nat)) (rm : Room) (as : List gv_V) (cf : Nat → gc_T) (post : Int32 → (Nat → gc_T) → Prop) : Prop :=
  ∀ sz, MetFree l y (headSpec (Cond.codeWith y b nL (some .int) hs :: gw_T) rm) (gm_P N D ad ck as cf sz) (fun _ _ _ _ _ => True) (fun a st o t => va_Qi (fun (r : Int32) (c2 : Nat → gc_T) => post r c2) (fun c2 t => va_P D vwCl (gw_L N ad ck c2) t.heap) (gm_A w ad sz) a st o t ∧ ∃ L, FrameEnd st o t L rm.cells rm.slots ∧ ∀ q ∈ L, gm_A w ad sz q.base)
theorem gm_W.of {N w : Nat} {l : Launch} {D : va_G} {ad : Nat → Nat} {ck : Nat → ClassId} {y : MethodName} {b : ByteArray} {nL : Nat} {hs : List (Nat × Nat × Nat × Nat)} {rm : Room} {as : List gv_V} {cf : Nat → gc_T} {post : Int32 → (Nat → gc_T) → Prop} (hy : plainName y.cls = true) (hw : gv_w as ≤ nL)
    (h : ∀ x : gx_X, gx_l x = l → gx_D x = D → gx_ad x = ad → gx_ck x = ck → gw_C N w y.cls b nL x → gh_T hs x → gr_I N b nL .int rm x post → gw_G N nL rm x 0 0 cf 0 (gv_args 0 as) []) (hw81 : w ≤ 81 := by decide) : gm_W N w l D ad ck y b nL hs rm as cf post := by
  intro sz
  refine MetFree.of_bodyS (code := b) (maxLocals := nL) (ret := some .int) hy ?_ ?_
  · intro args s m h hn
    obtain ⟨m', meth, c, hn', h1, h2, h3, h4, -, h5, h6, -⟩ := Cond.codeWith_spec (atoms_spec (ws := Cond.codeWith y b nL (some .int) hs :: gw_T) h _ List.mem_cons_self)
    cases hn.symm.trans hn'
    exact ⟨meth, c, h1, h2, h3, h4, h5, h6⟩
  · intro p e s m args below meth c s₁ B hml hv _
    have hts := atoms_spec (ws := Cond.codeWith y b nL (some .int) hs :: gw_T) B.pre
    obtain ⟨rfl, hsz, hP, hK, hnw, hij, hE⟩ := hv
    have hh0 : s₁.heap = s.heap := by rw [B.state]; rfl
    have X := Stand.of_body B
    have hown : s.vm.findClass y.cls = some m.cls := findClass_of_methodNamed B.named
    have hl := lv_entry (as.map (gv_v ad)) (n := nL) (by rw [gv_w_len]; exact hw)
    rw [gv_args_eq] at hl
    have hex : c.exceptionTable.toList = hs.map gh_e := by
      obtain ⟨m', meth', c', hn', h1, h2, -, -, h5, -, -, -⟩ := Cond.codeWith_spec (hts _ List.mem_cons_self)
      cases hn'.symm.trans B.named
      cases h1.symm.trans B.method
      cases h2.symm.trans X.code
      exact gh_of h5
    obtain ⟨t, a1, o, b1, b2, b3⟩ := h (p, l, e, s, m, (as.map (gv_v ad)).toArray, below, meth, c, MQ below (va_Qi (fun (r : Int32) (c2 : Nat → gc_T) => post r c2) (fun c2 t => va_P D vwCl (gw_L N ad ck c2) t.heap) (gm_A w ad sz)) (as.map (gv_v ad)).toArray s rm.cells rm.slots (gm_A w ad sz), D, gm_A w ad sz, ad, ck) rfl rfl rfl rfl
      ⟨B.exec, B.bytes, hml, hown, fun w hw => hts w (List.mem_cons_of_mem _ hw), hnw, hK, fun q hq => Or.inr (by rw [← hsz]; exact hq), hij, fun i hi => Or.inl ⟨i, hi, rfl⟩, B.notSynchronized, gm_Age hw81 hE hsz, hE⟩
      hex (by
        intro z c2 k n pc lv hk hn hd hnar hpost
        intro H1 locs1 ls1 hP1 hS1 hl1
        refine W.widen (k := rm.cells) (n := rm.slots) hk hn ?_
        exact W.zret B.exec B.bytes B.returns hnar (fun t ht hW => ⟨⟨z, c2, rfl, hpost, by show va_P D vwCl (gw_L N ad ck c2) t.heap; rw [ht]; exact hP1⟩, hS1.F ht⟩) hS1.2.2 hd B.notSynchronized)
      s.heap [] _ hP va_S.rf hl s₁ hh0 X
    refine ⟨t, o, ?_, b1, b2, b3⟩
    rw [lg_entry_eq]
    exact a1
section GWS
variable {N w w2 nL : Nat} {own : String} {cc : ByteArray} {R : Room} {x : gx_X} {k n : Nat} {cf : Nat → gc_T} {pc : Nat} {lv : List (Nat × gv_V)} {st stk : List gv_V} {y : MethodName} {b : ByteArray} {mL : Nat} {hs : List (Nat × Nat × Nat × Nat)} {rm : Room} {as : List gv_V}
def gw_Y (own : String) (i : Nat) (y : MethodName) (b : ByteArray) (mL : Nat) (hs : List (Nat × Nat × Nat × Nat)) (na : Nat) : Prop := Cond.methodLink own i y ∈ gw_T ∧ Cond.static y ∈ gw_T ∧ Cond.initialized y.cls ∈ gw_T ∧ Cond.codeWith y b mL (some .int) hs ∈ gw_T ∧ (y.cls ≠ "java/lang/invoke/MethodHandle" ∧ y.cls ≠ "java/lang/invoke/VarHandle") ∧ (parseMethodDescriptor y.desc).map (fun d => d.parameters.length) = some na
theorem gx_sW (hC : gw_C N w own cc nL x) {i na : Nat} {post : Int32 → (Nat → gc_T) → Prop} (hd : decode cc pc = .ok (.invokestatic i, 3)) (hV : gw_Y own i y b mL hs na) (hM : gm_W N w2 (gx_l x) (gx_D x) (gx_ad x) (gx_ck x) y b mL hs rm as cf post) (hn : as.length = na) (hw2 : w2 ≤ w) (hR : rm.frames + 1 ≤ R.frames ∧ 8 + (mL + 11) + rm.locals ≤ R.locals) (hf : k + rm.cells ≤ R.cells ∧ n + rm.slots ≤ R.slots) (hst : stk = as.reverse ++ st) (hcat : gv_w st ≤ 8)
    (kk : ∀ (z : Int32) (c2 : Nat → gc_T), post z c2 → gw_G N nL R x (k + rm.cells) (n + rm.slots) c2 (pc + 3) lv (gv_I z :: st)) : gw_G N nL R x k n cf pc lv stk := by
  obtain ⟨p, l, e, s, m, args, below, meth, c, Q, D, A, ad, ck⟩ := x
  obtain ⟨hx, hb, hml, hown, hts, hnw, hK, hA, hij, hAd, hlk, hAg, hE⟩ := hC
  obtain ⟨y1, y2, y3, y4, y5, y6⟩ := hV
  subst hst
  intro H locs ls hP hS hl
  have hFc := gm_free (N := w2) hAd hw2 hA hS
  have hgood : GoodIn gw_T (Cond.codeWith y b mL (some .int) hs :: gw_T) := by
    intro w hw
    rcases List.mem_cons.mp hw with rfl | hw
    · exact ⟨y4, Or.inl rfl⟩
    · exact ⟨hw, good_of_word (List.mem_filter.mp hw).2⟩
  have hws := pay_in hts hgood
  have hK' : Back l R p e below s args y 3 8 (PreOf R rm.cells rm.slots (gm_P N D ad ck as cf H.size)) (PostOf (va_Qi (fun (r : Int32) (c2 : Nat → gc_T) => post r c2) (fun c2 t => va_P D vwCl (gw_L N ad ck c2) t.heap) (gm_A w2 ad H.size)) rm.cells rm.slots (gm_A w2 ad H.size)) := by
    refine Back.of_freeWith (handlers := hs) (S := headSpec (Cond.codeWith y b mL (some .int) hs :: gw_T) rm) (P := gm_P N D ad ck as cf H.size) (bytes := b) (maxL := mL) (ret := some .int) (E := fun a st o t L k n => k = rm.cells ∧ n = rm.slots ∧ ∀ q ∈ L, gm_A w2 ad H.size q.base) (hM H.size) hR.1 hR.2 ?_ ?_ (fun _ _ _ _ _ _ _ _ _ => trivial) ?_ ?_
    · intro m meth c A a X hp
      exact ⟨atoms_intro fun w hw => hws w hw _ _ X.warmed, hws _ List.mem_cons_self _ _ X.warmed, word_at X.warmed (good_of_word (List.mem_filter.mp y3).2) (hts _ y3), hp.1, hp.2.1⟩
    · intro m meth c A a g mk X hp
      exact gm_blind _ _ _ _ hp.2.2
    · intro a st o t ⟨hq, L, hF, hL⟩
      exact ⟨L, rm.cells, rm.slots, hF, rfl, rfl, hL⟩
    · intro m meth c A a g mk v t L k n X hp hq hF ⟨e1, e2, hL⟩
      subst e1; subst e2
      exact ⟨g, mk, t, L, rfl, rfl, hq.1, rfl, hL, rfl, rfl⟩
  have hrun : va_Run p l e R s m args below meth c H locs k n rm.cells rm.slots (F0 m pc ls ((as.reverse ++ st).map (gv_v ad))) (st.map (gv_v ad)) (va_Qi (fun (r : Int32) (c2 : Nat → gc_T) => post r c2) (fun c2 t => va_P D vwCl (gw_L N ad ck c2) t.heap) (gm_A w2 ad H.size) (as.map (gv_v ad)).toArray) (gm_A w2 ad H.size) := by
    intro T hT X
    obtain ⟨mk, methM, cM, hnamed, hmethM, -, -, -, -, -, -, hsigM⟩ := Cond.codeWith_spec (hts _ y4)
    have hstatic : methM.isStatic = true := Cond.static_spec hnamed hmethM (hts _ y2)
    obtain ⟨kP, hkP, -⟩ := className_of_methodNamed hnamed
    have hinitP : kP.init = .initialized := Cond.initialized_spec (findClass_of_methodNamed hnamed) hkP (hts _ y3)
    obtain ⟨vm₁, X₁, hstep₁⟩ := X.invokestatic hx hown (hts _ y1) hnamed hmethM hstatic hkP hinitP y5 (g := F0 m pc ls ((as.reverse ++ st).map (gv_v ad))) rfl (argsL := as.map (gv_v ad)) (rest := st.map (gv_v ad)) (by rw [hsigM] at y6; simp only [List.length_map]; exact hn.trans (Option.some.inj y6).symm) (by simp) (by rw [hb]; exact hd)
    obtain ⟨v, ⟨U', l2, c2, s2⟩, X', ⟨g', mk', t, L, e1, e2, hq, h1, hL, h2, h3⟩, hsteps⟩ := hK' m meth c ⟨T.setVm vm₁, locs, k, n⟩ { F0 m pc ls ((as.reverse ++ st).map (gv_v ad)) with stack := st.map (gv_v ad) } (.invokestatic i) mk (as.map (gv_v ad)).toArray X₁ rfl (hl.1.trans hml.symm) (by rw [hb]; exact hd) (lv_room (by rw [gv_w_sum]; exact hcat)) (X₁.named hnamed)
      ⟨hf.1, hf.2, rfl, by show T.heap.size = H.size; rw [hT], by show va_P D vwCl (gw_L N ad ck cf) T.heap; rw [hT]; exact hP, va_K.moved X₁.warmed.alike hK, gw_warm X₁.warmed hnw, hij, hE.go hT X₁.warmed hAg hS⟩
    dsimp only [Pt.U, Pt.locs, Pt.cells, Pt.slots] at X' e1 e2 h1 h2 h3 hsteps
    subst h1; subst h2; subst h3
    exact ⟨v, (T.setVm vm₁).calling g' mk' (as.map (gv_v ad)).toArray, t, U', L, hT, X', hL, e1, e2, hq, fun target h => hstep₁ _ fun acts => by rw [doInvoke_state]; exact hsteps.trans h⟩
  exact va_calli hrun hS (fun q _ h => hFc q h) hFc (fun r u t H1 locs1 ht hvm hq hB hz1 hk1 hS1 => kk r u hq H1 locs1 ls (by rw [← ht]; exact hB) hS1 hl)
end GWS
