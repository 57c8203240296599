/-! ROWS FOR: the two static tables, System.arraycopy, an answer that is an array -/
def gz_cpy (f g : Int → Int32) (n : Int) : Int → Int32 := fun z => if 0 ≤ z ∧ z < n then f z else g z
def gw_Cp (own : String) (i : Nat) : Prop := Cond.methodLink own i arraycopyName ∈ gw_T ∧ Cond.native arraycopyName ∈ gw_T ∧ Cond.static arraycopyName ∈ gw_T ∧ Cond.initialized "java/lang/System" ∈ gw_T
theorem lj_copy : gw_Cp "PinSwaps$History" 24 := ⟨gw_in 284 (by decide +kernel) (by decide +kernel), gw_in 286 (by decide +kernel) (by decide +kernel), gw_in 285 (by decide +kernel) (by decide +kernel), gw_in 69 (by decide +kernel) (by decide +kernel)⟩
theorem gz_cpe (f g : Int → Int32) {n : Int32} (h0 : 0 ≤ n.toInt) : va_cpy (fun j : Nat => f (j : Int)) (fun j : Nat => g (j : Int)) (0 : Int32).toNatClampNeg (0 : Int32).toNatClampNeg n.toNatClampNeg = fun j : Nat => gz_cpy f g n.toInt (j : Int) := by
  funext j
  have e0 : (0 : Int32).toNatClampNeg = 0 := rfl
  have e1 : (n.toNatClampNeg : Int) = n.toInt := gz_ix h0
  unfold va_cpy gz_cpy
  rw [e0]
  by_cases h : j < n.toNatClampNeg
  · rw [if_pos (by omega), if_pos (by omega)]
    congr 1
    omega
  · rw [if_neg (by omega), if_neg (by omega)]
section GXM
variable {N w w2 nL : Nat} {own : String} {cc : ByteArray} {R : Room} {x : gx_X} {k n : Nat} {cf : Nat → gc_T} {pc : Nat} {lv : List (Nat × gv_V)} {st stk : List gv_V} {y : MethodName} {b : ByteArray} {mL : Nat} {rt : FieldType} {rm : Room} {as : List gv_V}
theorem gx_copy (hC : gw_C N w own cc nL x) (hw : N ≤ w) {i o1 o2 l1 l2 : Nat} {f g : Int → Int32} {nn : Int32} {cf2 : Nat → gc_T} (hd : decode cc pc = .ok (.invokestatic i, 3)) (hj : gw_Cp own i) (ho1 : o1 < N) (ho2 : o2 < N) (hc1 : cf o1 = gc_I 0 l1 f) (hc2 : cf o2 = gc_I 0 l2 g) (h0 : 0 ≤ nn.toInt ∧ nn.toInt ≤ (l1 : Int) ∧ nn.toInt ≤ (l2 : Int)) (hu : gc_up cf o2 (gc_I 0 l2 (gz_cpy f g nn.toInt)) cf2) (hf : 1 ≤ R.frames) (hlo : gv_w st + (nativeFrameWords "java/lang/System" "arraycopy" 5 + 11) ≤ R.locals)
    (kk : gw_G N nL R x k n cf2 (pc + 3) lv st) : gw_G N nL R x k n cf pc lv (gv_I nn :: gv_I 0 :: gv_R o2 :: gv_I 0 :: gv_R o1 :: st) := by
  obtain ⟨p, l, e, s, m, args, below, meth, c, Q, D, A, ad, ck⟩ := x
  obtain ⟨hx, hb, hml, hown, hts, hnw, hK, hA, hij, hAd, hlk⟩ := hC
  obtain ⟨j1, j2, j3, j4⟩ := hj
  intro H locs ls hP hS hl
  have e1 : (nn.toNatClampNeg : Int) = nn.toInt := gz_ix h0.1
  have e0 : (0 : Int32).toNatClampNeg = 0 := rfl
  refine va_copyi (n0 := l1) (n1 := l2) (f := fun j : Nat => f (j : Int)) (g := fun j : Nat => g (j : Int)) (ty := .int) (sp := 0) (dp := 0) (n := nn) hx hb (hml.trans hl.1.symm) hown (hts _ j1) (hts _ j2) (hts _ j3) (hts _ j4) hK hP (gw_D hij (fun i hi => hAd i (Nat.lt_of_lt_of_le hi hw))) hS o1 o2 0 0 (gw_atE ho1 hc1) (gw_atE ho2 hc2) rfl rfl rfl (by decide) (by decide) ?_ (by rw [e0]; omega) (by rw [e0]; omega) (fun _ _ => rfl) hf (by rw [gv_w_sum]; exact hlo) hd ?_
  · intro z
    have z1 := Int32.lt_iff_toInt_lt.mp z
    have z2 : (0 : Int32).toInt = 0 := rfl
    omega
  · intro H1 locs1 hP1 hD1 hS1
    rw [gz_cpe f g h0.1] at hP1
    have hP2 : va_P D vwCl (gw_L N ad ck cf2) H1 := by
      rw [← gw_set ho2 hu]
      exact hP1
    exact kk H1 locs1 ls hP2 hS1 hl
theorem gx_ord (hC : gw_C N w "PinSwaps$Gates" cc nL x) (hd : decode cc pc = .ok (.getstatic 25, 3)) (kk : gw_G N nL R x k n cf (pc + 3) lv (gv_R 90 :: st)) : gw_G N nL R x k n cf pc lv st := by
  obtain ⟨p, l, e, s, m, args, below, meth, c, Q, D, A, ad, ck⟩ := x
  obtain ⟨hx, hb, hml, hown, hts, hnw, hK, hA, hij, hAd, hlk, hAg, hE⟩ := hC
  intro H locs ls hP hS hl
  refine va_gets hx hb (hE.2.2.2.2.2.2.1.narrow hAg) hS hown (hts _ (gw_in 646 (by decide +kernel) (by decide +kernel))) (fun _ z => z) hd ?_
  have h := kk H locs ls hP hS hl
  rw [List.map_cons, show gv_v ad (gv_R 90) = .ref (ad 90) from rfl, hE.1.2.1] at h
  exact h
theorem gx_cnt (hC : gw_C N w "PinSwaps$Gates" cc nL x) (hd : decode cc pc = .ok (.getstatic 22, 3)) (kk : gw_G N nL R x k n cf (pc + 3) lv (gv_R 91 :: st)) : gw_G N nL R x k n cf pc lv st := by
  obtain ⟨p, l, e, s, m, args, below, meth, c, Q, D, A, ad, ck⟩ := x
  obtain ⟨hx, hb, hml, hown, hts, hnw, hK, hA, hij, hAd, hlk, hAg, hE⟩ := hC
  intro H locs ls hP hS hl
  refine va_gets hx hb (hE.2.2.2.2.2.2.2.2.1.narrow hAg) hS hown (hts _ (gw_in 644 (by decide +kernel) (by decide +kernel))) (fun _ z => z) hd ?_
  have h := kk H locs ls hP hS hl
  rw [List.map_cons, show gv_v ad (gv_R 91) = .ref (ad 91) from rfl, hE.1.2.2] at h
  exact h
theorem gx_t90 (hC : gw_C N w own cc nL x) {z : Int32} (hd : decode cc pc = .ok (.iaload, 1)) (hz : 0 ≤ z.toInt ∧ z.toInt < ((24 : Nat) : Int)) (kk : gw_G N nL R x k n cf (pc + 1) lv (gv_I (gk_ord.getD z.toInt.toNat 0) :: st)) : gw_G N nL R x k n cf pc lv (gv_I z :: gv_R 90 :: st) := by
  obtain ⟨p, l, e, s, m, args, below, meth, c, Q, D, A, ad, ck⟩ := x
  obtain ⟨hx, hb, hml, hown, hts, hnw, hK, hA, hij, hAd, hlk, hAg, hE⟩ := hC
  intro H locs ls hP hS hl
  rw [List.map_cons, List.map_cons, show gv_v ad (gv_R 90) = .ref (ad 90) from rfl, hE.1.2.1]
  exact va_ti hx hb (hE.2.2.2.2.2.2.2.1.narrow hAg) hS (gv_vin hz) rfl hd (kk H locs ls hP hS hl)
theorem gx_t91 (hC : gw_C N w own cc nL x) {z : Int32} (hd : decode cc pc = .ok (.iaload, 1)) (hz : 0 ≤ z.toInt ∧ z.toInt < ((5 : Nat) : Int)) (kk : gw_G N nL R x k n cf (pc + 1) lv (gv_I (gk_cnt.getD z.toInt.toNat 0) :: st)) : gw_G N nL R x k n cf pc lv (gv_I z :: gv_R 91 :: st) := by
  obtain ⟨p, l, e, s, m, args, below, meth, c, Q, D, A, ad, ck⟩ := x
  obtain ⟨hx, hb, hml, hown, hts, hnw, hK, hA, hij, hAd, hlk, hAg, hE⟩ := hC
  intro H locs ls hP hS hl
  rw [List.map_cons, List.map_cons, show gv_v ad (gv_R 91) = .ref (ad 91) from rfl, hE.1.2.2]
  exact va_ti hx hb (hE.2.2.2.2.2.2.2.2.2.1.narrow hAg) hS (gv_vin hz) rfl hd (kk H locs ls hP hS hl)
def gm_R (N w : Nat) (l : Launch) (D : va_G) (ad : Nat → Nat) (ck : Nat → ClassId) (y : MethodName) (b : ByteArray) (nL : Nat) (rm : Room) (as : List gv_V) (cf : Nat → gc_T) (post : Nat → (Nat → gc_T) → Prop) : Prop :=
  ∀ sz, Met l y (Cond.code y b nL (some (.array .int)) :: gw_T) rm (gm_P N D ad ck as cf sz) (va_Qr (fun (u : Nat × (Nat → gc_T)) => post u.1 u.2) (fun u a t => a = ad u.1 ∧ va_P D vwCl (gw_L N ad ck u.2) t.heap) (gm_A w ad sz)) rm.cells rm.slots (gm_A w ad sz)
def gr_R (N : Nat) (b : ByteArray) (nL : Nat) (rm : Room) (x : gx_X) (post : Nat → (Nat → gc_T) → Prop) : Prop := ∀ {z : Nat} {c2 : Nat → gc_T} {k n pc : Nat} {lv : List (Nat × gv_V)}, k ≤ rm.cells → n ≤ rm.slots → decode b pc = .ok (.areturn, 1) → post z c2 → gw_G N nL rm x k n c2 pc lv [gv_R z]
theorem gm_R.of {l : Launch} {D : va_G} {ad : Nat → Nat} {ck : Nat → ClassId} {nL : Nat} {post : Nat → (Nat → gc_T) → Prop} (hy : plainName y.cls = true) (hw : gv_w as ≤ nL)
    (h : ∀ x : gx_X, gw_C N w y.cls b nL x → gr_R N b nL rm x post → gw_G N nL rm x 0 0 cf 0 (gv_args 0 as) []) (hw81 : w ≤ 81 := by decide) : gm_R N w l D ad ck y b nL rm as cf post := by
  intro sz
  refine Met.ofW (cc := b) (maxL := nL) (ret := some (.array .int)) hy rfl ?_
  intro p e s m args below meth c s₁ B hml hv
  obtain ⟨rfl, hsz, hP, hK, hnw, hij, hE⟩ := hv
  have hts := atoms_spec (ws := Cond.code y b nL (some (.array .int)) :: gw_T) B.pre
  have hown : s.vm.findClass y.cls = some m.cls := findClass_of_methodNamed B.named
  have hl := lv_entry (as.map (gv_v ad)) (n := nL) (by rw [gv_w_len]; exact hw)
  rw [lg_entry_eq]
  rw [gv_args_eq] at hl
  refine h (p, l, e, s, m, (as.map (gv_v ad)).toArray, below, meth, c, _, D, gm_A w ad sz, ad, ck) ⟨B.exec, B.bytes, hml, hown, fun w hw => hts w (List.mem_cons_of_mem _ hw), hnw, hK, fun q hq => Or.inr (by rw [← hsz]; exact hq), hij, fun i hi => Or.inl ⟨i, hi, rfl⟩, B.notSynchronized, gm_Age hw81 hE hsz, hE⟩ ?_ s.heap [] _ hP va_S.rf hl
  intro z c2 k n pc lv hk hn hd hpost
  intro H1 locs1 ls1 hP1 hS1 hl1
  refine W.widen (k := rm.cells) (n := rm.slots) hk hn ?_
  exact W.aret B.exec B.bytes B.returns (Or.inr ⟨_, rfl⟩) (Or.inr ⟨ad z, rfl⟩) (fun t ht hW => ⟨⟨(z, c2), ad z, rfl, hpost, rfl, by show va_P D vwCl (gw_L N ad ck c2) t.heap; rw [ht]; exact hP1⟩, hS1.F ht⟩) hS1.2.2 hd B.notSynchronized
theorem gx_vR (hC : gw_C N w own cc nL x) {i na o ci : Nat} {fs : List gv_V} {post : Nat → (Nat → gc_T) → Prop} (hd : decode cc pc = .ok (.invokevirtual i, 3)) (hV : gw_V own i y b mL (some (.array .int)) na) (hM : gm_R N w2 (gx_l x) (gx_D x) (gx_ad x) (gx_ck x) y b mL rm (gv_R o :: as) cf post) (hn : as.length = na) (hw2 : w2 ≤ w) (hR : rm.frames + 1 ≤ R.frames ∧ 8 + (mL + 11) + rm.locals ≤ R.locals) (hf : k + rm.cells ≤ R.cells ∧ n + rm.slots ≤ R.slots) (ho : o < N) (hci : ∃ (T : u_T) (M : Nat), vwCl[ci]? = some (y.cls, T, M)) (hc : cf o = gc_O ci fs) (hst : stk = as.reverse ++ gv_R o :: st) (hcat : gv_w st ≤ 8)
    (kk : ∀ (z : Nat) (c2 : Nat → gc_T), post z c2 → gw_G N nL R x (k + rm.cells) (n + rm.slots) c2 (pc + 3) lv (gv_R z :: st)) : gw_G N nL R x k n cf pc lv stk := by
  obtain ⟨p, l, e, s, m, args, below, meth, c, Q, D, A, ad, ck⟩ := x
  obtain ⟨hx, hb, hml, hown, hts, hnw, hK, hA, hij, hAd, hlk⟩ := hC
  subst hst
  intro H locs ls hP hS hl
  obtain ⟨T, M, hci⟩ := hci
  have hFc := gm_free (N := w2) hAd hw2 hA hS
  refine va_callr (gw_runV (As := as.map (gv_v ad)) (rest := st.map (gv_v ad)) (o := ad o) ⟨hx, hb, hml, hown, hts⟩ hnw (hM H.size) hV hR ⟨gm_blind, va_recv hK hP hci (gw_atE ho hc), fun U hU hW => ⟨rfl, by rw [hU], by rw [hU]; exact hP, va_K.moved hW.alike hK, gw_warm hW hnw, hij, hlk.2.2.go hU hW hlk.2.1 hS⟩⟩ rfl (by simpa using hn) hl.1 (by simp [gv_v]) (lv_room (by rw [gv_w_sum]; exact hcat)) hd hf) hS (fun q _ h => hFc q h) hFc (fun u ra t H1 locs1 ht hvm hq hB hz1 hk1 hS1 => ?_)
  obtain ⟨z, c2⟩ := u
  obtain ⟨hra, hB⟩ := hB
  subst hra
  exact kk z c2 hq H1 locs1 ls (by rw [← ht]; exact hB) hS1 hl
end GXM
/-! answers of methods that may throw: .inl is the kind of what is thrown -/
def gb_x {α β : Type} (o : Option (Nat ⊕ α)) (g : α → Option (Nat ⊕ β)) : Option (Nat ⊕ β) := match o with
  | none => none
  | some (.inl k) => some (.inl k)
  | some (.inr a) => g a
theorem gb_xr {α β : Type} {o : Option (Nat ⊕ α)} {g : α → Option (Nat ⊕ β)} {r : β} (h : gb_x o g = some (.inr r)) : ∃ q, o = some (.inr q) ∧ g q = some (.inr r) := by
  rcases o with _ | k | q
  · cases h
  · cases h
  · exact ⟨q, rfl, h⟩
theorem gb_xl {α β : Type} {o : Option (Nat ⊕ α)} {g : α → Option (Nat ⊕ β)} {r : Nat} (h : gb_x o g = some (.inl r)) : o = some (.inl r) ∨ ∃ q, o = some (.inr q) ∧ g q = some (.inl r) := by
  rcases o with _ | k | q
  · cases h
  · cases h
    exact Or.inl rfl
  · exact Or.inr ⟨q, rfl, h⟩
def gb_r {β : Type} (o : Option β) : Option (Nat ⊕ β) := match o with
  | none => none
  | some a => some (.inr a)
theorem gb_rr {β : Type} {o : Option β} {r : β} (h : gb_r o = some (.inr r)) : o = some r := by
  rcases o with _ | a
  · cases h
  · cases h
    rfl
theorem gb_rl {β : Type} {o : Option β} {r : Nat} (h : gb_r o = some (.inl r)) : False := by
  rcases o with _ | a
  · cases h
  · cases h
