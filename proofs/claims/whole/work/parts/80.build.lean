/-! BUILDING: the world as a list of numbered cells; the heap's size is known, so the addresses of the numbers are chosen ahead -/
abbrev gl_T : Type := List (Nat × gc_T)
def gl_L (ws : gl_T) (ad : Nat → Nat) (ck : Nat → ClassId) : va_W := ws.map (fun q => (ad q.1, gc_E ad ck q.2))
theorem gl_app {ad : Nat → Nat} {ck : Nat → ClassId} (ws vs : gl_T) : gl_L (ws ++ vs) ad ck = gl_L ws ad ck ++ gl_L vs ad ck := List.map_append ..
theorem gl_at {ad : Nat → Nat} {ck : Nat → ClassId} {ws : gl_T} {i o : Nat} {c : gc_T} (h : ws[i]? = some (o, c)) : (gl_L ws ad ck)[i]? = some (ad o, gc_E ad ck c) := by
  unfold gl_L
  rw [List.getElem?_map, h]
  rfl
theorem gl_set {ad : Nat → Nat} {ck : Nat → ClassId} {ws : gl_T} {i o : Nat} {c : gc_T} : (gl_L ws ad ck).set i (ad o, gc_E ad ck c) = gl_L (ws.set i (o, c)) ad ck := by
  unfold gl_L
  rw [List.map_set]
theorem gl_in {D : va_G} {ad : Nat → Nat} {ck : Nat → ClassId} {ws : gl_T} {H : Heap} : va_P D vwCl (gl_L ws ad ck) H ↔ ∀ q ∈ ws, va_at D vwCl (ad q.1, gc_E ad ck q.2) H := by
  constructor
  · intro h q hq
    obtain ⟨i, hi⟩ := List.getElem?_of_mem hq
    exact h i _ (gl_at (c := q.2) (o := q.1) hi)
  · intro h k q hk
    obtain ⟨z, hz, rfl⟩ := List.mem_map.mp (List.mem_of_getElem? hk)
    exact h z hz
theorem gl_D {A : Nat → Prop} {ad : Nat → Nat} {ck : Nat → ClassId} {ws vs : gl_T} {hz : Nat} (hD : va_D A (gl_L ws ad ck)) (hlt : ∀ q ∈ ws, ad q.1 < hz) (hv : ∀ (i : Nat) (q : Nat × gc_T), vs[i]? = some q → ad q.1 = hz + i) (hA : ∀ q, hz ≤ q → A q) : va_D A (gl_L (ws ++ vs) ad ck) := by
  have hl : (gl_L ws ad ck).length = ws.length := List.length_map ..
  have key : ∀ (k : Nat) (q : Nat × va_E), (gl_L (ws ++ vs) ad ck)[k]? = some q → (k < ws.length ∧ (gl_L ws ad ck)[k]? = some q ∧ q.1 < hz) ∨ (ws.length ≤ k ∧ q.1 = hz + (k - ws.length)) := by
    intro k q hk
    rw [gl_app] at hk
    by_cases h : k < ws.length
    · rw [List.getElem?_append_left (by omega)] at hk
      refine Or.inl ⟨h, hk, ?_⟩
      obtain ⟨z, hz, rfl⟩ := List.mem_map.mp (List.mem_of_getElem? hk)
      exact hlt z hz
    · rw [List.getElem?_append_right (by omega), hl] at hk
      refine Or.inr ⟨by omega, ?_⟩
      unfold gl_L at hk
      rw [List.getElem?_map] at hk
      cases h2 : vs[k - ws.length]? with
      | none => rw [h2] at hk; cases hk
      | some z =>
        rw [h2] at hk
        cases hk
        exact hv _ _ h2
  refine ⟨fun i j p q hi hj he => ?_, fun k q hk => ?_⟩
  · rcases key i p hi with ⟨a1, a2, a3⟩ | ⟨a1, a2⟩ <;> rcases key j q hj with ⟨b1, b2, b3⟩ | ⟨b1, b2⟩
    · exact hD.1 i j p q a2 b2 he
    · omega
    · omega
    · omega
  · rcases key k q hk with ⟨a1, a2, a3⟩ | ⟨a1, a2⟩
    · exact hD.2 k q a2
    · exact hA _ (by omega)
theorem gb_ov {ty : FieldType} {A A' : Array Value} {U U' : State} (h : U.vm = U'.vm) (hb : (Cond.arrayOver ty).before A U = true) : (Cond.arrayOver ty).before A' U' = true := by
  simp only [Cond.before, Cond.holds, Cond.value] at hb ⊢
  rw [← h]
  exact hb
def gb_O (U : State) : Prop := (Cond.arrayOver (.array .int)).before #[] U = true ∧ (Cond.arrayOver (.array .long)).before #[] U = true
theorem gb_O.warm {s U : State} (hW : s.WarmedH U.vm) (h : gb_O s) : gb_O U := ⟨gb_ov (A := #[]) (rfl : (s.setVm U.vm).vm = U.vm) (by rw [Cond.arrayOver_setVmC hW.alike]; exact h.1), gb_ov (A := #[]) (rfl : (s.setVm U.vm).vm = U.vm) (by rw [Cond.arrayOver_setVmC hW.alike]; exact h.2)⟩
def gb_C (own : String) (cc : ByteArray) (nL : Nat) : gx_X → Prop
  | (p, _, _, s, m, args, _, meth, c, _, D, A, ad, ck) =>
    p.tables.exec = Jvm.exec ∧ c.code = cc ∧ c.maxLocals = nL ∧ s.vm.findClass own = some m.cls ∧ (∀ w ∈ gw_T, w.before args s = true) ∧ (∀ w ∈ gw_Nl, va_Nw w s) ∧ va_K D vwCl (gv_tys ck) s ∧ (∀ q, s.heap.size ≤ q → A q) ∧ meth.locks = false ∧ (∀ q, A q → ck 10 ≤ q) ∧ gm_E ck ad s ∧ gb_O s
def gb_I : gx_X → Prop
  | (_, _, _, _, _, _, _, meth, _, _, _, _, _, _) => meth.name = "<init>"
def gb_G (nL : Nat) (R : Room) (x : gx_X) (k n hz : Nat) (ws : gl_T) (pc : Nat) (lv : List (Nat × gv_V)) (st : List gv_V) : Prop := match x with
  | (p, l, e, s, m, args, below, meth, c, Q, D, A, ad, ck) => ∀ (H : Heap) (locs : List Loc) (ls : Array Slot), H.size = hz → va_P D vwCl (gl_L ws ad ck) H → va_D A (gl_L ws ad ck) → va_S A s.heap H locs → lv_has ls nL (lv.map (gv_p ad)) → W p l e R s m args below meth c H locs k n Q (F0 m pc ls (st.map (gv_v ad)))
/-- new cells at the heap's end -/
theorem gb_ends {D : va_G} {A : Nat → Prop} {ad : Nat → Nat} {ck : Nat → ClassId} {ws vs : gl_T} {H0 H H1 : Heap} {locs : List Loc} (hP : va_P D vwCl (gl_L ws ad ck) H) (hD : va_D A (gl_L ws ad ck)) (hS : va_S A H0 H locs) (hA : ∀ q, H0.size ≤ q → A q) (hv : ∀ (i : Nat) (q : Nat × gc_T), vs[i]? = some q → ad q.1 = H.size + i) (hz : H.size ≤ H1.size) (ho1 : ∀ q, q < H.size → H1[q]? = H[q]?) (hat : ∀ q ∈ vs, va_at D vwCl (ad q.1, gc_E ad ck q.2) H1) :
    va_P D vwCl (gl_L (ws ++ vs) ad ck) H1 ∧ va_D A (gl_L (ws ++ vs) ad ck) ∧ va_S A H0 H1 locs := by
  have hlt : ∀ q ∈ ws, ad q.1 < H.size := fun q hq => (gl_in.mp hP q hq).lt
  refine ⟨gl_in.mpr (fun q hq => ?_), gl_D hD hlt hv (fun q hq => hA q (Nat.le_trans hS.1 hq)), ⟨Nat.le_trans hS.1 hz, fun z h1 h2 => (ho1 z (Nat.lt_of_lt_of_le h1 hS.1)).trans (hS.2.1 z h1 h2), hS.2.2⟩⟩
  rcases List.mem_append.mp hq with h | h
  · exact (gl_in.mp hP q h).kept (ho1 _ (hlt q h))
  · exact hat q h
theorem gb_one {ad : Nat → Nat} {o hz : Nat} {c : gc_T} (h : ad o = hz) : ∀ (i : Nat) (q : Nat × gc_T), ([(o, c)] : gl_T)[i]? = some q → ad q.1 = hz + i := by
  intro i q hq
  have hi : i < 1 := (List.getElem?_eq_some_iff.mp hq).1
  rw [show i = 0 by omega] at hq ⊢
  cases hq
  exact h
section GB
variable {nL : Nat} {own : String} {cc : ByteArray} {R : Room} {x : gx_X} {k n hz : Nat} {ws : gl_T} {pc : Nat} {lv : List (Nat × gv_V)} {st : List gv_V}
theorem gb_aload_n (hC : gb_C own cc nL x) {i : Fin 4} {z : Nat} (hd : decode cc pc = .ok (.aload_n i, 1)) (hv : gv_g lv i.val = some (gv_R z))
    (kk : gb_G nL R x k n hz ws (pc + 1) lv (gv_R z :: st)) : gb_G nL R x k n hz ws pc lv st := by
  obtain ⟨p, l, e, s, m, args, below, meth, c, Q, D, A, ad, ck⟩ := x
  obtain ⟨hx, hb, hml, hown, hts, hnw, hK, hA, hlk, hAg, hE, hO9⟩ := hC
  intro H locs ls hh hP hD hS hl
  exact lv_aload_n hx hb hd rfl (gv_at hl hv) (kk H locs ls hh hP hD hS hl)
theorem gb_astore_n (hC : gb_C own cc nL x) {i : Fin 4} {z : Nat} (hd : decode cc pc = .ok (.astore_n i, 1)) (hn : i.val < nL)
    (kk : gb_G nL R x k n hz ws (pc + 1) (gv_s lv i.val (gv_R z)) st) : gb_G nL R x k n hz ws pc lv (gv_R z :: st) := by
  obtain ⟨p, l, e, s, m, args, below, meth, c, Q, D, A, ad, ck⟩ := x
  obtain ⟨hx, hb, hml, hown, hts, hnw, hK, hA, hlk, hAg, hE, hO9⟩ := hC
  intro H locs ls hh hP hD hS hl
  exact lv_astore_n hx hb hd rfl hl hn rfl (fun ls2 h2 => kk H locs ls2 hh hP hD hS (gv_st1 (v := gv_R z) rfl h2))
theorem gb_iconst (hC : gb_C own cc nL x) {z : Int} {v : Int32} (hd : decode cc pc = .ok (.iconst z, 1)) (hz2 : Int32.ofInt z = v)
    (kk : gb_G nL R x k n hz ws (pc + 1) lv (gv_I v :: st)) : gb_G nL R x k n hz ws pc lv st := by
  obtain ⟨p, l, e, s, m, args, below, meth, c, Q, D, A, ad, ck⟩ := x
  obtain ⟨hx, hb, hml, hown, hts, hnw, hK, hA, hlk, hAg, hE, hO9⟩ := hC
  intro H locs ls hh hP hD hS hl
  exact lv_iconst hx hb hd hz2 (kk H locs ls hh hP hD hS hl)
theorem gb_bipush (hC : gb_C own cc nL x) {z : Int} {v : Int32} (hd : decode cc pc = .ok (.bipush z, 2)) (hz2 : (Int8.ofInt z).toInt32 = v)
    (kk : gb_G nL R x k n hz ws (pc + 2) lv (gv_I v :: st)) : gb_G nL R x k n hz ws pc lv st := by
  obtain ⟨p, l, e, s, m, args, below, meth, c, Q, D, A, ad, ck⟩ := x
  obtain ⟨hx, hb, hml, hown, hts, hnw, hK, hA, hlk, hAg, hE, hO9⟩ := hC
  intro H locs ls hh hP hD hS hl
  exact lv_bipush hx hb hd hz2 (kk H locs ls hh hP hD hS hl)
theorem gb_sipush (hC : gb_C own cc nL x) {z : Int} {v : Int32} (hd : decode cc pc = .ok (.sipush z, 3)) (hz2 : (Int16.ofInt z).toInt32 = v)
    (kk : gb_G nL R x k n hz ws (pc + 3) lv (gv_I v :: st)) : gb_G nL R x k n hz ws pc lv st := by
  obtain ⟨p, l, e, s, m, args, below, meth, c, Q, D, A, ad, ck⟩ := x
  obtain ⟨hx, hb, hml, hown, hts, hnw, hK, hA, hlk, hAg, hE, hO9⟩ := hC
  intro H locs ls hh hP hD hS hl
  exact lv_sipush hx hb hd hz2 (kk H locs ls hh hP hD hS hl)
theorem gb_dup (hC : gb_C own cc nL x) {v : gv_V} (hd : decode cc pc = .ok (.dup, 1)) (hv : gv_c v = 1)
    (kk : gb_G nL R x k n hz ws (pc + 1) lv (v :: v :: st)) : gb_G nL R x k n hz ws pc lv (v :: st) := by
  obtain ⟨p, l, e, s, m, args, below, meth, c, Q, D, A, ad, ck⟩ := x
  obtain ⟨hx, hb, hml, hown, hts, hnw, hK, hA, hlk, hAg, hE, hO9⟩ := hC
  intro H locs ls hh hP hD hS hl
  exact lv_dup hx hb hd ((gv_cat ad v).trans hv) (kk H locs ls hh hP hD hS hl)
theorem gb_obj (hC : gb_C own cc nL x) {i o : Nat} (hd : decode cc pc = .ok (.invokespecial i, 3)) (hw : Cond.methodLink own i Lib.objectInit ∈ gw_T) (hfr : 1 ≤ R.frames) (hlo : 12 ≤ R.locals)
    (kk : gb_G nL R x k n hz ws (pc + 3) lv []) : gb_G nL R x k n hz ws pc lv [gv_R o] := by
  obtain ⟨p, l, e, s, m, args, below, meth, c, Q, D, A, ad, ck⟩ := x
  obtain ⟨hx, hb, hml, hown, hts, hnw, hK, hA, hlk, hAg, hE, hO9⟩ := hC
  intro H locs ls hh hP hD hS hl
  refine W.objInit hx hb hown (hts _ hw) (hts _ (gw_in 76 (by decide +kernel) (by decide +kernel))) (hts _ (gw_in 77 (by decide +kernel) (by decide +kernel))) rfl (by rw [hml]; exact hl.1) rfl hd hfr (by show 2 * 0 + 0 + 12 ≤ R.locals; omega) ?_
  exact W.eq (g2 := F0 m (pc + 3) ls []) rfl (kk H locs ls hh hP hD hS hl)
def gb_N (own : String) (i ci NF : Nat) (fs : List gv_V) : Prop := ∃ (C : String) (T : u_T) (ty : Nat → FieldType), vwCl[ci]? = some (C, T, NF) ∧ (∀ w ∈ u_ws C T NF, w ∈ gw_T) ∧ (∀ k, k < NF → parseFieldDescriptor (T k).2.2.1 = some (ty k)) ∧ Cond.classLink own i C ∈ gw_T ∧ Cond.instantiable C NF ∈ gw_T ∧ Cond.initialized C ∈ gw_T ∧ ∀ (ad : Nat → Nat) (j : Nat), j < NF → defaultValue (ty j) = vp_V (fs.map (gv_v ad)) j
theorem gb_new (hC : gb_C own cc nL x) {i ci o NF : Nat} {fs : List gv_V} (hd : decode cc pc = .ok (.new i, 3)) (hN : gb_N own i ci NF fs) (ho : gx_ad x o = hz) (hcells : k + 1 ≤ R.cells) (hslots : n + NF ≤ R.slots)
    (kk : gb_G nL R x (k + 1) (n + NF) (hz + 1) (ws ++ [(o, gc_O ci fs)]) (pc + 3) lv (gv_R o :: st)) : gb_G nL R x k n hz ws pc lv st := by
  obtain ⟨p, l, e, s, m, args, below, meth, c, Q, D, A, ad, ck⟩ := x
  obtain ⟨hx, hb, hml, hown, hts, hnw, hK, hA, hlk, hAg, hE, hO9⟩ := hC
  obtain ⟨C, T, ty, h1, h2, h3, h4, h5, h6, h7⟩ := hN
  intro H locs ls hh hP hD hS hl
  subst hh
  have ho' : ad o = H.size := ho
  have hKn := hK.1 ci _ h1
  refine W.newcK hx hb hown (hts _ h4) (hts _ h5) (hts _ h6) rfl hd hcells hslots hKn.2.1 rfl fun H1 kC hkC e1 z1 o1 => ?_
  obtain ⟨g1, g2, g3⟩ := gb_ends (vs := [(o, gc_O ci fs)]) hP hD hS hA (gb_one ho') (by omega) o1 (fun q hq => by
    cases List.mem_singleton.mp hq
    rw [ho']
    exact ⟨_, h1, (u_born ty hts h2 hKn hkC e1 h3).to (h7 ad)⟩)
  have h := kk H1 locs ls z1 g1 g2 g3 hl
  rw [List.map_cons, show gv_v ad (gv_R o) = .ref (ad o) from rfl, ho'] at h
  exact h
theorem gb_nai (hC : gb_C own cc nL x) {v : Int32} {N' o : Nat} (hd : decode cc pc = .ok (.newarray .int, 2)) (ho : gx_ad x o = hz) (hn : ¬ v < 0) (hv : v.toNatClampNeg = N') (hN : N' ≤ 100000) (hcells : k + 1 ≤ R.cells) (hslots : n + N' ≤ R.slots)
    (kk : gb_G nL R x (k + 1) (n + N') (hz + 1) (ws ++ [(o, gc_I 0 N' (fun _ => 0))]) (pc + 2) lv (gv_R o :: st)) : gb_G nL R x k n hz ws pc lv (gv_I v :: st) := by
  obtain ⟨p, l, e, s, m, args, below, meth, c, Q, D, A, ad, ck⟩ := x
  obtain ⟨hx, hb, hml, hown, hts, hnw, hK, hA, hlk, hAg, hE, hO9⟩ := hC
  intro H locs ls hh hP hD hS hl
  subst hh
  have ho' : ad o = H.size := ho
  refine va_newaK hx hb (hts _ (gw_in 131 (by decide +kernel) (by decide +kernel))) rfl hd rfl hn hv (by show N' * 4 ≤ _; omega) hcells hslots rfl fun H1 cA e1 z1 o1 hAr hNm => ?_
  have hc : cA = ck 0 := Option.some.inj (hNm.symm.trans (hK.2 0 _ rfl).2)
  subst hc
  obtain ⟨g1, g2, g3⟩ := gb_ends (vs := [(o, gc_I 0 N' (fun _ => 0))]) hP hD hS hA (gb_one ho') (by omega) o1 (fun q hq => by
    cases List.mem_singleton.mp hq
    rw [ho']
    exact e1)
  have h := kk H1 locs ls z1 g1 g2 g3 hl
  rw [List.map_cons, show gv_v ad (gv_R o) = .ref (ad o) from rfl, ho'] at h
  exact h
theorem gb_naz (hC : gb_C own cc nL x) {v : Int32} {N' o : Nat} (hd : decode cc pc = .ok (.newarray .boolean, 2)) (ho : gx_ad x o = hz) (hn : ¬ v < 0) (hv : v.toNatClampNeg = N') (hN : N' ≤ 100000) (hcells : k + 1 ≤ R.cells) (hslots : n + N' ≤ R.slots)
    (kk : gb_G nL R x (k + 1) (n + N') (hz + 1) (ws ++ [(o, gc_I 1 N' (fun _ => 0))]) (pc + 2) lv (gv_R o :: st)) : gb_G nL R x k n hz ws pc lv (gv_I v :: st) := by
  obtain ⟨p, l, e, s, m, args, below, meth, c, Q, D, A, ad, ck⟩ := x
  obtain ⟨hx, hb, hml, hown, hts, hnw, hK, hA, hlk, hAg, hE, hO9⟩ := hC
  intro H locs ls hh hP hD hS hl
  subst hh
  have ho' : ad o = H.size := ho
  refine va_newaK hx hb (hts _ (gw_in 133 (by decide +kernel) (by decide +kernel))) rfl hd rfl hn hv (by show N' * 1 ≤ _; omega) hcells hslots rfl fun H1 cA e1 z1 o1 hAr hNm => ?_
  have hc : cA = ck 1 := Option.some.inj (hNm.symm.trans (hK.2 1 _ rfl).2)
  subst hc
  obtain ⟨g1, g2, g3⟩ := gb_ends (vs := [(o, gc_I 1 N' (fun _ => 0))]) hP hD hS hA (gb_one ho') (by omega) o1 (fun q hq => by
    cases List.mem_singleton.mp hq
    rw [ho']
    exact e1)
  have h := kk H1 locs ls z1 g1 g2 g3 hl
  rw [List.map_cons, show gv_v ad (gv_R o) = .ref (ad o) from rfl, ho'] at h
  exact h
theorem gb_nal (hC : gb_C own cc nL x) {v : Int32} {N' o : Nat} (hd : decode cc pc = .ok (.newarray .long, 2)) (ho : gx_ad x o = hz) (hn : ¬ v < 0) (hv : v.toNatClampNeg = N') (hN : N' ≤ 100000) (hcells : k + 1 ≤ R.cells) (hslots : n + N' ≤ R.slots)
    (kk : gb_G nL R x (k + 1) (n + N') (hz + 1) (ws ++ [(o, gc_L N' (fun _ => 0))]) (pc + 2) lv (gv_R o :: st)) : gb_G nL R x k n hz ws pc lv (gv_I v :: st) := by
  obtain ⟨p, l, e, s, m, args, below, meth, c, Q, D, A, ad, ck⟩ := x
  obtain ⟨hx, hb, hml, hown, hts, hnw, hK, hA, hlk, hAg, hE, hO9⟩ := hC
  intro H locs ls hh hP hD hS hl
  subst hh
  have ho' : ad o = H.size := ho
  refine va_newaK hx hb (hts _ (gw_in 132 (by decide +kernel) (by decide +kernel))) rfl hd rfl hn hv (by show N' * 8 ≤ _; omega) hcells hslots rfl fun H1 cA e1 z1 o1 hAr hNm => ?_
  have hc : cA = ck 2 := Option.some.inj (hNm.symm.trans (hK.2 2 _ rfl).2)
  subst hc
  obtain ⟨g1, g2, g3⟩ := gb_ends (vs := [(o, gc_L N' (fun _ => 0))]) hP hD hS hA (gb_one ho') (by omega) o1 (fun q hq => by
    cases List.mem_singleton.mp hq
    rw [ho']
    exact e1)
  have h := kk H1 locs ls z1 g1 g2 g3 hl
  rw [List.map_cons, show gv_v ad (gv_R o) = .ref (ad o) from rfl, ho'] at h
  exact h
end GB
theorem gb_arrc {c : ClassId} {N : Nat} {f g : Nat → Value} (h : ∀ j, j < N → f j = g j) : arrV c N f = arrV c N g := by
  unfold arrV
  congr 1
  apply Array.ext
  · rw [Array.size_ofFn, Array.size_ofFn]
  · intro i h1 h2
    rw [Array.getElem_ofFn, Array.getElem_ofFn]
    rw [Array.size_ofFn] at h1
    exact h i h1
theorem gb_outer (c : ClassId) (N h0 : Nat) : ∀ i : Nat, Jvm.Free.Multi.outerC c N h0 i = arrV c N (fun j => va_rf (if j < i then some (h0 + 1 + j) else none))
  | 0 => by
    show ({ cls := c, slots := Array.replicate N .null, vm := .none } : Cell) = _
    rw [arrV_new]
    exact gb_arrc (fun j _ => by rw [if_neg (by omega)]; rfl)
  | i + 1 => by
    show (Jvm.Free.Multi.outerC c N h0 i).setSlot i (.ref (h0 + 1 + i)) = _
    rw [gb_outer c N h0 i, arrV_store]
    refine gb_arrc (fun j _ => ?_)
    by_cases e : j = i
    · subst e
      simp [updV, va_rf]
    · by_cases h : j < i
      · simp [updV, e, h, Nat.lt_succ_of_lt h]
      · simp [updV, e, h, show ¬ j < i + 1 by omega]
/-- the rows of an array of arrays -/
def gb_rows (r0 N : Nat) (c : gc_T) : gl_T := (List.range N).map (fun j => (r0 + j, c))
section GBM
variable {nL : Nat} {own : String} {cc : ByteArray} {R : Room} {x : gx_X} {k n hz : Nat} {ws : gl_T} {pc : Nat} {lv : List (Nat × gv_V)} {st : List gv_V}
theorem gb_mna (hC : gb_C own cc nL x) {i o r0 kd t0 N K : Nat} {v w : Int32} {ty : FieldType} {ci : gc_T} (hd : decode cc pc = .ok (.multianewarray i 2, 4)) (hcl : Cond.classLink own i ("[" ++ (FieldType.array ty).toString) ∈ gw_T) (hov : ∀ s : State, gb_O s → (Cond.arrayOver (.array ty)).before #[] s = true) (har : Cond.arrayClass ty ∈ gw_T) (hkd : ∀ ck : Nat → ClassId, (gv_tys ck)[t0]? = some (ck kd, .array ty)) (hvn : v.toNatClampNeg = N) (hwn : w.toNatClampNeg = K) (hv : ¬ v < 0) (hw : ¬ w < 0) (hb1 : N ≤ 100000) (hb2 : K * componentBytes ty ≤ 536870912) (hb3 : K ≤ 100000) (hdf : fits ty (defaultValue ty) = true) (hdd : (defaultValue ty).isDefault = true)
    (hin : ∀ (ad : Nat → Nat) (D : va_G) (ck : Nat → ClassId) (s : State) (comp : ClassId) (a : Nat) (H : Heap), va_K D vwCl (gv_tys ck) s → s.vm.findClass (FieldType.array ty).toString = some comp → H[a]? = some (Jvm.Free.Multi.innerC comp K (defaultValue ty)) → va_at D vwCl (a, gc_E ad ck ci) H)
    (ho : gx_ad x o = hz) (hr : ∀ j, j < N → gx_ad x (r0 + j) = hz + 1 + j) (hcells : k + (1 + N) ≤ R.cells) (hslots : n + (N + N * K) ≤ R.slots)
    (kk : gb_G nL R x (k + 1 + N) (n + N + N * K) (hz + 1 + N) (ws ++ ((o, gc_R kd N (fun j => some (r0 + j.toNat))) :: gb_rows r0 N ci)) (pc + 4) lv (gv_R o :: st)) : gb_G nL R x k n hz ws pc lv (gv_I w :: gv_I v :: st) := by
  obtain ⟨p, l, e, s, m, args, below, meth, c, Q, D, A, ad, ck⟩ := x
  obtain ⟨hx, hb, hml, hown, hts, hnw, hK, hA, hlk, hAg, hE, hO9⟩ := hC
  intro H locs ls hh hP hD hS hl
  subst hh
  have ho' : ad o = H.size := ho
  have hr' : ∀ j, j < N → ad (r0 + j) = H.size + 1 + j := hr
  intro T hT X
  have hover : (Cond.arrayOver (.array ty)).before args s = true := gb_ov rfl (hov s hO9)
  subst hvn
  subst hwn
  obtain ⟨vm₁, cA, comp, -, fA, fC, hO, -, X', step⟩ := X.multianewarray2F hx hown (hts _ hcl) hover (hts _ har) (g := F0 m pc ls ((gv_I w :: gv_I v :: st).map (gv_v ad))) rfl (by rw [hb]; exact hd) rfl hv hw (by omega) hb2 (by omega) hdf hdd hcells hslots
  generalize hF : Jvm.Free.Multi.fill (T.setVm vm₁) cA comp v.toNatClampNeg w.toNatClampNeg (defaultValue ty) v.toNatClampNeg = F at X' step
  have hTh : (T.setVm vm₁).heap = H := hT
  obtain ⟨f1, f2, -, -⟩ := Jvm.Free.Multi.fill_facts (T.setVm vm₁) cA comp v.toNatClampNeg w.toNatClampNeg (defaultValue ty) v.toNatClampNeg
  rw [hF, hTh] at f1 f2
  have hold : ∀ z : Nat, z < H.size → F.heap[z]? = H[z]? := fun z hz => by
    have := Jvm.Free.Multi.fill_old (T.setVm vm₁) cA comp v.toNatClampNeg w.toNatClampNeg (defaultValue ty) (a := z) (by rw [hTh]; exact hz) v.toNatClampNeg
    rw [hF, hTh] at this
    exact this
  have hrow : ∀ j : Nat, j < v.toNatClampNeg → F.heap[H.size + 1 + j]? = some (Jvm.Free.Multi.innerC comp w.toNatClampNeg (defaultValue ty)) := fun j hj => by
    have := Jvm.Free.Multi.fill_inner (T.setVm vm₁) cA comp v.toNatClampNeg w.toNatClampNeg (defaultValue ty) v.toNatClampNeg j hj
    rw [hF, hTh] at this
    exact this
  have hcA : cA = ck kd := Option.some.inj (fA.symm.trans (hK.2 t0 _ (hkd ck)).2)
  subst hcA
  have hrin : ∀ (j : Nat) (q : Nat × gc_T), (gb_rows r0 v.toNatClampNeg ci)[j]? = some q → j < v.toNatClampNeg ∧ q = (r0 + j, ci) := by
    intro j q hq
    unfold gb_rows at hq
    rw [List.getElem?_map] at hq
    by_cases hj : j < v.toNatClampNeg
    · rw [List.getElem?_range hj] at hq
      cases hq
      exact ⟨hj, rfl⟩
    · have hn0 : (List.range v.toNatClampNeg)[j]? = none := List.getElem?_eq_none (by rw [List.length_range]; omega)
      rw [hn0] at hq
      cases hq
  obtain ⟨g1, g2, g3⟩ := gb_ends (vs := (o, gc_R kd v.toNatClampNeg (fun j => some (r0 + j.toNat))) :: gb_rows r0 v.toNatClampNeg ci) (H1 := F.heap) hP hD hS hA (fun i q hq => by
      cases i with
      | zero =>
        cases hq
        exact ho'
      | succ j =>
        obtain ⟨h1, rfl⟩ := hrin j q hq
        show ad (r0 + j) = H.size + (j + 1)
        rw [hr' j h1]; omega) (by rw [f1]; omega) hold (fun q hq => by
      rcases List.mem_cons.mp hq with rfl | hq
      · show F.heap[ad o]? = some (vp_cell (ck kd) (v.toNatClampNeg, .inr (.inr (.inr (.inr (fun j : Nat => (some (r0 + ((j : Int)).toNat)).map ad))))))
        rw [ho', f2, gb_outer, vp_cell_q]
        congr 1
        refine gb_arrc (fun j hj => ?_)
        rw [if_pos hj]
        show va_rf (some (H.size + 1 + j)) = va_rf (some (ad (r0 + ((j : Int)).toNat)))
        rw [Int.toNat_natCast, hr' j hj]
      · obtain ⟨j, hj⟩ := List.getElem?_of_mem hq
        obtain ⟨h1, rfl⟩ := hrin j q hj
        have h9 := hin ad D ck s comp (ad (r0 + j)) F.heap hK fC (by rw [hr' j h1]; exact hrow j h1)
        exact h9)
  obtain ⟨t, a1, b1⟩ := kk F.heap locs ls f1 g1 g2 g3 hl F rfl X'
  refine ⟨t, step t ?_, b1⟩
  have e : T.heap.size = ad o := by rw [hT, ho']
  rw [e]
  exact a1
def gb_Pf (ci j : Nat) (ty : FieldType) : Prop := ∃ (C : String) (T : u_T) (M : Nat) (ty0 : Nat → FieldType), vwCl[ci]? = some (C, T, M) ∧ (∀ k, k < M → parseFieldDescriptor (T k).2.2.1 = some (ty0 k)) ∧ (∀ a, a < M → ∀ b, b < M → a ≠ b → (T a).2.1 ≠ (T b).2.1) ∧ (T j).2.2.2 = true ∧ (T j).1 = C ∧ parseFieldDescriptor (T j).2.2.1 = some ty
def gb_F (own : String) (i ci j : Nat) : Prop := ∃ (T : u_T) (M : Nat), vwCl[ci]? = some (own, T, M) ∧ j < M ∧ (∀ w ∈ u_ws own T M, w ∈ gw_T) ∧ Cond.fieldLink own i (T j).1 (T j).2.1 (T j).2.2.1 ∈ gw_T
theorem gb_put (hC : gb_C own cc nL x) (hI : gb_I x) {i ci j o o2 q0 : Nat} {fs : List gv_V} {ty : FieldType} (hd : decode cc pc = .ok (.putfield i, 3)) (hF : gb_F own i ci j) (hW : gb_Pf ci j ty) (hc : ws[q0]? = some (o, gc_O ci fs)) (hj : j < fs.length) (hn : ∀ a, narrow ty (.ref a) = .ref a) (hf : ∀ a, fits ty (.ref a) = true) {ws2 : gl_T} (hu : ws.set q0 (o, gc_O ci (fs.set j (gv_R o2))) = ws2)
    (kk : gb_G nL R x k n hz ws2 (pc + 3) lv st) : gb_G nL R x k n hz ws pc lv (gv_R o2 :: gv_R o :: st) := by
  obtain ⟨p, l, e, s, m, args, below, meth, c, Q, D, A, ad, ck⟩ := x
  obtain ⟨hx, hb, hml, hown, hts, hnw, hK, hA, hlk, hAg, hE, hO9⟩ := hC
  intro H locs ls hh hP hD hS hl
  obtain ⟨T, M, h1, h2, h3, h4⟩ := hF
  obtain ⟨C2, T2, M2, ty0, g1, g2, g3, g4, g6, g5⟩ := hW
  cases h1.symm.trans g1
  have e2 : (ad o, (Sum.inr (ci, (fs.map (gv_v ad)).set j (gv_v ad (gv_R o2))) : va_E)) = (ad o, gc_E ad ck (gc_O ci (fs.set j (gv_R o2)))) := by
    show _ = (ad o, (Sum.inr (ci, (fs.set j (gv_R o2)).map (gv_v ad)) : va_E))
    rw [List.map_set]
  have hap := va_apart (own := own) hts h3 ty0 g2 g3 hK h1
  obtain ⟨r, r1, cell, q1, q2, q3, q4⟩ := hP q0 _ (gl_at hc)
  have hr : r = (own, T, M) := Option.some.inj (r1.symm.trans h1)
  subst hr
  obtain ⟨hSl, hfc, kC, hkC, hkind⟩ := hK.1 ci _ h1
  obtain ⟨cf, kf, fi, f, hi, hsl⟩ := hSl j h2
  have hlay := hts _ (h3 _ (u_in_lay h2))
  unfold u_lay at hlay
  rw [if_pos g4] at hlay
  have hst := (u_facts hfc hkC (u_lays hts h3 h2) hi).1
  have hcf : m.cls = cf := by
    obtain ⟨_, _, c', _, _, _, -, -, hf', -, -, -, hown2, -⟩ := Cond.laysFinal_spec hlay
    have e1 : c' = cf := by have := hi.symm.trans hf'; simp at this; exact this.1.symm
    rw [g6] at hown2
    rw [← e1]
    exact Option.some.inj (hown.symm.trans hown2)
  have h6 := u_fits hfc hkC hkind (Or.inr hlay) hi g5 (hn (ad o2)) (hf (ad o2))
  have hjl : j < (fs.map (gv_v ad)).length := by simpa using hj
  refine W.putFinK hx hb hown (hts _ h4) hi hst hcf hI (by rw [q2]; exact h6) q1 q3 (by rw [hsl]; exact k2_hasslot (q4 j h2)) rfl rfl hd fun H' z1 z2 z3 => ?_
  rw [hsl] at z1 ⊢
  have hP1 := hP.set hD (gl_at hc) (e := .inr (ci, (fs.map (gv_v ad)).set j (gv_v ad (gv_R o2)))) ⟨_, h1, t_OB.to (V := updV (vp_V (fs.map (gv_v ad))) j (gv_v ad (gv_R o2))) ⟨_, z1, q2, q3, t_set q4 hap h2 (gv_v ad (gv_R o2))⟩ (fun i9 _ => vp_updV_set hjl (gv_v ad (gv_R o2)) i9)⟩ z3
  have hD1 := hD.set (e := .inr (ci, (fs.map (gv_v ad)).set j (gv_v ad (gv_R o2)))) (gl_at hc)
  have hAo := hD.2 q0 _ (gl_at hc)
  rw [e2, gl_set, hu] at hP1 hD1
  exact kk H' _ ls (z2.trans hh) hP1 hD1 (hS.put z2 z3 hAo) hl
end GBM
/-! constructors: their contract, their call -/
def gb_A (ad : Nat → Nat) (o sz : Nat) : Nat → Prop := fun q => q = ad o ∨ sz ≤ q
def gb_P (D : va_G) (ad : Nat → Nat) (ck : Nat → ClassId) (o : Nat) (c0 : gc_T) (sz : Nat) : Array Value → State → Prop := va_Pc [.ref (ad o)] (fun U => U.heap.size = sz ∧ va_P D vwCl (gl_L [(o, c0)] ad ck) U.heap ∧ va_K D vwCl (gv_tys ck) U ∧ (∀ w ∈ gw_Nl, va_Nw w U) ∧ gm_E ck ad U ∧ gb_O U)
theorem gb_blind {D : va_G} {ad : Nat → Nat} {ck : Nat → ClassId} {o : Nat} {c0 : gc_T} {sz : Nat} : FrameBlind (gb_P D ad ck o c0 sz) := by
  intro a U g mk q
  obtain ⟨q0, q1, qP, qK, qn, ⟨q2, q3, q4⟩, q5⟩ := q
  exact ⟨q0, q1, qP, va_K.moved (u := U) (U := U.calling g mk a) (Vm.Alike.refl U.vm) qK, fun w hw => va_Nw.same (u := U) (U := U.calling g mk a) (gw_Nl_on w hw) rfl (qn w hw), ⟨q2, q3, q4.go (u := U) (U := U.calling g mk a) (State.WarmedH.refl U) (fun _ _ _ => rfl)⟩, gb_ov (U := U) (U' := U.calling g mk a) rfl q5.1, gb_ov (U := U) (U' := U.calling g mk a) rfl q5.2⟩
def gb_M (l : Launch) (D : va_G) (ad : Nat → Nat) (ck : Nat → ClassId) (y : MethodName) (b : ByteArray) (rm : Room) (o : Nat) (c0 : gc_T) (ws2 : gl_T) (sz nz : Nat) : Prop :=
  Met l y (Cond.code y b 1 none :: gw_T) rm (gb_P D ad ck o c0 sz) (va_Qv (fun (_ : Unit) => True) (fun _ t => va_P D vwCl (gl_L ws2 ad ck) t.heap ∧ t.heap.size = sz + nz) (gb_A ad o sz)) rm.cells rm.slots (gb_A ad o sz)
def gb_R (b : ByteArray) (rm : Room) (x : gx_X) (ws2 : gl_T) (hz2 : Nat) : Prop := ∀ {k n hz pc : Nat} {lv : List (Nat × gv_V)}, k ≤ rm.cells → n ≤ rm.slots → hz = hz2 → decode b pc = .ok (.return_, 1) → gb_G 1 rm x k n hz ws2 pc lv []
theorem gb_M.of {l : Launch} {D : va_G} {ad : Nat → Nat} {ck : Nat → ClassId} {y : MethodName} {b : ByteArray} {rm : Room} {o : Nat} {c0 : gc_T} {ws2 : gl_T} {sz nz : Nat} (hy : plainName y.cls = true) (hnm : y.name = "<init>") (ho : o < 81)
    (h : ∀ x : gx_X, gx_l x = l → gx_D x = D → gx_ad x = ad → gx_ck x = ck → (gx_s x).heap.size = sz → gb_C y.cls b 1 x → gb_I x → gb_R b rm x ws2 (sz + nz) → gb_G 1 rm x 0 0 sz [(o, c0)] 0 [(0, gv_R o)] []) : gb_M l D ad ck y b rm o c0 ws2 sz nz := by
  refine Met.ofW (cc := b) (maxL := 1) (ret := none) hy rfl ?_
  intro p e s m args below meth c s₁ B hml hv
  obtain ⟨rfl, hsz, hP, hK, hnw, hE, hO9⟩ := hv
  have hts := atoms_spec (ws := Cond.code y b 1 none :: gw_T) B.pre
  have hown : s.vm.findClass y.cls = some m.cls := findClass_of_methodNamed B.named
  have hin : meth.name = "<init>" := ((name_of_methodNamed B.named B.method).1).trans hnm
  have hl := lv_entry ([Value.ref (ad o)]) (n := 1) (Nat.le_of_ble_eq_true rfl)
  rw [lg_entry_eq]
  have hAg : ∀ q, gb_A ad o sz q → ck 10 ≤ q := fun q hq => by
    rcases hq with rfl | hq
    · exact hE.1.1 o ho
    · exact Nat.le_trans (by rw [← hsz]; exact hE.2.1) hq
  have hD : va_D (gb_A ad o sz) (gl_L [(o, c0)] ad ck) := by
    refine ⟨fun i j p q hi hj _ => ?_, fun k q hk => ?_⟩
    · have h1 : i < 1 := (List.getElem?_eq_some_iff.mp hi).1
      have h2 : j < 1 := (List.getElem?_eq_some_iff.mp hj).1
      omega
    · have h1 : k < 1 := (List.getElem?_eq_some_iff.mp hk).1
      rw [show k = 0 by omega] at hk
      cases hk
      exact Or.inl rfl
  refine h (p, l, e, s, m, ([Value.ref (ad o)]).toArray, below, meth, c, _, D, gb_A ad o sz, ad, ck) rfl rfl rfl rfl hsz ⟨B.exec, B.bytes, hml, hown, fun w hw => hts w (List.mem_cons_of_mem _ hw), hnw, hK, fun q hq => Or.inr (by rw [← hsz]; exact hq), B.notSynchronized, hAg, hE, hO9⟩ hin ?_ s.heap [] _ hsz hP hD va_S.rf hl
  intro k n hz pc lv hk hn hhz hd
  intro H1 locs1 ls1 hh1 hP1 hD1 hS1 hl1
  refine W.widen (k := rm.cells) (n := rm.slots) hk hn ?_
  exact W.vret B.exec B.bytes B.returns (fun t ht hW => ⟨⟨(), rfl, trivial, by rw [ht]; exact hP1, by rw [ht, hh1, hhz]⟩, hS1.F ht⟩) hS1.2.2 hd B.notSynchronized
def gb_V (own : String) (i : Nat) (y : MethodName) (b : ByteArray) : Prop := (Cond.methodLink own i y ∈ gw_T ∨ ∃ host, Cond.methodLinkNest own i y host ∈ gw_Nl) ∧ Cond.instanceMethod y ∈ gw_T ∧ Cond.initialized y.cls ∈ gw_T ∧ Cond.code y b 1 none ∈ gw_T ∧ y.name = "<init>" ∧ (y.cls ≠ "java/lang/invoke/MethodHandle" ∧ y.cls ≠ "java/lang/invoke/VarHandle") ∧ (parseMethodDescriptor y.desc).map (fun d => d.parameters.length) = some 0
section GBV
variable {nL : Nat} {own : String} {cc : ByteArray} {R : Room} {x : gx_X} {k n hz : Nat} {ws : gl_T} {pc : Nat} {lv : List (Nat × gv_V)} {st : List gv_V}
theorem gb_call (hC : gb_C own cc nL x) {i o nz : Nat} {y : MethodName} {b : ByteArray} {rm : Room} {c0 : gc_T} {wa ws2 : gl_T} (hd : decode cc pc = .ok (.invokespecial i, 3)) (hV : gb_V own i y b) (hM : gb_M (gx_l x) (gx_D x) (gx_ad x) (gx_ck x) y b rm o c0 ws2 hz nz) (hws : ws = wa ++ [(o, c0)]) (hR : rm.frames + 1 ≤ R.frames ∧ 8 + (1 + 11) + rm.locals ≤ R.locals) (hf : k + rm.cells ≤ R.cells ∧ n + rm.slots ≤ R.slots) (hcat : gv_w st ≤ 8)
    (hnew : ∀ (j : Nat) (q : Nat × gc_T), ws2[j]? = some q → (j = 0 ∧ q.1 = o) ∨ (1 ≤ j ∧ gx_ad x q.1 = hz + (j - 1)))
    (kk : gb_G nL R x (k + rm.cells) (n + rm.slots) (hz + nz) (wa ++ ws2) (pc + 3) lv st) : gb_G nL R x k n hz ws pc lv (gv_R o :: st) := by
  obtain ⟨p, l, e, s, m, args, below, meth, c, Q, D, A, ad, ck⟩ := x
  obtain ⟨hx, hb, hml, hown, hts, hnw, hK, hA, hlk, hAg, hE, hO9⟩ := hC
  subst hws
  intro H locs ls hh hP hD hS hl
  subst hh
  obtain ⟨v1, v2, v3, v4, v5, v6, v7⟩ := hV
  have hAo : A (ad o) := hD.2 wa.length (ad o, gc_E ad ck c0) (gl_at (by simp))
  have hPo : va_at D vwCl (ad o, gc_E ad ck c0) H := gl_in.mp hP (o, c0) (List.mem_append_right _ List.mem_cons_self)
  have hFc : ∀ q, gb_A ad o H.size q → A q := fun q hq => by
    rcases hq with rfl | hq
    · exact hAo
    · exact hA q (Nat.le_trans hS.1 hq)
  have hpre : PreS s H (gb_P D ad ck o c0 H.size) (.ref (ad o) :: []) := ⟨gb_blind, fun U hU hW => ⟨rfl, by rw [hU], by rw [hU]; exact gl_in.mpr (fun q hq => by cases List.mem_singleton.mp hq; exact hPo), va_K.moved hW.alike hK, gw_warm hW hnw, hE.go hU hW hAg hS, hO9.warm hW⟩⟩
  have hrun : va_Run p l e R s m args below meth c H locs k n rm.cells rm.slots (F0 m pc ls ((gv_R o :: st).map (gv_v ad))) (st.map (gv_v ad)) (va_Qv (fun (_ : Unit) => True) (fun _ t => va_P D vwCl (gl_L ws2 ad ck) t.heap ∧ t.heap.size = H.size + nz) (gb_A ad o H.size) (Value.ref (ad o) :: []).toArray) (gb_A ad o H.size) := by
    rcases v1 with v1 | ⟨host, v1⟩
    · exact va_runI (As := []) (b := ad o) ⟨hx, hb, hml, hown, hts⟩ hM ⟨callB_of 0 hts (gw_good v4) rfl rfl rfl (hts _ v3) (hts _ v1) ⟨v6.1, v6.2, v7⟩ hR, v5, hts _ v2⟩ hpre rfl rfl hl.1 rfl (lv_room (by rw [gv_w_sum]; exact hcat)) hd hf
    · exact va_runIN (As := []) (b := ad o) ⟨hx, hb, hml, hown, hts⟩ hM ⟨va_cnB 0 hts (gw_good v4) rfl rfl rfl (hnw _ v1) (hts _ v3) ⟨v6.1, v6.2, v7⟩ hR, v5, hts _ v2⟩ hpre rfl rfl hl.1 rfl (lv_room (by rw [gv_w_sum]; exact hcat)) hd hf
  refine va_callv hrun hS (fun q _ h => hFc q h) hFc (fun u t H1 locs1 ht hvm hq hB hz1 hk1 hS1 => ?_)
  obtain ⟨hB1, hB2⟩ := hB
  rw [ht] at hB1 hB2
  have hwa : ∀ q ∈ wa, ad q.1 < H.size ∧ ad q.1 ≠ ad o := fun q hq => by
    refine ⟨(gl_in.mp hP q (List.mem_append_left _ hq)).lt, fun z => ?_⟩
    obtain ⟨i9, hi9⟩ := List.getElem?_of_mem hq
    have hlt : i9 < wa.length := (List.getElem?_eq_some_iff.mp hi9).1
    have h1 : (wa ++ [(o, c0)])[i9]? = some q := by rw [List.getElem?_append_left hlt]; exact hi9
    have h2 := hD.1 i9 wa.length (ad q.1, gc_E ad ck q.2) (ad o, gc_E ad ck c0) (gl_at (c := q.2) (o := q.1) h1) (gl_at (by simp)) z
    omega
  have hP1 : va_P D vwCl (gl_L (wa ++ ws2) ad ck) H1 := gl_in.mpr (fun q hq => by
    rcases List.mem_append.mp hq with h | h
    · refine (gl_in.mp hP q (List.mem_append_left _ h)).kept (hk1 _ (hwa q h).1 (fun z => ?_))
      have := hwa q h
      rcases z with z | z
      · exact this.2 z
      · omega
    · exact gl_in.mp hB1 q h)
  have hDwa : va_D A (gl_L wa ad ck) := by
    rw [gl_app] at hD
    refine ⟨fun i j p q hi hj he => hD.1 i j p q ?_ ?_ he, fun k q hk => hD.2 k q ?_⟩
    · rw [List.getElem?_append_left (List.getElem?_eq_some_iff.mp hi).1]; exact hi
    · rw [List.getElem?_append_left (List.getElem?_eq_some_iff.mp hj).1]; exact hj
    · rw [List.getElem?_append_left (List.getElem?_eq_some_iff.mp hk).1]; exact hk
  have hD1 : va_D A (gl_L (wa ++ ws2) ad ck) := by
    have hl0 : (gl_L wa ad ck).length = wa.length := List.length_map ..
    have hoh : ad o < H.size := hPo.lt
    have key : ∀ (k : Nat) (q : Nat × va_E), (gl_L (wa ++ ws2) ad ck)[k]? = some q → (k < wa.length ∧ (gl_L wa ad ck)[k]? = some q ∧ q.1 < H.size ∧ q.1 ≠ ad o) ∨ (k = wa.length ∧ q.1 = ad o) ∨ (wa.length < k ∧ q.1 = H.size + (k - wa.length - 1)) := by
      intro k q hk
      rw [gl_app] at hk
      by_cases h : k < wa.length
      · rw [List.getElem?_append_left (by omega)] at hk
        obtain ⟨z, hz, rfl⟩ := List.mem_map.mp (List.mem_of_getElem? hk)
        exact Or.inl ⟨h, hk, hwa z hz⟩
      · rw [List.getElem?_append_right (by omega), hl0] at hk
        unfold gl_L at hk
        rw [List.getElem?_map] at hk
        cases h2 : ws2[k - wa.length]? with
        | none => rw [h2] at hk; cases hk
        | some z =>
          rw [h2] at hk
          cases hk
          rcases hnew _ _ h2 with ⟨n1, n2⟩ | ⟨n1, n2⟩
          · refine Or.inr (Or.inl ⟨by omega, ?_⟩)
            show ad z.1 = ad o
            rw [n2]
          · exact Or.inr (Or.inr ⟨by omega, n2⟩)
    refine ⟨fun i j p q hi hj he => ?_, fun k q hk => ?_⟩
    · rcases key i p hi with ⟨a1, a2, a3, a4⟩ | ⟨a1, a2⟩ | ⟨a1, a2⟩ <;> rcases key j q hj with ⟨b1, b2, b3, b4⟩ | ⟨b1, b2⟩ | ⟨b1, b2⟩
      · exact hDwa.1 i j p q a2 b2 he
      · exact absurd (he.trans b2) a4
      · omega
      · exact absurd (he.symm.trans a2) b4
      · omega
      · omega
      · omega
      · omega
      · omega
    · rcases key k q hk with ⟨a1, a2, -⟩ | ⟨a1, a2⟩ | ⟨a1, a2⟩
      · exact hDwa.2 k q a2
      · rw [a2]; exact hAo
      · exact hA _ (by have := hS.1; omega)
  exact kk H1 locs1 ls hB2 hP1 hD1 hS1 hl
end GBV
