section
/-! UPDATES of a function at one place -/
def gz_u {α : Type} (f : Int → α) (i : Int) (x : α) : Int → α := fun j => if j = i then x else f j
def gz_ul (f : Int → Int64) (i : Int) (x : Int64) : Int → Int64 := fun j => if j = i then x else f j
theorem gz_us {α : Type} (f : Int → α) (i : Int) (x : α) : gz_u f i x i = x := if_pos rfl
theorem gz_un {α : Type} (f : Int → α) {i j : Int} (x : α) (h : j ≠ i) : gz_u f i x j = f j := if_neg h
theorem gz_uls (f : Int → Int64) (i : Int) (x : Int64) : gz_ul f i x i = x := if_pos rfl
theorem gz_uln (f : Int → Int64) {i j : Int} (x : Int64) (h : j ≠ i) : gz_ul f i x j = f j := if_neg h
end
section
-- ===== PART A: goes FIRST, ahead of the names: the tables' words, and 'selects' of the private methods out of them =====
/-- a private method of a class that the tables say can be made, by its rows of tables_1 -/
def lw_okq (q : MethodName × Nat) : Prop := (q.1.cls ≠ "java/lang/invoke/MethodHandle" ∧ q.1.cls ≠ "java/lang/invoke/VarHandle") ∧ Cond.instantiable q.1.cls q.2 ∈ tables_1 ∧ Cond.privateMethod q.1 ∈ tables_1 ∧ Cond.instanceMethod q.1 ∈ tables_1
theorem lw_p0 : lw_okq (⟨"PinSwaps", "cost", "(II)J"⟩, 6) := ⟨⟨by decide +kernel, by decide +kernel⟩, List.mem_of_getElem? (i := 17) (by decide +kernel), List.mem_of_getElem? (i := 219) (by decide +kernel), List.mem_of_getElem? (i := 220) (by decide +kernel)⟩
theorem lw_p1 : lw_okq (⟨"PinSwaps$History", "begin", "([II)[I"⟩, 4) := ⟨⟨by decide +kernel, by decide +kernel⟩, List.mem_of_getElem? (i := 150) (by decide +kernel), List.mem_of_getElem? (i := 227) (by decide +kernel), List.mem_of_getElem? (i := 228) (by decide +kernel)⟩
theorem lw_p2 : lw_okq (⟨"PinSwaps", "swapUnits", "(IZ[I)V"⟩, 6) := ⟨⟨by decide +kernel, by decide +kernel⟩, List.mem_of_getElem? (i := 17) (by decide +kernel), List.mem_of_getElem? (i := 234) (by decide +kernel), List.mem_of_getElem? (i := 235) (by decide +kernel)⟩
theorem lw_p3 : lw_okq (⟨"PinSwaps", "loadMatching", "(IZ)V"⟩, 6) := ⟨⟨by decide +kernel, by decide +kernel⟩, List.mem_of_getElem? (i := 17) (by decide +kernel), List.mem_of_getElem? (i := 238) (by decide +kernel), List.mem_of_getElem? (i := 239) (by decide +kernel)⟩
theorem lw_p4 : lw_okq (⟨"PinSwaps$Pins", "isFreeUnit", "(IZ)Z"⟩, 12) := ⟨⟨by decide +kernel, by decide +kernel⟩, List.mem_of_getElem? (i := 25) (by decide +kernel), List.mem_of_getElem? (i := 242) (by decide +kernel), List.mem_of_getElem? (i := 243) (by decide +kernel)⟩
theorem lw_p5 : lw_okq (⟨"PinSwaps$Pins", "isPaired", "(I)Z"⟩, 12) := ⟨⟨by decide +kernel, by decide +kernel⟩, List.mem_of_getElem? (i := 25) (by decide +kernel), List.mem_of_getElem? (i := 246) (by decide +kernel), List.mem_of_getElem? (i := 247) (by decide +kernel)⟩
theorem lw_p6 : lw_okq (⟨"PinSwaps$Pins", "isUnitLocked", "(I)Z"⟩, 12) := ⟨⟨by decide +kernel, by decide +kernel⟩, List.mem_of_getElem? (i := 25) (by decide +kernel), List.mem_of_getElem? (i := 250) (by decide +kernel), List.mem_of_getElem? (i := 251) (by decide +kernel)⟩
theorem lw_p7 : lw_okq (⟨"PinSwaps$Matching", "add", "(I)V"⟩, 10) := ⟨⟨by decide +kernel, by decide +kernel⟩, List.mem_of_getElem? (i := 107) (by decide +kernel), List.mem_of_getElem? (i := 254) (by decide +kernel), List.mem_of_getElem? (i := 255) (by decide +kernel)⟩
theorem lw_p8 : lw_okq (⟨"PinSwaps", "unitCost", "(II)J"⟩, 6) := ⟨⟨by decide +kernel, by decide +kernel⟩, List.mem_of_getElem? (i := 17) (by decide +kernel), List.mem_of_getElem? (i := 258) (by decide +kernel), List.mem_of_getElem? (i := 259) (by decide +kernel)⟩
theorem lw_p9 : lw_okq (⟨"PinSwaps$Matching", "solve", "()J"⟩, 10) := ⟨⟨by decide +kernel, by decide +kernel⟩, List.mem_of_getElem? (i := 107) (by decide +kernel), List.mem_of_getElem? (i := 263) (by decide +kernel), List.mem_of_getElem? (i := 264) (by decide +kernel)⟩
theorem lw_p10 : lw_okq (⟨"PinSwaps$Matching", "insert", "(I)V"⟩, 10) := ⟨⟨by decide +kernel, by decide +kernel⟩, List.mem_of_getElem? (i := 107) (by decide +kernel), List.mem_of_getElem? (i := 271) (by decide +kernel), List.mem_of_getElem? (i := 272) (by decide +kernel)⟩
theorem lw_p11 : lw_okq (⟨"PinSwaps$Matching", "forgetSeen", "()V"⟩, 10) := ⟨⟨by decide +kernel, by decide +kernel⟩, List.mem_of_getElem? (i := 107) (by decide +kernel), List.mem_of_getElem? (i := 275) (by decide +kernel), List.mem_of_getElem? (i := 276) (by decide +kernel)⟩
theorem lw_p12 : lw_okq (⟨"PinSwaps$Matching", "nextColumn", "(I)I"⟩, 10) := ⟨⟨by decide +kernel, by decide +kernel⟩, List.mem_of_getElem? (i := 107) (by decide +kernel), List.mem_of_getElem? (i := 280) (by decide +kernel), List.mem_of_getElem? (i := 281) (by decide +kernel)⟩
theorem lw_p13 : lw_okq (⟨"PinSwaps$Matching", "extraCost", "(II)J"⟩, 10) := ⟨⟨by decide +kernel, by decide +kernel⟩, List.mem_of_getElem? (i := 107) (by decide +kernel), List.mem_of_getElem? (i := 284) (by decide +kernel), List.mem_of_getElem? (i := 285) (by decide +kernel)⟩
theorem lw_p14 : lw_okq (⟨"PinSwaps$Matching", "changePrices", "(J)V"⟩, 10) := ⟨⟨by decide +kernel, by decide +kernel⟩, List.mem_of_getElem? (i := 107) (by decide +kernel), List.mem_of_getElem? (i := 288) (by decide +kernel), List.mem_of_getElem? (i := 289) (by decide +kernel)⟩
theorem lw_p15 : lw_okq (⟨"PinSwaps$Matching", "moveAlong", "(I)V"⟩, 10) := ⟨⟨by decide +kernel, by decide +kernel⟩, List.mem_of_getElem? (i := 107) (by decide +kernel), List.mem_of_getElem? (i := 292) (by decide +kernel), List.mem_of_getElem? (i := 293) (by decide +kernel)⟩
def lw_privs_1 : List (MethodName × Nat) := [(⟨"PinSwaps", "cost", "(II)J"⟩, 6), (⟨"PinSwaps$History", "begin", "([II)[I"⟩, 4), (⟨"PinSwaps", "swapUnits", "(IZ[I)V"⟩, 6), (⟨"PinSwaps", "loadMatching", "(IZ)V"⟩, 6), (⟨"PinSwaps$Pins", "isFreeUnit", "(IZ)Z"⟩, 12), (⟨"PinSwaps$Pins", "isPaired", "(I)Z"⟩, 12), (⟨"PinSwaps$Pins", "isUnitLocked", "(I)Z"⟩, 12), (⟨"PinSwaps$Matching", "add", "(I)V"⟩, 10), (⟨"PinSwaps", "unitCost", "(II)J"⟩, 6), (⟨"PinSwaps$Matching", "solve", "()J"⟩, 10), (⟨"PinSwaps$Matching", "insert", "(I)V"⟩, 10), (⟨"PinSwaps$Matching", "forgetSeen", "()V"⟩, 10), (⟨"PinSwaps$Matching", "nextColumn", "(I)I"⟩, 10), (⟨"PinSwaps$Matching", "extraCost", "(II)J"⟩, 10), (⟨"PinSwaps$Matching", "changePrices", "(J)V"⟩, 10), (⟨"PinSwaps$Matching", "moveAlong", "(I)V"⟩, 10)]
theorem lw_r1 : ∀ q ∈ lw_privs_1, lw_okq q := List.forall_mem_cons.mpr ⟨lw_p0, List.forall_mem_cons.mpr ⟨lw_p1, List.forall_mem_cons.mpr ⟨lw_p2, List.forall_mem_cons.mpr ⟨lw_p3, List.forall_mem_cons.mpr ⟨lw_p4, List.forall_mem_cons.mpr ⟨lw_p5, List.forall_mem_cons.mpr ⟨lw_p6, List.forall_mem_cons.mpr ⟨lw_p7, List.forall_mem_cons.mpr ⟨lw_p8, List.forall_mem_cons.mpr ⟨lw_p9, List.forall_mem_cons.mpr ⟨lw_p10, List.forall_mem_cons.mpr ⟨lw_p11, List.forall_mem_cons.mpr ⟨lw_p12, List.forall_mem_cons.mpr ⟨lw_p13, List.forall_mem_cons.mpr ⟨lw_p14, List.forall_mem_cons.mpr ⟨lw_p15, fun _ h => absurd h List.not_mem_nil⟩⟩⟩⟩⟩⟩⟩⟩⟩⟩⟩⟩⟩⟩⟩⟩
theorem lw_p16 : lw_okq (⟨"PinSwaps$Matching", "sumIfKept", "()J"⟩, 10) := ⟨⟨by decide +kernel, by decide +kernel⟩, List.mem_of_getElem? (i := 107) (by decide +kernel), List.mem_of_getElem? (i := 296) (by decide +kernel), List.mem_of_getElem? (i := 297) (by decide +kernel)⟩
theorem lw_p17 : lw_okq (⟨"PinSwaps$Matching", "settleTies", "()V"⟩, 10) := ⟨⟨by decide +kernel, by decide +kernel⟩, List.mem_of_getElem? (i := 107) (by decide +kernel), List.mem_of_getElem? (i := 300) (by decide +kernel), List.mem_of_getElem? (i := 301) (by decide +kernel)⟩
theorem lw_p18 : lw_okq (⟨"PinSwaps$Matching", "takes", "(II)Z"⟩, 10) := ⟨⟨by decide +kernel, by decide +kernel⟩, List.mem_of_getElem? (i := 107) (by decide +kernel), List.mem_of_getElem? (i := 304) (by decide +kernel), List.mem_of_getElem? (i := 305) (by decide +kernel)⟩
theorem lw_p19 : lw_okq (⟨"PinSwaps$Matching", "columnOf", "(I)I"⟩, 10) := ⟨⟨by decide +kernel, by decide +kernel⟩, List.mem_of_getElem? (i := 107) (by decide +kernel), List.mem_of_getElem? (i := 308) (by decide +kernel), List.mem_of_getElem? (i := 309) (by decide +kernel)⟩
theorem lw_p20 : lw_okq (⟨"PinSwaps$Matching", "reaches", "(III)Z"⟩, 10) := ⟨⟨by decide +kernel, by decide +kernel⟩, List.mem_of_getElem? (i := 107) (by decide +kernel), List.mem_of_getElem? (i := 312) (by decide +kernel), List.mem_of_getElem? (i := 313) (by decide +kernel)⟩
theorem lw_p21 : lw_okq (⟨"PinSwaps$Matching", "queueFrom", "(III)I"⟩, 10) := ⟨⟨by decide +kernel, by decide +kernel⟩, List.mem_of_getElem? (i := 107) (by decide +kernel), List.mem_of_getElem? (i := 316) (by decide +kernel), List.mem_of_getElem? (i := 317) (by decide +kernel)⟩
theorem lw_p22 : lw_okq (⟨"PinSwaps", "giveNets", "(II[I)V"⟩, 6) := ⟨⟨by decide +kernel, by decide +kernel⟩, List.mem_of_getElem? (i := 17) (by decide +kernel), List.mem_of_getElem? (i := 320) (by decide +kernel), List.mem_of_getElem? (i := 321) (by decide +kernel)⟩
theorem lw_p23 : lw_okq (⟨"PinSwaps", "countChanged", "([I)I"⟩, 6) := ⟨⟨by decide +kernel, by decide +kernel⟩, List.mem_of_getElem? (i := 17) (by decide +kernel), List.mem_of_getElem? (i := 324) (by decide +kernel), List.mem_of_getElem? (i := 325) (by decide +kernel)⟩
theorem lw_p24 : lw_okq (⟨"PinSwaps$History", "keep", "()V"⟩, 4) := ⟨⟨by decide +kernel, by decide +kernel⟩, List.mem_of_getElem? (i := 150) (by decide +kernel), List.mem_of_getElem? (i := 328) (by decide +kernel), List.mem_of_getElem? (i := 329) (by decide +kernel)⟩
theorem lw_p25 : lw_okq (⟨"PinSwaps$History", "restore", "([I)Z"⟩, 4) := ⟨⟨by decide +kernel, by decide +kernel⟩, List.mem_of_getElem? (i := 150) (by decide +kernel), List.mem_of_getElem? (i := 341) (by decide +kernel), List.mem_of_getElem? (i := 342) (by decide +kernel)⟩
theorem lw_p26 : lw_okq (⟨"PinSwaps", "waysCross", "(II)Z"⟩, 6) := ⟨⟨by decide +kernel, by decide +kernel⟩, List.mem_of_getElem? (i := 17) (by decide +kernel), List.mem_of_getElem? (i := 349) (by decide +kernel), List.mem_of_getElem? (i := 350) (by decide +kernel)⟩
theorem lw_p27 : lw_okq (⟨"PinSwaps", "partsEnds", "(II)Z"⟩, 6) := ⟨⟨by decide +kernel, by decide +kernel⟩, List.mem_of_getElem? (i := 17) (by decide +kernel), List.mem_of_getElem? (i := 353) (by decide +kernel), List.mem_of_getElem? (i := 354) (by decide +kernel)⟩
theorem lw_p28 : lw_okq (⟨"PinSwaps", "sideOfWay", "(IJJ)J"⟩, 6) := ⟨⟨by decide +kernel, by decide +kernel⟩, List.mem_of_getElem? (i := 17) (by decide +kernel), List.mem_of_getElem? (i := 357) (by decide +kernel), List.mem_of_getElem? (i := 358) (by decide +kernel)⟩
theorem lw_p29 : lw_okq (⟨"java/lang/Throwable", "fillInStackTrace", "(I)Ljava/lang/Throwable;"⟩, 6) := ⟨⟨by decide +kernel, by decide +kernel⟩, List.mem_of_getElem? (i := 407) (by decide +kernel), List.mem_of_getElem? (i := 405) (by decide +kernel), List.mem_of_getElem? (i := 406) (by decide +kernel)⟩
theorem lw_p30 : lw_okq (⟨"PinSwaps$Pins", "add", "(IJJI)I"⟩, 12) := ⟨⟨by decide +kernel, by decide +kernel⟩, List.mem_of_getElem? (i := 25) (by decide +kernel), List.mem_of_getElem? (i := 462) (by decide +kernel), List.mem_of_getElem? (i := 463) (by decide +kernel)⟩
theorem lw_p31 : lw_okq (⟨"PinSwaps$Nets", "aim", "(IJJ)Z"⟩, 4) := ⟨⟨by decide +kernel, by decide +kernel⟩, List.mem_of_getElem? (i := 81) (by decide +kernel), List.mem_of_getElem? (i := 476) (by decide +kernel), List.mem_of_getElem? (i := 477) (by decide +kernel)⟩
def lw_privs_2 : List (MethodName × Nat) := [(⟨"PinSwaps$Matching", "sumIfKept", "()J"⟩, 10), (⟨"PinSwaps$Matching", "settleTies", "()V"⟩, 10), (⟨"PinSwaps$Matching", "takes", "(II)Z"⟩, 10), (⟨"PinSwaps$Matching", "columnOf", "(I)I"⟩, 10), (⟨"PinSwaps$Matching", "reaches", "(III)Z"⟩, 10), (⟨"PinSwaps$Matching", "queueFrom", "(III)I"⟩, 10), (⟨"PinSwaps", "giveNets", "(II[I)V"⟩, 6), (⟨"PinSwaps", "countChanged", "([I)I"⟩, 6), (⟨"PinSwaps$History", "keep", "()V"⟩, 4), (⟨"PinSwaps$History", "restore", "([I)Z"⟩, 4), (⟨"PinSwaps", "waysCross", "(II)Z"⟩, 6), (⟨"PinSwaps", "partsEnds", "(II)Z"⟩, 6), (⟨"PinSwaps", "sideOfWay", "(IJJ)J"⟩, 6), (⟨"java/lang/Throwable", "fillInStackTrace", "(I)Ljava/lang/Throwable;"⟩, 6), (⟨"PinSwaps$Pins", "add", "(IJJI)I"⟩, 12), (⟨"PinSwaps$Nets", "aim", "(IJJ)Z"⟩, 4)]
theorem lw_r2 : ∀ q ∈ lw_privs_2, lw_okq q := List.forall_mem_cons.mpr ⟨lw_p16, List.forall_mem_cons.mpr ⟨lw_p17, List.forall_mem_cons.mpr ⟨lw_p18, List.forall_mem_cons.mpr ⟨lw_p19, List.forall_mem_cons.mpr ⟨lw_p20, List.forall_mem_cons.mpr ⟨lw_p21, List.forall_mem_cons.mpr ⟨lw_p22, List.forall_mem_cons.mpr ⟨lw_p23, List.forall_mem_cons.mpr ⟨lw_p24, List.forall_mem_cons.mpr ⟨lw_p25, List.forall_mem_cons.mpr ⟨lw_p26, List.forall_mem_cons.mpr ⟨lw_p27, List.forall_mem_cons.mpr ⟨lw_p28, List.forall_mem_cons.mpr ⟨lw_p29, List.forall_mem_cons.mpr ⟨lw_p30, List.forall_mem_cons.mpr ⟨lw_p31, fun _ h => absurd h List.not_mem_nil⟩⟩⟩⟩⟩⟩⟩⟩⟩⟩⟩⟩⟩⟩⟩⟩
theorem lw_p32 : lw_okq (⟨"PinSwaps", "checkPin", "(I)V"⟩, 6) := ⟨⟨by decide +kernel, by decide +kernel⟩, List.mem_of_getElem? (i := 17) (by decide +kernel), List.mem_of_getElem? (i := 487) (by decide +kernel), List.mem_of_getElem? (i := 488) (by decide +kernel)⟩
theorem lw_p33 : lw_okq (⟨"PinSwaps$Pins", "join", "(II)V"⟩, 12) := ⟨⟨by decide +kernel, by decide +kernel⟩, List.mem_of_getElem? (i := 25) (by decide +kernel), List.mem_of_getElem? (i := 499) (by decide +kernel), List.mem_of_getElem? (i := 500) (by decide +kernel)⟩
theorem lw_p34 : lw_okq (⟨"PinSwaps$Pins", "unitOf", "(I)I"⟩, 12) := ⟨⟨by decide +kernel, by decide +kernel⟩, List.mem_of_getElem? (i := 25) (by decide +kernel), List.mem_of_getElem? (i := 534) (by decide +kernel), List.mem_of_getElem? (i := 535) (by decide +kernel)⟩
theorem lw_p35 : lw_okq (⟨"PinSwaps$Matching", "forbidOthers", "(I)V"⟩, 10) := ⟨⟨by decide +kernel, by decide +kernel⟩, List.mem_of_getElem? (i := 107) (by decide +kernel), List.mem_of_getElem? (i := 540) (by decide +kernel), List.mem_of_getElem? (i := 541) (by decide +kernel)⟩
theorem lw_p36 : lw_okq (⟨"PinSwaps$Matching", "rowOfUnit", "(I)I"⟩, 10) := ⟨⟨by decide +kernel, by decide +kernel⟩, List.mem_of_getElem? (i := 107) (by decide +kernel), List.mem_of_getElem? (i := 544) (by decide +kernel), List.mem_of_getElem? (i := 545) (by decide +kernel)⟩
theorem lw_p37 : lw_okq (⟨"PinSwaps$Matching", "forbidOwn", "(I)V"⟩, 10) := ⟨⟨by decide +kernel, by decide +kernel⟩, List.mem_of_getElem? (i := 107) (by decide +kernel), List.mem_of_getElem? (i := 549) (by decide +kernel), List.mem_of_getElem? (i := 550) (by decide +kernel)⟩
theorem lw_p38 : lw_okq (⟨"PinSwaps$Pins", "nthMoved", "(I)I"⟩, 12) := ⟨⟨by decide +kernel, by decide +kernel⟩, List.mem_of_getElem? (i := 25) (by decide +kernel), List.mem_of_getElem? (i := 560) (by decide +kernel), List.mem_of_getElem? (i := 561) (by decide +kernel)⟩
theorem lw_p39 : lw_okq (⟨"PinSwaps$Gates", "add", "(II)I"⟩, 3) := ⟨⟨by decide +kernel, by decide +kernel⟩, List.mem_of_getElem? (i := 171) (by decide +kernel), List.mem_of_getElem? (i := 575) (by decide +kernel), List.mem_of_getElem? (i := 576) (by decide +kernel)⟩
theorem lw_p40 : lw_okq (⟨"PinSwaps$Gates", "areEqual", "(II)Z"⟩, 3) := ⟨⟨by decide +kernel, by decide +kernel⟩, List.mem_of_getElem? (i := 171) (by decide +kernel), List.mem_of_getElem? (i := 587) (by decide +kernel), List.mem_of_getElem? (i := 588) (by decide +kernel)⟩
theorem lw_p41 : lw_okq (⟨"PinSwapsModel", "isPin", "(I)Z"⟩, 29) := ⟨⟨by decide +kernel, by decide +kernel⟩, List.mem_of_getElem? (i := 601) (by decide +kernel), List.mem_of_getElem? (i := 723) (by decide +kernel), List.mem_of_getElem? (i := 724) (by decide +kernel)⟩
theorem lw_p42 : lw_okq (⟨"PinSwapsModel", "sumOf", "()J"⟩, 29) := ⟨⟨by decide +kernel, by decide +kernel⟩, List.mem_of_getElem? (i := 601) (by decide +kernel), List.mem_of_getElem? (i := 743) (by decide +kernel), List.mem_of_getElem? (i := 744) (by decide +kernel)⟩
theorem lw_p43 : lw_okq (⟨"PinSwapsModel", "cost", "(II)J"⟩, 29) := ⟨⟨by decide +kernel, by decide +kernel⟩, List.mem_of_getElem? (i := 601) (by decide +kernel), List.mem_of_getElem? (i := 747) (by decide +kernel), List.mem_of_getElem? (i := 748) (by decide +kernel)⟩
theorem lw_p44 : lw_okq (⟨"PinSwapsModel", "match", "(IZ)V"⟩, 29) := ⟨⟨by decide +kernel, by decide +kernel⟩, List.mem_of_getElem? (i := 601) (by decide +kernel), List.mem_of_getElem? (i := 763) (by decide +kernel), List.mem_of_getElem? (i := 764) (by decide +kernel)⟩
theorem lw_p45 : lw_okq (⟨"PinSwapsModel", "reckon", "(IZII)V"⟩, 29) := ⟨⟨by decide +kernel, by decide +kernel⟩, List.mem_of_getElem? (i := 601) (by decide +kernel), List.mem_of_getElem? (i := 767) (by decide +kernel), List.mem_of_getElem? (i := 768) (by decide +kernel)⟩
theorem lw_p46 : lw_okq (⟨"PinSwapsModel", "isUnit", "(IIZ)Z"⟩, 29) := ⟨⟨by decide +kernel, by decide +kernel⟩, List.mem_of_getElem? (i := 601) (by decide +kernel), List.mem_of_getElem? (i := 771) (by decide +kernel), List.mem_of_getElem? (i := 772) (by decide +kernel)⟩
theorem lw_p47 : lw_okq (⟨"PinSwapsModel", "unitCost", "(IIZ)J"⟩, 29) := ⟨⟨by decide +kernel, by decide +kernel⟩, List.mem_of_getElem? (i := 601) (by decide +kernel), List.mem_of_getElem? (i := 776) (by decide +kernel), List.mem_of_getElem? (i := 777) (by decide +kernel)⟩
def lw_privs_3 : List (MethodName × Nat) := [(⟨"PinSwaps", "checkPin", "(I)V"⟩, 6), (⟨"PinSwaps$Pins", "join", "(II)V"⟩, 12), (⟨"PinSwaps$Pins", "unitOf", "(I)I"⟩, 12), (⟨"PinSwaps$Matching", "forbidOthers", "(I)V"⟩, 10), (⟨"PinSwaps$Matching", "rowOfUnit", "(I)I"⟩, 10), (⟨"PinSwaps$Matching", "forbidOwn", "(I)V"⟩, 10), (⟨"PinSwaps$Pins", "nthMoved", "(I)I"⟩, 12), (⟨"PinSwaps$Gates", "add", "(II)I"⟩, 3), (⟨"PinSwaps$Gates", "areEqual", "(II)Z"⟩, 3), (⟨"PinSwapsModel", "isPin", "(I)Z"⟩, 29), (⟨"PinSwapsModel", "sumOf", "()J"⟩, 29), (⟨"PinSwapsModel", "cost", "(II)J"⟩, 29), (⟨"PinSwapsModel", "match", "(IZ)V"⟩, 29), (⟨"PinSwapsModel", "reckon", "(IZII)V"⟩, 29), (⟨"PinSwapsModel", "isUnit", "(IIZ)Z"⟩, 29), (⟨"PinSwapsModel", "unitCost", "(IIZ)J"⟩, 29)]
theorem lw_r3 : ∀ q ∈ lw_privs_3, lw_okq q := List.forall_mem_cons.mpr ⟨lw_p32, List.forall_mem_cons.mpr ⟨lw_p33, List.forall_mem_cons.mpr ⟨lw_p34, List.forall_mem_cons.mpr ⟨lw_p35, List.forall_mem_cons.mpr ⟨lw_p36, List.forall_mem_cons.mpr ⟨lw_p37, List.forall_mem_cons.mpr ⟨lw_p38, List.forall_mem_cons.mpr ⟨lw_p39, List.forall_mem_cons.mpr ⟨lw_p40, List.forall_mem_cons.mpr ⟨lw_p41, List.forall_mem_cons.mpr ⟨lw_p42, List.forall_mem_cons.mpr ⟨lw_p43, List.forall_mem_cons.mpr ⟨lw_p44, List.forall_mem_cons.mpr ⟨lw_p45, List.forall_mem_cons.mpr ⟨lw_p46, List.forall_mem_cons.mpr ⟨lw_p47, fun _ h => absurd h List.not_mem_nil⟩⟩⟩⟩⟩⟩⟩⟩⟩⟩⟩⟩⟩⟩⟩⟩
theorem lw_p48 : lw_okq (⟨"PinSwapsModel", "choose", "()V"⟩, 29) := ⟨⟨by decide +kernel, by decide +kernel⟩, List.mem_of_getElem? (i := 601) (by decide +kernel), List.mem_of_getElem? (i := 783) (by decide +kernel), List.mem_of_getElem? (i := 784) (by decide +kernel)⟩
theorem lw_p49 : lw_okq (⟨"PinSwapsModel", "sumNow", "()J"⟩, 29) := ⟨⟨by decide +kernel, by decide +kernel⟩, List.mem_of_getElem? (i := 601) (by decide +kernel), List.mem_of_getElem? (i := 787) (by decide +kernel), List.mem_of_getElem? (i := 788) (by decide +kernel)⟩
theorem lw_p50 : lw_okq (⟨"PinSwapsModel", "fits", "(III)Z"⟩, 29) := ⟨⟨by decide +kernel, by decide +kernel⟩, List.mem_of_getElem? (i := 601) (by decide +kernel), List.mem_of_getElem? (i := 791) (by decide +kernel), List.mem_of_getElem? (i := 792) (by decide +kernel)⟩
theorem lw_p51 : lw_okq (⟨"PinSwapsModel", "keepNets", "()V"⟩, 29) := ⟨⟨by decide +kernel, by decide +kernel⟩, List.mem_of_getElem? (i := 601) (by decide +kernel), List.mem_of_getElem? (i := 795) (by decide +kernel), List.mem_of_getElem? (i := 796) (by decide +kernel)⟩
theorem lw_p52 : lw_okq (⟨"PinSwapsModel", "isSo", "(III)Z"⟩, 29) := ⟨⟨by decide +kernel, by decide +kernel⟩, List.mem_of_getElem? (i := 601) (by decide +kernel), List.mem_of_getElem? (i := 828) (by decide +kernel), List.mem_of_getElem? (i := 829) (by decide +kernel)⟩
theorem lw_p53 : lw_okq (⟨"PinSwapsModel", "cross", "(II)Z"⟩, 29) := ⟨⟨by decide +kernel, by decide +kernel⟩, List.mem_of_getElem? (i := 601) (by decide +kernel), List.mem_of_getElem? (i := 836) (by decide +kernel), List.mem_of_getElem? (i := 837) (by decide +kernel)⟩
def lw_privs_4 : List (MethodName × Nat) := [(⟨"PinSwapsModel", "choose", "()V"⟩, 29), (⟨"PinSwapsModel", "sumNow", "()J"⟩, 29), (⟨"PinSwapsModel", "fits", "(III)Z"⟩, 29), (⟨"PinSwapsModel", "keepNets", "()V"⟩, 29), (⟨"PinSwapsModel", "isSo", "(III)Z"⟩, 29), (⟨"PinSwapsModel", "cross", "(II)Z"⟩, 29)]
theorem lw_r4 : ∀ q ∈ lw_privs_4, lw_okq q := List.forall_mem_cons.mpr ⟨lw_p48, List.forall_mem_cons.mpr ⟨lw_p49, List.forall_mem_cons.mpr ⟨lw_p50, List.forall_mem_cons.mpr ⟨lw_p51, List.forall_mem_cons.mpr ⟨lw_p52, List.forall_mem_cons.mpr ⟨lw_p53, fun _ h => absurd h List.not_mem_nil⟩⟩⟩⟩⟩⟩
def lw_privs : List (MethodName × Nat) := lw_privs_1 ++ (lw_privs_2 ++ (lw_privs_3 ++ (lw_privs_4)))
def lw_tbl : List Cond := k2_sels lw_privs ++ tables_1
theorem lw_privs_ok : ∀ q ∈ lw_privs, lw_okq q := by
  show ∀ q ∈ lw_privs_1 ++ (lw_privs_2 ++ (lw_privs_3 ++ (lw_privs_4))), lw_okq q
  exact List.forall_mem_append.mpr ⟨lw_r1, List.forall_mem_append.mpr ⟨lw_r2, List.forall_mem_append.mpr ⟨lw_r3, lw_r4⟩⟩⟩
end
section
/-! THE WORDS: those of the tables that every walk may use; and those of nest mates, which are carried beside -/
def gw_T : List Cond := lw_tbl.filter goodWord
def gw_isN : Cond → Bool
  | .fieldLinkNest .. => true
  | .methodLinkNest .. => true
  | _ => false
def gw_Nl : List Cond := lw_tbl.filter gw_isN
theorem gw_in {w : Cond} (i : Nat) (h : lw_tbl[i]? = some w) (hg : goodWord w = true) : w ∈ gw_T := List.mem_filter.mpr ⟨List.mem_of_getElem? h, hg⟩
theorem gw_inN {w : Cond} (i : Nat) (h : lw_tbl[i]? = some w) (hg : gw_isN w = true) : w ∈ gw_Nl := List.mem_filter.mpr ⟨List.mem_of_getElem? h, hg⟩
theorem gw_all {ws : List Cond} (h : ∀ w ∈ ws, w ∈ lw_tbl) (hg : ws.all goodWord = true) : ∀ w ∈ ws, w ∈ gw_T := fun w hw => List.mem_filter.mpr ⟨h w hw, List.all_eq_true.mp hg w hw⟩
def ft_PS : u_T := fun k => match k with
  | 0 => ("PinSwaps", "pins", "LPinSwaps$Pins;", true)
  | 1 => ("PinSwaps", "nets", "LPinSwaps$Nets;", true)
  | 2 => ("PinSwaps", "matching", "LPinSwaps$Matching;", true)
  | 3 => ("PinSwaps", "history", "LPinSwaps$History;", true)
  | 4 => ("PinSwaps", "gates", "LPinSwaps$Gates;", true)
  | _ => ("PinSwaps", "sumBefore", "J", false)
def ty_PS : Nat → FieldType := fun k => match k with
  | 0 => .object "PinSwaps$Pins"
  | 1 => .object "PinSwaps$Nets"
  | 2 => .object "PinSwaps$Matching"
  | 3 => .object "PinSwaps$History"
  | 4 => .object "PinSwaps$Gates"
  | _ => .long
theorem nm_PS : ∀ a, a < 6 → ∀ b, b < 6 → a ≠ b → (ft_PS a).2.1 ≠ (ft_PS b).2.1 := by decide +kernel
theorem ty_PS_ok : ∀ k, k < 6 → parseFieldDescriptor (ft_PS k).2.2.1 = some (ty_PS k) := by decide +kernel
theorem wi_PS : ∀ w ∈ u_ws "PinSwaps" ft_PS 6, w ∈ gw_T := gw_all (by decide +kernel) (by decide +kernel)
def ft_Gt : u_T := fun k => match k with
  | 0 => ("PinSwaps$Gates", "count", "I", false)
  | 1 => ("PinSwaps$Gates", "inputs", "[I", true)
  | _ => ("PinSwaps$Gates", "table", "[I", true)
def ty_Gt : Nat → FieldType := fun k => match k with
  | 0 => .int
  | 1 => .array .int
  | _ => .array .int
theorem nm_Gt : ∀ a, a < 3 → ∀ b, b < 3 → a ≠ b → (ft_Gt a).2.1 ≠ (ft_Gt b).2.1 := by decide +kernel
theorem ty_Gt_ok : ∀ k, k < 3 → parseFieldDescriptor (ft_Gt k).2.2.1 = some (ty_Gt k) := by decide +kernel
theorem wi_Gt : ∀ w ∈ u_ws "PinSwaps$Gates" ft_Gt 3, w ∈ gw_T := gw_all (by decide +kernel) (by decide +kernel)
def ft_Hi : u_T := fun k => match k with
  | 0 => ("PinSwaps$History", "nets", "[[I", true)
  | 1 => ("PinSwaps$History", "pinCount", "[I", true)
  | 2 => ("PinSwaps$History", "slot", "I", false)
  | _ => ("PinSwaps$History", "kept", "I", false)
def ty_Hi : Nat → FieldType := fun k => match k with
  | 0 => .array (.array .int)
  | 1 => .array .int
  | 2 => .int
  | _ => .int
theorem nm_Hi : ∀ a, a < 4 → ∀ b, b < 4 → a ≠ b → (ft_Hi a).2.1 ≠ (ft_Hi b).2.1 := by decide +kernel
theorem ty_Hi_ok : ∀ k, k < 4 → parseFieldDescriptor (ft_Hi k).2.2.1 = some (ty_Hi k) := by decide +kernel
theorem wi_Hi : ∀ w ∈ u_ws "PinSwaps$History" ft_Hi 4, w ∈ gw_T := gw_all (by decide +kernel) (by decide +kernel)
def ft_Ma : u_T := fun k => match k with
  | 0 => ("PinSwaps$Matching", "size", "I", false)
  | 1 => ("PinSwaps$Matching", "unit", "[I", true)
  | 2 => ("PinSwaps$Matching", "cost", "[[J", true)
  | 3 => ("PinSwaps$Matching", "rowPrice", "[J", true)
  | 4 => ("PinSwaps$Matching", "colPrice", "[J", true)
  | 5 => ("PinSwaps$Matching", "rowOf", "[I", true)
  | 6 => ("PinSwaps$Matching", "cameFrom", "[I", true)
  | 7 => ("PinSwaps$Matching", "slack", "[J", true)
  | 8 => ("PinSwaps$Matching", "seen", "[Z", true)
  | _ => ("PinSwaps$Matching", "queue", "[I", true)
def ty_Ma : Nat → FieldType := fun k => match k with
  | 0 => .int
  | 1 => .array .int
  | 2 => .array (.array .long)
  | 3 => .array .long
  | 4 => .array .long
  | 5 => .array .int
  | 6 => .array .int
  | 7 => .array .long
  | 8 => .array .boolean
  | _ => .array .int
theorem nm_Ma : ∀ a, a < 10 → ∀ b, b < 10 → a ≠ b → (ft_Ma a).2.1 ≠ (ft_Ma b).2.1 := by decide +kernel
theorem ty_Ma_ok : ∀ k, k < 10 → parseFieldDescriptor (ft_Ma k).2.2.1 = some (ty_Ma k) := by decide +kernel
theorem wi_Ma : ∀ w ∈ u_ws "PinSwaps$Matching" ft_Ma 10, w ∈ gw_T := gw_all (by decide +kernel) (by decide +kernel)
def ft_Ne : u_T := fun k => match k with
  | 0 => ("PinSwaps$Nets", "aimed", "[Z", true)
  | 1 => ("PinSwaps$Nets", "x", "[J", true)
  | 2 => ("PinSwaps$Nets", "y", "[J", true)
  | _ => ("PinSwaps$Nets", "neededBank", "[I", true)
def ty_Ne : Nat → FieldType := fun k => match k with
  | 0 => .array .boolean
  | 1 => .array .long
  | 2 => .array .long
  | _ => .array .int
theorem nm_Ne : ∀ a, a < 4 → ∀ b, b < 4 → a ≠ b → (ft_Ne a).2.1 ≠ (ft_Ne b).2.1 := by decide +kernel
theorem ty_Ne_ok : ∀ k, k < 4 → parseFieldDescriptor (ft_Ne k).2.2.1 = some (ty_Ne k) := by decide +kernel
theorem wi_Ne : ∀ w ∈ u_ws "PinSwaps$Nets" ft_Ne 4, w ∈ gw_T := gw_all (by decide +kernel) (by decide +kernel)
def ft_Pi : u_T := fun k => match k with
  | 0 => ("PinSwaps$Pins", "groups", "I", false)
  | 1 => ("PinSwaps$Pins", "count", "I", false)
  | 2 => ("PinSwaps$Pins", "inGroup", "[I", true)
  | 3 => ("PinSwaps$Pins", "group", "[I", true)
  | 4 => ("PinSwaps$Pins", "x", "[J", true)
  | 5 => ("PinSwaps$Pins", "y", "[J", true)
  | 6 => ("PinSwaps$Pins", "bank", "[I", true)
  | 7 => ("PinSwaps$Pins", "net", "[I", true)
  | 8 => ("PinSwaps$Pins", "toldNet", "[I", true)
  | 9 => ("PinSwaps$Pins", "partner", "[I", true)
  | 10 => ("PinSwaps$Pins", "second", "[Z", true)
  | _ => ("PinSwaps$Pins", "locked", "[Z", true)
def ty_Pi : Nat → FieldType := fun k => match k with
  | 0 => .int
  | 1 => .int
  | 2 => .array .int
  | 3 => .array .int
  | 4 => .array .long
  | 5 => .array .long
  | 6 => .array .int
  | 7 => .array .int
  | 8 => .array .int
  | 9 => .array .int
  | 10 => .array .boolean
  | _ => .array .boolean
theorem nm_Pi : ∀ a, a < 12 → ∀ b, b < 12 → a ≠ b → (ft_Pi a).2.1 ≠ (ft_Pi b).2.1 := by decide +kernel
theorem ty_Pi_ok : ∀ k, k < 12 → parseFieldDescriptor (ft_Pi k).2.2.1 = some (ty_Pi k) := by decide +kernel
theorem wi_Pi : ∀ w ∈ u_ws "PinSwaps$Pins" ft_Pi 12, w ∈ gw_T := gw_all (by decide +kernel) (by decide +kernel)
def ft_Mo : u_T := fun k => match k with
  | 0 => ("PinSwapsModel", "thrown", "I", false)
  | 1 => ("PinSwapsModel", "groups", "I", false)
  | 2 => ("PinSwapsModel", "pins", "I", false)
  | 3 => ("PinSwapsModel", "groupOf", "[I", true)
  | 4 => ("PinSwapsModel", "x", "[J", true)
  | 5 => ("PinSwapsModel", "y", "[J", true)
  | 6 => ("PinSwapsModel", "banks", "[I", true)
  | 7 => ("PinSwapsModel", "nets", "[I", true)
  | 8 => ("PinSwapsModel", "firstNets", "[I", true)
  | 9 => ("PinSwapsModel", "locked", "[Z", true)
  | 10 => ("PinSwapsModel", "mates", "[I", true)
  | 11 => ("PinSwapsModel", "leads", "[Z", true)
  | 12 => ("PinSwapsModel", "hasTarget", "[Z", true)
  | 13 => ("PinSwapsModel", "targetX", "[J", true)
  | 14 => ("PinSwapsModel", "targetY", "[J", true)
  | 15 => ("PinSwapsModel", "needs", "[I", true)
  | 16 => ("PinSwapsModel", "beforeSum", "J", false)
  | 17 => ("PinSwapsModel", "kept", "I", false)
  | 18 => ("PinSwapsModel", "keptPins", "[I", true)
  | 19 => ("PinSwapsModel", "keptNets", "[I", true)
  | 20 => ("PinSwapsModel", "gates", "I", false)
  | 21 => ("PinSwapsModel", "inputs", "[I", true)
  | 22 => ("PinSwapsModel", "tables", "[I", true)
  | 23 => ("PinSwapsModel", "units", "I", false)
  | 24 => ("PinSwapsModel", "unit", "[I", true)
  | 25 => ("PinSwapsModel", "costs", "[J", true)
  | 26 => ("PinSwapsModel", "least", "[J", true)
  | 27 => ("PinSwapsModel", "gets", "[I", true)
  | _ => ("PinSwapsModel", "fresh", "[I", true)
def ty_Mo : Nat → FieldType := fun k => match k with
  | 0 => .int
  | 1 => .int
  | 2 => .int
  | 3 => .array .int
  | 4 => .array .long
  | 5 => .array .long
  | 6 => .array .int
  | 7 => .array .int
  | 8 => .array .int
  | 9 => .array .boolean
  | 10 => .array .int
  | 11 => .array .boolean
  | 12 => .array .boolean
  | 13 => .array .long
  | 14 => .array .long
  | 15 => .array .int
  | 16 => .long
  | 17 => .int
  | 18 => .array .int
  | 19 => .array .int
  | 20 => .int
  | 21 => .array .int
  | 22 => .array .int
  | 23 => .int
  | 24 => .array .int
  | 25 => .array .long
  | 26 => .array .long
  | 27 => .array .int
  | _ => .array .int
theorem nm_Mo : ∀ a, a < 29 → ∀ b, b < 29 → a ≠ b → (ft_Mo a).2.1 ≠ (ft_Mo b).2.1 := by decide +kernel
theorem ty_Mo_ok : ∀ k, k < 29 → parseFieldDescriptor (ft_Mo k).2.2.1 = some (ty_Mo k) := by decide +kernel
theorem wi_Mo : ∀ w ∈ u_ws "PinSwapsModel" ft_Mo 29, w ∈ gw_T := gw_all (by decide +kernel) (by decide +kernel)
abbrev vwCl : List vw_C := [("PinSwaps", ft_PS, 6), ("PinSwaps$Gates", ft_Gt, 3), ("PinSwaps$History", ft_Hi, 4), ("PinSwaps$Matching", ft_Ma, 10), ("PinSwaps$Nets", ft_Ne, 4), ("PinSwaps$Pins", ft_Pi, 12), ("PinSwapsModel", ft_Mo, 29)]
abbrev bc_PS_init : ByteArray := prog_1_method_1_code
def yn_PS_init : MethodName := ⟨"PinSwaps", "<init>", "()V"⟩
abbrev bc_PS_group : ByteArray := prog_1_method_2_code
def yn_PS_group : MethodName := ⟨"PinSwaps", "group", "()I"⟩
abbrev bc_PS_pin : ByteArray := prog_1_method_3_code
def yn_PS_pin : MethodName := ⟨"PinSwaps", "pin", "(IJJI)I"⟩
abbrev bc_PS_target : ByteArray := prog_1_method_4_code
def yn_PS_target : MethodName := ⟨"PinSwaps", "target", "(IJJ)Z"⟩
abbrev bc_PS_lock : ByteArray := prog_1_method_5_code
def yn_PS_lock : MethodName := ⟨"PinSwaps", "lock", "(I)Z"⟩
abbrev bc_PS_pair : ByteArray := prog_1_method_6_code
def yn_PS_pair : MethodName := ⟨"PinSwaps", "pair", "(II)Z"⟩
abbrev bc_PS_bank : ByteArray := prog_1_method_7_code
def yn_PS_bank : MethodName := ⟨"PinSwaps", "bank", "(II)Z"⟩
abbrev bc_PS_needs : ByteArray := prog_1_method_8_code
def yn_PS_needs : MethodName := ⟨"PinSwaps", "needs", "(II)Z"⟩
abbrev bc_PS_run : ByteArray := prog_1_method_9_code
def yn_PS_run : MethodName := ⟨"PinSwaps", "run", "()I"⟩
abbrev bc_PS_netOf : ByteArray := prog_1_method_10_code
def yn_PS_netOf : MethodName := ⟨"PinSwaps", "netOf", "(I)I"⟩
abbrev bc_PS_sum : ByteArray := prog_1_method_11_code
def yn_PS_sum : MethodName := ⟨"PinSwaps", "sum", "()J"⟩
abbrev bc_PS_before : ByteArray := prog_1_method_12_code
def yn_PS_before : MethodName := ⟨"PinSwaps", "before", "()J"⟩
abbrev bc_PS_dual : ByteArray := prog_1_method_13_code
def yn_PS_dual : MethodName := ⟨"PinSwaps", "dual", "(II)J"⟩
abbrev bc_PS_note : ByteArray := prog_1_method_14_code
def yn_PS_note : MethodName := ⟨"PinSwaps", "note", "(II)I"⟩
abbrev bc_PS_gate : ByteArray := prog_1_method_15_code
def yn_PS_gate : MethodName := ⟨"PinSwaps", "gate", "(I)I"⟩
abbrev bc_PS_equalGate : ByteArray := prog_1_method_16_code
def yn_PS_equalGate : MethodName := ⟨"PinSwaps", "equalGate", "(II)Z"⟩
abbrev bc_PS_undo : ByteArray := prog_1_method_17_code
def yn_PS_undo : MethodName := ⟨"PinSwaps", "undo", "()Z"⟩
abbrev bc_PS_crossings : ByteArray := prog_1_method_18_code
def yn_PS_crossings : MethodName := ⟨"PinSwaps", "crossings", "()I"⟩
abbrev bc_PS_checkPin : ByteArray := prog_1_method_19_code
def yn_PS_checkPin : MethodName := ⟨"PinSwaps", "checkPin", "(I)V"⟩
abbrev bc_PS_checkNet : ByteArray := prog_1_method_20_code
def yn_PS_checkNet : MethodName := ⟨"PinSwaps", "checkNet", "(I)V"⟩
abbrev bc_PS_checkPlace : ByteArray := prog_1_method_21_code
def yn_PS_checkPlace : MethodName := ⟨"PinSwaps", "checkPlace", "(JJ)V"⟩
abbrev bc_PS_isNet : ByteArray := prog_1_method_22_code
def yn_PS_isNet : MethodName := ⟨"PinSwaps", "isNet", "(I)Z"⟩
abbrev bc_PS_cost : ByteArray := prog_1_method_23_code
def yn_PS_cost : MethodName := ⟨"PinSwaps", "cost", "(II)J"⟩
abbrev bc_PS_swapUnits : ByteArray := prog_1_method_24_code
def yn_PS_swapUnits : MethodName := ⟨"PinSwaps", "swapUnits", "(IZ[I)V"⟩
abbrev bc_PS_giveNets : ByteArray := prog_1_method_25_code
def yn_PS_giveNets : MethodName := ⟨"PinSwaps", "giveNets", "(II[I)V"⟩
abbrev bc_PS_countChanged : ByteArray := prog_1_method_26_code
def yn_PS_countChanged : MethodName := ⟨"PinSwaps", "countChanged", "([I)I"⟩
abbrev bc_PS_loadMatching : ByteArray := prog_1_method_27_code
def yn_PS_loadMatching : MethodName := ⟨"PinSwaps", "loadMatching", "(IZ)V"⟩
abbrev bc_PS_unitCost : ByteArray := prog_1_method_28_code
def yn_PS_unitCost : MethodName := ⟨"PinSwaps", "unitCost", "(II)J"⟩
abbrev bc_PS_waysCross : ByteArray := prog_1_method_29_code
def yn_PS_waysCross : MethodName := ⟨"PinSwaps", "waysCross", "(II)Z"⟩
abbrev bc_PS_partsEnds : ByteArray := prog_1_method_30_code
def yn_PS_partsEnds : MethodName := ⟨"PinSwaps", "partsEnds", "(II)Z"⟩
abbrev bc_PS_sideOfWay : ByteArray := prog_1_method_31_code
def yn_PS_sideOfWay : MethodName := ⟨"PinSwaps", "sideOfWay", "(IJJ)J"⟩
abbrev bc_Mo_init : ByteArray := prog_8_method_1_code
def yn_Mo_init : MethodName := ⟨"PinSwapsModel", "<init>", "()V"⟩
abbrev bc_Mo_thrown : ByteArray := prog_8_method_2_code
def yn_Mo_thrown : MethodName := ⟨"PinSwapsModel", "thrown", "()I"⟩
abbrev bc_Mo_group : ByteArray := prog_8_method_3_code
def yn_Mo_group : MethodName := ⟨"PinSwapsModel", "group", "()I"⟩
abbrev bc_Mo_isPlace : ByteArray := prog_8_method_4_code
def yn_Mo_isPlace : MethodName := ⟨"PinSwapsModel", "isPlace", "(JJ)Z"⟩
abbrev bc_Mo_isNet : ByteArray := prog_8_method_5_code
def yn_Mo_isNet : MethodName := ⟨"PinSwapsModel", "isNet", "(I)Z"⟩
abbrev bc_Mo_isPin : ByteArray := prog_8_method_6_code
def yn_Mo_isPin : MethodName := ⟨"PinSwapsModel", "isPin", "(I)Z"⟩
abbrev bc_Mo_pin : ByteArray := prog_8_method_7_code
def yn_Mo_pin : MethodName := ⟨"PinSwapsModel", "pin", "(IJJI)I"⟩
abbrev bc_Mo_target : ByteArray := prog_8_method_8_code
def yn_Mo_target : MethodName := ⟨"PinSwapsModel", "target", "(IJJ)Z"⟩
abbrev bc_Mo_lock : ByteArray := prog_8_method_9_code
def yn_Mo_lock : MethodName := ⟨"PinSwapsModel", "lock", "(I)Z"⟩
abbrev bc_Mo_pair : ByteArray := prog_8_method_10_code
def yn_Mo_pair : MethodName := ⟨"PinSwapsModel", "pair", "(II)Z"⟩
abbrev bc_Mo_bank : ByteArray := prog_8_method_11_code
def yn_Mo_bank : MethodName := ⟨"PinSwapsModel", "bank", "(II)Z"⟩
abbrev bc_Mo_needs : ByteArray := prog_8_method_12_code
def yn_Mo_needs : MethodName := ⟨"PinSwapsModel", "needs", "(II)Z"⟩
abbrev bc_Mo_size : ByteArray := prog_8_method_13_code
def yn_Mo_size : MethodName := ⟨"PinSwapsModel", "size", "(J)J"⟩
abbrev bc_Mo_cost : ByteArray := prog_8_method_14_code
def yn_Mo_cost : MethodName := ⟨"PinSwapsModel", "cost", "(II)J"⟩
abbrev bc_Mo_sumOf : ByteArray := prog_8_method_15_code
def yn_Mo_sumOf : MethodName := ⟨"PinSwapsModel", "sumOf", "()J"⟩
abbrev bc_Mo_sum : ByteArray := prog_8_method_16_code
def yn_Mo_sum : MethodName := ⟨"PinSwapsModel", "sum", "()J"⟩
abbrev bc_Mo_before : ByteArray := prog_8_method_17_code
def yn_Mo_before : MethodName := ⟨"PinSwapsModel", "before", "()J"⟩
abbrev bc_Mo_isUnit : ByteArray := prog_8_method_18_code
def yn_Mo_isUnit : MethodName := ⟨"PinSwapsModel", "isUnit", "(IIZ)Z"⟩
abbrev bc_Mo_unitCost : ByteArray := prog_8_method_19_code
def yn_Mo_unitCost : MethodName := ⟨"PinSwapsModel", "unitCost", "(IIZ)J"⟩
abbrev bc_Mo_bits : ByteArray := prog_8_method_20_code
def yn_Mo_bits : MethodName := ⟨"PinSwapsModel", "bits", "(I)I"⟩
abbrev bc_Mo_reckon : ByteArray := prog_8_method_21_code
def yn_Mo_reckon : MethodName := ⟨"PinSwapsModel", "reckon", "(IZII)V"⟩
abbrev bc_Mo_sumNow : ByteArray := prog_8_method_22_code
def yn_Mo_sumNow : MethodName := ⟨"PinSwapsModel", "sumNow", "()J"⟩
abbrev bc_Mo_fits : ByteArray := prog_8_method_23_code
def yn_Mo_fits : MethodName := ⟨"PinSwapsModel", "fits", "(III)Z"⟩
abbrev bc_Mo_choose : ByteArray := prog_8_method_24_code
def yn_Mo_choose : MethodName := ⟨"PinSwapsModel", "choose", "()V"⟩
abbrev bc_Mo_match : ByteArray := prog_8_method_25_code
def yn_Mo_match : MethodName := ⟨"PinSwapsModel", "match", "(IZ)V"⟩
abbrev bc_Mo_keepNets : ByteArray := prog_8_method_26_code
def yn_Mo_keepNets : MethodName := ⟨"PinSwapsModel", "keepNets", "()V"⟩
abbrev bc_Mo_run : ByteArray := prog_8_method_27_code
def yn_Mo_run : MethodName := ⟨"PinSwapsModel", "run", "()I"⟩
abbrev bc_Mo_undo : ByteArray := prog_8_method_28_code
def yn_Mo_undo : MethodName := ⟨"PinSwapsModel", "undo", "()Z"⟩
abbrev bc_Mo_netOf : ByteArray := prog_8_method_29_code
def yn_Mo_netOf : MethodName := ⟨"PinSwapsModel", "netOf", "(I)I"⟩
abbrev bc_Mo_dual : ByteArray := prog_8_method_30_code
def yn_Mo_dual : MethodName := ⟨"PinSwapsModel", "dual", "(II)J"⟩
abbrev bc_Mo_note : ByteArray := prog_8_method_31_code
def yn_Mo_note : MethodName := ⟨"PinSwapsModel", "note", "(II)I"⟩
abbrev bc_Mo_gate : ByteArray := prog_8_method_32_code
def yn_Mo_gate : MethodName := ⟨"PinSwapsModel", "gate", "(I)I"⟩
abbrev bc_Mo_isSo : ByteArray := prog_8_method_33_code
def yn_Mo_isSo : MethodName := ⟨"PinSwapsModel", "isSo", "(III)Z"⟩
abbrev bc_Mo_isOrder : ByteArray := prog_8_method_34_code
def yn_Mo_isOrder : MethodName := ⟨"PinSwapsModel", "isOrder", "(II)Z"⟩
abbrev bc_Mo_equalGate : ByteArray := prog_8_method_35_code
def yn_Mo_equalGate : MethodName := ⟨"PinSwapsModel", "equalGate", "(II)Z"⟩
abbrev bc_Mo_turn : ByteArray := prog_8_method_36_code
def yn_Mo_turn : MethodName := ⟨"PinSwapsModel", "turn", "(JJJJJJ)I"⟩
abbrev bc_Mo_cross : ByteArray := prog_8_method_37_code
def yn_Mo_cross : MethodName := ⟨"PinSwapsModel", "cross", "(II)Z"⟩
abbrev bc_Mo_crossings : ByteArray := prog_8_method_38_code
def yn_Mo_crossings : MethodName := ⟨"PinSwapsModel", "crossings", "()I"⟩
abbrev bc_Gt_init : ByteArray := prog_2_method_1_code
def yn_Gt_init : MethodName := ⟨"PinSwaps$Gates", "<init>", "()V"⟩
abbrev bc_Gt_add : ByteArray := prog_2_method_2_code
def yn_Gt_add : MethodName := ⟨"PinSwaps$Gates", "add", "(II)I"⟩
abbrev bc_Gt_areEqual : ByteArray := prog_2_method_3_code
def yn_Gt_areEqual : MethodName := ⟨"PinSwaps$Gates", "areEqual", "(II)Z"⟩
abbrev bc_Gt_reordered : ByteArray := prog_2_method_4_code
def yn_Gt_reordered : MethodName := ⟨"PinSwaps$Gates", "reordered", "(III)I"⟩
abbrev bc_Gt_reorderedInputs : ByteArray := prog_2_method_5_code
def yn_Gt_reorderedInputs : MethodName := ⟨"PinSwaps$Gates", "reorderedInputs", "(III)I"⟩
abbrev bc_Hi_init : ByteArray := prog_3_method_1_code
def yn_Hi_init : MethodName := ⟨"PinSwaps$History", "<init>", "()V"⟩
abbrev bc_Hi_begin : ByteArray := prog_3_method_2_code
def yn_Hi_begin : MethodName := ⟨"PinSwaps$History", "begin", "([II)[I"⟩
abbrev bc_Hi_keep : ByteArray := prog_3_method_3_code
def yn_Hi_keep : MethodName := ⟨"PinSwaps$History", "keep", "()V"⟩
abbrev bc_Hi_restore : ByteArray := prog_3_method_4_code
def yn_Hi_restore : MethodName := ⟨"PinSwaps$History", "restore", "([I)Z"⟩
abbrev bc_Ma_init : ByteArray := prog_4_method_1_code
def yn_Ma_init : MethodName := ⟨"PinSwaps$Matching", "<init>", "()V"⟩
abbrev bc_Ma_add : ByteArray := prog_4_method_2_code
def yn_Ma_add : MethodName := ⟨"PinSwaps$Matching", "add", "(I)V"⟩
abbrev bc_Ma_forbidOwn : ByteArray := prog_4_method_3_code
def yn_Ma_forbidOwn : MethodName := ⟨"PinSwaps$Matching", "forbidOwn", "(I)V"⟩
abbrev bc_Ma_forbidOthers : ByteArray := prog_4_method_4_code
def yn_Ma_forbidOthers : MethodName := ⟨"PinSwaps$Matching", "forbidOthers", "(I)V"⟩
abbrev bc_Ma_rowOfUnit : ByteArray := prog_4_method_5_code
def yn_Ma_rowOfUnit : MethodName := ⟨"PinSwaps$Matching", "rowOfUnit", "(I)I"⟩
abbrev bc_Ma_sumIfKept : ByteArray := prog_4_method_6_code
def yn_Ma_sumIfKept : MethodName := ⟨"PinSwaps$Matching", "sumIfKept", "()J"⟩
abbrev bc_Ma_solve : ByteArray := prog_4_method_7_code
def yn_Ma_solve : MethodName := ⟨"PinSwaps$Matching", "solve", "()J"⟩
abbrev bc_Ma_insert : ByteArray := prog_4_method_8_code
def yn_Ma_insert : MethodName := ⟨"PinSwaps$Matching", "insert", "(I)V"⟩
abbrev bc_Ma_forgetSeen : ByteArray := prog_4_method_9_code
def yn_Ma_forgetSeen : MethodName := ⟨"PinSwaps$Matching", "forgetSeen", "()V"⟩
abbrev bc_Ma_nextColumn : ByteArray := prog_4_method_10_code
def yn_Ma_nextColumn : MethodName := ⟨"PinSwaps$Matching", "nextColumn", "(I)I"⟩
abbrev bc_Ma_changePrices : ByteArray := prog_4_method_11_code
def yn_Ma_changePrices : MethodName := ⟨"PinSwaps$Matching", "changePrices", "(J)V"⟩
abbrev bc_Ma_extraCost : ByteArray := prog_4_method_12_code
def yn_Ma_extraCost : MethodName := ⟨"PinSwaps$Matching", "extraCost", "(II)J"⟩
abbrev bc_Ma_moveAlong : ByteArray := prog_4_method_13_code
def yn_Ma_moveAlong : MethodName := ⟨"PinSwaps$Matching", "moveAlong", "(I)V"⟩
abbrev bc_Ma_settleTies : ByteArray := prog_4_method_14_code
def yn_Ma_settleTies : MethodName := ⟨"PinSwaps$Matching", "settleTies", "()V"⟩
abbrev bc_Ma_takes : ByteArray := prog_4_method_15_code
def yn_Ma_takes : MethodName := ⟨"PinSwaps$Matching", "takes", "(II)Z"⟩
abbrev bc_Ma_columnOf : ByteArray := prog_4_method_16_code
def yn_Ma_columnOf : MethodName := ⟨"PinSwaps$Matching", "columnOf", "(I)I"⟩
abbrev bc_Ma_reaches : ByteArray := prog_4_method_17_code
def yn_Ma_reaches : MethodName := ⟨"PinSwaps$Matching", "reaches", "(III)Z"⟩
abbrev bc_Ma_queueFrom : ByteArray := prog_4_method_18_code
def yn_Ma_queueFrom : MethodName := ⟨"PinSwaps$Matching", "queueFrom", "(III)I"⟩
abbrev bc_Ne_init : ByteArray := prog_5_method_1_code
def yn_Ne_init : MethodName := ⟨"PinSwaps$Nets", "<init>", "()V"⟩
abbrev bc_Ne_aim : ByteArray := prog_5_method_2_code
def yn_Ne_aim : MethodName := ⟨"PinSwaps$Nets", "aim", "(IJJ)Z"⟩
abbrev bc_Pi_init : ByteArray := prog_6_method_1_code
def yn_Pi_init : MethodName := ⟨"PinSwaps$Pins", "<init>", "()V"⟩
abbrev bc_Pi_add : ByteArray := prog_6_method_2_code
def yn_Pi_add : MethodName := ⟨"PinSwaps$Pins", "add", "(IJJI)I"⟩
abbrev bc_Pi_join : ByteArray := prog_6_method_3_code
def yn_Pi_join : MethodName := ⟨"PinSwaps$Pins", "join", "(II)V"⟩
abbrev bc_Pi_isPaired : ByteArray := prog_6_method_4_code
def yn_Pi_isPaired : MethodName := ⟨"PinSwaps$Pins", "isPaired", "(I)Z"⟩
abbrev bc_Pi_unitOf : ByteArray := prog_6_method_5_code
def yn_Pi_unitOf : MethodName := ⟨"PinSwaps$Pins", "unitOf", "(I)I"⟩
abbrev bc_Pi_isUnitLocked : ByteArray := prog_6_method_6_code
def yn_Pi_isUnitLocked : MethodName := ⟨"PinSwaps$Pins", "isUnitLocked", "(I)Z"⟩
abbrev bc_Pi_isFreeUnit : ByteArray := prog_6_method_7_code
def yn_Pi_isFreeUnit : MethodName := ⟨"PinSwaps$Pins", "isFreeUnit", "(IZ)Z"⟩
abbrev bc_Pi_nthMoved : ByteArray := prog_6_method_8_code
def yn_Pi_nthMoved : MethodName := ⟨"PinSwaps$Pins", "nthMoved", "(I)I"⟩
abbrev bc_Lw_pin : ByteArray := method_3_code
def yn_Lw_pin : MethodName := ⟨"PinSwapsLaw", "pin", "(LPinSwaps;IJJI[J)I"⟩
abbrev bc_Lw_target : ByteArray := method_4_code
def yn_Lw_target : MethodName := ⟨"PinSwapsLaw", "target", "(LPinSwaps;IJJ[J)I"⟩
abbrev bc_Lw_lock : ByteArray := method_5_code
def yn_Lw_lock : MethodName := ⟨"PinSwapsLaw", "lock", "(LPinSwaps;I[J)I"⟩
abbrev bc_Lw_pair : ByteArray := method_6_code
def yn_Lw_pair : MethodName := ⟨"PinSwapsLaw", "pair", "(LPinSwaps;II[J)I"⟩
abbrev bc_Lw_bank : ByteArray := method_7_code
def yn_Lw_bank : MethodName := ⟨"PinSwapsLaw", "bank", "(LPinSwaps;II[J)I"⟩
abbrev bc_Lw_needs : ByteArray := method_8_code
def yn_Lw_needs : MethodName := ⟨"PinSwapsLaw", "needs", "(LPinSwaps;II[J)I"⟩
abbrev bc_Lw_netOf : ByteArray := method_9_code
def yn_Lw_netOf : MethodName := ⟨"PinSwapsLaw", "netOf", "(LPinSwaps;I[J)I"⟩
abbrev bc_Lw_dual : ByteArray := method_10_code
def yn_Lw_dual : MethodName := ⟨"PinSwapsLaw", "dual", "(LPinSwaps;II[J)I"⟩
abbrev bc_Lw_note : ByteArray := method_11_code
def yn_Lw_note : MethodName := ⟨"PinSwapsLaw", "note", "(LPinSwaps;II[J)I"⟩
abbrev bc_Lw_gate : ByteArray := method_12_code
def yn_Lw_gate : MethodName := ⟨"PinSwapsLaw", "gate", "(LPinSwaps;I[J)I"⟩
abbrev bc_Lw_equalGate : ByteArray := method_13_code
def yn_Lw_equalGate : MethodName := ⟨"PinSwapsLaw", "equalGate", "(LPinSwaps;II[J)I"⟩
end
section
/-! VALUES AND CELLS, by number: an int is an Int32, a long an Int64, a reference the number of a cell. -/
abbrev gv_V : Type := Int32 ⊕ (Int64 ⊕ Option Nat)
abbrev gv_I (z : Int32) : gv_V := Sum.inl z
abbrev gv_L (w : Int64) : gv_V := Sum.inr (Sum.inl w)
abbrev gv_R (k : Nat) : gv_V := Sum.inr (Sum.inr (some k))
abbrev gv_N : gv_V := Sum.inr (Sum.inr none)
def gv_v (ad : Nat → Nat) : gv_V → Value
  | .inl z => .int z
  | .inr (.inl w) => .long w
  | .inr (.inr (some k)) => .ref (ad k)
  | .inr (.inr none) => .null
def gv_c : gv_V → Nat
  | .inl _ => 1
  | .inr (.inl _) => 2
  | .inr (.inr _) => 1
theorem gv_cat (ad : Nat → Nat) (v : gv_V) : (gv_v ad v).category = gv_c v := by
  rcases v with z | w | _ | k <;> rfl
def gv_p (ad : Nat → Nat) (q : Nat × gv_V) : Nat × Value := (q.1, gv_v ad q.2)
def gv_g : List (Nat × gv_V) → Nat → Option gv_V
  | [], _ => none
  | q :: r, j => bif q.1 == j then some q.2 else gv_g r j
theorem gv_mem : ∀ {lv : List (Nat × gv_V)} {i : Nat} {v : gv_V}, gv_g lv i = some v → (i, v) ∈ lv
  | [], i, v, h => by simp [gv_g] at h
  | (a, b) :: r, i, v, h => by
    unfold gv_g at h
    cases hq : (a == i) with
    | true =>
      have h1 : a = i := by simpa using hq
      simp only [hq, cond_true, Option.some.injEq] at h
      rw [← h1, ← h]
      exact List.mem_cons_self
    | false =>
      simp only [hq, cond_false] at h
      exact List.mem_cons_of_mem _ (gv_mem h)
theorem gv_at {ad : Nat → Nat} {ls : Array Slot} {nL : Nat} {lv : List (Nat × gv_V)} {i : Nat} {v : gv_V} (hl : lv_has ls nL (lv.map (gv_p ad))) (h : gv_g lv i = some v) : ls[i]? = some (.val (gv_v ad v)) :=
  hl.2.2 (i, gv_v ad v) (List.mem_map.mpr ⟨(i, v), gv_mem h, rfl⟩)
def gv_ok (i w : Nat) (q : Nat × gv_V) : Bool := !(q.1 == i) && (!(w == 2 && q.1 == i + 1) && !(q.1 + 1 == i && gv_c q.2 == 2))
def gv_s : List (Nat × gv_V) → Nat → gv_V → List (Nat × gv_V)
  | [], i, v => [(i, v)]
  | q :: r, i, v => bif q.1 == i then (i, v) :: r.filter (gv_ok i (gv_c v)) else bif gv_ok i (gv_c v) q then q :: gv_s r i v else gv_s r i v
theorem gv_s_mem : ∀ {lv : List (Nat × gv_V)} {i : Nat} {v : gv_V} {q : Nat × gv_V}, q ∈ gv_s lv i v → q = (i, v) ∨ (q ∈ lv ∧ gv_ok i (gv_c v) q = true)
  | [], i, v, q, h => by
    simp only [gv_s, List.mem_singleton] at h
    exact Or.inl h
  | a :: r, i, v, q, h => by
    unfold gv_s at h
    cases h1 : (a.1 == i) with
    | true =>
      simp only [h1, cond_true] at h
      rcases List.mem_cons.mp h with h | h
      · exact Or.inl h
      · obtain ⟨h2, h3⟩ := List.mem_filter.mp h
        exact Or.inr ⟨List.mem_cons_of_mem _ h2, h3⟩
    | false =>
      simp only [h1, cond_false] at h
      cases h2 : gv_ok i (gv_c v) a with
      | true =>
        simp only [h2, cond_true] at h
        rcases List.mem_cons.mp h with h | h
        · exact Or.inr ⟨by rw [h]; exact List.mem_cons_self, by rw [h]; exact h2⟩
        · rcases gv_s_mem h with h | ⟨h3, h4⟩
          · exact Or.inl h
          · exact Or.inr ⟨List.mem_cons_of_mem _ h3, h4⟩
      | false =>
        simp only [h2, cond_false] at h
        rcases gv_s_mem h with h | ⟨h3, h4⟩
        · exact Or.inl h
        · exact Or.inr ⟨List.mem_cons_of_mem _ h3, h4⟩
theorem gv_st1 {ad : Nat → Nat} {ls : Array Slot} {nL i : Nat} {lv : List (Nat × gv_V)} {v : gv_V} (hc : gv_c v = 1) (h : lv_has ls nL ((i, gv_v ad v) :: (lv.map (gv_p ad)).filter (fun q => !(q.1 == i) && !(q.1 + 1 == i && q.2.category == 2)))) : lv_has ls nL ((gv_s lv i v).map (gv_p ad)) := by
  refine ⟨h.1, h.2.1, fun q hq => h.2.2 q ?_⟩
  obtain ⟨q0, h0, rfl⟩ := List.mem_map.mp hq
  rcases gv_s_mem h0 with h1 | ⟨h1, h2⟩
  · rw [h1]
    exact List.mem_cons_self
  · refine List.mem_cons_of_mem _ (List.mem_filter.mpr ⟨List.mem_map.mpr ⟨q0, h1, rfl⟩, ?_⟩)
    simp only [gv_ok, Bool.and_eq_true] at h2
    simp only [gv_p, gv_cat, Bool.and_eq_true]
    exact ⟨h2.1, h2.2.2⟩
theorem gv_st2 {ad : Nat → Nat} {ls : Array Slot} {nL i : Nat} {lv : List (Nat × gv_V)} {v : gv_V} (hc : gv_c v = 2) (h : lv_has ls nL ((i, gv_v ad v) :: (lv.map (gv_p ad)).filter (fun q => !(q.1 == i) && (!(q.1 == i + 1) && !(q.1 + 1 == i && q.2.category == 2))))) : lv_has ls nL ((gv_s lv i v).map (gv_p ad)) := by
  refine ⟨h.1, h.2.1, fun q hq => h.2.2 q ?_⟩
  obtain ⟨q0, h0, rfl⟩ := List.mem_map.mp hq
  rcases gv_s_mem h0 with h1 | ⟨h1, h2⟩
  · rw [h1]
    exact List.mem_cons_self
  · refine List.mem_cons_of_mem _ (List.mem_filter.mpr ⟨List.mem_map.mpr ⟨q0, h1, rfl⟩, ?_⟩)
    rw [hc] at h2
    simp only [gv_ok, Bool.and_eq_true] at h2
    simp only [gv_p, gv_cat, Bool.and_eq_true]
    exact ⟨h2.1, by simpa using h2.2.1, h2.2.2⟩
/-- fewer locals, or the same in another order -/
def gv_in (lv : List (Nat × gv_V)) : List (Nat × gv_V) → Prop
  | [] => True
  | q :: r => gv_g lv q.1 = some q.2 ∧ gv_in lv r
theorem gv_in_mem {lv : List (Nat × gv_V)} : ∀ {l2 : List (Nat × gv_V)}, gv_in lv l2 → ∀ q ∈ l2, q ∈ lv
  | [], _, q, h => by cases h
  | a :: r, hi, q, h => by
    rcases List.mem_cons.mp h with h | h
    · rw [h]
      exact gv_mem hi.1
    · exact gv_in_mem hi.2 q h
theorem gv_has {ad : Nat → Nat} {ls : Array Slot} {nL : Nat} {lv l2 : List (Nat × gv_V)} (hi : gv_in lv l2) (h : lv_has ls nL (lv.map (gv_p ad))) : lv_has ls nL (l2.map (gv_p ad)) := by
  refine ⟨h.1, h.2.1, fun q hq => ?_⟩
  obtain ⟨q0, h0, rfl⟩ := List.mem_map.mp hq
  exact h.2.2 _ (List.mem_map.mpr ⟨q0, gv_in_mem hi q0 h0, rfl⟩)
-- the arguments as locals
def gv_args : Nat → List gv_V → List (Nat × gv_V)
  | _, [] => []
  | i, v :: r => (i, v) :: gv_args (i + gv_c v) r
theorem gv_args_eq (ad : Nat → Nat) : ∀ (i : Nat) (vs : List gv_V), lv_args i (vs.map (gv_v ad)) = (gv_args i vs).map (gv_p ad)
  | _, [] => rfl
  | i, v :: r => by
    have h : (if (gv_v ad v).category = 2 then i + 2 else i + 1) = i + gv_c v := by
      rw [gv_cat]
      rcases v with z | w | z <;> simp [gv_c]
    show (i, gv_v ad v) :: lv_args (if (gv_v ad v).category = 2 then i + 2 else i + 1) (r.map (gv_v ad)) = _
    rw [h, gv_args_eq ad _ r]
    rfl
def gv_w : List gv_V → Nat
  | [] => 0
  | v :: r => gv_c v + gv_w r
theorem gv_w_len (ad : Nat → Nat) : ∀ vs : List gv_V, (lg_sl (vs.map (gv_v ad))).length = gv_w vs
  | [] => rfl
  | v :: r => by
    have h := gv_w_len ad r
    have e : lg_sl ((v :: r).map (gv_v ad)) = (if (gv_v ad v).category = 2 then [Slot.val (gv_v ad v), Slot.second] else [Slot.val (gv_v ad v)]) ++ lg_sl (r.map (gv_v ad)) := by
      simp [lg_sl]
    rw [e, List.length_append, h, gv_cat]
    rcases v with z | w | z <;> simp [gv_c, gv_w]
theorem gv_vin {z : Int32} {n : Nat} (h : 0 ≤ z.toInt ∧ z.toInt < (n : Int)) : vp_in z n := vp_in_iff.mpr h
theorem gv_cl (z : Int32) : z.toNatClampNeg = z.toInt.toNat := rfl
/-! CELLS -/
abbrev gc_T : Type := (Nat × List gv_V) ⊕ ((Nat × Nat × (Int → Int32)) ⊕ ((Nat × (Int → Int64)) ⊕ (Nat × Nat × (Int → Option Nat))))
abbrev gc_O (ci : Nat) (fs : List gv_V) : gc_T := Sum.inl (ci, fs)
abbrev gc_I (kd n : Nat) (f : Int → Int32) : gc_T := Sum.inr (Sum.inl (kd, n, f))
abbrev gc_L (n : Nat) (f : Int → Int64) : gc_T := Sum.inr (Sum.inr (Sum.inl (n, f)))
abbrev gc_R (kd n : Nat) (f : Int → Option Nat) : gc_T := Sum.inr (Sum.inr (Sum.inr (kd, n, f)))
def gc_E (ad : Nat → Nat) (ck : Nat → ClassId) : gc_T → va_E
  | .inl (ci, fs) => .inr (ci, fs.map (gv_v ad))
  | .inr (.inl (kd, n, f)) => .inl (ck kd, n, .inl (fun j : Nat => f (j : Int)))
  | .inr (.inr (.inl (n, f))) => .inl (ck 2, n, .inr (.inl (fun j : Nat => f (j : Int))))
  | .inr (.inr (.inr (kd, n, f))) => .inl (ck kd, n, .inr (.inr (.inr (.inr (fun j : Nat => (f (j : Int)).map ad)))))
def gw_L (N : Nat) (ad : Nat → Nat) (ck : Nat → ClassId) (cf : Nat → gc_T) : va_W := (List.range N).map (fun k => (ad k, gc_E ad ck (cf k)))
theorem gw_at {N : Nat} {ad : Nat → Nat} {ck : Nat → ClassId} {cf : Nat → gc_T} {k : Nat} (h : k < N) : (gw_L N ad ck cf)[k]? = some (ad k, gc_E ad ck (cf k)) := by
  simp [gw_L, h]
theorem gw_atE {N : Nat} {ad : Nat → Nat} {ck : Nat → ClassId} {cf : Nat → gc_T} {k : Nat} {x : gc_T} (h : k < N) (e : cf k = x) : (gw_L N ad ck cf)[k]? = some (ad k, gc_E ad ck x) := by
  rw [← e]
  exact gw_at h
/-- one cell is another now -/
def gc_up (cf : Nat → gc_T) (k : Nat) (x : gc_T) (cf2 : Nat → gc_T) : Prop := ∀ j, cf2 j = if j = k then x else cf j
theorem gw_set {N : Nat} {ad : Nat → Nat} {ck : Nat → ClassId} {cf cf2 : Nat → gc_T} {k : Nat} {x : gc_T} (hk : k < N) (h : gc_up cf k x cf2) : (gw_L N ad ck cf).set k (ad k, gc_E ad ck x) = gw_L N ad ck cf2 := by
  apply List.ext_getElem?
  intro j
  by_cases hj : j < N
  · rw [gw_at hj, h j]
    by_cases e : j = k
    · subst e
      rw [List.getElem?_set]
      simp [gw_L, hj]
    · rw [List.getElem?_set, if_neg (fun z => e z.symm), gw_at hj, if_neg e]
  · simp [gw_L, List.getElem?_set, hj]
theorem gw_lt {N : Nat} {ad : Nat → Nat} {ck : Nat → ClassId} {cf : Nat → gc_T} {k : Nat} {q : Nat × va_E} (h : (gw_L N ad ck cf)[k]? = some q) : k < N ∧ q.1 = ad k := by
  have hk : k < N := by
    have := (List.getElem?_eq_some_iff.mp h).1
    simpa [gw_L] using this
  rw [gw_at hk] at h
  exact ⟨hk, by rw [← Option.some.inj h]⟩
theorem gw_D {A : Nat → Prop} {N : Nat} {ad : Nat → Nat} {ck : Nat → ClassId} {cf : Nat → gc_T} (hi : ∀ i j, i < N → j < N → ad i = ad j → i = j) (hA : ∀ i, i < N → A (ad i)) : va_D A (gw_L N ad ck cf) := by
  refine ⟨fun i j p q h1 h2 h3 => ?_, fun k q h => ?_⟩
  · obtain ⟨a1, a2⟩ := gw_lt h1
    obtain ⟨b1, b2⟩ := gw_lt h2
    exact hi i j a1 b1 (by rw [← a2, ← b2]; exact h3)
  · obtain ⟨a1, a2⟩ := gw_lt h
    rw [a2]
    exact hA k a1
/-! UPDATES -/
theorem gz_nat {i : Int} (h : 0 ≤ i) (j : Nat) : ((j : Int) = i) ↔ j = i.toNat := by omega
theorem gz_ue (f : Int → Int32) {i x : Int32} (h0 : 0 ≤ i.toInt) : upd (fun j : Nat => f (j : Int)) i.toNatClampNeg x = fun j : Nat => gz_u f i.toInt x (j : Int) := by
  funext j
  rw [gv_cl]
  unfold upd gz_u
  by_cases h : j = i.toInt.toNat
  · rw [if_pos h, if_pos ((gz_nat h0 j).mpr h)]
  · rw [if_neg h, if_neg (fun z => h ((gz_nat h0 j).mp z))]
theorem gz_ule (f : Int → Int64) {i : Int32} {x : Int64} (h0 : 0 ≤ i.toInt) : vp_updL (fun j : Nat => f (j : Int)) i.toNatClampNeg x = fun j : Nat => gz_ul f i.toInt x (j : Int) := by
  funext j
  rw [gv_cl]
  unfold vp_updL gz_ul
  by_cases h : j = i.toInt.toNat
  · rw [if_pos h, if_pos ((gz_nat h0 j).mpr h)]
  · rw [if_neg h, if_neg (fun z => h ((gz_nat h0 j).mp z))]
theorem gz_ix {i : Int32} (h0 : 0 ≤ i.toInt) : ((i.toNatClampNeg : Nat) : Int) = i.toInt := by
  rw [gv_cl]
  omega
/-! THE JUDGEMENT -/
def gv_tys (ck : Nat → ClassId) : List (ClassId × FieldType) := [(ck 0, .int), (ck 1, .boolean), (ck 2, .long), (ck 3, .array .long), (ck 4, .array .int)]
abbrev gx_X : Type := Program × Launch × Env × State × MethodId × Array Value × List Frame × Method × Code × (State → Prop) × va_G × (Nat → Prop) × (Nat → Nat) × (Nat → ClassId)
abbrev gx_l (x : gx_X) : Launch := x.2.1
abbrev gx_s (x : gx_X) : State := x.2.2.2.1
abbrev gx_D (x : gx_X) : va_G := x.2.2.2.2.2.2.2.2.2.2.1
abbrev gx_ad (x : gx_X) : Nat → Nat := x.2.2.2.2.2.2.2.2.2.2.2.2.1
abbrev gx_ck (x : gx_X) : Nat → ClassId := x.2.2.2.2.2.2.2.2.2.2.2.2.2
/-- what holds all through a method's walk: N cells, of which those below w may be written; the method's class, its code, its locals -/
def gw_C (N w : Nat) (own : String) (cc : ByteArray) (nL : Nat) : gx_X → Prop
  | (p, _, _, s, m, args, _, meth, c, _, D, A, ad, ck) =>
    p.tables.exec = Jvm.exec ∧ c.code = cc ∧ c.maxLocals = nL ∧ s.vm.findClass own = some m.cls ∧ (∀ w ∈ gw_T, w.before args s = true) ∧ (∀ w ∈ gw_Nl, va_Nw w s) ∧ va_K D vwCl (gv_tys ck) s ∧ (∀ q, s.heap.size ≤ q → A q) ∧ (∀ i j, i < N → j < N → ad i = ad j → i = j) ∧ (∀ i, i < w → A (ad i)) ∧ meth.locks = false
/-- the walk stands at pc, with the cells cf, the locals lv, the stack st (k new cells, n new slots so far) -/
def gw_G (N nL : Nat) (R : Room) (x : gx_X) (k n : Nat) (cf : Nat → gc_T) (pc : Nat) (lv : List (Nat × gv_V)) (st : List gv_V) : Prop := match x with
  | (p, l, e, s, m, args, below, meth, c, Q, D, A, ad, ck) => ∀ (H : Heap) (locs : List Loc) (ls : Array Slot), va_P D vwCl (gw_L N ad ck cf) H → va_S A s.heap H locs → lv_has ls nL (lv.map (gv_p ad)) → W p l e R s m args below meth c H locs k n Q (F0 m pc ls (st.map (gv_v ad)))
section GX
variable {N w nL : Nat} {own : String} {cc : ByteArray} {R : Room} {x : gx_X} {k n : Nat} {cf : Nat → gc_T} {pc : Nat} {lv : List (Nat × gv_V)} {st : List gv_V}
theorem gx_lv (l2 : List (Nat × gv_V)) (hi : gv_in lv l2) (kk : gw_G N nL R x k n cf pc l2 st) : gw_G N nL R x k n cf pc lv st := by
  obtain ⟨p, l, e, s, m, args, below, meth, c, Q, D, A, ad, ck⟩ := x
  intro H locs ls hP hS hl
  exact kk H locs ls hP hS (gv_has hi hl)
theorem gx_iconst (hC : gw_C N w own cc nL x) {z : Int} {v : Int32} (hd : decode cc pc = .ok (.iconst z, 1)) (hz : Int32.ofInt z = v)
    (kk : gw_G N nL R x k n cf (pc + 1) lv (gv_I v :: st)) : gw_G N nL R x k n cf pc lv st := by
  obtain ⟨p, l, e, s, m, args, below, meth, c, Q, D, A, ad, ck⟩ := x
  obtain ⟨hx, hb, hml, hown, hts, hnw, hK, hA, hij, hAd, hlk⟩ := hC
  intro H locs ls hP hS hl
  exact lv_iconst hx hb hd hz (kk H locs ls hP hS hl)
theorem gx_bipush (hC : gw_C N w own cc nL x) {z : Int} {v : Int32} (hd : decode cc pc = .ok (.bipush z, 2)) (hz : (Int8.ofInt z).toInt32 = v)
    (kk : gw_G N nL R x k n cf (pc + 2) lv (gv_I v :: st)) : gw_G N nL R x k n cf pc lv st := by
  obtain ⟨p, l, e, s, m, args, below, meth, c, Q, D, A, ad, ck⟩ := x
  obtain ⟨hx, hb, hml, hown, hts, hnw, hK, hA, hij, hAd, hlk⟩ := hC
  intro H locs ls hP hS hl
  exact lv_bipush hx hb hd hz (kk H locs ls hP hS hl)
theorem gx_sipush (hC : gw_C N w own cc nL x) {z : Int} {v : Int32} (hd : decode cc pc = .ok (.sipush z, 3)) (hz : (Int16.ofInt z).toInt32 = v)
    (kk : gw_G N nL R x k n cf (pc + 3) lv (gv_I v :: st)) : gw_G N nL R x k n cf pc lv st := by
  obtain ⟨p, l, e, s, m, args, below, meth, c, Q, D, A, ad, ck⟩ := x
  obtain ⟨hx, hb, hml, hown, hts, hnw, hK, hA, hij, hAd, hlk⟩ := hC
  intro H locs ls hP hS hl
  exact lv_sipush hx hb hd hz (kk H locs ls hP hS hl)
theorem gx_lconst (hC : gw_C N w own cc nL x) {z : Fin 2} (hd : decode cc pc = .ok (.lconst z, 1)) 
    (kk : gw_G N nL R x k n cf (pc + 1) lv (gv_L (Int64.ofNat z) :: st)) : gw_G N nL R x k n cf pc lv st := by
  obtain ⟨p, l, e, s, m, args, below, meth, c, Q, D, A, ad, ck⟩ := x
  obtain ⟨hx, hb, hml, hown, hts, hnw, hK, hA, hij, hAd, hlk⟩ := hC
  intro H locs ls hP hS hl
  exact lv_lconst hx hb hd rfl (kk H locs ls hP hS hl)
theorem gx_ldc (hC : gw_C N w own cc nL x) {i : Nat} {v : Int32} (hd : decode cc pc = .ok (.ldc i, 2)) (hw : Cond.constant own i v ∈ gw_T)
    (kk : gw_G N nL R x k n cf (pc + 2) lv (gv_I v :: st)) : gw_G N nL R x k n cf pc lv st := by
  obtain ⟨p, l, e, s, m, args, below, meth, c, Q, D, A, ad, ck⟩ := x
  obtain ⟨hx, hb, hml, hown, hts, hnw, hK, hA, hij, hAd, hlk⟩ := hC
  intro H locs ls hP hS hl
  exact lv_ldc hx hb hown (hts _ hw) hd (kk H locs ls hP hS hl)
theorem gx_ldc2 (hC : gw_C N w own cc nL x) {i : Nat} {v : Int64} (hd : decode cc pc = .ok (.ldc2_w i, 3)) (hw : Cond.constantLong own i v ∈ gw_T)
    (kk : gw_G N nL R x k n cf (pc + 3) lv (gv_L v :: st)) : gw_G N nL R x k n cf pc lv st := by
  obtain ⟨p, l, e, s, m, args, below, meth, c, Q, D, A, ad, ck⟩ := x
  obtain ⟨hx, hb, hml, hown, hts, hnw, hK, hA, hij, hAd, hlk⟩ := hC
  intro H locs ls hP hS hl
  exact lv_ldc2 hx hb hown (hts _ hw) hd (kk H locs ls hP hS hl)
theorem gx_iload_n (hC : gw_C N w own cc nL x) {i : Fin 4} {z : Int32} (hd : decode cc pc = .ok (.iload_n i, 1)) (hv : gv_g lv i.val = some (gv_I z))
    (kk : gw_G N nL R x k n cf (pc + 1) lv (gv_I z :: st)) : gw_G N nL R x k n cf pc lv st := by
  obtain ⟨p, l, e, s, m, args, below, meth, c, Q, D, A, ad, ck⟩ := x
  obtain ⟨hx, hb, hml, hown, hts, hnw, hK, hA, hij, hAd, hlk⟩ := hC
  intro H locs ls hP hS hl
  exact lv_iload_n hx hb hd rfl (gv_at hl hv) (kk H locs ls hP hS hl)
theorem gx_iload (hC : gw_C N w own cc nL x) {i : Nat} {z : Int32} (hd : decode cc pc = .ok (.iload i, 2)) (hv : gv_g lv i = some (gv_I z))
    (kk : gw_G N nL R x k n cf (pc + 2) lv (gv_I z :: st)) : gw_G N nL R x k n cf pc lv st := by
  obtain ⟨p, l, e, s, m, args, below, meth, c, Q, D, A, ad, ck⟩ := x
  obtain ⟨hx, hb, hml, hown, hts, hnw, hK, hA, hij, hAd, hlk⟩ := hC
  intro H locs ls hP hS hl
  exact lv_iload hx hb hd (gv_at hl hv) (kk H locs ls hP hS hl)
theorem gx_lload_n (hC : gw_C N w own cc nL x) {i : Fin 4} {z : Int64} (hd : decode cc pc = .ok (.lload_n i, 1)) (hv : gv_g lv i.val = some (gv_L z))
    (kk : gw_G N nL R x k n cf (pc + 1) lv (gv_L z :: st)) : gw_G N nL R x k n cf pc lv st := by
  obtain ⟨p, l, e, s, m, args, below, meth, c, Q, D, A, ad, ck⟩ := x
  obtain ⟨hx, hb, hml, hown, hts, hnw, hK, hA, hij, hAd, hlk⟩ := hC
  intro H locs ls hP hS hl
  exact lv_lload_n hx hb hd rfl (gv_at hl hv) (kk H locs ls hP hS hl)
theorem gx_lload (hC : gw_C N w own cc nL x) {i : Nat} {z : Int64} (hd : decode cc pc = .ok (.lload i, 2)) (hv : gv_g lv i = some (gv_L z))
    (kk : gw_G N nL R x k n cf (pc + 2) lv (gv_L z :: st)) : gw_G N nL R x k n cf pc lv st := by
  obtain ⟨p, l, e, s, m, args, below, meth, c, Q, D, A, ad, ck⟩ := x
  obtain ⟨hx, hb, hml, hown, hts, hnw, hK, hA, hij, hAd, hlk⟩ := hC
  intro H locs ls hP hS hl
  exact lv_lload hx hb hd (gv_at hl hv) (kk H locs ls hP hS hl)
theorem gx_aload_n (hC : gw_C N w own cc nL x) {i : Fin 4} {z : Nat} (hd : decode cc pc = .ok (.aload_n i, 1)) (hv : gv_g lv i.val = some (gv_R z))
    (kk : gw_G N nL R x k n cf (pc + 1) lv (gv_R z :: st)) : gw_G N nL R x k n cf pc lv st := by
  obtain ⟨p, l, e, s, m, args, below, meth, c, Q, D, A, ad, ck⟩ := x
  obtain ⟨hx, hb, hml, hown, hts, hnw, hK, hA, hij, hAd, hlk⟩ := hC
  intro H locs ls hP hS hl
  exact lv_aload_n hx hb hd rfl (gv_at hl hv) (kk H locs ls hP hS hl)
theorem gx_aload (hC : gw_C N w own cc nL x) {i : Nat} {z : Nat} (hd : decode cc pc = .ok (.aload i, 2)) (hv : gv_g lv i = some (gv_R z))
    (kk : gw_G N nL R x k n cf (pc + 2) lv (gv_R z :: st)) : gw_G N nL R x k n cf pc lv st := by
  obtain ⟨p, l, e, s, m, args, below, meth, c, Q, D, A, ad, ck⟩ := x
  obtain ⟨hx, hb, hml, hown, hts, hnw, hK, hA, hij, hAd, hlk⟩ := hC
  intro H locs ls hP hS hl
  exact lv_aload hx hb hd (gv_at hl hv) (kk H locs ls hP hS hl)
theorem gx_istore (hC : gw_C N w own cc nL x) {i : Nat} {z : Int32} (hd : decode cc pc = .ok (.istore i, 2)) (hn : i < nL)
    (kk : gw_G N nL R x k n cf (pc + 2) (gv_s lv i (gv_I z)) st) : gw_G N nL R x k n cf pc lv (gv_I z :: st) := by
  obtain ⟨p, l, e, s, m, args, below, meth, c, Q, D, A, ad, ck⟩ := x
  obtain ⟨hx, hb, hml, hown, hts, hnw, hK, hA, hij, hAd, hlk⟩ := hC
  intro H locs ls hP hS hl
  exact lv_istore hx hb hd hl hn rfl (fun ls2 h2 => kk H locs ls2 hP hS (gv_st1 (v := gv_I z) rfl h2))
theorem gx_istore_n (hC : gw_C N w own cc nL x) {i : Fin 4} {z : Int32} (hd : decode cc pc = .ok (.istore_n i, 1)) (hn : i.val < nL)
    (kk : gw_G N nL R x k n cf (pc + 1) (gv_s lv i.val (gv_I z)) st) : gw_G N nL R x k n cf pc lv (gv_I z :: st) := by
  obtain ⟨p, l, e, s, m, args, below, meth, c, Q, D, A, ad, ck⟩ := x
  obtain ⟨hx, hb, hml, hown, hts, hnw, hK, hA, hij, hAd, hlk⟩ := hC
  intro H locs ls hP hS hl
  exact lv_istore_n hx hb hd rfl hl hn rfl (fun ls2 h2 => kk H locs ls2 hP hS (gv_st1 (v := gv_I z) rfl h2))
theorem gx_lstore (hC : gw_C N w own cc nL x) {i : Nat} {z : Int64} (hd : decode cc pc = .ok (.lstore i, 2)) (hn : i + 1 < nL)
    (kk : gw_G N nL R x k n cf (pc + 2) (gv_s lv i (gv_L z)) st) : gw_G N nL R x k n cf pc lv (gv_L z :: st) := by
  obtain ⟨p, l, e, s, m, args, below, meth, c, Q, D, A, ad, ck⟩ := x
  obtain ⟨hx, hb, hml, hown, hts, hnw, hK, hA, hij, hAd, hlk⟩ := hC
  intro H locs ls hP hS hl
  exact lv_lstore hx hb hd hl hn rfl (fun ls2 h2 => kk H locs ls2 hP hS (gv_st2 (v := gv_L z) rfl h2))
theorem gx_lstore_n (hC : gw_C N w own cc nL x) {i : Fin 4} {z : Int64} (hd : decode cc pc = .ok (.lstore_n i, 1)) (hn : i.val + 1 < nL)
    (kk : gw_G N nL R x k n cf (pc + 1) (gv_s lv i.val (gv_L z)) st) : gw_G N nL R x k n cf pc lv (gv_L z :: st) := by
  obtain ⟨p, l, e, s, m, args, below, meth, c, Q, D, A, ad, ck⟩ := x
  obtain ⟨hx, hb, hml, hown, hts, hnw, hK, hA, hij, hAd, hlk⟩ := hC
  intro H locs ls hP hS hl
  exact lv_lstore_n hx hb hd rfl hl hn rfl (fun ls2 h2 => kk H locs ls2 hP hS (gv_st2 (v := gv_L z) rfl h2))
theorem gx_astore (hC : gw_C N w own cc nL x) {i : Nat} {z : Nat} (hd : decode cc pc = .ok (.astore i, 2)) (hn : i < nL)
    (kk : gw_G N nL R x k n cf (pc + 2) (gv_s lv i (gv_R z)) st) : gw_G N nL R x k n cf pc lv (gv_R z :: st) := by
  obtain ⟨p, l, e, s, m, args, below, meth, c, Q, D, A, ad, ck⟩ := x
  obtain ⟨hx, hb, hml, hown, hts, hnw, hK, hA, hij, hAd, hlk⟩ := hC
  intro H locs ls hP hS hl
  exact lv_astore hx hb hd hl hn rfl (fun ls2 h2 => kk H locs ls2 hP hS (gv_st1 (v := gv_R z) rfl h2))
theorem gx_astore_n (hC : gw_C N w own cc nL x) {i : Fin 4} {z : Nat} (hd : decode cc pc = .ok (.astore_n i, 1)) (hn : i.val < nL)
    (kk : gw_G N nL R x k n cf (pc + 1) (gv_s lv i.val (gv_R z)) st) : gw_G N nL R x k n cf pc lv (gv_R z :: st) := by
  obtain ⟨p, l, e, s, m, args, below, meth, c, Q, D, A, ad, ck⟩ := x
  obtain ⟨hx, hb, hml, hown, hts, hnw, hK, hA, hij, hAd, hlk⟩ := hC
  intro H locs ls hP hS hl
  exact lv_astore_n hx hb hd rfl hl hn rfl (fun ls2 h2 => kk H locs ls2 hP hS (gv_st1 (v := gv_R z) rfl h2))
theorem gx_iinc (hC : gw_C N w own cc nL x) {i : Nat} {d : Int} {z v : Int32} (hd : decode cc pc = .ok (.iinc i d, 3)) (hv : gv_g lv i = some (gv_I z)) (hn : i < nL) (hz : z + Int32.ofInt d = v)
    (kk : gw_G N nL R x k n cf (pc + 3) (gv_s lv i (gv_I v)) st) : gw_G N nL R x k n cf pc lv st := by
  obtain ⟨p, l, e, s, m, args, below, meth, c, Q, D, A, ad, ck⟩ := x
  obtain ⟨hx, hb, hml, hown, hts, hnw, hK, hA, hij, hAd, hlk⟩ := hC
  intro H locs ls hP hS hl
  have h1 := gv_mem hv
  have h2 : (i, Value.int z) ∈ lv.map (gv_p ad) := List.mem_map.mpr ⟨_, h1, rfl⟩
  obtain ⟨j, hj⟩ := List.getElem?_of_mem h2
  exact lv_iinc (k := j) hx hb hd hl hj hz hn rfl (fun ls2 h3 => kk H locs ls2 hP hS (gv_st1 (v := gv_I v) rfl h3))
theorem gx_iadd (hC : gw_C N w own cc nL x) {a b : Int32} (hd : decode cc pc = .ok (.iadd, 1)) 
    (kk : gw_G N nL R x k n cf (pc + 1) lv (gv_I (a + b) :: st)) : gw_G N nL R x k n cf pc lv (gv_I b :: gv_I a :: st) := by
  obtain ⟨p, l, e, s, m, args, below, meth, c, Q, D, A, ad, ck⟩ := x
  obtain ⟨hx, hb, hml, hown, hts, hnw, hK, hA, hij, hAd, hlk⟩ := hC
  intro H locs ls hP hS hl
  exact lv_iadd hx hb hd (kk H locs ls hP hS hl)
theorem gx_isub (hC : gw_C N w own cc nL x) {a b : Int32} (hd : decode cc pc = .ok (.isub, 1)) 
    (kk : gw_G N nL R x k n cf (pc + 1) lv (gv_I (a - b) :: st)) : gw_G N nL R x k n cf pc lv (gv_I b :: gv_I a :: st) := by
  obtain ⟨p, l, e, s, m, args, below, meth, c, Q, D, A, ad, ck⟩ := x
  obtain ⟨hx, hb, hml, hown, hts, hnw, hK, hA, hij, hAd, hlk⟩ := hC
  intro H locs ls hP hS hl
  exact lv_isub hx hb hd (kk H locs ls hP hS hl)
theorem gx_imul (hC : gw_C N w own cc nL x) {a b : Int32} (hd : decode cc pc = .ok (.imul, 1)) 
    (kk : gw_G N nL R x k n cf (pc + 1) lv (gv_I (a * b) :: st)) : gw_G N nL R x k n cf pc lv (gv_I b :: gv_I a :: st) := by
  obtain ⟨p, l, e, s, m, args, below, meth, c, Q, D, A, ad, ck⟩ := x
  obtain ⟨hx, hb, hml, hown, hts, hnw, hK, hA, hij, hAd, hlk⟩ := hC
  intro H locs ls hP hS hl
  exact lv_imul hx hb hd (kk H locs ls hP hS hl)
theorem gx_ishl (hC : gw_C N w own cc nL x) {a b : Int32} (hd : decode cc pc = .ok (.ishl, 1)) 
    (kk : gw_G N nL R x k n cf (pc + 1) lv (gv_I (a <<< (b &&& 31)) :: st)) : gw_G N nL R x k n cf pc lv (gv_I b :: gv_I a :: st) := by
  obtain ⟨p, l, e, s, m, args, below, meth, c, Q, D, A, ad, ck⟩ := x
  obtain ⟨hx, hb, hml, hown, hts, hnw, hK, hA, hij, hAd, hlk⟩ := hC
  intro H locs ls hP hS hl
  exact lv_ishl hx hb hd (kk H locs ls hP hS hl)
theorem gx_ishr (hC : gw_C N w own cc nL x) {a b : Int32} (hd : decode cc pc = .ok (.ishr, 1)) 
    (kk : gw_G N nL R x k n cf (pc + 1) lv (gv_I (a >>> (b &&& 31)) :: st)) : gw_G N nL R x k n cf pc lv (gv_I b :: gv_I a :: st) := by
  obtain ⟨p, l, e, s, m, args, below, meth, c, Q, D, A, ad, ck⟩ := x
  obtain ⟨hx, hb, hml, hown, hts, hnw, hK, hA, hij, hAd, hlk⟩ := hC
  intro H locs ls hP hS hl
  exact lv_ishr hx hb hd (kk H locs ls hP hS hl)
theorem gx_iand (hC : gw_C N w own cc nL x) {a b : Int32} (hd : decode cc pc = .ok (.iand, 1)) 
    (kk : gw_G N nL R x k n cf (pc + 1) lv (gv_I (a &&& b) :: st)) : gw_G N nL R x k n cf pc lv (gv_I b :: gv_I a :: st) := by
  obtain ⟨p, l, e, s, m, args, below, meth, c, Q, D, A, ad, ck⟩ := x
  obtain ⟨hx, hb, hml, hown, hts, hnw, hK, hA, hij, hAd, hlk⟩ := hC
  intro H locs ls hP hS hl
  exact lv_iand hx hb hd (kk H locs ls hP hS hl)
theorem gx_ior (hC : gw_C N w own cc nL x) {a b : Int32} (hd : decode cc pc = .ok (.ior, 1)) 
    (kk : gw_G N nL R x k n cf (pc + 1) lv (gv_I (a ||| b) :: st)) : gw_G N nL R x k n cf pc lv (gv_I b :: gv_I a :: st) := by
  obtain ⟨p, l, e, s, m, args, below, meth, c, Q, D, A, ad, ck⟩ := x
  obtain ⟨hx, hb, hml, hown, hts, hnw, hK, hA, hij, hAd, hlk⟩ := hC
  intro H locs ls hP hS hl
  exact lv_ior hx hb hd (kk H locs ls hP hS hl)
theorem gx_irem (hC : gw_C N w own cc nL x) {a b : Int32} (hd : decode cc pc = .ok (.irem, 1)) (hne : ¬ b = 0)
    (kk : gw_G N nL R x k n cf (pc + 1) lv (gv_I (a - a / b * b) :: st)) : gw_G N nL R x k n cf pc lv (gv_I b :: gv_I a :: st) := by
  obtain ⟨p, l, e, s, m, args, below, meth, c, Q, D, A, ad, ck⟩ := x
  obtain ⟨hx, hb, hml, hown, hts, hnw, hK, hA, hij, hAd, hlk⟩ := hC
  intro H locs ls hP hS hl
  exact lv_irem hx hb hd hne (kk H locs ls hP hS hl)
theorem gx_ladd (hC : gw_C N w own cc nL x) {a b : Int64} (hd : decode cc pc = .ok (.ladd, 1)) 
    (kk : gw_G N nL R x k n cf (pc + 1) lv (gv_L (a + b) :: st)) : gw_G N nL R x k n cf pc lv (gv_L b :: gv_L a :: st) := by
  obtain ⟨p, l, e, s, m, args, below, meth, c, Q, D, A, ad, ck⟩ := x
  obtain ⟨hx, hb, hml, hown, hts, hnw, hK, hA, hij, hAd, hlk⟩ := hC
  intro H locs ls hP hS hl
  exact lv_ladd hx hb hd (kk H locs ls hP hS hl)
theorem gx_lsub (hC : gw_C N w own cc nL x) {a b : Int64} (hd : decode cc pc = .ok (.lsub, 1)) 
    (kk : gw_G N nL R x k n cf (pc + 1) lv (gv_L (a - b) :: st)) : gw_G N nL R x k n cf pc lv (gv_L b :: gv_L a :: st) := by
  obtain ⟨p, l, e, s, m, args, below, meth, c, Q, D, A, ad, ck⟩ := x
  obtain ⟨hx, hb, hml, hown, hts, hnw, hK, hA, hij, hAd, hlk⟩ := hC
  intro H locs ls hP hS hl
  exact lv_lsub hx hb hd (kk H locs ls hP hS hl)
theorem gx_lmul (hC : gw_C N w own cc nL x) {a b : Int64} (hd : decode cc pc = .ok (.lmul, 1)) 
    (kk : gw_G N nL R x k n cf (pc + 1) lv (gv_L (a * b) :: st)) : gw_G N nL R x k n cf pc lv (gv_L b :: gv_L a :: st) := by
  obtain ⟨p, l, e, s, m, args, below, meth, c, Q, D, A, ad, ck⟩ := x
  obtain ⟨hx, hb, hml, hown, hts, hnw, hK, hA, hij, hAd, hlk⟩ := hC
  intro H locs ls hP hS hl
  exact lv_lmul hx hb hd (kk H locs ls hP hS hl)
theorem gx_land (hC : gw_C N w own cc nL x) {a b : Int64} (hd : decode cc pc = .ok (.land, 1)) 
    (kk : gw_G N nL R x k n cf (pc + 1) lv (gv_L (a &&& b) :: st)) : gw_G N nL R x k n cf pc lv (gv_L b :: gv_L a :: st) := by
  obtain ⟨p, l, e, s, m, args, below, meth, c, Q, D, A, ad, ck⟩ := x
  obtain ⟨hx, hb, hml, hown, hts, hnw, hK, hA, hij, hAd, hlk⟩ := hC
  intro H locs ls hP hS hl
  exact lv_land hx hb hd (kk H locs ls hP hS hl)
theorem gx_lor (hC : gw_C N w own cc nL x) {a b : Int64} (hd : decode cc pc = .ok (.lor, 1)) 
    (kk : gw_G N nL R x k n cf (pc + 1) lv (gv_L (a ||| b) :: st)) : gw_G N nL R x k n cf pc lv (gv_L b :: gv_L a :: st) := by
  obtain ⟨p, l, e, s, m, args, below, meth, c, Q, D, A, ad, ck⟩ := x
  obtain ⟨hx, hb, hml, hown, hts, hnw, hK, hA, hij, hAd, hlk⟩ := hC
  intro H locs ls hP hS hl
  exact lv_lor hx hb hd (kk H locs ls hP hS hl)
theorem gx_lshl (hC : gw_C N w own cc nL x) {a : Int64} {b : Int32} (hd : decode cc pc = .ok (.lshl, 1)) 
    (kk : gw_G N nL R x k n cf (pc + 1) lv (gv_L (a <<< (b.toInt64 &&& 63)) :: st)) : gw_G N nL R x k n cf pc lv (gv_I b :: gv_L a :: st) := by
  obtain ⟨p, l, e, s, m, args, below, meth, c, Q, D, A, ad, ck⟩ := x
  obtain ⟨hx, hb, hml, hown, hts, hnw, hK, hA, hij, hAd, hlk⟩ := hC
  intro H locs ls hP hS hl
  exact lv_lshl hx hb hd rfl (kk H locs ls hP hS hl)
theorem gx_i2l (hC : gw_C N w own cc nL x) {a : Int32} (hd : decode cc pc = .ok (.i2l, 1)) 
    (kk : gw_G N nL R x k n cf (pc + 1) lv (gv_L (a.toInt64) :: st)) : gw_G N nL R x k n cf pc lv (gv_I a :: st) := by
  obtain ⟨p, l, e, s, m, args, below, meth, c, Q, D, A, ad, ck⟩ := x
  obtain ⟨hx, hb, hml, hown, hts, hnw, hK, hA, hij, hAd, hlk⟩ := hC
  intro H locs ls hP hS hl
  exact lv_i2l hx hb hd rfl (kk H locs ls hP hS hl)
theorem gx_dup (hC : gw_C N w own cc nL x) {v : gv_V} (hd : decode cc pc = .ok (.dup, 1)) (hv : gv_c v = 1)
    (kk : gw_G N nL R x k n cf (pc + 1) lv (v :: v :: st)) : gw_G N nL R x k n cf pc lv (v :: st) := by
  obtain ⟨p, l, e, s, m, args, below, meth, c, Q, D, A, ad, ck⟩ := x
  obtain ⟨hx, hb, hml, hown, hts, hnw, hK, hA, hij, hAd, hlk⟩ := hC
  intro H locs ls hP hS hl
  exact lv_dup hx hb hd ((gv_cat ad v).trans hv) (kk H locs ls hP hS hl)
theorem gx_dup2 (hC : gw_C N w own cc nL x) {v v2 : gv_V} (hd : decode cc pc = .ok (.dup2, 1)) (hv : gv_c v = 1) (hv2 : gv_c v2 = 1)
    (kk : gw_G N nL R x k n cf (pc + 1) lv (v :: v2 :: v :: v2 :: st)) : gw_G N nL R x k n cf pc lv (v :: v2 :: st) := by
  obtain ⟨p, l, e, s, m, args, below, meth, c, Q, D, A, ad, ck⟩ := x
  obtain ⟨hx, hb, hml, hown, hts, hnw, hK, hA, hij, hAd, hlk⟩ := hC
  intro H locs ls hP hS hl
  exact lv_dup2_11 hx hb hd ((gv_cat ad v).trans hv) ((gv_cat ad v2).trans hv2) (kk H locs ls hP hS hl)
theorem gx_goto (hC : gw_C N w own cc nL x) {off : Int} {tgt : Nat} (hd : decode cc pc = .ok (.goto off, 3)) (ht : (pc : Int) + off = (tgt : Int))
    (kk : gw_G N nL R x k n cf tgt lv st) : gw_G N nL R x k n cf pc lv st := by
  obtain ⟨p, l, e, s, m, args, below, meth, c, Q, D, A, ad, ck⟩ := x
  obtain ⟨hx, hb, hml, hown, hts, hnw, hK, hA, hij, hAd, hlk⟩ := hC
  intro H locs ls hP hS hl
  exact lv_goto hx hb hd ht (kk H locs ls hP hS hl)
theorem gx_icmp_eq (hC : gw_C N w own cc nL x) {a b : Int32} {off : Int} {tgt : Nat} (hd : decode cc pc = .ok (.if_icmp .eq off, 3)) (ht : (pc : Int) + off = (tgt : Int))
    (kt : a = b → gw_G N nL R x k n cf tgt lv st) (kf : ¬ a = b → gw_G N nL R x k n cf (pc + 3) lv st) : gw_G N nL R x k n cf pc lv (gv_I b :: gv_I a :: st) := by
  obtain ⟨p, l, e, s, m, args, below, meth, c, Q, D, A, ad, ck⟩ := x
  obtain ⟨hx, hb, hml, hown, hts, hnw, hK, hA, hij, hAd, hlk⟩ := hC
  intro H locs ls hP hS hl
  exact lv_icmp_eq hx hb hd ht (fun h => kt h H locs ls hP hS hl) (fun h => kf h H locs ls hP hS hl)
theorem gx_if_eq (hC : gw_C N w own cc nL x) {a : Int32} {off : Int} {tgt : Nat} (hd : decode cc pc = .ok (.ifCond .eq off, 3)) (ht : (pc : Int) + off = (tgt : Int))
    (kt : a = 0 → gw_G N nL R x k n cf tgt lv st) (kf : ¬ a = 0 → gw_G N nL R x k n cf (pc + 3) lv st) : gw_G N nL R x k n cf pc lv (gv_I a :: st) := by
  obtain ⟨p, l, e, s, m, args, below, meth, c, Q, D, A, ad, ck⟩ := x
  obtain ⟨hx, hb, hml, hown, hts, hnw, hK, hA, hij, hAd, hlk⟩ := hC
  intro H locs ls hP hS hl
  exact lv_if_eq hx hb hd ht (fun h => kt h H locs ls hP hS hl) (fun h => kf h H locs ls hP hS hl)
theorem gx_icmp_ne (hC : gw_C N w own cc nL x) {a b : Int32} {off : Int} {tgt : Nat} (hd : decode cc pc = .ok (.if_icmp .ne off, 3)) (ht : (pc : Int) + off = (tgt : Int))
    (kt : ¬ a = b → gw_G N nL R x k n cf tgt lv st) (kf : a = b → gw_G N nL R x k n cf (pc + 3) lv st) : gw_G N nL R x k n cf pc lv (gv_I b :: gv_I a :: st) := by
  obtain ⟨p, l, e, s, m, args, below, meth, c, Q, D, A, ad, ck⟩ := x
  obtain ⟨hx, hb, hml, hown, hts, hnw, hK, hA, hij, hAd, hlk⟩ := hC
  intro H locs ls hP hS hl
  exact lv_icmp_ne hx hb hd ht (fun h => kt h H locs ls hP hS hl) (fun h => kf h H locs ls hP hS hl)
theorem gx_if_ne (hC : gw_C N w own cc nL x) {a : Int32} {off : Int} {tgt : Nat} (hd : decode cc pc = .ok (.ifCond .ne off, 3)) (ht : (pc : Int) + off = (tgt : Int))
    (kt : ¬ a = 0 → gw_G N nL R x k n cf tgt lv st) (kf : a = 0 → gw_G N nL R x k n cf (pc + 3) lv st) : gw_G N nL R x k n cf pc lv (gv_I a :: st) := by
  obtain ⟨p, l, e, s, m, args, below, meth, c, Q, D, A, ad, ck⟩ := x
  obtain ⟨hx, hb, hml, hown, hts, hnw, hK, hA, hij, hAd, hlk⟩ := hC
  intro H locs ls hP hS hl
  exact lv_if_ne hx hb hd ht (fun h => kt h H locs ls hP hS hl) (fun h => kf h H locs ls hP hS hl)
theorem gx_icmp_lt (hC : gw_C N w own cc nL x) {a b : Int32} {off : Int} {tgt : Nat} (hd : decode cc pc = .ok (.if_icmp .lt off, 3)) (ht : (pc : Int) + off = (tgt : Int))
    (kt : a < b → gw_G N nL R x k n cf tgt lv st) (kf : ¬ a < b → gw_G N nL R x k n cf (pc + 3) lv st) : gw_G N nL R x k n cf pc lv (gv_I b :: gv_I a :: st) := by
  obtain ⟨p, l, e, s, m, args, below, meth, c, Q, D, A, ad, ck⟩ := x
  obtain ⟨hx, hb, hml, hown, hts, hnw, hK, hA, hij, hAd, hlk⟩ := hC
  intro H locs ls hP hS hl
  exact lv_icmp_lt hx hb hd ht (fun h => kt h H locs ls hP hS hl) (fun h => kf h H locs ls hP hS hl)
theorem gx_if_lt (hC : gw_C N w own cc nL x) {a : Int32} {off : Int} {tgt : Nat} (hd : decode cc pc = .ok (.ifCond .lt off, 3)) (ht : (pc : Int) + off = (tgt : Int))
    (kt : a < 0 → gw_G N nL R x k n cf tgt lv st) (kf : ¬ a < 0 → gw_G N nL R x k n cf (pc + 3) lv st) : gw_G N nL R x k n cf pc lv (gv_I a :: st) := by
  obtain ⟨p, l, e, s, m, args, below, meth, c, Q, D, A, ad, ck⟩ := x
  obtain ⟨hx, hb, hml, hown, hts, hnw, hK, hA, hij, hAd, hlk⟩ := hC
  intro H locs ls hP hS hl
  exact lv_if_lt hx hb hd ht (fun h => kt h H locs ls hP hS hl) (fun h => kf h H locs ls hP hS hl)
theorem gx_icmp_ge (hC : gw_C N w own cc nL x) {a b : Int32} {off : Int} {tgt : Nat} (hd : decode cc pc = .ok (.if_icmp .ge off, 3)) (ht : (pc : Int) + off = (tgt : Int))
    (kt : b ≤ a → gw_G N nL R x k n cf tgt lv st) (kf : ¬ b ≤ a → gw_G N nL R x k n cf (pc + 3) lv st) : gw_G N nL R x k n cf pc lv (gv_I b :: gv_I a :: st) := by
  obtain ⟨p, l, e, s, m, args, below, meth, c, Q, D, A, ad, ck⟩ := x
  obtain ⟨hx, hb, hml, hown, hts, hnw, hK, hA, hij, hAd, hlk⟩ := hC
  intro H locs ls hP hS hl
  exact lv_icmp_ge hx hb hd ht (fun h => kt h H locs ls hP hS hl) (fun h => kf h H locs ls hP hS hl)
theorem gx_if_ge (hC : gw_C N w own cc nL x) {a : Int32} {off : Int} {tgt : Nat} (hd : decode cc pc = .ok (.ifCond .ge off, 3)) (ht : (pc : Int) + off = (tgt : Int))
    (kt : 0 ≤ a → gw_G N nL R x k n cf tgt lv st) (kf : ¬ 0 ≤ a → gw_G N nL R x k n cf (pc + 3) lv st) : gw_G N nL R x k n cf pc lv (gv_I a :: st) := by
  obtain ⟨p, l, e, s, m, args, below, meth, c, Q, D, A, ad, ck⟩ := x
  obtain ⟨hx, hb, hml, hown, hts, hnw, hK, hA, hij, hAd, hlk⟩ := hC
  intro H locs ls hP hS hl
  exact lv_if_ge hx hb hd ht (fun h => kt h H locs ls hP hS hl) (fun h => kf h H locs ls hP hS hl)
theorem gx_icmp_gt (hC : gw_C N w own cc nL x) {a b : Int32} {off : Int} {tgt : Nat} (hd : decode cc pc = .ok (.if_icmp .gt off, 3)) (ht : (pc : Int) + off = (tgt : Int))
    (kt : b < a → gw_G N nL R x k n cf tgt lv st) (kf : ¬ b < a → gw_G N nL R x k n cf (pc + 3) lv st) : gw_G N nL R x k n cf pc lv (gv_I b :: gv_I a :: st) := by
  obtain ⟨p, l, e, s, m, args, below, meth, c, Q, D, A, ad, ck⟩ := x
  obtain ⟨hx, hb, hml, hown, hts, hnw, hK, hA, hij, hAd, hlk⟩ := hC
  intro H locs ls hP hS hl
  exact lv_icmp_gt hx hb hd ht (fun h => kt h H locs ls hP hS hl) (fun h => kf h H locs ls hP hS hl)
theorem gx_if_gt (hC : gw_C N w own cc nL x) {a : Int32} {off : Int} {tgt : Nat} (hd : decode cc pc = .ok (.ifCond .gt off, 3)) (ht : (pc : Int) + off = (tgt : Int))
    (kt : 0 < a → gw_G N nL R x k n cf tgt lv st) (kf : ¬ 0 < a → gw_G N nL R x k n cf (pc + 3) lv st) : gw_G N nL R x k n cf pc lv (gv_I a :: st) := by
  obtain ⟨p, l, e, s, m, args, below, meth, c, Q, D, A, ad, ck⟩ := x
  obtain ⟨hx, hb, hml, hown, hts, hnw, hK, hA, hij, hAd, hlk⟩ := hC
  intro H locs ls hP hS hl
  exact lv_if_gt hx hb hd ht (fun h => kt h H locs ls hP hS hl) (fun h => kf h H locs ls hP hS hl)
theorem gx_icmp_le (hC : gw_C N w own cc nL x) {a b : Int32} {off : Int} {tgt : Nat} (hd : decode cc pc = .ok (.if_icmp .le off, 3)) (ht : (pc : Int) + off = (tgt : Int))
    (kt : a ≤ b → gw_G N nL R x k n cf tgt lv st) (kf : ¬ a ≤ b → gw_G N nL R x k n cf (pc + 3) lv st) : gw_G N nL R x k n cf pc lv (gv_I b :: gv_I a :: st) := by
  obtain ⟨p, l, e, s, m, args, below, meth, c, Q, D, A, ad, ck⟩ := x
  obtain ⟨hx, hb, hml, hown, hts, hnw, hK, hA, hij, hAd, hlk⟩ := hC
  intro H locs ls hP hS hl
  exact lv_icmp_le hx hb hd ht (fun h => kt h H locs ls hP hS hl) (fun h => kf h H locs ls hP hS hl)
theorem gx_if_le (hC : gw_C N w own cc nL x) {a : Int32} {off : Int} {tgt : Nat} (hd : decode cc pc = .ok (.ifCond .le off, 3)) (ht : (pc : Int) + off = (tgt : Int))
    (kt : a ≤ 0 → gw_G N nL R x k n cf tgt lv st) (kf : ¬ a ≤ 0 → gw_G N nL R x k n cf (pc + 3) lv st) : gw_G N nL R x k n cf pc lv (gv_I a :: st) := by
  obtain ⟨p, l, e, s, m, args, below, meth, c, Q, D, A, ad, ck⟩ := x
  obtain ⟨hx, hb, hml, hown, hts, hnw, hK, hA, hij, hAd, hlk⟩ := hC
  intro H locs ls hP hS hl
  exact lv_if_le hx hb hd ht (fun h => kt h H locs ls hP hS hl) (fun h => kf h H locs ls hP hS hl)
theorem gx_cmp3 (a b : Int64) : (b < a ∧ lg_cmp a b = 1 ∧ ¬ a = b) ∨ (a = b ∧ lg_cmp a b = 0 ∧ ¬ b < a ∧ ¬ a < b) ∨ (a < b ∧ lg_cmp a b = -1 ∧ ¬ a = b) := by
  by_cases h1 : b < a
  · refine Or.inl ⟨h1, by simp [lg_cmp, h1], fun h => ?_⟩
    rw [h, Int64.lt_iff_toInt_lt] at h1
    omega
  · by_cases h2 : a = b
    · refine Or.inr (Or.inl ⟨h2, by simp [lg_cmp, h2], h1, fun h => ?_⟩)
      rw [h2, Int64.lt_iff_toInt_lt] at h
      omega
    · refine Or.inr (Or.inr ⟨?_, by simp [lg_cmp, h1, h2], h2⟩)
      rw [Int64.lt_iff_toInt_lt] at h1 ⊢
      have h3 : a.toInt ≠ b.toInt := fun h => h2 (Int64.toInt_inj.mp h)
      omega
theorem gx_le64 {a b : Int64} : a ≤ b ↔ ¬ b < a := by
  rw [Int64.le_iff_toInt_le, Int64.lt_iff_toInt_lt]
  omega
theorem gx_lcmp_eq (hC : gw_C N w own cc nL x) {a b : Int64} {off : Int} {tgt : Nat} (hd : decode cc pc = .ok (.lcmp, 1)) (hd2 : decode cc (pc + 1) = .ok (.ifCond .eq off, 3)) (ht : ((pc + 1 : Nat) : Int) + off = (tgt : Int))
    (kt : a = b → gw_G N nL R x k n cf tgt lv st) (kf : ¬ a = b → gw_G N nL R x k n cf (pc + 4) lv st) : gw_G N nL R x k n cf pc lv (gv_L b :: gv_L a :: st) := by
  obtain ⟨p, l, e, s, m, args, below, meth, c, Q, D, A, ad, ck⟩ := x
  obtain ⟨hx, hb, hml, hown, hts, hnw, hK, hA, hij, hAd, hlk⟩ := hC
  intro H locs ls hP hS hl
  refine W.lcmp hx hb hd ?_
  rcases gx_cmp3 a b with ⟨h1, h2, h3⟩ | ⟨h1, h2, h3, h4⟩ | ⟨h1, h2, h3⟩ <;> rw [h2]
  · refine lv_if_eq hx hb hd2 ht (fun z => absurd z (by decide)) (fun _ => kf h3 H locs ls hP hS hl)
  · refine lv_if_eq hx hb hd2 ht (fun _ => kt h1 H locs ls hP hS hl) (fun z => absurd z (by decide))
  · refine lv_if_eq hx hb hd2 ht (fun z => absurd z (by decide)) (fun _ => kf h3 H locs ls hP hS hl)
theorem gx_lcmp_ne (hC : gw_C N w own cc nL x) {a b : Int64} {off : Int} {tgt : Nat} (hd : decode cc pc = .ok (.lcmp, 1)) (hd2 : decode cc (pc + 1) = .ok (.ifCond .ne off, 3)) (ht : ((pc + 1 : Nat) : Int) + off = (tgt : Int))
    (kt : ¬ a = b → gw_G N nL R x k n cf tgt lv st) (kf : a = b → gw_G N nL R x k n cf (pc + 4) lv st) : gw_G N nL R x k n cf pc lv (gv_L b :: gv_L a :: st) := by
  obtain ⟨p, l, e, s, m, args, below, meth, c, Q, D, A, ad, ck⟩ := x
  obtain ⟨hx, hb, hml, hown, hts, hnw, hK, hA, hij, hAd, hlk⟩ := hC
  intro H locs ls hP hS hl
  refine W.lcmp hx hb hd ?_
  rcases gx_cmp3 a b with ⟨h1, h2, h3⟩ | ⟨h1, h2, h3, h4⟩ | ⟨h1, h2, h3⟩ <;> rw [h2]
  · refine lv_if_ne hx hb hd2 ht (fun _ => kt h3 H locs ls hP hS hl) (fun z => absurd z (by decide))
  · refine lv_if_ne hx hb hd2 ht (fun z => absurd z (by decide)) (fun _ => kf h1 H locs ls hP hS hl)
  · refine lv_if_ne hx hb hd2 ht (fun _ => kt h3 H locs ls hP hS hl) (fun z => absurd z (by decide))
theorem gx_lcmp_lt (hC : gw_C N w own cc nL x) {a b : Int64} {off : Int} {tgt : Nat} (hd : decode cc pc = .ok (.lcmp, 1)) (hd2 : decode cc (pc + 1) = .ok (.ifCond .lt off, 3)) (ht : ((pc + 1 : Nat) : Int) + off = (tgt : Int))
    (kt : a < b → gw_G N nL R x k n cf tgt lv st) (kf : ¬ a < b → gw_G N nL R x k n cf (pc + 4) lv st) : gw_G N nL R x k n cf pc lv (gv_L b :: gv_L a :: st) := by
  obtain ⟨p, l, e, s, m, args, below, meth, c, Q, D, A, ad, ck⟩ := x
  obtain ⟨hx, hb, hml, hown, hts, hnw, hK, hA, hij, hAd, hlk⟩ := hC
  intro H locs ls hP hS hl
  refine W.lcmp hx hb hd ?_
  rcases gx_cmp3 a b with ⟨h1, h2, h3⟩ | ⟨h1, h2, h3, h4⟩ | ⟨h1, h2, h3⟩ <;> rw [h2]
  · refine lv_if_lt hx hb hd2 ht (fun z => absurd z (by decide)) (fun _ => kf (fun z => (gx_le64.mp (Int64.le_of_lt h1)) z) H locs ls hP hS hl)
  · refine lv_if_lt hx hb hd2 ht (fun z => absurd z (by decide)) (fun _ => kf h4 H locs ls hP hS hl)
  · refine lv_if_lt hx hb hd2 ht (fun _ => kt h1 H locs ls hP hS hl) (fun z => absurd z (by decide))
theorem gx_lcmp_ge (hC : gw_C N w own cc nL x) {a b : Int64} {off : Int} {tgt : Nat} (hd : decode cc pc = .ok (.lcmp, 1)) (hd2 : decode cc (pc + 1) = .ok (.ifCond .ge off, 3)) (ht : ((pc + 1 : Nat) : Int) + off = (tgt : Int))
    (kt : b ≤ a → gw_G N nL R x k n cf tgt lv st) (kf : ¬ b ≤ a → gw_G N nL R x k n cf (pc + 4) lv st) : gw_G N nL R x k n cf pc lv (gv_L b :: gv_L a :: st) := by
  obtain ⟨p, l, e, s, m, args, below, meth, c, Q, D, A, ad, ck⟩ := x
  obtain ⟨hx, hb, hml, hown, hts, hnw, hK, hA, hij, hAd, hlk⟩ := hC
  intro H locs ls hP hS hl
  refine W.lcmp hx hb hd ?_
  rcases gx_cmp3 a b with ⟨h1, h2, h3⟩ | ⟨h1, h2, h3, h4⟩ | ⟨h1, h2, h3⟩ <;> rw [h2]
  · refine lv_if_ge hx hb hd2 ht (fun _ => kt (gx_le64.mpr (fun z => absurd (Int64.lt_trans h1 z) (Int64.lt_irrefl))) H locs ls hP hS hl) (fun z => absurd z (by decide))
  · refine lv_if_ge hx hb hd2 ht (fun _ => kt (gx_le64.mpr h4) H locs ls hP hS hl) (fun z => absurd z (by decide))
  · refine lv_if_ge hx hb hd2 ht (fun z => absurd z (by decide)) (fun _ => kf (fun z => (gx_le64.mp z) h1) H locs ls hP hS hl)
theorem gx_lcmp_gt (hC : gw_C N w own cc nL x) {a b : Int64} {off : Int} {tgt : Nat} (hd : decode cc pc = .ok (.lcmp, 1)) (hd2 : decode cc (pc + 1) = .ok (.ifCond .gt off, 3)) (ht : ((pc + 1 : Nat) : Int) + off = (tgt : Int))
    (kt : b < a → gw_G N nL R x k n cf tgt lv st) (kf : ¬ b < a → gw_G N nL R x k n cf (pc + 4) lv st) : gw_G N nL R x k n cf pc lv (gv_L b :: gv_L a :: st) := by
  obtain ⟨p, l, e, s, m, args, below, meth, c, Q, D, A, ad, ck⟩ := x
  obtain ⟨hx, hb, hml, hown, hts, hnw, hK, hA, hij, hAd, hlk⟩ := hC
  intro H locs ls hP hS hl
  refine W.lcmp hx hb hd ?_
  rcases gx_cmp3 a b with ⟨h1, h2, h3⟩ | ⟨h1, h2, h3, h4⟩ | ⟨h1, h2, h3⟩ <;> rw [h2]
  · refine lv_if_gt hx hb hd2 ht (fun _ => kt h1 H locs ls hP hS hl) (fun z => absurd z (by decide))
  · refine lv_if_gt hx hb hd2 ht (fun z => absurd z (by decide)) (fun _ => kf h3 H locs ls hP hS hl)
  · refine lv_if_gt hx hb hd2 ht (fun z => absurd z (by decide)) (fun _ => kf (fun z => absurd (Int64.lt_trans h1 z) (Int64.lt_irrefl)) H locs ls hP hS hl)
theorem gx_lcmp_le (hC : gw_C N w own cc nL x) {a b : Int64} {off : Int} {tgt : Nat} (hd : decode cc pc = .ok (.lcmp, 1)) (hd2 : decode cc (pc + 1) = .ok (.ifCond .le off, 3)) (ht : ((pc + 1 : Nat) : Int) + off = (tgt : Int))
    (kt : a ≤ b → gw_G N nL R x k n cf tgt lv st) (kf : ¬ a ≤ b → gw_G N nL R x k n cf (pc + 4) lv st) : gw_G N nL R x k n cf pc lv (gv_L b :: gv_L a :: st) := by
  obtain ⟨p, l, e, s, m, args, below, meth, c, Q, D, A, ad, ck⟩ := x
  obtain ⟨hx, hb, hml, hown, hts, hnw, hK, hA, hij, hAd, hlk⟩ := hC
  intro H locs ls hP hS hl
  refine W.lcmp hx hb hd ?_
  rcases gx_cmp3 a b with ⟨h1, h2, h3⟩ | ⟨h1, h2, h3, h4⟩ | ⟨h1, h2, h3⟩ <;> rw [h2]
  · refine lv_if_le hx hb hd2 ht (fun z => absurd z (by decide)) (fun _ => kf (fun z => (gx_le64.mp z) h1) H locs ls hP hS hl)
  · refine lv_if_le hx hb hd2 ht (fun _ => kt (gx_le64.mpr h3) H locs ls hP hS hl) (fun z => absurd z (by decide))
  · refine lv_if_le hx hb hd2 ht (fun _ => kt (gx_le64.mpr (fun z => absurd (Int64.lt_trans h1 z) (Int64.lt_irrefl))) H locs ls hP hS hl) (fun z => absurd z (by decide))
/-- an int of an array -/
theorem gx_iald (hC : gw_C N w own cc nL x) {o len : Nat} {f : Int → Int32} {z : Int32} (hd : decode cc pc = .ok (.iaload, 1)) (ho : o < N) (hc : cf o = gc_I 0 len f) (hz : 0 ≤ z.toInt ∧ z.toInt < (len : Int))
    (kk : gw_G N nL R x k n cf (pc + 1) lv (gv_I (f z.toInt) :: st)) : gw_G N nL R x k n cf pc lv (gv_I z :: gv_R o :: st) := by
  obtain ⟨p, l, e, s, m, args, below, meth, c, Q, D, A, ad, ck⟩ := x
  obtain ⟨hx, hb, hml, hown, hts, hnw, hK, hA, hij, hAd, hlk⟩ := hC
  intro H locs ls hP hS hl
  refine va_iald hx hb hK hP o 0 (gw_atE ho hc) rfl (gv_vin hz) hd ?_
  have h := kk H locs ls hP hS hl
  rw [← gz_ix hz.1] at h
  exact h
/-- a boolean of an array -/
theorem gx_zald (hC : gw_C N w own cc nL x) {o len : Nat} {f : Int → Int32} {z : Int32} (hd : decode cc pc = .ok (.baload, 1)) (ho : o < N) (hc : cf o = gc_I 1 len f) (hz : 0 ≤ z.toInt ∧ z.toInt < (len : Int))
    (kk : gw_G N nL R x k n cf (pc + 1) lv (gv_I (f z.toInt) :: st)) : gw_G N nL R x k n cf pc lv (gv_I z :: gv_R o :: st) := by
  obtain ⟨p, l, e, s, m, args, below, meth, c, Q, D, A, ad, ck⟩ := x
  obtain ⟨hx, hb, hml, hown, hts, hnw, hK, hA, hij, hAd, hlk⟩ := hC
  intro H locs ls hP hS hl
  refine va_zald hx hb hK hP o 1 (gw_atE ho hc) rfl (gv_vin hz) hd ?_
  have h := kk H locs ls hP hS hl
  rw [← gz_ix hz.1] at h
  exact h
/-- a long of an array -/
theorem gx_lald (hC : gw_C N w own cc nL x) {o len : Nat} {f : Int → Int64} {z : Int32} (hd : decode cc pc = .ok (.laload, 1)) (ho : o < N) (hc : cf o = gc_L len f) (hz : 0 ≤ z.toInt ∧ z.toInt < (len : Int))
    (kk : gw_G N nL R x k n cf (pc + 1) lv (gv_L (f z.toInt) :: st)) : gw_G N nL R x k n cf pc lv (gv_I z :: gv_R o :: st) := by
  obtain ⟨p, l, e, s, m, args, below, meth, c, Q, D, A, ad, ck⟩ := x
  obtain ⟨hx, hb, hml, hown, hts, hnw, hK, hA, hij, hAd, hlk⟩ := hC
  intro H locs ls hP hS hl
  refine va_lald hx hb hK hP o 2 (gw_atE ho hc) rfl (gv_vin hz) hd ?_
  have h := kk H locs ls hP hS hl
  rw [← gz_ix hz.1] at h
  exact h
/-- a row of an array of arrays -/
theorem gx_aald (hC : gw_C N w own cc nL x) {o len kd r : Nat} {f : Int → Option Nat} {z : Int32} (hd : decode cc pc = .ok (.aaload, 1)) (ho : o < N) (hkd : kd = 3 ∨ kd = 4) (hc : cf o = gc_R kd len f) (hz : 0 ≤ z.toInt ∧ z.toInt < (len : Int)) (hr : f z.toInt = some r)
    (kk : gw_G N nL R x k n cf (pc + 1) lv (gv_R r :: st)) : gw_G N nL R x k n cf pc lv (gv_I z :: gv_R o :: st) := by
  obtain ⟨p, l, e, s, m, args, below, meth, c, Q, D, A, ad, ck⟩ := x
  obtain ⟨hx, hb, hml, hown, hts, hnw, hK, hA, hij, hAd, hlk⟩ := hC
  intro H locs ls hP hS hl
  have e := gz_ix hz.1
  have hlt : z.toNatClampNeg < len := by
    rw [gv_cl]
    omega
  have hv : (arrV (ck kd) len (fun j : Nat => va_rf ((f (j : Int)).map ad))).slots[z.toNatClampNeg]? = some (.ref (ad r)) := by
    rw [arrV_read _ _ hlt]
    show some (va_rf ((f ((z.toNatClampNeg : Nat) : Int)).map ad)) = _
    rw [e, hr]
    rfl
  have hcell : H[ad o]? = some (arrV (ck kd) len (fun j : Nat => va_rf ((f (j : Int)).map ad))) := hP o _ (gw_atE ho hc)
  rcases hkd with rfl | rfl
  · exact W.aald (v := .ref (ad r)) (ty := .array .long) hx hb hcell ((hK.2 3 _ rfl).1 len (fun j : Nat => va_rf ((f (j : Int)).map ad))) rfl (fun q => by cases q) (by rw [arrV_size]; exact gv_vin hz) hv rfl rfl hd (kk H locs ls hP hS hl)
  · exact W.aald (v := .ref (ad r)) (ty := .array .int) hx hb hcell ((hK.2 4 _ rfl).1 len (fun j : Nat => va_rf ((f (j : Int)).map ad))) rfl (fun q => by cases q) (by rw [arrV_size]; exact gv_vin hz) hv rfl rfl hd (kk H locs ls hP hS hl)
theorem gx_iast (hC : gw_C N w own cc nL x) (hw : N ≤ w) {o len : Nat} {f : Int → Int32} {z v : Int32} (hd : decode cc pc = .ok (.iastore, 1)) (ho : o < N) (hc : cf o = gc_I 0 len f) (hz : 0 ≤ z.toInt ∧ z.toInt < (len : Int)) {cf2 : Nat → gc_T} (hu : gc_up cf o (gc_I 0 len (gz_u f z.toInt v)) cf2)
    (kk : gw_G N nL R x k n cf2 (pc + 1) lv st) : gw_G N nL R x k n cf pc lv (gv_I v :: gv_I z :: gv_R o :: st) := by
  obtain ⟨p, l, e, s, m, args, below, meth, c, Q, D, A, ad, ck⟩ := x
  obtain ⟨hx, hb, hml, hown, hts, hnw, hK, hA, hij, hAd, hlk⟩ := hC
  intro H locs ls hP hS hl
  refine va_iast hx hb hK hP (gw_D hij (fun i hi => hAd i (Nat.lt_of_lt_of_le hi hw))) hS o 0 (gw_atE ho hc) rfl (gv_vin hz) hd (fun H1 locs1 hP1 hD1 hS1 => ?_)
  rw [gz_ue f hz.1] at hP1
  have e := gw_set (ad := ad) (ck := ck) ho hu
  exact kk H1 locs1 ls (by rw [← e]; exact hP1) hS1 hl
theorem gx_zast (hC : gw_C N w own cc nL x) (hw : N ≤ w) {o len : Nat} {f : Int → Int32} {z v : Int32} (hd : decode cc pc = .ok (.bastore, 1)) (ho : o < N) (hc : cf o = gc_I 1 len f) (hz : 0 ≤ z.toInt ∧ z.toInt < (len : Int)) {cf2 : Nat → gc_T} (hu : gc_up cf o (gc_I 1 len (gz_u f z.toInt (vp_nar .boolean v))) cf2)
    (kk : gw_G N nL R x k n cf2 (pc + 1) lv st) : gw_G N nL R x k n cf pc lv (gv_I v :: gv_I z :: gv_R o :: st) := by
  obtain ⟨p, l, e, s, m, args, below, meth, c, Q, D, A, ad, ck⟩ := x
  obtain ⟨hx, hb, hml, hown, hts, hnw, hK, hA, hij, hAd, hlk⟩ := hC
  intro H locs ls hP hS hl
  refine va_zast hx hb hK hP (gw_D hij (fun i hi => hAd i (Nat.lt_of_lt_of_le hi hw))) hS o 1 (gw_atE ho hc) rfl (gv_vin hz) hd (fun H1 locs1 hP1 hD1 hS1 => ?_)
  rw [gz_ue f hz.1] at hP1
  have e := gw_set (ad := ad) (ck := ck) ho hu
  exact kk H1 locs1 ls (by rw [← e]; exact hP1) hS1 hl
theorem gx_last (hC : gw_C N w own cc nL x) (hw : N ≤ w) {o len : Nat} {f : Int → Int64} {z : Int32} {v : Int64} (hd : decode cc pc = .ok (.lastore, 1)) (ho : o < N) (hc : cf o = gc_L len f) (hz : 0 ≤ z.toInt ∧ z.toInt < (len : Int)) {cf2 : Nat → gc_T} (hu : gc_up cf o (gc_L len (gz_ul f z.toInt v)) cf2)
    (kk : gw_G N nL R x k n cf2 (pc + 1) lv st) : gw_G N nL R x k n cf pc lv (gv_L v :: gv_I z :: gv_R o :: st) := by
  obtain ⟨p, l, e, s, m, args, below, meth, c, Q, D, A, ad, ck⟩ := x
  obtain ⟨hx, hb, hml, hown, hts, hnw, hK, hA, hij, hAd, hlk⟩ := hC
  intro H locs ls hP hS hl
  refine va_last hx hb hK hP (gw_D hij (fun i hi => hAd i (Nat.lt_of_lt_of_le hi hw))) hS o 2 (gw_atE ho hc) rfl (gv_vin hz) hd (fun H1 locs1 hP1 hD1 hS1 => ?_)
  rw [gz_ule f hz.1] at hP1
  have e := gw_set (ad := ad) (ck := ck) ho hu
  exact kk H1 locs1 ls (by rw [← e]; exact hP1) hS1 hl
theorem gx_alen (hC : gw_C N w own cc nL x) {o len kd : Nat} {f : Int → Int32} (hd : decode cc pc = .ok (.arraylength, 1)) (ho : o < N) (hc : cf o = gc_I kd len f) (hkd : kd = 0 ∨ kd = 1)
    (kk : gw_G N nL R x k n cf (pc + 1) lv (gv_I (Int32.ofNat len) :: st)) : gw_G N nL R x k n cf pc lv (gv_R o :: st) := by
  obtain ⟨p, l, e, s, m, args, below, meth, c, Q, D, A, ad, ck⟩ := x
  obtain ⟨hx, hb, hml, hown, hts, hnw, hK, hA, hij, hAd, hlk⟩ := hC
  intro H locs ls hP hS hl
  rcases hkd with rfl | rfl
  · exact va_alen hx hb hK hP o 0 (gw_atE ho hc) rfl rfl hd (kk H locs ls hP hS hl)
  · exact va_alen hx hb hK hP o 1 (gw_atE ho hc) rfl rfl hd (kk H locs ls hP hS hl)
theorem gx_alenl (hC : gw_C N w own cc nL x) {o len : Nat} {f : Int → Int64} (hd : decode cc pc = .ok (.arraylength, 1)) (ho : o < N) (hc : cf o = gc_L len f)
    (kk : gw_G N nL R x k n cf (pc + 1) lv (gv_I (Int32.ofNat len) :: st)) : gw_G N nL R x k n cf pc lv (gv_R o :: st) := by
  obtain ⟨p, l, e, s, m, args, below, meth, c, Q, D, A, ad, ck⟩ := x
  obtain ⟨hx, hb, hml, hown, hts, hnw, hK, hA, hij, hAd, hlk⟩ := hC
  intro H locs ls hP hS hl
  exact va_alen hx hb hK hP o 2 (gw_atE ho hc) rfl rfl hd (kk H locs ls hP hS hl)
/-! FIELDS: a field of class number ci, slot j, by the entry i of own's pool -/
def gw_F (own : String) (i ci j : Nat) : Prop := ∃ (C : String) (T : u_T) (M : Nat), vwCl[ci]? = some (C, T, M) ∧ j < M ∧ (∀ w ∈ u_ws C T M, w ∈ gw_T) ∧ (Cond.fieldLink own i (T j).1 (T j).2.1 (T j).2.2.1 ∈ gw_T ∨ ∃ host, Cond.fieldLinkNest own i (T j).1 (T j).2.1 (T j).2.2.1 host ∈ gw_Nl)
theorem gx_get (hC : gw_C N w own cc nL x) {i ci j o : Nat} {fs : List gv_V} {v : gv_V} (hd : decode cc pc = .ok (.getfield i, 3)) (hF : gw_F own i ci j) (ho : o < N) (hc : cf o = gc_O ci fs) (hv : fs[j]? = some v)
    (kk : gw_G N nL R x k n cf (pc + 3) lv (v :: st)) : gw_G N nL R x k n cf pc lv (gv_R o :: st) := by
  obtain ⟨p, l, e, s, m, args, below, meth, c, Q, D, A, ad, ck⟩ := x
  obtain ⟨hx, hb, hml, hown, hts, hnw, hK, hA, hij, hAd, hlk⟩ := hC
  intro H locs ls hP hS hl
  obtain ⟨C, T, M, h1, h2, h3, h4⟩ := hF
  have hv2 : (fs.map (gv_v ad))[j]? = some (gv_v ad v) := by rw [List.getElem?_map, hv]; rfl
  rcases h4 with h4 | ⟨host, h4⟩
  · exact va_get hx hb hts h3 hown hK hP o (gw_atE ho hc) h1 j h2 (hts _ h4) (fun _ z => z) hv2 hd (kk H locs ls hP hS hl)
  · exact va_getN hx hb hts h3 hown hK hP o (gw_atE ho hc) h1 j h2 (va_Nw.use rfl (hnw _ h4)) (fun _ z => z) hv2 hd (kk H locs ls hP hS hl)
def gw_P (ci j : Nat) (ty : FieldType) : Prop := ∃ (C : String) (T : u_T) (M : Nat) (ty0 : Nat → FieldType), vwCl[ci]? = some (C, T, M) ∧ (∀ k, k < M → parseFieldDescriptor (T k).2.2.1 = some (ty0 k)) ∧ (∀ a, a < M → ∀ b, b < M → a ≠ b → (T a).2.1 ≠ (T b).2.1) ∧ (T j).2.2.2 = false ∧ parseFieldDescriptor (T j).2.2.1 = some ty
theorem gx_put (hC : gw_C N w own cc nL x) (hw : N ≤ w) {i ci j o : Nat} {fs : List gv_V} {v : gv_V} {ty : FieldType} (hd : decode cc pc = .ok (.putfield i, 3)) (hF : gw_F own i ci j) (hW : gw_P ci j ty) (ho : o < N) (hc : cf o = gc_O ci fs) (hj : j < fs.length) (hn : ∀ ad, narrow ty (gv_v ad v) = gv_v ad v) (hf : ∀ ad, fits ty (gv_v ad v) = true) {cf2 : Nat → gc_T} (hu : gc_up cf o (gc_O ci (fs.set j v)) cf2)
    (kk : gw_G N nL R x k n cf2 (pc + 3) lv st) : gw_G N nL R x k n cf pc lv (v :: gv_R o :: st) := by
  obtain ⟨p, l, e, s, m, args, below, meth, c, Q, D, A, ad, ck⟩ := x
  obtain ⟨hx, hb, hml, hown, hts, hnw, hK, hA, hij, hAd, hlk⟩ := hC
  intro H locs ls hP hS hl
  obtain ⟨C, T, M, h1, h2, h3, h4⟩ := hF
  obtain ⟨C2, T2, M2, ty0, g1, g2, g3, g4, g5⟩ := hW
  cases h1.symm.trans g1
  have e := gw_set (ad := ad) (ck := ck) ho hu
  have e2 : (fs.map (gv_v ad)).set j (gv_v ad v) = (fs.set j v).map (gv_v ad) := (List.map_set ..).symm
  rcases h4 with h4 | ⟨host, h4⟩
  · refine va_put hx hb hts h3 ty0 g2 g3 hown hK hP (gw_D hij (fun i hi => hAd i (Nat.lt_of_lt_of_le hi hw))) hS o (gw_atE ho hc) h1 j h2 (hts _ h4) (fun _ z => z) g4 g5 (hn ad) (hf ad) (by simpa using hj) hd (fun H1 locs1 hP1 hD1 hS1 => ?_)
    rw [e2] at hP1
    exact kk H1 locs1 ls (by rw [← e]; exact hP1) hS1 hl
  · refine va_putN hx hb hts h3 ty0 g2 g3 hown hK hP (gw_D hij (fun i hi => hAd i (Nat.lt_of_lt_of_le hi hw))) hS o (gw_atE ho hc) h1 j h2 (va_Nw.use rfl (hnw _ h4)) (fun _ z => z) g4 g5 (hn ad) (hf ad) (by simpa using hj) hd (fun H1 locs1 hP1 hD1 hS1 => ?_)
    rw [e2] at hP1
    exact kk H1 locs1 ls (by rw [← e]; exact hP1) hS1 hl
end GX
end
section
/-! WORDS THAT ARE GOOD EVERYWHERE -/
theorem gw_good {y : MethodName} {b : ByteArray} {mL : Nat} {ret : Option FieldType} (h : Cond.code y b mL ret ∈ gw_T) : GoodIn gw_T (Cond.code y b mL ret :: gw_T) := by
  intro w hw
  rcases List.mem_cons.mp hw with rfl | hw
  · exact ⟨h, Or.inl rfl⟩
  · exact ⟨hw, good_of_word (List.mem_filter.mp hw).2⟩
theorem gw_Nl_on : ∀ w ∈ gw_Nl, w.onTables = true := by
  intro w hw
  have h := (List.mem_filter.mp hw).2
  cases w <;> first | rfl | (simp [gw_isN] at h; done)
theorem gw_warm {s U : State} (hW : s.WarmedH U.vm) (h : ∀ w ∈ gw_Nl, va_Nw w s) : ∀ w ∈ gw_Nl, va_Nw w U := by
  intro w hw
  have h1 := (List.mem_filter.mp hw).2
  have h2 := h w hw
  cases w <;> first | exact va_Nw.warmF hW h2 | exact va_Nw.warmM hW h2 | (simp [gw_isN] at h1; done)
/-! CONTRACTS: 'as' are the arguments, cf the cells ahead, post what is answered and the cells behind -/
def gm_H (N : Nat) (D : va_G) (ad : Nat → Nat) (ck : Nat → ClassId) (cf : Nat → gc_T) (U : State) : Prop := va_P D vwCl (gw_L N ad ck cf) U.heap ∧ va_K D vwCl (gv_tys ck) U ∧ (∀ w ∈ gw_Nl, va_Nw w U) ∧ ∀ i j, i < N → j < N → ad i = ad j → i = j
def gm_A (N : Nat) (ad : Nat → Nat) (sz : Nat) : Nat → Prop := fun q => (∃ i, i < N ∧ q = ad i) ∨ sz ≤ q
def gm_P (N : Nat) (D : va_G) (ad : Nat → Nat) (ck : Nat → ClassId) (as : List gv_V) (cf : Nat → gc_T) (sz : Nat) : Array Value → State → Prop := va_Pc (as.map (gv_v ad)) (fun U => U.heap.size = sz ∧ gm_H N D ad ck cf U)
theorem gm_blind {N : Nat} {D : va_G} {ad : Nat → Nat} {ck : Nat → ClassId} {as : List gv_V} {cf : Nat → gc_T} {sz : Nat} : FrameBlind (gm_P N D ad ck as cf sz) := by
  intro a U g mk q
  obtain ⟨q0, q1, qP, qK, qn, qi⟩ := q
  exact ⟨q0, q1, qP, va_K.moved (u := U) (U := U.calling g mk a) (Vm.Alike.refl U.vm) qK, fun w hw => va_Nw.same (u := U) (U := U.calling g mk a) (gw_Nl_on w hw) rfl (qn w hw), qi⟩
theorem gm_free {N w : Nat} {ad : Nat → Nat} {A : Nat → Prop} {H0 H : Heap} {locs : List Loc} (hAd : ∀ i, i < w → A (ad i)) (hw : N ≤ w) (hA : ∀ q, H0.size ≤ q → A q) (hS : va_S A H0 H locs) : ∀ q, gm_A N ad H.size q → A q := by
  intro q h
  rcases h with ⟨i, hi, rfl⟩ | h
  · exact hAd i (Nat.lt_of_lt_of_le hi hw)
  · exact hA q (Nat.le_trans hS.1 h)
theorem gv_w_sum (ad : Nat → Nat) : ∀ vs : List gv_V, ((vs.map (gv_v ad)).map fun v => v.category).sum = gv_w vs
  | [] => rfl
  | v :: r => by
    have h := gv_w_sum ad r
    simp only [List.map_cons, List.sum_cons, gv_w, gv_cat]
    omega
def gw_V (own : String) (i : Nat) (y : MethodName) (b : ByteArray) (mL : Nat) (ret : Option FieldType) (na : Nat) : Prop := (Cond.methodLink own i y ∈ gw_T ∨ ∃ host, Cond.methodLinkNest own i y host ∈ gw_Nl) ∧ Cond.instanceMethod y ∈ gw_T ∧ Cond.selects y.cls y y ∈ gw_T ∧ Cond.initialized y.cls ∈ gw_T ∧ Cond.code y b mL ret ∈ gw_T ∧ (y.cls ≠ "java/lang/invoke/MethodHandle" ∧ y.cls ≠ "java/lang/invoke/VarHandle") ∧ (parseMethodDescriptor y.desc).map (fun d => d.parameters.length) = some na
def gw_S (own : String) (i : Nat) (y : MethodName) (b : ByteArray) (mL : Nat) (ret : Option FieldType) (na : Nat) : Prop := (Cond.methodLink own i y ∈ gw_T ∨ ∃ host, Cond.methodLinkNest own i y host ∈ gw_Nl) ∧ Cond.static y ∈ gw_T ∧ Cond.initialized y.cls ∈ gw_T ∧ Cond.code y b mL ret ∈ gw_T ∧ (y.cls ≠ "java/lang/invoke/MethodHandle" ∧ y.cls ≠ "java/lang/invoke/VarHandle") ∧ (parseMethodDescriptor y.desc).map (fun d => d.parameters.length) = some na
section GRUN
variable {p : Program} {l : Launch} {e : Env} {R : Room} {s : State} {m : MethodId} {args : Array Value} {below : List Frame} {meth : Method} {c : Code} {H : Heap} {locs : List Loc} {k n : Nat} {cc : ByteArray} {nL : Nat} {own : String} {y : MethodName} {b : ByteArray} {mL : Nat} {ret : Option FieldType} {rm : Room} {Pc : Array Value → State → Prop} {Qc : Array Value → State → Outcome → State → Prop} {free : Addr → Prop} {i na o : Nat} {As rest : List Value} {g : JFrame}
theorem gw_runV (S : CallFix p m c cc nL s args gw_T own) (hnw : ∀ w ∈ gw_Nl, va_Nw w s) (hM : Met l y (Cond.code y b mL ret :: gw_T) rm Pc Qc rm.cells rm.slots free) (hV : gw_V own i y b mL ret na) (hR : rm.frames + 1 ≤ R.frames ∧ 8 + (mL + 11) + rm.locals ≤ R.locals) (hp : PreV s H y.cls o Pc As)
    (hg : g.method = m) (hn : As.length = na) (hsize : g.locals.size = nL) (hstack : g.stack = As.reverse ++ .ref o :: rest) (hW : 2 * g.monitorRoom + (rest.map fun v => v.category).sum ≤ 8) (hdg : decode cc g.pc = .ok (.invokevirtual i, 3)) (hf : k + rm.cells ≤ R.cells ∧ n + rm.slots ≤ R.slots) :
    va_Run p l e R s m args below meth c H locs k n rm.cells rm.slots g rest (Qc (Value.ref o :: As).toArray) free := by
  obtain ⟨hl, hi, hs, hin, hc, hne, hpar⟩ := hV
  have hts := S.2.2.2.2
  rcases hl with hl | ⟨host, hl⟩
  · exact va_runV S hM ⟨callB_of na hts (gw_good hc) rfl rfl rfl (hts _ hin) (hts _ hl) ⟨hne.1, hne.2, hpar⟩ hR, hts _ hi, hts _ hs⟩ hp hg hn hsize hstack hW hdg hf
  · exact va_runVN S hM ⟨va_cnB na hts (gw_good hc) rfl rfl rfl (hnw _ hl) (hts _ hin) ⟨hne.1, hne.2, hpar⟩ hR, hts _ hi, hts _ hs⟩ hp hg hn hsize hstack hW hdg hf
theorem gw_runS (S : CallFix p m c cc nL s args gw_T own) (hnw : ∀ w ∈ gw_Nl, va_Nw w s) (hM : Met l y (Cond.code y b mL ret :: gw_T) rm Pc Qc rm.cells rm.slots free) (hV : gw_S own i y b mL ret na) (hR : rm.frames + 1 ≤ R.frames ∧ 8 + (mL + 11) + rm.locals ≤ R.locals) (hp : PreS s H Pc As)
    (hg : g.method = m) (hn : As.length = na) (hsize : g.locals.size = nL) (hstack : g.stack = As.reverse ++ rest) (hW : 2 * g.monitorRoom + (rest.map fun v => v.category).sum ≤ 8) (hdg : decode cc g.pc = .ok (.invokestatic i, 3)) (hf : k + rm.cells ≤ R.cells ∧ n + rm.slots ≤ R.slots) :
    va_Run p l e R s m args below meth c H locs k n rm.cells rm.slots g rest (Qc As.toArray) free := by
  obtain ⟨hl, hi, hin, hc, hne, hpar⟩ := hV
  have hts := S.2.2.2.2
  rcases hl with hl | ⟨host, hl⟩
  · exact va_runS S hM ⟨callB_of na hts (gw_good hc) rfl rfl rfl (hts _ hin) (hts _ hl) ⟨hne.1, hne.2, hpar⟩ hR, hts _ hi⟩ hp hg hn hsize hstack hW hdg hf
  · exact va_runSN S hM ⟨va_cnB na hts (gw_good hc) rfl rfl rfl (hnw _ hl) (hts _ hin) ⟨hne.1, hne.2, hpar⟩ hR, hts _ hi, trivial⟩ hp hg hn hsize hstack hW hdg hf
end GRUN
def gm_I (N w : Nat) (l : Launch) (D : va_G) (ad : Nat → Nat) (ck : Nat → ClassId) (y : MethodName) (b : ByteArray) (nL : Nat) (rt : FieldType) (rm : Room) (as : List gv_V) (cf : Nat → gc_T) (post : Int32 → (Nat → gc_T) → Prop) : Prop :=
  ∀ sz, Met l y (Cond.code y b nL (some rt) :: gw_T) rm (gm_P N D ad ck as cf sz) (va_Qi (fun (r : Int32) (c2 : Nat → gc_T) => post r c2) (fun c2 t => va_P D vwCl (gw_L N ad ck c2) t.heap) (gm_A w ad sz)) rm.cells rm.slots (gm_A w ad sz)
def gr_I (N : Nat) (b : ByteArray) (nL : Nat) (rt : FieldType) (rm : Room) (x : gx_X) (post : Int32 → (Nat → gc_T) → Prop) : Prop := ∀ {z : Int32} {c2 : Nat → gc_T} {k n pc : Nat} {lv : List (Nat × gv_V)}, k ≤ rm.cells → n ≤ rm.slots → decode b pc = .ok (.ireturn, 1) → narrow rt (.int z) = .int z → post z c2 → gw_G N nL rm x k n c2 pc lv [gv_I z]
theorem gm_I.of {N w : Nat} {l : Launch} {D : va_G} {ad : Nat → Nat} {ck : Nat → ClassId} {y : MethodName} {b : ByteArray} {nL : Nat} {rt : FieldType} {rm : Room} {as : List gv_V} {cf : Nat → gc_T} {post : Int32 → (Nat → gc_T) → Prop} (hy : plainName y.cls = true) (hw : gv_w as ≤ nL)
    (h : ∀ x : gx_X, gw_C N w y.cls b nL x → gr_I N b nL rt rm x post → gw_G N nL rm x 0 0 cf 0 (gv_args 0 as) []) : gm_I N w l D ad ck y b nL rt rm as cf post := by
  intro sz
  refine Met.ofW (cc := b) (maxL := nL) (ret := (some rt)) hy rfl ?_
  intro p e s m args below meth c s₁ B hml hv
  obtain ⟨rfl, hsz, hP, hK, hnw, hij⟩ := hv
  have hts := atoms_spec (ws := Cond.code y b nL (some rt) :: gw_T) B.pre
  have hown : s.vm.findClass y.cls = some m.cls := findClass_of_methodNamed B.named
  have hl := lv_entry (as.map (gv_v ad)) (n := nL) (by rw [gv_w_len]; exact hw)
  rw [lg_entry_eq]
  rw [gv_args_eq] at hl
  refine h (p, l, e, s, m, (as.map (gv_v ad)).toArray, below, meth, c, _, D, gm_A w ad sz, ad, ck) ⟨B.exec, B.bytes, hml, hown, fun w hw => hts w (List.mem_cons_of_mem _ hw), hnw, hK, fun q hq => Or.inr (by rw [← hsz]; exact hq), hij, fun i hi => Or.inl ⟨i, hi, rfl⟩, B.notSynchronized⟩ ?_ s.heap [] _ hP va_S.rf hl
  intro z c2 k n pc lv hk hn hd hnar hpost
  intro H1 locs1 ls1 hP1 hS1 hl1
  refine W.widen (k := rm.cells) (n := rm.slots) hk hn ?_
  exact W.zret B.exec B.bytes B.returns hnar (fun t ht hW => ⟨⟨z, c2, rfl, hpost, by show va_P D vwCl (gw_L N ad ck c2) t.heap; rw [ht]; exact hP1⟩, hS1.F ht⟩) hS1.2.2 hd B.notSynchronized
def gm_J (N w : Nat) (l : Launch) (D : va_G) (ad : Nat → Nat) (ck : Nat → ClassId) (y : MethodName) (b : ByteArray) (nL : Nat) (rm : Room) (as : List gv_V) (cf : Nat → gc_T) (post : Int64 → (Nat → gc_T) → Prop) : Prop :=
  ∀ sz, Met l y (Cond.code y b nL (some .long) :: gw_T) rm (gm_P N D ad ck as cf sz) (va_Ql (fun (r : Int64) (c2 : Nat → gc_T) => post r c2) (fun c2 t => va_P D vwCl (gw_L N ad ck c2) t.heap) (gm_A w ad sz)) rm.cells rm.slots (gm_A w ad sz)
def gr_J (N : Nat) (b : ByteArray) (nL : Nat) (rm : Room) (x : gx_X) (post : Int64 → (Nat → gc_T) → Prop) : Prop := ∀ {z : Int64} {c2 : Nat → gc_T} {k n pc : Nat} {lv : List (Nat × gv_V)}, k ≤ rm.cells → n ≤ rm.slots → decode b pc = .ok (.lreturn, 1) → post z c2 → gw_G N nL rm x k n c2 pc lv [gv_L z]
theorem gm_J.of {N w : Nat} {l : Launch} {D : va_G} {ad : Nat → Nat} {ck : Nat → ClassId} {y : MethodName} {b : ByteArray} {nL : Nat} {rm : Room} {as : List gv_V} {cf : Nat → gc_T} {post : Int64 → (Nat → gc_T) → Prop} (hy : plainName y.cls = true) (hw : gv_w as ≤ nL)
    (h : ∀ x : gx_X, gw_C N w y.cls b nL x → gr_J N b nL rm x post → gw_G N nL rm x 0 0 cf 0 (gv_args 0 as) []) : gm_J N w l D ad ck y b nL rm as cf post := by
  intro sz
  refine Met.ofW (cc := b) (maxL := nL) (ret := (some .long)) hy rfl ?_
  intro p e s m args below meth c s₁ B hml hv
  obtain ⟨rfl, hsz, hP, hK, hnw, hij⟩ := hv
  have hts := atoms_spec (ws := Cond.code y b nL (some .long) :: gw_T) B.pre
  have hown : s.vm.findClass y.cls = some m.cls := findClass_of_methodNamed B.named
  have hl := lv_entry (as.map (gv_v ad)) (n := nL) (by rw [gv_w_len]; exact hw)
  rw [lg_entry_eq]
  rw [gv_args_eq] at hl
  refine h (p, l, e, s, m, (as.map (gv_v ad)).toArray, below, meth, c, _, D, gm_A w ad sz, ad, ck) ⟨B.exec, B.bytes, hml, hown, fun w hw => hts w (List.mem_cons_of_mem _ hw), hnw, hK, fun q hq => Or.inr (by rw [← hsz]; exact hq), hij, fun i hi => Or.inl ⟨i, hi, rfl⟩, B.notSynchronized⟩ ?_ s.heap [] _ hP va_S.rf hl
  intro z c2 k n pc lv hk hn hd hpost
  intro H1 locs1 ls1 hP1 hS1 hl1
  refine W.widen (k := rm.cells) (n := rm.slots) hk hn ?_
  exact W.lret B.exec B.bytes B.returns (fun t ht hW => ⟨⟨z, c2, rfl, hpost, by show va_P D vwCl (gw_L N ad ck c2) t.heap; rw [ht]; exact hP1⟩, hS1.F ht⟩) hS1.2.2 hd B.notSynchronized
def gm_V (N w : Nat) (l : Launch) (D : va_G) (ad : Nat → Nat) (ck : Nat → ClassId) (y : MethodName) (b : ByteArray) (nL : Nat) (rm : Room) (as : List gv_V) (cf : Nat → gc_T) (post : (Nat → gc_T) → Prop) : Prop :=
  ∀ sz, Met l y (Cond.code y b nL none :: gw_T) rm (gm_P N D ad ck as cf sz) (va_Qv (fun (c2 : Nat → gc_T) => post c2) (fun c2 t => va_P D vwCl (gw_L N ad ck c2) t.heap) (gm_A w ad sz)) rm.cells rm.slots (gm_A w ad sz)
def gr_V (N : Nat) (b : ByteArray) (nL : Nat) (rm : Room) (x : gx_X) (post : (Nat → gc_T) → Prop) : Prop := ∀ {c2 : Nat → gc_T} {k n pc : Nat} {lv : List (Nat × gv_V)}, k ≤ rm.cells → n ≤ rm.slots → decode b pc = .ok (.return_, 1) → post c2 → gw_G N nL rm x k n c2 pc lv []
theorem gm_V.of {N w : Nat} {l : Launch} {D : va_G} {ad : Nat → Nat} {ck : Nat → ClassId} {y : MethodName} {b : ByteArray} {nL : Nat} {rm : Room} {as : List gv_V} {cf : Nat → gc_T} {post : (Nat → gc_T) → Prop} (hy : plainName y.cls = true) (hw : gv_w as ≤ nL)
    (h : ∀ x : gx_X, gw_C N w y.cls b nL x → gr_V N b nL rm x post → gw_G N nL rm x 0 0 cf 0 (gv_args 0 as) []) : gm_V N w l D ad ck y b nL rm as cf post := by
  intro sz
  refine Met.ofW (cc := b) (maxL := nL) (ret := none) hy rfl ?_
  intro p e s m args below meth c s₁ B hml hv
  obtain ⟨rfl, hsz, hP, hK, hnw, hij⟩ := hv
  have hts := atoms_spec (ws := Cond.code y b nL none :: gw_T) B.pre
  have hown : s.vm.findClass y.cls = some m.cls := findClass_of_methodNamed B.named
  have hl := lv_entry (as.map (gv_v ad)) (n := nL) (by rw [gv_w_len]; exact hw)
  rw [lg_entry_eq]
  rw [gv_args_eq] at hl
  refine h (p, l, e, s, m, (as.map (gv_v ad)).toArray, below, meth, c, _, D, gm_A w ad sz, ad, ck) ⟨B.exec, B.bytes, hml, hown, fun w hw => hts w (List.mem_cons_of_mem _ hw), hnw, hK, fun q hq => Or.inr (by rw [← hsz]; exact hq), hij, fun i hi => Or.inl ⟨i, hi, rfl⟩, B.notSynchronized⟩ ?_ s.heap [] _ hP va_S.rf hl
  intro c2 k n pc lv hk hn hd hpost
  intro H1 locs1 ls1 hP1 hS1 hl1
  refine W.widen (k := rm.cells) (n := rm.slots) hk hn ?_
  exact W.vret B.exec B.bytes B.returns (fun t ht hW => ⟨⟨c2, rfl, hpost, by show va_P D vwCl (gw_L N ad ck c2) t.heap; rw [ht]; exact hP1⟩, hS1.F ht⟩) hS1.2.2 hd B.notSynchronized
section GCALL
variable {N w w2 nL : Nat} {own : String} {cc : ByteArray} {R : Room} {x : gx_X} {k n : Nat} {cf : Nat → gc_T} {pc : Nat} {lv : List (Nat × gv_V)} {st stk : List gv_V} {y : MethodName} {b : ByteArray} {mL : Nat} {rt : FieldType} {rm : Room} {as : List gv_V}
theorem gx_vI (hC : gw_C N w own cc nL x) {i na o ci : Nat} {fs : List gv_V} {post : Int32 → (Nat → gc_T) → Prop} (hd : decode cc pc = .ok (.invokevirtual i, 3)) (hV : gw_V own i y b mL (some rt) na) (hM : gm_I N w2 (gx_l x) (gx_D x) (gx_ad x) (gx_ck x) y b mL rt rm (gv_R o :: as) cf post) (hn : as.length = na) (hw2 : w2 ≤ w) (hR : rm.frames + 1 ≤ R.frames ∧ 8 + (mL + 11) + rm.locals ≤ R.locals) (hf : k + rm.cells ≤ R.cells ∧ n + rm.slots ≤ R.slots) (ho : o < N) (hci : ∃ (T : u_T) (M : Nat), vwCl[ci]? = some (y.cls, T, M)) (hc : cf o = gc_O ci fs) (hst : stk = as.reverse ++ gv_R o :: st) (hcat : gv_w st ≤ 8)
    (kk : ∀ (z : Int32) (c2 : Nat → gc_T), post z c2 → gw_G N nL R x (k + rm.cells) (n + rm.slots) c2 (pc + 3) lv (gv_I z :: st)) : gw_G N nL R x k n cf pc lv stk := by
  obtain ⟨p, l, e, s, m, args, below, meth, c, Q, D, A, ad, ck⟩ := x
  obtain ⟨hx, hb, hml, hown, hts, hnw, hK, hA, hij, hAd, hlk⟩ := hC
  subst hst
  intro H locs ls hP hS hl
  obtain ⟨T, M, hci⟩ := hci
  have hFc := gm_free (N := w2) hAd hw2 hA hS
  refine va_calli (gw_runV (As := as.map (gv_v ad)) (rest := st.map (gv_v ad)) (o := ad o) ⟨hx, hb, hml, hown, hts⟩ hnw (hM H.size) hV hR ⟨gm_blind, va_recv hK hP hci (gw_atE ho hc), fun U hU hW => ⟨rfl, by rw [hU], by rw [hU]; exact hP, va_K.moved hW.alike hK, gw_warm hW hnw, hij⟩⟩ rfl (by simpa using hn) hl.1 (by simp [gv_v]) (lv_room (by rw [gv_w_sum]; exact hcat)) hd hf) hS (fun q _ h => hFc q h) hFc (fun r u t H1 locs1 ht hvm hq hB hz1 hk1 hS1 => kk r u hq H1 locs1 ls (by rw [← ht]; exact hB) hS1 hl)
theorem gx_sI (hC : gw_C N w own cc nL x) {i na : Nat} {post : Int32 → (Nat → gc_T) → Prop} (hd : decode cc pc = .ok (.invokestatic i, 3)) (hV : gw_S own i y b mL (some rt) na) (hM : gm_I N w2 (gx_l x) (gx_D x) (gx_ad x) (gx_ck x) y b mL rt rm as cf post) (hn : as.length = na) (hw2 : w2 ≤ w) (hR : rm.frames + 1 ≤ R.frames ∧ 8 + (mL + 11) + rm.locals ≤ R.locals) (hf : k + rm.cells ≤ R.cells ∧ n + rm.slots ≤ R.slots) (hst : stk = as.reverse ++ st) (hcat : gv_w st ≤ 8)
    (kk : ∀ (z : Int32) (c2 : Nat → gc_T), post z c2 → gw_G N nL R x (k + rm.cells) (n + rm.slots) c2 (pc + 3) lv (gv_I z :: st)) : gw_G N nL R x k n cf pc lv stk := by
  obtain ⟨p, l, e, s, m, args, below, meth, c, Q, D, A, ad, ck⟩ := x
  obtain ⟨hx, hb, hml, hown, hts, hnw, hK, hA, hij, hAd, hlk⟩ := hC
  subst hst
  intro H locs ls hP hS hl
  have hFc := gm_free (N := w2) hAd hw2 hA hS
  refine va_calli (gw_runS (As := as.map (gv_v ad)) (rest := st.map (gv_v ad)) ⟨hx, hb, hml, hown, hts⟩ hnw (hM H.size) hV hR ⟨gm_blind, fun U hU hW => ⟨rfl, by rw [hU], by rw [hU]; exact hP, va_K.moved hW.alike hK, gw_warm hW hnw, hij⟩⟩ rfl (by simpa using hn) hl.1 (by simp) (lv_room (by rw [gv_w_sum]; exact hcat)) hd hf) hS (fun q _ h => hFc q h) hFc (fun r u t H1 locs1 ht hvm hq hB hz1 hk1 hS1 => kk r u hq H1 locs1 ls (by rw [← ht]; exact hB) hS1 hl)
theorem gx_vJ (hC : gw_C N w own cc nL x) {i na o ci : Nat} {fs : List gv_V} {post : Int64 → (Nat → gc_T) → Prop} (hd : decode cc pc = .ok (.invokevirtual i, 3)) (hV : gw_V own i y b mL (some .long) na) (hM : gm_J N w2 (gx_l x) (gx_D x) (gx_ad x) (gx_ck x) y b mL rm (gv_R o :: as) cf post) (hn : as.length = na) (hw2 : w2 ≤ w) (hR : rm.frames + 1 ≤ R.frames ∧ 8 + (mL + 11) + rm.locals ≤ R.locals) (hf : k + rm.cells ≤ R.cells ∧ n + rm.slots ≤ R.slots) (ho : o < N) (hci : ∃ (T : u_T) (M : Nat), vwCl[ci]? = some (y.cls, T, M)) (hc : cf o = gc_O ci fs) (hst : stk = as.reverse ++ gv_R o :: st) (hcat : gv_w st ≤ 8)
    (kk : ∀ (z : Int64) (c2 : Nat → gc_T), post z c2 → gw_G N nL R x (k + rm.cells) (n + rm.slots) c2 (pc + 3) lv (gv_L z :: st)) : gw_G N nL R x k n cf pc lv stk := by
  obtain ⟨p, l, e, s, m, args, below, meth, c, Q, D, A, ad, ck⟩ := x
  obtain ⟨hx, hb, hml, hown, hts, hnw, hK, hA, hij, hAd, hlk⟩ := hC
  subst hst
  intro H locs ls hP hS hl
  obtain ⟨T, M, hci⟩ := hci
  have hFc := gm_free (N := w2) hAd hw2 hA hS
  refine va_calll (gw_runV (As := as.map (gv_v ad)) (rest := st.map (gv_v ad)) (o := ad o) ⟨hx, hb, hml, hown, hts⟩ hnw (hM H.size) hV hR ⟨gm_blind, va_recv hK hP hci (gw_atE ho hc), fun U hU hW => ⟨rfl, by rw [hU], by rw [hU]; exact hP, va_K.moved hW.alike hK, gw_warm hW hnw, hij⟩⟩ rfl (by simpa using hn) hl.1 (by simp [gv_v]) (lv_room (by rw [gv_w_sum]; exact hcat)) hd hf) hS (fun q _ h => hFc q h) hFc (fun r u t H1 locs1 ht hvm hq hB hz1 hk1 hS1 => kk r u hq H1 locs1 ls (by rw [← ht]; exact hB) hS1 hl)
theorem gx_sJ (hC : gw_C N w own cc nL x) {i na : Nat} {post : Int64 → (Nat → gc_T) → Prop} (hd : decode cc pc = .ok (.invokestatic i, 3)) (hV : gw_S own i y b mL (some .long) na) (hM : gm_J N w2 (gx_l x) (gx_D x) (gx_ad x) (gx_ck x) y b mL rm as cf post) (hn : as.length = na) (hw2 : w2 ≤ w) (hR : rm.frames + 1 ≤ R.frames ∧ 8 + (mL + 11) + rm.locals ≤ R.locals) (hf : k + rm.cells ≤ R.cells ∧ n + rm.slots ≤ R.slots) (hst : stk = as.reverse ++ st) (hcat : gv_w st ≤ 8)
    (kk : ∀ (z : Int64) (c2 : Nat → gc_T), post z c2 → gw_G N nL R x (k + rm.cells) (n + rm.slots) c2 (pc + 3) lv (gv_L z :: st)) : gw_G N nL R x k n cf pc lv stk := by
  obtain ⟨p, l, e, s, m, args, below, meth, c, Q, D, A, ad, ck⟩ := x
  obtain ⟨hx, hb, hml, hown, hts, hnw, hK, hA, hij, hAd, hlk⟩ := hC
  subst hst
  intro H locs ls hP hS hl
  have hFc := gm_free (N := w2) hAd hw2 hA hS
  refine va_calll (gw_runS (As := as.map (gv_v ad)) (rest := st.map (gv_v ad)) ⟨hx, hb, hml, hown, hts⟩ hnw (hM H.size) hV hR ⟨gm_blind, fun U hU hW => ⟨rfl, by rw [hU], by rw [hU]; exact hP, va_K.moved hW.alike hK, gw_warm hW hnw, hij⟩⟩ rfl (by simpa using hn) hl.1 (by simp) (lv_room (by rw [gv_w_sum]; exact hcat)) hd hf) hS (fun q _ h => hFc q h) hFc (fun r u t H1 locs1 ht hvm hq hB hz1 hk1 hS1 => kk r u hq H1 locs1 ls (by rw [← ht]; exact hB) hS1 hl)
theorem gx_vV (hC : gw_C N w own cc nL x) {i na o ci : Nat} {fs : List gv_V} {post : (Nat → gc_T) → Prop} (hd : decode cc pc = .ok (.invokevirtual i, 3)) (hV : gw_V own i y b mL none na) (hM : gm_V N w2 (gx_l x) (gx_D x) (gx_ad x) (gx_ck x) y b mL rm (gv_R o :: as) cf post) (hn : as.length = na) (hw2 : w2 ≤ w) (hR : rm.frames + 1 ≤ R.frames ∧ 8 + (mL + 11) + rm.locals ≤ R.locals) (hf : k + rm.cells ≤ R.cells ∧ n + rm.slots ≤ R.slots) (ho : o < N) (hci : ∃ (T : u_T) (M : Nat), vwCl[ci]? = some (y.cls, T, M)) (hc : cf o = gc_O ci fs) (hst : stk = as.reverse ++ gv_R o :: st) (hcat : gv_w st ≤ 8)
    (kk : ∀ (c2 : Nat → gc_T), post c2 → gw_G N nL R x (k + rm.cells) (n + rm.slots) c2 (pc + 3) lv st) : gw_G N nL R x k n cf pc lv stk := by
  obtain ⟨p, l, e, s, m, args, below, meth, c, Q, D, A, ad, ck⟩ := x
  obtain ⟨hx, hb, hml, hown, hts, hnw, hK, hA, hij, hAd, hlk⟩ := hC
  subst hst
  intro H locs ls hP hS hl
  obtain ⟨T, M, hci⟩ := hci
  have hFc := gm_free (N := w2) hAd hw2 hA hS
  refine va_callv (gw_runV (As := as.map (gv_v ad)) (rest := st.map (gv_v ad)) (o := ad o) ⟨hx, hb, hml, hown, hts⟩ hnw (hM H.size) hV hR ⟨gm_blind, va_recv hK hP hci (gw_atE ho hc), fun U hU hW => ⟨rfl, by rw [hU], by rw [hU]; exact hP, va_K.moved hW.alike hK, gw_warm hW hnw, hij⟩⟩ rfl (by simpa using hn) hl.1 (by simp [gv_v]) (lv_room (by rw [gv_w_sum]; exact hcat)) hd hf) hS (fun q _ h => hFc q h) hFc (fun u t H1 locs1 ht hvm hq hB hz1 hk1 hS1 => kk u hq H1 locs1 ls (by rw [← ht]; exact hB) hS1 hl)
theorem gx_sV (hC : gw_C N w own cc nL x) {i na : Nat} {post : (Nat → gc_T) → Prop} (hd : decode cc pc = .ok (.invokestatic i, 3)) (hV : gw_S own i y b mL none na) (hM : gm_V N w2 (gx_l x) (gx_D x) (gx_ad x) (gx_ck x) y b mL rm as cf post) (hn : as.length = na) (hw2 : w2 ≤ w) (hR : rm.frames + 1 ≤ R.frames ∧ 8 + (mL + 11) + rm.locals ≤ R.locals) (hf : k + rm.cells ≤ R.cells ∧ n + rm.slots ≤ R.slots) (hst : stk = as.reverse ++ st) (hcat : gv_w st ≤ 8)
    (kk : ∀ (c2 : Nat → gc_T), post c2 → gw_G N nL R x (k + rm.cells) (n + rm.slots) c2 (pc + 3) lv st) : gw_G N nL R x k n cf pc lv stk := by
  obtain ⟨p, l, e, s, m, args, below, meth, c, Q, D, A, ad, ck⟩ := x
  obtain ⟨hx, hb, hml, hown, hts, hnw, hK, hA, hij, hAd, hlk⟩ := hC
  subst hst
  intro H locs ls hP hS hl
  have hFc := gm_free (N := w2) hAd hw2 hA hS
  refine va_callv (gw_runS (As := as.map (gv_v ad)) (rest := st.map (gv_v ad)) ⟨hx, hb, hml, hown, hts⟩ hnw (hM H.size) hV hR ⟨gm_blind, fun U hU hW => ⟨rfl, by rw [hU], by rw [hU]; exact hP, va_K.moved hW.alike hK, gw_warm hW hnw, hij⟩⟩ rfl (by simpa using hn) hl.1 (by simp) (lv_room (by rw [gv_w_sum]; exact hcat)) hd hf) hS (fun q _ h => hFc q h) hFc (fun u t H1 locs1 ht hvm hq hB hz1 hk1 hS1 => kk u hq H1 locs1 ls (by rw [← ht]; exact hB) hS1 hl)
end GCALL
end
section
/-! TWO MEMORIES (the class's, the model's): arrays of ints, arrays of longs, int fields, long fields; and the law's array 'out' -/
abbrev gq_M : Type := (Nat → Int → Int32) × (Nat → Int → Int64) × (Nat → Int32) × (Nat → Int64)
def gq_up {α : Type} (f : Nat → α) (i : Nat) (x : α) : Nat → α := fun j => if j = i then x else f j
theorem gq_us {α : Type} (f : Nat → α) (i : Nat) (x : α) : gq_up f i x i = x := if_pos rfl
theorem gq_un {α : Type} (f : Nat → α) {i j : Nat} (x : α) (h : j ≠ i) : gq_up f i x j = f j := if_neg h
abbrev gq_i (m : gq_M) : Nat → Int → Int32 := m.1
abbrev gq_l (m : gq_M) : Nat → Int → Int64 := m.2.1
abbrev gq_f (m : gq_M) : Nat → Int32 := m.2.2.1
abbrev gq_j (m : gq_M) : Nat → Int64 := m.2.2.2
abbrev gs_i (m : gq_M) (a : Nat) (f : Int → Int32) : gq_M := (gq_up m.1 a f, m.2)
abbrev gs_l (m : gq_M) (a : Nat) (f : Int → Int64) : gq_M := (m.1, gq_up m.2.1 a f, m.2.2)
abbrev gs_f (m : gq_M) (i : Nat) (v : Int32) : gq_M := (m.1, m.2.1, gq_up m.2.2.1 i v, m.2.2.2)
abbrev gs_j (m : gq_M) (i : Nat) (v : Int64) : gq_M := (m.1, m.2.1, m.2.2.1, gq_up m.2.2.2 i v)
def ca_k (a : Nat) : Nat := ([0, 0, 0, 0, 0, 0, 1, 1, 1, 0, 0, 0, 0, 1, 0, 0, 0, 0, 0, 0, 0, 0, 0, 0, 0, 0, 0, 0, 0] : List Nat).getD a 0
def ca_n (a : Nat) : Nat := ([12, 80, 80, 80, 80, 80, 80, 80, 200, 200, 13, 13, 13, 13, 13, 11, 20, 20, 80, 80, 80, 80, 80, 80, 80, 80, 80, 80, 80] : List Nat).getD a 0
def ca_m (a : Nat) : Nat := ([80, 80, 200, 200, 13, 13, 13, 13, 13, 13, 13, 13, 13, 13, 13, 13, 13, 13, 13, 13] : List Nat).getD a 0
def ma_k (a : Nat) : Nat := ([0, 0, 0, 0, 1, 0, 1, 1, 0, 0, 0, 0, 0, 0, 0, 0] : List Nat).getD a 0
def ma_n (a : Nat) : Nat := ([80, 80, 80, 80, 80, 80, 80, 200, 200, 10, 800, 20, 20, 12, 12, 80] : List Nat).getD a 0
def ma_m (a : Nat) : Nat := ([80, 80, 200, 200, 144, 4096] : List Nat).getD a 0
def ca_O (m : gq_M) (k : Nat) : gc_T := if k = 0 then gc_O 0 [gv_R 1, gv_R 2, gv_R 3, gv_R 4, gv_R 5, gv_L (gq_j m 0)] else if k = 1 then gc_O 5 [gv_I (gq_f m 0), gv_I (gq_f m 1), gv_R 6, gv_R 7, gv_R 35, gv_R 36, gv_R 8, gv_R 9, gv_R 10, gv_R 11, gv_R 12, gv_R 13] else if k = 2 then gc_O 4 [gv_R 14, gv_R 37, gv_R 38, gv_R 15] else if k = 3 then gc_O 3 [gv_I (gq_f m 2), gv_R 16, gv_R 55, gv_R 39, gv_R 40, gv_R 17, gv_R 18, gv_R 41, gv_R 19, gv_R 20] else if k = 4 then gc_O 2 [gv_R 56, gv_R 21, gv_I (gq_f m 3), gv_I (gq_f m 4)] else gc_O 1 [gv_I (gq_f m 5), gv_R 22, gv_R 23]
def ma_O (m : gq_M) : gc_T := gc_O 6 [gv_I (gq_f m 0), gv_I (gq_f m 1), gv_I (gq_f m 2), gv_R 58, gv_R 74, gv_R 75, gv_R 59, gv_R 60, gv_R 61, gv_R 62, gv_R 63, gv_R 64, gv_R 65, gv_R 76, gv_R 77, gv_R 66, gv_L (gq_j m 0), gv_I (gq_f m 3), gv_R 67, gv_R 68, gv_I (gq_f m 4), gv_R 69, gv_R 70, gv_I (gq_f m 5), gv_R 71, gv_R 78, gv_R 79, gv_R 72, gv_R 73]
def ca_R (k : Nat) : gc_T := if k = 55 then gc_R 3 13 (fun j => some (42 + j.toNat)) else gc_R 4 11 (fun j => some (24 + j.toNat))
abbrev ca_G : Type := gq_M × gq_M × (Int → Int64)
def ca_A (g : ca_G) (k : Nat) : gc_T :=
  if k < 6 then ca_O g.1 k else if k < 35 then gc_I (ca_k (k - 6)) (ca_n (k - 6)) (gq_i g.1 (k - 6)) else if k < 55 then gc_L (ca_m (k - 35)) (gq_l g.1 (k - 35)) else if k < 57 then ca_R k else
  if k < 58 then ma_O g.2.1 else if k < 74 then gc_I (ma_k (k - 58)) (ma_n (k - 58)) (gq_i g.2.1 (k - 58)) else if k < 80 then gc_L (ma_m (k - 74)) (gq_l g.2.1 (k - 74)) else if k = 80 then gc_L 1 g.2.2 else gc_L 0 (fun _ => 0)
theorem ca_I {M : gq_M} {G : gq_M × (Int → Int64)} {f : Int → Int32} (a : Nat) (h : a < 29) : gc_up (ca_A (M, G)) (6 + a) (gc_I (ca_k a) (ca_n a) f) (ca_A (gs_i M a f, G)) := by
  intro j
  by_cases e : j = 6 + a
  · subst e
    have e2 : 6 + a - 6 = a := by omega
    rw [if_pos rfl]
    unfold ca_A
    rw [if_neg (by omega), if_pos (by omega), e2]
    show gc_I _ _ (gq_up M.1 a f a) = _
    rw [gq_us]
  · rw [if_neg e]
    unfold ca_A
    by_cases h6 : j < 6
    · rw [if_pos h6, if_pos h6]
      rfl
    · rw [if_neg h6, if_neg h6]
      by_cases h35 : j < 35
      · rw [if_pos h35, if_pos h35]
        show gc_I _ _ (gq_up M.1 a f (j - 6)) = _
        rw [gq_un _ _ (by omega)]
      · rw [if_neg h35, if_neg h35]
theorem ca_L {M : gq_M} {G : gq_M × (Int → Int64)} {f : Int → Int64} (a : Nat) (h : a < 20) : gc_up (ca_A (M, G)) (35 + a) (gc_L (ca_m a) f) (ca_A (gs_l M a f, G)) := by
  intro j
  by_cases e : j = 35 + a
  · subst e
    have e2 : 35 + a - 35 = a := by omega
    rw [if_pos rfl]
    unfold ca_A
    rw [if_neg (by omega), if_neg (by omega), if_pos (by omega), e2]
    show gc_L _ (gq_up M.2.1 a f a) = _
    rw [gq_us]
  · rw [if_neg e]
    unfold ca_A
    by_cases h6 : j < 6
    · rw [if_pos h6, if_pos h6]
      rfl
    · rw [if_neg h6, if_neg h6]
      by_cases h35 : j < 35
      · rw [if_pos h35, if_pos h35]
      · rw [if_neg h35, if_neg h35]
        by_cases h55 : j < 55
        · rw [if_pos h55, if_pos h55]
          show gc_L _ (gq_up M.2.1 a f (j - 35)) = _
          rw [gq_un _ _ (by omega)]
        · rw [if_neg h55, if_neg h55]
theorem ma_I {C : gq_M} {M : gq_M} {o : Int → Int64} {f : Int → Int32} (a : Nat) (h : a < 16) : gc_up (ca_A (C, M, o)) (58 + a) (gc_I (ma_k a) (ma_n a) f) (ca_A (C, gs_i M a f, o)) := by
  intro j
  by_cases e : j = 58 + a
  · subst e
    have e2 : 58 + a - 58 = a := by omega
    rw [if_pos rfl]
    unfold ca_A
    rw [if_neg (by omega), if_neg (by omega), if_neg (by omega), if_neg (by omega), if_neg (by omega), if_pos (by omega), e2]
    show gc_I _ _ (gq_up M.1 a f a) = _
    rw [gq_us]
  · rw [if_neg e]
    unfold ca_A
    by_cases h6 : j < 6
    · rw [if_pos h6, if_pos h6]
    · rw [if_neg h6, if_neg h6]
      by_cases h35 : j < 35
      · rw [if_pos h35, if_pos h35]
      · rw [if_neg h35, if_neg h35]
        by_cases h55 : j < 55
        · rw [if_pos h55, if_pos h55]
        · rw [if_neg h55, if_neg h55]
          by_cases h57 : j < 57
          · rw [if_pos h57, if_pos h57]
          · rw [if_neg h57, if_neg h57]
            by_cases h58 : j < 58
            · rw [if_pos h58, if_pos h58]
              rfl
            · rw [if_neg h58, if_neg h58]
              by_cases h74 : j < 74
              · rw [if_pos h74, if_pos h74]
                show gc_I _ _ (gq_up M.1 a f (j - 58)) = _
                rw [gq_un _ _ (by omega)]
              · rw [if_neg h74, if_neg h74]
theorem ma_L {C : gq_M} {M : gq_M} {o : Int → Int64} {f : Int → Int64} (a : Nat) (h : a < 6) : gc_up (ca_A (C, M, o)) (74 + a) (gc_L (ma_m a) f) (ca_A (C, gs_l M a f, o)) := by
  intro j
  by_cases e : j = 74 + a
  · subst e
    have e2 : 74 + a - 74 = a := by omega
    rw [if_pos rfl]
    unfold ca_A
    rw [if_neg (by omega), if_neg (by omega), if_neg (by omega), if_neg (by omega), if_neg (by omega), if_neg (by omega), if_pos (by omega), e2]
    show gc_L _ (gq_up M.2.1 a f a) = _
    rw [gq_us]
  · rw [if_neg e]
    unfold ca_A
    by_cases h6 : j < 6
    · rw [if_pos h6, if_pos h6]
    · rw [if_neg h6, if_neg h6]
      by_cases h35 : j < 35
      · rw [if_pos h35, if_pos h35]
      · rw [if_neg h35, if_neg h35]
        by_cases h55 : j < 55
        · rw [if_pos h55, if_pos h55]
        · rw [if_neg h55, if_neg h55]
          by_cases h57 : j < 57
          · rw [if_pos h57, if_pos h57]
          · rw [if_neg h57, if_neg h57]
            by_cases h58 : j < 58
            · rw [if_pos h58, if_pos h58]
              rfl
            · rw [if_neg h58, if_neg h58]
              by_cases h74 : j < 74
              · rw [if_pos h74, if_pos h74]
              · rw [if_neg h74, if_neg h74]
                by_cases h80 : j < 80
                · rw [if_pos h80, if_pos h80]
                  show gc_L _ (gq_up M.2.1 a f (j - 74)) = _
                  rw [gq_un _ _ (by omega)]
                · rw [if_neg h80, if_neg h80]
theorem ca_out {C M : gq_M} {o o2 : Int → Int64} : gc_up (ca_A (C, M, o)) 80 (gc_L 1 o2) (ca_A (C, M, o2)) := by
  intro j
  by_cases e : j = 80
  · subst e
    rfl
  · rw [if_neg e]
    unfold ca_A
    by_cases h80 : j < 80
    · by_cases h6 : j < 6
      · rw [if_pos h6, if_pos h6]
      · rw [if_neg h6, if_neg h6]
        by_cases h35 : j < 35
        · rw [if_pos h35, if_pos h35]
        · rw [if_neg h35, if_neg h35]
          by_cases h55 : j < 55
          · rw [if_pos h55, if_pos h55]
          · rw [if_neg h55, if_neg h55]
            by_cases h57 : j < 57
            · rw [if_pos h57, if_pos h57]
            · rw [if_neg h57, if_neg h57]
              by_cases h58 : j < 58
              · rw [if_pos h58, if_pos h58]
              · rw [if_neg h58, if_neg h58]
                by_cases h74 : j < 74
                · rw [if_pos h74, if_pos h74]
                · rw [if_neg h74, if_neg h74, if_pos h80, if_pos h80]
    · rw [if_neg (by omega), if_neg (by omega), if_neg (by omega), if_neg (by omega), if_neg (by omega), if_neg (by omega), if_neg h80, if_neg e, if_neg (by omega), if_neg (by omega), if_neg (by omega), if_neg (by omega), if_neg (by omega), if_neg (by omega), if_neg h80, if_neg e]
theorem ca_hist {M : gq_M} {G : gq_M × (Int → Int64)} {r : Nat} (h : r < 11) : ca_A (M, G) (24 + r) = gc_I 0 80 (gq_i M (18 + r)) := by
  have e : 24 + r - 6 = 18 + r := by omega
  unfold ca_A
  rw [if_neg (by omega), if_pos (by omega), e]
  have : r = 0 ∨ r = 1 ∨ r = 2 ∨ r = 3 ∨ r = 4 ∨ r = 5 ∨ r = 6 ∨ r = 7 ∨ r = 8 ∨ r = 9 ∨ r = 10 := by omega
  rcases this with rfl | rfl | rfl | rfl | rfl | rfl | rfl | rfl | rfl | rfl | rfl <;> rfl
theorem ca_cost {M : gq_M} {G : gq_M × (Int → Int64)} {r : Nat} (h : r < 13) : ca_A (M, G) (42 + r) = gc_L 13 (gq_l M (7 + r)) := by
  have e : 42 + r - 35 = 7 + r := by omega
  unfold ca_A
  rw [if_neg (by omega), if_neg (by omega), if_pos (by omega), e]
  have : r = 0 ∨ r = 1 ∨ r = 2 ∨ r = 3 ∨ r = 4 ∨ r = 5 ∨ r = 6 ∨ r = 7 ∨ r = 8 ∨ r = 9 ∨ r = 10 ∨ r = 11 ∨ r = 12 := by omega
  rcases this with rfl | rfl | rfl | rfl | rfl | rfl | rfl | rfl | rfl | rfl | rfl | rfl | rfl <;> rfl
theorem ca_histU {M : gq_M} {G : gq_M × (Int → Int64)} {r : Nat} {f : Int → Int32} (h : r < 11) : gc_up (ca_A (M, G)) (24 + r) (gc_I 0 80 f) (ca_A (gs_i M (18 + r) f, G)) := by
  have h1 := ca_I (M := M) (G := G) (f := f) (18 + r) (by omega)
  have e : 6 + (18 + r) = 24 + r := by omega
  have e2 : gc_I (ca_k (18 + r)) (ca_n (18 + r)) f = gc_I 0 80 f := by
    have : r = 0 ∨ r = 1 ∨ r = 2 ∨ r = 3 ∨ r = 4 ∨ r = 5 ∨ r = 6 ∨ r = 7 ∨ r = 8 ∨ r = 9 ∨ r = 10 := by omega
    rcases this with rfl | rfl | rfl | rfl | rfl | rfl | rfl | rfl | rfl | rfl | rfl <;> rfl
  rw [e, e2] at h1
  exact h1
theorem ca_costU {M : gq_M} {G : gq_M × (Int → Int64)} {r : Nat} {f : Int → Int64} (h : r < 13) : gc_up (ca_A (M, G)) (42 + r) (gc_L 13 f) (ca_A (gs_l M (7 + r) f, G)) := by
  have h1 := ca_L (M := M) (G := G) (f := f) (7 + r) (by omega)
  have e : 35 + (7 + r) = 42 + r := by omega
  have e2 : gc_L (ca_m (7 + r)) f = gc_L 13 f := by
    have : r = 0 ∨ r = 1 ∨ r = 2 ∨ r = 3 ∨ r = 4 ∨ r = 5 ∨ r = 6 ∨ r = 7 ∨ r = 8 ∨ r = 9 ∨ r = 10 ∨ r = 11 ∨ r = 12 := by omega
    rcases this with rfl | rfl | rfl | rfl | rfl | rfl | rfl | rfl | rfl | rfl | rfl | rfl | rfl <;> rfl
  rw [e, e2] at h1
  exact h1
theorem ca_J0 {M : gq_M} {G : gq_M × (Int → Int64)} {v : Int64} : gc_up (ca_A (M, G)) 0 (gc_O 0 ([gv_R 1, gv_R 2, gv_R 3, gv_R 4, gv_R 5, gv_L (gq_j M 0)].set 5 (gv_L v))) (ca_A (gs_j M 0 v, G)) := by
  intro j
  by_cases e : j = 0
  · subst e
    rfl
  · rw [if_neg e]
    unfold ca_A
    by_cases h6 : j < 6
    · rw [if_pos h6, if_pos h6]
      have : j = 0 ∨ j = 1 ∨ j = 2 ∨ j = 3 ∨ j = 4 ∨ j = 5 := by omega
      rcases this with rfl | rfl | rfl | rfl | rfl | rfl <;> first | rfl | exact absurd rfl e
    · rw [if_neg h6, if_neg h6]
theorem ca_F0 {M : gq_M} {G : gq_M × (Int → Int64)} {v : Int32} : gc_up (ca_A (M, G)) 1 (gc_O 5 ([gv_I (gq_f M 0), gv_I (gq_f M 1), gv_R 6, gv_R 7, gv_R 35, gv_R 36, gv_R 8, gv_R 9, gv_R 10, gv_R 11, gv_R 12, gv_R 13].set 0 (gv_I v))) (ca_A (gs_f M 0 v, G)) := by
  intro j
  by_cases e : j = 1
  · subst e
    rfl
  · rw [if_neg e]
    unfold ca_A
    by_cases h6 : j < 6
    · rw [if_pos h6, if_pos h6]
      have : j = 0 ∨ j = 1 ∨ j = 2 ∨ j = 3 ∨ j = 4 ∨ j = 5 := by omega
      rcases this with rfl | rfl | rfl | rfl | rfl | rfl <;> first | rfl | exact absurd rfl e
    · rw [if_neg h6, if_neg h6]
theorem ca_F1 {M : gq_M} {G : gq_M × (Int → Int64)} {v : Int32} : gc_up (ca_A (M, G)) 1 (gc_O 5 ([gv_I (gq_f M 0), gv_I (gq_f M 1), gv_R 6, gv_R 7, gv_R 35, gv_R 36, gv_R 8, gv_R 9, gv_R 10, gv_R 11, gv_R 12, gv_R 13].set 1 (gv_I v))) (ca_A (gs_f M 1 v, G)) := by
  intro j
  by_cases e : j = 1
  · subst e
    rfl
  · rw [if_neg e]
    unfold ca_A
    by_cases h6 : j < 6
    · rw [if_pos h6, if_pos h6]
      have : j = 0 ∨ j = 1 ∨ j = 2 ∨ j = 3 ∨ j = 4 ∨ j = 5 := by omega
      rcases this with rfl | rfl | rfl | rfl | rfl | rfl <;> first | rfl | exact absurd rfl e
    · rw [if_neg h6, if_neg h6]
theorem ca_F2 {M : gq_M} {G : gq_M × (Int → Int64)} {v : Int32} : gc_up (ca_A (M, G)) 3 (gc_O 3 ([gv_I (gq_f M 2), gv_R 16, gv_R 55, gv_R 39, gv_R 40, gv_R 17, gv_R 18, gv_R 41, gv_R 19, gv_R 20].set 0 (gv_I v))) (ca_A (gs_f M 2 v, G)) := by
  intro j
  by_cases e : j = 3
  · subst e
    rfl
  · rw [if_neg e]
    unfold ca_A
    by_cases h6 : j < 6
    · rw [if_pos h6, if_pos h6]
      have : j = 0 ∨ j = 1 ∨ j = 2 ∨ j = 3 ∨ j = 4 ∨ j = 5 := by omega
      rcases this with rfl | rfl | rfl | rfl | rfl | rfl <;> first | rfl | exact absurd rfl e
    · rw [if_neg h6, if_neg h6]
theorem ca_F3 {M : gq_M} {G : gq_M × (Int → Int64)} {v : Int32} : gc_up (ca_A (M, G)) 4 (gc_O 2 ([gv_R 56, gv_R 21, gv_I (gq_f M 3), gv_I (gq_f M 4)].set 2 (gv_I v))) (ca_A (gs_f M 3 v, G)) := by
  intro j
  by_cases e : j = 4
  · subst e
    rfl
  · rw [if_neg e]
    unfold ca_A
    by_cases h6 : j < 6
    · rw [if_pos h6, if_pos h6]
      have : j = 0 ∨ j = 1 ∨ j = 2 ∨ j = 3 ∨ j = 4 ∨ j = 5 := by omega
      rcases this with rfl | rfl | rfl | rfl | rfl | rfl <;> first | rfl | exact absurd rfl e
    · rw [if_neg h6, if_neg h6]
theorem ca_F4 {M : gq_M} {G : gq_M × (Int → Int64)} {v : Int32} : gc_up (ca_A (M, G)) 4 (gc_O 2 ([gv_R 56, gv_R 21, gv_I (gq_f M 3), gv_I (gq_f M 4)].set 3 (gv_I v))) (ca_A (gs_f M 4 v, G)) := by
  intro j
  by_cases e : j = 4
  · subst e
    rfl
  · rw [if_neg e]
    unfold ca_A
    by_cases h6 : j < 6
    · rw [if_pos h6, if_pos h6]
      have : j = 0 ∨ j = 1 ∨ j = 2 ∨ j = 3 ∨ j = 4 ∨ j = 5 := by omega
      rcases this with rfl | rfl | rfl | rfl | rfl | rfl <;> first | rfl | exact absurd rfl e
    · rw [if_neg h6, if_neg h6]
theorem ca_F5 {M : gq_M} {G : gq_M × (Int → Int64)} {v : Int32} : gc_up (ca_A (M, G)) 5 (gc_O 1 ([gv_I (gq_f M 5), gv_R 22, gv_R 23].set 0 (gv_I v))) (ca_A (gs_f M 5 v, G)) := by
  intro j
  by_cases e : j = 5
  · subst e
    rfl
  · rw [if_neg e]
    unfold ca_A
    by_cases h6 : j < 6
    · rw [if_pos h6, if_pos h6]
      have : j = 0 ∨ j = 1 ∨ j = 2 ∨ j = 3 ∨ j = 4 ∨ j = 5 := by omega
      rcases this with rfl | rfl | rfl | rfl | rfl | rfl <;> first | rfl | exact absurd rfl e
    · rw [if_neg h6, if_neg h6]
theorem ma_F0 {C M : gq_M} {o : Int → Int64} {v : Int32} : gc_up (ca_A (C, M, o)) 57 (gc_O 6 ([gv_I (gq_f M 0), gv_I (gq_f M 1), gv_I (gq_f M 2), gv_R 58, gv_R 74, gv_R 75, gv_R 59, gv_R 60, gv_R 61, gv_R 62, gv_R 63, gv_R 64, gv_R 65, gv_R 76, gv_R 77, gv_R 66, gv_L (gq_j M 0), gv_I (gq_f M 3), gv_R 67, gv_R 68, gv_I (gq_f M 4), gv_R 69, gv_R 70, gv_I (gq_f M 5), gv_R 71, gv_R 78, gv_R 79, gv_R 72, gv_R 73].set 0 (gv_I v))) (ca_A (C, gs_f M 0 v, o)) := by
  intro j
  by_cases e : j = 57
  · subst e
    rfl
  · rw [if_neg e]
    unfold ca_A
    by_cases h57 : j < 57
    · by_cases h6 : j < 6
      · rw [if_pos h6, if_pos h6]
      · rw [if_neg h6, if_neg h6]
        by_cases h35 : j < 35
        · rw [if_pos h35, if_pos h35]
        · rw [if_neg h35, if_neg h35]
          by_cases h55 : j < 55
          · rw [if_pos h55, if_pos h55]
          · rw [if_neg h55, if_neg h55, if_pos h57, if_pos h57]
    · simp only [show ¬ j < 6 by omega, show ¬ j < 35 by omega, show ¬ j < 55 by omega, h57, show ¬ j < 58 by omega, if_false]
theorem ma_F1 {C M : gq_M} {o : Int → Int64} {v : Int32} : gc_up (ca_A (C, M, o)) 57 (gc_O 6 ([gv_I (gq_f M 0), gv_I (gq_f M 1), gv_I (gq_f M 2), gv_R 58, gv_R 74, gv_R 75, gv_R 59, gv_R 60, gv_R 61, gv_R 62, gv_R 63, gv_R 64, gv_R 65, gv_R 76, gv_R 77, gv_R 66, gv_L (gq_j M 0), gv_I (gq_f M 3), gv_R 67, gv_R 68, gv_I (gq_f M 4), gv_R 69, gv_R 70, gv_I (gq_f M 5), gv_R 71, gv_R 78, gv_R 79, gv_R 72, gv_R 73].set 1 (gv_I v))) (ca_A (C, gs_f M 1 v, o)) := by
  intro j
  by_cases e : j = 57
  · subst e
    rfl
  · rw [if_neg e]
    unfold ca_A
    by_cases h57 : j < 57
    · by_cases h6 : j < 6
      · rw [if_pos h6, if_pos h6]
      · rw [if_neg h6, if_neg h6]
        by_cases h35 : j < 35
        · rw [if_pos h35, if_pos h35]
        · rw [if_neg h35, if_neg h35]
          by_cases h55 : j < 55
          · rw [if_pos h55, if_pos h55]
          · rw [if_neg h55, if_neg h55, if_pos h57, if_pos h57]
    · simp only [show ¬ j < 6 by omega, show ¬ j < 35 by omega, show ¬ j < 55 by omega, h57, show ¬ j < 58 by omega, if_false]
theorem ma_F2 {C M : gq_M} {o : Int → Int64} {v : Int32} : gc_up (ca_A (C, M, o)) 57 (gc_O 6 ([gv_I (gq_f M 0), gv_I (gq_f M 1), gv_I (gq_f M 2), gv_R 58, gv_R 74, gv_R 75, gv_R 59, gv_R 60, gv_R 61, gv_R 62, gv_R 63, gv_R 64, gv_R 65, gv_R 76, gv_R 77, gv_R 66, gv_L (gq_j M 0), gv_I (gq_f M 3), gv_R 67, gv_R 68, gv_I (gq_f M 4), gv_R 69, gv_R 70, gv_I (gq_f M 5), gv_R 71, gv_R 78, gv_R 79, gv_R 72, gv_R 73].set 2 (gv_I v))) (ca_A (C, gs_f M 2 v, o)) := by
  intro j
  by_cases e : j = 57
  · subst e
    rfl
  · rw [if_neg e]
    unfold ca_A
    by_cases h57 : j < 57
    · by_cases h6 : j < 6
      · rw [if_pos h6, if_pos h6]
      · rw [if_neg h6, if_neg h6]
        by_cases h35 : j < 35
        · rw [if_pos h35, if_pos h35]
        · rw [if_neg h35, if_neg h35]
          by_cases h55 : j < 55
          · rw [if_pos h55, if_pos h55]
          · rw [if_neg h55, if_neg h55, if_pos h57, if_pos h57]
    · simp only [show ¬ j < 6 by omega, show ¬ j < 35 by omega, show ¬ j < 55 by omega, h57, show ¬ j < 58 by omega, if_false]
theorem ma_J0 {C M : gq_M} {o : Int → Int64} {v : Int64} : gc_up (ca_A (C, M, o)) 57 (gc_O 6 ([gv_I (gq_f M 0), gv_I (gq_f M 1), gv_I (gq_f M 2), gv_R 58, gv_R 74, gv_R 75, gv_R 59, gv_R 60, gv_R 61, gv_R 62, gv_R 63, gv_R 64, gv_R 65, gv_R 76, gv_R 77, gv_R 66, gv_L (gq_j M 0), gv_I (gq_f M 3), gv_R 67, gv_R 68, gv_I (gq_f M 4), gv_R 69, gv_R 70, gv_I (gq_f M 5), gv_R 71, gv_R 78, gv_R 79, gv_R 72, gv_R 73].set 16 (gv_L v))) (ca_A (C, gs_j M 0 v, o)) := by
  intro j
  by_cases e : j = 57
  · subst e
    rfl
  · rw [if_neg e]
    unfold ca_A
    by_cases h57 : j < 57
    · by_cases h6 : j < 6
      · rw [if_pos h6, if_pos h6]
      · rw [if_neg h6, if_neg h6]
        by_cases h35 : j < 35
        · rw [if_pos h35, if_pos h35]
        · rw [if_neg h35, if_neg h35]
          by_cases h55 : j < 55
          · rw [if_pos h55, if_pos h55]
          · rw [if_neg h55, if_neg h55, if_pos h57, if_pos h57]
    · simp only [show ¬ j < 6 by omega, show ¬ j < 35 by omega, show ¬ j < 55 by omega, h57, show ¬ j < 58 by omega, if_false]
theorem ma_F3 {C M : gq_M} {o : Int → Int64} {v : Int32} : gc_up (ca_A (C, M, o)) 57 (gc_O 6 ([gv_I (gq_f M 0), gv_I (gq_f M 1), gv_I (gq_f M 2), gv_R 58, gv_R 74, gv_R 75, gv_R 59, gv_R 60, gv_R 61, gv_R 62, gv_R 63, gv_R 64, gv_R 65, gv_R 76, gv_R 77, gv_R 66, gv_L (gq_j M 0), gv_I (gq_f M 3), gv_R 67, gv_R 68, gv_I (gq_f M 4), gv_R 69, gv_R 70, gv_I (gq_f M 5), gv_R 71, gv_R 78, gv_R 79, gv_R 72, gv_R 73].set 17 (gv_I v))) (ca_A (C, gs_f M 3 v, o)) := by
  intro j
  by_cases e : j = 57
  · subst e
    rfl
  · rw [if_neg e]
    unfold ca_A
    by_cases h57 : j < 57
    · by_cases h6 : j < 6
      · rw [if_pos h6, if_pos h6]
      · rw [if_neg h6, if_neg h6]
        by_cases h35 : j < 35
        · rw [if_pos h35, if_pos h35]
        · rw [if_neg h35, if_neg h35]
          by_cases h55 : j < 55
          · rw [if_pos h55, if_pos h55]
          · rw [if_neg h55, if_neg h55, if_pos h57, if_pos h57]
    · simp only [show ¬ j < 6 by omega, show ¬ j < 35 by omega, show ¬ j < 55 by omega, h57, show ¬ j < 58 by omega, if_false]
theorem ma_F4 {C M : gq_M} {o : Int → Int64} {v : Int32} : gc_up (ca_A (C, M, o)) 57 (gc_O 6 ([gv_I (gq_f M 0), gv_I (gq_f M 1), gv_I (gq_f M 2), gv_R 58, gv_R 74, gv_R 75, gv_R 59, gv_R 60, gv_R 61, gv_R 62, gv_R 63, gv_R 64, gv_R 65, gv_R 76, gv_R 77, gv_R 66, gv_L (gq_j M 0), gv_I (gq_f M 3), gv_R 67, gv_R 68, gv_I (gq_f M 4), gv_R 69, gv_R 70, gv_I (gq_f M 5), gv_R 71, gv_R 78, gv_R 79, gv_R 72, gv_R 73].set 20 (gv_I v))) (ca_A (C, gs_f M 4 v, o)) := by
  intro j
  by_cases e : j = 57
  · subst e
    rfl
  · rw [if_neg e]
    unfold ca_A
    by_cases h57 : j < 57
    · by_cases h6 : j < 6
      · rw [if_pos h6, if_pos h6]
      · rw [if_neg h6, if_neg h6]
        by_cases h35 : j < 35
        · rw [if_pos h35, if_pos h35]
        · rw [if_neg h35, if_neg h35]
          by_cases h55 : j < 55
          · rw [if_pos h55, if_pos h55]
          · rw [if_neg h55, if_neg h55, if_pos h57, if_pos h57]
    · simp only [show ¬ j < 6 by omega, show ¬ j < 35 by omega, show ¬ j < 55 by omega, h57, show ¬ j < 58 by omega, if_false]
theorem ma_F5 {C M : gq_M} {o : Int → Int64} {v : Int32} : gc_up (ca_A (C, M, o)) 57 (gc_O 6 ([gv_I (gq_f M 0), gv_I (gq_f M 1), gv_I (gq_f M 2), gv_R 58, gv_R 74, gv_R 75, gv_R 59, gv_R 60, gv_R 61, gv_R 62, gv_R 63, gv_R 64, gv_R 65, gv_R 76, gv_R 77, gv_R 66, gv_L (gq_j M 0), gv_I (gq_f M 3), gv_R 67, gv_R 68, gv_I (gq_f M 4), gv_R 69, gv_R 70, gv_I (gq_f M 5), gv_R 71, gv_R 78, gv_R 79, gv_R 72, gv_R 73].set 23 (gv_I v))) (ca_A (C, gs_f M 5 v, o)) := by
  intro j
  by_cases e : j = 57
  · subst e
    rfl
  · rw [if_neg e]
    unfold ca_A
    by_cases h57 : j < 57
    · by_cases h6 : j < 6
      · rw [if_pos h6, if_pos h6]
      · rw [if_neg h6, if_neg h6]
        by_cases h35 : j < 35
        · rw [if_pos h35, if_pos h35]
        · rw [if_neg h35, if_neg h35]
          by_cases h55 : j < 55
          · rw [if_pos h55, if_pos h55]
          · rw [if_neg h55, if_neg h55, if_pos h57, if_pos h57]
    · simp only [show ¬ j < 6 by omega, show ¬ j < 35 by omega, show ¬ j < 55 by omega, h57, show ¬ j < 58 by omega, if_false]
end
section
/-! PURE: sums over 1 .. n, the pigeonhole, sums over a permutation, the least sum by rows and sets of columns, and prices -/
def pm_S (f : Int → Int) : Nat → Int
  | 0 => 0
  | n + 1 => pm_S f n + f ((n : Int) + 1)
theorem pm_S_congr {f g : Int → Int} : ∀ {n : Nat}, (∀ i : Int, 1 ≤ i → i ≤ n → f i = g i) → pm_S f n = pm_S g n
  | 0, _ => rfl
  | n + 1, h => by
    have h1 : pm_S f n = pm_S g n := pm_S_congr (fun i a b => h i a (by omega))
    have h2 := h ((n : Int) + 1) (by omega) (by omega)
    show pm_S f n + f ((n : Int) + 1) = pm_S g n + g ((n : Int) + 1)
    rw [h1, h2]
theorem pm_S_le {f g : Int → Int} : ∀ {n : Nat}, (∀ i : Int, 1 ≤ i → i ≤ n → f i ≤ g i) → pm_S f n ≤ pm_S g n
  | 0, _ => Int.le_refl _
  | n + 1, h => by
    have h1 : pm_S f n ≤ pm_S g n := pm_S_le (fun i a b => h i a (by omega))
    have h2 := h ((n : Int) + 1) (by omega) (by omega)
    show pm_S f n + f ((n : Int) + 1) ≤ pm_S g n + g ((n : Int) + 1)
    omega
theorem pm_S_add (f g : Int → Int) : ∀ n : Nat, pm_S (fun i => f i + g i) n = pm_S f n + pm_S g n
  | 0 => rfl
  | n + 1 => by
    have h := pm_S_add f g n
    show pm_S (fun i => f i + g i) n + (f ((n : Int) + 1) + g ((n : Int) + 1)) = pm_S f n + f ((n : Int) + 1) + (pm_S g n + g ((n : Int) + 1))
    omega
theorem pm_S_zero {f : Int → Int} {n : Nat} (h : ∀ i : Int, 1 ≤ i → i ≤ n → f i = 0) : pm_S f n = 0 := by
  have h1 : pm_S f n = pm_S (fun _ => 0) n := pm_S_congr h
  rw [h1]
  clear h h1
  induction n with
  | zero => rfl
  | succ n ih =>
    show pm_S (fun _ => 0) n + 0 = 0
    omega
theorem pm_S_nonneg {f : Int → Int} {n : Nat} (h : ∀ i : Int, 1 ≤ i → i ≤ n → 0 ≤ f i) : 0 ≤ pm_S f n := by
  have h1 : pm_S (fun _ => 0) n ≤ pm_S f n := pm_S_le h
  rw [pm_S_zero (f := fun _ => 0) (fun _ _ _ => rfl)] at h1
  exact h1
theorem pm_S_bound {f : Int → Int} {B : Int} : ∀ {n : Nat}, (∀ i : Int, 1 ≤ i → i ≤ n → f i ≤ B) → pm_S f n ≤ n * B
  | 0, _ => by
    show (0 : Int) ≤ ((0 : Nat) : Int) * B
    simp
  | n + 1, h => by
    have h1 : pm_S f n ≤ n * B := pm_S_bound (fun i a b => h i a (by omega))
    have h2 := h ((n : Int) + 1) (by omega) (by omega)
    show pm_S f n + f ((n : Int) + 1) ≤ ((n + 1 : Nat) : Int) * B
    have h3 : ((n + 1 : Nat) : Int) * B = (n : Int) * B + B := by
      rw [Int.natCast_add, Int.add_mul]
      simp
    omega
/-- one term, the others 0 -/
theorem pm_S_one {a : Int} {i0 : Int} : ∀ {n : Nat}, 1 ≤ i0 → i0 ≤ n → pm_S (fun i => if i = i0 then a else 0) n = a
  | 0, h1, h2 => absurd h2 (by omega)
  | n + 1, h1, h2 => by
    show pm_S (fun i => if i = i0 then a else 0) n + (if (n : Int) + 1 = i0 then a else 0) = a
    by_cases h : (n : Int) + 1 = i0
    · rw [if_pos h, pm_S_zero (fun i a1 b1 => if_neg (by omega))]
      omega
    · rw [if_neg h, pm_S_one h1 (by omega)]
      omega
theorem pm_S_ge {f : Int → Int} {n : Nat} (h : ∀ i : Int, 1 ≤ i → i ≤ n → 0 ≤ f i) {i0 : Int} (h1 : 1 ≤ i0) (h2 : i0 ≤ n) : f i0 ≤ pm_S f n := by
  have h3 : pm_S (fun i => if i = i0 then f i0 else 0) n ≤ pm_S f n := pm_S_le (fun i a b => by
    by_cases e : i = i0
    · rw [if_pos e, e]
      exact Int.le_refl _
    · rw [if_neg e]
      exact h i a b)
  rw [pm_S_one h1 h2] at h3
  exact h3
abbrev pm_into (n : Nat) (f : Int → Int) : Prop := ∀ i : Int, 1 ≤ i → i ≤ n → 1 ≤ f i ∧ f i ≤ n
abbrev pm_inj (n : Nat) (f : Int → Int) : Prop := ∀ i j : Int, 1 ≤ i → i ≤ n → 1 ≤ j → j ≤ n → f i = f j → i = j
theorem pm_cut {n : Nat} {f : Int → Int} (hm : pm_into (n + 1) f) (hi : pm_inj (n + 1) f) :
    pm_into n (fun i => if f i = (n : Int) + 1 then f ((n : Int) + 1) else f i) ∧ pm_inj n (fun i => if f i = (n : Int) + 1 then f ((n : Int) + 1) else f i) := by
  have hN := hm ((n : Int) + 1) (by omega) (by omega)
  refine ⟨fun i h1 h2 => ?_, fun i j h1 h2 h3 h4 h5 => ?_⟩
  · have hmi := hm i h1 (by omega)
    by_cases e : f i = (n : Int) + 1
    · simp only [e, if_true]
      have h6 : f ((n : Int) + 1) ≠ (n : Int) + 1 := fun z => by
        have := hi i ((n : Int) + 1) h1 (by omega) (by omega) (by omega) (e.trans z.symm)
        omega
      omega
    · simp only [e, if_false]
      omega
  · by_cases e1 : f i = (n : Int) + 1
    · by_cases e2 : f j = (n : Int) + 1
      · exact hi i j h1 (by omega) h3 (by omega) (e1.trans e2.symm)
      · simp only [e1, e2, if_true, if_false] at h5
        have := hi ((n : Int) + 1) j (by omega) (by omega) h3 (by omega) h5
        omega
    · by_cases e2 : f j = (n : Int) + 1
      · simp only [e1, e2, if_true, if_false] at h5
        have := hi i ((n : Int) + 1) h1 (by omega) (by omega) (by omega) h5
        omega
      · simp only [e1, e2, if_false] at h5
        exact hi i j h1 (by omega) h3 (by omega) h5
theorem pm_php : ∀ (n : Nat) (f : Int → Int), pm_into n f → pm_inj n f → ∀ y : Int, 1 ≤ y → y ≤ n → ∃ x : Int, 1 ≤ x ∧ x ≤ n ∧ f x = y
  | 0, _, _, _, y, h1, h2 => absurd h2 (by omega)
  | n + 1, f, hm, hi, y, h1, h2 => by
    obtain ⟨gm, gi⟩ := pm_cut hm hi
    have hN := hm ((n : Int) + 1) (by omega) (by omega)
    have ih := pm_php n _ gm gi
    by_cases e : y = f ((n : Int) + 1)
    · exact ⟨(n : Int) + 1, by omega, by omega, e.symm⟩
    · by_cases e2 : y = (n : Int) + 1
      · obtain ⟨z, a1, a2, a3⟩ := ih (f ((n : Int) + 1)) hN.1 (by omega)
        by_cases e3 : f z = (n : Int) + 1
        · exact ⟨z, a1, by omega, by omega⟩
        · simp only [e3, if_false] at a3
          have := hi z ((n : Int) + 1) a1 (by omega) (by omega) (by omega) a3
          omega
      · obtain ⟨z, a1, a2, a3⟩ := ih y h1 (by omega)
        by_cases e3 : f z = (n : Int) + 1
        · simp only [e3, if_true] at a3
          exact absurd a3.symm e
        · simp only [e3, if_false] at a3
          exact ⟨z, a1, by omega, a3⟩
/-- the same on a part P of 1 .. n -/
theorem pm_phpP {n : Nat} {P : Int → Prop} (hP : ∀ i, P i ∨ ¬ P i) {f : Int → Int} (hr : ∀ i, P i → 1 ≤ i ∧ i ≤ n) (hm : ∀ i, P i → P (f i)) (hi : ∀ i j, P i → P j → f i = f j → i = j) {y : Int} (hy : P y) : ∃ x, P x ∧ f x = y := by
  have hd : ∀ i, Decidable (P i) := fun i => Classical.propDecidable _
  obtain ⟨z, a1, a2, a3⟩ := pm_php n (fun i => if P i then f i else i) (fun i h1 h2 => by
    by_cases h : P i
    · simp only [h, if_true]
      exact hr _ (hm i h)
    · simp only [h, if_false]
      exact ⟨h1, h2⟩) (fun i j h1 h2 h3 h4 h5 => by
    by_cases h : P i
    · by_cases h' : P j
      · simp only [h, h', if_true] at h5
        exact hi i j h h' h5
      · simp only [h, h', if_true, if_false] at h5
        exact absurd (h5 ▸ hm i h) h'
    · by_cases h' : P j
      · simp only [h, h', if_true, if_false] at h5
        exact absurd (h5 ▸ hm j h') h
      · simp only [h, h', if_false] at h5
        exact h5) y (hr y hy).1 (hr y hy).2
  by_cases h : P z
  · simp only [h, if_true] at a3
    exact ⟨z, h, a3⟩
  · simp only [h, if_false] at a3
    exact absurd (a3 ▸ hy) h
theorem pm_S_perm : ∀ (n : Nat) (p : Int → Int), pm_into n p → pm_inj n p → ∀ f : Int → Int, pm_S (fun i => f (p i)) n = pm_S f n
  | 0, _, _, _, _ => rfl
  | n + 1, p, hm, hi, f => by
    obtain ⟨gm, gi⟩ := pm_cut hm hi
    have ih := pm_S_perm n _ gm gi f
    have hN := hm ((n : Int) + 1) (by omega) (by omega)
    show pm_S (fun i => f (p i)) n + f (p ((n : Int) + 1)) = pm_S f n + f ((n : Int) + 1)
    by_cases e : p ((n : Int) + 1) = (n : Int) + 1
    · have h1 : pm_S (fun i => f (if p i = (n : Int) + 1 then p ((n : Int) + 1) else p i)) n = pm_S (fun i => f (p i)) n := pm_S_congr (fun i a b => by
        have h2 : p i ≠ (n : Int) + 1 := fun z => by
          have := hi i ((n : Int) + 1) a (by omega) (by omega) (by omega) (z.trans e.symm)
          omega
        simp only [h2, if_false])
      rw [← ih, h1, e]
    · obtain ⟨i0, a1, a2, a3⟩ := pm_php (n + 1) p hm hi ((n : Int) + 1) (by omega) (by omega)
      have a4 : i0 ≠ (n : Int) + 1 := fun z => e (z ▸ a3)
      have h1 : pm_S (fun i => f (if p i = (n : Int) + 1 then p ((n : Int) + 1) else p i)) n = pm_S (fun i => f (p i) + (if i = i0 then f (p ((n : Int) + 1)) - f ((n : Int) + 1) else 0)) n := pm_S_congr (fun i a b => by
        by_cases h2 : p i = (n : Int) + 1
        · have h3 : i = i0 := hi i i0 a (by omega) a1 a2 (h2.trans a3.symm)
          rw [if_pos h2, if_pos h3, h2]
          omega
        · have h3 : i ≠ i0 := fun z => h2 (z ▸ a3)
          simp only [h2, h3, if_false]
          omega)
      rw [pm_S_add, pm_S_one a1 (by omega)] at h1
      rw [h1] at ih
      omega
/-! the least sum, row after row, by the set of the columns that are taken -/
def pl_m (P : Nat → Bool) (w : Nat → Int) (NV : Int) : Nat → Int
  | 0 => NV
  | v + 1 => if P v = true then pl_m P w NV v else if w v < pl_m P w NV v then w v else pl_m P w NV v
theorem pl_m_top (P : Nat → Bool) (w : Nat → Int) (NV : Int) : ∀ n, pl_m P w NV n ≤ NV
  | 0 => Int.le_refl _
  | n + 1 => by
    have h := pl_m_top P w NV n
    unfold pl_m
    by_cases h1 : P n = true
    · rw [if_pos h1]
      exact h
    · rw [if_neg h1]
      by_cases h2 : w n < pl_m P w NV n
      · rw [if_pos h2]
        omega
      · rw [if_neg h2]
        exact h
theorem pl_m_le {P : Nat → Bool} {w : Nat → Int} {NV : Int} : ∀ {n v : Nat}, v < n → P v = false → pl_m P w NV n ≤ w v
  | 0, v, h, _ => absurd h (Nat.not_lt_zero v)
  | n + 1, v, h, hv => by
    unfold pl_m
    by_cases e : v = n
    · subst e
      rw [if_neg (by rw [hv]; decide)]
      by_cases h2 : w v < pl_m P w NV v
      · rw [if_pos h2]
        exact Int.le_refl _
      · rw [if_neg h2]
        omega
    · have ih : pl_m P w NV n ≤ w v := pl_m_le (by omega) hv
      by_cases h1 : P n = true
      · rw [if_pos h1]
        exact ih
      · rw [if_neg h1]
        by_cases h2 : w n < pl_m P w NV n
        · rw [if_pos h2]
          omega
        · rw [if_neg h2]
          exact ih
theorem pl_m_ge {P : Nat → Bool} {w : Nat → Int} {NV L : Int} (h0 : L ≤ NV) : ∀ {n : Nat}, (∀ v, v < n → P v = false → L ≤ w v) → L ≤ pl_m P w NV n
  | 0, _ => h0
  | n + 1, h => by
    have ih : L ≤ pl_m P w NV n := pl_m_ge h0 (fun v a b => h v (by omega) b)
    unfold pl_m
    by_cases h1 : P n = true
    · rw [if_pos h1]
      exact ih
    · rw [if_neg h1]
      by_cases h2 : w n < pl_m P w NV n
      · rw [if_pos h2]
        exact h n (by omega) (by simpa using h1)
      · rw [if_neg h2]
        exact ih
theorem pl_m_at (P : Nat → Bool) (w : Nat → Int) (NV : Int) : ∀ n, pl_m P w NV n = NV ∨ ∃ v, v < n ∧ P v = false ∧ pl_m P w NV n = w v
  | 0 => Or.inl rfl
  | n + 1 => by
    have ih := pl_m_at P w NV n
    have up : (pl_m P w NV n = NV ∨ ∃ v, v < n ∧ P v = false ∧ pl_m P w NV n = w v) → (pl_m P w NV n = NV ∨ ∃ v, v < n + 1 ∧ P v = false ∧ pl_m P w NV n = w v) := fun h => by
      rcases h with h | ⟨v, a, b, c⟩
      · exact Or.inl h
      · exact Or.inr ⟨v, by omega, b, c⟩
    unfold pl_m
    by_cases h1 : P n = true
    · rw [if_pos h1]
      exact up ih
    · rw [if_neg h1]
      by_cases h2 : w n < pl_m P w NV n
      · rw [if_pos h2]
        exact Or.inr ⟨n, by omega, by simpa using h1, rfl⟩
      · rw [if_neg h2]
        exact up ih
/-- the least sum of the last k of n rows, over the columns that are not in S (column v + 1 is bit v) -/
def pl_F (n : Nat) (c : Int → Int → Int) (NV : Int) : Nat → Nat → Int
  | 0, _ => 0
  | k + 1, S => pl_m (fun v => S.testBit v) (fun v => c ((n : Int) - k) ((v : Int) + 1) + pl_F n c NV k (S ||| 1 <<< v)) NV n
abbrev pl_b (S : Nat) (j : Int) : Bool := S.testBit (j - 1).toNat
theorem pl_b_v (S v : Nat) : pl_b S ((v : Int) + 1) = S.testBit v := by
  show S.testBit ((v : Int) + 1 - 1).toNat = _
  congr 1
  omega
theorem pl_b_or {S v : Nat} {j : Int} (hj : 1 ≤ j) : pl_b (S ||| 1 <<< v) j = (pl_b S j || decide (j = (v : Int) + 1)) := by
  show (S ||| 1 <<< v).testBit (j - 1).toNat = _
  rw [Nat.testBit_or, Nat.one_shiftLeft, Nat.testBit_two_pow]
  congr 1
  apply decide_eq_decide.mpr
  omega
def pl_n (n S : Nat) : Int := pm_S (fun j => if pl_b S j = true then 1 else 0) n
def pl_q (q : Int → Int) (n S : Nat) : Int := pm_S (fun j => if pl_b S j = true then 0 else q j) n
def pl_d (r q : Int → Int) (n k S : Nat) : Int := (pm_S r n - pm_S r (n - k)) + pl_q q n S
theorem pl_q_step {q : Int → Int} {n S v : Nat} (hv : v < n) (h : S.testBit v = false) : pl_q q n S = q ((v : Int) + 1) + pl_q q n (S ||| 1 <<< v) := by
  have h1 : pl_q q n S = pm_S (fun j => (if j = (v : Int) + 1 then q ((v : Int) + 1) else 0) + (if pl_b (S ||| 1 <<< v) j = true then 0 else q j)) n := pm_S_congr (fun j a b => by
    rw [pl_b_or a]
    by_cases e : j = (v : Int) + 1
    · rw [e, pl_b_v, h]
      simp
    · simp [e])
  rw [h1, pm_S_add, pm_S_one (by omega) (by omega)]
  rfl
theorem pl_n_step {n S v : Nat} (hv : v < n) (h : S.testBit v = false) : pl_n n (S ||| 1 <<< v) = pl_n n S + 1 := by
  have h1 : pl_n n (S ||| 1 <<< v) = pm_S (fun j => (if pl_b S j = true then 1 else 0) + (if j = (v : Int) + 1 then 1 else 0)) n := pm_S_congr (fun j a b => by
    rw [pl_b_or a]
    by_cases e : j = (v : Int) + 1
    · rw [e, pl_b_v, h]
      simp
    · simp [e])
  rw [h1, pm_S_add, pm_S_one (by omega) (by omega)]
  rfl
theorem pl_n_full {n S : Nat} (h : pl_n n S = n) : ∀ j : Int, 1 ≤ j → j ≤ n → pl_b S j = true := by
  intro j h1 h2
  cases e : pl_b S j with
  | true => rfl
  | false =>
    exfalso
    have h3 : pl_n n S + pm_S (fun i => if i = j then 1 else 0) n ≤ pm_S (fun _ => 1) n := by
      unfold pl_n
      rw [← pm_S_add]
      refine pm_S_le (fun i a b => ?_)
      by_cases e2 : i = j
      · rw [e2, e]
        simp
      · rw [if_neg e2]
        by_cases e3 : pl_b S i = true
        · rw [if_pos e3]
          omega
        · rw [if_neg e3]
          omega
    rw [pm_S_one h1 h2, h] at h3
    have h4 : pm_S (fun _ => (1 : Int)) n ≤ n * 1 := pm_S_bound (fun _ _ _ => Int.le_refl _)
    omega
theorem pl_r_step {r : Int → Int} {n k : Nat} (hk : k + 1 ≤ n) : pm_S r (n - k) = pm_S r (n - (k + 1)) + r ((n : Int) - k) := by
  have h : n - k = (n - (k + 1)) + 1 := by omega
  rw [h]
  show pm_S r (n - (k + 1)) + r (((n - (k + 1) : Nat) : Int) + 1) = _
  congr 2
  omega
theorem pl_d_step {r q : Int → Int} {n k S v : Nat} (hk : k + 1 ≤ n) (hv : v < n) (h : S.testBit v = false) : pl_d r q n (k + 1) S = r ((n : Int) - k) + q ((v : Int) + 1) + pl_d r q n k (S ||| 1 <<< v) := by
  unfold pl_d
  rw [pl_q_step hv h]
  have h1 := pl_r_step (r := r) hk
  omega
/-- prices that no place exceeds -/
def pl_ok (r q : Int → Int) (c : Int → Int → Int) (n : Nat) : Prop := ∀ i j : Int, 1 ≤ i → i ≤ n → 1 ≤ j → j ≤ n → r i + q j ≤ c i j
theorem pl_low {r q : Int → Int} {c : Int → Int → Int} {n : Nat} {NV : Int} (hok : pl_ok r q c n) (hc : ∀ i j : Int, 1 ≤ i → i ≤ n → 1 ≤ j → j ≤ n → 0 ≤ c i j) :
    ∀ (k S : Nat), k ≤ n → pl_n n S = (n : Int) - k → ∀ L : Int, L ≤ NV → L ≤ pl_d r q n k S → L ≤ pl_F n c NV k S
  | 0, S, _, hS, L, _, h2 => by
    have h3 : pl_q q n S = 0 := pm_S_zero (fun j a b => if_pos (pl_n_full (by omega) j a b))
    unfold pl_d at h2
    rw [h3, Nat.sub_zero] at h2
    show L ≤ 0
    omega
  | k + 1, S, hk, hS, L, h1, h2 => by
    unfold pl_F
    refine pl_m_ge h1 (fun v hv hb => ?_)
    have hcv := hc ((n : Int) - k) ((v : Int) + 1) (by omega) (by omega) (by omega) (by omega)
    have hov := hok ((n : Int) - k) ((v : Int) + 1) (by omega) (by omega) (by omega) (by omega)
    rw [pl_d_step hk hv hb] at h2
    have ih := pl_low (NV := NV) hok hc k (S ||| 1 <<< v) (by omega) (by rw [pl_n_step hv hb]; omega) (L - c ((n : Int) - k) ((v : Int) + 1)) (by omega) (by omega)
    omega
/-- a way of the last k rows to columns that are not in S, no two to one -/
def pl_way (n k S : Nat) (t : Int → Int) : Prop := (∀ i : Int, (n : Int) - k < i → i ≤ n → 1 ≤ t i ∧ t i ≤ n ∧ pl_b S (t i) = false) ∧ ∀ i j : Int, (n : Int) - k < i → i ≤ n → (n : Int) - k < j → j ≤ n → t i = t j → i = j
theorem pl_way_step {n k S : Nat} {t : Int → Int} (hk : k + 1 ≤ n) (h : pl_way n (k + 1) S t) : pl_way n k (S ||| 1 <<< (t ((n : Int) - k) - 1).toNat) t := by
  have hr := h.1 ((n : Int) - k) (by omega) (by omega)
  refine ⟨fun i h1 h2 => ?_, fun i j h1 h2 h3 h4 => h.2 i j (by omega) h2 (by omega) h4⟩
  have hi := h.1 i (by omega) h2
  refine ⟨hi.1, hi.2.1, ?_⟩
  rw [pl_b_or hi.1, hi.2.2]
  have hne : t i ≠ t ((n : Int) - k) := fun z => by
    have := h.2 i ((n : Int) - k) (by omega) h2 (by omega) (by omega) z
    omega
  simp
  omega
theorem pl_up {c : Int → Int → Int} {n : Nat} {NV : Int} {t : Int → Int} : ∀ (k S : Nat), k ≤ n → pl_way n k S t → pl_F n c NV k S ≤ pm_S (fun i => c i (t i)) n - pm_S (fun i => c i (t i)) (n - k)
  | 0, S, _, _ => by
    rw [Nat.sub_zero]
    show (0 : Int) ≤ _
    omega
  | k + 1, S, hk, h => by
    obtain ⟨hr1, hr2, hr3⟩ := h.1 ((n : Int) - k) (by omega) (by omega)
    have ih := pl_up (c := c) (NV := NV) k _ (by omega) (pl_way_step hk h)
    have hb : S.testBit (t ((n : Int) - k) - 1).toNat = false := hr3
    have hle : pl_F n c NV (k + 1) S ≤ c ((n : Int) - k) (((t ((n : Int) - k) - 1).toNat : Int) + 1) + pl_F n c NV k (S ||| 1 <<< (t ((n : Int) - k) - 1).toNat) := by
      have hvn : (t ((n : Int) - k) - 1).toNat < n := by omega
      exact pl_m_le (P := fun v => S.testBit v) (w := fun v => c ((n : Int) - k) ((v : Int) + 1) + pl_F n c NV k (S ||| 1 <<< v)) hvn hb
    have e : ((t ((n : Int) - k) - 1).toNat : Int) + 1 = t ((n : Int) - k) := by omega
    rw [e] at hle
    have h3 := pl_r_step (r := fun i => c i (t i)) hk
    omega
/-- where the least sum is that of the prices: a way along places that the prices just reach -/
theorem pl_tight {r q : Int → Int} {c : Int → Int → Int} {n : Nat} {NV : Int} (hok : pl_ok r q c n) (hc : ∀ i j : Int, 1 ≤ i → i ≤ n → 1 ≤ j → j ≤ n → 0 ≤ c i j) (hB : ∀ k S : Nat, k ≤ n → pl_d r q n k S < NV) :
    ∀ (k S : Nat), k ≤ n → pl_n n S = (n : Int) - k → pl_F n c NV k S = pl_d r q n k S → ∃ t : Int → Int, pl_way n k S t ∧ ∀ i : Int, (n : Int) - k < i → i ≤ n → c i (t i) = r i + q (t i)
  | 0, S, _, _, _ => ⟨fun i => i, ⟨fun i h1 h2 => absurd h2 (by omega), fun i j h1 h2 => absurd h2 (by omega)⟩, fun i h1 h2 => absurd h2 (by omega)⟩
  | k + 1, S, hk, hS, he => by
    have hat := pl_m_at (fun v => S.testBit v) (fun v => c ((n : Int) - k) ((v : Int) + 1) + pl_F n c NV k (S ||| 1 <<< v)) NV n
    have hlt := hB (k + 1) S hk
    have hun : pl_F n c NV (k + 1) S = pl_m (fun v => S.testBit v) (fun v => c ((n : Int) - k) ((v : Int) + 1) + pl_F n c NV k (S ||| 1 <<< v)) NV n := rfl
    rcases hat with h | ⟨v, hv, hb, h⟩
    · rw [hun, h] at he
      omega
    · have hn2 : pl_n n (S ||| 1 <<< v) = (n : Int) - k := by
        rw [pl_n_step hv hb]
        omega
      have hov := hok ((n : Int) - k) ((v : Int) + 1) (by omega) (by omega) (by omega) (by omega)
      have hlow := pl_low (NV := NV) hok hc k (S ||| 1 <<< v) (by omega) hn2 (pl_d r q n k (S ||| 1 <<< v)) (Int.le_of_lt (hB k _ (by omega))) (Int.le_refl _)
      rw [hun, h, pl_d_step hk hv hb] at he
      obtain ⟨t, ht, htt⟩ := pl_tight hok hc hB k (S ||| 1 <<< v) (by omega) hn2 (by omega)
      refine ⟨fun i => if i = (n : Int) - k then (v : Int) + 1 else t i, ⟨fun i h1 h2 => ?_, fun i j h1 h2 h3 h4 h5 => ?_⟩, fun i h1 h2 => ?_⟩
      · by_cases e : i = (n : Int) - k
        · simp only [e, if_true]
          exact ⟨by omega, by omega, by rw [pl_b_v]; exact hb⟩
        · simp only [e, if_false]
          obtain ⟨a1, a2, a3⟩ := ht.1 i (by omega) h2
          rw [pl_b_or a1] at a3
          simp only [Bool.or_eq_false_iff] at a3
          exact ⟨a1, a2, a3.1⟩
      · by_cases e : i = (n : Int) - k
        · by_cases e' : j = (n : Int) - k
          · omega
          · simp only [e, e', if_true, if_false] at h5
            obtain ⟨a1, a2, a3⟩ := ht.1 j (by omega) h4
            rw [pl_b_or a1] at a3
            simp only [Bool.or_eq_false_iff, decide_eq_false_iff_not] at a3
            exact absurd h5.symm a3.2
        · by_cases e' : j = (n : Int) - k
          · simp only [e, e', if_true, if_false] at h5
            obtain ⟨a1, a2, a3⟩ := ht.1 i (by omega) h2
            rw [pl_b_or a1] at a3
            simp only [Bool.or_eq_false_iff, decide_eq_false_iff_not] at a3
            exact absurd h5 a3.2
          · simp only [e, e', if_false] at h5
            exact ht.2 i j (by omega) h2 (by omega) h4 h5
      · by_cases e : i = (n : Int) - k
        · simp only [e, if_true]
          omega
        · simp only [e, if_false]
          exact htt i (by omega) h2
/-- the place v of the next row can be taken, by sums, just when the prices reach it and the rest goes on so -/
theorem pl_fits {r q : Int → Int} {c : Int → Int → Int} {n : Nat} {NV : Int} (hok : pl_ok r q c n) (hc : ∀ i j : Int, 1 ≤ i → i ≤ n → 1 ≤ j → j ≤ n → 0 ≤ c i j) (hB : ∀ k S : Nat, k ≤ n → pl_d r q n k S < NV)
    {k S v : Nat} (hk : k + 1 ≤ n) (hS : pl_n n S = (n : Int) - (k + 1 : Nat)) (he : pl_F n c NV (k + 1) S = pl_d r q n (k + 1) S) (hv : v < n) (hb : S.testBit v = false) :
    c ((n : Int) - k) ((v : Int) + 1) + pl_F n c NV k (S ||| 1 <<< v) = pl_F n c NV (k + 1) S ↔ (c ((n : Int) - k) ((v : Int) + 1) = r ((n : Int) - k) + q ((v : Int) + 1) ∧ pl_F n c NV k (S ||| 1 <<< v) = pl_d r q n k (S ||| 1 <<< v)) := by
  have hn2 : pl_n n (S ||| 1 <<< v) = (n : Int) - k := by
    rw [pl_n_step hv hb]
    omega
  have hov := hok ((n : Int) - k) ((v : Int) + 1) (by omega) (by omega) (by omega) (by omega)
  have hlow := pl_low (NV := NV) hok hc k (S ||| 1 <<< v) (by omega) hn2 (pl_d r q n k (S ||| 1 <<< v)) (Int.le_of_lt (hB k _ (by omega))) (Int.le_refl _)
  rw [he, pl_d_step hk hv hb]
  omega
end
section
/-! PURE: the class's search by prices: its functions, and what they keep -/
theorem h64_sub {a b : Int64} (ha : -4611686018427387904 ≤ a.toInt ∧ a.toInt ≤ 4611686018427387904) (hb : -4611686018427387904 < b.toInt ∧ b.toInt ≤ 4611686018427387904) : (a - b).toInt = a.toInt - b.toInt := by
  rw [Int64.toInt_sub]
  apply Int.bmod_eq_of_le <;> omega
theorem h64_add {a b : Int64} (ha : -4611686018427387904 ≤ a.toInt ∧ a.toInt < 4611686018427387904) (hb : -4611686018427387904 ≤ b.toInt ∧ b.toInt ≤ 4611686018427387904) : (a + b).toInt = a.toInt + b.toInt := by
  rw [Int64.toInt_add]
  apply Int.bmod_eq_of_le <;> omega
def hm_x (c : Int → Int → Int64) (u v : Int → Int64) (r j : Int) : Int64 := c r j - u r - v j
/-- nextColumn: one column; all columns from j on -/
def hm_n1 (c : Int → Int → Int64) (u v : Int → Int64) (sn : Int → Int) (row fr j : Int) (s : (Int → Int64) × (Int → Int) × Int) : (Int → Int64) × (Int → Int) × Int :=
  if sn j = 0 then
    if hm_x c u v row j < s.1 j then
      (gz_ul s.1 j (hm_x c u v row j), gz_u s.2.1 j fr, if s.2.2 = 0 then j else if gz_ul s.1 j (hm_x c u v row j) j < gz_ul s.1 j (hm_x c u v row j) s.2.2 then j else s.2.2)
    else (s.1, s.2.1, if s.2.2 = 0 then j else if s.1 j < s.1 s.2.2 then j else s.2.2)
  else s
def hm_nx (c : Int → Int → Int64) (u v : Int → Int64) (sn : Int → Int) (row fr : Int) : Nat → Int → (Int → Int64) × (Int → Int) × Int → (Int → Int64) × (Int → Int) × Int
  | 0, _, s => s
  | k + 1, j, s => hm_nx c u v sn row fr k (j + 1) (hm_n1 c u v sn row fr j s)
/-- what stands behind the columns below j -/
def hm_nI (c : Int → Int → Int64) (u v : Int → Int64) (sn : Int → Int) (row fr : Int) (sl0 : Int → Int64) (cm0 : Int → Int) (j : Int) (s : (Int → Int64) × (Int → Int) × Int) : Prop :=
  (∀ i : Int, 1 ≤ i → i < j → sn i = 0 → (hm_x c u v row i < sl0 i ∧ s.1 i = hm_x c u v row i ∧ s.2.1 i = fr) ∨ (¬ hm_x c u v row i < sl0 i ∧ s.1 i = sl0 i ∧ s.2.1 i = cm0 i)) ∧
  (∀ i : Int, (i < 1 ∨ j ≤ i ∨ sn i ≠ 0) → s.1 i = sl0 i ∧ s.2.1 i = cm0 i) ∧
  ((s.2.2 = 0 ∧ ∀ i : Int, 1 ≤ i → i < j → sn i ≠ 0) ∨ (1 ≤ s.2.2 ∧ s.2.2 < j ∧ sn s.2.2 = 0 ∧ ∀ i : Int, 1 ≤ i → i < j → sn i = 0 → (s.1 s.2.2).toInt ≤ (s.1 i).toInt))
theorem hm_n1_keeps {c : Int → Int → Int64} {u v : Int → Int64} {sn : Int → Int} {row fr : Int} {sl0 : Int → Int64} {cm0 : Int → Int} {j : Int} {s : (Int → Int64) × (Int → Int) × Int} (hj : 1 ≤ j) (h : hm_nI c u v sn row fr sl0 cm0 j s) : hm_nI c u v sn row fr sl0 cm0 (j + 1) (hm_n1 c u v sn row fr j s) := by
  obtain ⟨sl, cm, nr⟩ := s
  obtain ⟨h1, h2, h3⟩ := h
  dsimp only at h1 h2 h3
  obtain ⟨e1, e2⟩ := h2 j (Or.inr (Or.inl (Int.le_refl j)))
  unfold hm_n1
  by_cases hs : sn j = 0
  · rw [if_pos hs]
    dsimp only
    by_cases hx : hm_x c u v row j < sl j
    · rw [if_pos hx]
      rw [e1] at hx
      refine ⟨fun i a b d => ?_, fun i a => ?_, Or.inr ?_⟩ <;> dsimp only
      · by_cases e : i = j
        · subst e
          exact Or.inl ⟨hx, gz_uls .., gz_us ..⟩
        · rw [gz_uln _ _ e, gz_un _ _ e]
          exact h1 i a (by omega) d
      · have e : i ≠ j := fun z => by
          subst z
          rcases a with a | a | a
          · omega
          · omega
          · exact a hs
        rw [gz_uln _ _ e, gz_un _ _ e]
        exact h2 i (by omega)
      · have hsj : (gz_ul sl j (hm_x c u v row j) j) = hm_x c u v row j := gz_uls ..
        by_cases hn : nr = 0
        · rw [if_pos hn]
          refine ⟨hj, by omega, hs, fun i a b d => ?_⟩
          by_cases e : i = j
          · rw [e]
            exact Int.le_refl _
          · rcases h3 with h3 | h3
            · exact absurd d (h3.2 i a (by omega))
            · omega
        · rw [if_neg hn]
          rcases h3 with h3 | ⟨g1, g2, g3, g4⟩
          · exact absurd h3.1 hn
          · have hne : nr ≠ j := by omega
            by_cases hl : gz_ul sl j (hm_x c u v row j) j < gz_ul sl j (hm_x c u v row j) nr
            · rw [if_pos hl]
              refine ⟨hj, by omega, hs, fun i a b d => ?_⟩
              by_cases e : i = j
              · rw [e]
                exact Int.le_refl _
              · rw [gz_uln _ _ hne] at hl
                rw [gz_uln _ _ e]
                have := g4 i a (by omega) d
                have := Int64.lt_iff_toInt_lt.mp hl
                omega
            · rw [if_neg hl]
              refine ⟨g1, by omega, g3, fun i a b d => ?_⟩
              rw [gz_uln _ _ hne] at hl ⊢
              by_cases e : i = j
              · rw [e]
                have h7 : ¬ (gz_ul sl j (hm_x c u v row j) j).toInt < (sl nr).toInt := fun z => hl (Int64.lt_iff_toInt_lt.mpr z)
                omega
              · rw [gz_uln _ _ e]
                exact g4 i a (by omega) d
    · rw [if_neg hx]
      rw [e1] at hx
      refine ⟨fun i a b d => ?_, fun i a => ?_, Or.inr ?_⟩ <;> dsimp only
      · by_cases e : i = j
        · subst e
          exact Or.inr ⟨hx, e1, e2⟩
        · exact h1 i a (by omega) d
      · exact h2 i (by omega)
      · by_cases hn : nr = 0
        · rw [if_pos hn]
          refine ⟨hj, by omega, hs, fun i a b d => ?_⟩
          by_cases e : i = j
          · rw [e]
            exact Int.le_refl _
          · rcases h3 with h3 | h3
            · exact absurd d (h3.2 i a (by omega))
            · omega
        · rw [if_neg hn]
          rcases h3 with h3 | ⟨g1, g2, g3, g4⟩
          · exact absurd h3.1 hn
          · by_cases hl : sl j < sl nr
            · rw [if_pos hl]
              refine ⟨hj, by omega, hs, fun i a b d => ?_⟩
              by_cases e : i = j
              · rw [e]
                exact Int.le_refl _
              · have := g4 i a (by omega) d
                have := Int64.lt_iff_toInt_lt.mp hl
                omega
            · rw [if_neg hl]
              refine ⟨g1, by omega, g3, fun i a b d => ?_⟩
              by_cases e : i = j
              · rw [e]
                have h7 : ¬ (sl j).toInt < (sl nr).toInt := fun z => hl (Int64.lt_iff_toInt_lt.mpr z)
                omega
              · exact g4 i a (by omega) d
  · rw [if_neg hs]
    refine ⟨fun i a b d => ?_, fun i a => ?_, ?_⟩ <;> dsimp only
    · have e : i ≠ j := fun z => hs (z ▸ d)
      exact h1 i a (by omega) d
    · by_cases e : i = j
      · rw [e]
        exact ⟨e1, e2⟩
      · exact h2 i (by omega)
    · rcases h3 with h3 | ⟨g1, g2, g3, g4⟩
      · exact Or.inl ⟨h3.1, fun i a b => by
          by_cases e : i = j
          · rw [e]
            exact hs
          · exact h3.2 i a (by omega)⟩
      · refine Or.inr ⟨g1, by omega, g3, fun i a b d => ?_⟩
        have e : i ≠ j := fun z => hs (z ▸ d)
        exact g4 i a (by omega) d
theorem hm_nx_keeps {c : Int → Int → Int64} {u v : Int → Int64} {sn : Int → Int} {row fr : Int} {sl0 : Int → Int64} {cm0 : Int → Int} : ∀ (k : Nat) (j : Int) (s : (Int → Int64) × (Int → Int) × Int), 1 ≤ j → hm_nI c u v sn row fr sl0 cm0 j s → hm_nI c u v sn row fr sl0 cm0 (j + k) (hm_nx c u v sn row fr k j s)
  | 0, j, s, _, h => by
    rw [show j + ((0 : Nat) : Int) = j by omega]
    exact h
  | k + 1, j, s, hj, h => by
    have ih := hm_nx_keeps k (j + 1) _ (by omega) (hm_n1_keeps hj h)
    rw [show j + ((k + 1 : Nat) : Int) = j + 1 + (k : Int) by omega]
    exact ih
theorem hm_nI_0 {c : Int → Int → Int64} {u v : Int → Int64} {sn : Int → Int} {row fr : Int} {sl0 : Int → Int64} {cm0 : Int → Int} : hm_nI c u v sn row fr sl0 cm0 1 (sl0, cm0, 0) :=
  ⟨fun i a b => absurd b (by omega), fun i _ => ⟨rfl, rfl⟩, Or.inl ⟨rfl, fun i a b => absurd b (by omega)⟩⟩
/-- changePrices: one column; all columns from j on -/
def hm_c1 (ro sn : Int → Int) (d : Int64) (j : Int) (s : (Int → Int64) × (Int → Int64) × (Int → Int64)) : (Int → Int64) × (Int → Int64) × (Int → Int64) :=
  if sn j = 0 then (s.1, s.2.1, gz_ul s.2.2 j (s.2.2 j - d)) else (gz_ul s.1 (ro j) (s.1 (ro j) + d), gz_ul s.2.1 j (s.2.1 j - d), s.2.2)
def hm_cp (ro sn : Int → Int) (d : Int64) : Nat → Int → (Int → Int64) × (Int → Int64) × (Int → Int64) → (Int → Int64) × (Int → Int64) × (Int → Int64)
  | 0, _, s => s
  | k + 1, j, s => hm_cp ro sn d k (j + 1) (hm_c1 ro sn d j s)
def hm_cI (ro sn : Int → Int) (d : Int64) (u0 v0 sl0 : Int → Int64) (j : Int) (s : (Int → Int64) × (Int → Int64) × (Int → Int64)) : Prop :=
  (∀ i : Int, 0 ≤ i → i < j → sn i = 0 → s.2.1 i = v0 i ∧ s.2.2 i = sl0 i - d) ∧
  (∀ i : Int, 0 ≤ i → i < j → sn i ≠ 0 → s.2.1 i = v0 i - d ∧ s.2.2 i = sl0 i ∧ s.1 (ro i) = u0 (ro i) + d) ∧
  (∀ i : Int, j ≤ i → s.2.1 i = v0 i ∧ s.2.2 i = sl0 i) ∧
  (∀ r : Int, (∀ i : Int, 0 ≤ i → i < j → sn i ≠ 0 → ro i ≠ r) → s.1 r = u0 r)
theorem hm_c1_keeps {ro sn : Int → Int} {d : Int64} {u0 v0 sl0 : Int → Int64} {j : Int} {s : (Int → Int64) × (Int → Int64) × (Int → Int64)} (hj : 0 ≤ j) (hi : ∀ i : Int, 0 ≤ i → i < j → sn i ≠ 0 → sn j ≠ 0 → ro i ≠ ro j) (h : hm_cI ro sn d u0 v0 sl0 j s) : hm_cI ro sn d u0 v0 sl0 (j + 1) (hm_c1 ro sn d j s) := by
  obtain ⟨u, v, sl⟩ := s
  obtain ⟨h1, h2, h3, h4⟩ := h
  dsimp only at h1 h2 h3 h4
  obtain ⟨e1, e2⟩ := h3 j (Int.le_refl j)
  unfold hm_c1
  by_cases hs : sn j = 0
  · rw [if_pos hs]
    refine ⟨fun i a b g => ?_, fun i a b g => ?_, fun i a => ?_, fun r g => ?_⟩ <;> dsimp only
    · by_cases e : i = j
      · subst e
        exact ⟨e1, by rw [gz_uls, e2]⟩
      · rw [gz_uln _ _ e]
        exact h1 i a (by omega) g
    · have e : i ≠ j := fun z => g (z ▸ hs)
      rw [gz_uln _ _ e]
      exact h2 i a (by omega) g
    · rw [gz_uln _ _ (by omega)]
      exact h3 i (by omega)
    · exact h4 r (fun i a b g2 => g i a (by omega) g2)
  · rw [if_neg hs]
    have h5 : u (ro j) = u0 (ro j) := h4 (ro j) (fun i a b g => hi i a b g hs)
    refine ⟨fun i a b g => ?_, fun i a b g => ?_, fun i a => ?_, fun r g => ?_⟩ <;> dsimp only
    · have e : i ≠ j := fun z => hs (z ▸ g)
      rw [gz_uln _ _ e]
      exact h1 i a (by omega) g
    · by_cases e : i = j
      · subst e
        exact ⟨by rw [gz_uls, e1], e2, by rw [gz_uls, h5]⟩
      · obtain ⟨g1, g2, g3⟩ := h2 i a (by omega) g
        rw [gz_uln _ _ e, gz_uln _ _ (hi i a (by omega) g hs)]
        exact ⟨g1, g2, g3⟩
    · rw [gz_uln _ _ (by omega)]
      exact h3 i (by omega)
    · rw [gz_uln _ _ (fun z => g j hj (by omega) hs z.symm)]
      exact h4 r (fun i a b g2 => g i a (by omega) g2)
theorem hm_cp_keeps {ro sn : Int → Int} {d : Int64} {u0 v0 sl0 : Int → Int64} {n : Int} (hi : ∀ i j : Int, 0 ≤ i → i < j → j ≤ n → sn i ≠ 0 → sn j ≠ 0 → ro i ≠ ro j) : ∀ (k : Nat) (j : Int) (s : (Int → Int64) × (Int → Int64) × (Int → Int64)), 0 ≤ j → j + k = n + 1 → hm_cI ro sn d u0 v0 sl0 j s → hm_cI ro sn d u0 v0 sl0 (n + 1) (hm_cp ro sn d k j s)
  | 0, j, s, _, hk, h => by
    rw [show n + 1 = j by omega]
    exact h
  | k + 1, j, s, hj, hk, h => hm_cp_keeps hi k (j + 1) _ (by omega) (by omega) (hm_c1_keeps hj (fun i a b g1 g2 => hi i j a b (by omega) g1 g2) h)
theorem hm_cI_0 {ro sn : Int → Int} {d : Int64} {u0 v0 sl0 : Int → Int64} : hm_cI ro sn d u0 v0 sl0 0 (u0, v0, sl0) :=
  ⟨fun i a b => absurd b (by omega), fun i a b => absurd b (by omega), fun i _ => ⟨rfl, rfl⟩, fun r _ => rfl⟩
/-- nextColumn, whole: seen, slack, cameFrom, the row prices, the column prices, the column -/
def hm_next (n : Nat) (c : Int → Int → Int64) (ro : Int → Int) (fr : Int) (sn : Int → Int) (u v sl : Int → Int64) (cm : Int → Int) : (Int → Int) × ((Int → Int64) × (Int → Int64) × (Int → Int64)) × (Int → Int) × Int :=
  let s := hm_nx c u v (gz_u sn fr 1) (ro fr) fr n 1 (sl, cm, 0)
  (gz_u sn fr 1, hm_cp ro (gz_u sn fr 1) (s.1 s.2.2) (n + 1) 0 (u, v, s.1), s.2.1, s.2.2)
/-! what is kept -/
def hi_A (n : Nat) (k : Int) (ro : Int → Int) : Prop :=
  (∀ j : Int, 1 ≤ j → j ≤ n → 0 ≤ ro j ∧ ro j ≤ k) ∧ (∀ i j : Int, 1 ≤ i → i ≤ n → 1 ≤ j → j ≤ n → ro i ≠ 0 → ro i = ro j → i = j) ∧ (∀ i : Int, 1 ≤ i → i ≤ k → ∃ j : Int, 1 ≤ j ∧ j ≤ n ∧ ro j = i)
def hi_c (n : Nat) (c : Int → Int → Int64) : Prop := ∀ i j : Int, 1 ≤ i → i ≤ n → 1 ≤ j → j ≤ n → 0 ≤ (c i j).toInt ∧ (c i j).toInt ≤ 1000000000000
def hi_P (n : Nat) (c : Int → Int → Int64) (k : Int) (u v : Int → Int64) (ro : Int → Int) : Prop :=
  (∀ i j : Int, 1 ≤ i → i ≤ k → 1 ≤ j → j ≤ n → (u i).toInt + (v j).toInt ≤ (c i j).toInt) ∧
  (∀ j : Int, 1 ≤ j → j ≤ n → ro j ≠ 0 → (u (ro j)).toInt + (v j).toInt = (c (ro j) j).toInt) ∧
  (∀ j : Int, 1 ≤ j → j ≤ n → -1000000000000 ≤ (v j).toInt ∧ (v j).toInt ≤ 0) ∧
  (∀ j : Int, 1 ≤ j → j ≤ n → ro j = 0 → (v j).toInt = 0) ∧
  (∀ i : Int, 1 ≤ i → i ≤ k → 0 ≤ (u i).toInt ∧ (u i).toInt ≤ 1000000000000) ∧
  (∀ i : Int, k < i → i ≤ n → u i = 0)
/-- the seen columns, each reached by a place that the prices just reach, from an earlier one; j0 is the next -/
def hi_T (n : Nat) (c : Int → Int → Int64) (u v : Int → Int64) (ro sn cm : Int → Int) (j0 : Int) (t : Nat) : Prop :=
  (∀ j : Int, 0 ≤ j → j ≤ n → sn j = 0 ∨ sn j = 1) ∧ (0 ≤ j0 ∧ j0 ≤ n ∧ sn j0 = 0) ∧ (∀ j : Int, 1 ≤ j → j ≤ n → sn j = 1 → ro j ≠ 0) ∧
  ((t = 0 ∧ j0 = 0) ∨ (1 ≤ t ∧ 1 ≤ j0 ∧ sn 0 = 1)) ∧ sn 0 + pm_S sn n = t ∧
  ∃ rk : Int → Nat, (∀ j : Int, 0 ≤ j → j ≤ n → (sn j = 1 ∨ j = j0) → rk j ≤ t) ∧
    ∀ j : Int, 1 ≤ j → j ≤ n → (sn j = 1 ∨ j = j0) → 0 ≤ cm j ∧ cm j ≤ n ∧ sn (cm j) = 1 ∧ rk (cm j) < rk j ∧ (c (ro (cm j)) j).toInt = (u (ro (cm j))).toInt + (v j).toInt
def hi_K (n : Nat) (c : Int → Int → Int64) (u v : Int → Int64) (ro sn cm : Int → Int) (sl : Int → Int64) (t : Nat) : Prop :=
  ∀ j : Int, 1 ≤ j → j ≤ n → sn j = 0 → (t = 0 ∧ (sl j).toInt = 1152921504606846976) ∨ (1 ≤ t ∧ 0 ≤ cm j ∧ cm j ≤ n ∧ sn (cm j) = 1 ∧ (sl j).toInt = (c (ro (cm j)) j).toInt - (u (ro (cm j))).toInt - (v j).toInt ∧ ∀ i : Int, 0 ≤ i → i ≤ n → sn i = 1 → (sl j).toInt ≤ (c (ro i) j).toInt - (u (ro i)).toInt - (v j).toInt)
/-- there is a column without a row -/
theorem hi_free {n : Nat} {k : Int} {ro : Int → Int} (hA : hi_A n k ro) (hk0 : 0 ≤ k) (hk : k < n) : ∃ j : Int, 1 ≤ j ∧ j ≤ n ∧ ro j = 0 := by
  apply Classical.byContradiction
  intro h
  have h0 : ∀ j : Int, 1 ≤ j → j ≤ n → ro j ≠ 0 := fun j a b z => h ⟨j, a, b, z⟩
  obtain ⟨x, a1, a2, a3⟩ := pm_php n ro (fun i a b => ⟨by have := hA.1 i a b; have := h0 i a b; omega, by have := hA.1 i a b; omega⟩) (fun i j a b c d e => hA.2.1 i j a b c d (h0 i a b) e) (n : Int) (by omega) (Int.le_refl _)
  have := hA.1 x a1 a2
  omega
theorem hi_sn0 {n : Nat} {sn : Int → Int} (h1 : ∀ j : Int, 0 ≤ j → j ≤ n → sn j = 0 ∨ sn j = 1) (h : sn 0 + pm_S sn n = 0) : ∀ j : Int, 0 ≤ j → j ≤ n → sn j = 0 := by
  intro j a b
  have hn : ∀ i : Int, 1 ≤ i → i ≤ n → 0 ≤ sn i := fun i a b => by
    rcases h1 i (by omega) b with z | z <;> omega
  have h2 := pm_S_nonneg hn
  have h3 := h1 0 (by omega) (by omega)
  by_cases e : j = 0
  · rw [e]
    omega
  · have h4 := pm_S_ge hn (i0 := j) (by omega) b
    have h5 := h1 j a b
    omega
theorem hi_next {n : Nat} {c : Int → Int → Int64} {k : Int} {u v : Int → Int64} {ro sn cm : Int → Int} {sl : Int → Int64} {j0 : Int} {t : Nat} (hc : hi_c n c) (hk0 : 0 ≤ k) (hk : k < n) (hA : hi_A n k ro) (h0 : ro 0 = k + 1) (hP : hi_P n c (k + 1) u v ro) (hT : hi_T n c u v ro sn cm j0 t) (hK : hi_K n c u v ro sn cm sl t) (hr : ro j0 ≠ 0)
    {s : (Int → Int) × ((Int → Int64) × (Int → Int64) × (Int → Int64)) × (Int → Int) × Int} (hs : s = hm_next n c ro j0 sn u v sl cm) :
    hi_P n c (k + 1) s.2.1.1 s.2.1.2.1 ro ∧ hi_T n c s.2.1.1 s.2.1.2.1 ro s.1 s.2.2.1 s.2.2.2 (t + 1) ∧ hi_K n c s.2.1.1 s.2.1.2.1 ro s.1 s.2.2.1 s.2.1.2.2 (t + 1) := by
  obtain ⟨t1, ⟨a1, a2, a3⟩, t3, t4, t5, rk, t6, t7⟩ := hT
  obtain ⟨p1, p2, p3, p4, p5, p6⟩ := hP
  obtain ⟨A1, A2, A3⟩ := hA
  have hs1 : ∀ j : Int, j ≠ j0 → gz_u sn j0 1 j = sn j := fun j e => gz_un _ _ e
  have hs2 : gz_u sn j0 1 j0 = 1 := gz_us ..
  unfold hm_next at hs
  generalize hw : gz_u sn j0 1 = w at hs hs1 hs2
  have w01 : ∀ j : Int, 0 ≤ j → j ≤ n → w j = 0 ∨ w j = 1 := fun j a b => by
    by_cases e : j = j0
    · rw [e]; exact Or.inr hs2
    · rw [hs1 j e]; exact t1 j a b
  have wseen : ∀ j : Int, w j = 1 → sn j = 1 ∨ j = j0 := fun j h => by
    by_cases e : j = j0
    · exact Or.inr e
    · rw [hs1 j e] at h; exact Or.inl h
  have wup : ∀ j : Int, sn j = 1 → w j = 1 := fun j h => by
    by_cases e : j = j0
    · rw [e]; exact hs2
    · rw [hs1 j e]; exact h
  have wun : ∀ j : Int, w j = 0 → sn j = 0 ∧ j ≠ j0 := fun j h => by
    have e : j ≠ j0 := fun z => by rw [z, hs2] at h; omega
    exact ⟨by rw [← hs1 j e]; exact h, e⟩
  have hrx : ∀ i : Int, 0 ≤ i → i ≤ n → w i = 1 → 1 ≤ ro i ∧ ro i ≤ k + 1 ∧ (1 ≤ i → ro i ≤ k) := fun i a b h => by
    by_cases e : i = 0
    · rw [e, h0]
      exact ⟨by omega, by omega, fun z => absurd z (by omega)⟩
    · have h1 := A1 i (by omega) b
      have h2 : ro i ≠ 0 := by
        rcases wseen i h with z | z
        · exact t3 i (by omega) b z
        · rw [z]; exact hr
      exact ⟨by omega, by omega, fun _ => h1.2⟩
  have hinj : ∀ i j : Int, 0 ≤ i → i < j → j ≤ n → w i ≠ 0 → w j ≠ 0 → ro i ≠ ro j := fun i j a b d e f z => by
    have ei : w i = 1 := by rcases w01 i a (by omega) with y | y <;> omega
    have ej : w j = 1 := by rcases w01 j (by omega) d with y | y <;> omega
    have hj := hrx j (by omega) d ej
    by_cases e0 : i = 0
    · rw [e0, h0] at z
      have := hj.2.2 (by omega)
      omega
    · have hi := hrx i a (by omega) ei
      have := A2 i j (by omega) (by omega) (by omega) d (by omega) z
      omega
  obtain ⟨f, f1, f2, f3⟩ := hi_free ⟨A1, A2, A3⟩ hk0 hk
  have hfun : w f = 0 := by
    rcases w01 f (by omega) f2 with z | z
    · exact z
    · rcases wseen f z with y | y
      · exact absurd f3 (t3 f f1 f2 y)
      · exact absurd f3 (y ▸ hr)
  have hnx := hm_nx_keeps (c := c) (u := u) (v := v) (sn := w) (row := ro j0) (fr := j0) (sl0 := sl) (cm0 := cm) n 1 (sl, cm, 0) (by omega) hm_nI_0
  generalize hS : hm_nx c u v w (ro j0) j0 n 1 (sl, cm, 0) = S at hs hnx
  obtain ⟨S1, S2, nr⟩ := S
  obtain ⟨n1, n2, n3⟩ := hnx
  dsimp only at hs n1 n2 n3
  have n3' : 1 ≤ nr ∧ nr ≤ n ∧ w nr = 0 ∧ ∀ i : Int, 1 ≤ i → i ≤ n → w i = 0 → (S1 nr).toInt ≤ (S1 i).toInt := by
    rcases n3 with z | ⟨z1, z2, z3, z4⟩
    · exact absurd hfun (z.2 f f1 (by omega))
    · exact ⟨z1, by omega, z3, fun i a b d => z4 i a (by omega) d⟩
  obtain ⟨m1, m2, m3, m4⟩ := n3'
  have hrow := hrx j0 a1 a2 hs2
  have hxv : ∀ j : Int, 1 ≤ j → j ≤ n → (hm_x c u v (ro j0) j).toInt = (c (ro j0) j).toInt - (u (ro j0)).toInt - (v j).toInt := fun j a b => by
    have h1 := hc (ro j0) j hrow.1 (by omega) a b
    have h2 := p5 (ro j0) hrow.1 hrow.2.1
    have h3 := p3 j a b
    have e1 : (c (ro j0) j - u (ro j0)).toInt = (c (ro j0) j).toInt - (u (ro j0)).toInt := h64_sub (by omega) (by omega)
    unfold hm_x
    rw [h64_sub (by rw [e1]; omega) (by omega), e1]
  have hsl : ∀ j : Int, 1 ≤ j → j ≤ n → w j = 0 → 0 ≤ S2 j ∧ S2 j ≤ n ∧ w (S2 j) = 1 ∧ (S1 j).toInt = (c (ro (S2 j)) j).toInt - (u (ro (S2 j))).toInt - (v j).toInt ∧ ∀ i : Int, 0 ≤ i → i ≤ n → w i = 1 → (S1 j).toInt ≤ (c (ro i) j).toInt - (u (ro i)).toInt - (v j).toInt := fun j a b d => by
    obtain ⟨d1, d2⟩ := wun j d
    have hKj := hK j a b d1
    rcases n1 j a (by omega) d with ⟨g1, g2, g3⟩ | ⟨g1, g2, g3⟩
    · rw [g2, g3]
      refine ⟨a1, a2, hs2, hxv j a b, fun i ai bi wi => ?_⟩
      rcases wseen i wi with z | z
      · rcases hKj with ⟨y1, y2⟩ | ⟨y1, y2, y3, y4, y5, y6⟩
        · have := hi_sn0 t1 (by omega) i ai bi
          omega
        · have := y6 i ai bi z
          have := Int64.lt_iff_toInt_lt.mp g1
          omega
      · rw [z, hxv j a b]
        exact Int.le_refl _
    · rw [g2, g3]
      have g1' : ¬ (hm_x c u v (ro j0) j).toInt < (sl j).toInt := fun z => g1 (Int64.lt_iff_toInt_lt.mpr z)
      rw [hxv j a b] at g1'
      rcases hKj with ⟨y1, y2⟩ | ⟨y1, y2, y3, y4, y5, y6⟩
      · have h1 := hc (ro j0) j hrow.1 (by omega) a b
        have h2 := p5 (ro j0) hrow.1 hrow.2.1
        have h3 := p3 j a b
        omega
      · refine ⟨y2, y3, wup _ y4, y5, fun i ai bi wi => ?_⟩
        rcases wseen i wi with z | z
        · exact y6 i ai bi z
        · rw [z]
          omega
  -- the step
  obtain ⟨e1, e2, e3, e4, e5⟩ := hsl nr m1 m2 m3
  have hrn := hrx (S2 nr) e1 e2 e3
  have hd0 : 0 ≤ (S1 nr).toInt := by
    have := p1 (ro (S2 nr)) nr hrn.1 hrn.2.1 m1 m2
    omega
  have hd1 : (S1 nr).toInt ≤ 2000000000000 := by
    have h1 := hc (ro (S2 nr)) nr hrn.1 (by omega) m1 m2
    have h2 := p5 (ro (S2 nr)) hrn.1 hrn.2.1
    have h3 := p3 nr m1 m2
    omega
  have hcp := hm_cp_keeps (d := S1 nr) (u0 := u) (v0 := v) (sl0 := S1) (n := (n : Int)) hinj (n + 1) 0 (u, v, S1) (by omega) (by omega) hm_cI_0
  generalize hR : hm_cp ro w (S1 nr) (n + 1) 0 (u, v, S1) = Rr at hs hcp
  obtain ⟨u1, v1, sl1⟩ := Rr
  obtain ⟨q1, q2, q3, q4⟩ := hcp
  dsimp only at q1 q2 q3 q4
  subst hs
  dsimp only
  have uS : ∀ i : Int, 0 ≤ i → i ≤ n → w i = 1 → (u1 (ro i)).toInt = (u (ro i)).toInt + (S1 nr).toInt := fun i a b d => by
    have h1 := hrx i a b d
    have h2 := p5 (ro i) h1.1 h1.2.1
    rw [(q2 i a (by omega) (by omega)).2.2, h64_add (by omega) (by omega)]
  have vS : ∀ j : Int, 1 ≤ j → j ≤ n → w j = 1 → (v1 j).toInt = (v j).toInt - (S1 nr).toInt := fun j a b d => by
    have h2 := p3 j a b
    rw [(q2 j (by omega) (by omega) (by omega)).1, h64_sub (by omega) (by omega)]
  have vU : ∀ j : Int, 1 ≤ j → j ≤ n → w j = 0 → v1 j = v j := fun j a b d => (q1 j (by omega) (by omega) d).1
  have hrowcase : ∀ r : Int, (∃ i : Int, 0 ≤ i ∧ i ≤ n ∧ w i = 1 ∧ ro i = r) ∨ u1 r = u r := fun r => by
    by_cases h : ∃ i : Int, 0 ≤ i ∧ i ≤ n ∧ w i = 1 ∧ ro i = r
    · exact Or.inl h
    · refine Or.inr (q4 r (fun i a b d z => h ⟨i, a, by omega, ?_, z⟩))
      rcases w01 i a (by omega) with y | y
      · exact absurd y d
      · exact y
  have P1 : ∀ i j : Int, 1 ≤ i → i ≤ k + 1 → 1 ≤ j → j ≤ n → (u1 i).toInt + (v1 j).toInt ≤ (c i j).toInt := fun i j ai bi aj bj => by
    have h1 := p1 i j ai bi aj bj
    rcases w01 j (by omega) bj with wj | wj
    · rw [vU j aj bj wj]
      rcases hrowcase i with ⟨x, x1, x2, x3, x4⟩ | h
      · have h2 := uS x x1 x2 x3
        rw [x4] at h2
        have h3 := (hsl j aj bj wj).2.2.2.2 x x1 x2 x3
        have h4 := m4 j aj bj wj
        rw [x4] at h3
        omega
      · rw [h]
        exact h1
    · rw [vS j aj bj wj]
      rcases hrowcase i with ⟨x, x1, x2, x3, x4⟩ | h
      · have h2 := uS x x1 x2 x3
        rw [x4] at h2
        omega
      · rw [h]
        omega
  have P2 : ∀ j : Int, 1 ≤ j → j ≤ n → ro j ≠ 0 → (u1 (ro j)).toInt + (v1 j).toInt = (c (ro j) j).toInt := fun j aj bj hj => by
    have h1 := p2 j aj bj hj
    rcases w01 j (by omega) bj with wj | wj
    · rw [vU j aj bj wj]
      rcases hrowcase (ro j) with ⟨x, x1, x2, x3, x4⟩ | h
      · exfalso
        have hx := hrx x x1 x2 x3
        have hj1 := A1 j aj bj
        by_cases e : x = 0
        · rw [e, h0] at x4
          omega
        · have := A2 x j (by omega) x2 aj bj (by omega) x4
          rw [this, wj] at x3
          omega
      · rw [h]
        exact h1
    · have h2 := uS j (by omega) bj wj
      rw [vS j aj bj wj, h2]
      omega
  have P5 : ∀ i : Int, 1 ≤ i → i ≤ k + 1 → 0 ≤ (u1 i).toInt ∧ (u1 i).toInt ≤ 1000000000000 := fun i a b => by
    have h1 := P1 i f a b f1 f2
    have h2 := hc i f a (by omega) f1 f2
    have h3 := p4 f f1 f2 f3
    rw [vU f f1 f2 hfun] at h1
    have h4 := p5 i a b
    refine ⟨?_, by omega⟩
    rcases hrowcase i with ⟨x, x1, x2, x3, x4⟩ | h
    · have h5 := uS x x1 x2 x3
      rw [x4] at h5
      omega
    · rw [h]
      exact h4.1
  refine ⟨⟨P1, P2, fun j a b => ?_, fun j a b h => ?_, P5, fun i a b => ?_⟩, ⟨w01, ⟨by omega, m2, m3⟩, fun j a b h => ?_, Or.inr ⟨by omega, m1, ?_⟩, ?_, fun j => if j = nr then t + 1 else rk j, fun j a b h => ?_, fun j a b h => ?_⟩, fun j a b h => Or.inr ?_⟩
  · have h1 := p3 j a b
    rcases w01 j (by omega) b with wj | wj
    · rw [vU j a b wj]
      exact h1
    · have h2 := vS j a b wj
      have h3 := hrx j (by omega) b wj
      have h4 := P2 j a b (by omega)
      have h5 := P5 (ro j) h3.1 h3.2.1
      have h6 := hc (ro j) j h3.1 (by omega) a b
      omega
  · have wj : w j = 0 := by
      rcases w01 j (by omega) b with y | y
      · exact y
      · have := hrx j (by omega) b y
        omega
    rw [vU j a b wj]
    exact p4 j a b h
  · rcases hrowcase i with ⟨x, x1, x2, x3, x4⟩ | h
    · have := hrx x x1 x2 x3
      omega
    · rw [h]
      exact p6 i a b
  · have := hrx j (by omega) b h
    omega
  · by_cases e : j0 = 0
    · rw [← e]
      exact hs2
    · rcases t4 with z | z
      · exact absurd z.2 e
      · exact wup 0 z.2.2
  · by_cases e : j0 = 0
    · have h1 : pm_S w n = pm_S sn n := pm_S_congr (fun i a b => hs1 i (by omega))
      have h2 : w 0 = 1 := by rw [← e]; exact hs2
      have h3 : sn 0 = 0 := by
        have h9 := a3
        rw [e] at h9
        exact h9
      rw [h1, h2]
      omega
    · have h1 : pm_S w n = pm_S (fun i => sn i + (if i = j0 then 1 else 0)) n := pm_S_congr (fun i a b => by
        by_cases e2 : i = j0
        · rw [e2, hs2, a3]
          simp
        · rw [hs1 i e2]
          simp [e2])
      rw [h1, pm_S_add, pm_S_one (by omega) a2, hs1 0 (fun z => e z.symm)]
      omega
  · dsimp only
    by_cases e : j = nr
    · rw [if_pos e]
      exact Nat.le_refl _
    · rw [if_neg e]
      have h1 : sn j = 1 ∨ j = j0 := by
        rcases h with h | h
        · exact wseen j h
        · exact absurd h e
      have := t6 j a b h1
      omega
  · dsimp only
    by_cases e : j = nr
    · subst e
      have hne : S2 j ≠ j := fun z => by rw [z, m3] at e3; omega
      rw [if_pos rfl, if_neg hne]
      have h1 := t6 (S2 j) e1 e2 (wseen _ e3)
      have h2 := uS (S2 j) e1 e2 e3
      rw [vU j m1 m2 m3]
      exact ⟨e1, e2, e3, by omega, by omega⟩
    · have hj : w j = 1 := by
        rcases h with h | h
        · exact h
        · exact absurd h e
      have hcmj : S2 j = cm j := (n2 j (Or.inr (Or.inr (by omega)))).2
      obtain ⟨g1, g2, g3, g4, g5⟩ := t7 j a b (wseen j hj)
      have hne : cm j ≠ nr := fun z => by
        have := wup _ g3
        rw [z, m3] at this
        omega
      rw [hcmj, if_neg hne, if_neg e]
      have h2 := uS (cm j) g1 g2 (wup _ g3)
      have h3 := vS j a b hj
      exact ⟨g1, g2, wup _ g3, g4, by omega⟩
  · obtain ⟨g1, g2, g3, g4, g5⟩ := hsl j a b h
    have h1 : sl1 j = S1 j - S1 nr := (q1 j (by omega) (by omega) h).2
    have h2 := m4 j a b h
    have hx := hrx (S2 j) g1 g2 g3
    have h3 := hc (ro (S2 j)) j hx.1 (by omega) a b
    have h4 := p5 (ro (S2 j)) hx.1 hx.2.1
    have h5 := p3 j a b
    have h6 : (sl1 j).toInt = (S1 j).toInt - (S1 nr).toInt := by
      rw [h1, h64_sub (by omega) (by omega)]
    rw [vU j a b h]
    refine ⟨by omega, g1, g2, g3, ?_, fun i ai bi wi => ?_⟩
    · rw [uS (S2 j) g1 g2 g3]
      omega
    · have := g5 i ai bi wi
      rw [uS i ai bi wi]
      omega
/-! moveAlong -/
def hm_mv (cm : Int → Int) : Nat → Int → (Int → Int) → Int → Int
  | 0, _, p => p
  | k + 1, j, p => if j = 0 then p else hm_mv cm k (cm j) (gz_u p j (p (cm j)))
/-- p with the row of column j open; all rows but r0 stand elsewhere -/
def hv_H (n : Nat) (K : Int) (E : Int → Int → Prop) (r0 : Int) (p : Int → Int) (j : Int) : Prop :=
  (∀ i : Int, 1 ≤ i → i ≤ n → i ≠ j → 0 ≤ p i ∧ p i ≤ K ∧ p i ≠ r0) ∧ (∀ i i2 : Int, 1 ≤ i → i ≤ n → i ≠ j → 1 ≤ i2 → i2 ≤ n → i2 ≠ j → p i ≠ 0 → p i = p i2 → i = i2) ∧
  (∀ r : Int, 1 ≤ r → r ≤ K → r ≠ r0 → ∃ i : Int, 1 ≤ i ∧ i ≤ n ∧ i ≠ j ∧ p i = r) ∧ (∀ i : Int, 1 ≤ i → i ≤ n → i ≠ j → p i ≠ 0 → E (p i) i)
theorem hv_move {n : Nat} {K : Int} {E : Int → Int → Prop} {r0 : Int} {p0 cm : Int → Int} {Q : Int → Prop} {rk : Int → Nat} (hr0 : 1 ≤ r0 ∧ r0 ≤ K) (hp0 : p0 0 = r0)
    (hQ : ∀ x : Int, Q x → 1 ≤ x → x ≤ n → Q (cm x) ∧ 0 ≤ cm x ∧ cm x ≤ n ∧ rk (cm x) < rk x ∧ E (p0 (cm x)) x) (hQz : ∀ x : Int, Q x → 1 ≤ x → x ≤ n → ∀ y, y = cm x → 1 ≤ y → p0 y ≠ 0) :
    ∀ (k : Nat) (j : Int) (p : Int → Int), 1 ≤ j → j ≤ n → Q j → rk j ≤ k → p 0 = r0 → (∀ x : Int, 0 ≤ x → x ≤ n → Q x → rk x < rk j → p x = p0 x) → hv_H n K E r0 p j →
      hi_A n K (hm_mv cm k j p) ∧ (∀ i : Int, 1 ≤ i → i ≤ n → hm_mv cm k j p i ≠ 0 → E (hm_mv cm k j p i) i) ∧ (∀ i : Int, ¬ Q i ∨ i = 0 → hm_mv cm k j p i = p i) ∧ (∃ i : Int, 1 ≤ i ∧ i ≤ n ∧ Q i ∧ cm i = 0 ∧ hm_mv cm k j p i = r0) ∧ ∀ i : Int, 1 ≤ i → i ≤ n → hm_mv cm k j p i = 0 → p i = 0 ∧ i ≠ j
  | 0, j, p, a, b, hj, hk, _, _, _ => by
    have := (hQ j hj a b).2.2.2.1
    omega
  | k + 1, j, p, a, b, hj, hk, hz, hpx, ⟨H1, H2, H3, H4⟩ => by
    obtain ⟨c1, c2, c3, c4, c5⟩ := hQ j hj a b
    have hpy : p (cm j) = p0 (cm j) := hpx (cm j) c2 c3 c1 c4
    have hne : cm j ≠ j := fun z => by rw [z] at c4; omega
    unfold hm_mv
    rw [if_neg (by omega)]
    by_cases e : cm j = 0
    · -- the chain ends here
      have hfin : hm_mv cm k (cm j) (gz_u p j (p (cm j))) = gz_u p j r0 := by
        rw [hpy, e, hp0]
        cases k with
        | zero => rfl
        | succ k => unfold hm_mv; rw [if_pos rfl]
      rw [hfin]
      refine ⟨⟨fun i ai bi => ?_, fun i i2 ai bi ai2 bi2 hi he => ?_, fun r ar br => ?_⟩, fun i ai bi hi => ?_, fun i hi => ?_, ⟨j, a, b, hj, e, gz_us ..⟩, fun i ai bi hi => ?_⟩
      · by_cases ei : i = j
        · rw [ei, gz_us]
          omega
        · rw [gz_un _ _ ei]
          have := H1 i ai bi ei
          omega
      · by_cases ei : i = j
        · by_cases ei2 : i2 = j
          · omega
          · rw [ei, gz_us, gz_un _ _ ei2] at he
            exact absurd he.symm (H1 i2 ai2 bi2 ei2).2.2
        · by_cases ei2 : i2 = j
          · rw [ei2, gz_us, gz_un _ _ ei] at he
            exact absurd he (H1 i ai bi ei).2.2
          · rw [gz_un _ _ ei] at hi he
            rw [gz_un _ _ ei2] at he
            exact H2 i i2 ai bi ei ai2 bi2 ei2 hi he
      · by_cases er : r = r0
        · exact ⟨j, a, b, by rw [gz_us, er]⟩
        · obtain ⟨i, i1, i2, i3, i4⟩ := H3 r ar br er
          exact ⟨i, i1, i2, by rw [gz_un _ _ i3]; exact i4⟩
      · by_cases ei : i = j
        · rw [ei, gz_us]
          rw [e, hp0] at c5
          exact c5
        · rw [gz_un _ _ ei] at hi ⊢
          exact H4 i ai bi ei hi
      · have ei : i ≠ j := fun z => by
          rcases hi with hi | hi
          · exact hi (z ▸ hj)
          · omega
        exact gz_un _ _ ei
      · have ei : i ≠ j := fun z => by
          rw [z, gz_us] at hi
          omega
        rw [gz_un _ _ ei] at hi
        exact ⟨hi, ei⟩
    · -- on to the next one
      have hy1 : 1 ≤ cm j := by omega
      have hyz : p0 (cm j) ≠ 0 := hQz j hj a b (cm j) rfl hy1
      have hHy := H1 (cm j) hy1 c3 hne
      obtain ⟨R1, R2, R3, R4, R5⟩ := hv_move hr0 hp0 hQ hQz k (cm j) (gz_u p j (p (cm j))) hy1 c3 c1 (by omega) (by rw [gz_un _ _ (by omega)]; exact hz) (fun x ax bx qx rx => by
        have ex : x ≠ j := fun z => by rw [z] at rx; omega
        rw [gz_un _ _ ex]
        exact hpx x ax bx qx (by omega)) ⟨fun i ai bi ei => by
          by_cases e2 : i = j
          · rw [e2, gz_us]
            exact hHy
          · rw [gz_un _ _ e2]
            exact H1 i ai bi e2, fun i i2 ai bi ei ai2 bi2 ei2 hi he => by
          by_cases e2 : i = j
          · by_cases e3 : i2 = j
            · omega
            · rw [e2, gz_us] at hi
              rw [e2, gz_us, gz_un _ _ e3] at he
              exact absurd (H2 (cm j) i2 hy1 c3 hne ai2 bi2 e3 hi he).symm ei2
          · by_cases e3 : i2 = j
            · rw [gz_un _ _ e2] at hi he
              rw [e3, gz_us] at he
              exact absurd (H2 i (cm j) ai bi e2 hy1 c3 hne hi he) ei
            · rw [gz_un _ _ e2] at hi he
              rw [gz_un _ _ e3] at he
              exact H2 i i2 ai bi e2 ai2 bi2 e3 hi he, fun r ar br er => by
          obtain ⟨i, i1, i2, i3, i4⟩ := H3 r ar br er
          by_cases e2 : i = cm j
          · exact ⟨j, a, b, fun z => hne z.symm, by rw [gz_us, ← e2]; exact i4⟩
          · exact ⟨i, i1, i2, e2, by rw [gz_un _ _ i3]; exact i4⟩, fun i ai bi ei hi => by
          by_cases e2 : i = j
          · rw [e2, gz_us, hpy]
            exact c5
          · rw [gz_un _ _ e2] at hi ⊢
            exact H4 i ai bi e2 hi⟩
      refine ⟨R1, R2, fun i hi => ?_, R4, fun i ai bi hi => ?_⟩
      · have ei : i ≠ j := fun z => by
          rcases hi with hi | hi
          · exact hi (z ▸ hj)
          · omega
        rw [R3 i hi, gz_un _ _ ei]
      · have h := (R5 i ai bi hi).1
        by_cases ei : i = j
        · rw [ei, gz_us, hpy] at h
          exact absurd h hyz
        · rw [gz_un _ _ ei] at h
          exact ⟨h, ei⟩
/-! insert, solve -/
def hm_lp (n : Nat) (c : Int → Int → Int64) (ro : Int → Int) : Nat → (Int → Int) × ((Int → Int64) × (Int → Int64) × (Int → Int64)) × (Int → Int) × Int → (Int → Int) × ((Int → Int64) × (Int → Int64) × (Int → Int64)) × (Int → Int) × Int
  | 0, s => s
  | k + 1, s => if ro s.2.2.2 = 0 then s else hm_lp n c ro k (hm_next n c ro s.2.2.2 s.1 s.2.1.1 s.2.1.2.1 s.2.1.2.2 s.2.2.1)
def hi_All (n : Nat) (c : Int → Int → Int64) (k : Int) (ro : Int → Int) (t : Nat) (s : (Int → Int) × ((Int → Int64) × (Int → Int64) × (Int → Int64)) × (Int → Int) × Int) : Prop :=
  hi_P n c k s.2.1.1 s.2.1.2.1 ro ∧ hi_T n c s.2.1.1 s.2.1.2.1 ro s.1 s.2.2.1 s.2.2.2 t ∧ hi_K n c s.2.1.1 s.2.1.2.1 ro s.1 s.2.2.1 s.2.1.2.2 t
theorem hi_loop {n : Nat} {c : Int → Int → Int64} {k : Int} {ro : Int → Int} (hc : hi_c n c) (hk0 : 0 ≤ k) (hk : k < n) (hA : hi_A n k ro) (h0 : ro 0 = k + 1) :
    ∀ (m t : Nat) (s : (Int → Int) × ((Int → Int64) × (Int → Int64) × (Int → Int64)) × (Int → Int) × Int), t + m = n → hi_All n c (k + 1) ro t s → ∃ t2, t2 ≤ n ∧ hi_All n c (k + 1) ro t2 (hm_lp n c ro m s) ∧ ro (hm_lp n c ro m s).2.2.2 = 0
  | 0, t, s, htm, h => by
    refine ⟨t, by omega, h, ?_⟩
    show ro s.2.2.2 = 0
    apply Classical.byContradiction
    intro hr
    obtain ⟨f, f1, f2, f3⟩ := hi_free hA hk0 hk
    obtain ⟨-, ⟨t1, ⟨a1, a2, a3⟩, t3, t4, t5, -⟩, -⟩ := h
    have hj1 : 1 ≤ s.2.2.2 ∧ s.1 0 = 1 := by
      rcases t4 with z | z
      · omega
      · exact z.2
    have hf : s.1 f = 0 := by
      rcases t1 f (by omega) f2 with z | z
      · exact z
      · exact absurd f3 (t3 f f1 f2 z)
    have hne : f ≠ s.2.2.2 := fun z => hr (z ▸ f3)
    have h1 : pm_S (fun i => s.1 i + ((if i = f then 1 else 0) + (if i = s.2.2.2 then 1 else 0))) n ≤ pm_S (fun _ => 1) n := pm_S_le (fun i a b => by
      by_cases e1 : i = f
      · have e2 : i ≠ s.2.2.2 := fun z => hne (e1.symm.trans z)
        rw [if_pos e1, if_neg e2, e1, hf]
        omega
      · by_cases e2 : i = s.2.2.2
        · rw [if_neg e1, if_pos e2, e2, a3]
          omega
        · rw [if_neg e1, if_neg e2]
          rcases t1 i (by omega) b with z | z <;> omega)
    rw [pm_S_add, pm_S_add, pm_S_one f1 f2, pm_S_one hj1.1 a2] at h1
    have h2 : pm_S (fun _ => (1 : Int)) n ≤ n * 1 := pm_S_bound (fun _ _ _ => Int.le_refl _)
    omega
  | m + 1, t, s, htm, h => by
    by_cases hr : ro s.2.2.2 = 0
    · refine ⟨t, by omega, ?_⟩
      unfold hm_lp
      rw [if_pos hr]
      exact ⟨h, hr⟩
    · unfold hm_lp
      rw [if_neg hr]
      obtain ⟨h1, h2, h3⟩ := h
      exact hi_loop hc hk0 hk hA h0 m (t + 1) _ (by omega) (hi_next hc hk0 hk hA h0 h1 h2 h3 hr rfl)
/-- a new row: the prices and the rows behind it -/
theorem hi_ins {n : Nat} {c : Int → Int → Int64} {k : Int} {u v : Int → Int64} {ro sn cm : Int → Int} {sl : Int → Int64} (hc : hi_c n c) (hk0 : 0 ≤ k) (hk : k < n) (hA : hi_A n k ro) (hP : hi_P n c k u v ro)
    (hsn : ∀ j : Int, 0 ≤ j → j ≤ n → sn j = 0) (hsl : ∀ j : Int, 1 ≤ j → j ≤ n → (sl j).toInt = 1152921504606846976)
    {s : (Int → Int) × ((Int → Int64) × (Int → Int64) × (Int → Int64)) × (Int → Int) × Int} (hs : s = hm_lp n c (gz_u ro 0 (k + 1)) n (sn, (u, v, sl), cm, 0)) {ro2 : Int → Int} (hro : ro2 = hm_mv s.2.2.1 n s.2.2.2 (gz_u ro 0 (k + 1))) :
    hi_A n (k + 1) ro2 ∧ hi_P n c (k + 1) s.2.1.1 s.2.1.2.1 ro2 := by
  have hr1 : ∀ j : Int, 1 ≤ j → gz_u ro 0 (k + 1) j = ro j := fun j a => gz_un _ _ (by omega)
  have hr0 : gz_u ro 0 (k + 1) 0 = k + 1 := gz_us ..
  generalize gz_u ro 0 (k + 1) = r1 at hr1 hr0 hs hro
  obtain ⟨A1, A2, A3⟩ := hA
  obtain ⟨p1, p2, p3, p4, p5, p6⟩ := hP
  have hA1 : hi_A n k r1 := ⟨fun j a b => by rw [hr1 j a]; exact A1 j a b, fun i j a b a2 b2 h e => by
    rw [hr1 i a] at h e
    rw [hr1 j a2] at e
    exact A2 i j a b a2 b2 h e, fun i a b => by
    obtain ⟨j, j1, j2, j3⟩ := A3 i a b
    exact ⟨j, j1, j2, by rw [hr1 j j1]; exact j3⟩⟩
  have hu0 : u (k + 1) = 0 := p6 (k + 1) (by omega) (by omega)
  have hP1 : hi_P n c (k + 1) u v r1 := ⟨fun i j a b a2 b2 => by
    by_cases e : i = k + 1
    · have h1 := hc i j a (by omega) a2 b2
      have h2 := p3 j a2 b2
      have h3 : (u i).toInt = 0 := by rw [e, hu0]; rfl
      omega
    · exact p1 i j a (by omega) a2 b2, fun j a b h => by
    rw [hr1 j a] at h ⊢
    exact p2 j a b h, p3, fun j a b h => by
    rw [hr1 j a] at h
    exact p4 j a b h, fun i a b => by
    by_cases e : i = k + 1
    · have h3 : (u i).toInt = 0 := by rw [e, hu0]; rfl
      omega
    · exact p5 i a (by omega), fun i a b => p6 i (by omega) b⟩
  have h01 : ∀ j : Int, 0 ≤ j → j ≤ n → sn j = 0 ∨ sn j = 1 := fun j a b => Or.inl (hsn j a b)
  have hstart : hi_All n c (k + 1) r1 0 (sn, (u, v, sl), cm, 0) := by
    refine ⟨hP1, ⟨h01, ⟨Int.le_refl _, by dsimp only; omega, hsn 0 (by omega) (by omega)⟩, fun j a b h => ?_, Or.inl ⟨rfl, rfl⟩, ?_, fun _ => 0, fun j a b h => Nat.le_refl _, fun j a b h => ?_⟩, fun j a b h => Or.inl ⟨rfl, hsl j a b⟩⟩
    · have := hsn j (by omega) b
      dsimp only at h
      omega
    · have h1 : pm_S sn n = 0 := pm_S_zero (fun i a b => hsn i (by omega) b)
      have h2 := hsn 0 (by omega) (by omega)
      show sn 0 + pm_S sn n = ((0 : Nat) : Int)
      omega
    · have h1 := hsn j (by omega) b
      dsimp only at h
      omega
  obtain ⟨t, ht, hall, hz⟩ := hi_loop hc hk0 hk hA1 hr0 n 0 _ (by omega) hstart
  rw [← hs] at hall hz
  obtain ⟨sn2, ⟨u2, v2, sl2⟩, cm2, j0⟩ := s
  obtain ⟨⟨P1, P2, P3, P4, P5, P6⟩, ⟨T1, ⟨b1, b2, b3⟩, T3, T4, T5, rk, T6, T7⟩, -⟩ := hall
  dsimp only at *
  have hj0 : 1 ≤ j0 := by
    by_cases e : j0 = 0
    · rw [e, hr0] at hz
      omega
    · omega
  obtain ⟨B1, B2, B3⟩ := hA1
  have hmv := hv_move (n := n) (K := k + 1) (E := fun r x => (c r x).toInt = (u2 r).toInt + (v2 x).toInt) (r0 := k + 1) (p0 := r1) (cm := cm2) (Q := fun x => (0 ≤ x ∧ x ≤ n) ∧ (sn2 x = 1 ∨ x = j0)) (rk := rk) ⟨by omega, Int.le_refl _⟩ hr0
    (fun x hx a b => by
      obtain ⟨g1, g2, g3, g4, g5⟩ := T7 x a b hx.2
      exact ⟨⟨⟨g1, g2⟩, Or.inl g3⟩, g1, g2, g4, g5⟩)
    (fun x hx a b y hy hy1 => by
      obtain ⟨g1, g2, g3, g4, g5⟩ := T7 x a b hx.2
      rw [hy] at hy1 ⊢
      exact T3 _ hy1 g2 g3)
    n j0 r1 hj0 b2 ⟨⟨b1, b2⟩, Or.inr rfl⟩ (Nat.le_trans (T6 j0 b1 b2 (Or.inr rfl)) ht) hr0 (fun x _ _ _ _ => rfl)
    ⟨fun i a b e => by have := B1 i a b; omega, fun i i2 a b e a2 b2' e2 h he => B2 i i2 a b a2 b2' h he, fun r a b e => by
      obtain ⟨j, j1, j2, j3⟩ := B3 r a (by omega)
      exact ⟨j, j1, j2, fun z => by rw [z, hz] at j3; omega, j3⟩, fun i a b e h => (P2 i a b h).symm⟩
  rw [← hro] at hmv
  obtain ⟨M1, M2, M3, M4, M5⟩ := hmv
  exact ⟨M1, P1, fun j a b h => (M2 j a b h).symm, P3, fun j a b h => P4 j a b (M5 j a b h).1, P5, P6⟩
end
section
/-! PURE: the whole matching: its sum; the search for another one of the same sum -/
def hs_S (f : Int → Int64) : Nat → Int → Int64 → Int64
  | 0, _, a => a
  | k + 1, j, a => hs_S f k (j + 1) (a + f j)
theorem hs_toInt {f : Int → Int64} {B : Int} (hB : 0 ≤ B) : ∀ (k : Nat) (m : Nat) (a : Int64), (∀ i : Int, 1 ≤ i → i ≤ ((m + k : Nat) : Int) → 0 ≤ (f i).toInt ∧ (f i).toInt ≤ B) → a.toInt = pm_S (fun i => (f i).toInt) m → ((m + k : Nat) : Int) * B ≤ 1152921504606846976 → (hs_S f k ((m : Int) + 1) a).toInt = pm_S (fun i => (f i).toInt) (m + k)
  | 0, m, a, _, ha, _ => ha
  | k + 1, m, a, hf, ha, hb => by
    have h1 := hf ((m : Int) + 1) (by omega) (by omega)
    have h2 : 0 ≤ pm_S (fun i => (f i).toInt) m := pm_S_nonneg (fun i x y => (hf i x (by omega)).1)
    have h3 : pm_S (fun i => (f i).toInt) m ≤ m * B := pm_S_bound (fun i x y => (hf i x (by omega)).2)
    have h4 : (m : Int) * B + B ≤ ((m + (k + 1) : Nat) : Int) * B := by
      have h5 : ((m + (k + 1) : Nat) : Int) * B = (m : Int) * B + ((k : Int) * B + B) := by
        rw [Int.natCast_add, Int.natCast_add, Int.add_mul, Int.add_mul]
        simp
      have h6 : 0 ≤ (k : Int) * B := Int.mul_nonneg (by omega) hB
      omega
    have e : (a + f ((m : Int) + 1)).toInt = pm_S (fun i => (f i).toInt) (m + 1) := by
      rw [h64_add (by omega) (by omega), ha]
      rfl
    have ih := hs_toInt hB k (m + 1) (a + f ((m : Int) + 1)) (fun i x y => hf i x (by omega)) e (by rw [show m + 1 + k = m + (k + 1) by omega]; exact hb)
    rw [show m + (k + 1) = m + 1 + k by omega, ← ih]
    rfl
/-- the column of each row -/
theorem hi_tau {n : Nat} {ro : Int → Int} (hA : hi_A n n ro) : ∃ t : Int → Int, (∀ i : Int, 1 ≤ i → i ≤ n → 1 ≤ t i ∧ t i ≤ n ∧ ro (t i) = i) ∧ (∀ j : Int, 1 ≤ j → j ≤ n → 1 ≤ ro j ∧ ro j ≤ n ∧ t (ro j) = j) := by
  obtain ⟨A1, A2, A3⟩ := hA
  have hch : ∀ i : Int, ∃ j : Int, 1 ≤ i → i ≤ n → (1 ≤ j ∧ j ≤ n ∧ ro j = i) := fun i => by
    by_cases h : 1 ≤ i ∧ i ≤ n
    · obtain ⟨j, h1⟩ := A3 i h.1 h.2
      exact ⟨j, fun _ _ => h1⟩
    · exact ⟨0, fun a b => absurd ⟨a, b⟩ h⟩
  have hex : ∃ t : Int → Int, ∀ i : Int, 1 ≤ i → i ≤ n → (1 ≤ t i ∧ t i ≤ n ∧ ro (t i) = i) := ⟨fun i => Classical.choose (hch i), fun i => Classical.choose_spec (hch i)⟩
  obtain ⟨t, ht⟩ := hex
  have hinj : pm_inj n t := fun i j a b a2 b2 h => by
    have h1 := (ht i a b).2.2
    rw [h, (ht j a2 b2).2.2] at h1
    exact h1.symm
  refine ⟨t, ht, fun j a b => ?_⟩
  obtain ⟨i, i1, i2, i3⟩ := pm_php n t (fun i x y => ⟨(ht i x y).1, (ht i x y).2.1⟩) hinj j a b
  have h1 := (ht i i1 i2).2.2
  rw [i3] at h1
  rw [h1]
  exact ⟨i1, i2, i3⟩
theorem hi_sum {n : Nat} {c : Int → Int → Int64} {u v : Int → Int64} {ro : Int → Int} (hA : hi_A n n ro) (hP : hi_P n c n u v ro) : pm_S (fun j => (c (ro j) j).toInt) n = pm_S (fun i => (u i).toInt) n + pm_S (fun j => (v j).toInt) n := by
  obtain ⟨t, h1, h2⟩ := hi_tau hA
  have e1 : pm_S (fun j => (c (ro j) j).toInt) n = pm_S (fun j => (u (ro j)).toInt + (v j).toInt) n := pm_S_congr (fun j a b => (hP.2.1 j a b (by have := h2 j a b; omega)).symm)
  rw [e1, pm_S_add, pm_S_perm n ro (fun j a b => ⟨(h2 j a b).1, (h2 j a b).2.1⟩) (fun i j a b a2 b2 h => hA.2.1 i j a b a2 b2 (by have := h2 i a b; omega) h) (fun i => (u i).toInt)]
abbrev hi_u (u : Int → Int64) : Int → Int := fun i => (u i).toInt
theorem pl_d_0 (r q : Int → Int) (n : Nat) : pl_d r q n n 0 = pm_S r n + pm_S q n := by
  unfold pl_d
  have h1 : pl_q q n 0 = pm_S q n := pm_S_congr (fun j a b => by simp [pl_b])
  have h2 : pm_S r (n - n) = 0 := by
    rw [Nat.sub_self]
    rfl
  rw [h1, h2]
  omega
theorem pl_n_0 (n : Nat) : pl_n n 0 = 0 := pm_S_zero (fun j a b => by simp [pl_b])
/-- the model's costs m stand above the class's c, and are the same where the matching lies: the sums are one -/
theorem hi_least {n : Nat} {c : Int → Int → Int64} {m : Int → Int → Int} {NV : Int} {u v : Int → Int64} {ro : Int → Int} (hc : hi_c n c) (hm : ∀ i j : Int, 1 ≤ i → i ≤ n → 1 ≤ j → j ≤ n → (c i j).toInt ≤ m i j) (hA : hi_A n n ro) (hP : hi_P n c n u v ro) (he : ∀ j : Int, 1 ≤ j → j ≤ n → m (ro j) j = (c (ro j) j).toInt) (hNV : pm_S (hi_u u) n + pm_S (hi_u v) n ≤ NV) :
    pl_F n m NV n 0 = pm_S (hi_u u) n + pm_S (hi_u v) n := by
  obtain ⟨t, h1, h2⟩ := hi_tau hA
  have hok : pl_ok (hi_u u) (hi_u v) m n := fun i j a b a2 b2 => Int.le_trans (hP.1 i j a b a2 b2) (hm i j a b a2 b2)
  have hm0 : ∀ i j : Int, 1 ≤ i → i ≤ n → 1 ≤ j → j ≤ n → 0 ≤ m i j := fun i j a b a2 b2 => Int.le_trans (hc i j a b a2 b2).1 (hm i j a b a2 b2)
  have hlow := pl_low (NV := NV) hok hm0 n 0 (Nat.le_refl n) (by rw [pl_n_0]; omega) (pm_S (hi_u u) n + pm_S (hi_u v) n) hNV (by rw [pl_d_0]; exact Int.le_refl _)
  have hup := pl_up (c := m) (NV := NV) (t := t) n 0 (Nat.le_refl n) ⟨fun i a b => ⟨(h1 i (by omega) b).1, (h1 i (by omega) b).2.1, by simp [pl_b]⟩, fun i j a b a2 b2 h => by
    have h3 := (h1 i (by omega) b).2.2
    rw [h, (h1 j (by omega) b2).2.2] at h3
    exact h3.symm⟩
  have e1 : pm_S (fun i => m i (t i)) n = pm_S (hi_u u) n + pm_S (hi_u v) n := by
    have e2 : pm_S (fun i => m i (t i)) n = pm_S (fun i => hi_u u i + hi_u v (t i)) n := pm_S_congr (fun i a b => by
      obtain ⟨g1, g2, g3⟩ := h1 i a b
      have g4 := he (t i) g1 g2
      have g5 := hP.2.1 (t i) g1 g2 (by omega)
      rw [g3] at g4 g5
      show m i (t i) = (u i).toInt + (v (t i)).toInt
      omega)
    rw [e2, pm_S_add, pm_S_perm n t (fun i a b => ⟨(h1 i a b).1, (h1 i a b).2.1⟩) (fun i j a b a2 b2 h => by
      have h3 := (h1 i a b).2.2
      rw [h, (h1 j a2 b2).2.2] at h3
      exact h3.symm) (hi_u v)]
  rw [e1, Nat.sub_self] at hup
  have h3 : pm_S (fun i => m i (t i)) 0 = 0 := rfl
  omega
/-! the search: queueFrom, one column, and all from j on; reaches -/
abbrev bq_S : Type := (Int → Int) × (Int → Int) × (Int → Int) × Int
def bq_1 (c : Int → Int → Int64) (u v : Int → Int64) (ro : Int → Int) (row fr j : Int) (s : bq_S) : bq_S :=
  if s.1 j = 0 then if row ≤ ro j then if hm_x c u v (ro fr) j = 0 then (gz_u s.1 j 1, gz_u s.2.1 j fr, gz_u s.2.2.1 s.2.2.2 j, s.2.2.2 + 1) else s else s else s
def bq_F (c : Int → Int → Int64) (u v : Int → Int64) (ro : Int → Int) (row fr : Int) : Nat → Int → bq_S → bq_S
  | 0, _, s => s
  | k + 1, j, s => bq_F c u v ro row fr k (j + 1) (bq_1 c u v ro row fr j s)
def bq_L (n : Nat) (c : Int → Int → Int64) (u v : Int → Int64) (ro : Int → Int) (row left : Int) : Nat → Int → bq_S → bq_S
  | 0, _, s => s
  | k + 1, nx, s => if nx < s.2.2.2 then if s.1 left = 0 then bq_L n c u v ro row left k (nx + 1) (bq_F c u v ro row (s.2.2.1 nx) n 1 s) else s else s
/-- what is seen: in the queue, open, reached from an earlier one -/
def bq_I (n : Nat) (c : Int → Int → Int64) (u v : Int → Int64) (ro : Int → Int) (row wanted : Int) (s : bq_S) : Prop :=
  (∀ j : Int, 0 ≤ j → j ≤ n → s.1 j = 0 ∨ s.1 j = 1) ∧ (∀ i : Int, 0 ≤ i → i < s.2.2.2 → 1 ≤ s.2.2.1 i ∧ s.2.2.1 i ≤ n ∧ s.1 (s.2.2.1 i) = 1) ∧
  (∀ j : Int, 1 ≤ j → j ≤ n → s.1 j = 1 → row ≤ ro j ∧ ∃ i : Int, 0 ≤ i ∧ i < s.2.2.2 ∧ s.2.2.1 i = j) ∧ pm_S s.1 n = s.2.2.2 ∧ 1 ≤ s.2.2.2 ∧ s.1 wanted = 1 ∧
  ∃ rk : Int → Nat, rk 0 = 0 ∧ ∀ j : Int, 1 ≤ j → j ≤ n → s.1 j = 1 → 1 ≤ rk j ∧ (rk j : Int) ≤ s.2.2.2 ∧ 0 ≤ s.2.1 j ∧ s.2.1 j ≤ n ∧ ((s.2.1 j = 0 ∧ j = wanted) ∨ (1 ≤ s.2.1 j ∧ s.1 (s.2.1 j) = 1)) ∧ rk (s.2.1 j) < rk j ∧ hm_x c u v (ro (s.2.1 j)) j = 0
theorem bq_1_keeps {n : Nat} {c : Int → Int → Int64} {u v : Int → Int64} {ro : Int → Int} {row wanted fr j : Int} {s : bq_S} (hfr : 1 ≤ fr ∧ fr ≤ n ∧ s.1 fr = 1) (hj : 1 ≤ j ∧ j ≤ n) (h : bq_I n c u v ro row wanted s) :
    bq_I n c u v ro row wanted (bq_1 c u v ro row fr j s) ∧ (∀ i : Int, s.1 i = 1 → (bq_1 c u v ro row fr j s).1 i = 1) ∧ (∀ i : Int, i < s.2.2.2 → (bq_1 c u v ro row fr j s).2.2.1 i = s.2.2.1 i) ∧ s.2.2.2 ≤ (bq_1 c u v ro row fr j s).2.2.2 ∧ (row ≤ ro j → hm_x c u v (ro fr) j = 0 → (bq_1 c u v ro row fr j s).1 j = 1) := by
  obtain ⟨sn, cm, qu, qn⟩ := s
  have h' := h
  obtain ⟨h1, h2, h3, h4, h5, h6, rk, h7, h8⟩ := h
  dsimp only at h1 h2 h3 h4 h5 h6 h7 h8 hfr
  by_cases a : sn j = 0
  · by_cases b : row ≤ ro j
    · by_cases d : hm_x c u v (ro fr) j = 0
      · have hE : bq_1 c u v ro row fr j (sn, cm, qu, qn) = (gz_u sn j 1, gz_u cm j fr, gz_u qu qn j, qn + 1) := by
          unfold bq_1
          rw [if_pos a, if_pos b, if_pos d]
        rw [hE]
        have hfj : fr ≠ j := fun z => by rw [z, a] at hfr; omega
        have sup : ∀ i : Int, sn i = 1 → gz_u sn j 1 i = 1 := fun i hi => by
          by_cases e : i = j
          · rw [e, gz_us]
          · rw [gz_un _ _ e]; exact hi
        have sdn : ∀ i : Int, gz_u sn j 1 i = 1 → sn i = 1 ∨ i = j := fun i hi => by
          by_cases e : i = j
          · exact Or.inr e
          · rw [gz_un _ _ e] at hi; exact Or.inl hi
        refine ⟨⟨fun i x y => ?_, fun i x y => ?_, fun i x y z => ?_, ?_, ?_, sup _ h6, fun i => if i = j then (qn + 1).toNat else rk i, ?_, fun i x y z => ?_⟩, sup, fun i x => gz_un _ _ (by dsimp only at x; omega), by show qn ≤ qn + 1; omega, fun _ _ => gz_us ..⟩ <;> (try dsimp only)
        · by_cases e : i = j
          · rw [e, gz_us]; exact Or.inr rfl
          · rw [gz_un _ _ e]; exact h1 i x y
        · by_cases e : i = qn
          · rw [e, gz_us]
            exact ⟨hj.1, hj.2, gz_us ..⟩
          · rw [gz_un _ _ e]
            obtain ⟨g1, g2, g3⟩ := h2 i x (by dsimp only at y; omega)
            exact ⟨g1, g2, sup _ g3⟩
        · rcases sdn i z with z | z
          · obtain ⟨g1, q, q1, q2, q3⟩ := h3 i x y z
            exact ⟨g1, q, q1, by omega, by rw [gz_un _ _ (by omega)]; exact q3⟩
          · rw [z]
            exact ⟨b, qn, by omega, by omega, gz_us ..⟩
        · have e1 : pm_S (gz_u sn j 1) n = pm_S (fun i => sn i + (if i = j then 1 else 0)) n := pm_S_congr (fun i x y => by
            by_cases e : i = j
            · rw [e, gz_us, a]
              simp
            · rw [gz_un _ _ e]
              simp [e])
          rw [e1, pm_S_add, pm_S_one hj.1 hj.2, h4]
        · omega
        · rw [if_neg (by omega)]
          exact h7
        · by_cases e : i = j
          · obtain ⟨g1, g2, -⟩ := h8 fr hfr.1 hfr.2.1 hfr.2.2
            rw [e, if_pos rfl, gz_us, if_neg hfj]
            exact ⟨by omega, by omega, by omega, hfr.2.1, Or.inr ⟨hfr.1, sup _ hfr.2.2⟩, by omega, d⟩
          · have hi : sn i = 1 := by
              rcases sdn i z with z | z
              · exact z
              · exact absurd z e
            obtain ⟨g1, g2, g3, g4, g5, g6, g7⟩ := h8 i x y hi
            rw [if_neg e, gz_un _ _ e]
            have hcj : cm i ≠ j := fun z => by
              rcases g5 with g5 | g5
              · omega
              · rw [z, a] at g5
                omega
            rw [if_neg hcj]
            refine ⟨g1, by omega, g3, g4, ?_, g6, g7⟩
            rcases g5 with g5 | g5
            · exact Or.inl g5
            · exact Or.inr ⟨g5.1, sup _ g5.2⟩
      · have hE : bq_1 c u v ro row fr j (sn, cm, qu, qn) = (sn, cm, qu, qn) := by
          unfold bq_1
          rw [if_pos a, if_pos b, if_neg d]
        rw [hE]
        exact ⟨h', fun i hi => hi, fun i _ => rfl, Int.le_refl _, fun _ z => absurd z d⟩
    · have hE : bq_1 c u v ro row fr j (sn, cm, qu, qn) = (sn, cm, qu, qn) := by
        unfold bq_1
        rw [if_pos a, if_neg b]
      rw [hE]
      exact ⟨h', fun i hi => hi, fun i _ => rfl, Int.le_refl _, fun z => absurd z b⟩
  · have hE : bq_1 c u v ro row fr j (sn, cm, qu, qn) = (sn, cm, qu, qn) := by
      unfold bq_1
      rw [if_neg a]
    rw [hE]
    have aj : sn j = 1 := by
      rcases h1 j (by omega) hj.2 with z | z
      · exact absurd z a
      · exact z
    exact ⟨h', fun i hi => hi, fun i _ => rfl, Int.le_refl _, fun _ _ => aj⟩
theorem bq_F_keeps {n : Nat} {c : Int → Int → Int64} {u v : Int → Int64} {ro : Int → Int} {row wanted fr : Int} : ∀ (k : Nat) (j : Int) (s : bq_S), 1 ≤ j → j + k = (n : Int) + 1 → (1 ≤ fr ∧ fr ≤ n ∧ s.1 fr = 1) → bq_I n c u v ro row wanted s →
    bq_I n c u v ro row wanted (bq_F c u v ro row fr k j s) ∧ (∀ i : Int, s.1 i = 1 → (bq_F c u v ro row fr k j s).1 i = 1) ∧ (∀ i : Int, i < s.2.2.2 → (bq_F c u v ro row fr k j s).2.2.1 i = s.2.2.1 i) ∧ s.2.2.2 ≤ (bq_F c u v ro row fr k j s).2.2.2 ∧ (∀ i : Int, j ≤ i → i ≤ n → row ≤ ro i → hm_x c u v (ro fr) i = 0 → (bq_F c u v ro row fr k j s).1 i = 1)
  | 0, j, s, hj, hk, hfr, h => ⟨h, fun i hi => hi, fun i _ => rfl, Int.le_refl _, fun i a b => absurd b (by omega)⟩
  | k + 1, j, s, hj, hk, hfr, h => by
    obtain ⟨g1, g2, g3, g4, g5⟩ := bq_1_keeps hfr ⟨hj, by omega⟩ h
    obtain ⟨i1, i2, i3, i4, i5⟩ := bq_F_keeps (wanted := wanted) k (j + 1) (bq_1 c u v ro row fr j s) (by omega) (by omega) ⟨hfr.1, hfr.2.1, g2 _ hfr.2.2⟩ g1
    refine ⟨i1, fun i hi => i2 i (g2 i hi), fun i hi => (i3 i (by omega)).trans (g3 i hi), Int.le_trans g4 i4, fun i a b d e => ?_⟩
    by_cases ei : i = j
    · rw [ei] at d e ⊢
      exact i2 j (g5 d e)
    · exact i5 i (by omega) b d e
theorem bq_L_keeps {n : Nat} {c : Int → Int → Int64} {u v : Int → Int64} {ro : Int → Int} {row wanted left : Int} (hl : 1 ≤ left ∧ left ≤ n) : ∀ (k : Nat) (nx : Int) (s : bq_S), 0 ≤ nx → nx + k = (n : Int) → bq_I n c u v ro row wanted s → (∀ i : Int, 0 ≤ i → i < nx → i < s.2.2.2 ∧ ∀ j : Int, 1 ≤ j → j ≤ n → row ≤ ro j → hm_x c u v (ro (s.2.2.1 i)) j = 0 → s.1 j = 1) →
    bq_I n c u v ro row wanted (bq_L n c u v ro row left k nx s) ∧ ((bq_L n c u v ro row left k nx s).1 left = 1 ∨ ∀ i : Int, 0 ≤ i → i < (bq_L n c u v ro row left k nx s).2.2.2 → ∀ j : Int, 1 ≤ j → j ≤ n → row ≤ ro j → hm_x c u v (ro ((bq_L n c u v ro row left k nx s).2.2.1 i)) j = 0 → (bq_L n c u v ro row left k nx s).1 j = 1)
  | 0, nx, s, h0, hk, h, hcl => by
    refine ⟨h, Or.inr (fun i a b => (hcl i a ?_).2)⟩
    have h4 : pm_S s.1 n = s.2.2.2 := h.2.2.2.1
    have h5 : pm_S s.1 n ≤ n * 1 := pm_S_bound (fun i x y => by
      rcases h.1 i (by omega) y with z | z <;> omega)
    have b' : i < s.2.2.2 := b
    omega
  | k + 1, nx, s, h0, hk, h, hcl => by
    unfold bq_L
    by_cases a : nx < s.2.2.2
    · rw [if_pos a]
      by_cases b : s.1 left = 0
      · rw [if_pos b]
        have hq := h.2.1 nx h0 a
        obtain ⟨g1, g2, g3, g4, g5⟩ := bq_F_keeps (wanted := wanted) n 1 s (by omega) (by omega) ⟨hq.1, hq.2.1, hq.2.2⟩ h
        refine bq_L_keeps hl k (nx + 1) _ (by omega) (by omega) g1 (fun i ai bi => ?_)
        by_cases e : i = nx
        · rw [e]
          refine ⟨by omega, fun j aj bj d f => ?_⟩
          rw [g3 nx a] at f
          exact g5 j aj bj d f
        · obtain ⟨k1, k2⟩ := hcl i ai (by omega)
          refine ⟨by omega, fun j aj bj d f => ?_⟩
          rw [g3 i k1] at f
          exact g2 j (k2 j aj bj d f)
      · rw [if_neg b]
        refine ⟨h, Or.inl ?_⟩
        rcases h.1 left (by omega) hl.2 with z | z
        · exact absurd z b
        · exact z
    · rw [if_neg a]
      exact ⟨h, Or.inr (fun i x y => (hcl i x (by omega)).2)⟩
end
section
/-! PURE: a row takes a column, or cannot: by the search, and by the sums -/
def tk_T (n : Nat) (c : Int → Int → Int64) (u v : Int → Int64) (ro : Int → Int) : Prop := ∀ j : Int, 1 ≤ j → j ≤ n → hm_x c u v (ro j) j = 0
theorem hx_0 {n : Nat} {c : Int → Int → Int64} {u v : Int → Int64} {ro : Int → Int} (hc : hi_c n c) (hP : hi_P n c n u v ro) {r j : Int} (a : 1 ≤ r) (b : r ≤ n) (a2 : 1 ≤ j) (b2 : j ≤ n) : hm_x c u v r j = 0 ↔ (c r j).toInt = (u r).toInt + (v j).toInt := by
  have h1 := hc r j a b a2 b2
  have h2 := hP.2.2.2.2.1 r a b
  have h3 := hP.2.2.1 j a2 b2
  have e1 : (c r j - u r).toInt = (c r j).toInt - (u r).toInt := h64_sub (by omega) (by omega)
  have e2 : (hm_x c u v r j).toInt = (c r j).toInt - (u r).toInt - (v j).toInt := by
    unfold hm_x
    rw [h64_sub (by rw [e1]; omega) (by omega), e1]
  rw [← Int64.toInt_inj, e2]
  show _ = (0 : Int) ↔ _
  omega
theorem tk_of {n : Nat} {c : Int → Int → Int64} {u v : Int → Int64} {ro : Int → Int} (hc : hi_c n c) (hA : hi_A n n ro) (hP : hi_P n c n u v ro) : tk_T n c u v ro := by
  intro j a b
  obtain ⟨t, h1, h2⟩ := hi_tau hA
  have h3 := h2 j a b
  exact (hx_0 hc hP h3.1 h3.2.1 a b).mpr (hP.2.1 j a b (by omega)).symm
/-- the search has come to the column that is left: the rows move along -/
theorem tk_yes {n : Nat} {c : Int → Int → Int64} {u v : Int → Int64} {ro : Int → Int} {row wanted left : Int} {s : bq_S} (hA : hi_A n n ro) (hT : tk_T n c u v ro) (hrow : 1 ≤ row ∧ row ≤ n) (hl : 1 ≤ left ∧ left ≤ n ∧ ro left = row)
    (hI : bq_I n c u v (gz_u ro 0 row) row wanted s) (hs : s.1 left = 1) {ro2 : Int → Int} (hro : ro2 = hm_mv s.2.1 n left (gz_u ro 0 row)) :
    hi_A n n ro2 ∧ tk_T n c u v ro2 ∧ ro2 wanted = row ∧ ∀ j : Int, 1 ≤ j → j ≤ n → ro j < row → ro2 j = ro j := by
  have hr1 : ∀ j : Int, 1 ≤ j → gz_u ro 0 row j = ro j := fun j a => gz_un _ _ (by omega)
  have hr0 : gz_u ro 0 row 0 = row := gz_us ..
  generalize gz_u ro 0 row = r1 at hr1 hr0 hI hro
  obtain ⟨t, t1, t2⟩ := hi_tau hA
  obtain ⟨A1, A2, A3⟩ := hA
  obtain ⟨sn, cm, qu, qn⟩ := s
  obtain ⟨h1, h2, h3, h4, h5, h6, rk, h7, h8⟩ := hI
  dsimp only at h1 h2 h3 h4 h5 h6 h8 hs hro
  have hqn : qn ≤ n := by
    have h9 : pm_S sn n ≤ n * 1 := pm_S_bound (fun i x y => by
      rcases h1 i (by omega) y with z | z <;> omega)
    omega
  obtain ⟨M1, M2, M3, M4, M5⟩ := hv_move (n := n) (K := n) (E := fun r x => hm_x c u v r x = 0) (r0 := row) (p0 := r1) (cm := cm) (Q := fun x => x = 0 ∨ (1 ≤ x ∧ x ≤ n ∧ sn x = 1)) (rk := rk) hrow hr0
    (fun x hx a b => by
      have hx1 : sn x = 1 := by
        rcases hx with hx | hx
        · omega
        · exact hx.2.2
      obtain ⟨g1, g2, g3, g4, g5, g6, g7⟩ := h8 x a b hx1
      refine ⟨?_, g3, g4, g6, g7⟩
      rcases g5 with g5 | g5
      · exact Or.inl g5.1
      · exact Or.inr ⟨g5.1, g4, g5.2⟩)
    (fun x hx a b y hy hy1 => by
      have hx1 : sn x = 1 := by
        rcases hx with hx | hx
        · omega
        · exact hx.2.2
      obtain ⟨g1, g2, g3, g4, g5, g6, g7⟩ := h8 x a b hx1
      rw [hr1 y hy1]
      have := t2 y hy1 (by omega)
      omega)
    n left r1 hl.1 hl.2.1 (Or.inr ⟨hl.1, hl.2.1, hs⟩) (by have := (h8 left hl.1 hl.2.1 hs).2.1; omega) hr0 (fun x _ _ _ _ => rfl)
    ⟨fun i a b e => by
      rw [hr1 i a]
      have h9 := t2 i a b
      exact ⟨by omega, h9.2.1, fun z => e (A2 i left a b hl.1 hl.2.1 (by omega) (z.trans hl.2.2.symm))⟩, fun i i2 a b e a2 b2 e2 h he => by
      rw [hr1 i a] at h he
      rw [hr1 i2 a2] at he
      exact A2 i i2 a b a2 b2 h he, fun r a b e => by
      obtain ⟨j, j1, j2, j3⟩ := A3 r a b
      exact ⟨j, j1, j2, fun z => e (by rw [z, hl.2.2] at j3; exact j3.symm), by rw [hr1 j j1]; exact j3⟩, fun i a b e h => by
      rw [hr1 i a]
      exact hT i a b⟩
  rw [← hro] at M1 M2 M3 M4 M5
  obtain ⟨t', t1', t2'⟩ := hi_tau M1
  refine ⟨M1, fun j a b => M2 j a b (by have := t2' j a b; omega), ?_, fun j a b h => ?_⟩
  · obtain ⟨i, i1, i2, i3, i4, i5⟩ := M4
    have hi1 : sn i = 1 := by
      rcases i3 with i3 | i3
      · omega
      · exact i3.2.2
    obtain ⟨-, -, -, -, g5, -, -⟩ := h8 i i1 i2 hi1
    rcases g5 with g5 | g5
    · rw [← g5.2]
      exact i5
    · omega
  · rw [M3 j (Or.inl ?_), hr1 j a]
    intro z
    rcases z with z | z
    · omega
    · have := (h3 j a b z.2.2).1
      rw [hr1 j a] at this
      omega
/-- the search is closed and has not come there: no way along just reached places has this column for this row -/
theorem tk_no {n : Nat} {c : Int → Int → Int64} {u v : Int → Int64} {ro : Int → Int} {row wanted left : Int} {s : bq_S} (hA : hi_A n n ro) (hrow : 1 ≤ row ∧ row ≤ n) (hl : 1 ≤ left ∧ left ≤ n ∧ ro left = row) (hw : 1 ≤ wanted ∧ wanted ≤ n)
    (hI : bq_I n c u v (gz_u ro 0 row) row wanted s) (hs : s.1 left = 0) (hcl : ∀ i : Int, 0 ≤ i → i < s.2.2.2 → ∀ j : Int, 1 ≤ j → j ≤ n → row ≤ gz_u ro 0 row j → hm_x c u v (gz_u ro 0 row (s.2.2.1 i)) j = 0 → s.1 j = 1)
    {S k : Nat} (hS : ∀ j : Int, 1 ≤ j → j ≤ n → pl_b S j = false → row ≤ ro j ∧ j ≠ wanted) (hk : (n : Int) - k = row) {t : Int → Int} (ht : pl_way n k S t) (htt : ∀ i : Int, row < i → i ≤ n → hm_x c u v i (t i) = 0) : False := by
  have hr1 : ∀ j : Int, 1 ≤ j → gz_u ro 0 row j = ro j := fun j a => gz_un _ _ (by omega)
  generalize gz_u ro 0 row = r1 at hr1 hI hcl
  obtain ⟨q, q1, q2⟩ := hi_tau hA
  obtain ⟨A1, A2, A3⟩ := hA
  obtain ⟨sn, cm, qu, qn⟩ := s
  obtain ⟨h1, h2, h3, h4, h5, h6, -⟩ := hI
  dsimp only at h1 h2 h3 h4 h5 h6 hs hcl
  have hbig : ∀ j : Int, 1 ≤ j → j ≤ n → sn j = 1 → row < ro j ∧ ro j ≤ n := fun j a b d => by
    have g := (h3 j a b d).1
    rw [hr1 j a] at g
    have g2 := q2 j a b
    have g3 : ro j ≠ row := fun z => by
      have := A2 j left a b hl.1 hl.2.1 (by omega) (z.trans hl.2.2.symm)
      rw [this, hs] at d
      omega
    omega
  obtain ⟨x, ⟨x1, x2, x3⟩, x4⟩ := pm_phpP (n := n) (P := fun j => 1 ≤ j ∧ j ≤ n ∧ sn j = 1) (fun j => Classical.em _) (f := fun j => t (ro j)) (fun j h => ⟨h.1, h.2.1⟩)
    (fun j h => by
      have g := hbig j h.1 h.2.1 h.2.2
      obtain ⟨g1, g2, g3⟩ := ht.1 (ro j) (by omega) g.2
      have g4 := hS _ g1 g2 g3
      obtain ⟨-, i, i1, i2, i3⟩ := h3 j h.1 h.2.1 h.2.2
      refine ⟨g1, g2, hcl i i1 i2 _ g1 g2 (by rw [hr1 _ g1]; exact g4.1) ?_⟩
      rw [i3, hr1 j h.1]
      exact htt (ro j) g.1 g.2)
    (fun i j hi hj h => by
      have g := hbig i hi.1 hi.2.1 hi.2.2
      have g' := hbig j hj.1 hj.2.1 hj.2.2
      have g2 := ht.2 (ro i) (ro j) (by omega) g.2 (by omega) g'.2 h
      exact A2 i j hi.1 hi.2.1 hj.1 hj.2.1 (by omega) g2)
    (y := wanted) ⟨hw.1, hw.2, h6⟩
  have g := hbig x x1 x2 x3
  obtain ⟨g1, g2, g3⟩ := ht.1 (ro x) (by omega) g.2
  exact (hS _ g1 g2 g3).2 x4
/-! the rows above 'row' are settled: the columns of S; and the sums know it -/
abbrev tk_m (c : Int → Int → Int64) : Int → Int → Int := fun i j => (c i j).toInt
def tk_ft (n : Nat) (m : Int → Int → Int) (NV : Int) (S : Nat) (row w : Int) : Prop := pl_b S w = false ∧ m row w + pl_F n m NV (n - row.toNat) (S ||| 1 <<< (w - 1).toNat) = pl_F n m NV (n + 1 - row.toNat) S
def tk_R (n : Nat) (c : Int → Int → Int64) (NV : Int) (u v : Int → Int64) (row : Int) (ro : Int → Int) (S : Nat) : Prop :=
  hi_A n n ro ∧ tk_T n c u v ro ∧ pl_n n S = row - 1 ∧ (∀ j : Int, 1 ≤ j → j ≤ n → (pl_b S j = true ↔ ro j < row)) ∧ pl_F n (tk_m c) NV (n + 1 - row.toNat) S = pl_d (hi_u u) (hi_u v) n (n + 1 - row.toNat) S
/-- all that stands fast: costs, prices, and that NV is above every sum -/
def tk_H (n : Nat) (c : Int → Int → Int64) (NV : Int) (u v : Int → Int64) : Prop := hi_c n c ∧ (∃ ro, hi_P n c n u v ro) ∧ ∀ k S : Nat, k ≤ n → pl_d (hi_u u) (hi_u v) n k S < NV
theorem tk_ok {n : Nat} {c : Int → Int → Int64} {NV : Int} {u v : Int → Int64} (h : tk_H n c NV u v) : pl_ok (hi_u u) (hi_u v) (tk_m c) n := by
  obtain ⟨-, ⟨ro, hP⟩, -⟩ := h
  exact hP.1
/-- a perfect matching of tight places in which 'row' has w: the sums can take it too, and it goes on so -/
theorem tk_fit {n : Nat} {c : Int → Int → Int64} {NV : Int} {u v : Int → Int64} {row w : Int} {ro ro2 : Int → Int} {S : Nat} (hH : tk_H n c NV u v) (hrow : 1 ≤ row ∧ row ≤ n) (hw : 1 ≤ w ∧ w ≤ n) (hR : tk_R n c NV u v row ro S) (hA : hi_A n n ro2) (hT : tk_T n c u v ro2) (hw2 : ro2 w = row) (hkeep : ∀ j : Int, 1 ≤ j → j ≤ n → ro j < row → ro2 j = ro j) :
    tk_ft n (tk_m c) NV S row w ∧ tk_R n c NV u v (row + 1) ro2 (S ||| 1 <<< (w - 1).toNat) := by
  obtain ⟨R1, R2, R3, R4, R5⟩ := hR
  have hok := tk_ok hH
  obtain ⟨hc, ⟨ro0, hP⟩, hB⟩ := hH
  have hc0 : ∀ i j : Int, 1 ≤ i → i ≤ n → 1 ≤ j → j ≤ n → 0 ≤ tk_m c i j := fun i j a b a2 b2 => (hc i j a b a2 b2).1
  obtain ⟨t, t1, t2⟩ := hi_tau hA
  obtain ⟨q, q1, q2⟩ := hi_tau R1
  -- columns below: the same in both
  have hlow : ∀ j : Int, 1 ≤ j → j ≤ n → (ro2 j < row ↔ ro j < row) := fun j a b => by
    constructor
    · intro h
      have g := t2 j a b
      obtain ⟨g1, g2, g3⟩ := q1 (ro2 j) g.1 g.2.1
      have g4 := hkeep (q (ro2 j)) g1 g2 (by omega)
      have g5 : q (ro2 j) = j := hA.2.1 _ _ g1 g2 a b (by omega) (by rw [g4, g3])
      rw [g5] at g3
      omega
    · intro h
      rw [hkeep j a b h]
      exact h
  have hwS : pl_b S w = false := by
    cases e : pl_b S w with
    | false => rfl
    | true =>
      have := ((hlow w hw.1 hw.2).mpr ((R4 w hw.1 hw.2).mp e))
      omega
  have hv : S.testBit (w - 1).toNat = false := hwS
  have ew : (((w - 1).toNat : Nat) : Int) + 1 = w := by omega
  have ek : ((n : Int) - ((n - row.toNat : Nat) : Int)) = row := by omega
  have hway : pl_way n (n - row.toNat) (S ||| 1 <<< (w - 1).toNat) t := by
    refine ⟨fun i a b => ?_, fun i j a b a2 b2 h => ?_⟩
    · obtain ⟨g1, g2, g3⟩ := t1 i (by omega) b
      refine ⟨g1, g2, ?_⟩
      rw [pl_b_or g1, ew]
      have h1 : t i ≠ w := fun z => by
        rw [z, hw2] at g3
        omega
      have h2 : pl_b S (t i) = false := by
        cases e : pl_b S (t i) with
        | false => rfl
        | true =>
          have := (hlow _ g1 g2).mpr ((R4 _ g1 g2).mp e)
          omega
      rw [h2]
      simp [h1]
    · have h3 := (t1 i (by omega) b).2.2
      rw [h, (t1 j (by omega) b2).2.2] at h3
      exact h3.symm
  have hup := pl_up (c := tk_m c) (NV := NV) (n - row.toNat) _ (by omega) hway
  have hn2 : pl_n n (S ||| 1 <<< (w - 1).toNat) = (n : Int) - ((n - row.toNat : Nat) : Int) := by
    rw [pl_n_step (by omega) hv, R3]
    omega
  -- the sum of the way is that of the prices
  have hlowF := pl_low (NV := NV) hok hc0 (n - row.toNat) (S ||| 1 <<< (w - 1).toNat) (by omega) hn2 _ (Int.le_of_lt (hB (n - row.toNat) (S ||| 1 <<< (w - 1).toNat) (by omega))) (Int.le_refl _)
  have htight : ∀ i : Int, 1 ≤ i → i ≤ n → tk_m c i (t i) = hi_u u i + hi_u v (t i) := fun i a b => by
    obtain ⟨g1, g2, g3⟩ := t1 i a b
    have g4 := hT (t i) g1 g2
    rw [g3] at g4
    exact (hx_0 hc hP a b g1 g2).mp g4
  have hF : pl_F n (tk_m c) NV (n - row.toNat) (S ||| 1 <<< (w - 1).toNat) = pl_d (hi_u u) (hi_u v) n (n - row.toNat) (S ||| 1 <<< (w - 1).toNat) := by
    have hsum : pm_S (fun i => tk_m c i (t i)) n - pm_S (fun i => tk_m c i (t i)) (n - (n - row.toNat)) = pl_d (hi_u u) (hi_u v) n (n - row.toNat) (S ||| 1 <<< (w - 1).toNat) := by
      have e1 : pm_S (fun i => tk_m c i (t i)) n = pm_S (hi_u u) n + pm_S (fun i => hi_u v (t i)) n := by
        rw [← pm_S_add]
        exact pm_S_congr (fun i a b => htight i a b)
      have e2 : pm_S (fun i => tk_m c i (t i)) (n - (n - row.toNat)) = pm_S (hi_u u) (n - (n - row.toNat)) + pm_S (fun i => hi_u v (t i)) (n - (n - row.toNat)) := by
        rw [← pm_S_add]
        exact pm_S_congr (fun i a b => htight i a (by omega))
      -- the columns of the rows up to 'row' are those of S and w
      have e3 : pl_q (hi_u v) n (S ||| 1 <<< (w - 1).toNat) = pm_S (fun i => hi_u v (t i)) n - pm_S (fun i => hi_u v (t i)) (n - (n - row.toNat)) := by
        have hmem : ∀ j : Int, 1 ≤ j → j ≤ n → (pl_b (S ||| 1 <<< (w - 1).toNat) j = true ↔ ro2 j ≤ row) := fun j a b => by
          rw [pl_b_or a, ew]
          simp only [Bool.or_eq_true, decide_eq_true_eq]
          rw [R4 j a b, ← hlow j a b]
          constructor
          · rintro (h | h)
            · omega
            · rw [h, hw2]
              exact Int.le_refl _
          · intro h
            by_cases e : ro2 j = row
            · exact Or.inr (hA.2.1 j w a b hw.1 hw.2 (by omega) (e.trans hw2.symm))
            · exact Or.inl (by omega)
        have e4 : pl_q (hi_u v) n (S ||| 1 <<< (w - 1).toNat) = pm_S (fun j => (fun i => if i ≤ row then 0 else hi_u v (t i)) (ro2 j)) n := pm_S_congr (fun j a b => by
          have g := t2 j a b
          dsimp only
          rw [g.2.2]
          by_cases h : ro2 j ≤ row
          · rw [if_pos h, if_pos ((hmem j a b).mpr h)]
          · rw [if_neg h, if_neg (fun z => h ((hmem j a b).mp z))])
        rw [e4, pm_S_perm n ro2 (fun j a b => ⟨(t2 j a b).1, (t2 j a b).2.1⟩) (fun i j a b a2 b2 h => hA.2.1 i j a b a2 b2 (by have := t2 i a b; omega) h) (fun i => if i ≤ row then 0 else hi_u v (t i))]
        -- a sum whose first terms are 0
        have e5 : ∀ (f : Int → Int) (d m : Nat), pm_S (fun i => if i ≤ (m : Int) then 0 else f i) (m + d) = pm_S f (m + d) - pm_S f m := by
          intro f d m
          induction d with
          | zero =>
            rw [Nat.add_zero, pm_S_zero (fun i a b => if_pos b)]
            omega
          | succ d ih =>
            show pm_S (fun i => if i ≤ (m : Int) then 0 else f i) (m + d) + (if ((m + d : Nat) : Int) + 1 ≤ (m : Int) then 0 else f (((m + d : Nat) : Int) + 1)) = pm_S f (m + d) + f (((m + d : Nat) : Int) + 1) - pm_S f m
            rw [ih, if_neg (by omega)]
            omega
        have e6 := e5 (fun i => hi_u v (t i)) (n - row.toNat) row.toNat
        have e7 : row.toNat + (n - row.toNat) = n := by omega
        have e8 : ((row.toNat : Nat) : Int) = row := by omega
        have e9 : n - (n - row.toNat) = row.toNat := by omega
        rw [e7, e8] at e6
        rw [e9]
        exact e6
      rw [e1, e2]
      unfold pl_d
      rw [e3]
      omega
    omega
  have en : n + 1 - row.toNat = n - row.toNat + 1 := by omega
  rw [en] at R5
  have hfit := pl_fits (NV := NV) hok hc0 hB (k := n - row.toNat) (S := S) (v := (w - 1).toNat) (by omega) (by rw [R3]; omega) R5 (by omega) hv
  rw [ew, ek] at hfit
  have htw : tk_m c row w = hi_u u row + hi_u v w := by
    have g4 := hT w hw.1 hw.2
    rw [hw2] at g4
    exact (hx_0 hc hP hrow.1 hrow.2 hw.1 hw.2).mp g4
  refine ⟨⟨hwS, by rw [en]; exact hfit.mpr ⟨htw, hF⟩⟩, hA, hT, ?_, fun j a b => ?_, ?_⟩
  · rw [pl_n_step (by omega) hv, R3]
    omega
  · rw [pl_b_or a, ew]
    simp only [Bool.or_eq_true, decide_eq_true_eq]
    rw [R4 j a b, ← hlow j a b]
    constructor
    · rintro (h | h)
      · omega
      · rw [h, hw2]
        omega
    · intro h
      by_cases e : ro2 j = row
      · exact Or.inr (hA.2.1 j w a b hw.1 hw.2 (by omega) (e.trans hw2.symm))
      · exact Or.inl (by omega)
  · have h1 : n + 1 - (row + 1).toNat = n - row.toNat := by omega
    rw [h1]
    exact hF
/-- the sums could take w: then there is such a way of the rows below -/
theorem tk_way {n : Nat} {c : Int → Int → Int64} {NV : Int} {u v : Int → Int64} {row w : Int} {ro : Int → Int} {S : Nat} (hH : tk_H n c NV u v) (hrow : 1 ≤ row ∧ row ≤ n) (hw : 1 ≤ w ∧ w ≤ n) (hR : tk_R n c NV u v row ro S) (hf : tk_ft n (tk_m c) NV S row w) :
    hm_x c u v row w = 0 ∧ row ≤ ro w ∧ ∃ t : Int → Int, pl_way n (n - row.toNat) (S ||| 1 <<< (w - 1).toNat) t ∧ (∀ i : Int, row < i → i ≤ n → hm_x c u v i (t i) = 0) ∧ ∀ j : Int, 1 ≤ j → j ≤ n → pl_b (S ||| 1 <<< (w - 1).toNat) j = false → row ≤ ro j ∧ j ≠ w := by
  obtain ⟨R1, R2, R3, R4, R5⟩ := hR
  have hok := tk_ok hH
  obtain ⟨hc, ⟨ro0, hP⟩, hB⟩ := hH
  have hc0 : ∀ i j : Int, 1 ≤ i → i ≤ n → 1 ≤ j → j ≤ n → 0 ≤ tk_m c i j := fun i j a b a2 b2 => (hc i j a b a2 b2).1
  obtain ⟨f1, f2⟩ := hf
  have hv : S.testBit (w - 1).toNat = false := f1
  have ew : (((w - 1).toNat : Nat) : Int) + 1 = w := by omega
  have ek : ((n : Int) - ((n - row.toNat : Nat) : Int)) = row := by omega
  have en : n + 1 - row.toNat = n - row.toNat + 1 := by omega
  rw [en] at R5 f2
  have hfit := pl_fits (NV := NV) hok hc0 hB (k := n - row.toNat) (S := S) (v := (w - 1).toNat) (by omega) (by rw [R3]; omega) R5 (by omega) hv
  rw [ew, ek] at hfit
  obtain ⟨g1, g2⟩ := hfit.mp f2
  have hn2 : pl_n n (S ||| 1 <<< (w - 1).toNat) = (n : Int) - ((n - row.toNat : Nat) : Int) := by
    rw [pl_n_step (by omega) hv, R3]
    omega
  obtain ⟨t, h1, h2⟩ := pl_tight (NV := NV) hok hc0 hB (n - row.toNat) (S ||| 1 <<< (w - 1).toNat) (by omega) hn2 g2
  refine ⟨(hx_0 hc hP hrow.1 hrow.2 hw.1 hw.2).mpr g1, ?_, t, h1, fun i a b => ?_, fun j a b h => ?_⟩
  · have : ¬ ro w < row := fun z => by
      rw [(R4 w hw.1 hw.2).mpr z] at f1
      cases f1
    omega
  · obtain ⟨k1, k2, k3⟩ := h1.1 i (by omega) b
    exact (hx_0 hc hP (by omega) b k1 k2).mpr (h2 i (by omega) b)
  · rw [pl_b_or a, ew] at h
    simp only [Bool.or_eq_false_iff, decide_eq_false_iff_not] at h
    refine ⟨?_, h.2⟩
    have : ¬ ro j < row := fun z => by
      rw [(R4 j a b).mpr z] at h
      cases h.1
    omega
end
