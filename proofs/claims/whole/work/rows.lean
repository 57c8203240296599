section
/-! UPDATES of a function at one place -/
def gz_u {α : Type} (f : Int → α) (i : Int) (x : α) : Int → α := fun j => if j = i then x else f j
def gz_ul (f : Int → Int64) (i : Int) (x : Int64) : Int → Int64 := fun j => if j = i then x else f j
theorem gz_us {α : Type} (f : Int → α) (i : Int) (x : α) : gz_u f i x i = x := if_pos rfl
theorem gz_un {α : Type} (f : Int → α) {i j : Int} (x : α) (h : j ≠ i) : gz_u f i x j = f j := if_neg h
theorem gz_uls (f : Int → Int64) (i : Int) (x : Int64) : gz_ul f i x i = x := if_pos rfl
theorem gz_uln (f : Int → Int64) {i j : Int} (x : Int64) (h : j ≠ i) : gz_ul f i x j = f j := if_neg h
end
section
-- ===== PART A: goes FIRST, ahead of the names: the tables' words, and 'selects' of the private methods out of them =====
/-- a private method of a class that the tables say can be made, by its rows of tables_1 -/
def lw_okq (q : MethodName × Nat) : Prop := (q.1.cls ≠ "java/lang/invoke/MethodHandle" ∧ q.1.cls ≠ "java/lang/invoke/VarHandle") ∧ Cond.instantiable q.1.cls q.2 ∈ tables_1 ∧ Cond.privateMethod q.1 ∈ tables_1 ∧ Cond.instanceMethod q.1 ∈ tables_1
theorem lw_p0 : lw_okq (⟨"PinSwaps", "cost", "(II)J"⟩, 6) := ⟨⟨by decide +kernel, by decide +kernel⟩, List.mem_of_getElem? (i := 17) (by decide +kernel), List.mem_of_getElem? (i := 219) (by decide +kernel), List.mem_of_getElem? (i := 220) (by decide +kernel)⟩
theorem lw_p1 : lw_okq (⟨"PinSwaps$History", "begin", "([II)[I"⟩, 4) := ⟨⟨by decide +kernel, by decide +kernel⟩, List.mem_of_getElem? (i := 150) (by decide +kernel), List.mem_of_getElem? (i := 227) (by decide +kernel), List.mem_of_getElem? (i := 228) (by decide +kernel)⟩
theorem lw_p2 : lw_okq (⟨"PinSwaps", "swapUnits", "(IZ[I)V"⟩, 6) := ⟨⟨by decide +kernel, by decide +kernel⟩, List.mem_of_getElem? (i := 17) (by decide +kernel), List.mem_of_getElem? (i := 234) (by decide +kernel), List.mem_of_getElem? (i := 235) (by decide +kernel)⟩
theorem lw_p3 : lw_okq (⟨"PinSwaps", "loadMatching", "(IZ)V"⟩, 6) := ⟨⟨by decide +kernel, by decide +kernel⟩, List.mem_of_getElem? (i := 17) (by decide +kernel), List.mem_of_getElem? (i := 238) (by decide +kernel), List.mem_of_getElem? (i := 239) (by decide +kernel)⟩
theorem lw_p4 : lw_okq (⟨"PinSwaps$Pins", "isFreeUnit", "(IZ)Z"⟩, 12) := ⟨⟨by decide +kernel, by decide +kernel⟩, List.mem_of_getElem? (i := 25) (by decide +kernel), List.mem_of_getElem? (i := 242) (by decide +kernel), List.mem_of_getElem? (i := 243) (by decide +kernel)⟩
theorem lw_p5 : lw_okq (⟨"PinSwaps$Pins", "isPaired", "(I)Z"⟩, 12) := ⟨⟨by decide +kernel, by decide +kernel⟩, List.mem_of_getElem? (i := 25) (by decide +kernel), List.mem_of_getElem? (i := 246) (by decide +kernel), List.mem_of_getElem? (i := 247) (by decide +kernel)⟩
theorem lw_p6 : lw_okq (⟨"PinSwaps$Pins", "isUnitLocked", "(I)Z"⟩, 12) := ⟨⟨by decide +kernel, by decide +kernel⟩, List.mem_of_getElem? (i := 25) (by decide +kernel), List.mem_of_getElem? (i := 250) (by decide +kernel), List.mem_of_getElem? (i := 251) (by decide +kernel)⟩
theorem lw_p7 : lw_okq (⟨"PinSwaps$Matching", "add", "(I)V"⟩, 10) := ⟨⟨by decide +kernel, by decide +kernel⟩, List.mem_of_getElem? (i := 107) (by decide +kernel), List.mem_of_getElem? (i := 254) (by decide +kernel), List.mem_of_getElem? (i := 255) (by decide +kernel)⟩
theorem lw_p8 : lw_okq (⟨"PinSwaps", "unitCost", "(II)J"⟩, 6) := ⟨⟨by decide +kernel, by decide +kernel⟩, List.mem_of_getElem? (i := 17) (by decide +kernel), List.mem_of_getElem? (i := 258) (by decide +kernel), List.mem_of_getElem? (i := 259) (by decide +kernel)⟩
theorem lw_p9 : lw_okq (⟨"PinSwaps$Matching", "solve", "()J"⟩, 10) := ⟨⟨by decide +kernel, by decide +kernel⟩, List.mem_of_getElem? (i := 107) (by decide +kernel), List.mem_of_getElem? (i := 263) (by decide +kernel), List.mem_of_getElem? (i := 264) (by decide +kernel)⟩
theorem lw_p10 : lw_okq (⟨"PinSwaps$Matching", "insert", "(I)V"⟩, 10) := ⟨⟨by decide +kernel, by decide +kernel⟩, List.mem_of_getElem? (i := 107) (by decide +kernel), List.mem_of_getElem? (i := 271) (by decide +kernel), List.mem_of_getElem? (i := 272) (by decide +kernel)⟩
theorem lw_p11 : lw_okq (⟨"PinSwaps$Matching", "forgetSeen", "()V"⟩, 10) := ⟨⟨by decide +kernel, by decide +kernel⟩, List.mem_of_getElem? (i := 107) (by decide +kernel), List.mem_of_getElem? (i := 275) (by decide +kernel), List.mem_of_getElem? (i := 276) (by decide +kernel)⟩
theorem lw_p12 : lw_okq (⟨"PinSwaps$Matching", "nextColumn", "(I)I"⟩, 10) := ⟨⟨by decide +kernel, by decide +kernel⟩, List.mem_of_getElem? (i := 107) (by decide +kernel), List.mem_of_getElem? (i := 280) (by decide +kernel), List.mem_of_getElem? (i := 281) (by decide +kernel)⟩
theorem lw_p13 : lw_okq (⟨"PinSwaps$Matching", "extraCost", "(II)J"⟩, 10) := ⟨⟨by decide +kernel, by decide +kernel⟩, List.mem_of_getElem? (i := 107) (by decide +kernel), List.mem_of_getElem? (i := 284) (by decide +kernel), List.mem_of_getElem? (i := 285) (by decide +kernel)⟩
theorem lw_p14 : lw_okq (⟨"PinSwaps$Matching", "changePrices", "(J)V"⟩, 10) := ⟨⟨by decide +kernel, by decide +kernel⟩, List.mem_of_getElem? (i := 107) (by decide +kernel), List.mem_of_getElem? (i := 288) (by decide +kernel), List.mem_of_getElem? (i := 289) (by decide +kernel)⟩
theorem lw_p15 : lw_okq (⟨"PinSwaps$Matching", "moveAlong", "(I)V"⟩, 10) := ⟨⟨by decide +kernel, by decide +kernel⟩, List.mem_of_getElem? (i := 107) (by decide +kernel), List.mem_of_getElem? (i := 292) (by decide +kernel), List.mem_of_getElem? (i := 293) (by decide +kernel)⟩
def lw_privs_1 : List (MethodName × Nat) := [(⟨"PinSwaps", "cost", "(II)J"⟩, 6), (⟨"PinSwaps$History", "begin", "([II)[I"⟩, 4), (⟨"PinSwaps", "swapUnits", "(IZ[I)V"⟩, 6), (⟨"PinSwaps", "loadMatching", "(IZ)V"⟩, 6), (⟨"PinSwaps$Pins", "isFreeUnit", "(IZ)Z"⟩, 12), (⟨"PinSwaps$Pins", "isPaired", "(I)Z"⟩, 12), (⟨"PinSwaps$Pins", "isUnitLocked", "(I)Z"⟩, 12), (⟨"PinSwaps$Matching", "add", "(I)V"⟩, 10), (⟨"PinSwaps", "unitCost", "(II)J"⟩, 6), (⟨"PinSwaps$Matching", "solve", "()J"⟩, 10), (⟨"PinSwaps$Matching", "insert", "(I)V"⟩, 10), (⟨"PinSwaps$Matching", "forgetSeen", "()V"⟩, 10), (⟨"PinSwaps$Matching", "nextColumn", "(I)I"⟩, 10), (⟨"PinSwaps$Matching", "extraCost", "(II)J"⟩, 10), (⟨"PinSwaps$Matching", "changePrices", "(J)V"⟩, 10), (⟨"PinSwaps$Matching", "moveAlong", "(I)V"⟩, 10)]
theorem lw_r1 : ∀ q ∈ lw_privs_1, lw_okq q := List.forall_mem_cons.mpr ⟨lw_p0, List.forall_mem_cons.mpr ⟨lw_p1, List.forall_mem_cons.mpr ⟨lw_p2, List.forall_mem_cons.mpr ⟨lw_p3, List.forall_mem_cons.mpr ⟨lw_p4, List.forall_mem_cons.mpr ⟨lw_p5, List.forall_mem_cons.mpr ⟨lw_p6, List.forall_mem_cons.mpr ⟨lw_p7, List.forall_mem_cons.mpr ⟨lw_p8, List.forall_mem_cons.mpr ⟨lw_p9, List.forall_mem_cons.mpr ⟨lw_p10, List.forall_mem_cons.mpr ⟨lw_p11, List.forall_mem_cons.mpr ⟨lw_p12, List.forall_mem_cons.mpr ⟨lw_p13, List.forall_mem_cons.mpr ⟨lw_p14, List.forall_mem_cons.mpr ⟨lw_p15, fun _ h => absurd h List.not_mem_nil⟩⟩⟩⟩⟩⟩⟩⟩⟩⟩⟩⟩⟩⟩⟩⟩
theorem lw_p16 : lw_okq (⟨"PinSwaps$Matching", "sumIfKept", "()J"⟩, 10) := ⟨⟨by decide +kernel, by decide +kernel⟩, List.mem_of_getElem? (i := 107) (by decide +kernel), List.mem_of_getElem? (i := 296) (by decide +kernel), List.mem_of_getElem? (i := 297) (by decide +kernel)⟩
theorem lw_p17 : lw_okq (⟨"PinSwaps$Matching", "settleTies", "()V"⟩, 10) := ⟨⟨by decide +kernel, by decide +kernel⟩, List.mem_of_getElem? (i := 107) (by decide +kernel), List.mem_of_getElem? (i := 300) (by decide +kernel), List.mem_of_getElem? (i := 301) (by decide +kernel)⟩
theorem lw_p18 : lw_okq (⟨"PinSwaps$Matching", "takes", "(II)Z"⟩, 10) := ⟨⟨by decide +kernel, by decide +kernel⟩, List.mem_of_getElem? (i := 107) (by decide +kernel), List.mem_of_getElem? (i := 304) (by decide +kernel), List.mem_of_getElem? (i := 305) (by decide +kernel)⟩
theorem lw_p19 : lw_okq (⟨"PinSwaps$Matching", "columnOf", "(I)I"⟩, 10) := ⟨⟨by decide +kernel, by decide +kernel⟩, List.mem_of_getElem? (i := 107) (by decide +kernel), List.mem_of_getElem? (i := 308) (by decide +kernel), List.mem_of_getElem? (i := 309) (by decide +kernel)⟩
theorem lw_p20 : lw_okq (⟨"PinSwaps$Matching", "reaches", "(III)Z"⟩, 10) := ⟨⟨by decide +kernel, by decide +kernel⟩, List.mem_of_getElem? (i := 107) (by decide +kernel), List.mem_of_getElem? (i := 312) (by decide +kernel), List.mem_of_getElem? (i := 313) (by decide +kernel)⟩
theorem lw_p21 : lw_okq (⟨"PinSwaps$Matching", "queueFrom", "(III)I"⟩, 10) := ⟨⟨by decide +kernel, by decide +kernel⟩, List.mem_of_getElem? (i := 107) (by decide +kernel), List.mem_of_getElem? (i := 316) (by decide +kernel), List.mem_of_getElem? (i := 317) (by decide +kernel)⟩
theorem lw_p22 : lw_okq (⟨"PinSwaps", "giveNets", "(II[I)V"⟩, 6) := ⟨⟨by decide +kernel, by decide +kernel⟩, List.mem_of_getElem? (i := 17) (by decide +kernel), List.mem_of_getElem? (i := 320) (by decide +kernel), List.mem_of_getElem? (i := 321) (by decide +kernel)⟩
theorem lw_p23 : lw_okq (⟨"PinSwaps", "countChanged", "([I)I"⟩, 6) := ⟨⟨by decide +kernel, by decide +kernel⟩, List.mem_of_getElem? (i := 17) (by decide +kernel), List.mem_of_getElem? (i := 324) (by decide +kernel), List.mem_of_getElem? (i := 325) (by decide +kernel)⟩
theorem lw_p24 : lw_okq (⟨"PinSwaps$History", "keep", "()V"⟩, 4) := ⟨⟨by decide +kernel, by decide +kernel⟩, List.mem_of_getElem? (i := 150) (by decide +kernel), List.mem_of_getElem? (i := 328) (by decide +kernel), List.mem_of_getElem? (i := 329) (by decide +kernel)⟩
theorem lw_p25 : lw_okq (⟨"PinSwaps$History", "restore", "([I)Z"⟩, 4) := ⟨⟨by decide +kernel, by decide +kernel⟩, List.mem_of_getElem? (i := 150) (by decide +kernel), List.mem_of_getElem? (i := 341) (by decide +kernel), List.mem_of_getElem? (i := 342) (by decide +kernel)⟩
theorem lw_p26 : lw_okq (⟨"PinSwaps", "waysCross", "(II)Z"⟩, 6) := ⟨⟨by decide +kernel, by decide +kernel⟩, List.mem_of_getElem? (i := 17) (by decide +kernel), List.mem_of_getElem? (i := 349) (by decide +kernel), List.mem_of_getElem? (i := 350) (by decide +kernel)⟩
theorem lw_p27 : lw_okq (⟨"PinSwaps", "partsEnds", "(II)Z"⟩, 6) := ⟨⟨by decide +kernel, by decide +kernel⟩, List.mem_of_getElem? (i := 17) (by decide +kernel), List.mem_of_getElem? (i := 353) (by decide +kernel), List.mem_of_getElem? (i := 354) (by decide +kernel)⟩
theorem lw_p28 : lw_okq (⟨"PinSwaps", "sideOfWay", "(IJJ)J"⟩, 6) := ⟨⟨by decide +kernel, by decide +kernel⟩, List.mem_of_getElem? (i := 17) (by decide +kernel), List.mem_of_getElem? (i := 357) (by decide +kernel), List.mem_of_getElem? (i := 358) (by decide +kernel)⟩
theorem lw_p29 : lw_okq (⟨"java/lang/Throwable", "fillInStackTrace", "(I)Ljava/lang/Throwable;"⟩, 6) := ⟨⟨by decide +kernel, by decide +kernel⟩, List.mem_of_getElem? (i := 407) (by decide +kernel), List.mem_of_getElem? (i := 405) (by decide +kernel), List.mem_of_getElem? (i := 406) (by decide +kernel)⟩
theorem lw_p30 : lw_okq (⟨"PinSwaps$Pins", "add", "(IJJI)I"⟩, 12) := ⟨⟨by decide +kernel, by decide +kernel⟩, List.mem_of_getElem? (i := 25) (by decide +kernel), List.mem_of_getElem? (i := 462) (by decide +kernel), List.mem_of_getElem? (i := 463) (by decide +kernel)⟩
theorem lw_p31 : lw_okq (⟨"PinSwaps$Nets", "aim", "(IJJ)Z"⟩, 4) := ⟨⟨by decide +kernel, by decide +kernel⟩, List.mem_of_getElem? (i := 81) (by decide +kernel), List.mem_of_getElem? (i := 476) (by decide +kernel), List.mem_of_getElem? (i := 477) (by decide +kernel)⟩
def lw_privs_2 : List (MethodName × Nat) := [(⟨"PinSwaps$Matching", "sumIfKept", "()J"⟩, 10), (⟨"PinSwaps$Matching", "settleTies", "()V"⟩, 10), (⟨"PinSwaps$Matching", "takes", "(II)Z"⟩, 10), (⟨"PinSwaps$Matching", "columnOf", "(I)I"⟩, 10), (⟨"PinSwaps$Matching", "reaches", "(III)Z"⟩, 10), (⟨"PinSwaps$Matching", "queueFrom", "(III)I"⟩, 10), (⟨"PinSwaps", "giveNets", "(II[I)V"⟩, 6), (⟨"PinSwaps", "countChanged", "([I)I"⟩, 6), (⟨"PinSwaps$History", "keep", "()V"⟩, 4), (⟨"PinSwaps$History", "restore", "([I)Z"⟩, 4), (⟨"PinSwaps", "waysCross", "(II)Z"⟩, 6), (⟨"PinSwaps", "partsEnds", "(II)Z"⟩, 6), (⟨"PinSwaps", "sideOfWay", "(IJJ)J"⟩, 6), (⟨"java/lang/Throwable", "fillInStackTrace", "(I)Ljava/lang/Throwable;"⟩, 6), (⟨"PinSwaps$Pins", "add", "(IJJI)I"⟩, 12), (⟨"PinSwaps$Nets", "aim", "(IJJ)Z"⟩, 4)]
theorem lw_r2 : ∀ q ∈ lw_privs_2, lw_okq q := List.forall_mem_cons.mpr ⟨lw_p16, List.forall_mem_cons.mpr ⟨lw_p17, List.forall_mem_cons.mpr ⟨lw_p18, List.forall_mem_cons.mpr ⟨lw_p19, List.forall_mem_cons.mpr ⟨lw_p20, List.forall_mem_cons.mpr ⟨lw_p21, List.forall_mem_cons.mpr ⟨lw_p22, List.forall_mem_cons.mpr ⟨lw_p23, List.forall_mem_cons.mpr ⟨lw_p24, List.forall_mem_cons.mpr ⟨lw_p25, List.forall_mem_cons.mpr ⟨lw_p26, List.forall_mem_cons.mpr ⟨lw_p27, List.forall_mem_cons.mpr ⟨lw_p28, List.forall_mem_cons.mpr ⟨lw_p29, List.forall_mem_cons.mpr ⟨lw_p30, List.forall_mem_cons.mpr ⟨lw_p31, fun _ h => absurd h List.not_mem_nil⟩⟩⟩⟩⟩⟩⟩⟩⟩⟩⟩⟩⟩⟩⟩⟩
theorem lw_p32 : lw_okq (⟨"PinSwaps", "checkPin", "(I)V"⟩, 6) := ⟨⟨by decide +kernel, by decide +kernel⟩, List.mem_of_getElem? (i := 17) (by decide +kernel), List.mem_of_getElem? (i := 487) (by decide +kernel), List.mem_of_getElem? (i := 488) (by decide +kernel)⟩
theorem lw_p33 : lw_okq (⟨"PinSwaps$Pins", "join", "(II)V"⟩, 12) := ⟨⟨by decide +kernel, by decide +kernel⟩, List.mem_of_getElem? (i := 25) (by decide +kernel), List.mem_of_getElem? (i := 499) (by decide +kernel), List.mem_of_getElem? (i := 500) (by decide +kernel)⟩
theorem lw_p34 : lw_okq (⟨"PinSwaps$Pins", "unitOf", "(I)I"⟩, 12) := ⟨⟨by decide +kernel, by decide +kernel⟩, List.mem_of_getElem? (i := 25) (by decide +kernel), List.mem_of_getElem? (i := 534) (by decide +kernel), List.mem_of_getElem? (i := 535) (by decide +kernel)⟩
theorem lw_p35 : lw_okq (⟨"PinSwaps$Matching", "forbidOthers", "(I)V"⟩, 10) := ⟨⟨by decide +kernel, by decide +kernel⟩, List.mem_of_getElem? (i := 107) (by decide +kernel), List.mem_of_getElem? (i := 540) (by decide +kernel), List.mem_of_getElem? (i := 541) (by decide +kernel)⟩
theorem lw_p36 : lw_okq (⟨"PinSwaps$Matching", "rowOfUnit", "(I)I"⟩, 10) := ⟨⟨by decide +kernel, by decide +kernel⟩, List.mem_of_getElem? (i := 107) (by decide +kernel), List.mem_of_getElem? (i := 544) (by decide +kernel), List.mem_of_getElem? (i := 545) (by decide +kernel)⟩
theorem lw_p37 : lw_okq (⟨"PinSwaps$Matching", "forbidOwn", "(I)V"⟩, 10) := ⟨⟨by decide +kernel, by decide +kernel⟩, List.mem_of_getElem? (i := 107) (by decide +kernel), List.mem_of_getElem? (i := 549) (by decide +kernel), List.mem_of_getElem? (i := 550) (by decide +kernel)⟩
theorem lw_p38 : lw_okq (⟨"PinSwaps$Pins", "nthMoved", "(I)I"⟩, 12) := ⟨⟨by decide +kernel, by decide +kernel⟩, List.mem_of_getElem? (i := 25) (by decide +kernel), List.mem_of_getElem? (i := 560) (by decide +kernel), List.mem_of_getElem? (i := 561) (by decide +kernel)⟩
theorem lw_p39 : lw_okq (⟨"PinSwaps$Gates", "add", "(II)I"⟩, 3) := ⟨⟨by decide +kernel, by decide +kernel⟩, List.mem_of_getElem? (i := 171) (by decide +kernel), List.mem_of_getElem? (i := 575) (by decide +kernel), List.mem_of_getElem? (i := 576) (by decide +kernel)⟩
theorem lw_p40 : lw_okq (⟨"PinSwaps$Gates", "areEqual", "(II)Z"⟩, 3) := ⟨⟨by decide +kernel, by decide +kernel⟩, List.mem_of_getElem? (i := 171) (by decide +kernel), List.mem_of_getElem? (i := 587) (by decide +kernel), List.mem_of_getElem? (i := 588) (by decide +kernel)⟩
theorem lw_p41 : lw_okq (⟨"PinSwapsModel", "isPin", "(I)Z"⟩, 29) := ⟨⟨by decide +kernel, by decide +kernel⟩, List.mem_of_getElem? (i := 601) (by decide +kernel), List.mem_of_getElem? (i := 723) (by decide +kernel), List.mem_of_getElem? (i := 724) (by decide +kernel)⟩
theorem lw_p42 : lw_okq (⟨"PinSwapsModel", "sumOf", "()J"⟩, 29) := ⟨⟨by decide +kernel, by decide +kernel⟩, List.mem_of_getElem? (i := 601) (by decide +kernel), List.mem_of_getElem? (i := 743) (by decide +kernel), List.mem_of_getElem? (i := 744) (by decide +kernel)⟩
theorem lw_p43 : lw_okq (⟨"PinSwapsModel", "cost", "(II)J"⟩, 29) := ⟨⟨by decide +kernel, by decide +kernel⟩, List.mem_of_getElem? (i := 601) (by decide +kernel), List.mem_of_getElem? (i := 747) (by decide +kernel), List.mem_of_getElem? (i := 748) (by decide +kernel)⟩
theorem lw_p44 : lw_okq (⟨"PinSwapsModel", "match", "(IZ)V"⟩, 29) := ⟨⟨by decide +kernel, by decide +kernel⟩, List.mem_of_getElem? (i := 601) (by decide +kernel), List.mem_of_getElem? (i := 763) (by decide +kernel), List.mem_of_getElem? (i := 764) (by decide +kernel)⟩
theorem lw_p45 : lw_okq (⟨"PinSwapsModel", "reckon", "(IZII)V"⟩, 29) := ⟨⟨by decide +kernel, by decide +kernel⟩, List.mem_of_getElem? (i := 601) (by decide +kernel), List.mem_of_getElem? (i := 767) (by decide +kernel), List.mem_of_getElem? (i := 768) (by decide +kernel)⟩
theorem lw_p46 : lw_okq (⟨"PinSwapsModel", "isUnit", "(IIZ)Z"⟩, 29) := ⟨⟨by decide +kernel, by decide +kernel⟩, List.mem_of_getElem? (i := 601) (by decide +kernel), List.mem_of_getElem? (i := 771) (by decide +kernel), List.mem_of_getElem? (i := 772) (by decide +kernel)⟩
theorem lw_p47 : lw_okq (⟨"PinSwapsModel", "unitCost", "(IIZ)J"⟩, 29) := ⟨⟨by decide +kernel, by decide +kernel⟩, List.mem_of_getElem? (i := 601) (by decide +kernel), List.mem_of_getElem? (i := 776) (by decide +kernel), List.mem_of_getElem? (i := 777) (by decide +kernel)⟩
def lw_privs_3 : List (MethodName × Nat) := [(⟨"PinSwaps", "checkPin", "(I)V"⟩, 6), (⟨"PinSwaps$Pins", "join", "(II)V"⟩, 12), (⟨"PinSwaps$Pins", "unitOf", "(I)I"⟩, 12), (⟨"PinSwaps$Matching", "forbidOthers", "(I)V"⟩, 10), (⟨"PinSwaps$Matching", "rowOfUnit", "(I)I"⟩, 10), (⟨"PinSwaps$Matching", "forbidOwn", "(I)V"⟩, 10), (⟨"PinSwaps$Pins", "nthMoved", "(I)I"⟩, 12), (⟨"PinSwaps$Gates", "add", "(II)I"⟩, 3), (⟨"PinSwaps$Gates", "areEqual", "(II)Z"⟩, 3), (⟨"PinSwapsModel", "isPin", "(I)Z"⟩, 29), (⟨"PinSwapsModel", "sumOf", "()J"⟩, 29), (⟨"PinSwapsModel", "cost", "(II)J"⟩, 29), (⟨"PinSwapsModel", "match", "(IZ)V"⟩, 29), (⟨"PinSwapsModel", "reckon", "(IZII)V"⟩, 29), (⟨"PinSwapsModel", "isUnit", "(IIZ)Z"⟩, 29), (⟨"PinSwapsModel", "unitCost", "(IIZ)J"⟩, 29)]
theorem lw_r3 : ∀ q ∈ lw_privs_3, lw_okq q := List.forall_mem_cons.mpr ⟨lw_p32, List.forall_mem_cons.mpr ⟨lw_p33, List.forall_mem_cons.mpr ⟨lw_p34, List.forall_mem_cons.mpr ⟨lw_p35, List.forall_mem_cons.mpr ⟨lw_p36, List.forall_mem_cons.mpr ⟨lw_p37, List.forall_mem_cons.mpr ⟨lw_p38, List.forall_mem_cons.mpr ⟨lw_p39, List.forall_mem_cons.mpr ⟨lw_p40, List.forall_mem_cons.mpr ⟨lw_p41, List.forall_mem_cons.mpr ⟨lw_p42, List.forall_mem_cons.mpr ⟨lw_p43, List.forall_mem_cons.mpr ⟨lw_p44, List.forall_mem_cons.mpr ⟨lw_p45, List.forall_mem_cons.mpr ⟨lw_p46, List.forall_mem_cons.mpr ⟨lw_p47, fun _ h => absurd h List.not_mem_nil⟩⟩⟩⟩⟩⟩⟩⟩⟩⟩⟩⟩⟩⟩⟩⟩
theorem lw_p48 : lw_okq (⟨"PinSwapsModel", "choose", "()V"⟩, 29) := ⟨⟨by decide +kernel, by decide +kernel⟩, List.mem_of_getElem? (i := 601) (by decide +kernel), List.mem_of_getElem? (i := 783) (by decide +kernel), List.mem_of_getElem? (i := 784) (by decide +kernel)⟩
theorem lw_p49 : lw_okq (⟨"PinSwapsModel", "sumNow", "()J"⟩, 29) := ⟨⟨by decide +kernel, by decide +kernel⟩, List.mem_of_getElem? (i := 601) (by decide +kernel), List.mem_of_getElem? (i := 787) (by decide +kernel), List.mem_of_getElem? (i := 788) (by decide +kernel)⟩
theorem lw_p50 : lw_okq (⟨"PinSwapsModel", "fits", "(III)Z"⟩, 29) := ⟨⟨by decide +kernel, by decide +kernel⟩, List.mem_of_getElem? (i := 601) (by decide +kernel), List.mem_of_getElem? (i := 791) (by decide +kernel), List.mem_of_getElem? (i := 792) (by decide +kernel)⟩
theorem lw_p51 : lw_okq (⟨"PinSwapsModel", "keepNets", "()V"⟩, 29) := ⟨⟨by decide +kernel, by decide +kernel⟩, List.mem_of_getElem? (i := 601) (by decide +kernel), List.mem_of_getElem? (i := 795) (by decide +kernel), List.mem_of_getElem? (i := 796) (by decide +kernel)⟩
theorem lw_p52 : lw_okq (⟨"PinSwapsModel", "isSo", "(III)Z"⟩, 29) := ⟨⟨by decide +kernel, by decide +kernel⟩, List.mem_of_getElem? (i := 601) (by decide +kernel), List.mem_of_getElem? (i := 828) (by decide +kernel), List.mem_of_getElem? (i := 829) (by decide +kernel)⟩
theorem lw_p53 : lw_okq (⟨"PinSwapsModel", "cross", "(II)Z"⟩, 29) := ⟨⟨by decide +kernel, by decide +kernel⟩, List.mem_of_getElem? (i := 601) (by decide +kernel), List.mem_of_getElem? (i := 836) (by decide +kernel), List.mem_of_getElem? (i := 837) (by decide +kernel)⟩
def lw_privs_4 : List (MethodName × Nat) := [(⟨"PinSwapsModel", "choose", "()V"⟩, 29), (⟨"PinSwapsModel", "sumNow", "()J"⟩, 29), (⟨"PinSwapsModel", "fits", "(III)Z"⟩, 29), (⟨"PinSwapsModel", "keepNets", "()V"⟩, 29), (⟨"PinSwapsModel", "isSo", "(III)Z"⟩, 29), (⟨"PinSwapsModel", "cross", "(II)Z"⟩, 29)]
theorem lw_r4 : ∀ q ∈ lw_privs_4, lw_okq q := List.forall_mem_cons.mpr ⟨lw_p48, List.forall_mem_cons.mpr ⟨lw_p49, List.forall_mem_cons.mpr ⟨lw_p50, List.forall_mem_cons.mpr ⟨lw_p51, List.forall_mem_cons.mpr ⟨lw_p52, List.forall_mem_cons.mpr ⟨lw_p53, fun _ h => absurd h List.not_mem_nil⟩⟩⟩⟩⟩⟩
def lw_privs : List (MethodName × Nat) := lw_privs_1 ++ (lw_privs_2 ++ (lw_privs_3 ++ (lw_privs_4)))
def lw_tbl : List Cond := k2_sels lw_privs ++ tables_1
theorem lw_privs_ok : ∀ q ∈ lw_privs, lw_okq q := by
  show ∀ q ∈ lw_privs_1 ++ (lw_privs_2 ++ (lw_privs_3 ++ (lw_privs_4))), lw_okq q
  exact List.forall_mem_append.mpr ⟨lw_r1, List.forall_mem_append.mpr ⟨lw_r2, List.forall_mem_append.mpr ⟨lw_r3, lw_r4⟩⟩⟩
end
section
/-! THE WORDS: those of the tables that every walk may use; and those of nest mates, which are carried beside -/
def gw_T : List Cond := lw_tbl.filter goodWord
def gw_isN : Cond → Bool
  | .fieldLinkNest .. => true
  | .methodLinkNest .. => true
  | _ => false
def gw_Nl : List Cond := lw_tbl.filter gw_isN
theorem gw_in {w : Cond} (i : Nat) (h : lw_tbl[i]? = some w) (hg : goodWord w = true) : w ∈ gw_T := List.mem_filter.mpr ⟨List.mem_of_getElem? h, hg⟩
theorem gw_inN {w : Cond} (i : Nat) (h : lw_tbl[i]? = some w) (hg : gw_isN w = true) : w ∈ gw_Nl := List.mem_filter.mpr ⟨List.mem_of_getElem? h, hg⟩
theorem gw_all {ws : List Cond} (h : ∀ w ∈ ws, w ∈ lw_tbl) (hg : ws.all goodWord = true) : ∀ w ∈ ws, w ∈ gw_T := fun w hw => List.mem_filter.mpr ⟨h w hw, List.all_eq_true.mp hg w hw⟩
def ft_PS : u_T := fun k => match k with
  | 0 => ("PinSwaps", "pins", "LPinSwaps$Pins;", true)
  | 1 => ("PinSwaps", "nets", "LPinSwaps$Nets;", true)
  | 2 => ("PinSwaps", "matching", "LPinSwaps$Matching;", true)
  | 3 => ("PinSwaps", "history", "LPinSwaps$History;", true)
  | 4 => ("PinSwaps", "gates", "LPinSwaps$Gates;", true)
  | _ => ("PinSwaps", "sumBefore", "J", false)
def ty_PS : Nat → FieldType := fun k => match k with
  | 0 => .object "PinSwaps$Pins"
  | 1 => .object "PinSwaps$Nets"
  | 2 => .object "PinSwaps$Matching"
  | 3 => .object "PinSwaps$History"
  | 4 => .object "PinSwaps$Gates"
  | _ => .long
theorem nm_PS : ∀ a, a < 6 → ∀ b, b < 6 → a ≠ b → (ft_PS a).2.1 ≠ (ft_PS b).2.1 := by decide +kernel
theorem ty_PS_ok : ∀ k, k < 6 → parseFieldDescriptor (ft_PS k).2.2.1 = some (ty_PS k) := by decide +kernel
theorem wi_PS : ∀ w ∈ u_ws "PinSwaps" ft_PS 6, w ∈ gw_T := gw_all (by decide +kernel) (by decide +kernel)
def ft_Gt : u_T := fun k => match k with
  | 0 => ("PinSwaps$Gates", "count", "I", false)
  | 1 => ("PinSwaps$Gates", "inputs", "[I", true)
  | _ => ("PinSwaps$Gates", "table", "[I", true)
def ty_Gt : Nat → FieldType := fun k => match k with
  | 0 => .int
  | 1 => .array .int
  | _ => .array .int
theorem nm_Gt : ∀ a, a < 3 → ∀ b, b < 3 → a ≠ b → (ft_Gt a).2.1 ≠ (ft_Gt b).2.1 := by decide +kernel
theorem ty_Gt_ok : ∀ k, k < 3 → parseFieldDescriptor (ft_Gt k).2.2.1 = some (ty_Gt k) := by decide +kernel
theorem wi_Gt : ∀ w ∈ u_ws "PinSwaps$Gates" ft_Gt 3, w ∈ gw_T := gw_all (by decide +kernel) (by decide +kernel)
def ft_Hi : u_T := fun k => match k with
  | 0 => ("PinSwaps$History", "nets", "[[I", true)
  | 1 => ("PinSwaps$History", "pinCount", "[I", true)
  | 2 => ("PinSwaps$History", "slot", "I", false)
  | _ => ("PinSwaps$History", "kept", "I", false)
def ty_Hi : Nat → FieldType := fun k => match k with
  | 0 => .array (.array .int)
  | 1 => .array .int
  | 2 => .int
  | _ => .int
theorem nm_Hi : ∀ a, a < 4 → ∀ b, b < 4 → a ≠ b → (ft_Hi a).2.1 ≠ (ft_Hi b).2.1 := by decide +kernel
theorem ty_Hi_ok : ∀ k, k < 4 → parseFieldDescriptor (ft_Hi k).2.2.1 = some (ty_Hi k) := by decide +kernel
theorem wi_Hi : ∀ w ∈ u_ws "PinSwaps$History" ft_Hi 4, w ∈ gw_T := gw_all (by decide +kernel) (by decide +kernel)
def ft_Ma : u_T := fun k => match k with
  | 0 => ("PinSwaps$Matching", "size", "I", false)
  | 1 => ("PinSwaps$Matching", "unit", "[I", true)
  | 2 => ("PinSwaps$Matching", "cost", "[[J", true)
  | 3 => ("PinSwaps$Matching", "rowPrice", "[J", true)
  | 4 => ("PinSwaps$Matching", "colPrice", "[J", true)
  | 5 => ("PinSwaps$Matching", "rowOf", "[I", true)
  | 6 => ("PinSwaps$Matching", "cameFrom", "[I", true)
  | 7 => ("PinSwaps$Matching", "slack", "[J", true)
  | 8 => ("PinSwaps$Matching", "seen", "[Z", true)
  | _ => ("PinSwaps$Matching", "queue", "[I", true)
def ty_Ma : Nat → FieldType := fun k => match k with
  | 0 => .int
  | 1 => .array .int
  | 2 => .array (.array .long)
  | 3 => .array .long
  | 4 => .array .long
  | 5 => .array .int
  | 6 => .array .int
  | 7 => .array .long
  | 8 => .array .boolean
  | _ => .array .int
theorem nm_Ma : ∀ a, a < 10 → ∀ b, b < 10 → a ≠ b → (ft_Ma a).2.1 ≠ (ft_Ma b).2.1 := by decide +kernel
theorem ty_Ma_ok : ∀ k, k < 10 → parseFieldDescriptor (ft_Ma k).2.2.1 = some (ty_Ma k) := by decide +kernel
theorem wi_Ma : ∀ w ∈ u_ws "PinSwaps$Matching" ft_Ma 10, w ∈ gw_T := gw_all (by decide +kernel) (by decide +kernel)
def ft_Ne : u_T := fun k => match k with
  | 0 => ("PinSwaps$Nets", "aimed", "[Z", true)
  | 1 => ("PinSwaps$Nets", "x", "[J", true)
  | 2 => ("PinSwaps$Nets", "y", "[J", true)
  | _ => ("PinSwaps$Nets", "neededBank", "[I", true)
def ty_Ne : Nat → FieldType := fun k => match k with
  | 0 => .array .boolean
  | 1 => .array .long
  | 2 => .array .long
  | _ => .array .int
theorem nm_Ne : ∀ a, a < 4 → ∀ b, b < 4 → a ≠ b → (ft_Ne a).2.1 ≠ (ft_Ne b).2.1 := by decide +kernel
theorem ty_Ne_ok : ∀ k, k < 4 → parseFieldDescriptor (ft_Ne k).2.2.1 = some (ty_Ne k) := by decide +kernel
theorem wi_Ne : ∀ w ∈ u_ws "PinSwaps$Nets" ft_Ne 4, w ∈ gw_T := gw_all (by decide +kernel) (by decide +kernel)
def ft_Pi : u_T := fun k => match k with
  | 0 => ("PinSwaps$Pins", "groups", "I", false)
  | 1 => ("PinSwaps$Pins", "count", "I", false)
  | 2 => ("PinSwaps$Pins", "inGroup", "[I", true)
  | 3 => ("PinSwaps$Pins", "group", "[I", true)
  | 4 => ("PinSwaps$Pins", "x", "[J", true)
  | 5 => ("PinSwaps$Pins", "y", "[J", true)
  | 6 => ("PinSwaps$Pins", "bank", "[I", true)
  | 7 => ("PinSwaps$Pins", "net", "[I", true)
  | 8 => ("PinSwaps$Pins", "toldNet", "[I", true)
  | 9 => ("PinSwaps$Pins", "partner", "[I", true)
  | 10 => ("PinSwaps$Pins", "second", "[Z", true)
  | _ => ("PinSwaps$Pins", "locked", "[Z", true)
def ty_Pi : Nat → FieldType := fun k => match k with
  | 0 => .int
  | 1 => .int
  | 2 => .array .int
  | 3 => .array .int
  | 4 => .array .long
  | 5 => .array .long
  | 6 => .array .int
  | 7 => .array .int
  | 8 => .array .int
  | 9 => .array .int
  | 10 => .array .boolean
  | _ => .array .boolean
theorem nm_Pi : ∀ a, a < 12 → ∀ b, b < 12 → a ≠ b → (ft_Pi a).2.1 ≠ (ft_Pi b).2.1 := by decide +kernel
theorem ty_Pi_ok : ∀ k, k < 12 → parseFieldDescriptor (ft_Pi k).2.2.1 = some (ty_Pi k) := by decide +kernel
theorem wi_Pi : ∀ w ∈ u_ws "PinSwaps$Pins" ft_Pi 12, w ∈ gw_T := gw_all (by decide +kernel) (by decide +kernel)
def ft_Mo : u_T := fun k => match k with
  | 0 => ("PinSwapsModel", "thrown", "I", false)
  | 1 => ("PinSwapsModel", "groups", "I", false)
  | 2 => ("PinSwapsModel", "pins", "I", false)
  | 3 => ("PinSwapsModel", "groupOf", "[I", true)
  | 4 => ("PinSwapsModel", "x", "[J", true)
  | 5 => ("PinSwapsModel", "y", "[J", true)
  | 6 => ("PinSwapsModel", "banks", "[I", true)
  | 7 => ("PinSwapsModel", "nets", "[I", true)
  | 8 => ("PinSwapsModel", "firstNets", "[I", true)
  | 9 => ("PinSwapsModel", "locked", "[Z", true)
  | 10 => ("PinSwapsModel", "mates", "[I", true)
  | 11 => ("PinSwapsModel", "leads", "[Z", true)
  | 12 => ("PinSwapsModel", "hasTarget", "[Z", true)
  | 13 => ("PinSwapsModel", "targetX", "[J", true)
  | 14 => ("PinSwapsModel", "targetY", "[J", true)
  | 15 => ("PinSwapsModel", "needs", "[I", true)
  | 16 => ("PinSwapsModel", "beforeSum", "J", false)
  | 17 => ("PinSwapsModel", "kept", "I", false)
  | 18 => ("PinSwapsModel", "keptPins", "[I", true)
  | 19 => ("PinSwapsModel", "keptNets", "[I", true)
  | 20 => ("PinSwapsModel", "gates", "I", false)
  | 21 => ("PinSwapsModel", "inputs", "[I", true)
  | 22 => ("PinSwapsModel", "tables", "[I", true)
  | 23 => ("PinSwapsModel", "units", "I", false)
  | 24 => ("PinSwapsModel", "unit", "[I", true)
  | 25 => ("PinSwapsModel", "costs", "[J", true)
  | 26 => ("PinSwapsModel", "least", "[J", true)
  | 27 => ("PinSwapsModel", "gets", "[I", true)
  | _ => ("PinSwapsModel", "fresh", "[I", true)
def ty_Mo : Nat → FieldType := fun k => match k with
  | 0 => .int
  | 1 => .int
  | 2 => .int
  | 3 => .array .int
  | 4 => .array .long
  | 5 => .array .long
  | 6 => .array .int
  | 7 => .array .int
  | 8 => .array .int
  | 9 => .array .boolean
  | 10 => .array .int
  | 11 => .array .boolean
  | 12 => .array .boolean
  | 13 => .array .long
  | 14 => .array .long
  | 15 => .array .int
  | 16 => .long
  | 17 => .int
  | 18 => .array .int
  | 19 => .array .int
  | 20 => .int
  | 21 => .array .int
  | 22 => .array .int
  | 23 => .int
  | 24 => .array .int
  | 25 => .array .long
  | 26 => .array .long
  | 27 => .array .int
  | _ => .array .int
theorem nm_Mo : ∀ a, a < 29 → ∀ b, b < 29 → a ≠ b → (ft_Mo a).2.1 ≠ (ft_Mo b).2.1 := by decide +kernel
theorem ty_Mo_ok : ∀ k, k < 29 → parseFieldDescriptor (ft_Mo k).2.2.1 = some (ty_Mo k) := by decide +kernel
theorem wi_Mo : ∀ w ∈ u_ws "PinSwapsModel" ft_Mo 29, w ∈ gw_T := gw_all (by decide +kernel) (by decide +kernel)
abbrev vwCl : List vw_C := [("PinSwaps", ft_PS, 6), ("PinSwaps$Gates", ft_Gt, 3), ("PinSwaps$History", ft_Hi, 4), ("PinSwaps$Matching", ft_Ma, 10), ("PinSwaps$Nets", ft_Ne, 4), ("PinSwaps$Pins", ft_Pi, 12), ("PinSwapsModel", ft_Mo, 29)]
abbrev bc_PS_init : ByteArray := prog_1_method_1_code
def yn_PS_init : MethodName := ⟨"PinSwaps", "<init>", "()V"⟩
abbrev bc_PS_group : ByteArray := prog_1_method_2_code
def yn_PS_group : MethodName := ⟨"PinSwaps", "group", "()I"⟩
abbrev bc_PS_pin : ByteArray := prog_1_method_3_code
def yn_PS_pin : MethodName := ⟨"PinSwaps", "pin", "(IJJI)I"⟩
abbrev bc_PS_target : ByteArray := prog_1_method_4_code
def yn_PS_target : MethodName := ⟨"PinSwaps", "target", "(IJJ)Z"⟩
abbrev bc_PS_lock : ByteArray := prog_1_method_5_code
def yn_PS_lock : MethodName := ⟨"PinSwaps", "lock", "(I)Z"⟩
abbrev bc_PS_pair : ByteArray := prog_1_method_6_code
def yn_PS_pair : MethodName := ⟨"PinSwaps", "pair", "(II)Z"⟩
abbrev bc_PS_bank : ByteArray := prog_1_method_7_code
def yn_PS_bank : MethodName := ⟨"PinSwaps", "bank", "(II)Z"⟩
abbrev bc_PS_needs : ByteArray := prog_1_method_8_code
def yn_PS_needs : MethodName := ⟨"PinSwaps", "needs", "(II)Z"⟩
abbrev bc_PS_run : ByteArray := prog_1_method_9_code
def yn_PS_run : MethodName := ⟨"PinSwaps", "run", "()I"⟩
abbrev bc_PS_netOf : ByteArray := prog_1_method_10_code
def yn_PS_netOf : MethodName := ⟨"PinSwaps", "netOf", "(I)I"⟩
abbrev bc_PS_sum : ByteArray := prog_1_method_11_code
def yn_PS_sum : MethodName := ⟨"PinSwaps", "sum", "()J"⟩
abbrev bc_PS_before : ByteArray := prog_1_method_12_code
def yn_PS_before : MethodName := ⟨"PinSwaps", "before", "()J"⟩
abbrev bc_PS_dual : ByteArray := prog_1_method_13_code
def yn_PS_dual : MethodName := ⟨"PinSwaps", "dual", "(II)J"⟩
abbrev bc_PS_note : ByteArray := prog_1_method_14_code
def yn_PS_note : MethodName := ⟨"PinSwaps", "note", "(II)I"⟩
abbrev bc_PS_gate : ByteArray := prog_1_method_15_code
def yn_PS_gate : MethodName := ⟨"PinSwaps", "gate", "(I)I"⟩
abbrev bc_PS_equalGate : ByteArray := prog_1_method_16_code
def yn_PS_equalGate : MethodName := ⟨"PinSwaps", "equalGate", "(II)Z"⟩
abbrev bc_PS_undo : ByteArray := prog_1_method_17_code
def yn_PS_undo : MethodName := ⟨"PinSwaps", "undo", "()Z"⟩
abbrev bc_PS_crossings : ByteArray := prog_1_method_18_code
def yn_PS_crossings : MethodName := ⟨"PinSwaps", "crossings", "()I"⟩
abbrev bc_PS_checkPin : ByteArray := prog_1_method_19_code
def yn_PS_checkPin : MethodName := ⟨"PinSwaps", "checkPin", "(I)V"⟩
abbrev bc_PS_checkNet : ByteArray := prog_1_method_20_code
def yn_PS_checkNet : MethodName := ⟨"PinSwaps", "checkNet", "(I)V"⟩
abbrev bc_PS_checkPlace : ByteArray := prog_1_method_21_code
def yn_PS_checkPlace : MethodName := ⟨"PinSwaps", "checkPlace", "(JJ)V"⟩
abbrev bc_PS_isNet : ByteArray := prog_1_method_22_code
def yn_PS_isNet : MethodName := ⟨"PinSwaps", "isNet", "(I)Z"⟩
abbrev bc_PS_cost : ByteArray := prog_1_method_23_code
def yn_PS_cost : MethodName := ⟨"PinSwaps", "cost", "(II)J"⟩
abbrev bc_PS_swapUnits : ByteArray := prog_1_method_24_code
def yn_PS_swapUnits : MethodName := ⟨"PinSwaps", "swapUnits", "(IZ[I)V"⟩
abbrev bc_PS_giveNets : ByteArray := prog_1_method_25_code
def yn_PS_giveNets : MethodName := ⟨"PinSwaps", "giveNets", "(II[I)V"⟩
abbrev bc_PS_countChanged : ByteArray := prog_1_method_26_code
def yn_PS_countChanged : MethodName := ⟨"PinSwaps", "countChanged", "([I)I"⟩
abbrev bc_PS_loadMatching : ByteArray := prog_1_method_27_code
def yn_PS_loadMatching : MethodName := ⟨"PinSwaps", "loadMatching", "(IZ)V"⟩
abbrev bc_PS_unitCost : ByteArray := prog_1_method_28_code
def yn_PS_unitCost : MethodName := ⟨"PinSwaps", "unitCost", "(II)J"⟩
abbrev bc_PS_waysCross : ByteArray := prog_1_method_29_code
def yn_PS_waysCross : MethodName := ⟨"PinSwaps", "waysCross", "(II)Z"⟩
abbrev bc_PS_partsEnds : ByteArray := prog_1_method_30_code
def yn_PS_partsEnds : MethodName := ⟨"PinSwaps", "partsEnds", "(II)Z"⟩
abbrev bc_PS_sideOfWay : ByteArray := prog_1_method_31_code
def yn_PS_sideOfWay : MethodName := ⟨"PinSwaps", "sideOfWay", "(IJJ)J"⟩
abbrev bc_Mo_init : ByteArray := prog_8_method_1_code
def yn_Mo_init : MethodName := ⟨"PinSwapsModel", "<init>", "()V"⟩
abbrev bc_Mo_thrown : ByteArray := prog_8_method_2_code
def yn_Mo_thrown : MethodName := ⟨"PinSwapsModel", "thrown", "()I"⟩
abbrev bc_Mo_group : ByteArray := prog_8_method_3_code
def yn_Mo_group : MethodName := ⟨"PinSwapsModel", "group", "()I"⟩
abbrev bc_Mo_isPlace : ByteArray := prog_8_method_4_code
def yn_Mo_isPlace : MethodName := ⟨"PinSwapsModel", "isPlace", "(JJ)Z"⟩
abbrev bc_Mo_isNet : ByteArray := prog_8_method_5_code
def yn_Mo_isNet : MethodName := ⟨"PinSwapsModel", "isNet", "(I)Z"⟩
abbrev bc_Mo_isPin : ByteArray := prog_8_method_6_code
def yn_Mo_isPin : MethodName := ⟨"PinSwapsModel", "isPin", "(I)Z"⟩
abbrev bc_Mo_pin : ByteArray := prog_8_method_7_code
def yn_Mo_pin : MethodName := ⟨"PinSwapsModel", "pin", "(IJJI)I"⟩
abbrev bc_Mo_target : ByteArray := prog_8_method_8_code
def yn_Mo_target : MethodName := ⟨"PinSwapsModel", "target", "(IJJ)Z"⟩
abbrev bc_Mo_lock : ByteArray := prog_8_method_9_code
def yn_Mo_lock : MethodName := ⟨"PinSwapsModel", "lock", "(I)Z"⟩
abbrev bc_Mo_pair : ByteArray := prog_8_method_10_code
def yn_Mo_pair : MethodName := ⟨"PinSwapsModel", "pair", "(II)Z"⟩
abbrev bc_Mo_bank : ByteArray := prog_8_method_11_code
def yn_Mo_bank : MethodName := ⟨"PinSwapsModel", "bank", "(II)Z"⟩
abbrev bc_Mo_needs : ByteArray := prog_8_method_12_code
def yn_Mo_needs : MethodName := ⟨"PinSwapsModel", "needs", "(II)Z"⟩
abbrev bc_Mo_size : ByteArray := prog_8_method_13_code
def yn_Mo_size : MethodName := ⟨"PinSwapsModel", "size", "(J)J"⟩
abbrev bc_Mo_cost : ByteArray := prog_8_method_14_code
def yn_Mo_cost : MethodName := ⟨"PinSwapsModel", "cost", "(II)J"⟩
abbrev bc_Mo_sumOf : ByteArray := prog_8_method_15_code
def yn_Mo_sumOf : MethodName := ⟨"PinSwapsModel", "sumOf", "()J"⟩
abbrev bc_Mo_sum : ByteArray := prog_8_method_16_code
def yn_Mo_sum : MethodName := ⟨"PinSwapsModel", "sum", "()J"⟩
abbrev bc_Mo_before : ByteArray := prog_8_method_17_code
def yn_Mo_before : MethodName := ⟨"PinSwapsModel", "before", "()J"⟩
abbrev bc_Mo_isUnit : ByteArray := prog_8_method_18_code
def yn_Mo_isUnit : MethodName := ⟨"PinSwapsModel", "isUnit", "(IIZ)Z"⟩
abbrev bc_Mo_unitCost : ByteArray := prog_8_method_19_code
def yn_Mo_unitCost : MethodName := ⟨"PinSwapsModel", "unitCost", "(IIZ)J"⟩
abbrev bc_Mo_bits : ByteArray := prog_8_method_20_code
def yn_Mo_bits : MethodName := ⟨"PinSwapsModel", "bits", "(I)I"⟩
abbrev bc_Mo_reckon : ByteArray := prog_8_method_21_code
def yn_Mo_reckon : MethodName := ⟨"PinSwapsModel", "reckon", "(IZII)V"⟩
abbrev bc_Mo_sumNow : ByteArray := prog_8_method_22_code
def yn_Mo_sumNow : MethodName := ⟨"PinSwapsModel", "sumNow", "()J"⟩
abbrev bc_Mo_fits : ByteArray := prog_8_method_23_code
def yn_Mo_fits : MethodName := ⟨"PinSwapsModel", "fits", "(III)Z"⟩
abbrev bc_Mo_choose : ByteArray := prog_8_method_24_code
def yn_Mo_choose : MethodName := ⟨"PinSwapsModel", "choose", "()V"⟩
abbrev bc_Mo_match : ByteArray := prog_8_method_25_code
def yn_Mo_match : MethodName := ⟨"PinSwapsModel", "match", "(IZ)V"⟩
abbrev bc_Mo_keepNets : ByteArray := prog_8_method_26_code
def yn_Mo_keepNets : MethodName := ⟨"PinSwapsModel", "keepNets", "()V"⟩
abbrev bc_Mo_run : ByteArray := prog_8_method_27_code
def yn_Mo_run : MethodName := ⟨"PinSwapsModel", "run", "()I"⟩
abbrev bc_Mo_undo : ByteArray := prog_8_method_28_code
def yn_Mo_undo : MethodName := ⟨"PinSwapsModel", "undo", "()Z"⟩
abbrev bc_Mo_netOf : ByteArray := prog_8_method_29_code
def yn_Mo_netOf : MethodName := ⟨"PinSwapsModel", "netOf", "(I)I"⟩
abbrev bc_Mo_dual : ByteArray := prog_8_method_30_code
def yn_Mo_dual : MethodName := ⟨"PinSwapsModel", "dual", "(II)J"⟩
abbrev bc_Mo_note : ByteArray := prog_8_method_31_code
def yn_Mo_note : MethodName := ⟨"PinSwapsModel", "note", "(II)I"⟩
abbrev bc_Mo_gate : ByteArray := prog_8_method_32_code
def yn_Mo_gate : MethodName := ⟨"PinSwapsModel", "gate", "(I)I"⟩
abbrev bc_Mo_isSo : ByteArray := prog_8_method_33_code
def yn_Mo_isSo : MethodName := ⟨"PinSwapsModel", "isSo", "(III)Z"⟩
abbrev bc_Mo_isOrder : ByteArray := prog_8_method_34_code
def yn_Mo_isOrder : MethodName := ⟨"PinSwapsModel", "isOrder", "(II)Z"⟩
abbrev bc_Mo_equalGate : ByteArray := prog_8_method_35_code
def yn_Mo_equalGate : MethodName := ⟨"PinSwapsModel", "equalGate", "(II)Z"⟩
abbrev bc_Mo_turn : ByteArray := prog_8_method_36_code
def yn_Mo_turn : MethodName := ⟨"PinSwapsModel", "turn", "(JJJJJJ)I"⟩
abbrev bc_Mo_cross : ByteArray := prog_8_method_37_code
def yn_Mo_cross : MethodName := ⟨"PinSwapsModel", "cross", "(II)Z"⟩
abbrev bc_Mo_crossings : ByteArray := prog_8_method_38_code
def yn_Mo_crossings : MethodName := ⟨"PinSwapsModel", "crossings", "()I"⟩
abbrev bc_Gt_init : ByteArray := prog_2_method_1_code
def yn_Gt_init : MethodName := ⟨"PinSwaps$Gates", "<init>", "()V"⟩
abbrev bc_Gt_add : ByteArray := prog_2_method_2_code
def yn_Gt_add : MethodName := ⟨"PinSwaps$Gates", "add", "(II)I"⟩
abbrev bc_Gt_areEqual : ByteArray := prog_2_method_3_code
def yn_Gt_areEqual : MethodName := ⟨"PinSwaps$Gates", "areEqual", "(II)Z"⟩
abbrev bc_Gt_reordered : ByteArray := prog_2_method_4_code
def yn_Gt_reordered : MethodName := ⟨"PinSwaps$Gates", "reordered", "(III)I"⟩
abbrev bc_Gt_reorderedInputs : ByteArray := prog_2_method_5_code
def yn_Gt_reorderedInputs : MethodName := ⟨"PinSwaps$Gates", "reorderedInputs", "(III)I"⟩
abbrev bc_Hi_init : ByteArray := prog_3_method_1_code
def yn_Hi_init : MethodName := ⟨"PinSwaps$History", "<init>", "()V"⟩
abbrev bc_Hi_begin : ByteArray := prog_3_method_2_code
def yn_Hi_begin : MethodName := ⟨"PinSwaps$History", "begin", "([II)[I"⟩
abbrev bc_Hi_keep : ByteArray := prog_3_method_3_code
def yn_Hi_keep : MethodName := ⟨"PinSwaps$History", "keep", "()V"⟩
abbrev bc_Hi_restore : ByteArray := prog_3_method_4_code
def yn_Hi_restore : MethodName := ⟨"PinSwaps$History", "restore", "([I)Z"⟩
abbrev bc_Ma_init : ByteArray := prog_4_method_1_code
def yn_Ma_init : MethodName := ⟨"PinSwaps$Matching", "<init>", "()V"⟩
abbrev bc_Ma_add : ByteArray := prog_4_method_2_code
def yn_Ma_add : MethodName := ⟨"PinSwaps$Matching", "add", "(I)V"⟩
abbrev bc_Ma_forbidOwn : ByteArray := prog_4_method_3_code
def yn_Ma_forbidOwn : MethodName := ⟨"PinSwaps$Matching", "forbidOwn", "(I)V"⟩
abbrev bc_Ma_forbidOthers : ByteArray := prog_4_method_4_code
def yn_Ma_forbidOthers : MethodName := ⟨"PinSwaps$Matching", "forbidOthers", "(I)V"⟩
abbrev bc_Ma_rowOfUnit : ByteArray := prog_4_method_5_code
def yn_Ma_rowOfUnit : MethodName := ⟨"PinSwaps$Matching", "rowOfUnit", "(I)I"⟩
abbrev bc_Ma_sumIfKept : ByteArray := prog_4_method_6_code
def yn_Ma_sumIfKept : MethodName := ⟨"PinSwaps$Matching", "sumIfKept", "()J"⟩
abbrev bc_Ma_solve : ByteArray := prog_4_method_7_code
def yn_Ma_solve : MethodName := ⟨"PinSwaps$Matching", "solve", "()J"⟩
abbrev bc_Ma_insert : ByteArray := prog_4_method_8_code
def yn_Ma_insert : MethodName := ⟨"PinSwaps$Matching", "insert", "(I)V"⟩
abbrev bc_Ma_forgetSeen : ByteArray := prog_4_method_9_code
def yn_Ma_forgetSeen : MethodName := ⟨"PinSwaps$Matching", "forgetSeen", "()V"⟩
abbrev bc_Ma_nextColumn : ByteArray := prog_4_method_10_code
def yn_Ma_nextColumn : MethodName := ⟨"PinSwaps$Matching", "nextColumn", "(I)I"⟩
abbrev bc_Ma_changePrices : ByteArray := prog_4_method_11_code
def yn_Ma_changePrices : MethodName := ⟨"PinSwaps$Matching", "changePrices", "(J)V"⟩
abbrev bc_Ma_extraCost : ByteArray := prog_4_method_12_code
def yn_Ma_extraCost : MethodName := ⟨"PinSwaps$Matching", "extraCost", "(II)J"⟩
abbrev bc_Ma_moveAlong : ByteArray := prog_4_method_13_code
def yn_Ma_moveAlong : MethodName := ⟨"PinSwaps$Matching", "moveAlong", "(I)V"⟩
abbrev bc_Ma_settleTies : ByteArray := prog_4_method_14_code
def yn_Ma_settleTies : MethodName := ⟨"PinSwaps$Matching", "settleTies", "()V"⟩
abbrev bc_Ma_takes : ByteArray := prog_4_method_15_code
def yn_Ma_takes : MethodName := ⟨"PinSwaps$Matching", "takes", "(II)Z"⟩
abbrev bc_Ma_columnOf : ByteArray := prog_4_method_16_code
def yn_Ma_columnOf : MethodName := ⟨"PinSwaps$Matching", "columnOf", "(I)I"⟩
abbrev bc_Ma_reaches : ByteArray := prog_4_method_17_code
def yn_Ma_reaches : MethodName := ⟨"PinSwaps$Matching", "reaches", "(III)Z"⟩
abbrev bc_Ma_queueFrom : ByteArray := prog_4_method_18_code
def yn_Ma_queueFrom : MethodName := ⟨"PinSwaps$Matching", "queueFrom", "(III)I"⟩
abbrev bc_Ne_init : ByteArray := prog_5_method_1_code
def yn_Ne_init : MethodName := ⟨"PinSwaps$Nets", "<init>", "()V"⟩
abbrev bc_Ne_aim : ByteArray := prog_5_method_2_code
def yn_Ne_aim : MethodName := ⟨"PinSwaps$Nets", "aim", "(IJJ)Z"⟩
abbrev bc_Pi_init : ByteArray := prog_6_method_1_code
def yn_Pi_init : MethodName := ⟨"PinSwaps$Pins", "<init>", "()V"⟩
abbrev bc_Pi_add : ByteArray := prog_6_method_2_code
def yn_Pi_add : MethodName := ⟨"PinSwaps$Pins", "add", "(IJJI)I"⟩
abbrev bc_Pi_join : ByteArray := prog_6_method_3_code
def yn_Pi_join : MethodName := ⟨"PinSwaps$Pins", "join", "(II)V"⟩
abbrev bc_Pi_isPaired : ByteArray := prog_6_method_4_code
def yn_Pi_isPaired : MethodName := ⟨"PinSwaps$Pins", "isPaired", "(I)Z"⟩
abbrev bc_Pi_unitOf : ByteArray := prog_6_method_5_code
def yn_Pi_unitOf : MethodName := ⟨"PinSwaps$Pins", "unitOf", "(I)I"⟩
abbrev bc_Pi_isUnitLocked : ByteArray := prog_6_method_6_code
def yn_Pi_isUnitLocked : MethodName := ⟨"PinSwaps$Pins", "isUnitLocked", "(I)Z"⟩
abbrev bc_Pi_isFreeUnit : ByteArray := prog_6_method_7_code
def yn_Pi_isFreeUnit : MethodName := ⟨"PinSwaps$Pins", "isFreeUnit", "(IZ)Z"⟩
abbrev bc_Pi_nthMoved : ByteArray := prog_6_method_8_code
def yn_Pi_nthMoved : MethodName := ⟨"PinSwaps$Pins", "nthMoved", "(I)I"⟩
abbrev bc_Lw_pin : ByteArray := method_3_code
def yn_Lw_pin : MethodName := ⟨"PinSwapsLaw", "pin", "(LPinSwaps;IJJI[J)I"⟩
abbrev bc_Lw_target : ByteArray := method_4_code
def yn_Lw_target : MethodName := ⟨"PinSwapsLaw", "target", "(LPinSwaps;IJJ[J)I"⟩
abbrev bc_Lw_lock : ByteArray := method_5_code
def yn_Lw_lock : MethodName := ⟨"PinSwapsLaw", "lock", "(LPinSwaps;I[J)I"⟩
abbrev bc_Lw_pair : ByteArray := method_6_code
def yn_Lw_pair : MethodName := ⟨"PinSwapsLaw", "pair", "(LPinSwaps;II[J)I"⟩
abbrev bc_Lw_bank : ByteArray := method_7_code
def yn_Lw_bank : MethodName := ⟨"PinSwapsLaw", "bank", "(LPinSwaps;II[J)I"⟩
abbrev bc_Lw_needs : ByteArray := method_8_code
def yn_Lw_needs : MethodName := ⟨"PinSwapsLaw", "needs", "(LPinSwaps;II[J)I"⟩
abbrev bc_Lw_netOf : ByteArray := method_9_code
def yn_Lw_netOf : MethodName := ⟨"PinSwapsLaw", "netOf", "(LPinSwaps;I[J)I"⟩
abbrev bc_Lw_dual : ByteArray := method_10_code
def yn_Lw_dual : MethodName := ⟨"PinSwapsLaw", "dual", "(LPinSwaps;II[J)I"⟩
abbrev bc_Lw_note : ByteArray := method_11_code
def yn_Lw_note : MethodName := ⟨"PinSwapsLaw", "note", "(LPinSwaps;II[J)I"⟩
abbrev bc_Lw_gate : ByteArray := method_12_code
def yn_Lw_gate : MethodName := ⟨"PinSwapsLaw", "gate", "(LPinSwaps;I[J)I"⟩
abbrev bc_Lw_equalGate : ByteArray := method_13_code
def yn_Lw_equalGate : MethodName := ⟨"PinSwapsLaw", "equalGate", "(LPinSwaps;II[J)I"⟩
abbrev bc_Lw_law : ByteArray := code
def yn_Lw_law : MethodName := ⟨"PinSwapsLaw", "law", "([I)Z"⟩
abbrev bc_Jm_abs : ByteArray := prog_12_method_61_code
def yn_Jm_abs : MethodName := ⟨"java/lang/Math", "abs", "(J)J"⟩
abbrev bc_Ar_fill : ByteArray := prog_17_method_103_code
def yn_Ar_fill : MethodName := ⟨"java/util/Arrays", "fill", "([II)V"⟩
abbrev bc_Ar_fillL : ByteArray := prog_17_method_101_code
def yn_Ar_fillL : MethodName := ⟨"java/util/Arrays", "fill", "([JJ)V"⟩
end
section
theorem dr_PS_init_0 : decode bc_PS_init 0 = .ok (.aload_n 0, 1) := by decide +kernel
theorem dr_PS_init_1 : decode bc_PS_init 1 = .ok (.invokespecial 1, 3) := by decide +kernel
theorem dr_PS_init_4 : decode bc_PS_init 4 = .ok (.aload_n 0, 1) := by decide +kernel
theorem dr_PS_init_5 : decode bc_PS_init 5 = .ok (.new 7, 3) := by decide +kernel
theorem dr_PS_init_8 : decode bc_PS_init 8 = .ok (.dup, 1) := by decide +kernel
theorem dr_PS_init_9 : decode bc_PS_init 9 = .ok (.invokespecial 9, 3) := by decide +kernel
theorem dr_PS_init_12 : decode bc_PS_init 12 = .ok (.putfield 10, 3) := by decide +kernel
theorem dr_PS_init_15 : decode bc_PS_init 15 = .ok (.aload_n 0, 1) := by decide +kernel
theorem dr_PS_init_16 : decode bc_PS_init 16 = .ok (.new 16, 3) := by decide +kernel
theorem dr_PS_init_19 : decode bc_PS_init 19 = .ok (.dup, 1) := by decide +kernel
theorem dr_PS_init_20 : decode bc_PS_init 20 = .ok (.invokespecial 18, 3) := by decide +kernel
theorem dr_PS_init_23 : decode bc_PS_init 23 = .ok (.putfield 19, 3) := by decide +kernel
theorem dr_PS_init_26 : decode bc_PS_init 26 = .ok (.aload_n 0, 1) := by decide +kernel
theorem dr_PS_init_27 : decode bc_PS_init 27 = .ok (.new 23, 3) := by decide +kernel
theorem dr_PS_init_30 : decode bc_PS_init 30 = .ok (.dup, 1) := by decide +kernel
theorem dr_PS_init_31 : decode bc_PS_init 31 = .ok (.invokespecial 25, 3) := by decide +kernel
theorem dr_PS_init_34 : decode bc_PS_init 34 = .ok (.putfield 26, 3) := by decide +kernel
theorem dr_PS_init_37 : decode bc_PS_init 37 = .ok (.aload_n 0, 1) := by decide +kernel
theorem dr_PS_init_38 : decode bc_PS_init 38 = .ok (.new 30, 3) := by decide +kernel
theorem dr_PS_init_41 : decode bc_PS_init 41 = .ok (.dup, 1) := by decide +kernel
theorem dr_PS_init_42 : decode bc_PS_init 42 = .ok (.invokespecial 32, 3) := by decide +kernel
theorem dr_PS_init_45 : decode bc_PS_init 45 = .ok (.putfield 33, 3) := by decide +kernel
theorem dr_PS_init_48 : decode bc_PS_init 48 = .ok (.aload_n 0, 1) := by decide +kernel
theorem dr_PS_init_49 : decode bc_PS_init 49 = .ok (.new 37, 3) := by decide +kernel
theorem dr_PS_init_52 : decode bc_PS_init 52 = .ok (.dup, 1) := by decide +kernel
theorem dr_PS_init_53 : decode bc_PS_init 53 = .ok (.invokespecial 39, 3) := by decide +kernel
theorem dr_PS_init_56 : decode bc_PS_init 56 = .ok (.putfield 40, 3) := by decide +kernel
theorem dr_PS_init_59 : decode bc_PS_init 59 = .ok (.return_, 1) := by decide +kernel
theorem dr_PS_group_0 : decode bc_PS_group 0 = .ok (.aload_n 0, 1) := by decide +kernel
theorem dr_PS_group_1 : decode bc_PS_group 1 = .ok (.getfield 10, 3) := by decide +kernel
theorem dr_PS_group_4 : decode bc_PS_group 4 = .ok (.getfield 44, 3) := by decide +kernel
theorem dr_PS_group_7 : decode bc_PS_group 7 = .ok (.bipush 12, 2) := by decide +kernel
theorem dr_PS_group_9 : decode bc_PS_group 9 = .ok (.if_icmp .lt 5, 3) := by decide +kernel
theorem dr_PS_group_12 : decode bc_PS_group 12 = .ok (.iconst (-1), 1) := by decide +kernel
theorem dr_PS_group_13 : decode bc_PS_group 13 = .ok (.ireturn, 1) := by decide +kernel
theorem dr_PS_group_14 : decode bc_PS_group 14 = .ok (.aload_n 0, 1) := by decide +kernel
theorem dr_PS_group_15 : decode bc_PS_group 15 = .ok (.getfield 10, 3) := by decide +kernel
theorem dr_PS_group_18 : decode bc_PS_group 18 = .ok (.dup, 1) := by decide +kernel
theorem dr_PS_group_19 : decode bc_PS_group 19 = .ok (.getfield 44, 3) := by decide +kernel
theorem dr_PS_group_22 : decode bc_PS_group 22 = .ok (.iconst 1, 1) := by decide +kernel
theorem dr_PS_group_23 : decode bc_PS_group 23 = .ok (.iadd, 1) := by decide +kernel
theorem dr_PS_group_24 : decode bc_PS_group 24 = .ok (.putfield 44, 3) := by decide +kernel
theorem dr_PS_group_27 : decode bc_PS_group 27 = .ok (.aload_n 0, 1) := by decide +kernel
theorem dr_PS_group_28 : decode bc_PS_group 28 = .ok (.getfield 10, 3) := by decide +kernel
theorem dr_PS_group_31 : decode bc_PS_group 31 = .ok (.getfield 44, 3) := by decide +kernel
theorem dr_PS_group_34 : decode bc_PS_group 34 = .ok (.iconst 1, 1) := by decide +kernel
theorem dr_PS_group_35 : decode bc_PS_group 35 = .ok (.isub, 1) := by decide +kernel
theorem dr_PS_group_36 : decode bc_PS_group 36 = .ok (.ireturn, 1) := by decide +kernel
theorem dr_PS_pin_0 : decode bc_PS_pin 0 = .ok (.iload_n 1, 1) := by decide +kernel
theorem dr_PS_pin_1 : decode bc_PS_pin 1 = .ok (.ifCond .lt 14, 3) := by decide +kernel
theorem dr_PS_pin_4 : decode bc_PS_pin 4 = .ok (.iload_n 1, 1) := by decide +kernel
theorem dr_PS_pin_5 : decode bc_PS_pin 5 = .ok (.aload_n 0, 1) := by decide +kernel
theorem dr_PS_pin_6 : decode bc_PS_pin 6 = .ok (.getfield 10, 3) := by decide +kernel
theorem dr_PS_pin_9 : decode bc_PS_pin 9 = .ok (.getfield 44, 3) := by decide +kernel
theorem dr_PS_pin_12 : decode bc_PS_pin 12 = .ok (.if_icmp .lt 13, 3) := by decide +kernel
theorem dr_PS_pin_15 : decode bc_PS_pin 15 = .ok (.new 48, 3) := by decide +kernel
theorem dr_PS_pin_18 : decode bc_PS_pin 18 = .ok (.dup, 1) := by decide +kernel
theorem dr_PS_pin_19 : decode bc_PS_pin 19 = .ok (.ldc 50, 2) := by decide +kernel
theorem dr_PS_pin_21 : decode bc_PS_pin 21 = .ok (.invokespecial 52, 3) := by decide +kernel
theorem dr_PS_pin_24 : decode bc_PS_pin 24 = .ok (.athrow, 1) := by decide +kernel
theorem dr_PS_pin_25 : decode bc_PS_pin 25 = .ok (.lload_n 2, 1) := by decide +kernel
theorem dr_PS_pin_26 : decode bc_PS_pin 26 = .ok (.lload 4, 2) := by decide +kernel
theorem dr_PS_pin_28 : decode bc_PS_pin 28 = .ok (.invokestatic 55, 3) := by decide +kernel
theorem dr_PS_pin_31 : decode bc_PS_pin 31 = .ok (.iload 6, 2) := by decide +kernel
theorem dr_PS_pin_33 : decode bc_PS_pin 33 = .ok (.invokestatic 59, 3) := by decide +kernel
theorem dr_PS_pin_36 : decode bc_PS_pin 36 = .ok (.ifCond .ne 13, 3) := by decide +kernel
theorem dr_PS_pin_39 : decode bc_PS_pin 39 = .ok (.new 63, 3) := by decide +kernel
theorem dr_PS_pin_42 : decode bc_PS_pin 42 = .ok (.dup, 1) := by decide +kernel
theorem dr_PS_pin_43 : decode bc_PS_pin 43 = .ok (.ldc 65, 2) := by decide +kernel
theorem dr_PS_pin_45 : decode bc_PS_pin 45 = .ok (.invokespecial 67, 3) := by decide +kernel
theorem dr_PS_pin_48 : decode bc_PS_pin 48 = .ok (.athrow, 1) := by decide +kernel
theorem dr_PS_pin_49 : decode bc_PS_pin 49 = .ok (.aload_n 0, 1) := by decide +kernel
theorem dr_PS_pin_50 : decode bc_PS_pin 50 = .ok (.getfield 10, 3) := by decide +kernel
theorem dr_PS_pin_53 : decode bc_PS_pin 53 = .ok (.getfield 68, 3) := by decide +kernel
theorem dr_PS_pin_56 : decode bc_PS_pin 56 = .ok (.bipush 80, 2) := by decide +kernel
theorem dr_PS_pin_58 : decode bc_PS_pin 58 = .ok (.if_icmp .ge 17, 3) := by decide +kernel
theorem dr_PS_pin_61 : decode bc_PS_pin 61 = .ok (.aload_n 0, 1) := by decide +kernel
theorem dr_PS_pin_62 : decode bc_PS_pin 62 = .ok (.getfield 10, 3) := by decide +kernel
theorem dr_PS_pin_65 : decode bc_PS_pin 65 = .ok (.getfield 71, 3) := by decide +kernel
theorem dr_PS_pin_68 : decode bc_PS_pin 68 = .ok (.iload_n 1, 1) := by decide +kernel
theorem dr_PS_pin_69 : decode bc_PS_pin 69 = .ok (.iaload, 1) := by decide +kernel
theorem dr_PS_pin_70 : decode bc_PS_pin 70 = .ok (.bipush 12, 2) := by decide +kernel
theorem dr_PS_pin_72 : decode bc_PS_pin 72 = .ok (.if_icmp .lt 5, 3) := by decide +kernel
theorem dr_PS_pin_75 : decode bc_PS_pin 75 = .ok (.iconst (-1), 1) := by decide +kernel
theorem dr_PS_pin_76 : decode bc_PS_pin 76 = .ok (.ireturn, 1) := by decide +kernel
theorem dr_PS_pin_77 : decode bc_PS_pin 77 = .ok (.aload_n 0, 1) := by decide +kernel
theorem dr_PS_pin_78 : decode bc_PS_pin 78 = .ok (.getfield 10, 3) := by decide +kernel
theorem dr_PS_pin_81 : decode bc_PS_pin 81 = .ok (.iload_n 1, 1) := by decide +kernel
theorem dr_PS_pin_82 : decode bc_PS_pin 82 = .ok (.lload_n 2, 1) := by decide +kernel
theorem dr_PS_pin_83 : decode bc_PS_pin 83 = .ok (.lload 4, 2) := by decide +kernel
theorem dr_PS_pin_85 : decode bc_PS_pin 85 = .ok (.iload 6, 2) := by decide +kernel
theorem dr_PS_pin_87 : decode bc_PS_pin 87 = .ok (.invokevirtual 75, 3) := by decide +kernel
theorem dr_PS_pin_90 : decode bc_PS_pin 90 = .ok (.ireturn, 1) := by decide +kernel
theorem dr_PS_target_0 : decode bc_PS_target 0 = .ok (.iload_n 1, 1) := by decide +kernel
theorem dr_PS_target_1 : decode bc_PS_target 1 = .ok (.invokestatic 79, 3) := by decide +kernel
theorem dr_PS_target_4 : decode bc_PS_target 4 = .ok (.lload_n 2, 1) := by decide +kernel
theorem dr_PS_target_5 : decode bc_PS_target 5 = .ok (.lload 4, 2) := by decide +kernel
theorem dr_PS_target_7 : decode bc_PS_target 7 = .ok (.invokestatic 55, 3) := by decide +kernel
theorem dr_PS_target_10 : decode bc_PS_target 10 = .ok (.aload_n 0, 1) := by decide +kernel
theorem dr_PS_target_11 : decode bc_PS_target 11 = .ok (.getfield 19, 3) := by decide +kernel
theorem dr_PS_target_14 : decode bc_PS_target 14 = .ok (.iload_n 1, 1) := by decide +kernel
theorem dr_PS_target_15 : decode bc_PS_target 15 = .ok (.lload_n 2, 1) := by decide +kernel
theorem dr_PS_target_16 : decode bc_PS_target 16 = .ok (.lload 4, 2) := by decide +kernel
theorem dr_PS_target_18 : decode bc_PS_target 18 = .ok (.invokevirtual 83, 3) := by decide +kernel
theorem dr_PS_target_21 : decode bc_PS_target 21 = .ok (.ireturn, 1) := by decide +kernel
theorem dr_PS_lock_0 : decode bc_PS_lock 0 = .ok (.aload_n 0, 1) := by decide +kernel
theorem dr_PS_lock_1 : decode bc_PS_lock 1 = .ok (.iload_n 1, 1) := by decide +kernel
theorem dr_PS_lock_2 : decode bc_PS_lock 2 = .ok (.invokevirtual 87, 3) := by decide +kernel
theorem dr_PS_lock_5 : decode bc_PS_lock 5 = .ok (.aload_n 0, 1) := by decide +kernel
theorem dr_PS_lock_6 : decode bc_PS_lock 6 = .ok (.getfield 10, 3) := by decide +kernel
theorem dr_PS_lock_9 : decode bc_PS_lock 9 = .ok (.getfield 90, 3) := by decide +kernel
theorem dr_PS_lock_12 : decode bc_PS_lock 12 = .ok (.iload_n 1, 1) := by decide +kernel
theorem dr_PS_lock_13 : decode bc_PS_lock 13 = .ok (.baload, 1) := by decide +kernel
theorem dr_PS_lock_14 : decode bc_PS_lock 14 = .ok (.istore_n 2, 1) := by decide +kernel
theorem dr_PS_lock_15 : decode bc_PS_lock 15 = .ok (.aload_n 0, 1) := by decide +kernel
theorem dr_PS_lock_16 : decode bc_PS_lock 16 = .ok (.getfield 10, 3) := by decide +kernel
theorem dr_PS_lock_19 : decode bc_PS_lock 19 = .ok (.getfield 90, 3) := by decide +kernel
theorem dr_PS_lock_22 : decode bc_PS_lock 22 = .ok (.iload_n 1, 1) := by decide +kernel
theorem dr_PS_lock_23 : decode bc_PS_lock 23 = .ok (.iconst 1, 1) := by decide +kernel
theorem dr_PS_lock_24 : decode bc_PS_lock 24 = .ok (.bastore, 1) := by decide +kernel
theorem dr_PS_lock_25 : decode bc_PS_lock 25 = .ok (.iload_n 2, 1) := by decide +kernel
theorem dr_PS_lock_26 : decode bc_PS_lock 26 = .ok (.ifCond .ne 7, 3) := by decide +kernel
theorem dr_PS_lock_29 : decode bc_PS_lock 29 = .ok (.iconst 1, 1) := by decide +kernel
theorem dr_PS_lock_30 : decode bc_PS_lock 30 = .ok (.goto 4, 3) := by decide +kernel
theorem dr_PS_lock_33 : decode bc_PS_lock 33 = .ok (.iconst 0, 1) := by decide +kernel
theorem dr_PS_lock_34 : decode bc_PS_lock 34 = .ok (.ireturn, 1) := by decide +kernel
theorem dr_PS_pair_0 : decode bc_PS_pair 0 = .ok (.aload_n 0, 1) := by decide +kernel
theorem dr_PS_pair_1 : decode bc_PS_pair 1 = .ok (.iload_n 1, 1) := by decide +kernel
theorem dr_PS_pair_2 : decode bc_PS_pair 2 = .ok (.invokevirtual 87, 3) := by decide +kernel
theorem dr_PS_pair_5 : decode bc_PS_pair 5 = .ok (.aload_n 0, 1) := by decide +kernel
theorem dr_PS_pair_6 : decode bc_PS_pair 6 = .ok (.iload_n 2, 1) := by decide +kernel
theorem dr_PS_pair_7 : decode bc_PS_pair 7 = .ok (.invokevirtual 87, 3) := by decide +kernel
theorem dr_PS_pair_10 : decode bc_PS_pair 10 = .ok (.iload_n 1, 1) := by decide +kernel
theorem dr_PS_pair_11 : decode bc_PS_pair 11 = .ok (.iload_n 2, 1) := by decide +kernel
theorem dr_PS_pair_12 : decode bc_PS_pair 12 = .ok (.if_icmp .eq 24, 3) := by decide +kernel
theorem dr_PS_pair_15 : decode bc_PS_pair 15 = .ok (.aload_n 0, 1) := by decide +kernel
theorem dr_PS_pair_16 : decode bc_PS_pair 16 = .ok (.getfield 10, 3) := by decide +kernel
theorem dr_PS_pair_19 : decode bc_PS_pair 19 = .ok (.getfield 94, 3) := by decide +kernel
theorem dr_PS_pair_22 : decode bc_PS_pair 22 = .ok (.iload_n 1, 1) := by decide +kernel
theorem dr_PS_pair_23 : decode bc_PS_pair 23 = .ok (.iaload, 1) := by decide +kernel
theorem dr_PS_pair_24 : decode bc_PS_pair 24 = .ok (.aload_n 0, 1) := by decide +kernel
theorem dr_PS_pair_25 : decode bc_PS_pair 25 = .ok (.getfield 10, 3) := by decide +kernel
theorem dr_PS_pair_28 : decode bc_PS_pair 28 = .ok (.getfield 94, 3) := by decide +kernel
theorem dr_PS_pair_31 : decode bc_PS_pair 31 = .ok (.iload_n 2, 1) := by decide +kernel
theorem dr_PS_pair_32 : decode bc_PS_pair 32 = .ok (.iaload, 1) := by decide +kernel
theorem dr_PS_pair_33 : decode bc_PS_pair 33 = .ok (.if_icmp .eq 5, 3) := by decide +kernel
theorem dr_PS_pair_36 : decode bc_PS_pair 36 = .ok (.iconst 0, 1) := by decide +kernel
theorem dr_PS_pair_37 : decode bc_PS_pair 37 = .ok (.ireturn, 1) := by decide +kernel
theorem dr_PS_pair_38 : decode bc_PS_pair 38 = .ok (.aload_n 0, 1) := by decide +kernel
theorem dr_PS_pair_39 : decode bc_PS_pair 39 = .ok (.getfield 10, 3) := by decide +kernel
theorem dr_PS_pair_42 : decode bc_PS_pair 42 = .ok (.iload_n 1, 1) := by decide +kernel
theorem dr_PS_pair_43 : decode bc_PS_pair 43 = .ok (.invokevirtual 97, 3) := by decide +kernel
theorem dr_PS_pair_46 : decode bc_PS_pair 46 = .ok (.ifCond .ne 14, 3) := by decide +kernel
theorem dr_PS_pair_49 : decode bc_PS_pair 49 = .ok (.aload_n 0, 1) := by decide +kernel
theorem dr_PS_pair_50 : decode bc_PS_pair 50 = .ok (.getfield 10, 3) := by decide +kernel
theorem dr_PS_pair_53 : decode bc_PS_pair 53 = .ok (.iload_n 2, 1) := by decide +kernel
theorem dr_PS_pair_54 : decode bc_PS_pair 54 = .ok (.invokevirtual 97, 3) := by decide +kernel
theorem dr_PS_pair_57 : decode bc_PS_pair 57 = .ok (.ifCond .eq 5, 3) := by decide +kernel
theorem dr_PS_pair_60 : decode bc_PS_pair 60 = .ok (.iconst 0, 1) := by decide +kernel
theorem dr_PS_pair_61 : decode bc_PS_pair 61 = .ok (.ireturn, 1) := by decide +kernel
theorem dr_PS_pair_62 : decode bc_PS_pair 62 = .ok (.aload_n 0, 1) := by decide +kernel
theorem dr_PS_pair_63 : decode bc_PS_pair 63 = .ok (.getfield 10, 3) := by decide +kernel
theorem dr_PS_pair_66 : decode bc_PS_pair 66 = .ok (.iload_n 1, 1) := by decide +kernel
theorem dr_PS_pair_67 : decode bc_PS_pair 67 = .ok (.iload_n 2, 1) := by decide +kernel
theorem dr_PS_pair_68 : decode bc_PS_pair 68 = .ok (.invokevirtual 100, 3) := by decide +kernel
theorem dr_PS_pair_71 : decode bc_PS_pair 71 = .ok (.iconst 1, 1) := by decide +kernel
theorem dr_PS_pair_72 : decode bc_PS_pair 72 = .ok (.ireturn, 1) := by decide +kernel
theorem dr_PS_bank_0 : decode bc_PS_bank 0 = .ok (.aload_n 0, 1) := by decide +kernel
theorem dr_PS_bank_1 : decode bc_PS_bank 1 = .ok (.iload_n 1, 1) := by decide +kernel
theorem dr_PS_bank_2 : decode bc_PS_bank 2 = .ok (.invokevirtual 87, 3) := by decide +kernel
theorem dr_PS_bank_5 : decode bc_PS_bank 5 = .ok (.iload_n 2, 1) := by decide +kernel
theorem dr_PS_bank_6 : decode bc_PS_bank 6 = .ok (.ifCond .lt 9, 3) := by decide +kernel
theorem dr_PS_bank_9 : decode bc_PS_bank 9 = .ok (.iload_n 2, 1) := by decide +kernel
theorem dr_PS_bank_10 : decode bc_PS_bank 10 = .ok (.bipush 16, 2) := by decide +kernel
theorem dr_PS_bank_12 : decode bc_PS_bank 12 = .ok (.if_icmp .lt 13, 3) := by decide +kernel
theorem dr_PS_bank_15 : decode bc_PS_bank 15 = .ok (.new 63, 3) := by decide +kernel
theorem dr_PS_bank_18 : decode bc_PS_bank 18 = .ok (.dup, 1) := by decide +kernel
theorem dr_PS_bank_19 : decode bc_PS_bank 19 = .ok (.ldc 104, 2) := by decide +kernel
theorem dr_PS_bank_21 : decode bc_PS_bank 21 = .ok (.invokespecial 67, 3) := by decide +kernel
theorem dr_PS_bank_24 : decode bc_PS_bank 24 = .ok (.athrow, 1) := by decide +kernel
theorem dr_PS_bank_25 : decode bc_PS_bank 25 = .ok (.aload_n 0, 1) := by decide +kernel
theorem dr_PS_bank_26 : decode bc_PS_bank 26 = .ok (.getfield 10, 3) := by decide +kernel
theorem dr_PS_bank_29 : decode bc_PS_bank 29 = .ok (.getfield 106, 3) := by decide +kernel
theorem dr_PS_bank_32 : decode bc_PS_bank 32 = .ok (.iload_n 1, 1) := by decide +kernel
theorem dr_PS_bank_33 : decode bc_PS_bank 33 = .ok (.iaload, 1) := by decide +kernel
theorem dr_PS_bank_34 : decode bc_PS_bank 34 = .ok (.iload_n 2, 1) := by decide +kernel
theorem dr_PS_bank_35 : decode bc_PS_bank 35 = .ok (.if_icmp .eq 7, 3) := by decide +kernel
theorem dr_PS_bank_38 : decode bc_PS_bank 38 = .ok (.iconst 1, 1) := by decide +kernel
theorem dr_PS_bank_39 : decode bc_PS_bank 39 = .ok (.goto 4, 3) := by decide +kernel
theorem dr_PS_bank_42 : decode bc_PS_bank 42 = .ok (.iconst 0, 1) := by decide +kernel
theorem dr_PS_bank_43 : decode bc_PS_bank 43 = .ok (.istore_n 3, 1) := by decide +kernel
theorem dr_PS_bank_44 : decode bc_PS_bank 44 = .ok (.aload_n 0, 1) := by decide +kernel
theorem dr_PS_bank_45 : decode bc_PS_bank 45 = .ok (.getfield 10, 3) := by decide +kernel
theorem dr_PS_bank_48 : decode bc_PS_bank 48 = .ok (.getfield 106, 3) := by decide +kernel
theorem dr_PS_bank_51 : decode bc_PS_bank 51 = .ok (.iload_n 1, 1) := by decide +kernel
theorem dr_PS_bank_52 : decode bc_PS_bank 52 = .ok (.iload_n 2, 1) := by decide +kernel
theorem dr_PS_bank_53 : decode bc_PS_bank 53 = .ok (.iastore, 1) := by decide +kernel
theorem dr_PS_bank_54 : decode bc_PS_bank 54 = .ok (.iload_n 3, 1) := by decide +kernel
theorem dr_PS_bank_55 : decode bc_PS_bank 55 = .ok (.ireturn, 1) := by decide +kernel
theorem dr_PS_needs_0 : decode bc_PS_needs 0 = .ok (.iload_n 1, 1) := by decide +kernel
theorem dr_PS_needs_1 : decode bc_PS_needs 1 = .ok (.invokestatic 79, 3) := by decide +kernel
theorem dr_PS_needs_4 : decode bc_PS_needs 4 = .ok (.iload_n 2, 1) := by decide +kernel
theorem dr_PS_needs_5 : decode bc_PS_needs 5 = .ok (.iconst (-1), 1) := by decide +kernel
theorem dr_PS_needs_6 : decode bc_PS_needs 6 = .ok (.if_icmp .lt 9, 3) := by decide +kernel
theorem dr_PS_needs_9 : decode bc_PS_needs 9 = .ok (.iload_n 2, 1) := by decide +kernel
theorem dr_PS_needs_10 : decode bc_PS_needs 10 = .ok (.bipush 16, 2) := by decide +kernel
theorem dr_PS_needs_12 : decode bc_PS_needs 12 = .ok (.if_icmp .lt 13, 3) := by decide +kernel
theorem dr_PS_needs_15 : decode bc_PS_needs 15 = .ok (.new 63, 3) := by decide +kernel
theorem dr_PS_needs_18 : decode bc_PS_needs 18 = .ok (.dup, 1) := by decide +kernel
theorem dr_PS_needs_19 : decode bc_PS_needs 19 = .ok (.ldc 109, 2) := by decide +kernel
theorem dr_PS_needs_21 : decode bc_PS_needs 21 = .ok (.invokespecial 67, 3) := by decide +kernel
theorem dr_PS_needs_24 : decode bc_PS_needs 24 = .ok (.athrow, 1) := by decide +kernel
theorem dr_PS_needs_25 : decode bc_PS_needs 25 = .ok (.aload_n 0, 1) := by decide +kernel
theorem dr_PS_needs_26 : decode bc_PS_needs 26 = .ok (.getfield 19, 3) := by decide +kernel
theorem dr_PS_needs_29 : decode bc_PS_needs 29 = .ok (.getfield 111, 3) := by decide +kernel
theorem dr_PS_needs_32 : decode bc_PS_needs 32 = .ok (.iload_n 1, 1) := by decide +kernel
theorem dr_PS_needs_33 : decode bc_PS_needs 33 = .ok (.iaload, 1) := by decide +kernel
theorem dr_PS_needs_34 : decode bc_PS_needs 34 = .ok (.iload_n 2, 1) := by decide +kernel
theorem dr_PS_needs_35 : decode bc_PS_needs 35 = .ok (.if_icmp .eq 7, 3) := by decide +kernel
theorem dr_PS_needs_38 : decode bc_PS_needs 38 = .ok (.iconst 1, 1) := by decide +kernel
theorem dr_PS_needs_39 : decode bc_PS_needs 39 = .ok (.goto 4, 3) := by decide +kernel
theorem dr_PS_needs_42 : decode bc_PS_needs 42 = .ok (.iconst 0, 1) := by decide +kernel
theorem dr_PS_needs_43 : decode bc_PS_needs 43 = .ok (.istore_n 3, 1) := by decide +kernel
theorem dr_PS_needs_44 : decode bc_PS_needs 44 = .ok (.aload_n 0, 1) := by decide +kernel
theorem dr_PS_needs_45 : decode bc_PS_needs 45 = .ok (.getfield 19, 3) := by decide +kernel
theorem dr_PS_needs_48 : decode bc_PS_needs 48 = .ok (.getfield 111, 3) := by decide +kernel
theorem dr_PS_needs_51 : decode bc_PS_needs 51 = .ok (.iload_n 1, 1) := by decide +kernel
theorem dr_PS_needs_52 : decode bc_PS_needs 52 = .ok (.iload_n 2, 1) := by decide +kernel
theorem dr_PS_needs_53 : decode bc_PS_needs 53 = .ok (.iastore, 1) := by decide +kernel
theorem dr_PS_needs_54 : decode bc_PS_needs 54 = .ok (.iload_n 3, 1) := by decide +kernel
theorem dr_PS_needs_55 : decode bc_PS_needs 55 = .ok (.ireturn, 1) := by decide +kernel
theorem dr_PS_run_0 : decode bc_PS_run 0 = .ok (.aload_n 0, 1) := by decide +kernel
theorem dr_PS_run_1 : decode bc_PS_run 1 = .ok (.aload_n 0, 1) := by decide +kernel
theorem dr_PS_run_2 : decode bc_PS_run 2 = .ok (.invokevirtual 114, 3) := by decide +kernel
theorem dr_PS_run_5 : decode bc_PS_run 5 = .ok (.putfield 118, 3) := by decide +kernel
theorem dr_PS_run_8 : decode bc_PS_run 8 = .ok (.aload_n 0, 1) := by decide +kernel
theorem dr_PS_run_9 : decode bc_PS_run 9 = .ok (.getfield 33, 3) := by decide +kernel
theorem dr_PS_run_12 : decode bc_PS_run 12 = .ok (.aload_n 0, 1) := by decide +kernel
theorem dr_PS_run_13 : decode bc_PS_run 13 = .ok (.getfield 10, 3) := by decide +kernel
theorem dr_PS_run_16 : decode bc_PS_run 16 = .ok (.getfield 122, 3) := by decide +kernel
theorem dr_PS_run_19 : decode bc_PS_run 19 = .ok (.aload_n 0, 1) := by decide +kernel
theorem dr_PS_run_20 : decode bc_PS_run 20 = .ok (.getfield 10, 3) := by decide +kernel
theorem dr_PS_run_23 : decode bc_PS_run 23 = .ok (.getfield 68, 3) := by decide +kernel
theorem dr_PS_run_26 : decode bc_PS_run 26 = .ok (.invokevirtual 125, 3) := by decide +kernel
theorem dr_PS_run_29 : decode bc_PS_run 29 = .ok (.astore_n 1, 1) := by decide +kernel
theorem dr_PS_run_30 : decode bc_PS_run 30 = .ok (.iconst 0, 1) := by decide +kernel
theorem dr_PS_run_31 : decode bc_PS_run 31 = .ok (.istore_n 2, 1) := by decide +kernel
theorem dr_PS_run_32 : decode bc_PS_run 32 = .ok (.iload_n 2, 1) := by decide +kernel
theorem dr_PS_run_33 : decode bc_PS_run 33 = .ok (.aload_n 0, 1) := by decide +kernel
theorem dr_PS_run_34 : decode bc_PS_run 34 = .ok (.getfield 10, 3) := by decide +kernel
theorem dr_PS_run_37 : decode bc_PS_run 37 = .ok (.getfield 44, 3) := by decide +kernel
theorem dr_PS_run_40 : decode bc_PS_run 40 = .ok (.if_icmp .ge 23, 3) := by decide +kernel
theorem dr_PS_run_43 : decode bc_PS_run 43 = .ok (.aload_n 0, 1) := by decide +kernel
theorem dr_PS_run_44 : decode bc_PS_run 44 = .ok (.iload_n 2, 1) := by decide +kernel
theorem dr_PS_run_45 : decode bc_PS_run 45 = .ok (.iconst 0, 1) := by decide +kernel
theorem dr_PS_run_46 : decode bc_PS_run 46 = .ok (.aload_n 1, 1) := by decide +kernel
theorem dr_PS_run_47 : decode bc_PS_run 47 = .ok (.invokevirtual 129, 3) := by decide +kernel
theorem dr_PS_run_50 : decode bc_PS_run 50 = .ok (.aload_n 0, 1) := by decide +kernel
theorem dr_PS_run_51 : decode bc_PS_run 51 = .ok (.iload_n 2, 1) := by decide +kernel
theorem dr_PS_run_52 : decode bc_PS_run 52 = .ok (.iconst 1, 1) := by decide +kernel
theorem dr_PS_run_53 : decode bc_PS_run 53 = .ok (.aload_n 1, 1) := by decide +kernel
theorem dr_PS_run_54 : decode bc_PS_run 54 = .ok (.invokevirtual 129, 3) := by decide +kernel
theorem dr_PS_run_57 : decode bc_PS_run 57 = .ok (.iinc 2 1, 3) := by decide +kernel
theorem dr_PS_run_60 : decode bc_PS_run 60 = .ok (.goto (-28), 3) := by decide +kernel
theorem dr_PS_run_63 : decode bc_PS_run 63 = .ok (.aload_n 0, 1) := by decide +kernel
theorem dr_PS_run_64 : decode bc_PS_run 64 = .ok (.aload_n 1, 1) := by decide +kernel
theorem dr_PS_run_65 : decode bc_PS_run 65 = .ok (.invokevirtual 133, 3) := by decide +kernel
theorem dr_PS_run_68 : decode bc_PS_run 68 = .ok (.istore_n 2, 1) := by decide +kernel
theorem dr_PS_run_69 : decode bc_PS_run 69 = .ok (.iload_n 2, 1) := by decide +kernel
theorem dr_PS_run_70 : decode bc_PS_run 70 = .ok (.ifCond .le 10, 3) := by decide +kernel
theorem dr_PS_run_73 : decode bc_PS_run 73 = .ok (.aload_n 0, 1) := by decide +kernel
theorem dr_PS_run_74 : decode bc_PS_run 74 = .ok (.getfield 33, 3) := by decide +kernel
theorem dr_PS_run_77 : decode bc_PS_run 77 = .ok (.invokevirtual 137, 3) := by decide +kernel
theorem dr_PS_run_80 : decode bc_PS_run 80 = .ok (.iload_n 2, 1) := by decide +kernel
theorem dr_PS_run_81 : decode bc_PS_run 81 = .ok (.ireturn, 1) := by decide +kernel
theorem dr_PS_netOf_0 : decode bc_PS_netOf 0 = .ok (.aload_n 0, 1) := by decide +kernel
theorem dr_PS_netOf_1 : decode bc_PS_netOf 1 = .ok (.iload_n 1, 1) := by decide +kernel
theorem dr_PS_netOf_2 : decode bc_PS_netOf 2 = .ok (.invokevirtual 87, 3) := by decide +kernel
theorem dr_PS_netOf_5 : decode bc_PS_netOf 5 = .ok (.aload_n 0, 1) := by decide +kernel
theorem dr_PS_netOf_6 : decode bc_PS_netOf 6 = .ok (.getfield 10, 3) := by decide +kernel
theorem dr_PS_netOf_9 : decode bc_PS_netOf 9 = .ok (.getfield 122, 3) := by decide +kernel
theorem dr_PS_netOf_12 : decode bc_PS_netOf 12 = .ok (.iload_n 1, 1) := by decide +kernel
theorem dr_PS_netOf_13 : decode bc_PS_netOf 13 = .ok (.iaload, 1) := by decide +kernel
theorem dr_PS_netOf_14 : decode bc_PS_netOf 14 = .ok (.ireturn, 1) := by decide +kernel
theorem dr_PS_sum_0 : decode bc_PS_sum 0 = .ok (.lconst 0, 1) := by decide +kernel
theorem dr_PS_sum_1 : decode bc_PS_sum 1 = .ok (.lstore_n 1, 1) := by decide +kernel
theorem dr_PS_sum_2 : decode bc_PS_sum 2 = .ok (.iconst 0, 1) := by decide +kernel
theorem dr_PS_sum_3 : decode bc_PS_sum 3 = .ok (.istore_n 3, 1) := by decide +kernel
theorem dr_PS_sum_4 : decode bc_PS_sum 4 = .ok (.iload_n 3, 1) := by decide +kernel
theorem dr_PS_sum_5 : decode bc_PS_sum 5 = .ok (.aload_n 0, 1) := by decide +kernel
theorem dr_PS_sum_6 : decode bc_PS_sum 6 = .ok (.getfield 10, 3) := by decide +kernel
theorem dr_PS_sum_9 : decode bc_PS_sum 9 = .ok (.getfield 68, 3) := by decide +kernel
theorem dr_PS_sum_12 : decode bc_PS_sum 12 = .ok (.if_icmp .ge 26, 3) := by decide +kernel
theorem dr_PS_sum_15 : decode bc_PS_sum 15 = .ok (.lload_n 1, 1) := by decide +kernel
theorem dr_PS_sum_16 : decode bc_PS_sum 16 = .ok (.aload_n 0, 1) := by decide +kernel
theorem dr_PS_sum_17 : decode bc_PS_sum 17 = .ok (.aload_n 0, 1) := by decide +kernel
theorem dr_PS_sum_18 : decode bc_PS_sum 18 = .ok (.getfield 10, 3) := by decide +kernel
theorem dr_PS_sum_21 : decode bc_PS_sum 21 = .ok (.getfield 122, 3) := by decide +kernel
theorem dr_PS_sum_24 : decode bc_PS_sum 24 = .ok (.iload_n 3, 1) := by decide +kernel
theorem dr_PS_sum_25 : decode bc_PS_sum 25 = .ok (.iaload, 1) := by decide +kernel
theorem dr_PS_sum_26 : decode bc_PS_sum 26 = .ok (.iload_n 3, 1) := by decide +kernel
theorem dr_PS_sum_27 : decode bc_PS_sum 27 = .ok (.invokevirtual 140, 3) := by decide +kernel
theorem dr_PS_sum_30 : decode bc_PS_sum 30 = .ok (.ladd, 1) := by decide +kernel
theorem dr_PS_sum_31 : decode bc_PS_sum 31 = .ok (.lstore_n 1, 1) := by decide +kernel
theorem dr_PS_sum_32 : decode bc_PS_sum 32 = .ok (.iinc 3 1, 3) := by decide +kernel
theorem dr_PS_sum_35 : decode bc_PS_sum 35 = .ok (.goto (-31), 3) := by decide +kernel
theorem dr_PS_sum_38 : decode bc_PS_sum 38 = .ok (.lload_n 1, 1) := by decide +kernel
theorem dr_PS_sum_39 : decode bc_PS_sum 39 = .ok (.lreturn, 1) := by decide +kernel
theorem dr_PS_before_0 : decode bc_PS_before 0 = .ok (.aload_n 0, 1) := by decide +kernel
theorem dr_PS_before_1 : decode bc_PS_before 1 = .ok (.getfield 118, 3) := by decide +kernel
theorem dr_PS_before_4 : decode bc_PS_before 4 = .ok (.lreturn, 1) := by decide +kernel
theorem dr_PS_dual_0 : decode bc_PS_dual 0 = .ok (.aload_n 0, 1) := by decide +kernel
theorem dr_PS_dual_1 : decode bc_PS_dual 1 = .ok (.iload_n 2, 1) := by decide +kernel
theorem dr_PS_dual_2 : decode bc_PS_dual 2 = .ok (.invokevirtual 87, 3) := by decide +kernel
theorem dr_PS_dual_5 : decode bc_PS_dual 5 = .ok (.iload_n 1, 1) := by decide +kernel
theorem dr_PS_dual_6 : decode bc_PS_dual 6 = .ok (.ifCond .eq 18, 3) := by decide +kernel
theorem dr_PS_dual_9 : decode bc_PS_dual 9 = .ok (.iload_n 1, 1) := by decide +kernel
theorem dr_PS_dual_10 : decode bc_PS_dual 10 = .ok (.iconst 1, 1) := by decide +kernel
theorem dr_PS_dual_11 : decode bc_PS_dual 11 = .ok (.if_icmp .eq 13, 3) := by decide +kernel
theorem dr_PS_dual_14 : decode bc_PS_dual 14 = .ok (.new 48, 3) := by decide +kernel
theorem dr_PS_dual_17 : decode bc_PS_dual 17 = .ok (.dup, 1) := by decide +kernel
theorem dr_PS_dual_18 : decode bc_PS_dual 18 = .ok (.ldc 144, 2) := by decide +kernel
theorem dr_PS_dual_20 : decode bc_PS_dual 20 = .ok (.invokespecial 52, 3) := by decide +kernel
theorem dr_PS_dual_23 : decode bc_PS_dual 23 = .ok (.athrow, 1) := by decide +kernel
theorem dr_PS_dual_24 : decode bc_PS_dual 24 = .ok (.aload_n 0, 1) := by decide +kernel
theorem dr_PS_dual_25 : decode bc_PS_dual 25 = .ok (.getfield 10, 3) := by decide +kernel
theorem dr_PS_dual_28 : decode bc_PS_dual 28 = .ok (.iload_n 2, 1) := by decide +kernel
theorem dr_PS_dual_29 : decode bc_PS_dual 29 = .ok (.invokevirtual 146, 3) := by decide +kernel
theorem dr_PS_dual_32 : decode bc_PS_dual 32 = .ok (.istore_n 3, 1) := by decide +kernel
theorem dr_PS_dual_33 : decode bc_PS_dual 33 = .ok (.aload_n 0, 1) := by decide +kernel
theorem dr_PS_dual_34 : decode bc_PS_dual 34 = .ok (.getfield 10, 3) := by decide +kernel
theorem dr_PS_dual_37 : decode bc_PS_dual 37 = .ok (.iload_n 3, 1) := by decide +kernel
theorem dr_PS_dual_38 : decode bc_PS_dual 38 = .ok (.invokevirtual 150, 3) := by decide +kernel
theorem dr_PS_dual_41 : decode bc_PS_dual 41 = .ok (.ifCond .eq 7, 3) := by decide +kernel
theorem dr_PS_dual_44 : decode bc_PS_dual 44 = .ok (.ldc2_w 153, 3) := by decide +kernel
theorem dr_PS_dual_47 : decode bc_PS_dual 47 = .ok (.lreturn, 1) := by decide +kernel
theorem dr_PS_dual_48 : decode bc_PS_dual 48 = .ok (.aload_n 0, 1) := by decide +kernel
theorem dr_PS_dual_49 : decode bc_PS_dual 49 = .ok (.aload_n 0, 1) := by decide +kernel
theorem dr_PS_dual_50 : decode bc_PS_dual 50 = .ok (.getfield 10, 3) := by decide +kernel
theorem dr_PS_dual_53 : decode bc_PS_dual 53 = .ok (.getfield 94, 3) := by decide +kernel
theorem dr_PS_dual_56 : decode bc_PS_dual 56 = .ok (.iload_n 3, 1) := by decide +kernel
theorem dr_PS_dual_57 : decode bc_PS_dual 57 = .ok (.iaload, 1) := by decide +kernel
theorem dr_PS_dual_58 : decode bc_PS_dual 58 = .ok (.aload_n 0, 1) := by decide +kernel
theorem dr_PS_dual_59 : decode bc_PS_dual 59 = .ok (.getfield 10, 3) := by decide +kernel
theorem dr_PS_dual_62 : decode bc_PS_dual 62 = .ok (.iload_n 3, 1) := by decide +kernel
theorem dr_PS_dual_63 : decode bc_PS_dual 63 = .ok (.invokevirtual 97, 3) := by decide +kernel
theorem dr_PS_dual_66 : decode bc_PS_dual 66 = .ok (.invokevirtual 155, 3) := by decide +kernel
theorem dr_PS_dual_69 : decode bc_PS_dual 69 = .ok (.iload_n 1, 1) := by decide +kernel
theorem dr_PS_dual_70 : decode bc_PS_dual 70 = .ok (.iconst 1, 1) := by decide +kernel
theorem dr_PS_dual_71 : decode bc_PS_dual 71 = .ok (.if_icmp .ne 18, 3) := by decide +kernel
theorem dr_PS_dual_74 : decode bc_PS_dual 74 = .ok (.aload_n 0, 1) := by decide +kernel
theorem dr_PS_dual_75 : decode bc_PS_dual 75 = .ok (.getfield 26, 3) := by decide +kernel
theorem dr_PS_dual_78 : decode bc_PS_dual 78 = .ok (.getfield 159, 3) := by decide +kernel
theorem dr_PS_dual_81 : decode bc_PS_dual 81 = .ok (.iconst 2, 1) := by decide +kernel
theorem dr_PS_dual_82 : decode bc_PS_dual 82 = .ok (.if_icmp .ge 7, 3) := by decide +kernel
theorem dr_PS_dual_85 : decode bc_PS_dual 85 = .ok (.ldc2_w 153, 3) := by decide +kernel
theorem dr_PS_dual_88 : decode bc_PS_dual 88 = .ok (.lreturn, 1) := by decide +kernel
theorem dr_PS_dual_89 : decode bc_PS_dual 89 = .ok (.aload_n 0, 1) := by decide +kernel
theorem dr_PS_dual_90 : decode bc_PS_dual 90 = .ok (.getfield 26, 3) := by decide +kernel
theorem dr_PS_dual_93 : decode bc_PS_dual 93 = .ok (.invokevirtual 162, 3) := by decide +kernel
theorem dr_PS_dual_96 : decode bc_PS_dual 96 = .ok (.lstore 4, 2) := by decide +kernel
theorem dr_PS_dual_98 : decode bc_PS_dual 98 = .ok (.iload_n 1, 1) := by decide +kernel
theorem dr_PS_dual_99 : decode bc_PS_dual 99 = .ok (.ifCond .ne 14, 3) := by decide +kernel
theorem dr_PS_dual_102 : decode bc_PS_dual 102 = .ok (.aload_n 0, 1) := by decide +kernel
theorem dr_PS_dual_103 : decode bc_PS_dual 103 = .ok (.getfield 26, 3) := by decide +kernel
theorem dr_PS_dual_106 : decode bc_PS_dual 106 = .ok (.iload_n 3, 1) := by decide +kernel
theorem dr_PS_dual_107 : decode bc_PS_dual 107 = .ok (.invokevirtual 165, 3) := by decide +kernel
theorem dr_PS_dual_110 : decode bc_PS_dual 110 = .ok (.goto 11, 3) := by decide +kernel
theorem dr_PS_dual_113 : decode bc_PS_dual 113 = .ok (.aload_n 0, 1) := by decide +kernel
theorem dr_PS_dual_114 : decode bc_PS_dual 114 = .ok (.getfield 26, 3) := by decide +kernel
theorem dr_PS_dual_117 : decode bc_PS_dual 117 = .ok (.iload_n 3, 1) := by decide +kernel
theorem dr_PS_dual_118 : decode bc_PS_dual 118 = .ok (.invokevirtual 168, 3) := by decide +kernel
theorem dr_PS_dual_121 : decode bc_PS_dual 121 = .ok (.aload_n 0, 1) := by decide +kernel
theorem dr_PS_dual_122 : decode bc_PS_dual 122 = .ok (.getfield 26, 3) := by decide +kernel
theorem dr_PS_dual_125 : decode bc_PS_dual 125 = .ok (.invokevirtual 162, 3) := by decide +kernel
theorem dr_PS_dual_128 : decode bc_PS_dual 128 = .ok (.lload 4, 2) := by decide +kernel
theorem dr_PS_dual_130 : decode bc_PS_dual 130 = .ok (.lsub, 1) := by decide +kernel
theorem dr_PS_dual_131 : decode bc_PS_dual 131 = .ok (.lreturn, 1) := by decide +kernel
theorem dr_PS_note_0 : decode bc_PS_note 0 = .ok (.aload_n 0, 1) := by decide +kernel
theorem dr_PS_note_1 : decode bc_PS_note 1 = .ok (.getfield 10, 3) := by decide +kernel
theorem dr_PS_note_4 : decode bc_PS_note 4 = .ok (.iload_n 1, 1) := by decide +kernel
theorem dr_PS_note_5 : decode bc_PS_note 5 = .ok (.invokevirtual 171, 3) := by decide +kernel
theorem dr_PS_note_8 : decode bc_PS_note 8 = .ok (.istore_n 3, 1) := by decide +kernel
theorem dr_PS_note_9 : decode bc_PS_note 9 = .ok (.iload_n 3, 1) := by decide +kernel
theorem dr_PS_note_10 : decode bc_PS_note 10 = .ok (.iconst (-1), 1) := by decide +kernel
theorem dr_PS_note_11 : decode bc_PS_note 11 = .ok (.if_icmp .eq 12, 3) := by decide +kernel
theorem dr_PS_note_14 : decode bc_PS_note 14 = .ok (.iload_n 2, 1) := by decide +kernel
theorem dr_PS_note_15 : decode bc_PS_note 15 = .ok (.ifCond .lt 8, 3) := by decide +kernel
theorem dr_PS_note_18 : decode bc_PS_note 18 = .ok (.iload_n 2, 1) := by decide +kernel
theorem dr_PS_note_19 : decode bc_PS_note 19 = .ok (.iconst 2, 1) := by decide +kernel
theorem dr_PS_note_20 : decode bc_PS_note 20 = .ok (.if_icmp .le 13, 3) := by decide +kernel
theorem dr_PS_note_23 : decode bc_PS_note 23 = .ok (.new 48, 3) := by decide +kernel
theorem dr_PS_note_26 : decode bc_PS_note 26 = .ok (.dup, 1) := by decide +kernel
theorem dr_PS_note_27 : decode bc_PS_note 27 = .ok (.ldc 174, 2) := by decide +kernel
theorem dr_PS_note_29 : decode bc_PS_note 29 = .ok (.invokespecial 52, 3) := by decide +kernel
theorem dr_PS_note_32 : decode bc_PS_note 32 = .ok (.athrow, 1) := by decide +kernel
theorem dr_PS_note_33 : decode bc_PS_note 33 = .ok (.iload_n 2, 1) := by decide +kernel
theorem dr_PS_note_34 : decode bc_PS_note 34 = .ok (.ifCond .ne 5, 3) := by decide +kernel
theorem dr_PS_note_37 : decode bc_PS_note 37 = .ok (.iload_n 3, 1) := by decide +kernel
theorem dr_PS_note_38 : decode bc_PS_note 38 = .ok (.ireturn, 1) := by decide +kernel
theorem dr_PS_note_39 : decode bc_PS_note 39 = .ok (.iload_n 2, 1) := by decide +kernel
theorem dr_PS_note_40 : decode bc_PS_note 40 = .ok (.iconst 1, 1) := by decide +kernel
theorem dr_PS_note_41 : decode bc_PS_note 41 = .ok (.if_icmp .ne 15, 3) := by decide +kernel
theorem dr_PS_note_44 : decode bc_PS_note 44 = .ok (.aload_n 0, 1) := by decide +kernel
theorem dr_PS_note_45 : decode bc_PS_note 45 = .ok (.getfield 10, 3) := by decide +kernel
theorem dr_PS_note_48 : decode bc_PS_note 48 = .ok (.getfield 176, 3) := by decide +kernel
theorem dr_PS_note_51 : decode bc_PS_note 51 = .ok (.iload_n 3, 1) := by decide +kernel
theorem dr_PS_note_52 : decode bc_PS_note 52 = .ok (.iaload, 1) := by decide +kernel
theorem dr_PS_note_53 : decode bc_PS_note 53 = .ok (.goto 12, 3) := by decide +kernel
theorem dr_PS_note_56 : decode bc_PS_note 56 = .ok (.aload_n 0, 1) := by decide +kernel
theorem dr_PS_note_57 : decode bc_PS_note 57 = .ok (.getfield 10, 3) := by decide +kernel
theorem dr_PS_note_60 : decode bc_PS_note 60 = .ok (.getfield 122, 3) := by decide +kernel
theorem dr_PS_note_63 : decode bc_PS_note 63 = .ok (.iload_n 3, 1) := by decide +kernel
theorem dr_PS_note_64 : decode bc_PS_note 64 = .ok (.iaload, 1) := by decide +kernel
theorem dr_PS_note_65 : decode bc_PS_note 65 = .ok (.ireturn, 1) := by decide +kernel
theorem dr_PS_gate_0 : decode bc_PS_gate 0 = .ok (.iload_n 1, 1) := by decide +kernel
theorem dr_PS_gate_1 : decode bc_PS_gate 1 = .ok (.bipush 16, 2) := by decide +kernel
theorem dr_PS_gate_3 : decode bc_PS_gate 3 = .ok (.ishr, 1) := by decide +kernel
theorem dr_PS_gate_4 : decode bc_PS_gate 4 = .ok (.istore_n 2, 1) := by decide +kernel
theorem dr_PS_gate_5 : decode bc_PS_gate 5 = .ok (.iload_n 1, 1) := by decide +kernel
theorem dr_PS_gate_6 : decode bc_PS_gate 6 = .ok (.ldc 179, 2) := by decide +kernel
theorem dr_PS_gate_8 : decode bc_PS_gate 8 = .ok (.iand, 1) := by decide +kernel
theorem dr_PS_gate_9 : decode bc_PS_gate 9 = .ok (.istore_n 3, 1) := by decide +kernel
theorem dr_PS_gate_10 : decode bc_PS_gate 10 = .ok (.iload_n 2, 1) := by decide +kernel
theorem dr_PS_gate_11 : decode bc_PS_gate 11 = .ok (.iconst 1, 1) := by decide +kernel
theorem dr_PS_gate_12 : decode bc_PS_gate 12 = .ok (.if_icmp .lt 8, 3) := by decide +kernel
theorem dr_PS_gate_15 : decode bc_PS_gate 15 = .ok (.iload_n 2, 1) := by decide +kernel
theorem dr_PS_gate_16 : decode bc_PS_gate 16 = .ok (.iconst 4, 1) := by decide +kernel
theorem dr_PS_gate_17 : decode bc_PS_gate 17 = .ok (.if_icmp .le 13, 3) := by decide +kernel
theorem dr_PS_gate_20 : decode bc_PS_gate 20 = .ok (.new 63, 3) := by decide +kernel
theorem dr_PS_gate_23 : decode bc_PS_gate 23 = .ok (.dup, 1) := by decide +kernel
theorem dr_PS_gate_24 : decode bc_PS_gate 24 = .ok (.ldc 180, 2) := by decide +kernel
theorem dr_PS_gate_26 : decode bc_PS_gate 26 = .ok (.invokespecial 67, 3) := by decide +kernel
theorem dr_PS_gate_29 : decode bc_PS_gate 29 = .ok (.athrow, 1) := by decide +kernel
theorem dr_PS_gate_30 : decode bc_PS_gate 30 = .ok (.iload_n 3, 1) := by decide +kernel
theorem dr_PS_gate_31 : decode bc_PS_gate 31 = .ok (.iconst 1, 1) := by decide +kernel
theorem dr_PS_gate_32 : decode bc_PS_gate 32 = .ok (.iload_n 2, 1) := by decide +kernel
theorem dr_PS_gate_33 : decode bc_PS_gate 33 = .ok (.ishl, 1) := by decide +kernel
theorem dr_PS_gate_34 : decode bc_PS_gate 34 = .ok (.ishr, 1) := by decide +kernel
theorem dr_PS_gate_35 : decode bc_PS_gate 35 = .ok (.ifCond .eq 13, 3) := by decide +kernel
theorem dr_PS_gate_38 : decode bc_PS_gate 38 = .ok (.new 63, 3) := by decide +kernel
theorem dr_PS_gate_41 : decode bc_PS_gate 41 = .ok (.dup, 1) := by decide +kernel
theorem dr_PS_gate_42 : decode bc_PS_gate 42 = .ok (.ldc 182, 2) := by decide +kernel
theorem dr_PS_gate_44 : decode bc_PS_gate 44 = .ok (.invokespecial 67, 3) := by decide +kernel
theorem dr_PS_gate_47 : decode bc_PS_gate 47 = .ok (.athrow, 1) := by decide +kernel
theorem dr_PS_gate_48 : decode bc_PS_gate 48 = .ok (.aload_n 0, 1) := by decide +kernel
theorem dr_PS_gate_49 : decode bc_PS_gate 49 = .ok (.getfield 40, 3) := by decide +kernel
theorem dr_PS_gate_52 : decode bc_PS_gate 52 = .ok (.iload_n 2, 1) := by decide +kernel
theorem dr_PS_gate_53 : decode bc_PS_gate 53 = .ok (.iload_n 3, 1) := by decide +kernel
theorem dr_PS_gate_54 : decode bc_PS_gate 54 = .ok (.invokevirtual 184, 3) := by decide +kernel
theorem dr_PS_gate_57 : decode bc_PS_gate 57 = .ok (.ireturn, 1) := by decide +kernel
theorem dr_PS_equalGate_0 : decode bc_PS_equalGate 0 = .ok (.iload_n 1, 1) := by decide +kernel
theorem dr_PS_equalGate_1 : decode bc_PS_equalGate 1 = .ok (.ifCond .lt 29, 3) := by decide +kernel
theorem dr_PS_equalGate_4 : decode bc_PS_equalGate 4 = .ok (.iload_n 1, 1) := by decide +kernel
theorem dr_PS_equalGate_5 : decode bc_PS_equalGate 5 = .ok (.aload_n 0, 1) := by decide +kernel
theorem dr_PS_equalGate_6 : decode bc_PS_equalGate 6 = .ok (.getfield 40, 3) := by decide +kernel
theorem dr_PS_equalGate_9 : decode bc_PS_equalGate 9 = .ok (.getfield 187, 3) := by decide +kernel
theorem dr_PS_equalGate_12 : decode bc_PS_equalGate 12 = .ok (.if_icmp .ge 18, 3) := by decide +kernel
theorem dr_PS_equalGate_15 : decode bc_PS_equalGate 15 = .ok (.iload_n 2, 1) := by decide +kernel
theorem dr_PS_equalGate_16 : decode bc_PS_equalGate 16 = .ok (.ifCond .lt 14, 3) := by decide +kernel
theorem dr_PS_equalGate_19 : decode bc_PS_equalGate 19 = .ok (.iload_n 2, 1) := by decide +kernel
theorem dr_PS_equalGate_20 : decode bc_PS_equalGate 20 = .ok (.aload_n 0, 1) := by decide +kernel
theorem dr_PS_equalGate_21 : decode bc_PS_equalGate 21 = .ok (.getfield 40, 3) := by decide +kernel
theorem dr_PS_equalGate_24 : decode bc_PS_equalGate 24 = .ok (.getfield 187, 3) := by decide +kernel
theorem dr_PS_equalGate_27 : decode bc_PS_equalGate 27 = .ok (.if_icmp .lt 13, 3) := by decide +kernel
theorem dr_PS_equalGate_30 : decode bc_PS_equalGate 30 = .ok (.new 48, 3) := by decide +kernel
theorem dr_PS_equalGate_33 : decode bc_PS_equalGate 33 = .ok (.dup, 1) := by decide +kernel
theorem dr_PS_equalGate_34 : decode bc_PS_equalGate 34 = .ok (.ldc 188, 2) := by decide +kernel
theorem dr_PS_equalGate_36 : decode bc_PS_equalGate 36 = .ok (.invokespecial 52, 3) := by decide +kernel
theorem dr_PS_equalGate_39 : decode bc_PS_equalGate 39 = .ok (.athrow, 1) := by decide +kernel
theorem dr_PS_equalGate_40 : decode bc_PS_equalGate 40 = .ok (.aload_n 0, 1) := by decide +kernel
theorem dr_PS_equalGate_41 : decode bc_PS_equalGate 41 = .ok (.getfield 40, 3) := by decide +kernel
theorem dr_PS_equalGate_44 : decode bc_PS_equalGate 44 = .ok (.iload_n 1, 1) := by decide +kernel
theorem dr_PS_equalGate_45 : decode bc_PS_equalGate 45 = .ok (.iload_n 2, 1) := by decide +kernel
theorem dr_PS_equalGate_46 : decode bc_PS_equalGate 46 = .ok (.invokevirtual 190, 3) := by decide +kernel
theorem dr_PS_equalGate_49 : decode bc_PS_equalGate 49 = .ok (.ireturn, 1) := by decide +kernel
theorem dr_PS_undo_0 : decode bc_PS_undo 0 = .ok (.aload_n 0, 1) := by decide +kernel
theorem dr_PS_undo_1 : decode bc_PS_undo 1 = .ok (.getfield 33, 3) := by decide +kernel
theorem dr_PS_undo_4 : decode bc_PS_undo 4 = .ok (.aload_n 0, 1) := by decide +kernel
theorem dr_PS_undo_5 : decode bc_PS_undo 5 = .ok (.getfield 10, 3) := by decide +kernel
theorem dr_PS_undo_8 : decode bc_PS_undo 8 = .ok (.getfield 122, 3) := by decide +kernel
theorem dr_PS_undo_11 : decode bc_PS_undo 11 = .ok (.invokevirtual 194, 3) := by decide +kernel
theorem dr_PS_undo_14 : decode bc_PS_undo 14 = .ok (.ireturn, 1) := by decide +kernel
theorem dr_PS_crossings_0 : decode bc_PS_crossings 0 = .ok (.iconst 0, 1) := by decide +kernel
theorem dr_PS_crossings_1 : decode bc_PS_crossings 1 = .ok (.istore_n 1, 1) := by decide +kernel
theorem dr_PS_crossings_2 : decode bc_PS_crossings 2 = .ok (.iconst 0, 1) := by decide +kernel
theorem dr_PS_crossings_3 : decode bc_PS_crossings 3 = .ok (.istore_n 2, 1) := by decide +kernel
theorem dr_PS_crossings_4 : decode bc_PS_crossings 4 = .ok (.iload_n 2, 1) := by decide +kernel
theorem dr_PS_crossings_5 : decode bc_PS_crossings 5 = .ok (.aload_n 0, 1) := by decide +kernel
theorem dr_PS_crossings_6 : decode bc_PS_crossings 6 = .ok (.getfield 10, 3) := by decide +kernel
theorem dr_PS_crossings_9 : decode bc_PS_crossings 9 = .ok (.getfield 68, 3) := by decide +kernel
theorem dr_PS_crossings_12 : decode bc_PS_crossings 12 = .ok (.if_icmp .ge 63, 3) := by decide +kernel
theorem dr_PS_crossings_15 : decode bc_PS_crossings 15 = .ok (.iload_n 2, 1) := by decide +kernel
theorem dr_PS_crossings_16 : decode bc_PS_crossings 16 = .ok (.iconst 1, 1) := by decide +kernel
theorem dr_PS_crossings_17 : decode bc_PS_crossings 17 = .ok (.iadd, 1) := by decide +kernel
theorem dr_PS_crossings_18 : decode bc_PS_crossings 18 = .ok (.istore_n 3, 1) := by decide +kernel
theorem dr_PS_crossings_19 : decode bc_PS_crossings 19 = .ok (.iload_n 3, 1) := by decide +kernel
theorem dr_PS_crossings_20 : decode bc_PS_crossings 20 = .ok (.aload_n 0, 1) := by decide +kernel
theorem dr_PS_crossings_21 : decode bc_PS_crossings 21 = .ok (.getfield 10, 3) := by decide +kernel
theorem dr_PS_crossings_24 : decode bc_PS_crossings 24 = .ok (.getfield 68, 3) := by decide +kernel
theorem dr_PS_crossings_27 : decode bc_PS_crossings 27 = .ok (.if_icmp .ge 42, 3) := by decide +kernel
theorem dr_PS_crossings_30 : decode bc_PS_crossings 30 = .ok (.aload_n 0, 1) := by decide +kernel
theorem dr_PS_crossings_31 : decode bc_PS_crossings 31 = .ok (.getfield 10, 3) := by decide +kernel
theorem dr_PS_crossings_34 : decode bc_PS_crossings 34 = .ok (.getfield 94, 3) := by decide +kernel
theorem dr_PS_crossings_37 : decode bc_PS_crossings 37 = .ok (.iload_n 2, 1) := by decide +kernel
theorem dr_PS_crossings_38 : decode bc_PS_crossings 38 = .ok (.iaload, 1) := by decide +kernel
theorem dr_PS_crossings_39 : decode bc_PS_crossings 39 = .ok (.aload_n 0, 1) := by decide +kernel
theorem dr_PS_crossings_40 : decode bc_PS_crossings 40 = .ok (.getfield 10, 3) := by decide +kernel
theorem dr_PS_crossings_43 : decode bc_PS_crossings 43 = .ok (.getfield 94, 3) := by decide +kernel
theorem dr_PS_crossings_46 : decode bc_PS_crossings 46 = .ok (.iload_n 3, 1) := by decide +kernel
theorem dr_PS_crossings_47 : decode bc_PS_crossings 47 = .ok (.iaload, 1) := by decide +kernel
theorem dr_PS_crossings_48 : decode bc_PS_crossings 48 = .ok (.if_icmp .ne 15, 3) := by decide +kernel
theorem dr_PS_crossings_51 : decode bc_PS_crossings 51 = .ok (.aload_n 0, 1) := by decide +kernel
theorem dr_PS_crossings_52 : decode bc_PS_crossings 52 = .ok (.iload_n 2, 1) := by decide +kernel
theorem dr_PS_crossings_53 : decode bc_PS_crossings 53 = .ok (.iload_n 3, 1) := by decide +kernel
theorem dr_PS_crossings_54 : decode bc_PS_crossings 54 = .ok (.invokevirtual 198, 3) := by decide +kernel
theorem dr_PS_crossings_57 : decode bc_PS_crossings 57 = .ok (.ifCond .eq 6, 3) := by decide +kernel
theorem dr_PS_crossings_60 : decode bc_PS_crossings 60 = .ok (.iinc 1 1, 3) := by decide +kernel
theorem dr_PS_crossings_63 : decode bc_PS_crossings 63 = .ok (.iinc 3 1, 3) := by decide +kernel
theorem dr_PS_crossings_66 : decode bc_PS_crossings 66 = .ok (.goto (-47), 3) := by decide +kernel
theorem dr_PS_crossings_69 : decode bc_PS_crossings 69 = .ok (.iinc 2 1, 3) := by decide +kernel
theorem dr_PS_crossings_72 : decode bc_PS_crossings 72 = .ok (.goto (-68), 3) := by decide +kernel
theorem dr_PS_crossings_75 : decode bc_PS_crossings 75 = .ok (.iload_n 1, 1) := by decide +kernel
theorem dr_PS_crossings_76 : decode bc_PS_crossings 76 = .ok (.ireturn, 1) := by decide +kernel
theorem dr_PS_checkPin_0 : decode bc_PS_checkPin 0 = .ok (.iload_n 1, 1) := by decide +kernel
theorem dr_PS_checkPin_1 : decode bc_PS_checkPin 1 = .ok (.ifCond .lt 14, 3) := by decide +kernel
theorem dr_PS_checkPin_4 : decode bc_PS_checkPin 4 = .ok (.iload_n 1, 1) := by decide +kernel
theorem dr_PS_checkPin_5 : decode bc_PS_checkPin 5 = .ok (.aload_n 0, 1) := by decide +kernel
theorem dr_PS_checkPin_6 : decode bc_PS_checkPin 6 = .ok (.getfield 10, 3) := by decide +kernel
theorem dr_PS_checkPin_9 : decode bc_PS_checkPin 9 = .ok (.getfield 68, 3) := by decide +kernel
theorem dr_PS_checkPin_12 : decode bc_PS_checkPin 12 = .ok (.if_icmp .lt 13, 3) := by decide +kernel
theorem dr_PS_checkPin_15 : decode bc_PS_checkPin 15 = .ok (.new 48, 3) := by decide +kernel
theorem dr_PS_checkPin_18 : decode bc_PS_checkPin 18 = .ok (.dup, 1) := by decide +kernel
theorem dr_PS_checkPin_19 : decode bc_PS_checkPin 19 = .ok (.ldc 201, 2) := by decide +kernel
theorem dr_PS_checkPin_21 : decode bc_PS_checkPin 21 = .ok (.invokespecial 52, 3) := by decide +kernel
theorem dr_PS_checkPin_24 : decode bc_PS_checkPin 24 = .ok (.athrow, 1) := by decide +kernel
theorem dr_PS_checkPin_25 : decode bc_PS_checkPin 25 = .ok (.return_, 1) := by decide +kernel
theorem dr_PS_checkNet_0 : decode bc_PS_checkNet 0 = .ok (.iload_n 0, 1) := by decide +kernel
theorem dr_PS_checkNet_1 : decode bc_PS_checkNet 1 = .ok (.invokestatic 59, 3) := by decide +kernel
theorem dr_PS_checkNet_4 : decode bc_PS_checkNet 4 = .ok (.ifCond .ne 13, 3) := by decide +kernel
theorem dr_PS_checkNet_7 : decode bc_PS_checkNet 7 = .ok (.new 48, 3) := by decide +kernel
theorem dr_PS_checkNet_10 : decode bc_PS_checkNet 10 = .ok (.dup, 1) := by decide +kernel
theorem dr_PS_checkNet_11 : decode bc_PS_checkNet 11 = .ok (.ldc 65, 2) := by decide +kernel
theorem dr_PS_checkNet_13 : decode bc_PS_checkNet 13 = .ok (.invokespecial 52, 3) := by decide +kernel
theorem dr_PS_checkNet_16 : decode bc_PS_checkNet 16 = .ok (.athrow, 1) := by decide +kernel
theorem dr_PS_checkNet_17 : decode bc_PS_checkNet 17 = .ok (.return_, 1) := by decide +kernel
theorem dr_PS_checkPlace_0 : decode bc_PS_checkPlace 0 = .ok (.lload_n 0, 1) := by decide +kernel
theorem dr_PS_checkPlace_1 : decode bc_PS_checkPlace 1 = .ok (.ldc2_w 203, 3) := by decide +kernel
theorem dr_PS_checkPlace_4 : decode bc_PS_checkPlace 4 = .ok (.lcmp, 1) := by decide +kernel
theorem dr_PS_checkPlace_5 : decode bc_PS_checkPlace 5 = .ok (.ifCond .lt 27, 3) := by decide +kernel
theorem dr_PS_checkPlace_8 : decode bc_PS_checkPlace 8 = .ok (.lload_n 0, 1) := by decide +kernel
theorem dr_PS_checkPlace_9 : decode bc_PS_checkPlace 9 = .ok (.ldc2_w 205, 3) := by decide +kernel
theorem dr_PS_checkPlace_12 : decode bc_PS_checkPlace 12 = .ok (.lcmp, 1) := by decide +kernel
theorem dr_PS_checkPlace_13 : decode bc_PS_checkPlace 13 = .ok (.ifCond .gt 19, 3) := by decide +kernel
theorem dr_PS_checkPlace_16 : decode bc_PS_checkPlace 16 = .ok (.lload_n 2, 1) := by decide +kernel
theorem dr_PS_checkPlace_17 : decode bc_PS_checkPlace 17 = .ok (.ldc2_w 203, 3) := by decide +kernel
theorem dr_PS_checkPlace_20 : decode bc_PS_checkPlace 20 = .ok (.lcmp, 1) := by decide +kernel
theorem dr_PS_checkPlace_21 : decode bc_PS_checkPlace 21 = .ok (.ifCond .lt 11, 3) := by decide +kernel
theorem dr_PS_checkPlace_24 : decode bc_PS_checkPlace 24 = .ok (.lload_n 2, 1) := by decide +kernel
theorem dr_PS_checkPlace_25 : decode bc_PS_checkPlace 25 = .ok (.ldc2_w 205, 3) := by decide +kernel
theorem dr_PS_checkPlace_28 : decode bc_PS_checkPlace 28 = .ok (.lcmp, 1) := by decide +kernel
theorem dr_PS_checkPlace_29 : decode bc_PS_checkPlace 29 = .ok (.ifCond .le 13, 3) := by decide +kernel
theorem dr_PS_checkPlace_32 : decode bc_PS_checkPlace 32 = .ok (.new 63, 3) := by decide +kernel
theorem dr_PS_checkPlace_35 : decode bc_PS_checkPlace 35 = .ok (.dup, 1) := by decide +kernel
theorem dr_PS_checkPlace_36 : decode bc_PS_checkPlace 36 = .ok (.ldc 207, 2) := by decide +kernel
theorem dr_PS_checkPlace_38 : decode bc_PS_checkPlace 38 = .ok (.invokespecial 67, 3) := by decide +kernel
theorem dr_PS_checkPlace_41 : decode bc_PS_checkPlace 41 = .ok (.athrow, 1) := by decide +kernel
theorem dr_PS_checkPlace_42 : decode bc_PS_checkPlace 42 = .ok (.return_, 1) := by decide +kernel
theorem dr_PS_isNet_0 : decode bc_PS_isNet 0 = .ok (.iload_n 0, 1) := by decide +kernel
theorem dr_PS_isNet_1 : decode bc_PS_isNet 1 = .ok (.ifCond .lt 14, 3) := by decide +kernel
theorem dr_PS_isNet_4 : decode bc_PS_isNet 4 = .ok (.iload_n 0, 1) := by decide +kernel
theorem dr_PS_isNet_5 : decode bc_PS_isNet 5 = .ok (.sipush 200, 3) := by decide +kernel
theorem dr_PS_isNet_8 : decode bc_PS_isNet 8 = .ok (.if_icmp .ge 7, 3) := by decide +kernel
theorem dr_PS_isNet_11 : decode bc_PS_isNet 11 = .ok (.iconst 1, 1) := by decide +kernel
theorem dr_PS_isNet_12 : decode bc_PS_isNet 12 = .ok (.goto 4, 3) := by decide +kernel
theorem dr_PS_isNet_15 : decode bc_PS_isNet 15 = .ok (.iconst 0, 1) := by decide +kernel
theorem dr_PS_isNet_16 : decode bc_PS_isNet 16 = .ok (.ireturn, 1) := by decide +kernel
theorem dr_PS_cost_0 : decode bc_PS_cost 0 = .ok (.lconst 0, 1) := by decide +kernel
theorem dr_PS_cost_1 : decode bc_PS_cost 1 = .ok (.lstore_n 3, 1) := by decide +kernel
theorem dr_PS_cost_2 : decode bc_PS_cost 2 = .ok (.aload_n 0, 1) := by decide +kernel
theorem dr_PS_cost_3 : decode bc_PS_cost 3 = .ok (.getfield 19, 3) := by decide +kernel
theorem dr_PS_cost_6 : decode bc_PS_cost 6 = .ok (.getfield 209, 3) := by decide +kernel
theorem dr_PS_cost_9 : decode bc_PS_cost 9 = .ok (.iload_n 1, 1) := by decide +kernel
theorem dr_PS_cost_10 : decode bc_PS_cost 10 = .ok (.baload, 1) := by decide +kernel
theorem dr_PS_cost_11 : decode bc_PS_cost 11 = .ok (.ifCond .eq 49, 3) := by decide +kernel
theorem dr_PS_cost_14 : decode bc_PS_cost 14 = .ok (.aload_n 0, 1) := by decide +kernel
theorem dr_PS_cost_15 : decode bc_PS_cost 15 = .ok (.getfield 19, 3) := by decide +kernel
theorem dr_PS_cost_18 : decode bc_PS_cost 18 = .ok (.getfield 212, 3) := by decide +kernel
theorem dr_PS_cost_21 : decode bc_PS_cost 21 = .ok (.iload_n 1, 1) := by decide +kernel
theorem dr_PS_cost_22 : decode bc_PS_cost 22 = .ok (.laload, 1) := by decide +kernel
theorem dr_PS_cost_23 : decode bc_PS_cost 23 = .ok (.aload_n 0, 1) := by decide +kernel
theorem dr_PS_cost_24 : decode bc_PS_cost 24 = .ok (.getfield 10, 3) := by decide +kernel
theorem dr_PS_cost_27 : decode bc_PS_cost 27 = .ok (.getfield 216, 3) := by decide +kernel
theorem dr_PS_cost_30 : decode bc_PS_cost 30 = .ok (.iload_n 2, 1) := by decide +kernel
theorem dr_PS_cost_31 : decode bc_PS_cost 31 = .ok (.laload, 1) := by decide +kernel
theorem dr_PS_cost_32 : decode bc_PS_cost 32 = .ok (.lsub, 1) := by decide +kernel
theorem dr_PS_cost_33 : decode bc_PS_cost 33 = .ok (.invokestatic 217, 3) := by decide +kernel
theorem dr_PS_cost_36 : decode bc_PS_cost 36 = .ok (.aload_n 0, 1) := by decide +kernel
theorem dr_PS_cost_37 : decode bc_PS_cost 37 = .ok (.getfield 19, 3) := by decide +kernel
theorem dr_PS_cost_40 : decode bc_PS_cost 40 = .ok (.getfield 223, 3) := by decide +kernel
theorem dr_PS_cost_43 : decode bc_PS_cost 43 = .ok (.iload_n 1, 1) := by decide +kernel
theorem dr_PS_cost_44 : decode bc_PS_cost 44 = .ok (.laload, 1) := by decide +kernel
theorem dr_PS_cost_45 : decode bc_PS_cost 45 = .ok (.aload_n 0, 1) := by decide +kernel
theorem dr_PS_cost_46 : decode bc_PS_cost 46 = .ok (.getfield 10, 3) := by decide +kernel
theorem dr_PS_cost_49 : decode bc_PS_cost 49 = .ok (.getfield 226, 3) := by decide +kernel
theorem dr_PS_cost_52 : decode bc_PS_cost 52 = .ok (.iload_n 2, 1) := by decide +kernel
theorem dr_PS_cost_53 : decode bc_PS_cost 53 = .ok (.laload, 1) := by decide +kernel
theorem dr_PS_cost_54 : decode bc_PS_cost 54 = .ok (.lsub, 1) := by decide +kernel
theorem dr_PS_cost_55 : decode bc_PS_cost 55 = .ok (.invokestatic 217, 3) := by decide +kernel
theorem dr_PS_cost_58 : decode bc_PS_cost 58 = .ok (.ladd, 1) := by decide +kernel
theorem dr_PS_cost_59 : decode bc_PS_cost 59 = .ok (.lstore_n 3, 1) := by decide +kernel
theorem dr_PS_cost_60 : decode bc_PS_cost 60 = .ok (.aload_n 0, 1) := by decide +kernel
theorem dr_PS_cost_61 : decode bc_PS_cost 61 = .ok (.getfield 19, 3) := by decide +kernel
theorem dr_PS_cost_64 : decode bc_PS_cost 64 = .ok (.getfield 111, 3) := by decide +kernel
theorem dr_PS_cost_67 : decode bc_PS_cost 67 = .ok (.iload_n 1, 1) := by decide +kernel
theorem dr_PS_cost_68 : decode bc_PS_cost 68 = .ok (.iaload, 1) := by decide +kernel
theorem dr_PS_cost_69 : decode bc_PS_cost 69 = .ok (.istore 5, 2) := by decide +kernel
theorem dr_PS_cost_71 : decode bc_PS_cost 71 = .ok (.iload 5, 2) := by decide +kernel
theorem dr_PS_cost_73 : decode bc_PS_cost 73 = .ok (.iconst (-1), 1) := by decide +kernel
theorem dr_PS_cost_74 : decode bc_PS_cost 74 = .ok (.if_icmp .eq 17, 3) := by decide +kernel
theorem dr_PS_cost_77 : decode bc_PS_cost 77 = .ok (.iload 5, 2) := by decide +kernel
theorem dr_PS_cost_79 : decode bc_PS_cost 79 = .ok (.aload_n 0, 1) := by decide +kernel
theorem dr_PS_cost_80 : decode bc_PS_cost 80 = .ok (.getfield 10, 3) := by decide +kernel
theorem dr_PS_cost_83 : decode bc_PS_cost 83 = .ok (.getfield 106, 3) := by decide +kernel
theorem dr_PS_cost_86 : decode bc_PS_cost 86 = .ok (.iload_n 2, 1) := by decide +kernel
theorem dr_PS_cost_87 : decode bc_PS_cost 87 = .ok (.iaload, 1) := by decide +kernel
theorem dr_PS_cost_88 : decode bc_PS_cost 88 = .ok (.if_icmp .ne 7, 3) := by decide +kernel
theorem dr_PS_cost_91 : decode bc_PS_cost 91 = .ok (.lload_n 3, 1) := by decide +kernel
theorem dr_PS_cost_92 : decode bc_PS_cost 92 = .ok (.goto 8, 3) := by decide +kernel
theorem dr_PS_cost_95 : decode bc_PS_cost 95 = .ok (.lload_n 3, 1) := by decide +kernel
theorem dr_PS_cost_96 : decode bc_PS_cost 96 = .ok (.ldc2_w 227, 3) := by decide +kernel
theorem dr_PS_cost_99 : decode bc_PS_cost 99 = .ok (.ladd, 1) := by decide +kernel
theorem dr_PS_cost_100 : decode bc_PS_cost 100 = .ok (.lreturn, 1) := by decide +kernel
theorem dr_PS_swapUnits_0 : decode bc_PS_swapUnits 0 = .ok (.aload_n 0, 1) := by decide +kernel
theorem dr_PS_swapUnits_1 : decode bc_PS_swapUnits 1 = .ok (.iload_n 1, 1) := by decide +kernel
theorem dr_PS_swapUnits_2 : decode bc_PS_swapUnits 2 = .ok (.iload_n 2, 1) := by decide +kernel
theorem dr_PS_swapUnits_3 : decode bc_PS_swapUnits 3 = .ok (.invokevirtual 155, 3) := by decide +kernel
theorem dr_PS_swapUnits_6 : decode bc_PS_swapUnits 6 = .ok (.aload_n 0, 1) := by decide +kernel
theorem dr_PS_swapUnits_7 : decode bc_PS_swapUnits 7 = .ok (.getfield 26, 3) := by decide +kernel
theorem dr_PS_swapUnits_10 : decode bc_PS_swapUnits 10 = .ok (.invokevirtual 162, 3) := by decide +kernel
theorem dr_PS_swapUnits_13 : decode bc_PS_swapUnits 13 = .ok (.aload_n 0, 1) := by decide +kernel
theorem dr_PS_swapUnits_14 : decode bc_PS_swapUnits 14 = .ok (.getfield 26, 3) := by decide +kernel
theorem dr_PS_swapUnits_17 : decode bc_PS_swapUnits 17 = .ok (.invokevirtual 229, 3) := by decide +kernel
theorem dr_PS_swapUnits_20 : decode bc_PS_swapUnits 20 = .ok (.lcmp, 1) := by decide +kernel
theorem dr_PS_swapUnits_21 : decode bc_PS_swapUnits 21 = .ok (.ifCond .ne 4, 3) := by decide +kernel
theorem dr_PS_swapUnits_24 : decode bc_PS_swapUnits 24 = .ok (.return_, 1) := by decide +kernel
theorem dr_PS_swapUnits_25 : decode bc_PS_swapUnits 25 = .ok (.aload_n 0, 1) := by decide +kernel
theorem dr_PS_swapUnits_26 : decode bc_PS_swapUnits 26 = .ok (.getfield 26, 3) := by decide +kernel
theorem dr_PS_swapUnits_29 : decode bc_PS_swapUnits 29 = .ok (.invokevirtual 232, 3) := by decide +kernel
theorem dr_PS_swapUnits_32 : decode bc_PS_swapUnits 32 = .ok (.iconst 1, 1) := by decide +kernel
theorem dr_PS_swapUnits_33 : decode bc_PS_swapUnits 33 = .ok (.istore 4, 2) := by decide +kernel
theorem dr_PS_swapUnits_35 : decode bc_PS_swapUnits 35 = .ok (.iload 4, 2) := by decide +kernel
theorem dr_PS_swapUnits_37 : decode bc_PS_swapUnits 37 = .ok (.aload_n 0, 1) := by decide +kernel
theorem dr_PS_swapUnits_38 : decode bc_PS_swapUnits 38 = .ok (.getfield 26, 3) := by decide +kernel
theorem dr_PS_swapUnits_41 : decode bc_PS_swapUnits 41 = .ok (.getfield 159, 3) := by decide +kernel
theorem dr_PS_swapUnits_44 : decode bc_PS_swapUnits 44 = .ok (.if_icmp .gt 42, 3) := by decide +kernel
theorem dr_PS_swapUnits_47 : decode bc_PS_swapUnits 47 = .ok (.aload_n 0, 1) := by decide +kernel
theorem dr_PS_swapUnits_48 : decode bc_PS_swapUnits 48 = .ok (.aload_n 0, 1) := by decide +kernel
theorem dr_PS_swapUnits_49 : decode bc_PS_swapUnits 49 = .ok (.getfield 26, 3) := by decide +kernel
theorem dr_PS_swapUnits_52 : decode bc_PS_swapUnits 52 = .ok (.getfield 235, 3) := by decide +kernel
theorem dr_PS_swapUnits_55 : decode bc_PS_swapUnits 55 = .ok (.aload_n 0, 1) := by decide +kernel
theorem dr_PS_swapUnits_56 : decode bc_PS_swapUnits 56 = .ok (.getfield 26, 3) := by decide +kernel
theorem dr_PS_swapUnits_59 : decode bc_PS_swapUnits 59 = .ok (.getfield 238, 3) := by decide +kernel
theorem dr_PS_swapUnits_62 : decode bc_PS_swapUnits 62 = .ok (.iload 4, 2) := by decide +kernel
theorem dr_PS_swapUnits_64 : decode bc_PS_swapUnits 64 = .ok (.iaload, 1) := by decide +kernel
theorem dr_PS_swapUnits_65 : decode bc_PS_swapUnits 65 = .ok (.iaload, 1) := by decide +kernel
theorem dr_PS_swapUnits_66 : decode bc_PS_swapUnits 66 = .ok (.aload_n 0, 1) := by decide +kernel
theorem dr_PS_swapUnits_67 : decode bc_PS_swapUnits 67 = .ok (.getfield 26, 3) := by decide +kernel
theorem dr_PS_swapUnits_70 : decode bc_PS_swapUnits 70 = .ok (.getfield 235, 3) := by decide +kernel
theorem dr_PS_swapUnits_73 : decode bc_PS_swapUnits 73 = .ok (.iload 4, 2) := by decide +kernel
theorem dr_PS_swapUnits_75 : decode bc_PS_swapUnits 75 = .ok (.iaload, 1) := by decide +kernel
theorem dr_PS_swapUnits_76 : decode bc_PS_swapUnits 76 = .ok (.aload_n 3, 1) := by decide +kernel
theorem dr_PS_swapUnits_77 : decode bc_PS_swapUnits 77 = .ok (.invokevirtual 241, 3) := by decide +kernel
theorem dr_PS_swapUnits_80 : decode bc_PS_swapUnits 80 = .ok (.iinc 4 1, 3) := by decide +kernel
theorem dr_PS_swapUnits_83 : decode bc_PS_swapUnits 83 = .ok (.goto (-48), 3) := by decide +kernel
theorem dr_PS_swapUnits_86 : decode bc_PS_swapUnits 86 = .ok (.return_, 1) := by decide +kernel
theorem dr_PS_giveNets_0 : decode bc_PS_giveNets 0 = .ok (.aload_n 0, 1) := by decide +kernel
theorem dr_PS_giveNets_1 : decode bc_PS_giveNets 1 = .ok (.getfield 10, 3) := by decide +kernel
theorem dr_PS_giveNets_4 : decode bc_PS_giveNets 4 = .ok (.getfield 122, 3) := by decide +kernel
theorem dr_PS_giveNets_7 : decode bc_PS_giveNets 7 = .ok (.iload_n 1, 1) := by decide +kernel
theorem dr_PS_giveNets_8 : decode bc_PS_giveNets 8 = .ok (.aload_n 3, 1) := by decide +kernel
theorem dr_PS_giveNets_9 : decode bc_PS_giveNets 9 = .ok (.iload_n 2, 1) := by decide +kernel
theorem dr_PS_giveNets_10 : decode bc_PS_giveNets 10 = .ok (.iaload, 1) := by decide +kernel
theorem dr_PS_giveNets_11 : decode bc_PS_giveNets 11 = .ok (.iastore, 1) := by decide +kernel
theorem dr_PS_giveNets_12 : decode bc_PS_giveNets 12 = .ok (.aload_n 0, 1) := by decide +kernel
theorem dr_PS_giveNets_13 : decode bc_PS_giveNets 13 = .ok (.getfield 10, 3) := by decide +kernel
theorem dr_PS_giveNets_16 : decode bc_PS_giveNets 16 = .ok (.iload_n 1, 1) := by decide +kernel
theorem dr_PS_giveNets_17 : decode bc_PS_giveNets 17 = .ok (.invokevirtual 97, 3) := by decide +kernel
theorem dr_PS_giveNets_20 : decode bc_PS_giveNets 20 = .ok (.ifCond .eq 42, 3) := by decide +kernel
theorem dr_PS_giveNets_23 : decode bc_PS_giveNets 23 = .ok (.aload_n 0, 1) := by decide +kernel
theorem dr_PS_giveNets_24 : decode bc_PS_giveNets 24 = .ok (.getfield 10, 3) := by decide +kernel
theorem dr_PS_giveNets_27 : decode bc_PS_giveNets 27 = .ok (.iload_n 2, 1) := by decide +kernel
theorem dr_PS_giveNets_28 : decode bc_PS_giveNets 28 = .ok (.invokevirtual 97, 3) := by decide +kernel
theorem dr_PS_giveNets_31 : decode bc_PS_giveNets 31 = .ok (.ifCond .eq 31, 3) := by decide +kernel
theorem dr_PS_giveNets_34 : decode bc_PS_giveNets 34 = .ok (.aload_n 0, 1) := by decide +kernel
theorem dr_PS_giveNets_35 : decode bc_PS_giveNets 35 = .ok (.getfield 10, 3) := by decide +kernel
theorem dr_PS_giveNets_38 : decode bc_PS_giveNets 38 = .ok (.getfield 122, 3) := by decide +kernel
theorem dr_PS_giveNets_41 : decode bc_PS_giveNets 41 = .ok (.aload_n 0, 1) := by decide +kernel
theorem dr_PS_giveNets_42 : decode bc_PS_giveNets 42 = .ok (.getfield 10, 3) := by decide +kernel
theorem dr_PS_giveNets_45 : decode bc_PS_giveNets 45 = .ok (.getfield 245, 3) := by decide +kernel
theorem dr_PS_giveNets_48 : decode bc_PS_giveNets 48 = .ok (.iload_n 1, 1) := by decide +kernel
theorem dr_PS_giveNets_49 : decode bc_PS_giveNets 49 = .ok (.iaload, 1) := by decide +kernel
theorem dr_PS_giveNets_50 : decode bc_PS_giveNets 50 = .ok (.aload_n 3, 1) := by decide +kernel
theorem dr_PS_giveNets_51 : decode bc_PS_giveNets 51 = .ok (.aload_n 0, 1) := by decide +kernel
theorem dr_PS_giveNets_52 : decode bc_PS_giveNets 52 = .ok (.getfield 10, 3) := by decide +kernel
theorem dr_PS_giveNets_55 : decode bc_PS_giveNets 55 = .ok (.getfield 245, 3) := by decide +kernel
theorem dr_PS_giveNets_58 : decode bc_PS_giveNets 58 = .ok (.iload_n 2, 1) := by decide +kernel
theorem dr_PS_giveNets_59 : decode bc_PS_giveNets 59 = .ok (.iaload, 1) := by decide +kernel
theorem dr_PS_giveNets_60 : decode bc_PS_giveNets 60 = .ok (.iaload, 1) := by decide +kernel
theorem dr_PS_giveNets_61 : decode bc_PS_giveNets 61 = .ok (.iastore, 1) := by decide +kernel
theorem dr_PS_giveNets_62 : decode bc_PS_giveNets 62 = .ok (.return_, 1) := by decide +kernel
theorem dr_PS_countChanged_0 : decode bc_PS_countChanged 0 = .ok (.iconst 0, 1) := by decide +kernel
theorem dr_PS_countChanged_1 : decode bc_PS_countChanged 1 = .ok (.istore_n 2, 1) := by decide +kernel
theorem dr_PS_countChanged_2 : decode bc_PS_countChanged 2 = .ok (.iconst 0, 1) := by decide +kernel
theorem dr_PS_countChanged_3 : decode bc_PS_countChanged 3 = .ok (.istore_n 3, 1) := by decide +kernel
theorem dr_PS_countChanged_4 : decode bc_PS_countChanged 4 = .ok (.iload_n 3, 1) := by decide +kernel
theorem dr_PS_countChanged_5 : decode bc_PS_countChanged 5 = .ok (.aload_n 0, 1) := by decide +kernel
theorem dr_PS_countChanged_6 : decode bc_PS_countChanged 6 = .ok (.getfield 10, 3) := by decide +kernel
theorem dr_PS_countChanged_9 : decode bc_PS_countChanged 9 = .ok (.getfield 68, 3) := by decide +kernel
theorem dr_PS_countChanged_12 : decode bc_PS_countChanged 12 = .ok (.if_icmp .ge 27, 3) := by decide +kernel
theorem dr_PS_countChanged_15 : decode bc_PS_countChanged 15 = .ok (.aload_n 0, 1) := by decide +kernel
theorem dr_PS_countChanged_16 : decode bc_PS_countChanged 16 = .ok (.getfield 10, 3) := by decide +kernel
theorem dr_PS_countChanged_19 : decode bc_PS_countChanged 19 = .ok (.getfield 122, 3) := by decide +kernel
theorem dr_PS_countChanged_22 : decode bc_PS_countChanged 22 = .ok (.iload_n 3, 1) := by decide +kernel
theorem dr_PS_countChanged_23 : decode bc_PS_countChanged 23 = .ok (.iaload, 1) := by decide +kernel
theorem dr_PS_countChanged_24 : decode bc_PS_countChanged 24 = .ok (.aload_n 1, 1) := by decide +kernel
theorem dr_PS_countChanged_25 : decode bc_PS_countChanged 25 = .ok (.iload_n 3, 1) := by decide +kernel
theorem dr_PS_countChanged_26 : decode bc_PS_countChanged 26 = .ok (.iaload, 1) := by decide +kernel
theorem dr_PS_countChanged_27 : decode bc_PS_countChanged 27 = .ok (.if_icmp .eq 6, 3) := by decide +kernel
theorem dr_PS_countChanged_30 : decode bc_PS_countChanged 30 = .ok (.iinc 2 1, 3) := by decide +kernel
theorem dr_PS_countChanged_33 : decode bc_PS_countChanged 33 = .ok (.iinc 3 1, 3) := by decide +kernel
theorem dr_PS_countChanged_36 : decode bc_PS_countChanged 36 = .ok (.goto (-32), 3) := by decide +kernel
theorem dr_PS_countChanged_39 : decode bc_PS_countChanged 39 = .ok (.iload_n 2, 1) := by decide +kernel
theorem dr_PS_countChanged_40 : decode bc_PS_countChanged 40 = .ok (.ireturn, 1) := by decide +kernel
theorem dr_PS_loadMatching_0 : decode bc_PS_loadMatching 0 = .ok (.aload_n 0, 1) := by decide +kernel
theorem dr_PS_loadMatching_1 : decode bc_PS_loadMatching 1 = .ok (.getfield 26, 3) := by decide +kernel
theorem dr_PS_loadMatching_4 : decode bc_PS_loadMatching 4 = .ok (.iconst 0, 1) := by decide +kernel
theorem dr_PS_loadMatching_5 : decode bc_PS_loadMatching 5 = .ok (.putfield 159, 3) := by decide +kernel
theorem dr_PS_loadMatching_8 : decode bc_PS_loadMatching 8 = .ok (.iconst 0, 1) := by decide +kernel
theorem dr_PS_loadMatching_9 : decode bc_PS_loadMatching 9 = .ok (.istore_n 3, 1) := by decide +kernel
theorem dr_PS_loadMatching_10 : decode bc_PS_loadMatching 10 = .ok (.iload_n 3, 1) := by decide +kernel
theorem dr_PS_loadMatching_11 : decode bc_PS_loadMatching 11 = .ok (.aload_n 0, 1) := by decide +kernel
theorem dr_PS_loadMatching_12 : decode bc_PS_loadMatching 12 = .ok (.getfield 10, 3) := by decide +kernel
theorem dr_PS_loadMatching_15 : decode bc_PS_loadMatching 15 = .ok (.getfield 68, 3) := by decide +kernel
theorem dr_PS_loadMatching_18 : decode bc_PS_loadMatching 18 = .ok (.if_icmp .ge 42, 3) := by decide +kernel
theorem dr_PS_loadMatching_21 : decode bc_PS_loadMatching 21 = .ok (.aload_n 0, 1) := by decide +kernel
theorem dr_PS_loadMatching_22 : decode bc_PS_loadMatching 22 = .ok (.getfield 10, 3) := by decide +kernel
theorem dr_PS_loadMatching_25 : decode bc_PS_loadMatching 25 = .ok (.getfield 94, 3) := by decide +kernel
theorem dr_PS_loadMatching_28 : decode bc_PS_loadMatching 28 = .ok (.iload_n 3, 1) := by decide +kernel
theorem dr_PS_loadMatching_29 : decode bc_PS_loadMatching 29 = .ok (.iaload, 1) := by decide +kernel
theorem dr_PS_loadMatching_30 : decode bc_PS_loadMatching 30 = .ok (.iload_n 1, 1) := by decide +kernel
theorem dr_PS_loadMatching_31 : decode bc_PS_loadMatching 31 = .ok (.if_icmp .ne 23, 3) := by decide +kernel
theorem dr_PS_loadMatching_34 : decode bc_PS_loadMatching 34 = .ok (.aload_n 0, 1) := by decide +kernel
theorem dr_PS_loadMatching_35 : decode bc_PS_loadMatching 35 = .ok (.getfield 10, 3) := by decide +kernel
theorem dr_PS_loadMatching_38 : decode bc_PS_loadMatching 38 = .ok (.iload_n 3, 1) := by decide +kernel
theorem dr_PS_loadMatching_39 : decode bc_PS_loadMatching 39 = .ok (.iload_n 2, 1) := by decide +kernel
theorem dr_PS_loadMatching_40 : decode bc_PS_loadMatching 40 = .ok (.invokevirtual 248, 3) := by decide +kernel
theorem dr_PS_loadMatching_43 : decode bc_PS_loadMatching 43 = .ok (.ifCond .eq 11, 3) := by decide +kernel
theorem dr_PS_loadMatching_46 : decode bc_PS_loadMatching 46 = .ok (.aload_n 0, 1) := by decide +kernel
theorem dr_PS_loadMatching_47 : decode bc_PS_loadMatching 47 = .ok (.getfield 26, 3) := by decide +kernel
theorem dr_PS_loadMatching_50 : decode bc_PS_loadMatching 50 = .ok (.iload_n 3, 1) := by decide +kernel
theorem dr_PS_loadMatching_51 : decode bc_PS_loadMatching 51 = .ok (.invokevirtual 252, 3) := by decide +kernel
theorem dr_PS_loadMatching_54 : decode bc_PS_loadMatching 54 = .ok (.iinc 3 1, 3) := by decide +kernel
theorem dr_PS_loadMatching_57 : decode bc_PS_loadMatching 57 = .ok (.goto (-47), 3) := by decide +kernel
theorem dr_PS_loadMatching_60 : decode bc_PS_loadMatching 60 = .ok (.iconst 1, 1) := by decide +kernel
theorem dr_PS_loadMatching_61 : decode bc_PS_loadMatching 61 = .ok (.istore_n 3, 1) := by decide +kernel
theorem dr_PS_loadMatching_62 : decode bc_PS_loadMatching 62 = .ok (.iload_n 3, 1) := by decide +kernel
theorem dr_PS_loadMatching_63 : decode bc_PS_loadMatching 63 = .ok (.aload_n 0, 1) := by decide +kernel
theorem dr_PS_loadMatching_64 : decode bc_PS_loadMatching 64 = .ok (.getfield 26, 3) := by decide +kernel
theorem dr_PS_loadMatching_67 : decode bc_PS_loadMatching 67 = .ok (.getfield 159, 3) := by decide +kernel
theorem dr_PS_loadMatching_70 : decode bc_PS_loadMatching 70 = .ok (.if_icmp .gt 65, 3) := by decide +kernel
theorem dr_PS_loadMatching_73 : decode bc_PS_loadMatching 73 = .ok (.iconst 1, 1) := by decide +kernel
theorem dr_PS_loadMatching_74 : decode bc_PS_loadMatching 74 = .ok (.istore 4, 2) := by decide +kernel
theorem dr_PS_loadMatching_76 : decode bc_PS_loadMatching 76 = .ok (.iload 4, 2) := by decide +kernel
theorem dr_PS_loadMatching_78 : decode bc_PS_loadMatching 78 = .ok (.aload_n 0, 1) := by decide +kernel
theorem dr_PS_loadMatching_79 : decode bc_PS_loadMatching 79 = .ok (.getfield 26, 3) := by decide +kernel
theorem dr_PS_loadMatching_82 : decode bc_PS_loadMatching 82 = .ok (.getfield 159, 3) := by decide +kernel
theorem dr_PS_loadMatching_85 : decode bc_PS_loadMatching 85 = .ok (.if_icmp .gt 44, 3) := by decide +kernel
theorem dr_PS_loadMatching_88 : decode bc_PS_loadMatching 88 = .ok (.aload_n 0, 1) := by decide +kernel
theorem dr_PS_loadMatching_89 : decode bc_PS_loadMatching 89 = .ok (.getfield 26, 3) := by decide +kernel
theorem dr_PS_loadMatching_92 : decode bc_PS_loadMatching 92 = .ok (.getfield 254, 3) := by decide +kernel
theorem dr_PS_loadMatching_95 : decode bc_PS_loadMatching 95 = .ok (.iload_n 3, 1) := by decide +kernel
theorem dr_PS_loadMatching_96 : decode bc_PS_loadMatching 96 = .ok (.aaload, 1) := by decide +kernel
theorem dr_PS_loadMatching_97 : decode bc_PS_loadMatching 97 = .ok (.iload 4, 2) := by decide +kernel
theorem dr_PS_loadMatching_99 : decode bc_PS_loadMatching 99 = .ok (.aload_n 0, 1) := by decide +kernel
theorem dr_PS_loadMatching_100 : decode bc_PS_loadMatching 100 = .ok (.aload_n 0, 1) := by decide +kernel
theorem dr_PS_loadMatching_101 : decode bc_PS_loadMatching 101 = .ok (.getfield 26, 3) := by decide +kernel
theorem dr_PS_loadMatching_104 : decode bc_PS_loadMatching 104 = .ok (.getfield 235, 3) := by decide +kernel
theorem dr_PS_loadMatching_107 : decode bc_PS_loadMatching 107 = .ok (.iload_n 3, 1) := by decide +kernel
theorem dr_PS_loadMatching_108 : decode bc_PS_loadMatching 108 = .ok (.iaload, 1) := by decide +kernel
theorem dr_PS_loadMatching_109 : decode bc_PS_loadMatching 109 = .ok (.aload_n 0, 1) := by decide +kernel
theorem dr_PS_loadMatching_110 : decode bc_PS_loadMatching 110 = .ok (.getfield 26, 3) := by decide +kernel
theorem dr_PS_loadMatching_113 : decode bc_PS_loadMatching 113 = .ok (.getfield 235, 3) := by decide +kernel
theorem dr_PS_loadMatching_116 : decode bc_PS_loadMatching 116 = .ok (.iload 4, 2) := by decide +kernel
theorem dr_PS_loadMatching_118 : decode bc_PS_loadMatching 118 = .ok (.iaload, 1) := by decide +kernel
theorem dr_PS_loadMatching_119 : decode bc_PS_loadMatching 119 = .ok (.invokevirtual 257, 3) := by decide +kernel
theorem dr_PS_loadMatching_122 : decode bc_PS_loadMatching 122 = .ok (.lastore, 1) := by decide +kernel
theorem dr_PS_loadMatching_123 : decode bc_PS_loadMatching 123 = .ok (.iinc 4 1, 3) := by decide +kernel
theorem dr_PS_loadMatching_126 : decode bc_PS_loadMatching 126 = .ok (.goto (-50), 3) := by decide +kernel
theorem dr_PS_loadMatching_129 : decode bc_PS_loadMatching 129 = .ok (.iinc 3 1, 3) := by decide +kernel
theorem dr_PS_loadMatching_132 : decode bc_PS_loadMatching 132 = .ok (.goto (-70), 3) := by decide +kernel
theorem dr_PS_loadMatching_135 : decode bc_PS_loadMatching 135 = .ok (.return_, 1) := by decide +kernel
theorem dr_PS_unitCost_0 : decode bc_PS_unitCost 0 = .ok (.aload_n 0, 1) := by decide +kernel
theorem dr_PS_unitCost_1 : decode bc_PS_unitCost 1 = .ok (.aload_n 0, 1) := by decide +kernel
theorem dr_PS_unitCost_2 : decode bc_PS_unitCost 2 = .ok (.getfield 10, 3) := by decide +kernel
theorem dr_PS_unitCost_5 : decode bc_PS_unitCost 5 = .ok (.getfield 122, 3) := by decide +kernel
theorem dr_PS_unitCost_8 : decode bc_PS_unitCost 8 = .ok (.iload_n 2, 1) := by decide +kernel
theorem dr_PS_unitCost_9 : decode bc_PS_unitCost 9 = .ok (.iaload, 1) := by decide +kernel
theorem dr_PS_unitCost_10 : decode bc_PS_unitCost 10 = .ok (.iload_n 1, 1) := by decide +kernel
theorem dr_PS_unitCost_11 : decode bc_PS_unitCost 11 = .ok (.invokevirtual 140, 3) := by decide +kernel
theorem dr_PS_unitCost_14 : decode bc_PS_unitCost 14 = .ok (.lstore_n 3, 1) := by decide +kernel
theorem dr_PS_unitCost_15 : decode bc_PS_unitCost 15 = .ok (.aload_n 0, 1) := by decide +kernel
theorem dr_PS_unitCost_16 : decode bc_PS_unitCost 16 = .ok (.getfield 10, 3) := by decide +kernel
theorem dr_PS_unitCost_19 : decode bc_PS_unitCost 19 = .ok (.iload_n 1, 1) := by decide +kernel
theorem dr_PS_unitCost_20 : decode bc_PS_unitCost 20 = .ok (.invokevirtual 97, 3) := by decide +kernel
theorem dr_PS_unitCost_23 : decode bc_PS_unitCost 23 = .ok (.ifCond .eq 47, 3) := by decide +kernel
theorem dr_PS_unitCost_26 : decode bc_PS_unitCost 26 = .ok (.aload_n 0, 1) := by decide +kernel
theorem dr_PS_unitCost_27 : decode bc_PS_unitCost 27 = .ok (.getfield 10, 3) := by decide +kernel
theorem dr_PS_unitCost_30 : decode bc_PS_unitCost 30 = .ok (.iload_n 2, 1) := by decide +kernel
theorem dr_PS_unitCost_31 : decode bc_PS_unitCost 31 = .ok (.invokevirtual 97, 3) := by decide +kernel
theorem dr_PS_unitCost_34 : decode bc_PS_unitCost 34 = .ok (.ifCond .eq 36, 3) := by decide +kernel
theorem dr_PS_unitCost_37 : decode bc_PS_unitCost 37 = .ok (.lload_n 3, 1) := by decide +kernel
theorem dr_PS_unitCost_38 : decode bc_PS_unitCost 38 = .ok (.aload_n 0, 1) := by decide +kernel
theorem dr_PS_unitCost_39 : decode bc_PS_unitCost 39 = .ok (.aload_n 0, 1) := by decide +kernel
theorem dr_PS_unitCost_40 : decode bc_PS_unitCost 40 = .ok (.getfield 10, 3) := by decide +kernel
theorem dr_PS_unitCost_43 : decode bc_PS_unitCost 43 = .ok (.getfield 122, 3) := by decide +kernel
theorem dr_PS_unitCost_46 : decode bc_PS_unitCost 46 = .ok (.aload_n 0, 1) := by decide +kernel
theorem dr_PS_unitCost_47 : decode bc_PS_unitCost 47 = .ok (.getfield 10, 3) := by decide +kernel
theorem dr_PS_unitCost_50 : decode bc_PS_unitCost 50 = .ok (.getfield 245, 3) := by decide +kernel
theorem dr_PS_unitCost_53 : decode bc_PS_unitCost 53 = .ok (.iload_n 2, 1) := by decide +kernel
theorem dr_PS_unitCost_54 : decode bc_PS_unitCost 54 = .ok (.iaload, 1) := by decide +kernel
theorem dr_PS_unitCost_55 : decode bc_PS_unitCost 55 = .ok (.iaload, 1) := by decide +kernel
theorem dr_PS_unitCost_56 : decode bc_PS_unitCost 56 = .ok (.aload_n 0, 1) := by decide +kernel
theorem dr_PS_unitCost_57 : decode bc_PS_unitCost 57 = .ok (.getfield 10, 3) := by decide +kernel
theorem dr_PS_unitCost_60 : decode bc_PS_unitCost 60 = .ok (.getfield 245, 3) := by decide +kernel
theorem dr_PS_unitCost_63 : decode bc_PS_unitCost 63 = .ok (.iload_n 1, 1) := by decide +kernel
theorem dr_PS_unitCost_64 : decode bc_PS_unitCost 64 = .ok (.iaload, 1) := by decide +kernel
theorem dr_PS_unitCost_65 : decode bc_PS_unitCost 65 = .ok (.invokevirtual 140, 3) := by decide +kernel
theorem dr_PS_unitCost_68 : decode bc_PS_unitCost 68 = .ok (.ladd, 1) := by decide +kernel
theorem dr_PS_unitCost_69 : decode bc_PS_unitCost 69 = .ok (.lstore_n 3, 1) := by decide +kernel
theorem dr_PS_unitCost_70 : decode bc_PS_unitCost 70 = .ok (.lload_n 3, 1) := by decide +kernel
theorem dr_PS_unitCost_71 : decode bc_PS_unitCost 71 = .ok (.lreturn, 1) := by decide +kernel
theorem dr_PS_waysCross_0 : decode bc_PS_waysCross 0 = .ok (.aload_n 0, 1) := by decide +kernel
theorem dr_PS_waysCross_1 : decode bc_PS_waysCross 1 = .ok (.getfield 19, 3) := by decide +kernel
theorem dr_PS_waysCross_4 : decode bc_PS_waysCross 4 = .ok (.getfield 209, 3) := by decide +kernel
theorem dr_PS_waysCross_7 : decode bc_PS_waysCross 7 = .ok (.aload_n 0, 1) := by decide +kernel
theorem dr_PS_waysCross_8 : decode bc_PS_waysCross 8 = .ok (.getfield 10, 3) := by decide +kernel
theorem dr_PS_waysCross_11 : decode bc_PS_waysCross 11 = .ok (.getfield 122, 3) := by decide +kernel
theorem dr_PS_waysCross_14 : decode bc_PS_waysCross 14 = .ok (.iload_n 1, 1) := by decide +kernel
theorem dr_PS_waysCross_15 : decode bc_PS_waysCross 15 = .ok (.iaload, 1) := by decide +kernel
theorem dr_PS_waysCross_16 : decode bc_PS_waysCross 16 = .ok (.baload, 1) := by decide +kernel
theorem dr_PS_waysCross_17 : decode bc_PS_waysCross 17 = .ok (.ifCond .eq 23, 3) := by decide +kernel
theorem dr_PS_waysCross_20 : decode bc_PS_waysCross 20 = .ok (.aload_n 0, 1) := by decide +kernel
theorem dr_PS_waysCross_21 : decode bc_PS_waysCross 21 = .ok (.getfield 19, 3) := by decide +kernel
theorem dr_PS_waysCross_24 : decode bc_PS_waysCross 24 = .ok (.getfield 209, 3) := by decide +kernel
theorem dr_PS_waysCross_27 : decode bc_PS_waysCross 27 = .ok (.aload_n 0, 1) := by decide +kernel
theorem dr_PS_waysCross_28 : decode bc_PS_waysCross 28 = .ok (.getfield 10, 3) := by decide +kernel
theorem dr_PS_waysCross_31 : decode bc_PS_waysCross 31 = .ok (.getfield 122, 3) := by decide +kernel
theorem dr_PS_waysCross_34 : decode bc_PS_waysCross 34 = .ok (.iload_n 2, 1) := by decide +kernel
theorem dr_PS_waysCross_35 : decode bc_PS_waysCross 35 = .ok (.iaload, 1) := by decide +kernel
theorem dr_PS_waysCross_36 : decode bc_PS_waysCross 36 = .ok (.baload, 1) := by decide +kernel
theorem dr_PS_waysCross_37 : decode bc_PS_waysCross 37 = .ok (.ifCond .ne 5, 3) := by decide +kernel
theorem dr_PS_waysCross_40 : decode bc_PS_waysCross 40 = .ok (.iconst 0, 1) := by decide +kernel
theorem dr_PS_waysCross_41 : decode bc_PS_waysCross 41 = .ok (.ireturn, 1) := by decide +kernel
theorem dr_PS_waysCross_42 : decode bc_PS_waysCross 42 = .ok (.aload_n 0, 1) := by decide +kernel
theorem dr_PS_waysCross_43 : decode bc_PS_waysCross 43 = .ok (.iload_n 1, 1) := by decide +kernel
theorem dr_PS_waysCross_44 : decode bc_PS_waysCross 44 = .ok (.iload_n 2, 1) := by decide +kernel
theorem dr_PS_waysCross_45 : decode bc_PS_waysCross 45 = .ok (.invokevirtual 260, 3) := by decide +kernel
theorem dr_PS_waysCross_48 : decode bc_PS_waysCross 48 = .ok (.ifCond .eq 16, 3) := by decide +kernel
theorem dr_PS_waysCross_51 : decode bc_PS_waysCross 51 = .ok (.aload_n 0, 1) := by decide +kernel
theorem dr_PS_waysCross_52 : decode bc_PS_waysCross 52 = .ok (.iload_n 2, 1) := by decide +kernel
theorem dr_PS_waysCross_53 : decode bc_PS_waysCross 53 = .ok (.iload_n 1, 1) := by decide +kernel
theorem dr_PS_waysCross_54 : decode bc_PS_waysCross 54 = .ok (.invokevirtual 260, 3) := by decide +kernel
theorem dr_PS_waysCross_57 : decode bc_PS_waysCross 57 = .ok (.ifCond .eq 7, 3) := by decide +kernel
theorem dr_PS_waysCross_60 : decode bc_PS_waysCross 60 = .ok (.iconst 1, 1) := by decide +kernel
theorem dr_PS_waysCross_61 : decode bc_PS_waysCross 61 = .ok (.goto 4, 3) := by decide +kernel
theorem dr_PS_waysCross_64 : decode bc_PS_waysCross 64 = .ok (.iconst 0, 1) := by decide +kernel
theorem dr_PS_waysCross_65 : decode bc_PS_waysCross 65 = .ok (.ireturn, 1) := by decide +kernel
theorem dr_PS_partsEnds_0 : decode bc_PS_partsEnds 0 = .ok (.aload_n 0, 1) := by decide +kernel
theorem dr_PS_partsEnds_1 : decode bc_PS_partsEnds 1 = .ok (.getfield 10, 3) := by decide +kernel
theorem dr_PS_partsEnds_4 : decode bc_PS_partsEnds 4 = .ok (.getfield 122, 3) := by decide +kernel
theorem dr_PS_partsEnds_7 : decode bc_PS_partsEnds 7 = .ok (.iload_n 2, 1) := by decide +kernel
theorem dr_PS_partsEnds_8 : decode bc_PS_partsEnds 8 = .ok (.iaload, 1) := by decide +kernel
theorem dr_PS_partsEnds_9 : decode bc_PS_partsEnds 9 = .ok (.istore_n 3, 1) := by decide +kernel
theorem dr_PS_partsEnds_10 : decode bc_PS_partsEnds 10 = .ok (.aload_n 0, 1) := by decide +kernel
theorem dr_PS_partsEnds_11 : decode bc_PS_partsEnds 11 = .ok (.iload_n 1, 1) := by decide +kernel
theorem dr_PS_partsEnds_12 : decode bc_PS_partsEnds 12 = .ok (.aload_n 0, 1) := by decide +kernel
theorem dr_PS_partsEnds_13 : decode bc_PS_partsEnds 13 = .ok (.getfield 10, 3) := by decide +kernel
theorem dr_PS_partsEnds_16 : decode bc_PS_partsEnds 16 = .ok (.getfield 216, 3) := by decide +kernel
theorem dr_PS_partsEnds_19 : decode bc_PS_partsEnds 19 = .ok (.iload_n 2, 1) := by decide +kernel
theorem dr_PS_partsEnds_20 : decode bc_PS_partsEnds 20 = .ok (.laload, 1) := by decide +kernel
theorem dr_PS_partsEnds_21 : decode bc_PS_partsEnds 21 = .ok (.aload_n 0, 1) := by decide +kernel
theorem dr_PS_partsEnds_22 : decode bc_PS_partsEnds 22 = .ok (.getfield 10, 3) := by decide +kernel
theorem dr_PS_partsEnds_25 : decode bc_PS_partsEnds 25 = .ok (.getfield 226, 3) := by decide +kernel
theorem dr_PS_partsEnds_28 : decode bc_PS_partsEnds 28 = .ok (.iload_n 2, 1) := by decide +kernel
theorem dr_PS_partsEnds_29 : decode bc_PS_partsEnds 29 = .ok (.laload, 1) := by decide +kernel
theorem dr_PS_partsEnds_30 : decode bc_PS_partsEnds 30 = .ok (.invokevirtual 263, 3) := by decide +kernel
theorem dr_PS_partsEnds_33 : decode bc_PS_partsEnds 33 = .ok (.lstore 4, 2) := by decide +kernel
theorem dr_PS_partsEnds_35 : decode bc_PS_partsEnds 35 = .ok (.aload_n 0, 1) := by decide +kernel
theorem dr_PS_partsEnds_36 : decode bc_PS_partsEnds 36 = .ok (.iload_n 1, 1) := by decide +kernel
theorem dr_PS_partsEnds_37 : decode bc_PS_partsEnds 37 = .ok (.aload_n 0, 1) := by decide +kernel
theorem dr_PS_partsEnds_38 : decode bc_PS_partsEnds 38 = .ok (.getfield 19, 3) := by decide +kernel
theorem dr_PS_partsEnds_41 : decode bc_PS_partsEnds 41 = .ok (.getfield 212, 3) := by decide +kernel
theorem dr_PS_partsEnds_44 : decode bc_PS_partsEnds 44 = .ok (.iload_n 3, 1) := by decide +kernel
theorem dr_PS_partsEnds_45 : decode bc_PS_partsEnds 45 = .ok (.laload, 1) := by decide +kernel
theorem dr_PS_partsEnds_46 : decode bc_PS_partsEnds 46 = .ok (.aload_n 0, 1) := by decide +kernel
theorem dr_PS_partsEnds_47 : decode bc_PS_partsEnds 47 = .ok (.getfield 19, 3) := by decide +kernel
theorem dr_PS_partsEnds_50 : decode bc_PS_partsEnds 50 = .ok (.getfield 223, 3) := by decide +kernel
theorem dr_PS_partsEnds_53 : decode bc_PS_partsEnds 53 = .ok (.iload_n 3, 1) := by decide +kernel
theorem dr_PS_partsEnds_54 : decode bc_PS_partsEnds 54 = .ok (.laload, 1) := by decide +kernel
theorem dr_PS_partsEnds_55 : decode bc_PS_partsEnds 55 = .ok (.invokevirtual 263, 3) := by decide +kernel
theorem dr_PS_partsEnds_58 : decode bc_PS_partsEnds 58 = .ok (.lstore 6, 2) := by decide +kernel
theorem dr_PS_partsEnds_60 : decode bc_PS_partsEnds 60 = .ok (.lload 4, 2) := by decide +kernel
theorem dr_PS_partsEnds_62 : decode bc_PS_partsEnds 62 = .ok (.lconst 0, 1) := by decide +kernel
theorem dr_PS_partsEnds_63 : decode bc_PS_partsEnds 63 = .ok (.lcmp, 1) := by decide +kernel
theorem dr_PS_partsEnds_64 : decode bc_PS_partsEnds 64 = .ok (.ifCond .ge 10, 3) := by decide +kernel
theorem dr_PS_partsEnds_67 : decode bc_PS_partsEnds 67 = .ok (.lload 6, 2) := by decide +kernel
theorem dr_PS_partsEnds_69 : decode bc_PS_partsEnds 69 = .ok (.lconst 0, 1) := by decide +kernel
theorem dr_PS_partsEnds_70 : decode bc_PS_partsEnds 70 = .ok (.lcmp, 1) := by decide +kernel
theorem dr_PS_partsEnds_71 : decode bc_PS_partsEnds 71 = .ok (.ifCond .gt 17, 3) := by decide +kernel
theorem dr_PS_partsEnds_74 : decode bc_PS_partsEnds 74 = .ok (.lload 4, 2) := by decide +kernel
theorem dr_PS_partsEnds_76 : decode bc_PS_partsEnds 76 = .ok (.lconst 0, 1) := by decide +kernel
theorem dr_PS_partsEnds_77 : decode bc_PS_partsEnds 77 = .ok (.lcmp, 1) := by decide +kernel
theorem dr_PS_partsEnds_78 : decode bc_PS_partsEnds 78 = .ok (.ifCond .le 14, 3) := by decide +kernel
theorem dr_PS_partsEnds_81 : decode bc_PS_partsEnds 81 = .ok (.lload 6, 2) := by decide +kernel
theorem dr_PS_partsEnds_83 : decode bc_PS_partsEnds 83 = .ok (.lconst 0, 1) := by decide +kernel
theorem dr_PS_partsEnds_84 : decode bc_PS_partsEnds 84 = .ok (.lcmp, 1) := by decide +kernel
theorem dr_PS_partsEnds_85 : decode bc_PS_partsEnds 85 = .ok (.ifCond .ge 7, 3) := by decide +kernel
theorem dr_PS_partsEnds_88 : decode bc_PS_partsEnds 88 = .ok (.iconst 1, 1) := by decide +kernel
theorem dr_PS_partsEnds_89 : decode bc_PS_partsEnds 89 = .ok (.goto 4, 3) := by decide +kernel
theorem dr_PS_partsEnds_92 : decode bc_PS_partsEnds 92 = .ok (.iconst 0, 1) := by decide +kernel
theorem dr_PS_partsEnds_93 : decode bc_PS_partsEnds 93 = .ok (.ireturn, 1) := by decide +kernel
end
section
theorem dr_PS_sideOfWay_0 : decode bc_PS_sideOfWay 0 = .ok (.aload_n 0, 1) := by decide +kernel
theorem dr_PS_sideOfWay_1 : decode bc_PS_sideOfWay 1 = .ok (.getfield 10, 3) := by decide +kernel
theorem dr_PS_sideOfWay_4 : decode bc_PS_sideOfWay 4 = .ok (.getfield 122, 3) := by decide +kernel
theorem dr_PS_sideOfWay_7 : decode bc_PS_sideOfWay 7 = .ok (.iload_n 1, 1) := by decide +kernel
theorem dr_PS_sideOfWay_8 : decode bc_PS_sideOfWay 8 = .ok (.iaload, 1) := by decide +kernel
theorem dr_PS_sideOfWay_9 : decode bc_PS_sideOfWay 9 = .ok (.istore 6, 2) := by decide +kernel
theorem dr_PS_sideOfWay_11 : decode bc_PS_sideOfWay 11 = .ok (.aload_n 0, 1) := by decide +kernel
theorem dr_PS_sideOfWay_12 : decode bc_PS_sideOfWay 12 = .ok (.getfield 19, 3) := by decide +kernel
theorem dr_PS_sideOfWay_15 : decode bc_PS_sideOfWay 15 = .ok (.getfield 212, 3) := by decide +kernel
theorem dr_PS_sideOfWay_18 : decode bc_PS_sideOfWay 18 = .ok (.iload 6, 2) := by decide +kernel
theorem dr_PS_sideOfWay_20 : decode bc_PS_sideOfWay 20 = .ok (.laload, 1) := by decide +kernel
theorem dr_PS_sideOfWay_21 : decode bc_PS_sideOfWay 21 = .ok (.aload_n 0, 1) := by decide +kernel
theorem dr_PS_sideOfWay_22 : decode bc_PS_sideOfWay 22 = .ok (.getfield 10, 3) := by decide +kernel
theorem dr_PS_sideOfWay_25 : decode bc_PS_sideOfWay 25 = .ok (.getfield 216, 3) := by decide +kernel
theorem dr_PS_sideOfWay_28 : decode bc_PS_sideOfWay 28 = .ok (.iload_n 1, 1) := by decide +kernel
theorem dr_PS_sideOfWay_29 : decode bc_PS_sideOfWay 29 = .ok (.laload, 1) := by decide +kernel
theorem dr_PS_sideOfWay_30 : decode bc_PS_sideOfWay 30 = .ok (.lsub, 1) := by decide +kernel
theorem dr_PS_sideOfWay_31 : decode bc_PS_sideOfWay 31 = .ok (.lstore 7, 2) := by decide +kernel
theorem dr_PS_sideOfWay_33 : decode bc_PS_sideOfWay 33 = .ok (.aload_n 0, 1) := by decide +kernel
theorem dr_PS_sideOfWay_34 : decode bc_PS_sideOfWay 34 = .ok (.getfield 19, 3) := by decide +kernel
theorem dr_PS_sideOfWay_37 : decode bc_PS_sideOfWay 37 = .ok (.getfield 223, 3) := by decide +kernel
theorem dr_PS_sideOfWay_40 : decode bc_PS_sideOfWay 40 = .ok (.iload 6, 2) := by decide +kernel
theorem dr_PS_sideOfWay_42 : decode bc_PS_sideOfWay 42 = .ok (.laload, 1) := by decide +kernel
theorem dr_PS_sideOfWay_43 : decode bc_PS_sideOfWay 43 = .ok (.aload_n 0, 1) := by decide +kernel
theorem dr_PS_sideOfWay_44 : decode bc_PS_sideOfWay 44 = .ok (.getfield 10, 3) := by decide +kernel
theorem dr_PS_sideOfWay_47 : decode bc_PS_sideOfWay 47 = .ok (.getfield 226, 3) := by decide +kernel
theorem dr_PS_sideOfWay_50 : decode bc_PS_sideOfWay 50 = .ok (.iload_n 1, 1) := by decide +kernel
theorem dr_PS_sideOfWay_51 : decode bc_PS_sideOfWay 51 = .ok (.laload, 1) := by decide +kernel
theorem dr_PS_sideOfWay_52 : decode bc_PS_sideOfWay 52 = .ok (.lsub, 1) := by decide +kernel
theorem dr_PS_sideOfWay_53 : decode bc_PS_sideOfWay 53 = .ok (.lstore 9, 2) := by decide +kernel
theorem dr_PS_sideOfWay_55 : decode bc_PS_sideOfWay 55 = .ok (.lload 7, 2) := by decide +kernel
theorem dr_PS_sideOfWay_57 : decode bc_PS_sideOfWay 57 = .ok (.lload 4, 2) := by decide +kernel
theorem dr_PS_sideOfWay_59 : decode bc_PS_sideOfWay 59 = .ok (.aload_n 0, 1) := by decide +kernel
theorem dr_PS_sideOfWay_60 : decode bc_PS_sideOfWay 60 = .ok (.getfield 10, 3) := by decide +kernel
theorem dr_PS_sideOfWay_63 : decode bc_PS_sideOfWay 63 = .ok (.getfield 226, 3) := by decide +kernel
theorem dr_PS_sideOfWay_66 : decode bc_PS_sideOfWay 66 = .ok (.iload_n 1, 1) := by decide +kernel
theorem dr_PS_sideOfWay_67 : decode bc_PS_sideOfWay 67 = .ok (.laload, 1) := by decide +kernel
theorem dr_PS_sideOfWay_68 : decode bc_PS_sideOfWay 68 = .ok (.lsub, 1) := by decide +kernel
theorem dr_PS_sideOfWay_69 : decode bc_PS_sideOfWay 69 = .ok (.lmul, 1) := by decide +kernel
theorem dr_PS_sideOfWay_70 : decode bc_PS_sideOfWay 70 = .ok (.lload 9, 2) := by decide +kernel
theorem dr_PS_sideOfWay_72 : decode bc_PS_sideOfWay 72 = .ok (.lload_n 2, 1) := by decide +kernel
theorem dr_PS_sideOfWay_73 : decode bc_PS_sideOfWay 73 = .ok (.aload_n 0, 1) := by decide +kernel
theorem dr_PS_sideOfWay_74 : decode bc_PS_sideOfWay 74 = .ok (.getfield 10, 3) := by decide +kernel
theorem dr_PS_sideOfWay_77 : decode bc_PS_sideOfWay 77 = .ok (.getfield 216, 3) := by decide +kernel
theorem dr_PS_sideOfWay_80 : decode bc_PS_sideOfWay 80 = .ok (.iload_n 1, 1) := by decide +kernel
theorem dr_PS_sideOfWay_81 : decode bc_PS_sideOfWay 81 = .ok (.laload, 1) := by decide +kernel
theorem dr_PS_sideOfWay_82 : decode bc_PS_sideOfWay 82 = .ok (.lsub, 1) := by decide +kernel
theorem dr_PS_sideOfWay_83 : decode bc_PS_sideOfWay 83 = .ok (.lmul, 1) := by decide +kernel
theorem dr_PS_sideOfWay_84 : decode bc_PS_sideOfWay 84 = .ok (.lsub, 1) := by decide +kernel
theorem dr_PS_sideOfWay_85 : decode bc_PS_sideOfWay 85 = .ok (.lreturn, 1) := by decide +kernel
theorem dr_Mo_init_0 : decode bc_Mo_init 0 = .ok (.aload_n 0, 1) := by decide +kernel
theorem dr_Mo_init_1 : decode bc_Mo_init 1 = .ok (.invokespecial 1, 3) := by decide +kernel
theorem dr_Mo_init_4 : decode bc_Mo_init 4 = .ok (.aload_n 0, 1) := by decide +kernel
theorem dr_Mo_init_5 : decode bc_Mo_init 5 = .ok (.bipush 80, 2) := by decide +kernel
theorem dr_Mo_init_7 : decode bc_Mo_init 7 = .ok (.newarray .int, 2) := by decide +kernel
theorem dr_Mo_init_9 : decode bc_Mo_init 9 = .ok (.putfield 7, 3) := by decide +kernel
theorem dr_Mo_init_12 : decode bc_Mo_init 12 = .ok (.aload_n 0, 1) := by decide +kernel
theorem dr_Mo_init_13 : decode bc_Mo_init 13 = .ok (.bipush 80, 2) := by decide +kernel
theorem dr_Mo_init_15 : decode bc_Mo_init 15 = .ok (.newarray .long, 2) := by decide +kernel
theorem dr_Mo_init_17 : decode bc_Mo_init 17 = .ok (.putfield 13, 3) := by decide +kernel
theorem dr_Mo_init_20 : decode bc_Mo_init 20 = .ok (.aload_n 0, 1) := by decide +kernel
theorem dr_Mo_init_21 : decode bc_Mo_init 21 = .ok (.bipush 80, 2) := by decide +kernel
theorem dr_Mo_init_23 : decode bc_Mo_init 23 = .ok (.newarray .long, 2) := by decide +kernel
theorem dr_Mo_init_25 : decode bc_Mo_init 25 = .ok (.putfield 17, 3) := by decide +kernel
theorem dr_Mo_init_28 : decode bc_Mo_init 28 = .ok (.aload_n 0, 1) := by decide +kernel
theorem dr_Mo_init_29 : decode bc_Mo_init 29 = .ok (.bipush 80, 2) := by decide +kernel
theorem dr_Mo_init_31 : decode bc_Mo_init 31 = .ok (.newarray .int, 2) := by decide +kernel
theorem dr_Mo_init_33 : decode bc_Mo_init 33 = .ok (.putfield 20, 3) := by decide +kernel
theorem dr_Mo_init_36 : decode bc_Mo_init 36 = .ok (.aload_n 0, 1) := by decide +kernel
theorem dr_Mo_init_37 : decode bc_Mo_init 37 = .ok (.bipush 80, 2) := by decide +kernel
theorem dr_Mo_init_39 : decode bc_Mo_init 39 = .ok (.newarray .int, 2) := by decide +kernel
theorem dr_Mo_init_41 : decode bc_Mo_init 41 = .ok (.putfield 23, 3) := by decide +kernel
theorem dr_Mo_init_44 : decode bc_Mo_init 44 = .ok (.aload_n 0, 1) := by decide +kernel
theorem dr_Mo_init_45 : decode bc_Mo_init 45 = .ok (.bipush 80, 2) := by decide +kernel
theorem dr_Mo_init_47 : decode bc_Mo_init 47 = .ok (.newarray .int, 2) := by decide +kernel
theorem dr_Mo_init_49 : decode bc_Mo_init 49 = .ok (.putfield 26, 3) := by decide +kernel
theorem dr_Mo_init_52 : decode bc_Mo_init 52 = .ok (.aload_n 0, 1) := by decide +kernel
theorem dr_Mo_init_53 : decode bc_Mo_init 53 = .ok (.bipush 80, 2) := by decide +kernel
theorem dr_Mo_init_55 : decode bc_Mo_init 55 = .ok (.newarray .boolean, 2) := by decide +kernel
theorem dr_Mo_init_57 : decode bc_Mo_init 57 = .ok (.putfield 29, 3) := by decide +kernel
theorem dr_Mo_init_60 : decode bc_Mo_init 60 = .ok (.aload_n 0, 1) := by decide +kernel
theorem dr_Mo_init_61 : decode bc_Mo_init 61 = .ok (.bipush 80, 2) := by decide +kernel
theorem dr_Mo_init_63 : decode bc_Mo_init 63 = .ok (.newarray .int, 2) := by decide +kernel
theorem dr_Mo_init_65 : decode bc_Mo_init 65 = .ok (.putfield 33, 3) := by decide +kernel
theorem dr_Mo_init_68 : decode bc_Mo_init 68 = .ok (.aload_n 0, 1) := by decide +kernel
theorem dr_Mo_init_69 : decode bc_Mo_init 69 = .ok (.bipush 80, 2) := by decide +kernel
theorem dr_Mo_init_71 : decode bc_Mo_init 71 = .ok (.newarray .boolean, 2) := by decide +kernel
theorem dr_Mo_init_73 : decode bc_Mo_init 73 = .ok (.putfield 36, 3) := by decide +kernel
theorem dr_Mo_init_76 : decode bc_Mo_init 76 = .ok (.aload_n 0, 1) := by decide +kernel
theorem dr_Mo_init_77 : decode bc_Mo_init 77 = .ok (.sipush 200, 3) := by decide +kernel
theorem dr_Mo_init_80 : decode bc_Mo_init 80 = .ok (.newarray .boolean, 2) := by decide +kernel
theorem dr_Mo_init_82 : decode bc_Mo_init 82 = .ok (.putfield 39, 3) := by decide +kernel
theorem dr_Mo_init_85 : decode bc_Mo_init 85 = .ok (.aload_n 0, 1) := by decide +kernel
theorem dr_Mo_init_86 : decode bc_Mo_init 86 = .ok (.sipush 200, 3) := by decide +kernel
theorem dr_Mo_init_89 : decode bc_Mo_init 89 = .ok (.newarray .long, 2) := by decide +kernel
theorem dr_Mo_init_91 : decode bc_Mo_init 91 = .ok (.putfield 42, 3) := by decide +kernel
theorem dr_Mo_init_94 : decode bc_Mo_init 94 = .ok (.aload_n 0, 1) := by decide +kernel
theorem dr_Mo_init_95 : decode bc_Mo_init 95 = .ok (.sipush 200, 3) := by decide +kernel
theorem dr_Mo_init_98 : decode bc_Mo_init 98 = .ok (.newarray .long, 2) := by decide +kernel
theorem dr_Mo_init_100 : decode bc_Mo_init 100 = .ok (.putfield 45, 3) := by decide +kernel
theorem dr_Mo_init_103 : decode bc_Mo_init 103 = .ok (.aload_n 0, 1) := by decide +kernel
theorem dr_Mo_init_104 : decode bc_Mo_init 104 = .ok (.sipush 200, 3) := by decide +kernel
theorem dr_Mo_init_107 : decode bc_Mo_init 107 = .ok (.newarray .int, 2) := by decide +kernel
theorem dr_Mo_init_109 : decode bc_Mo_init 109 = .ok (.putfield 48, 3) := by decide +kernel
theorem dr_Mo_init_112 : decode bc_Mo_init 112 = .ok (.aload_n 0, 1) := by decide +kernel
theorem dr_Mo_init_113 : decode bc_Mo_init 113 = .ok (.bipush 10, 2) := by decide +kernel
theorem dr_Mo_init_115 : decode bc_Mo_init 115 = .ok (.newarray .int, 2) := by decide +kernel
theorem dr_Mo_init_117 : decode bc_Mo_init 117 = .ok (.putfield 51, 3) := by decide +kernel
theorem dr_Mo_init_120 : decode bc_Mo_init 120 = .ok (.aload_n 0, 1) := by decide +kernel
theorem dr_Mo_init_121 : decode bc_Mo_init 121 = .ok (.sipush 800, 3) := by decide +kernel
theorem dr_Mo_init_124 : decode bc_Mo_init 124 = .ok (.newarray .int, 2) := by decide +kernel
theorem dr_Mo_init_126 : decode bc_Mo_init 126 = .ok (.putfield 54, 3) := by decide +kernel
theorem dr_Mo_init_129 : decode bc_Mo_init 129 = .ok (.aload_n 0, 1) := by decide +kernel
theorem dr_Mo_init_130 : decode bc_Mo_init 130 = .ok (.bipush 20, 2) := by decide +kernel
theorem dr_Mo_init_132 : decode bc_Mo_init 132 = .ok (.newarray .int, 2) := by decide +kernel
theorem dr_Mo_init_134 : decode bc_Mo_init 134 = .ok (.putfield 57, 3) := by decide +kernel
theorem dr_Mo_init_137 : decode bc_Mo_init 137 = .ok (.aload_n 0, 1) := by decide +kernel
theorem dr_Mo_init_138 : decode bc_Mo_init 138 = .ok (.bipush 20, 2) := by decide +kernel
theorem dr_Mo_init_140 : decode bc_Mo_init 140 = .ok (.newarray .int, 2) := by decide +kernel
theorem dr_Mo_init_142 : decode bc_Mo_init 142 = .ok (.putfield 60, 3) := by decide +kernel
theorem dr_Mo_init_145 : decode bc_Mo_init 145 = .ok (.aload_n 0, 1) := by decide +kernel
theorem dr_Mo_init_146 : decode bc_Mo_init 146 = .ok (.bipush 12, 2) := by decide +kernel
theorem dr_Mo_init_148 : decode bc_Mo_init 148 = .ok (.newarray .int, 2) := by decide +kernel
theorem dr_Mo_init_150 : decode bc_Mo_init 150 = .ok (.putfield 63, 3) := by decide +kernel
theorem dr_Mo_init_153 : decode bc_Mo_init 153 = .ok (.aload_n 0, 1) := by decide +kernel
theorem dr_Mo_init_154 : decode bc_Mo_init 154 = .ok (.sipush 144, 3) := by decide +kernel
theorem dr_Mo_init_157 : decode bc_Mo_init 157 = .ok (.newarray .long, 2) := by decide +kernel
theorem dr_Mo_init_159 : decode bc_Mo_init 159 = .ok (.putfield 66, 3) := by decide +kernel
theorem dr_Mo_init_162 : decode bc_Mo_init 162 = .ok (.aload_n 0, 1) := by decide +kernel
theorem dr_Mo_init_163 : decode bc_Mo_init 163 = .ok (.sipush 4096, 3) := by decide +kernel
theorem dr_Mo_init_166 : decode bc_Mo_init 166 = .ok (.newarray .long, 2) := by decide +kernel
theorem dr_Mo_init_168 : decode bc_Mo_init 168 = .ok (.putfield 69, 3) := by decide +kernel
theorem dr_Mo_init_171 : decode bc_Mo_init 171 = .ok (.aload_n 0, 1) := by decide +kernel
theorem dr_Mo_init_172 : decode bc_Mo_init 172 = .ok (.bipush 12, 2) := by decide +kernel
theorem dr_Mo_init_174 : decode bc_Mo_init 174 = .ok (.newarray .int, 2) := by decide +kernel
theorem dr_Mo_init_176 : decode bc_Mo_init 176 = .ok (.putfield 72, 3) := by decide +kernel
theorem dr_Mo_init_179 : decode bc_Mo_init 179 = .ok (.aload_n 0, 1) := by decide +kernel
theorem dr_Mo_init_180 : decode bc_Mo_init 180 = .ok (.bipush 80, 2) := by decide +kernel
theorem dr_Mo_init_182 : decode bc_Mo_init 182 = .ok (.newarray .int, 2) := by decide +kernel
theorem dr_Mo_init_184 : decode bc_Mo_init 184 = .ok (.putfield 75, 3) := by decide +kernel
theorem dr_Mo_init_187 : decode bc_Mo_init 187 = .ok (.return_, 1) := by decide +kernel
theorem dr_Mo_thrown_0 : decode bc_Mo_thrown 0 = .ok (.aload_n 0, 1) := by decide +kernel
theorem dr_Mo_thrown_1 : decode bc_Mo_thrown 1 = .ok (.getfield 78, 3) := by decide +kernel
theorem dr_Mo_thrown_4 : decode bc_Mo_thrown 4 = .ok (.ireturn, 1) := by decide +kernel
theorem dr_Mo_group_0 : decode bc_Mo_group 0 = .ok (.aload_n 0, 1) := by decide +kernel
theorem dr_Mo_group_1 : decode bc_Mo_group 1 = .ok (.iconst 0, 1) := by decide +kernel
theorem dr_Mo_group_2 : decode bc_Mo_group 2 = .ok (.putfield 78, 3) := by decide +kernel
theorem dr_Mo_group_5 : decode bc_Mo_group 5 = .ok (.aload_n 0, 1) := by decide +kernel
theorem dr_Mo_group_6 : decode bc_Mo_group 6 = .ok (.getfield 82, 3) := by decide +kernel
theorem dr_Mo_group_9 : decode bc_Mo_group 9 = .ok (.bipush 12, 2) := by decide +kernel
theorem dr_Mo_group_11 : decode bc_Mo_group 11 = .ok (.if_icmp .ne 5, 3) := by decide +kernel
theorem dr_Mo_group_14 : decode bc_Mo_group 14 = .ok (.iconst (-1), 1) := by decide +kernel
theorem dr_Mo_group_15 : decode bc_Mo_group 15 = .ok (.ireturn, 1) := by decide +kernel
theorem dr_Mo_group_16 : decode bc_Mo_group 16 = .ok (.aload_n 0, 1) := by decide +kernel
theorem dr_Mo_group_17 : decode bc_Mo_group 17 = .ok (.dup, 1) := by decide +kernel
theorem dr_Mo_group_18 : decode bc_Mo_group 18 = .ok (.getfield 82, 3) := by decide +kernel
theorem dr_Mo_group_21 : decode bc_Mo_group 21 = .ok (.iconst 1, 1) := by decide +kernel
theorem dr_Mo_group_22 : decode bc_Mo_group 22 = .ok (.iadd, 1) := by decide +kernel
theorem dr_Mo_group_23 : decode bc_Mo_group 23 = .ok (.putfield 82, 3) := by decide +kernel
theorem dr_Mo_group_26 : decode bc_Mo_group 26 = .ok (.aload_n 0, 1) := by decide +kernel
theorem dr_Mo_group_27 : decode bc_Mo_group 27 = .ok (.getfield 82, 3) := by decide +kernel
theorem dr_Mo_group_30 : decode bc_Mo_group 30 = .ok (.iconst 1, 1) := by decide +kernel
theorem dr_Mo_group_31 : decode bc_Mo_group 31 = .ok (.isub, 1) := by decide +kernel
theorem dr_Mo_group_32 : decode bc_Mo_group 32 = .ok (.ireturn, 1) := by decide +kernel
theorem dr_Mo_isPlace_0 : decode bc_Mo_isPlace 0 = .ok (.lload_n 0, 1) := by decide +kernel
theorem dr_Mo_isPlace_1 : decode bc_Mo_isPlace 1 = .ok (.ldc2_w 85, 3) := by decide +kernel
theorem dr_Mo_isPlace_4 : decode bc_Mo_isPlace 4 = .ok (.lcmp, 1) := by decide +kernel
theorem dr_Mo_isPlace_5 : decode bc_Mo_isPlace 5 = .ok (.ifCond .lt 31, 3) := by decide +kernel
theorem dr_Mo_isPlace_8 : decode bc_Mo_isPlace 8 = .ok (.lload_n 0, 1) := by decide +kernel
theorem dr_Mo_isPlace_9 : decode bc_Mo_isPlace 9 = .ok (.ldc2_w 87, 3) := by decide +kernel
theorem dr_Mo_isPlace_12 : decode bc_Mo_isPlace 12 = .ok (.lcmp, 1) := by decide +kernel
theorem dr_Mo_isPlace_13 : decode bc_Mo_isPlace 13 = .ok (.ifCond .gt 23, 3) := by decide +kernel
theorem dr_Mo_isPlace_16 : decode bc_Mo_isPlace 16 = .ok (.lload_n 2, 1) := by decide +kernel
theorem dr_Mo_isPlace_17 : decode bc_Mo_isPlace 17 = .ok (.ldc2_w 85, 3) := by decide +kernel
theorem dr_Mo_isPlace_20 : decode bc_Mo_isPlace 20 = .ok (.lcmp, 1) := by decide +kernel
theorem dr_Mo_isPlace_21 : decode bc_Mo_isPlace 21 = .ok (.ifCond .lt 15, 3) := by decide +kernel
theorem dr_Mo_isPlace_24 : decode bc_Mo_isPlace 24 = .ok (.lload_n 2, 1) := by decide +kernel
theorem dr_Mo_isPlace_25 : decode bc_Mo_isPlace 25 = .ok (.ldc2_w 87, 3) := by decide +kernel
theorem dr_Mo_isPlace_28 : decode bc_Mo_isPlace 28 = .ok (.lcmp, 1) := by decide +kernel
theorem dr_Mo_isPlace_29 : decode bc_Mo_isPlace 29 = .ok (.ifCond .gt 7, 3) := by decide +kernel
theorem dr_Mo_isPlace_32 : decode bc_Mo_isPlace 32 = .ok (.iconst 1, 1) := by decide +kernel
theorem dr_Mo_isPlace_33 : decode bc_Mo_isPlace 33 = .ok (.goto 4, 3) := by decide +kernel
theorem dr_Mo_isPlace_36 : decode bc_Mo_isPlace 36 = .ok (.iconst 0, 1) := by decide +kernel
theorem dr_Mo_isPlace_37 : decode bc_Mo_isPlace 37 = .ok (.ireturn, 1) := by decide +kernel
theorem dr_Mo_isNet_0 : decode bc_Mo_isNet 0 = .ok (.iload_n 0, 1) := by decide +kernel
theorem dr_Mo_isNet_1 : decode bc_Mo_isNet 1 = .ok (.ifCond .lt 14, 3) := by decide +kernel
theorem dr_Mo_isNet_4 : decode bc_Mo_isNet 4 = .ok (.iload_n 0, 1) := by decide +kernel
theorem dr_Mo_isNet_5 : decode bc_Mo_isNet 5 = .ok (.sipush 200, 3) := by decide +kernel
theorem dr_Mo_isNet_8 : decode bc_Mo_isNet 8 = .ok (.if_icmp .ge 7, 3) := by decide +kernel
theorem dr_Mo_isNet_11 : decode bc_Mo_isNet 11 = .ok (.iconst 1, 1) := by decide +kernel
theorem dr_Mo_isNet_12 : decode bc_Mo_isNet 12 = .ok (.goto 4, 3) := by decide +kernel
theorem dr_Mo_isNet_15 : decode bc_Mo_isNet 15 = .ok (.iconst 0, 1) := by decide +kernel
theorem dr_Mo_isNet_16 : decode bc_Mo_isNet 16 = .ok (.ireturn, 1) := by decide +kernel
theorem dr_Mo_isPin_0 : decode bc_Mo_isPin 0 = .ok (.iload_n 1, 1) := by decide +kernel
theorem dr_Mo_isPin_1 : decode bc_Mo_isPin 1 = .ok (.ifCond .lt 15, 3) := by decide +kernel
theorem dr_Mo_isPin_4 : decode bc_Mo_isPin 4 = .ok (.iload_n 1, 1) := by decide +kernel
theorem dr_Mo_isPin_5 : decode bc_Mo_isPin 5 = .ok (.aload_n 0, 1) := by decide +kernel
theorem dr_Mo_isPin_6 : decode bc_Mo_isPin 6 = .ok (.getfield 89, 3) := by decide +kernel
theorem dr_Mo_isPin_9 : decode bc_Mo_isPin 9 = .ok (.if_icmp .ge 7, 3) := by decide +kernel
theorem dr_Mo_isPin_12 : decode bc_Mo_isPin 12 = .ok (.iconst 1, 1) := by decide +kernel
theorem dr_Mo_isPin_13 : decode bc_Mo_isPin 13 = .ok (.goto 4, 3) := by decide +kernel
theorem dr_Mo_isPin_16 : decode bc_Mo_isPin 16 = .ok (.iconst 0, 1) := by decide +kernel
theorem dr_Mo_isPin_17 : decode bc_Mo_isPin 17 = .ok (.ireturn, 1) := by decide +kernel
theorem dr_Mo_pin_0 : decode bc_Mo_pin 0 = .ok (.iload_n 1, 1) := by decide +kernel
theorem dr_Mo_pin_1 : decode bc_Mo_pin 1 = .ok (.ifCond .lt 15, 3) := by decide +kernel
theorem dr_Mo_pin_4 : decode bc_Mo_pin 4 = .ok (.iload_n 1, 1) := by decide +kernel
theorem dr_Mo_pin_5 : decode bc_Mo_pin 5 = .ok (.aload_n 0, 1) := by decide +kernel
theorem dr_Mo_pin_6 : decode bc_Mo_pin 6 = .ok (.getfield 82, 3) := by decide +kernel
theorem dr_Mo_pin_9 : decode bc_Mo_pin 9 = .ok (.if_icmp .ge 7, 3) := by decide +kernel
theorem dr_Mo_pin_12 : decode bc_Mo_pin 12 = .ok (.iconst 1, 1) := by decide +kernel
theorem dr_Mo_pin_13 : decode bc_Mo_pin 13 = .ok (.goto 4, 3) := by decide +kernel
theorem dr_Mo_pin_16 : decode bc_Mo_pin 16 = .ok (.iconst 0, 1) := by decide +kernel
theorem dr_Mo_pin_17 : decode bc_Mo_pin 17 = .ok (.istore 7, 2) := by decide +kernel
theorem dr_Mo_pin_19 : decode bc_Mo_pin 19 = .ok (.aload_n 0, 1) := by decide +kernel
theorem dr_Mo_pin_20 : decode bc_Mo_pin 20 = .ok (.iload 7, 2) := by decide +kernel
theorem dr_Mo_pin_22 : decode bc_Mo_pin 22 = .ok (.ifCond .ne 7, 3) := by decide +kernel
theorem dr_Mo_pin_25 : decode bc_Mo_pin 25 = .ok (.iconst 1, 1) := by decide +kernel
theorem dr_Mo_pin_26 : decode bc_Mo_pin 26 = .ok (.goto 25, 3) := by decide +kernel
theorem dr_Mo_pin_29 : decode bc_Mo_pin 29 = .ok (.lload_n 2, 1) := by decide +kernel
theorem dr_Mo_pin_30 : decode bc_Mo_pin 30 = .ok (.lload 4, 2) := by decide +kernel
theorem dr_Mo_pin_32 : decode bc_Mo_pin 32 = .ok (.invokestatic 92, 3) := by decide +kernel
theorem dr_Mo_pin_35 : decode bc_Mo_pin 35 = .ok (.ifCond .eq 15, 3) := by decide +kernel
theorem dr_Mo_pin_38 : decode bc_Mo_pin 38 = .ok (.iload 6, 2) := by decide +kernel
theorem dr_Mo_pin_40 : decode bc_Mo_pin 40 = .ok (.invokestatic 96, 3) := by decide +kernel
theorem dr_Mo_pin_43 : decode bc_Mo_pin 43 = .ok (.ifCond .eq 7, 3) := by decide +kernel
theorem dr_Mo_pin_46 : decode bc_Mo_pin 46 = .ok (.iconst 0, 1) := by decide +kernel
theorem dr_Mo_pin_47 : decode bc_Mo_pin 47 = .ok (.goto 4, 3) := by decide +kernel
theorem dr_Mo_pin_50 : decode bc_Mo_pin 50 = .ok (.iconst 2, 1) := by decide +kernel
theorem dr_Mo_pin_51 : decode bc_Mo_pin 51 = .ok (.putfield 78, 3) := by decide +kernel
theorem dr_Mo_pin_54 : decode bc_Mo_pin 54 = .ok (.aload_n 0, 1) := by decide +kernel
theorem dr_Mo_pin_55 : decode bc_Mo_pin 55 = .ok (.getfield 78, 3) := by decide +kernel
theorem dr_Mo_pin_58 : decode bc_Mo_pin 58 = .ok (.ifCond .eq 5, 3) := by decide +kernel
theorem dr_Mo_pin_61 : decode bc_Mo_pin 61 = .ok (.iconst 0, 1) := by decide +kernel
theorem dr_Mo_pin_62 : decode bc_Mo_pin 62 = .ok (.ireturn, 1) := by decide +kernel
theorem dr_Mo_pin_63 : decode bc_Mo_pin 63 = .ok (.iconst 0, 1) := by decide +kernel
theorem dr_Mo_pin_64 : decode bc_Mo_pin 64 = .ok (.istore 8, 2) := by decide +kernel
theorem dr_Mo_pin_66 : decode bc_Mo_pin 66 = .ok (.iconst 0, 1) := by decide +kernel
theorem dr_Mo_pin_67 : decode bc_Mo_pin 67 = .ok (.istore 9, 2) := by decide +kernel
theorem dr_Mo_pin_69 : decode bc_Mo_pin 69 = .ok (.iload 9, 2) := by decide +kernel
theorem dr_Mo_pin_71 : decode bc_Mo_pin 71 = .ok (.aload_n 0, 1) := by decide +kernel
theorem dr_Mo_pin_72 : decode bc_Mo_pin 72 = .ok (.getfield 89, 3) := by decide +kernel
theorem dr_Mo_pin_75 : decode bc_Mo_pin 75 = .ok (.if_icmp .ge 30, 3) := by decide +kernel
theorem dr_Mo_pin_78 : decode bc_Mo_pin 78 = .ok (.iload 8, 2) := by decide +kernel
theorem dr_Mo_pin_80 : decode bc_Mo_pin 80 = .ok (.aload_n 0, 1) := by decide +kernel
theorem dr_Mo_pin_81 : decode bc_Mo_pin 81 = .ok (.getfield 7, 3) := by decide +kernel
theorem dr_Mo_pin_84 : decode bc_Mo_pin 84 = .ok (.iload 9, 2) := by decide +kernel
theorem dr_Mo_pin_86 : decode bc_Mo_pin 86 = .ok (.iaload, 1) := by decide +kernel
theorem dr_Mo_pin_87 : decode bc_Mo_pin 87 = .ok (.iload_n 1, 1) := by decide +kernel
theorem dr_Mo_pin_88 : decode bc_Mo_pin 88 = .ok (.if_icmp .ne 7, 3) := by decide +kernel
theorem dr_Mo_pin_91 : decode bc_Mo_pin 91 = .ok (.iconst 1, 1) := by decide +kernel
theorem dr_Mo_pin_92 : decode bc_Mo_pin 92 = .ok (.goto 4, 3) := by decide +kernel
theorem dr_Mo_pin_95 : decode bc_Mo_pin 95 = .ok (.iconst 0, 1) := by decide +kernel
theorem dr_Mo_pin_96 : decode bc_Mo_pin 96 = .ok (.iadd, 1) := by decide +kernel
theorem dr_Mo_pin_97 : decode bc_Mo_pin 97 = .ok (.istore 8, 2) := by decide +kernel
theorem dr_Mo_pin_99 : decode bc_Mo_pin 99 = .ok (.iinc 9 1, 3) := by decide +kernel
theorem dr_Mo_pin_102 : decode bc_Mo_pin 102 = .ok (.goto (-33), 3) := by decide +kernel
theorem dr_Mo_pin_105 : decode bc_Mo_pin 105 = .ok (.iload 8, 2) := by decide +kernel
theorem dr_Mo_pin_107 : decode bc_Mo_pin 107 = .ok (.bipush 12, 2) := by decide +kernel
theorem dr_Mo_pin_109 : decode bc_Mo_pin 109 = .ok (.if_icmp .eq 12, 3) := by decide +kernel
theorem dr_Mo_pin_112 : decode bc_Mo_pin 112 = .ok (.aload_n 0, 1) := by decide +kernel
theorem dr_Mo_pin_113 : decode bc_Mo_pin 113 = .ok (.getfield 89, 3) := by decide +kernel
theorem dr_Mo_pin_116 : decode bc_Mo_pin 116 = .ok (.bipush 80, 2) := by decide +kernel
theorem dr_Mo_pin_118 : decode bc_Mo_pin 118 = .ok (.if_icmp .ne 5, 3) := by decide +kernel
theorem dr_Mo_pin_121 : decode bc_Mo_pin 121 = .ok (.iconst (-1), 1) := by decide +kernel
theorem dr_Mo_pin_122 : decode bc_Mo_pin 122 = .ok (.ireturn, 1) := by decide +kernel
theorem dr_Mo_pin_123 : decode bc_Mo_pin 123 = .ok (.aload_n 0, 1) := by decide +kernel
theorem dr_Mo_pin_124 : decode bc_Mo_pin 124 = .ok (.getfield 7, 3) := by decide +kernel
theorem dr_Mo_pin_127 : decode bc_Mo_pin 127 = .ok (.aload_n 0, 1) := by decide +kernel
theorem dr_Mo_pin_128 : decode bc_Mo_pin 128 = .ok (.getfield 89, 3) := by decide +kernel
theorem dr_Mo_pin_131 : decode bc_Mo_pin 131 = .ok (.iload_n 1, 1) := by decide +kernel
theorem dr_Mo_pin_132 : decode bc_Mo_pin 132 = .ok (.iastore, 1) := by decide +kernel
theorem dr_Mo_pin_133 : decode bc_Mo_pin 133 = .ok (.aload_n 0, 1) := by decide +kernel
theorem dr_Mo_pin_134 : decode bc_Mo_pin 134 = .ok (.getfield 13, 3) := by decide +kernel
theorem dr_Mo_pin_137 : decode bc_Mo_pin 137 = .ok (.aload_n 0, 1) := by decide +kernel
theorem dr_Mo_pin_138 : decode bc_Mo_pin 138 = .ok (.getfield 89, 3) := by decide +kernel
theorem dr_Mo_pin_141 : decode bc_Mo_pin 141 = .ok (.lload_n 2, 1) := by decide +kernel
theorem dr_Mo_pin_142 : decode bc_Mo_pin 142 = .ok (.lastore, 1) := by decide +kernel
theorem dr_Mo_pin_143 : decode bc_Mo_pin 143 = .ok (.aload_n 0, 1) := by decide +kernel
theorem dr_Mo_pin_144 : decode bc_Mo_pin 144 = .ok (.getfield 17, 3) := by decide +kernel
theorem dr_Mo_pin_147 : decode bc_Mo_pin 147 = .ok (.aload_n 0, 1) := by decide +kernel
theorem dr_Mo_pin_148 : decode bc_Mo_pin 148 = .ok (.getfield 89, 3) := by decide +kernel
theorem dr_Mo_pin_151 : decode bc_Mo_pin 151 = .ok (.lload 4, 2) := by decide +kernel
theorem dr_Mo_pin_153 : decode bc_Mo_pin 153 = .ok (.lastore, 1) := by decide +kernel
theorem dr_Mo_pin_154 : decode bc_Mo_pin 154 = .ok (.aload_n 0, 1) := by decide +kernel
theorem dr_Mo_pin_155 : decode bc_Mo_pin 155 = .ok (.getfield 23, 3) := by decide +kernel
theorem dr_Mo_pin_158 : decode bc_Mo_pin 158 = .ok (.aload_n 0, 1) := by decide +kernel
theorem dr_Mo_pin_159 : decode bc_Mo_pin 159 = .ok (.getfield 89, 3) := by decide +kernel
theorem dr_Mo_pin_162 : decode bc_Mo_pin 162 = .ok (.iload 6, 2) := by decide +kernel
theorem dr_Mo_pin_164 : decode bc_Mo_pin 164 = .ok (.iastore, 1) := by decide +kernel
theorem dr_Mo_pin_165 : decode bc_Mo_pin 165 = .ok (.aload_n 0, 1) := by decide +kernel
theorem dr_Mo_pin_166 : decode bc_Mo_pin 166 = .ok (.getfield 26, 3) := by decide +kernel
theorem dr_Mo_pin_169 : decode bc_Mo_pin 169 = .ok (.aload_n 0, 1) := by decide +kernel
theorem dr_Mo_pin_170 : decode bc_Mo_pin 170 = .ok (.getfield 89, 3) := by decide +kernel
theorem dr_Mo_pin_173 : decode bc_Mo_pin 173 = .ok (.iload 6, 2) := by decide +kernel
theorem dr_Mo_pin_175 : decode bc_Mo_pin 175 = .ok (.iastore, 1) := by decide +kernel
theorem dr_Mo_pin_176 : decode bc_Mo_pin 176 = .ok (.aload_n 0, 1) := by decide +kernel
theorem dr_Mo_pin_177 : decode bc_Mo_pin 177 = .ok (.getfield 33, 3) := by decide +kernel
theorem dr_Mo_pin_180 : decode bc_Mo_pin 180 = .ok (.aload_n 0, 1) := by decide +kernel
theorem dr_Mo_pin_181 : decode bc_Mo_pin 181 = .ok (.getfield 89, 3) := by decide +kernel
theorem dr_Mo_pin_184 : decode bc_Mo_pin 184 = .ok (.iconst (-1), 1) := by decide +kernel
theorem dr_Mo_pin_185 : decode bc_Mo_pin 185 = .ok (.iastore, 1) := by decide +kernel
theorem dr_Mo_pin_186 : decode bc_Mo_pin 186 = .ok (.aload_n 0, 1) := by decide +kernel
theorem dr_Mo_pin_187 : decode bc_Mo_pin 187 = .ok (.dup, 1) := by decide +kernel
theorem dr_Mo_pin_188 : decode bc_Mo_pin 188 = .ok (.getfield 89, 3) := by decide +kernel
theorem dr_Mo_pin_191 : decode bc_Mo_pin 191 = .ok (.iconst 1, 1) := by decide +kernel
theorem dr_Mo_pin_192 : decode bc_Mo_pin 192 = .ok (.iadd, 1) := by decide +kernel
theorem dr_Mo_pin_193 : decode bc_Mo_pin 193 = .ok (.putfield 89, 3) := by decide +kernel
theorem dr_Mo_pin_196 : decode bc_Mo_pin 196 = .ok (.aload_n 0, 1) := by decide +kernel
theorem dr_Mo_pin_197 : decode bc_Mo_pin 197 = .ok (.getfield 89, 3) := by decide +kernel
theorem dr_Mo_pin_200 : decode bc_Mo_pin 200 = .ok (.iconst 1, 1) := by decide +kernel
theorem dr_Mo_pin_201 : decode bc_Mo_pin 201 = .ok (.isub, 1) := by decide +kernel
theorem dr_Mo_pin_202 : decode bc_Mo_pin 202 = .ok (.ireturn, 1) := by decide +kernel
theorem dr_Mo_target_0 : decode bc_Mo_target 0 = .ok (.aload_n 0, 1) := by decide +kernel
theorem dr_Mo_target_1 : decode bc_Mo_target 1 = .ok (.iload_n 1, 1) := by decide +kernel
theorem dr_Mo_target_2 : decode bc_Mo_target 2 = .ok (.invokestatic 96, 3) := by decide +kernel
theorem dr_Mo_target_5 : decode bc_Mo_target 5 = .ok (.ifCond .ne 7, 3) := by decide +kernel
theorem dr_Mo_target_8 : decode bc_Mo_target 8 = .ok (.iconst 1, 1) := by decide +kernel
theorem dr_Mo_target_9 : decode bc_Mo_target 9 = .ok (.goto 17, 3) := by decide +kernel
theorem dr_Mo_target_12 : decode bc_Mo_target 12 = .ok (.lload_n 2, 1) := by decide +kernel
theorem dr_Mo_target_13 : decode bc_Mo_target 13 = .ok (.lload 4, 2) := by decide +kernel
theorem dr_Mo_target_15 : decode bc_Mo_target 15 = .ok (.invokestatic 92, 3) := by decide +kernel
theorem dr_Mo_target_18 : decode bc_Mo_target 18 = .ok (.ifCond .eq 7, 3) := by decide +kernel
theorem dr_Mo_target_21 : decode bc_Mo_target 21 = .ok (.iconst 0, 1) := by decide +kernel
theorem dr_Mo_target_22 : decode bc_Mo_target 22 = .ok (.goto 4, 3) := by decide +kernel
theorem dr_Mo_target_25 : decode bc_Mo_target 25 = .ok (.iconst 2, 1) := by decide +kernel
theorem dr_Mo_target_26 : decode bc_Mo_target 26 = .ok (.putfield 78, 3) := by decide +kernel
theorem dr_Mo_target_29 : decode bc_Mo_target 29 = .ok (.aload_n 0, 1) := by decide +kernel
theorem dr_Mo_target_30 : decode bc_Mo_target 30 = .ok (.getfield 78, 3) := by decide +kernel
theorem dr_Mo_target_33 : decode bc_Mo_target 33 = .ok (.ifCond .ne 35, 3) := by decide +kernel
theorem dr_Mo_target_36 : decode bc_Mo_target 36 = .ok (.aload_n 0, 1) := by decide +kernel
theorem dr_Mo_target_37 : decode bc_Mo_target 37 = .ok (.getfield 39, 3) := by decide +kernel
theorem dr_Mo_target_40 : decode bc_Mo_target 40 = .ok (.iload_n 1, 1) := by decide +kernel
theorem dr_Mo_target_41 : decode bc_Mo_target 41 = .ok (.baload, 1) := by decide +kernel
theorem dr_Mo_target_42 : decode bc_Mo_target 42 = .ok (.ifCond .eq 28, 3) := by decide +kernel
theorem dr_Mo_target_45 : decode bc_Mo_target 45 = .ok (.aload_n 0, 1) := by decide +kernel
theorem dr_Mo_target_46 : decode bc_Mo_target 46 = .ok (.getfield 42, 3) := by decide +kernel
theorem dr_Mo_target_49 : decode bc_Mo_target 49 = .ok (.iload_n 1, 1) := by decide +kernel
theorem dr_Mo_target_50 : decode bc_Mo_target 50 = .ok (.laload, 1) := by decide +kernel
theorem dr_Mo_target_51 : decode bc_Mo_target 51 = .ok (.lload_n 2, 1) := by decide +kernel
theorem dr_Mo_target_52 : decode bc_Mo_target 52 = .ok (.lcmp, 1) := by decide +kernel
theorem dr_Mo_target_53 : decode bc_Mo_target 53 = .ok (.ifCond .ne 17, 3) := by decide +kernel
theorem dr_Mo_target_56 : decode bc_Mo_target 56 = .ok (.aload_n 0, 1) := by decide +kernel
theorem dr_Mo_target_57 : decode bc_Mo_target 57 = .ok (.getfield 45, 3) := by decide +kernel
theorem dr_Mo_target_60 : decode bc_Mo_target 60 = .ok (.iload_n 1, 1) := by decide +kernel
theorem dr_Mo_target_61 : decode bc_Mo_target 61 = .ok (.laload, 1) := by decide +kernel
theorem dr_Mo_target_62 : decode bc_Mo_target 62 = .ok (.lload 4, 2) := by decide +kernel
theorem dr_Mo_target_64 : decode bc_Mo_target 64 = .ok (.lcmp, 1) := by decide +kernel
theorem dr_Mo_target_65 : decode bc_Mo_target 65 = .ok (.ifCond .ne 5, 3) := by decide +kernel
theorem dr_Mo_target_68 : decode bc_Mo_target 68 = .ok (.iconst 0, 1) := by decide +kernel
theorem dr_Mo_target_69 : decode bc_Mo_target 69 = .ok (.ireturn, 1) := by decide +kernel
theorem dr_Mo_target_70 : decode bc_Mo_target 70 = .ok (.aload_n 0, 1) := by decide +kernel
theorem dr_Mo_target_71 : decode bc_Mo_target 71 = .ok (.getfield 39, 3) := by decide +kernel
theorem dr_Mo_target_74 : decode bc_Mo_target 74 = .ok (.iload_n 1, 1) := by decide +kernel
theorem dr_Mo_target_75 : decode bc_Mo_target 75 = .ok (.iconst 1, 1) := by decide +kernel
theorem dr_Mo_target_76 : decode bc_Mo_target 76 = .ok (.bastore, 1) := by decide +kernel
theorem dr_Mo_target_77 : decode bc_Mo_target 77 = .ok (.aload_n 0, 1) := by decide +kernel
theorem dr_Mo_target_78 : decode bc_Mo_target 78 = .ok (.getfield 42, 3) := by decide +kernel
theorem dr_Mo_target_81 : decode bc_Mo_target 81 = .ok (.iload_n 1, 1) := by decide +kernel
theorem dr_Mo_target_82 : decode bc_Mo_target 82 = .ok (.lload_n 2, 1) := by decide +kernel
theorem dr_Mo_target_83 : decode bc_Mo_target 83 = .ok (.lastore, 1) := by decide +kernel
theorem dr_Mo_target_84 : decode bc_Mo_target 84 = .ok (.aload_n 0, 1) := by decide +kernel
theorem dr_Mo_target_85 : decode bc_Mo_target 85 = .ok (.getfield 45, 3) := by decide +kernel
theorem dr_Mo_target_88 : decode bc_Mo_target 88 = .ok (.iload_n 1, 1) := by decide +kernel
theorem dr_Mo_target_89 : decode bc_Mo_target 89 = .ok (.lload 4, 2) := by decide +kernel
theorem dr_Mo_target_91 : decode bc_Mo_target 91 = .ok (.lastore, 1) := by decide +kernel
theorem dr_Mo_target_92 : decode bc_Mo_target 92 = .ok (.iconst 1, 1) := by decide +kernel
theorem dr_Mo_target_93 : decode bc_Mo_target 93 = .ok (.ireturn, 1) := by decide +kernel
theorem dr_Mo_lock_0 : decode bc_Mo_lock 0 = .ok (.aload_n 0, 1) := by decide +kernel
theorem dr_Mo_lock_1 : decode bc_Mo_lock 1 = .ok (.aload_n 0, 1) := by decide +kernel
theorem dr_Mo_lock_2 : decode bc_Mo_lock 2 = .ok (.iload_n 1, 1) := by decide +kernel
theorem dr_Mo_lock_3 : decode bc_Mo_lock 3 = .ok (.invokevirtual 100, 3) := by decide +kernel
theorem dr_Mo_lock_6 : decode bc_Mo_lock 6 = .ok (.ifCond .eq 7, 3) := by decide +kernel
theorem dr_Mo_lock_9 : decode bc_Mo_lock 9 = .ok (.iconst 0, 1) := by decide +kernel
theorem dr_Mo_lock_10 : decode bc_Mo_lock 10 = .ok (.goto 4, 3) := by decide +kernel
theorem dr_Mo_lock_13 : decode bc_Mo_lock 13 = .ok (.iconst 1, 1) := by decide +kernel
theorem dr_Mo_lock_14 : decode bc_Mo_lock 14 = .ok (.putfield 78, 3) := by decide +kernel
theorem dr_Mo_lock_17 : decode bc_Mo_lock 17 = .ok (.aload_n 0, 1) := by decide +kernel
theorem dr_Mo_lock_18 : decode bc_Mo_lock 18 = .ok (.getfield 78, 3) := by decide +kernel
theorem dr_Mo_lock_21 : decode bc_Mo_lock 21 = .ok (.ifCond .ne 12, 3) := by decide +kernel
theorem dr_Mo_lock_24 : decode bc_Mo_lock 24 = .ok (.aload_n 0, 1) := by decide +kernel
theorem dr_Mo_lock_25 : decode bc_Mo_lock 25 = .ok (.getfield 29, 3) := by decide +kernel
theorem dr_Mo_lock_28 : decode bc_Mo_lock 28 = .ok (.iload_n 1, 1) := by decide +kernel
theorem dr_Mo_lock_29 : decode bc_Mo_lock 29 = .ok (.baload, 1) := by decide +kernel
theorem dr_Mo_lock_30 : decode bc_Mo_lock 30 = .ok (.ifCond .eq 5, 3) := by decide +kernel
theorem dr_Mo_lock_33 : decode bc_Mo_lock 33 = .ok (.iconst 0, 1) := by decide +kernel
theorem dr_Mo_lock_34 : decode bc_Mo_lock 34 = .ok (.ireturn, 1) := by decide +kernel
theorem dr_Mo_lock_35 : decode bc_Mo_lock 35 = .ok (.aload_n 0, 1) := by decide +kernel
theorem dr_Mo_lock_36 : decode bc_Mo_lock 36 = .ok (.getfield 29, 3) := by decide +kernel
theorem dr_Mo_lock_39 : decode bc_Mo_lock 39 = .ok (.iload_n 1, 1) := by decide +kernel
theorem dr_Mo_lock_40 : decode bc_Mo_lock 40 = .ok (.iconst 1, 1) := by decide +kernel
theorem dr_Mo_lock_41 : decode bc_Mo_lock 41 = .ok (.bastore, 1) := by decide +kernel
theorem dr_Mo_lock_42 : decode bc_Mo_lock 42 = .ok (.iconst 1, 1) := by decide +kernel
theorem dr_Mo_lock_43 : decode bc_Mo_lock 43 = .ok (.ireturn, 1) := by decide +kernel
theorem dr_Mo_pair_0 : decode bc_Mo_pair 0 = .ok (.aload_n 0, 1) := by decide +kernel
theorem dr_Mo_pair_1 : decode bc_Mo_pair 1 = .ok (.aload_n 0, 1) := by decide +kernel
theorem dr_Mo_pair_2 : decode bc_Mo_pair 2 = .ok (.iload_n 1, 1) := by decide +kernel
theorem dr_Mo_pair_3 : decode bc_Mo_pair 3 = .ok (.invokevirtual 100, 3) := by decide +kernel
theorem dr_Mo_pair_6 : decode bc_Mo_pair 6 = .ok (.ifCond .eq 15, 3) := by decide +kernel
theorem dr_Mo_pair_9 : decode bc_Mo_pair 9 = .ok (.aload_n 0, 1) := by decide +kernel
theorem dr_Mo_pair_10 : decode bc_Mo_pair 10 = .ok (.iload_n 2, 1) := by decide +kernel
theorem dr_Mo_pair_11 : decode bc_Mo_pair 11 = .ok (.invokevirtual 100, 3) := by decide +kernel
theorem dr_Mo_pair_14 : decode bc_Mo_pair 14 = .ok (.ifCond .eq 7, 3) := by decide +kernel
theorem dr_Mo_pair_17 : decode bc_Mo_pair 17 = .ok (.iconst 0, 1) := by decide +kernel
theorem dr_Mo_pair_18 : decode bc_Mo_pair 18 = .ok (.goto 4, 3) := by decide +kernel
theorem dr_Mo_pair_21 : decode bc_Mo_pair 21 = .ok (.iconst 1, 1) := by decide +kernel
theorem dr_Mo_pair_22 : decode bc_Mo_pair 22 = .ok (.putfield 78, 3) := by decide +kernel
theorem dr_Mo_pair_25 : decode bc_Mo_pair 25 = .ok (.aload_n 0, 1) := by decide +kernel
theorem dr_Mo_pair_26 : decode bc_Mo_pair 26 = .ok (.getfield 78, 3) := by decide +kernel
theorem dr_Mo_pair_29 : decode bc_Mo_pair 29 = .ok (.ifCond .ne 43, 3) := by decide +kernel
theorem dr_Mo_pair_32 : decode bc_Mo_pair 32 = .ok (.iload_n 1, 1) := by decide +kernel
theorem dr_Mo_pair_33 : decode bc_Mo_pair 33 = .ok (.iload_n 2, 1) := by decide +kernel
theorem dr_Mo_pair_34 : decode bc_Mo_pair 34 = .ok (.if_icmp .eq 38, 3) := by decide +kernel
theorem dr_Mo_pair_37 : decode bc_Mo_pair 37 = .ok (.aload_n 0, 1) := by decide +kernel
theorem dr_Mo_pair_38 : decode bc_Mo_pair 38 = .ok (.getfield 7, 3) := by decide +kernel
theorem dr_Mo_pair_41 : decode bc_Mo_pair 41 = .ok (.iload_n 1, 1) := by decide +kernel
theorem dr_Mo_pair_42 : decode bc_Mo_pair 42 = .ok (.iaload, 1) := by decide +kernel
theorem dr_Mo_pair_43 : decode bc_Mo_pair 43 = .ok (.aload_n 0, 1) := by decide +kernel
theorem dr_Mo_pair_44 : decode bc_Mo_pair 44 = .ok (.getfield 7, 3) := by decide +kernel
theorem dr_Mo_pair_47 : decode bc_Mo_pair 47 = .ok (.iload_n 2, 1) := by decide +kernel
theorem dr_Mo_pair_48 : decode bc_Mo_pair 48 = .ok (.iaload, 1) := by decide +kernel
theorem dr_Mo_pair_49 : decode bc_Mo_pair 49 = .ok (.if_icmp .ne 23, 3) := by decide +kernel
theorem dr_Mo_pair_52 : decode bc_Mo_pair 52 = .ok (.aload_n 0, 1) := by decide +kernel
theorem dr_Mo_pair_53 : decode bc_Mo_pair 53 = .ok (.getfield 33, 3) := by decide +kernel
theorem dr_Mo_pair_56 : decode bc_Mo_pair 56 = .ok (.iload_n 1, 1) := by decide +kernel
theorem dr_Mo_pair_57 : decode bc_Mo_pair 57 = .ok (.iaload, 1) := by decide +kernel
theorem dr_Mo_pair_58 : decode bc_Mo_pair 58 = .ok (.iconst (-1), 1) := by decide +kernel
theorem dr_Mo_pair_59 : decode bc_Mo_pair 59 = .ok (.if_icmp .ne 13, 3) := by decide +kernel
theorem dr_Mo_pair_62 : decode bc_Mo_pair 62 = .ok (.aload_n 0, 1) := by decide +kernel
theorem dr_Mo_pair_63 : decode bc_Mo_pair 63 = .ok (.getfield 33, 3) := by decide +kernel
theorem dr_Mo_pair_66 : decode bc_Mo_pair 66 = .ok (.iload_n 2, 1) := by decide +kernel
theorem dr_Mo_pair_67 : decode bc_Mo_pair 67 = .ok (.iaload, 1) := by decide +kernel
theorem dr_Mo_pair_68 : decode bc_Mo_pair 68 = .ok (.iconst (-1), 1) := by decide +kernel
theorem dr_Mo_pair_69 : decode bc_Mo_pair 69 = .ok (.if_icmp .eq 5, 3) := by decide +kernel
theorem dr_Mo_pair_72 : decode bc_Mo_pair 72 = .ok (.iconst 0, 1) := by decide +kernel
theorem dr_Mo_pair_73 : decode bc_Mo_pair 73 = .ok (.ireturn, 1) := by decide +kernel
theorem dr_Mo_pair_74 : decode bc_Mo_pair 74 = .ok (.aload_n 0, 1) := by decide +kernel
theorem dr_Mo_pair_75 : decode bc_Mo_pair 75 = .ok (.getfield 33, 3) := by decide +kernel
theorem dr_Mo_pair_78 : decode bc_Mo_pair 78 = .ok (.iload_n 1, 1) := by decide +kernel
theorem dr_Mo_pair_79 : decode bc_Mo_pair 79 = .ok (.iload_n 2, 1) := by decide +kernel
theorem dr_Mo_pair_80 : decode bc_Mo_pair 80 = .ok (.iastore, 1) := by decide +kernel
theorem dr_Mo_pair_81 : decode bc_Mo_pair 81 = .ok (.aload_n 0, 1) := by decide +kernel
theorem dr_Mo_pair_82 : decode bc_Mo_pair 82 = .ok (.getfield 33, 3) := by decide +kernel
theorem dr_Mo_pair_85 : decode bc_Mo_pair 85 = .ok (.iload_n 2, 1) := by decide +kernel
theorem dr_Mo_pair_86 : decode bc_Mo_pair 86 = .ok (.iload_n 1, 1) := by decide +kernel
theorem dr_Mo_pair_87 : decode bc_Mo_pair 87 = .ok (.iastore, 1) := by decide +kernel
theorem dr_Mo_pair_88 : decode bc_Mo_pair 88 = .ok (.aload_n 0, 1) := by decide +kernel
theorem dr_Mo_pair_89 : decode bc_Mo_pair 89 = .ok (.getfield 36, 3) := by decide +kernel
theorem dr_Mo_pair_92 : decode bc_Mo_pair 92 = .ok (.iload_n 1, 1) := by decide +kernel
theorem dr_Mo_pair_93 : decode bc_Mo_pair 93 = .ok (.iconst 1, 1) := by decide +kernel
theorem dr_Mo_pair_94 : decode bc_Mo_pair 94 = .ok (.bastore, 1) := by decide +kernel
theorem dr_Mo_pair_95 : decode bc_Mo_pair 95 = .ok (.iconst 1, 1) := by decide +kernel
theorem dr_Mo_pair_96 : decode bc_Mo_pair 96 = .ok (.ireturn, 1) := by decide +kernel
theorem dr_Mo_bank_0 : decode bc_Mo_bank 0 = .ok (.aload_n 0, 1) := by decide +kernel
theorem dr_Mo_bank_1 : decode bc_Mo_bank 1 = .ok (.aload_n 0, 1) := by decide +kernel
theorem dr_Mo_bank_2 : decode bc_Mo_bank 2 = .ok (.iload_n 1, 1) := by decide +kernel
theorem dr_Mo_bank_3 : decode bc_Mo_bank 3 = .ok (.invokevirtual 100, 3) := by decide +kernel
theorem dr_Mo_bank_6 : decode bc_Mo_bank 6 = .ok (.ifCond .ne 7, 3) := by decide +kernel
theorem dr_Mo_bank_9 : decode bc_Mo_bank 9 = .ok (.iconst 1, 1) := by decide +kernel
theorem dr_Mo_bank_10 : decode bc_Mo_bank 10 = .ok (.goto 18, 3) := by decide +kernel
theorem dr_Mo_bank_13 : decode bc_Mo_bank 13 = .ok (.iload_n 2, 1) := by decide +kernel
theorem dr_Mo_bank_14 : decode bc_Mo_bank 14 = .ok (.ifCond .lt 9, 3) := by decide +kernel
theorem dr_Mo_bank_17 : decode bc_Mo_bank 17 = .ok (.iload_n 2, 1) := by decide +kernel
theorem dr_Mo_bank_18 : decode bc_Mo_bank 18 = .ok (.bipush 15, 2) := by decide +kernel
theorem dr_Mo_bank_20 : decode bc_Mo_bank 20 = .ok (.if_icmp .le 7, 3) := by decide +kernel
theorem dr_Mo_bank_23 : decode bc_Mo_bank 23 = .ok (.iconst 2, 1) := by decide +kernel
theorem dr_Mo_bank_24 : decode bc_Mo_bank 24 = .ok (.goto 4, 3) := by decide +kernel
theorem dr_Mo_bank_27 : decode bc_Mo_bank 27 = .ok (.iconst 0, 1) := by decide +kernel
theorem dr_Mo_bank_28 : decode bc_Mo_bank 28 = .ok (.putfield 78, 3) := by decide +kernel
theorem dr_Mo_bank_31 : decode bc_Mo_bank 31 = .ok (.aload_n 0, 1) := by decide +kernel
theorem dr_Mo_bank_32 : decode bc_Mo_bank 32 = .ok (.getfield 78, 3) := by decide +kernel
theorem dr_Mo_bank_35 : decode bc_Mo_bank 35 = .ok (.ifCond .ne 13, 3) := by decide +kernel
theorem dr_Mo_bank_38 : decode bc_Mo_bank 38 = .ok (.aload_n 0, 1) := by decide +kernel
theorem dr_Mo_bank_39 : decode bc_Mo_bank 39 = .ok (.getfield 20, 3) := by decide +kernel
theorem dr_Mo_bank_42 : decode bc_Mo_bank 42 = .ok (.iload_n 1, 1) := by decide +kernel
theorem dr_Mo_bank_43 : decode bc_Mo_bank 43 = .ok (.iaload, 1) := by decide +kernel
theorem dr_Mo_bank_44 : decode bc_Mo_bank 44 = .ok (.iload_n 2, 1) := by decide +kernel
theorem dr_Mo_bank_45 : decode bc_Mo_bank 45 = .ok (.if_icmp .ne 5, 3) := by decide +kernel
theorem dr_Mo_bank_48 : decode bc_Mo_bank 48 = .ok (.iconst 0, 1) := by decide +kernel
theorem dr_Mo_bank_49 : decode bc_Mo_bank 49 = .ok (.ireturn, 1) := by decide +kernel
theorem dr_Mo_bank_50 : decode bc_Mo_bank 50 = .ok (.aload_n 0, 1) := by decide +kernel
theorem dr_Mo_bank_51 : decode bc_Mo_bank 51 = .ok (.getfield 20, 3) := by decide +kernel
theorem dr_Mo_bank_54 : decode bc_Mo_bank 54 = .ok (.iload_n 1, 1) := by decide +kernel
theorem dr_Mo_bank_55 : decode bc_Mo_bank 55 = .ok (.iload_n 2, 1) := by decide +kernel
theorem dr_Mo_bank_56 : decode bc_Mo_bank 56 = .ok (.iastore, 1) := by decide +kernel
theorem dr_Mo_bank_57 : decode bc_Mo_bank 57 = .ok (.iconst 1, 1) := by decide +kernel
theorem dr_Mo_bank_58 : decode bc_Mo_bank 58 = .ok (.ireturn, 1) := by decide +kernel
theorem dr_Mo_needs_0 : decode bc_Mo_needs 0 = .ok (.aload_n 0, 1) := by decide +kernel
theorem dr_Mo_needs_1 : decode bc_Mo_needs 1 = .ok (.iload_n 1, 1) := by decide +kernel
theorem dr_Mo_needs_2 : decode bc_Mo_needs 2 = .ok (.invokestatic 96, 3) := by decide +kernel
theorem dr_Mo_needs_5 : decode bc_Mo_needs 5 = .ok (.ifCond .ne 7, 3) := by decide +kernel
theorem dr_Mo_needs_8 : decode bc_Mo_needs 8 = .ok (.iconst 1, 1) := by decide +kernel
theorem dr_Mo_needs_9 : decode bc_Mo_needs 9 = .ok (.goto 19, 3) := by decide +kernel
theorem dr_Mo_needs_12 : decode bc_Mo_needs 12 = .ok (.iload_n 2, 1) := by decide +kernel
theorem dr_Mo_needs_13 : decode bc_Mo_needs 13 = .ok (.iconst (-1), 1) := by decide +kernel
theorem dr_Mo_needs_14 : decode bc_Mo_needs 14 = .ok (.if_icmp .lt 9, 3) := by decide +kernel
theorem dr_Mo_needs_17 : decode bc_Mo_needs 17 = .ok (.iload_n 2, 1) := by decide +kernel
theorem dr_Mo_needs_18 : decode bc_Mo_needs 18 = .ok (.bipush 15, 2) := by decide +kernel
theorem dr_Mo_needs_20 : decode bc_Mo_needs 20 = .ok (.if_icmp .le 7, 3) := by decide +kernel
theorem dr_Mo_needs_23 : decode bc_Mo_needs 23 = .ok (.iconst 2, 1) := by decide +kernel
theorem dr_Mo_needs_24 : decode bc_Mo_needs 24 = .ok (.goto 4, 3) := by decide +kernel
theorem dr_Mo_needs_27 : decode bc_Mo_needs 27 = .ok (.iconst 0, 1) := by decide +kernel
theorem dr_Mo_needs_28 : decode bc_Mo_needs 28 = .ok (.putfield 78, 3) := by decide +kernel
theorem dr_Mo_needs_31 : decode bc_Mo_needs 31 = .ok (.aload_n 0, 1) := by decide +kernel
theorem dr_Mo_needs_32 : decode bc_Mo_needs 32 = .ok (.getfield 78, 3) := by decide +kernel
theorem dr_Mo_needs_35 : decode bc_Mo_needs 35 = .ok (.ifCond .ne 15, 3) := by decide +kernel
theorem dr_Mo_needs_38 : decode bc_Mo_needs 38 = .ok (.aload_n 0, 1) := by decide +kernel
theorem dr_Mo_needs_39 : decode bc_Mo_needs 39 = .ok (.getfield 48, 3) := by decide +kernel
theorem dr_Mo_needs_42 : decode bc_Mo_needs 42 = .ok (.iload_n 1, 1) := by decide +kernel
theorem dr_Mo_needs_43 : decode bc_Mo_needs 43 = .ok (.iaload, 1) := by decide +kernel
theorem dr_Mo_needs_44 : decode bc_Mo_needs 44 = .ok (.iload_n 2, 1) := by decide +kernel
theorem dr_Mo_needs_45 : decode bc_Mo_needs 45 = .ok (.iconst 1, 1) := by decide +kernel
theorem dr_Mo_needs_46 : decode bc_Mo_needs 46 = .ok (.iadd, 1) := by decide +kernel
theorem dr_Mo_needs_47 : decode bc_Mo_needs 47 = .ok (.if_icmp .ne 5, 3) := by decide +kernel
theorem dr_Mo_needs_50 : decode bc_Mo_needs 50 = .ok (.iconst 0, 1) := by decide +kernel
theorem dr_Mo_needs_51 : decode bc_Mo_needs 51 = .ok (.ireturn, 1) := by decide +kernel
theorem dr_Mo_needs_52 : decode bc_Mo_needs 52 = .ok (.aload_n 0, 1) := by decide +kernel
theorem dr_Mo_needs_53 : decode bc_Mo_needs 53 = .ok (.getfield 48, 3) := by decide +kernel
theorem dr_Mo_needs_56 : decode bc_Mo_needs 56 = .ok (.iload_n 1, 1) := by decide +kernel
theorem dr_Mo_needs_57 : decode bc_Mo_needs 57 = .ok (.iload_n 2, 1) := by decide +kernel
theorem dr_Mo_needs_58 : decode bc_Mo_needs 58 = .ok (.iconst 1, 1) := by decide +kernel
theorem dr_Mo_needs_59 : decode bc_Mo_needs 59 = .ok (.iadd, 1) := by decide +kernel
theorem dr_Mo_needs_60 : decode bc_Mo_needs 60 = .ok (.iastore, 1) := by decide +kernel
theorem dr_Mo_needs_61 : decode bc_Mo_needs 61 = .ok (.iconst 1, 1) := by decide +kernel
theorem dr_Mo_needs_62 : decode bc_Mo_needs 62 = .ok (.ireturn, 1) := by decide +kernel
theorem dr_Mo_size_0 : decode bc_Mo_size 0 = .ok (.lload_n 0, 1) := by decide +kernel
theorem dr_Mo_size_1 : decode bc_Mo_size 1 = .ok (.lconst 0, 1) := by decide +kernel
theorem dr_Mo_size_2 : decode bc_Mo_size 2 = .ok (.lcmp, 1) := by decide +kernel
theorem dr_Mo_size_3 : decode bc_Mo_size 3 = .ok (.ifCond .ge 9, 3) := by decide +kernel
theorem dr_Mo_size_6 : decode bc_Mo_size 6 = .ok (.lconst 0, 1) := by decide +kernel
theorem dr_Mo_size_7 : decode bc_Mo_size 7 = .ok (.lload_n 0, 1) := by decide +kernel
theorem dr_Mo_size_8 : decode bc_Mo_size 8 = .ok (.lsub, 1) := by decide +kernel
theorem dr_Mo_size_9 : decode bc_Mo_size 9 = .ok (.goto 4, 3) := by decide +kernel
theorem dr_Mo_size_12 : decode bc_Mo_size 12 = .ok (.lload_n 0, 1) := by decide +kernel
theorem dr_Mo_size_13 : decode bc_Mo_size 13 = .ok (.lreturn, 1) := by decide +kernel
theorem dr_Mo_cost_0 : decode bc_Mo_cost 0 = .ok (.aload_n 0, 1) := by decide +kernel
theorem dr_Mo_cost_1 : decode bc_Mo_cost 1 = .ok (.getfield 39, 3) := by decide +kernel
theorem dr_Mo_cost_4 : decode bc_Mo_cost 4 = .ok (.iload_n 1, 1) := by decide +kernel
theorem dr_Mo_cost_5 : decode bc_Mo_cost 5 = .ok (.baload, 1) := by decide +kernel
theorem dr_Mo_cost_6 : decode bc_Mo_cost 6 = .ok (.ifCond .eq 39, 3) := by decide +kernel
theorem dr_Mo_cost_9 : decode bc_Mo_cost 9 = .ok (.aload_n 0, 1) := by decide +kernel
theorem dr_Mo_cost_10 : decode bc_Mo_cost 10 = .ok (.getfield 42, 3) := by decide +kernel
theorem dr_Mo_cost_13 : decode bc_Mo_cost 13 = .ok (.iload_n 1, 1) := by decide +kernel
theorem dr_Mo_cost_14 : decode bc_Mo_cost 14 = .ok (.laload, 1) := by decide +kernel
theorem dr_Mo_cost_15 : decode bc_Mo_cost 15 = .ok (.aload_n 0, 1) := by decide +kernel
theorem dr_Mo_cost_16 : decode bc_Mo_cost 16 = .ok (.getfield 13, 3) := by decide +kernel
theorem dr_Mo_cost_19 : decode bc_Mo_cost 19 = .ok (.iload_n 2, 1) := by decide +kernel
theorem dr_Mo_cost_20 : decode bc_Mo_cost 20 = .ok (.laload, 1) := by decide +kernel
theorem dr_Mo_cost_21 : decode bc_Mo_cost 21 = .ok (.lsub, 1) := by decide +kernel
theorem dr_Mo_cost_22 : decode bc_Mo_cost 22 = .ok (.invokestatic 103, 3) := by decide +kernel
theorem dr_Mo_cost_25 : decode bc_Mo_cost 25 = .ok (.aload_n 0, 1) := by decide +kernel
theorem dr_Mo_cost_26 : decode bc_Mo_cost 26 = .ok (.getfield 45, 3) := by decide +kernel
theorem dr_Mo_cost_29 : decode bc_Mo_cost 29 = .ok (.iload_n 1, 1) := by decide +kernel
theorem dr_Mo_cost_30 : decode bc_Mo_cost 30 = .ok (.laload, 1) := by decide +kernel
theorem dr_Mo_cost_31 : decode bc_Mo_cost 31 = .ok (.aload_n 0, 1) := by decide +kernel
theorem dr_Mo_cost_32 : decode bc_Mo_cost 32 = .ok (.getfield 17, 3) := by decide +kernel
theorem dr_Mo_cost_35 : decode bc_Mo_cost 35 = .ok (.iload_n 2, 1) := by decide +kernel
theorem dr_Mo_cost_36 : decode bc_Mo_cost 36 = .ok (.laload, 1) := by decide +kernel
theorem dr_Mo_cost_37 : decode bc_Mo_cost 37 = .ok (.lsub, 1) := by decide +kernel
theorem dr_Mo_cost_38 : decode bc_Mo_cost 38 = .ok (.invokestatic 103, 3) := by decide +kernel
theorem dr_Mo_cost_41 : decode bc_Mo_cost 41 = .ok (.ladd, 1) := by decide +kernel
theorem dr_Mo_cost_42 : decode bc_Mo_cost 42 = .ok (.goto 4, 3) := by decide +kernel
theorem dr_Mo_cost_45 : decode bc_Mo_cost 45 = .ok (.lconst 0, 1) := by decide +kernel
theorem dr_Mo_cost_46 : decode bc_Mo_cost 46 = .ok (.lstore_n 3, 1) := by decide +kernel
theorem dr_Mo_cost_47 : decode bc_Mo_cost 47 = .ok (.aload_n 0, 1) := by decide +kernel
theorem dr_Mo_cost_48 : decode bc_Mo_cost 48 = .ok (.getfield 48, 3) := by decide +kernel
theorem dr_Mo_cost_51 : decode bc_Mo_cost 51 = .ok (.iload_n 1, 1) := by decide +kernel
theorem dr_Mo_cost_52 : decode bc_Mo_cost 52 = .ok (.iaload, 1) := by decide +kernel
theorem dr_Mo_cost_53 : decode bc_Mo_cost 53 = .ok (.ifCond .le 28, 3) := by decide +kernel
theorem dr_Mo_cost_56 : decode bc_Mo_cost 56 = .ok (.aload_n 0, 1) := by decide +kernel
theorem dr_Mo_cost_57 : decode bc_Mo_cost 57 = .ok (.getfield 48, 3) := by decide +kernel
theorem dr_Mo_cost_60 : decode bc_Mo_cost 60 = .ok (.iload_n 1, 1) := by decide +kernel
theorem dr_Mo_cost_61 : decode bc_Mo_cost 61 = .ok (.iaload, 1) := by decide +kernel
theorem dr_Mo_cost_62 : decode bc_Mo_cost 62 = .ok (.aload_n 0, 1) := by decide +kernel
theorem dr_Mo_cost_63 : decode bc_Mo_cost 63 = .ok (.getfield 20, 3) := by decide +kernel
theorem dr_Mo_cost_66 : decode bc_Mo_cost 66 = .ok (.iload_n 2, 1) := by decide +kernel
theorem dr_Mo_cost_67 : decode bc_Mo_cost 67 = .ok (.iaload, 1) := by decide +kernel
theorem dr_Mo_cost_68 : decode bc_Mo_cost 68 = .ok (.iconst 1, 1) := by decide +kernel
theorem dr_Mo_cost_69 : decode bc_Mo_cost 69 = .ok (.iadd, 1) := by decide +kernel
theorem dr_Mo_cost_70 : decode bc_Mo_cost 70 = .ok (.if_icmp .eq 11, 3) := by decide +kernel
theorem dr_Mo_cost_73 : decode bc_Mo_cost 73 = .ok (.lload_n 3, 1) := by decide +kernel
theorem dr_Mo_cost_74 : decode bc_Mo_cost 74 = .ok (.ldc2_w 107, 3) := by decide +kernel
theorem dr_Mo_cost_77 : decode bc_Mo_cost 77 = .ok (.ladd, 1) := by decide +kernel
theorem dr_Mo_cost_78 : decode bc_Mo_cost 78 = .ok (.goto 4, 3) := by decide +kernel
theorem dr_Mo_cost_81 : decode bc_Mo_cost 81 = .ok (.lload_n 3, 1) := by decide +kernel
theorem dr_Mo_cost_82 : decode bc_Mo_cost 82 = .ok (.lreturn, 1) := by decide +kernel
theorem dr_Mo_sumOf_0 : decode bc_Mo_sumOf 0 = .ok (.lconst 0, 1) := by decide +kernel
theorem dr_Mo_sumOf_1 : decode bc_Mo_sumOf 1 = .ok (.lstore_n 1, 1) := by decide +kernel
theorem dr_Mo_sumOf_2 : decode bc_Mo_sumOf 2 = .ok (.iconst 0, 1) := by decide +kernel
theorem dr_Mo_sumOf_3 : decode bc_Mo_sumOf 3 = .ok (.istore_n 3, 1) := by decide +kernel
theorem dr_Mo_sumOf_4 : decode bc_Mo_sumOf 4 = .ok (.iload_n 3, 1) := by decide +kernel
theorem dr_Mo_sumOf_5 : decode bc_Mo_sumOf 5 = .ok (.aload_n 0, 1) := by decide +kernel
theorem dr_Mo_sumOf_6 : decode bc_Mo_sumOf 6 = .ok (.getfield 89, 3) := by decide +kernel
theorem dr_Mo_sumOf_9 : decode bc_Mo_sumOf 9 = .ok (.if_icmp .ge 23, 3) := by decide +kernel
theorem dr_Mo_sumOf_12 : decode bc_Mo_sumOf 12 = .ok (.lload_n 1, 1) := by decide +kernel
theorem dr_Mo_sumOf_13 : decode bc_Mo_sumOf 13 = .ok (.aload_n 0, 1) := by decide +kernel
theorem dr_Mo_sumOf_14 : decode bc_Mo_sumOf 14 = .ok (.aload_n 0, 1) := by decide +kernel
theorem dr_Mo_sumOf_15 : decode bc_Mo_sumOf 15 = .ok (.getfield 23, 3) := by decide +kernel
theorem dr_Mo_sumOf_18 : decode bc_Mo_sumOf 18 = .ok (.iload_n 3, 1) := by decide +kernel
theorem dr_Mo_sumOf_19 : decode bc_Mo_sumOf 19 = .ok (.iaload, 1) := by decide +kernel
theorem dr_Mo_sumOf_20 : decode bc_Mo_sumOf 20 = .ok (.iload_n 3, 1) := by decide +kernel
theorem dr_Mo_sumOf_21 : decode bc_Mo_sumOf 21 = .ok (.invokevirtual 109, 3) := by decide +kernel
theorem dr_Mo_sumOf_24 : decode bc_Mo_sumOf 24 = .ok (.ladd, 1) := by decide +kernel
theorem dr_Mo_sumOf_25 : decode bc_Mo_sumOf 25 = .ok (.lstore_n 1, 1) := by decide +kernel
theorem dr_Mo_sumOf_26 : decode bc_Mo_sumOf 26 = .ok (.iinc 3 1, 3) := by decide +kernel
theorem dr_Mo_sumOf_29 : decode bc_Mo_sumOf 29 = .ok (.goto (-25), 3) := by decide +kernel
theorem dr_Mo_sumOf_32 : decode bc_Mo_sumOf 32 = .ok (.lload_n 1, 1) := by decide +kernel
theorem dr_Mo_sumOf_33 : decode bc_Mo_sumOf 33 = .ok (.lreturn, 1) := by decide +kernel
theorem dr_Mo_sum_0 : decode bc_Mo_sum 0 = .ok (.aload_n 0, 1) := by decide +kernel
theorem dr_Mo_sum_1 : decode bc_Mo_sum 1 = .ok (.iconst 0, 1) := by decide +kernel
theorem dr_Mo_sum_2 : decode bc_Mo_sum 2 = .ok (.putfield 78, 3) := by decide +kernel
theorem dr_Mo_sum_5 : decode bc_Mo_sum 5 = .ok (.aload_n 0, 1) := by decide +kernel
theorem dr_Mo_sum_6 : decode bc_Mo_sum 6 = .ok (.invokevirtual 113, 3) := by decide +kernel
theorem dr_Mo_sum_9 : decode bc_Mo_sum 9 = .ok (.lreturn, 1) := by decide +kernel
theorem dr_Mo_before_0 : decode bc_Mo_before 0 = .ok (.aload_n 0, 1) := by decide +kernel
theorem dr_Mo_before_1 : decode bc_Mo_before 1 = .ok (.iconst 0, 1) := by decide +kernel
theorem dr_Mo_before_2 : decode bc_Mo_before 2 = .ok (.putfield 78, 3) := by decide +kernel
theorem dr_Mo_before_5 : decode bc_Mo_before 5 = .ok (.aload_n 0, 1) := by decide +kernel
theorem dr_Mo_before_6 : decode bc_Mo_before 6 = .ok (.getfield 117, 3) := by decide +kernel
theorem dr_Mo_before_9 : decode bc_Mo_before 9 = .ok (.lreturn, 1) := by decide +kernel
theorem dr_Mo_isUnit_0 : decode bc_Mo_isUnit 0 = .ok (.aload_n 0, 1) := by decide +kernel
theorem dr_Mo_isUnit_1 : decode bc_Mo_isUnit 1 = .ok (.getfield 7, 3) := by decide +kernel
theorem dr_Mo_isUnit_4 : decode bc_Mo_isUnit 4 = .ok (.iload_n 1, 1) := by decide +kernel
theorem dr_Mo_isUnit_5 : decode bc_Mo_isUnit 5 = .ok (.iaload, 1) := by decide +kernel
theorem dr_Mo_isUnit_6 : decode bc_Mo_isUnit 6 = .ok (.iload_n 2, 1) := by decide +kernel
theorem dr_Mo_isUnit_7 : decode bc_Mo_isUnit 7 = .ok (.if_icmp .ne 12, 3) := by decide +kernel
theorem dr_Mo_isUnit_10 : decode bc_Mo_isUnit 10 = .ok (.aload_n 0, 1) := by decide +kernel
theorem dr_Mo_isUnit_11 : decode bc_Mo_isUnit 11 = .ok (.getfield 29, 3) := by decide +kernel
theorem dr_Mo_isUnit_14 : decode bc_Mo_isUnit 14 = .ok (.iload_n 1, 1) := by decide +kernel
theorem dr_Mo_isUnit_15 : decode bc_Mo_isUnit 15 = .ok (.baload, 1) := by decide +kernel
theorem dr_Mo_isUnit_16 : decode bc_Mo_isUnit 16 = .ok (.ifCond .eq 5, 3) := by decide +kernel
theorem dr_Mo_isUnit_19 : decode bc_Mo_isUnit 19 = .ok (.iconst 0, 1) := by decide +kernel
theorem dr_Mo_isUnit_20 : decode bc_Mo_isUnit 20 = .ok (.ireturn, 1) := by decide +kernel
theorem dr_Mo_isUnit_21 : decode bc_Mo_isUnit 21 = .ok (.iload_n 3, 1) := by decide +kernel
theorem dr_Mo_isUnit_22 : decode bc_Mo_isUnit 22 = .ok (.ifCond .eq 34, 3) := by decide +kernel
theorem dr_Mo_isUnit_25 : decode bc_Mo_isUnit 25 = .ok (.aload_n 0, 1) := by decide +kernel
theorem dr_Mo_isUnit_26 : decode bc_Mo_isUnit 26 = .ok (.getfield 36, 3) := by decide +kernel
theorem dr_Mo_isUnit_29 : decode bc_Mo_isUnit 29 = .ok (.iload_n 1, 1) := by decide +kernel
theorem dr_Mo_isUnit_30 : decode bc_Mo_isUnit 30 = .ok (.baload, 1) := by decide +kernel
theorem dr_Mo_isUnit_31 : decode bc_Mo_isUnit 31 = .ok (.ifCond .eq 21, 3) := by decide +kernel
theorem dr_Mo_isUnit_34 : decode bc_Mo_isUnit 34 = .ok (.aload_n 0, 1) := by decide +kernel
theorem dr_Mo_isUnit_35 : decode bc_Mo_isUnit 35 = .ok (.getfield 29, 3) := by decide +kernel
theorem dr_Mo_isUnit_38 : decode bc_Mo_isUnit 38 = .ok (.aload_n 0, 1) := by decide +kernel
theorem dr_Mo_isUnit_39 : decode bc_Mo_isUnit 39 = .ok (.getfield 33, 3) := by decide +kernel
theorem dr_Mo_isUnit_42 : decode bc_Mo_isUnit 42 = .ok (.iload_n 1, 1) := by decide +kernel
theorem dr_Mo_isUnit_43 : decode bc_Mo_isUnit 43 = .ok (.iaload, 1) := by decide +kernel
theorem dr_Mo_isUnit_44 : decode bc_Mo_isUnit 44 = .ok (.baload, 1) := by decide +kernel
theorem dr_Mo_isUnit_45 : decode bc_Mo_isUnit 45 = .ok (.ifCond .ne 7, 3) := by decide +kernel
theorem dr_Mo_isUnit_48 : decode bc_Mo_isUnit 48 = .ok (.iconst 1, 1) := by decide +kernel
theorem dr_Mo_isUnit_49 : decode bc_Mo_isUnit 49 = .ok (.goto 22, 3) := by decide +kernel
theorem dr_Mo_isUnit_52 : decode bc_Mo_isUnit 52 = .ok (.iconst 0, 1) := by decide +kernel
theorem dr_Mo_isUnit_53 : decode bc_Mo_isUnit 53 = .ok (.goto 18, 3) := by decide +kernel
theorem dr_Mo_isUnit_56 : decode bc_Mo_isUnit 56 = .ok (.aload_n 0, 1) := by decide +kernel
theorem dr_Mo_isUnit_57 : decode bc_Mo_isUnit 57 = .ok (.getfield 33, 3) := by decide +kernel
theorem dr_Mo_isUnit_60 : decode bc_Mo_isUnit 60 = .ok (.iload_n 1, 1) := by decide +kernel
theorem dr_Mo_isUnit_61 : decode bc_Mo_isUnit 61 = .ok (.iaload, 1) := by decide +kernel
theorem dr_Mo_isUnit_62 : decode bc_Mo_isUnit 62 = .ok (.iconst (-1), 1) := by decide +kernel
theorem dr_Mo_isUnit_63 : decode bc_Mo_isUnit 63 = .ok (.if_icmp .ne 7, 3) := by decide +kernel
theorem dr_Mo_isUnit_66 : decode bc_Mo_isUnit 66 = .ok (.iconst 1, 1) := by decide +kernel
theorem dr_Mo_isUnit_67 : decode bc_Mo_isUnit 67 = .ok (.goto 4, 3) := by decide +kernel
theorem dr_Mo_isUnit_70 : decode bc_Mo_isUnit 70 = .ok (.iconst 0, 1) := by decide +kernel
theorem dr_Mo_isUnit_71 : decode bc_Mo_isUnit 71 = .ok (.ireturn, 1) := by decide +kernel
theorem dr_Mo_unitCost_0 : decode bc_Mo_unitCost 0 = .ok (.aload_n 0, 1) := by decide +kernel
theorem dr_Mo_unitCost_1 : decode bc_Mo_unitCost 1 = .ok (.aload_n 0, 1) := by decide +kernel
theorem dr_Mo_unitCost_2 : decode bc_Mo_unitCost 2 = .ok (.getfield 23, 3) := by decide +kernel
theorem dr_Mo_unitCost_5 : decode bc_Mo_unitCost 5 = .ok (.iload_n 2, 1) := by decide +kernel
theorem dr_Mo_unitCost_6 : decode bc_Mo_unitCost 6 = .ok (.iaload, 1) := by decide +kernel
theorem dr_Mo_unitCost_7 : decode bc_Mo_unitCost 7 = .ok (.iload_n 1, 1) := by decide +kernel
theorem dr_Mo_unitCost_8 : decode bc_Mo_unitCost 8 = .ok (.invokevirtual 109, 3) := by decide +kernel
theorem dr_Mo_unitCost_11 : decode bc_Mo_unitCost 11 = .ok (.iload_n 3, 1) := by decide +kernel
theorem dr_Mo_unitCost_12 : decode bc_Mo_unitCost 12 = .ok (.ifCond .eq 27, 3) := by decide +kernel
theorem dr_Mo_unitCost_15 : decode bc_Mo_unitCost 15 = .ok (.aload_n 0, 1) := by decide +kernel
theorem dr_Mo_unitCost_16 : decode bc_Mo_unitCost 16 = .ok (.aload_n 0, 1) := by decide +kernel
theorem dr_Mo_unitCost_17 : decode bc_Mo_unitCost 17 = .ok (.getfield 23, 3) := by decide +kernel
theorem dr_Mo_unitCost_20 : decode bc_Mo_unitCost 20 = .ok (.aload_n 0, 1) := by decide +kernel
theorem dr_Mo_unitCost_21 : decode bc_Mo_unitCost 21 = .ok (.getfield 33, 3) := by decide +kernel
theorem dr_Mo_unitCost_24 : decode bc_Mo_unitCost 24 = .ok (.iload_n 2, 1) := by decide +kernel
theorem dr_Mo_unitCost_25 : decode bc_Mo_unitCost 25 = .ok (.iaload, 1) := by decide +kernel
theorem dr_Mo_unitCost_26 : decode bc_Mo_unitCost 26 = .ok (.iaload, 1) := by decide +kernel
theorem dr_Mo_unitCost_27 : decode bc_Mo_unitCost 27 = .ok (.aload_n 0, 1) := by decide +kernel
theorem dr_Mo_unitCost_28 : decode bc_Mo_unitCost 28 = .ok (.getfield 33, 3) := by decide +kernel
theorem dr_Mo_unitCost_31 : decode bc_Mo_unitCost 31 = .ok (.iload_n 1, 1) := by decide +kernel
theorem dr_Mo_unitCost_32 : decode bc_Mo_unitCost 32 = .ok (.iaload, 1) := by decide +kernel
theorem dr_Mo_unitCost_33 : decode bc_Mo_unitCost 33 = .ok (.invokevirtual 109, 3) := by decide +kernel
theorem dr_Mo_unitCost_36 : decode bc_Mo_unitCost 36 = .ok (.goto 4, 3) := by decide +kernel
theorem dr_Mo_unitCost_39 : decode bc_Mo_unitCost 39 = .ok (.lconst 0, 1) := by decide +kernel
theorem dr_Mo_unitCost_40 : decode bc_Mo_unitCost 40 = .ok (.ladd, 1) := by decide +kernel
theorem dr_Mo_unitCost_41 : decode bc_Mo_unitCost 41 = .ok (.lreturn, 1) := by decide +kernel
theorem dr_Mo_bits_0 : decode bc_Mo_bits 0 = .ok (.iconst 0, 1) := by decide +kernel
theorem dr_Mo_bits_1 : decode bc_Mo_bits 1 = .ok (.istore_n 1, 1) := by decide +kernel
theorem dr_Mo_bits_2 : decode bc_Mo_bits 2 = .ok (.iload_n 0, 1) := by decide +kernel
theorem dr_Mo_bits_3 : decode bc_Mo_bits 3 = .ok (.istore_n 2, 1) := by decide +kernel
theorem dr_Mo_bits_4 : decode bc_Mo_bits 4 = .ok (.iload_n 2, 1) := by decide +kernel
theorem dr_Mo_bits_5 : decode bc_Mo_bits 5 = .ok (.ifCond .eq 16, 3) := by decide +kernel
theorem dr_Mo_bits_8 : decode bc_Mo_bits 8 = .ok (.iload_n 1, 1) := by decide +kernel
theorem dr_Mo_bits_9 : decode bc_Mo_bits 9 = .ok (.iload_n 2, 1) := by decide +kernel
theorem dr_Mo_bits_10 : decode bc_Mo_bits 10 = .ok (.iconst 1, 1) := by decide +kernel
theorem dr_Mo_bits_11 : decode bc_Mo_bits 11 = .ok (.iand, 1) := by decide +kernel
theorem dr_Mo_bits_12 : decode bc_Mo_bits 12 = .ok (.iadd, 1) := by decide +kernel
theorem dr_Mo_bits_13 : decode bc_Mo_bits 13 = .ok (.istore_n 1, 1) := by decide +kernel
theorem dr_Mo_bits_14 : decode bc_Mo_bits 14 = .ok (.iload_n 2, 1) := by decide +kernel
theorem dr_Mo_bits_15 : decode bc_Mo_bits 15 = .ok (.iconst 1, 1) := by decide +kernel
theorem dr_Mo_bits_16 : decode bc_Mo_bits 16 = .ok (.ishr, 1) := by decide +kernel
theorem dr_Mo_bits_17 : decode bc_Mo_bits 17 = .ok (.istore_n 2, 1) := by decide +kernel
theorem dr_Mo_bits_18 : decode bc_Mo_bits 18 = .ok (.goto (-14), 3) := by decide +kernel
theorem dr_Mo_bits_21 : decode bc_Mo_bits 21 = .ok (.iload_n 1, 1) := by decide +kernel
theorem dr_Mo_bits_22 : decode bc_Mo_bits 22 = .ok (.ireturn, 1) := by decide +kernel
theorem dr_Mo_reckon_0 : decode bc_Mo_reckon 0 = .ok (.aload_n 0, 1) := by decide +kernel
theorem dr_Mo_reckon_1 : decode bc_Mo_reckon 1 = .ok (.iconst 0, 1) := by decide +kernel
theorem dr_Mo_reckon_2 : decode bc_Mo_reckon 2 = .ok (.putfield 121, 3) := by decide +kernel
theorem dr_Mo_reckon_5 : decode bc_Mo_reckon 5 = .ok (.iconst 0, 1) := by decide +kernel
theorem dr_Mo_reckon_6 : decode bc_Mo_reckon 6 = .ok (.istore 5, 2) := by decide +kernel
theorem dr_Mo_reckon_8 : decode bc_Mo_reckon 8 = .ok (.iload 5, 2) := by decide +kernel
theorem dr_Mo_reckon_10 : decode bc_Mo_reckon 10 = .ok (.aload_n 0, 1) := by decide +kernel
theorem dr_Mo_reckon_11 : decode bc_Mo_reckon 11 = .ok (.getfield 89, 3) := by decide +kernel
theorem dr_Mo_reckon_14 : decode bc_Mo_reckon 14 = .ok (.if_icmp .ge 44, 3) := by decide +kernel
theorem dr_Mo_reckon_17 : decode bc_Mo_reckon 17 = .ok (.aload_n 0, 1) := by decide +kernel
theorem dr_Mo_reckon_18 : decode bc_Mo_reckon 18 = .ok (.iload 5, 2) := by decide +kernel
theorem dr_Mo_reckon_20 : decode bc_Mo_reckon 20 = .ok (.iload_n 1, 1) := by decide +kernel
theorem dr_Mo_reckon_21 : decode bc_Mo_reckon 21 = .ok (.iload_n 2, 1) := by decide +kernel
theorem dr_Mo_reckon_22 : decode bc_Mo_reckon 22 = .ok (.invokevirtual 124, 3) := by decide +kernel
theorem dr_Mo_reckon_25 : decode bc_Mo_reckon 25 = .ok (.ifCond .ne 6, 3) := by decide +kernel
theorem dr_Mo_reckon_28 : decode bc_Mo_reckon 28 = .ok (.goto 24, 3) := by decide +kernel
theorem dr_Mo_reckon_31 : decode bc_Mo_reckon 31 = .ok (.aload_n 0, 1) := by decide +kernel
theorem dr_Mo_reckon_32 : decode bc_Mo_reckon 32 = .ok (.getfield 63, 3) := by decide +kernel
theorem dr_Mo_reckon_35 : decode bc_Mo_reckon 35 = .ok (.aload_n 0, 1) := by decide +kernel
theorem dr_Mo_reckon_36 : decode bc_Mo_reckon 36 = .ok (.getfield 121, 3) := by decide +kernel
theorem dr_Mo_reckon_39 : decode bc_Mo_reckon 39 = .ok (.iload 5, 2) := by decide +kernel
theorem dr_Mo_reckon_41 : decode bc_Mo_reckon 41 = .ok (.iastore, 1) := by decide +kernel
theorem dr_Mo_reckon_42 : decode bc_Mo_reckon 42 = .ok (.aload_n 0, 1) := by decide +kernel
theorem dr_Mo_reckon_43 : decode bc_Mo_reckon 43 = .ok (.dup, 1) := by decide +kernel
theorem dr_Mo_reckon_44 : decode bc_Mo_reckon 44 = .ok (.getfield 121, 3) := by decide +kernel
theorem dr_Mo_reckon_47 : decode bc_Mo_reckon 47 = .ok (.iconst 1, 1) := by decide +kernel
theorem dr_Mo_reckon_48 : decode bc_Mo_reckon 48 = .ok (.iadd, 1) := by decide +kernel
theorem dr_Mo_reckon_49 : decode bc_Mo_reckon 49 = .ok (.putfield 121, 3) := by decide +kernel
theorem dr_Mo_reckon_52 : decode bc_Mo_reckon 52 = .ok (.iinc 5 1, 3) := by decide +kernel
theorem dr_Mo_reckon_55 : decode bc_Mo_reckon 55 = .ok (.goto (-47), 3) := by decide +kernel
theorem dr_Mo_reckon_58 : decode bc_Mo_reckon 58 = .ok (.iconst 0, 1) := by decide +kernel
theorem dr_Mo_reckon_59 : decode bc_Mo_reckon 59 = .ok (.istore 5, 2) := by decide +kernel
theorem dr_Mo_reckon_61 : decode bc_Mo_reckon 61 = .ok (.iload 5, 2) := by decide +kernel
theorem dr_Mo_reckon_63 : decode bc_Mo_reckon 63 = .ok (.aload_n 0, 1) := by decide +kernel
theorem dr_Mo_reckon_64 : decode bc_Mo_reckon 64 = .ok (.getfield 121, 3) := by decide +kernel
theorem dr_Mo_reckon_67 : decode bc_Mo_reckon 67 = .ok (.if_icmp .ge 114, 3) := by decide +kernel
theorem dr_Mo_reckon_70 : decode bc_Mo_reckon 70 = .ok (.iconst 0, 1) := by decide +kernel
theorem dr_Mo_reckon_71 : decode bc_Mo_reckon 71 = .ok (.istore 6, 2) := by decide +kernel
theorem dr_Mo_reckon_73 : decode bc_Mo_reckon 73 = .ok (.iload 6, 2) := by decide +kernel
theorem dr_Mo_reckon_75 : decode bc_Mo_reckon 75 = .ok (.aload_n 0, 1) := by decide +kernel
theorem dr_Mo_reckon_76 : decode bc_Mo_reckon 76 = .ok (.getfield 121, 3) := by decide +kernel
theorem dr_Mo_reckon_79 : decode bc_Mo_reckon 79 = .ok (.if_icmp .ge 96, 3) := by decide +kernel
theorem dr_Mo_reckon_82 : decode bc_Mo_reckon 82 = .ok (.aload_n 0, 1) := by decide +kernel
theorem dr_Mo_reckon_83 : decode bc_Mo_reckon 83 = .ok (.getfield 63, 3) := by decide +kernel
theorem dr_Mo_reckon_86 : decode bc_Mo_reckon 86 = .ok (.iload 5, 2) := by decide +kernel
theorem dr_Mo_reckon_88 : decode bc_Mo_reckon 88 = .ok (.iaload, 1) := by decide +kernel
theorem dr_Mo_reckon_89 : decode bc_Mo_reckon 89 = .ok (.iload_n 3, 1) := by decide +kernel
theorem dr_Mo_reckon_90 : decode bc_Mo_reckon 90 = .ok (.if_icmp .ne 33, 3) := by decide +kernel
theorem dr_Mo_reckon_93 : decode bc_Mo_reckon 93 = .ok (.iload 4, 2) := by decide +kernel
theorem dr_Mo_reckon_95 : decode bc_Mo_reckon 95 = .ok (.iconst 1, 1) := by decide +kernel
theorem dr_Mo_reckon_96 : decode bc_Mo_reckon 96 = .ok (.if_icmp .ne 10, 3) := by decide +kernel
theorem dr_Mo_reckon_99 : decode bc_Mo_reckon 99 = .ok (.iload 5, 2) := by decide +kernel
theorem dr_Mo_reckon_101 : decode bc_Mo_reckon 101 = .ok (.iload 6, 2) := by decide +kernel
theorem dr_Mo_reckon_103 : decode bc_Mo_reckon 103 = .ok (.if_icmp .ne 16, 3) := by decide +kernel
theorem dr_Mo_reckon_106 : decode bc_Mo_reckon 106 = .ok (.iload 4, 2) := by decide +kernel
theorem dr_Mo_reckon_108 : decode bc_Mo_reckon 108 = .ok (.iconst (-1), 1) := by decide +kernel
theorem dr_Mo_reckon_109 : decode bc_Mo_reckon 109 = .ok (.if_icmp .ne 14, 3) := by decide +kernel
theorem dr_Mo_reckon_112 : decode bc_Mo_reckon 112 = .ok (.iload 5, 2) := by decide +kernel
theorem dr_Mo_reckon_114 : decode bc_Mo_reckon 114 = .ok (.iload 6, 2) := by decide +kernel
theorem dr_Mo_reckon_116 : decode bc_Mo_reckon 116 = .ok (.if_icmp .ne 7, 3) := by decide +kernel
theorem dr_Mo_reckon_119 : decode bc_Mo_reckon 119 = .ok (.iconst 1, 1) := by decide +kernel
theorem dr_Mo_reckon_120 : decode bc_Mo_reckon 120 = .ok (.goto 4, 3) := by decide +kernel
theorem dr_Mo_reckon_123 : decode bc_Mo_reckon 123 = .ok (.iconst 0, 1) := by decide +kernel
theorem dr_Mo_reckon_124 : decode bc_Mo_reckon 124 = .ok (.istore 7, 2) := by decide +kernel
theorem dr_Mo_reckon_126 : decode bc_Mo_reckon 126 = .ok (.aload_n 0, 1) := by decide +kernel
theorem dr_Mo_reckon_127 : decode bc_Mo_reckon 127 = .ok (.getfield 66, 3) := by decide +kernel
theorem dr_Mo_reckon_130 : decode bc_Mo_reckon 130 = .ok (.bipush 12, 2) := by decide +kernel
theorem dr_Mo_reckon_132 : decode bc_Mo_reckon 132 = .ok (.iload 5, 2) := by decide +kernel
theorem dr_Mo_reckon_134 : decode bc_Mo_reckon 134 = .ok (.imul, 1) := by decide +kernel
theorem dr_Mo_reckon_135 : decode bc_Mo_reckon 135 = .ok (.iload 6, 2) := by decide +kernel
theorem dr_Mo_reckon_137 : decode bc_Mo_reckon 137 = .ok (.iadd, 1) := by decide +kernel
theorem dr_Mo_reckon_138 : decode bc_Mo_reckon 138 = .ok (.iload 7, 2) := by decide +kernel
theorem dr_Mo_reckon_140 : decode bc_Mo_reckon 140 = .ok (.ifCond .eq 9, 3) := by decide +kernel
theorem dr_Mo_reckon_143 : decode bc_Mo_reckon 143 = .ok (.ldc2_w 128, 3) := by decide +kernel
theorem dr_Mo_reckon_146 : decode bc_Mo_reckon 146 = .ok (.goto 22, 3) := by decide +kernel
theorem dr_Mo_reckon_149 : decode bc_Mo_reckon 149 = .ok (.aload_n 0, 1) := by decide +kernel
theorem dr_Mo_reckon_150 : decode bc_Mo_reckon 150 = .ok (.aload_n 0, 1) := by decide +kernel
theorem dr_Mo_reckon_151 : decode bc_Mo_reckon 151 = .ok (.getfield 63, 3) := by decide +kernel
theorem dr_Mo_reckon_154 : decode bc_Mo_reckon 154 = .ok (.iload 5, 2) := by decide +kernel
theorem dr_Mo_reckon_156 : decode bc_Mo_reckon 156 = .ok (.iaload, 1) := by decide +kernel
theorem dr_Mo_reckon_157 : decode bc_Mo_reckon 157 = .ok (.aload_n 0, 1) := by decide +kernel
theorem dr_Mo_reckon_158 : decode bc_Mo_reckon 158 = .ok (.getfield 63, 3) := by decide +kernel
theorem dr_Mo_reckon_161 : decode bc_Mo_reckon 161 = .ok (.iload 6, 2) := by decide +kernel
theorem dr_Mo_reckon_163 : decode bc_Mo_reckon 163 = .ok (.iaload, 1) := by decide +kernel
theorem dr_Mo_reckon_164 : decode bc_Mo_reckon 164 = .ok (.iload_n 2, 1) := by decide +kernel
theorem dr_Mo_reckon_165 : decode bc_Mo_reckon 165 = .ok (.invokevirtual 130, 3) := by decide +kernel
theorem dr_Mo_reckon_168 : decode bc_Mo_reckon 168 = .ok (.lastore, 1) := by decide +kernel
theorem dr_Mo_reckon_169 : decode bc_Mo_reckon 169 = .ok (.iinc 6 1, 3) := by decide +kernel
theorem dr_Mo_reckon_172 : decode bc_Mo_reckon 172 = .ok (.goto (-99), 3) := by decide +kernel
theorem dr_Mo_reckon_175 : decode bc_Mo_reckon 175 = .ok (.iinc 5 1, 3) := by decide +kernel
theorem dr_Mo_reckon_178 : decode bc_Mo_reckon 178 = .ok (.goto (-117), 3) := by decide +kernel
theorem dr_Mo_reckon_181 : decode bc_Mo_reckon 181 = .ok (.iconst 1, 1) := by decide +kernel
theorem dr_Mo_reckon_182 : decode bc_Mo_reckon 182 = .ok (.aload_n 0, 1) := by decide +kernel
theorem dr_Mo_reckon_183 : decode bc_Mo_reckon 183 = .ok (.getfield 121, 3) := by decide +kernel
theorem dr_Mo_reckon_186 : decode bc_Mo_reckon 186 = .ok (.ishl, 1) := by decide +kernel
theorem dr_Mo_reckon_187 : decode bc_Mo_reckon 187 = .ok (.iconst 1, 1) := by decide +kernel
theorem dr_Mo_reckon_188 : decode bc_Mo_reckon 188 = .ok (.isub, 1) := by decide +kernel
theorem dr_Mo_reckon_189 : decode bc_Mo_reckon 189 = .ok (.istore 5, 2) := by decide +kernel
theorem dr_Mo_reckon_191 : decode bc_Mo_reckon 191 = .ok (.aload_n 0, 1) := by decide +kernel
theorem dr_Mo_reckon_192 : decode bc_Mo_reckon 192 = .ok (.getfield 69, 3) := by decide +kernel
theorem dr_Mo_reckon_195 : decode bc_Mo_reckon 195 = .ok (.iload 5, 2) := by decide +kernel
theorem dr_Mo_reckon_197 : decode bc_Mo_reckon 197 = .ok (.lconst 0, 1) := by decide +kernel
theorem dr_Mo_reckon_198 : decode bc_Mo_reckon 198 = .ok (.lastore, 1) := by decide +kernel
theorem dr_Mo_reckon_199 : decode bc_Mo_reckon 199 = .ok (.iload 5, 2) := by decide +kernel
theorem dr_Mo_reckon_201 : decode bc_Mo_reckon 201 = .ok (.iconst 1, 1) := by decide +kernel
theorem dr_Mo_reckon_202 : decode bc_Mo_reckon 202 = .ok (.isub, 1) := by decide +kernel
theorem dr_Mo_reckon_203 : decode bc_Mo_reckon 203 = .ok (.istore 6, 2) := by decide +kernel
theorem dr_Mo_reckon_205 : decode bc_Mo_reckon 205 = .ok (.iload 6, 2) := by decide +kernel
theorem dr_Mo_reckon_207 : decode bc_Mo_reckon 207 = .ok (.ifCond .lt 107, 3) := by decide +kernel
theorem dr_Mo_reckon_210 : decode bc_Mo_reckon 210 = .ok (.iload 6, 2) := by decide +kernel
theorem dr_Mo_reckon_212 : decode bc_Mo_reckon 212 = .ok (.invokestatic 134, 3) := by decide +kernel
theorem dr_Mo_reckon_215 : decode bc_Mo_reckon 215 = .ok (.istore 7, 2) := by decide +kernel
theorem dr_Mo_reckon_217 : decode bc_Mo_reckon 217 = .ok (.ldc2_w 128, 3) := by decide +kernel
theorem dr_Mo_reckon_220 : decode bc_Mo_reckon 220 = .ok (.lstore 8, 2) := by decide +kernel
theorem dr_Mo_reckon_222 : decode bc_Mo_reckon 222 = .ok (.iconst 0, 1) := by decide +kernel
theorem dr_Mo_reckon_223 : decode bc_Mo_reckon 223 = .ok (.istore 10, 2) := by decide +kernel
theorem dr_Mo_reckon_225 : decode bc_Mo_reckon 225 = .ok (.iload 10, 2) := by decide +kernel
theorem dr_Mo_reckon_227 : decode bc_Mo_reckon 227 = .ok (.aload_n 0, 1) := by decide +kernel
theorem dr_Mo_reckon_228 : decode bc_Mo_reckon 228 = .ok (.getfield 121, 3) := by decide +kernel
theorem dr_Mo_reckon_231 : decode bc_Mo_reckon 231 = .ok (.if_icmp .ge 68, 3) := by decide +kernel
theorem dr_Mo_reckon_234 : decode bc_Mo_reckon 234 = .ok (.iload 6, 2) := by decide +kernel
theorem dr_Mo_reckon_236 : decode bc_Mo_reckon 236 = .ok (.iload 10, 2) := by decide +kernel
theorem dr_Mo_reckon_238 : decode bc_Mo_reckon 238 = .ok (.ishr, 1) := by decide +kernel
theorem dr_Mo_reckon_239 : decode bc_Mo_reckon 239 = .ok (.iconst 1, 1) := by decide +kernel
theorem dr_Mo_reckon_240 : decode bc_Mo_reckon 240 = .ok (.iand, 1) := by decide +kernel
theorem dr_Mo_reckon_241 : decode bc_Mo_reckon 241 = .ok (.iconst 1, 1) := by decide +kernel
theorem dr_Mo_reckon_242 : decode bc_Mo_reckon 242 = .ok (.if_icmp .ne 6, 3) := by decide +kernel
theorem dr_Mo_reckon_245 : decode bc_Mo_reckon 245 = .ok (.goto 48, 3) := by decide +kernel
theorem dr_Mo_reckon_248 : decode bc_Mo_reckon 248 = .ok (.aload_n 0, 1) := by decide +kernel
theorem dr_Mo_reckon_249 : decode bc_Mo_reckon 249 = .ok (.getfield 66, 3) := by decide +kernel
theorem dr_Mo_reckon_252 : decode bc_Mo_reckon 252 = .ok (.bipush 12, 2) := by decide +kernel
theorem dr_Mo_reckon_254 : decode bc_Mo_reckon 254 = .ok (.iload 7, 2) := by decide +kernel
theorem dr_Mo_reckon_256 : decode bc_Mo_reckon 256 = .ok (.imul, 1) := by decide +kernel
theorem dr_Mo_reckon_257 : decode bc_Mo_reckon 257 = .ok (.iload 10, 2) := by decide +kernel
theorem dr_Mo_reckon_259 : decode bc_Mo_reckon 259 = .ok (.iadd, 1) := by decide +kernel
theorem dr_Mo_reckon_260 : decode bc_Mo_reckon 260 = .ok (.laload, 1) := by decide +kernel
theorem dr_Mo_reckon_261 : decode bc_Mo_reckon 261 = .ok (.aload_n 0, 1) := by decide +kernel
theorem dr_Mo_reckon_262 : decode bc_Mo_reckon 262 = .ok (.getfield 69, 3) := by decide +kernel
theorem dr_Mo_reckon_265 : decode bc_Mo_reckon 265 = .ok (.iload 6, 2) := by decide +kernel
theorem dr_Mo_reckon_267 : decode bc_Mo_reckon 267 = .ok (.iconst 1, 1) := by decide +kernel
theorem dr_Mo_reckon_268 : decode bc_Mo_reckon 268 = .ok (.iload 10, 2) := by decide +kernel
theorem dr_Mo_reckon_270 : decode bc_Mo_reckon 270 = .ok (.ishl, 1) := by decide +kernel
theorem dr_Mo_reckon_271 : decode bc_Mo_reckon 271 = .ok (.ior, 1) := by decide +kernel
theorem dr_Mo_reckon_272 : decode bc_Mo_reckon 272 = .ok (.laload, 1) := by decide +kernel
theorem dr_Mo_reckon_273 : decode bc_Mo_reckon 273 = .ok (.ladd, 1) := by decide +kernel
theorem dr_Mo_reckon_274 : decode bc_Mo_reckon 274 = .ok (.lstore 11, 2) := by decide +kernel
theorem dr_Mo_reckon_276 : decode bc_Mo_reckon 276 = .ok (.lload 11, 2) := by decide +kernel
theorem dr_Mo_reckon_278 : decode bc_Mo_reckon 278 = .ok (.lload 8, 2) := by decide +kernel
theorem dr_Mo_reckon_280 : decode bc_Mo_reckon 280 = .ok (.lcmp, 1) := by decide +kernel
theorem dr_Mo_reckon_281 : decode bc_Mo_reckon 281 = .ok (.ifCond .ge 8, 3) := by decide +kernel
theorem dr_Mo_reckon_284 : decode bc_Mo_reckon 284 = .ok (.lload 11, 2) := by decide +kernel
theorem dr_Mo_reckon_286 : decode bc_Mo_reckon 286 = .ok (.goto 5, 3) := by decide +kernel
theorem dr_Mo_reckon_289 : decode bc_Mo_reckon 289 = .ok (.lload 8, 2) := by decide +kernel
theorem dr_Mo_reckon_291 : decode bc_Mo_reckon 291 = .ok (.lstore 8, 2) := by decide +kernel
theorem dr_Mo_reckon_293 : decode bc_Mo_reckon 293 = .ok (.iinc 10 1, 3) := by decide +kernel
theorem dr_Mo_reckon_296 : decode bc_Mo_reckon 296 = .ok (.goto (-71), 3) := by decide +kernel
theorem dr_Mo_reckon_299 : decode bc_Mo_reckon 299 = .ok (.aload_n 0, 1) := by decide +kernel
theorem dr_Mo_reckon_300 : decode bc_Mo_reckon 300 = .ok (.getfield 69, 3) := by decide +kernel
theorem dr_Mo_reckon_303 : decode bc_Mo_reckon 303 = .ok (.iload 6, 2) := by decide +kernel
theorem dr_Mo_reckon_305 : decode bc_Mo_reckon 305 = .ok (.lload 8, 2) := by decide +kernel
theorem dr_Mo_reckon_307 : decode bc_Mo_reckon 307 = .ok (.lastore, 1) := by decide +kernel
theorem dr_Mo_reckon_308 : decode bc_Mo_reckon 308 = .ok (.iinc 6 (-1), 3) := by decide +kernel
theorem dr_Mo_reckon_311 : decode bc_Mo_reckon 311 = .ok (.goto (-106), 3) := by decide +kernel
theorem dr_Mo_reckon_314 : decode bc_Mo_reckon 314 = .ok (.return_, 1) := by decide +kernel
theorem dr_Mo_sumNow_0 : decode bc_Mo_sumNow 0 = .ok (.lconst 0, 1) := by decide +kernel
theorem dr_Mo_sumNow_1 : decode bc_Mo_sumNow 1 = .ok (.lstore_n 1, 1) := by decide +kernel
theorem dr_Mo_sumNow_2 : decode bc_Mo_sumNow 2 = .ok (.iconst 0, 1) := by decide +kernel
theorem dr_Mo_sumNow_3 : decode bc_Mo_sumNow 3 = .ok (.istore_n 3, 1) := by decide +kernel
theorem dr_Mo_sumNow_4 : decode bc_Mo_sumNow 4 = .ok (.iload_n 3, 1) := by decide +kernel
theorem dr_Mo_sumNow_5 : decode bc_Mo_sumNow 5 = .ok (.aload_n 0, 1) := by decide +kernel
theorem dr_Mo_sumNow_6 : decode bc_Mo_sumNow 6 = .ok (.getfield 121, 3) := by decide +kernel
theorem dr_Mo_sumNow_9 : decode bc_Mo_sumNow 9 = .ok (.if_icmp .ge 23, 3) := by decide +kernel
theorem dr_Mo_sumNow_12 : decode bc_Mo_sumNow 12 = .ok (.lload_n 1, 1) := by decide +kernel
theorem dr_Mo_sumNow_13 : decode bc_Mo_sumNow 13 = .ok (.aload_n 0, 1) := by decide +kernel
theorem dr_Mo_sumNow_14 : decode bc_Mo_sumNow 14 = .ok (.getfield 66, 3) := by decide +kernel
theorem dr_Mo_sumNow_17 : decode bc_Mo_sumNow 17 = .ok (.bipush 12, 2) := by decide +kernel
theorem dr_Mo_sumNow_19 : decode bc_Mo_sumNow 19 = .ok (.iload_n 3, 1) := by decide +kernel
theorem dr_Mo_sumNow_20 : decode bc_Mo_sumNow 20 = .ok (.imul, 1) := by decide +kernel
theorem dr_Mo_sumNow_21 : decode bc_Mo_sumNow 21 = .ok (.iload_n 3, 1) := by decide +kernel
theorem dr_Mo_sumNow_22 : decode bc_Mo_sumNow 22 = .ok (.iadd, 1) := by decide +kernel
theorem dr_Mo_sumNow_23 : decode bc_Mo_sumNow 23 = .ok (.laload, 1) := by decide +kernel
theorem dr_Mo_sumNow_24 : decode bc_Mo_sumNow 24 = .ok (.ladd, 1) := by decide +kernel
theorem dr_Mo_sumNow_25 : decode bc_Mo_sumNow 25 = .ok (.lstore_n 1, 1) := by decide +kernel
theorem dr_Mo_sumNow_26 : decode bc_Mo_sumNow 26 = .ok (.iinc 3 1, 3) := by decide +kernel
theorem dr_Mo_sumNow_29 : decode bc_Mo_sumNow 29 = .ok (.goto (-25), 3) := by decide +kernel
theorem dr_Mo_sumNow_32 : decode bc_Mo_sumNow 32 = .ok (.lload_n 1, 1) := by decide +kernel
theorem dr_Mo_sumNow_33 : decode bc_Mo_sumNow 33 = .ok (.lreturn, 1) := by decide +kernel
theorem dr_Mo_fits_0 : decode bc_Mo_fits 0 = .ok (.iload_n 3, 1) := by decide +kernel
theorem dr_Mo_fits_1 : decode bc_Mo_fits 1 = .ok (.iload_n 2, 1) := by decide +kernel
theorem dr_Mo_fits_2 : decode bc_Mo_fits 2 = .ok (.ishr, 1) := by decide +kernel
theorem dr_Mo_fits_3 : decode bc_Mo_fits 3 = .ok (.iconst 1, 1) := by decide +kernel
theorem dr_Mo_fits_4 : decode bc_Mo_fits 4 = .ok (.iand, 1) := by decide +kernel
theorem dr_Mo_fits_5 : decode bc_Mo_fits 5 = .ok (.ifCond .ne 39, 3) := by decide +kernel
theorem dr_Mo_fits_8 : decode bc_Mo_fits 8 = .ok (.aload_n 0, 1) := by decide +kernel
theorem dr_Mo_fits_9 : decode bc_Mo_fits 9 = .ok (.getfield 66, 3) := by decide +kernel
theorem dr_Mo_fits_12 : decode bc_Mo_fits 12 = .ok (.bipush 12, 2) := by decide +kernel
theorem dr_Mo_fits_14 : decode bc_Mo_fits 14 = .ok (.iload_n 1, 1) := by decide +kernel
theorem dr_Mo_fits_15 : decode bc_Mo_fits 15 = .ok (.imul, 1) := by decide +kernel
theorem dr_Mo_fits_16 : decode bc_Mo_fits 16 = .ok (.iload_n 2, 1) := by decide +kernel
theorem dr_Mo_fits_17 : decode bc_Mo_fits 17 = .ok (.iadd, 1) := by decide +kernel
theorem dr_Mo_fits_18 : decode bc_Mo_fits 18 = .ok (.laload, 1) := by decide +kernel
theorem dr_Mo_fits_19 : decode bc_Mo_fits 19 = .ok (.aload_n 0, 1) := by decide +kernel
theorem dr_Mo_fits_20 : decode bc_Mo_fits 20 = .ok (.getfield 69, 3) := by decide +kernel
theorem dr_Mo_fits_23 : decode bc_Mo_fits 23 = .ok (.iload_n 3, 1) := by decide +kernel
theorem dr_Mo_fits_24 : decode bc_Mo_fits 24 = .ok (.iconst 1, 1) := by decide +kernel
theorem dr_Mo_fits_25 : decode bc_Mo_fits 25 = .ok (.iload_n 2, 1) := by decide +kernel
theorem dr_Mo_fits_26 : decode bc_Mo_fits 26 = .ok (.ishl, 1) := by decide +kernel
theorem dr_Mo_fits_27 : decode bc_Mo_fits 27 = .ok (.ior, 1) := by decide +kernel
theorem dr_Mo_fits_28 : decode bc_Mo_fits 28 = .ok (.laload, 1) := by decide +kernel
theorem dr_Mo_fits_29 : decode bc_Mo_fits 29 = .ok (.ladd, 1) := by decide +kernel
theorem dr_Mo_fits_30 : decode bc_Mo_fits 30 = .ok (.aload_n 0, 1) := by decide +kernel
theorem dr_Mo_fits_31 : decode bc_Mo_fits 31 = .ok (.getfield 69, 3) := by decide +kernel
theorem dr_Mo_fits_34 : decode bc_Mo_fits 34 = .ok (.iload_n 3, 1) := by decide +kernel
theorem dr_Mo_fits_35 : decode bc_Mo_fits 35 = .ok (.laload, 1) := by decide +kernel
theorem dr_Mo_fits_36 : decode bc_Mo_fits 36 = .ok (.lcmp, 1) := by decide +kernel
theorem dr_Mo_fits_37 : decode bc_Mo_fits 37 = .ok (.ifCond .ne 7, 3) := by decide +kernel
theorem dr_Mo_fits_40 : decode bc_Mo_fits 40 = .ok (.iconst 1, 1) := by decide +kernel
theorem dr_Mo_fits_41 : decode bc_Mo_fits 41 = .ok (.goto 4, 3) := by decide +kernel
theorem dr_Mo_fits_44 : decode bc_Mo_fits 44 = .ok (.iconst 0, 1) := by decide +kernel
theorem dr_Mo_fits_45 : decode bc_Mo_fits 45 = .ok (.ireturn, 1) := by decide +kernel
end
section
theorem dr_Mo_choose_0 : decode bc_Mo_choose 0 = .ok (.iconst 0, 1) := by decide +kernel
theorem dr_Mo_choose_1 : decode bc_Mo_choose 1 = .ok (.istore_n 1, 1) := by decide +kernel
theorem dr_Mo_choose_2 : decode bc_Mo_choose 2 = .ok (.aload_n 0, 1) := by decide +kernel
theorem dr_Mo_choose_3 : decode bc_Mo_choose 3 = .ok (.invokevirtual 138, 3) := by decide +kernel
theorem dr_Mo_choose_6 : decode bc_Mo_choose 6 = .ok (.aload_n 0, 1) := by decide +kernel
theorem dr_Mo_choose_7 : decode bc_Mo_choose 7 = .ok (.getfield 69, 3) := by decide +kernel
theorem dr_Mo_choose_10 : decode bc_Mo_choose 10 = .ok (.iconst 0, 1) := by decide +kernel
theorem dr_Mo_choose_11 : decode bc_Mo_choose 11 = .ok (.laload, 1) := by decide +kernel
theorem dr_Mo_choose_12 : decode bc_Mo_choose 12 = .ok (.lcmp, 1) := by decide +kernel
theorem dr_Mo_choose_13 : decode bc_Mo_choose 13 = .ok (.ifCond .ne 7, 3) := by decide +kernel
theorem dr_Mo_choose_16 : decode bc_Mo_choose 16 = .ok (.iconst 1, 1) := by decide +kernel
theorem dr_Mo_choose_17 : decode bc_Mo_choose 17 = .ok (.goto 4, 3) := by decide +kernel
theorem dr_Mo_choose_20 : decode bc_Mo_choose 20 = .ok (.iconst 0, 1) := by decide +kernel
theorem dr_Mo_choose_21 : decode bc_Mo_choose 21 = .ok (.istore_n 2, 1) := by decide +kernel
theorem dr_Mo_choose_22 : decode bc_Mo_choose 22 = .ok (.iconst 0, 1) := by decide +kernel
theorem dr_Mo_choose_23 : decode bc_Mo_choose 23 = .ok (.istore_n 3, 1) := by decide +kernel
theorem dr_Mo_choose_24 : decode bc_Mo_choose 24 = .ok (.iload_n 3, 1) := by decide +kernel
theorem dr_Mo_choose_25 : decode bc_Mo_choose 25 = .ok (.aload_n 0, 1) := by decide +kernel
theorem dr_Mo_choose_26 : decode bc_Mo_choose 26 = .ok (.getfield 121, 3) := by decide +kernel
theorem dr_Mo_choose_29 : decode bc_Mo_choose 29 = .ok (.if_icmp .ge 64, 3) := by decide +kernel
theorem dr_Mo_choose_32 : decode bc_Mo_choose 32 = .ok (.iconst 0, 1) := by decide +kernel
theorem dr_Mo_choose_33 : decode bc_Mo_choose 33 = .ok (.istore 4, 2) := by decide +kernel
theorem dr_Mo_choose_35 : decode bc_Mo_choose 35 = .ok (.iload_n 2, 1) := by decide +kernel
theorem dr_Mo_choose_36 : decode bc_Mo_choose 36 = .ok (.ifCond .ne 13, 3) := by decide +kernel
theorem dr_Mo_choose_39 : decode bc_Mo_choose 39 = .ok (.aload_n 0, 1) := by decide +kernel
theorem dr_Mo_choose_40 : decode bc_Mo_choose 40 = .ok (.iload_n 3, 1) := by decide +kernel
theorem dr_Mo_choose_41 : decode bc_Mo_choose 41 = .ok (.iload_n 3, 1) := by decide +kernel
theorem dr_Mo_choose_42 : decode bc_Mo_choose 42 = .ok (.iload_n 1, 1) := by decide +kernel
theorem dr_Mo_choose_43 : decode bc_Mo_choose 43 = .ok (.invokevirtual 141, 3) := by decide +kernel
theorem dr_Mo_choose_46 : decode bc_Mo_choose 46 = .ok (.ifCond .eq 9, 3) := by decide +kernel
theorem dr_Mo_choose_49 : decode bc_Mo_choose 49 = .ok (.iload_n 3, 1) := by decide +kernel
theorem dr_Mo_choose_50 : decode bc_Mo_choose 50 = .ok (.istore 4, 2) := by decide +kernel
theorem dr_Mo_choose_52 : decode bc_Mo_choose 52 = .ok (.goto 20, 3) := by decide +kernel
theorem dr_Mo_choose_55 : decode bc_Mo_choose 55 = .ok (.aload_n 0, 1) := by decide +kernel
theorem dr_Mo_choose_56 : decode bc_Mo_choose 56 = .ok (.iload_n 3, 1) := by decide +kernel
theorem dr_Mo_choose_57 : decode bc_Mo_choose 57 = .ok (.iload 4, 2) := by decide +kernel
theorem dr_Mo_choose_59 : decode bc_Mo_choose 59 = .ok (.iload_n 1, 1) := by decide +kernel
theorem dr_Mo_choose_60 : decode bc_Mo_choose 60 = .ok (.invokevirtual 141, 3) := by decide +kernel
theorem dr_Mo_choose_63 : decode bc_Mo_choose 63 = .ok (.ifCond .ne 9, 3) := by decide +kernel
theorem dr_Mo_choose_66 : decode bc_Mo_choose 66 = .ok (.iinc 4 1, 3) := by decide +kernel
theorem dr_Mo_choose_69 : decode bc_Mo_choose 69 = .ok (.goto (-14), 3) := by decide +kernel
theorem dr_Mo_choose_72 : decode bc_Mo_choose 72 = .ok (.aload_n 0, 1) := by decide +kernel
theorem dr_Mo_choose_73 : decode bc_Mo_choose 73 = .ok (.getfield 72, 3) := by decide +kernel
theorem dr_Mo_choose_76 : decode bc_Mo_choose 76 = .ok (.iload_n 3, 1) := by decide +kernel
theorem dr_Mo_choose_77 : decode bc_Mo_choose 77 = .ok (.iload 4, 2) := by decide +kernel
theorem dr_Mo_choose_79 : decode bc_Mo_choose 79 = .ok (.iastore, 1) := by decide +kernel
theorem dr_Mo_choose_80 : decode bc_Mo_choose 80 = .ok (.iload_n 1, 1) := by decide +kernel
theorem dr_Mo_choose_81 : decode bc_Mo_choose 81 = .ok (.iconst 1, 1) := by decide +kernel
theorem dr_Mo_choose_82 : decode bc_Mo_choose 82 = .ok (.iload 4, 2) := by decide +kernel
theorem dr_Mo_choose_84 : decode bc_Mo_choose 84 = .ok (.ishl, 1) := by decide +kernel
theorem dr_Mo_choose_85 : decode bc_Mo_choose 85 = .ok (.ior, 1) := by decide +kernel
theorem dr_Mo_choose_86 : decode bc_Mo_choose 86 = .ok (.istore_n 1, 1) := by decide +kernel
theorem dr_Mo_choose_87 : decode bc_Mo_choose 87 = .ok (.iinc 3 1, 3) := by decide +kernel
theorem dr_Mo_choose_90 : decode bc_Mo_choose 90 = .ok (.goto (-66), 3) := by decide +kernel
theorem dr_Mo_choose_93 : decode bc_Mo_choose 93 = .ok (.return_, 1) := by decide +kernel
theorem dr_Mo_match_0 : decode bc_Mo_match 0 = .ok (.aload_n 0, 1) := by decide +kernel
theorem dr_Mo_match_1 : decode bc_Mo_match 1 = .ok (.iload_n 1, 1) := by decide +kernel
theorem dr_Mo_match_2 : decode bc_Mo_match 2 = .ok (.iload_n 2, 1) := by decide +kernel
theorem dr_Mo_match_3 : decode bc_Mo_match 3 = .ok (.iconst (-1), 1) := by decide +kernel
theorem dr_Mo_match_4 : decode bc_Mo_match 4 = .ok (.iconst 0, 1) := by decide +kernel
theorem dr_Mo_match_5 : decode bc_Mo_match 5 = .ok (.invokevirtual 145, 3) := by decide +kernel
theorem dr_Mo_match_8 : decode bc_Mo_match 8 = .ok (.aload_n 0, 1) := by decide +kernel
theorem dr_Mo_match_9 : decode bc_Mo_match 9 = .ok (.invokevirtual 149, 3) := by decide +kernel
theorem dr_Mo_match_12 : decode bc_Mo_match 12 = .ok (.iconst 0, 1) := by decide +kernel
theorem dr_Mo_match_13 : decode bc_Mo_match 13 = .ok (.istore_n 3, 1) := by decide +kernel
theorem dr_Mo_match_14 : decode bc_Mo_match 14 = .ok (.iload_n 3, 1) := by decide +kernel
theorem dr_Mo_match_15 : decode bc_Mo_match 15 = .ok (.aload_n 0, 1) := by decide +kernel
theorem dr_Mo_match_16 : decode bc_Mo_match 16 = .ok (.getfield 121, 3) := by decide +kernel
theorem dr_Mo_match_19 : decode bc_Mo_match 19 = .ok (.if_icmp .ge 72, 3) := by decide +kernel
theorem dr_Mo_match_22 : decode bc_Mo_match 22 = .ok (.aload_n 0, 1) := by decide +kernel
theorem dr_Mo_match_23 : decode bc_Mo_match 23 = .ok (.getfield 63, 3) := by decide +kernel
theorem dr_Mo_match_26 : decode bc_Mo_match 26 = .ok (.iload_n 3, 1) := by decide +kernel
theorem dr_Mo_match_27 : decode bc_Mo_match 27 = .ok (.iaload, 1) := by decide +kernel
theorem dr_Mo_match_28 : decode bc_Mo_match 28 = .ok (.istore 4, 2) := by decide +kernel
theorem dr_Mo_match_30 : decode bc_Mo_match 30 = .ok (.aload_n 0, 1) := by decide +kernel
theorem dr_Mo_match_31 : decode bc_Mo_match 31 = .ok (.getfield 63, 3) := by decide +kernel
theorem dr_Mo_match_34 : decode bc_Mo_match 34 = .ok (.aload_n 0, 1) := by decide +kernel
theorem dr_Mo_match_35 : decode bc_Mo_match 35 = .ok (.getfield 72, 3) := by decide +kernel
theorem dr_Mo_match_38 : decode bc_Mo_match 38 = .ok (.iload_n 3, 1) := by decide +kernel
theorem dr_Mo_match_39 : decode bc_Mo_match 39 = .ok (.iaload, 1) := by decide +kernel
theorem dr_Mo_match_40 : decode bc_Mo_match 40 = .ok (.iaload, 1) := by decide +kernel
theorem dr_Mo_match_41 : decode bc_Mo_match 41 = .ok (.istore 5, 2) := by decide +kernel
theorem dr_Mo_match_43 : decode bc_Mo_match 43 = .ok (.aload_n 0, 1) := by decide +kernel
theorem dr_Mo_match_44 : decode bc_Mo_match 44 = .ok (.getfield 75, 3) := by decide +kernel
theorem dr_Mo_match_47 : decode bc_Mo_match 47 = .ok (.iload 4, 2) := by decide +kernel
theorem dr_Mo_match_49 : decode bc_Mo_match 49 = .ok (.aload_n 0, 1) := by decide +kernel
theorem dr_Mo_match_50 : decode bc_Mo_match 50 = .ok (.getfield 23, 3) := by decide +kernel
theorem dr_Mo_match_53 : decode bc_Mo_match 53 = .ok (.iload 5, 2) := by decide +kernel
theorem dr_Mo_match_55 : decode bc_Mo_match 55 = .ok (.iaload, 1) := by decide +kernel
theorem dr_Mo_match_56 : decode bc_Mo_match 56 = .ok (.iastore, 1) := by decide +kernel
theorem dr_Mo_match_57 : decode bc_Mo_match 57 = .ok (.iload_n 2, 1) := by decide +kernel
theorem dr_Mo_match_58 : decode bc_Mo_match 58 = .ok (.ifCond .eq 27, 3) := by decide +kernel
theorem dr_Mo_match_61 : decode bc_Mo_match 61 = .ok (.aload_n 0, 1) := by decide +kernel
theorem dr_Mo_match_62 : decode bc_Mo_match 62 = .ok (.getfield 75, 3) := by decide +kernel
theorem dr_Mo_match_65 : decode bc_Mo_match 65 = .ok (.aload_n 0, 1) := by decide +kernel
theorem dr_Mo_match_66 : decode bc_Mo_match 66 = .ok (.getfield 33, 3) := by decide +kernel
theorem dr_Mo_match_69 : decode bc_Mo_match 69 = .ok (.iload 4, 2) := by decide +kernel
theorem dr_Mo_match_71 : decode bc_Mo_match 71 = .ok (.iaload, 1) := by decide +kernel
theorem dr_Mo_match_72 : decode bc_Mo_match 72 = .ok (.aload_n 0, 1) := by decide +kernel
theorem dr_Mo_match_73 : decode bc_Mo_match 73 = .ok (.getfield 23, 3) := by decide +kernel
theorem dr_Mo_match_76 : decode bc_Mo_match 76 = .ok (.aload_n 0, 1) := by decide +kernel
theorem dr_Mo_match_77 : decode bc_Mo_match 77 = .ok (.getfield 33, 3) := by decide +kernel
theorem dr_Mo_match_80 : decode bc_Mo_match 80 = .ok (.iload 5, 2) := by decide +kernel
theorem dr_Mo_match_82 : decode bc_Mo_match 82 = .ok (.iaload, 1) := by decide +kernel
theorem dr_Mo_match_83 : decode bc_Mo_match 83 = .ok (.iaload, 1) := by decide +kernel
theorem dr_Mo_match_84 : decode bc_Mo_match 84 = .ok (.iastore, 1) := by decide +kernel
theorem dr_Mo_match_85 : decode bc_Mo_match 85 = .ok (.iinc 3 1, 3) := by decide +kernel
theorem dr_Mo_match_88 : decode bc_Mo_match 88 = .ok (.goto (-74), 3) := by decide +kernel
theorem dr_Mo_match_91 : decode bc_Mo_match 91 = .ok (.return_, 1) := by decide +kernel
theorem dr_Mo_keepNets_0 : decode bc_Mo_keepNets 0 = .ok (.aload_n 0, 1) := by decide +kernel
theorem dr_Mo_keepNets_1 : decode bc_Mo_keepNets 1 = .ok (.getfield 152, 3) := by decide +kernel
theorem dr_Mo_keepNets_4 : decode bc_Mo_keepNets 4 = .ok (.bipush 10, 2) := by decide +kernel
theorem dr_Mo_keepNets_6 : decode bc_Mo_keepNets 6 = .ok (.if_icmp .ne 80, 3) := by decide +kernel
theorem dr_Mo_keepNets_9 : decode bc_Mo_keepNets 9 = .ok (.iconst 1, 1) := by decide +kernel
theorem dr_Mo_keepNets_10 : decode bc_Mo_keepNets 10 = .ok (.istore_n 1, 1) := by decide +kernel
theorem dr_Mo_keepNets_11 : decode bc_Mo_keepNets 11 = .ok (.iload_n 1, 1) := by decide +kernel
theorem dr_Mo_keepNets_12 : decode bc_Mo_keepNets 12 = .ok (.bipush 10, 2) := by decide +kernel
theorem dr_Mo_keepNets_14 : decode bc_Mo_keepNets 14 = .ok (.if_icmp .ge 62, 3) := by decide +kernel
theorem dr_Mo_keepNets_17 : decode bc_Mo_keepNets 17 = .ok (.aload_n 0, 1) := by decide +kernel
theorem dr_Mo_keepNets_18 : decode bc_Mo_keepNets 18 = .ok (.getfield 51, 3) := by decide +kernel
theorem dr_Mo_keepNets_21 : decode bc_Mo_keepNets 21 = .ok (.iload_n 1, 1) := by decide +kernel
theorem dr_Mo_keepNets_22 : decode bc_Mo_keepNets 22 = .ok (.iconst 1, 1) := by decide +kernel
theorem dr_Mo_keepNets_23 : decode bc_Mo_keepNets 23 = .ok (.isub, 1) := by decide +kernel
theorem dr_Mo_keepNets_24 : decode bc_Mo_keepNets 24 = .ok (.aload_n 0, 1) := by decide +kernel
theorem dr_Mo_keepNets_25 : decode bc_Mo_keepNets 25 = .ok (.getfield 51, 3) := by decide +kernel
theorem dr_Mo_keepNets_28 : decode bc_Mo_keepNets 28 = .ok (.iload_n 1, 1) := by decide +kernel
theorem dr_Mo_keepNets_29 : decode bc_Mo_keepNets 29 = .ok (.iaload, 1) := by decide +kernel
theorem dr_Mo_keepNets_30 : decode bc_Mo_keepNets 30 = .ok (.iastore, 1) := by decide +kernel
theorem dr_Mo_keepNets_31 : decode bc_Mo_keepNets 31 = .ok (.iconst 0, 1) := by decide +kernel
theorem dr_Mo_keepNets_32 : decode bc_Mo_keepNets 32 = .ok (.istore_n 2, 1) := by decide +kernel
theorem dr_Mo_keepNets_33 : decode bc_Mo_keepNets 33 = .ok (.iload_n 2, 1) := by decide +kernel
theorem dr_Mo_keepNets_34 : decode bc_Mo_keepNets 34 = .ok (.bipush 80, 2) := by decide +kernel
theorem dr_Mo_keepNets_36 : decode bc_Mo_keepNets 36 = .ok (.if_icmp .ge 34, 3) := by decide +kernel
theorem dr_Mo_keepNets_39 : decode bc_Mo_keepNets 39 = .ok (.aload_n 0, 1) := by decide +kernel
theorem dr_Mo_keepNets_40 : decode bc_Mo_keepNets 40 = .ok (.getfield 54, 3) := by decide +kernel
theorem dr_Mo_keepNets_43 : decode bc_Mo_keepNets 43 = .ok (.bipush 80, 2) := by decide +kernel
theorem dr_Mo_keepNets_45 : decode bc_Mo_keepNets 45 = .ok (.iload_n 1, 1) := by decide +kernel
theorem dr_Mo_keepNets_46 : decode bc_Mo_keepNets 46 = .ok (.imul, 1) := by decide +kernel
theorem dr_Mo_keepNets_47 : decode bc_Mo_keepNets 47 = .ok (.bipush 80, 2) := by decide +kernel
theorem dr_Mo_keepNets_49 : decode bc_Mo_keepNets 49 = .ok (.isub, 1) := by decide +kernel
theorem dr_Mo_keepNets_50 : decode bc_Mo_keepNets 50 = .ok (.iload_n 2, 1) := by decide +kernel
theorem dr_Mo_keepNets_51 : decode bc_Mo_keepNets 51 = .ok (.iadd, 1) := by decide +kernel
theorem dr_Mo_keepNets_52 : decode bc_Mo_keepNets 52 = .ok (.aload_n 0, 1) := by decide +kernel
theorem dr_Mo_keepNets_53 : decode bc_Mo_keepNets 53 = .ok (.getfield 54, 3) := by decide +kernel
theorem dr_Mo_keepNets_56 : decode bc_Mo_keepNets 56 = .ok (.bipush 80, 2) := by decide +kernel
theorem dr_Mo_keepNets_58 : decode bc_Mo_keepNets 58 = .ok (.iload_n 1, 1) := by decide +kernel
theorem dr_Mo_keepNets_59 : decode bc_Mo_keepNets 59 = .ok (.imul, 1) := by decide +kernel
theorem dr_Mo_keepNets_60 : decode bc_Mo_keepNets 60 = .ok (.iload_n 2, 1) := by decide +kernel
theorem dr_Mo_keepNets_61 : decode bc_Mo_keepNets 61 = .ok (.iadd, 1) := by decide +kernel
theorem dr_Mo_keepNets_62 : decode bc_Mo_keepNets 62 = .ok (.iaload, 1) := by decide +kernel
theorem dr_Mo_keepNets_63 : decode bc_Mo_keepNets 63 = .ok (.iastore, 1) := by decide +kernel
theorem dr_Mo_keepNets_64 : decode bc_Mo_keepNets 64 = .ok (.iinc 2 1, 3) := by decide +kernel
theorem dr_Mo_keepNets_67 : decode bc_Mo_keepNets 67 = .ok (.goto (-34), 3) := by decide +kernel
theorem dr_Mo_keepNets_70 : decode bc_Mo_keepNets 70 = .ok (.iinc 1 1, 3) := by decide +kernel
theorem dr_Mo_keepNets_73 : decode bc_Mo_keepNets 73 = .ok (.goto (-62), 3) := by decide +kernel
theorem dr_Mo_keepNets_76 : decode bc_Mo_keepNets 76 = .ok (.aload_n 0, 1) := by decide +kernel
theorem dr_Mo_keepNets_77 : decode bc_Mo_keepNets 77 = .ok (.dup, 1) := by decide +kernel
theorem dr_Mo_keepNets_78 : decode bc_Mo_keepNets 78 = .ok (.getfield 152, 3) := by decide +kernel
theorem dr_Mo_keepNets_81 : decode bc_Mo_keepNets 81 = .ok (.iconst 1, 1) := by decide +kernel
theorem dr_Mo_keepNets_82 : decode bc_Mo_keepNets 82 = .ok (.isub, 1) := by decide +kernel
theorem dr_Mo_keepNets_83 : decode bc_Mo_keepNets 83 = .ok (.putfield 152, 3) := by decide +kernel
theorem dr_Mo_keepNets_86 : decode bc_Mo_keepNets 86 = .ok (.aload_n 0, 1) := by decide +kernel
theorem dr_Mo_keepNets_87 : decode bc_Mo_keepNets 87 = .ok (.getfield 51, 3) := by decide +kernel
theorem dr_Mo_keepNets_90 : decode bc_Mo_keepNets 90 = .ok (.aload_n 0, 1) := by decide +kernel
theorem dr_Mo_keepNets_91 : decode bc_Mo_keepNets 91 = .ok (.getfield 152, 3) := by decide +kernel
theorem dr_Mo_keepNets_94 : decode bc_Mo_keepNets 94 = .ok (.aload_n 0, 1) := by decide +kernel
theorem dr_Mo_keepNets_95 : decode bc_Mo_keepNets 95 = .ok (.getfield 89, 3) := by decide +kernel
theorem dr_Mo_keepNets_98 : decode bc_Mo_keepNets 98 = .ok (.iastore, 1) := by decide +kernel
theorem dr_Mo_keepNets_99 : decode bc_Mo_keepNets 99 = .ok (.iconst 0, 1) := by decide +kernel
theorem dr_Mo_keepNets_100 : decode bc_Mo_keepNets 100 = .ok (.istore_n 1, 1) := by decide +kernel
theorem dr_Mo_keepNets_101 : decode bc_Mo_keepNets 101 = .ok (.iload_n 1, 1) := by decide +kernel
theorem dr_Mo_keepNets_102 : decode bc_Mo_keepNets 102 = .ok (.aload_n 0, 1) := by decide +kernel
theorem dr_Mo_keepNets_103 : decode bc_Mo_keepNets 103 = .ok (.getfield 89, 3) := by decide +kernel
theorem dr_Mo_keepNets_106 : decode bc_Mo_keepNets 106 = .ok (.if_icmp .ge 29, 3) := by decide +kernel
theorem dr_Mo_keepNets_109 : decode bc_Mo_keepNets 109 = .ok (.aload_n 0, 1) := by decide +kernel
theorem dr_Mo_keepNets_110 : decode bc_Mo_keepNets 110 = .ok (.getfield 54, 3) := by decide +kernel
theorem dr_Mo_keepNets_113 : decode bc_Mo_keepNets 113 = .ok (.bipush 80, 2) := by decide +kernel
theorem dr_Mo_keepNets_115 : decode bc_Mo_keepNets 115 = .ok (.aload_n 0, 1) := by decide +kernel
theorem dr_Mo_keepNets_116 : decode bc_Mo_keepNets 116 = .ok (.getfield 152, 3) := by decide +kernel
theorem dr_Mo_keepNets_119 : decode bc_Mo_keepNets 119 = .ok (.imul, 1) := by decide +kernel
theorem dr_Mo_keepNets_120 : decode bc_Mo_keepNets 120 = .ok (.iload_n 1, 1) := by decide +kernel
theorem dr_Mo_keepNets_121 : decode bc_Mo_keepNets 121 = .ok (.iadd, 1) := by decide +kernel
theorem dr_Mo_keepNets_122 : decode bc_Mo_keepNets 122 = .ok (.aload_n 0, 1) := by decide +kernel
theorem dr_Mo_keepNets_123 : decode bc_Mo_keepNets 123 = .ok (.getfield 23, 3) := by decide +kernel
theorem dr_Mo_keepNets_126 : decode bc_Mo_keepNets 126 = .ok (.iload_n 1, 1) := by decide +kernel
theorem dr_Mo_keepNets_127 : decode bc_Mo_keepNets 127 = .ok (.iaload, 1) := by decide +kernel
theorem dr_Mo_keepNets_128 : decode bc_Mo_keepNets 128 = .ok (.iastore, 1) := by decide +kernel
theorem dr_Mo_keepNets_129 : decode bc_Mo_keepNets 129 = .ok (.iinc 1 1, 3) := by decide +kernel
theorem dr_Mo_keepNets_132 : decode bc_Mo_keepNets 132 = .ok (.goto (-31), 3) := by decide +kernel
theorem dr_Mo_keepNets_135 : decode bc_Mo_keepNets 135 = .ok (.aload_n 0, 1) := by decide +kernel
theorem dr_Mo_keepNets_136 : decode bc_Mo_keepNets 136 = .ok (.dup, 1) := by decide +kernel
theorem dr_Mo_keepNets_137 : decode bc_Mo_keepNets 137 = .ok (.getfield 152, 3) := by decide +kernel
theorem dr_Mo_keepNets_140 : decode bc_Mo_keepNets 140 = .ok (.iconst 1, 1) := by decide +kernel
theorem dr_Mo_keepNets_141 : decode bc_Mo_keepNets 141 = .ok (.iadd, 1) := by decide +kernel
theorem dr_Mo_keepNets_142 : decode bc_Mo_keepNets 142 = .ok (.putfield 152, 3) := by decide +kernel
theorem dr_Mo_keepNets_145 : decode bc_Mo_keepNets 145 = .ok (.return_, 1) := by decide +kernel
theorem dr_Mo_run_0 : decode bc_Mo_run 0 = .ok (.aload_n 0, 1) := by decide +kernel
theorem dr_Mo_run_1 : decode bc_Mo_run 1 = .ok (.iconst 0, 1) := by decide +kernel
theorem dr_Mo_run_2 : decode bc_Mo_run 2 = .ok (.putfield 78, 3) := by decide +kernel
theorem dr_Mo_run_5 : decode bc_Mo_run 5 = .ok (.aload_n 0, 1) := by decide +kernel
theorem dr_Mo_run_6 : decode bc_Mo_run 6 = .ok (.aload_n 0, 1) := by decide +kernel
theorem dr_Mo_run_7 : decode bc_Mo_run 7 = .ok (.invokevirtual 113, 3) := by decide +kernel
theorem dr_Mo_run_10 : decode bc_Mo_run 10 = .ok (.putfield 117, 3) := by decide +kernel
theorem dr_Mo_run_13 : decode bc_Mo_run 13 = .ok (.iconst 0, 1) := by decide +kernel
theorem dr_Mo_run_14 : decode bc_Mo_run 14 = .ok (.istore_n 1, 1) := by decide +kernel
theorem dr_Mo_run_15 : decode bc_Mo_run 15 = .ok (.iload_n 1, 1) := by decide +kernel
theorem dr_Mo_run_16 : decode bc_Mo_run 16 = .ok (.aload_n 0, 1) := by decide +kernel
theorem dr_Mo_run_17 : decode bc_Mo_run 17 = .ok (.getfield 89, 3) := by decide +kernel
theorem dr_Mo_run_20 : decode bc_Mo_run 20 = .ok (.if_icmp .ge 21, 3) := by decide +kernel
theorem dr_Mo_run_23 : decode bc_Mo_run 23 = .ok (.aload_n 0, 1) := by decide +kernel
theorem dr_Mo_run_24 : decode bc_Mo_run 24 = .ok (.getfield 75, 3) := by decide +kernel
theorem dr_Mo_run_27 : decode bc_Mo_run 27 = .ok (.iload_n 1, 1) := by decide +kernel
theorem dr_Mo_run_28 : decode bc_Mo_run 28 = .ok (.aload_n 0, 1) := by decide +kernel
theorem dr_Mo_run_29 : decode bc_Mo_run 29 = .ok (.getfield 23, 3) := by decide +kernel
theorem dr_Mo_run_32 : decode bc_Mo_run 32 = .ok (.iload_n 1, 1) := by decide +kernel
theorem dr_Mo_run_33 : decode bc_Mo_run 33 = .ok (.iaload, 1) := by decide +kernel
theorem dr_Mo_run_34 : decode bc_Mo_run 34 = .ok (.iastore, 1) := by decide +kernel
theorem dr_Mo_run_35 : decode bc_Mo_run 35 = .ok (.iinc 1 1, 3) := by decide +kernel
theorem dr_Mo_run_38 : decode bc_Mo_run 38 = .ok (.goto (-23), 3) := by decide +kernel
theorem dr_Mo_run_41 : decode bc_Mo_run 41 = .ok (.iconst 0, 1) := by decide +kernel
theorem dr_Mo_run_42 : decode bc_Mo_run 42 = .ok (.istore_n 1, 1) := by decide +kernel
theorem dr_Mo_run_43 : decode bc_Mo_run 43 = .ok (.iload_n 1, 1) := by decide +kernel
theorem dr_Mo_run_44 : decode bc_Mo_run 44 = .ok (.aload_n 0, 1) := by decide +kernel
theorem dr_Mo_run_45 : decode bc_Mo_run 45 = .ok (.getfield 82, 3) := by decide +kernel
theorem dr_Mo_run_48 : decode bc_Mo_run 48 = .ok (.if_icmp .ge 21, 3) := by decide +kernel
theorem dr_Mo_run_51 : decode bc_Mo_run 51 = .ok (.aload_n 0, 1) := by decide +kernel
theorem dr_Mo_run_52 : decode bc_Mo_run 52 = .ok (.iload_n 1, 1) := by decide +kernel
theorem dr_Mo_run_53 : decode bc_Mo_run 53 = .ok (.iconst 0, 1) := by decide +kernel
theorem dr_Mo_run_54 : decode bc_Mo_run 54 = .ok (.invokevirtual 155, 3) := by decide +kernel
theorem dr_Mo_run_57 : decode bc_Mo_run 57 = .ok (.aload_n 0, 1) := by decide +kernel
theorem dr_Mo_run_58 : decode bc_Mo_run 58 = .ok (.iload_n 1, 1) := by decide +kernel
theorem dr_Mo_run_59 : decode bc_Mo_run 59 = .ok (.iconst 1, 1) := by decide +kernel
theorem dr_Mo_run_60 : decode bc_Mo_run 60 = .ok (.invokevirtual 155, 3) := by decide +kernel
theorem dr_Mo_run_63 : decode bc_Mo_run 63 = .ok (.iinc 1 1, 3) := by decide +kernel
theorem dr_Mo_run_66 : decode bc_Mo_run 66 = .ok (.goto (-23), 3) := by decide +kernel
theorem dr_Mo_run_69 : decode bc_Mo_run 69 = .ok (.iconst 0, 1) := by decide +kernel
theorem dr_Mo_run_70 : decode bc_Mo_run 70 = .ok (.istore_n 1, 1) := by decide +kernel
theorem dr_Mo_run_71 : decode bc_Mo_run 71 = .ok (.iconst 0, 1) := by decide +kernel
theorem dr_Mo_run_72 : decode bc_Mo_run 72 = .ok (.istore_n 2, 1) := by decide +kernel
theorem dr_Mo_run_73 : decode bc_Mo_run 73 = .ok (.iload_n 2, 1) := by decide +kernel
theorem dr_Mo_run_74 : decode bc_Mo_run 74 = .ok (.aload_n 0, 1) := by decide +kernel
theorem dr_Mo_run_75 : decode bc_Mo_run 75 = .ok (.getfield 89, 3) := by decide +kernel
theorem dr_Mo_run_78 : decode bc_Mo_run 78 = .ok (.if_icmp .ge 32, 3) := by decide +kernel
theorem dr_Mo_run_81 : decode bc_Mo_run 81 = .ok (.iload_n 1, 1) := by decide +kernel
theorem dr_Mo_run_82 : decode bc_Mo_run 82 = .ok (.aload_n 0, 1) := by decide +kernel
theorem dr_Mo_run_83 : decode bc_Mo_run 83 = .ok (.getfield 75, 3) := by decide +kernel
theorem dr_Mo_run_86 : decode bc_Mo_run 86 = .ok (.iload_n 2, 1) := by decide +kernel
theorem dr_Mo_run_87 : decode bc_Mo_run 87 = .ok (.iaload, 1) := by decide +kernel
theorem dr_Mo_run_88 : decode bc_Mo_run 88 = .ok (.aload_n 0, 1) := by decide +kernel
theorem dr_Mo_run_89 : decode bc_Mo_run 89 = .ok (.getfield 23, 3) := by decide +kernel
theorem dr_Mo_run_92 : decode bc_Mo_run 92 = .ok (.iload_n 2, 1) := by decide +kernel
theorem dr_Mo_run_93 : decode bc_Mo_run 93 = .ok (.iaload, 1) := by decide +kernel
theorem dr_Mo_run_94 : decode bc_Mo_run 94 = .ok (.if_icmp .eq 7, 3) := by decide +kernel
theorem dr_Mo_run_97 : decode bc_Mo_run 97 = .ok (.iconst 1, 1) := by decide +kernel
theorem dr_Mo_run_98 : decode bc_Mo_run 98 = .ok (.goto 4, 3) := by decide +kernel
theorem dr_Mo_run_101 : decode bc_Mo_run 101 = .ok (.iconst 0, 1) := by decide +kernel
theorem dr_Mo_run_102 : decode bc_Mo_run 102 = .ok (.iadd, 1) := by decide +kernel
theorem dr_Mo_run_103 : decode bc_Mo_run 103 = .ok (.istore_n 1, 1) := by decide +kernel
theorem dr_Mo_run_104 : decode bc_Mo_run 104 = .ok (.iinc 2 1, 3) := by decide +kernel
theorem dr_Mo_run_107 : decode bc_Mo_run 107 = .ok (.goto (-34), 3) := by decide +kernel
theorem dr_Mo_run_110 : decode bc_Mo_run 110 = .ok (.iload_n 1, 1) := by decide +kernel
theorem dr_Mo_run_111 : decode bc_Mo_run 111 = .ok (.ifCond .le 7, 3) := by decide +kernel
theorem dr_Mo_run_114 : decode bc_Mo_run 114 = .ok (.aload_n 0, 1) := by decide +kernel
theorem dr_Mo_run_115 : decode bc_Mo_run 115 = .ok (.invokevirtual 159, 3) := by decide +kernel
theorem dr_Mo_run_118 : decode bc_Mo_run 118 = .ok (.iconst 0, 1) := by decide +kernel
theorem dr_Mo_run_119 : decode bc_Mo_run 119 = .ok (.istore_n 2, 1) := by decide +kernel
theorem dr_Mo_run_120 : decode bc_Mo_run 120 = .ok (.iload_n 2, 1) := by decide +kernel
theorem dr_Mo_run_121 : decode bc_Mo_run 121 = .ok (.aload_n 0, 1) := by decide +kernel
theorem dr_Mo_run_122 : decode bc_Mo_run 122 = .ok (.getfield 89, 3) := by decide +kernel
theorem dr_Mo_run_125 : decode bc_Mo_run 125 = .ok (.if_icmp .ge 21, 3) := by decide +kernel
theorem dr_Mo_run_128 : decode bc_Mo_run 128 = .ok (.aload_n 0, 1) := by decide +kernel
theorem dr_Mo_run_129 : decode bc_Mo_run 129 = .ok (.getfield 23, 3) := by decide +kernel
theorem dr_Mo_run_132 : decode bc_Mo_run 132 = .ok (.iload_n 2, 1) := by decide +kernel
theorem dr_Mo_run_133 : decode bc_Mo_run 133 = .ok (.aload_n 0, 1) := by decide +kernel
theorem dr_Mo_run_134 : decode bc_Mo_run 134 = .ok (.getfield 75, 3) := by decide +kernel
theorem dr_Mo_run_137 : decode bc_Mo_run 137 = .ok (.iload_n 2, 1) := by decide +kernel
theorem dr_Mo_run_138 : decode bc_Mo_run 138 = .ok (.iaload, 1) := by decide +kernel
theorem dr_Mo_run_139 : decode bc_Mo_run 139 = .ok (.iastore, 1) := by decide +kernel
theorem dr_Mo_run_140 : decode bc_Mo_run 140 = .ok (.iinc 2 1, 3) := by decide +kernel
theorem dr_Mo_run_143 : decode bc_Mo_run 143 = .ok (.goto (-23), 3) := by decide +kernel
theorem dr_Mo_run_146 : decode bc_Mo_run 146 = .ok (.iload_n 1, 1) := by decide +kernel
theorem dr_Mo_run_147 : decode bc_Mo_run 147 = .ok (.ireturn, 1) := by decide +kernel
theorem dr_Mo_undo_0 : decode bc_Mo_undo 0 = .ok (.aload_n 0, 1) := by decide +kernel
theorem dr_Mo_undo_1 : decode bc_Mo_undo 1 = .ok (.iconst 0, 1) := by decide +kernel
theorem dr_Mo_undo_2 : decode bc_Mo_undo 2 = .ok (.putfield 78, 3) := by decide +kernel
theorem dr_Mo_undo_5 : decode bc_Mo_undo 5 = .ok (.aload_n 0, 1) := by decide +kernel
theorem dr_Mo_undo_6 : decode bc_Mo_undo 6 = .ok (.getfield 152, 3) := by decide +kernel
theorem dr_Mo_undo_9 : decode bc_Mo_undo 9 = .ok (.ifCond .ne 5, 3) := by decide +kernel
theorem dr_Mo_undo_12 : decode bc_Mo_undo 12 = .ok (.iconst 0, 1) := by decide +kernel
theorem dr_Mo_undo_13 : decode bc_Mo_undo 13 = .ok (.ireturn, 1) := by decide +kernel
theorem dr_Mo_undo_14 : decode bc_Mo_undo 14 = .ok (.aload_n 0, 1) := by decide +kernel
theorem dr_Mo_undo_15 : decode bc_Mo_undo 15 = .ok (.dup, 1) := by decide +kernel
theorem dr_Mo_undo_16 : decode bc_Mo_undo 16 = .ok (.getfield 152, 3) := by decide +kernel
theorem dr_Mo_undo_19 : decode bc_Mo_undo 19 = .ok (.iconst 1, 1) := by decide +kernel
theorem dr_Mo_undo_20 : decode bc_Mo_undo 20 = .ok (.isub, 1) := by decide +kernel
theorem dr_Mo_undo_21 : decode bc_Mo_undo 21 = .ok (.putfield 152, 3) := by decide +kernel
theorem dr_Mo_undo_24 : decode bc_Mo_undo 24 = .ok (.iconst 0, 1) := by decide +kernel
theorem dr_Mo_undo_25 : decode bc_Mo_undo 25 = .ok (.istore_n 1, 1) := by decide +kernel
theorem dr_Mo_undo_26 : decode bc_Mo_undo 26 = .ok (.iload_n 1, 1) := by decide +kernel
theorem dr_Mo_undo_27 : decode bc_Mo_undo 27 = .ok (.aload_n 0, 1) := by decide +kernel
theorem dr_Mo_undo_28 : decode bc_Mo_undo 28 = .ok (.getfield 51, 3) := by decide +kernel
theorem dr_Mo_undo_31 : decode bc_Mo_undo 31 = .ok (.aload_n 0, 1) := by decide +kernel
theorem dr_Mo_undo_32 : decode bc_Mo_undo 32 = .ok (.getfield 152, 3) := by decide +kernel
theorem dr_Mo_undo_35 : decode bc_Mo_undo 35 = .ok (.iaload, 1) := by decide +kernel
theorem dr_Mo_undo_36 : decode bc_Mo_undo 36 = .ok (.if_icmp .ge 29, 3) := by decide +kernel
theorem dr_Mo_undo_39 : decode bc_Mo_undo 39 = .ok (.aload_n 0, 1) := by decide +kernel
theorem dr_Mo_undo_40 : decode bc_Mo_undo 40 = .ok (.getfield 23, 3) := by decide +kernel
theorem dr_Mo_undo_43 : decode bc_Mo_undo 43 = .ok (.iload_n 1, 1) := by decide +kernel
theorem dr_Mo_undo_44 : decode bc_Mo_undo 44 = .ok (.aload_n 0, 1) := by decide +kernel
theorem dr_Mo_undo_45 : decode bc_Mo_undo 45 = .ok (.getfield 54, 3) := by decide +kernel
theorem dr_Mo_undo_48 : decode bc_Mo_undo 48 = .ok (.bipush 80, 2) := by decide +kernel
theorem dr_Mo_undo_50 : decode bc_Mo_undo 50 = .ok (.aload_n 0, 1) := by decide +kernel
theorem dr_Mo_undo_51 : decode bc_Mo_undo 51 = .ok (.getfield 152, 3) := by decide +kernel
theorem dr_Mo_undo_54 : decode bc_Mo_undo 54 = .ok (.imul, 1) := by decide +kernel
theorem dr_Mo_undo_55 : decode bc_Mo_undo 55 = .ok (.iload_n 1, 1) := by decide +kernel
theorem dr_Mo_undo_56 : decode bc_Mo_undo 56 = .ok (.iadd, 1) := by decide +kernel
theorem dr_Mo_undo_57 : decode bc_Mo_undo 57 = .ok (.iaload, 1) := by decide +kernel
theorem dr_Mo_undo_58 : decode bc_Mo_undo 58 = .ok (.iastore, 1) := by decide +kernel
theorem dr_Mo_undo_59 : decode bc_Mo_undo 59 = .ok (.iinc 1 1, 3) := by decide +kernel
theorem dr_Mo_undo_62 : decode bc_Mo_undo 62 = .ok (.goto (-36), 3) := by decide +kernel
theorem dr_Mo_undo_65 : decode bc_Mo_undo 65 = .ok (.iconst 1, 1) := by decide +kernel
theorem dr_Mo_undo_66 : decode bc_Mo_undo 66 = .ok (.ireturn, 1) := by decide +kernel
theorem dr_Mo_netOf_0 : decode bc_Mo_netOf 0 = .ok (.aload_n 0, 1) := by decide +kernel
theorem dr_Mo_netOf_1 : decode bc_Mo_netOf 1 = .ok (.aload_n 0, 1) := by decide +kernel
theorem dr_Mo_netOf_2 : decode bc_Mo_netOf 2 = .ok (.iload_n 1, 1) := by decide +kernel
theorem dr_Mo_netOf_3 : decode bc_Mo_netOf 3 = .ok (.invokevirtual 100, 3) := by decide +kernel
theorem dr_Mo_netOf_6 : decode bc_Mo_netOf 6 = .ok (.ifCond .eq 7, 3) := by decide +kernel
theorem dr_Mo_netOf_9 : decode bc_Mo_netOf 9 = .ok (.iconst 0, 1) := by decide +kernel
theorem dr_Mo_netOf_10 : decode bc_Mo_netOf 10 = .ok (.goto 4, 3) := by decide +kernel
theorem dr_Mo_netOf_13 : decode bc_Mo_netOf 13 = .ok (.iconst 1, 1) := by decide +kernel
theorem dr_Mo_netOf_14 : decode bc_Mo_netOf 14 = .ok (.putfield 78, 3) := by decide +kernel
theorem dr_Mo_netOf_17 : decode bc_Mo_netOf 17 = .ok (.aload_n 0, 1) := by decide +kernel
theorem dr_Mo_netOf_18 : decode bc_Mo_netOf 18 = .ok (.getfield 78, 3) := by decide +kernel
theorem dr_Mo_netOf_21 : decode bc_Mo_netOf 21 = .ok (.ifCond .ne 12, 3) := by decide +kernel
theorem dr_Mo_netOf_24 : decode bc_Mo_netOf 24 = .ok (.aload_n 0, 1) := by decide +kernel
theorem dr_Mo_netOf_25 : decode bc_Mo_netOf 25 = .ok (.getfield 23, 3) := by decide +kernel
theorem dr_Mo_netOf_28 : decode bc_Mo_netOf 28 = .ok (.iload_n 1, 1) := by decide +kernel
theorem dr_Mo_netOf_29 : decode bc_Mo_netOf 29 = .ok (.iaload, 1) := by decide +kernel
theorem dr_Mo_netOf_30 : decode bc_Mo_netOf 30 = .ok (.goto 4, 3) := by decide +kernel
theorem dr_Mo_netOf_33 : decode bc_Mo_netOf 33 = .ok (.iconst 0, 1) := by decide +kernel
theorem dr_Mo_netOf_34 : decode bc_Mo_netOf 34 = .ok (.ireturn, 1) := by decide +kernel
theorem dr_Mo_dual_0 : decode bc_Mo_dual 0 = .ok (.aload_n 0, 1) := by decide +kernel
theorem dr_Mo_dual_1 : decode bc_Mo_dual 1 = .ok (.aload_n 0, 1) := by decide +kernel
theorem dr_Mo_dual_2 : decode bc_Mo_dual 2 = .ok (.iload_n 2, 1) := by decide +kernel
theorem dr_Mo_dual_3 : decode bc_Mo_dual 3 = .ok (.invokevirtual 100, 3) := by decide +kernel
theorem dr_Mo_dual_6 : decode bc_Mo_dual 6 = .ok (.ifCond .eq 16, 3) := by decide +kernel
theorem dr_Mo_dual_9 : decode bc_Mo_dual 9 = .ok (.iload_n 1, 1) := by decide +kernel
theorem dr_Mo_dual_10 : decode bc_Mo_dual 10 = .ok (.ifCond .eq 8, 3) := by decide +kernel
theorem dr_Mo_dual_13 : decode bc_Mo_dual 13 = .ok (.iload_n 1, 1) := by decide +kernel
theorem dr_Mo_dual_14 : decode bc_Mo_dual 14 = .ok (.iconst 1, 1) := by decide +kernel
theorem dr_Mo_dual_15 : decode bc_Mo_dual 15 = .ok (.if_icmp .ne 7, 3) := by decide +kernel
theorem dr_Mo_dual_18 : decode bc_Mo_dual 18 = .ok (.iconst 0, 1) := by decide +kernel
theorem dr_Mo_dual_19 : decode bc_Mo_dual 19 = .ok (.goto 4, 3) := by decide +kernel
theorem dr_Mo_dual_22 : decode bc_Mo_dual 22 = .ok (.iconst 1, 1) := by decide +kernel
theorem dr_Mo_dual_23 : decode bc_Mo_dual 23 = .ok (.putfield 78, 3) := by decide +kernel
theorem dr_Mo_dual_26 : decode bc_Mo_dual 26 = .ok (.aload_n 0, 1) := by decide +kernel
theorem dr_Mo_dual_27 : decode bc_Mo_dual 27 = .ok (.getfield 78, 3) := by decide +kernel
theorem dr_Mo_dual_30 : decode bc_Mo_dual 30 = .ok (.ifCond .eq 5, 3) := by decide +kernel
theorem dr_Mo_dual_33 : decode bc_Mo_dual 33 = .ok (.lconst 0, 1) := by decide +kernel
theorem dr_Mo_dual_34 : decode bc_Mo_dual 34 = .ok (.lreturn, 1) := by decide +kernel
theorem dr_Mo_dual_35 : decode bc_Mo_dual 35 = .ok (.aload_n 0, 1) := by decide +kernel
theorem dr_Mo_dual_36 : decode bc_Mo_dual 36 = .ok (.getfield 33, 3) := by decide +kernel
theorem dr_Mo_dual_39 : decode bc_Mo_dual 39 = .ok (.iload_n 2, 1) := by decide +kernel
theorem dr_Mo_dual_40 : decode bc_Mo_dual 40 = .ok (.iaload, 1) := by decide +kernel
theorem dr_Mo_dual_41 : decode bc_Mo_dual 41 = .ok (.iconst (-1), 1) := by decide +kernel
theorem dr_Mo_dual_42 : decode bc_Mo_dual 42 = .ok (.if_icmp .eq 7, 3) := by decide +kernel
theorem dr_Mo_dual_45 : decode bc_Mo_dual 45 = .ok (.iconst 1, 1) := by decide +kernel
theorem dr_Mo_dual_46 : decode bc_Mo_dual 46 = .ok (.goto 4, 3) := by decide +kernel
theorem dr_Mo_dual_49 : decode bc_Mo_dual 49 = .ok (.iconst 0, 1) := by decide +kernel
theorem dr_Mo_dual_50 : decode bc_Mo_dual 50 = .ok (.istore_n 3, 1) := by decide +kernel
theorem dr_Mo_dual_51 : decode bc_Mo_dual 51 = .ok (.iload_n 3, 1) := by decide +kernel
theorem dr_Mo_dual_52 : decode bc_Mo_dual 52 = .ok (.ifCond .eq 21, 3) := by decide +kernel
theorem dr_Mo_dual_55 : decode bc_Mo_dual 55 = .ok (.aload_n 0, 1) := by decide +kernel
theorem dr_Mo_dual_56 : decode bc_Mo_dual 56 = .ok (.getfield 36, 3) := by decide +kernel
theorem dr_Mo_dual_59 : decode bc_Mo_dual 59 = .ok (.iload_n 2, 1) := by decide +kernel
theorem dr_Mo_dual_60 : decode bc_Mo_dual 60 = .ok (.baload, 1) := by decide +kernel
theorem dr_Mo_dual_61 : decode bc_Mo_dual 61 = .ok (.ifCond .ne 12, 3) := by decide +kernel
theorem dr_Mo_dual_64 : decode bc_Mo_dual 64 = .ok (.aload_n 0, 1) := by decide +kernel
theorem dr_Mo_dual_65 : decode bc_Mo_dual 65 = .ok (.getfield 33, 3) := by decide +kernel
theorem dr_Mo_dual_68 : decode bc_Mo_dual 68 = .ok (.iload_n 2, 1) := by decide +kernel
theorem dr_Mo_dual_69 : decode bc_Mo_dual 69 = .ok (.iaload, 1) := by decide +kernel
theorem dr_Mo_dual_70 : decode bc_Mo_dual 70 = .ok (.goto 4, 3) := by decide +kernel
theorem dr_Mo_dual_73 : decode bc_Mo_dual 73 = .ok (.iload_n 2, 1) := by decide +kernel
theorem dr_Mo_dual_74 : decode bc_Mo_dual 74 = .ok (.istore 4, 2) := by decide +kernel
theorem dr_Mo_dual_76 : decode bc_Mo_dual 76 = .ok (.aload_n 0, 1) := by decide +kernel
theorem dr_Mo_dual_77 : decode bc_Mo_dual 77 = .ok (.iload 4, 2) := by decide +kernel
theorem dr_Mo_dual_79 : decode bc_Mo_dual 79 = .ok (.aload_n 0, 1) := by decide +kernel
theorem dr_Mo_dual_80 : decode bc_Mo_dual 80 = .ok (.getfield 7, 3) := by decide +kernel
theorem dr_Mo_dual_83 : decode bc_Mo_dual 83 = .ok (.iload 4, 2) := by decide +kernel
theorem dr_Mo_dual_85 : decode bc_Mo_dual 85 = .ok (.iaload, 1) := by decide +kernel
theorem dr_Mo_dual_86 : decode bc_Mo_dual 86 = .ok (.iload_n 3, 1) := by decide +kernel
theorem dr_Mo_dual_87 : decode bc_Mo_dual 87 = .ok (.invokevirtual 124, 3) := by decide +kernel
theorem dr_Mo_dual_90 : decode bc_Mo_dual 90 = .ok (.ifCond .ne 7, 3) := by decide +kernel
theorem dr_Mo_dual_93 : decode bc_Mo_dual 93 = .ok (.ldc2_w 162, 3) := by decide +kernel
theorem dr_Mo_dual_96 : decode bc_Mo_dual 96 = .ok (.lreturn, 1) := by decide +kernel
theorem dr_Mo_dual_97 : decode bc_Mo_dual 97 = .ok (.aload_n 0, 1) := by decide +kernel
theorem dr_Mo_dual_98 : decode bc_Mo_dual 98 = .ok (.aload_n 0, 1) := by decide +kernel
theorem dr_Mo_dual_99 : decode bc_Mo_dual 99 = .ok (.getfield 7, 3) := by decide +kernel
theorem dr_Mo_dual_102 : decode bc_Mo_dual 102 = .ok (.iload 4, 2) := by decide +kernel
theorem dr_Mo_dual_104 : decode bc_Mo_dual 104 = .ok (.iaload, 1) := by decide +kernel
theorem dr_Mo_dual_105 : decode bc_Mo_dual 105 = .ok (.iload_n 3, 1) := by decide +kernel
theorem dr_Mo_dual_106 : decode bc_Mo_dual 106 = .ok (.iconst (-1), 1) := by decide +kernel
theorem dr_Mo_dual_107 : decode bc_Mo_dual 107 = .ok (.iconst 0, 1) := by decide +kernel
theorem dr_Mo_dual_108 : decode bc_Mo_dual 108 = .ok (.invokevirtual 145, 3) := by decide +kernel
theorem dr_Mo_dual_111 : decode bc_Mo_dual 111 = .ok (.aload_n 0, 1) := by decide +kernel
theorem dr_Mo_dual_112 : decode bc_Mo_dual 112 = .ok (.getfield 69, 3) := by decide +kernel
theorem dr_Mo_dual_115 : decode bc_Mo_dual 115 = .ok (.iconst 0, 1) := by decide +kernel
theorem dr_Mo_dual_116 : decode bc_Mo_dual 116 = .ok (.laload, 1) := by decide +kernel
theorem dr_Mo_dual_117 : decode bc_Mo_dual 117 = .ok (.lstore 5, 2) := by decide +kernel
theorem dr_Mo_dual_119 : decode bc_Mo_dual 119 = .ok (.iload_n 1, 1) := by decide +kernel
theorem dr_Mo_dual_120 : decode bc_Mo_dual 120 = .ok (.iconst 1, 1) := by decide +kernel
theorem dr_Mo_dual_121 : decode bc_Mo_dual 121 = .ok (.if_icmp .ne 15, 3) := by decide +kernel
theorem dr_Mo_dual_124 : decode bc_Mo_dual 124 = .ok (.aload_n 0, 1) := by decide +kernel
theorem dr_Mo_dual_125 : decode bc_Mo_dual 125 = .ok (.getfield 121, 3) := by decide +kernel
theorem dr_Mo_dual_128 : decode bc_Mo_dual 128 = .ok (.iconst 1, 1) := by decide +kernel
theorem dr_Mo_dual_129 : decode bc_Mo_dual 129 = .ok (.if_icmp .ne 7, 3) := by decide +kernel
theorem dr_Mo_dual_132 : decode bc_Mo_dual 132 = .ok (.ldc2_w 162, 3) := by decide +kernel
theorem dr_Mo_dual_135 : decode bc_Mo_dual 135 = .ok (.lreturn, 1) := by decide +kernel
theorem dr_Mo_dual_136 : decode bc_Mo_dual 136 = .ok (.aload_n 0, 1) := by decide +kernel
theorem dr_Mo_dual_137 : decode bc_Mo_dual 137 = .ok (.aload_n 0, 1) := by decide +kernel
theorem dr_Mo_dual_138 : decode bc_Mo_dual 138 = .ok (.getfield 7, 3) := by decide +kernel
theorem dr_Mo_dual_141 : decode bc_Mo_dual 141 = .ok (.iload 4, 2) := by decide +kernel
theorem dr_Mo_dual_143 : decode bc_Mo_dual 143 = .ok (.iaload, 1) := by decide +kernel
theorem dr_Mo_dual_144 : decode bc_Mo_dual 144 = .ok (.iload_n 3, 1) := by decide +kernel
theorem dr_Mo_dual_145 : decode bc_Mo_dual 145 = .ok (.iload 4, 2) := by decide +kernel
theorem dr_Mo_dual_147 : decode bc_Mo_dual 147 = .ok (.iload_n 1, 1) := by decide +kernel
theorem dr_Mo_dual_148 : decode bc_Mo_dual 148 = .ok (.ifCond .ne 7, 3) := by decide +kernel
theorem dr_Mo_dual_151 : decode bc_Mo_dual 151 = .ok (.iconst 1, 1) := by decide +kernel
theorem dr_Mo_dual_152 : decode bc_Mo_dual 152 = .ok (.goto 4, 3) := by decide +kernel
theorem dr_Mo_dual_155 : decode bc_Mo_dual 155 = .ok (.iconst (-1), 1) := by decide +kernel
theorem dr_Mo_dual_156 : decode bc_Mo_dual 156 = .ok (.invokevirtual 145, 3) := by decide +kernel
theorem dr_Mo_dual_159 : decode bc_Mo_dual 159 = .ok (.aload_n 0, 1) := by decide +kernel
theorem dr_Mo_dual_160 : decode bc_Mo_dual 160 = .ok (.getfield 69, 3) := by decide +kernel
theorem dr_Mo_dual_163 : decode bc_Mo_dual 163 = .ok (.iconst 0, 1) := by decide +kernel
theorem dr_Mo_dual_164 : decode bc_Mo_dual 164 = .ok (.laload, 1) := by decide +kernel
theorem dr_Mo_dual_165 : decode bc_Mo_dual 165 = .ok (.lload 5, 2) := by decide +kernel
theorem dr_Mo_dual_167 : decode bc_Mo_dual 167 = .ok (.lsub, 1) := by decide +kernel
theorem dr_Mo_dual_168 : decode bc_Mo_dual 168 = .ok (.lreturn, 1) := by decide +kernel
theorem dr_Mo_note_0 : decode bc_Mo_note 0 = .ok (.iload_n 1, 1) := by decide +kernel
theorem dr_Mo_note_1 : decode bc_Mo_note 1 = .ok (.istore_n 3, 1) := by decide +kernel
theorem dr_Mo_note_2 : decode bc_Mo_note 2 = .ok (.iconst (-1), 1) := by decide +kernel
theorem dr_Mo_note_3 : decode bc_Mo_note 3 = .ok (.istore 4, 2) := by decide +kernel
theorem dr_Mo_note_5 : decode bc_Mo_note 5 = .ok (.iconst 0, 1) := by decide +kernel
theorem dr_Mo_note_6 : decode bc_Mo_note 6 = .ok (.istore 5, 2) := by decide +kernel
theorem dr_Mo_note_8 : decode bc_Mo_note 8 = .ok (.iload 5, 2) := by decide +kernel
theorem dr_Mo_note_10 : decode bc_Mo_note 10 = .ok (.aload_n 0, 1) := by decide +kernel
theorem dr_Mo_note_11 : decode bc_Mo_note 11 = .ok (.getfield 89, 3) := by decide +kernel
theorem dr_Mo_note_14 : decode bc_Mo_note 14 = .ok (.if_icmp .ge 46, 3) := by decide +kernel
theorem dr_Mo_note_17 : decode bc_Mo_note 17 = .ok (.iload 4, 2) := by decide +kernel
theorem dr_Mo_note_19 : decode bc_Mo_note 19 = .ok (.iconst (-1), 1) := by decide +kernel
theorem dr_Mo_note_20 : decode bc_Mo_note 20 = .ok (.if_icmp .ne 40, 3) := by decide +kernel
theorem dr_Mo_note_23 : decode bc_Mo_note 23 = .ok (.aload_n 0, 1) := by decide +kernel
theorem dr_Mo_note_24 : decode bc_Mo_note 24 = .ok (.getfield 23, 3) := by decide +kernel
theorem dr_Mo_note_27 : decode bc_Mo_note 27 = .ok (.iload 5, 2) := by decide +kernel
theorem dr_Mo_note_29 : decode bc_Mo_note 29 = .ok (.iaload, 1) := by decide +kernel
theorem dr_Mo_note_30 : decode bc_Mo_note 30 = .ok (.aload_n 0, 1) := by decide +kernel
theorem dr_Mo_note_31 : decode bc_Mo_note 31 = .ok (.getfield 26, 3) := by decide +kernel
theorem dr_Mo_note_34 : decode bc_Mo_note 34 = .ok (.iload 5, 2) := by decide +kernel
theorem dr_Mo_note_36 : decode bc_Mo_note 36 = .ok (.iaload, 1) := by decide +kernel
theorem dr_Mo_note_37 : decode bc_Mo_note 37 = .ok (.if_icmp .ne 6, 3) := by decide +kernel
theorem dr_Mo_note_40 : decode bc_Mo_note 40 = .ok (.goto 14, 3) := by decide +kernel
theorem dr_Mo_note_43 : decode bc_Mo_note 43 = .ok (.iload_n 3, 1) := by decide +kernel
theorem dr_Mo_note_44 : decode bc_Mo_note 44 = .ok (.ifCond .ne 7, 3) := by decide +kernel
theorem dr_Mo_note_47 : decode bc_Mo_note 47 = .ok (.iload 5, 2) := by decide +kernel
theorem dr_Mo_note_49 : decode bc_Mo_note 49 = .ok (.istore 4, 2) := by decide +kernel
theorem dr_Mo_note_51 : decode bc_Mo_note 51 = .ok (.iinc 3 (-1), 3) := by decide +kernel
theorem dr_Mo_note_54 : decode bc_Mo_note 54 = .ok (.iinc 5 1, 3) := by decide +kernel
theorem dr_Mo_note_57 : decode bc_Mo_note 57 = .ok (.goto (-49), 3) := by decide +kernel
theorem dr_Mo_note_60 : decode bc_Mo_note 60 = .ok (.aload_n 0, 1) := by decide +kernel
theorem dr_Mo_note_61 : decode bc_Mo_note 61 = .ok (.iload_n 1, 1) := by decide +kernel
theorem dr_Mo_note_62 : decode bc_Mo_note 62 = .ok (.ifCond .lt 22, 3) := by decide +kernel
theorem dr_Mo_note_65 : decode bc_Mo_note 65 = .ok (.iload 4, 2) := by decide +kernel
theorem dr_Mo_note_67 : decode bc_Mo_note 67 = .ok (.iconst (-1), 1) := by decide +kernel
theorem dr_Mo_note_68 : decode bc_Mo_note 68 = .ok (.if_icmp .eq 16, 3) := by decide +kernel
theorem dr_Mo_note_71 : decode bc_Mo_note 71 = .ok (.iload_n 2, 1) := by decide +kernel
theorem dr_Mo_note_72 : decode bc_Mo_note 72 = .ok (.ifCond .lt 12, 3) := by decide +kernel
theorem dr_Mo_note_75 : decode bc_Mo_note 75 = .ok (.iload_n 2, 1) := by decide +kernel
theorem dr_Mo_note_76 : decode bc_Mo_note 76 = .ok (.iconst 3, 1) := by decide +kernel
theorem dr_Mo_note_77 : decode bc_Mo_note 77 = .ok (.if_icmp .ge 7, 3) := by decide +kernel
theorem dr_Mo_note_80 : decode bc_Mo_note 80 = .ok (.iconst 0, 1) := by decide +kernel
theorem dr_Mo_note_81 : decode bc_Mo_note 81 = .ok (.goto 4, 3) := by decide +kernel
theorem dr_Mo_note_84 : decode bc_Mo_note 84 = .ok (.iconst 1, 1) := by decide +kernel
theorem dr_Mo_note_85 : decode bc_Mo_note 85 = .ok (.putfield 78, 3) := by decide +kernel
theorem dr_Mo_note_88 : decode bc_Mo_note 88 = .ok (.aload_n 0, 1) := by decide +kernel
theorem dr_Mo_note_89 : decode bc_Mo_note 89 = .ok (.getfield 78, 3) := by decide +kernel
theorem dr_Mo_note_92 : decode bc_Mo_note 92 = .ok (.ifCond .eq 5, 3) := by decide +kernel
theorem dr_Mo_note_95 : decode bc_Mo_note 95 = .ok (.iconst 0, 1) := by decide +kernel
theorem dr_Mo_note_96 : decode bc_Mo_note 96 = .ok (.ireturn, 1) := by decide +kernel
theorem dr_Mo_note_97 : decode bc_Mo_note 97 = .ok (.iload_n 2, 1) := by decide +kernel
theorem dr_Mo_note_98 : decode bc_Mo_note 98 = .ok (.ifCond .ne 8, 3) := by decide +kernel
theorem dr_Mo_note_101 : decode bc_Mo_note 101 = .ok (.iload 4, 2) := by decide +kernel
theorem dr_Mo_note_103 : decode bc_Mo_note 103 = .ok (.goto 25, 3) := by decide +kernel
theorem dr_Mo_note_106 : decode bc_Mo_note 106 = .ok (.iload_n 2, 1) := by decide +kernel
theorem dr_Mo_note_107 : decode bc_Mo_note 107 = .ok (.iconst 1, 1) := by decide +kernel
theorem dr_Mo_note_108 : decode bc_Mo_note 108 = .ok (.if_icmp .ne 13, 3) := by decide +kernel
theorem dr_Mo_note_111 : decode bc_Mo_note 111 = .ok (.aload_n 0, 1) := by decide +kernel
theorem dr_Mo_note_112 : decode bc_Mo_note 112 = .ok (.getfield 26, 3) := by decide +kernel
theorem dr_Mo_note_115 : decode bc_Mo_note 115 = .ok (.iload 4, 2) := by decide +kernel
theorem dr_Mo_note_117 : decode bc_Mo_note 117 = .ok (.iaload, 1) := by decide +kernel
theorem dr_Mo_note_118 : decode bc_Mo_note 118 = .ok (.goto 10, 3) := by decide +kernel
theorem dr_Mo_note_121 : decode bc_Mo_note 121 = .ok (.aload_n 0, 1) := by decide +kernel
theorem dr_Mo_note_122 : decode bc_Mo_note 122 = .ok (.getfield 23, 3) := by decide +kernel
theorem dr_Mo_note_125 : decode bc_Mo_note 125 = .ok (.iload 4, 2) := by decide +kernel
theorem dr_Mo_note_127 : decode bc_Mo_note 127 = .ok (.iaload, 1) := by decide +kernel
theorem dr_Mo_note_128 : decode bc_Mo_note 128 = .ok (.ireturn, 1) := by decide +kernel
theorem dr_Mo_gate_0 : decode bc_Mo_gate 0 = .ok (.iload_n 1, 1) := by decide +kernel
theorem dr_Mo_gate_1 : decode bc_Mo_gate 1 = .ok (.bipush 16, 2) := by decide +kernel
theorem dr_Mo_gate_3 : decode bc_Mo_gate 3 = .ok (.ishr, 1) := by decide +kernel
theorem dr_Mo_gate_4 : decode bc_Mo_gate 4 = .ok (.istore_n 2, 1) := by decide +kernel
theorem dr_Mo_gate_5 : decode bc_Mo_gate 5 = .ok (.iload_n 2, 1) := by decide +kernel
theorem dr_Mo_gate_6 : decode bc_Mo_gate 6 = .ok (.iconst 1, 1) := by decide +kernel
theorem dr_Mo_gate_7 : decode bc_Mo_gate 7 = .ok (.if_icmp .lt 23, 3) := by decide +kernel
theorem dr_Mo_gate_10 : decode bc_Mo_gate 10 = .ok (.iload_n 2, 1) := by decide +kernel
theorem dr_Mo_gate_11 : decode bc_Mo_gate 11 = .ok (.iconst 4, 1) := by decide +kernel
theorem dr_Mo_gate_12 : decode bc_Mo_gate 12 = .ok (.if_icmp .gt 18, 3) := by decide +kernel
theorem dr_Mo_gate_15 : decode bc_Mo_gate 15 = .ok (.iload_n 1, 1) := by decide +kernel
theorem dr_Mo_gate_16 : decode bc_Mo_gate 16 = .ok (.ldc 164, 2) := by decide +kernel
theorem dr_Mo_gate_18 : decode bc_Mo_gate 18 = .ok (.iand, 1) := by decide +kernel
theorem dr_Mo_gate_19 : decode bc_Mo_gate 19 = .ok (.iconst 1, 1) := by decide +kernel
theorem dr_Mo_gate_20 : decode bc_Mo_gate 20 = .ok (.iload_n 2, 1) := by decide +kernel
theorem dr_Mo_gate_21 : decode bc_Mo_gate 21 = .ok (.ishl, 1) := by decide +kernel
theorem dr_Mo_gate_22 : decode bc_Mo_gate 22 = .ok (.ishr, 1) := by decide +kernel
theorem dr_Mo_gate_23 : decode bc_Mo_gate 23 = .ok (.ifCond .ne 7, 3) := by decide +kernel
theorem dr_Mo_gate_26 : decode bc_Mo_gate 26 = .ok (.iconst 1, 1) := by decide +kernel
theorem dr_Mo_gate_27 : decode bc_Mo_gate 27 = .ok (.goto 4, 3) := by decide +kernel
theorem dr_Mo_gate_30 : decode bc_Mo_gate 30 = .ok (.iconst 0, 1) := by decide +kernel
theorem dr_Mo_gate_31 : decode bc_Mo_gate 31 = .ok (.istore_n 3, 1) := by decide +kernel
theorem dr_Mo_gate_32 : decode bc_Mo_gate 32 = .ok (.aload_n 0, 1) := by decide +kernel
theorem dr_Mo_gate_33 : decode bc_Mo_gate 33 = .ok (.iload_n 3, 1) := by decide +kernel
theorem dr_Mo_gate_34 : decode bc_Mo_gate 34 = .ok (.ifCond .eq 7, 3) := by decide +kernel
theorem dr_Mo_gate_37 : decode bc_Mo_gate 37 = .ok (.iconst 0, 1) := by decide +kernel
theorem dr_Mo_gate_38 : decode bc_Mo_gate 38 = .ok (.goto 4, 3) := by decide +kernel
theorem dr_Mo_gate_41 : decode bc_Mo_gate 41 = .ok (.iconst 1, 1) := by decide +kernel
theorem dr_Mo_gate_42 : decode bc_Mo_gate 42 = .ok (.putfield 78, 3) := by decide +kernel
theorem dr_Mo_gate_45 : decode bc_Mo_gate 45 = .ok (.aload_n 0, 1) := by decide +kernel
theorem dr_Mo_gate_46 : decode bc_Mo_gate 46 = .ok (.getfield 78, 3) := by decide +kernel
theorem dr_Mo_gate_49 : decode bc_Mo_gate 49 = .ok (.ifCond .eq 5, 3) := by decide +kernel
theorem dr_Mo_gate_52 : decode bc_Mo_gate 52 = .ok (.iconst 0, 1) := by decide +kernel
theorem dr_Mo_gate_53 : decode bc_Mo_gate 53 = .ok (.ireturn, 1) := by decide +kernel
theorem dr_Mo_gate_54 : decode bc_Mo_gate 54 = .ok (.aload_n 0, 1) := by decide +kernel
theorem dr_Mo_gate_55 : decode bc_Mo_gate 55 = .ok (.getfield 165, 3) := by decide +kernel
theorem dr_Mo_gate_58 : decode bc_Mo_gate 58 = .ok (.bipush 20, 2) := by decide +kernel
theorem dr_Mo_gate_60 : decode bc_Mo_gate 60 = .ok (.if_icmp .ne 5, 3) := by decide +kernel
theorem dr_Mo_gate_63 : decode bc_Mo_gate 63 = .ok (.iconst (-1), 1) := by decide +kernel
theorem dr_Mo_gate_64 : decode bc_Mo_gate 64 = .ok (.ireturn, 1) := by decide +kernel
theorem dr_Mo_gate_65 : decode bc_Mo_gate 65 = .ok (.aload_n 0, 1) := by decide +kernel
theorem dr_Mo_gate_66 : decode bc_Mo_gate 66 = .ok (.getfield 57, 3) := by decide +kernel
theorem dr_Mo_gate_69 : decode bc_Mo_gate 69 = .ok (.aload_n 0, 1) := by decide +kernel
theorem dr_Mo_gate_70 : decode bc_Mo_gate 70 = .ok (.getfield 165, 3) := by decide +kernel
theorem dr_Mo_gate_73 : decode bc_Mo_gate 73 = .ok (.iload_n 2, 1) := by decide +kernel
theorem dr_Mo_gate_74 : decode bc_Mo_gate 74 = .ok (.iastore, 1) := by decide +kernel
theorem dr_Mo_gate_75 : decode bc_Mo_gate 75 = .ok (.aload_n 0, 1) := by decide +kernel
theorem dr_Mo_gate_76 : decode bc_Mo_gate 76 = .ok (.getfield 60, 3) := by decide +kernel
theorem dr_Mo_gate_79 : decode bc_Mo_gate 79 = .ok (.aload_n 0, 1) := by decide +kernel
theorem dr_Mo_gate_80 : decode bc_Mo_gate 80 = .ok (.getfield 165, 3) := by decide +kernel
theorem dr_Mo_gate_83 : decode bc_Mo_gate 83 = .ok (.iload_n 1, 1) := by decide +kernel
theorem dr_Mo_gate_84 : decode bc_Mo_gate 84 = .ok (.ldc 164, 2) := by decide +kernel
theorem dr_Mo_gate_86 : decode bc_Mo_gate 86 = .ok (.iand, 1) := by decide +kernel
theorem dr_Mo_gate_87 : decode bc_Mo_gate 87 = .ok (.iastore, 1) := by decide +kernel
theorem dr_Mo_gate_88 : decode bc_Mo_gate 88 = .ok (.aload_n 0, 1) := by decide +kernel
theorem dr_Mo_gate_89 : decode bc_Mo_gate 89 = .ok (.dup, 1) := by decide +kernel
theorem dr_Mo_gate_90 : decode bc_Mo_gate 90 = .ok (.getfield 165, 3) := by decide +kernel
theorem dr_Mo_gate_93 : decode bc_Mo_gate 93 = .ok (.iconst 1, 1) := by decide +kernel
theorem dr_Mo_gate_94 : decode bc_Mo_gate 94 = .ok (.iadd, 1) := by decide +kernel
theorem dr_Mo_gate_95 : decode bc_Mo_gate 95 = .ok (.putfield 165, 3) := by decide +kernel
theorem dr_Mo_gate_98 : decode bc_Mo_gate 98 = .ok (.aload_n 0, 1) := by decide +kernel
theorem dr_Mo_gate_99 : decode bc_Mo_gate 99 = .ok (.getfield 165, 3) := by decide +kernel
theorem dr_Mo_gate_102 : decode bc_Mo_gate 102 = .ok (.iconst 1, 1) := by decide +kernel
theorem dr_Mo_gate_103 : decode bc_Mo_gate 103 = .ok (.isub, 1) := by decide +kernel
theorem dr_Mo_gate_104 : decode bc_Mo_gate 104 = .ok (.ireturn, 1) := by decide +kernel
theorem dr_Mo_isSo_0 : decode bc_Mo_isSo 0 = .ok (.aload_n 0, 1) := by decide +kernel
theorem dr_Mo_isSo_1 : decode bc_Mo_isSo 1 = .ok (.getfield 57, 3) := by decide +kernel
theorem dr_Mo_isSo_4 : decode bc_Mo_isSo 4 = .ok (.iload_n 1, 1) := by decide +kernel
theorem dr_Mo_isSo_5 : decode bc_Mo_isSo 5 = .ok (.iaload, 1) := by decide +kernel
theorem dr_Mo_isSo_6 : decode bc_Mo_isSo 6 = .ok (.istore 4, 2) := by decide +kernel
theorem dr_Mo_isSo_8 : decode bc_Mo_isSo 8 = .ok (.iconst 0, 1) := by decide +kernel
theorem dr_Mo_isSo_9 : decode bc_Mo_isSo 9 = .ok (.istore 5, 2) := by decide +kernel
theorem dr_Mo_isSo_11 : decode bc_Mo_isSo 11 = .ok (.iload 5, 2) := by decide +kernel
theorem dr_Mo_isSo_13 : decode bc_Mo_isSo 13 = .ok (.iconst 1, 1) := by decide +kernel
theorem dr_Mo_isSo_14 : decode bc_Mo_isSo 14 = .ok (.iload 4, 2) := by decide +kernel
theorem dr_Mo_isSo_16 : decode bc_Mo_isSo 16 = .ok (.ishl, 1) := by decide +kernel
theorem dr_Mo_isSo_17 : decode bc_Mo_isSo 17 = .ok (.if_icmp .ge 76, 3) := by decide +kernel
theorem dr_Mo_isSo_20 : decode bc_Mo_isSo 20 = .ok (.iconst 0, 1) := by decide +kernel
theorem dr_Mo_isSo_21 : decode bc_Mo_isSo 21 = .ok (.istore 6, 2) := by decide +kernel
theorem dr_Mo_isSo_23 : decode bc_Mo_isSo 23 = .ok (.iconst 0, 1) := by decide +kernel
theorem dr_Mo_isSo_24 : decode bc_Mo_isSo 24 = .ok (.istore 7, 2) := by decide +kernel
theorem dr_Mo_isSo_26 : decode bc_Mo_isSo 26 = .ok (.iload 7, 2) := by decide +kernel
theorem dr_Mo_isSo_28 : decode bc_Mo_isSo 28 = .ok (.iload 4, 2) := by decide +kernel
theorem dr_Mo_isSo_30 : decode bc_Mo_isSo 30 = .ok (.if_icmp .ge 30, 3) := by decide +kernel
theorem dr_Mo_isSo_33 : decode bc_Mo_isSo 33 = .ok (.iload 6, 2) := by decide +kernel
theorem dr_Mo_isSo_35 : decode bc_Mo_isSo 35 = .ok (.iload 5, 2) := by decide +kernel
theorem dr_Mo_isSo_37 : decode bc_Mo_isSo 37 = .ok (.iload 7, 2) := by decide +kernel
theorem dr_Mo_isSo_39 : decode bc_Mo_isSo 39 = .ok (.ishr, 1) := by decide +kernel
theorem dr_Mo_isSo_40 : decode bc_Mo_isSo 40 = .ok (.iconst 1, 1) := by decide +kernel
theorem dr_Mo_isSo_41 : decode bc_Mo_isSo 41 = .ok (.iand, 1) := by decide +kernel
theorem dr_Mo_isSo_42 : decode bc_Mo_isSo 42 = .ok (.iload_n 3, 1) := by decide +kernel
theorem dr_Mo_isSo_43 : decode bc_Mo_isSo 43 = .ok (.iconst 2, 1) := by decide +kernel
theorem dr_Mo_isSo_44 : decode bc_Mo_isSo 44 = .ok (.iload 7, 2) := by decide +kernel
theorem dr_Mo_isSo_46 : decode bc_Mo_isSo 46 = .ok (.imul, 1) := by decide +kernel
theorem dr_Mo_isSo_47 : decode bc_Mo_isSo 47 = .ok (.ishr, 1) := by decide +kernel
theorem dr_Mo_isSo_48 : decode bc_Mo_isSo 48 = .ok (.iconst 3, 1) := by decide +kernel
theorem dr_Mo_isSo_49 : decode bc_Mo_isSo 49 = .ok (.iand, 1) := by decide +kernel
theorem dr_Mo_isSo_50 : decode bc_Mo_isSo 50 = .ok (.ishl, 1) := by decide +kernel
theorem dr_Mo_isSo_51 : decode bc_Mo_isSo 51 = .ok (.ior, 1) := by decide +kernel
theorem dr_Mo_isSo_52 : decode bc_Mo_isSo 52 = .ok (.istore 6, 2) := by decide +kernel
theorem dr_Mo_isSo_54 : decode bc_Mo_isSo 54 = .ok (.iinc 7 1, 3) := by decide +kernel
theorem dr_Mo_isSo_57 : decode bc_Mo_isSo 57 = .ok (.goto (-31), 3) := by decide +kernel
theorem dr_Mo_isSo_60 : decode bc_Mo_isSo 60 = .ok (.aload_n 0, 1) := by decide +kernel
theorem dr_Mo_isSo_61 : decode bc_Mo_isSo 61 = .ok (.getfield 60, 3) := by decide +kernel
theorem dr_Mo_isSo_64 : decode bc_Mo_isSo 64 = .ok (.iload_n 1, 1) := by decide +kernel
theorem dr_Mo_isSo_65 : decode bc_Mo_isSo 65 = .ok (.iaload, 1) := by decide +kernel
theorem dr_Mo_isSo_66 : decode bc_Mo_isSo 66 = .ok (.iload 5, 2) := by decide +kernel
theorem dr_Mo_isSo_68 : decode bc_Mo_isSo 68 = .ok (.ishr, 1) := by decide +kernel
theorem dr_Mo_isSo_69 : decode bc_Mo_isSo 69 = .ok (.iconst 1, 1) := by decide +kernel
theorem dr_Mo_isSo_70 : decode bc_Mo_isSo 70 = .ok (.iand, 1) := by decide +kernel
theorem dr_Mo_isSo_71 : decode bc_Mo_isSo 71 = .ok (.aload_n 0, 1) := by decide +kernel
theorem dr_Mo_isSo_72 : decode bc_Mo_isSo 72 = .ok (.getfield 60, 3) := by decide +kernel
theorem dr_Mo_isSo_75 : decode bc_Mo_isSo 75 = .ok (.iload_n 2, 1) := by decide +kernel
theorem dr_Mo_isSo_76 : decode bc_Mo_isSo 76 = .ok (.iaload, 1) := by decide +kernel
theorem dr_Mo_isSo_77 : decode bc_Mo_isSo 77 = .ok (.iload 6, 2) := by decide +kernel
theorem dr_Mo_isSo_79 : decode bc_Mo_isSo 79 = .ok (.ishr, 1) := by decide +kernel
theorem dr_Mo_isSo_80 : decode bc_Mo_isSo 80 = .ok (.iconst 1, 1) := by decide +kernel
theorem dr_Mo_isSo_81 : decode bc_Mo_isSo 81 = .ok (.iand, 1) := by decide +kernel
theorem dr_Mo_isSo_82 : decode bc_Mo_isSo 82 = .ok (.if_icmp .eq 5, 3) := by decide +kernel
theorem dr_Mo_isSo_85 : decode bc_Mo_isSo 85 = .ok (.iconst 0, 1) := by decide +kernel
theorem dr_Mo_isSo_86 : decode bc_Mo_isSo 86 = .ok (.ireturn, 1) := by decide +kernel
theorem dr_Mo_isSo_87 : decode bc_Mo_isSo 87 = .ok (.iinc 5 1, 3) := by decide +kernel
theorem dr_Mo_isSo_90 : decode bc_Mo_isSo 90 = .ok (.goto (-79), 3) := by decide +kernel
theorem dr_Mo_isSo_93 : decode bc_Mo_isSo 93 = .ok (.iconst 1, 1) := by decide +kernel
theorem dr_Mo_isSo_94 : decode bc_Mo_isSo 94 = .ok (.ireturn, 1) := by decide +kernel
theorem dr_Mo_isOrder_0 : decode bc_Mo_isOrder 0 = .ok (.iconst 0, 1) := by decide +kernel
theorem dr_Mo_isOrder_1 : decode bc_Mo_isOrder 1 = .ok (.istore_n 2, 1) := by decide +kernel
theorem dr_Mo_isOrder_2 : decode bc_Mo_isOrder 2 = .ok (.iconst 0, 1) := by decide +kernel
theorem dr_Mo_isOrder_3 : decode bc_Mo_isOrder 3 = .ok (.istore_n 3, 1) := by decide +kernel
theorem dr_Mo_isOrder_4 : decode bc_Mo_isOrder 4 = .ok (.iload_n 3, 1) := by decide +kernel
theorem dr_Mo_isOrder_5 : decode bc_Mo_isOrder 5 = .ok (.iload_n 1, 1) := by decide +kernel
theorem dr_Mo_isOrder_6 : decode bc_Mo_isOrder 6 = .ok (.if_icmp .ge 21, 3) := by decide +kernel
theorem dr_Mo_isOrder_9 : decode bc_Mo_isOrder 9 = .ok (.iload_n 2, 1) := by decide +kernel
theorem dr_Mo_isOrder_10 : decode bc_Mo_isOrder 10 = .ok (.iconst 1, 1) := by decide +kernel
theorem dr_Mo_isOrder_11 : decode bc_Mo_isOrder 11 = .ok (.iload_n 0, 1) := by decide +kernel
theorem dr_Mo_isOrder_12 : decode bc_Mo_isOrder 12 = .ok (.iconst 2, 1) := by decide +kernel
theorem dr_Mo_isOrder_13 : decode bc_Mo_isOrder 13 = .ok (.iload_n 3, 1) := by decide +kernel
theorem dr_Mo_isOrder_14 : decode bc_Mo_isOrder 14 = .ok (.imul, 1) := by decide +kernel
theorem dr_Mo_isOrder_15 : decode bc_Mo_isOrder 15 = .ok (.ishr, 1) := by decide +kernel
theorem dr_Mo_isOrder_16 : decode bc_Mo_isOrder 16 = .ok (.iconst 3, 1) := by decide +kernel
theorem dr_Mo_isOrder_17 : decode bc_Mo_isOrder 17 = .ok (.iand, 1) := by decide +kernel
theorem dr_Mo_isOrder_18 : decode bc_Mo_isOrder 18 = .ok (.ishl, 1) := by decide +kernel
theorem dr_Mo_isOrder_19 : decode bc_Mo_isOrder 19 = .ok (.ior, 1) := by decide +kernel
theorem dr_Mo_isOrder_20 : decode bc_Mo_isOrder 20 = .ok (.istore_n 2, 1) := by decide +kernel
theorem dr_Mo_isOrder_21 : decode bc_Mo_isOrder 21 = .ok (.iinc 3 1, 3) := by decide +kernel
theorem dr_Mo_isOrder_24 : decode bc_Mo_isOrder 24 = .ok (.goto (-20), 3) := by decide +kernel
theorem dr_Mo_isOrder_27 : decode bc_Mo_isOrder 27 = .ok (.iload_n 2, 1) := by decide +kernel
theorem dr_Mo_isOrder_28 : decode bc_Mo_isOrder 28 = .ok (.iconst 1, 1) := by decide +kernel
theorem dr_Mo_isOrder_29 : decode bc_Mo_isOrder 29 = .ok (.iload_n 1, 1) := by decide +kernel
theorem dr_Mo_isOrder_30 : decode bc_Mo_isOrder 30 = .ok (.ishl, 1) := by decide +kernel
theorem dr_Mo_isOrder_31 : decode bc_Mo_isOrder 31 = .ok (.iconst 1, 1) := by decide +kernel
theorem dr_Mo_isOrder_32 : decode bc_Mo_isOrder 32 = .ok (.isub, 1) := by decide +kernel
theorem dr_Mo_isOrder_33 : decode bc_Mo_isOrder 33 = .ok (.if_icmp .ne 7, 3) := by decide +kernel
theorem dr_Mo_isOrder_36 : decode bc_Mo_isOrder 36 = .ok (.iconst 1, 1) := by decide +kernel
theorem dr_Mo_isOrder_37 : decode bc_Mo_isOrder 37 = .ok (.goto 4, 3) := by decide +kernel
theorem dr_Mo_isOrder_40 : decode bc_Mo_isOrder 40 = .ok (.iconst 0, 1) := by decide +kernel
theorem dr_Mo_isOrder_41 : decode bc_Mo_isOrder 41 = .ok (.ireturn, 1) := by decide +kernel
theorem dr_Mo_equalGate_0 : decode bc_Mo_equalGate 0 = .ok (.iload_n 1, 1) := by decide +kernel
theorem dr_Mo_equalGate_1 : decode bc_Mo_equalGate 1 = .ok (.ifCond .lt 27, 3) := by decide +kernel
theorem dr_Mo_equalGate_4 : decode bc_Mo_equalGate 4 = .ok (.iload_n 1, 1) := by decide +kernel
theorem dr_Mo_equalGate_5 : decode bc_Mo_equalGate 5 = .ok (.aload_n 0, 1) := by decide +kernel
theorem dr_Mo_equalGate_6 : decode bc_Mo_equalGate 6 = .ok (.getfield 165, 3) := by decide +kernel
theorem dr_Mo_equalGate_9 : decode bc_Mo_equalGate 9 = .ok (.if_icmp .ge 19, 3) := by decide +kernel
theorem dr_Mo_equalGate_12 : decode bc_Mo_equalGate 12 = .ok (.iload_n 2, 1) := by decide +kernel
theorem dr_Mo_equalGate_13 : decode bc_Mo_equalGate 13 = .ok (.ifCond .lt 15, 3) := by decide +kernel
theorem dr_Mo_equalGate_16 : decode bc_Mo_equalGate 16 = .ok (.iload_n 2, 1) := by decide +kernel
theorem dr_Mo_equalGate_17 : decode bc_Mo_equalGate 17 = .ok (.aload_n 0, 1) := by decide +kernel
theorem dr_Mo_equalGate_18 : decode bc_Mo_equalGate 18 = .ok (.getfield 165, 3) := by decide +kernel
theorem dr_Mo_equalGate_21 : decode bc_Mo_equalGate 21 = .ok (.if_icmp .ge 7, 3) := by decide +kernel
theorem dr_Mo_equalGate_24 : decode bc_Mo_equalGate 24 = .ok (.iconst 1, 1) := by decide +kernel
theorem dr_Mo_equalGate_25 : decode bc_Mo_equalGate 25 = .ok (.goto 4, 3) := by decide +kernel
theorem dr_Mo_equalGate_28 : decode bc_Mo_equalGate 28 = .ok (.iconst 0, 1) := by decide +kernel
theorem dr_Mo_equalGate_29 : decode bc_Mo_equalGate 29 = .ok (.istore_n 3, 1) := by decide +kernel
theorem dr_Mo_equalGate_30 : decode bc_Mo_equalGate 30 = .ok (.aload_n 0, 1) := by decide +kernel
theorem dr_Mo_equalGate_31 : decode bc_Mo_equalGate 31 = .ok (.iload_n 3, 1) := by decide +kernel
theorem dr_Mo_equalGate_32 : decode bc_Mo_equalGate 32 = .ok (.ifCond .eq 7, 3) := by decide +kernel
theorem dr_Mo_equalGate_35 : decode bc_Mo_equalGate 35 = .ok (.iconst 0, 1) := by decide +kernel
theorem dr_Mo_equalGate_36 : decode bc_Mo_equalGate 36 = .ok (.goto 4, 3) := by decide +kernel
theorem dr_Mo_equalGate_39 : decode bc_Mo_equalGate 39 = .ok (.iconst 1, 1) := by decide +kernel
theorem dr_Mo_equalGate_40 : decode bc_Mo_equalGate 40 = .ok (.putfield 78, 3) := by decide +kernel
theorem dr_Mo_equalGate_43 : decode bc_Mo_equalGate 43 = .ok (.aload_n 0, 1) := by decide +kernel
theorem dr_Mo_equalGate_44 : decode bc_Mo_equalGate 44 = .ok (.getfield 78, 3) := by decide +kernel
theorem dr_Mo_equalGate_47 : decode bc_Mo_equalGate 47 = .ok (.ifCond .ne 18, 3) := by decide +kernel
theorem dr_Mo_equalGate_50 : decode bc_Mo_equalGate 50 = .ok (.aload_n 0, 1) := by decide +kernel
theorem dr_Mo_equalGate_51 : decode bc_Mo_equalGate 51 = .ok (.getfield 57, 3) := by decide +kernel
theorem dr_Mo_equalGate_54 : decode bc_Mo_equalGate 54 = .ok (.iload_n 1, 1) := by decide +kernel
theorem dr_Mo_equalGate_55 : decode bc_Mo_equalGate 55 = .ok (.iaload, 1) := by decide +kernel
theorem dr_Mo_equalGate_56 : decode bc_Mo_equalGate 56 = .ok (.aload_n 0, 1) := by decide +kernel
theorem dr_Mo_equalGate_57 : decode bc_Mo_equalGate 57 = .ok (.getfield 57, 3) := by decide +kernel
theorem dr_Mo_equalGate_60 : decode bc_Mo_equalGate 60 = .ok (.iload_n 2, 1) := by decide +kernel
theorem dr_Mo_equalGate_61 : decode bc_Mo_equalGate 61 = .ok (.iaload, 1) := by decide +kernel
theorem dr_Mo_equalGate_62 : decode bc_Mo_equalGate 62 = .ok (.if_icmp .eq 5, 3) := by decide +kernel
theorem dr_Mo_equalGate_65 : decode bc_Mo_equalGate 65 = .ok (.iconst 0, 1) := by decide +kernel
theorem dr_Mo_equalGate_66 : decode bc_Mo_equalGate 66 = .ok (.ireturn, 1) := by decide +kernel
theorem dr_Mo_equalGate_67 : decode bc_Mo_equalGate 67 = .ok (.iconst 0, 1) := by decide +kernel
theorem dr_Mo_equalGate_68 : decode bc_Mo_equalGate 68 = .ok (.istore 4, 2) := by decide +kernel
theorem dr_Mo_equalGate_70 : decode bc_Mo_equalGate 70 = .ok (.iconst 0, 1) := by decide +kernel
theorem dr_Mo_equalGate_71 : decode bc_Mo_equalGate 71 = .ok (.istore 5, 2) := by decide +kernel
theorem dr_Mo_equalGate_73 : decode bc_Mo_equalGate 73 = .ok (.iload 5, 2) := by decide +kernel
theorem dr_Mo_equalGate_75 : decode bc_Mo_equalGate 75 = .ok (.iconst 1, 1) := by decide +kernel
theorem dr_Mo_equalGate_76 : decode bc_Mo_equalGate 76 = .ok (.iconst 2, 1) := by decide +kernel
theorem dr_Mo_equalGate_77 : decode bc_Mo_equalGate 77 = .ok (.aload_n 0, 1) := by decide +kernel
theorem dr_Mo_equalGate_78 : decode bc_Mo_equalGate 78 = .ok (.getfield 57, 3) := by decide +kernel
theorem dr_Mo_equalGate_81 : decode bc_Mo_equalGate 81 = .ok (.iload_n 1, 1) := by decide +kernel
theorem dr_Mo_equalGate_82 : decode bc_Mo_equalGate 82 = .ok (.iaload, 1) := by decide +kernel
theorem dr_Mo_equalGate_83 : decode bc_Mo_equalGate 83 = .ok (.imul, 1) := by decide +kernel
theorem dr_Mo_equalGate_84 : decode bc_Mo_equalGate 84 = .ok (.ishl, 1) := by decide +kernel
theorem dr_Mo_equalGate_85 : decode bc_Mo_equalGate 85 = .ok (.if_icmp .ge 46, 3) := by decide +kernel
theorem dr_Mo_equalGate_88 : decode bc_Mo_equalGate 88 = .ok (.iload 4, 2) := by decide +kernel
theorem dr_Mo_equalGate_90 : decode bc_Mo_equalGate 90 = .ok (.ifCond .ne 28, 3) := by decide +kernel
theorem dr_Mo_equalGate_93 : decode bc_Mo_equalGate 93 = .ok (.iload 5, 2) := by decide +kernel
theorem dr_Mo_equalGate_95 : decode bc_Mo_equalGate 95 = .ok (.aload_n 0, 1) := by decide +kernel
theorem dr_Mo_equalGate_96 : decode bc_Mo_equalGate 96 = .ok (.getfield 57, 3) := by decide +kernel
theorem dr_Mo_equalGate_99 : decode bc_Mo_equalGate 99 = .ok (.iload_n 1, 1) := by decide +kernel
theorem dr_Mo_equalGate_100 : decode bc_Mo_equalGate 100 = .ok (.iaload, 1) := by decide +kernel
theorem dr_Mo_equalGate_101 : decode bc_Mo_equalGate 101 = .ok (.invokestatic 168, 3) := by decide +kernel
theorem dr_Mo_equalGate_104 : decode bc_Mo_equalGate 104 = .ok (.ifCond .eq 18, 3) := by decide +kernel
theorem dr_Mo_equalGate_107 : decode bc_Mo_equalGate 107 = .ok (.aload_n 0, 1) := by decide +kernel
theorem dr_Mo_equalGate_108 : decode bc_Mo_equalGate 108 = .ok (.iload_n 1, 1) := by decide +kernel
theorem dr_Mo_equalGate_109 : decode bc_Mo_equalGate 109 = .ok (.iload_n 2, 1) := by decide +kernel
theorem dr_Mo_equalGate_110 : decode bc_Mo_equalGate 110 = .ok (.iload 5, 2) := by decide +kernel
theorem dr_Mo_equalGate_112 : decode bc_Mo_equalGate 112 = .ok (.invokevirtual 172, 3) := by decide +kernel
theorem dr_Mo_equalGate_115 : decode bc_Mo_equalGate 115 = .ok (.ifCond .eq 7, 3) := by decide +kernel
theorem dr_Mo_equalGate_118 : decode bc_Mo_equalGate 118 = .ok (.iconst 1, 1) := by decide +kernel
theorem dr_Mo_equalGate_119 : decode bc_Mo_equalGate 119 = .ok (.goto 4, 3) := by decide +kernel
theorem dr_Mo_equalGate_122 : decode bc_Mo_equalGate 122 = .ok (.iconst 0, 1) := by decide +kernel
theorem dr_Mo_equalGate_123 : decode bc_Mo_equalGate 123 = .ok (.istore 4, 2) := by decide +kernel
theorem dr_Mo_equalGate_125 : decode bc_Mo_equalGate 125 = .ok (.iinc 5 1, 3) := by decide +kernel
theorem dr_Mo_equalGate_128 : decode bc_Mo_equalGate 128 = .ok (.goto (-55), 3) := by decide +kernel
theorem dr_Mo_equalGate_131 : decode bc_Mo_equalGate 131 = .ok (.iload 4, 2) := by decide +kernel
theorem dr_Mo_equalGate_133 : decode bc_Mo_equalGate 133 = .ok (.ireturn, 1) := by decide +kernel
theorem dr_Mo_turn_0 : decode bc_Mo_turn 0 = .ok (.lload 4, 2) := by decide +kernel
theorem dr_Mo_turn_2 : decode bc_Mo_turn 2 = .ok (.lload_n 0, 1) := by decide +kernel
theorem dr_Mo_turn_3 : decode bc_Mo_turn 3 = .ok (.lsub, 1) := by decide +kernel
theorem dr_Mo_turn_4 : decode bc_Mo_turn 4 = .ok (.lload 10, 2) := by decide +kernel
theorem dr_Mo_turn_6 : decode bc_Mo_turn 6 = .ok (.lload_n 2, 1) := by decide +kernel
theorem dr_Mo_turn_7 : decode bc_Mo_turn 7 = .ok (.lsub, 1) := by decide +kernel
theorem dr_Mo_turn_8 : decode bc_Mo_turn 8 = .ok (.lmul, 1) := by decide +kernel
theorem dr_Mo_turn_9 : decode bc_Mo_turn 9 = .ok (.lload 6, 2) := by decide +kernel
theorem dr_Mo_turn_11 : decode bc_Mo_turn 11 = .ok (.lload_n 2, 1) := by decide +kernel
theorem dr_Mo_turn_12 : decode bc_Mo_turn 12 = .ok (.lsub, 1) := by decide +kernel
theorem dr_Mo_turn_13 : decode bc_Mo_turn 13 = .ok (.lload 8, 2) := by decide +kernel
theorem dr_Mo_turn_15 : decode bc_Mo_turn 15 = .ok (.lload_n 0, 1) := by decide +kernel
theorem dr_Mo_turn_16 : decode bc_Mo_turn 16 = .ok (.lsub, 1) := by decide +kernel
theorem dr_Mo_turn_17 : decode bc_Mo_turn 17 = .ok (.lmul, 1) := by decide +kernel
theorem dr_Mo_turn_18 : decode bc_Mo_turn 18 = .ok (.lsub, 1) := by decide +kernel
theorem dr_Mo_turn_19 : decode bc_Mo_turn 19 = .ok (.lstore 12, 2) := by decide +kernel
theorem dr_Mo_turn_21 : decode bc_Mo_turn 21 = .ok (.lload 12, 2) := by decide +kernel
theorem dr_Mo_turn_23 : decode bc_Mo_turn 23 = .ok (.lconst 0, 1) := by decide +kernel
theorem dr_Mo_turn_24 : decode bc_Mo_turn 24 = .ok (.lcmp, 1) := by decide +kernel
theorem dr_Mo_turn_25 : decode bc_Mo_turn 25 = .ok (.ifCond .ge 7, 3) := by decide +kernel
theorem dr_Mo_turn_28 : decode bc_Mo_turn 28 = .ok (.iconst (-1), 1) := by decide +kernel
theorem dr_Mo_turn_29 : decode bc_Mo_turn 29 = .ok (.goto 15, 3) := by decide +kernel
theorem dr_Mo_turn_32 : decode bc_Mo_turn 32 = .ok (.lload 12, 2) := by decide +kernel
theorem dr_Mo_turn_34 : decode bc_Mo_turn 34 = .ok (.lconst 0, 1) := by decide +kernel
theorem dr_Mo_turn_35 : decode bc_Mo_turn 35 = .ok (.lcmp, 1) := by decide +kernel
theorem dr_Mo_turn_36 : decode bc_Mo_turn 36 = .ok (.ifCond .le 7, 3) := by decide +kernel
theorem dr_Mo_turn_39 : decode bc_Mo_turn 39 = .ok (.iconst 1, 1) := by decide +kernel
theorem dr_Mo_turn_40 : decode bc_Mo_turn 40 = .ok (.goto 4, 3) := by decide +kernel
theorem dr_Mo_turn_43 : decode bc_Mo_turn 43 = .ok (.iconst 0, 1) := by decide +kernel
theorem dr_Mo_turn_44 : decode bc_Mo_turn 44 = .ok (.ireturn, 1) := by decide +kernel
theorem dr_Mo_cross_0 : decode bc_Mo_cross 0 = .ok (.aload_n 0, 1) := by decide +kernel
theorem dr_Mo_cross_1 : decode bc_Mo_cross 1 = .ok (.getfield 23, 3) := by decide +kernel
theorem dr_Mo_cross_4 : decode bc_Mo_cross 4 = .ok (.iload_n 1, 1) := by decide +kernel
theorem dr_Mo_cross_5 : decode bc_Mo_cross 5 = .ok (.iaload, 1) := by decide +kernel
theorem dr_Mo_cross_6 : decode bc_Mo_cross 6 = .ok (.istore_n 3, 1) := by decide +kernel
theorem dr_Mo_cross_7 : decode bc_Mo_cross 7 = .ok (.aload_n 0, 1) := by decide +kernel
theorem dr_Mo_cross_8 : decode bc_Mo_cross 8 = .ok (.getfield 23, 3) := by decide +kernel
theorem dr_Mo_cross_11 : decode bc_Mo_cross 11 = .ok (.iload_n 2, 1) := by decide +kernel
theorem dr_Mo_cross_12 : decode bc_Mo_cross 12 = .ok (.iaload, 1) := by decide +kernel
theorem dr_Mo_cross_13 : decode bc_Mo_cross 13 = .ok (.istore 4, 2) := by decide +kernel
theorem dr_Mo_cross_15 : decode bc_Mo_cross 15 = .ok (.aload_n 0, 1) := by decide +kernel
theorem dr_Mo_cross_16 : decode bc_Mo_cross 16 = .ok (.getfield 39, 3) := by decide +kernel
theorem dr_Mo_cross_19 : decode bc_Mo_cross 19 = .ok (.iload_n 3, 1) := by decide +kernel
theorem dr_Mo_cross_20 : decode bc_Mo_cross 20 = .ok (.baload, 1) := by decide +kernel
theorem dr_Mo_cross_21 : decode bc_Mo_cross 21 = .ok (.ifCond .eq 13, 3) := by decide +kernel
theorem dr_Mo_cross_24 : decode bc_Mo_cross 24 = .ok (.aload_n 0, 1) := by decide +kernel
theorem dr_Mo_cross_25 : decode bc_Mo_cross 25 = .ok (.getfield 39, 3) := by decide +kernel
theorem dr_Mo_cross_28 : decode bc_Mo_cross 28 = .ok (.iload 4, 2) := by decide +kernel
theorem dr_Mo_cross_30 : decode bc_Mo_cross 30 = .ok (.baload, 1) := by decide +kernel
theorem dr_Mo_cross_31 : decode bc_Mo_cross 31 = .ok (.ifCond .ne 5, 3) := by decide +kernel
theorem dr_Mo_cross_34 : decode bc_Mo_cross 34 = .ok (.iconst 0, 1) := by decide +kernel
theorem dr_Mo_cross_35 : decode bc_Mo_cross 35 = .ok (.ireturn, 1) := by decide +kernel
theorem dr_Mo_cross_36 : decode bc_Mo_cross 36 = .ok (.aload_n 0, 1) := by decide +kernel
theorem dr_Mo_cross_37 : decode bc_Mo_cross 37 = .ok (.getfield 13, 3) := by decide +kernel
theorem dr_Mo_cross_40 : decode bc_Mo_cross 40 = .ok (.iload_n 1, 1) := by decide +kernel
theorem dr_Mo_cross_41 : decode bc_Mo_cross 41 = .ok (.laload, 1) := by decide +kernel
theorem dr_Mo_cross_42 : decode bc_Mo_cross 42 = .ok (.aload_n 0, 1) := by decide +kernel
theorem dr_Mo_cross_43 : decode bc_Mo_cross 43 = .ok (.getfield 17, 3) := by decide +kernel
theorem dr_Mo_cross_46 : decode bc_Mo_cross 46 = .ok (.iload_n 1, 1) := by decide +kernel
theorem dr_Mo_cross_47 : decode bc_Mo_cross 47 = .ok (.laload, 1) := by decide +kernel
theorem dr_Mo_cross_48 : decode bc_Mo_cross 48 = .ok (.aload_n 0, 1) := by decide +kernel
theorem dr_Mo_cross_49 : decode bc_Mo_cross 49 = .ok (.getfield 42, 3) := by decide +kernel
theorem dr_Mo_cross_52 : decode bc_Mo_cross 52 = .ok (.iload_n 3, 1) := by decide +kernel
theorem dr_Mo_cross_53 : decode bc_Mo_cross 53 = .ok (.laload, 1) := by decide +kernel
theorem dr_Mo_cross_54 : decode bc_Mo_cross 54 = .ok (.aload_n 0, 1) := by decide +kernel
theorem dr_Mo_cross_55 : decode bc_Mo_cross 55 = .ok (.getfield 45, 3) := by decide +kernel
theorem dr_Mo_cross_58 : decode bc_Mo_cross 58 = .ok (.iload_n 3, 1) := by decide +kernel
theorem dr_Mo_cross_59 : decode bc_Mo_cross 59 = .ok (.laload, 1) := by decide +kernel
theorem dr_Mo_cross_60 : decode bc_Mo_cross 60 = .ok (.aload_n 0, 1) := by decide +kernel
theorem dr_Mo_cross_61 : decode bc_Mo_cross 61 = .ok (.getfield 13, 3) := by decide +kernel
theorem dr_Mo_cross_64 : decode bc_Mo_cross 64 = .ok (.iload_n 2, 1) := by decide +kernel
theorem dr_Mo_cross_65 : decode bc_Mo_cross 65 = .ok (.laload, 1) := by decide +kernel
theorem dr_Mo_cross_66 : decode bc_Mo_cross 66 = .ok (.aload_n 0, 1) := by decide +kernel
theorem dr_Mo_cross_67 : decode bc_Mo_cross 67 = .ok (.getfield 17, 3) := by decide +kernel
theorem dr_Mo_cross_70 : decode bc_Mo_cross 70 = .ok (.iload_n 2, 1) := by decide +kernel
theorem dr_Mo_cross_71 : decode bc_Mo_cross 71 = .ok (.laload, 1) := by decide +kernel
theorem dr_Mo_cross_72 : decode bc_Mo_cross 72 = .ok (.invokestatic 175, 3) := by decide +kernel
theorem dr_Mo_cross_75 : decode bc_Mo_cross 75 = .ok (.aload_n 0, 1) := by decide +kernel
theorem dr_Mo_cross_76 : decode bc_Mo_cross 76 = .ok (.getfield 13, 3) := by decide +kernel
theorem dr_Mo_cross_79 : decode bc_Mo_cross 79 = .ok (.iload_n 1, 1) := by decide +kernel
theorem dr_Mo_cross_80 : decode bc_Mo_cross 80 = .ok (.laload, 1) := by decide +kernel
theorem dr_Mo_cross_81 : decode bc_Mo_cross 81 = .ok (.aload_n 0, 1) := by decide +kernel
theorem dr_Mo_cross_82 : decode bc_Mo_cross 82 = .ok (.getfield 17, 3) := by decide +kernel
theorem dr_Mo_cross_85 : decode bc_Mo_cross 85 = .ok (.iload_n 1, 1) := by decide +kernel
theorem dr_Mo_cross_86 : decode bc_Mo_cross 86 = .ok (.laload, 1) := by decide +kernel
theorem dr_Mo_cross_87 : decode bc_Mo_cross 87 = .ok (.aload_n 0, 1) := by decide +kernel
theorem dr_Mo_cross_88 : decode bc_Mo_cross 88 = .ok (.getfield 42, 3) := by decide +kernel
theorem dr_Mo_cross_91 : decode bc_Mo_cross 91 = .ok (.iload_n 3, 1) := by decide +kernel
theorem dr_Mo_cross_92 : decode bc_Mo_cross 92 = .ok (.laload, 1) := by decide +kernel
theorem dr_Mo_cross_93 : decode bc_Mo_cross 93 = .ok (.aload_n 0, 1) := by decide +kernel
theorem dr_Mo_cross_94 : decode bc_Mo_cross 94 = .ok (.getfield 45, 3) := by decide +kernel
theorem dr_Mo_cross_97 : decode bc_Mo_cross 97 = .ok (.iload_n 3, 1) := by decide +kernel
theorem dr_Mo_cross_98 : decode bc_Mo_cross 98 = .ok (.laload, 1) := by decide +kernel
theorem dr_Mo_cross_99 : decode bc_Mo_cross 99 = .ok (.aload_n 0, 1) := by decide +kernel
theorem dr_Mo_cross_100 : decode bc_Mo_cross 100 = .ok (.getfield 42, 3) := by decide +kernel
theorem dr_Mo_cross_103 : decode bc_Mo_cross 103 = .ok (.iload 4, 2) := by decide +kernel
theorem dr_Mo_cross_105 : decode bc_Mo_cross 105 = .ok (.laload, 1) := by decide +kernel
theorem dr_Mo_cross_106 : decode bc_Mo_cross 106 = .ok (.aload_n 0, 1) := by decide +kernel
theorem dr_Mo_cross_107 : decode bc_Mo_cross 107 = .ok (.getfield 45, 3) := by decide +kernel
theorem dr_Mo_cross_110 : decode bc_Mo_cross 110 = .ok (.iload 4, 2) := by decide +kernel
theorem dr_Mo_cross_112 : decode bc_Mo_cross 112 = .ok (.laload, 1) := by decide +kernel
theorem dr_Mo_cross_113 : decode bc_Mo_cross 113 = .ok (.invokestatic 175, 3) := by decide +kernel
theorem dr_Mo_cross_116 : decode bc_Mo_cross 116 = .ok (.imul, 1) := by decide +kernel
theorem dr_Mo_cross_117 : decode bc_Mo_cross 117 = .ok (.istore 5, 2) := by decide +kernel
theorem dr_Mo_cross_119 : decode bc_Mo_cross 119 = .ok (.aload_n 0, 1) := by decide +kernel
theorem dr_Mo_cross_120 : decode bc_Mo_cross 120 = .ok (.getfield 13, 3) := by decide +kernel
theorem dr_Mo_cross_123 : decode bc_Mo_cross 123 = .ok (.iload_n 2, 1) := by decide +kernel
theorem dr_Mo_cross_124 : decode bc_Mo_cross 124 = .ok (.laload, 1) := by decide +kernel
theorem dr_Mo_cross_125 : decode bc_Mo_cross 125 = .ok (.aload_n 0, 1) := by decide +kernel
theorem dr_Mo_cross_126 : decode bc_Mo_cross 126 = .ok (.getfield 17, 3) := by decide +kernel
theorem dr_Mo_cross_129 : decode bc_Mo_cross 129 = .ok (.iload_n 2, 1) := by decide +kernel
theorem dr_Mo_cross_130 : decode bc_Mo_cross 130 = .ok (.laload, 1) := by decide +kernel
theorem dr_Mo_cross_131 : decode bc_Mo_cross 131 = .ok (.aload_n 0, 1) := by decide +kernel
theorem dr_Mo_cross_132 : decode bc_Mo_cross 132 = .ok (.getfield 42, 3) := by decide +kernel
theorem dr_Mo_cross_135 : decode bc_Mo_cross 135 = .ok (.iload 4, 2) := by decide +kernel
theorem dr_Mo_cross_137 : decode bc_Mo_cross 137 = .ok (.laload, 1) := by decide +kernel
theorem dr_Mo_cross_138 : decode bc_Mo_cross 138 = .ok (.aload_n 0, 1) := by decide +kernel
theorem dr_Mo_cross_139 : decode bc_Mo_cross 139 = .ok (.getfield 45, 3) := by decide +kernel
theorem dr_Mo_cross_142 : decode bc_Mo_cross 142 = .ok (.iload 4, 2) := by decide +kernel
theorem dr_Mo_cross_144 : decode bc_Mo_cross 144 = .ok (.laload, 1) := by decide +kernel
theorem dr_Mo_cross_145 : decode bc_Mo_cross 145 = .ok (.aload_n 0, 1) := by decide +kernel
theorem dr_Mo_cross_146 : decode bc_Mo_cross 146 = .ok (.getfield 13, 3) := by decide +kernel
theorem dr_Mo_cross_149 : decode bc_Mo_cross 149 = .ok (.iload_n 1, 1) := by decide +kernel
theorem dr_Mo_cross_150 : decode bc_Mo_cross 150 = .ok (.laload, 1) := by decide +kernel
theorem dr_Mo_cross_151 : decode bc_Mo_cross 151 = .ok (.aload_n 0, 1) := by decide +kernel
theorem dr_Mo_cross_152 : decode bc_Mo_cross 152 = .ok (.getfield 17, 3) := by decide +kernel
theorem dr_Mo_cross_155 : decode bc_Mo_cross 155 = .ok (.iload_n 1, 1) := by decide +kernel
theorem dr_Mo_cross_156 : decode bc_Mo_cross 156 = .ok (.laload, 1) := by decide +kernel
theorem dr_Mo_cross_157 : decode bc_Mo_cross 157 = .ok (.invokestatic 175, 3) := by decide +kernel
theorem dr_Mo_cross_160 : decode bc_Mo_cross 160 = .ok (.aload_n 0, 1) := by decide +kernel
theorem dr_Mo_cross_161 : decode bc_Mo_cross 161 = .ok (.getfield 13, 3) := by decide +kernel
theorem dr_Mo_cross_164 : decode bc_Mo_cross 164 = .ok (.iload_n 2, 1) := by decide +kernel
theorem dr_Mo_cross_165 : decode bc_Mo_cross 165 = .ok (.laload, 1) := by decide +kernel
theorem dr_Mo_cross_166 : decode bc_Mo_cross 166 = .ok (.aload_n 0, 1) := by decide +kernel
theorem dr_Mo_cross_167 : decode bc_Mo_cross 167 = .ok (.getfield 17, 3) := by decide +kernel
theorem dr_Mo_cross_170 : decode bc_Mo_cross 170 = .ok (.iload_n 2, 1) := by decide +kernel
theorem dr_Mo_cross_171 : decode bc_Mo_cross 171 = .ok (.laload, 1) := by decide +kernel
theorem dr_Mo_cross_172 : decode bc_Mo_cross 172 = .ok (.aload_n 0, 1) := by decide +kernel
theorem dr_Mo_cross_173 : decode bc_Mo_cross 173 = .ok (.getfield 42, 3) := by decide +kernel
theorem dr_Mo_cross_176 : decode bc_Mo_cross 176 = .ok (.iload 4, 2) := by decide +kernel
theorem dr_Mo_cross_178 : decode bc_Mo_cross 178 = .ok (.laload, 1) := by decide +kernel
theorem dr_Mo_cross_179 : decode bc_Mo_cross 179 = .ok (.aload_n 0, 1) := by decide +kernel
theorem dr_Mo_cross_180 : decode bc_Mo_cross 180 = .ok (.getfield 45, 3) := by decide +kernel
theorem dr_Mo_cross_183 : decode bc_Mo_cross 183 = .ok (.iload 4, 2) := by decide +kernel
theorem dr_Mo_cross_185 : decode bc_Mo_cross 185 = .ok (.laload, 1) := by decide +kernel
theorem dr_Mo_cross_186 : decode bc_Mo_cross 186 = .ok (.aload_n 0, 1) := by decide +kernel
theorem dr_Mo_cross_187 : decode bc_Mo_cross 187 = .ok (.getfield 42, 3) := by decide +kernel
theorem dr_Mo_cross_190 : decode bc_Mo_cross 190 = .ok (.iload_n 3, 1) := by decide +kernel
theorem dr_Mo_cross_191 : decode bc_Mo_cross 191 = .ok (.laload, 1) := by decide +kernel
theorem dr_Mo_cross_192 : decode bc_Mo_cross 192 = .ok (.aload_n 0, 1) := by decide +kernel
theorem dr_Mo_cross_193 : decode bc_Mo_cross 193 = .ok (.getfield 45, 3) := by decide +kernel
theorem dr_Mo_cross_196 : decode bc_Mo_cross 196 = .ok (.iload_n 3, 1) := by decide +kernel
theorem dr_Mo_cross_197 : decode bc_Mo_cross 197 = .ok (.laload, 1) := by decide +kernel
theorem dr_Mo_cross_198 : decode bc_Mo_cross 198 = .ok (.invokestatic 175, 3) := by decide +kernel
theorem dr_Mo_cross_201 : decode bc_Mo_cross 201 = .ok (.imul, 1) := by decide +kernel
theorem dr_Mo_cross_202 : decode bc_Mo_cross 202 = .ok (.istore 6, 2) := by decide +kernel
theorem dr_Mo_cross_204 : decode bc_Mo_cross 204 = .ok (.iload 5, 2) := by decide +kernel
theorem dr_Mo_cross_206 : decode bc_Mo_cross 206 = .ok (.ifCond .ge 12, 3) := by decide +kernel
theorem dr_Mo_cross_209 : decode bc_Mo_cross 209 = .ok (.iload 6, 2) := by decide +kernel
theorem dr_Mo_cross_211 : decode bc_Mo_cross 211 = .ok (.ifCond .ge 7, 3) := by decide +kernel
theorem dr_Mo_cross_214 : decode bc_Mo_cross 214 = .ok (.iconst 1, 1) := by decide +kernel
theorem dr_Mo_cross_215 : decode bc_Mo_cross 215 = .ok (.goto 4, 3) := by decide +kernel
theorem dr_Mo_cross_218 : decode bc_Mo_cross 218 = .ok (.iconst 0, 1) := by decide +kernel
theorem dr_Mo_cross_219 : decode bc_Mo_cross 219 = .ok (.ireturn, 1) := by decide +kernel
theorem dr_Mo_crossings_0 : decode bc_Mo_crossings 0 = .ok (.aload_n 0, 1) := by decide +kernel
theorem dr_Mo_crossings_1 : decode bc_Mo_crossings 1 = .ok (.iconst 0, 1) := by decide +kernel
theorem dr_Mo_crossings_2 : decode bc_Mo_crossings 2 = .ok (.putfield 78, 3) := by decide +kernel
theorem dr_Mo_crossings_5 : decode bc_Mo_crossings 5 = .ok (.iconst 0, 1) := by decide +kernel
theorem dr_Mo_crossings_6 : decode bc_Mo_crossings 6 = .ok (.istore_n 1, 1) := by decide +kernel
theorem dr_Mo_crossings_7 : decode bc_Mo_crossings 7 = .ok (.iconst 0, 1) := by decide +kernel
theorem dr_Mo_crossings_8 : decode bc_Mo_crossings 8 = .ok (.istore_n 2, 1) := by decide +kernel
theorem dr_Mo_crossings_9 : decode bc_Mo_crossings 9 = .ok (.iload_n 2, 1) := by decide +kernel
theorem dr_Mo_crossings_10 : decode bc_Mo_crossings 10 = .ok (.aload_n 0, 1) := by decide +kernel
theorem dr_Mo_crossings_11 : decode bc_Mo_crossings 11 = .ok (.getfield 89, 3) := by decide +kernel
theorem dr_Mo_crossings_14 : decode bc_Mo_crossings 14 = .ok (.if_icmp .ge 54, 3) := by decide +kernel
theorem dr_Mo_crossings_17 : decode bc_Mo_crossings 17 = .ok (.iconst 0, 1) := by decide +kernel
theorem dr_Mo_crossings_18 : decode bc_Mo_crossings 18 = .ok (.istore_n 3, 1) := by decide +kernel
theorem dr_Mo_crossings_19 : decode bc_Mo_crossings 19 = .ok (.iload_n 3, 1) := by decide +kernel
theorem dr_Mo_crossings_20 : decode bc_Mo_crossings 20 = .ok (.iload_n 2, 1) := by decide +kernel
theorem dr_Mo_crossings_21 : decode bc_Mo_crossings 21 = .ok (.if_icmp .ge 41, 3) := by decide +kernel
theorem dr_Mo_crossings_24 : decode bc_Mo_crossings 24 = .ok (.iload_n 1, 1) := by decide +kernel
theorem dr_Mo_crossings_25 : decode bc_Mo_crossings 25 = .ok (.aload_n 0, 1) := by decide +kernel
theorem dr_Mo_crossings_26 : decode bc_Mo_crossings 26 = .ok (.getfield 7, 3) := by decide +kernel
theorem dr_Mo_crossings_29 : decode bc_Mo_crossings 29 = .ok (.iload_n 2, 1) := by decide +kernel
theorem dr_Mo_crossings_30 : decode bc_Mo_crossings 30 = .ok (.iaload, 1) := by decide +kernel
theorem dr_Mo_crossings_31 : decode bc_Mo_crossings 31 = .ok (.aload_n 0, 1) := by decide +kernel
theorem dr_Mo_crossings_32 : decode bc_Mo_crossings 32 = .ok (.getfield 7, 3) := by decide +kernel
theorem dr_Mo_crossings_35 : decode bc_Mo_crossings 35 = .ok (.iload_n 3, 1) := by decide +kernel
theorem dr_Mo_crossings_36 : decode bc_Mo_crossings 36 = .ok (.iaload, 1) := by decide +kernel
theorem dr_Mo_crossings_37 : decode bc_Mo_crossings 37 = .ok (.if_icmp .ne 16, 3) := by decide +kernel
theorem dr_Mo_crossings_40 : decode bc_Mo_crossings 40 = .ok (.aload_n 0, 1) := by decide +kernel
theorem dr_Mo_crossings_41 : decode bc_Mo_crossings 41 = .ok (.iload_n 2, 1) := by decide +kernel
theorem dr_Mo_crossings_42 : decode bc_Mo_crossings 42 = .ok (.iload_n 3, 1) := by decide +kernel
theorem dr_Mo_crossings_43 : decode bc_Mo_crossings 43 = .ok (.invokevirtual 179, 3) := by decide +kernel
theorem dr_Mo_crossings_46 : decode bc_Mo_crossings 46 = .ok (.ifCond .eq 7, 3) := by decide +kernel
theorem dr_Mo_crossings_49 : decode bc_Mo_crossings 49 = .ok (.iconst 1, 1) := by decide +kernel
theorem dr_Mo_crossings_50 : decode bc_Mo_crossings 50 = .ok (.goto 4, 3) := by decide +kernel
theorem dr_Mo_crossings_53 : decode bc_Mo_crossings 53 = .ok (.iconst 0, 1) := by decide +kernel
theorem dr_Mo_crossings_54 : decode bc_Mo_crossings 54 = .ok (.iadd, 1) := by decide +kernel
theorem dr_Mo_crossings_55 : decode bc_Mo_crossings 55 = .ok (.istore_n 1, 1) := by decide +kernel
theorem dr_Mo_crossings_56 : decode bc_Mo_crossings 56 = .ok (.iinc 3 1, 3) := by decide +kernel
theorem dr_Mo_crossings_59 : decode bc_Mo_crossings 59 = .ok (.goto (-40), 3) := by decide +kernel
theorem dr_Mo_crossings_62 : decode bc_Mo_crossings 62 = .ok (.iinc 2 1, 3) := by decide +kernel
theorem dr_Mo_crossings_65 : decode bc_Mo_crossings 65 = .ok (.goto (-56), 3) := by decide +kernel
theorem dr_Mo_crossings_68 : decode bc_Mo_crossings 68 = .ok (.iload_n 1, 1) := by decide +kernel
theorem dr_Mo_crossings_69 : decode bc_Mo_crossings 69 = .ok (.ireturn, 1) := by decide +kernel
end
section
theorem dr_Gt_init_0 : decode bc_Gt_init 0 = .ok (.aload_n 0, 1) := by decide +kernel
theorem dr_Gt_init_1 : decode bc_Gt_init 1 = .ok (.invokespecial 3, 3) := by decide +kernel
theorem dr_Gt_init_4 : decode bc_Gt_init 4 = .ok (.aload_n 0, 1) := by decide +kernel
theorem dr_Gt_init_5 : decode bc_Gt_init 5 = .ok (.bipush 20, 2) := by decide +kernel
theorem dr_Gt_init_7 : decode bc_Gt_init 7 = .ok (.newarray .int, 2) := by decide +kernel
theorem dr_Gt_init_9 : decode bc_Gt_init 9 = .ok (.putfield 9, 3) := by decide +kernel
theorem dr_Gt_init_12 : decode bc_Gt_init 12 = .ok (.aload_n 0, 1) := by decide +kernel
theorem dr_Gt_init_13 : decode bc_Gt_init 13 = .ok (.bipush 20, 2) := by decide +kernel
theorem dr_Gt_init_15 : decode bc_Gt_init 15 = .ok (.newarray .int, 2) := by decide +kernel
theorem dr_Gt_init_17 : decode bc_Gt_init 17 = .ok (.putfield 15, 3) := by decide +kernel
theorem dr_Gt_init_20 : decode bc_Gt_init 20 = .ok (.return_, 1) := by decide +kernel
theorem dr_Gt_add_0 : decode bc_Gt_add 0 = .ok (.aload_n 0, 1) := by decide +kernel
theorem dr_Gt_add_1 : decode bc_Gt_add 1 = .ok (.getfield 18, 3) := by decide +kernel
theorem dr_Gt_add_4 : decode bc_Gt_add 4 = .ok (.bipush 20, 2) := by decide +kernel
theorem dr_Gt_add_6 : decode bc_Gt_add 6 = .ok (.if_icmp .lt 5, 3) := by decide +kernel
theorem dr_Gt_add_9 : decode bc_Gt_add 9 = .ok (.iconst (-1), 1) := by decide +kernel
theorem dr_Gt_add_10 : decode bc_Gt_add 10 = .ok (.ireturn, 1) := by decide +kernel
theorem dr_Gt_add_11 : decode bc_Gt_add 11 = .ok (.aload_n 0, 1) := by decide +kernel
theorem dr_Gt_add_12 : decode bc_Gt_add 12 = .ok (.getfield 9, 3) := by decide +kernel
theorem dr_Gt_add_15 : decode bc_Gt_add 15 = .ok (.aload_n 0, 1) := by decide +kernel
theorem dr_Gt_add_16 : decode bc_Gt_add 16 = .ok (.getfield 18, 3) := by decide +kernel
theorem dr_Gt_add_19 : decode bc_Gt_add 19 = .ok (.iload_n 1, 1) := by decide +kernel
theorem dr_Gt_add_20 : decode bc_Gt_add 20 = .ok (.iastore, 1) := by decide +kernel
theorem dr_Gt_add_21 : decode bc_Gt_add 21 = .ok (.aload_n 0, 1) := by decide +kernel
theorem dr_Gt_add_22 : decode bc_Gt_add 22 = .ok (.getfield 15, 3) := by decide +kernel
theorem dr_Gt_add_25 : decode bc_Gt_add 25 = .ok (.aload_n 0, 1) := by decide +kernel
theorem dr_Gt_add_26 : decode bc_Gt_add 26 = .ok (.getfield 18, 3) := by decide +kernel
theorem dr_Gt_add_29 : decode bc_Gt_add 29 = .ok (.iload_n 2, 1) := by decide +kernel
theorem dr_Gt_add_30 : decode bc_Gt_add 30 = .ok (.iastore, 1) := by decide +kernel
theorem dr_Gt_add_31 : decode bc_Gt_add 31 = .ok (.aload_n 0, 1) := by decide +kernel
theorem dr_Gt_add_32 : decode bc_Gt_add 32 = .ok (.dup, 1) := by decide +kernel
theorem dr_Gt_add_33 : decode bc_Gt_add 33 = .ok (.getfield 18, 3) := by decide +kernel
theorem dr_Gt_add_36 : decode bc_Gt_add 36 = .ok (.iconst 1, 1) := by decide +kernel
theorem dr_Gt_add_37 : decode bc_Gt_add 37 = .ok (.iadd, 1) := by decide +kernel
theorem dr_Gt_add_38 : decode bc_Gt_add 38 = .ok (.putfield 18, 3) := by decide +kernel
theorem dr_Gt_add_41 : decode bc_Gt_add 41 = .ok (.aload_n 0, 1) := by decide +kernel
theorem dr_Gt_add_42 : decode bc_Gt_add 42 = .ok (.getfield 18, 3) := by decide +kernel
theorem dr_Gt_add_45 : decode bc_Gt_add 45 = .ok (.iconst 1, 1) := by decide +kernel
theorem dr_Gt_add_46 : decode bc_Gt_add 46 = .ok (.isub, 1) := by decide +kernel
theorem dr_Gt_add_47 : decode bc_Gt_add 47 = .ok (.ireturn, 1) := by decide +kernel
theorem dr_Gt_areEqual_0 : decode bc_Gt_areEqual 0 = .ok (.aload_n 0, 1) := by decide +kernel
theorem dr_Gt_areEqual_1 : decode bc_Gt_areEqual 1 = .ok (.getfield 9, 3) := by decide +kernel
theorem dr_Gt_areEqual_4 : decode bc_Gt_areEqual 4 = .ok (.iload_n 1, 1) := by decide +kernel
theorem dr_Gt_areEqual_5 : decode bc_Gt_areEqual 5 = .ok (.iaload, 1) := by decide +kernel
theorem dr_Gt_areEqual_6 : decode bc_Gt_areEqual 6 = .ok (.aload_n 0, 1) := by decide +kernel
theorem dr_Gt_areEqual_7 : decode bc_Gt_areEqual 7 = .ok (.getfield 9, 3) := by decide +kernel
theorem dr_Gt_areEqual_10 : decode bc_Gt_areEqual 10 = .ok (.iload_n 2, 1) := by decide +kernel
theorem dr_Gt_areEqual_11 : decode bc_Gt_areEqual 11 = .ok (.iaload, 1) := by decide +kernel
theorem dr_Gt_areEqual_12 : decode bc_Gt_areEqual 12 = .ok (.if_icmp .eq 5, 3) := by decide +kernel
theorem dr_Gt_areEqual_15 : decode bc_Gt_areEqual 15 = .ok (.iconst 0, 1) := by decide +kernel
theorem dr_Gt_areEqual_16 : decode bc_Gt_areEqual 16 = .ok (.ireturn, 1) := by decide +kernel
theorem dr_Gt_areEqual_17 : decode bc_Gt_areEqual 17 = .ok (.iconst 0, 1) := by decide +kernel
theorem dr_Gt_areEqual_18 : decode bc_Gt_areEqual 18 = .ok (.istore_n 3, 1) := by decide +kernel
theorem dr_Gt_areEqual_19 : decode bc_Gt_areEqual 19 = .ok (.iload_n 3, 1) := by decide +kernel
theorem dr_Gt_areEqual_20 : decode bc_Gt_areEqual 20 = .ok (.getstatic 22, 3) := by decide +kernel
theorem dr_Gt_areEqual_23 : decode bc_Gt_areEqual 23 = .ok (.aload_n 0, 1) := by decide +kernel
theorem dr_Gt_areEqual_24 : decode bc_Gt_areEqual 24 = .ok (.getfield 9, 3) := by decide +kernel
theorem dr_Gt_areEqual_27 : decode bc_Gt_areEqual 27 = .ok (.iload_n 1, 1) := by decide +kernel
theorem dr_Gt_areEqual_28 : decode bc_Gt_areEqual 28 = .ok (.iaload, 1) := by decide +kernel
theorem dr_Gt_areEqual_29 : decode bc_Gt_areEqual 29 = .ok (.iaload, 1) := by decide +kernel
theorem dr_Gt_areEqual_30 : decode bc_Gt_areEqual 30 = .ok (.if_icmp .ge 40, 3) := by decide +kernel
theorem dr_Gt_areEqual_33 : decode bc_Gt_areEqual 33 = .ok (.aload_n 0, 1) := by decide +kernel
theorem dr_Gt_areEqual_34 : decode bc_Gt_areEqual 34 = .ok (.getfield 15, 3) := by decide +kernel
theorem dr_Gt_areEqual_37 : decode bc_Gt_areEqual 37 = .ok (.iload_n 1, 1) := by decide +kernel
theorem dr_Gt_areEqual_38 : decode bc_Gt_areEqual 38 = .ok (.iaload, 1) := by decide +kernel
theorem dr_Gt_areEqual_39 : decode bc_Gt_areEqual 39 = .ok (.aload_n 0, 1) := by decide +kernel
theorem dr_Gt_areEqual_40 : decode bc_Gt_areEqual 40 = .ok (.getfield 9, 3) := by decide +kernel
theorem dr_Gt_areEqual_43 : decode bc_Gt_areEqual 43 = .ok (.iload_n 1, 1) := by decide +kernel
theorem dr_Gt_areEqual_44 : decode bc_Gt_areEqual 44 = .ok (.iaload, 1) := by decide +kernel
theorem dr_Gt_areEqual_45 : decode bc_Gt_areEqual 45 = .ok (.getstatic 25, 3) := by decide +kernel
theorem dr_Gt_areEqual_48 : decode bc_Gt_areEqual 48 = .ok (.iload_n 3, 1) := by decide +kernel
theorem dr_Gt_areEqual_49 : decode bc_Gt_areEqual 49 = .ok (.iaload, 1) := by decide +kernel
theorem dr_Gt_areEqual_50 : decode bc_Gt_areEqual 50 = .ok (.invokestatic 28, 3) := by decide +kernel
theorem dr_Gt_areEqual_53 : decode bc_Gt_areEqual 53 = .ok (.aload_n 0, 1) := by decide +kernel
theorem dr_Gt_areEqual_54 : decode bc_Gt_areEqual 54 = .ok (.getfield 15, 3) := by decide +kernel
theorem dr_Gt_areEqual_57 : decode bc_Gt_areEqual 57 = .ok (.iload_n 2, 1) := by decide +kernel
theorem dr_Gt_areEqual_58 : decode bc_Gt_areEqual 58 = .ok (.iaload, 1) := by decide +kernel
theorem dr_Gt_areEqual_59 : decode bc_Gt_areEqual 59 = .ok (.if_icmp .ne 5, 3) := by decide +kernel
theorem dr_Gt_areEqual_62 : decode bc_Gt_areEqual 62 = .ok (.iconst 1, 1) := by decide +kernel
theorem dr_Gt_areEqual_63 : decode bc_Gt_areEqual 63 = .ok (.ireturn, 1) := by decide +kernel
theorem dr_Gt_areEqual_64 : decode bc_Gt_areEqual 64 = .ok (.iinc 3 1, 3) := by decide +kernel
theorem dr_Gt_areEqual_67 : decode bc_Gt_areEqual 67 = .ok (.goto (-48), 3) := by decide +kernel
theorem dr_Gt_areEqual_70 : decode bc_Gt_areEqual 70 = .ok (.iconst 0, 1) := by decide +kernel
theorem dr_Gt_areEqual_71 : decode bc_Gt_areEqual 71 = .ok (.ireturn, 1) := by decide +kernel
theorem dr_Gt_reordered_0 : decode bc_Gt_reordered 0 = .ok (.iconst 0, 1) := by decide +kernel
theorem dr_Gt_reordered_1 : decode bc_Gt_reordered 1 = .ok (.istore_n 3, 1) := by decide +kernel
theorem dr_Gt_reordered_2 : decode bc_Gt_reordered 2 = .ok (.iconst 0, 1) := by decide +kernel
theorem dr_Gt_reordered_3 : decode bc_Gt_reordered 3 = .ok (.istore 4, 2) := by decide +kernel
theorem dr_Gt_reordered_5 : decode bc_Gt_reordered 5 = .ok (.iload 4, 2) := by decide +kernel
theorem dr_Gt_reordered_7 : decode bc_Gt_reordered 7 = .ok (.iconst 1, 1) := by decide +kernel
theorem dr_Gt_reordered_8 : decode bc_Gt_reordered 8 = .ok (.iload_n 1, 1) := by decide +kernel
theorem dr_Gt_reordered_9 : decode bc_Gt_reordered 9 = .ok (.ishl, 1) := by decide +kernel
theorem dr_Gt_reordered_10 : decode bc_Gt_reordered 10 = .ok (.if_icmp .ge 26, 3) := by decide +kernel
theorem dr_Gt_reordered_13 : decode bc_Gt_reordered 13 = .ok (.iload_n 3, 1) := by decide +kernel
theorem dr_Gt_reordered_14 : decode bc_Gt_reordered 14 = .ok (.iload_n 0, 1) := by decide +kernel
theorem dr_Gt_reordered_15 : decode bc_Gt_reordered 15 = .ok (.iload 4, 2) := by decide +kernel
theorem dr_Gt_reordered_17 : decode bc_Gt_reordered 17 = .ok (.iload_n 1, 1) := by decide +kernel
theorem dr_Gt_reordered_18 : decode bc_Gt_reordered 18 = .ok (.iload_n 2, 1) := by decide +kernel
theorem dr_Gt_reordered_19 : decode bc_Gt_reordered 19 = .ok (.invokestatic 32, 3) := by decide +kernel
theorem dr_Gt_reordered_22 : decode bc_Gt_reordered 22 = .ok (.ishr, 1) := by decide +kernel
theorem dr_Gt_reordered_23 : decode bc_Gt_reordered 23 = .ok (.iconst 1, 1) := by decide +kernel
theorem dr_Gt_reordered_24 : decode bc_Gt_reordered 24 = .ok (.iand, 1) := by decide +kernel
theorem dr_Gt_reordered_25 : decode bc_Gt_reordered 25 = .ok (.iload 4, 2) := by decide +kernel
theorem dr_Gt_reordered_27 : decode bc_Gt_reordered 27 = .ok (.ishl, 1) := by decide +kernel
theorem dr_Gt_reordered_28 : decode bc_Gt_reordered 28 = .ok (.ior, 1) := by decide +kernel
theorem dr_Gt_reordered_29 : decode bc_Gt_reordered 29 = .ok (.istore_n 3, 1) := by decide +kernel
theorem dr_Gt_reordered_30 : decode bc_Gt_reordered 30 = .ok (.iinc 4 1, 3) := by decide +kernel
theorem dr_Gt_reordered_33 : decode bc_Gt_reordered 33 = .ok (.goto (-28), 3) := by decide +kernel
theorem dr_Gt_reordered_36 : decode bc_Gt_reordered 36 = .ok (.iload_n 3, 1) := by decide +kernel
theorem dr_Gt_reordered_37 : decode bc_Gt_reordered 37 = .ok (.ireturn, 1) := by decide +kernel
theorem dr_Gt_reorderedInputs_0 : decode bc_Gt_reorderedInputs 0 = .ok (.iconst 0, 1) := by decide +kernel
theorem dr_Gt_reorderedInputs_1 : decode bc_Gt_reorderedInputs 1 = .ok (.istore_n 3, 1) := by decide +kernel
theorem dr_Gt_reorderedInputs_2 : decode bc_Gt_reorderedInputs 2 = .ok (.iconst 0, 1) := by decide +kernel
theorem dr_Gt_reorderedInputs_3 : decode bc_Gt_reorderedInputs 3 = .ok (.istore 4, 2) := by decide +kernel
theorem dr_Gt_reorderedInputs_5 : decode bc_Gt_reorderedInputs 5 = .ok (.iload 4, 2) := by decide +kernel
theorem dr_Gt_reorderedInputs_7 : decode bc_Gt_reorderedInputs 7 = .ok (.iload_n 1, 1) := by decide +kernel
theorem dr_Gt_reorderedInputs_8 : decode bc_Gt_reorderedInputs 8 = .ok (.if_icmp .ge 27, 3) := by decide +kernel
theorem dr_Gt_reorderedInputs_11 : decode bc_Gt_reorderedInputs 11 = .ok (.iload_n 3, 1) := by decide +kernel
theorem dr_Gt_reorderedInputs_12 : decode bc_Gt_reorderedInputs 12 = .ok (.iload_n 0, 1) := by decide +kernel
theorem dr_Gt_reorderedInputs_13 : decode bc_Gt_reorderedInputs 13 = .ok (.iload 4, 2) := by decide +kernel
theorem dr_Gt_reorderedInputs_15 : decode bc_Gt_reorderedInputs 15 = .ok (.ishr, 1) := by decide +kernel
theorem dr_Gt_reorderedInputs_16 : decode bc_Gt_reorderedInputs 16 = .ok (.iconst 1, 1) := by decide +kernel
theorem dr_Gt_reorderedInputs_17 : decode bc_Gt_reorderedInputs 17 = .ok (.iand, 1) := by decide +kernel
theorem dr_Gt_reorderedInputs_18 : decode bc_Gt_reorderedInputs 18 = .ok (.iload_n 2, 1) := by decide +kernel
theorem dr_Gt_reorderedInputs_19 : decode bc_Gt_reorderedInputs 19 = .ok (.iconst 4, 1) := by decide +kernel
theorem dr_Gt_reorderedInputs_20 : decode bc_Gt_reorderedInputs 20 = .ok (.iload 4, 2) := by decide +kernel
theorem dr_Gt_reorderedInputs_22 : decode bc_Gt_reorderedInputs 22 = .ok (.imul, 1) := by decide +kernel
theorem dr_Gt_reorderedInputs_23 : decode bc_Gt_reorderedInputs 23 = .ok (.ishr, 1) := by decide +kernel
theorem dr_Gt_reorderedInputs_24 : decode bc_Gt_reorderedInputs 24 = .ok (.iconst 3, 1) := by decide +kernel
theorem dr_Gt_reorderedInputs_25 : decode bc_Gt_reorderedInputs 25 = .ok (.iand, 1) := by decide +kernel
theorem dr_Gt_reorderedInputs_26 : decode bc_Gt_reorderedInputs 26 = .ok (.ishl, 1) := by decide +kernel
theorem dr_Gt_reorderedInputs_27 : decode bc_Gt_reorderedInputs 27 = .ok (.ior, 1) := by decide +kernel
theorem dr_Gt_reorderedInputs_28 : decode bc_Gt_reorderedInputs 28 = .ok (.istore_n 3, 1) := by decide +kernel
theorem dr_Gt_reorderedInputs_29 : decode bc_Gt_reorderedInputs 29 = .ok (.iinc 4 1, 3) := by decide +kernel
theorem dr_Gt_reorderedInputs_32 : decode bc_Gt_reorderedInputs 32 = .ok (.goto (-27), 3) := by decide +kernel
theorem dr_Gt_reorderedInputs_35 : decode bc_Gt_reorderedInputs 35 = .ok (.iload_n 3, 1) := by decide +kernel
theorem dr_Gt_reorderedInputs_36 : decode bc_Gt_reorderedInputs 36 = .ok (.ireturn, 1) := by decide +kernel
theorem dr_Hi_init_0 : decode bc_Hi_init 0 = .ok (.aload_n 0, 1) := by decide +kernel
theorem dr_Hi_init_1 : decode bc_Hi_init 1 = .ok (.invokespecial 3, 3) := by decide +kernel
theorem dr_Hi_init_4 : decode bc_Hi_init 4 = .ok (.aload_n 0, 1) := by decide +kernel
theorem dr_Hi_init_5 : decode bc_Hi_init 5 = .ok (.bipush 11, 2) := by decide +kernel
theorem dr_Hi_init_7 : decode bc_Hi_init 7 = .ok (.bipush 80, 2) := by decide +kernel
theorem dr_Hi_init_9 : decode bc_Hi_init 9 = .ok (.multianewarray 11 2, 4) := by decide +kernel
theorem dr_Hi_init_13 : decode bc_Hi_init 13 = .ok (.putfield 13, 3) := by decide +kernel
theorem dr_Hi_init_16 : decode bc_Hi_init 16 = .ok (.aload_n 0, 1) := by decide +kernel
theorem dr_Hi_init_17 : decode bc_Hi_init 17 = .ok (.bipush 11, 2) := by decide +kernel
theorem dr_Hi_init_19 : decode bc_Hi_init 19 = .ok (.newarray .int, 2) := by decide +kernel
theorem dr_Hi_init_21 : decode bc_Hi_init 21 = .ok (.putfield 16, 3) := by decide +kernel
theorem dr_Hi_init_24 : decode bc_Hi_init 24 = .ok (.return_, 1) := by decide +kernel
theorem dr_Hi_begin_0 : decode bc_Hi_begin 0 = .ok (.aload_n 1, 1) := by decide +kernel
theorem dr_Hi_begin_1 : decode bc_Hi_begin 1 = .ok (.iconst 0, 1) := by decide +kernel
theorem dr_Hi_begin_2 : decode bc_Hi_begin 2 = .ok (.aload_n 0, 1) := by decide +kernel
theorem dr_Hi_begin_3 : decode bc_Hi_begin 3 = .ok (.getfield 13, 3) := by decide +kernel
theorem dr_Hi_begin_6 : decode bc_Hi_begin 6 = .ok (.aload_n 0, 1) := by decide +kernel
theorem dr_Hi_begin_7 : decode bc_Hi_begin 7 = .ok (.getfield 20, 3) := by decide +kernel
theorem dr_Hi_begin_10 : decode bc_Hi_begin 10 = .ok (.aaload, 1) := by decide +kernel
theorem dr_Hi_begin_11 : decode bc_Hi_begin 11 = .ok (.iconst 0, 1) := by decide +kernel
theorem dr_Hi_begin_12 : decode bc_Hi_begin 12 = .ok (.iload_n 2, 1) := by decide +kernel
theorem dr_Hi_begin_13 : decode bc_Hi_begin 13 = .ok (.invokestatic 24, 3) := by decide +kernel
theorem dr_Hi_begin_16 : decode bc_Hi_begin 16 = .ok (.aload_n 0, 1) := by decide +kernel
theorem dr_Hi_begin_17 : decode bc_Hi_begin 17 = .ok (.getfield 16, 3) := by decide +kernel
theorem dr_Hi_begin_20 : decode bc_Hi_begin 20 = .ok (.aload_n 0, 1) := by decide +kernel
theorem dr_Hi_begin_21 : decode bc_Hi_begin 21 = .ok (.getfield 20, 3) := by decide +kernel
theorem dr_Hi_begin_24 : decode bc_Hi_begin 24 = .ok (.iload_n 2, 1) := by decide +kernel
theorem dr_Hi_begin_25 : decode bc_Hi_begin 25 = .ok (.iastore, 1) := by decide +kernel
theorem dr_Hi_begin_26 : decode bc_Hi_begin 26 = .ok (.aload_n 0, 1) := by decide +kernel
theorem dr_Hi_begin_27 : decode bc_Hi_begin 27 = .ok (.getfield 13, 3) := by decide +kernel
theorem dr_Hi_begin_30 : decode bc_Hi_begin 30 = .ok (.aload_n 0, 1) := by decide +kernel
theorem dr_Hi_begin_31 : decode bc_Hi_begin 31 = .ok (.getfield 20, 3) := by decide +kernel
theorem dr_Hi_begin_34 : decode bc_Hi_begin 34 = .ok (.aaload, 1) := by decide +kernel
theorem dr_Hi_begin_35 : decode bc_Hi_begin 35 = .ok (.areturn, 1) := by decide +kernel
theorem dr_Hi_keep_0 : decode bc_Hi_keep 0 = .ok (.aload_n 0, 1) := by decide +kernel
theorem dr_Hi_keep_1 : decode bc_Hi_keep 1 = .ok (.aload_n 0, 1) := by decide +kernel
theorem dr_Hi_keep_2 : decode bc_Hi_keep 2 = .ok (.getfield 20, 3) := by decide +kernel
theorem dr_Hi_keep_5 : decode bc_Hi_keep 5 = .ok (.iconst 1, 1) := by decide +kernel
theorem dr_Hi_keep_6 : decode bc_Hi_keep 6 = .ok (.iadd, 1) := by decide +kernel
theorem dr_Hi_keep_7 : decode bc_Hi_keep 7 = .ok (.bipush 11, 2) := by decide +kernel
theorem dr_Hi_keep_9 : decode bc_Hi_keep 9 = .ok (.irem, 1) := by decide +kernel
theorem dr_Hi_keep_10 : decode bc_Hi_keep 10 = .ok (.putfield 20, 3) := by decide +kernel
theorem dr_Hi_keep_13 : decode bc_Hi_keep 13 = .ok (.aload_n 0, 1) := by decide +kernel
theorem dr_Hi_keep_14 : decode bc_Hi_keep 14 = .ok (.getfield 30, 3) := by decide +kernel
theorem dr_Hi_keep_17 : decode bc_Hi_keep 17 = .ok (.bipush 10, 2) := by decide +kernel
theorem dr_Hi_keep_19 : decode bc_Hi_keep 19 = .ok (.if_icmp .ge 13, 3) := by decide +kernel
theorem dr_Hi_keep_22 : decode bc_Hi_keep 22 = .ok (.aload_n 0, 1) := by decide +kernel
theorem dr_Hi_keep_23 : decode bc_Hi_keep 23 = .ok (.dup, 1) := by decide +kernel
theorem dr_Hi_keep_24 : decode bc_Hi_keep 24 = .ok (.getfield 30, 3) := by decide +kernel
theorem dr_Hi_keep_27 : decode bc_Hi_keep 27 = .ok (.iconst 1, 1) := by decide +kernel
theorem dr_Hi_keep_28 : decode bc_Hi_keep 28 = .ok (.iadd, 1) := by decide +kernel
theorem dr_Hi_keep_29 : decode bc_Hi_keep 29 = .ok (.putfield 30, 3) := by decide +kernel
theorem dr_Hi_keep_32 : decode bc_Hi_keep 32 = .ok (.return_, 1) := by decide +kernel
theorem dr_Hi_restore_0 : decode bc_Hi_restore 0 = .ok (.aload_n 0, 1) := by decide +kernel
theorem dr_Hi_restore_1 : decode bc_Hi_restore 1 = .ok (.getfield 30, 3) := by decide +kernel
theorem dr_Hi_restore_4 : decode bc_Hi_restore 4 = .ok (.ifCond .ne 5, 3) := by decide +kernel
theorem dr_Hi_restore_7 : decode bc_Hi_restore 7 = .ok (.iconst 0, 1) := by decide +kernel
theorem dr_Hi_restore_8 : decode bc_Hi_restore 8 = .ok (.ireturn, 1) := by decide +kernel
theorem dr_Hi_restore_9 : decode bc_Hi_restore 9 = .ok (.aload_n 0, 1) := by decide +kernel
theorem dr_Hi_restore_10 : decode bc_Hi_restore 10 = .ok (.dup, 1) := by decide +kernel
theorem dr_Hi_restore_11 : decode bc_Hi_restore 11 = .ok (.getfield 30, 3) := by decide +kernel
theorem dr_Hi_restore_14 : decode bc_Hi_restore 14 = .ok (.iconst 1, 1) := by decide +kernel
theorem dr_Hi_restore_15 : decode bc_Hi_restore 15 = .ok (.isub, 1) := by decide +kernel
theorem dr_Hi_restore_16 : decode bc_Hi_restore 16 = .ok (.putfield 30, 3) := by decide +kernel
theorem dr_Hi_restore_19 : decode bc_Hi_restore 19 = .ok (.aload_n 0, 1) := by decide +kernel
theorem dr_Hi_restore_20 : decode bc_Hi_restore 20 = .ok (.aload_n 0, 1) := by decide +kernel
theorem dr_Hi_restore_21 : decode bc_Hi_restore 21 = .ok (.getfield 20, 3) := by decide +kernel
theorem dr_Hi_restore_24 : decode bc_Hi_restore 24 = .ok (.bipush 11, 2) := by decide +kernel
theorem dr_Hi_restore_26 : decode bc_Hi_restore 26 = .ok (.iadd, 1) := by decide +kernel
theorem dr_Hi_restore_27 : decode bc_Hi_restore 27 = .ok (.iconst 1, 1) := by decide +kernel
theorem dr_Hi_restore_28 : decode bc_Hi_restore 28 = .ok (.isub, 1) := by decide +kernel
theorem dr_Hi_restore_29 : decode bc_Hi_restore 29 = .ok (.bipush 11, 2) := by decide +kernel
theorem dr_Hi_restore_31 : decode bc_Hi_restore 31 = .ok (.irem, 1) := by decide +kernel
theorem dr_Hi_restore_32 : decode bc_Hi_restore 32 = .ok (.putfield 20, 3) := by decide +kernel
theorem dr_Hi_restore_35 : decode bc_Hi_restore 35 = .ok (.aload_n 0, 1) := by decide +kernel
theorem dr_Hi_restore_36 : decode bc_Hi_restore 36 = .ok (.getfield 13, 3) := by decide +kernel
theorem dr_Hi_restore_39 : decode bc_Hi_restore 39 = .ok (.aload_n 0, 1) := by decide +kernel
theorem dr_Hi_restore_40 : decode bc_Hi_restore 40 = .ok (.getfield 20, 3) := by decide +kernel
theorem dr_Hi_restore_43 : decode bc_Hi_restore 43 = .ok (.aaload, 1) := by decide +kernel
theorem dr_Hi_restore_44 : decode bc_Hi_restore 44 = .ok (.iconst 0, 1) := by decide +kernel
theorem dr_Hi_restore_45 : decode bc_Hi_restore 45 = .ok (.aload_n 1, 1) := by decide +kernel
theorem dr_Hi_restore_46 : decode bc_Hi_restore 46 = .ok (.iconst 0, 1) := by decide +kernel
theorem dr_Hi_restore_47 : decode bc_Hi_restore 47 = .ok (.aload_n 0, 1) := by decide +kernel
theorem dr_Hi_restore_48 : decode bc_Hi_restore 48 = .ok (.getfield 16, 3) := by decide +kernel
theorem dr_Hi_restore_51 : decode bc_Hi_restore 51 = .ok (.aload_n 0, 1) := by decide +kernel
theorem dr_Hi_restore_52 : decode bc_Hi_restore 52 = .ok (.getfield 20, 3) := by decide +kernel
theorem dr_Hi_restore_55 : decode bc_Hi_restore 55 = .ok (.iaload, 1) := by decide +kernel
theorem dr_Hi_restore_56 : decode bc_Hi_restore 56 = .ok (.invokestatic 24, 3) := by decide +kernel
theorem dr_Hi_restore_59 : decode bc_Hi_restore 59 = .ok (.iconst 1, 1) := by decide +kernel
theorem dr_Hi_restore_60 : decode bc_Hi_restore 60 = .ok (.ireturn, 1) := by decide +kernel
theorem dr_Ma_init_0 : decode bc_Ma_init 0 = .ok (.aload_n 0, 1) := by decide +kernel
theorem dr_Ma_init_1 : decode bc_Ma_init 1 = .ok (.invokespecial 3, 3) := by decide +kernel
theorem dr_Ma_init_4 : decode bc_Ma_init 4 = .ok (.aload_n 0, 1) := by decide +kernel
theorem dr_Ma_init_5 : decode bc_Ma_init 5 = .ok (.bipush 13, 2) := by decide +kernel
theorem dr_Ma_init_7 : decode bc_Ma_init 7 = .ok (.newarray .int, 2) := by decide +kernel
theorem dr_Ma_init_9 : decode bc_Ma_init 9 = .ok (.putfield 11, 3) := by decide +kernel
theorem dr_Ma_init_12 : decode bc_Ma_init 12 = .ok (.aload_n 0, 1) := by decide +kernel
theorem dr_Ma_init_13 : decode bc_Ma_init 13 = .ok (.bipush 13, 2) := by decide +kernel
theorem dr_Ma_init_15 : decode bc_Ma_init 15 = .ok (.bipush 13, 2) := by decide +kernel
theorem dr_Ma_init_17 : decode bc_Ma_init 17 = .ok (.multianewarray 15 2, 4) := by decide +kernel
theorem dr_Ma_init_21 : decode bc_Ma_init 21 = .ok (.putfield 17, 3) := by decide +kernel
theorem dr_Ma_init_24 : decode bc_Ma_init 24 = .ok (.aload_n 0, 1) := by decide +kernel
theorem dr_Ma_init_25 : decode bc_Ma_init 25 = .ok (.bipush 13, 2) := by decide +kernel
theorem dr_Ma_init_27 : decode bc_Ma_init 27 = .ok (.newarray .long, 2) := by decide +kernel
theorem dr_Ma_init_29 : decode bc_Ma_init 29 = .ok (.putfield 20, 3) := by decide +kernel
theorem dr_Ma_init_32 : decode bc_Ma_init 32 = .ok (.aload_n 0, 1) := by decide +kernel
theorem dr_Ma_init_33 : decode bc_Ma_init 33 = .ok (.bipush 13, 2) := by decide +kernel
theorem dr_Ma_init_35 : decode bc_Ma_init 35 = .ok (.newarray .long, 2) := by decide +kernel
theorem dr_Ma_init_37 : decode bc_Ma_init 37 = .ok (.putfield 24, 3) := by decide +kernel
theorem dr_Ma_init_40 : decode bc_Ma_init 40 = .ok (.aload_n 0, 1) := by decide +kernel
theorem dr_Ma_init_41 : decode bc_Ma_init 41 = .ok (.bipush 13, 2) := by decide +kernel
theorem dr_Ma_init_43 : decode bc_Ma_init 43 = .ok (.newarray .int, 2) := by decide +kernel
theorem dr_Ma_init_45 : decode bc_Ma_init 45 = .ok (.putfield 27, 3) := by decide +kernel
theorem dr_Ma_init_48 : decode bc_Ma_init 48 = .ok (.aload_n 0, 1) := by decide +kernel
theorem dr_Ma_init_49 : decode bc_Ma_init 49 = .ok (.bipush 13, 2) := by decide +kernel
theorem dr_Ma_init_51 : decode bc_Ma_init 51 = .ok (.newarray .int, 2) := by decide +kernel
theorem dr_Ma_init_53 : decode bc_Ma_init 53 = .ok (.putfield 30, 3) := by decide +kernel
theorem dr_Ma_init_56 : decode bc_Ma_init 56 = .ok (.aload_n 0, 1) := by decide +kernel
theorem dr_Ma_init_57 : decode bc_Ma_init 57 = .ok (.bipush 13, 2) := by decide +kernel
theorem dr_Ma_init_59 : decode bc_Ma_init 59 = .ok (.newarray .long, 2) := by decide +kernel
theorem dr_Ma_init_61 : decode bc_Ma_init 61 = .ok (.putfield 33, 3) := by decide +kernel
theorem dr_Ma_init_64 : decode bc_Ma_init 64 = .ok (.aload_n 0, 1) := by decide +kernel
theorem dr_Ma_init_65 : decode bc_Ma_init 65 = .ok (.bipush 13, 2) := by decide +kernel
theorem dr_Ma_init_67 : decode bc_Ma_init 67 = .ok (.newarray .boolean, 2) := by decide +kernel
theorem dr_Ma_init_69 : decode bc_Ma_init 69 = .ok (.putfield 36, 3) := by decide +kernel
theorem dr_Ma_init_72 : decode bc_Ma_init 72 = .ok (.aload_n 0, 1) := by decide +kernel
theorem dr_Ma_init_73 : decode bc_Ma_init 73 = .ok (.bipush 13, 2) := by decide +kernel
theorem dr_Ma_init_75 : decode bc_Ma_init 75 = .ok (.newarray .int, 2) := by decide +kernel
theorem dr_Ma_init_77 : decode bc_Ma_init 77 = .ok (.putfield 40, 3) := by decide +kernel
theorem dr_Ma_init_80 : decode bc_Ma_init 80 = .ok (.return_, 1) := by decide +kernel
theorem dr_Ma_add_0 : decode bc_Ma_add 0 = .ok (.aload_n 0, 1) := by decide +kernel
theorem dr_Ma_add_1 : decode bc_Ma_add 1 = .ok (.getfield 43, 3) := by decide +kernel
theorem dr_Ma_add_4 : decode bc_Ma_add 4 = .ok (.bipush 12, 2) := by decide +kernel
theorem dr_Ma_add_6 : decode bc_Ma_add 6 = .ok (.if_icmp .ge 23, 3) := by decide +kernel
theorem dr_Ma_add_9 : decode bc_Ma_add 9 = .ok (.aload_n 0, 1) := by decide +kernel
theorem dr_Ma_add_10 : decode bc_Ma_add 10 = .ok (.dup, 1) := by decide +kernel
theorem dr_Ma_add_11 : decode bc_Ma_add 11 = .ok (.getfield 43, 3) := by decide +kernel
theorem dr_Ma_add_14 : decode bc_Ma_add 14 = .ok (.iconst 1, 1) := by decide +kernel
theorem dr_Ma_add_15 : decode bc_Ma_add 15 = .ok (.iadd, 1) := by decide +kernel
theorem dr_Ma_add_16 : decode bc_Ma_add 16 = .ok (.putfield 43, 3) := by decide +kernel
theorem dr_Ma_add_19 : decode bc_Ma_add 19 = .ok (.aload_n 0, 1) := by decide +kernel
theorem dr_Ma_add_20 : decode bc_Ma_add 20 = .ok (.getfield 11, 3) := by decide +kernel
theorem dr_Ma_add_23 : decode bc_Ma_add 23 = .ok (.aload_n 0, 1) := by decide +kernel
theorem dr_Ma_add_24 : decode bc_Ma_add 24 = .ok (.getfield 43, 3) := by decide +kernel
theorem dr_Ma_add_27 : decode bc_Ma_add 27 = .ok (.iload_n 1, 1) := by decide +kernel
theorem dr_Ma_add_28 : decode bc_Ma_add 28 = .ok (.iastore, 1) := by decide +kernel
theorem dr_Ma_add_29 : decode bc_Ma_add 29 = .ok (.return_, 1) := by decide +kernel
theorem dr_Ma_forbidOwn_0 : decode bc_Ma_forbidOwn 0 = .ok (.aload_n 0, 1) := by decide +kernel
theorem dr_Ma_forbidOwn_1 : decode bc_Ma_forbidOwn 1 = .ok (.iload_n 1, 1) := by decide +kernel
theorem dr_Ma_forbidOwn_2 : decode bc_Ma_forbidOwn 2 = .ok (.invokevirtual 47, 3) := by decide +kernel
theorem dr_Ma_forbidOwn_5 : decode bc_Ma_forbidOwn 5 = .ok (.istore_n 2, 1) := by decide +kernel
theorem dr_Ma_forbidOwn_6 : decode bc_Ma_forbidOwn 6 = .ok (.aload_n 0, 1) := by decide +kernel
theorem dr_Ma_forbidOwn_7 : decode bc_Ma_forbidOwn 7 = .ok (.getfield 17, 3) := by decide +kernel
theorem dr_Ma_forbidOwn_10 : decode bc_Ma_forbidOwn 10 = .ok (.iload_n 2, 1) := by decide +kernel
theorem dr_Ma_forbidOwn_11 : decode bc_Ma_forbidOwn 11 = .ok (.aaload, 1) := by decide +kernel
theorem dr_Ma_forbidOwn_12 : decode bc_Ma_forbidOwn 12 = .ok (.iload_n 2, 1) := by decide +kernel
theorem dr_Ma_forbidOwn_13 : decode bc_Ma_forbidOwn 13 = .ok (.ldc2_w 51, 3) := by decide +kernel
theorem dr_Ma_forbidOwn_16 : decode bc_Ma_forbidOwn 16 = .ok (.lastore, 1) := by decide +kernel
theorem dr_Ma_forbidOwn_17 : decode bc_Ma_forbidOwn 17 = .ok (.return_, 1) := by decide +kernel
theorem dr_Ma_forbidOthers_0 : decode bc_Ma_forbidOthers 0 = .ok (.aload_n 0, 1) := by decide +kernel
theorem dr_Ma_forbidOthers_1 : decode bc_Ma_forbidOthers 1 = .ok (.iload_n 1, 1) := by decide +kernel
theorem dr_Ma_forbidOthers_2 : decode bc_Ma_forbidOthers 2 = .ok (.invokevirtual 47, 3) := by decide +kernel
theorem dr_Ma_forbidOthers_5 : decode bc_Ma_forbidOthers 5 = .ok (.istore_n 2, 1) := by decide +kernel
theorem dr_Ma_forbidOthers_6 : decode bc_Ma_forbidOthers 6 = .ok (.iconst 1, 1) := by decide +kernel
theorem dr_Ma_forbidOthers_7 : decode bc_Ma_forbidOthers 7 = .ok (.istore_n 3, 1) := by decide +kernel
theorem dr_Ma_forbidOthers_8 : decode bc_Ma_forbidOthers 8 = .ok (.iload_n 3, 1) := by decide +kernel
theorem dr_Ma_forbidOthers_9 : decode bc_Ma_forbidOthers 9 = .ok (.aload_n 0, 1) := by decide +kernel
theorem dr_Ma_forbidOthers_10 : decode bc_Ma_forbidOthers 10 = .ok (.getfield 43, 3) := by decide +kernel
theorem dr_Ma_forbidOthers_13 : decode bc_Ma_forbidOthers 13 = .ok (.if_icmp .gt 25, 3) := by decide +kernel
theorem dr_Ma_forbidOthers_16 : decode bc_Ma_forbidOthers 16 = .ok (.iload_n 3, 1) := by decide +kernel
theorem dr_Ma_forbidOthers_17 : decode bc_Ma_forbidOthers 17 = .ok (.iload_n 2, 1) := by decide +kernel
theorem dr_Ma_forbidOthers_18 : decode bc_Ma_forbidOthers 18 = .ok (.if_icmp .eq 14, 3) := by decide +kernel
theorem dr_Ma_forbidOthers_21 : decode bc_Ma_forbidOthers 21 = .ok (.aload_n 0, 1) := by decide +kernel
theorem dr_Ma_forbidOthers_22 : decode bc_Ma_forbidOthers 22 = .ok (.getfield 17, 3) := by decide +kernel
theorem dr_Ma_forbidOthers_25 : decode bc_Ma_forbidOthers 25 = .ok (.iload_n 2, 1) := by decide +kernel
theorem dr_Ma_forbidOthers_26 : decode bc_Ma_forbidOthers 26 = .ok (.aaload, 1) := by decide +kernel
theorem dr_Ma_forbidOthers_27 : decode bc_Ma_forbidOthers 27 = .ok (.iload_n 3, 1) := by decide +kernel
theorem dr_Ma_forbidOthers_28 : decode bc_Ma_forbidOthers 28 = .ok (.ldc2_w 51, 3) := by decide +kernel
theorem dr_Ma_forbidOthers_31 : decode bc_Ma_forbidOthers 31 = .ok (.lastore, 1) := by decide +kernel
theorem dr_Ma_forbidOthers_32 : decode bc_Ma_forbidOthers 32 = .ok (.iinc 3 1, 3) := by decide +kernel
theorem dr_Ma_forbidOthers_35 : decode bc_Ma_forbidOthers 35 = .ok (.goto (-27), 3) := by decide +kernel
theorem dr_Ma_forbidOthers_38 : decode bc_Ma_forbidOthers 38 = .ok (.return_, 1) := by decide +kernel
theorem dr_Ma_rowOfUnit_0 : decode bc_Ma_rowOfUnit 0 = .ok (.iconst 1, 1) := by decide +kernel
theorem dr_Ma_rowOfUnit_1 : decode bc_Ma_rowOfUnit 1 = .ok (.istore_n 2, 1) := by decide +kernel
theorem dr_Ma_rowOfUnit_2 : decode bc_Ma_rowOfUnit 2 = .ok (.iload_n 2, 1) := by decide +kernel
theorem dr_Ma_rowOfUnit_3 : decode bc_Ma_rowOfUnit 3 = .ok (.aload_n 0, 1) := by decide +kernel
theorem dr_Ma_rowOfUnit_4 : decode bc_Ma_rowOfUnit 4 = .ok (.getfield 43, 3) := by decide +kernel
theorem dr_Ma_rowOfUnit_7 : decode bc_Ma_rowOfUnit 7 = .ok (.if_icmp .gt 21, 3) := by decide +kernel
theorem dr_Ma_rowOfUnit_10 : decode bc_Ma_rowOfUnit 10 = .ok (.aload_n 0, 1) := by decide +kernel
theorem dr_Ma_rowOfUnit_11 : decode bc_Ma_rowOfUnit 11 = .ok (.getfield 11, 3) := by decide +kernel
theorem dr_Ma_rowOfUnit_14 : decode bc_Ma_rowOfUnit 14 = .ok (.iload_n 2, 1) := by decide +kernel
theorem dr_Ma_rowOfUnit_15 : decode bc_Ma_rowOfUnit 15 = .ok (.iaload, 1) := by decide +kernel
theorem dr_Ma_rowOfUnit_16 : decode bc_Ma_rowOfUnit 16 = .ok (.iload_n 1, 1) := by decide +kernel
theorem dr_Ma_rowOfUnit_17 : decode bc_Ma_rowOfUnit 17 = .ok (.if_icmp .ne 5, 3) := by decide +kernel
theorem dr_Ma_rowOfUnit_20 : decode bc_Ma_rowOfUnit 20 = .ok (.iload_n 2, 1) := by decide +kernel
theorem dr_Ma_rowOfUnit_21 : decode bc_Ma_rowOfUnit 21 = .ok (.ireturn, 1) := by decide +kernel
theorem dr_Ma_rowOfUnit_22 : decode bc_Ma_rowOfUnit 22 = .ok (.iinc 2 1, 3) := by decide +kernel
theorem dr_Ma_rowOfUnit_25 : decode bc_Ma_rowOfUnit 25 = .ok (.goto (-23), 3) := by decide +kernel
theorem dr_Ma_rowOfUnit_28 : decode bc_Ma_rowOfUnit 28 = .ok (.iconst 0, 1) := by decide +kernel
theorem dr_Ma_rowOfUnit_29 : decode bc_Ma_rowOfUnit 29 = .ok (.ireturn, 1) := by decide +kernel
theorem dr_Ma_sumIfKept_0 : decode bc_Ma_sumIfKept 0 = .ok (.lconst 0, 1) := by decide +kernel
theorem dr_Ma_sumIfKept_1 : decode bc_Ma_sumIfKept 1 = .ok (.lstore_n 1, 1) := by decide +kernel
theorem dr_Ma_sumIfKept_2 : decode bc_Ma_sumIfKept 2 = .ok (.iconst 1, 1) := by decide +kernel
theorem dr_Ma_sumIfKept_3 : decode bc_Ma_sumIfKept 3 = .ok (.istore_n 3, 1) := by decide +kernel
theorem dr_Ma_sumIfKept_4 : decode bc_Ma_sumIfKept 4 = .ok (.iload_n 3, 1) := by decide +kernel
theorem dr_Ma_sumIfKept_5 : decode bc_Ma_sumIfKept 5 = .ok (.aload_n 0, 1) := by decide +kernel
theorem dr_Ma_sumIfKept_6 : decode bc_Ma_sumIfKept 6 = .ok (.getfield 43, 3) := by decide +kernel
theorem dr_Ma_sumIfKept_9 : decode bc_Ma_sumIfKept 9 = .ok (.if_icmp .gt 20, 3) := by decide +kernel
theorem dr_Ma_sumIfKept_12 : decode bc_Ma_sumIfKept 12 = .ok (.lload_n 1, 1) := by decide +kernel
theorem dr_Ma_sumIfKept_13 : decode bc_Ma_sumIfKept 13 = .ok (.aload_n 0, 1) := by decide +kernel
theorem dr_Ma_sumIfKept_14 : decode bc_Ma_sumIfKept 14 = .ok (.getfield 17, 3) := by decide +kernel
theorem dr_Ma_sumIfKept_17 : decode bc_Ma_sumIfKept 17 = .ok (.iload_n 3, 1) := by decide +kernel
theorem dr_Ma_sumIfKept_18 : decode bc_Ma_sumIfKept 18 = .ok (.aaload, 1) := by decide +kernel
theorem dr_Ma_sumIfKept_19 : decode bc_Ma_sumIfKept 19 = .ok (.iload_n 3, 1) := by decide +kernel
theorem dr_Ma_sumIfKept_20 : decode bc_Ma_sumIfKept 20 = .ok (.laload, 1) := by decide +kernel
theorem dr_Ma_sumIfKept_21 : decode bc_Ma_sumIfKept 21 = .ok (.ladd, 1) := by decide +kernel
theorem dr_Ma_sumIfKept_22 : decode bc_Ma_sumIfKept 22 = .ok (.lstore_n 1, 1) := by decide +kernel
theorem dr_Ma_sumIfKept_23 : decode bc_Ma_sumIfKept 23 = .ok (.iinc 3 1, 3) := by decide +kernel
theorem dr_Ma_sumIfKept_26 : decode bc_Ma_sumIfKept 26 = .ok (.goto (-22), 3) := by decide +kernel
theorem dr_Ma_sumIfKept_29 : decode bc_Ma_sumIfKept 29 = .ok (.lload_n 1, 1) := by decide +kernel
theorem dr_Ma_sumIfKept_30 : decode bc_Ma_sumIfKept 30 = .ok (.lreturn, 1) := by decide +kernel
theorem dr_Ma_solve_0 : decode bc_Ma_solve 0 = .ok (.aload_n 0, 1) := by decide +kernel
theorem dr_Ma_solve_1 : decode bc_Ma_solve 1 = .ok (.getfield 20, 3) := by decide +kernel
theorem dr_Ma_solve_4 : decode bc_Ma_solve 4 = .ok (.lconst 0, 1) := by decide +kernel
theorem dr_Ma_solve_5 : decode bc_Ma_solve 5 = .ok (.invokestatic 53, 3) := by decide +kernel
theorem dr_Ma_solve_8 : decode bc_Ma_solve 8 = .ok (.aload_n 0, 1) := by decide +kernel
theorem dr_Ma_solve_9 : decode bc_Ma_solve 9 = .ok (.getfield 24, 3) := by decide +kernel
theorem dr_Ma_solve_12 : decode bc_Ma_solve 12 = .ok (.lconst 0, 1) := by decide +kernel
theorem dr_Ma_solve_13 : decode bc_Ma_solve 13 = .ok (.invokestatic 53, 3) := by decide +kernel
theorem dr_Ma_solve_16 : decode bc_Ma_solve 16 = .ok (.aload_n 0, 1) := by decide +kernel
theorem dr_Ma_solve_17 : decode bc_Ma_solve 17 = .ok (.getfield 27, 3) := by decide +kernel
theorem dr_Ma_solve_20 : decode bc_Ma_solve 20 = .ok (.iconst 0, 1) := by decide +kernel
theorem dr_Ma_solve_21 : decode bc_Ma_solve 21 = .ok (.invokestatic 59, 3) := by decide +kernel
theorem dr_Ma_solve_24 : decode bc_Ma_solve 24 = .ok (.iconst 1, 1) := by decide +kernel
theorem dr_Ma_solve_25 : decode bc_Ma_solve 25 = .ok (.istore_n 1, 1) := by decide +kernel
theorem dr_Ma_solve_26 : decode bc_Ma_solve 26 = .ok (.iload_n 1, 1) := by decide +kernel
theorem dr_Ma_solve_27 : decode bc_Ma_solve 27 = .ok (.aload_n 0, 1) := by decide +kernel
theorem dr_Ma_solve_28 : decode bc_Ma_solve 28 = .ok (.getfield 43, 3) := by decide +kernel
theorem dr_Ma_solve_31 : decode bc_Ma_solve 31 = .ok (.if_icmp .gt 14, 3) := by decide +kernel
theorem dr_Ma_solve_34 : decode bc_Ma_solve 34 = .ok (.aload_n 0, 1) := by decide +kernel
theorem dr_Ma_solve_35 : decode bc_Ma_solve 35 = .ok (.iload_n 1, 1) := by decide +kernel
theorem dr_Ma_solve_36 : decode bc_Ma_solve 36 = .ok (.invokevirtual 62, 3) := by decide +kernel
theorem dr_Ma_solve_39 : decode bc_Ma_solve 39 = .ok (.iinc 1 1, 3) := by decide +kernel
theorem dr_Ma_solve_42 : decode bc_Ma_solve 42 = .ok (.goto (-16), 3) := by decide +kernel
theorem dr_Ma_solve_45 : decode bc_Ma_solve 45 = .ok (.lconst 0, 1) := by decide +kernel
theorem dr_Ma_solve_46 : decode bc_Ma_solve 46 = .ok (.lstore_n 1, 1) := by decide +kernel
theorem dr_Ma_solve_47 : decode bc_Ma_solve 47 = .ok (.iconst 1, 1) := by decide +kernel
theorem dr_Ma_solve_48 : decode bc_Ma_solve 48 = .ok (.istore_n 3, 1) := by decide +kernel
theorem dr_Ma_solve_49 : decode bc_Ma_solve 49 = .ok (.iload_n 3, 1) := by decide +kernel
theorem dr_Ma_solve_50 : decode bc_Ma_solve 50 = .ok (.aload_n 0, 1) := by decide +kernel
theorem dr_Ma_solve_51 : decode bc_Ma_solve 51 = .ok (.getfield 43, 3) := by decide +kernel
theorem dr_Ma_solve_54 : decode bc_Ma_solve 54 = .ok (.if_icmp .gt 25, 3) := by decide +kernel
theorem dr_Ma_solve_57 : decode bc_Ma_solve 57 = .ok (.lload_n 1, 1) := by decide +kernel
theorem dr_Ma_solve_58 : decode bc_Ma_solve 58 = .ok (.aload_n 0, 1) := by decide +kernel
theorem dr_Ma_solve_59 : decode bc_Ma_solve 59 = .ok (.getfield 17, 3) := by decide +kernel
theorem dr_Ma_solve_62 : decode bc_Ma_solve 62 = .ok (.aload_n 0, 1) := by decide +kernel
theorem dr_Ma_solve_63 : decode bc_Ma_solve 63 = .ok (.getfield 27, 3) := by decide +kernel
theorem dr_Ma_solve_66 : decode bc_Ma_solve 66 = .ok (.iload_n 3, 1) := by decide +kernel
theorem dr_Ma_solve_67 : decode bc_Ma_solve 67 = .ok (.iaload, 1) := by decide +kernel
theorem dr_Ma_solve_68 : decode bc_Ma_solve 68 = .ok (.aaload, 1) := by decide +kernel
theorem dr_Ma_solve_69 : decode bc_Ma_solve 69 = .ok (.iload_n 3, 1) := by decide +kernel
theorem dr_Ma_solve_70 : decode bc_Ma_solve 70 = .ok (.laload, 1) := by decide +kernel
theorem dr_Ma_solve_71 : decode bc_Ma_solve 71 = .ok (.ladd, 1) := by decide +kernel
theorem dr_Ma_solve_72 : decode bc_Ma_solve 72 = .ok (.lstore_n 1, 1) := by decide +kernel
theorem dr_Ma_solve_73 : decode bc_Ma_solve 73 = .ok (.iinc 3 1, 3) := by decide +kernel
theorem dr_Ma_solve_76 : decode bc_Ma_solve 76 = .ok (.goto (-27), 3) := by decide +kernel
theorem dr_Ma_solve_79 : decode bc_Ma_solve 79 = .ok (.lload_n 1, 1) := by decide +kernel
theorem dr_Ma_solve_80 : decode bc_Ma_solve 80 = .ok (.lreturn, 1) := by decide +kernel
theorem dr_Ma_insert_0 : decode bc_Ma_insert 0 = .ok (.aload_n 0, 1) := by decide +kernel
theorem dr_Ma_insert_1 : decode bc_Ma_insert 1 = .ok (.getfield 27, 3) := by decide +kernel
theorem dr_Ma_insert_4 : decode bc_Ma_insert 4 = .ok (.iconst 0, 1) := by decide +kernel
theorem dr_Ma_insert_5 : decode bc_Ma_insert 5 = .ok (.iload_n 1, 1) := by decide +kernel
theorem dr_Ma_insert_6 : decode bc_Ma_insert 6 = .ok (.iastore, 1) := by decide +kernel
theorem dr_Ma_insert_7 : decode bc_Ma_insert 7 = .ok (.aload_n 0, 1) := by decide +kernel
theorem dr_Ma_insert_8 : decode bc_Ma_insert 8 = .ok (.invokevirtual 66, 3) := by decide +kernel
theorem dr_Ma_insert_11 : decode bc_Ma_insert 11 = .ok (.aload_n 0, 1) := by decide +kernel
theorem dr_Ma_insert_12 : decode bc_Ma_insert 12 = .ok (.getfield 33, 3) := by decide +kernel
theorem dr_Ma_insert_15 : decode bc_Ma_insert 15 = .ok (.ldc2_w 69, 3) := by decide +kernel
theorem dr_Ma_insert_18 : decode bc_Ma_insert 18 = .ok (.invokestatic 53, 3) := by decide +kernel
theorem dr_Ma_insert_21 : decode bc_Ma_insert 21 = .ok (.iconst 0, 1) := by decide +kernel
theorem dr_Ma_insert_22 : decode bc_Ma_insert 22 = .ok (.istore_n 2, 1) := by decide +kernel
theorem dr_Ma_insert_23 : decode bc_Ma_insert 23 = .ok (.iconst 0, 1) := by decide +kernel
theorem dr_Ma_insert_24 : decode bc_Ma_insert 24 = .ok (.istore_n 3, 1) := by decide +kernel
theorem dr_Ma_insert_25 : decode bc_Ma_insert 25 = .ok (.iload_n 3, 1) := by decide +kernel
theorem dr_Ma_insert_26 : decode bc_Ma_insert 26 = .ok (.aload_n 0, 1) := by decide +kernel
theorem dr_Ma_insert_27 : decode bc_Ma_insert 27 = .ok (.getfield 43, 3) := by decide +kernel
theorem dr_Ma_insert_30 : decode bc_Ma_insert 30 = .ok (.if_icmp .ge 24, 3) := by decide +kernel
theorem dr_Ma_insert_33 : decode bc_Ma_insert 33 = .ok (.aload_n 0, 1) := by decide +kernel
theorem dr_Ma_insert_34 : decode bc_Ma_insert 34 = .ok (.getfield 27, 3) := by decide +kernel
theorem dr_Ma_insert_37 : decode bc_Ma_insert 37 = .ok (.iload_n 2, 1) := by decide +kernel
theorem dr_Ma_insert_38 : decode bc_Ma_insert 38 = .ok (.iaload, 1) := by decide +kernel
theorem dr_Ma_insert_39 : decode bc_Ma_insert 39 = .ok (.ifCond .eq 15, 3) := by decide +kernel
theorem dr_Ma_insert_42 : decode bc_Ma_insert 42 = .ok (.aload_n 0, 1) := by decide +kernel
theorem dr_Ma_insert_43 : decode bc_Ma_insert 43 = .ok (.iload_n 2, 1) := by decide +kernel
theorem dr_Ma_insert_44 : decode bc_Ma_insert 44 = .ok (.invokevirtual 71, 3) := by decide +kernel
theorem dr_Ma_insert_47 : decode bc_Ma_insert 47 = .ok (.istore_n 2, 1) := by decide +kernel
theorem dr_Ma_insert_48 : decode bc_Ma_insert 48 = .ok (.iinc 3 1, 3) := by decide +kernel
theorem dr_Ma_insert_51 : decode bc_Ma_insert 51 = .ok (.goto (-26), 3) := by decide +kernel
theorem dr_Ma_insert_54 : decode bc_Ma_insert 54 = .ok (.aload_n 0, 1) := by decide +kernel
theorem dr_Ma_insert_55 : decode bc_Ma_insert 55 = .ok (.iload_n 2, 1) := by decide +kernel
theorem dr_Ma_insert_56 : decode bc_Ma_insert 56 = .ok (.invokevirtual 74, 3) := by decide +kernel
theorem dr_Ma_insert_59 : decode bc_Ma_insert 59 = .ok (.return_, 1) := by decide +kernel
theorem dr_Ma_forgetSeen_0 : decode bc_Ma_forgetSeen 0 = .ok (.iconst 0, 1) := by decide +kernel
theorem dr_Ma_forgetSeen_1 : decode bc_Ma_forgetSeen 1 = .ok (.istore_n 1, 1) := by decide +kernel
theorem dr_Ma_forgetSeen_2 : decode bc_Ma_forgetSeen 2 = .ok (.iload_n 1, 1) := by decide +kernel
theorem dr_Ma_forgetSeen_3 : decode bc_Ma_forgetSeen 3 = .ok (.aload_n 0, 1) := by decide +kernel
theorem dr_Ma_forgetSeen_4 : decode bc_Ma_forgetSeen 4 = .ok (.getfield 43, 3) := by decide +kernel
theorem dr_Ma_forgetSeen_7 : decode bc_Ma_forgetSeen 7 = .ok (.if_icmp .gt 16, 3) := by decide +kernel
theorem dr_Ma_forgetSeen_10 : decode bc_Ma_forgetSeen 10 = .ok (.aload_n 0, 1) := by decide +kernel
theorem dr_Ma_forgetSeen_11 : decode bc_Ma_forgetSeen 11 = .ok (.getfield 36, 3) := by decide +kernel
theorem dr_Ma_forgetSeen_14 : decode bc_Ma_forgetSeen 14 = .ok (.iload_n 1, 1) := by decide +kernel
theorem dr_Ma_forgetSeen_15 : decode bc_Ma_forgetSeen 15 = .ok (.iconst 0, 1) := by decide +kernel
theorem dr_Ma_forgetSeen_16 : decode bc_Ma_forgetSeen 16 = .ok (.bastore, 1) := by decide +kernel
theorem dr_Ma_forgetSeen_17 : decode bc_Ma_forgetSeen 17 = .ok (.iinc 1 1, 3) := by decide +kernel
theorem dr_Ma_forgetSeen_20 : decode bc_Ma_forgetSeen 20 = .ok (.goto (-18), 3) := by decide +kernel
theorem dr_Ma_forgetSeen_23 : decode bc_Ma_forgetSeen 23 = .ok (.return_, 1) := by decide +kernel
theorem dr_Ma_nextColumn_0 : decode bc_Ma_nextColumn 0 = .ok (.aload_n 0, 1) := by decide +kernel
theorem dr_Ma_nextColumn_1 : decode bc_Ma_nextColumn 1 = .ok (.getfield 36, 3) := by decide +kernel
theorem dr_Ma_nextColumn_4 : decode bc_Ma_nextColumn 4 = .ok (.iload_n 1, 1) := by decide +kernel
theorem dr_Ma_nextColumn_5 : decode bc_Ma_nextColumn 5 = .ok (.iconst 1, 1) := by decide +kernel
theorem dr_Ma_nextColumn_6 : decode bc_Ma_nextColumn 6 = .ok (.bastore, 1) := by decide +kernel
theorem dr_Ma_nextColumn_7 : decode bc_Ma_nextColumn 7 = .ok (.aload_n 0, 1) := by decide +kernel
theorem dr_Ma_nextColumn_8 : decode bc_Ma_nextColumn 8 = .ok (.getfield 27, 3) := by decide +kernel
theorem dr_Ma_nextColumn_11 : decode bc_Ma_nextColumn 11 = .ok (.iload_n 1, 1) := by decide +kernel
theorem dr_Ma_nextColumn_12 : decode bc_Ma_nextColumn 12 = .ok (.iaload, 1) := by decide +kernel
theorem dr_Ma_nextColumn_13 : decode bc_Ma_nextColumn 13 = .ok (.istore_n 2, 1) := by decide +kernel
theorem dr_Ma_nextColumn_14 : decode bc_Ma_nextColumn 14 = .ok (.iconst 0, 1) := by decide +kernel
theorem dr_Ma_nextColumn_15 : decode bc_Ma_nextColumn 15 = .ok (.istore_n 3, 1) := by decide +kernel
theorem dr_Ma_nextColumn_16 : decode bc_Ma_nextColumn 16 = .ok (.iconst 1, 1) := by decide +kernel
theorem dr_Ma_nextColumn_17 : decode bc_Ma_nextColumn 17 = .ok (.istore 4, 2) := by decide +kernel
theorem dr_Ma_nextColumn_19 : decode bc_Ma_nextColumn 19 = .ok (.iload 4, 2) := by decide +kernel
theorem dr_Ma_nextColumn_21 : decode bc_Ma_nextColumn 21 = .ok (.aload_n 0, 1) := by decide +kernel
theorem dr_Ma_nextColumn_22 : decode bc_Ma_nextColumn 22 = .ok (.getfield 43, 3) := by decide +kernel
theorem dr_Ma_nextColumn_25 : decode bc_Ma_nextColumn 25 = .ok (.if_icmp .gt 82, 3) := by decide +kernel
theorem dr_Ma_nextColumn_28 : decode bc_Ma_nextColumn 28 = .ok (.aload_n 0, 1) := by decide +kernel
theorem dr_Ma_nextColumn_29 : decode bc_Ma_nextColumn 29 = .ok (.getfield 36, 3) := by decide +kernel
theorem dr_Ma_nextColumn_32 : decode bc_Ma_nextColumn 32 = .ok (.iload 4, 2) := by decide +kernel
theorem dr_Ma_nextColumn_34 : decode bc_Ma_nextColumn 34 = .ok (.baload, 1) := by decide +kernel
theorem dr_Ma_nextColumn_35 : decode bc_Ma_nextColumn 35 = .ok (.ifCond .ne 66, 3) := by decide +kernel
theorem dr_Ma_nextColumn_38 : decode bc_Ma_nextColumn 38 = .ok (.aload_n 0, 1) := by decide +kernel
theorem dr_Ma_nextColumn_39 : decode bc_Ma_nextColumn 39 = .ok (.iload_n 2, 1) := by decide +kernel
theorem dr_Ma_nextColumn_40 : decode bc_Ma_nextColumn 40 = .ok (.iload 4, 2) := by decide +kernel
theorem dr_Ma_nextColumn_42 : decode bc_Ma_nextColumn 42 = .ok (.invokevirtual 77, 3) := by decide +kernel
theorem dr_Ma_nextColumn_45 : decode bc_Ma_nextColumn 45 = .ok (.lstore 5, 2) := by decide +kernel
theorem dr_Ma_nextColumn_47 : decode bc_Ma_nextColumn 47 = .ok (.lload 5, 2) := by decide +kernel
theorem dr_Ma_nextColumn_49 : decode bc_Ma_nextColumn 49 = .ok (.aload_n 0, 1) := by decide +kernel
theorem dr_Ma_nextColumn_50 : decode bc_Ma_nextColumn 50 = .ok (.getfield 33, 3) := by decide +kernel
theorem dr_Ma_nextColumn_53 : decode bc_Ma_nextColumn 53 = .ok (.iload 4, 2) := by decide +kernel
theorem dr_Ma_nextColumn_55 : decode bc_Ma_nextColumn 55 = .ok (.laload, 1) := by decide +kernel
theorem dr_Ma_nextColumn_56 : decode bc_Ma_nextColumn 56 = .ok (.lcmp, 1) := by decide +kernel
theorem dr_Ma_nextColumn_57 : decode bc_Ma_nextColumn 57 = .ok (.ifCond .ge 20, 3) := by decide +kernel
theorem dr_Ma_nextColumn_60 : decode bc_Ma_nextColumn 60 = .ok (.aload_n 0, 1) := by decide +kernel
theorem dr_Ma_nextColumn_61 : decode bc_Ma_nextColumn 61 = .ok (.getfield 33, 3) := by decide +kernel
theorem dr_Ma_nextColumn_64 : decode bc_Ma_nextColumn 64 = .ok (.iload 4, 2) := by decide +kernel
theorem dr_Ma_nextColumn_66 : decode bc_Ma_nextColumn 66 = .ok (.lload 5, 2) := by decide +kernel
theorem dr_Ma_nextColumn_68 : decode bc_Ma_nextColumn 68 = .ok (.lastore, 1) := by decide +kernel
theorem dr_Ma_nextColumn_69 : decode bc_Ma_nextColumn 69 = .ok (.aload_n 0, 1) := by decide +kernel
theorem dr_Ma_nextColumn_70 : decode bc_Ma_nextColumn 70 = .ok (.getfield 30, 3) := by decide +kernel
theorem dr_Ma_nextColumn_73 : decode bc_Ma_nextColumn 73 = .ok (.iload 4, 2) := by decide +kernel
theorem dr_Ma_nextColumn_75 : decode bc_Ma_nextColumn 75 = .ok (.iload_n 1, 1) := by decide +kernel
theorem dr_Ma_nextColumn_76 : decode bc_Ma_nextColumn 76 = .ok (.iastore, 1) := by decide +kernel
theorem dr_Ma_nextColumn_77 : decode bc_Ma_nextColumn 77 = .ok (.iload_n 3, 1) := by decide +kernel
theorem dr_Ma_nextColumn_78 : decode bc_Ma_nextColumn 78 = .ok (.ifCond .eq 20, 3) := by decide +kernel
theorem dr_Ma_nextColumn_81 : decode bc_Ma_nextColumn 81 = .ok (.aload_n 0, 1) := by decide +kernel
theorem dr_Ma_nextColumn_82 : decode bc_Ma_nextColumn 82 = .ok (.getfield 33, 3) := by decide +kernel
theorem dr_Ma_nextColumn_85 : decode bc_Ma_nextColumn 85 = .ok (.iload 4, 2) := by decide +kernel
theorem dr_Ma_nextColumn_87 : decode bc_Ma_nextColumn 87 = .ok (.laload, 1) := by decide +kernel
theorem dr_Ma_nextColumn_88 : decode bc_Ma_nextColumn 88 = .ok (.aload_n 0, 1) := by decide +kernel
theorem dr_Ma_nextColumn_89 : decode bc_Ma_nextColumn 89 = .ok (.getfield 33, 3) := by decide +kernel
theorem dr_Ma_nextColumn_92 : decode bc_Ma_nextColumn 92 = .ok (.iload_n 3, 1) := by decide +kernel
theorem dr_Ma_nextColumn_93 : decode bc_Ma_nextColumn 93 = .ok (.laload, 1) := by decide +kernel
theorem dr_Ma_nextColumn_94 : decode bc_Ma_nextColumn 94 = .ok (.lcmp, 1) := by decide +kernel
theorem dr_Ma_nextColumn_95 : decode bc_Ma_nextColumn 95 = .ok (.ifCond .ge 6, 3) := by decide +kernel
theorem dr_Ma_nextColumn_98 : decode bc_Ma_nextColumn 98 = .ok (.iload 4, 2) := by decide +kernel
theorem dr_Ma_nextColumn_100 : decode bc_Ma_nextColumn 100 = .ok (.istore_n 3, 1) := by decide +kernel
theorem dr_Ma_nextColumn_101 : decode bc_Ma_nextColumn 101 = .ok (.iinc 4 1, 3) := by decide +kernel
theorem dr_Ma_nextColumn_104 : decode bc_Ma_nextColumn 104 = .ok (.goto (-85), 3) := by decide +kernel
theorem dr_Ma_nextColumn_107 : decode bc_Ma_nextColumn 107 = .ok (.aload_n 0, 1) := by decide +kernel
theorem dr_Ma_nextColumn_108 : decode bc_Ma_nextColumn 108 = .ok (.aload_n 0, 1) := by decide +kernel
theorem dr_Ma_nextColumn_109 : decode bc_Ma_nextColumn 109 = .ok (.getfield 33, 3) := by decide +kernel
theorem dr_Ma_nextColumn_112 : decode bc_Ma_nextColumn 112 = .ok (.iload_n 3, 1) := by decide +kernel
theorem dr_Ma_nextColumn_113 : decode bc_Ma_nextColumn 113 = .ok (.laload, 1) := by decide +kernel
theorem dr_Ma_nextColumn_114 : decode bc_Ma_nextColumn 114 = .ok (.invokevirtual 81, 3) := by decide +kernel
theorem dr_Ma_nextColumn_117 : decode bc_Ma_nextColumn 117 = .ok (.iload_n 3, 1) := by decide +kernel
theorem dr_Ma_nextColumn_118 : decode bc_Ma_nextColumn 118 = .ok (.ireturn, 1) := by decide +kernel
theorem dr_Ma_changePrices_0 : decode bc_Ma_changePrices 0 = .ok (.iconst 0, 1) := by decide +kernel
theorem dr_Ma_changePrices_1 : decode bc_Ma_changePrices 1 = .ok (.istore_n 3, 1) := by decide +kernel
theorem dr_Ma_changePrices_2 : decode bc_Ma_changePrices 2 = .ok (.iload_n 3, 1) := by decide +kernel
theorem dr_Ma_changePrices_3 : decode bc_Ma_changePrices 3 = .ok (.aload_n 0, 1) := by decide +kernel
theorem dr_Ma_changePrices_4 : decode bc_Ma_changePrices 4 = .ok (.getfield 43, 3) := by decide +kernel
theorem dr_Ma_changePrices_7 : decode bc_Ma_changePrices 7 = .ok (.if_icmp .gt 56, 3) := by decide +kernel
theorem dr_Ma_changePrices_10 : decode bc_Ma_changePrices 10 = .ok (.aload_n 0, 1) := by decide +kernel
theorem dr_Ma_changePrices_11 : decode bc_Ma_changePrices 11 = .ok (.getfield 36, 3) := by decide +kernel
theorem dr_Ma_changePrices_14 : decode bc_Ma_changePrices 14 = .ok (.iload_n 3, 1) := by decide +kernel
theorem dr_Ma_changePrices_15 : decode bc_Ma_changePrices 15 = .ok (.baload, 1) := by decide +kernel
theorem dr_Ma_changePrices_16 : decode bc_Ma_changePrices 16 = .ok (.ifCond .eq 31, 3) := by decide +kernel
theorem dr_Ma_changePrices_19 : decode bc_Ma_changePrices 19 = .ok (.aload_n 0, 1) := by decide +kernel
theorem dr_Ma_changePrices_20 : decode bc_Ma_changePrices 20 = .ok (.getfield 20, 3) := by decide +kernel
theorem dr_Ma_changePrices_23 : decode bc_Ma_changePrices 23 = .ok (.aload_n 0, 1) := by decide +kernel
theorem dr_Ma_changePrices_24 : decode bc_Ma_changePrices 24 = .ok (.getfield 27, 3) := by decide +kernel
theorem dr_Ma_changePrices_27 : decode bc_Ma_changePrices 27 = .ok (.iload_n 3, 1) := by decide +kernel
theorem dr_Ma_changePrices_28 : decode bc_Ma_changePrices 28 = .ok (.iaload, 1) := by decide +kernel
theorem dr_Ma_changePrices_29 : decode bc_Ma_changePrices 29 = .ok (.dup2, 1) := by decide +kernel
theorem dr_Ma_changePrices_30 : decode bc_Ma_changePrices 30 = .ok (.laload, 1) := by decide +kernel
theorem dr_Ma_changePrices_31 : decode bc_Ma_changePrices 31 = .ok (.lload_n 1, 1) := by decide +kernel
theorem dr_Ma_changePrices_32 : decode bc_Ma_changePrices 32 = .ok (.ladd, 1) := by decide +kernel
theorem dr_Ma_changePrices_33 : decode bc_Ma_changePrices 33 = .ok (.lastore, 1) := by decide +kernel
theorem dr_Ma_changePrices_34 : decode bc_Ma_changePrices 34 = .ok (.aload_n 0, 1) := by decide +kernel
theorem dr_Ma_changePrices_35 : decode bc_Ma_changePrices 35 = .ok (.getfield 24, 3) := by decide +kernel
theorem dr_Ma_changePrices_38 : decode bc_Ma_changePrices 38 = .ok (.iload_n 3, 1) := by decide +kernel
theorem dr_Ma_changePrices_39 : decode bc_Ma_changePrices 39 = .ok (.dup2, 1) := by decide +kernel
theorem dr_Ma_changePrices_40 : decode bc_Ma_changePrices 40 = .ok (.laload, 1) := by decide +kernel
theorem dr_Ma_changePrices_41 : decode bc_Ma_changePrices 41 = .ok (.lload_n 1, 1) := by decide +kernel
theorem dr_Ma_changePrices_42 : decode bc_Ma_changePrices 42 = .ok (.lsub, 1) := by decide +kernel
theorem dr_Ma_changePrices_43 : decode bc_Ma_changePrices 43 = .ok (.lastore, 1) := by decide +kernel
theorem dr_Ma_changePrices_44 : decode bc_Ma_changePrices 44 = .ok (.goto 13, 3) := by decide +kernel
theorem dr_Ma_changePrices_47 : decode bc_Ma_changePrices 47 = .ok (.aload_n 0, 1) := by decide +kernel
theorem dr_Ma_changePrices_48 : decode bc_Ma_changePrices 48 = .ok (.getfield 33, 3) := by decide +kernel
theorem dr_Ma_changePrices_51 : decode bc_Ma_changePrices 51 = .ok (.iload_n 3, 1) := by decide +kernel
theorem dr_Ma_changePrices_52 : decode bc_Ma_changePrices 52 = .ok (.dup2, 1) := by decide +kernel
theorem dr_Ma_changePrices_53 : decode bc_Ma_changePrices 53 = .ok (.laload, 1) := by decide +kernel
theorem dr_Ma_changePrices_54 : decode bc_Ma_changePrices 54 = .ok (.lload_n 1, 1) := by decide +kernel
theorem dr_Ma_changePrices_55 : decode bc_Ma_changePrices 55 = .ok (.lsub, 1) := by decide +kernel
theorem dr_Ma_changePrices_56 : decode bc_Ma_changePrices 56 = .ok (.lastore, 1) := by decide +kernel
theorem dr_Ma_changePrices_57 : decode bc_Ma_changePrices 57 = .ok (.iinc 3 1, 3) := by decide +kernel
theorem dr_Ma_changePrices_60 : decode bc_Ma_changePrices 60 = .ok (.goto (-58), 3) := by decide +kernel
theorem dr_Ma_changePrices_63 : decode bc_Ma_changePrices 63 = .ok (.return_, 1) := by decide +kernel
theorem dr_Ma_extraCost_0 : decode bc_Ma_extraCost 0 = .ok (.aload_n 0, 1) := by decide +kernel
theorem dr_Ma_extraCost_1 : decode bc_Ma_extraCost 1 = .ok (.getfield 17, 3) := by decide +kernel
theorem dr_Ma_extraCost_4 : decode bc_Ma_extraCost 4 = .ok (.iload_n 1, 1) := by decide +kernel
theorem dr_Ma_extraCost_5 : decode bc_Ma_extraCost 5 = .ok (.aaload, 1) := by decide +kernel
theorem dr_Ma_extraCost_6 : decode bc_Ma_extraCost 6 = .ok (.iload_n 2, 1) := by decide +kernel
theorem dr_Ma_extraCost_7 : decode bc_Ma_extraCost 7 = .ok (.laload, 1) := by decide +kernel
theorem dr_Ma_extraCost_8 : decode bc_Ma_extraCost 8 = .ok (.aload_n 0, 1) := by decide +kernel
theorem dr_Ma_extraCost_9 : decode bc_Ma_extraCost 9 = .ok (.getfield 20, 3) := by decide +kernel
theorem dr_Ma_extraCost_12 : decode bc_Ma_extraCost 12 = .ok (.iload_n 1, 1) := by decide +kernel
theorem dr_Ma_extraCost_13 : decode bc_Ma_extraCost 13 = .ok (.laload, 1) := by decide +kernel
theorem dr_Ma_extraCost_14 : decode bc_Ma_extraCost 14 = .ok (.lsub, 1) := by decide +kernel
theorem dr_Ma_extraCost_15 : decode bc_Ma_extraCost 15 = .ok (.aload_n 0, 1) := by decide +kernel
theorem dr_Ma_extraCost_16 : decode bc_Ma_extraCost 16 = .ok (.getfield 24, 3) := by decide +kernel
theorem dr_Ma_extraCost_19 : decode bc_Ma_extraCost 19 = .ok (.iload_n 2, 1) := by decide +kernel
theorem dr_Ma_extraCost_20 : decode bc_Ma_extraCost 20 = .ok (.laload, 1) := by decide +kernel
theorem dr_Ma_extraCost_21 : decode bc_Ma_extraCost 21 = .ok (.lsub, 1) := by decide +kernel
theorem dr_Ma_extraCost_22 : decode bc_Ma_extraCost 22 = .ok (.lreturn, 1) := by decide +kernel
theorem dr_Ma_moveAlong_0 : decode bc_Ma_moveAlong 0 = .ok (.iload_n 1, 1) := by decide +kernel
theorem dr_Ma_moveAlong_1 : decode bc_Ma_moveAlong 1 = .ok (.istore_n 2, 1) := by decide +kernel
theorem dr_Ma_moveAlong_2 : decode bc_Ma_moveAlong 2 = .ok (.iconst 0, 1) := by decide +kernel
theorem dr_Ma_moveAlong_3 : decode bc_Ma_moveAlong 3 = .ok (.istore_n 3, 1) := by decide +kernel
theorem dr_Ma_moveAlong_4 : decode bc_Ma_moveAlong 4 = .ok (.iload_n 3, 1) := by decide +kernel
theorem dr_Ma_moveAlong_5 : decode bc_Ma_moveAlong 5 = .ok (.aload_n 0, 1) := by decide +kernel
theorem dr_Ma_moveAlong_6 : decode bc_Ma_moveAlong 6 = .ok (.getfield 43, 3) := by decide +kernel
theorem dr_Ma_moveAlong_9 : decode bc_Ma_moveAlong 9 = .ok (.if_icmp .ge 37, 3) := by decide +kernel
theorem dr_Ma_moveAlong_12 : decode bc_Ma_moveAlong 12 = .ok (.iload_n 2, 1) := by decide +kernel
theorem dr_Ma_moveAlong_13 : decode bc_Ma_moveAlong 13 = .ok (.ifCond .eq 33, 3) := by decide +kernel
theorem dr_Ma_moveAlong_16 : decode bc_Ma_moveAlong 16 = .ok (.aload_n 0, 1) := by decide +kernel
theorem dr_Ma_moveAlong_17 : decode bc_Ma_moveAlong 17 = .ok (.getfield 27, 3) := by decide +kernel
theorem dr_Ma_moveAlong_20 : decode bc_Ma_moveAlong 20 = .ok (.iload_n 2, 1) := by decide +kernel
theorem dr_Ma_moveAlong_21 : decode bc_Ma_moveAlong 21 = .ok (.aload_n 0, 1) := by decide +kernel
theorem dr_Ma_moveAlong_22 : decode bc_Ma_moveAlong 22 = .ok (.getfield 27, 3) := by decide +kernel
theorem dr_Ma_moveAlong_25 : decode bc_Ma_moveAlong 25 = .ok (.aload_n 0, 1) := by decide +kernel
theorem dr_Ma_moveAlong_26 : decode bc_Ma_moveAlong 26 = .ok (.getfield 30, 3) := by decide +kernel
theorem dr_Ma_moveAlong_29 : decode bc_Ma_moveAlong 29 = .ok (.iload_n 2, 1) := by decide +kernel
theorem dr_Ma_moveAlong_30 : decode bc_Ma_moveAlong 30 = .ok (.iaload, 1) := by decide +kernel
theorem dr_Ma_moveAlong_31 : decode bc_Ma_moveAlong 31 = .ok (.iaload, 1) := by decide +kernel
theorem dr_Ma_moveAlong_32 : decode bc_Ma_moveAlong 32 = .ok (.iastore, 1) := by decide +kernel
theorem dr_Ma_moveAlong_33 : decode bc_Ma_moveAlong 33 = .ok (.aload_n 0, 1) := by decide +kernel
theorem dr_Ma_moveAlong_34 : decode bc_Ma_moveAlong 34 = .ok (.getfield 30, 3) := by decide +kernel
theorem dr_Ma_moveAlong_37 : decode bc_Ma_moveAlong 37 = .ok (.iload_n 2, 1) := by decide +kernel
theorem dr_Ma_moveAlong_38 : decode bc_Ma_moveAlong 38 = .ok (.iaload, 1) := by decide +kernel
theorem dr_Ma_moveAlong_39 : decode bc_Ma_moveAlong 39 = .ok (.istore_n 2, 1) := by decide +kernel
theorem dr_Ma_moveAlong_40 : decode bc_Ma_moveAlong 40 = .ok (.iinc 3 1, 3) := by decide +kernel
theorem dr_Ma_moveAlong_43 : decode bc_Ma_moveAlong 43 = .ok (.goto (-39), 3) := by decide +kernel
theorem dr_Ma_moveAlong_46 : decode bc_Ma_moveAlong 46 = .ok (.return_, 1) := by decide +kernel
theorem dr_Ma_settleTies_0 : decode bc_Ma_settleTies 0 = .ok (.iconst 1, 1) := by decide +kernel
theorem dr_Ma_settleTies_1 : decode bc_Ma_settleTies 1 = .ok (.istore_n 1, 1) := by decide +kernel
theorem dr_Ma_settleTies_2 : decode bc_Ma_settleTies 2 = .ok (.iload_n 1, 1) := by decide +kernel
theorem dr_Ma_settleTies_3 : decode bc_Ma_settleTies 3 = .ok (.aload_n 0, 1) := by decide +kernel
theorem dr_Ma_settleTies_4 : decode bc_Ma_settleTies 4 = .ok (.getfield 43, 3) := by decide +kernel
theorem dr_Ma_settleTies_7 : decode bc_Ma_settleTies 7 = .ok (.if_icmp .gt 43, 3) := by decide +kernel
theorem dr_Ma_settleTies_10 : decode bc_Ma_settleTies 10 = .ok (.aload_n 0, 1) := by decide +kernel
theorem dr_Ma_settleTies_11 : decode bc_Ma_settleTies 11 = .ok (.iload_n 1, 1) := by decide +kernel
theorem dr_Ma_settleTies_12 : decode bc_Ma_settleTies 12 = .ok (.iload_n 1, 1) := by decide +kernel
theorem dr_Ma_settleTies_13 : decode bc_Ma_settleTies 13 = .ok (.invokevirtual 85, 3) := by decide +kernel
theorem dr_Ma_settleTies_16 : decode bc_Ma_settleTies 16 = .ok (.istore_n 2, 1) := by decide +kernel
theorem dr_Ma_settleTies_17 : decode bc_Ma_settleTies 17 = .ok (.iconst 1, 1) := by decide +kernel
theorem dr_Ma_settleTies_18 : decode bc_Ma_settleTies 18 = .ok (.istore_n 3, 1) := by decide +kernel
theorem dr_Ma_settleTies_19 : decode bc_Ma_settleTies 19 = .ok (.iload_n 3, 1) := by decide +kernel
theorem dr_Ma_settleTies_20 : decode bc_Ma_settleTies 20 = .ok (.aload_n 0, 1) := by decide +kernel
theorem dr_Ma_settleTies_21 : decode bc_Ma_settleTies 21 = .ok (.getfield 43, 3) := by decide +kernel
theorem dr_Ma_settleTies_24 : decode bc_Ma_settleTies 24 = .ok (.if_icmp .gt 20, 3) := by decide +kernel
theorem dr_Ma_settleTies_27 : decode bc_Ma_settleTies 27 = .ok (.iload_n 2, 1) := by decide +kernel
theorem dr_Ma_settleTies_28 : decode bc_Ma_settleTies 28 = .ok (.ifCond .ne 16, 3) := by decide +kernel
theorem dr_Ma_settleTies_31 : decode bc_Ma_settleTies 31 = .ok (.aload_n 0, 1) := by decide +kernel
theorem dr_Ma_settleTies_32 : decode bc_Ma_settleTies 32 = .ok (.iload_n 1, 1) := by decide +kernel
theorem dr_Ma_settleTies_33 : decode bc_Ma_settleTies 33 = .ok (.iload_n 3, 1) := by decide +kernel
theorem dr_Ma_settleTies_34 : decode bc_Ma_settleTies 34 = .ok (.invokevirtual 85, 3) := by decide +kernel
theorem dr_Ma_settleTies_37 : decode bc_Ma_settleTies 37 = .ok (.istore_n 2, 1) := by decide +kernel
theorem dr_Ma_settleTies_38 : decode bc_Ma_settleTies 38 = .ok (.iinc 3 1, 3) := by decide +kernel
theorem dr_Ma_settleTies_41 : decode bc_Ma_settleTies 41 = .ok (.goto (-22), 3) := by decide +kernel
theorem dr_Ma_settleTies_44 : decode bc_Ma_settleTies 44 = .ok (.iinc 1 1, 3) := by decide +kernel
theorem dr_Ma_settleTies_47 : decode bc_Ma_settleTies 47 = .ok (.goto (-45), 3) := by decide +kernel
theorem dr_Ma_settleTies_50 : decode bc_Ma_settleTies 50 = .ok (.return_, 1) := by decide +kernel
theorem dr_Ma_takes_0 : decode bc_Ma_takes 0 = .ok (.aload_n 0, 1) := by decide +kernel
theorem dr_Ma_takes_1 : decode bc_Ma_takes 1 = .ok (.getfield 27, 3) := by decide +kernel
theorem dr_Ma_takes_4 : decode bc_Ma_takes 4 = .ok (.iload_n 2, 1) := by decide +kernel
theorem dr_Ma_takes_5 : decode bc_Ma_takes 5 = .ok (.iaload, 1) := by decide +kernel
theorem dr_Ma_takes_6 : decode bc_Ma_takes 6 = .ok (.iload_n 1, 1) := by decide +kernel
theorem dr_Ma_takes_7 : decode bc_Ma_takes 7 = .ok (.if_icmp .ne 5, 3) := by decide +kernel
theorem dr_Ma_takes_10 : decode bc_Ma_takes 10 = .ok (.iconst 1, 1) := by decide +kernel
theorem dr_Ma_takes_11 : decode bc_Ma_takes 11 = .ok (.ireturn, 1) := by decide +kernel
theorem dr_Ma_takes_12 : decode bc_Ma_takes 12 = .ok (.aload_n 0, 1) := by decide +kernel
theorem dr_Ma_takes_13 : decode bc_Ma_takes 13 = .ok (.getfield 27, 3) := by decide +kernel
theorem dr_Ma_takes_16 : decode bc_Ma_takes 16 = .ok (.iload_n 2, 1) := by decide +kernel
theorem dr_Ma_takes_17 : decode bc_Ma_takes 17 = .ok (.iaload, 1) := by decide +kernel
theorem dr_Ma_takes_18 : decode bc_Ma_takes 18 = .ok (.iload_n 1, 1) := by decide +kernel
theorem dr_Ma_takes_19 : decode bc_Ma_takes 19 = .ok (.if_icmp .lt 14, 3) := by decide +kernel
theorem dr_Ma_takes_22 : decode bc_Ma_takes 22 = .ok (.aload_n 0, 1) := by decide +kernel
theorem dr_Ma_takes_23 : decode bc_Ma_takes 23 = .ok (.iload_n 1, 1) := by decide +kernel
theorem dr_Ma_takes_24 : decode bc_Ma_takes 24 = .ok (.iload_n 2, 1) := by decide +kernel
theorem dr_Ma_takes_25 : decode bc_Ma_takes 25 = .ok (.invokevirtual 77, 3) := by decide +kernel
theorem dr_Ma_takes_28 : decode bc_Ma_takes 28 = .ok (.lconst 0, 1) := by decide +kernel
theorem dr_Ma_takes_29 : decode bc_Ma_takes 29 = .ok (.lcmp, 1) := by decide +kernel
theorem dr_Ma_takes_30 : decode bc_Ma_takes 30 = .ok (.ifCond .eq 5, 3) := by decide +kernel
theorem dr_Ma_takes_33 : decode bc_Ma_takes 33 = .ok (.iconst 0, 1) := by decide +kernel
theorem dr_Ma_takes_34 : decode bc_Ma_takes 34 = .ok (.ireturn, 1) := by decide +kernel
theorem dr_Ma_takes_35 : decode bc_Ma_takes 35 = .ok (.aload_n 0, 1) := by decide +kernel
theorem dr_Ma_takes_36 : decode bc_Ma_takes 36 = .ok (.iload_n 1, 1) := by decide +kernel
theorem dr_Ma_takes_37 : decode bc_Ma_takes 37 = .ok (.invokevirtual 89, 3) := by decide +kernel
theorem dr_Ma_takes_40 : decode bc_Ma_takes 40 = .ok (.istore_n 3, 1) := by decide +kernel
theorem dr_Ma_takes_41 : decode bc_Ma_takes 41 = .ok (.aload_n 0, 1) := by decide +kernel
theorem dr_Ma_takes_42 : decode bc_Ma_takes 42 = .ok (.iload_n 1, 1) := by decide +kernel
theorem dr_Ma_takes_43 : decode bc_Ma_takes 43 = .ok (.iload_n 2, 1) := by decide +kernel
theorem dr_Ma_takes_44 : decode bc_Ma_takes 44 = .ok (.iload_n 3, 1) := by decide +kernel
theorem dr_Ma_takes_45 : decode bc_Ma_takes 45 = .ok (.invokevirtual 92, 3) := by decide +kernel
theorem dr_Ma_takes_48 : decode bc_Ma_takes 48 = .ok (.ifCond .ne 5, 3) := by decide +kernel
theorem dr_Ma_takes_51 : decode bc_Ma_takes 51 = .ok (.iconst 0, 1) := by decide +kernel
theorem dr_Ma_takes_52 : decode bc_Ma_takes 52 = .ok (.ireturn, 1) := by decide +kernel
theorem dr_Ma_takes_53 : decode bc_Ma_takes 53 = .ok (.aload_n 0, 1) := by decide +kernel
theorem dr_Ma_takes_54 : decode bc_Ma_takes 54 = .ok (.iload_n 3, 1) := by decide +kernel
theorem dr_Ma_takes_55 : decode bc_Ma_takes 55 = .ok (.invokevirtual 74, 3) := by decide +kernel
theorem dr_Ma_takes_58 : decode bc_Ma_takes 58 = .ok (.iconst 1, 1) := by decide +kernel
theorem dr_Ma_takes_59 : decode bc_Ma_takes 59 = .ok (.ireturn, 1) := by decide +kernel
theorem dr_Ma_columnOf_0 : decode bc_Ma_columnOf 0 = .ok (.iconst 1, 1) := by decide +kernel
theorem dr_Ma_columnOf_1 : decode bc_Ma_columnOf 1 = .ok (.istore_n 2, 1) := by decide +kernel
theorem dr_Ma_columnOf_2 : decode bc_Ma_columnOf 2 = .ok (.iload_n 2, 1) := by decide +kernel
theorem dr_Ma_columnOf_3 : decode bc_Ma_columnOf 3 = .ok (.aload_n 0, 1) := by decide +kernel
theorem dr_Ma_columnOf_4 : decode bc_Ma_columnOf 4 = .ok (.getfield 43, 3) := by decide +kernel
theorem dr_Ma_columnOf_7 : decode bc_Ma_columnOf 7 = .ok (.if_icmp .gt 21, 3) := by decide +kernel
theorem dr_Ma_columnOf_10 : decode bc_Ma_columnOf 10 = .ok (.aload_n 0, 1) := by decide +kernel
theorem dr_Ma_columnOf_11 : decode bc_Ma_columnOf 11 = .ok (.getfield 27, 3) := by decide +kernel
theorem dr_Ma_columnOf_14 : decode bc_Ma_columnOf 14 = .ok (.iload_n 2, 1) := by decide +kernel
theorem dr_Ma_columnOf_15 : decode bc_Ma_columnOf 15 = .ok (.iaload, 1) := by decide +kernel
theorem dr_Ma_columnOf_16 : decode bc_Ma_columnOf 16 = .ok (.iload_n 1, 1) := by decide +kernel
theorem dr_Ma_columnOf_17 : decode bc_Ma_columnOf 17 = .ok (.if_icmp .ne 5, 3) := by decide +kernel
theorem dr_Ma_columnOf_20 : decode bc_Ma_columnOf 20 = .ok (.iload_n 2, 1) := by decide +kernel
theorem dr_Ma_columnOf_21 : decode bc_Ma_columnOf 21 = .ok (.ireturn, 1) := by decide +kernel
theorem dr_Ma_columnOf_22 : decode bc_Ma_columnOf 22 = .ok (.iinc 2 1, 3) := by decide +kernel
theorem dr_Ma_columnOf_25 : decode bc_Ma_columnOf 25 = .ok (.goto (-23), 3) := by decide +kernel
theorem dr_Ma_columnOf_28 : decode bc_Ma_columnOf 28 = .ok (.iconst 0, 1) := by decide +kernel
theorem dr_Ma_columnOf_29 : decode bc_Ma_columnOf 29 = .ok (.ireturn, 1) := by decide +kernel
theorem dr_Ma_reaches_0 : decode bc_Ma_reaches 0 = .ok (.aload_n 0, 1) := by decide +kernel
theorem dr_Ma_reaches_1 : decode bc_Ma_reaches 1 = .ok (.invokevirtual 66, 3) := by decide +kernel
theorem dr_Ma_reaches_4 : decode bc_Ma_reaches 4 = .ok (.aload_n 0, 1) := by decide +kernel
theorem dr_Ma_reaches_5 : decode bc_Ma_reaches 5 = .ok (.getfield 27, 3) := by decide +kernel
theorem dr_Ma_reaches_8 : decode bc_Ma_reaches 8 = .ok (.iconst 0, 1) := by decide +kernel
theorem dr_Ma_reaches_9 : decode bc_Ma_reaches 9 = .ok (.iload_n 1, 1) := by decide +kernel
theorem dr_Ma_reaches_10 : decode bc_Ma_reaches 10 = .ok (.iastore, 1) := by decide +kernel
theorem dr_Ma_reaches_11 : decode bc_Ma_reaches 11 = .ok (.aload_n 0, 1) := by decide +kernel
theorem dr_Ma_reaches_12 : decode bc_Ma_reaches 12 = .ok (.getfield 30, 3) := by decide +kernel
theorem dr_Ma_reaches_15 : decode bc_Ma_reaches 15 = .ok (.iload_n 2, 1) := by decide +kernel
theorem dr_Ma_reaches_16 : decode bc_Ma_reaches 16 = .ok (.iconst 0, 1) := by decide +kernel
theorem dr_Ma_reaches_17 : decode bc_Ma_reaches 17 = .ok (.iastore, 1) := by decide +kernel
theorem dr_Ma_reaches_18 : decode bc_Ma_reaches 18 = .ok (.aload_n 0, 1) := by decide +kernel
theorem dr_Ma_reaches_19 : decode bc_Ma_reaches 19 = .ok (.getfield 36, 3) := by decide +kernel
theorem dr_Ma_reaches_22 : decode bc_Ma_reaches 22 = .ok (.iload_n 2, 1) := by decide +kernel
theorem dr_Ma_reaches_23 : decode bc_Ma_reaches 23 = .ok (.iconst 1, 1) := by decide +kernel
theorem dr_Ma_reaches_24 : decode bc_Ma_reaches 24 = .ok (.bastore, 1) := by decide +kernel
theorem dr_Ma_reaches_25 : decode bc_Ma_reaches 25 = .ok (.aload_n 0, 1) := by decide +kernel
theorem dr_Ma_reaches_26 : decode bc_Ma_reaches 26 = .ok (.getfield 40, 3) := by decide +kernel
theorem dr_Ma_reaches_29 : decode bc_Ma_reaches 29 = .ok (.iconst 0, 1) := by decide +kernel
theorem dr_Ma_reaches_30 : decode bc_Ma_reaches 30 = .ok (.iload_n 2, 1) := by decide +kernel
theorem dr_Ma_reaches_31 : decode bc_Ma_reaches 31 = .ok (.iastore, 1) := by decide +kernel
theorem dr_Ma_reaches_32 : decode bc_Ma_reaches 32 = .ok (.iconst 1, 1) := by decide +kernel
theorem dr_Ma_reaches_33 : decode bc_Ma_reaches 33 = .ok (.istore 4, 2) := by decide +kernel
theorem dr_Ma_reaches_35 : decode bc_Ma_reaches 35 = .ok (.iconst 0, 1) := by decide +kernel
theorem dr_Ma_reaches_36 : decode bc_Ma_reaches 36 = .ok (.istore 5, 2) := by decide +kernel
theorem dr_Ma_reaches_38 : decode bc_Ma_reaches 38 = .ok (.iload 5, 2) := by decide +kernel
theorem dr_Ma_reaches_40 : decode bc_Ma_reaches 40 = .ok (.aload_n 0, 1) := by decide +kernel
theorem dr_Ma_reaches_41 : decode bc_Ma_reaches 41 = .ok (.getfield 43, 3) := by decide +kernel
theorem dr_Ma_reaches_44 : decode bc_Ma_reaches 44 = .ok (.if_icmp .ge 41, 3) := by decide +kernel
theorem dr_Ma_reaches_47 : decode bc_Ma_reaches 47 = .ok (.iload 5, 2) := by decide +kernel
theorem dr_Ma_reaches_49 : decode bc_Ma_reaches 49 = .ok (.iload 4, 2) := by decide +kernel
theorem dr_Ma_reaches_51 : decode bc_Ma_reaches 51 = .ok (.if_icmp .ge 34, 3) := by decide +kernel
theorem dr_Ma_reaches_54 : decode bc_Ma_reaches 54 = .ok (.aload_n 0, 1) := by decide +kernel
theorem dr_Ma_reaches_55 : decode bc_Ma_reaches 55 = .ok (.getfield 36, 3) := by decide +kernel
theorem dr_Ma_reaches_58 : decode bc_Ma_reaches 58 = .ok (.iload_n 3, 1) := by decide +kernel
theorem dr_Ma_reaches_59 : decode bc_Ma_reaches 59 = .ok (.baload, 1) := by decide +kernel
theorem dr_Ma_reaches_60 : decode bc_Ma_reaches 60 = .ok (.ifCond .ne 25, 3) := by decide +kernel
theorem dr_Ma_reaches_63 : decode bc_Ma_reaches 63 = .ok (.aload_n 0, 1) := by decide +kernel
theorem dr_Ma_reaches_64 : decode bc_Ma_reaches 64 = .ok (.aload_n 0, 1) := by decide +kernel
theorem dr_Ma_reaches_65 : decode bc_Ma_reaches 65 = .ok (.getfield 40, 3) := by decide +kernel
theorem dr_Ma_reaches_68 : decode bc_Ma_reaches 68 = .ok (.iload 5, 2) := by decide +kernel
theorem dr_Ma_reaches_70 : decode bc_Ma_reaches 70 = .ok (.iaload, 1) := by decide +kernel
theorem dr_Ma_reaches_71 : decode bc_Ma_reaches 71 = .ok (.iload_n 1, 1) := by decide +kernel
theorem dr_Ma_reaches_72 : decode bc_Ma_reaches 72 = .ok (.iload 4, 2) := by decide +kernel
theorem dr_Ma_reaches_74 : decode bc_Ma_reaches 74 = .ok (.invokevirtual 96, 3) := by decide +kernel
theorem dr_Ma_reaches_77 : decode bc_Ma_reaches 77 = .ok (.istore 4, 2) := by decide +kernel
theorem dr_Ma_reaches_79 : decode bc_Ma_reaches 79 = .ok (.iinc 5 1, 3) := by decide +kernel
theorem dr_Ma_reaches_82 : decode bc_Ma_reaches 82 = .ok (.goto (-44), 3) := by decide +kernel
theorem dr_Ma_reaches_85 : decode bc_Ma_reaches 85 = .ok (.aload_n 0, 1) := by decide +kernel
theorem dr_Ma_reaches_86 : decode bc_Ma_reaches 86 = .ok (.getfield 36, 3) := by decide +kernel
theorem dr_Ma_reaches_89 : decode bc_Ma_reaches 89 = .ok (.iload_n 3, 1) := by decide +kernel
theorem dr_Ma_reaches_90 : decode bc_Ma_reaches 90 = .ok (.baload, 1) := by decide +kernel
theorem dr_Ma_reaches_91 : decode bc_Ma_reaches 91 = .ok (.ireturn, 1) := by decide +kernel
theorem dr_Ma_queueFrom_0 : decode bc_Ma_queueFrom 0 = .ok (.iload_n 3, 1) := by decide +kernel
theorem dr_Ma_queueFrom_1 : decode bc_Ma_queueFrom 1 = .ok (.istore 4, 2) := by decide +kernel
theorem dr_Ma_queueFrom_3 : decode bc_Ma_queueFrom 3 = .ok (.iconst 1, 1) := by decide +kernel
theorem dr_Ma_queueFrom_4 : decode bc_Ma_queueFrom 4 = .ok (.istore 5, 2) := by decide +kernel
theorem dr_Ma_queueFrom_6 : decode bc_Ma_queueFrom 6 = .ok (.iload 5, 2) := by decide +kernel
theorem dr_Ma_queueFrom_8 : decode bc_Ma_queueFrom 8 = .ok (.aload_n 0, 1) := by decide +kernel
theorem dr_Ma_queueFrom_9 : decode bc_Ma_queueFrom 9 = .ok (.getfield 43, 3) := by decide +kernel
theorem dr_Ma_queueFrom_12 : decode bc_Ma_queueFrom 12 = .ok (.if_icmp .gt 87, 3) := by decide +kernel
theorem dr_Ma_queueFrom_15 : decode bc_Ma_queueFrom 15 = .ok (.aload_n 0, 1) := by decide +kernel
theorem dr_Ma_queueFrom_16 : decode bc_Ma_queueFrom 16 = .ok (.getfield 36, 3) := by decide +kernel
theorem dr_Ma_queueFrom_19 : decode bc_Ma_queueFrom 19 = .ok (.iload 5, 2) := by decide +kernel
theorem dr_Ma_queueFrom_21 : decode bc_Ma_queueFrom 21 = .ok (.baload, 1) := by decide +kernel
theorem dr_Ma_queueFrom_22 : decode bc_Ma_queueFrom 22 = .ok (.ifCond .ne 18, 3) := by decide +kernel
theorem dr_Ma_queueFrom_25 : decode bc_Ma_queueFrom 25 = .ok (.aload_n 0, 1) := by decide +kernel
theorem dr_Ma_queueFrom_26 : decode bc_Ma_queueFrom 26 = .ok (.getfield 27, 3) := by decide +kernel
theorem dr_Ma_queueFrom_29 : decode bc_Ma_queueFrom 29 = .ok (.iload 5, 2) := by decide +kernel
theorem dr_Ma_queueFrom_31 : decode bc_Ma_queueFrom 31 = .ok (.iaload, 1) := by decide +kernel
theorem dr_Ma_queueFrom_32 : decode bc_Ma_queueFrom 32 = .ok (.iload_n 2, 1) := by decide +kernel
theorem dr_Ma_queueFrom_33 : decode bc_Ma_queueFrom 33 = .ok (.if_icmp .lt 7, 3) := by decide +kernel
theorem dr_Ma_queueFrom_36 : decode bc_Ma_queueFrom 36 = .ok (.iconst 1, 1) := by decide +kernel
theorem dr_Ma_queueFrom_37 : decode bc_Ma_queueFrom 37 = .ok (.goto 4, 3) := by decide +kernel
theorem dr_Ma_queueFrom_40 : decode bc_Ma_queueFrom 40 = .ok (.iconst 0, 1) := by decide +kernel
theorem dr_Ma_queueFrom_41 : decode bc_Ma_queueFrom 41 = .ok (.istore 6, 2) := by decide +kernel
theorem dr_Ma_queueFrom_43 : decode bc_Ma_queueFrom 43 = .ok (.iload 6, 2) := by decide +kernel
theorem dr_Ma_queueFrom_45 : decode bc_Ma_queueFrom 45 = .ok (.ifCond .eq 48, 3) := by decide +kernel
theorem dr_Ma_queueFrom_48 : decode bc_Ma_queueFrom 48 = .ok (.aload_n 0, 1) := by decide +kernel
theorem dr_Ma_queueFrom_49 : decode bc_Ma_queueFrom 49 = .ok (.aload_n 0, 1) := by decide +kernel
theorem dr_Ma_queueFrom_50 : decode bc_Ma_queueFrom 50 = .ok (.getfield 27, 3) := by decide +kernel
theorem dr_Ma_queueFrom_53 : decode bc_Ma_queueFrom 53 = .ok (.iload_n 1, 1) := by decide +kernel
theorem dr_Ma_queueFrom_54 : decode bc_Ma_queueFrom 54 = .ok (.iaload, 1) := by decide +kernel
theorem dr_Ma_queueFrom_55 : decode bc_Ma_queueFrom 55 = .ok (.iload 5, 2) := by decide +kernel
theorem dr_Ma_queueFrom_57 : decode bc_Ma_queueFrom 57 = .ok (.invokevirtual 77, 3) := by decide +kernel
theorem dr_Ma_queueFrom_60 : decode bc_Ma_queueFrom 60 = .ok (.lconst 0, 1) := by decide +kernel
theorem dr_Ma_queueFrom_61 : decode bc_Ma_queueFrom 61 = .ok (.lcmp, 1) := by decide +kernel
theorem dr_Ma_queueFrom_62 : decode bc_Ma_queueFrom 62 = .ok (.ifCond .ne 31, 3) := by decide +kernel
theorem dr_Ma_queueFrom_65 : decode bc_Ma_queueFrom 65 = .ok (.aload_n 0, 1) := by decide +kernel
theorem dr_Ma_queueFrom_66 : decode bc_Ma_queueFrom 66 = .ok (.getfield 36, 3) := by decide +kernel
theorem dr_Ma_queueFrom_69 : decode bc_Ma_queueFrom 69 = .ok (.iload 5, 2) := by decide +kernel
theorem dr_Ma_queueFrom_71 : decode bc_Ma_queueFrom 71 = .ok (.iconst 1, 1) := by decide +kernel
theorem dr_Ma_queueFrom_72 : decode bc_Ma_queueFrom 72 = .ok (.bastore, 1) := by decide +kernel
theorem dr_Ma_queueFrom_73 : decode bc_Ma_queueFrom 73 = .ok (.aload_n 0, 1) := by decide +kernel
theorem dr_Ma_queueFrom_74 : decode bc_Ma_queueFrom 74 = .ok (.getfield 30, 3) := by decide +kernel
theorem dr_Ma_queueFrom_77 : decode bc_Ma_queueFrom 77 = .ok (.iload 5, 2) := by decide +kernel
theorem dr_Ma_queueFrom_79 : decode bc_Ma_queueFrom 79 = .ok (.iload_n 1, 1) := by decide +kernel
theorem dr_Ma_queueFrom_80 : decode bc_Ma_queueFrom 80 = .ok (.iastore, 1) := by decide +kernel
theorem dr_Ma_queueFrom_81 : decode bc_Ma_queueFrom 81 = .ok (.aload_n 0, 1) := by decide +kernel
theorem dr_Ma_queueFrom_82 : decode bc_Ma_queueFrom 82 = .ok (.getfield 40, 3) := by decide +kernel
theorem dr_Ma_queueFrom_85 : decode bc_Ma_queueFrom 85 = .ok (.iload 4, 2) := by decide +kernel
theorem dr_Ma_queueFrom_87 : decode bc_Ma_queueFrom 87 = .ok (.iload 5, 2) := by decide +kernel
theorem dr_Ma_queueFrom_89 : decode bc_Ma_queueFrom 89 = .ok (.iastore, 1) := by decide +kernel
theorem dr_Ma_queueFrom_90 : decode bc_Ma_queueFrom 90 = .ok (.iinc 4 1, 3) := by decide +kernel
theorem dr_Ma_queueFrom_93 : decode bc_Ma_queueFrom 93 = .ok (.iinc 5 1, 3) := by decide +kernel
theorem dr_Ma_queueFrom_96 : decode bc_Ma_queueFrom 96 = .ok (.goto (-90), 3) := by decide +kernel
theorem dr_Ma_queueFrom_99 : decode bc_Ma_queueFrom 99 = .ok (.iload 4, 2) := by decide +kernel
theorem dr_Ma_queueFrom_101 : decode bc_Ma_queueFrom 101 = .ok (.ireturn, 1) := by decide +kernel
theorem dr_Ne_init_0 : decode bc_Ne_init 0 = .ok (.aload_n 0, 1) := by decide +kernel
theorem dr_Ne_init_1 : decode bc_Ne_init 1 = .ok (.invokespecial 3, 3) := by decide +kernel
theorem dr_Ne_init_4 : decode bc_Ne_init 4 = .ok (.aload_n 0, 1) := by decide +kernel
theorem dr_Ne_init_5 : decode bc_Ne_init 5 = .ok (.sipush 200, 3) := by decide +kernel
theorem dr_Ne_init_8 : decode bc_Ne_init 8 = .ok (.newarray .boolean, 2) := by decide +kernel
theorem dr_Ne_init_10 : decode bc_Ne_init 10 = .ok (.putfield 9, 3) := by decide +kernel
theorem dr_Ne_init_13 : decode bc_Ne_init 13 = .ok (.aload_n 0, 1) := by decide +kernel
theorem dr_Ne_init_14 : decode bc_Ne_init 14 = .ok (.sipush 200, 3) := by decide +kernel
theorem dr_Ne_init_17 : decode bc_Ne_init 17 = .ok (.newarray .long, 2) := by decide +kernel
theorem dr_Ne_init_19 : decode bc_Ne_init 19 = .ok (.putfield 15, 3) := by decide +kernel
theorem dr_Ne_init_22 : decode bc_Ne_init 22 = .ok (.aload_n 0, 1) := by decide +kernel
theorem dr_Ne_init_23 : decode bc_Ne_init 23 = .ok (.sipush 200, 3) := by decide +kernel
theorem dr_Ne_init_26 : decode bc_Ne_init 26 = .ok (.newarray .long, 2) := by decide +kernel
theorem dr_Ne_init_28 : decode bc_Ne_init 28 = .ok (.putfield 19, 3) := by decide +kernel
theorem dr_Ne_init_31 : decode bc_Ne_init 31 = .ok (.aload_n 0, 1) := by decide +kernel
theorem dr_Ne_init_32 : decode bc_Ne_init 32 = .ok (.sipush 200, 3) := by decide +kernel
theorem dr_Ne_init_35 : decode bc_Ne_init 35 = .ok (.newarray .int, 2) := by decide +kernel
theorem dr_Ne_init_37 : decode bc_Ne_init 37 = .ok (.putfield 22, 3) := by decide +kernel
theorem dr_Ne_init_40 : decode bc_Ne_init 40 = .ok (.aload_n 0, 1) := by decide +kernel
theorem dr_Ne_init_41 : decode bc_Ne_init 41 = .ok (.getfield 22, 3) := by decide +kernel
theorem dr_Ne_init_44 : decode bc_Ne_init 44 = .ok (.iconst (-1), 1) := by decide +kernel
theorem dr_Ne_init_45 : decode bc_Ne_init 45 = .ok (.invokestatic 26, 3) := by decide +kernel
theorem dr_Ne_init_48 : decode bc_Ne_init 48 = .ok (.return_, 1) := by decide +kernel
theorem dr_Ne_aim_0 : decode bc_Ne_aim 0 = .ok (.aload_n 0, 1) := by decide +kernel
theorem dr_Ne_aim_1 : decode bc_Ne_aim 1 = .ok (.getfield 9, 3) := by decide +kernel
theorem dr_Ne_aim_4 : decode bc_Ne_aim 4 = .ok (.iload_n 1, 1) := by decide +kernel
theorem dr_Ne_aim_5 : decode bc_Ne_aim 5 = .ok (.baload, 1) := by decide +kernel
theorem dr_Ne_aim_6 : decode bc_Ne_aim 6 = .ok (.ifCond .eq 26, 3) := by decide +kernel
theorem dr_Ne_aim_9 : decode bc_Ne_aim 9 = .ok (.aload_n 0, 1) := by decide +kernel
theorem dr_Ne_aim_10 : decode bc_Ne_aim 10 = .ok (.getfield 15, 3) := by decide +kernel
theorem dr_Ne_aim_13 : decode bc_Ne_aim 13 = .ok (.iload_n 1, 1) := by decide +kernel
theorem dr_Ne_aim_14 : decode bc_Ne_aim 14 = .ok (.laload, 1) := by decide +kernel
theorem dr_Ne_aim_15 : decode bc_Ne_aim 15 = .ok (.lload_n 2, 1) := by decide +kernel
theorem dr_Ne_aim_16 : decode bc_Ne_aim 16 = .ok (.lcmp, 1) := by decide +kernel
theorem dr_Ne_aim_17 : decode bc_Ne_aim 17 = .ok (.ifCond .ne 15, 3) := by decide +kernel
theorem dr_Ne_aim_20 : decode bc_Ne_aim 20 = .ok (.aload_n 0, 1) := by decide +kernel
theorem dr_Ne_aim_21 : decode bc_Ne_aim 21 = .ok (.getfield 19, 3) := by decide +kernel
theorem dr_Ne_aim_24 : decode bc_Ne_aim 24 = .ok (.iload_n 1, 1) := by decide +kernel
theorem dr_Ne_aim_25 : decode bc_Ne_aim 25 = .ok (.laload, 1) := by decide +kernel
theorem dr_Ne_aim_26 : decode bc_Ne_aim 26 = .ok (.lload 4, 2) := by decide +kernel
theorem dr_Ne_aim_28 : decode bc_Ne_aim 28 = .ok (.lcmp, 1) := by decide +kernel
theorem dr_Ne_aim_29 : decode bc_Ne_aim 29 = .ok (.ifCond .eq 7, 3) := by decide +kernel
theorem dr_Ne_aim_32 : decode bc_Ne_aim 32 = .ok (.iconst 1, 1) := by decide +kernel
theorem dr_Ne_aim_33 : decode bc_Ne_aim 33 = .ok (.goto 4, 3) := by decide +kernel
theorem dr_Ne_aim_36 : decode bc_Ne_aim 36 = .ok (.iconst 0, 1) := by decide +kernel
theorem dr_Ne_aim_37 : decode bc_Ne_aim 37 = .ok (.istore 6, 2) := by decide +kernel
theorem dr_Ne_aim_39 : decode bc_Ne_aim 39 = .ok (.aload_n 0, 1) := by decide +kernel
theorem dr_Ne_aim_40 : decode bc_Ne_aim 40 = .ok (.getfield 9, 3) := by decide +kernel
theorem dr_Ne_aim_43 : decode bc_Ne_aim 43 = .ok (.iload_n 1, 1) := by decide +kernel
theorem dr_Ne_aim_44 : decode bc_Ne_aim 44 = .ok (.iconst 1, 1) := by decide +kernel
theorem dr_Ne_aim_45 : decode bc_Ne_aim 45 = .ok (.bastore, 1) := by decide +kernel
theorem dr_Ne_aim_46 : decode bc_Ne_aim 46 = .ok (.aload_n 0, 1) := by decide +kernel
theorem dr_Ne_aim_47 : decode bc_Ne_aim 47 = .ok (.getfield 15, 3) := by decide +kernel
theorem dr_Ne_aim_50 : decode bc_Ne_aim 50 = .ok (.iload_n 1, 1) := by decide +kernel
theorem dr_Ne_aim_51 : decode bc_Ne_aim 51 = .ok (.lload_n 2, 1) := by decide +kernel
theorem dr_Ne_aim_52 : decode bc_Ne_aim 52 = .ok (.lastore, 1) := by decide +kernel
theorem dr_Ne_aim_53 : decode bc_Ne_aim 53 = .ok (.aload_n 0, 1) := by decide +kernel
theorem dr_Ne_aim_54 : decode bc_Ne_aim 54 = .ok (.getfield 19, 3) := by decide +kernel
theorem dr_Ne_aim_57 : decode bc_Ne_aim 57 = .ok (.iload_n 1, 1) := by decide +kernel
theorem dr_Ne_aim_58 : decode bc_Ne_aim 58 = .ok (.lload 4, 2) := by decide +kernel
theorem dr_Ne_aim_60 : decode bc_Ne_aim 60 = .ok (.lastore, 1) := by decide +kernel
theorem dr_Ne_aim_61 : decode bc_Ne_aim 61 = .ok (.iload 6, 2) := by decide +kernel
theorem dr_Ne_aim_63 : decode bc_Ne_aim 63 = .ok (.ireturn, 1) := by decide +kernel
theorem dr_Pi_init_0 : decode bc_Pi_init 0 = .ok (.aload_n 0, 1) := by decide +kernel
theorem dr_Pi_init_1 : decode bc_Pi_init 1 = .ok (.invokespecial 3, 3) := by decide +kernel
theorem dr_Pi_init_4 : decode bc_Pi_init 4 = .ok (.aload_n 0, 1) := by decide +kernel
theorem dr_Pi_init_5 : decode bc_Pi_init 5 = .ok (.bipush 12, 2) := by decide +kernel
theorem dr_Pi_init_7 : decode bc_Pi_init 7 = .ok (.newarray .int, 2) := by decide +kernel
theorem dr_Pi_init_9 : decode bc_Pi_init 9 = .ok (.putfield 9, 3) := by decide +kernel
theorem dr_Pi_init_12 : decode bc_Pi_init 12 = .ok (.aload_n 0, 1) := by decide +kernel
theorem dr_Pi_init_13 : decode bc_Pi_init 13 = .ok (.bipush 80, 2) := by decide +kernel
theorem dr_Pi_init_15 : decode bc_Pi_init 15 = .ok (.newarray .int, 2) := by decide +kernel
theorem dr_Pi_init_17 : decode bc_Pi_init 17 = .ok (.putfield 15, 3) := by decide +kernel
theorem dr_Pi_init_20 : decode bc_Pi_init 20 = .ok (.aload_n 0, 1) := by decide +kernel
theorem dr_Pi_init_21 : decode bc_Pi_init 21 = .ok (.bipush 80, 2) := by decide +kernel
theorem dr_Pi_init_23 : decode bc_Pi_init 23 = .ok (.newarray .long, 2) := by decide +kernel
theorem dr_Pi_init_25 : decode bc_Pi_init 25 = .ok (.putfield 18, 3) := by decide +kernel
theorem dr_Pi_init_28 : decode bc_Pi_init 28 = .ok (.aload_n 0, 1) := by decide +kernel
theorem dr_Pi_init_29 : decode bc_Pi_init 29 = .ok (.bipush 80, 2) := by decide +kernel
theorem dr_Pi_init_31 : decode bc_Pi_init 31 = .ok (.newarray .long, 2) := by decide +kernel
theorem dr_Pi_init_33 : decode bc_Pi_init 33 = .ok (.putfield 22, 3) := by decide +kernel
theorem dr_Pi_init_36 : decode bc_Pi_init 36 = .ok (.aload_n 0, 1) := by decide +kernel
theorem dr_Pi_init_37 : decode bc_Pi_init 37 = .ok (.bipush 80, 2) := by decide +kernel
theorem dr_Pi_init_39 : decode bc_Pi_init 39 = .ok (.newarray .int, 2) := by decide +kernel
theorem dr_Pi_init_41 : decode bc_Pi_init 41 = .ok (.putfield 25, 3) := by decide +kernel
theorem dr_Pi_init_44 : decode bc_Pi_init 44 = .ok (.aload_n 0, 1) := by decide +kernel
theorem dr_Pi_init_45 : decode bc_Pi_init 45 = .ok (.bipush 80, 2) := by decide +kernel
theorem dr_Pi_init_47 : decode bc_Pi_init 47 = .ok (.newarray .int, 2) := by decide +kernel
theorem dr_Pi_init_49 : decode bc_Pi_init 49 = .ok (.putfield 28, 3) := by decide +kernel
theorem dr_Pi_init_52 : decode bc_Pi_init 52 = .ok (.aload_n 0, 1) := by decide +kernel
theorem dr_Pi_init_53 : decode bc_Pi_init 53 = .ok (.bipush 80, 2) := by decide +kernel
theorem dr_Pi_init_55 : decode bc_Pi_init 55 = .ok (.newarray .int, 2) := by decide +kernel
theorem dr_Pi_init_57 : decode bc_Pi_init 57 = .ok (.putfield 31, 3) := by decide +kernel
theorem dr_Pi_init_60 : decode bc_Pi_init 60 = .ok (.aload_n 0, 1) := by decide +kernel
theorem dr_Pi_init_61 : decode bc_Pi_init 61 = .ok (.bipush 80, 2) := by decide +kernel
theorem dr_Pi_init_63 : decode bc_Pi_init 63 = .ok (.newarray .int, 2) := by decide +kernel
theorem dr_Pi_init_65 : decode bc_Pi_init 65 = .ok (.putfield 34, 3) := by decide +kernel
theorem dr_Pi_init_68 : decode bc_Pi_init 68 = .ok (.aload_n 0, 1) := by decide +kernel
theorem dr_Pi_init_69 : decode bc_Pi_init 69 = .ok (.bipush 80, 2) := by decide +kernel
theorem dr_Pi_init_71 : decode bc_Pi_init 71 = .ok (.newarray .boolean, 2) := by decide +kernel
theorem dr_Pi_init_73 : decode bc_Pi_init 73 = .ok (.putfield 37, 3) := by decide +kernel
theorem dr_Pi_init_76 : decode bc_Pi_init 76 = .ok (.aload_n 0, 1) := by decide +kernel
theorem dr_Pi_init_77 : decode bc_Pi_init 77 = .ok (.bipush 80, 2) := by decide +kernel
theorem dr_Pi_init_79 : decode bc_Pi_init 79 = .ok (.newarray .boolean, 2) := by decide +kernel
theorem dr_Pi_init_81 : decode bc_Pi_init 81 = .ok (.putfield 41, 3) := by decide +kernel
theorem dr_Pi_init_84 : decode bc_Pi_init 84 = .ok (.return_, 1) := by decide +kernel
end
section
theorem dr_Pi_add_0 : decode bc_Pi_add 0 = .ok (.aload_n 0, 1) := by decide +kernel
theorem dr_Pi_add_1 : decode bc_Pi_add 1 = .ok (.getfield 44, 3) := by decide +kernel
theorem dr_Pi_add_4 : decode bc_Pi_add 4 = .ok (.istore 7, 2) := by decide +kernel
theorem dr_Pi_add_6 : decode bc_Pi_add 6 = .ok (.aload_n 0, 1) := by decide +kernel
theorem dr_Pi_add_7 : decode bc_Pi_add 7 = .ok (.dup, 1) := by decide +kernel
theorem dr_Pi_add_8 : decode bc_Pi_add 8 = .ok (.getfield 44, 3) := by decide +kernel
theorem dr_Pi_add_11 : decode bc_Pi_add 11 = .ok (.iconst 1, 1) := by decide +kernel
theorem dr_Pi_add_12 : decode bc_Pi_add 12 = .ok (.iadd, 1) := by decide +kernel
theorem dr_Pi_add_13 : decode bc_Pi_add 13 = .ok (.putfield 44, 3) := by decide +kernel
theorem dr_Pi_add_16 : decode bc_Pi_add 16 = .ok (.aload_n 0, 1) := by decide +kernel
theorem dr_Pi_add_17 : decode bc_Pi_add 17 = .ok (.getfield 9, 3) := by decide +kernel
theorem dr_Pi_add_20 : decode bc_Pi_add 20 = .ok (.iload_n 1, 1) := by decide +kernel
theorem dr_Pi_add_21 : decode bc_Pi_add 21 = .ok (.dup2, 1) := by decide +kernel
theorem dr_Pi_add_22 : decode bc_Pi_add 22 = .ok (.iaload, 1) := by decide +kernel
theorem dr_Pi_add_23 : decode bc_Pi_add 23 = .ok (.iconst 1, 1) := by decide +kernel
theorem dr_Pi_add_24 : decode bc_Pi_add 24 = .ok (.iadd, 1) := by decide +kernel
theorem dr_Pi_add_25 : decode bc_Pi_add 25 = .ok (.iastore, 1) := by decide +kernel
theorem dr_Pi_add_26 : decode bc_Pi_add 26 = .ok (.aload_n 0, 1) := by decide +kernel
theorem dr_Pi_add_27 : decode bc_Pi_add 27 = .ok (.getfield 15, 3) := by decide +kernel
theorem dr_Pi_add_30 : decode bc_Pi_add 30 = .ok (.iload 7, 2) := by decide +kernel
theorem dr_Pi_add_32 : decode bc_Pi_add 32 = .ok (.iload_n 1, 1) := by decide +kernel
theorem dr_Pi_add_33 : decode bc_Pi_add 33 = .ok (.iastore, 1) := by decide +kernel
theorem dr_Pi_add_34 : decode bc_Pi_add 34 = .ok (.aload_n 0, 1) := by decide +kernel
theorem dr_Pi_add_35 : decode bc_Pi_add 35 = .ok (.getfield 18, 3) := by decide +kernel
theorem dr_Pi_add_38 : decode bc_Pi_add 38 = .ok (.iload 7, 2) := by decide +kernel
theorem dr_Pi_add_40 : decode bc_Pi_add 40 = .ok (.lload_n 2, 1) := by decide +kernel
theorem dr_Pi_add_41 : decode bc_Pi_add 41 = .ok (.lastore, 1) := by decide +kernel
theorem dr_Pi_add_42 : decode bc_Pi_add 42 = .ok (.aload_n 0, 1) := by decide +kernel
theorem dr_Pi_add_43 : decode bc_Pi_add 43 = .ok (.getfield 22, 3) := by decide +kernel
theorem dr_Pi_add_46 : decode bc_Pi_add 46 = .ok (.iload 7, 2) := by decide +kernel
theorem dr_Pi_add_48 : decode bc_Pi_add 48 = .ok (.lload 4, 2) := by decide +kernel
theorem dr_Pi_add_50 : decode bc_Pi_add 50 = .ok (.lastore, 1) := by decide +kernel
theorem dr_Pi_add_51 : decode bc_Pi_add 51 = .ok (.aload_n 0, 1) := by decide +kernel
theorem dr_Pi_add_52 : decode bc_Pi_add 52 = .ok (.getfield 28, 3) := by decide +kernel
theorem dr_Pi_add_55 : decode bc_Pi_add 55 = .ok (.iload 7, 2) := by decide +kernel
theorem dr_Pi_add_57 : decode bc_Pi_add 57 = .ok (.iload 6, 2) := by decide +kernel
theorem dr_Pi_add_59 : decode bc_Pi_add 59 = .ok (.iastore, 1) := by decide +kernel
theorem dr_Pi_add_60 : decode bc_Pi_add 60 = .ok (.aload_n 0, 1) := by decide +kernel
theorem dr_Pi_add_61 : decode bc_Pi_add 61 = .ok (.getfield 31, 3) := by decide +kernel
theorem dr_Pi_add_64 : decode bc_Pi_add 64 = .ok (.iload 7, 2) := by decide +kernel
theorem dr_Pi_add_66 : decode bc_Pi_add 66 = .ok (.iload 6, 2) := by decide +kernel
theorem dr_Pi_add_68 : decode bc_Pi_add 68 = .ok (.iastore, 1) := by decide +kernel
theorem dr_Pi_add_69 : decode bc_Pi_add 69 = .ok (.aload_n 0, 1) := by decide +kernel
theorem dr_Pi_add_70 : decode bc_Pi_add 70 = .ok (.getfield 34, 3) := by decide +kernel
theorem dr_Pi_add_73 : decode bc_Pi_add 73 = .ok (.iload 7, 2) := by decide +kernel
theorem dr_Pi_add_75 : decode bc_Pi_add 75 = .ok (.iconst (-1), 1) := by decide +kernel
theorem dr_Pi_add_76 : decode bc_Pi_add 76 = .ok (.iastore, 1) := by decide +kernel
theorem dr_Pi_add_77 : decode bc_Pi_add 77 = .ok (.iload 7, 2) := by decide +kernel
theorem dr_Pi_add_79 : decode bc_Pi_add 79 = .ok (.ireturn, 1) := by decide +kernel
theorem dr_Pi_join_0 : decode bc_Pi_join 0 = .ok (.aload_n 0, 1) := by decide +kernel
theorem dr_Pi_join_1 : decode bc_Pi_join 1 = .ok (.getfield 34, 3) := by decide +kernel
theorem dr_Pi_join_4 : decode bc_Pi_join 4 = .ok (.iload_n 1, 1) := by decide +kernel
theorem dr_Pi_join_5 : decode bc_Pi_join 5 = .ok (.iload_n 2, 1) := by decide +kernel
theorem dr_Pi_join_6 : decode bc_Pi_join 6 = .ok (.iastore, 1) := by decide +kernel
theorem dr_Pi_join_7 : decode bc_Pi_join 7 = .ok (.aload_n 0, 1) := by decide +kernel
theorem dr_Pi_join_8 : decode bc_Pi_join 8 = .ok (.getfield 34, 3) := by decide +kernel
theorem dr_Pi_join_11 : decode bc_Pi_join 11 = .ok (.iload_n 2, 1) := by decide +kernel
theorem dr_Pi_join_12 : decode bc_Pi_join 12 = .ok (.iload_n 1, 1) := by decide +kernel
theorem dr_Pi_join_13 : decode bc_Pi_join 13 = .ok (.iastore, 1) := by decide +kernel
theorem dr_Pi_join_14 : decode bc_Pi_join 14 = .ok (.aload_n 0, 1) := by decide +kernel
theorem dr_Pi_join_15 : decode bc_Pi_join 15 = .ok (.getfield 37, 3) := by decide +kernel
theorem dr_Pi_join_18 : decode bc_Pi_join 18 = .ok (.iload_n 2, 1) := by decide +kernel
theorem dr_Pi_join_19 : decode bc_Pi_join 19 = .ok (.iconst 1, 1) := by decide +kernel
theorem dr_Pi_join_20 : decode bc_Pi_join 20 = .ok (.bastore, 1) := by decide +kernel
theorem dr_Pi_join_21 : decode bc_Pi_join 21 = .ok (.return_, 1) := by decide +kernel
theorem dr_Pi_isPaired_0 : decode bc_Pi_isPaired 0 = .ok (.aload_n 0, 1) := by decide +kernel
theorem dr_Pi_isPaired_1 : decode bc_Pi_isPaired 1 = .ok (.getfield 34, 3) := by decide +kernel
theorem dr_Pi_isPaired_4 : decode bc_Pi_isPaired 4 = .ok (.iload_n 1, 1) := by decide +kernel
theorem dr_Pi_isPaired_5 : decode bc_Pi_isPaired 5 = .ok (.iaload, 1) := by decide +kernel
theorem dr_Pi_isPaired_6 : decode bc_Pi_isPaired 6 = .ok (.iconst (-1), 1) := by decide +kernel
theorem dr_Pi_isPaired_7 : decode bc_Pi_isPaired 7 = .ok (.if_icmp .eq 7, 3) := by decide +kernel
theorem dr_Pi_isPaired_10 : decode bc_Pi_isPaired 10 = .ok (.iconst 1, 1) := by decide +kernel
theorem dr_Pi_isPaired_11 : decode bc_Pi_isPaired 11 = .ok (.goto 4, 3) := by decide +kernel
theorem dr_Pi_isPaired_14 : decode bc_Pi_isPaired 14 = .ok (.iconst 0, 1) := by decide +kernel
theorem dr_Pi_isPaired_15 : decode bc_Pi_isPaired 15 = .ok (.ireturn, 1) := by decide +kernel
theorem dr_Pi_unitOf_0 : decode bc_Pi_unitOf 0 = .ok (.aload_n 0, 1) := by decide +kernel
theorem dr_Pi_unitOf_1 : decode bc_Pi_unitOf 1 = .ok (.getfield 37, 3) := by decide +kernel
theorem dr_Pi_unitOf_4 : decode bc_Pi_unitOf 4 = .ok (.iload_n 1, 1) := by decide +kernel
theorem dr_Pi_unitOf_5 : decode bc_Pi_unitOf 5 = .ok (.baload, 1) := by decide +kernel
theorem dr_Pi_unitOf_6 : decode bc_Pi_unitOf 6 = .ok (.ifCond .eq 12, 3) := by decide +kernel
theorem dr_Pi_unitOf_9 : decode bc_Pi_unitOf 9 = .ok (.aload_n 0, 1) := by decide +kernel
theorem dr_Pi_unitOf_10 : decode bc_Pi_unitOf 10 = .ok (.getfield 34, 3) := by decide +kernel
theorem dr_Pi_unitOf_13 : decode bc_Pi_unitOf 13 = .ok (.iload_n 1, 1) := by decide +kernel
theorem dr_Pi_unitOf_14 : decode bc_Pi_unitOf 14 = .ok (.iaload, 1) := by decide +kernel
theorem dr_Pi_unitOf_15 : decode bc_Pi_unitOf 15 = .ok (.goto 4, 3) := by decide +kernel
theorem dr_Pi_unitOf_18 : decode bc_Pi_unitOf 18 = .ok (.iload_n 1, 1) := by decide +kernel
theorem dr_Pi_unitOf_19 : decode bc_Pi_unitOf 19 = .ok (.ireturn, 1) := by decide +kernel
theorem dr_Pi_isUnitLocked_0 : decode bc_Pi_isUnitLocked 0 = .ok (.aload_n 0, 1) := by decide +kernel
theorem dr_Pi_isUnitLocked_1 : decode bc_Pi_isUnitLocked 1 = .ok (.getfield 41, 3) := by decide +kernel
theorem dr_Pi_isUnitLocked_4 : decode bc_Pi_isUnitLocked 4 = .ok (.iload_n 1, 1) := by decide +kernel
theorem dr_Pi_isUnitLocked_5 : decode bc_Pi_isUnitLocked 5 = .ok (.baload, 1) := by decide +kernel
theorem dr_Pi_isUnitLocked_6 : decode bc_Pi_isUnitLocked 6 = .ok (.ifCond .ne 25, 3) := by decide +kernel
theorem dr_Pi_isUnitLocked_9 : decode bc_Pi_isUnitLocked 9 = .ok (.aload_n 0, 1) := by decide +kernel
theorem dr_Pi_isUnitLocked_10 : decode bc_Pi_isUnitLocked 10 = .ok (.iload_n 1, 1) := by decide +kernel
theorem dr_Pi_isUnitLocked_11 : decode bc_Pi_isUnitLocked 11 = .ok (.invokevirtual 48, 3) := by decide +kernel
theorem dr_Pi_isUnitLocked_14 : decode bc_Pi_isUnitLocked 14 = .ok (.ifCond .eq 21, 3) := by decide +kernel
theorem dr_Pi_isUnitLocked_17 : decode bc_Pi_isUnitLocked 17 = .ok (.aload_n 0, 1) := by decide +kernel
theorem dr_Pi_isUnitLocked_18 : decode bc_Pi_isUnitLocked 18 = .ok (.getfield 41, 3) := by decide +kernel
theorem dr_Pi_isUnitLocked_21 : decode bc_Pi_isUnitLocked 21 = .ok (.aload_n 0, 1) := by decide +kernel
theorem dr_Pi_isUnitLocked_22 : decode bc_Pi_isUnitLocked 22 = .ok (.getfield 34, 3) := by decide +kernel
theorem dr_Pi_isUnitLocked_25 : decode bc_Pi_isUnitLocked 25 = .ok (.iload_n 1, 1) := by decide +kernel
theorem dr_Pi_isUnitLocked_26 : decode bc_Pi_isUnitLocked 26 = .ok (.iaload, 1) := by decide +kernel
theorem dr_Pi_isUnitLocked_27 : decode bc_Pi_isUnitLocked 27 = .ok (.baload, 1) := by decide +kernel
theorem dr_Pi_isUnitLocked_28 : decode bc_Pi_isUnitLocked 28 = .ok (.ifCond .eq 7, 3) := by decide +kernel
theorem dr_Pi_isUnitLocked_31 : decode bc_Pi_isUnitLocked 31 = .ok (.iconst 1, 1) := by decide +kernel
theorem dr_Pi_isUnitLocked_32 : decode bc_Pi_isUnitLocked 32 = .ok (.goto 4, 3) := by decide +kernel
theorem dr_Pi_isUnitLocked_35 : decode bc_Pi_isUnitLocked 35 = .ok (.iconst 0, 1) := by decide +kernel
theorem dr_Pi_isUnitLocked_36 : decode bc_Pi_isUnitLocked 36 = .ok (.ireturn, 1) := by decide +kernel
theorem dr_Pi_isFreeUnit_0 : decode bc_Pi_isFreeUnit 0 = .ok (.aload_n 0, 1) := by decide +kernel
theorem dr_Pi_isFreeUnit_1 : decode bc_Pi_isFreeUnit 1 = .ok (.getfield 37, 3) := by decide +kernel
theorem dr_Pi_isFreeUnit_4 : decode bc_Pi_isFreeUnit 4 = .ok (.iload_n 1, 1) := by decide +kernel
theorem dr_Pi_isFreeUnit_5 : decode bc_Pi_isFreeUnit 5 = .ok (.baload, 1) := by decide +kernel
theorem dr_Pi_isFreeUnit_6 : decode bc_Pi_isFreeUnit 6 = .ok (.ifCond .ne 24, 3) := by decide +kernel
theorem dr_Pi_isFreeUnit_9 : decode bc_Pi_isFreeUnit 9 = .ok (.aload_n 0, 1) := by decide +kernel
theorem dr_Pi_isFreeUnit_10 : decode bc_Pi_isFreeUnit 10 = .ok (.iload_n 1, 1) := by decide +kernel
theorem dr_Pi_isFreeUnit_11 : decode bc_Pi_isFreeUnit 11 = .ok (.invokevirtual 48, 3) := by decide +kernel
theorem dr_Pi_isFreeUnit_14 : decode bc_Pi_isFreeUnit 14 = .ok (.iload_n 2, 1) := by decide +kernel
theorem dr_Pi_isFreeUnit_15 : decode bc_Pi_isFreeUnit 15 = .ok (.if_icmp .ne 15, 3) := by decide +kernel
theorem dr_Pi_isFreeUnit_18 : decode bc_Pi_isFreeUnit 18 = .ok (.aload_n 0, 1) := by decide +kernel
theorem dr_Pi_isFreeUnit_19 : decode bc_Pi_isFreeUnit 19 = .ok (.iload_n 1, 1) := by decide +kernel
theorem dr_Pi_isFreeUnit_20 : decode bc_Pi_isFreeUnit 20 = .ok (.invokevirtual 52, 3) := by decide +kernel
theorem dr_Pi_isFreeUnit_23 : decode bc_Pi_isFreeUnit 23 = .ok (.ifCond .ne 7, 3) := by decide +kernel
theorem dr_Pi_isFreeUnit_26 : decode bc_Pi_isFreeUnit 26 = .ok (.iconst 1, 1) := by decide +kernel
theorem dr_Pi_isFreeUnit_27 : decode bc_Pi_isFreeUnit 27 = .ok (.goto 4, 3) := by decide +kernel
theorem dr_Pi_isFreeUnit_30 : decode bc_Pi_isFreeUnit 30 = .ok (.iconst 0, 1) := by decide +kernel
theorem dr_Pi_isFreeUnit_31 : decode bc_Pi_isFreeUnit 31 = .ok (.ireturn, 1) := by decide +kernel
theorem dr_Pi_nthMoved_0 : decode bc_Pi_nthMoved 0 = .ok (.iconst 0, 1) := by decide +kernel
theorem dr_Pi_nthMoved_1 : decode bc_Pi_nthMoved 1 = .ok (.istore_n 2, 1) := by decide +kernel
theorem dr_Pi_nthMoved_2 : decode bc_Pi_nthMoved 2 = .ok (.iconst 0, 1) := by decide +kernel
theorem dr_Pi_nthMoved_3 : decode bc_Pi_nthMoved 3 = .ok (.istore_n 3, 1) := by decide +kernel
theorem dr_Pi_nthMoved_4 : decode bc_Pi_nthMoved 4 = .ok (.iload_n 3, 1) := by decide +kernel
theorem dr_Pi_nthMoved_5 : decode bc_Pi_nthMoved 5 = .ok (.aload_n 0, 1) := by decide +kernel
theorem dr_Pi_nthMoved_6 : decode bc_Pi_nthMoved 6 = .ok (.getfield 44, 3) := by decide +kernel
theorem dr_Pi_nthMoved_9 : decode bc_Pi_nthMoved 9 = .ok (.if_icmp .ge 34, 3) := by decide +kernel
theorem dr_Pi_nthMoved_12 : decode bc_Pi_nthMoved 12 = .ok (.aload_n 0, 1) := by decide +kernel
theorem dr_Pi_nthMoved_13 : decode bc_Pi_nthMoved 13 = .ok (.getfield 28, 3) := by decide +kernel
theorem dr_Pi_nthMoved_16 : decode bc_Pi_nthMoved 16 = .ok (.iload_n 3, 1) := by decide +kernel
theorem dr_Pi_nthMoved_17 : decode bc_Pi_nthMoved 17 = .ok (.iaload, 1) := by decide +kernel
theorem dr_Pi_nthMoved_18 : decode bc_Pi_nthMoved 18 = .ok (.aload_n 0, 1) := by decide +kernel
theorem dr_Pi_nthMoved_19 : decode bc_Pi_nthMoved 19 = .ok (.getfield 31, 3) := by decide +kernel
theorem dr_Pi_nthMoved_22 : decode bc_Pi_nthMoved 22 = .ok (.iload_n 3, 1) := by decide +kernel
theorem dr_Pi_nthMoved_23 : decode bc_Pi_nthMoved 23 = .ok (.iaload, 1) := by decide +kernel
theorem dr_Pi_nthMoved_24 : decode bc_Pi_nthMoved 24 = .ok (.if_icmp .eq 13, 3) := by decide +kernel
theorem dr_Pi_nthMoved_27 : decode bc_Pi_nthMoved 27 = .ok (.iload_n 2, 1) := by decide +kernel
theorem dr_Pi_nthMoved_28 : decode bc_Pi_nthMoved 28 = .ok (.iload_n 1, 1) := by decide +kernel
theorem dr_Pi_nthMoved_29 : decode bc_Pi_nthMoved 29 = .ok (.if_icmp .ne 5, 3) := by decide +kernel
theorem dr_Pi_nthMoved_32 : decode bc_Pi_nthMoved 32 = .ok (.iload_n 3, 1) := by decide +kernel
theorem dr_Pi_nthMoved_33 : decode bc_Pi_nthMoved 33 = .ok (.ireturn, 1) := by decide +kernel
theorem dr_Pi_nthMoved_34 : decode bc_Pi_nthMoved 34 = .ok (.iinc 2 1, 3) := by decide +kernel
theorem dr_Pi_nthMoved_37 : decode bc_Pi_nthMoved 37 = .ok (.iinc 3 1, 3) := by decide +kernel
theorem dr_Pi_nthMoved_40 : decode bc_Pi_nthMoved 40 = .ok (.goto (-36), 3) := by decide +kernel
theorem dr_Pi_nthMoved_43 : decode bc_Pi_nthMoved 43 = .ok (.iconst (-1), 1) := by decide +kernel
theorem dr_Pi_nthMoved_44 : decode bc_Pi_nthMoved 44 = .ok (.ireturn, 1) := by decide +kernel
theorem dr_Lw_pin_0 : decode bc_Lw_pin 0 = .ok (.aload 7, 2) := by decide +kernel
theorem dr_Lw_pin_2 : decode bc_Lw_pin 2 = .ok (.iconst 0, 1) := by decide +kernel
theorem dr_Lw_pin_3 : decode bc_Lw_pin 3 = .ok (.aload_n 0, 1) := by decide +kernel
theorem dr_Lw_pin_4 : decode bc_Lw_pin 4 = .ok (.iload_n 1, 1) := by decide +kernel
theorem dr_Lw_pin_5 : decode bc_Lw_pin 5 = .ok (.lload_n 2, 1) := by decide +kernel
theorem dr_Lw_pin_6 : decode bc_Lw_pin 6 = .ok (.lload 4, 2) := by decide +kernel
theorem dr_Lw_pin_8 : decode bc_Lw_pin 8 = .ok (.iload 6, 2) := by decide +kernel
theorem dr_Lw_pin_10 : decode bc_Lw_pin 10 = .ok (.invokevirtual 7, 3) := by decide +kernel
theorem dr_Lw_pin_13 : decode bc_Lw_pin 13 = .ok (.i2l, 1) := by decide +kernel
theorem dr_Lw_pin_14 : decode bc_Lw_pin 14 = .ok (.lastore, 1) := by decide +kernel
theorem dr_Lw_pin_15 : decode bc_Lw_pin 15 = .ok (.goto 11, 3) := by decide +kernel
theorem dr_Lw_pin_18 : decode bc_Lw_pin 18 = .ok (.astore 8, 2) := by decide +kernel
theorem dr_Lw_pin_20 : decode bc_Lw_pin 20 = .ok (.iconst 1, 1) := by decide +kernel
theorem dr_Lw_pin_21 : decode bc_Lw_pin 21 = .ok (.ireturn, 1) := by decide +kernel
theorem dr_Lw_pin_22 : decode bc_Lw_pin 22 = .ok (.astore 8, 2) := by decide +kernel
theorem dr_Lw_pin_24 : decode bc_Lw_pin 24 = .ok (.iconst 2, 1) := by decide +kernel
theorem dr_Lw_pin_25 : decode bc_Lw_pin 25 = .ok (.ireturn, 1) := by decide +kernel
theorem dr_Lw_pin_26 : decode bc_Lw_pin 26 = .ok (.iconst 0, 1) := by decide +kernel
theorem dr_Lw_pin_27 : decode bc_Lw_pin 27 = .ok (.ireturn, 1) := by decide +kernel
theorem dr_Lw_target_0 : decode bc_Lw_target 0 = .ok (.aload 6, 2) := by decide +kernel
theorem dr_Lw_target_2 : decode bc_Lw_target 2 = .ok (.iconst 0, 1) := by decide +kernel
theorem dr_Lw_target_3 : decode bc_Lw_target 3 = .ok (.aload_n 0, 1) := by decide +kernel
theorem dr_Lw_target_4 : decode bc_Lw_target 4 = .ok (.iload_n 1, 1) := by decide +kernel
theorem dr_Lw_target_5 : decode bc_Lw_target 5 = .ok (.lload_n 2, 1) := by decide +kernel
theorem dr_Lw_target_6 : decode bc_Lw_target 6 = .ok (.lload 4, 2) := by decide +kernel
theorem dr_Lw_target_8 : decode bc_Lw_target 8 = .ok (.invokevirtual 17, 3) := by decide +kernel
theorem dr_Lw_target_11 : decode bc_Lw_target 11 = .ok (.ifCond .eq 7, 3) := by decide +kernel
theorem dr_Lw_target_14 : decode bc_Lw_target 14 = .ok (.lconst 1, 1) := by decide +kernel
theorem dr_Lw_target_15 : decode bc_Lw_target 15 = .ok (.goto 4, 3) := by decide +kernel
theorem dr_Lw_target_18 : decode bc_Lw_target 18 = .ok (.lconst 0, 1) := by decide +kernel
theorem dr_Lw_target_19 : decode bc_Lw_target 19 = .ok (.lastore, 1) := by decide +kernel
theorem dr_Lw_target_20 : decode bc_Lw_target 20 = .ok (.goto 11, 3) := by decide +kernel
theorem dr_Lw_target_23 : decode bc_Lw_target 23 = .ok (.astore 7, 2) := by decide +kernel
theorem dr_Lw_target_25 : decode bc_Lw_target 25 = .ok (.iconst 1, 1) := by decide +kernel
theorem dr_Lw_target_26 : decode bc_Lw_target 26 = .ok (.ireturn, 1) := by decide +kernel
theorem dr_Lw_target_27 : decode bc_Lw_target 27 = .ok (.astore 7, 2) := by decide +kernel
theorem dr_Lw_target_29 : decode bc_Lw_target 29 = .ok (.iconst 2, 1) := by decide +kernel
theorem dr_Lw_target_30 : decode bc_Lw_target 30 = .ok (.ireturn, 1) := by decide +kernel
theorem dr_Lw_target_31 : decode bc_Lw_target 31 = .ok (.iconst 0, 1) := by decide +kernel
theorem dr_Lw_target_32 : decode bc_Lw_target 32 = .ok (.ireturn, 1) := by decide +kernel
theorem dr_Lw_lock_0 : decode bc_Lw_lock 0 = .ok (.aload_n 2, 1) := by decide +kernel
theorem dr_Lw_lock_1 : decode bc_Lw_lock 1 = .ok (.iconst 0, 1) := by decide +kernel
theorem dr_Lw_lock_2 : decode bc_Lw_lock 2 = .ok (.aload_n 0, 1) := by decide +kernel
theorem dr_Lw_lock_3 : decode bc_Lw_lock 3 = .ok (.iload_n 1, 1) := by decide +kernel
theorem dr_Lw_lock_4 : decode bc_Lw_lock 4 = .ok (.invokevirtual 21, 3) := by decide +kernel
theorem dr_Lw_lock_7 : decode bc_Lw_lock 7 = .ok (.ifCond .eq 7, 3) := by decide +kernel
theorem dr_Lw_lock_10 : decode bc_Lw_lock 10 = .ok (.lconst 1, 1) := by decide +kernel
theorem dr_Lw_lock_11 : decode bc_Lw_lock 11 = .ok (.goto 4, 3) := by decide +kernel
theorem dr_Lw_lock_14 : decode bc_Lw_lock 14 = .ok (.lconst 0, 1) := by decide +kernel
theorem dr_Lw_lock_15 : decode bc_Lw_lock 15 = .ok (.lastore, 1) := by decide +kernel
theorem dr_Lw_lock_16 : decode bc_Lw_lock 16 = .ok (.goto 6, 3) := by decide +kernel
theorem dr_Lw_lock_19 : decode bc_Lw_lock 19 = .ok (.astore_n 3, 1) := by decide +kernel
theorem dr_Lw_lock_20 : decode bc_Lw_lock 20 = .ok (.iconst 1, 1) := by decide +kernel
theorem dr_Lw_lock_21 : decode bc_Lw_lock 21 = .ok (.ireturn, 1) := by decide +kernel
theorem dr_Lw_lock_22 : decode bc_Lw_lock 22 = .ok (.iconst 0, 1) := by decide +kernel
theorem dr_Lw_lock_23 : decode bc_Lw_lock 23 = .ok (.ireturn, 1) := by decide +kernel
theorem dr_Lw_pair_0 : decode bc_Lw_pair 0 = .ok (.aload_n 3, 1) := by decide +kernel
theorem dr_Lw_pair_1 : decode bc_Lw_pair 1 = .ok (.iconst 0, 1) := by decide +kernel
theorem dr_Lw_pair_2 : decode bc_Lw_pair 2 = .ok (.aload_n 0, 1) := by decide +kernel
theorem dr_Lw_pair_3 : decode bc_Lw_pair 3 = .ok (.iload_n 1, 1) := by decide +kernel
theorem dr_Lw_pair_4 : decode bc_Lw_pair 4 = .ok (.iload_n 2, 1) := by decide +kernel
theorem dr_Lw_pair_5 : decode bc_Lw_pair 5 = .ok (.invokevirtual 25, 3) := by decide +kernel
theorem dr_Lw_pair_8 : decode bc_Lw_pair 8 = .ok (.ifCond .eq 7, 3) := by decide +kernel
theorem dr_Lw_pair_11 : decode bc_Lw_pair 11 = .ok (.lconst 1, 1) := by decide +kernel
theorem dr_Lw_pair_12 : decode bc_Lw_pair 12 = .ok (.goto 4, 3) := by decide +kernel
theorem dr_Lw_pair_15 : decode bc_Lw_pair 15 = .ok (.lconst 0, 1) := by decide +kernel
theorem dr_Lw_pair_16 : decode bc_Lw_pair 16 = .ok (.lastore, 1) := by decide +kernel
theorem dr_Lw_pair_17 : decode bc_Lw_pair 17 = .ok (.goto 7, 3) := by decide +kernel
theorem dr_Lw_pair_20 : decode bc_Lw_pair 20 = .ok (.astore 4, 2) := by decide +kernel
theorem dr_Lw_pair_22 : decode bc_Lw_pair 22 = .ok (.iconst 1, 1) := by decide +kernel
theorem dr_Lw_pair_23 : decode bc_Lw_pair 23 = .ok (.ireturn, 1) := by decide +kernel
theorem dr_Lw_pair_24 : decode bc_Lw_pair 24 = .ok (.iconst 0, 1) := by decide +kernel
theorem dr_Lw_pair_25 : decode bc_Lw_pair 25 = .ok (.ireturn, 1) := by decide +kernel
theorem dr_Lw_bank_0 : decode bc_Lw_bank 0 = .ok (.aload_n 3, 1) := by decide +kernel
theorem dr_Lw_bank_1 : decode bc_Lw_bank 1 = .ok (.iconst 0, 1) := by decide +kernel
theorem dr_Lw_bank_2 : decode bc_Lw_bank 2 = .ok (.aload_n 0, 1) := by decide +kernel
theorem dr_Lw_bank_3 : decode bc_Lw_bank 3 = .ok (.iload_n 1, 1) := by decide +kernel
theorem dr_Lw_bank_4 : decode bc_Lw_bank 4 = .ok (.iload_n 2, 1) := by decide +kernel
theorem dr_Lw_bank_5 : decode bc_Lw_bank 5 = .ok (.invokevirtual 29, 3) := by decide +kernel
theorem dr_Lw_bank_8 : decode bc_Lw_bank 8 = .ok (.ifCond .eq 7, 3) := by decide +kernel
theorem dr_Lw_bank_11 : decode bc_Lw_bank 11 = .ok (.lconst 1, 1) := by decide +kernel
theorem dr_Lw_bank_12 : decode bc_Lw_bank 12 = .ok (.goto 4, 3) := by decide +kernel
theorem dr_Lw_bank_15 : decode bc_Lw_bank 15 = .ok (.lconst 0, 1) := by decide +kernel
theorem dr_Lw_bank_16 : decode bc_Lw_bank 16 = .ok (.lastore, 1) := by decide +kernel
theorem dr_Lw_bank_17 : decode bc_Lw_bank 17 = .ok (.goto 11, 3) := by decide +kernel
theorem dr_Lw_bank_20 : decode bc_Lw_bank 20 = .ok (.astore 4, 2) := by decide +kernel
theorem dr_Lw_bank_22 : decode bc_Lw_bank 22 = .ok (.iconst 1, 1) := by decide +kernel
theorem dr_Lw_bank_23 : decode bc_Lw_bank 23 = .ok (.ireturn, 1) := by decide +kernel
theorem dr_Lw_bank_24 : decode bc_Lw_bank 24 = .ok (.astore 4, 2) := by decide +kernel
theorem dr_Lw_bank_26 : decode bc_Lw_bank 26 = .ok (.iconst 2, 1) := by decide +kernel
theorem dr_Lw_bank_27 : decode bc_Lw_bank 27 = .ok (.ireturn, 1) := by decide +kernel
theorem dr_Lw_bank_28 : decode bc_Lw_bank 28 = .ok (.iconst 0, 1) := by decide +kernel
theorem dr_Lw_bank_29 : decode bc_Lw_bank 29 = .ok (.ireturn, 1) := by decide +kernel
theorem dr_Lw_needs_0 : decode bc_Lw_needs 0 = .ok (.aload_n 3, 1) := by decide +kernel
theorem dr_Lw_needs_1 : decode bc_Lw_needs 1 = .ok (.iconst 0, 1) := by decide +kernel
theorem dr_Lw_needs_2 : decode bc_Lw_needs 2 = .ok (.aload_n 0, 1) := by decide +kernel
theorem dr_Lw_needs_3 : decode bc_Lw_needs 3 = .ok (.iload_n 1, 1) := by decide +kernel
theorem dr_Lw_needs_4 : decode bc_Lw_needs 4 = .ok (.iload_n 2, 1) := by decide +kernel
theorem dr_Lw_needs_5 : decode bc_Lw_needs 5 = .ok (.invokevirtual 32, 3) := by decide +kernel
theorem dr_Lw_needs_8 : decode bc_Lw_needs 8 = .ok (.ifCond .eq 7, 3) := by decide +kernel
theorem dr_Lw_needs_11 : decode bc_Lw_needs 11 = .ok (.lconst 1, 1) := by decide +kernel
theorem dr_Lw_needs_12 : decode bc_Lw_needs 12 = .ok (.goto 4, 3) := by decide +kernel
theorem dr_Lw_needs_15 : decode bc_Lw_needs 15 = .ok (.lconst 0, 1) := by decide +kernel
theorem dr_Lw_needs_16 : decode bc_Lw_needs 16 = .ok (.lastore, 1) := by decide +kernel
theorem dr_Lw_needs_17 : decode bc_Lw_needs 17 = .ok (.goto 11, 3) := by decide +kernel
theorem dr_Lw_needs_20 : decode bc_Lw_needs 20 = .ok (.astore 4, 2) := by decide +kernel
theorem dr_Lw_needs_22 : decode bc_Lw_needs 22 = .ok (.iconst 1, 1) := by decide +kernel
theorem dr_Lw_needs_23 : decode bc_Lw_needs 23 = .ok (.ireturn, 1) := by decide +kernel
theorem dr_Lw_needs_24 : decode bc_Lw_needs 24 = .ok (.astore 4, 2) := by decide +kernel
theorem dr_Lw_needs_26 : decode bc_Lw_needs 26 = .ok (.iconst 2, 1) := by decide +kernel
theorem dr_Lw_needs_27 : decode bc_Lw_needs 27 = .ok (.ireturn, 1) := by decide +kernel
theorem dr_Lw_needs_28 : decode bc_Lw_needs 28 = .ok (.iconst 0, 1) := by decide +kernel
theorem dr_Lw_needs_29 : decode bc_Lw_needs 29 = .ok (.ireturn, 1) := by decide +kernel
theorem dr_Lw_netOf_0 : decode bc_Lw_netOf 0 = .ok (.aload_n 2, 1) := by decide +kernel
theorem dr_Lw_netOf_1 : decode bc_Lw_netOf 1 = .ok (.iconst 0, 1) := by decide +kernel
theorem dr_Lw_netOf_2 : decode bc_Lw_netOf 2 = .ok (.aload_n 0, 1) := by decide +kernel
theorem dr_Lw_netOf_3 : decode bc_Lw_netOf 3 = .ok (.iload_n 1, 1) := by decide +kernel
theorem dr_Lw_netOf_4 : decode bc_Lw_netOf 4 = .ok (.invokevirtual 35, 3) := by decide +kernel
theorem dr_Lw_netOf_7 : decode bc_Lw_netOf 7 = .ok (.i2l, 1) := by decide +kernel
theorem dr_Lw_netOf_8 : decode bc_Lw_netOf 8 = .ok (.lastore, 1) := by decide +kernel
theorem dr_Lw_netOf_9 : decode bc_Lw_netOf 9 = .ok (.goto 6, 3) := by decide +kernel
theorem dr_Lw_netOf_12 : decode bc_Lw_netOf 12 = .ok (.astore_n 3, 1) := by decide +kernel
theorem dr_Lw_netOf_13 : decode bc_Lw_netOf 13 = .ok (.iconst 1, 1) := by decide +kernel
theorem dr_Lw_netOf_14 : decode bc_Lw_netOf 14 = .ok (.ireturn, 1) := by decide +kernel
theorem dr_Lw_netOf_15 : decode bc_Lw_netOf 15 = .ok (.iconst 0, 1) := by decide +kernel
theorem dr_Lw_netOf_16 : decode bc_Lw_netOf 16 = .ok (.ireturn, 1) := by decide +kernel
theorem dr_Lw_dual_0 : decode bc_Lw_dual 0 = .ok (.aload_n 3, 1) := by decide +kernel
theorem dr_Lw_dual_1 : decode bc_Lw_dual 1 = .ok (.iconst 0, 1) := by decide +kernel
theorem dr_Lw_dual_2 : decode bc_Lw_dual 2 = .ok (.aload_n 0, 1) := by decide +kernel
theorem dr_Lw_dual_3 : decode bc_Lw_dual 3 = .ok (.iload_n 1, 1) := by decide +kernel
theorem dr_Lw_dual_4 : decode bc_Lw_dual 4 = .ok (.iload_n 2, 1) := by decide +kernel
theorem dr_Lw_dual_5 : decode bc_Lw_dual 5 = .ok (.invokevirtual 39, 3) := by decide +kernel
theorem dr_Lw_dual_8 : decode bc_Lw_dual 8 = .ok (.lastore, 1) := by decide +kernel
theorem dr_Lw_dual_9 : decode bc_Lw_dual 9 = .ok (.goto 7, 3) := by decide +kernel
theorem dr_Lw_dual_12 : decode bc_Lw_dual 12 = .ok (.astore 4, 2) := by decide +kernel
theorem dr_Lw_dual_14 : decode bc_Lw_dual 14 = .ok (.iconst 1, 1) := by decide +kernel
theorem dr_Lw_dual_15 : decode bc_Lw_dual 15 = .ok (.ireturn, 1) := by decide +kernel
theorem dr_Lw_dual_16 : decode bc_Lw_dual 16 = .ok (.iconst 0, 1) := by decide +kernel
theorem dr_Lw_dual_17 : decode bc_Lw_dual 17 = .ok (.ireturn, 1) := by decide +kernel
theorem dr_Lw_note_0 : decode bc_Lw_note 0 = .ok (.aload_n 3, 1) := by decide +kernel
theorem dr_Lw_note_1 : decode bc_Lw_note 1 = .ok (.iconst 0, 1) := by decide +kernel
theorem dr_Lw_note_2 : decode bc_Lw_note 2 = .ok (.aload_n 0, 1) := by decide +kernel
theorem dr_Lw_note_3 : decode bc_Lw_note 3 = .ok (.iload_n 1, 1) := by decide +kernel
theorem dr_Lw_note_4 : decode bc_Lw_note 4 = .ok (.iload_n 2, 1) := by decide +kernel
theorem dr_Lw_note_5 : decode bc_Lw_note 5 = .ok (.invokevirtual 43, 3) := by decide +kernel
theorem dr_Lw_note_8 : decode bc_Lw_note 8 = .ok (.i2l, 1) := by decide +kernel
theorem dr_Lw_note_9 : decode bc_Lw_note 9 = .ok (.lastore, 1) := by decide +kernel
theorem dr_Lw_note_10 : decode bc_Lw_note 10 = .ok (.goto 7, 3) := by decide +kernel
theorem dr_Lw_note_13 : decode bc_Lw_note 13 = .ok (.astore 4, 2) := by decide +kernel
theorem dr_Lw_note_15 : decode bc_Lw_note 15 = .ok (.iconst 1, 1) := by decide +kernel
theorem dr_Lw_note_16 : decode bc_Lw_note 16 = .ok (.ireturn, 1) := by decide +kernel
theorem dr_Lw_note_17 : decode bc_Lw_note 17 = .ok (.iconst 0, 1) := by decide +kernel
theorem dr_Lw_note_18 : decode bc_Lw_note 18 = .ok (.ireturn, 1) := by decide +kernel
theorem dr_Lw_gate_0 : decode bc_Lw_gate 0 = .ok (.aload_n 2, 1) := by decide +kernel
theorem dr_Lw_gate_1 : decode bc_Lw_gate 1 = .ok (.iconst 0, 1) := by decide +kernel
theorem dr_Lw_gate_2 : decode bc_Lw_gate 2 = .ok (.aload_n 0, 1) := by decide +kernel
theorem dr_Lw_gate_3 : decode bc_Lw_gate 3 = .ok (.iload_n 1, 1) := by decide +kernel
theorem dr_Lw_gate_4 : decode bc_Lw_gate 4 = .ok (.invokevirtual 47, 3) := by decide +kernel
theorem dr_Lw_gate_7 : decode bc_Lw_gate 7 = .ok (.i2l, 1) := by decide +kernel
theorem dr_Lw_gate_8 : decode bc_Lw_gate 8 = .ok (.lastore, 1) := by decide +kernel
theorem dr_Lw_gate_9 : decode bc_Lw_gate 9 = .ok (.goto 6, 3) := by decide +kernel
theorem dr_Lw_gate_12 : decode bc_Lw_gate 12 = .ok (.astore_n 3, 1) := by decide +kernel
theorem dr_Lw_gate_13 : decode bc_Lw_gate 13 = .ok (.iconst 1, 1) := by decide +kernel
theorem dr_Lw_gate_14 : decode bc_Lw_gate 14 = .ok (.ireturn, 1) := by decide +kernel
theorem dr_Lw_gate_15 : decode bc_Lw_gate 15 = .ok (.iconst 0, 1) := by decide +kernel
theorem dr_Lw_gate_16 : decode bc_Lw_gate 16 = .ok (.ireturn, 1) := by decide +kernel
theorem dr_Lw_equalGate_0 : decode bc_Lw_equalGate 0 = .ok (.aload_n 3, 1) := by decide +kernel
theorem dr_Lw_equalGate_1 : decode bc_Lw_equalGate 1 = .ok (.iconst 0, 1) := by decide +kernel
theorem dr_Lw_equalGate_2 : decode bc_Lw_equalGate 2 = .ok (.aload_n 0, 1) := by decide +kernel
theorem dr_Lw_equalGate_3 : decode bc_Lw_equalGate 3 = .ok (.iload_n 1, 1) := by decide +kernel
theorem dr_Lw_equalGate_4 : decode bc_Lw_equalGate 4 = .ok (.iload_n 2, 1) := by decide +kernel
theorem dr_Lw_equalGate_5 : decode bc_Lw_equalGate 5 = .ok (.invokevirtual 50, 3) := by decide +kernel
theorem dr_Lw_equalGate_8 : decode bc_Lw_equalGate 8 = .ok (.ifCond .eq 7, 3) := by decide +kernel
theorem dr_Lw_equalGate_11 : decode bc_Lw_equalGate 11 = .ok (.lconst 1, 1) := by decide +kernel
theorem dr_Lw_equalGate_12 : decode bc_Lw_equalGate 12 = .ok (.goto 4, 3) := by decide +kernel
theorem dr_Lw_equalGate_15 : decode bc_Lw_equalGate 15 = .ok (.lconst 0, 1) := by decide +kernel
theorem dr_Lw_equalGate_16 : decode bc_Lw_equalGate 16 = .ok (.lastore, 1) := by decide +kernel
theorem dr_Lw_equalGate_17 : decode bc_Lw_equalGate 17 = .ok (.goto 7, 3) := by decide +kernel
theorem dr_Lw_equalGate_20 : decode bc_Lw_equalGate 20 = .ok (.astore 4, 2) := by decide +kernel
theorem dr_Lw_equalGate_22 : decode bc_Lw_equalGate 22 = .ok (.iconst 1, 1) := by decide +kernel
theorem dr_Lw_equalGate_23 : decode bc_Lw_equalGate 23 = .ok (.ireturn, 1) := by decide +kernel
theorem dr_Lw_equalGate_24 : decode bc_Lw_equalGate 24 = .ok (.iconst 0, 1) := by decide +kernel
theorem dr_Lw_equalGate_25 : decode bc_Lw_equalGate 25 = .ok (.ireturn, 1) := by decide +kernel
theorem dr_Lw_law_0 : decode bc_Lw_law 0 = .ok (.new 8, 3) := by decide +kernel
theorem dr_Lw_law_3 : decode bc_Lw_law 3 = .ok (.dup, 1) := by decide +kernel
theorem dr_Lw_law_4 : decode bc_Lw_law 4 = .ok (.invokespecial 53, 3) := by decide +kernel
theorem dr_Lw_law_7 : decode bc_Lw_law 7 = .ok (.astore_n 1, 1) := by decide +kernel
theorem dr_Lw_law_8 : decode bc_Lw_law 8 = .ok (.new 54, 3) := by decide +kernel
theorem dr_Lw_law_11 : decode bc_Lw_law 11 = .ok (.dup, 1) := by decide +kernel
theorem dr_Lw_law_12 : decode bc_Lw_law 12 = .ok (.invokespecial 56, 3) := by decide +kernel
theorem dr_Lw_law_15 : decode bc_Lw_law 15 = .ok (.astore_n 2, 1) := by decide +kernel
theorem dr_Lw_law_16 : decode bc_Lw_law 16 = .ok (.iconst 1, 1) := by decide +kernel
theorem dr_Lw_law_17 : decode bc_Lw_law 17 = .ok (.newarray .long, 2) := by decide +kernel
theorem dr_Lw_law_19 : decode bc_Lw_law 19 = .ok (.astore_n 3, 1) := by decide +kernel
theorem dr_Lw_law_20 : decode bc_Lw_law 20 = .ok (.iconst 0, 1) := by decide +kernel
theorem dr_Lw_law_21 : decode bc_Lw_law 21 = .ok (.istore 4, 2) := by decide +kernel
theorem dr_Lw_law_23 : decode bc_Lw_law 23 = .ok (.iload 4, 2) := by decide +kernel
theorem dr_Lw_law_25 : decode bc_Lw_law 25 = .ok (.aload_n 0, 1) := by decide +kernel
theorem dr_Lw_law_26 : decode bc_Lw_law 26 = .ok (.arraylength, 1) := by decide +kernel
theorem dr_Lw_law_27 : decode bc_Lw_law 27 = .ok (.bipush 7, 2) := by decide +kernel
theorem dr_Lw_law_29 : decode bc_Lw_law 29 = .ok (.isub, 1) := by decide +kernel
theorem dr_Lw_law_30 : decode bc_Lw_law 30 = .ok (.if_icmp .gt 1099, 3) := by decide +kernel
theorem dr_Lw_law_33 : decode bc_Lw_law 33 = .ok (.aload_n 0, 1) := by decide +kernel
theorem dr_Lw_law_34 : decode bc_Lw_law 34 = .ok (.iload 4, 2) := by decide +kernel
theorem dr_Lw_law_36 : decode bc_Lw_law 36 = .ok (.iaload, 1) := by decide +kernel
theorem dr_Lw_law_37 : decode bc_Lw_law 37 = .ok (.bipush 31, 2) := by decide +kernel
theorem dr_Lw_law_39 : decode bc_Lw_law 39 = .ok (.iand, 1) := by decide +kernel
theorem dr_Lw_law_40 : decode bc_Lw_law 40 = .ok (.tableswitch 1083 0 16 #[84, 97, 255, 406, 469, 544, 619, 694, 707, 763, 777, 791, 858, 926, 982, 1057, 1070], 84) := by decide +kernel
theorem dr_Lw_law_124 : decode bc_Lw_law 124 = .ok (.aload_n 1, 1) := by decide +kernel
theorem dr_Lw_law_125 : decode bc_Lw_law 125 = .ok (.invokevirtual 57, 3) := by decide +kernel
theorem dr_Lw_law_128 : decode bc_Lw_law 128 = .ok (.aload_n 2, 1) := by decide +kernel
theorem dr_Lw_law_129 : decode bc_Lw_law 129 = .ok (.invokevirtual 61, 3) := by decide +kernel
theorem dr_Lw_law_132 : decode bc_Lw_law 132 = .ok (.if_icmp .eq 991, 3) := by decide +kernel
theorem dr_Lw_law_135 : decode bc_Lw_law 135 = .ok (.iconst 0, 1) := by decide +kernel
theorem dr_Lw_law_136 : decode bc_Lw_law 136 = .ok (.ireturn, 1) := by decide +kernel
theorem dr_Lw_law_137 : decode bc_Lw_law 137 = .ok (.aload_n 1, 1) := by decide +kernel
theorem dr_Lw_law_138 : decode bc_Lw_law 138 = .ok (.aload_n 0, 1) := by decide +kernel
theorem dr_Lw_law_139 : decode bc_Lw_law 139 = .ok (.iload 4, 2) := by decide +kernel
theorem dr_Lw_law_141 : decode bc_Lw_law 141 = .ok (.iconst 1, 1) := by decide +kernel
theorem dr_Lw_law_142 : decode bc_Lw_law 142 = .ok (.iadd, 1) := by decide +kernel
theorem dr_Lw_law_143 : decode bc_Lw_law 143 = .ok (.iaload, 1) := by decide +kernel
theorem dr_Lw_law_144 : decode bc_Lw_law 144 = .ok (.aload_n 0, 1) := by decide +kernel
theorem dr_Lw_law_145 : decode bc_Lw_law 145 = .ok (.iload 4, 2) := by decide +kernel
theorem dr_Lw_law_147 : decode bc_Lw_law 147 = .ok (.iconst 2, 1) := by decide +kernel
theorem dr_Lw_law_148 : decode bc_Lw_law 148 = .ok (.iadd, 1) := by decide +kernel
theorem dr_Lw_law_149 : decode bc_Lw_law 149 = .ok (.iaload, 1) := by decide +kernel
theorem dr_Lw_law_150 : decode bc_Lw_law 150 = .ok (.i2l, 1) := by decide +kernel
theorem dr_Lw_law_151 : decode bc_Lw_law 151 = .ok (.bipush 32, 2) := by decide +kernel
theorem dr_Lw_law_153 : decode bc_Lw_law 153 = .ok (.lshl, 1) := by decide +kernel
theorem dr_Lw_law_154 : decode bc_Lw_law 154 = .ok (.aload_n 0, 1) := by decide +kernel
theorem dr_Lw_law_155 : decode bc_Lw_law 155 = .ok (.iload 4, 2) := by decide +kernel
theorem dr_Lw_law_157 : decode bc_Lw_law 157 = .ok (.iconst 3, 1) := by decide +kernel
theorem dr_Lw_law_158 : decode bc_Lw_law 158 = .ok (.iadd, 1) := by decide +kernel
theorem dr_Lw_law_159 : decode bc_Lw_law 159 = .ok (.iaload, 1) := by decide +kernel
theorem dr_Lw_law_160 : decode bc_Lw_law 160 = .ok (.i2l, 1) := by decide +kernel
theorem dr_Lw_law_161 : decode bc_Lw_law 161 = .ok (.ldc2_w 62, 3) := by decide +kernel
theorem dr_Lw_law_164 : decode bc_Lw_law 164 = .ok (.land, 1) := by decide +kernel
theorem dr_Lw_law_165 : decode bc_Lw_law 165 = .ok (.lor, 1) := by decide +kernel
theorem dr_Lw_law_166 : decode bc_Lw_law 166 = .ok (.aload_n 0, 1) := by decide +kernel
theorem dr_Lw_law_167 : decode bc_Lw_law 167 = .ok (.iload 4, 2) := by decide +kernel
theorem dr_Lw_law_169 : decode bc_Lw_law 169 = .ok (.iconst 4, 1) := by decide +kernel
theorem dr_Lw_law_170 : decode bc_Lw_law 170 = .ok (.iadd, 1) := by decide +kernel
theorem dr_Lw_law_171 : decode bc_Lw_law 171 = .ok (.iaload, 1) := by decide +kernel
theorem dr_Lw_law_172 : decode bc_Lw_law 172 = .ok (.i2l, 1) := by decide +kernel
theorem dr_Lw_law_173 : decode bc_Lw_law 173 = .ok (.bipush 32, 2) := by decide +kernel
theorem dr_Lw_law_175 : decode bc_Lw_law 175 = .ok (.lshl, 1) := by decide +kernel
theorem dr_Lw_law_176 : decode bc_Lw_law 176 = .ok (.aload_n 0, 1) := by decide +kernel
theorem dr_Lw_law_177 : decode bc_Lw_law 177 = .ok (.iload 4, 2) := by decide +kernel
theorem dr_Lw_law_179 : decode bc_Lw_law 179 = .ok (.iconst 5, 1) := by decide +kernel
theorem dr_Lw_law_180 : decode bc_Lw_law 180 = .ok (.iadd, 1) := by decide +kernel
theorem dr_Lw_law_181 : decode bc_Lw_law 181 = .ok (.iaload, 1) := by decide +kernel
theorem dr_Lw_law_182 : decode bc_Lw_law 182 = .ok (.i2l, 1) := by decide +kernel
theorem dr_Lw_law_183 : decode bc_Lw_law 183 = .ok (.ldc2_w 62, 3) := by decide +kernel
theorem dr_Lw_law_186 : decode bc_Lw_law 186 = .ok (.land, 1) := by decide +kernel
theorem dr_Lw_law_187 : decode bc_Lw_law 187 = .ok (.lor, 1) := by decide +kernel
theorem dr_Lw_law_188 : decode bc_Lw_law 188 = .ok (.aload_n 0, 1) := by decide +kernel
theorem dr_Lw_law_189 : decode bc_Lw_law 189 = .ok (.iload 4, 2) := by decide +kernel
theorem dr_Lw_law_191 : decode bc_Lw_law 191 = .ok (.bipush 6, 2) := by decide +kernel
theorem dr_Lw_law_193 : decode bc_Lw_law 193 = .ok (.iadd, 1) := by decide +kernel
theorem dr_Lw_law_194 : decode bc_Lw_law 194 = .ok (.iaload, 1) := by decide +kernel
theorem dr_Lw_law_195 : decode bc_Lw_law 195 = .ok (.aload_n 3, 1) := by decide +kernel
theorem dr_Lw_law_196 : decode bc_Lw_law 196 = .ok (.invokestatic 64, 3) := by decide +kernel
theorem dr_Lw_law_199 : decode bc_Lw_law 199 = .ok (.istore 5, 2) := by decide +kernel
theorem dr_Lw_law_201 : decode bc_Lw_law 201 = .ok (.aload_n 2, 1) := by decide +kernel
theorem dr_Lw_law_202 : decode bc_Lw_law 202 = .ok (.aload_n 0, 1) := by decide +kernel
theorem dr_Lw_law_203 : decode bc_Lw_law 203 = .ok (.iload 4, 2) := by decide +kernel
theorem dr_Lw_law_205 : decode bc_Lw_law 205 = .ok (.iconst 1, 1) := by decide +kernel
theorem dr_Lw_law_206 : decode bc_Lw_law 206 = .ok (.iadd, 1) := by decide +kernel
theorem dr_Lw_law_207 : decode bc_Lw_law 207 = .ok (.iaload, 1) := by decide +kernel
theorem dr_Lw_law_208 : decode bc_Lw_law 208 = .ok (.aload_n 0, 1) := by decide +kernel
theorem dr_Lw_law_209 : decode bc_Lw_law 209 = .ok (.iload 4, 2) := by decide +kernel
theorem dr_Lw_law_211 : decode bc_Lw_law 211 = .ok (.iconst 2, 1) := by decide +kernel
theorem dr_Lw_law_212 : decode bc_Lw_law 212 = .ok (.iadd, 1) := by decide +kernel
theorem dr_Lw_law_213 : decode bc_Lw_law 213 = .ok (.iaload, 1) := by decide +kernel
theorem dr_Lw_law_214 : decode bc_Lw_law 214 = .ok (.i2l, 1) := by decide +kernel
theorem dr_Lw_law_215 : decode bc_Lw_law 215 = .ok (.bipush 32, 2) := by decide +kernel
theorem dr_Lw_law_217 : decode bc_Lw_law 217 = .ok (.lshl, 1) := by decide +kernel
theorem dr_Lw_law_218 : decode bc_Lw_law 218 = .ok (.aload_n 0, 1) := by decide +kernel
theorem dr_Lw_law_219 : decode bc_Lw_law 219 = .ok (.iload 4, 2) := by decide +kernel
theorem dr_Lw_law_221 : decode bc_Lw_law 221 = .ok (.iconst 3, 1) := by decide +kernel
theorem dr_Lw_law_222 : decode bc_Lw_law 222 = .ok (.iadd, 1) := by decide +kernel
theorem dr_Lw_law_223 : decode bc_Lw_law 223 = .ok (.iaload, 1) := by decide +kernel
theorem dr_Lw_law_224 : decode bc_Lw_law 224 = .ok (.i2l, 1) := by decide +kernel
theorem dr_Lw_law_225 : decode bc_Lw_law 225 = .ok (.ldc2_w 62, 3) := by decide +kernel
theorem dr_Lw_law_228 : decode bc_Lw_law 228 = .ok (.land, 1) := by decide +kernel
theorem dr_Lw_law_229 : decode bc_Lw_law 229 = .ok (.lor, 1) := by decide +kernel
theorem dr_Lw_law_230 : decode bc_Lw_law 230 = .ok (.aload_n 0, 1) := by decide +kernel
theorem dr_Lw_law_231 : decode bc_Lw_law 231 = .ok (.iload 4, 2) := by decide +kernel
theorem dr_Lw_law_233 : decode bc_Lw_law 233 = .ok (.iconst 4, 1) := by decide +kernel
theorem dr_Lw_law_234 : decode bc_Lw_law 234 = .ok (.iadd, 1) := by decide +kernel
theorem dr_Lw_law_235 : decode bc_Lw_law 235 = .ok (.iaload, 1) := by decide +kernel
theorem dr_Lw_law_236 : decode bc_Lw_law 236 = .ok (.i2l, 1) := by decide +kernel
theorem dr_Lw_law_237 : decode bc_Lw_law 237 = .ok (.bipush 32, 2) := by decide +kernel
theorem dr_Lw_law_239 : decode bc_Lw_law 239 = .ok (.lshl, 1) := by decide +kernel
theorem dr_Lw_law_240 : decode bc_Lw_law 240 = .ok (.aload_n 0, 1) := by decide +kernel
theorem dr_Lw_law_241 : decode bc_Lw_law 241 = .ok (.iload 4, 2) := by decide +kernel
theorem dr_Lw_law_243 : decode bc_Lw_law 243 = .ok (.iconst 5, 1) := by decide +kernel
theorem dr_Lw_law_244 : decode bc_Lw_law 244 = .ok (.iadd, 1) := by decide +kernel
theorem dr_Lw_law_245 : decode bc_Lw_law 245 = .ok (.iaload, 1) := by decide +kernel
theorem dr_Lw_law_246 : decode bc_Lw_law 246 = .ok (.i2l, 1) := by decide +kernel
theorem dr_Lw_law_247 : decode bc_Lw_law 247 = .ok (.ldc2_w 62, 3) := by decide +kernel
theorem dr_Lw_law_250 : decode bc_Lw_law 250 = .ok (.land, 1) := by decide +kernel
theorem dr_Lw_law_251 : decode bc_Lw_law 251 = .ok (.lor, 1) := by decide +kernel
theorem dr_Lw_law_252 : decode bc_Lw_law 252 = .ok (.aload_n 0, 1) := by decide +kernel
theorem dr_Lw_law_253 : decode bc_Lw_law 253 = .ok (.iload 4, 2) := by decide +kernel
theorem dr_Lw_law_255 : decode bc_Lw_law 255 = .ok (.bipush 6, 2) := by decide +kernel
theorem dr_Lw_law_257 : decode bc_Lw_law 257 = .ok (.iadd, 1) := by decide +kernel
theorem dr_Lw_law_258 : decode bc_Lw_law 258 = .ok (.iaload, 1) := by decide +kernel
theorem dr_Lw_law_259 : decode bc_Lw_law 259 = .ok (.invokevirtual 69, 3) := by decide +kernel
theorem dr_Lw_law_262 : decode bc_Lw_law 262 = .ok (.istore 6, 2) := by decide +kernel
theorem dr_Lw_law_264 : decode bc_Lw_law 264 = .ok (.aload_n 2, 1) := by decide +kernel
theorem dr_Lw_law_265 : decode bc_Lw_law 265 = .ok (.invokevirtual 70, 3) := by decide +kernel
theorem dr_Lw_law_268 : decode bc_Lw_law 268 = .ok (.iload 5, 2) := by decide +kernel
theorem dr_Lw_law_270 : decode bc_Lw_law 270 = .ok (.if_icmp .eq 5, 3) := by decide +kernel
theorem dr_Lw_law_273 : decode bc_Lw_law 273 = .ok (.iconst 0, 1) := by decide +kernel
theorem dr_Lw_law_274 : decode bc_Lw_law 274 = .ok (.ireturn, 1) := by decide +kernel
theorem dr_Lw_law_275 : decode bc_Lw_law 275 = .ok (.iload 5, 2) := by decide +kernel
theorem dr_Lw_law_277 : decode bc_Lw_law 277 = .ok (.ifCond .ne 15, 3) := by decide +kernel
theorem dr_Lw_law_280 : decode bc_Lw_law 280 = .ok (.aload_n 3, 1) := by decide +kernel
theorem dr_Lw_law_281 : decode bc_Lw_law 281 = .ok (.iconst 0, 1) := by decide +kernel
theorem dr_Lw_law_282 : decode bc_Lw_law 282 = .ok (.laload, 1) := by decide +kernel
theorem dr_Lw_law_283 : decode bc_Lw_law 283 = .ok (.iload 6, 2) := by decide +kernel
theorem dr_Lw_law_285 : decode bc_Lw_law 285 = .ok (.i2l, 1) := by decide +kernel
theorem dr_Lw_law_286 : decode bc_Lw_law 286 = .ok (.lcmp, 1) := by decide +kernel
theorem dr_Lw_law_287 : decode bc_Lw_law 287 = .ok (.ifCond .eq 5, 3) := by decide +kernel
theorem dr_Lw_law_290 : decode bc_Lw_law 290 = .ok (.iconst 0, 1) := by decide +kernel
theorem dr_Lw_law_291 : decode bc_Lw_law 291 = .ok (.ireturn, 1) := by decide +kernel
theorem dr_Lw_law_292 : decode bc_Lw_law 292 = .ok (.goto 831, 3) := by decide +kernel
theorem dr_Lw_law_295 : decode bc_Lw_law 295 = .ok (.aload_n 1, 1) := by decide +kernel
theorem dr_Lw_law_296 : decode bc_Lw_law 296 = .ok (.aload_n 0, 1) := by decide +kernel
theorem dr_Lw_law_297 : decode bc_Lw_law 297 = .ok (.iload 4, 2) := by decide +kernel
theorem dr_Lw_law_299 : decode bc_Lw_law 299 = .ok (.iconst 1, 1) := by decide +kernel
theorem dr_Lw_law_300 : decode bc_Lw_law 300 = .ok (.iadd, 1) := by decide +kernel
theorem dr_Lw_law_301 : decode bc_Lw_law 301 = .ok (.iaload, 1) := by decide +kernel
theorem dr_Lw_law_302 : decode bc_Lw_law 302 = .ok (.aload_n 0, 1) := by decide +kernel
theorem dr_Lw_law_303 : decode bc_Lw_law 303 = .ok (.iload 4, 2) := by decide +kernel
theorem dr_Lw_law_305 : decode bc_Lw_law 305 = .ok (.iconst 2, 1) := by decide +kernel
theorem dr_Lw_law_306 : decode bc_Lw_law 306 = .ok (.iadd, 1) := by decide +kernel
theorem dr_Lw_law_307 : decode bc_Lw_law 307 = .ok (.iaload, 1) := by decide +kernel
theorem dr_Lw_law_308 : decode bc_Lw_law 308 = .ok (.i2l, 1) := by decide +kernel
theorem dr_Lw_law_309 : decode bc_Lw_law 309 = .ok (.bipush 32, 2) := by decide +kernel
theorem dr_Lw_law_311 : decode bc_Lw_law 311 = .ok (.lshl, 1) := by decide +kernel
theorem dr_Lw_law_312 : decode bc_Lw_law 312 = .ok (.aload_n 0, 1) := by decide +kernel
theorem dr_Lw_law_313 : decode bc_Lw_law 313 = .ok (.iload 4, 2) := by decide +kernel
theorem dr_Lw_law_315 : decode bc_Lw_law 315 = .ok (.iconst 3, 1) := by decide +kernel
theorem dr_Lw_law_316 : decode bc_Lw_law 316 = .ok (.iadd, 1) := by decide +kernel
theorem dr_Lw_law_317 : decode bc_Lw_law 317 = .ok (.iaload, 1) := by decide +kernel
theorem dr_Lw_law_318 : decode bc_Lw_law 318 = .ok (.i2l, 1) := by decide +kernel
theorem dr_Lw_law_319 : decode bc_Lw_law 319 = .ok (.ldc2_w 62, 3) := by decide +kernel
theorem dr_Lw_law_322 : decode bc_Lw_law 322 = .ok (.land, 1) := by decide +kernel
theorem dr_Lw_law_323 : decode bc_Lw_law 323 = .ok (.lor, 1) := by decide +kernel
theorem dr_Lw_law_324 : decode bc_Lw_law 324 = .ok (.aload_n 0, 1) := by decide +kernel
theorem dr_Lw_law_325 : decode bc_Lw_law 325 = .ok (.iload 4, 2) := by decide +kernel
theorem dr_Lw_law_327 : decode bc_Lw_law 327 = .ok (.iconst 4, 1) := by decide +kernel
theorem dr_Lw_law_328 : decode bc_Lw_law 328 = .ok (.iadd, 1) := by decide +kernel
theorem dr_Lw_law_329 : decode bc_Lw_law 329 = .ok (.iaload, 1) := by decide +kernel
theorem dr_Lw_law_330 : decode bc_Lw_law 330 = .ok (.i2l, 1) := by decide +kernel
theorem dr_Lw_law_331 : decode bc_Lw_law 331 = .ok (.bipush 32, 2) := by decide +kernel
theorem dr_Lw_law_333 : decode bc_Lw_law 333 = .ok (.lshl, 1) := by decide +kernel
theorem dr_Lw_law_334 : decode bc_Lw_law 334 = .ok (.aload_n 0, 1) := by decide +kernel
theorem dr_Lw_law_335 : decode bc_Lw_law 335 = .ok (.iload 4, 2) := by decide +kernel
theorem dr_Lw_law_337 : decode bc_Lw_law 337 = .ok (.iconst 5, 1) := by decide +kernel
theorem dr_Lw_law_338 : decode bc_Lw_law 338 = .ok (.iadd, 1) := by decide +kernel
theorem dr_Lw_law_339 : decode bc_Lw_law 339 = .ok (.iaload, 1) := by decide +kernel
theorem dr_Lw_law_340 : decode bc_Lw_law 340 = .ok (.i2l, 1) := by decide +kernel
theorem dr_Lw_law_341 : decode bc_Lw_law 341 = .ok (.ldc2_w 62, 3) := by decide +kernel
theorem dr_Lw_law_344 : decode bc_Lw_law 344 = .ok (.land, 1) := by decide +kernel
theorem dr_Lw_law_345 : decode bc_Lw_law 345 = .ok (.lor, 1) := by decide +kernel
theorem dr_Lw_law_346 : decode bc_Lw_law 346 = .ok (.aload_n 3, 1) := by decide +kernel
theorem dr_Lw_law_347 : decode bc_Lw_law 347 = .ok (.invokestatic 73, 3) := by decide +kernel
theorem dr_Lw_law_350 : decode bc_Lw_law 350 = .ok (.istore 5, 2) := by decide +kernel
theorem dr_Lw_law_352 : decode bc_Lw_law 352 = .ok (.aload_n 2, 1) := by decide +kernel
theorem dr_Lw_law_353 : decode bc_Lw_law 353 = .ok (.aload_n 0, 1) := by decide +kernel
theorem dr_Lw_law_354 : decode bc_Lw_law 354 = .ok (.iload 4, 2) := by decide +kernel
theorem dr_Lw_law_356 : decode bc_Lw_law 356 = .ok (.iconst 1, 1) := by decide +kernel
theorem dr_Lw_law_357 : decode bc_Lw_law 357 = .ok (.iadd, 1) := by decide +kernel
theorem dr_Lw_law_358 : decode bc_Lw_law 358 = .ok (.iaload, 1) := by decide +kernel
theorem dr_Lw_law_359 : decode bc_Lw_law 359 = .ok (.aload_n 0, 1) := by decide +kernel
theorem dr_Lw_law_360 : decode bc_Lw_law 360 = .ok (.iload 4, 2) := by decide +kernel
theorem dr_Lw_law_362 : decode bc_Lw_law 362 = .ok (.iconst 2, 1) := by decide +kernel
theorem dr_Lw_law_363 : decode bc_Lw_law 363 = .ok (.iadd, 1) := by decide +kernel
theorem dr_Lw_law_364 : decode bc_Lw_law 364 = .ok (.iaload, 1) := by decide +kernel
theorem dr_Lw_law_365 : decode bc_Lw_law 365 = .ok (.i2l, 1) := by decide +kernel
theorem dr_Lw_law_366 : decode bc_Lw_law 366 = .ok (.bipush 32, 2) := by decide +kernel
theorem dr_Lw_law_368 : decode bc_Lw_law 368 = .ok (.lshl, 1) := by decide +kernel
theorem dr_Lw_law_369 : decode bc_Lw_law 369 = .ok (.aload_n 0, 1) := by decide +kernel
theorem dr_Lw_law_370 : decode bc_Lw_law 370 = .ok (.iload 4, 2) := by decide +kernel
theorem dr_Lw_law_372 : decode bc_Lw_law 372 = .ok (.iconst 3, 1) := by decide +kernel
theorem dr_Lw_law_373 : decode bc_Lw_law 373 = .ok (.iadd, 1) := by decide +kernel
theorem dr_Lw_law_374 : decode bc_Lw_law 374 = .ok (.iaload, 1) := by decide +kernel
theorem dr_Lw_law_375 : decode bc_Lw_law 375 = .ok (.i2l, 1) := by decide +kernel
theorem dr_Lw_law_376 : decode bc_Lw_law 376 = .ok (.ldc2_w 62, 3) := by decide +kernel
theorem dr_Lw_law_379 : decode bc_Lw_law 379 = .ok (.land, 1) := by decide +kernel
theorem dr_Lw_law_380 : decode bc_Lw_law 380 = .ok (.lor, 1) := by decide +kernel
theorem dr_Lw_law_381 : decode bc_Lw_law 381 = .ok (.aload_n 0, 1) := by decide +kernel
theorem dr_Lw_law_382 : decode bc_Lw_law 382 = .ok (.iload 4, 2) := by decide +kernel
theorem dr_Lw_law_384 : decode bc_Lw_law 384 = .ok (.iconst 4, 1) := by decide +kernel
theorem dr_Lw_law_385 : decode bc_Lw_law 385 = .ok (.iadd, 1) := by decide +kernel
theorem dr_Lw_law_386 : decode bc_Lw_law 386 = .ok (.iaload, 1) := by decide +kernel
theorem dr_Lw_law_387 : decode bc_Lw_law 387 = .ok (.i2l, 1) := by decide +kernel
theorem dr_Lw_law_388 : decode bc_Lw_law 388 = .ok (.bipush 32, 2) := by decide +kernel
theorem dr_Lw_law_390 : decode bc_Lw_law 390 = .ok (.lshl, 1) := by decide +kernel
theorem dr_Lw_law_391 : decode bc_Lw_law 391 = .ok (.aload_n 0, 1) := by decide +kernel
theorem dr_Lw_law_392 : decode bc_Lw_law 392 = .ok (.iload 4, 2) := by decide +kernel
theorem dr_Lw_law_394 : decode bc_Lw_law 394 = .ok (.iconst 5, 1) := by decide +kernel
theorem dr_Lw_law_395 : decode bc_Lw_law 395 = .ok (.iadd, 1) := by decide +kernel
theorem dr_Lw_law_396 : decode bc_Lw_law 396 = .ok (.iaload, 1) := by decide +kernel
theorem dr_Lw_law_397 : decode bc_Lw_law 397 = .ok (.i2l, 1) := by decide +kernel
theorem dr_Lw_law_398 : decode bc_Lw_law 398 = .ok (.ldc2_w 62, 3) := by decide +kernel
theorem dr_Lw_law_401 : decode bc_Lw_law 401 = .ok (.land, 1) := by decide +kernel
theorem dr_Lw_law_402 : decode bc_Lw_law 402 = .ok (.lor, 1) := by decide +kernel
theorem dr_Lw_law_403 : decode bc_Lw_law 403 = .ok (.invokevirtual 76, 3) := by decide +kernel
theorem dr_Lw_law_406 : decode bc_Lw_law 406 = .ok (.istore 6, 2) := by decide +kernel
theorem dr_Lw_law_408 : decode bc_Lw_law 408 = .ok (.aload_n 2, 1) := by decide +kernel
theorem dr_Lw_law_409 : decode bc_Lw_law 409 = .ok (.invokevirtual 70, 3) := by decide +kernel
theorem dr_Lw_law_412 : decode bc_Lw_law 412 = .ok (.iload 5, 2) := by decide +kernel
theorem dr_Lw_law_414 : decode bc_Lw_law 414 = .ok (.if_icmp .eq 5, 3) := by decide +kernel
theorem dr_Lw_law_417 : decode bc_Lw_law 417 = .ok (.iconst 0, 1) := by decide +kernel
theorem dr_Lw_law_418 : decode bc_Lw_law 418 = .ok (.ireturn, 1) := by decide +kernel
theorem dr_Lw_law_419 : decode bc_Lw_law 419 = .ok (.iload 5, 2) := by decide +kernel
theorem dr_Lw_law_421 : decode bc_Lw_law 421 = .ok (.ifCond .ne 22, 3) := by decide +kernel
theorem dr_Lw_law_424 : decode bc_Lw_law 424 = .ok (.aload_n 3, 1) := by decide +kernel
theorem dr_Lw_law_425 : decode bc_Lw_law 425 = .ok (.iconst 0, 1) := by decide +kernel
theorem dr_Lw_law_426 : decode bc_Lw_law 426 = .ok (.laload, 1) := by decide +kernel
theorem dr_Lw_law_427 : decode bc_Lw_law 427 = .ok (.iload 6, 2) := by decide +kernel
theorem dr_Lw_law_429 : decode bc_Lw_law 429 = .ok (.ifCond .eq 7, 3) := by decide +kernel
theorem dr_Lw_law_432 : decode bc_Lw_law 432 = .ok (.lconst 1, 1) := by decide +kernel
theorem dr_Lw_law_433 : decode bc_Lw_law 433 = .ok (.goto 4, 3) := by decide +kernel
theorem dr_Lw_law_436 : decode bc_Lw_law 436 = .ok (.lconst 0, 1) := by decide +kernel
theorem dr_Lw_law_437 : decode bc_Lw_law 437 = .ok (.lcmp, 1) := by decide +kernel
theorem dr_Lw_law_438 : decode bc_Lw_law 438 = .ok (.ifCond .eq 5, 3) := by decide +kernel
theorem dr_Lw_law_441 : decode bc_Lw_law 441 = .ok (.iconst 0, 1) := by decide +kernel
theorem dr_Lw_law_442 : decode bc_Lw_law 442 = .ok (.ireturn, 1) := by decide +kernel
theorem dr_Lw_law_443 : decode bc_Lw_law 443 = .ok (.goto 680, 3) := by decide +kernel
theorem dr_Lw_law_446 : decode bc_Lw_law 446 = .ok (.aload_n 1, 1) := by decide +kernel
theorem dr_Lw_law_447 : decode bc_Lw_law 447 = .ok (.aload_n 0, 1) := by decide +kernel
theorem dr_Lw_law_448 : decode bc_Lw_law 448 = .ok (.iload 4, 2) := by decide +kernel
theorem dr_Lw_law_450 : decode bc_Lw_law 450 = .ok (.iconst 1, 1) := by decide +kernel
theorem dr_Lw_law_451 : decode bc_Lw_law 451 = .ok (.iadd, 1) := by decide +kernel
theorem dr_Lw_law_452 : decode bc_Lw_law 452 = .ok (.iaload, 1) := by decide +kernel
theorem dr_Lw_law_453 : decode bc_Lw_law 453 = .ok (.aload_n 3, 1) := by decide +kernel
theorem dr_Lw_law_454 : decode bc_Lw_law 454 = .ok (.invokestatic 77, 3) := by decide +kernel
theorem dr_Lw_law_457 : decode bc_Lw_law 457 = .ok (.istore 5, 2) := by decide +kernel
theorem dr_Lw_law_459 : decode bc_Lw_law 459 = .ok (.aload_n 2, 1) := by decide +kernel
theorem dr_Lw_law_460 : decode bc_Lw_law 460 = .ok (.aload_n 0, 1) := by decide +kernel
theorem dr_Lw_law_461 : decode bc_Lw_law 461 = .ok (.iload 4, 2) := by decide +kernel
theorem dr_Lw_law_463 : decode bc_Lw_law 463 = .ok (.iconst 1, 1) := by decide +kernel
theorem dr_Lw_law_464 : decode bc_Lw_law 464 = .ok (.iadd, 1) := by decide +kernel
theorem dr_Lw_law_465 : decode bc_Lw_law 465 = .ok (.iaload, 1) := by decide +kernel
theorem dr_Lw_law_466 : decode bc_Lw_law 466 = .ok (.invokevirtual 80, 3) := by decide +kernel
theorem dr_Lw_law_469 : decode bc_Lw_law 469 = .ok (.istore 6, 2) := by decide +kernel
theorem dr_Lw_law_471 : decode bc_Lw_law 471 = .ok (.aload_n 2, 1) := by decide +kernel
theorem dr_Lw_law_472 : decode bc_Lw_law 472 = .ok (.invokevirtual 70, 3) := by decide +kernel
theorem dr_Lw_law_475 : decode bc_Lw_law 475 = .ok (.iload 5, 2) := by decide +kernel
theorem dr_Lw_law_477 : decode bc_Lw_law 477 = .ok (.if_icmp .eq 5, 3) := by decide +kernel
theorem dr_Lw_law_480 : decode bc_Lw_law 480 = .ok (.iconst 0, 1) := by decide +kernel
theorem dr_Lw_law_481 : decode bc_Lw_law 481 = .ok (.ireturn, 1) := by decide +kernel
theorem dr_Lw_law_482 : decode bc_Lw_law 482 = .ok (.iload 5, 2) := by decide +kernel
theorem dr_Lw_law_484 : decode bc_Lw_law 484 = .ok (.ifCond .ne 22, 3) := by decide +kernel
theorem dr_Lw_law_487 : decode bc_Lw_law 487 = .ok (.aload_n 3, 1) := by decide +kernel
theorem dr_Lw_law_488 : decode bc_Lw_law 488 = .ok (.iconst 0, 1) := by decide +kernel
theorem dr_Lw_law_489 : decode bc_Lw_law 489 = .ok (.laload, 1) := by decide +kernel
theorem dr_Lw_law_490 : decode bc_Lw_law 490 = .ok (.iload 6, 2) := by decide +kernel
theorem dr_Lw_law_492 : decode bc_Lw_law 492 = .ok (.ifCond .eq 7, 3) := by decide +kernel
theorem dr_Lw_law_495 : decode bc_Lw_law 495 = .ok (.lconst 1, 1) := by decide +kernel
theorem dr_Lw_law_496 : decode bc_Lw_law 496 = .ok (.goto 4, 3) := by decide +kernel
theorem dr_Lw_law_499 : decode bc_Lw_law 499 = .ok (.lconst 0, 1) := by decide +kernel
theorem dr_Lw_law_500 : decode bc_Lw_law 500 = .ok (.lcmp, 1) := by decide +kernel
theorem dr_Lw_law_501 : decode bc_Lw_law 501 = .ok (.ifCond .eq 5, 3) := by decide +kernel
theorem dr_Lw_law_504 : decode bc_Lw_law 504 = .ok (.iconst 0, 1) := by decide +kernel
theorem dr_Lw_law_505 : decode bc_Lw_law 505 = .ok (.ireturn, 1) := by decide +kernel
theorem dr_Lw_law_506 : decode bc_Lw_law 506 = .ok (.goto 617, 3) := by decide +kernel
theorem dr_Lw_law_509 : decode bc_Lw_law 509 = .ok (.aload_n 1, 1) := by decide +kernel
theorem dr_Lw_law_510 : decode bc_Lw_law 510 = .ok (.aload_n 0, 1) := by decide +kernel
theorem dr_Lw_law_511 : decode bc_Lw_law 511 = .ok (.iload 4, 2) := by decide +kernel
theorem dr_Lw_law_513 : decode bc_Lw_law 513 = .ok (.iconst 1, 1) := by decide +kernel
theorem dr_Lw_law_514 : decode bc_Lw_law 514 = .ok (.iadd, 1) := by decide +kernel
theorem dr_Lw_law_515 : decode bc_Lw_law 515 = .ok (.iaload, 1) := by decide +kernel
theorem dr_Lw_law_516 : decode bc_Lw_law 516 = .ok (.aload_n 0, 1) := by decide +kernel
theorem dr_Lw_law_517 : decode bc_Lw_law 517 = .ok (.iload 4, 2) := by decide +kernel
theorem dr_Lw_law_519 : decode bc_Lw_law 519 = .ok (.iconst 2, 1) := by decide +kernel
theorem dr_Lw_law_520 : decode bc_Lw_law 520 = .ok (.iadd, 1) := by decide +kernel
theorem dr_Lw_law_521 : decode bc_Lw_law 521 = .ok (.iaload, 1) := by decide +kernel
theorem dr_Lw_law_522 : decode bc_Lw_law 522 = .ok (.aload_n 3, 1) := by decide +kernel
theorem dr_Lw_law_523 : decode bc_Lw_law 523 = .ok (.invokestatic 81, 3) := by decide +kernel
theorem dr_Lw_law_526 : decode bc_Lw_law 526 = .ok (.istore 5, 2) := by decide +kernel
theorem dr_Lw_law_528 : decode bc_Lw_law 528 = .ok (.aload_n 2, 1) := by decide +kernel
theorem dr_Lw_law_529 : decode bc_Lw_law 529 = .ok (.aload_n 0, 1) := by decide +kernel
theorem dr_Lw_law_530 : decode bc_Lw_law 530 = .ok (.iload 4, 2) := by decide +kernel
theorem dr_Lw_law_532 : decode bc_Lw_law 532 = .ok (.iconst 1, 1) := by decide +kernel
theorem dr_Lw_law_533 : decode bc_Lw_law 533 = .ok (.iadd, 1) := by decide +kernel
theorem dr_Lw_law_534 : decode bc_Lw_law 534 = .ok (.iaload, 1) := by decide +kernel
theorem dr_Lw_law_535 : decode bc_Lw_law 535 = .ok (.aload_n 0, 1) := by decide +kernel
theorem dr_Lw_law_536 : decode bc_Lw_law 536 = .ok (.iload 4, 2) := by decide +kernel
theorem dr_Lw_law_538 : decode bc_Lw_law 538 = .ok (.iconst 2, 1) := by decide +kernel
theorem dr_Lw_law_539 : decode bc_Lw_law 539 = .ok (.iadd, 1) := by decide +kernel
theorem dr_Lw_law_540 : decode bc_Lw_law 540 = .ok (.iaload, 1) := by decide +kernel
theorem dr_Lw_law_541 : decode bc_Lw_law 541 = .ok (.invokevirtual 84, 3) := by decide +kernel
theorem dr_Lw_law_544 : decode bc_Lw_law 544 = .ok (.istore 6, 2) := by decide +kernel
theorem dr_Lw_law_546 : decode bc_Lw_law 546 = .ok (.aload_n 2, 1) := by decide +kernel
theorem dr_Lw_law_547 : decode bc_Lw_law 547 = .ok (.invokevirtual 70, 3) := by decide +kernel
theorem dr_Lw_law_550 : decode bc_Lw_law 550 = .ok (.iload 5, 2) := by decide +kernel
theorem dr_Lw_law_552 : decode bc_Lw_law 552 = .ok (.if_icmp .eq 5, 3) := by decide +kernel
theorem dr_Lw_law_555 : decode bc_Lw_law 555 = .ok (.iconst 0, 1) := by decide +kernel
theorem dr_Lw_law_556 : decode bc_Lw_law 556 = .ok (.ireturn, 1) := by decide +kernel
theorem dr_Lw_law_557 : decode bc_Lw_law 557 = .ok (.iload 5, 2) := by decide +kernel
theorem dr_Lw_law_559 : decode bc_Lw_law 559 = .ok (.ifCond .ne 22, 3) := by decide +kernel
theorem dr_Lw_law_562 : decode bc_Lw_law 562 = .ok (.aload_n 3, 1) := by decide +kernel
theorem dr_Lw_law_563 : decode bc_Lw_law 563 = .ok (.iconst 0, 1) := by decide +kernel
theorem dr_Lw_law_564 : decode bc_Lw_law 564 = .ok (.laload, 1) := by decide +kernel
theorem dr_Lw_law_565 : decode bc_Lw_law 565 = .ok (.iload 6, 2) := by decide +kernel
theorem dr_Lw_law_567 : decode bc_Lw_law 567 = .ok (.ifCond .eq 7, 3) := by decide +kernel
theorem dr_Lw_law_570 : decode bc_Lw_law 570 = .ok (.lconst 1, 1) := by decide +kernel
theorem dr_Lw_law_571 : decode bc_Lw_law 571 = .ok (.goto 4, 3) := by decide +kernel
theorem dr_Lw_law_574 : decode bc_Lw_law 574 = .ok (.lconst 0, 1) := by decide +kernel
theorem dr_Lw_law_575 : decode bc_Lw_law 575 = .ok (.lcmp, 1) := by decide +kernel
theorem dr_Lw_law_576 : decode bc_Lw_law 576 = .ok (.ifCond .eq 5, 3) := by decide +kernel
theorem dr_Lw_law_579 : decode bc_Lw_law 579 = .ok (.iconst 0, 1) := by decide +kernel
theorem dr_Lw_law_580 : decode bc_Lw_law 580 = .ok (.ireturn, 1) := by decide +kernel
theorem dr_Lw_law_581 : decode bc_Lw_law 581 = .ok (.goto 542, 3) := by decide +kernel
theorem dr_Lw_law_584 : decode bc_Lw_law 584 = .ok (.aload_n 1, 1) := by decide +kernel
theorem dr_Lw_law_585 : decode bc_Lw_law 585 = .ok (.aload_n 0, 1) := by decide +kernel
theorem dr_Lw_law_586 : decode bc_Lw_law 586 = .ok (.iload 4, 2) := by decide +kernel
theorem dr_Lw_law_588 : decode bc_Lw_law 588 = .ok (.iconst 1, 1) := by decide +kernel
theorem dr_Lw_law_589 : decode bc_Lw_law 589 = .ok (.iadd, 1) := by decide +kernel
theorem dr_Lw_law_590 : decode bc_Lw_law 590 = .ok (.iaload, 1) := by decide +kernel
theorem dr_Lw_law_591 : decode bc_Lw_law 591 = .ok (.aload_n 0, 1) := by decide +kernel
theorem dr_Lw_law_592 : decode bc_Lw_law 592 = .ok (.iload 4, 2) := by decide +kernel
theorem dr_Lw_law_594 : decode bc_Lw_law 594 = .ok (.iconst 2, 1) := by decide +kernel
theorem dr_Lw_law_595 : decode bc_Lw_law 595 = .ok (.iadd, 1) := by decide +kernel
theorem dr_Lw_law_596 : decode bc_Lw_law 596 = .ok (.iaload, 1) := by decide +kernel
theorem dr_Lw_law_597 : decode bc_Lw_law 597 = .ok (.aload_n 3, 1) := by decide +kernel
theorem dr_Lw_law_598 : decode bc_Lw_law 598 = .ok (.invokestatic 85, 3) := by decide +kernel
theorem dr_Lw_law_601 : decode bc_Lw_law 601 = .ok (.istore 5, 2) := by decide +kernel
theorem dr_Lw_law_603 : decode bc_Lw_law 603 = .ok (.aload_n 2, 1) := by decide +kernel
theorem dr_Lw_law_604 : decode bc_Lw_law 604 = .ok (.aload_n 0, 1) := by decide +kernel
theorem dr_Lw_law_605 : decode bc_Lw_law 605 = .ok (.iload 4, 2) := by decide +kernel
theorem dr_Lw_law_607 : decode bc_Lw_law 607 = .ok (.iconst 1, 1) := by decide +kernel
theorem dr_Lw_law_608 : decode bc_Lw_law 608 = .ok (.iadd, 1) := by decide +kernel
theorem dr_Lw_law_609 : decode bc_Lw_law 609 = .ok (.iaload, 1) := by decide +kernel
theorem dr_Lw_law_610 : decode bc_Lw_law 610 = .ok (.aload_n 0, 1) := by decide +kernel
theorem dr_Lw_law_611 : decode bc_Lw_law 611 = .ok (.iload 4, 2) := by decide +kernel
theorem dr_Lw_law_613 : decode bc_Lw_law 613 = .ok (.iconst 2, 1) := by decide +kernel
theorem dr_Lw_law_614 : decode bc_Lw_law 614 = .ok (.iadd, 1) := by decide +kernel
theorem dr_Lw_law_615 : decode bc_Lw_law 615 = .ok (.iaload, 1) := by decide +kernel
theorem dr_Lw_law_616 : decode bc_Lw_law 616 = .ok (.invokevirtual 87, 3) := by decide +kernel
theorem dr_Lw_law_619 : decode bc_Lw_law 619 = .ok (.istore 6, 2) := by decide +kernel
theorem dr_Lw_law_621 : decode bc_Lw_law 621 = .ok (.aload_n 2, 1) := by decide +kernel
theorem dr_Lw_law_622 : decode bc_Lw_law 622 = .ok (.invokevirtual 70, 3) := by decide +kernel
theorem dr_Lw_law_625 : decode bc_Lw_law 625 = .ok (.iload 5, 2) := by decide +kernel
theorem dr_Lw_law_627 : decode bc_Lw_law 627 = .ok (.if_icmp .eq 5, 3) := by decide +kernel
theorem dr_Lw_law_630 : decode bc_Lw_law 630 = .ok (.iconst 0, 1) := by decide +kernel
theorem dr_Lw_law_631 : decode bc_Lw_law 631 = .ok (.ireturn, 1) := by decide +kernel
theorem dr_Lw_law_632 : decode bc_Lw_law 632 = .ok (.iload 5, 2) := by decide +kernel
theorem dr_Lw_law_634 : decode bc_Lw_law 634 = .ok (.ifCond .ne 22, 3) := by decide +kernel
theorem dr_Lw_law_637 : decode bc_Lw_law 637 = .ok (.aload_n 3, 1) := by decide +kernel
theorem dr_Lw_law_638 : decode bc_Lw_law 638 = .ok (.iconst 0, 1) := by decide +kernel
theorem dr_Lw_law_639 : decode bc_Lw_law 639 = .ok (.laload, 1) := by decide +kernel
theorem dr_Lw_law_640 : decode bc_Lw_law 640 = .ok (.iload 6, 2) := by decide +kernel
theorem dr_Lw_law_642 : decode bc_Lw_law 642 = .ok (.ifCond .eq 7, 3) := by decide +kernel
theorem dr_Lw_law_645 : decode bc_Lw_law 645 = .ok (.lconst 1, 1) := by decide +kernel
theorem dr_Lw_law_646 : decode bc_Lw_law 646 = .ok (.goto 4, 3) := by decide +kernel
theorem dr_Lw_law_649 : decode bc_Lw_law 649 = .ok (.lconst 0, 1) := by decide +kernel
theorem dr_Lw_law_650 : decode bc_Lw_law 650 = .ok (.lcmp, 1) := by decide +kernel
theorem dr_Lw_law_651 : decode bc_Lw_law 651 = .ok (.ifCond .eq 5, 3) := by decide +kernel
theorem dr_Lw_law_654 : decode bc_Lw_law 654 = .ok (.iconst 0, 1) := by decide +kernel
theorem dr_Lw_law_655 : decode bc_Lw_law 655 = .ok (.ireturn, 1) := by decide +kernel
theorem dr_Lw_law_656 : decode bc_Lw_law 656 = .ok (.goto 467, 3) := by decide +kernel
theorem dr_Lw_law_659 : decode bc_Lw_law 659 = .ok (.aload_n 1, 1) := by decide +kernel
theorem dr_Lw_law_660 : decode bc_Lw_law 660 = .ok (.aload_n 0, 1) := by decide +kernel
theorem dr_Lw_law_661 : decode bc_Lw_law 661 = .ok (.iload 4, 2) := by decide +kernel
theorem dr_Lw_law_663 : decode bc_Lw_law 663 = .ok (.iconst 1, 1) := by decide +kernel
theorem dr_Lw_law_664 : decode bc_Lw_law 664 = .ok (.iadd, 1) := by decide +kernel
theorem dr_Lw_law_665 : decode bc_Lw_law 665 = .ok (.iaload, 1) := by decide +kernel
theorem dr_Lw_law_666 : decode bc_Lw_law 666 = .ok (.aload_n 0, 1) := by decide +kernel
theorem dr_Lw_law_667 : decode bc_Lw_law 667 = .ok (.iload 4, 2) := by decide +kernel
theorem dr_Lw_law_669 : decode bc_Lw_law 669 = .ok (.iconst 2, 1) := by decide +kernel
theorem dr_Lw_law_670 : decode bc_Lw_law 670 = .ok (.iadd, 1) := by decide +kernel
theorem dr_Lw_law_671 : decode bc_Lw_law 671 = .ok (.iaload, 1) := by decide +kernel
theorem dr_Lw_law_672 : decode bc_Lw_law 672 = .ok (.aload_n 3, 1) := by decide +kernel
theorem dr_Lw_law_673 : decode bc_Lw_law 673 = .ok (.invokestatic 88, 3) := by decide +kernel
theorem dr_Lw_law_676 : decode bc_Lw_law 676 = .ok (.istore 5, 2) := by decide +kernel
theorem dr_Lw_law_678 : decode bc_Lw_law 678 = .ok (.aload_n 2, 1) := by decide +kernel
theorem dr_Lw_law_679 : decode bc_Lw_law 679 = .ok (.aload_n 0, 1) := by decide +kernel
theorem dr_Lw_law_680 : decode bc_Lw_law 680 = .ok (.iload 4, 2) := by decide +kernel
theorem dr_Lw_law_682 : decode bc_Lw_law 682 = .ok (.iconst 1, 1) := by decide +kernel
theorem dr_Lw_law_683 : decode bc_Lw_law 683 = .ok (.iadd, 1) := by decide +kernel
theorem dr_Lw_law_684 : decode bc_Lw_law 684 = .ok (.iaload, 1) := by decide +kernel
theorem dr_Lw_law_685 : decode bc_Lw_law 685 = .ok (.aload_n 0, 1) := by decide +kernel
theorem dr_Lw_law_686 : decode bc_Lw_law 686 = .ok (.iload 4, 2) := by decide +kernel
theorem dr_Lw_law_688 : decode bc_Lw_law 688 = .ok (.iconst 2, 1) := by decide +kernel
theorem dr_Lw_law_689 : decode bc_Lw_law 689 = .ok (.iadd, 1) := by decide +kernel
theorem dr_Lw_law_690 : decode bc_Lw_law 690 = .ok (.iaload, 1) := by decide +kernel
theorem dr_Lw_law_691 : decode bc_Lw_law 691 = .ok (.invokevirtual 90, 3) := by decide +kernel
theorem dr_Lw_law_694 : decode bc_Lw_law 694 = .ok (.istore 6, 2) := by decide +kernel
theorem dr_Lw_law_696 : decode bc_Lw_law 696 = .ok (.aload_n 2, 1) := by decide +kernel
theorem dr_Lw_law_697 : decode bc_Lw_law 697 = .ok (.invokevirtual 70, 3) := by decide +kernel
theorem dr_Lw_law_700 : decode bc_Lw_law 700 = .ok (.iload 5, 2) := by decide +kernel
theorem dr_Lw_law_702 : decode bc_Lw_law 702 = .ok (.if_icmp .eq 5, 3) := by decide +kernel
theorem dr_Lw_law_705 : decode bc_Lw_law 705 = .ok (.iconst 0, 1) := by decide +kernel
theorem dr_Lw_law_706 : decode bc_Lw_law 706 = .ok (.ireturn, 1) := by decide +kernel
theorem dr_Lw_law_707 : decode bc_Lw_law 707 = .ok (.iload 5, 2) := by decide +kernel
theorem dr_Lw_law_709 : decode bc_Lw_law 709 = .ok (.ifCond .ne 22, 3) := by decide +kernel
theorem dr_Lw_law_712 : decode bc_Lw_law 712 = .ok (.aload_n 3, 1) := by decide +kernel
theorem dr_Lw_law_713 : decode bc_Lw_law 713 = .ok (.iconst 0, 1) := by decide +kernel
theorem dr_Lw_law_714 : decode bc_Lw_law 714 = .ok (.laload, 1) := by decide +kernel
theorem dr_Lw_law_715 : decode bc_Lw_law 715 = .ok (.iload 6, 2) := by decide +kernel
theorem dr_Lw_law_717 : decode bc_Lw_law 717 = .ok (.ifCond .eq 7, 3) := by decide +kernel
theorem dr_Lw_law_720 : decode bc_Lw_law 720 = .ok (.lconst 1, 1) := by decide +kernel
theorem dr_Lw_law_721 : decode bc_Lw_law 721 = .ok (.goto 4, 3) := by decide +kernel
theorem dr_Lw_law_724 : decode bc_Lw_law 724 = .ok (.lconst 0, 1) := by decide +kernel
theorem dr_Lw_law_725 : decode bc_Lw_law 725 = .ok (.lcmp, 1) := by decide +kernel
theorem dr_Lw_law_726 : decode bc_Lw_law 726 = .ok (.ifCond .eq 5, 3) := by decide +kernel
theorem dr_Lw_law_729 : decode bc_Lw_law 729 = .ok (.iconst 0, 1) := by decide +kernel
theorem dr_Lw_law_730 : decode bc_Lw_law 730 = .ok (.ireturn, 1) := by decide +kernel
theorem dr_Lw_law_731 : decode bc_Lw_law 731 = .ok (.goto 392, 3) := by decide +kernel
theorem dr_Lw_law_734 : decode bc_Lw_law 734 = .ok (.aload_n 1, 1) := by decide +kernel
theorem dr_Lw_law_735 : decode bc_Lw_law 735 = .ok (.invokevirtual 91, 3) := by decide +kernel
theorem dr_Lw_law_738 : decode bc_Lw_law 738 = .ok (.aload_n 2, 1) := by decide +kernel
theorem dr_Lw_law_739 : decode bc_Lw_law 739 = .ok (.invokevirtual 94, 3) := by decide +kernel
theorem dr_Lw_law_742 : decode bc_Lw_law 742 = .ok (.if_icmp .eq 381, 3) := by decide +kernel
theorem dr_Lw_law_745 : decode bc_Lw_law 745 = .ok (.iconst 0, 1) := by decide +kernel
theorem dr_Lw_law_746 : decode bc_Lw_law 746 = .ok (.ireturn, 1) := by decide +kernel
theorem dr_Lw_law_747 : decode bc_Lw_law 747 = .ok (.aload_n 1, 1) := by decide +kernel
theorem dr_Lw_law_748 : decode bc_Lw_law 748 = .ok (.aload_n 0, 1) := by decide +kernel
theorem dr_Lw_law_749 : decode bc_Lw_law 749 = .ok (.iload 4, 2) := by decide +kernel
theorem dr_Lw_law_751 : decode bc_Lw_law 751 = .ok (.iconst 1, 1) := by decide +kernel
theorem dr_Lw_law_752 : decode bc_Lw_law 752 = .ok (.iadd, 1) := by decide +kernel
theorem dr_Lw_law_753 : decode bc_Lw_law 753 = .ok (.iaload, 1) := by decide +kernel
theorem dr_Lw_law_754 : decode bc_Lw_law 754 = .ok (.aload_n 3, 1) := by decide +kernel
theorem dr_Lw_law_755 : decode bc_Lw_law 755 = .ok (.invokestatic 95, 3) := by decide +kernel
theorem dr_Lw_law_758 : decode bc_Lw_law 758 = .ok (.istore 5, 2) := by decide +kernel
theorem dr_Lw_law_760 : decode bc_Lw_law 760 = .ok (.aload_n 2, 1) := by decide +kernel
theorem dr_Lw_law_761 : decode bc_Lw_law 761 = .ok (.aload_n 0, 1) := by decide +kernel
theorem dr_Lw_law_762 : decode bc_Lw_law 762 = .ok (.iload 4, 2) := by decide +kernel
theorem dr_Lw_law_764 : decode bc_Lw_law 764 = .ok (.iconst 1, 1) := by decide +kernel
theorem dr_Lw_law_765 : decode bc_Lw_law 765 = .ok (.iadd, 1) := by decide +kernel
theorem dr_Lw_law_766 : decode bc_Lw_law 766 = .ok (.iaload, 1) := by decide +kernel
theorem dr_Lw_law_767 : decode bc_Lw_law 767 = .ok (.invokevirtual 97, 3) := by decide +kernel
theorem dr_Lw_law_770 : decode bc_Lw_law 770 = .ok (.istore 6, 2) := by decide +kernel
theorem dr_Lw_law_772 : decode bc_Lw_law 772 = .ok (.aload_n 2, 1) := by decide +kernel
theorem dr_Lw_law_773 : decode bc_Lw_law 773 = .ok (.invokevirtual 70, 3) := by decide +kernel
theorem dr_Lw_law_776 : decode bc_Lw_law 776 = .ok (.iload 5, 2) := by decide +kernel
theorem dr_Lw_law_778 : decode bc_Lw_law 778 = .ok (.if_icmp .eq 5, 3) := by decide +kernel
theorem dr_Lw_law_781 : decode bc_Lw_law 781 = .ok (.iconst 0, 1) := by decide +kernel
theorem dr_Lw_law_782 : decode bc_Lw_law 782 = .ok (.ireturn, 1) := by decide +kernel
theorem dr_Lw_law_783 : decode bc_Lw_law 783 = .ok (.iload 5, 2) := by decide +kernel
theorem dr_Lw_law_785 : decode bc_Lw_law 785 = .ok (.ifCond .ne 15, 3) := by decide +kernel
theorem dr_Lw_law_788 : decode bc_Lw_law 788 = .ok (.aload_n 3, 1) := by decide +kernel
theorem dr_Lw_law_789 : decode bc_Lw_law 789 = .ok (.iconst 0, 1) := by decide +kernel
theorem dr_Lw_law_790 : decode bc_Lw_law 790 = .ok (.laload, 1) := by decide +kernel
theorem dr_Lw_law_791 : decode bc_Lw_law 791 = .ok (.iload 6, 2) := by decide +kernel
theorem dr_Lw_law_793 : decode bc_Lw_law 793 = .ok (.i2l, 1) := by decide +kernel
theorem dr_Lw_law_794 : decode bc_Lw_law 794 = .ok (.lcmp, 1) := by decide +kernel
theorem dr_Lw_law_795 : decode bc_Lw_law 795 = .ok (.ifCond .eq 5, 3) := by decide +kernel
theorem dr_Lw_law_798 : decode bc_Lw_law 798 = .ok (.iconst 0, 1) := by decide +kernel
theorem dr_Lw_law_799 : decode bc_Lw_law 799 = .ok (.ireturn, 1) := by decide +kernel
theorem dr_Lw_law_800 : decode bc_Lw_law 800 = .ok (.goto 323, 3) := by decide +kernel
theorem dr_Lw_law_803 : decode bc_Lw_law 803 = .ok (.aload_n 1, 1) := by decide +kernel
theorem dr_Lw_law_804 : decode bc_Lw_law 804 = .ok (.invokevirtual 98, 3) := by decide +kernel
theorem dr_Lw_law_807 : decode bc_Lw_law 807 = .ok (.aload_n 2, 1) := by decide +kernel
theorem dr_Lw_law_808 : decode bc_Lw_law 808 = .ok (.invokevirtual 102, 3) := by decide +kernel
theorem dr_Lw_law_811 : decode bc_Lw_law 811 = .ok (.lcmp, 1) := by decide +kernel
theorem dr_Lw_law_812 : decode bc_Lw_law 812 = .ok (.ifCond .eq 311, 3) := by decide +kernel
theorem dr_Lw_law_815 : decode bc_Lw_law 815 = .ok (.iconst 0, 1) := by decide +kernel
theorem dr_Lw_law_816 : decode bc_Lw_law 816 = .ok (.ireturn, 1) := by decide +kernel
theorem dr_Lw_law_817 : decode bc_Lw_law 817 = .ok (.aload_n 1, 1) := by decide +kernel
theorem dr_Lw_law_818 : decode bc_Lw_law 818 = .ok (.invokevirtual 103, 3) := by decide +kernel
theorem dr_Lw_law_821 : decode bc_Lw_law 821 = .ok (.aload_n 2, 1) := by decide +kernel
theorem dr_Lw_law_822 : decode bc_Lw_law 822 = .ok (.invokevirtual 106, 3) := by decide +kernel
theorem dr_Lw_law_825 : decode bc_Lw_law 825 = .ok (.lcmp, 1) := by decide +kernel
theorem dr_Lw_law_826 : decode bc_Lw_law 826 = .ok (.ifCond .eq 297, 3) := by decide +kernel
theorem dr_Lw_law_829 : decode bc_Lw_law 829 = .ok (.iconst 0, 1) := by decide +kernel
theorem dr_Lw_law_830 : decode bc_Lw_law 830 = .ok (.ireturn, 1) := by decide +kernel
theorem dr_Lw_law_831 : decode bc_Lw_law 831 = .ok (.aload_n 1, 1) := by decide +kernel
theorem dr_Lw_law_832 : decode bc_Lw_law 832 = .ok (.aload_n 0, 1) := by decide +kernel
theorem dr_Lw_law_833 : decode bc_Lw_law 833 = .ok (.iload 4, 2) := by decide +kernel
theorem dr_Lw_law_835 : decode bc_Lw_law 835 = .ok (.iconst 1, 1) := by decide +kernel
theorem dr_Lw_law_836 : decode bc_Lw_law 836 = .ok (.iadd, 1) := by decide +kernel
theorem dr_Lw_law_837 : decode bc_Lw_law 837 = .ok (.iaload, 1) := by decide +kernel
theorem dr_Lw_law_838 : decode bc_Lw_law 838 = .ok (.aload_n 0, 1) := by decide +kernel
theorem dr_Lw_law_839 : decode bc_Lw_law 839 = .ok (.iload 4, 2) := by decide +kernel
theorem dr_Lw_law_841 : decode bc_Lw_law 841 = .ok (.iconst 2, 1) := by decide +kernel
theorem dr_Lw_law_842 : decode bc_Lw_law 842 = .ok (.iadd, 1) := by decide +kernel
theorem dr_Lw_law_843 : decode bc_Lw_law 843 = .ok (.iaload, 1) := by decide +kernel
theorem dr_Lw_law_844 : decode bc_Lw_law 844 = .ok (.aload_n 3, 1) := by decide +kernel
theorem dr_Lw_law_845 : decode bc_Lw_law 845 = .ok (.invokestatic 107, 3) := by decide +kernel
theorem dr_Lw_law_848 : decode bc_Lw_law 848 = .ok (.istore 5, 2) := by decide +kernel
theorem dr_Lw_law_850 : decode bc_Lw_law 850 = .ok (.aload_n 2, 1) := by decide +kernel
theorem dr_Lw_law_851 : decode bc_Lw_law 851 = .ok (.aload_n 0, 1) := by decide +kernel
theorem dr_Lw_law_852 : decode bc_Lw_law 852 = .ok (.iload 4, 2) := by decide +kernel
theorem dr_Lw_law_854 : decode bc_Lw_law 854 = .ok (.iconst 1, 1) := by decide +kernel
theorem dr_Lw_law_855 : decode bc_Lw_law 855 = .ok (.iadd, 1) := by decide +kernel
theorem dr_Lw_law_856 : decode bc_Lw_law 856 = .ok (.iaload, 1) := by decide +kernel
theorem dr_Lw_law_857 : decode bc_Lw_law 857 = .ok (.aload_n 0, 1) := by decide +kernel
theorem dr_Lw_law_858 : decode bc_Lw_law 858 = .ok (.iload 4, 2) := by decide +kernel
theorem dr_Lw_law_860 : decode bc_Lw_law 860 = .ok (.iconst 2, 1) := by decide +kernel
theorem dr_Lw_law_861 : decode bc_Lw_law 861 = .ok (.iadd, 1) := by decide +kernel
theorem dr_Lw_law_862 : decode bc_Lw_law 862 = .ok (.iaload, 1) := by decide +kernel
theorem dr_Lw_law_863 : decode bc_Lw_law 863 = .ok (.invokevirtual 109, 3) := by decide +kernel
theorem dr_Lw_law_866 : decode bc_Lw_law 866 = .ok (.lstore 6, 2) := by decide +kernel
theorem dr_Lw_law_868 : decode bc_Lw_law 868 = .ok (.aload_n 2, 1) := by decide +kernel
theorem dr_Lw_law_869 : decode bc_Lw_law 869 = .ok (.invokevirtual 70, 3) := by decide +kernel
theorem dr_Lw_law_872 : decode bc_Lw_law 872 = .ok (.iload 5, 2) := by decide +kernel
theorem dr_Lw_law_874 : decode bc_Lw_law 874 = .ok (.if_icmp .eq 5, 3) := by decide +kernel
theorem dr_Lw_law_877 : decode bc_Lw_law 877 = .ok (.iconst 0, 1) := by decide +kernel
theorem dr_Lw_law_878 : decode bc_Lw_law 878 = .ok (.ireturn, 1) := by decide +kernel
theorem dr_Lw_law_879 : decode bc_Lw_law 879 = .ok (.iload 5, 2) := by decide +kernel
theorem dr_Lw_law_881 : decode bc_Lw_law 881 = .ok (.ifCond .ne 14, 3) := by decide +kernel
theorem dr_Lw_law_884 : decode bc_Lw_law 884 = .ok (.aload_n 3, 1) := by decide +kernel
theorem dr_Lw_law_885 : decode bc_Lw_law 885 = .ok (.iconst 0, 1) := by decide +kernel
theorem dr_Lw_law_886 : decode bc_Lw_law 886 = .ok (.laload, 1) := by decide +kernel
theorem dr_Lw_law_887 : decode bc_Lw_law 887 = .ok (.lload 6, 2) := by decide +kernel
theorem dr_Lw_law_889 : decode bc_Lw_law 889 = .ok (.lcmp, 1) := by decide +kernel
theorem dr_Lw_law_890 : decode bc_Lw_law 890 = .ok (.ifCond .eq 5, 3) := by decide +kernel
theorem dr_Lw_law_893 : decode bc_Lw_law 893 = .ok (.iconst 0, 1) := by decide +kernel
theorem dr_Lw_law_894 : decode bc_Lw_law 894 = .ok (.ireturn, 1) := by decide +kernel
theorem dr_Lw_law_895 : decode bc_Lw_law 895 = .ok (.goto 228, 3) := by decide +kernel
theorem dr_Lw_law_898 : decode bc_Lw_law 898 = .ok (.aload_n 1, 1) := by decide +kernel
theorem dr_Lw_law_899 : decode bc_Lw_law 899 = .ok (.aload_n 0, 1) := by decide +kernel
theorem dr_Lw_law_900 : decode bc_Lw_law 900 = .ok (.iload 4, 2) := by decide +kernel
theorem dr_Lw_law_902 : decode bc_Lw_law 902 = .ok (.iconst 1, 1) := by decide +kernel
theorem dr_Lw_law_903 : decode bc_Lw_law 903 = .ok (.iadd, 1) := by decide +kernel
theorem dr_Lw_law_904 : decode bc_Lw_law 904 = .ok (.iaload, 1) := by decide +kernel
theorem dr_Lw_law_905 : decode bc_Lw_law 905 = .ok (.aload_n 0, 1) := by decide +kernel
theorem dr_Lw_law_906 : decode bc_Lw_law 906 = .ok (.iload 4, 2) := by decide +kernel
theorem dr_Lw_law_908 : decode bc_Lw_law 908 = .ok (.iconst 2, 1) := by decide +kernel
theorem dr_Lw_law_909 : decode bc_Lw_law 909 = .ok (.iadd, 1) := by decide +kernel
theorem dr_Lw_law_910 : decode bc_Lw_law 910 = .ok (.iaload, 1) := by decide +kernel
theorem dr_Lw_law_911 : decode bc_Lw_law 911 = .ok (.aload_n 3, 1) := by decide +kernel
theorem dr_Lw_law_912 : decode bc_Lw_law 912 = .ok (.invokestatic 110, 3) := by decide +kernel
theorem dr_Lw_law_915 : decode bc_Lw_law 915 = .ok (.istore 5, 2) := by decide +kernel
theorem dr_Lw_law_917 : decode bc_Lw_law 917 = .ok (.aload_n 2, 1) := by decide +kernel
theorem dr_Lw_law_918 : decode bc_Lw_law 918 = .ok (.aload_n 0, 1) := by decide +kernel
theorem dr_Lw_law_919 : decode bc_Lw_law 919 = .ok (.iload 4, 2) := by decide +kernel
theorem dr_Lw_law_921 : decode bc_Lw_law 921 = .ok (.iconst 1, 1) := by decide +kernel
theorem dr_Lw_law_922 : decode bc_Lw_law 922 = .ok (.iadd, 1) := by decide +kernel
theorem dr_Lw_law_923 : decode bc_Lw_law 923 = .ok (.iaload, 1) := by decide +kernel
theorem dr_Lw_law_924 : decode bc_Lw_law 924 = .ok (.aload_n 0, 1) := by decide +kernel
theorem dr_Lw_law_925 : decode bc_Lw_law 925 = .ok (.iload 4, 2) := by decide +kernel
theorem dr_Lw_law_927 : decode bc_Lw_law 927 = .ok (.iconst 2, 1) := by decide +kernel
theorem dr_Lw_law_928 : decode bc_Lw_law 928 = .ok (.iadd, 1) := by decide +kernel
theorem dr_Lw_law_929 : decode bc_Lw_law 929 = .ok (.iaload, 1) := by decide +kernel
theorem dr_Lw_law_930 : decode bc_Lw_law 930 = .ok (.invokevirtual 112, 3) := by decide +kernel
theorem dr_Lw_law_933 : decode bc_Lw_law 933 = .ok (.istore 6, 2) := by decide +kernel
theorem dr_Lw_law_935 : decode bc_Lw_law 935 = .ok (.aload_n 2, 1) := by decide +kernel
theorem dr_Lw_law_936 : decode bc_Lw_law 936 = .ok (.invokevirtual 70, 3) := by decide +kernel
theorem dr_Lw_law_939 : decode bc_Lw_law 939 = .ok (.iload 5, 2) := by decide +kernel
theorem dr_Lw_law_941 : decode bc_Lw_law 941 = .ok (.if_icmp .eq 5, 3) := by decide +kernel
theorem dr_Lw_law_944 : decode bc_Lw_law 944 = .ok (.iconst 0, 1) := by decide +kernel
theorem dr_Lw_law_945 : decode bc_Lw_law 945 = .ok (.ireturn, 1) := by decide +kernel
theorem dr_Lw_law_946 : decode bc_Lw_law 946 = .ok (.iload 5, 2) := by decide +kernel
theorem dr_Lw_law_948 : decode bc_Lw_law 948 = .ok (.ifCond .ne 15, 3) := by decide +kernel
theorem dr_Lw_law_951 : decode bc_Lw_law 951 = .ok (.aload_n 3, 1) := by decide +kernel
theorem dr_Lw_law_952 : decode bc_Lw_law 952 = .ok (.iconst 0, 1) := by decide +kernel
theorem dr_Lw_law_953 : decode bc_Lw_law 953 = .ok (.laload, 1) := by decide +kernel
theorem dr_Lw_law_954 : decode bc_Lw_law 954 = .ok (.iload 6, 2) := by decide +kernel
theorem dr_Lw_law_956 : decode bc_Lw_law 956 = .ok (.i2l, 1) := by decide +kernel
theorem dr_Lw_law_957 : decode bc_Lw_law 957 = .ok (.lcmp, 1) := by decide +kernel
theorem dr_Lw_law_958 : decode bc_Lw_law 958 = .ok (.ifCond .eq 5, 3) := by decide +kernel
theorem dr_Lw_law_961 : decode bc_Lw_law 961 = .ok (.iconst 0, 1) := by decide +kernel
theorem dr_Lw_law_962 : decode bc_Lw_law 962 = .ok (.ireturn, 1) := by decide +kernel
theorem dr_Lw_law_963 : decode bc_Lw_law 963 = .ok (.goto 160, 3) := by decide +kernel
theorem dr_Lw_law_966 : decode bc_Lw_law 966 = .ok (.aload_n 1, 1) := by decide +kernel
theorem dr_Lw_law_967 : decode bc_Lw_law 967 = .ok (.aload_n 0, 1) := by decide +kernel
theorem dr_Lw_law_968 : decode bc_Lw_law 968 = .ok (.iload 4, 2) := by decide +kernel
theorem dr_Lw_law_970 : decode bc_Lw_law 970 = .ok (.iconst 1, 1) := by decide +kernel
theorem dr_Lw_law_971 : decode bc_Lw_law 971 = .ok (.iadd, 1) := by decide +kernel
theorem dr_Lw_law_972 : decode bc_Lw_law 972 = .ok (.iaload, 1) := by decide +kernel
theorem dr_Lw_law_973 : decode bc_Lw_law 973 = .ok (.aload_n 3, 1) := by decide +kernel
theorem dr_Lw_law_974 : decode bc_Lw_law 974 = .ok (.invokestatic 113, 3) := by decide +kernel
theorem dr_Lw_law_977 : decode bc_Lw_law 977 = .ok (.istore 5, 2) := by decide +kernel
theorem dr_Lw_law_979 : decode bc_Lw_law 979 = .ok (.aload_n 2, 1) := by decide +kernel
theorem dr_Lw_law_980 : decode bc_Lw_law 980 = .ok (.aload_n 0, 1) := by decide +kernel
theorem dr_Lw_law_981 : decode bc_Lw_law 981 = .ok (.iload 4, 2) := by decide +kernel
theorem dr_Lw_law_983 : decode bc_Lw_law 983 = .ok (.iconst 1, 1) := by decide +kernel
theorem dr_Lw_law_984 : decode bc_Lw_law 984 = .ok (.iadd, 1) := by decide +kernel
theorem dr_Lw_law_985 : decode bc_Lw_law 985 = .ok (.iaload, 1) := by decide +kernel
theorem dr_Lw_law_986 : decode bc_Lw_law 986 = .ok (.invokevirtual 115, 3) := by decide +kernel
theorem dr_Lw_law_989 : decode bc_Lw_law 989 = .ok (.istore 6, 2) := by decide +kernel
theorem dr_Lw_law_991 : decode bc_Lw_law 991 = .ok (.aload_n 2, 1) := by decide +kernel
theorem dr_Lw_law_992 : decode bc_Lw_law 992 = .ok (.invokevirtual 70, 3) := by decide +kernel
theorem dr_Lw_law_995 : decode bc_Lw_law 995 = .ok (.iload 5, 2) := by decide +kernel
theorem dr_Lw_law_997 : decode bc_Lw_law 997 = .ok (.if_icmp .eq 5, 3) := by decide +kernel
theorem dr_Lw_law_1000 : decode bc_Lw_law 1000 = .ok (.iconst 0, 1) := by decide +kernel
theorem dr_Lw_law_1001 : decode bc_Lw_law 1001 = .ok (.ireturn, 1) := by decide +kernel
theorem dr_Lw_law_1002 : decode bc_Lw_law 1002 = .ok (.iload 5, 2) := by decide +kernel
theorem dr_Lw_law_1004 : decode bc_Lw_law 1004 = .ok (.ifCond .ne 15, 3) := by decide +kernel
theorem dr_Lw_law_1007 : decode bc_Lw_law 1007 = .ok (.aload_n 3, 1) := by decide +kernel
theorem dr_Lw_law_1008 : decode bc_Lw_law 1008 = .ok (.iconst 0, 1) := by decide +kernel
theorem dr_Lw_law_1009 : decode bc_Lw_law 1009 = .ok (.laload, 1) := by decide +kernel
theorem dr_Lw_law_1010 : decode bc_Lw_law 1010 = .ok (.iload 6, 2) := by decide +kernel
theorem dr_Lw_law_1012 : decode bc_Lw_law 1012 = .ok (.i2l, 1) := by decide +kernel
theorem dr_Lw_law_1013 : decode bc_Lw_law 1013 = .ok (.lcmp, 1) := by decide +kernel
theorem dr_Lw_law_1014 : decode bc_Lw_law 1014 = .ok (.ifCond .eq 5, 3) := by decide +kernel
theorem dr_Lw_law_1017 : decode bc_Lw_law 1017 = .ok (.iconst 0, 1) := by decide +kernel
theorem dr_Lw_law_1018 : decode bc_Lw_law 1018 = .ok (.ireturn, 1) := by decide +kernel
theorem dr_Lw_law_1019 : decode bc_Lw_law 1019 = .ok (.goto 104, 3) := by decide +kernel
theorem dr_Lw_law_1022 : decode bc_Lw_law 1022 = .ok (.aload_n 1, 1) := by decide +kernel
theorem dr_Lw_law_1023 : decode bc_Lw_law 1023 = .ok (.aload_n 0, 1) := by decide +kernel
theorem dr_Lw_law_1024 : decode bc_Lw_law 1024 = .ok (.iload 4, 2) := by decide +kernel
theorem dr_Lw_law_1026 : decode bc_Lw_law 1026 = .ok (.iconst 1, 1) := by decide +kernel
theorem dr_Lw_law_1027 : decode bc_Lw_law 1027 = .ok (.iadd, 1) := by decide +kernel
theorem dr_Lw_law_1028 : decode bc_Lw_law 1028 = .ok (.iaload, 1) := by decide +kernel
theorem dr_Lw_law_1029 : decode bc_Lw_law 1029 = .ok (.aload_n 0, 1) := by decide +kernel
theorem dr_Lw_law_1030 : decode bc_Lw_law 1030 = .ok (.iload 4, 2) := by decide +kernel
theorem dr_Lw_law_1032 : decode bc_Lw_law 1032 = .ok (.iconst 2, 1) := by decide +kernel
theorem dr_Lw_law_1033 : decode bc_Lw_law 1033 = .ok (.iadd, 1) := by decide +kernel
theorem dr_Lw_law_1034 : decode bc_Lw_law 1034 = .ok (.iaload, 1) := by decide +kernel
theorem dr_Lw_law_1035 : decode bc_Lw_law 1035 = .ok (.aload_n 3, 1) := by decide +kernel
theorem dr_Lw_law_1036 : decode bc_Lw_law 1036 = .ok (.invokestatic 116, 3) := by decide +kernel
theorem dr_Lw_law_1039 : decode bc_Lw_law 1039 = .ok (.istore 5, 2) := by decide +kernel
theorem dr_Lw_law_1041 : decode bc_Lw_law 1041 = .ok (.aload_n 2, 1) := by decide +kernel
theorem dr_Lw_law_1042 : decode bc_Lw_law 1042 = .ok (.aload_n 0, 1) := by decide +kernel
theorem dr_Lw_law_1043 : decode bc_Lw_law 1043 = .ok (.iload 4, 2) := by decide +kernel
theorem dr_Lw_law_1045 : decode bc_Lw_law 1045 = .ok (.iconst 1, 1) := by decide +kernel
theorem dr_Lw_law_1046 : decode bc_Lw_law 1046 = .ok (.iadd, 1) := by decide +kernel
theorem dr_Lw_law_1047 : decode bc_Lw_law 1047 = .ok (.iaload, 1) := by decide +kernel
theorem dr_Lw_law_1048 : decode bc_Lw_law 1048 = .ok (.aload_n 0, 1) := by decide +kernel
theorem dr_Lw_law_1049 : decode bc_Lw_law 1049 = .ok (.iload 4, 2) := by decide +kernel
theorem dr_Lw_law_1051 : decode bc_Lw_law 1051 = .ok (.iconst 2, 1) := by decide +kernel
theorem dr_Lw_law_1052 : decode bc_Lw_law 1052 = .ok (.iadd, 1) := by decide +kernel
theorem dr_Lw_law_1053 : decode bc_Lw_law 1053 = .ok (.iaload, 1) := by decide +kernel
theorem dr_Lw_law_1054 : decode bc_Lw_law 1054 = .ok (.invokevirtual 118, 3) := by decide +kernel
theorem dr_Lw_law_1057 : decode bc_Lw_law 1057 = .ok (.istore 6, 2) := by decide +kernel
theorem dr_Lw_law_1059 : decode bc_Lw_law 1059 = .ok (.aload_n 2, 1) := by decide +kernel
theorem dr_Lw_law_1060 : decode bc_Lw_law 1060 = .ok (.invokevirtual 70, 3) := by decide +kernel
theorem dr_Lw_law_1063 : decode bc_Lw_law 1063 = .ok (.iload 5, 2) := by decide +kernel
theorem dr_Lw_law_1065 : decode bc_Lw_law 1065 = .ok (.if_icmp .eq 5, 3) := by decide +kernel
theorem dr_Lw_law_1068 : decode bc_Lw_law 1068 = .ok (.iconst 0, 1) := by decide +kernel
theorem dr_Lw_law_1069 : decode bc_Lw_law 1069 = .ok (.ireturn, 1) := by decide +kernel
theorem dr_Lw_law_1070 : decode bc_Lw_law 1070 = .ok (.iload 5, 2) := by decide +kernel
theorem dr_Lw_law_1072 : decode bc_Lw_law 1072 = .ok (.ifCond .ne 22, 3) := by decide +kernel
theorem dr_Lw_law_1075 : decode bc_Lw_law 1075 = .ok (.aload_n 3, 1) := by decide +kernel
theorem dr_Lw_law_1076 : decode bc_Lw_law 1076 = .ok (.iconst 0, 1) := by decide +kernel
theorem dr_Lw_law_1077 : decode bc_Lw_law 1077 = .ok (.laload, 1) := by decide +kernel
theorem dr_Lw_law_1078 : decode bc_Lw_law 1078 = .ok (.iload 6, 2) := by decide +kernel
theorem dr_Lw_law_1080 : decode bc_Lw_law 1080 = .ok (.ifCond .eq 7, 3) := by decide +kernel
theorem dr_Lw_law_1083 : decode bc_Lw_law 1083 = .ok (.lconst 1, 1) := by decide +kernel
theorem dr_Lw_law_1084 : decode bc_Lw_law 1084 = .ok (.goto 4, 3) := by decide +kernel
theorem dr_Lw_law_1087 : decode bc_Lw_law 1087 = .ok (.lconst 0, 1) := by decide +kernel
theorem dr_Lw_law_1088 : decode bc_Lw_law 1088 = .ok (.lcmp, 1) := by decide +kernel
theorem dr_Lw_law_1089 : decode bc_Lw_law 1089 = .ok (.ifCond .eq 5, 3) := by decide +kernel
theorem dr_Lw_law_1092 : decode bc_Lw_law 1092 = .ok (.iconst 0, 1) := by decide +kernel
theorem dr_Lw_law_1093 : decode bc_Lw_law 1093 = .ok (.ireturn, 1) := by decide +kernel
theorem dr_Lw_law_1094 : decode bc_Lw_law 1094 = .ok (.goto 29, 3) := by decide +kernel
theorem dr_Lw_law_1097 : decode bc_Lw_law 1097 = .ok (.aload_n 1, 1) := by decide +kernel
theorem dr_Lw_law_1098 : decode bc_Lw_law 1098 = .ok (.invokevirtual 119, 3) := by decide +kernel
theorem dr_Lw_law_1101 : decode bc_Lw_law 1101 = .ok (.aload_n 2, 1) := by decide +kernel
theorem dr_Lw_law_1102 : decode bc_Lw_law 1102 = .ok (.invokevirtual 123, 3) := by decide +kernel
theorem dr_Lw_law_1105 : decode bc_Lw_law 1105 = .ok (.if_icmp .eq 18, 3) := by decide +kernel
theorem dr_Lw_law_1108 : decode bc_Lw_law 1108 = .ok (.iconst 0, 1) := by decide +kernel
theorem dr_Lw_law_1109 : decode bc_Lw_law 1109 = .ok (.ireturn, 1) := by decide +kernel
theorem dr_Lw_law_1110 : decode bc_Lw_law 1110 = .ok (.aload_n 1, 1) := by decide +kernel
theorem dr_Lw_law_1111 : decode bc_Lw_law 1111 = .ok (.invokevirtual 124, 3) := by decide +kernel
theorem dr_Lw_law_1114 : decode bc_Lw_law 1114 = .ok (.aload_n 2, 1) := by decide +kernel
theorem dr_Lw_law_1115 : decode bc_Lw_law 1115 = .ok (.invokevirtual 127, 3) := by decide +kernel
theorem dr_Lw_law_1118 : decode bc_Lw_law 1118 = .ok (.if_icmp .eq 5, 3) := by decide +kernel
theorem dr_Lw_law_1121 : decode bc_Lw_law 1121 = .ok (.iconst 0, 1) := by decide +kernel
theorem dr_Lw_law_1122 : decode bc_Lw_law 1122 = .ok (.ireturn, 1) := by decide +kernel
theorem dr_Lw_law_1123 : decode bc_Lw_law 1123 = .ok (.iinc 4 7, 3) := by decide +kernel
theorem dr_Lw_law_1126 : decode bc_Lw_law 1126 = .ok (.goto (-1103), 3) := by decide +kernel
theorem dr_Lw_law_1129 : decode bc_Lw_law 1129 = .ok (.iconst 1, 1) := by decide +kernel
theorem dr_Lw_law_1130 : decode bc_Lw_law 1130 = .ok (.ireturn, 1) := by decide +kernel
end
section
theorem dr_Jm_abs_0 : decode bc_Jm_abs 0 = .ok (.lload_n 0, 1) := by decide +kernel
theorem dr_Jm_abs_1 : decode bc_Jm_abs 1 = .ok (.lconst 0, 1) := by decide +kernel
theorem dr_Jm_abs_2 : decode bc_Jm_abs 2 = .ok (.lcmp, 1) := by decide +kernel
theorem dr_Jm_abs_3 : decode bc_Jm_abs 3 = .ok (.ifCond .ge 8, 3) := by decide +kernel
theorem dr_Jm_abs_6 : decode bc_Jm_abs 6 = .ok (.lload_n 0, 1) := by decide +kernel
theorem dr_Jm_abs_7 : decode bc_Jm_abs 7 = .ok (.lneg, 1) := by decide +kernel
theorem dr_Jm_abs_8 : decode bc_Jm_abs 8 = .ok (.goto 4, 3) := by decide +kernel
theorem dr_Jm_abs_11 : decode bc_Jm_abs 11 = .ok (.lload_n 0, 1) := by decide +kernel
theorem dr_Jm_abs_12 : decode bc_Jm_abs 12 = .ok (.lreturn, 1) := by decide +kernel
theorem dr_Ar_fill_0 : decode bc_Ar_fill 0 = .ok (.iconst 0, 1) := by decide +kernel
theorem dr_Ar_fill_1 : decode bc_Ar_fill 1 = .ok (.istore_n 2, 1) := by decide +kernel
theorem dr_Ar_fill_2 : decode bc_Ar_fill 2 = .ok (.aload_n 0, 1) := by decide +kernel
theorem dr_Ar_fill_3 : decode bc_Ar_fill 3 = .ok (.arraylength, 1) := by decide +kernel
theorem dr_Ar_fill_4 : decode bc_Ar_fill 4 = .ok (.istore_n 3, 1) := by decide +kernel
theorem dr_Ar_fill_5 : decode bc_Ar_fill 5 = .ok (.iload_n 2, 1) := by decide +kernel
theorem dr_Ar_fill_6 : decode bc_Ar_fill 6 = .ok (.iload_n 3, 1) := by decide +kernel
theorem dr_Ar_fill_7 : decode bc_Ar_fill 7 = .ok (.if_icmp .ge 13, 3) := by decide +kernel
theorem dr_Ar_fill_10 : decode bc_Ar_fill 10 = .ok (.aload_n 0, 1) := by decide +kernel
theorem dr_Ar_fill_11 : decode bc_Ar_fill 11 = .ok (.iload_n 2, 1) := by decide +kernel
theorem dr_Ar_fill_12 : decode bc_Ar_fill 12 = .ok (.iload_n 1, 1) := by decide +kernel
theorem dr_Ar_fill_13 : decode bc_Ar_fill 13 = .ok (.iastore, 1) := by decide +kernel
theorem dr_Ar_fill_14 : decode bc_Ar_fill 14 = .ok (.iinc 2 1, 3) := by decide +kernel
theorem dr_Ar_fill_17 : decode bc_Ar_fill 17 = .ok (.goto (-12), 3) := by decide +kernel
theorem dr_Ar_fill_20 : decode bc_Ar_fill 20 = .ok (.return_, 1) := by decide +kernel
theorem dr_Ar_fillL_0 : decode bc_Ar_fillL 0 = .ok (.iconst 0, 1) := by decide +kernel
theorem dr_Ar_fillL_1 : decode bc_Ar_fillL 1 = .ok (.istore_n 3, 1) := by decide +kernel
theorem dr_Ar_fillL_2 : decode bc_Ar_fillL 2 = .ok (.aload_n 0, 1) := by decide +kernel
theorem dr_Ar_fillL_3 : decode bc_Ar_fillL 3 = .ok (.arraylength, 1) := by decide +kernel
theorem dr_Ar_fillL_4 : decode bc_Ar_fillL 4 = .ok (.istore 4, 2) := by decide +kernel
theorem dr_Ar_fillL_6 : decode bc_Ar_fillL 6 = .ok (.iload_n 3, 1) := by decide +kernel
theorem dr_Ar_fillL_7 : decode bc_Ar_fillL 7 = .ok (.iload 4, 2) := by decide +kernel
theorem dr_Ar_fillL_9 : decode bc_Ar_fillL 9 = .ok (.if_icmp .ge 13, 3) := by decide +kernel
theorem dr_Ar_fillL_12 : decode bc_Ar_fillL 12 = .ok (.aload_n 0, 1) := by decide +kernel
theorem dr_Ar_fillL_13 : decode bc_Ar_fillL 13 = .ok (.iload_n 3, 1) := by decide +kernel
theorem dr_Ar_fillL_14 : decode bc_Ar_fillL 14 = .ok (.lload_n 1, 1) := by decide +kernel
theorem dr_Ar_fillL_15 : decode bc_Ar_fillL 15 = .ok (.lastore, 1) := by decide +kernel
theorem dr_Ar_fillL_16 : decode bc_Ar_fillL 16 = .ok (.iinc 3 1, 3) := by decide +kernel
theorem dr_Ar_fillL_19 : decode bc_Ar_fillL 19 = .ok (.goto (-13), 3) := by decide +kernel
theorem dr_Ar_fillL_22 : decode bc_Ar_fillL 22 = .ok (.return_, 1) := by decide +kernel
end
section
/-! PURE: sums over 1 .. n, the pigeonhole, sums over a permutation, the least sum by rows and sets of columns, and prices -/
def pm_S (f : Int → Int) : Nat → Int
  | 0 => 0
  | n + 1 => pm_S f n + f ((n : Int) + 1)
theorem pm_S_congr {f g : Int → Int} : ∀ {n : Nat}, (∀ i : Int, 1 ≤ i → i ≤ n → f i = g i) → pm_S f n = pm_S g n
  | 0, _ => rfl
  | n + 1, h => by
    have h1 : pm_S f n = pm_S g n := pm_S_congr (fun i a b => h i a (by omega))
    have h2 := h ((n : Int) + 1) (by omega) (by omega)
    show pm_S f n + f ((n : Int) + 1) = pm_S g n + g ((n : Int) + 1)
    rw [h1, h2]
theorem pm_S_le {f g : Int → Int} : ∀ {n : Nat}, (∀ i : Int, 1 ≤ i → i ≤ n → f i ≤ g i) → pm_S f n ≤ pm_S g n
  | 0, _ => Int.le_refl _
  | n + 1, h => by
    have h1 : pm_S f n ≤ pm_S g n := pm_S_le (fun i a b => h i a (by omega))
    have h2 := h ((n : Int) + 1) (by omega) (by omega)
    show pm_S f n + f ((n : Int) + 1) ≤ pm_S g n + g ((n : Int) + 1)
    omega
theorem pm_S_add (f g : Int → Int) : ∀ n : Nat, pm_S (fun i => f i + g i) n = pm_S f n + pm_S g n
  | 0 => rfl
  | n + 1 => by
    have h := pm_S_add f g n
    show pm_S (fun i => f i + g i) n + (f ((n : Int) + 1) + g ((n : Int) + 1)) = pm_S f n + f ((n : Int) + 1) + (pm_S g n + g ((n : Int) + 1))
    omega
theorem pm_S_zero {f : Int → Int} {n : Nat} (h : ∀ i : Int, 1 ≤ i → i ≤ n → f i = 0) : pm_S f n = 0 := by
  have h1 : pm_S f n = pm_S (fun _ => 0) n := pm_S_congr h
  rw [h1]
  clear h h1
  induction n with
  | zero => rfl
  | succ n ih =>
    show pm_S (fun _ => 0) n + 0 = 0
    omega
theorem pm_S_nonneg {f : Int → Int} {n : Nat} (h : ∀ i : Int, 1 ≤ i → i ≤ n → 0 ≤ f i) : 0 ≤ pm_S f n := by
  have h1 : pm_S (fun _ => 0) n ≤ pm_S f n := pm_S_le h
  rw [pm_S_zero (f := fun _ => 0) (fun _ _ _ => rfl)] at h1
  exact h1
theorem pm_S_bound {f : Int → Int} {B : Int} : ∀ {n : Nat}, (∀ i : Int, 1 ≤ i → i ≤ n → f i ≤ B) → pm_S f n ≤ n * B
  | 0, _ => by
    show (0 : Int) ≤ ((0 : Nat) : Int) * B
    simp
  | n + 1, h => by
    have h1 : pm_S f n ≤ n * B := pm_S_bound (fun i a b => h i a (by omega))
    have h2 := h ((n : Int) + 1) (by omega) (by omega)
    show pm_S f n + f ((n : Int) + 1) ≤ ((n + 1 : Nat) : Int) * B
    have h3 : ((n + 1 : Nat) : Int) * B = (n : Int) * B + B := by
      rw [Int.natCast_add, Int.add_mul]
      simp
    omega
/-- one term, the others 0 -/
theorem pm_S_one {a : Int} {i0 : Int} : ∀ {n : Nat}, 1 ≤ i0 → i0 ≤ n → pm_S (fun i => if i = i0 then a else 0) n = a
  | 0, h1, h2 => absurd h2 (by omega)
  | n + 1, h1, h2 => by
    show pm_S (fun i => if i = i0 then a else 0) n + (if (n : Int) + 1 = i0 then a else 0) = a
    by_cases h : (n : Int) + 1 = i0
    · rw [if_pos h, pm_S_zero (fun i a1 b1 => if_neg (by omega))]
      omega
    · rw [if_neg h, pm_S_one h1 (by omega)]
      omega
theorem pm_S_ge {f : Int → Int} {n : Nat} (h : ∀ i : Int, 1 ≤ i → i ≤ n → 0 ≤ f i) {i0 : Int} (h1 : 1 ≤ i0) (h2 : i0 ≤ n) : f i0 ≤ pm_S f n := by
  have h3 : pm_S (fun i => if i = i0 then f i0 else 0) n ≤ pm_S f n := pm_S_le (fun i a b => by
    by_cases e : i = i0
    · rw [if_pos e, e]
      exact Int.le_refl _
    · rw [if_neg e]
      exact h i a b)
  rw [pm_S_one h1 h2] at h3
  exact h3
abbrev pm_into (n : Nat) (f : Int → Int) : Prop := ∀ i : Int, 1 ≤ i → i ≤ n → 1 ≤ f i ∧ f i ≤ n
abbrev pm_inj (n : Nat) (f : Int → Int) : Prop := ∀ i j : Int, 1 ≤ i → i ≤ n → 1 ≤ j → j ≤ n → f i = f j → i = j
theorem pm_cut {n : Nat} {f : Int → Int} (hm : pm_into (n + 1) f) (hi : pm_inj (n + 1) f) :
    pm_into n (fun i => if f i = (n : Int) + 1 then f ((n : Int) + 1) else f i) ∧ pm_inj n (fun i => if f i = (n : Int) + 1 then f ((n : Int) + 1) else f i) := by
  have hN := hm ((n : Int) + 1) (by omega) (by omega)
  refine ⟨fun i h1 h2 => ?_, fun i j h1 h2 h3 h4 h5 => ?_⟩
  · have hmi := hm i h1 (by omega)
    by_cases e : f i = (n : Int) + 1
    · simp only [e, if_true]
      have h6 : f ((n : Int) + 1) ≠ (n : Int) + 1 := fun z => by
        have := hi i ((n : Int) + 1) h1 (by omega) (by omega) (by omega) (e.trans z.symm)
        omega
      omega
    · simp only [e, if_false]
      omega
  · by_cases e1 : f i = (n : Int) + 1
    · by_cases e2 : f j = (n : Int) + 1
      · exact hi i j h1 (by omega) h3 (by omega) (e1.trans e2.symm)
      · simp only [e1, e2, if_true, if_false] at h5
        have := hi ((n : Int) + 1) j (by omega) (by omega) h3 (by omega) h5
        omega
    · by_cases e2 : f j = (n : Int) + 1
      · simp only [e1, e2, if_true, if_false] at h5
        have := hi i ((n : Int) + 1) h1 (by omega) (by omega) (by omega) h5
        omega
      · simp only [e1, e2, if_false] at h5
        exact hi i j h1 (by omega) h3 (by omega) h5
theorem pm_php : ∀ (n : Nat) (f : Int → Int), pm_into n f → pm_inj n f → ∀ y : Int, 1 ≤ y → y ≤ n → ∃ x : Int, 1 ≤ x ∧ x ≤ n ∧ f x = y
  | 0, _, _, _, y, h1, h2 => absurd h2 (by omega)
  | n + 1, f, hm, hi, y, h1, h2 => by
    obtain ⟨gm, gi⟩ := pm_cut hm hi
    have hN := hm ((n : Int) + 1) (by omega) (by omega)
    have ih := pm_php n _ gm gi
    by_cases e : y = f ((n : Int) + 1)
    · exact ⟨(n : Int) + 1, by omega, by omega, e.symm⟩
    · by_cases e2 : y = (n : Int) + 1
      · obtain ⟨z, a1, a2, a3⟩ := ih (f ((n : Int) + 1)) hN.1 (by omega)
        by_cases e3 : f z = (n : Int) + 1
        · exact ⟨z, a1, by omega, by omega⟩
        · simp only [e3, if_false] at a3
          have := hi z ((n : Int) + 1) a1 (by omega) (by omega) (by omega) a3
          omega
      · obtain ⟨z, a1, a2, a3⟩ := ih y h1 (by omega)
        by_cases e3 : f z = (n : Int) + 1
        · simp only [e3, if_true] at a3
          exact absurd a3.symm e
        · simp only [e3, if_false] at a3
          exact ⟨z, a1, by omega, a3⟩
/-- the same on a part P of 1 .. n -/
theorem pm_phpP {n : Nat} {P : Int → Prop} (hP : ∀ i, P i ∨ ¬ P i) {f : Int → Int} (hr : ∀ i, P i → 1 ≤ i ∧ i ≤ n) (hm : ∀ i, P i → P (f i)) (hi : ∀ i j, P i → P j → f i = f j → i = j) {y : Int} (hy : P y) : ∃ x, P x ∧ f x = y := by
  have hd : ∀ i, Decidable (P i) := fun i => Classical.propDecidable _
  obtain ⟨z, a1, a2, a3⟩ := pm_php n (fun i => if P i then f i else i) (fun i h1 h2 => by
    by_cases h : P i
    · simp only [h, if_true]
      exact hr _ (hm i h)
    · simp only [h, if_false]
      exact ⟨h1, h2⟩) (fun i j h1 h2 h3 h4 h5 => by
    by_cases h : P i
    · by_cases h' : P j
      · simp only [h, h', if_true] at h5
        exact hi i j h h' h5
      · simp only [h, h', if_true, if_false] at h5
        exact absurd (h5 ▸ hm i h) h'
    · by_cases h' : P j
      · simp only [h, h', if_true, if_false] at h5
        exact absurd (h5 ▸ hm j h') h
      · simp only [h, h', if_false] at h5
        exact h5) y (hr y hy).1 (hr y hy).2
  by_cases h : P z
  · simp only [h, if_true] at a3
    exact ⟨z, h, a3⟩
  · simp only [h, if_false] at a3
    exact absurd (a3 ▸ hy) h
theorem pm_S_perm : ∀ (n : Nat) (p : Int → Int), pm_into n p → pm_inj n p → ∀ f : Int → Int, pm_S (fun i => f (p i)) n = pm_S f n
  | 0, _, _, _, _ => rfl
  | n + 1, p, hm, hi, f => by
    obtain ⟨gm, gi⟩ := pm_cut hm hi
    have ih := pm_S_perm n _ gm gi f
    have hN := hm ((n : Int) + 1) (by omega) (by omega)
    show pm_S (fun i => f (p i)) n + f (p ((n : Int) + 1)) = pm_S f n + f ((n : Int) + 1)
    by_cases e : p ((n : Int) + 1) = (n : Int) + 1
    · have h1 : pm_S (fun i => f (if p i = (n : Int) + 1 then p ((n : Int) + 1) else p i)) n = pm_S (fun i => f (p i)) n := pm_S_congr (fun i a b => by
        have h2 : p i ≠ (n : Int) + 1 := fun z => by
          have := hi i ((n : Int) + 1) a (by omega) (by omega) (by omega) (z.trans e.symm)
          omega
        simp only [h2, if_false])
      rw [← ih, h1, e]
    · obtain ⟨i0, a1, a2, a3⟩ := pm_php (n + 1) p hm hi ((n : Int) + 1) (by omega) (by omega)
      have a4 : i0 ≠ (n : Int) + 1 := fun z => e (z ▸ a3)
      have h1 : pm_S (fun i => f (if p i = (n : Int) + 1 then p ((n : Int) + 1) else p i)) n = pm_S (fun i => f (p i) + (if i = i0 then f (p ((n : Int) + 1)) - f ((n : Int) + 1) else 0)) n := pm_S_congr (fun i a b => by
        by_cases h2 : p i = (n : Int) + 1
        · have h3 : i = i0 := hi i i0 a (by omega) a1 a2 (h2.trans a3.symm)
          rw [if_pos h2, if_pos h3, h2]
          omega
        · have h3 : i ≠ i0 := fun z => h2 (z ▸ a3)
          simp only [h2, h3, if_false]
          omega)
      rw [pm_S_add, pm_S_one a1 (by omega)] at h1
      rw [h1] at ih
      omega
/-! the least sum, row after row, by the set of the columns that are taken -/
def pl_m (P : Nat → Bool) (w : Nat → Int) (NV : Int) : Nat → Int
  | 0 => NV
  | v + 1 => if P v = true then pl_m P w NV v else if w v < pl_m P w NV v then w v else pl_m P w NV v
theorem pl_m_top (P : Nat → Bool) (w : Nat → Int) (NV : Int) : ∀ n, pl_m P w NV n ≤ NV
  | 0 => Int.le_refl _
  | n + 1 => by
    have h := pl_m_top P w NV n
    unfold pl_m
    by_cases h1 : P n = true
    · rw [if_pos h1]
      exact h
    · rw [if_neg h1]
      by_cases h2 : w n < pl_m P w NV n
      · rw [if_pos h2]
        omega
      · rw [if_neg h2]
        exact h
theorem pl_m_le {P : Nat → Bool} {w : Nat → Int} {NV : Int} : ∀ {n v : Nat}, v < n → P v = false → pl_m P w NV n ≤ w v
  | 0, v, h, _ => absurd h (Nat.not_lt_zero v)
  | n + 1, v, h, hv => by
    unfold pl_m
    by_cases e : v = n
    · subst e
      rw [if_neg (by rw [hv]; decide)]
      by_cases h2 : w v < pl_m P w NV v
      · rw [if_pos h2]
        exact Int.le_refl _
      · rw [if_neg h2]
        omega
    · have ih : pl_m P w NV n ≤ w v := pl_m_le (by omega) hv
      by_cases h1 : P n = true
      · rw [if_pos h1]
        exact ih
      · rw [if_neg h1]
        by_cases h2 : w n < pl_m P w NV n
        · rw [if_pos h2]
          omega
        · rw [if_neg h2]
          exact ih
theorem pl_m_ge {P : Nat → Bool} {w : Nat → Int} {NV L : Int} (h0 : L ≤ NV) : ∀ {n : Nat}, (∀ v, v < n → P v = false → L ≤ w v) → L ≤ pl_m P w NV n
  | 0, _ => h0
  | n + 1, h => by
    have ih : L ≤ pl_m P w NV n := pl_m_ge h0 (fun v a b => h v (by omega) b)
    unfold pl_m
    by_cases h1 : P n = true
    · rw [if_pos h1]
      exact ih
    · rw [if_neg h1]
      by_cases h2 : w n < pl_m P w NV n
      · rw [if_pos h2]
        exact h n (by omega) (by simpa using h1)
      · rw [if_neg h2]
        exact ih
theorem pl_m_at (P : Nat → Bool) (w : Nat → Int) (NV : Int) : ∀ n, pl_m P w NV n = NV ∨ ∃ v, v < n ∧ P v = false ∧ pl_m P w NV n = w v
  | 0 => Or.inl rfl
  | n + 1 => by
    have ih := pl_m_at P w NV n
    have up : (pl_m P w NV n = NV ∨ ∃ v, v < n ∧ P v = false ∧ pl_m P w NV n = w v) → (pl_m P w NV n = NV ∨ ∃ v, v < n + 1 ∧ P v = false ∧ pl_m P w NV n = w v) := fun h => by
      rcases h with h | ⟨v, a, b, c⟩
      · exact Or.inl h
      · exact Or.inr ⟨v, by omega, b, c⟩
    unfold pl_m
    by_cases h1 : P n = true
    · rw [if_pos h1]
      exact up ih
    · rw [if_neg h1]
      by_cases h2 : w n < pl_m P w NV n
      · rw [if_pos h2]
        exact Or.inr ⟨n, by omega, by simpa using h1, rfl⟩
      · rw [if_neg h2]
        exact up ih
/-- the least sum of the last k of n rows, over the columns that are not in S (column v + 1 is bit v) -/
def pl_F (n : Nat) (c : Int → Int → Int) (NV : Int) : Nat → Nat → Int
  | 0, _ => 0
  | k + 1, S => pl_m (fun v => S.testBit v) (fun v => c ((n : Int) - k) ((v : Int) + 1) + pl_F n c NV k (S ||| 1 <<< v)) NV n
abbrev pl_b (S : Nat) (j : Int) : Bool := S.testBit (j - 1).toNat
theorem pl_b_v (S v : Nat) : pl_b S ((v : Int) + 1) = S.testBit v := by
  show S.testBit ((v : Int) + 1 - 1).toNat = _
  congr 1
  omega
theorem pl_b_or {S v : Nat} {j : Int} (hj : 1 ≤ j) : pl_b (S ||| 1 <<< v) j = (pl_b S j || decide (j = (v : Int) + 1)) := by
  show (S ||| 1 <<< v).testBit (j - 1).toNat = _
  rw [Nat.testBit_or, Nat.one_shiftLeft, Nat.testBit_two_pow]
  congr 1
  apply decide_eq_decide.mpr
  omega
def pl_n (n S : Nat) : Int := pm_S (fun j => if pl_b S j = true then 1 else 0) n
def pl_q (q : Int → Int) (n S : Nat) : Int := pm_S (fun j => if pl_b S j = true then 0 else q j) n
def pl_d (r q : Int → Int) (n k S : Nat) : Int := (pm_S r n - pm_S r (n - k)) + pl_q q n S
theorem pl_q_step {q : Int → Int} {n S v : Nat} (hv : v < n) (h : S.testBit v = false) : pl_q q n S = q ((v : Int) + 1) + pl_q q n (S ||| 1 <<< v) := by
  have h1 : pl_q q n S = pm_S (fun j => (if j = (v : Int) + 1 then q ((v : Int) + 1) else 0) + (if pl_b (S ||| 1 <<< v) j = true then 0 else q j)) n := pm_S_congr (fun j a b => by
    rw [pl_b_or a]
    by_cases e : j = (v : Int) + 1
    · rw [e, pl_b_v, h]
      simp
    · simp [e])
  rw [h1, pm_S_add, pm_S_one (by omega) (by omega)]
  rfl
theorem pl_n_step {n S v : Nat} (hv : v < n) (h : S.testBit v = false) : pl_n n (S ||| 1 <<< v) = pl_n n S + 1 := by
  have h1 : pl_n n (S ||| 1 <<< v) = pm_S (fun j => (if pl_b S j = true then 1 else 0) + (if j = (v : Int) + 1 then 1 else 0)) n := pm_S_congr (fun j a b => by
    rw [pl_b_or a]
    by_cases e : j = (v : Int) + 1
    · rw [e, pl_b_v, h]
      simp
    · simp [e])
  rw [h1, pm_S_add, pm_S_one (by omega) (by omega)]
  rfl
theorem pl_n_full {n S : Nat} (h : pl_n n S = n) : ∀ j : Int, 1 ≤ j → j ≤ n → pl_b S j = true := by
  intro j h1 h2
  cases e : pl_b S j with
  | true => rfl
  | false =>
    exfalso
    have h3 : pl_n n S + pm_S (fun i => if i = j then 1 else 0) n ≤ pm_S (fun _ => 1) n := by
      unfold pl_n
      rw [← pm_S_add]
      refine pm_S_le (fun i a b => ?_)
      by_cases e2 : i = j
      · rw [e2, e]
        simp
      · rw [if_neg e2]
        by_cases e3 : pl_b S i = true
        · rw [if_pos e3]
          omega
        · rw [if_neg e3]
          omega
    rw [pm_S_one h1 h2, h] at h3
    have h4 : pm_S (fun _ => (1 : Int)) n ≤ n * 1 := pm_S_bound (fun _ _ _ => Int.le_refl _)
    omega
theorem pl_r_step {r : Int → Int} {n k : Nat} (hk : k + 1 ≤ n) : pm_S r (n - k) = pm_S r (n - (k + 1)) + r ((n : Int) - k) := by
  have h : n - k = (n - (k + 1)) + 1 := by omega
  rw [h]
  show pm_S r (n - (k + 1)) + r (((n - (k + 1) : Nat) : Int) + 1) = _
  congr 2
  omega
theorem pl_d_step {r q : Int → Int} {n k S v : Nat} (hk : k + 1 ≤ n) (hv : v < n) (h : S.testBit v = false) : pl_d r q n (k + 1) S = r ((n : Int) - k) + q ((v : Int) + 1) + pl_d r q n k (S ||| 1 <<< v) := by
  unfold pl_d
  rw [pl_q_step hv h]
  have h1 := pl_r_step (r := r) hk
  omega
/-- prices that no place exceeds -/
def pl_ok (r q : Int → Int) (c : Int → Int → Int) (n : Nat) : Prop := ∀ i j : Int, 1 ≤ i → i ≤ n → 1 ≤ j → j ≤ n → r i + q j ≤ c i j
theorem pl_low {r q : Int → Int} {c : Int → Int → Int} {n : Nat} {NV : Int} (hok : pl_ok r q c n) (hc : ∀ i j : Int, 1 ≤ i → i ≤ n → 1 ≤ j → j ≤ n → 0 ≤ c i j) :
    ∀ (k S : Nat), k ≤ n → pl_n n S = (n : Int) - k → ∀ L : Int, L ≤ NV → L ≤ pl_d r q n k S → L ≤ pl_F n c NV k S
  | 0, S, _, hS, L, _, h2 => by
    have h3 : pl_q q n S = 0 := pm_S_zero (fun j a b => if_pos (pl_n_full (by omega) j a b))
    unfold pl_d at h2
    rw [h3, Nat.sub_zero] at h2
    show L ≤ 0
    omega
  | k + 1, S, hk, hS, L, h1, h2 => by
    unfold pl_F
    refine pl_m_ge h1 (fun v hv hb => ?_)
    have hcv := hc ((n : Int) - k) ((v : Int) + 1) (by omega) (by omega) (by omega) (by omega)
    have hov := hok ((n : Int) - k) ((v : Int) + 1) (by omega) (by omega) (by omega) (by omega)
    rw [pl_d_step hk hv hb] at h2
    have ih := pl_low (NV := NV) hok hc k (S ||| 1 <<< v) (by omega) (by rw [pl_n_step hv hb]; omega) (L - c ((n : Int) - k) ((v : Int) + 1)) (by omega) (by omega)
    omega
/-- a way of the last k rows to columns that are not in S, no two to one -/
def pl_way (n k S : Nat) (t : Int → Int) : Prop := (∀ i : Int, (n : Int) - k < i → i ≤ n → 1 ≤ t i ∧ t i ≤ n ∧ pl_b S (t i) = false) ∧ ∀ i j : Int, (n : Int) - k < i → i ≤ n → (n : Int) - k < j → j ≤ n → t i = t j → i = j
theorem pl_way_step {n k S : Nat} {t : Int → Int} (hk : k + 1 ≤ n) (h : pl_way n (k + 1) S t) : pl_way n k (S ||| 1 <<< (t ((n : Int) - k) - 1).toNat) t := by
  have hr := h.1 ((n : Int) - k) (by omega) (by omega)
  refine ⟨fun i h1 h2 => ?_, fun i j h1 h2 h3 h4 => h.2 i j (by omega) h2 (by omega) h4⟩
  have hi := h.1 i (by omega) h2
  refine ⟨hi.1, hi.2.1, ?_⟩
  rw [pl_b_or hi.1, hi.2.2]
  have hne : t i ≠ t ((n : Int) - k) := fun z => by
    have := h.2 i ((n : Int) - k) (by omega) h2 (by omega) (by omega) z
    omega
  simp
  omega
theorem pl_up {c : Int → Int → Int} {n : Nat} {NV : Int} {t : Int → Int} : ∀ (k S : Nat), k ≤ n → pl_way n k S t → pl_F n c NV k S ≤ pm_S (fun i => c i (t i)) n - pm_S (fun i => c i (t i)) (n - k)
  | 0, S, _, _ => by
    rw [Nat.sub_zero]
    show (0 : Int) ≤ _
    omega
  | k + 1, S, hk, h => by
    obtain ⟨hr1, hr2, hr3⟩ := h.1 ((n : Int) - k) (by omega) (by omega)
    have ih := pl_up (c := c) (NV := NV) k _ (by omega) (pl_way_step hk h)
    have hb : S.testBit (t ((n : Int) - k) - 1).toNat = false := hr3
    have hle : pl_F n c NV (k + 1) S ≤ c ((n : Int) - k) (((t ((n : Int) - k) - 1).toNat : Int) + 1) + pl_F n c NV k (S ||| 1 <<< (t ((n : Int) - k) - 1).toNat) := by
      have hvn : (t ((n : Int) - k) - 1).toNat < n := by omega
      exact pl_m_le (P := fun v => S.testBit v) (w := fun v => c ((n : Int) - k) ((v : Int) + 1) + pl_F n c NV k (S ||| 1 <<< v)) hvn hb
    have e : ((t ((n : Int) - k) - 1).toNat : Int) + 1 = t ((n : Int) - k) := by omega
    rw [e] at hle
    have h3 := pl_r_step (r := fun i => c i (t i)) hk
    omega
/-- where the least sum is that of the prices: a way along places that the prices just reach -/
theorem pl_tight {r q : Int → Int} {c : Int → Int → Int} {n : Nat} {NV : Int} (hok : pl_ok r q c n) (hc : ∀ i j : Int, 1 ≤ i → i ≤ n → 1 ≤ j → j ≤ n → 0 ≤ c i j) (hB : ∀ k S : Nat, k ≤ n → pl_d r q n k S < NV) :
    ∀ (k S : Nat), k ≤ n → pl_n n S = (n : Int) - k → pl_F n c NV k S = pl_d r q n k S → ∃ t : Int → Int, pl_way n k S t ∧ ∀ i : Int, (n : Int) - k < i → i ≤ n → c i (t i) = r i + q (t i)
  | 0, S, _, _, _ => ⟨fun i => i, ⟨fun i h1 h2 => absurd h2 (by omega), fun i j h1 h2 => absurd h2 (by omega)⟩, fun i h1 h2 => absurd h2 (by omega)⟩
  | k + 1, S, hk, hS, he => by
    have hat := pl_m_at (fun v => S.testBit v) (fun v => c ((n : Int) - k) ((v : Int) + 1) + pl_F n c NV k (S ||| 1 <<< v)) NV n
    have hlt := hB (k + 1) S hk
    have hun : pl_F n c NV (k + 1) S = pl_m (fun v => S.testBit v) (fun v => c ((n : Int) - k) ((v : Int) + 1) + pl_F n c NV k (S ||| 1 <<< v)) NV n := rfl
    rcases hat with h | ⟨v, hv, hb, h⟩
    · rw [hun, h] at he
      omega
    · have hn2 : pl_n n (S ||| 1 <<< v) = (n : Int) - k := by
        rw [pl_n_step hv hb]
        omega
      have hov := hok ((n : Int) - k) ((v : Int) + 1) (by omega) (by omega) (by omega) (by omega)
      have hlow := pl_low (NV := NV) hok hc k (S ||| 1 <<< v) (by omega) hn2 (pl_d r q n k (S ||| 1 <<< v)) (Int.le_of_lt (hB k _ (by omega))) (Int.le_refl _)
      rw [hun, h, pl_d_step hk hv hb] at he
      obtain ⟨t, ht, htt⟩ := pl_tight hok hc hB k (S ||| 1 <<< v) (by omega) hn2 (by omega)
      refine ⟨fun i => if i = (n : Int) - k then (v : Int) + 1 else t i, ⟨fun i h1 h2 => ?_, fun i j h1 h2 h3 h4 h5 => ?_⟩, fun i h1 h2 => ?_⟩
      · by_cases e : i = (n : Int) - k
        · simp only [e, if_true]
          exact ⟨by omega, by omega, by rw [pl_b_v]; exact hb⟩
        · simp only [e, if_false]
          obtain ⟨a1, a2, a3⟩ := ht.1 i (by omega) h2
          rw [pl_b_or a1] at a3
          simp only [Bool.or_eq_false_iff] at a3
          exact ⟨a1, a2, a3.1⟩
      · by_cases e : i = (n : Int) - k
        · by_cases e' : j = (n : Int) - k
          · omega
          · simp only [e, e', if_true, if_false] at h5
            obtain ⟨a1, a2, a3⟩ := ht.1 j (by omega) h4
            rw [pl_b_or a1] at a3
            simp only [Bool.or_eq_false_iff, decide_eq_false_iff_not] at a3
            exact absurd h5.symm a3.2
        · by_cases e' : j = (n : Int) - k
          · simp only [e, e', if_true, if_false] at h5
            obtain ⟨a1, a2, a3⟩ := ht.1 i (by omega) h2
            rw [pl_b_or a1] at a3
            simp only [Bool.or_eq_false_iff, decide_eq_false_iff_not] at a3
            exact absurd h5 a3.2
          · simp only [e, e', if_false] at h5
            exact ht.2 i j (by omega) h2 (by omega) h4 h5
      · by_cases e : i = (n : Int) - k
        · simp only [e, if_true]
          omega
        · simp only [e, if_false]
          exact htt i (by omega) h2
/-- the place v of the next row can be taken, by sums, just when the prices reach it and the rest goes on so -/
theorem pl_fits {r q : Int → Int} {c : Int → Int → Int} {n : Nat} {NV : Int} (hok : pl_ok r q c n) (hc : ∀ i j : Int, 1 ≤ i → i ≤ n → 1 ≤ j → j ≤ n → 0 ≤ c i j) (hB : ∀ k S : Nat, k ≤ n → pl_d r q n k S < NV)
    {k S v : Nat} (hk : k + 1 ≤ n) (hS : pl_n n S = (n : Int) - (k + 1 : Nat)) (he : pl_F n c NV (k + 1) S = pl_d r q n (k + 1) S) (hv : v < n) (hb : S.testBit v = false) :
    c ((n : Int) - k) ((v : Int) + 1) + pl_F n c NV k (S ||| 1 <<< v) = pl_F n c NV (k + 1) S ↔ (c ((n : Int) - k) ((v : Int) + 1) = r ((n : Int) - k) + q ((v : Int) + 1) ∧ pl_F n c NV k (S ||| 1 <<< v) = pl_d r q n k (S ||| 1 <<< v)) := by
  have hn2 : pl_n n (S ||| 1 <<< v) = (n : Int) - k := by
    rw [pl_n_step hv hb]
    omega
  have hov := hok ((n : Int) - k) ((v : Int) + 1) (by omega) (by omega) (by omega) (by omega)
  have hlow := pl_low (NV := NV) hok hc k (S ||| 1 <<< v) (by omega) hn2 (pl_d r q n k (S ||| 1 <<< v)) (Int.le_of_lt (hB k _ (by omega))) (Int.le_refl _)
  rw [he, pl_d_step hk hv hb]
  omega
end
section
/-! PURE: the class's search by prices: its functions, and what they keep -/
theorem h64_sub {a b : Int64} (ha : -4611686018427387904 ≤ a.toInt ∧ a.toInt ≤ 4611686018427387904) (hb : -4611686018427387904 < b.toInt ∧ b.toInt ≤ 4611686018427387904) : (a - b).toInt = a.toInt - b.toInt := by
  rw [Int64.toInt_sub]
  apply Int.bmod_eq_of_le <;> omega
theorem h64_add {a b : Int64} (ha : -4611686018427387904 ≤ a.toInt ∧ a.toInt < 4611686018427387904) (hb : -4611686018427387904 ≤ b.toInt ∧ b.toInt ≤ 4611686018427387904) : (a + b).toInt = a.toInt + b.toInt := by
  rw [Int64.toInt_add]
  apply Int.bmod_eq_of_le <;> omega
def hm_x (c : Int → Int → Int64) (u v : Int → Int64) (r j : Int) : Int64 := c r j - u r - v j
/-- nextColumn: one column; all columns from j on -/
def hm_n1 (c : Int → Int → Int64) (u v : Int → Int64) (sn : Int → Int) (row fr j : Int) (s : (Int → Int64) × (Int → Int) × Int) : (Int → Int64) × (Int → Int) × Int :=
  if sn j = 0 then
    if hm_x c u v row j < s.1 j then
      (gz_ul s.1 j (hm_x c u v row j), gz_u s.2.1 j fr, if s.2.2 = 0 then j else if gz_ul s.1 j (hm_x c u v row j) j < gz_ul s.1 j (hm_x c u v row j) s.2.2 then j else s.2.2)
    else (s.1, s.2.1, if s.2.2 = 0 then j else if s.1 j < s.1 s.2.2 then j else s.2.2)
  else s
def hm_nx (c : Int → Int → Int64) (u v : Int → Int64) (sn : Int → Int) (row fr : Int) : Nat → Int → (Int → Int64) × (Int → Int) × Int → (Int → Int64) × (Int → Int) × Int
  | 0, _, s => s
  | k + 1, j, s => hm_nx c u v sn row fr k (j + 1) (hm_n1 c u v sn row fr j s)
/-- what stands behind the columns below j -/
def hm_nI (c : Int → Int → Int64) (u v : Int → Int64) (sn : Int → Int) (row fr : Int) (sl0 : Int → Int64) (cm0 : Int → Int) (j : Int) (s : (Int → Int64) × (Int → Int) × Int) : Prop :=
  (∀ i : Int, 1 ≤ i → i < j → sn i = 0 → (hm_x c u v row i < sl0 i ∧ s.1 i = hm_x c u v row i ∧ s.2.1 i = fr) ∨ (¬ hm_x c u v row i < sl0 i ∧ s.1 i = sl0 i ∧ s.2.1 i = cm0 i)) ∧
  (∀ i : Int, (i < 1 ∨ j ≤ i ∨ sn i ≠ 0) → s.1 i = sl0 i ∧ s.2.1 i = cm0 i) ∧
  ((s.2.2 = 0 ∧ ∀ i : Int, 1 ≤ i → i < j → sn i ≠ 0) ∨ (1 ≤ s.2.2 ∧ s.2.2 < j ∧ sn s.2.2 = 0 ∧ ∀ i : Int, 1 ≤ i → i < j → sn i = 0 → (s.1 s.2.2).toInt ≤ (s.1 i).toInt))
theorem hm_n1_keeps {c : Int → Int → Int64} {u v : Int → Int64} {sn : Int → Int} {row fr : Int} {sl0 : Int → Int64} {cm0 : Int → Int} {j : Int} {s : (Int → Int64) × (Int → Int) × Int} (hj : 1 ≤ j) (h : hm_nI c u v sn row fr sl0 cm0 j s) : hm_nI c u v sn row fr sl0 cm0 (j + 1) (hm_n1 c u v sn row fr j s) := by
  obtain ⟨sl, cm, nr⟩ := s
  obtain ⟨h1, h2, h3⟩ := h
  dsimp only at h1 h2 h3
  obtain ⟨e1, e2⟩ := h2 j (Or.inr (Or.inl (Int.le_refl j)))
  unfold hm_n1
  by_cases hs : sn j = 0
  · rw [if_pos hs]
    dsimp only
    by_cases hx : hm_x c u v row j < sl j
    · rw [if_pos hx]
      rw [e1] at hx
      refine ⟨fun i a b d => ?_, fun i a => ?_, Or.inr ?_⟩ <;> dsimp only
      · by_cases e : i = j
        · subst e
          exact Or.inl ⟨hx, gz_uls .., gz_us ..⟩
        · rw [gz_uln _ _ e, gz_un _ _ e]
          exact h1 i a (by omega) d
      · have e : i ≠ j := fun z => by
          subst z
          rcases a with a | a | a
          · omega
          · omega
          · exact a hs
        rw [gz_uln _ _ e, gz_un _ _ e]
        exact h2 i (by omega)
      · have hsj : (gz_ul sl j (hm_x c u v row j) j) = hm_x c u v row j := gz_uls ..
        by_cases hn : nr = 0
        · rw [if_pos hn]
          refine ⟨hj, by omega, hs, fun i a b d => ?_⟩
          by_cases e : i = j
          · rw [e]
            exact Int.le_refl _
          · rcases h3 with h3 | h3
            · exact absurd d (h3.2 i a (by omega))
            · omega
        · rw [if_neg hn]
          rcases h3 with h3 | ⟨g1, g2, g3, g4⟩
          · exact absurd h3.1 hn
          · have hne : nr ≠ j := by omega
            by_cases hl : gz_ul sl j (hm_x c u v row j) j < gz_ul sl j (hm_x c u v row j) nr
            · rw [if_pos hl]
              refine ⟨hj, by omega, hs, fun i a b d => ?_⟩
              by_cases e : i = j
              · rw [e]
                exact Int.le_refl _
              · rw [gz_uln _ _ hne] at hl
                rw [gz_uln _ _ e]
                have := g4 i a (by omega) d
                have := Int64.lt_iff_toInt_lt.mp hl
                omega
            · rw [if_neg hl]
              refine ⟨g1, by omega, g3, fun i a b d => ?_⟩
              rw [gz_uln _ _ hne] at hl ⊢
              by_cases e : i = j
              · rw [e]
                have h7 : ¬ (gz_ul sl j (hm_x c u v row j) j).toInt < (sl nr).toInt := fun z => hl (Int64.lt_iff_toInt_lt.mpr z)
                omega
              · rw [gz_uln _ _ e]
                exact g4 i a (by omega) d
    · rw [if_neg hx]
      rw [e1] at hx
      refine ⟨fun i a b d => ?_, fun i a => ?_, Or.inr ?_⟩ <;> dsimp only
      · by_cases e : i = j
        · subst e
          exact Or.inr ⟨hx, e1, e2⟩
        · exact h1 i a (by omega) d
      · exact h2 i (by omega)
      · by_cases hn : nr = 0
        · rw [if_pos hn]
          refine ⟨hj, by omega, hs, fun i a b d => ?_⟩
          by_cases e : i = j
          · rw [e]
            exact Int.le_refl _
          · rcases h3 with h3 | h3
            · exact absurd d (h3.2 i a (by omega))
            · omega
        · rw [if_neg hn]
          rcases h3 with h3 | ⟨g1, g2, g3, g4⟩
          · exact absurd h3.1 hn
          · by_cases hl : sl j < sl nr
            · rw [if_pos hl]
              refine ⟨hj, by omega, hs, fun i a b d => ?_⟩
              by_cases e : i = j
              · rw [e]
                exact Int.le_refl _
              · have := g4 i a (by omega) d
                have := Int64.lt_iff_toInt_lt.mp hl
                omega
            · rw [if_neg hl]
              refine ⟨g1, by omega, g3, fun i a b d => ?_⟩
              by_cases e : i = j
              · rw [e]
                have h7 : ¬ (sl j).toInt < (sl nr).toInt := fun z => hl (Int64.lt_iff_toInt_lt.mpr z)
                omega
              · exact g4 i a (by omega) d
  · rw [if_neg hs]
    refine ⟨fun i a b d => ?_, fun i a => ?_, ?_⟩ <;> dsimp only
    · have e : i ≠ j := fun z => hs (z ▸ d)
      exact h1 i a (by omega) d
    · by_cases e : i = j
      · rw [e]
        exact ⟨e1, e2⟩
      · exact h2 i (by omega)
    · rcases h3 with h3 | ⟨g1, g2, g3, g4⟩
      · exact Or.inl ⟨h3.1, fun i a b => by
          by_cases e : i = j
          · rw [e]
            exact hs
          · exact h3.2 i a (by omega)⟩
      · refine Or.inr ⟨g1, by omega, g3, fun i a b d => ?_⟩
        have e : i ≠ j := fun z => hs (z ▸ d)
        exact g4 i a (by omega) d
theorem hm_nx_keeps {c : Int → Int → Int64} {u v : Int → Int64} {sn : Int → Int} {row fr : Int} {sl0 : Int → Int64} {cm0 : Int → Int} : ∀ (k : Nat) (j : Int) (s : (Int → Int64) × (Int → Int) × Int), 1 ≤ j → hm_nI c u v sn row fr sl0 cm0 j s → hm_nI c u v sn row fr sl0 cm0 (j + k) (hm_nx c u v sn row fr k j s)
  | 0, j, s, _, h => by
    rw [show j + ((0 : Nat) : Int) = j by omega]
    exact h
  | k + 1, j, s, hj, h => by
    have ih := hm_nx_keeps k (j + 1) _ (by omega) (hm_n1_keeps hj h)
    rw [show j + ((k + 1 : Nat) : Int) = j + 1 + (k : Int) by omega]
    exact ih
theorem hm_nI_0 {c : Int → Int → Int64} {u v : Int → Int64} {sn : Int → Int} {row fr : Int} {sl0 : Int → Int64} {cm0 : Int → Int} : hm_nI c u v sn row fr sl0 cm0 1 (sl0, cm0, 0) :=
  ⟨fun i a b => absurd b (by omega), fun i _ => ⟨rfl, rfl⟩, Or.inl ⟨rfl, fun i a b => absurd b (by omega)⟩⟩
/-- changePrices: one column; all columns from j on -/
def hm_c1 (ro sn : Int → Int) (d : Int64) (j : Int) (s : (Int → Int64) × (Int → Int64) × (Int → Int64)) : (Int → Int64) × (Int → Int64) × (Int → Int64) :=
  if sn j = 0 then (s.1, s.2.1, gz_ul s.2.2 j (s.2.2 j - d)) else (gz_ul s.1 (ro j) (s.1 (ro j) + d), gz_ul s.2.1 j (s.2.1 j - d), s.2.2)
def hm_cp (ro sn : Int → Int) (d : Int64) : Nat → Int → (Int → Int64) × (Int → Int64) × (Int → Int64) → (Int → Int64) × (Int → Int64) × (Int → Int64)
  | 0, _, s => s
  | k + 1, j, s => hm_cp ro sn d k (j + 1) (hm_c1 ro sn d j s)
def hm_cI (ro sn : Int → Int) (d : Int64) (u0 v0 sl0 : Int → Int64) (j : Int) (s : (Int → Int64) × (Int → Int64) × (Int → Int64)) : Prop :=
  (∀ i : Int, 0 ≤ i → i < j → sn i = 0 → s.2.1 i = v0 i ∧ s.2.2 i = sl0 i - d) ∧
  (∀ i : Int, 0 ≤ i → i < j → sn i ≠ 0 → s.2.1 i = v0 i - d ∧ s.2.2 i = sl0 i ∧ s.1 (ro i) = u0 (ro i) + d) ∧
  (∀ i : Int, j ≤ i → s.2.1 i = v0 i ∧ s.2.2 i = sl0 i) ∧
  (∀ r : Int, (∀ i : Int, 0 ≤ i → i < j → sn i ≠ 0 → ro i ≠ r) → s.1 r = u0 r)
theorem hm_c1_keeps {ro sn : Int → Int} {d : Int64} {u0 v0 sl0 : Int → Int64} {j : Int} {s : (Int → Int64) × (Int → Int64) × (Int → Int64)} (hj : 0 ≤ j) (hi : ∀ i : Int, 0 ≤ i → i < j → sn i ≠ 0 → sn j ≠ 0 → ro i ≠ ro j) (h : hm_cI ro sn d u0 v0 sl0 j s) : hm_cI ro sn d u0 v0 sl0 (j + 1) (hm_c1 ro sn d j s) := by
  obtain ⟨u, v, sl⟩ := s
  obtain ⟨h1, h2, h3, h4⟩ := h
  dsimp only at h1 h2 h3 h4
  obtain ⟨e1, e2⟩ := h3 j (Int.le_refl j)
  unfold hm_c1
  by_cases hs : sn j = 0
  · rw [if_pos hs]
    refine ⟨fun i a b g => ?_, fun i a b g => ?_, fun i a => ?_, fun r g => ?_⟩ <;> dsimp only
    · by_cases e : i = j
      · subst e
        exact ⟨e1, by rw [gz_uls, e2]⟩
      · rw [gz_uln _ _ e]
        exact h1 i a (by omega) g
    · have e : i ≠ j := fun z => g (z ▸ hs)
      rw [gz_uln _ _ e]
      exact h2 i a (by omega) g
    · rw [gz_uln _ _ (by omega)]
      exact h3 i (by omega)
    · exact h4 r (fun i a b g2 => g i a (by omega) g2)
  · rw [if_neg hs]
    have h5 : u (ro j) = u0 (ro j) := h4 (ro j) (fun i a b g => hi i a b g hs)
    refine ⟨fun i a b g => ?_, fun i a b g => ?_, fun i a => ?_, fun r g => ?_⟩ <;> dsimp only
    · have e : i ≠ j := fun z => hs (z ▸ g)
      rw [gz_uln _ _ e]
      exact h1 i a (by omega) g
    · by_cases e : i = j
      · subst e
        exact ⟨by rw [gz_uls, e1], e2, by rw [gz_uls, h5]⟩
      · obtain ⟨g1, g2, g3⟩ := h2 i a (by omega) g
        rw [gz_uln _ _ e, gz_uln _ _ (hi i a (by omega) g hs)]
        exact ⟨g1, g2, g3⟩
    · rw [gz_uln _ _ (by omega)]
      exact h3 i (by omega)
    · rw [gz_uln _ _ (fun z => g j hj (by omega) hs z.symm)]
      exact h4 r (fun i a b g2 => g i a (by omega) g2)
theorem hm_cp_keeps {ro sn : Int → Int} {d : Int64} {u0 v0 sl0 : Int → Int64} {n : Int} (hi : ∀ i j : Int, 0 ≤ i → i < j → j ≤ n → sn i ≠ 0 → sn j ≠ 0 → ro i ≠ ro j) : ∀ (k : Nat) (j : Int) (s : (Int → Int64) × (Int → Int64) × (Int → Int64)), 0 ≤ j → j + k = n + 1 → hm_cI ro sn d u0 v0 sl0 j s → hm_cI ro sn d u0 v0 sl0 (n + 1) (hm_cp ro sn d k j s)
  | 0, j, s, _, hk, h => by
    rw [show n + 1 = j by omega]
    exact h
  | k + 1, j, s, hj, hk, h => hm_cp_keeps hi k (j + 1) _ (by omega) (by omega) (hm_c1_keeps hj (fun i a b g1 g2 => hi i j a b (by omega) g1 g2) h)
theorem hm_cI_0 {ro sn : Int → Int} {d : Int64} {u0 v0 sl0 : Int → Int64} : hm_cI ro sn d u0 v0 sl0 0 (u0, v0, sl0) :=
  ⟨fun i a b => absurd b (by omega), fun i a b => absurd b (by omega), fun i _ => ⟨rfl, rfl⟩, fun r _ => rfl⟩
/-- nextColumn, whole: seen, slack, cameFrom, the row prices, the column prices, the column -/
def hm_next (n : Nat) (c : Int → Int → Int64) (ro : Int → Int) (fr : Int) (sn : Int → Int) (u v sl : Int → Int64) (cm : Int → Int) : (Int → Int) × ((Int → Int64) × (Int → Int64) × (Int → Int64)) × (Int → Int) × Int :=
  let s := hm_nx c u v (gz_u sn fr 1) (ro fr) fr n 1 (sl, cm, 0)
  (gz_u sn fr 1, hm_cp ro (gz_u sn fr 1) (s.1 s.2.2) (n + 1) 0 (u, v, s.1), s.2.1, s.2.2)
/-! what is kept -/
def hi_A (n : Nat) (k : Int) (ro : Int → Int) : Prop :=
  (∀ j : Int, 1 ≤ j → j ≤ n → 0 ≤ ro j ∧ ro j ≤ k) ∧ (∀ i j : Int, 1 ≤ i → i ≤ n → 1 ≤ j → j ≤ n → ro i ≠ 0 → ro i = ro j → i = j) ∧ (∀ i : Int, 1 ≤ i → i ≤ k → ∃ j : Int, 1 ≤ j ∧ j ≤ n ∧ ro j = i)
def hi_c (n : Nat) (c : Int → Int → Int64) : Prop := ∀ i j : Int, 1 ≤ i → i ≤ n → 1 ≤ j → j ≤ n → 0 ≤ (c i j).toInt ∧ (c i j).toInt ≤ 1000000000000
def hi_P (n : Nat) (c : Int → Int → Int64) (k : Int) (u v : Int → Int64) (ro : Int → Int) : Prop :=
  (∀ i j : Int, 1 ≤ i → i ≤ k → 1 ≤ j → j ≤ n → (u i).toInt + (v j).toInt ≤ (c i j).toInt) ∧
  (∀ j : Int, 1 ≤ j → j ≤ n → ro j ≠ 0 → (u (ro j)).toInt + (v j).toInt = (c (ro j) j).toInt) ∧
  (∀ j : Int, 1 ≤ j → j ≤ n → -1000000000000 ≤ (v j).toInt ∧ (v j).toInt ≤ 0) ∧
  (∀ j : Int, 1 ≤ j → j ≤ n → ro j = 0 → (v j).toInt = 0) ∧
  (∀ i : Int, 1 ≤ i → i ≤ k → 0 ≤ (u i).toInt ∧ (u i).toInt ≤ 1000000000000) ∧
  (∀ i : Int, k < i → i ≤ n → u i = 0)
/-- the seen columns, each reached by a place that the prices just reach, from an earlier one; j0 is the next -/
def hi_T (n : Nat) (c : Int → Int → Int64) (u v : Int → Int64) (ro sn cm : Int → Int) (j0 : Int) (t : Nat) : Prop :=
  (∀ j : Int, 0 ≤ j → j ≤ n → sn j = 0 ∨ sn j = 1) ∧ (0 ≤ j0 ∧ j0 ≤ n ∧ sn j0 = 0) ∧ (∀ j : Int, 1 ≤ j → j ≤ n → sn j = 1 → ro j ≠ 0) ∧
  ((t = 0 ∧ j0 = 0) ∨ (1 ≤ t ∧ 1 ≤ j0 ∧ sn 0 = 1)) ∧ sn 0 + pm_S sn n = t ∧
  ∃ rk : Int → Nat, (∀ j : Int, 0 ≤ j → j ≤ n → (sn j = 1 ∨ j = j0) → rk j ≤ t) ∧
    ∀ j : Int, 1 ≤ j → j ≤ n → (sn j = 1 ∨ j = j0) → 0 ≤ cm j ∧ cm j ≤ n ∧ sn (cm j) = 1 ∧ rk (cm j) < rk j ∧ (c (ro (cm j)) j).toInt = (u (ro (cm j))).toInt + (v j).toInt
def hi_K (n : Nat) (c : Int → Int → Int64) (u v : Int → Int64) (ro sn cm : Int → Int) (sl : Int → Int64) (t : Nat) : Prop :=
  ∀ j : Int, 1 ≤ j → j ≤ n → sn j = 0 → (t = 0 ∧ (sl j).toInt = 1152921504606846976) ∨ (1 ≤ t ∧ 0 ≤ cm j ∧ cm j ≤ n ∧ sn (cm j) = 1 ∧ (sl j).toInt = (c (ro (cm j)) j).toInt - (u (ro (cm j))).toInt - (v j).toInt ∧ ∀ i : Int, 0 ≤ i → i ≤ n → sn i = 1 → (sl j).toInt ≤ (c (ro i) j).toInt - (u (ro i)).toInt - (v j).toInt)
/-- there is a column without a row -/
theorem hi_free {n : Nat} {k : Int} {ro : Int → Int} (hA : hi_A n k ro) (hk0 : 0 ≤ k) (hk : k < n) : ∃ j : Int, 1 ≤ j ∧ j ≤ n ∧ ro j = 0 := by
  apply Classical.byContradiction
  intro h
  have h0 : ∀ j : Int, 1 ≤ j → j ≤ n → ro j ≠ 0 := fun j a b z => h ⟨j, a, b, z⟩
  obtain ⟨x, a1, a2, a3⟩ := pm_php n ro (fun i a b => ⟨by have := hA.1 i a b; have := h0 i a b; omega, by have := hA.1 i a b; omega⟩) (fun i j a b c d e => hA.2.1 i j a b c d (h0 i a b) e) (n : Int) (by omega) (Int.le_refl _)
  have := hA.1 x a1 a2
  omega
theorem hi_sn0 {n : Nat} {sn : Int → Int} (h1 : ∀ j : Int, 0 ≤ j → j ≤ n → sn j = 0 ∨ sn j = 1) (h : sn 0 + pm_S sn n = 0) : ∀ j : Int, 0 ≤ j → j ≤ n → sn j = 0 := by
  intro j a b
  have hn : ∀ i : Int, 1 ≤ i → i ≤ n → 0 ≤ sn i := fun i a b => by
    rcases h1 i (by omega) b with z | z <;> omega
  have h2 := pm_S_nonneg hn
  have h3 := h1 0 (by omega) (by omega)
  by_cases e : j = 0
  · rw [e]
    omega
  · have h4 := pm_S_ge hn (i0 := j) (by omega) b
    have h5 := h1 j a b
    omega
theorem hi_next {n : Nat} {c : Int → Int → Int64} {k : Int} {u v : Int → Int64} {ro sn cm : Int → Int} {sl : Int → Int64} {j0 : Int} {t : Nat} (hc : hi_c n c) (hk0 : 0 ≤ k) (hk : k < n) (hA : hi_A n k ro) (h0 : ro 0 = k + 1) (hP : hi_P n c (k + 1) u v ro) (hT : hi_T n c u v ro sn cm j0 t) (hK : hi_K n c u v ro sn cm sl t) (hr : ro j0 ≠ 0)
    {s : (Int → Int) × ((Int → Int64) × (Int → Int64) × (Int → Int64)) × (Int → Int) × Int} (hs : s = hm_next n c ro j0 sn u v sl cm) :
    hi_P n c (k + 1) s.2.1.1 s.2.1.2.1 ro ∧ hi_T n c s.2.1.1 s.2.1.2.1 ro s.1 s.2.2.1 s.2.2.2 (t + 1) ∧ hi_K n c s.2.1.1 s.2.1.2.1 ro s.1 s.2.2.1 s.2.1.2.2 (t + 1) := by
  obtain ⟨t1, ⟨a1, a2, a3⟩, t3, t4, t5, rk, t6, t7⟩ := hT
  obtain ⟨p1, p2, p3, p4, p5, p6⟩ := hP
  obtain ⟨A1, A2, A3⟩ := hA
  have hs1 : ∀ j : Int, j ≠ j0 → gz_u sn j0 1 j = sn j := fun j e => gz_un _ _ e
  have hs2 : gz_u sn j0 1 j0 = 1 := gz_us ..
  unfold hm_next at hs
  generalize hw : gz_u sn j0 1 = w at hs hs1 hs2
  have w01 : ∀ j : Int, 0 ≤ j → j ≤ n → w j = 0 ∨ w j = 1 := fun j a b => by
    by_cases e : j = j0
    · rw [e]; exact Or.inr hs2
    · rw [hs1 j e]; exact t1 j a b
  have wseen : ∀ j : Int, w j = 1 → sn j = 1 ∨ j = j0 := fun j h => by
    by_cases e : j = j0
    · exact Or.inr e
    · rw [hs1 j e] at h; exact Or.inl h
  have wup : ∀ j : Int, sn j = 1 → w j = 1 := fun j h => by
    by_cases e : j = j0
    · rw [e]; exact hs2
    · rw [hs1 j e]; exact h
  have wun : ∀ j : Int, w j = 0 → sn j = 0 ∧ j ≠ j0 := fun j h => by
    have e : j ≠ j0 := fun z => by rw [z, hs2] at h; omega
    exact ⟨by rw [← hs1 j e]; exact h, e⟩
  have hrx : ∀ i : Int, 0 ≤ i → i ≤ n → w i = 1 → 1 ≤ ro i ∧ ro i ≤ k + 1 ∧ (1 ≤ i → ro i ≤ k) := fun i a b h => by
    by_cases e : i = 0
    · rw [e, h0]
      exact ⟨by omega, by omega, fun z => absurd z (by omega)⟩
    · have h1 := A1 i (by omega) b
      have h2 : ro i ≠ 0 := by
        rcases wseen i h with z | z
        · exact t3 i (by omega) b z
        · rw [z]; exact hr
      exact ⟨by omega, by omega, fun _ => h1.2⟩
  have hinj : ∀ i j : Int, 0 ≤ i → i < j → j ≤ n → w i ≠ 0 → w j ≠ 0 → ro i ≠ ro j := fun i j a b d e f z => by
    have ei : w i = 1 := by rcases w01 i a (by omega) with y | y <;> omega
    have ej : w j = 1 := by rcases w01 j (by omega) d with y | y <;> omega
    have hj := hrx j (by omega) d ej
    by_cases e0 : i = 0
    · rw [e0, h0] at z
      have := hj.2.2 (by omega)
      omega
    · have hi := hrx i a (by omega) ei
      have := A2 i j (by omega) (by omega) (by omega) d (by omega) z
      omega
  obtain ⟨f, f1, f2, f3⟩ := hi_free ⟨A1, A2, A3⟩ hk0 hk
  have hfun : w f = 0 := by
    rcases w01 f (by omega) f2 with z | z
    · exact z
    · rcases wseen f z with y | y
      · exact absurd f3 (t3 f f1 f2 y)
      · exact absurd f3 (y ▸ hr)
  have hnx := hm_nx_keeps (c := c) (u := u) (v := v) (sn := w) (row := ro j0) (fr := j0) (sl0 := sl) (cm0 := cm) n 1 (sl, cm, 0) (by omega) hm_nI_0
  generalize hS : hm_nx c u v w (ro j0) j0 n 1 (sl, cm, 0) = S at hs hnx
  obtain ⟨S1, S2, nr⟩ := S
  obtain ⟨n1, n2, n3⟩ := hnx
  dsimp only at hs n1 n2 n3
  have n3' : 1 ≤ nr ∧ nr ≤ n ∧ w nr = 0 ∧ ∀ i : Int, 1 ≤ i → i ≤ n → w i = 0 → (S1 nr).toInt ≤ (S1 i).toInt := by
    rcases n3 with z | ⟨z1, z2, z3, z4⟩
    · exact absurd hfun (z.2 f f1 (by omega))
    · exact ⟨z1, by omega, z3, fun i a b d => z4 i a (by omega) d⟩
  obtain ⟨m1, m2, m3, m4⟩ := n3'
  have hrow := hrx j0 a1 a2 hs2
  have hxv : ∀ j : Int, 1 ≤ j → j ≤ n → (hm_x c u v (ro j0) j).toInt = (c (ro j0) j).toInt - (u (ro j0)).toInt - (v j).toInt := fun j a b => by
    have h1 := hc (ro j0) j hrow.1 (by omega) a b
    have h2 := p5 (ro j0) hrow.1 hrow.2.1
    have h3 := p3 j a b
    have e1 : (c (ro j0) j - u (ro j0)).toInt = (c (ro j0) j).toInt - (u (ro j0)).toInt := h64_sub (by omega) (by omega)
    unfold hm_x
    rw [h64_sub (by rw [e1]; omega) (by omega), e1]
  have hsl : ∀ j : Int, 1 ≤ j → j ≤ n → w j = 0 → 0 ≤ S2 j ∧ S2 j ≤ n ∧ w (S2 j) = 1 ∧ (S1 j).toInt = (c (ro (S2 j)) j).toInt - (u (ro (S2 j))).toInt - (v j).toInt ∧ ∀ i : Int, 0 ≤ i → i ≤ n → w i = 1 → (S1 j).toInt ≤ (c (ro i) j).toInt - (u (ro i)).toInt - (v j).toInt := fun j a b d => by
    obtain ⟨d1, d2⟩ := wun j d
    have hKj := hK j a b d1
    rcases n1 j a (by omega) d with ⟨g1, g2, g3⟩ | ⟨g1, g2, g3⟩
    · rw [g2, g3]
      refine ⟨a1, a2, hs2, hxv j a b, fun i ai bi wi => ?_⟩
      rcases wseen i wi with z | z
      · rcases hKj with ⟨y1, y2⟩ | ⟨y1, y2, y3, y4, y5, y6⟩
        · have := hi_sn0 t1 (by omega) i ai bi
          omega
        · have := y6 i ai bi z
          have := Int64.lt_iff_toInt_lt.mp g1
          omega
      · rw [z, hxv j a b]
        exact Int.le_refl _
    · rw [g2, g3]
      have g1' : ¬ (hm_x c u v (ro j0) j).toInt < (sl j).toInt := fun z => g1 (Int64.lt_iff_toInt_lt.mpr z)
      rw [hxv j a b] at g1'
      rcases hKj with ⟨y1, y2⟩ | ⟨y1, y2, y3, y4, y5, y6⟩
      · have h1 := hc (ro j0) j hrow.1 (by omega) a b
        have h2 := p5 (ro j0) hrow.1 hrow.2.1
        have h3 := p3 j a b
        omega
      · refine ⟨y2, y3, wup _ y4, y5, fun i ai bi wi => ?_⟩
        rcases wseen i wi with z | z
        · exact y6 i ai bi z
        · rw [z]
          omega
  -- the step
  obtain ⟨e1, e2, e3, e4, e5⟩ := hsl nr m1 m2 m3
  have hrn := hrx (S2 nr) e1 e2 e3
  have hd0 : 0 ≤ (S1 nr).toInt := by
    have := p1 (ro (S2 nr)) nr hrn.1 hrn.2.1 m1 m2
    omega
  have hd1 : (S1 nr).toInt ≤ 2000000000000 := by
    have h1 := hc (ro (S2 nr)) nr hrn.1 (by omega) m1 m2
    have h2 := p5 (ro (S2 nr)) hrn.1 hrn.2.1
    have h3 := p3 nr m1 m2
    omega
  have hcp := hm_cp_keeps (d := S1 nr) (u0 := u) (v0 := v) (sl0 := S1) (n := (n : Int)) hinj (n + 1) 0 (u, v, S1) (by omega) (by omega) hm_cI_0
  generalize hR : hm_cp ro w (S1 nr) (n + 1) 0 (u, v, S1) = Rr at hs hcp
  obtain ⟨u1, v1, sl1⟩ := Rr
  obtain ⟨q1, q2, q3, q4⟩ := hcp
  dsimp only at q1 q2 q3 q4
  subst hs
  dsimp only
  have uS : ∀ i : Int, 0 ≤ i → i ≤ n → w i = 1 → (u1 (ro i)).toInt = (u (ro i)).toInt + (S1 nr).toInt := fun i a b d => by
    have h1 := hrx i a b d
    have h2 := p5 (ro i) h1.1 h1.2.1
    rw [(q2 i a (by omega) (by omega)).2.2, h64_add (by omega) (by omega)]
  have vS : ∀ j : Int, 1 ≤ j → j ≤ n → w j = 1 → (v1 j).toInt = (v j).toInt - (S1 nr).toInt := fun j a b d => by
    have h2 := p3 j a b
    rw [(q2 j (by omega) (by omega) (by omega)).1, h64_sub (by omega) (by omega)]
  have vU : ∀ j : Int, 1 ≤ j → j ≤ n → w j = 0 → v1 j = v j := fun j a b d => (q1 j (by omega) (by omega) d).1
  have hrowcase : ∀ r : Int, (∃ i : Int, 0 ≤ i ∧ i ≤ n ∧ w i = 1 ∧ ro i = r) ∨ u1 r = u r := fun r => by
    by_cases h : ∃ i : Int, 0 ≤ i ∧ i ≤ n ∧ w i = 1 ∧ ro i = r
    · exact Or.inl h
    · refine Or.inr (q4 r (fun i a b d z => h ⟨i, a, by omega, ?_, z⟩))
      rcases w01 i a (by omega) with y | y
      · exact absurd y d
      · exact y
  have P1 : ∀ i j : Int, 1 ≤ i → i ≤ k + 1 → 1 ≤ j → j ≤ n → (u1 i).toInt + (v1 j).toInt ≤ (c i j).toInt := fun i j ai bi aj bj => by
    have h1 := p1 i j ai bi aj bj
    rcases w01 j (by omega) bj with wj | wj
    · rw [vU j aj bj wj]
      rcases hrowcase i with ⟨x, x1, x2, x3, x4⟩ | h
      · have h2 := uS x x1 x2 x3
        rw [x4] at h2
        have h3 := (hsl j aj bj wj).2.2.2.2 x x1 x2 x3
        have h4 := m4 j aj bj wj
        rw [x4] at h3
        omega
      · rw [h]
        exact h1
    · rw [vS j aj bj wj]
      rcases hrowcase i with ⟨x, x1, x2, x3, x4⟩ | h
      · have h2 := uS x x1 x2 x3
        rw [x4] at h2
        omega
      · rw [h]
        omega
  have P2 : ∀ j : Int, 1 ≤ j → j ≤ n → ro j ≠ 0 → (u1 (ro j)).toInt + (v1 j).toInt = (c (ro j) j).toInt := fun j aj bj hj => by
    have h1 := p2 j aj bj hj
    rcases w01 j (by omega) bj with wj | wj
    · rw [vU j aj bj wj]
      rcases hrowcase (ro j) with ⟨x, x1, x2, x3, x4⟩ | h
      · exfalso
        have hx := hrx x x1 x2 x3
        have hj1 := A1 j aj bj
        by_cases e : x = 0
        · rw [e, h0] at x4
          omega
        · have := A2 x j (by omega) x2 aj bj (by omega) x4
          rw [this, wj] at x3
          omega
      · rw [h]
        exact h1
    · have h2 := uS j (by omega) bj wj
      rw [vS j aj bj wj, h2]
      omega
  have P5 : ∀ i : Int, 1 ≤ i → i ≤ k + 1 → 0 ≤ (u1 i).toInt ∧ (u1 i).toInt ≤ 1000000000000 := fun i a b => by
    have h1 := P1 i f a b f1 f2
    have h2 := hc i f a (by omega) f1 f2
    have h3 := p4 f f1 f2 f3
    rw [vU f f1 f2 hfun] at h1
    have h4 := p5 i a b
    refine ⟨?_, by omega⟩
    rcases hrowcase i with ⟨x, x1, x2, x3, x4⟩ | h
    · have h5 := uS x x1 x2 x3
      rw [x4] at h5
      omega
    · rw [h]
      exact h4.1
  refine ⟨⟨P1, P2, fun j a b => ?_, fun j a b h => ?_, P5, fun i a b => ?_⟩, ⟨w01, ⟨by omega, m2, m3⟩, fun j a b h => ?_, Or.inr ⟨by omega, m1, ?_⟩, ?_, fun j => if j = nr then t + 1 else rk j, fun j a b h => ?_, fun j a b h => ?_⟩, fun j a b h => Or.inr ?_⟩
  · have h1 := p3 j a b
    rcases w01 j (by omega) b with wj | wj
    · rw [vU j a b wj]
      exact h1
    · have h2 := vS j a b wj
      have h3 := hrx j (by omega) b wj
      have h4 := P2 j a b (by omega)
      have h5 := P5 (ro j) h3.1 h3.2.1
      have h6 := hc (ro j) j h3.1 (by omega) a b
      omega
  · have wj : w j = 0 := by
      rcases w01 j (by omega) b with y | y
      · exact y
      · have := hrx j (by omega) b y
        omega
    rw [vU j a b wj]
    exact p4 j a b h
  · rcases hrowcase i with ⟨x, x1, x2, x3, x4⟩ | h
    · have := hrx x x1 x2 x3
      omega
    · rw [h]
      exact p6 i a b
  · have := hrx j (by omega) b h
    omega
  · by_cases e : j0 = 0
    · rw [← e]
      exact hs2
    · rcases t4 with z | z
      · exact absurd z.2 e
      · exact wup 0 z.2.2
  · by_cases e : j0 = 0
    · have h1 : pm_S w n = pm_S sn n := pm_S_congr (fun i a b => hs1 i (by omega))
      have h2 : w 0 = 1 := by rw [← e]; exact hs2
      have h3 : sn 0 = 0 := by
        have h9 := a3
        rw [e] at h9
        exact h9
      rw [h1, h2]
      omega
    · have h1 : pm_S w n = pm_S (fun i => sn i + (if i = j0 then 1 else 0)) n := pm_S_congr (fun i a b => by
        by_cases e2 : i = j0
        · rw [e2, hs2, a3]
          simp
        · rw [hs1 i e2]
          simp [e2])
      rw [h1, pm_S_add, pm_S_one (by omega) a2, hs1 0 (fun z => e z.symm)]
      omega
  · dsimp only
    by_cases e : j = nr
    · rw [if_pos e]
      exact Nat.le_refl _
    · rw [if_neg e]
      have h1 : sn j = 1 ∨ j = j0 := by
        rcases h with h | h
        · exact wseen j h
        · exact absurd h e
      have := t6 j a b h1
      omega
  · dsimp only
    by_cases e : j = nr
    · subst e
      have hne : S2 j ≠ j := fun z => by rw [z, m3] at e3; omega
      rw [if_pos rfl, if_neg hne]
      have h1 := t6 (S2 j) e1 e2 (wseen _ e3)
      have h2 := uS (S2 j) e1 e2 e3
      rw [vU j m1 m2 m3]
      exact ⟨e1, e2, e3, by omega, by omega⟩
    · have hj : w j = 1 := by
        rcases h with h | h
        · exact h
        · exact absurd h e
      have hcmj : S2 j = cm j := (n2 j (Or.inr (Or.inr (by omega)))).2
      obtain ⟨g1, g2, g3, g4, g5⟩ := t7 j a b (wseen j hj)
      have hne : cm j ≠ nr := fun z => by
        have := wup _ g3
        rw [z, m3] at this
        omega
      rw [hcmj, if_neg hne, if_neg e]
      have h2 := uS (cm j) g1 g2 (wup _ g3)
      have h3 := vS j a b hj
      exact ⟨g1, g2, wup _ g3, g4, by omega⟩
  · obtain ⟨g1, g2, g3, g4, g5⟩ := hsl j a b h
    have h1 : sl1 j = S1 j - S1 nr := (q1 j (by omega) (by omega) h).2
    have h2 := m4 j a b h
    have hx := hrx (S2 j) g1 g2 g3
    have h3 := hc (ro (S2 j)) j hx.1 (by omega) a b
    have h4 := p5 (ro (S2 j)) hx.1 hx.2.1
    have h5 := p3 j a b
    have h6 : (sl1 j).toInt = (S1 j).toInt - (S1 nr).toInt := by
      rw [h1, h64_sub (by omega) (by omega)]
    rw [vU j a b h]
    refine ⟨by omega, g1, g2, g3, ?_, fun i ai bi wi => ?_⟩
    · rw [uS (S2 j) g1 g2 g3]
      omega
    · have := g5 i ai bi wi
      rw [uS i ai bi wi]
      omega
/-! moveAlong -/
def hm_mv (cm : Int → Int) : Nat → Int → (Int → Int) → Int → Int
  | 0, _, p => p
  | k + 1, j, p => if j = 0 then p else hm_mv cm k (cm j) (gz_u p j (p (cm j)))
/-- p with the row of column j open; all rows but r0 stand elsewhere -/
def hv_H (n : Nat) (K : Int) (E : Int → Int → Prop) (r0 : Int) (p : Int → Int) (j : Int) : Prop :=
  (∀ i : Int, 1 ≤ i → i ≤ n → i ≠ j → 0 ≤ p i ∧ p i ≤ K ∧ p i ≠ r0) ∧ (∀ i i2 : Int, 1 ≤ i → i ≤ n → i ≠ j → 1 ≤ i2 → i2 ≤ n → i2 ≠ j → p i ≠ 0 → p i = p i2 → i = i2) ∧
  (∀ r : Int, 1 ≤ r → r ≤ K → r ≠ r0 → ∃ i : Int, 1 ≤ i ∧ i ≤ n ∧ i ≠ j ∧ p i = r) ∧ (∀ i : Int, 1 ≤ i → i ≤ n → i ≠ j → p i ≠ 0 → E (p i) i)
theorem hv_move {n : Nat} {K : Int} {E : Int → Int → Prop} {r0 : Int} {p0 cm : Int → Int} {Q : Int → Prop} {rk : Int → Nat} (hr0 : 1 ≤ r0 ∧ r0 ≤ K) (hp0 : p0 0 = r0)
    (hQ : ∀ x : Int, Q x → 1 ≤ x → x ≤ n → Q (cm x) ∧ 0 ≤ cm x ∧ cm x ≤ n ∧ rk (cm x) < rk x ∧ E (p0 (cm x)) x) (hQz : ∀ x : Int, Q x → 1 ≤ x → x ≤ n → ∀ y, y = cm x → 1 ≤ y → p0 y ≠ 0) :
    ∀ (k : Nat) (j : Int) (p : Int → Int), 1 ≤ j → j ≤ n → Q j → rk j ≤ k → p 0 = r0 → (∀ x : Int, 0 ≤ x → x ≤ n → Q x → rk x < rk j → p x = p0 x) → hv_H n K E r0 p j →
      hi_A n K (hm_mv cm k j p) ∧ (∀ i : Int, 1 ≤ i → i ≤ n → hm_mv cm k j p i ≠ 0 → E (hm_mv cm k j p i) i) ∧ (∀ i : Int, ¬ Q i ∨ i = 0 → hm_mv cm k j p i = p i) ∧ (∃ i : Int, 1 ≤ i ∧ i ≤ n ∧ Q i ∧ cm i = 0 ∧ hm_mv cm k j p i = r0) ∧ ∀ i : Int, 1 ≤ i → i ≤ n → hm_mv cm k j p i = 0 → p i = 0 ∧ i ≠ j
  | 0, j, p, a, b, hj, hk, _, _, _ => by
    have := (hQ j hj a b).2.2.2.1
    omega
  | k + 1, j, p, a, b, hj, hk, hz, hpx, ⟨H1, H2, H3, H4⟩ => by
    obtain ⟨c1, c2, c3, c4, c5⟩ := hQ j hj a b
    have hpy : p (cm j) = p0 (cm j) := hpx (cm j) c2 c3 c1 c4
    have hne : cm j ≠ j := fun z => by rw [z] at c4; omega
    unfold hm_mv
    rw [if_neg (by omega)]
    by_cases e : cm j = 0
    · -- the chain ends here
      have hfin : hm_mv cm k (cm j) (gz_u p j (p (cm j))) = gz_u p j r0 := by
        rw [hpy, e, hp0]
        cases k with
        | zero => rfl
        | succ k => unfold hm_mv; rw [if_pos rfl]
      rw [hfin]
      refine ⟨⟨fun i ai bi => ?_, fun i i2 ai bi ai2 bi2 hi he => ?_, fun r ar br => ?_⟩, fun i ai bi hi => ?_, fun i hi => ?_, ⟨j, a, b, hj, e, gz_us ..⟩, fun i ai bi hi => ?_⟩
      · by_cases ei : i = j
        · rw [ei, gz_us]
          omega
        · rw [gz_un _ _ ei]
          have := H1 i ai bi ei
          omega
      · by_cases ei : i = j
        · by_cases ei2 : i2 = j
          · omega
          · rw [ei, gz_us, gz_un _ _ ei2] at he
            exact absurd he.symm (H1 i2 ai2 bi2 ei2).2.2
        · by_cases ei2 : i2 = j
          · rw [ei2, gz_us, gz_un _ _ ei] at he
            exact absurd he (H1 i ai bi ei).2.2
          · rw [gz_un _ _ ei] at hi he
            rw [gz_un _ _ ei2] at he
            exact H2 i i2 ai bi ei ai2 bi2 ei2 hi he
      · by_cases er : r = r0
        · exact ⟨j, a, b, by rw [gz_us, er]⟩
        · obtain ⟨i, i1, i2, i3, i4⟩ := H3 r ar br er
          exact ⟨i, i1, i2, by rw [gz_un _ _ i3]; exact i4⟩
      · by_cases ei : i = j
        · rw [ei, gz_us]
          rw [e, hp0] at c5
          exact c5
        · rw [gz_un _ _ ei] at hi ⊢
          exact H4 i ai bi ei hi
      · have ei : i ≠ j := fun z => by
          rcases hi with hi | hi
          · exact hi (z ▸ hj)
          · omega
        exact gz_un _ _ ei
      · have ei : i ≠ j := fun z => by
          rw [z, gz_us] at hi
          omega
        rw [gz_un _ _ ei] at hi
        exact ⟨hi, ei⟩
    · -- on to the next one
      have hy1 : 1 ≤ cm j := by omega
      have hyz : p0 (cm j) ≠ 0 := hQz j hj a b (cm j) rfl hy1
      have hHy := H1 (cm j) hy1 c3 hne
      obtain ⟨R1, R2, R3, R4, R5⟩ := hv_move hr0 hp0 hQ hQz k (cm j) (gz_u p j (p (cm j))) hy1 c3 c1 (by omega) (by rw [gz_un _ _ (by omega)]; exact hz) (fun x ax bx qx rx => by
        have ex : x ≠ j := fun z => by rw [z] at rx; omega
        rw [gz_un _ _ ex]
        exact hpx x ax bx qx (by omega)) ⟨fun i ai bi ei => by
          by_cases e2 : i = j
          · rw [e2, gz_us]
            exact hHy
          · rw [gz_un _ _ e2]
            exact H1 i ai bi e2, fun i i2 ai bi ei ai2 bi2 ei2 hi he => by
          by_cases e2 : i = j
          · by_cases e3 : i2 = j
            · omega
            · rw [e2, gz_us] at hi
              rw [e2, gz_us, gz_un _ _ e3] at he
              exact absurd (H2 (cm j) i2 hy1 c3 hne ai2 bi2 e3 hi he).symm ei2
          · by_cases e3 : i2 = j
            · rw [gz_un _ _ e2] at hi he
              rw [e3, gz_us] at he
              exact absurd (H2 i (cm j) ai bi e2 hy1 c3 hne hi he) ei
            · rw [gz_un _ _ e2] at hi he
              rw [gz_un _ _ e3] at he
              exact H2 i i2 ai bi e2 ai2 bi2 e3 hi he, fun r ar br er => by
          obtain ⟨i, i1, i2, i3, i4⟩ := H3 r ar br er
          by_cases e2 : i = cm j
          · exact ⟨j, a, b, fun z => hne z.symm, by rw [gz_us, ← e2]; exact i4⟩
          · exact ⟨i, i1, i2, e2, by rw [gz_un _ _ i3]; exact i4⟩, fun i ai bi ei hi => by
          by_cases e2 : i = j
          · rw [e2, gz_us, hpy]
            exact c5
          · rw [gz_un _ _ e2] at hi ⊢
            exact H4 i ai bi e2 hi⟩
      refine ⟨R1, R2, fun i hi => ?_, R4, fun i ai bi hi => ?_⟩
      · have ei : i ≠ j := fun z => by
          rcases hi with hi | hi
          · exact hi (z ▸ hj)
          · omega
        rw [R3 i hi, gz_un _ _ ei]
      · have h := (R5 i ai bi hi).1
        by_cases ei : i = j
        · rw [ei, gz_us, hpy] at h
          exact absurd h hyz
        · rw [gz_un _ _ ei] at h
          exact ⟨h, ei⟩
/-! insert, solve -/
def hm_lp (n : Nat) (c : Int → Int → Int64) (ro : Int → Int) : Nat → (Int → Int) × ((Int → Int64) × (Int → Int64) × (Int → Int64)) × (Int → Int) × Int → (Int → Int) × ((Int → Int64) × (Int → Int64) × (Int → Int64)) × (Int → Int) × Int
  | 0, s => s
  | k + 1, s => if ro s.2.2.2 = 0 then s else hm_lp n c ro k (hm_next n c ro s.2.2.2 s.1 s.2.1.1 s.2.1.2.1 s.2.1.2.2 s.2.2.1)
def hi_All (n : Nat) (c : Int → Int → Int64) (k : Int) (ro : Int → Int) (t : Nat) (s : (Int → Int) × ((Int → Int64) × (Int → Int64) × (Int → Int64)) × (Int → Int) × Int) : Prop :=
  hi_P n c k s.2.1.1 s.2.1.2.1 ro ∧ hi_T n c s.2.1.1 s.2.1.2.1 ro s.1 s.2.2.1 s.2.2.2 t ∧ hi_K n c s.2.1.1 s.2.1.2.1 ro s.1 s.2.2.1 s.2.1.2.2 t
theorem hi_loop {n : Nat} {c : Int → Int → Int64} {k : Int} {ro : Int → Int} (hc : hi_c n c) (hk0 : 0 ≤ k) (hk : k < n) (hA : hi_A n k ro) (h0 : ro 0 = k + 1) :
    ∀ (m t : Nat) (s : (Int → Int) × ((Int → Int64) × (Int → Int64) × (Int → Int64)) × (Int → Int) × Int), t + m = n → hi_All n c (k + 1) ro t s → ∃ t2, t2 ≤ n ∧ hi_All n c (k + 1) ro t2 (hm_lp n c ro m s) ∧ ro (hm_lp n c ro m s).2.2.2 = 0
  | 0, t, s, htm, h => by
    refine ⟨t, by omega, h, ?_⟩
    show ro s.2.2.2 = 0
    apply Classical.byContradiction
    intro hr
    obtain ⟨f, f1, f2, f3⟩ := hi_free hA hk0 hk
    obtain ⟨-, ⟨t1, ⟨a1, a2, a3⟩, t3, t4, t5, -⟩, -⟩ := h
    have hj1 : 1 ≤ s.2.2.2 ∧ s.1 0 = 1 := by
      rcases t4 with z | z
      · omega
      · exact z.2
    have hf : s.1 f = 0 := by
      rcases t1 f (by omega) f2 with z | z
      · exact z
      · exact absurd f3 (t3 f f1 f2 z)
    have hne : f ≠ s.2.2.2 := fun z => hr (z ▸ f3)
    have h1 : pm_S (fun i => s.1 i + ((if i = f then 1 else 0) + (if i = s.2.2.2 then 1 else 0))) n ≤ pm_S (fun _ => 1) n := pm_S_le (fun i a b => by
      by_cases e1 : i = f
      · have e2 : i ≠ s.2.2.2 := fun z => hne (e1.symm.trans z)
        rw [if_pos e1, if_neg e2, e1, hf]
        omega
      · by_cases e2 : i = s.2.2.2
        · rw [if_neg e1, if_pos e2, e2, a3]
          omega
        · rw [if_neg e1, if_neg e2]
          rcases t1 i (by omega) b with z | z <;> omega)
    rw [pm_S_add, pm_S_add, pm_S_one f1 f2, pm_S_one hj1.1 a2] at h1
    have h2 : pm_S (fun _ => (1 : Int)) n ≤ n * 1 := pm_S_bound (fun _ _ _ => Int.le_refl _)
    omega
  | m + 1, t, s, htm, h => by
    by_cases hr : ro s.2.2.2 = 0
    · refine ⟨t, by omega, ?_⟩
      unfold hm_lp
      rw [if_pos hr]
      exact ⟨h, hr⟩
    · unfold hm_lp
      rw [if_neg hr]
      obtain ⟨h1, h2, h3⟩ := h
      exact hi_loop hc hk0 hk hA h0 m (t + 1) _ (by omega) (hi_next hc hk0 hk hA h0 h1 h2 h3 hr rfl)
/-- a new row: the prices and the rows behind it -/
theorem hi_ins {n : Nat} {c : Int → Int → Int64} {k : Int} {u v : Int → Int64} {ro sn cm : Int → Int} {sl : Int → Int64} (hc : hi_c n c) (hk0 : 0 ≤ k) (hk : k < n) (hA : hi_A n k ro) (hP : hi_P n c k u v ro)
    (hsn : ∀ j : Int, 0 ≤ j → j ≤ n → sn j = 0) (hsl : ∀ j : Int, 1 ≤ j → j ≤ n → (sl j).toInt = 1152921504606846976)
    {s : (Int → Int) × ((Int → Int64) × (Int → Int64) × (Int → Int64)) × (Int → Int) × Int} (hs : s = hm_lp n c (gz_u ro 0 (k + 1)) n (sn, (u, v, sl), cm, 0)) {ro2 : Int → Int} (hro : ro2 = hm_mv s.2.2.1 n s.2.2.2 (gz_u ro 0 (k + 1))) :
    hi_A n (k + 1) ro2 ∧ hi_P n c (k + 1) s.2.1.1 s.2.1.2.1 ro2 := by
  have hr1 : ∀ j : Int, 1 ≤ j → gz_u ro 0 (k + 1) j = ro j := fun j a => gz_un _ _ (by omega)
  have hr0 : gz_u ro 0 (k + 1) 0 = k + 1 := gz_us ..
  generalize gz_u ro 0 (k + 1) = r1 at hr1 hr0 hs hro
  obtain ⟨A1, A2, A3⟩ := hA
  obtain ⟨p1, p2, p3, p4, p5, p6⟩ := hP
  have hA1 : hi_A n k r1 := ⟨fun j a b => by rw [hr1 j a]; exact A1 j a b, fun i j a b a2 b2 h e => by
    rw [hr1 i a] at h e
    rw [hr1 j a2] at e
    exact A2 i j a b a2 b2 h e, fun i a b => by
    obtain ⟨j, j1, j2, j3⟩ := A3 i a b
    exact ⟨j, j1, j2, by rw [hr1 j j1]; exact j3⟩⟩
  have hu0 : u (k + 1) = 0 := p6 (k + 1) (by omega) (by omega)
  have hP1 : hi_P n c (k + 1) u v r1 := ⟨fun i j a b a2 b2 => by
    by_cases e : i = k + 1
    · have h1 := hc i j a (by omega) a2 b2
      have h2 := p3 j a2 b2
      have h3 : (u i).toInt = 0 := by rw [e, hu0]; rfl
      omega
    · exact p1 i j a (by omega) a2 b2, fun j a b h => by
    rw [hr1 j a] at h ⊢
    exact p2 j a b h, p3, fun j a b h => by
    rw [hr1 j a] at h
    exact p4 j a b h, fun i a b => by
    by_cases e : i = k + 1
    · have h3 : (u i).toInt = 0 := by rw [e, hu0]; rfl
      omega
    · exact p5 i a (by omega), fun i a b => p6 i (by omega) b⟩
  have h01 : ∀ j : Int, 0 ≤ j → j ≤ n → sn j = 0 ∨ sn j = 1 := fun j a b => Or.inl (hsn j a b)
  have hstart : hi_All n c (k + 1) r1 0 (sn, (u, v, sl), cm, 0) := by
    refine ⟨hP1, ⟨h01, ⟨Int.le_refl _, by dsimp only; omega, hsn 0 (by omega) (by omega)⟩, fun j a b h => ?_, Or.inl ⟨rfl, rfl⟩, ?_, fun _ => 0, fun j a b h => Nat.le_refl _, fun j a b h => ?_⟩, fun j a b h => Or.inl ⟨rfl, hsl j a b⟩⟩
    · have := hsn j (by omega) b
      dsimp only at h
      omega
    · have h1 : pm_S sn n = 0 := pm_S_zero (fun i a b => hsn i (by omega) b)
      have h2 := hsn 0 (by omega) (by omega)
      show sn 0 + pm_S sn n = ((0 : Nat) : Int)
      omega
    · have h1 := hsn j (by omega) b
      dsimp only at h
      omega
  obtain ⟨t, ht, hall, hz⟩ := hi_loop hc hk0 hk hA1 hr0 n 0 _ (by omega) hstart
  rw [← hs] at hall hz
  obtain ⟨sn2, ⟨u2, v2, sl2⟩, cm2, j0⟩ := s
  obtain ⟨⟨P1, P2, P3, P4, P5, P6⟩, ⟨T1, ⟨b1, b2, b3⟩, T3, T4, T5, rk, T6, T7⟩, -⟩ := hall
  dsimp only at *
  have hj0 : 1 ≤ j0 := by
    by_cases e : j0 = 0
    · rw [e, hr0] at hz
      omega
    · omega
  obtain ⟨B1, B2, B3⟩ := hA1
  have hmv := hv_move (n := n) (K := k + 1) (E := fun r x => (c r x).toInt = (u2 r).toInt + (v2 x).toInt) (r0 := k + 1) (p0 := r1) (cm := cm2) (Q := fun x => (0 ≤ x ∧ x ≤ n) ∧ (sn2 x = 1 ∨ x = j0)) (rk := rk) ⟨by omega, Int.le_refl _⟩ hr0
    (fun x hx a b => by
      obtain ⟨g1, g2, g3, g4, g5⟩ := T7 x a b hx.2
      exact ⟨⟨⟨g1, g2⟩, Or.inl g3⟩, g1, g2, g4, g5⟩)
    (fun x hx a b y hy hy1 => by
      obtain ⟨g1, g2, g3, g4, g5⟩ := T7 x a b hx.2
      rw [hy] at hy1 ⊢
      exact T3 _ hy1 g2 g3)
    n j0 r1 hj0 b2 ⟨⟨b1, b2⟩, Or.inr rfl⟩ (Nat.le_trans (T6 j0 b1 b2 (Or.inr rfl)) ht) hr0 (fun x _ _ _ _ => rfl)
    ⟨fun i a b e => by have := B1 i a b; omega, fun i i2 a b e a2 b2' e2 h he => B2 i i2 a b a2 b2' h he, fun r a b e => by
      obtain ⟨j, j1, j2, j3⟩ := B3 r a (by omega)
      exact ⟨j, j1, j2, fun z => by rw [z, hz] at j3; omega, j3⟩, fun i a b e h => (P2 i a b h).symm⟩
  rw [← hro] at hmv
  obtain ⟨M1, M2, M3, M4, M5⟩ := hmv
  exact ⟨M1, P1, fun j a b h => (M2 j a b h).symm, P3, fun j a b h => P4 j a b (M5 j a b h).1, P5, P6⟩
end
section
/-! PURE: the whole matching: its sum; the search for another one of the same sum -/
def hs_S (f : Int → Int64) : Nat → Int → Int64 → Int64
  | 0, _, a => a
  | k + 1, j, a => hs_S f k (j + 1) (a + f j)
theorem hs_toInt {f : Int → Int64} {B : Int} (hB : 0 ≤ B) : ∀ (k : Nat) (m : Nat) (a : Int64), (∀ i : Int, 1 ≤ i → i ≤ ((m + k : Nat) : Int) → 0 ≤ (f i).toInt ∧ (f i).toInt ≤ B) → a.toInt = pm_S (fun i => (f i).toInt) m → ((m + k : Nat) : Int) * B ≤ 1152921504606846976 → (hs_S f k ((m : Int) + 1) a).toInt = pm_S (fun i => (f i).toInt) (m + k)
  | 0, m, a, _, ha, _ => ha
  | k + 1, m, a, hf, ha, hb => by
    have h1 := hf ((m : Int) + 1) (by omega) (by omega)
    have h2 : 0 ≤ pm_S (fun i => (f i).toInt) m := pm_S_nonneg (fun i x y => (hf i x (by omega)).1)
    have h3 : pm_S (fun i => (f i).toInt) m ≤ m * B := pm_S_bound (fun i x y => (hf i x (by omega)).2)
    have h4 : (m : Int) * B + B ≤ ((m + (k + 1) : Nat) : Int) * B := by
      have h5 : ((m + (k + 1) : Nat) : Int) * B = (m : Int) * B + ((k : Int) * B + B) := by
        rw [Int.natCast_add, Int.natCast_add, Int.add_mul, Int.add_mul]
        simp
      have h6 : 0 ≤ (k : Int) * B := Int.mul_nonneg (by omega) hB
      omega
    have e : (a + f ((m : Int) + 1)).toInt = pm_S (fun i => (f i).toInt) (m + 1) := by
      rw [h64_add (by omega) (by omega), ha]
      rfl
    have ih := hs_toInt hB k (m + 1) (a + f ((m : Int) + 1)) (fun i x y => hf i x (by omega)) e (by rw [show m + 1 + k = m + (k + 1) by omega]; exact hb)
    rw [show m + (k + 1) = m + 1 + k by omega, ← ih]
    rfl
/-- the column of each row -/
theorem hi_tau {n : Nat} {ro : Int → Int} (hA : hi_A n n ro) : ∃ t : Int → Int, (∀ i : Int, 1 ≤ i → i ≤ n → 1 ≤ t i ∧ t i ≤ n ∧ ro (t i) = i) ∧ (∀ j : Int, 1 ≤ j → j ≤ n → 1 ≤ ro j ∧ ro j ≤ n ∧ t (ro j) = j) := by
  obtain ⟨A1, A2, A3⟩ := hA
  have hch : ∀ i : Int, ∃ j : Int, 1 ≤ i → i ≤ n → (1 ≤ j ∧ j ≤ n ∧ ro j = i) := fun i => by
    by_cases h : 1 ≤ i ∧ i ≤ n
    · obtain ⟨j, h1⟩ := A3 i h.1 h.2
      exact ⟨j, fun _ _ => h1⟩
    · exact ⟨0, fun a b => absurd ⟨a, b⟩ h⟩
  have hex : ∃ t : Int → Int, ∀ i : Int, 1 ≤ i → i ≤ n → (1 ≤ t i ∧ t i ≤ n ∧ ro (t i) = i) := ⟨fun i => Classical.choose (hch i), fun i => Classical.choose_spec (hch i)⟩
  obtain ⟨t, ht⟩ := hex
  have hinj : pm_inj n t := fun i j a b a2 b2 h => by
    have h1 := (ht i a b).2.2
    rw [h, (ht j a2 b2).2.2] at h1
    exact h1.symm
  refine ⟨t, ht, fun j a b => ?_⟩
  obtain ⟨i, i1, i2, i3⟩ := pm_php n t (fun i x y => ⟨(ht i x y).1, (ht i x y).2.1⟩) hinj j a b
  have h1 := (ht i i1 i2).2.2
  rw [i3] at h1
  rw [h1]
  exact ⟨i1, i2, i3⟩
theorem hi_sum {n : Nat} {c : Int → Int → Int64} {u v : Int → Int64} {ro : Int → Int} (hA : hi_A n n ro) (hP : hi_P n c n u v ro) : pm_S (fun j => (c (ro j) j).toInt) n = pm_S (fun i => (u i).toInt) n + pm_S (fun j => (v j).toInt) n := by
  obtain ⟨t, h1, h2⟩ := hi_tau hA
  have e1 : pm_S (fun j => (c (ro j) j).toInt) n = pm_S (fun j => (u (ro j)).toInt + (v j).toInt) n := pm_S_congr (fun j a b => (hP.2.1 j a b (by have := h2 j a b; omega)).symm)
  rw [e1, pm_S_add, pm_S_perm n ro (fun j a b => ⟨(h2 j a b).1, (h2 j a b).2.1⟩) (fun i j a b a2 b2 h => hA.2.1 i j a b a2 b2 (by have := h2 i a b; omega) h) (fun i => (u i).toInt)]
abbrev hi_u (u : Int → Int64) : Int → Int := fun i => (u i).toInt
theorem pl_d_0 (r q : Int → Int) (n : Nat) : pl_d r q n n 0 = pm_S r n + pm_S q n := by
  unfold pl_d
  have h1 : pl_q q n 0 = pm_S q n := pm_S_congr (fun j a b => by simp [pl_b])
  have h2 : pm_S r (n - n) = 0 := by
    rw [Nat.sub_self]
    rfl
  rw [h1, h2]
  omega
theorem pl_n_0 (n : Nat) : pl_n n 0 = 0 := pm_S_zero (fun j a b => by simp [pl_b])
/-- the model's costs m stand above the class's c, and are the same where the matching lies: the sums are one -/
theorem hi_least {n : Nat} {c : Int → Int → Int64} {m : Int → Int → Int} {NV : Int} {u v : Int → Int64} {ro : Int → Int} (hc : hi_c n c) (hm : ∀ i j : Int, 1 ≤ i → i ≤ n → 1 ≤ j → j ≤ n → (c i j).toInt ≤ m i j) (hA : hi_A n n ro) (hP : hi_P n c n u v ro) (he : ∀ j : Int, 1 ≤ j → j ≤ n → m (ro j) j = (c (ro j) j).toInt) (hNV : pm_S (hi_u u) n + pm_S (hi_u v) n ≤ NV) :
    pl_F n m NV n 0 = pm_S (hi_u u) n + pm_S (hi_u v) n := by
  obtain ⟨t, h1, h2⟩ := hi_tau hA
  have hok : pl_ok (hi_u u) (hi_u v) m n := fun i j a b a2 b2 => Int.le_trans (hP.1 i j a b a2 b2) (hm i j a b a2 b2)
  have hm0 : ∀ i j : Int, 1 ≤ i → i ≤ n → 1 ≤ j → j ≤ n → 0 ≤ m i j := fun i j a b a2 b2 => Int.le_trans (hc i j a b a2 b2).1 (hm i j a b a2 b2)
  have hlow := pl_low (NV := NV) hok hm0 n 0 (Nat.le_refl n) (by rw [pl_n_0]; omega) (pm_S (hi_u u) n + pm_S (hi_u v) n) hNV (by rw [pl_d_0]; exact Int.le_refl _)
  have hup := pl_up (c := m) (NV := NV) (t := t) n 0 (Nat.le_refl n) ⟨fun i a b => ⟨(h1 i (by omega) b).1, (h1 i (by omega) b).2.1, by simp [pl_b]⟩, fun i j a b a2 b2 h => by
    have h3 := (h1 i (by omega) b).2.2
    rw [h, (h1 j (by omega) b2).2.2] at h3
    exact h3.symm⟩
  have e1 : pm_S (fun i => m i (t i)) n = pm_S (hi_u u) n + pm_S (hi_u v) n := by
    have e2 : pm_S (fun i => m i (t i)) n = pm_S (fun i => hi_u u i + hi_u v (t i)) n := pm_S_congr (fun i a b => by
      obtain ⟨g1, g2, g3⟩ := h1 i a b
      have g4 := he (t i) g1 g2
      have g5 := hP.2.1 (t i) g1 g2 (by omega)
      rw [g3] at g4 g5
      show m i (t i) = (u i).toInt + (v (t i)).toInt
      omega)
    rw [e2, pm_S_add, pm_S_perm n t (fun i a b => ⟨(h1 i a b).1, (h1 i a b).2.1⟩) (fun i j a b a2 b2 h => by
      have h3 := (h1 i a b).2.2
      rw [h, (h1 j a2 b2).2.2] at h3
      exact h3.symm) (hi_u v)]
  rw [e1, Nat.sub_self] at hup
  have h3 : pm_S (fun i => m i (t i)) 0 = 0 := rfl
  omega
/-! the search: queueFrom, one column, and all from j on; reaches -/
abbrev bq_S : Type := (Int → Int) × (Int → Int) × (Int → Int) × Int
def bq_1 (c : Int → Int → Int64) (u v : Int → Int64) (ro : Int → Int) (row fr j : Int) (s : bq_S) : bq_S :=
  if s.1 j = 0 then if row ≤ ro j then if hm_x c u v (ro fr) j = 0 then (gz_u s.1 j 1, gz_u s.2.1 j fr, gz_u s.2.2.1 s.2.2.2 j, s.2.2.2 + 1) else s else s else s
def bq_F (c : Int → Int → Int64) (u v : Int → Int64) (ro : Int → Int) (row fr : Int) : Nat → Int → bq_S → bq_S
  | 0, _, s => s
  | k + 1, j, s => bq_F c u v ro row fr k (j + 1) (bq_1 c u v ro row fr j s)
def bq_L (n : Nat) (c : Int → Int → Int64) (u v : Int → Int64) (ro : Int → Int) (row left : Int) : Nat → Int → bq_S → bq_S
  | 0, _, s => s
  | k + 1, nx, s => if nx < s.2.2.2 then if s.1 left = 0 then bq_L n c u v ro row left k (nx + 1) (bq_F c u v ro row (s.2.2.1 nx) n 1 s) else s else s
/-- what is seen: in the queue, open, reached from an earlier one -/
def bq_I (n : Nat) (c : Int → Int → Int64) (u v : Int → Int64) (ro : Int → Int) (row wanted : Int) (s : bq_S) : Prop :=
  (∀ j : Int, 0 ≤ j → j ≤ n → s.1 j = 0 ∨ s.1 j = 1) ∧ (∀ i : Int, 0 ≤ i → i < s.2.2.2 → 1 ≤ s.2.2.1 i ∧ s.2.2.1 i ≤ n ∧ s.1 (s.2.2.1 i) = 1) ∧
  (∀ j : Int, 1 ≤ j → j ≤ n → s.1 j = 1 → row ≤ ro j ∧ ∃ i : Int, 0 ≤ i ∧ i < s.2.2.2 ∧ s.2.2.1 i = j) ∧ pm_S s.1 n = s.2.2.2 ∧ 1 ≤ s.2.2.2 ∧ s.1 wanted = 1 ∧
  ∃ rk : Int → Nat, rk 0 = 0 ∧ ∀ j : Int, 1 ≤ j → j ≤ n → s.1 j = 1 → 1 ≤ rk j ∧ (rk j : Int) ≤ s.2.2.2 ∧ 0 ≤ s.2.1 j ∧ s.2.1 j ≤ n ∧ ((s.2.1 j = 0 ∧ j = wanted) ∨ (1 ≤ s.2.1 j ∧ s.1 (s.2.1 j) = 1)) ∧ rk (s.2.1 j) < rk j ∧ hm_x c u v (ro (s.2.1 j)) j = 0
theorem bq_1_keeps {n : Nat} {c : Int → Int → Int64} {u v : Int → Int64} {ro : Int → Int} {row wanted fr j : Int} {s : bq_S} (hfr : 1 ≤ fr ∧ fr ≤ n ∧ s.1 fr = 1) (hj : 1 ≤ j ∧ j ≤ n) (h : bq_I n c u v ro row wanted s) :
    bq_I n c u v ro row wanted (bq_1 c u v ro row fr j s) ∧ (∀ i : Int, s.1 i = 1 → (bq_1 c u v ro row fr j s).1 i = 1) ∧ (∀ i : Int, i < s.2.2.2 → (bq_1 c u v ro row fr j s).2.2.1 i = s.2.2.1 i) ∧ s.2.2.2 ≤ (bq_1 c u v ro row fr j s).2.2.2 ∧ (row ≤ ro j → hm_x c u v (ro fr) j = 0 → (bq_1 c u v ro row fr j s).1 j = 1) := by
  obtain ⟨sn, cm, qu, qn⟩ := s
  have h' := h
  obtain ⟨h1, h2, h3, h4, h5, h6, rk, h7, h8⟩ := h
  dsimp only at h1 h2 h3 h4 h5 h6 h7 h8 hfr
  by_cases a : sn j = 0
  · by_cases b : row ≤ ro j
    · by_cases d : hm_x c u v (ro fr) j = 0
      · have hE : bq_1 c u v ro row fr j (sn, cm, qu, qn) = (gz_u sn j 1, gz_u cm j fr, gz_u qu qn j, qn + 1) := by
          unfold bq_1
          rw [if_pos a, if_pos b, if_pos d]
        rw [hE]
        have hfj : fr ≠ j := fun z => by rw [z, a] at hfr; omega
        have sup : ∀ i : Int, sn i = 1 → gz_u sn j 1 i = 1 := fun i hi => by
          by_cases e : i = j
          · rw [e, gz_us]
          · rw [gz_un _ _ e]; exact hi
        have sdn : ∀ i : Int, gz_u sn j 1 i = 1 → sn i = 1 ∨ i = j := fun i hi => by
          by_cases e : i = j
          · exact Or.inr e
          · rw [gz_un _ _ e] at hi; exact Or.inl hi
        refine ⟨⟨fun i x y => ?_, fun i x y => ?_, fun i x y z => ?_, ?_, ?_, sup _ h6, fun i => if i = j then (qn + 1).toNat else rk i, ?_, fun i x y z => ?_⟩, sup, fun i x => gz_un _ _ (by dsimp only at x; omega), by show qn ≤ qn + 1; omega, fun _ _ => gz_us ..⟩ <;> (try dsimp only)
        · by_cases e : i = j
          · rw [e, gz_us]; exact Or.inr rfl
          · rw [gz_un _ _ e]; exact h1 i x y
        · by_cases e : i = qn
          · rw [e, gz_us]
            exact ⟨hj.1, hj.2, gz_us ..⟩
          · rw [gz_un _ _ e]
            obtain ⟨g1, g2, g3⟩ := h2 i x (by dsimp only at y; omega)
            exact ⟨g1, g2, sup _ g3⟩
        · rcases sdn i z with z | z
          · obtain ⟨g1, q, q1, q2, q3⟩ := h3 i x y z
            exact ⟨g1, q, q1, by omega, by rw [gz_un _ _ (by omega)]; exact q3⟩
          · rw [z]
            exact ⟨b, qn, by omega, by omega, gz_us ..⟩
        · have e1 : pm_S (gz_u sn j 1) n = pm_S (fun i => sn i + (if i = j then 1 else 0)) n := pm_S_congr (fun i x y => by
            by_cases e : i = j
            · rw [e, gz_us, a]
              simp
            · rw [gz_un _ _ e]
              simp [e])
          rw [e1, pm_S_add, pm_S_one hj.1 hj.2, h4]
        · omega
        · rw [if_neg (by omega)]
          exact h7
        · by_cases e : i = j
          · obtain ⟨g1, g2, -⟩ := h8 fr hfr.1 hfr.2.1 hfr.2.2
            rw [e, if_pos rfl, gz_us, if_neg hfj]
            exact ⟨by omega, by omega, by omega, hfr.2.1, Or.inr ⟨hfr.1, sup _ hfr.2.2⟩, by omega, d⟩
          · have hi : sn i = 1 := by
              rcases sdn i z with z | z
              · exact z
              · exact absurd z e
            obtain ⟨g1, g2, g3, g4, g5, g6, g7⟩ := h8 i x y hi
            rw [if_neg e, gz_un _ _ e]
            have hcj : cm i ≠ j := fun z => by
              rcases g5 with g5 | g5
              · omega
              · rw [z, a] at g5
                omega
            rw [if_neg hcj]
            refine ⟨g1, by omega, g3, g4, ?_, g6, g7⟩
            rcases g5 with g5 | g5
            · exact Or.inl g5
            · exact Or.inr ⟨g5.1, sup _ g5.2⟩
      · have hE : bq_1 c u v ro row fr j (sn, cm, qu, qn) = (sn, cm, qu, qn) := by
          unfold bq_1
          rw [if_pos a, if_pos b, if_neg d]
        rw [hE]
        exact ⟨h', fun i hi => hi, fun i _ => rfl, Int.le_refl _, fun _ z => absurd z d⟩
    · have hE : bq_1 c u v ro row fr j (sn, cm, qu, qn) = (sn, cm, qu, qn) := by
        unfold bq_1
        rw [if_pos a, if_neg b]
      rw [hE]
      exact ⟨h', fun i hi => hi, fun i _ => rfl, Int.le_refl _, fun z => absurd z b⟩
  · have hE : bq_1 c u v ro row fr j (sn, cm, qu, qn) = (sn, cm, qu, qn) := by
      unfold bq_1
      rw [if_neg a]
    rw [hE]
    have aj : sn j = 1 := by
      rcases h1 j (by omega) hj.2 with z | z
      · exact absurd z a
      · exact z
    exact ⟨h', fun i hi => hi, fun i _ => rfl, Int.le_refl _, fun _ _ => aj⟩
theorem bq_F_keeps {n : Nat} {c : Int → Int → Int64} {u v : Int → Int64} {ro : Int → Int} {row wanted fr : Int} : ∀ (k : Nat) (j : Int) (s : bq_S), 1 ≤ j → j + k = (n : Int) + 1 → (1 ≤ fr ∧ fr ≤ n ∧ s.1 fr = 1) → bq_I n c u v ro row wanted s →
    bq_I n c u v ro row wanted (bq_F c u v ro row fr k j s) ∧ (∀ i : Int, s.1 i = 1 → (bq_F c u v ro row fr k j s).1 i = 1) ∧ (∀ i : Int, i < s.2.2.2 → (bq_F c u v ro row fr k j s).2.2.1 i = s.2.2.1 i) ∧ s.2.2.2 ≤ (bq_F c u v ro row fr k j s).2.2.2 ∧ (∀ i : Int, j ≤ i → i ≤ n → row ≤ ro i → hm_x c u v (ro fr) i = 0 → (bq_F c u v ro row fr k j s).1 i = 1)
  | 0, j, s, hj, hk, hfr, h => ⟨h, fun i hi => hi, fun i _ => rfl, Int.le_refl _, fun i a b => absurd b (by omega)⟩
  | k + 1, j, s, hj, hk, hfr, h => by
    obtain ⟨g1, g2, g3, g4, g5⟩ := bq_1_keeps hfr ⟨hj, by omega⟩ h
    obtain ⟨i1, i2, i3, i4, i5⟩ := bq_F_keeps (wanted := wanted) k (j + 1) (bq_1 c u v ro row fr j s) (by omega) (by omega) ⟨hfr.1, hfr.2.1, g2 _ hfr.2.2⟩ g1
    refine ⟨i1, fun i hi => i2 i (g2 i hi), fun i hi => (i3 i (by omega)).trans (g3 i hi), Int.le_trans g4 i4, fun i a b d e => ?_⟩
    by_cases ei : i = j
    · rw [ei] at d e ⊢
      exact i2 j (g5 d e)
    · exact i5 i (by omega) b d e
theorem bq_L_keeps {n : Nat} {c : Int → Int → Int64} {u v : Int → Int64} {ro : Int → Int} {row wanted left : Int} (hl : 1 ≤ left ∧ left ≤ n) : ∀ (k : Nat) (nx : Int) (s : bq_S), 0 ≤ nx → nx + k = (n : Int) → bq_I n c u v ro row wanted s → (∀ i : Int, 0 ≤ i → i < nx → i < s.2.2.2 ∧ ∀ j : Int, 1 ≤ j → j ≤ n → row ≤ ro j → hm_x c u v (ro (s.2.2.1 i)) j = 0 → s.1 j = 1) →
    bq_I n c u v ro row wanted (bq_L n c u v ro row left k nx s) ∧ ((bq_L n c u v ro row left k nx s).1 left = 1 ∨ ∀ i : Int, 0 ≤ i → i < (bq_L n c u v ro row left k nx s).2.2.2 → ∀ j : Int, 1 ≤ j → j ≤ n → row ≤ ro j → hm_x c u v (ro ((bq_L n c u v ro row left k nx s).2.2.1 i)) j = 0 → (bq_L n c u v ro row left k nx s).1 j = 1)
  | 0, nx, s, h0, hk, h, hcl => by
    refine ⟨h, Or.inr (fun i a b => (hcl i a ?_).2)⟩
    have h4 : pm_S s.1 n = s.2.2.2 := h.2.2.2.1
    have h5 : pm_S s.1 n ≤ n * 1 := pm_S_bound (fun i x y => by
      rcases h.1 i (by omega) y with z | z <;> omega)
    have b' : i < s.2.2.2 := b
    omega
  | k + 1, nx, s, h0, hk, h, hcl => by
    unfold bq_L
    by_cases a : nx < s.2.2.2
    · rw [if_pos a]
      by_cases b : s.1 left = 0
      · rw [if_pos b]
        have hq := h.2.1 nx h0 a
        obtain ⟨g1, g2, g3, g4, g5⟩ := bq_F_keeps (wanted := wanted) n 1 s (by omega) (by omega) ⟨hq.1, hq.2.1, hq.2.2⟩ h
        refine bq_L_keeps hl k (nx + 1) _ (by omega) (by omega) g1 (fun i ai bi => ?_)
        by_cases e : i = nx
        · rw [e]
          refine ⟨by omega, fun j aj bj d f => ?_⟩
          rw [g3 nx a] at f
          exact g5 j aj bj d f
        · obtain ⟨k1, k2⟩ := hcl i ai (by omega)
          refine ⟨by omega, fun j aj bj d f => ?_⟩
          rw [g3 i k1] at f
          exact g2 j (k2 j aj bj d f)
      · rw [if_neg b]
        refine ⟨h, Or.inl ?_⟩
        rcases h.1 left (by omega) hl.2 with z | z
        · exact absurd z b
        · exact z
    · rw [if_neg a]
      exact ⟨h, Or.inr (fun i x y => (hcl i x (by omega)).2)⟩
end
section
/-! PURE: a row takes a column, or cannot: by the search, and by the sums -/
def tk_T (n : Nat) (c : Int → Int → Int64) (u v : Int → Int64) (ro : Int → Int) : Prop := ∀ j : Int, 1 ≤ j → j ≤ n → hm_x c u v (ro j) j = 0
theorem hx_0 {n : Nat} {c : Int → Int → Int64} {u v : Int → Int64} {ro : Int → Int} (hc : hi_c n c) (hP : hi_P n c n u v ro) {r j : Int} (a : 1 ≤ r) (b : r ≤ n) (a2 : 1 ≤ j) (b2 : j ≤ n) : hm_x c u v r j = 0 ↔ (c r j).toInt = (u r).toInt + (v j).toInt := by
  have h1 := hc r j a b a2 b2
  have h2 := hP.2.2.2.2.1 r a b
  have h3 := hP.2.2.1 j a2 b2
  have e1 : (c r j - u r).toInt = (c r j).toInt - (u r).toInt := h64_sub (by omega) (by omega)
  have e2 : (hm_x c u v r j).toInt = (c r j).toInt - (u r).toInt - (v j).toInt := by
    unfold hm_x
    rw [h64_sub (by rw [e1]; omega) (by omega), e1]
  rw [← Int64.toInt_inj, e2]
  show _ = (0 : Int) ↔ _
  omega
theorem tk_of {n : Nat} {c : Int → Int → Int64} {u v : Int → Int64} {ro : Int → Int} (hc : hi_c n c) (hA : hi_A n n ro) (hP : hi_P n c n u v ro) : tk_T n c u v ro := by
  intro j a b
  obtain ⟨t, h1, h2⟩ := hi_tau hA
  have h3 := h2 j a b
  exact (hx_0 hc hP h3.1 h3.2.1 a b).mpr (hP.2.1 j a b (by omega)).symm
/-- the search has come to the column that is left: the rows move along -/
theorem tk_yes {n : Nat} {c : Int → Int → Int64} {u v : Int → Int64} {ro : Int → Int} {row wanted left : Int} {s : bq_S} (hA : hi_A n n ro) (hT : tk_T n c u v ro) (hrow : 1 ≤ row ∧ row ≤ n) (hl : 1 ≤ left ∧ left ≤ n ∧ ro left = row)
    (hI : bq_I n c u v (gz_u ro 0 row) row wanted s) (hs : s.1 left = 1) {ro2 : Int → Int} (hro : ro2 = hm_mv s.2.1 n left (gz_u ro 0 row)) :
    hi_A n n ro2 ∧ tk_T n c u v ro2 ∧ ro2 wanted = row ∧ ∀ j : Int, 1 ≤ j → j ≤ n → ro j < row → ro2 j = ro j := by
  have hr1 : ∀ j : Int, 1 ≤ j → gz_u ro 0 row j = ro j := fun j a => gz_un _ _ (by omega)
  have hr0 : gz_u ro 0 row 0 = row := gz_us ..
  generalize gz_u ro 0 row = r1 at hr1 hr0 hI hro
  obtain ⟨t, t1, t2⟩ := hi_tau hA
  obtain ⟨A1, A2, A3⟩ := hA
  obtain ⟨sn, cm, qu, qn⟩ := s
  obtain ⟨h1, h2, h3, h4, h5, h6, rk, h7, h8⟩ := hI
  dsimp only at h1 h2 h3 h4 h5 h6 h8 hs hro
  have hqn : qn ≤ n := by
    have h9 : pm_S sn n ≤ n * 1 := pm_S_bound (fun i x y => by
      rcases h1 i (by omega) y with z | z <;> omega)
    omega
  obtain ⟨M1, M2, M3, M4, M5⟩ := hv_move (n := n) (K := n) (E := fun r x => hm_x c u v r x = 0) (r0 := row) (p0 := r1) (cm := cm) (Q := fun x => x = 0 ∨ (1 ≤ x ∧ x ≤ n ∧ sn x = 1)) (rk := rk) hrow hr0
    (fun x hx a b => by
      have hx1 : sn x = 1 := by
        rcases hx with hx | hx
        · omega
        · exact hx.2.2
      obtain ⟨g1, g2, g3, g4, g5, g6, g7⟩ := h8 x a b hx1
      refine ⟨?_, g3, g4, g6, g7⟩
      rcases g5 with g5 | g5
      · exact Or.inl g5.1
      · exact Or.inr ⟨g5.1, g4, g5.2⟩)
    (fun x hx a b y hy hy1 => by
      have hx1 : sn x = 1 := by
        rcases hx with hx | hx
        · omega
        · exact hx.2.2
      obtain ⟨g1, g2, g3, g4, g5, g6, g7⟩ := h8 x a b hx1
      rw [hr1 y hy1]
      have := t2 y hy1 (by omega)
      omega)
    n left r1 hl.1 hl.2.1 (Or.inr ⟨hl.1, hl.2.1, hs⟩) (by have := (h8 left hl.1 hl.2.1 hs).2.1; omega) hr0 (fun x _ _ _ _ => rfl)
    ⟨fun i a b e => by
      rw [hr1 i a]
      have h9 := t2 i a b
      exact ⟨by omega, h9.2.1, fun z => e (A2 i left a b hl.1 hl.2.1 (by omega) (z.trans hl.2.2.symm))⟩, fun i i2 a b e a2 b2 e2 h he => by
      rw [hr1 i a] at h he
      rw [hr1 i2 a2] at he
      exact A2 i i2 a b a2 b2 h he, fun r a b e => by
      obtain ⟨j, j1, j2, j3⟩ := A3 r a b
      exact ⟨j, j1, j2, fun z => e (by rw [z, hl.2.2] at j3; exact j3.symm), by rw [hr1 j j1]; exact j3⟩, fun i a b e h => by
      rw [hr1 i a]
      exact hT i a b⟩
  rw [← hro] at M1 M2 M3 M4 M5
  obtain ⟨t', t1', t2'⟩ := hi_tau M1
  refine ⟨M1, fun j a b => M2 j a b (by have := t2' j a b; omega), ?_, fun j a b h => ?_⟩
  · obtain ⟨i, i1, i2, i3, i4, i5⟩ := M4
    have hi1 : sn i = 1 := by
      rcases i3 with i3 | i3
      · omega
      · exact i3.2.2
    obtain ⟨-, -, -, -, g5, -, -⟩ := h8 i i1 i2 hi1
    rcases g5 with g5 | g5
    · rw [← g5.2]
      exact i5
    · omega
  · rw [M3 j (Or.inl ?_), hr1 j a]
    intro z
    rcases z with z | z
    · omega
    · have := (h3 j a b z.2.2).1
      rw [hr1 j a] at this
      omega
/-- the search is closed and has not come there: no way along just reached places has this column for this row -/
theorem tk_no {n : Nat} {c : Int → Int → Int64} {u v : Int → Int64} {ro : Int → Int} {row wanted left : Int} {s : bq_S} (hA : hi_A n n ro) (hrow : 1 ≤ row ∧ row ≤ n) (hl : 1 ≤ left ∧ left ≤ n ∧ ro left = row) (hw : 1 ≤ wanted ∧ wanted ≤ n)
    (hI : bq_I n c u v (gz_u ro 0 row) row wanted s) (hs : s.1 left = 0) (hcl : ∀ i : Int, 0 ≤ i → i < s.2.2.2 → ∀ j : Int, 1 ≤ j → j ≤ n → row ≤ gz_u ro 0 row j → hm_x c u v (gz_u ro 0 row (s.2.2.1 i)) j = 0 → s.1 j = 1)
    {S k : Nat} (hS : ∀ j : Int, 1 ≤ j → j ≤ n → pl_b S j = false → row ≤ ro j ∧ j ≠ wanted) (hk : (n : Int) - k = row) {t : Int → Int} (ht : pl_way n k S t) (htt : ∀ i : Int, row < i → i ≤ n → hm_x c u v i (t i) = 0) : False := by
  have hr1 : ∀ j : Int, 1 ≤ j → gz_u ro 0 row j = ro j := fun j a => gz_un _ _ (by omega)
  generalize gz_u ro 0 row = r1 at hr1 hI hcl
  obtain ⟨q, q1, q2⟩ := hi_tau hA
  obtain ⟨A1, A2, A3⟩ := hA
  obtain ⟨sn, cm, qu, qn⟩ := s
  obtain ⟨h1, h2, h3, h4, h5, h6, -⟩ := hI
  dsimp only at h1 h2 h3 h4 h5 h6 hs hcl
  have hbig : ∀ j : Int, 1 ≤ j → j ≤ n → sn j = 1 → row < ro j ∧ ro j ≤ n := fun j a b d => by
    have g := (h3 j a b d).1
    rw [hr1 j a] at g
    have g2 := q2 j a b
    have g3 : ro j ≠ row := fun z => by
      have := A2 j left a b hl.1 hl.2.1 (by omega) (z.trans hl.2.2.symm)
      rw [this, hs] at d
      omega
    omega
  obtain ⟨x, ⟨x1, x2, x3⟩, x4⟩ := pm_phpP (n := n) (P := fun j => 1 ≤ j ∧ j ≤ n ∧ sn j = 1) (fun j => Classical.em _) (f := fun j => t (ro j)) (fun j h => ⟨h.1, h.2.1⟩)
    (fun j h => by
      have g := hbig j h.1 h.2.1 h.2.2
      obtain ⟨g1, g2, g3⟩ := ht.1 (ro j) (by omega) g.2
      have g4 := hS _ g1 g2 g3
      obtain ⟨-, i, i1, i2, i3⟩ := h3 j h.1 h.2.1 h.2.2
      refine ⟨g1, g2, hcl i i1 i2 _ g1 g2 (by rw [hr1 _ g1]; exact g4.1) ?_⟩
      rw [i3, hr1 j h.1]
      exact htt (ro j) g.1 g.2)
    (fun i j hi hj h => by
      have g := hbig i hi.1 hi.2.1 hi.2.2
      have g' := hbig j hj.1 hj.2.1 hj.2.2
      have g2 := ht.2 (ro i) (ro j) (by omega) g.2 (by omega) g'.2 h
      exact A2 i j hi.1 hi.2.1 hj.1 hj.2.1 (by omega) g2)
    (y := wanted) ⟨hw.1, hw.2, h6⟩
  have g := hbig x x1 x2 x3
  obtain ⟨g1, g2, g3⟩ := ht.1 (ro x) (by omega) g.2
  exact (hS _ g1 g2 g3).2 x4
/-! the rows above 'row' are settled: the columns of S; and the sums know it -/
abbrev tk_m (c : Int → Int → Int64) : Int → Int → Int := fun i j => (c i j).toInt
def tk_ft (n : Nat) (m : Int → Int → Int) (NV : Int) (S : Nat) (row w : Int) : Prop := pl_b S w = false ∧ m row w + pl_F n m NV (n - row.toNat) (S ||| 1 <<< (w - 1).toNat) = pl_F n m NV (n + 1 - row.toNat) S
def tk_R (n : Nat) (c : Int → Int → Int64) (NV : Int) (u v : Int → Int64) (row : Int) (ro : Int → Int) (S : Nat) : Prop :=
  hi_A n n ro ∧ tk_T n c u v ro ∧ pl_n n S = row - 1 ∧ (∀ j : Int, 1 ≤ j → j ≤ n → (pl_b S j = true ↔ ro j < row)) ∧ pl_F n (tk_m c) NV (n + 1 - row.toNat) S = pl_d (hi_u u) (hi_u v) n (n + 1 - row.toNat) S
/-- all that stands fast: costs, prices, and that NV is above every sum -/
def tk_H (n : Nat) (c : Int → Int → Int64) (NV : Int) (u v : Int → Int64) : Prop := hi_c n c ∧ (∃ ro, hi_P n c n u v ro) ∧ ∀ k S : Nat, k ≤ n → pl_d (hi_u u) (hi_u v) n k S < NV
theorem tk_ok {n : Nat} {c : Int → Int → Int64} {NV : Int} {u v : Int → Int64} (h : tk_H n c NV u v) : pl_ok (hi_u u) (hi_u v) (tk_m c) n := by
  obtain ⟨-, ⟨ro, hP⟩, -⟩ := h
  exact hP.1
/-- a perfect matching of tight places in which 'row' has w: the sums can take it too, and it goes on so -/
theorem tk_fit {n : Nat} {c : Int → Int → Int64} {NV : Int} {u v : Int → Int64} {row w : Int} {ro ro2 : Int → Int} {S : Nat} (hH : tk_H n c NV u v) (hrow : 1 ≤ row ∧ row ≤ n) (hw : 1 ≤ w ∧ w ≤ n) (hR : tk_R n c NV u v row ro S) (hA : hi_A n n ro2) (hT : tk_T n c u v ro2) (hw2 : ro2 w = row) (hkeep : ∀ j : Int, 1 ≤ j → j ≤ n → ro j < row → ro2 j = ro j) :
    tk_ft n (tk_m c) NV S row w ∧ tk_R n c NV u v (row + 1) ro2 (S ||| 1 <<< (w - 1).toNat) := by
  obtain ⟨R1, R2, R3, R4, R5⟩ := hR
  have hok := tk_ok hH
  obtain ⟨hc, ⟨ro0, hP⟩, hB⟩ := hH
  have hc0 : ∀ i j : Int, 1 ≤ i → i ≤ n → 1 ≤ j → j ≤ n → 0 ≤ tk_m c i j := fun i j a b a2 b2 => (hc i j a b a2 b2).1
  obtain ⟨t, t1, t2⟩ := hi_tau hA
  obtain ⟨q, q1, q2⟩ := hi_tau R1
  -- columns below: the same in both
  have hlow : ∀ j : Int, 1 ≤ j → j ≤ n → (ro2 j < row ↔ ro j < row) := fun j a b => by
    constructor
    · intro h
      have g := t2 j a b
      obtain ⟨g1, g2, g3⟩ := q1 (ro2 j) g.1 g.2.1
      have g4 := hkeep (q (ro2 j)) g1 g2 (by omega)
      have g5 : q (ro2 j) = j := hA.2.1 _ _ g1 g2 a b (by omega) (by rw [g4, g3])
      rw [g5] at g3
      omega
    · intro h
      rw [hkeep j a b h]
      exact h
  have hwS : pl_b S w = false := by
    cases e : pl_b S w with
    | false => rfl
    | true =>
      have := ((hlow w hw.1 hw.2).mpr ((R4 w hw.1 hw.2).mp e))
      omega
  have hv : S.testBit (w - 1).toNat = false := hwS
  have ew : (((w - 1).toNat : Nat) : Int) + 1 = w := by omega
  have ek : ((n : Int) - ((n - row.toNat : Nat) : Int)) = row := by omega
  have hway : pl_way n (n - row.toNat) (S ||| 1 <<< (w - 1).toNat) t := by
    refine ⟨fun i a b => ?_, fun i j a b a2 b2 h => ?_⟩
    · obtain ⟨g1, g2, g3⟩ := t1 i (by omega) b
      refine ⟨g1, g2, ?_⟩
      rw [pl_b_or g1, ew]
      have h1 : t i ≠ w := fun z => by
        rw [z, hw2] at g3
        omega
      have h2 : pl_b S (t i) = false := by
        cases e : pl_b S (t i) with
        | false => rfl
        | true =>
          have := (hlow _ g1 g2).mpr ((R4 _ g1 g2).mp e)
          omega
      rw [h2]
      simp [h1]
    · have h3 := (t1 i (by omega) b).2.2
      rw [h, (t1 j (by omega) b2).2.2] at h3
      exact h3.symm
  have hup := pl_up (c := tk_m c) (NV := NV) (n - row.toNat) _ (by omega) hway
  have hn2 : pl_n n (S ||| 1 <<< (w - 1).toNat) = (n : Int) - ((n - row.toNat : Nat) : Int) := by
    rw [pl_n_step (by omega) hv, R3]
    omega
  -- the sum of the way is that of the prices
  have hlowF := pl_low (NV := NV) hok hc0 (n - row.toNat) (S ||| 1 <<< (w - 1).toNat) (by omega) hn2 _ (Int.le_of_lt (hB (n - row.toNat) (S ||| 1 <<< (w - 1).toNat) (by omega))) (Int.le_refl _)
  have htight : ∀ i : Int, 1 ≤ i → i ≤ n → tk_m c i (t i) = hi_u u i + hi_u v (t i) := fun i a b => by
    obtain ⟨g1, g2, g3⟩ := t1 i a b
    have g4 := hT (t i) g1 g2
    rw [g3] at g4
    exact (hx_0 hc hP a b g1 g2).mp g4
  have hF : pl_F n (tk_m c) NV (n - row.toNat) (S ||| 1 <<< (w - 1).toNat) = pl_d (hi_u u) (hi_u v) n (n - row.toNat) (S ||| 1 <<< (w - 1).toNat) := by
    have hsum : pm_S (fun i => tk_m c i (t i)) n - pm_S (fun i => tk_m c i (t i)) (n - (n - row.toNat)) = pl_d (hi_u u) (hi_u v) n (n - row.toNat) (S ||| 1 <<< (w - 1).toNat) := by
      have e1 : pm_S (fun i => tk_m c i (t i)) n = pm_S (hi_u u) n + pm_S (fun i => hi_u v (t i)) n := by
        rw [← pm_S_add]
        exact pm_S_congr (fun i a b => htight i a b)
      have e2 : pm_S (fun i => tk_m c i (t i)) (n - (n - row.toNat)) = pm_S (hi_u u) (n - (n - row.toNat)) + pm_S (fun i => hi_u v (t i)) (n - (n - row.toNat)) := by
        rw [← pm_S_add]
        exact pm_S_congr (fun i a b => htight i a (by omega))
      -- the columns of the rows up to 'row' are those of S and w
      have e3 : pl_q (hi_u v) n (S ||| 1 <<< (w - 1).toNat) = pm_S (fun i => hi_u v (t i)) n - pm_S (fun i => hi_u v (t i)) (n - (n - row.toNat)) := by
        have hmem : ∀ j : Int, 1 ≤ j → j ≤ n → (pl_b (S ||| 1 <<< (w - 1).toNat) j = true ↔ ro2 j ≤ row) := fun j a b => by
          rw [pl_b_or a, ew]
          simp only [Bool.or_eq_true, decide_eq_true_eq]
          rw [R4 j a b, ← hlow j a b]
          constructor
          · rintro (h | h)
            · omega
            · rw [h, hw2]
              exact Int.le_refl _
          · intro h
            by_cases e : ro2 j = row
            · exact Or.inr (hA.2.1 j w a b hw.1 hw.2 (by omega) (e.trans hw2.symm))
            · exact Or.inl (by omega)
        have e4 : pl_q (hi_u v) n (S ||| 1 <<< (w - 1).toNat) = pm_S (fun j => (fun i => if i ≤ row then 0 else hi_u v (t i)) (ro2 j)) n := pm_S_congr (fun j a b => by
          have g := t2 j a b
          dsimp only
          rw [g.2.2]
          by_cases h : ro2 j ≤ row
          · rw [if_pos h, if_pos ((hmem j a b).mpr h)]
          · rw [if_neg h, if_neg (fun z => h ((hmem j a b).mp z))])
        rw [e4, pm_S_perm n ro2 (fun j a b => ⟨(t2 j a b).1, (t2 j a b).2.1⟩) (fun i j a b a2 b2 h => hA.2.1 i j a b a2 b2 (by have := t2 i a b; omega) h) (fun i => if i ≤ row then 0 else hi_u v (t i))]
        -- a sum whose first terms are 0
        have e5 : ∀ (f : Int → Int) (d m : Nat), pm_S (fun i => if i ≤ (m : Int) then 0 else f i) (m + d) = pm_S f (m + d) - pm_S f m := by
          intro f d m
          induction d with
          | zero =>
            rw [Nat.add_zero, pm_S_zero (fun i a b => if_pos b)]
            omega
          | succ d ih =>
            show pm_S (fun i => if i ≤ (m : Int) then 0 else f i) (m + d) + (if ((m + d : Nat) : Int) + 1 ≤ (m : Int) then 0 else f (((m + d : Nat) : Int) + 1)) = pm_S f (m + d) + f (((m + d : Nat) : Int) + 1) - pm_S f m
            rw [ih, if_neg (by omega)]
            omega
        have e6 := e5 (fun i => hi_u v (t i)) (n - row.toNat) row.toNat
        have e7 : row.toNat + (n - row.toNat) = n := by omega
        have e8 : ((row.toNat : Nat) : Int) = row := by omega
        have e9 : n - (n - row.toNat) = row.toNat := by omega
        rw [e7, e8] at e6
        rw [e9]
        exact e6
      rw [e1, e2]
      unfold pl_d
      rw [e3]
      omega
    omega
  have en : n + 1 - row.toNat = n - row.toNat + 1 := by omega
  rw [en] at R5
  have hfit := pl_fits (NV := NV) hok hc0 hB (k := n - row.toNat) (S := S) (v := (w - 1).toNat) (by omega) (by rw [R3]; omega) R5 (by omega) hv
  rw [ew, ek] at hfit
  have htw : tk_m c row w = hi_u u row + hi_u v w := by
    have g4 := hT w hw.1 hw.2
    rw [hw2] at g4
    exact (hx_0 hc hP hrow.1 hrow.2 hw.1 hw.2).mp g4
  refine ⟨⟨hwS, by rw [en]; exact hfit.mpr ⟨htw, hF⟩⟩, hA, hT, ?_, fun j a b => ?_, ?_⟩
  · rw [pl_n_step (by omega) hv, R3]
    omega
  · rw [pl_b_or a, ew]
    simp only [Bool.or_eq_true, decide_eq_true_eq]
    rw [R4 j a b, ← hlow j a b]
    constructor
    · rintro (h | h)
      · omega
      · rw [h, hw2]
        omega
    · intro h
      by_cases e : ro2 j = row
      · exact Or.inr (hA.2.1 j w a b hw.1 hw.2 (by omega) (e.trans hw2.symm))
      · exact Or.inl (by omega)
  · have h1 : n + 1 - (row + 1).toNat = n - row.toNat := by omega
    rw [h1]
    exact hF
/-- the sums could take w: then there is such a way of the rows below -/
theorem tk_way {n : Nat} {c : Int → Int → Int64} {NV : Int} {u v : Int → Int64} {row w : Int} {ro : Int → Int} {S : Nat} (hH : tk_H n c NV u v) (hrow : 1 ≤ row ∧ row ≤ n) (hw : 1 ≤ w ∧ w ≤ n) (hR : tk_R n c NV u v row ro S) (hf : tk_ft n (tk_m c) NV S row w) :
    hm_x c u v row w = 0 ∧ row ≤ ro w ∧ ∃ t : Int → Int, pl_way n (n - row.toNat) (S ||| 1 <<< (w - 1).toNat) t ∧ (∀ i : Int, row < i → i ≤ n → hm_x c u v i (t i) = 0) ∧ ∀ j : Int, 1 ≤ j → j ≤ n → pl_b (S ||| 1 <<< (w - 1).toNat) j = false → row ≤ ro j ∧ j ≠ w := by
  obtain ⟨R1, R2, R3, R4, R5⟩ := hR
  have hok := tk_ok hH
  obtain ⟨hc, ⟨ro0, hP⟩, hB⟩ := hH
  have hc0 : ∀ i j : Int, 1 ≤ i → i ≤ n → 1 ≤ j → j ≤ n → 0 ≤ tk_m c i j := fun i j a b a2 b2 => (hc i j a b a2 b2).1
  obtain ⟨f1, f2⟩ := hf
  have hv : S.testBit (w - 1).toNat = false := f1
  have ew : (((w - 1).toNat : Nat) : Int) + 1 = w := by omega
  have ek : ((n : Int) - ((n - row.toNat : Nat) : Int)) = row := by omega
  have en : n + 1 - row.toNat = n - row.toNat + 1 := by omega
  rw [en] at R5 f2
  have hfit := pl_fits (NV := NV) hok hc0 hB (k := n - row.toNat) (S := S) (v := (w - 1).toNat) (by omega) (by rw [R3]; omega) R5 (by omega) hv
  rw [ew, ek] at hfit
  obtain ⟨g1, g2⟩ := hfit.mp f2
  have hn2 : pl_n n (S ||| 1 <<< (w - 1).toNat) = (n : Int) - ((n - row.toNat : Nat) : Int) := by
    rw [pl_n_step (by omega) hv, R3]
    omega
  obtain ⟨t, h1, h2⟩ := pl_tight (NV := NV) hok hc0 hB (n - row.toNat) (S ||| 1 <<< (w - 1).toNat) (by omega) hn2 g2
  refine ⟨(hx_0 hc hP hrow.1 hrow.2 hw.1 hw.2).mpr g1, ?_, t, h1, fun i a b => ?_, fun j a b h => ?_⟩
  · have : ¬ ro w < row := fun z => by
      rw [(R4 w hw.1 hw.2).mpr z] at f1
      cases f1
    omega
  · obtain ⟨k1, k2, k3⟩ := h1.1 i (by omega) b
    exact (hx_0 hc hP (by omega) b k1 k2).mpr (h2 i (by omega) b)
  · rw [pl_b_or a, ew] at h
    simp only [Bool.or_eq_false_iff, decide_eq_false_iff_not] at h
    refine ⟨?_, h.2⟩
    have : ¬ ro j < row := fun z => by
      rw [(R4 j a b).mpr z] at h
      cases h.1
    omega
end
section
/-! VALUES AND CELLS, by number: an int is an Int32, a long an Int64, a reference the number of a cell. -/
abbrev gv_V : Type := Int32 ⊕ (Int64 ⊕ Option Nat)
abbrev gv_I (z : Int32) : gv_V := Sum.inl z
abbrev gv_L (w : Int64) : gv_V := Sum.inr (Sum.inl w)
abbrev gv_R (k : Nat) : gv_V := Sum.inr (Sum.inr (some k))
abbrev gv_N : gv_V := Sum.inr (Sum.inr none)
def gv_v (ad : Nat → Nat) : gv_V → Value
  | .inl z => .int z
  | .inr (.inl w) => .long w
  | .inr (.inr (some k)) => .ref (ad k)
  | .inr (.inr none) => .null
def gv_c : gv_V → Nat
  | .inl _ => 1
  | .inr (.inl _) => 2
  | .inr (.inr _) => 1
theorem gv_cat (ad : Nat → Nat) (v : gv_V) : (gv_v ad v).category = gv_c v := by
  rcases v with z | w | _ | k <;> rfl
def gv_p (ad : Nat → Nat) (q : Nat × gv_V) : Nat × Value := (q.1, gv_v ad q.2)
def gv_g : List (Nat × gv_V) → Nat → Option gv_V
  | [], _ => none
  | q :: r, j => bif q.1 == j then some q.2 else gv_g r j
theorem gv_mem : ∀ {lv : List (Nat × gv_V)} {i : Nat} {v : gv_V}, gv_g lv i = some v → (i, v) ∈ lv
  | [], i, v, h => by simp [gv_g] at h
  | (a, b) :: r, i, v, h => by
    unfold gv_g at h
    cases hq : (a == i) with
    | true =>
      have h1 : a = i := by simpa using hq
      simp only [hq, cond_true, Option.some.injEq] at h
      rw [← h1, ← h]
      exact List.mem_cons_self
    | false =>
      simp only [hq, cond_false] at h
      exact List.mem_cons_of_mem _ (gv_mem h)
theorem gv_at {ad : Nat → Nat} {ls : Array Slot} {nL : Nat} {lv : List (Nat × gv_V)} {i : Nat} {v : gv_V} (hl : lv_has ls nL (lv.map (gv_p ad))) (h : gv_g lv i = some v) : ls[i]? = some (.val (gv_v ad v)) :=
  hl.2.2 (i, gv_v ad v) (List.mem_map.mpr ⟨(i, v), gv_mem h, rfl⟩)
def gv_ok (i w : Nat) (q : Nat × gv_V) : Bool := !(q.1 == i) && (!(w == 2 && q.1 == i + 1) && !(q.1 + 1 == i && gv_c q.2 == 2))
def gv_s : List (Nat × gv_V) → Nat → gv_V → List (Nat × gv_V)
  | [], i, v => [(i, v)]
  | q :: r, i, v => bif q.1 == i then (i, v) :: r.filter (gv_ok i (gv_c v)) else bif gv_ok i (gv_c v) q then q :: gv_s r i v else gv_s r i v
theorem gv_s_mem : ∀ {lv : List (Nat × gv_V)} {i : Nat} {v : gv_V} {q : Nat × gv_V}, q ∈ gv_s lv i v → q = (i, v) ∨ (q ∈ lv ∧ gv_ok i (gv_c v) q = true)
  | [], i, v, q, h => by
    simp only [gv_s, List.mem_singleton] at h
    exact Or.inl h
  | a :: r, i, v, q, h => by
    unfold gv_s at h
    cases h1 : (a.1 == i) with
    | true =>
      simp only [h1, cond_true] at h
      rcases List.mem_cons.mp h with h | h
      · exact Or.inl h
      · obtain ⟨h2, h3⟩ := List.mem_filter.mp h
        exact Or.inr ⟨List.mem_cons_of_mem _ h2, h3⟩
    | false =>
      simp only [h1, cond_false] at h
      cases h2 : gv_ok i (gv_c v) a with
      | true =>
        simp only [h2, cond_true] at h
        rcases List.mem_cons.mp h with h | h
        · exact Or.inr ⟨by rw [h]; exact List.mem_cons_self, by rw [h]; exact h2⟩
        · rcases gv_s_mem h with h | ⟨h3, h4⟩
          · exact Or.inl h
          · exact Or.inr ⟨List.mem_cons_of_mem _ h3, h4⟩
      | false =>
        simp only [h2, cond_false] at h
        rcases gv_s_mem h with h | ⟨h3, h4⟩
        · exact Or.inl h
        · exact Or.inr ⟨List.mem_cons_of_mem _ h3, h4⟩
theorem gv_st1 {ad : Nat → Nat} {ls : Array Slot} {nL i : Nat} {lv : List (Nat × gv_V)} {v : gv_V} (hc : gv_c v = 1) (h : lv_has ls nL ((i, gv_v ad v) :: (lv.map (gv_p ad)).filter (fun q => !(q.1 == i) && !(q.1 + 1 == i && q.2.category == 2)))) : lv_has ls nL ((gv_s lv i v).map (gv_p ad)) := by
  refine ⟨h.1, h.2.1, fun q hq => h.2.2 q ?_⟩
  obtain ⟨q0, h0, rfl⟩ := List.mem_map.mp hq
  rcases gv_s_mem h0 with h1 | ⟨h1, h2⟩
  · rw [h1]
    exact List.mem_cons_self
  · refine List.mem_cons_of_mem _ (List.mem_filter.mpr ⟨List.mem_map.mpr ⟨q0, h1, rfl⟩, ?_⟩)
    simp only [gv_ok, Bool.and_eq_true] at h2
    simp only [gv_p, gv_cat, Bool.and_eq_true]
    exact ⟨h2.1, h2.2.2⟩
theorem gv_st2 {ad : Nat → Nat} {ls : Array Slot} {nL i : Nat} {lv : List (Nat × gv_V)} {v : gv_V} (hc : gv_c v = 2) (h : lv_has ls nL ((i, gv_v ad v) :: (lv.map (gv_p ad)).filter (fun q => !(q.1 == i) && (!(q.1 == i + 1) && !(q.1 + 1 == i && q.2.category == 2))))) : lv_has ls nL ((gv_s lv i v).map (gv_p ad)) := by
  refine ⟨h.1, h.2.1, fun q hq => h.2.2 q ?_⟩
  obtain ⟨q0, h0, rfl⟩ := List.mem_map.mp hq
  rcases gv_s_mem h0 with h1 | ⟨h1, h2⟩
  · rw [h1]
    exact List.mem_cons_self
  · refine List.mem_cons_of_mem _ (List.mem_filter.mpr ⟨List.mem_map.mpr ⟨q0, h1, rfl⟩, ?_⟩)
    rw [hc] at h2
    simp only [gv_ok, Bool.and_eq_true] at h2
    simp only [gv_p, gv_cat, Bool.and_eq_true]
    exact ⟨h2.1, by simpa using h2.2.1, h2.2.2⟩
/-- fewer locals, or the same in another order -/
def gv_in (lv : List (Nat × gv_V)) : List (Nat × gv_V) → Prop
  | [] => True
  | q :: r => gv_g lv q.1 = some q.2 ∧ gv_in lv r
theorem gv_in_mem {lv : List (Nat × gv_V)} : ∀ {l2 : List (Nat × gv_V)}, gv_in lv l2 → ∀ q ∈ l2, q ∈ lv
  | [], _, q, h => by cases h
  | a :: r, hi, q, h => by
    rcases List.mem_cons.mp h with h | h
    · rw [h]
      exact gv_mem hi.1
    · exact gv_in_mem hi.2 q h
theorem gv_has {ad : Nat → Nat} {ls : Array Slot} {nL : Nat} {lv l2 : List (Nat × gv_V)} (hi : gv_in lv l2) (h : lv_has ls nL (lv.map (gv_p ad))) : lv_has ls nL (l2.map (gv_p ad)) := by
  refine ⟨h.1, h.2.1, fun q hq => ?_⟩
  obtain ⟨q0, h0, rfl⟩ := List.mem_map.mp hq
  exact h.2.2 _ (List.mem_map.mpr ⟨q0, gv_in_mem hi q0 h0, rfl⟩)
-- the arguments as locals
def gv_args : Nat → List gv_V → List (Nat × gv_V)
  | _, [] => []
  | i, v :: r => (i, v) :: gv_args (i + gv_c v) r
theorem gv_args_eq (ad : Nat → Nat) : ∀ (i : Nat) (vs : List gv_V), lv_args i (vs.map (gv_v ad)) = (gv_args i vs).map (gv_p ad)
  | _, [] => rfl
  | i, v :: r => by
    have h : (if (gv_v ad v).category = 2 then i + 2 else i + 1) = i + gv_c v := by
      rw [gv_cat]
      rcases v with z | w | z <;> simp [gv_c]
    show (i, gv_v ad v) :: lv_args (if (gv_v ad v).category = 2 then i + 2 else i + 1) (r.map (gv_v ad)) = _
    rw [h, gv_args_eq ad _ r]
    rfl
def gv_w : List gv_V → Nat
  | [] => 0
  | v :: r => gv_c v + gv_w r
theorem gv_w_len (ad : Nat → Nat) : ∀ vs : List gv_V, (lg_sl (vs.map (gv_v ad))).length = gv_w vs
  | [] => rfl
  | v :: r => by
    have h := gv_w_len ad r
    have e : lg_sl ((v :: r).map (gv_v ad)) = (if (gv_v ad v).category = 2 then [Slot.val (gv_v ad v), Slot.second] else [Slot.val (gv_v ad v)]) ++ lg_sl (r.map (gv_v ad)) := by
      simp [lg_sl]
    rw [e, List.length_append, h, gv_cat]
    rcases v with z | w | z <;> simp [gv_c, gv_w]
theorem gv_vin {z : Int32} {n : Nat} (h : 0 ≤ z.toInt ∧ z.toInt < (n : Int)) : vp_in z n := vp_in_iff.mpr h
theorem gv_cl (z : Int32) : z.toNatClampNeg = z.toInt.toNat := rfl
/-! CELLS -/
abbrev gc_T : Type := (Nat × List gv_V) ⊕ ((Nat × Nat × (Int → Int32)) ⊕ ((Nat × (Int → Int64)) ⊕ (Nat × Nat × (Int → Option Nat))))
abbrev gc_O (ci : Nat) (fs : List gv_V) : gc_T := Sum.inl (ci, fs)
abbrev gc_I (kd n : Nat) (f : Int → Int32) : gc_T := Sum.inr (Sum.inl (kd, n, f))
abbrev gc_L (n : Nat) (f : Int → Int64) : gc_T := Sum.inr (Sum.inr (Sum.inl (n, f)))
abbrev gc_R (kd n : Nat) (f : Int → Option Nat) : gc_T := Sum.inr (Sum.inr (Sum.inr (kd, n, f)))
def gc_E (ad : Nat → Nat) (ck : Nat → ClassId) : gc_T → va_E
  | .inl (ci, fs) => .inr (ci, fs.map (gv_v ad))
  | .inr (.inl (kd, n, f)) => .inl (ck kd, n, .inl (fun j : Nat => f (j : Int)))
  | .inr (.inr (.inl (n, f))) => .inl (ck 2, n, .inr (.inl (fun j : Nat => f (j : Int))))
  | .inr (.inr (.inr (kd, n, f))) => .inl (ck kd, n, .inr (.inr (.inr (.inr (fun j : Nat => (f (j : Int)).map ad)))))
def gw_L (N : Nat) (ad : Nat → Nat) (ck : Nat → ClassId) (cf : Nat → gc_T) : va_W := (List.range N).map (fun k => (ad k, gc_E ad ck (cf k)))
theorem gw_at {N : Nat} {ad : Nat → Nat} {ck : Nat → ClassId} {cf : Nat → gc_T} {k : Nat} (h : k < N) : (gw_L N ad ck cf)[k]? = some (ad k, gc_E ad ck (cf k)) := by
  simp [gw_L, h]
theorem gw_atE {N : Nat} {ad : Nat → Nat} {ck : Nat → ClassId} {cf : Nat → gc_T} {k : Nat} {x : gc_T} (h : k < N) (e : cf k = x) : (gw_L N ad ck cf)[k]? = some (ad k, gc_E ad ck x) := by
  rw [← e]
  exact gw_at h
/-- one cell is another now -/
def gc_up (cf : Nat → gc_T) (k : Nat) (x : gc_T) (cf2 : Nat → gc_T) : Prop := ∀ j, cf2 j = if j = k then x else cf j
theorem gw_set {N : Nat} {ad : Nat → Nat} {ck : Nat → ClassId} {cf cf2 : Nat → gc_T} {k : Nat} {x : gc_T} (hk : k < N) (h : gc_up cf k x cf2) : (gw_L N ad ck cf).set k (ad k, gc_E ad ck x) = gw_L N ad ck cf2 := by
  apply List.ext_getElem?
  intro j
  by_cases hj : j < N
  · rw [gw_at hj, h j]
    by_cases e : j = k
    · subst e
      rw [List.getElem?_set]
      simp [gw_L, hj]
    · rw [List.getElem?_set, if_neg (fun z => e z.symm), gw_at hj, if_neg e]
  · simp [gw_L, List.getElem?_set, hj]
theorem gw_lt {N : Nat} {ad : Nat → Nat} {ck : Nat → ClassId} {cf : Nat → gc_T} {k : Nat} {q : Nat × va_E} (h : (gw_L N ad ck cf)[k]? = some q) : k < N ∧ q.1 = ad k := by
  have hk : k < N := by
    have := (List.getElem?_eq_some_iff.mp h).1
    simpa [gw_L] using this
  rw [gw_at hk] at h
  exact ⟨hk, by rw [← Option.some.inj h]⟩
theorem gw_D {A : Nat → Prop} {N : Nat} {ad : Nat → Nat} {ck : Nat → ClassId} {cf : Nat → gc_T} (hi : ∀ i j, i < N → j < N → ad i = ad j → i = j) (hA : ∀ i, i < N → A (ad i)) : va_D A (gw_L N ad ck cf) := by
  refine ⟨fun i j p q h1 h2 h3 => ?_, fun k q h => ?_⟩
  · obtain ⟨a1, a2⟩ := gw_lt h1
    obtain ⟨b1, b2⟩ := gw_lt h2
    exact hi i j a1 b1 (by rw [← a2, ← b2]; exact h3)
  · obtain ⟨a1, a2⟩ := gw_lt h
    rw [a2]
    exact hA k a1
/-! UPDATES -/
theorem gz_nat {i : Int} (h : 0 ≤ i) (j : Nat) : ((j : Int) = i) ↔ j = i.toNat := by omega
theorem gz_ue (f : Int → Int32) {i x : Int32} (h0 : 0 ≤ i.toInt) : upd (fun j : Nat => f (j : Int)) i.toNatClampNeg x = fun j : Nat => gz_u f i.toInt x (j : Int) := by
  funext j
  rw [gv_cl]
  unfold upd gz_u
  by_cases h : j = i.toInt.toNat
  · rw [if_pos h, if_pos ((gz_nat h0 j).mpr h)]
  · rw [if_neg h, if_neg (fun z => h ((gz_nat h0 j).mp z))]
theorem gz_ule (f : Int → Int64) {i : Int32} {x : Int64} (h0 : 0 ≤ i.toInt) : vp_updL (fun j : Nat => f (j : Int)) i.toNatClampNeg x = fun j : Nat => gz_ul f i.toInt x (j : Int) := by
  funext j
  rw [gv_cl]
  unfold vp_updL gz_ul
  by_cases h : j = i.toInt.toNat
  · rw [if_pos h, if_pos ((gz_nat h0 j).mpr h)]
  · rw [if_neg h, if_neg (fun z => h ((gz_nat h0 j).mp z))]
theorem gz_ix {i : Int32} (h0 : 0 ≤ i.toInt) : ((i.toNatClampNeg : Nat) : Int) = i.toInt := by
  rw [gv_cl]
  omega
/-! THE JUDGEMENT -/
/-! WHAT LIES OLDER THAN THE WORLD (below the address ck 10): texts, the JDK's statics, the two tables of the gates (at ck 11, ck 12) -/
def gk_strs : List (Nat × String) := [(50, "no such group"), (207, "no place"), (65, "no net"), (201, "no such pin"), (104, "no bank"), (109, "neither a bank nor NONE"), (144, "no such side"), (174, "no such note"), (180, "not 1 to 4 inputs"), (182, "too many bits in the table"), (188, "no such gate")]
def gk_ord : List Int32 := [12816, 12801, 12576, 12546, 12321, 12306, 8976, 8961, 8496, 8451, 8241, 8211, 4896, 4866, 4656, 4611, 4146, 4131, 801, 786, 561, 531, 306, 291]
def gk_cnt : List Int32 := [0, 1, 2, 6, 24]
def gk_Tw : List Cond := lw_tbl.filter Cond.tabsOnly
theorem gk_lays {C n d : String} {A : Nat → Prop} {u U : State} (hal : u.vm.Alike U.vm) (hZ : va_Zq C n d A u u.heap) (hH : ∀ a : Nat, a < u.heap.size → ¬ A a → U.heap[a]? = u.heap[a]?) (h : (Cond.laysStatic C n d).before #[] u = true) : (Cond.laysStatic C n d).before #[] U = true := by
  obtain ⟨cc, k, ix, f, ad, cell, h1, h2, h3, h4, h5, h6, h7, h8, h9⟩ := Cond.laysStatic_spec h
  obtain ⟨k', hf', he⟩ := State.fieldFound?_setVm hal h2
  have hna : ¬ A ad := by
    rcases hZ with hZ | ⟨t, hZ⟩ <;>
    · obtain ⟨cf, kf, fi, f1, a, cell1, g1, g2, g3, g4, g5, g6, g7, g8⟩ := hZ
      cases h2.symm.trans g1
      cases h4.symm.trans g4
      exact g8
  exact Cond.laysStatic_of (s := U) (by rw [hal.findClass]; exact h1) hf' h3 (by rw [he]; exact h4) (by rw [hH ad (Array.getElem?_eq_some_iff.mp h5).1 hna]; exact h5) h6 h7 h8 (by rw [he]; exact h9)
def gk_E (ck : Nat → ClassId) (U : State) : Prop :=
  ((∀ w ∈ gk_Tw, w.before #[] U = true) ∧ (Cond.laysStatic "java/lang/Throwable" "UNASSIGNED_STACK" "[Ljava/lang/StackTraceElement;").before #[] U = true ∧ (Cond.laysStatic "java/lang/Throwable" "SUPPRESSED_SENTINEL" "Ljava/util/List;").before #[] U = true) ∧
  (∀ q ∈ gk_strs, ∃ a : Nat, vk_R "PinSwaps" q.1 q.2 a U) ∧
  va_Zq "java/lang/Throwable" "UNASSIGNED_STACK" "[Ljava/lang/StackTraceElement;" (fun q => ck 10 ≤ q) U U.heap ∧
  va_Zq "java/lang/Throwable" "SUPPRESSED_SENTINEL" "Ljava/util/List;" (fun q => ck 10 ≤ q) U U.heap ∧
  va_Z "PinSwaps$Gates" "ORDERS" "[I" (.ref (ck 11)) (fun q => ck 10 ≤ q) U U.heap ∧
  va_T .int (ck 11) 24 (fun j => .int (gk_ord.getD j 0)) (fun q => ck 10 ≤ q) U U.heap ∧
  va_Z "PinSwaps$Gates" "ORDER_COUNT" "[I" (.ref (ck 12)) (fun q => ck 10 ≤ q) U U.heap ∧
  va_T .int (ck 12) 5 (fun j => .int (gk_cnt.getD j 0)) (fun q => ck 10 ≤ q) U U.heap ∧
  (∀ cX cT, U.vm.findClass "java/lang/IllegalArgumentException" = some cX → U.vm.findClass "java/lang/IndexOutOfBoundsException" = some cT → U.vm.assignable cX cT = false)
theorem gk_E.go {ck : Nat → ClassId} {u U : State} (hW : u.WarmedH U.vm) (hH : ∀ a : Nat, a < u.heap.size → ¬ ck 10 ≤ a → U.heap[a]? = u.heap[a]?) (h : gk_E ck u) : gk_E ck U := by
  obtain ⟨⟨h01, h02, h03⟩, h1, h2, h3, h4, h5, h6, h7, h8⟩ := h
  have ha := hW.alike
  refine ⟨⟨fun w hw => ?_, gk_lays ha h2 hH h02, gk_lays ha h3 hH h03⟩, fun q hq => ?_, (h2.kept hH).moved ha, (h3.kept hH).moved ha, (h4.kept hH).moved ha, (h5.kept hH).moved ha, (h6.kept hH).moved ha, (h7.kept hH).moved ha, fun cX cT e1 e2 => ?_⟩
  · have h9 := Cond.tabsOnly_warm (args' := #[]) (T := U) hW w (List.mem_filter.mp hw).2 (h01 w hw)
    rwa [State.setVm_self] at h9
  · obtain ⟨a, h⟩ := h1 q hq
    exact ⟨a, h.warm hW⟩
  · rw [ha.assignable]
    rw [ha.findClass] at e1 e2
    exact h8 cX cT e1 e2
def gm_E (ck : Nat → ClassId) (ad : Nat → Nat) (U : State) : Prop := ((∀ i, i < 81 → ck 10 ≤ ad i) ∧ ad 90 = ck 11 ∧ ad 91 = ck 12) ∧ ck 10 ≤ U.heap.size ∧ gk_E ck U
theorem gm_E.go {ck : Nat → ClassId} {ad : Nat → Nat} {A : Nat → Prop} {u U : State} {H : Heap} {locs : List Loc} (hU : U.heap = H) (hW : u.WarmedH U.vm) (hA : ∀ q, A q → ck 10 ≤ q) (hS : va_S A u.heap H locs) (h : gm_E ck ad u) : gm_E ck ad U := by
  obtain ⟨h1, h2, h3⟩ := h
  refine ⟨h1, by rw [hU]; exact Nat.le_trans h2 hS.1, h3.go hW fun a ha hn => ?_⟩
  rw [hU]
  exact hS.2.1 a ha (fun z => hn (hA a z))
def gv_tys (ck : Nat → ClassId) : List (ClassId × FieldType) := [(ck 0, .int), (ck 1, .boolean), (ck 2, .long), (ck 3, .array .long), (ck 4, .array .int)]
abbrev gx_X : Type := Program × Launch × Env × State × MethodId × Array Value × List Frame × Method × Code × (State → Prop) × va_G × (Nat → Prop) × (Nat → Nat) × (Nat → ClassId)
abbrev gx_l (x : gx_X) : Launch := x.2.1
abbrev gx_s (x : gx_X) : State := x.2.2.2.1
abbrev gx_D (x : gx_X) : va_G := x.2.2.2.2.2.2.2.2.2.2.1
abbrev gx_ad (x : gx_X) : Nat → Nat := x.2.2.2.2.2.2.2.2.2.2.2.2.1
abbrev gx_ck (x : gx_X) : Nat → ClassId := x.2.2.2.2.2.2.2.2.2.2.2.2.2
/-- what holds all through a method's walk: N cells, of which those below w may be written; the method's class, its code, its locals -/
def gw_C (N w : Nat) (own : String) (cc : ByteArray) (nL : Nat) : gx_X → Prop
  | (p, _, _, s, m, args, _, meth, c, _, D, A, ad, ck) =>
    p.tables.exec = Jvm.exec ∧ c.code = cc ∧ c.maxLocals = nL ∧ s.vm.findClass own = some m.cls ∧ (∀ w ∈ gw_T, w.before args s = true) ∧ (∀ w ∈ gw_Nl, va_Nw w s) ∧ va_K D vwCl (gv_tys ck) s ∧ (∀ q, s.heap.size ≤ q → A q) ∧ (∀ i j, i < N → j < N → ad i = ad j → i = j) ∧ (∀ i, i < w → A (ad i)) ∧ meth.locks = false ∧ (∀ q, A q → ck 10 ≤ q) ∧ gm_E ck ad s
/-- the walk stands at pc, with the cells cf, the locals lv, the stack st (k new cells, n new slots so far) -/
def gw_G (N nL : Nat) (R : Room) (x : gx_X) (k n : Nat) (cf : Nat → gc_T) (pc : Nat) (lv : List (Nat × gv_V)) (st : List gv_V) : Prop := match x with
  | (p, l, e, s, m, args, below, meth, c, Q, D, A, ad, ck) => ∀ (H : Heap) (locs : List Loc) (ls : Array Slot), va_P D vwCl (gw_L N ad ck cf) H → va_S A s.heap H locs → lv_has ls nL (lv.map (gv_p ad)) → W p l e R s m args below meth c H locs k n Q (F0 m pc ls (st.map (gv_v ad)))
section GX
variable {N w nL : Nat} {own : String} {cc : ByteArray} {R : Room} {x : gx_X} {k n : Nat} {cf : Nat → gc_T} {pc : Nat} {lv : List (Nat × gv_V)} {st : List gv_V}
theorem gx_lv (l2 : List (Nat × gv_V)) (hi : gv_in lv l2) (kk : gw_G N nL R x k n cf pc l2 st) : gw_G N nL R x k n cf pc lv st := by
  obtain ⟨p, l, e, s, m, args, below, meth, c, Q, D, A, ad, ck⟩ := x
  intro H locs ls hP hS hl
  exact kk H locs ls hP hS (gv_has hi hl)
theorem gx_iconst (hC : gw_C N w own cc nL x) {z : Int} {v : Int32} (hd : decode cc pc = .ok (.iconst z, 1)) (hz : Int32.ofInt z = v)
    (kk : gw_G N nL R x k n cf (pc + 1) lv (gv_I v :: st)) : gw_G N nL R x k n cf pc lv st := by
  obtain ⟨p, l, e, s, m, args, below, meth, c, Q, D, A, ad, ck⟩ := x
  obtain ⟨hx, hb, hml, hown, hts, hnw, hK, hA, hij, hAd, hlk⟩ := hC
  intro H locs ls hP hS hl
  exact lv_iconst hx hb hd hz (kk H locs ls hP hS hl)
theorem gx_bipush (hC : gw_C N w own cc nL x) {z : Int} {v : Int32} (hd : decode cc pc = .ok (.bipush z, 2)) (hz : (Int8.ofInt z).toInt32 = v)
    (kk : gw_G N nL R x k n cf (pc + 2) lv (gv_I v :: st)) : gw_G N nL R x k n cf pc lv st := by
  obtain ⟨p, l, e, s, m, args, below, meth, c, Q, D, A, ad, ck⟩ := x
  obtain ⟨hx, hb, hml, hown, hts, hnw, hK, hA, hij, hAd, hlk⟩ := hC
  intro H locs ls hP hS hl
  exact lv_bipush hx hb hd hz (kk H locs ls hP hS hl)
theorem gx_sipush (hC : gw_C N w own cc nL x) {z : Int} {v : Int32} (hd : decode cc pc = .ok (.sipush z, 3)) (hz : (Int16.ofInt z).toInt32 = v)
    (kk : gw_G N nL R x k n cf (pc + 3) lv (gv_I v :: st)) : gw_G N nL R x k n cf pc lv st := by
  obtain ⟨p, l, e, s, m, args, below, meth, c, Q, D, A, ad, ck⟩ := x
  obtain ⟨hx, hb, hml, hown, hts, hnw, hK, hA, hij, hAd, hlk⟩ := hC
  intro H locs ls hP hS hl
  exact lv_sipush hx hb hd hz (kk H locs ls hP hS hl)
theorem gx_lconst (hC : gw_C N w own cc nL x) {z : Fin 2} (hd : decode cc pc = .ok (.lconst z, 1)) 
    (kk : gw_G N nL R x k n cf (pc + 1) lv (gv_L (Int64.ofNat z) :: st)) : gw_G N nL R x k n cf pc lv st := by
  obtain ⟨p, l, e, s, m, args, below, meth, c, Q, D, A, ad, ck⟩ := x
  obtain ⟨hx, hb, hml, hown, hts, hnw, hK, hA, hij, hAd, hlk⟩ := hC
  intro H locs ls hP hS hl
  exact lv_lconst hx hb hd rfl (kk H locs ls hP hS hl)
theorem gx_ldc (hC : gw_C N w own cc nL x) {i : Nat} {v : Int32} (hd : decode cc pc = .ok (.ldc i, 2)) (hw : Cond.constant own i v ∈ gw_T)
    (kk : gw_G N nL R x k n cf (pc + 2) lv (gv_I v :: st)) : gw_G N nL R x k n cf pc lv st := by
  obtain ⟨p, l, e, s, m, args, below, meth, c, Q, D, A, ad, ck⟩ := x
  obtain ⟨hx, hb, hml, hown, hts, hnw, hK, hA, hij, hAd, hlk⟩ := hC
  intro H locs ls hP hS hl
  exact lv_ldc hx hb hown (hts _ hw) hd (kk H locs ls hP hS hl)
theorem gx_ldc2 (hC : gw_C N w own cc nL x) {i : Nat} {v : Int64} (hd : decode cc pc = .ok (.ldc2_w i, 3)) (hw : Cond.constantLong own i v ∈ gw_T)
    (kk : gw_G N nL R x k n cf (pc + 3) lv (gv_L v :: st)) : gw_G N nL R x k n cf pc lv st := by
  obtain ⟨p, l, e, s, m, args, below, meth, c, Q, D, A, ad, ck⟩ := x
  obtain ⟨hx, hb, hml, hown, hts, hnw, hK, hA, hij, hAd, hlk⟩ := hC
  intro H locs ls hP hS hl
  exact lv_ldc2 hx hb hown (hts _ hw) hd (kk H locs ls hP hS hl)
theorem gx_iload_n (hC : gw_C N w own cc nL x) {i : Fin 4} {z : Int32} (hd : decode cc pc = .ok (.iload_n i, 1)) (hv : gv_g lv i.val = some (gv_I z))
    (kk : gw_G N nL R x k n cf (pc + 1) lv (gv_I z :: st)) : gw_G N nL R x k n cf pc lv st := by
  obtain ⟨p, l, e, s, m, args, below, meth, c, Q, D, A, ad, ck⟩ := x
  obtain ⟨hx, hb, hml, hown, hts, hnw, hK, hA, hij, hAd, hlk⟩ := hC
  intro H locs ls hP hS hl
  exact lv_iload_n hx hb hd rfl (gv_at hl hv) (kk H locs ls hP hS hl)
theorem gx_iload (hC : gw_C N w own cc nL x) {i : Nat} {z : Int32} (hd : decode cc pc = .ok (.iload i, 2)) (hv : gv_g lv i = some (gv_I z))
    (kk : gw_G N nL R x k n cf (pc + 2) lv (gv_I z :: st)) : gw_G N nL R x k n cf pc lv st := by
  obtain ⟨p, l, e, s, m, args, below, meth, c, Q, D, A, ad, ck⟩ := x
  obtain ⟨hx, hb, hml, hown, hts, hnw, hK, hA, hij, hAd, hlk⟩ := hC
  intro H locs ls hP hS hl
  exact lv_iload hx hb hd (gv_at hl hv) (kk H locs ls hP hS hl)
theorem gx_lload_n (hC : gw_C N w own cc nL x) {i : Fin 4} {z : Int64} (hd : decode cc pc = .ok (.lload_n i, 1)) (hv : gv_g lv i.val = some (gv_L z))
    (kk : gw_G N nL R x k n cf (pc + 1) lv (gv_L z :: st)) : gw_G N nL R x k n cf pc lv st := by
  obtain ⟨p, l, e, s, m, args, below, meth, c, Q, D, A, ad, ck⟩ := x
  obtain ⟨hx, hb, hml, hown, hts, hnw, hK, hA, hij, hAd, hlk⟩ := hC
  intro H locs ls hP hS hl
  exact lv_lload_n hx hb hd rfl (gv_at hl hv) (kk H locs ls hP hS hl)
theorem gx_lload (hC : gw_C N w own cc nL x) {i : Nat} {z : Int64} (hd : decode cc pc = .ok (.lload i, 2)) (hv : gv_g lv i = some (gv_L z))
    (kk : gw_G N nL R x k n cf (pc + 2) lv (gv_L z :: st)) : gw_G N nL R x k n cf pc lv st := by
  obtain ⟨p, l, e, s, m, args, below, meth, c, Q, D, A, ad, ck⟩ := x
  obtain ⟨hx, hb, hml, hown, hts, hnw, hK, hA, hij, hAd, hlk⟩ := hC
  intro H locs ls hP hS hl
  exact lv_lload hx hb hd (gv_at hl hv) (kk H locs ls hP hS hl)
theorem gx_aload_n (hC : gw_C N w own cc nL x) {i : Fin 4} {z : Nat} (hd : decode cc pc = .ok (.aload_n i, 1)) (hv : gv_g lv i.val = some (gv_R z))
    (kk : gw_G N nL R x k n cf (pc + 1) lv (gv_R z :: st)) : gw_G N nL R x k n cf pc lv st := by
  obtain ⟨p, l, e, s, m, args, below, meth, c, Q, D, A, ad, ck⟩ := x
  obtain ⟨hx, hb, hml, hown, hts, hnw, hK, hA, hij, hAd, hlk⟩ := hC
  intro H locs ls hP hS hl
  exact lv_aload_n hx hb hd rfl (gv_at hl hv) (kk H locs ls hP hS hl)
theorem gx_aload (hC : gw_C N w own cc nL x) {i : Nat} {z : Nat} (hd : decode cc pc = .ok (.aload i, 2)) (hv : gv_g lv i = some (gv_R z))
    (kk : gw_G N nL R x k n cf (pc + 2) lv (gv_R z :: st)) : gw_G N nL R x k n cf pc lv st := by
  obtain ⟨p, l, e, s, m, args, below, meth, c, Q, D, A, ad, ck⟩ := x
  obtain ⟨hx, hb, hml, hown, hts, hnw, hK, hA, hij, hAd, hlk⟩ := hC
  intro H locs ls hP hS hl
  exact lv_aload hx hb hd (gv_at hl hv) (kk H locs ls hP hS hl)
theorem gx_istore (hC : gw_C N w own cc nL x) {i : Nat} {z : Int32} (hd : decode cc pc = .ok (.istore i, 2)) (hn : i < nL)
    (kk : gw_G N nL R x k n cf (pc + 2) (gv_s lv i (gv_I z)) st) : gw_G N nL R x k n cf pc lv (gv_I z :: st) := by
  obtain ⟨p, l, e, s, m, args, below, meth, c, Q, D, A, ad, ck⟩ := x
  obtain ⟨hx, hb, hml, hown, hts, hnw, hK, hA, hij, hAd, hlk⟩ := hC
  intro H locs ls hP hS hl
  exact lv_istore hx hb hd hl hn rfl (fun ls2 h2 => kk H locs ls2 hP hS (gv_st1 (v := gv_I z) rfl h2))
theorem gx_istore_n (hC : gw_C N w own cc nL x) {i : Fin 4} {z : Int32} (hd : decode cc pc = .ok (.istore_n i, 1)) (hn : i.val < nL)
    (kk : gw_G N nL R x k n cf (pc + 1) (gv_s lv i.val (gv_I z)) st) : gw_G N nL R x k n cf pc lv (gv_I z :: st) := by
  obtain ⟨p, l, e, s, m, args, below, meth, c, Q, D, A, ad, ck⟩ := x
  obtain ⟨hx, hb, hml, hown, hts, hnw, hK, hA, hij, hAd, hlk⟩ := hC
  intro H locs ls hP hS hl
  exact lv_istore_n hx hb hd rfl hl hn rfl (fun ls2 h2 => kk H locs ls2 hP hS (gv_st1 (v := gv_I z) rfl h2))
theorem gx_lstore (hC : gw_C N w own cc nL x) {i : Nat} {z : Int64} (hd : decode cc pc = .ok (.lstore i, 2)) (hn : i + 1 < nL)
    (kk : gw_G N nL R x k n cf (pc + 2) (gv_s lv i (gv_L z)) st) : gw_G N nL R x k n cf pc lv (gv_L z :: st) := by
  obtain ⟨p, l, e, s, m, args, below, meth, c, Q, D, A, ad, ck⟩ := x
  obtain ⟨hx, hb, hml, hown, hts, hnw, hK, hA, hij, hAd, hlk⟩ := hC
  intro H locs ls hP hS hl
  exact lv_lstore hx hb hd hl hn rfl (fun ls2 h2 => kk H locs ls2 hP hS (gv_st2 (v := gv_L z) rfl h2))
theorem gx_lstore_n (hC : gw_C N w own cc nL x) {i : Fin 4} {z : Int64} (hd : decode cc pc = .ok (.lstore_n i, 1)) (hn : i.val + 1 < nL)
    (kk : gw_G N nL R x k n cf (pc + 1) (gv_s lv i.val (gv_L z)) st) : gw_G N nL R x k n cf pc lv (gv_L z :: st) := by
  obtain ⟨p, l, e, s, m, args, below, meth, c, Q, D, A, ad, ck⟩ := x
  obtain ⟨hx, hb, hml, hown, hts, hnw, hK, hA, hij, hAd, hlk⟩ := hC
  intro H locs ls hP hS hl
  exact lv_lstore_n hx hb hd rfl hl hn rfl (fun ls2 h2 => kk H locs ls2 hP hS (gv_st2 (v := gv_L z) rfl h2))
theorem gx_astore (hC : gw_C N w own cc nL x) {i : Nat} {z : Nat} (hd : decode cc pc = .ok (.astore i, 2)) (hn : i < nL)
    (kk : gw_G N nL R x k n cf (pc + 2) (gv_s lv i (gv_R z)) st) : gw_G N nL R x k n cf pc lv (gv_R z :: st) := by
  obtain ⟨p, l, e, s, m, args, below, meth, c, Q, D, A, ad, ck⟩ := x
  obtain ⟨hx, hb, hml, hown, hts, hnw, hK, hA, hij, hAd, hlk⟩ := hC
  intro H locs ls hP hS hl
  exact lv_astore hx hb hd hl hn rfl (fun ls2 h2 => kk H locs ls2 hP hS (gv_st1 (v := gv_R z) rfl h2))
theorem gx_astore_n (hC : gw_C N w own cc nL x) {i : Fin 4} {z : Nat} (hd : decode cc pc = .ok (.astore_n i, 1)) (hn : i.val < nL)
    (kk : gw_G N nL R x k n cf (pc + 1) (gv_s lv i.val (gv_R z)) st) : gw_G N nL R x k n cf pc lv (gv_R z :: st) := by
  obtain ⟨p, l, e, s, m, args, below, meth, c, Q, D, A, ad, ck⟩ := x
  obtain ⟨hx, hb, hml, hown, hts, hnw, hK, hA, hij, hAd, hlk⟩ := hC
  intro H locs ls hP hS hl
  exact lv_astore_n hx hb hd rfl hl hn rfl (fun ls2 h2 => kk H locs ls2 hP hS (gv_st1 (v := gv_R z) rfl h2))
theorem gx_iinc (hC : gw_C N w own cc nL x) {i : Nat} {d : Int} {z v : Int32} (hd : decode cc pc = .ok (.iinc i d, 3)) (hv : gv_g lv i = some (gv_I z)) (hn : i < nL) (hz : z + Int32.ofInt d = v)
    (kk : gw_G N nL R x k n cf (pc + 3) (gv_s lv i (gv_I v)) st) : gw_G N nL R x k n cf pc lv st := by
  obtain ⟨p, l, e, s, m, args, below, meth, c, Q, D, A, ad, ck⟩ := x
  obtain ⟨hx, hb, hml, hown, hts, hnw, hK, hA, hij, hAd, hlk⟩ := hC
  intro H locs ls hP hS hl
  have h1 := gv_mem hv
  have h2 : (i, Value.int z) ∈ lv.map (gv_p ad) := List.mem_map.mpr ⟨_, h1, rfl⟩
  obtain ⟨j, hj⟩ := List.getElem?_of_mem h2
  exact lv_iinc (k := j) hx hb hd hl hj hz hn rfl (fun ls2 h3 => kk H locs ls2 hP hS (gv_st1 (v := gv_I v) rfl h3))
theorem gx_iadd (hC : gw_C N w own cc nL x) {a b : Int32} (hd : decode cc pc = .ok (.iadd, 1)) 
    (kk : gw_G N nL R x k n cf (pc + 1) lv (gv_I (a + b) :: st)) : gw_G N nL R x k n cf pc lv (gv_I b :: gv_I a :: st) := by
  obtain ⟨p, l, e, s, m, args, below, meth, c, Q, D, A, ad, ck⟩ := x
  obtain ⟨hx, hb, hml, hown, hts, hnw, hK, hA, hij, hAd, hlk⟩ := hC
  intro H locs ls hP hS hl
  exact lv_iadd hx hb hd (kk H locs ls hP hS hl)
theorem gx_isub (hC : gw_C N w own cc nL x) {a b : Int32} (hd : decode cc pc = .ok (.isub, 1)) 
    (kk : gw_G N nL R x k n cf (pc + 1) lv (gv_I (a - b) :: st)) : gw_G N nL R x k n cf pc lv (gv_I b :: gv_I a :: st) := by
  obtain ⟨p, l, e, s, m, args, below, meth, c, Q, D, A, ad, ck⟩ := x
  obtain ⟨hx, hb, hml, hown, hts, hnw, hK, hA, hij, hAd, hlk⟩ := hC
  intro H locs ls hP hS hl
  exact lv_isub hx hb hd (kk H locs ls hP hS hl)
theorem gx_imul (hC : gw_C N w own cc nL x) {a b : Int32} (hd : decode cc pc = .ok (.imul, 1)) 
    (kk : gw_G N nL R x k n cf (pc + 1) lv (gv_I (a * b) :: st)) : gw_G N nL R x k n cf pc lv (gv_I b :: gv_I a :: st) := by
  obtain ⟨p, l, e, s, m, args, below, meth, c, Q, D, A, ad, ck⟩ := x
  obtain ⟨hx, hb, hml, hown, hts, hnw, hK, hA, hij, hAd, hlk⟩ := hC
  intro H locs ls hP hS hl
  exact lv_imul hx hb hd (kk H locs ls hP hS hl)
theorem gx_ishl (hC : gw_C N w own cc nL x) {a b : Int32} (hd : decode cc pc = .ok (.ishl, 1)) 
    (kk : gw_G N nL R x k n cf (pc + 1) lv (gv_I (a <<< (b &&& 31)) :: st)) : gw_G N nL R x k n cf pc lv (gv_I b :: gv_I a :: st) := by
  obtain ⟨p, l, e, s, m, args, below, meth, c, Q, D, A, ad, ck⟩ := x
  obtain ⟨hx, hb, hml, hown, hts, hnw, hK, hA, hij, hAd, hlk⟩ := hC
  intro H locs ls hP hS hl
  exact lv_ishl hx hb hd (kk H locs ls hP hS hl)
theorem gx_ishr (hC : gw_C N w own cc nL x) {a b : Int32} (hd : decode cc pc = .ok (.ishr, 1)) 
    (kk : gw_G N nL R x k n cf (pc + 1) lv (gv_I (a >>> (b &&& 31)) :: st)) : gw_G N nL R x k n cf pc lv (gv_I b :: gv_I a :: st) := by
  obtain ⟨p, l, e, s, m, args, below, meth, c, Q, D, A, ad, ck⟩ := x
  obtain ⟨hx, hb, hml, hown, hts, hnw, hK, hA, hij, hAd, hlk⟩ := hC
  intro H locs ls hP hS hl
  exact lv_ishr hx hb hd (kk H locs ls hP hS hl)
theorem gx_iand (hC : gw_C N w own cc nL x) {a b : Int32} (hd : decode cc pc = .ok (.iand, 1)) 
    (kk : gw_G N nL R x k n cf (pc + 1) lv (gv_I (a &&& b) :: st)) : gw_G N nL R x k n cf pc lv (gv_I b :: gv_I a :: st) := by
  obtain ⟨p, l, e, s, m, args, below, meth, c, Q, D, A, ad, ck⟩ := x
  obtain ⟨hx, hb, hml, hown, hts, hnw, hK, hA, hij, hAd, hlk⟩ := hC
  intro H locs ls hP hS hl
  exact lv_iand hx hb hd (kk H locs ls hP hS hl)
theorem gx_ior (hC : gw_C N w own cc nL x) {a b : Int32} (hd : decode cc pc = .ok (.ior, 1)) 
    (kk : gw_G N nL R x k n cf (pc + 1) lv (gv_I (a ||| b) :: st)) : gw_G N nL R x k n cf pc lv (gv_I b :: gv_I a :: st) := by
  obtain ⟨p, l, e, s, m, args, below, meth, c, Q, D, A, ad, ck⟩ := x
  obtain ⟨hx, hb, hml, hown, hts, hnw, hK, hA, hij, hAd, hlk⟩ := hC
  intro H locs ls hP hS hl
  exact lv_ior hx hb hd (kk H locs ls hP hS hl)
theorem gx_irem (hC : gw_C N w own cc nL x) {a b : Int32} (hd : decode cc pc = .ok (.irem, 1)) (hne : ¬ b = 0)
    (kk : gw_G N nL R x k n cf (pc + 1) lv (gv_I (a - a / b * b) :: st)) : gw_G N nL R x k n cf pc lv (gv_I b :: gv_I a :: st) := by
  obtain ⟨p, l, e, s, m, args, below, meth, c, Q, D, A, ad, ck⟩ := x
  obtain ⟨hx, hb, hml, hown, hts, hnw, hK, hA, hij, hAd, hlk⟩ := hC
  intro H locs ls hP hS hl
  exact lv_irem hx hb hd hne (kk H locs ls hP hS hl)
theorem gx_ladd (hC : gw_C N w own cc nL x) {a b : Int64} (hd : decode cc pc = .ok (.ladd, 1)) 
    (kk : gw_G N nL R x k n cf (pc + 1) lv (gv_L (a + b) :: st)) : gw_G N nL R x k n cf pc lv (gv_L b :: gv_L a :: st) := by
  obtain ⟨p, l, e, s, m, args, below, meth, c, Q, D, A, ad, ck⟩ := x
  obtain ⟨hx, hb, hml, hown, hts, hnw, hK, hA, hij, hAd, hlk⟩ := hC
  intro H locs ls hP hS hl
  exact lv_ladd hx hb hd (kk H locs ls hP hS hl)
theorem gx_lsub (hC : gw_C N w own cc nL x) {a b : Int64} (hd : decode cc pc = .ok (.lsub, 1)) 
    (kk : gw_G N nL R x k n cf (pc + 1) lv (gv_L (a - b) :: st)) : gw_G N nL R x k n cf pc lv (gv_L b :: gv_L a :: st) := by
  obtain ⟨p, l, e, s, m, args, below, meth, c, Q, D, A, ad, ck⟩ := x
  obtain ⟨hx, hb, hml, hown, hts, hnw, hK, hA, hij, hAd, hlk⟩ := hC
  intro H locs ls hP hS hl
  exact lv_lsub hx hb hd (kk H locs ls hP hS hl)
theorem gx_lmul (hC : gw_C N w own cc nL x) {a b : Int64} (hd : decode cc pc = .ok (.lmul, 1)) 
    (kk : gw_G N nL R x k n cf (pc + 1) lv (gv_L (a * b) :: st)) : gw_G N nL R x k n cf pc lv (gv_L b :: gv_L a :: st) := by
  obtain ⟨p, l, e, s, m, args, below, meth, c, Q, D, A, ad, ck⟩ := x
  obtain ⟨hx, hb, hml, hown, hts, hnw, hK, hA, hij, hAd, hlk⟩ := hC
  intro H locs ls hP hS hl
  exact lv_lmul hx hb hd (kk H locs ls hP hS hl)
theorem gx_land (hC : gw_C N w own cc nL x) {a b : Int64} (hd : decode cc pc = .ok (.land, 1)) 
    (kk : gw_G N nL R x k n cf (pc + 1) lv (gv_L (a &&& b) :: st)) : gw_G N nL R x k n cf pc lv (gv_L b :: gv_L a :: st) := by
  obtain ⟨p, l, e, s, m, args, below, meth, c, Q, D, A, ad, ck⟩ := x
  obtain ⟨hx, hb, hml, hown, hts, hnw, hK, hA, hij, hAd, hlk⟩ := hC
  intro H locs ls hP hS hl
  exact lv_land hx hb hd (kk H locs ls hP hS hl)
theorem gx_lor (hC : gw_C N w own cc nL x) {a b : Int64} (hd : decode cc pc = .ok (.lor, 1)) 
    (kk : gw_G N nL R x k n cf (pc + 1) lv (gv_L (a ||| b) :: st)) : gw_G N nL R x k n cf pc lv (gv_L b :: gv_L a :: st) := by
  obtain ⟨p, l, e, s, m, args, below, meth, c, Q, D, A, ad, ck⟩ := x
  obtain ⟨hx, hb, hml, hown, hts, hnw, hK, hA, hij, hAd, hlk⟩ := hC
  intro H locs ls hP hS hl
  exact lv_lor hx hb hd (kk H locs ls hP hS hl)
theorem gx_lshl (hC : gw_C N w own cc nL x) {a : Int64} {b : Int32} (hd : decode cc pc = .ok (.lshl, 1)) 
    (kk : gw_G N nL R x k n cf (pc + 1) lv (gv_L (a <<< (b.toInt64 &&& 63)) :: st)) : gw_G N nL R x k n cf pc lv (gv_I b :: gv_L a :: st) := by
  obtain ⟨p, l, e, s, m, args, below, meth, c, Q, D, A, ad, ck⟩ := x
  obtain ⟨hx, hb, hml, hown, hts, hnw, hK, hA, hij, hAd, hlk⟩ := hC
  intro H locs ls hP hS hl
  exact lv_lshl hx hb hd rfl (kk H locs ls hP hS hl)
theorem gx_i2l (hC : gw_C N w own cc nL x) {a : Int32} (hd : decode cc pc = .ok (.i2l, 1)) 
    (kk : gw_G N nL R x k n cf (pc + 1) lv (gv_L (a.toInt64) :: st)) : gw_G N nL R x k n cf pc lv (gv_I a :: st) := by
  obtain ⟨p, l, e, s, m, args, below, meth, c, Q, D, A, ad, ck⟩ := x
  obtain ⟨hx, hb, hml, hown, hts, hnw, hK, hA, hij, hAd, hlk⟩ := hC
  intro H locs ls hP hS hl
  exact lv_i2l hx hb hd rfl (kk H locs ls hP hS hl)
theorem gx_dup (hC : gw_C N w own cc nL x) {v : gv_V} (hd : decode cc pc = .ok (.dup, 1)) (hv : gv_c v = 1)
    (kk : gw_G N nL R x k n cf (pc + 1) lv (v :: v :: st)) : gw_G N nL R x k n cf pc lv (v :: st) := by
  obtain ⟨p, l, e, s, m, args, below, meth, c, Q, D, A, ad, ck⟩ := x
  obtain ⟨hx, hb, hml, hown, hts, hnw, hK, hA, hij, hAd, hlk⟩ := hC
  intro H locs ls hP hS hl
  exact lv_dup hx hb hd ((gv_cat ad v).trans hv) (kk H locs ls hP hS hl)
theorem gx_dup2 (hC : gw_C N w own cc nL x) {v v2 : gv_V} (hd : decode cc pc = .ok (.dup2, 1)) (hv : gv_c v = 1) (hv2 : gv_c v2 = 1)
    (kk : gw_G N nL R x k n cf (pc + 1) lv (v :: v2 :: v :: v2 :: st)) : gw_G N nL R x k n cf pc lv (v :: v2 :: st) := by
  obtain ⟨p, l, e, s, m, args, below, meth, c, Q, D, A, ad, ck⟩ := x
  obtain ⟨hx, hb, hml, hown, hts, hnw, hK, hA, hij, hAd, hlk⟩ := hC
  intro H locs ls hP hS hl
  exact lv_dup2_11 hx hb hd ((gv_cat ad v).trans hv) ((gv_cat ad v2).trans hv2) (kk H locs ls hP hS hl)
theorem gx_goto (hC : gw_C N w own cc nL x) {off : Int} {tgt : Nat} (hd : decode cc pc = .ok (.goto off, 3)) (ht : (pc : Int) + off = (tgt : Int))
    (kk : gw_G N nL R x k n cf tgt lv st) : gw_G N nL R x k n cf pc lv st := by
  obtain ⟨p, l, e, s, m, args, below, meth, c, Q, D, A, ad, ck⟩ := x
  obtain ⟨hx, hb, hml, hown, hts, hnw, hK, hA, hij, hAd, hlk⟩ := hC
  intro H locs ls hP hS hl
  exact lv_goto hx hb hd ht (kk H locs ls hP hS hl)
theorem gx_icmp_eq (hC : gw_C N w own cc nL x) {a b : Int32} {off : Int} {tgt : Nat} (hd : decode cc pc = .ok (.if_icmp .eq off, 3)) (ht : (pc : Int) + off = (tgt : Int))
    (kt : a = b → gw_G N nL R x k n cf tgt lv st) (kf : ¬ a = b → gw_G N nL R x k n cf (pc + 3) lv st) : gw_G N nL R x k n cf pc lv (gv_I b :: gv_I a :: st) := by
  obtain ⟨p, l, e, s, m, args, below, meth, c, Q, D, A, ad, ck⟩ := x
  obtain ⟨hx, hb, hml, hown, hts, hnw, hK, hA, hij, hAd, hlk⟩ := hC
  intro H locs ls hP hS hl
  exact lv_icmp_eq hx hb hd ht (fun h => kt h H locs ls hP hS hl) (fun h => kf h H locs ls hP hS hl)
theorem gx_if_eq (hC : gw_C N w own cc nL x) {a : Int32} {off : Int} {tgt : Nat} (hd : decode cc pc = .ok (.ifCond .eq off, 3)) (ht : (pc : Int) + off = (tgt : Int))
    (kt : a = 0 → gw_G N nL R x k n cf tgt lv st) (kf : ¬ a = 0 → gw_G N nL R x k n cf (pc + 3) lv st) : gw_G N nL R x k n cf pc lv (gv_I a :: st) := by
  obtain ⟨p, l, e, s, m, args, below, meth, c, Q, D, A, ad, ck⟩ := x
  obtain ⟨hx, hb, hml, hown, hts, hnw, hK, hA, hij, hAd, hlk⟩ := hC
  intro H locs ls hP hS hl
  exact lv_if_eq hx hb hd ht (fun h => kt h H locs ls hP hS hl) (fun h => kf h H locs ls hP hS hl)
theorem gx_icmp_ne (hC : gw_C N w own cc nL x) {a b : Int32} {off : Int} {tgt : Nat} (hd : decode cc pc = .ok (.if_icmp .ne off, 3)) (ht : (pc : Int) + off = (tgt : Int))
    (kt : ¬ a = b → gw_G N nL R x k n cf tgt lv st) (kf : a = b → gw_G N nL R x k n cf (pc + 3) lv st) : gw_G N nL R x k n cf pc lv (gv_I b :: gv_I a :: st) := by
  obtain ⟨p, l, e, s, m, args, below, meth, c, Q, D, A, ad, ck⟩ := x
  obtain ⟨hx, hb, hml, hown, hts, hnw, hK, hA, hij, hAd, hlk⟩ := hC
  intro H locs ls hP hS hl
  exact lv_icmp_ne hx hb hd ht (fun h => kt h H locs ls hP hS hl) (fun h => kf h H locs ls hP hS hl)
theorem gx_if_ne (hC : gw_C N w own cc nL x) {a : Int32} {off : Int} {tgt : Nat} (hd : decode cc pc = .ok (.ifCond .ne off, 3)) (ht : (pc : Int) + off = (tgt : Int))
    (kt : ¬ a = 0 → gw_G N nL R x k n cf tgt lv st) (kf : a = 0 → gw_G N nL R x k n cf (pc + 3) lv st) : gw_G N nL R x k n cf pc lv (gv_I a :: st) := by
  obtain ⟨p, l, e, s, m, args, below, meth, c, Q, D, A, ad, ck⟩ := x
  obtain ⟨hx, hb, hml, hown, hts, hnw, hK, hA, hij, hAd, hlk⟩ := hC
  intro H locs ls hP hS hl
  exact lv_if_ne hx hb hd ht (fun h => kt h H locs ls hP hS hl) (fun h => kf h H locs ls hP hS hl)
theorem gx_icmp_lt (hC : gw_C N w own cc nL x) {a b : Int32} {off : Int} {tgt : Nat} (hd : decode cc pc = .ok (.if_icmp .lt off, 3)) (ht : (pc : Int) + off = (tgt : Int))
    (kt : a < b → gw_G N nL R x k n cf tgt lv st) (kf : ¬ a < b → gw_G N nL R x k n cf (pc + 3) lv st) : gw_G N nL R x k n cf pc lv (gv_I b :: gv_I a :: st) := by
  obtain ⟨p, l, e, s, m, args, below, meth, c, Q, D, A, ad, ck⟩ := x
  obtain ⟨hx, hb, hml, hown, hts, hnw, hK, hA, hij, hAd, hlk⟩ := hC
  intro H locs ls hP hS hl
  exact lv_icmp_lt hx hb hd ht (fun h => kt h H locs ls hP hS hl) (fun h => kf h H locs ls hP hS hl)
theorem gx_if_lt (hC : gw_C N w own cc nL x) {a : Int32} {off : Int} {tgt : Nat} (hd : decode cc pc = .ok (.ifCond .lt off, 3)) (ht : (pc : Int) + off = (tgt : Int))
    (kt : a < 0 → gw_G N nL R x k n cf tgt lv st) (kf : ¬ a < 0 → gw_G N nL R x k n cf (pc + 3) lv st) : gw_G N nL R x k n cf pc lv (gv_I a :: st) := by
  obtain ⟨p, l, e, s, m, args, below, meth, c, Q, D, A, ad, ck⟩ := x
  obtain ⟨hx, hb, hml, hown, hts, hnw, hK, hA, hij, hAd, hlk⟩ := hC
  intro H locs ls hP hS hl
  exact lv_if_lt hx hb hd ht (fun h => kt h H locs ls hP hS hl) (fun h => kf h H locs ls hP hS hl)
theorem gx_icmp_ge (hC : gw_C N w own cc nL x) {a b : Int32} {off : Int} {tgt : Nat} (hd : decode cc pc = .ok (.if_icmp .ge off, 3)) (ht : (pc : Int) + off = (tgt : Int))
    (kt : b ≤ a → gw_G N nL R x k n cf tgt lv st) (kf : ¬ b ≤ a → gw_G N nL R x k n cf (pc + 3) lv st) : gw_G N nL R x k n cf pc lv (gv_I b :: gv_I a :: st) := by
  obtain ⟨p, l, e, s, m, args, below, meth, c, Q, D, A, ad, ck⟩ := x
  obtain ⟨hx, hb, hml, hown, hts, hnw, hK, hA, hij, hAd, hlk⟩ := hC
  intro H locs ls hP hS hl
  exact lv_icmp_ge hx hb hd ht (fun h => kt h H locs ls hP hS hl) (fun h => kf h H locs ls hP hS hl)
theorem gx_if_ge (hC : gw_C N w own cc nL x) {a : Int32} {off : Int} {tgt : Nat} (hd : decode cc pc = .ok (.ifCond .ge off, 3)) (ht : (pc : Int) + off = (tgt : Int))
    (kt : 0 ≤ a → gw_G N nL R x k n cf tgt lv st) (kf : ¬ 0 ≤ a → gw_G N nL R x k n cf (pc + 3) lv st) : gw_G N nL R x k n cf pc lv (gv_I a :: st) := by
  obtain ⟨p, l, e, s, m, args, below, meth, c, Q, D, A, ad, ck⟩ := x
  obtain ⟨hx, hb, hml, hown, hts, hnw, hK, hA, hij, hAd, hlk⟩ := hC
  intro H locs ls hP hS hl
  exact lv_if_ge hx hb hd ht (fun h => kt h H locs ls hP hS hl) (fun h => kf h H locs ls hP hS hl)
theorem gx_icmp_gt (hC : gw_C N w own cc nL x) {a b : Int32} {off : Int} {tgt : Nat} (hd : decode cc pc = .ok (.if_icmp .gt off, 3)) (ht : (pc : Int) + off = (tgt : Int))
    (kt : b < a → gw_G N nL R x k n cf tgt lv st) (kf : ¬ b < a → gw_G N nL R x k n cf (pc + 3) lv st) : gw_G N nL R x k n cf pc lv (gv_I b :: gv_I a :: st) := by
  obtain ⟨p, l, e, s, m, args, below, meth, c, Q, D, A, ad, ck⟩ := x
  obtain ⟨hx, hb, hml, hown, hts, hnw, hK, hA, hij, hAd, hlk⟩ := hC
  intro H locs ls hP hS hl
  exact lv_icmp_gt hx hb hd ht (fun h => kt h H locs ls hP hS hl) (fun h => kf h H locs ls hP hS hl)
theorem gx_if_gt (hC : gw_C N w own cc nL x) {a : Int32} {off : Int} {tgt : Nat} (hd : decode cc pc = .ok (.ifCond .gt off, 3)) (ht : (pc : Int) + off = (tgt : Int))
    (kt : 0 < a → gw_G N nL R x k n cf tgt lv st) (kf : ¬ 0 < a → gw_G N nL R x k n cf (pc + 3) lv st) : gw_G N nL R x k n cf pc lv (gv_I a :: st) := by
  obtain ⟨p, l, e, s, m, args, below, meth, c, Q, D, A, ad, ck⟩ := x
  obtain ⟨hx, hb, hml, hown, hts, hnw, hK, hA, hij, hAd, hlk⟩ := hC
  intro H locs ls hP hS hl
  exact lv_if_gt hx hb hd ht (fun h => kt h H locs ls hP hS hl) (fun h => kf h H locs ls hP hS hl)
theorem gx_icmp_le (hC : gw_C N w own cc nL x) {a b : Int32} {off : Int} {tgt : Nat} (hd : decode cc pc = .ok (.if_icmp .le off, 3)) (ht : (pc : Int) + off = (tgt : Int))
    (kt : a ≤ b → gw_G N nL R x k n cf tgt lv st) (kf : ¬ a ≤ b → gw_G N nL R x k n cf (pc + 3) lv st) : gw_G N nL R x k n cf pc lv (gv_I b :: gv_I a :: st) := by
  obtain ⟨p, l, e, s, m, args, below, meth, c, Q, D, A, ad, ck⟩ := x
  obtain ⟨hx, hb, hml, hown, hts, hnw, hK, hA, hij, hAd, hlk⟩ := hC
  intro H locs ls hP hS hl
  exact lv_icmp_le hx hb hd ht (fun h => kt h H locs ls hP hS hl) (fun h => kf h H locs ls hP hS hl)
theorem gx_if_le (hC : gw_C N w own cc nL x) {a : Int32} {off : Int} {tgt : Nat} (hd : decode cc pc = .ok (.ifCond .le off, 3)) (ht : (pc : Int) + off = (tgt : Int))
    (kt : a ≤ 0 → gw_G N nL R x k n cf tgt lv st) (kf : ¬ a ≤ 0 → gw_G N nL R x k n cf (pc + 3) lv st) : gw_G N nL R x k n cf pc lv (gv_I a :: st) := by
  obtain ⟨p, l, e, s, m, args, below, meth, c, Q, D, A, ad, ck⟩ := x
  obtain ⟨hx, hb, hml, hown, hts, hnw, hK, hA, hij, hAd, hlk⟩ := hC
  intro H locs ls hP hS hl
  exact lv_if_le hx hb hd ht (fun h => kt h H locs ls hP hS hl) (fun h => kf h H locs ls hP hS hl)
theorem gx_cmp3 (a b : Int64) : (b < a ∧ lg_cmp a b = 1 ∧ ¬ a = b) ∨ (a = b ∧ lg_cmp a b = 0 ∧ ¬ b < a ∧ ¬ a < b) ∨ (a < b ∧ lg_cmp a b = -1 ∧ ¬ a = b) := by
  by_cases h1 : b < a
  · refine Or.inl ⟨h1, by simp [lg_cmp, h1], fun h => ?_⟩
    rw [h, Int64.lt_iff_toInt_lt] at h1
    omega
  · by_cases h2 : a = b
    · refine Or.inr (Or.inl ⟨h2, by simp [lg_cmp, h2], h1, fun h => ?_⟩)
      rw [h2, Int64.lt_iff_toInt_lt] at h
      omega
    · refine Or.inr (Or.inr ⟨?_, by simp [lg_cmp, h1, h2], h2⟩)
      rw [Int64.lt_iff_toInt_lt] at h1 ⊢
      have h3 : a.toInt ≠ b.toInt := fun h => h2 (Int64.toInt_inj.mp h)
      omega
theorem gx_le64 {a b : Int64} : a ≤ b ↔ ¬ b < a := by
  rw [Int64.le_iff_toInt_le, Int64.lt_iff_toInt_lt]
  omega
theorem gx_lcmp_eq (hC : gw_C N w own cc nL x) {a b : Int64} {off : Int} {tgt : Nat} (hd : decode cc pc = .ok (.lcmp, 1)) (hd2 : decode cc (pc + 1) = .ok (.ifCond .eq off, 3)) (ht : ((pc + 1 : Nat) : Int) + off = (tgt : Int))
    (kt : a = b → gw_G N nL R x k n cf tgt lv st) (kf : ¬ a = b → gw_G N nL R x k n cf (pc + 4) lv st) : gw_G N nL R x k n cf pc lv (gv_L b :: gv_L a :: st) := by
  obtain ⟨p, l, e, s, m, args, below, meth, c, Q, D, A, ad, ck⟩ := x
  obtain ⟨hx, hb, hml, hown, hts, hnw, hK, hA, hij, hAd, hlk⟩ := hC
  intro H locs ls hP hS hl
  refine W.lcmp hx hb hd ?_
  rcases gx_cmp3 a b with ⟨h1, h2, h3⟩ | ⟨h1, h2, h3, h4⟩ | ⟨h1, h2, h3⟩ <;> rw [h2]
  · refine lv_if_eq hx hb hd2 ht (fun z => absurd z (by decide)) (fun _ => kf h3 H locs ls hP hS hl)
  · refine lv_if_eq hx hb hd2 ht (fun _ => kt h1 H locs ls hP hS hl) (fun z => absurd z (by decide))
  · refine lv_if_eq hx hb hd2 ht (fun z => absurd z (by decide)) (fun _ => kf h3 H locs ls hP hS hl)
theorem gx_lcmp_ne (hC : gw_C N w own cc nL x) {a b : Int64} {off : Int} {tgt : Nat} (hd : decode cc pc = .ok (.lcmp, 1)) (hd2 : decode cc (pc + 1) = .ok (.ifCond .ne off, 3)) (ht : ((pc + 1 : Nat) : Int) + off = (tgt : Int))
    (kt : ¬ a = b → gw_G N nL R x k n cf tgt lv st) (kf : a = b → gw_G N nL R x k n cf (pc + 4) lv st) : gw_G N nL R x k n cf pc lv (gv_L b :: gv_L a :: st) := by
  obtain ⟨p, l, e, s, m, args, below, meth, c, Q, D, A, ad, ck⟩ := x
  obtain ⟨hx, hb, hml, hown, hts, hnw, hK, hA, hij, hAd, hlk⟩ := hC
  intro H locs ls hP hS hl
  refine W.lcmp hx hb hd ?_
  rcases gx_cmp3 a b with ⟨h1, h2, h3⟩ | ⟨h1, h2, h3, h4⟩ | ⟨h1, h2, h3⟩ <;> rw [h2]
  · refine lv_if_ne hx hb hd2 ht (fun _ => kt h3 H locs ls hP hS hl) (fun z => absurd z (by decide))
  · refine lv_if_ne hx hb hd2 ht (fun z => absurd z (by decide)) (fun _ => kf h1 H locs ls hP hS hl)
  · refine lv_if_ne hx hb hd2 ht (fun _ => kt h3 H locs ls hP hS hl) (fun z => absurd z (by decide))
theorem gx_lcmp_lt (hC : gw_C N w own cc nL x) {a b : Int64} {off : Int} {tgt : Nat} (hd : decode cc pc = .ok (.lcmp, 1)) (hd2 : decode cc (pc + 1) = .ok (.ifCond .lt off, 3)) (ht : ((pc + 1 : Nat) : Int) + off = (tgt : Int))
    (kt : a < b → gw_G N nL R x k n cf tgt lv st) (kf : ¬ a < b → gw_G N nL R x k n cf (pc + 4) lv st) : gw_G N nL R x k n cf pc lv (gv_L b :: gv_L a :: st) := by
  obtain ⟨p, l, e, s, m, args, below, meth, c, Q, D, A, ad, ck⟩ := x
  obtain ⟨hx, hb, hml, hown, hts, hnw, hK, hA, hij, hAd, hlk⟩ := hC
  intro H locs ls hP hS hl
  refine W.lcmp hx hb hd ?_
  rcases gx_cmp3 a b with ⟨h1, h2, h3⟩ | ⟨h1, h2, h3, h4⟩ | ⟨h1, h2, h3⟩ <;> rw [h2]
  · refine lv_if_lt hx hb hd2 ht (fun z => absurd z (by decide)) (fun _ => kf (fun z => (gx_le64.mp (Int64.le_of_lt h1)) z) H locs ls hP hS hl)
  · refine lv_if_lt hx hb hd2 ht (fun z => absurd z (by decide)) (fun _ => kf h4 H locs ls hP hS hl)
  · refine lv_if_lt hx hb hd2 ht (fun _ => kt h1 H locs ls hP hS hl) (fun z => absurd z (by decide))
theorem gx_lcmp_ge (hC : gw_C N w own cc nL x) {a b : Int64} {off : Int} {tgt : Nat} (hd : decode cc pc = .ok (.lcmp, 1)) (hd2 : decode cc (pc + 1) = .ok (.ifCond .ge off, 3)) (ht : ((pc + 1 : Nat) : Int) + off = (tgt : Int))
    (kt : b ≤ a → gw_G N nL R x k n cf tgt lv st) (kf : ¬ b ≤ a → gw_G N nL R x k n cf (pc + 4) lv st) : gw_G N nL R x k n cf pc lv (gv_L b :: gv_L a :: st) := by
  obtain ⟨p, l, e, s, m, args, below, meth, c, Q, D, A, ad, ck⟩ := x
  obtain ⟨hx, hb, hml, hown, hts, hnw, hK, hA, hij, hAd, hlk⟩ := hC
  intro H locs ls hP hS hl
  refine W.lcmp hx hb hd ?_
  rcases gx_cmp3 a b with ⟨h1, h2, h3⟩ | ⟨h1, h2, h3, h4⟩ | ⟨h1, h2, h3⟩ <;> rw [h2]
  · refine lv_if_ge hx hb hd2 ht (fun _ => kt (gx_le64.mpr (fun z => absurd (Int64.lt_trans h1 z) (Int64.lt_irrefl))) H locs ls hP hS hl) (fun z => absurd z (by decide))
  · refine lv_if_ge hx hb hd2 ht (fun _ => kt (gx_le64.mpr h4) H locs ls hP hS hl) (fun z => absurd z (by decide))
  · refine lv_if_ge hx hb hd2 ht (fun z => absurd z (by decide)) (fun _ => kf (fun z => (gx_le64.mp z) h1) H locs ls hP hS hl)
theorem gx_lcmp_gt (hC : gw_C N w own cc nL x) {a b : Int64} {off : Int} {tgt : Nat} (hd : decode cc pc = .ok (.lcmp, 1)) (hd2 : decode cc (pc + 1) = .ok (.ifCond .gt off, 3)) (ht : ((pc + 1 : Nat) : Int) + off = (tgt : Int))
    (kt : b < a → gw_G N nL R x k n cf tgt lv st) (kf : ¬ b < a → gw_G N nL R x k n cf (pc + 4) lv st) : gw_G N nL R x k n cf pc lv (gv_L b :: gv_L a :: st) := by
  obtain ⟨p, l, e, s, m, args, below, meth, c, Q, D, A, ad, ck⟩ := x
  obtain ⟨hx, hb, hml, hown, hts, hnw, hK, hA, hij, hAd, hlk⟩ := hC
  intro H locs ls hP hS hl
  refine W.lcmp hx hb hd ?_
  rcases gx_cmp3 a b with ⟨h1, h2, h3⟩ | ⟨h1, h2, h3, h4⟩ | ⟨h1, h2, h3⟩ <;> rw [h2]
  · refine lv_if_gt hx hb hd2 ht (fun _ => kt h1 H locs ls hP hS hl) (fun z => absurd z (by decide))
  · refine lv_if_gt hx hb hd2 ht (fun z => absurd z (by decide)) (fun _ => kf h3 H locs ls hP hS hl)
  · refine lv_if_gt hx hb hd2 ht (fun z => absurd z (by decide)) (fun _ => kf (fun z => absurd (Int64.lt_trans h1 z) (Int64.lt_irrefl)) H locs ls hP hS hl)
theorem gx_lcmp_le (hC : gw_C N w own cc nL x) {a b : Int64} {off : Int} {tgt : Nat} (hd : decode cc pc = .ok (.lcmp, 1)) (hd2 : decode cc (pc + 1) = .ok (.ifCond .le off, 3)) (ht : ((pc + 1 : Nat) : Int) + off = (tgt : Int))
    (kt : a ≤ b → gw_G N nL R x k n cf tgt lv st) (kf : ¬ a ≤ b → gw_G N nL R x k n cf (pc + 4) lv st) : gw_G N nL R x k n cf pc lv (gv_L b :: gv_L a :: st) := by
  obtain ⟨p, l, e, s, m, args, below, meth, c, Q, D, A, ad, ck⟩ := x
  obtain ⟨hx, hb, hml, hown, hts, hnw, hK, hA, hij, hAd, hlk⟩ := hC
  intro H locs ls hP hS hl
  refine W.lcmp hx hb hd ?_
  rcases gx_cmp3 a b with ⟨h1, h2, h3⟩ | ⟨h1, h2, h3, h4⟩ | ⟨h1, h2, h3⟩ <;> rw [h2]
  · refine lv_if_le hx hb hd2 ht (fun z => absurd z (by decide)) (fun _ => kf (fun z => (gx_le64.mp z) h1) H locs ls hP hS hl)
  · refine lv_if_le hx hb hd2 ht (fun _ => kt (gx_le64.mpr h3) H locs ls hP hS hl) (fun z => absurd z (by decide))
  · refine lv_if_le hx hb hd2 ht (fun _ => kt (gx_le64.mpr (fun z => absurd (Int64.lt_trans h1 z) (Int64.lt_irrefl))) H locs ls hP hS hl) (fun z => absurd z (by decide))
/-- an int of an array -/
theorem gx_iald (hC : gw_C N w own cc nL x) {o len : Nat} {f : Int → Int32} {z : Int32} (hd : decode cc pc = .ok (.iaload, 1)) (ho : o < N) (hc : cf o = gc_I 0 len f) (hz : 0 ≤ z.toInt ∧ z.toInt < (len : Int))
    (kk : gw_G N nL R x k n cf (pc + 1) lv (gv_I (f z.toInt) :: st)) : gw_G N nL R x k n cf pc lv (gv_I z :: gv_R o :: st) := by
  obtain ⟨p, l, e, s, m, args, below, meth, c, Q, D, A, ad, ck⟩ := x
  obtain ⟨hx, hb, hml, hown, hts, hnw, hK, hA, hij, hAd, hlk⟩ := hC
  intro H locs ls hP hS hl
  refine va_iald hx hb hK hP o 0 (gw_atE ho hc) rfl (gv_vin hz) hd ?_
  have h := kk H locs ls hP hS hl
  rw [← gz_ix hz.1] at h
  exact h
/-- a boolean of an array -/
theorem gx_zald (hC : gw_C N w own cc nL x) {o len : Nat} {f : Int → Int32} {z : Int32} (hd : decode cc pc = .ok (.baload, 1)) (ho : o < N) (hc : cf o = gc_I 1 len f) (hz : 0 ≤ z.toInt ∧ z.toInt < (len : Int))
    (kk : gw_G N nL R x k n cf (pc + 1) lv (gv_I (f z.toInt) :: st)) : gw_G N nL R x k n cf pc lv (gv_I z :: gv_R o :: st) := by
  obtain ⟨p, l, e, s, m, args, below, meth, c, Q, D, A, ad, ck⟩ := x
  obtain ⟨hx, hb, hml, hown, hts, hnw, hK, hA, hij, hAd, hlk⟩ := hC
  intro H locs ls hP hS hl
  refine va_zald hx hb hK hP o 1 (gw_atE ho hc) rfl (gv_vin hz) hd ?_
  have h := kk H locs ls hP hS hl
  rw [← gz_ix hz.1] at h
  exact h
/-- a long of an array -/
theorem gx_lald (hC : gw_C N w own cc nL x) {o len : Nat} {f : Int → Int64} {z : Int32} (hd : decode cc pc = .ok (.laload, 1)) (ho : o < N) (hc : cf o = gc_L len f) (hz : 0 ≤ z.toInt ∧ z.toInt < (len : Int))
    (kk : gw_G N nL R x k n cf (pc + 1) lv (gv_L (f z.toInt) :: st)) : gw_G N nL R x k n cf pc lv (gv_I z :: gv_R o :: st) := by
  obtain ⟨p, l, e, s, m, args, below, meth, c, Q, D, A, ad, ck⟩ := x
  obtain ⟨hx, hb, hml, hown, hts, hnw, hK, hA, hij, hAd, hlk⟩ := hC
  intro H locs ls hP hS hl
  refine va_lald hx hb hK hP o 2 (gw_atE ho hc) rfl (gv_vin hz) hd ?_
  have h := kk H locs ls hP hS hl
  rw [← gz_ix hz.1] at h
  exact h
/-- a row of an array of arrays -/
theorem gx_aald (hC : gw_C N w own cc nL x) {o len kd r : Nat} {f : Int → Option Nat} {z : Int32} (hd : decode cc pc = .ok (.aaload, 1)) (ho : o < N) (hkd : kd = 3 ∨ kd = 4) (hc : cf o = gc_R kd len f) (hz : 0 ≤ z.toInt ∧ z.toInt < (len : Int)) (hr : f z.toInt = some r)
    (kk : gw_G N nL R x k n cf (pc + 1) lv (gv_R r :: st)) : gw_G N nL R x k n cf pc lv (gv_I z :: gv_R o :: st) := by
  obtain ⟨p, l, e, s, m, args, below, meth, c, Q, D, A, ad, ck⟩ := x
  obtain ⟨hx, hb, hml, hown, hts, hnw, hK, hA, hij, hAd, hlk⟩ := hC
  intro H locs ls hP hS hl
  have e := gz_ix hz.1
  have hlt : z.toNatClampNeg < len := by
    rw [gv_cl]
    omega
  have hv : (arrV (ck kd) len (fun j : Nat => va_rf ((f (j : Int)).map ad))).slots[z.toNatClampNeg]? = some (.ref (ad r)) := by
    rw [arrV_read _ _ hlt]
    show some (va_rf ((f ((z.toNatClampNeg : Nat) : Int)).map ad)) = _
    rw [e, hr]
    rfl
  have hcell : H[ad o]? = some (arrV (ck kd) len (fun j : Nat => va_rf ((f (j : Int)).map ad))) := hP o _ (gw_atE ho hc)
  rcases hkd with rfl | rfl
  · exact W.aald (v := .ref (ad r)) (ty := .array .long) hx hb hcell ((hK.2 3 _ rfl).1 len (fun j : Nat => va_rf ((f (j : Int)).map ad))) rfl (fun q => by cases q) (by rw [arrV_size]; exact gv_vin hz) hv rfl rfl hd (kk H locs ls hP hS hl)
  · exact W.aald (v := .ref (ad r)) (ty := .array .int) hx hb hcell ((hK.2 4 _ rfl).1 len (fun j : Nat => va_rf ((f (j : Int)).map ad))) rfl (fun q => by cases q) (by rw [arrV_size]; exact gv_vin hz) hv rfl rfl hd (kk H locs ls hP hS hl)
theorem gx_iast (hC : gw_C N w own cc nL x) (hw : N ≤ w) {o len : Nat} {f : Int → Int32} {z v : Int32} (hd : decode cc pc = .ok (.iastore, 1)) (ho : o < N) (hc : cf o = gc_I 0 len f) (hz : 0 ≤ z.toInt ∧ z.toInt < (len : Int)) {cf2 : Nat → gc_T} (hu : gc_up cf o (gc_I 0 len (gz_u f z.toInt v)) cf2)
    (kk : gw_G N nL R x k n cf2 (pc + 1) lv st) : gw_G N nL R x k n cf pc lv (gv_I v :: gv_I z :: gv_R o :: st) := by
  obtain ⟨p, l, e, s, m, args, below, meth, c, Q, D, A, ad, ck⟩ := x
  obtain ⟨hx, hb, hml, hown, hts, hnw, hK, hA, hij, hAd, hlk⟩ := hC
  intro H locs ls hP hS hl
  refine va_iast hx hb hK hP (gw_D hij (fun i hi => hAd i (Nat.lt_of_lt_of_le hi hw))) hS o 0 (gw_atE ho hc) rfl (gv_vin hz) hd (fun H1 locs1 hP1 hD1 hS1 => ?_)
  rw [gz_ue f hz.1] at hP1
  have e := gw_set (ad := ad) (ck := ck) ho hu
  exact kk H1 locs1 ls (by rw [← e]; exact hP1) hS1 hl
theorem gx_zast (hC : gw_C N w own cc nL x) (hw : N ≤ w) {o len : Nat} {f : Int → Int32} {z v : Int32} (hd : decode cc pc = .ok (.bastore, 1)) (ho : o < N) (hc : cf o = gc_I 1 len f) (hz : 0 ≤ z.toInt ∧ z.toInt < (len : Int)) {cf2 : Nat → gc_T} (hu : gc_up cf o (gc_I 1 len (gz_u f z.toInt (vp_nar .boolean v))) cf2)
    (kk : gw_G N nL R x k n cf2 (pc + 1) lv st) : gw_G N nL R x k n cf pc lv (gv_I v :: gv_I z :: gv_R o :: st) := by
  obtain ⟨p, l, e, s, m, args, below, meth, c, Q, D, A, ad, ck⟩ := x
  obtain ⟨hx, hb, hml, hown, hts, hnw, hK, hA, hij, hAd, hlk⟩ := hC
  intro H locs ls hP hS hl
  refine va_zast hx hb hK hP (gw_D hij (fun i hi => hAd i (Nat.lt_of_lt_of_le hi hw))) hS o 1 (gw_atE ho hc) rfl (gv_vin hz) hd (fun H1 locs1 hP1 hD1 hS1 => ?_)
  rw [gz_ue f hz.1] at hP1
  have e := gw_set (ad := ad) (ck := ck) ho hu
  exact kk H1 locs1 ls (by rw [← e]; exact hP1) hS1 hl
theorem gx_last (hC : gw_C N w own cc nL x) (hw : N ≤ w) {o len : Nat} {f : Int → Int64} {z : Int32} {v : Int64} (hd : decode cc pc = .ok (.lastore, 1)) (ho : o < N) (hc : cf o = gc_L len f) (hz : 0 ≤ z.toInt ∧ z.toInt < (len : Int)) {cf2 : Nat → gc_T} (hu : gc_up cf o (gc_L len (gz_ul f z.toInt v)) cf2)
    (kk : gw_G N nL R x k n cf2 (pc + 1) lv st) : gw_G N nL R x k n cf pc lv (gv_L v :: gv_I z :: gv_R o :: st) := by
  obtain ⟨p, l, e, s, m, args, below, meth, c, Q, D, A, ad, ck⟩ := x
  obtain ⟨hx, hb, hml, hown, hts, hnw, hK, hA, hij, hAd, hlk⟩ := hC
  intro H locs ls hP hS hl
  refine va_last hx hb hK hP (gw_D hij (fun i hi => hAd i (Nat.lt_of_lt_of_le hi hw))) hS o 2 (gw_atE ho hc) rfl (gv_vin hz) hd (fun H1 locs1 hP1 hD1 hS1 => ?_)
  rw [gz_ule f hz.1] at hP1
  have e := gw_set (ad := ad) (ck := ck) ho hu
  exact kk H1 locs1 ls (by rw [← e]; exact hP1) hS1 hl
theorem gx_alen (hC : gw_C N w own cc nL x) {o len kd : Nat} {f : Int → Int32} (hd : decode cc pc = .ok (.arraylength, 1)) (ho : o < N) (hc : cf o = gc_I kd len f) (hkd : kd = 0 ∨ kd = 1)
    (kk : gw_G N nL R x k n cf (pc + 1) lv (gv_I (Int32.ofNat len) :: st)) : gw_G N nL R x k n cf pc lv (gv_R o :: st) := by
  obtain ⟨p, l, e, s, m, args, below, meth, c, Q, D, A, ad, ck⟩ := x
  obtain ⟨hx, hb, hml, hown, hts, hnw, hK, hA, hij, hAd, hlk⟩ := hC
  intro H locs ls hP hS hl
  rcases hkd with rfl | rfl
  · exact va_alen hx hb hK hP o 0 (gw_atE ho hc) rfl rfl hd (kk H locs ls hP hS hl)
  · exact va_alen hx hb hK hP o 1 (gw_atE ho hc) rfl rfl hd (kk H locs ls hP hS hl)
theorem gx_alenl (hC : gw_C N w own cc nL x) {o len : Nat} {f : Int → Int64} (hd : decode cc pc = .ok (.arraylength, 1)) (ho : o < N) (hc : cf o = gc_L len f)
    (kk : gw_G N nL R x k n cf (pc + 1) lv (gv_I (Int32.ofNat len) :: st)) : gw_G N nL R x k n cf pc lv (gv_R o :: st) := by
  obtain ⟨p, l, e, s, m, args, below, meth, c, Q, D, A, ad, ck⟩ := x
  obtain ⟨hx, hb, hml, hown, hts, hnw, hK, hA, hij, hAd, hlk⟩ := hC
  intro H locs ls hP hS hl
  exact va_alen hx hb hK hP o 2 (gw_atE ho hc) rfl rfl hd (kk H locs ls hP hS hl)
/-! FIELDS: a field of class number ci, slot j, by the entry i of own's pool -/
def gw_F (own : String) (i ci j : Nat) : Prop := ∃ (C : String) (T : u_T) (M : Nat), vwCl[ci]? = some (C, T, M) ∧ j < M ∧ (∀ w ∈ u_ws C T M, w ∈ gw_T) ∧ (Cond.fieldLink own i (T j).1 (T j).2.1 (T j).2.2.1 ∈ gw_T ∨ ∃ host, Cond.fieldLinkNest own i (T j).1 (T j).2.1 (T j).2.2.1 host ∈ gw_Nl)
theorem gx_get (hC : gw_C N w own cc nL x) {i ci j o : Nat} {fs : List gv_V} {v : gv_V} (hd : decode cc pc = .ok (.getfield i, 3)) (hF : gw_F own i ci j) (ho : o < N) (hc : cf o = gc_O ci fs) (hv : fs[j]? = some v)
    (kk : gw_G N nL R x k n cf (pc + 3) lv (v :: st)) : gw_G N nL R x k n cf pc lv (gv_R o :: st) := by
  obtain ⟨p, l, e, s, m, args, below, meth, c, Q, D, A, ad, ck⟩ := x
  obtain ⟨hx, hb, hml, hown, hts, hnw, hK, hA, hij, hAd, hlk⟩ := hC
  intro H locs ls hP hS hl
  obtain ⟨C, T, M, h1, h2, h3, h4⟩ := hF
  have hv2 : (fs.map (gv_v ad))[j]? = some (gv_v ad v) := by rw [List.getElem?_map, hv]; rfl
  rcases h4 with h4 | ⟨host, h4⟩
  · exact va_get hx hb hts h3 hown hK hP o (gw_atE ho hc) h1 j h2 (hts _ h4) (fun _ z => z) hv2 hd (kk H locs ls hP hS hl)
  · exact va_getN hx hb hts h3 hown hK hP o (gw_atE ho hc) h1 j h2 (va_Nw.use rfl (hnw _ h4)) (fun _ z => z) hv2 hd (kk H locs ls hP hS hl)
def gw_P (ci j : Nat) (ty : FieldType) : Prop := ∃ (C : String) (T : u_T) (M : Nat) (ty0 : Nat → FieldType), vwCl[ci]? = some (C, T, M) ∧ (∀ k, k < M → parseFieldDescriptor (T k).2.2.1 = some (ty0 k)) ∧ (∀ a, a < M → ∀ b, b < M → a ≠ b → (T a).2.1 ≠ (T b).2.1) ∧ (T j).2.2.2 = false ∧ parseFieldDescriptor (T j).2.2.1 = some ty
theorem gx_put (hC : gw_C N w own cc nL x) (hw : N ≤ w) {i ci j o : Nat} {fs : List gv_V} {v : gv_V} {ty : FieldType} (hd : decode cc pc = .ok (.putfield i, 3)) (hF : gw_F own i ci j) (hW : gw_P ci j ty) (ho : o < N) (hc : cf o = gc_O ci fs) (hj : j < fs.length) (hn : ∀ ad, narrow ty (gv_v ad v) = gv_v ad v) (hf : ∀ ad, fits ty (gv_v ad v) = true) {cf2 : Nat → gc_T} (hu : gc_up cf o (gc_O ci (fs.set j v)) cf2)
    (kk : gw_G N nL R x k n cf2 (pc + 3) lv st) : gw_G N nL R x k n cf pc lv (v :: gv_R o :: st) := by
  obtain ⟨p, l, e, s, m, args, below, meth, c, Q, D, A, ad, ck⟩ := x
  obtain ⟨hx, hb, hml, hown, hts, hnw, hK, hA, hij, hAd, hlk⟩ := hC
  intro H locs ls hP hS hl
  obtain ⟨C, T, M, h1, h2, h3, h4⟩ := hF
  obtain ⟨C2, T2, M2, ty0, g1, g2, g3, g4, g5⟩ := hW
  cases h1.symm.trans g1
  have e := gw_set (ad := ad) (ck := ck) ho hu
  have e2 : (fs.map (gv_v ad)).set j (gv_v ad v) = (fs.set j v).map (gv_v ad) := (List.map_set ..).symm
  rcases h4 with h4 | ⟨host, h4⟩
  · refine va_put hx hb hts h3 ty0 g2 g3 hown hK hP (gw_D hij (fun i hi => hAd i (Nat.lt_of_lt_of_le hi hw))) hS o (gw_atE ho hc) h1 j h2 (hts _ h4) (fun _ z => z) g4 g5 (hn ad) (hf ad) (by simpa using hj) hd (fun H1 locs1 hP1 hD1 hS1 => ?_)
    rw [e2] at hP1
    exact kk H1 locs1 ls (by rw [← e]; exact hP1) hS1 hl
  · refine va_putN hx hb hts h3 ty0 g2 g3 hown hK hP (gw_D hij (fun i hi => hAd i (Nat.lt_of_lt_of_le hi hw))) hS o (gw_atE ho hc) h1 j h2 (va_Nw.use rfl (hnw _ h4)) (fun _ z => z) g4 g5 (hn ad) (hf ad) (by simpa using hj) hd (fun H1 locs1 hP1 hD1 hS1 => ?_)
    rw [e2] at hP1
    exact kk H1 locs1 ls (by rw [← e]; exact hP1) hS1 hl
end GX
end
section
/-! WORDS THAT ARE GOOD EVERYWHERE -/
theorem gw_good {y : MethodName} {b : ByteArray} {mL : Nat} {ret : Option FieldType} (h : Cond.code y b mL ret ∈ gw_T) : GoodIn gw_T (Cond.code y b mL ret :: gw_T) := by
  intro w hw
  rcases List.mem_cons.mp hw with rfl | hw
  · exact ⟨h, Or.inl rfl⟩
  · exact ⟨hw, good_of_word (List.mem_filter.mp hw).2⟩
theorem gw_Nl_on : ∀ w ∈ gw_Nl, w.onTables = true := by
  intro w hw
  have h := (List.mem_filter.mp hw).2
  cases w <;> first | rfl | (simp [gw_isN] at h; done)
theorem gw_warm {s U : State} (hW : s.WarmedH U.vm) (h : ∀ w ∈ gw_Nl, va_Nw w s) : ∀ w ∈ gw_Nl, va_Nw w U := by
  intro w hw
  have h1 := (List.mem_filter.mp hw).2
  have h2 := h w hw
  cases w <;> first | exact va_Nw.warmF hW h2 | exact va_Nw.warmM hW h2 | (simp [gw_isN] at h1; done)
/-! CONTRACTS: 'as' are the arguments, cf the cells ahead, post what is answered and the cells behind -/
def gm_H (N : Nat) (D : va_G) (ad : Nat → Nat) (ck : Nat → ClassId) (cf : Nat → gc_T) (U : State) : Prop := va_P D vwCl (gw_L N ad ck cf) U.heap ∧ va_K D vwCl (gv_tys ck) U ∧ (∀ w ∈ gw_Nl, va_Nw w U) ∧ (∀ i j, i < N → j < N → ad i = ad j → i = j) ∧ gm_E ck ad U
def gm_A (N : Nat) (ad : Nat → Nat) (sz : Nat) : Nat → Prop := fun q => (∃ i, i < N ∧ q = ad i) ∨ sz ≤ q
def gm_P (N : Nat) (D : va_G) (ad : Nat → Nat) (ck : Nat → ClassId) (as : List gv_V) (cf : Nat → gc_T) (sz : Nat) : Array Value → State → Prop := va_Pc (as.map (gv_v ad)) (fun U => U.heap.size = sz ∧ gm_H N D ad ck cf U)
theorem gm_blind {N : Nat} {D : va_G} {ad : Nat → Nat} {ck : Nat → ClassId} {as : List gv_V} {cf : Nat → gc_T} {sz : Nat} : FrameBlind (gm_P N D ad ck as cf sz) := by
  intro a U g mk q
  obtain ⟨q0, q1, qP, qK, qn, qi, q2, q3, q4⟩ := q
  exact ⟨q0, q1, qP, va_K.moved (u := U) (U := U.calling g mk a) (Vm.Alike.refl U.vm) qK, fun w hw => va_Nw.same (u := U) (U := U.calling g mk a) (gw_Nl_on w hw) rfl (qn w hw), qi, q2, q3, q4.go (u := U) (U := U.calling g mk a) (State.WarmedH.refl U) (fun _ _ _ => rfl)⟩
theorem gm_free {N w : Nat} {ad : Nat → Nat} {A : Nat → Prop} {H0 H : Heap} {locs : List Loc} (hAd : ∀ i, i < w → A (ad i)) (hw : N ≤ w) (hA : ∀ q, H0.size ≤ q → A q) (hS : va_S A H0 H locs) : ∀ q, gm_A N ad H.size q → A q := by
  intro q h
  rcases h with ⟨i, hi, rfl⟩ | h
  · exact hAd i (Nat.lt_of_lt_of_le hi hw)
  · exact hA q (Nat.le_trans hS.1 h)
theorem gm_Age {ck : Nat → ClassId} {ad : Nat → Nat} {w sz : Nat} {s : State} (hw : w ≤ 81) (hE : gm_E ck ad s) (hsz : s.heap.size = sz) : ∀ q, gm_A w ad sz q → ck 10 ≤ q := by
  intro q h
  rcases h with ⟨i, hi, rfl⟩ | h
  · exact hE.1.1 i (Nat.lt_of_lt_of_le hi hw)
  · exact Nat.le_trans (by rw [← hsz]; exact hE.2.1) h
theorem gv_w_sum (ad : Nat → Nat) : ∀ vs : List gv_V, ((vs.map (gv_v ad)).map fun v => v.category).sum = gv_w vs
  | [] => rfl
  | v :: r => by
    have h := gv_w_sum ad r
    simp only [List.map_cons, List.sum_cons, gv_w, gv_cat]
    omega
def gw_V (own : String) (i : Nat) (y : MethodName) (b : ByteArray) (mL : Nat) (ret : Option FieldType) (na : Nat) : Prop := (Cond.methodLink own i y ∈ gw_T ∨ ∃ host, Cond.methodLinkNest own i y host ∈ gw_Nl) ∧ Cond.instanceMethod y ∈ gw_T ∧ Cond.selects y.cls y y ∈ gw_T ∧ Cond.initialized y.cls ∈ gw_T ∧ Cond.code y b mL ret ∈ gw_T ∧ (y.cls ≠ "java/lang/invoke/MethodHandle" ∧ y.cls ≠ "java/lang/invoke/VarHandle") ∧ (parseMethodDescriptor y.desc).map (fun d => d.parameters.length) = some na
def gw_S (own : String) (i : Nat) (y : MethodName) (b : ByteArray) (mL : Nat) (ret : Option FieldType) (na : Nat) : Prop := (Cond.methodLink own i y ∈ gw_T ∨ ∃ host, Cond.methodLinkNest own i y host ∈ gw_Nl) ∧ Cond.static y ∈ gw_T ∧ Cond.initialized y.cls ∈ gw_T ∧ Cond.code y b mL ret ∈ gw_T ∧ (y.cls ≠ "java/lang/invoke/MethodHandle" ∧ y.cls ≠ "java/lang/invoke/VarHandle") ∧ (parseMethodDescriptor y.desc).map (fun d => d.parameters.length) = some na
section GRUN
variable {p : Program} {l : Launch} {e : Env} {R : Room} {s : State} {m : MethodId} {args : Array Value} {below : List Frame} {meth : Method} {c : Code} {H : Heap} {locs : List Loc} {k n : Nat} {cc : ByteArray} {nL : Nat} {own : String} {y : MethodName} {b : ByteArray} {mL : Nat} {ret : Option FieldType} {rm : Room} {Pc : Array Value → State → Prop} {Qc : Array Value → State → Outcome → State → Prop} {free : Addr → Prop} {i na o : Nat} {As rest : List Value} {g : JFrame}
theorem gw_runV (S : CallFix p m c cc nL s args gw_T own) (hnw : ∀ w ∈ gw_Nl, va_Nw w s) (hM : Met l y (Cond.code y b mL ret :: gw_T) rm Pc Qc rm.cells rm.slots free) (hV : gw_V own i y b mL ret na) (hR : rm.frames + 1 ≤ R.frames ∧ 8 + (mL + 11) + rm.locals ≤ R.locals) (hp : PreV s H y.cls o Pc As)
    (hg : g.method = m) (hn : As.length = na) (hsize : g.locals.size = nL) (hstack : g.stack = As.reverse ++ .ref o :: rest) (hW : 2 * g.monitorRoom + (rest.map fun v => v.category).sum ≤ 8) (hdg : decode cc g.pc = .ok (.invokevirtual i, 3)) (hf : k + rm.cells ≤ R.cells ∧ n + rm.slots ≤ R.slots) :
    va_Run p l e R s m args below meth c H locs k n rm.cells rm.slots g rest (Qc (Value.ref o :: As).toArray) free := by
  obtain ⟨hl, hi, hs, hin, hc, hne, hpar⟩ := hV
  have hts := S.2.2.2.2
  rcases hl with hl | ⟨host, hl⟩
  · exact va_runV S hM ⟨callB_of na hts (gw_good hc) rfl rfl rfl (hts _ hin) (hts _ hl) ⟨hne.1, hne.2, hpar⟩ hR, hts _ hi, hts _ hs⟩ hp hg hn hsize hstack hW hdg hf
  · exact va_runVN S hM ⟨va_cnB na hts (gw_good hc) rfl rfl rfl (hnw _ hl) (hts _ hin) ⟨hne.1, hne.2, hpar⟩ hR, hts _ hi, hts _ hs⟩ hp hg hn hsize hstack hW hdg hf
theorem gw_runS (S : CallFix p m c cc nL s args gw_T own) (hnw : ∀ w ∈ gw_Nl, va_Nw w s) (hM : Met l y (Cond.code y b mL ret :: gw_T) rm Pc Qc rm.cells rm.slots free) (hV : gw_S own i y b mL ret na) (hR : rm.frames + 1 ≤ R.frames ∧ 8 + (mL + 11) + rm.locals ≤ R.locals) (hp : PreS s H Pc As)
    (hg : g.method = m) (hn : As.length = na) (hsize : g.locals.size = nL) (hstack : g.stack = As.reverse ++ rest) (hW : 2 * g.monitorRoom + (rest.map fun v => v.category).sum ≤ 8) (hdg : decode cc g.pc = .ok (.invokestatic i, 3)) (hf : k + rm.cells ≤ R.cells ∧ n + rm.slots ≤ R.slots) :
    va_Run p l e R s m args below meth c H locs k n rm.cells rm.slots g rest (Qc As.toArray) free := by
  obtain ⟨hl, hi, hin, hc, hne, hpar⟩ := hV
  have hts := S.2.2.2.2
  rcases hl with hl | ⟨host, hl⟩
  · exact va_runS S hM ⟨callB_of na hts (gw_good hc) rfl rfl rfl (hts _ hin) (hts _ hl) ⟨hne.1, hne.2, hpar⟩ hR, hts _ hi⟩ hp hg hn hsize hstack hW hdg hf
  · exact va_runSN S hM ⟨va_cnB na hts (gw_good hc) rfl rfl rfl (hnw _ hl) (hts _ hin) ⟨hne.1, hne.2, hpar⟩ hR, hts _ hi, trivial⟩ hp hg hn hsize hstack hW hdg hf
end GRUN
def gm_I (N w : Nat) (l : Launch) (D : va_G) (ad : Nat → Nat) (ck : Nat → ClassId) (y : MethodName) (b : ByteArray) (nL : Nat) (rt : FieldType) (rm : Room) (as : List gv_V) (cf : Nat → gc_T) (post : Int32 → (Nat → gc_T) → Prop) : Prop :=
  ∀ sz, Met l y (Cond.code y b nL (some rt) :: gw_T) rm (gm_P N D ad ck as cf sz) (va_Qi (fun (r : Int32) (c2 : Nat → gc_T) => post r c2) (fun c2 t => va_P D vwCl (gw_L N ad ck c2) t.heap) (gm_A w ad sz)) rm.cells rm.slots (gm_A w ad sz)
def gr_I (N : Nat) (b : ByteArray) (nL : Nat) (rt : FieldType) (rm : Room) (x : gx_X) (post : Int32 → (Nat → gc_T) → Prop) : Prop := ∀ {z : Int32} {c2 : Nat → gc_T} {k n pc : Nat} {lv : List (Nat × gv_V)}, k ≤ rm.cells → n ≤ rm.slots → decode b pc = .ok (.ireturn, 1) → narrow rt (.int z) = .int z → post z c2 → gw_G N nL rm x k n c2 pc lv [gv_I z]
theorem gm_I.of {N w : Nat} {l : Launch} {D : va_G} {ad : Nat → Nat} {ck : Nat → ClassId} {y : MethodName} {b : ByteArray} {nL : Nat} {rt : FieldType} {rm : Room} {as : List gv_V} {cf : Nat → gc_T} {post : Int32 → (Nat → gc_T) → Prop} (hy : plainName y.cls = true) (hw : gv_w as ≤ nL)
    (h : ∀ x : gx_X, gw_C N w y.cls b nL x → gr_I N b nL rt rm x post → gw_G N nL rm x 0 0 cf 0 (gv_args 0 as) []) (hw81 : w ≤ 81 := by decide) : gm_I N w l D ad ck y b nL rt rm as cf post := by
  intro sz
  refine Met.ofW (cc := b) (maxL := nL) (ret := (some rt)) hy rfl ?_
  intro p e s m args below meth c s₁ B hml hv
  obtain ⟨rfl, hsz, hP, hK, hnw, hij, hE⟩ := hv
  have hts := atoms_spec (ws := Cond.code y b nL (some rt) :: gw_T) B.pre
  have hown : s.vm.findClass y.cls = some m.cls := findClass_of_methodNamed B.named
  have hl := lv_entry (as.map (gv_v ad)) (n := nL) (by rw [gv_w_len]; exact hw)
  rw [lg_entry_eq]
  rw [gv_args_eq] at hl
  refine h (p, l, e, s, m, (as.map (gv_v ad)).toArray, below, meth, c, _, D, gm_A w ad sz, ad, ck) ⟨B.exec, B.bytes, hml, hown, fun w hw => hts w (List.mem_cons_of_mem _ hw), hnw, hK, fun q hq => Or.inr (by rw [← hsz]; exact hq), hij, fun i hi => Or.inl ⟨i, hi, rfl⟩, B.notSynchronized, gm_Age hw81 hE hsz, hE⟩ ?_ s.heap [] _ hP va_S.rf hl
  intro z c2 k n pc lv hk hn hd hnar hpost
  intro H1 locs1 ls1 hP1 hS1 hl1
  refine W.widen (k := rm.cells) (n := rm.slots) hk hn ?_
  exact W.zret B.exec B.bytes B.returns hnar (fun t ht hW => ⟨⟨z, c2, rfl, hpost, by show va_P D vwCl (gw_L N ad ck c2) t.heap; rw [ht]; exact hP1⟩, hS1.F ht⟩) hS1.2.2 hd B.notSynchronized
def gm_J (N w : Nat) (l : Launch) (D : va_G) (ad : Nat → Nat) (ck : Nat → ClassId) (y : MethodName) (b : ByteArray) (nL : Nat) (rm : Room) (as : List gv_V) (cf : Nat → gc_T) (post : Int64 → (Nat → gc_T) → Prop) : Prop :=
  ∀ sz, Met l y (Cond.code y b nL (some .long) :: gw_T) rm (gm_P N D ad ck as cf sz) (va_Ql (fun (r : Int64) (c2 : Nat → gc_T) => post r c2) (fun c2 t => va_P D vwCl (gw_L N ad ck c2) t.heap) (gm_A w ad sz)) rm.cells rm.slots (gm_A w ad sz)
def gr_J (N : Nat) (b : ByteArray) (nL : Nat) (rm : Room) (x : gx_X) (post : Int64 → (Nat → gc_T) → Prop) : Prop := ∀ {z : Int64} {c2 : Nat → gc_T} {k n pc : Nat} {lv : List (Nat × gv_V)}, k ≤ rm.cells → n ≤ rm.slots → decode b pc = .ok (.lreturn, 1) → post z c2 → gw_G N nL rm x k n c2 pc lv [gv_L z]
theorem gm_J.of {N w : Nat} {l : Launch} {D : va_G} {ad : Nat → Nat} {ck : Nat → ClassId} {y : MethodName} {b : ByteArray} {nL : Nat} {rm : Room} {as : List gv_V} {cf : Nat → gc_T} {post : Int64 → (Nat → gc_T) → Prop} (hy : plainName y.cls = true) (hw : gv_w as ≤ nL)
    (h : ∀ x : gx_X, gw_C N w y.cls b nL x → gr_J N b nL rm x post → gw_G N nL rm x 0 0 cf 0 (gv_args 0 as) []) (hw81 : w ≤ 81 := by decide) : gm_J N w l D ad ck y b nL rm as cf post := by
  intro sz
  refine Met.ofW (cc := b) (maxL := nL) (ret := (some .long)) hy rfl ?_
  intro p e s m args below meth c s₁ B hml hv
  obtain ⟨rfl, hsz, hP, hK, hnw, hij, hE⟩ := hv
  have hts := atoms_spec (ws := Cond.code y b nL (some .long) :: gw_T) B.pre
  have hown : s.vm.findClass y.cls = some m.cls := findClass_of_methodNamed B.named
  have hl := lv_entry (as.map (gv_v ad)) (n := nL) (by rw [gv_w_len]; exact hw)
  rw [lg_entry_eq]
  rw [gv_args_eq] at hl
  refine h (p, l, e, s, m, (as.map (gv_v ad)).toArray, below, meth, c, _, D, gm_A w ad sz, ad, ck) ⟨B.exec, B.bytes, hml, hown, fun w hw => hts w (List.mem_cons_of_mem _ hw), hnw, hK, fun q hq => Or.inr (by rw [← hsz]; exact hq), hij, fun i hi => Or.inl ⟨i, hi, rfl⟩, B.notSynchronized, gm_Age hw81 hE hsz, hE⟩ ?_ s.heap [] _ hP va_S.rf hl
  intro z c2 k n pc lv hk hn hd hpost
  intro H1 locs1 ls1 hP1 hS1 hl1
  refine W.widen (k := rm.cells) (n := rm.slots) hk hn ?_
  exact W.lret B.exec B.bytes B.returns (fun t ht hW => ⟨⟨z, c2, rfl, hpost, by show va_P D vwCl (gw_L N ad ck c2) t.heap; rw [ht]; exact hP1⟩, hS1.F ht⟩) hS1.2.2 hd B.notSynchronized
def gm_V (N w : Nat) (l : Launch) (D : va_G) (ad : Nat → Nat) (ck : Nat → ClassId) (y : MethodName) (b : ByteArray) (nL : Nat) (rm : Room) (as : List gv_V) (cf : Nat → gc_T) (post : (Nat → gc_T) → Prop) : Prop :=
  ∀ sz, Met l y (Cond.code y b nL none :: gw_T) rm (gm_P N D ad ck as cf sz) (va_Qv (fun (c2 : Nat → gc_T) => post c2) (fun c2 t => va_P D vwCl (gw_L N ad ck c2) t.heap) (gm_A w ad sz)) rm.cells rm.slots (gm_A w ad sz)
def gr_V (N : Nat) (b : ByteArray) (nL : Nat) (rm : Room) (x : gx_X) (post : (Nat → gc_T) → Prop) : Prop := ∀ {c2 : Nat → gc_T} {k n pc : Nat} {lv : List (Nat × gv_V)}, k ≤ rm.cells → n ≤ rm.slots → decode b pc = .ok (.return_, 1) → post c2 → gw_G N nL rm x k n c2 pc lv []
theorem gm_V.of {N w : Nat} {l : Launch} {D : va_G} {ad : Nat → Nat} {ck : Nat → ClassId} {y : MethodName} {b : ByteArray} {nL : Nat} {rm : Room} {as : List gv_V} {cf : Nat → gc_T} {post : (Nat → gc_T) → Prop} (hy : plainName y.cls = true) (hw : gv_w as ≤ nL)
    (h : ∀ x : gx_X, gw_C N w y.cls b nL x → gr_V N b nL rm x post → gw_G N nL rm x 0 0 cf 0 (gv_args 0 as) []) (hw81 : w ≤ 81 := by decide) : gm_V N w l D ad ck y b nL rm as cf post := by
  intro sz
  refine Met.ofW (cc := b) (maxL := nL) (ret := none) hy rfl ?_
  intro p e s m args below meth c s₁ B hml hv
  obtain ⟨rfl, hsz, hP, hK, hnw, hij, hE⟩ := hv
  have hts := atoms_spec (ws := Cond.code y b nL none :: gw_T) B.pre
  have hown : s.vm.findClass y.cls = some m.cls := findClass_of_methodNamed B.named
  have hl := lv_entry (as.map (gv_v ad)) (n := nL) (by rw [gv_w_len]; exact hw)
  rw [lg_entry_eq]
  rw [gv_args_eq] at hl
  refine h (p, l, e, s, m, (as.map (gv_v ad)).toArray, below, meth, c, _, D, gm_A w ad sz, ad, ck) ⟨B.exec, B.bytes, hml, hown, fun w hw => hts w (List.mem_cons_of_mem _ hw), hnw, hK, fun q hq => Or.inr (by rw [← hsz]; exact hq), hij, fun i hi => Or.inl ⟨i, hi, rfl⟩, B.notSynchronized, gm_Age hw81 hE hsz, hE⟩ ?_ s.heap [] _ hP va_S.rf hl
  intro c2 k n pc lv hk hn hd hpost
  intro H1 locs1 ls1 hP1 hS1 hl1
  refine W.widen (k := rm.cells) (n := rm.slots) hk hn ?_
  exact W.vret B.exec B.bytes B.returns (fun t ht hW => ⟨⟨c2, rfl, hpost, by show va_P D vwCl (gw_L N ad ck c2) t.heap; rw [ht]; exact hP1⟩, hS1.F ht⟩) hS1.2.2 hd B.notSynchronized
section GCALL
variable {N w w2 nL : Nat} {own : String} {cc : ByteArray} {R : Room} {x : gx_X} {k n : Nat} {cf : Nat → gc_T} {pc : Nat} {lv : List (Nat × gv_V)} {st stk : List gv_V} {y : MethodName} {b : ByteArray} {mL : Nat} {rt : FieldType} {rm : Room} {as : List gv_V}
theorem gx_vI (hC : gw_C N w own cc nL x) {i na o ci : Nat} {fs : List gv_V} {post : Int32 → (Nat → gc_T) → Prop} (hd : decode cc pc = .ok (.invokevirtual i, 3)) (hV : gw_V own i y b mL (some rt) na) (hM : gm_I N w2 (gx_l x) (gx_D x) (gx_ad x) (gx_ck x) y b mL rt rm (gv_R o :: as) cf post) (hn : as.length = na) (hw2 : w2 ≤ w) (hR : rm.frames + 1 ≤ R.frames ∧ 8 + (mL + 11) + rm.locals ≤ R.locals) (hf : k + rm.cells ≤ R.cells ∧ n + rm.slots ≤ R.slots) (ho : o < N) (hci : ∃ (T : u_T) (M : Nat), vwCl[ci]? = some (y.cls, T, M)) (hc : cf o = gc_O ci fs) (hst : stk = as.reverse ++ gv_R o :: st) (hcat : gv_w st ≤ 8)
    (kk : ∀ (z : Int32) (c2 : Nat → gc_T), post z c2 → gw_G N nL R x (k + rm.cells) (n + rm.slots) c2 (pc + 3) lv (gv_I z :: st)) : gw_G N nL R x k n cf pc lv stk := by
  obtain ⟨p, l, e, s, m, args, below, meth, c, Q, D, A, ad, ck⟩ := x
  obtain ⟨hx, hb, hml, hown, hts, hnw, hK, hA, hij, hAd, hlk⟩ := hC
  subst hst
  intro H locs ls hP hS hl
  obtain ⟨T, M, hci⟩ := hci
  have hFc := gm_free (N := w2) hAd hw2 hA hS
  refine va_calli (gw_runV (As := as.map (gv_v ad)) (rest := st.map (gv_v ad)) (o := ad o) ⟨hx, hb, hml, hown, hts⟩ hnw (hM H.size) hV hR ⟨gm_blind, va_recv hK hP hci (gw_atE ho hc), fun U hU hW => ⟨rfl, by rw [hU], by rw [hU]; exact hP, va_K.moved hW.alike hK, gw_warm hW hnw, hij, hlk.2.2.go hU hW hlk.2.1 hS⟩⟩ rfl (by simpa using hn) hl.1 (by simp [gv_v]) (lv_room (by rw [gv_w_sum]; exact hcat)) hd hf) hS (fun q _ h => hFc q h) hFc (fun r u t H1 locs1 ht hvm hq hB hz1 hk1 hS1 => kk r u hq H1 locs1 ls (by rw [← ht]; exact hB) hS1 hl)
theorem gx_sI (hC : gw_C N w own cc nL x) {i na : Nat} {post : Int32 → (Nat → gc_T) → Prop} (hd : decode cc pc = .ok (.invokestatic i, 3)) (hV : gw_S own i y b mL (some rt) na) (hM : gm_I N w2 (gx_l x) (gx_D x) (gx_ad x) (gx_ck x) y b mL rt rm as cf post) (hn : as.length = na) (hw2 : w2 ≤ w) (hR : rm.frames + 1 ≤ R.frames ∧ 8 + (mL + 11) + rm.locals ≤ R.locals) (hf : k + rm.cells ≤ R.cells ∧ n + rm.slots ≤ R.slots) (hst : stk = as.reverse ++ st) (hcat : gv_w st ≤ 8)
    (kk : ∀ (z : Int32) (c2 : Nat → gc_T), post z c2 → gw_G N nL R x (k + rm.cells) (n + rm.slots) c2 (pc + 3) lv (gv_I z :: st)) : gw_G N nL R x k n cf pc lv stk := by
  obtain ⟨p, l, e, s, m, args, below, meth, c, Q, D, A, ad, ck⟩ := x
  obtain ⟨hx, hb, hml, hown, hts, hnw, hK, hA, hij, hAd, hlk⟩ := hC
  subst hst
  intro H locs ls hP hS hl
  have hFc := gm_free (N := w2) hAd hw2 hA hS
  refine va_calli (gw_runS (As := as.map (gv_v ad)) (rest := st.map (gv_v ad)) ⟨hx, hb, hml, hown, hts⟩ hnw (hM H.size) hV hR ⟨gm_blind, fun U hU hW => ⟨rfl, by rw [hU], by rw [hU]; exact hP, va_K.moved hW.alike hK, gw_warm hW hnw, hij, hlk.2.2.go hU hW hlk.2.1 hS⟩⟩ rfl (by simpa using hn) hl.1 (by simp) (lv_room (by rw [gv_w_sum]; exact hcat)) hd hf) hS (fun q _ h => hFc q h) hFc (fun r u t H1 locs1 ht hvm hq hB hz1 hk1 hS1 => kk r u hq H1 locs1 ls (by rw [← ht]; exact hB) hS1 hl)
theorem gx_vJ (hC : gw_C N w own cc nL x) {i na o ci : Nat} {fs : List gv_V} {post : Int64 → (Nat → gc_T) → Prop} (hd : decode cc pc = .ok (.invokevirtual i, 3)) (hV : gw_V own i y b mL (some .long) na) (hM : gm_J N w2 (gx_l x) (gx_D x) (gx_ad x) (gx_ck x) y b mL rm (gv_R o :: as) cf post) (hn : as.length = na) (hw2 : w2 ≤ w) (hR : rm.frames + 1 ≤ R.frames ∧ 8 + (mL + 11) + rm.locals ≤ R.locals) (hf : k + rm.cells ≤ R.cells ∧ n + rm.slots ≤ R.slots) (ho : o < N) (hci : ∃ (T : u_T) (M : Nat), vwCl[ci]? = some (y.cls, T, M)) (hc : cf o = gc_O ci fs) (hst : stk = as.reverse ++ gv_R o :: st) (hcat : gv_w st ≤ 8)
    (kk : ∀ (z : Int64) (c2 : Nat → gc_T), post z c2 → gw_G N nL R x (k + rm.cells) (n + rm.slots) c2 (pc + 3) lv (gv_L z :: st)) : gw_G N nL R x k n cf pc lv stk := by
  obtain ⟨p, l, e, s, m, args, below, meth, c, Q, D, A, ad, ck⟩ := x
  obtain ⟨hx, hb, hml, hown, hts, hnw, hK, hA, hij, hAd, hlk⟩ := hC
  subst hst
  intro H locs ls hP hS hl
  obtain ⟨T, M, hci⟩ := hci
  have hFc := gm_free (N := w2) hAd hw2 hA hS
  refine va_calll (gw_runV (As := as.map (gv_v ad)) (rest := st.map (gv_v ad)) (o := ad o) ⟨hx, hb, hml, hown, hts⟩ hnw (hM H.size) hV hR ⟨gm_blind, va_recv hK hP hci (gw_atE ho hc), fun U hU hW => ⟨rfl, by rw [hU], by rw [hU]; exact hP, va_K.moved hW.alike hK, gw_warm hW hnw, hij, hlk.2.2.go hU hW hlk.2.1 hS⟩⟩ rfl (by simpa using hn) hl.1 (by simp [gv_v]) (lv_room (by rw [gv_w_sum]; exact hcat)) hd hf) hS (fun q _ h => hFc q h) hFc (fun r u t H1 locs1 ht hvm hq hB hz1 hk1 hS1 => kk r u hq H1 locs1 ls (by rw [← ht]; exact hB) hS1 hl)
theorem gx_sJ (hC : gw_C N w own cc nL x) {i na : Nat} {post : Int64 → (Nat → gc_T) → Prop} (hd : decode cc pc = .ok (.invokestatic i, 3)) (hV : gw_S own i y b mL (some .long) na) (hM : gm_J N w2 (gx_l x) (gx_D x) (gx_ad x) (gx_ck x) y b mL rm as cf post) (hn : as.length = na) (hw2 : w2 ≤ w) (hR : rm.frames + 1 ≤ R.frames ∧ 8 + (mL + 11) + rm.locals ≤ R.locals) (hf : k + rm.cells ≤ R.cells ∧ n + rm.slots ≤ R.slots) (hst : stk = as.reverse ++ st) (hcat : gv_w st ≤ 8)
    (kk : ∀ (z : Int64) (c2 : Nat → gc_T), post z c2 → gw_G N nL R x (k + rm.cells) (n + rm.slots) c2 (pc + 3) lv (gv_L z :: st)) : gw_G N nL R x k n cf pc lv stk := by
  obtain ⟨p, l, e, s, m, args, below, meth, c, Q, D, A, ad, ck⟩ := x
  obtain ⟨hx, hb, hml, hown, hts, hnw, hK, hA, hij, hAd, hlk⟩ := hC
  subst hst
  intro H locs ls hP hS hl
  have hFc := gm_free (N := w2) hAd hw2 hA hS
  refine va_calll (gw_runS (As := as.map (gv_v ad)) (rest := st.map (gv_v ad)) ⟨hx, hb, hml, hown, hts⟩ hnw (hM H.size) hV hR ⟨gm_blind, fun U hU hW => ⟨rfl, by rw [hU], by rw [hU]; exact hP, va_K.moved hW.alike hK, gw_warm hW hnw, hij, hlk.2.2.go hU hW hlk.2.1 hS⟩⟩ rfl (by simpa using hn) hl.1 (by simp) (lv_room (by rw [gv_w_sum]; exact hcat)) hd hf) hS (fun q _ h => hFc q h) hFc (fun r u t H1 locs1 ht hvm hq hB hz1 hk1 hS1 => kk r u hq H1 locs1 ls (by rw [← ht]; exact hB) hS1 hl)
theorem gx_vV (hC : gw_C N w own cc nL x) {i na o ci : Nat} {fs : List gv_V} {post : (Nat → gc_T) → Prop} (hd : decode cc pc = .ok (.invokevirtual i, 3)) (hV : gw_V own i y b mL none na) (hM : gm_V N w2 (gx_l x) (gx_D x) (gx_ad x) (gx_ck x) y b mL rm (gv_R o :: as) cf post) (hn : as.length = na) (hw2 : w2 ≤ w) (hR : rm.frames + 1 ≤ R.frames ∧ 8 + (mL + 11) + rm.locals ≤ R.locals) (hf : k + rm.cells ≤ R.cells ∧ n + rm.slots ≤ R.slots) (ho : o < N) (hci : ∃ (T : u_T) (M : Nat), vwCl[ci]? = some (y.cls, T, M)) (hc : cf o = gc_O ci fs) (hst : stk = as.reverse ++ gv_R o :: st) (hcat : gv_w st ≤ 8)
    (kk : ∀ (c2 : Nat → gc_T), post c2 → gw_G N nL R x (k + rm.cells) (n + rm.slots) c2 (pc + 3) lv st) : gw_G N nL R x k n cf pc lv stk := by
  obtain ⟨p, l, e, s, m, args, below, meth, c, Q, D, A, ad, ck⟩ := x
  obtain ⟨hx, hb, hml, hown, hts, hnw, hK, hA, hij, hAd, hlk⟩ := hC
  subst hst
  intro H locs ls hP hS hl
  obtain ⟨T, M, hci⟩ := hci
  have hFc := gm_free (N := w2) hAd hw2 hA hS
  refine va_callv (gw_runV (As := as.map (gv_v ad)) (rest := st.map (gv_v ad)) (o := ad o) ⟨hx, hb, hml, hown, hts⟩ hnw (hM H.size) hV hR ⟨gm_blind, va_recv hK hP hci (gw_atE ho hc), fun U hU hW => ⟨rfl, by rw [hU], by rw [hU]; exact hP, va_K.moved hW.alike hK, gw_warm hW hnw, hij, hlk.2.2.go hU hW hlk.2.1 hS⟩⟩ rfl (by simpa using hn) hl.1 (by simp [gv_v]) (lv_room (by rw [gv_w_sum]; exact hcat)) hd hf) hS (fun q _ h => hFc q h) hFc (fun u t H1 locs1 ht hvm hq hB hz1 hk1 hS1 => kk u hq H1 locs1 ls (by rw [← ht]; exact hB) hS1 hl)
theorem gx_sV (hC : gw_C N w own cc nL x) {i na : Nat} {post : (Nat → gc_T) → Prop} (hd : decode cc pc = .ok (.invokestatic i, 3)) (hV : gw_S own i y b mL none na) (hM : gm_V N w2 (gx_l x) (gx_D x) (gx_ad x) (gx_ck x) y b mL rm as cf post) (hn : as.length = na) (hw2 : w2 ≤ w) (hR : rm.frames + 1 ≤ R.frames ∧ 8 + (mL + 11) + rm.locals ≤ R.locals) (hf : k + rm.cells ≤ R.cells ∧ n + rm.slots ≤ R.slots) (hst : stk = as.reverse ++ st) (hcat : gv_w st ≤ 8)
    (kk : ∀ (c2 : Nat → gc_T), post c2 → gw_G N nL R x (k + rm.cells) (n + rm.slots) c2 (pc + 3) lv st) : gw_G N nL R x k n cf pc lv stk := by
  obtain ⟨p, l, e, s, m, args, below, meth, c, Q, D, A, ad, ck⟩ := x
  obtain ⟨hx, hb, hml, hown, hts, hnw, hK, hA, hij, hAd, hlk⟩ := hC
  subst hst
  intro H locs ls hP hS hl
  have hFc := gm_free (N := w2) hAd hw2 hA hS
  refine va_callv (gw_runS (As := as.map (gv_v ad)) (rest := st.map (gv_v ad)) ⟨hx, hb, hml, hown, hts⟩ hnw (hM H.size) hV hR ⟨gm_blind, fun U hU hW => ⟨rfl, by rw [hU], by rw [hU]; exact hP, va_K.moved hW.alike hK, gw_warm hW hnw, hij, hlk.2.2.go hU hW hlk.2.1 hS⟩⟩ rfl (by simpa using hn) hl.1 (by simp) (lv_room (by rw [gv_w_sum]; exact hcat)) hd hf) hS (fun q _ h => hFc q h) hFc (fun u t H1 locs1 ht hvm hq hB hz1 hk1 hS1 => kk u hq H1 locs1 ls (by rw [← ht]; exact hB) hS1 hl)
end GCALL
end
section
/-! TWO MEMORIES (the class's, the model's): arrays of ints, arrays of longs, int fields, long fields; and the law's array 'out' -/
abbrev gq_M : Type := (Nat → Int → Int32) × (Nat → Int → Int64) × (Nat → Int32) × (Nat → Int64)
def gq_up {α : Type} (f : Nat → α) (i : Nat) (x : α) : Nat → α := fun j => if j = i then x else f j
theorem gq_us {α : Type} (f : Nat → α) (i : Nat) (x : α) : gq_up f i x i = x := if_pos rfl
theorem gq_un {α : Type} (f : Nat → α) {i j : Nat} (x : α) (h : j ≠ i) : gq_up f i x j = f j := if_neg h
abbrev gq_i (m : gq_M) : Nat → Int → Int32 := m.1
abbrev gq_l (m : gq_M) : Nat → Int → Int64 := m.2.1
abbrev gq_f (m : gq_M) : Nat → Int32 := m.2.2.1
abbrev gq_j (m : gq_M) : Nat → Int64 := m.2.2.2
abbrev gs_i (m : gq_M) (a : Nat) (f : Int → Int32) : gq_M := (gq_up m.1 a f, m.2)
abbrev gs_l (m : gq_M) (a : Nat) (f : Int → Int64) : gq_M := (m.1, gq_up m.2.1 a f, m.2.2)
abbrev gs_f (m : gq_M) (i : Nat) (v : Int32) : gq_M := (m.1, m.2.1, gq_up m.2.2.1 i v, m.2.2.2)
abbrev gs_j (m : gq_M) (i : Nat) (v : Int64) : gq_M := (m.1, m.2.1, m.2.2.1, gq_up m.2.2.2 i v)
def ca_k (a : Nat) : Nat := ([0, 0, 0, 0, 0, 0, 1, 1, 1, 0, 0, 0, 0, 1, 0, 0, 0, 0, 0, 0, 0, 0, 0, 0, 0, 0, 0, 0, 0] : List Nat).getD a 0
def ca_n (a : Nat) : Nat := ([12, 80, 80, 80, 80, 80, 80, 80, 200, 200, 13, 13, 13, 13, 13, 11, 20, 20, 80, 80, 80, 80, 80, 80, 80, 80, 80, 80, 80] : List Nat).getD a 0
def ca_m (a : Nat) : Nat := ([80, 80, 200, 200, 13, 13, 13, 13, 13, 13, 13, 13, 13, 13, 13, 13, 13, 13, 13, 13] : List Nat).getD a 0
def ma_k (a : Nat) : Nat := ([0, 0, 0, 0, 1, 0, 1, 1, 0, 0, 0, 0, 0, 0, 0, 0] : List Nat).getD a 0
def ma_n (a : Nat) : Nat := ([80, 80, 80, 80, 80, 80, 80, 200, 200, 10, 800, 20, 20, 12, 12, 80] : List Nat).getD a 0
def ma_m (a : Nat) : Nat := ([80, 80, 200, 200, 144, 4096] : List Nat).getD a 0
def ca_O (m : gq_M) (k : Nat) : gc_T := if k = 0 then gc_O 0 [gv_R 1, gv_R 2, gv_R 3, gv_R 4, gv_R 5, gv_L (gq_j m 0)] else if k = 1 then gc_O 5 [gv_I (gq_f m 0), gv_I (gq_f m 1), gv_R 6, gv_R 7, gv_R 35, gv_R 36, gv_R 8, gv_R 9, gv_R 10, gv_R 11, gv_R 12, gv_R 13] else if k = 2 then gc_O 4 [gv_R 14, gv_R 37, gv_R 38, gv_R 15] else if k = 3 then gc_O 3 [gv_I (gq_f m 2), gv_R 16, gv_R 55, gv_R 39, gv_R 40, gv_R 17, gv_R 18, gv_R 41, gv_R 19, gv_R 20] else if k = 4 then gc_O 2 [gv_R 56, gv_R 21, gv_I (gq_f m 3), gv_I (gq_f m 4)] else gc_O 1 [gv_I (gq_f m 5), gv_R 22, gv_R 23]
def ma_O (m : gq_M) : gc_T := gc_O 6 [gv_I (gq_f m 0), gv_I (gq_f m 1), gv_I (gq_f m 2), gv_R 58, gv_R 74, gv_R 75, gv_R 59, gv_R 60, gv_R 61, gv_R 62, gv_R 63, gv_R 64, gv_R 65, gv_R 76, gv_R 77, gv_R 66, gv_L (gq_j m 0), gv_I (gq_f m 3), gv_R 67, gv_R 68, gv_I (gq_f m 4), gv_R 69, gv_R 70, gv_I (gq_f m 5), gv_R 71, gv_R 78, gv_R 79, gv_R 72, gv_R 73]
def ca_R (k : Nat) : gc_T := if k = 55 then gc_R 3 13 (fun j => some (42 + j.toNat)) else gc_R 4 11 (fun j => some (24 + j.toNat))
abbrev ca_G : Type := gq_M × gq_M × (Int → Int64)
def ca_A (g : ca_G) (k : Nat) : gc_T :=
  if k < 6 then ca_O g.1 k else if k < 35 then gc_I (ca_k (k - 6)) (ca_n (k - 6)) (gq_i g.1 (k - 6)) else if k < 55 then gc_L (ca_m (k - 35)) (gq_l g.1 (k - 35)) else if k < 57 then ca_R k else
  if k < 58 then ma_O g.2.1 else if k < 74 then gc_I (ma_k (k - 58)) (ma_n (k - 58)) (gq_i g.2.1 (k - 58)) else if k < 80 then gc_L (ma_m (k - 74)) (gq_l g.2.1 (k - 74)) else if k = 80 then gc_L 1 g.2.2 else gc_L 0 (fun _ => 0)
theorem ca_I {M : gq_M} {G : gq_M × (Int → Int64)} {f : Int → Int32} (a : Nat) (h : a < 29) : gc_up (ca_A (M, G)) (6 + a) (gc_I (ca_k a) (ca_n a) f) (ca_A (gs_i M a f, G)) := by
  intro j
  by_cases e : j = 6 + a
  · subst e
    have e2 : 6 + a - 6 = a := by omega
    rw [if_pos rfl]
    unfold ca_A
    rw [if_neg (by omega), if_pos (by omega), e2]
    show gc_I _ _ (gq_up M.1 a f a) = _
    rw [gq_us]
  · rw [if_neg e]
    unfold ca_A
    by_cases h6 : j < 6
    · rw [if_pos h6, if_pos h6]
      rfl
    · rw [if_neg h6, if_neg h6]
      by_cases h35 : j < 35
      · rw [if_pos h35, if_pos h35]
        show gc_I _ _ (gq_up M.1 a f (j - 6)) = _
        rw [gq_un _ _ (by omega)]
      · rw [if_neg h35, if_neg h35]
theorem ca_L {M : gq_M} {G : gq_M × (Int → Int64)} {f : Int → Int64} (a : Nat) (h : a < 20) : gc_up (ca_A (M, G)) (35 + a) (gc_L (ca_m a) f) (ca_A (gs_l M a f, G)) := by
  intro j
  by_cases e : j = 35 + a
  · subst e
    have e2 : 35 + a - 35 = a := by omega
    rw [if_pos rfl]
    unfold ca_A
    rw [if_neg (by omega), if_neg (by omega), if_pos (by omega), e2]
    show gc_L _ (gq_up M.2.1 a f a) = _
    rw [gq_us]
  · rw [if_neg e]
    unfold ca_A
    by_cases h6 : j < 6
    · rw [if_pos h6, if_pos h6]
      rfl
    · rw [if_neg h6, if_neg h6]
      by_cases h35 : j < 35
      · rw [if_pos h35, if_pos h35]
      · rw [if_neg h35, if_neg h35]
        by_cases h55 : j < 55
        · rw [if_pos h55, if_pos h55]
          show gc_L _ (gq_up M.2.1 a f (j - 35)) = _
          rw [gq_un _ _ (by omega)]
        · rw [if_neg h55, if_neg h55]
theorem ma_I {C : gq_M} {M : gq_M} {o : Int → Int64} {f : Int → Int32} (a : Nat) (h : a < 16) : gc_up (ca_A (C, M, o)) (58 + a) (gc_I (ma_k a) (ma_n a) f) (ca_A (C, gs_i M a f, o)) := by
  intro j
  by_cases e : j = 58 + a
  · subst e
    have e2 : 58 + a - 58 = a := by omega
    rw [if_pos rfl]
    unfold ca_A
    rw [if_neg (by omega), if_neg (by omega), if_neg (by omega), if_neg (by omega), if_neg (by omega), if_pos (by omega), e2]
    show gc_I _ _ (gq_up M.1 a f a) = _
    rw [gq_us]
  · rw [if_neg e]
    unfold ca_A
    by_cases h6 : j < 6
    · rw [if_pos h6, if_pos h6]
    · rw [if_neg h6, if_neg h6]
      by_cases h35 : j < 35
      · rw [if_pos h35, if_pos h35]
      · rw [if_neg h35, if_neg h35]
        by_cases h55 : j < 55
        · rw [if_pos h55, if_pos h55]
        · rw [if_neg h55, if_neg h55]
          by_cases h57 : j < 57
          · rw [if_pos h57, if_pos h57]
          · rw [if_neg h57, if_neg h57]
            by_cases h58 : j < 58
            · rw [if_pos h58, if_pos h58]
              rfl
            · rw [if_neg h58, if_neg h58]
              by_cases h74 : j < 74
              · rw [if_pos h74, if_pos h74]
                show gc_I _ _ (gq_up M.1 a f (j - 58)) = _
                rw [gq_un _ _ (by omega)]
              · rw [if_neg h74, if_neg h74]
theorem ma_L {C : gq_M} {M : gq_M} {o : Int → Int64} {f : Int → Int64} (a : Nat) (h : a < 6) : gc_up (ca_A (C, M, o)) (74 + a) (gc_L (ma_m a) f) (ca_A (C, gs_l M a f, o)) := by
  intro j
  by_cases e : j = 74 + a
  · subst e
    have e2 : 74 + a - 74 = a := by omega
    rw [if_pos rfl]
    unfold ca_A
    rw [if_neg (by omega), if_neg (by omega), if_neg (by omega), if_neg (by omega), if_neg (by omega), if_neg (by omega), if_pos (by omega), e2]
    show gc_L _ (gq_up M.2.1 a f a) = _
    rw [gq_us]
  · rw [if_neg e]
    unfold ca_A
    by_cases h6 : j < 6
    · rw [if_pos h6, if_pos h6]
    · rw [if_neg h6, if_neg h6]
      by_cases h35 : j < 35
      · rw [if_pos h35, if_pos h35]
      · rw [if_neg h35, if_neg h35]
        by_cases h55 : j < 55
        · rw [if_pos h55, if_pos h55]
        · rw [if_neg h55, if_neg h55]
          by_cases h57 : j < 57
          · rw [if_pos h57, if_pos h57]
          · rw [if_neg h57, if_neg h57]
            by_cases h58 : j < 58
            · rw [if_pos h58, if_pos h58]
              rfl
            · rw [if_neg h58, if_neg h58]
              by_cases h74 : j < 74
              · rw [if_pos h74, if_pos h74]
              · rw [if_neg h74, if_neg h74]
                by_cases h80 : j < 80
                · rw [if_pos h80, if_pos h80]
                  show gc_L _ (gq_up M.2.1 a f (j - 74)) = _
                  rw [gq_un _ _ (by omega)]
                · rw [if_neg h80, if_neg h80]
theorem ca_out {C M : gq_M} {o o2 : Int → Int64} : gc_up (ca_A (C, M, o)) 80 (gc_L 1 o2) (ca_A (C, M, o2)) := by
  intro j
  by_cases e : j = 80
  · subst e
    rfl
  · rw [if_neg e]
    unfold ca_A
    by_cases h80 : j < 80
    · by_cases h6 : j < 6
      · rw [if_pos h6, if_pos h6]
      · rw [if_neg h6, if_neg h6]
        by_cases h35 : j < 35
        · rw [if_pos h35, if_pos h35]
        · rw [if_neg h35, if_neg h35]
          by_cases h55 : j < 55
          · rw [if_pos h55, if_pos h55]
          · rw [if_neg h55, if_neg h55]
            by_cases h57 : j < 57
            · rw [if_pos h57, if_pos h57]
            · rw [if_neg h57, if_neg h57]
              by_cases h58 : j < 58
              · rw [if_pos h58, if_pos h58]
              · rw [if_neg h58, if_neg h58]
                by_cases h74 : j < 74
                · rw [if_pos h74, if_pos h74]
                · rw [if_neg h74, if_neg h74, if_pos h80, if_pos h80]
    · rw [if_neg (by omega), if_neg (by omega), if_neg (by omega), if_neg (by omega), if_neg (by omega), if_neg (by omega), if_neg h80, if_neg e, if_neg (by omega), if_neg (by omega), if_neg (by omega), if_neg (by omega), if_neg (by omega), if_neg (by omega), if_neg h80, if_neg e]
theorem ca_hist {M : gq_M} {G : gq_M × (Int → Int64)} {r : Nat} (h : r < 11) : ca_A (M, G) (24 + r) = gc_I 0 80 (gq_i M (18 + r)) := by
  have e : 24 + r - 6 = 18 + r := by omega
  unfold ca_A
  rw [if_neg (by omega), if_pos (by omega), e]
  have : r = 0 ∨ r = 1 ∨ r = 2 ∨ r = 3 ∨ r = 4 ∨ r = 5 ∨ r = 6 ∨ r = 7 ∨ r = 8 ∨ r = 9 ∨ r = 10 := by omega
  rcases this with rfl | rfl | rfl | rfl | rfl | rfl | rfl | rfl | rfl | rfl | rfl <;> rfl
theorem ca_cost {M : gq_M} {G : gq_M × (Int → Int64)} {r : Nat} (h : r < 13) : ca_A (M, G) (42 + r) = gc_L 13 (gq_l M (7 + r)) := by
  have e : 42 + r - 35 = 7 + r := by omega
  unfold ca_A
  rw [if_neg (by omega), if_neg (by omega), if_pos (by omega), e]
  have : r = 0 ∨ r = 1 ∨ r = 2 ∨ r = 3 ∨ r = 4 ∨ r = 5 ∨ r = 6 ∨ r = 7 ∨ r = 8 ∨ r = 9 ∨ r = 10 ∨ r = 11 ∨ r = 12 := by omega
  rcases this with rfl | rfl | rfl | rfl | rfl | rfl | rfl | rfl | rfl | rfl | rfl | rfl | rfl <;> rfl
theorem ca_histU {M : gq_M} {G : gq_M × (Int → Int64)} {r : Nat} {f : Int → Int32} (h : r < 11) : gc_up (ca_A (M, G)) (24 + r) (gc_I 0 80 f) (ca_A (gs_i M (18 + r) f, G)) := by
  have h1 := ca_I (M := M) (G := G) (f := f) (18 + r) (by omega)
  have e : 6 + (18 + r) = 24 + r := by omega
  have e2 : gc_I (ca_k (18 + r)) (ca_n (18 + r)) f = gc_I 0 80 f := by
    have : r = 0 ∨ r = 1 ∨ r = 2 ∨ r = 3 ∨ r = 4 ∨ r = 5 ∨ r = 6 ∨ r = 7 ∨ r = 8 ∨ r = 9 ∨ r = 10 := by omega
    rcases this with rfl | rfl | rfl | rfl | rfl | rfl | rfl | rfl | rfl | rfl | rfl <;> rfl
  rw [e, e2] at h1
  exact h1
theorem ca_costU {M : gq_M} {G : gq_M × (Int → Int64)} {r : Nat} {f : Int → Int64} (h : r < 13) : gc_up (ca_A (M, G)) (42 + r) (gc_L 13 f) (ca_A (gs_l M (7 + r) f, G)) := by
  have h1 := ca_L (M := M) (G := G) (f := f) (7 + r) (by omega)
  have e : 35 + (7 + r) = 42 + r := by omega
  have e2 : gc_L (ca_m (7 + r)) f = gc_L 13 f := by
    have : r = 0 ∨ r = 1 ∨ r = 2 ∨ r = 3 ∨ r = 4 ∨ r = 5 ∨ r = 6 ∨ r = 7 ∨ r = 8 ∨ r = 9 ∨ r = 10 ∨ r = 11 ∨ r = 12 := by omega
    rcases this with rfl | rfl | rfl | rfl | rfl | rfl | rfl | rfl | rfl | rfl | rfl | rfl | rfl <;> rfl
  rw [e, e2] at h1
  exact h1
theorem ca_J0 {M : gq_M} {G : gq_M × (Int → Int64)} {v : Int64} : gc_up (ca_A (M, G)) 0 (gc_O 0 ([gv_R 1, gv_R 2, gv_R 3, gv_R 4, gv_R 5, gv_L (gq_j M 0)].set 5 (gv_L v))) (ca_A (gs_j M 0 v, G)) := by
  intro j
  by_cases e : j = 0
  · subst e
    rfl
  · rw [if_neg e]
    unfold ca_A
    by_cases h6 : j < 6
    · rw [if_pos h6, if_pos h6]
      have : j = 0 ∨ j = 1 ∨ j = 2 ∨ j = 3 ∨ j = 4 ∨ j = 5 := by omega
      rcases this with rfl | rfl | rfl | rfl | rfl | rfl <;> first | rfl | exact absurd rfl e
    · rw [if_neg h6, if_neg h6]
theorem ca_F0 {M : gq_M} {G : gq_M × (Int → Int64)} {v : Int32} : gc_up (ca_A (M, G)) 1 (gc_O 5 ([gv_I (gq_f M 0), gv_I (gq_f M 1), gv_R 6, gv_R 7, gv_R 35, gv_R 36, gv_R 8, gv_R 9, gv_R 10, gv_R 11, gv_R 12, gv_R 13].set 0 (gv_I v))) (ca_A (gs_f M 0 v, G)) := by
  intro j
  by_cases e : j = 1
  · subst e
    rfl
  · rw [if_neg e]
    unfold ca_A
    by_cases h6 : j < 6
    · rw [if_pos h6, if_pos h6]
      have : j = 0 ∨ j = 1 ∨ j = 2 ∨ j = 3 ∨ j = 4 ∨ j = 5 := by omega
      rcases this with rfl | rfl | rfl | rfl | rfl | rfl <;> first | rfl | exact absurd rfl e
    · rw [if_neg h6, if_neg h6]
theorem ca_F1 {M : gq_M} {G : gq_M × (Int → Int64)} {v : Int32} : gc_up (ca_A (M, G)) 1 (gc_O 5 ([gv_I (gq_f M 0), gv_I (gq_f M 1), gv_R 6, gv_R 7, gv_R 35, gv_R 36, gv_R 8, gv_R 9, gv_R 10, gv_R 11, gv_R 12, gv_R 13].set 1 (gv_I v))) (ca_A (gs_f M 1 v, G)) := by
  intro j
  by_cases e : j = 1
  · subst e
    rfl
  · rw [if_neg e]
    unfold ca_A
    by_cases h6 : j < 6
    · rw [if_pos h6, if_pos h6]
      have : j = 0 ∨ j = 1 ∨ j = 2 ∨ j = 3 ∨ j = 4 ∨ j = 5 := by omega
      rcases this with rfl | rfl | rfl | rfl | rfl | rfl <;> first | rfl | exact absurd rfl e
    · rw [if_neg h6, if_neg h6]
theorem ca_F2 {M : gq_M} {G : gq_M × (Int → Int64)} {v : Int32} : gc_up (ca_A (M, G)) 3 (gc_O 3 ([gv_I (gq_f M 2), gv_R 16, gv_R 55, gv_R 39, gv_R 40, gv_R 17, gv_R 18, gv_R 41, gv_R 19, gv_R 20].set 0 (gv_I v))) (ca_A (gs_f M 2 v, G)) := by
  intro j
  by_cases e : j = 3
  · subst e
    rfl
  · rw [if_neg e]
    unfold ca_A
    by_cases h6 : j < 6
    · rw [if_pos h6, if_pos h6]
      have : j = 0 ∨ j = 1 ∨ j = 2 ∨ j = 3 ∨ j = 4 ∨ j = 5 := by omega
      rcases this with rfl | rfl | rfl | rfl | rfl | rfl <;> first | rfl | exact absurd rfl e
    · rw [if_neg h6, if_neg h6]
theorem ca_F3 {M : gq_M} {G : gq_M × (Int → Int64)} {v : Int32} : gc_up (ca_A (M, G)) 4 (gc_O 2 ([gv_R 56, gv_R 21, gv_I (gq_f M 3), gv_I (gq_f M 4)].set 2 (gv_I v))) (ca_A (gs_f M 3 v, G)) := by
  intro j
  by_cases e : j = 4
  · subst e
    rfl
  · rw [if_neg e]
    unfold ca_A
    by_cases h6 : j < 6
    · rw [if_pos h6, if_pos h6]
      have : j = 0 ∨ j = 1 ∨ j = 2 ∨ j = 3 ∨ j = 4 ∨ j = 5 := by omega
      rcases this with rfl | rfl | rfl | rfl | rfl | rfl <;> first | rfl | exact absurd rfl e
    · rw [if_neg h6, if_neg h6]
theorem ca_F4 {M : gq_M} {G : gq_M × (Int → Int64)} {v : Int32} : gc_up (ca_A (M, G)) 4 (gc_O 2 ([gv_R 56, gv_R 21, gv_I (gq_f M 3), gv_I (gq_f M 4)].set 3 (gv_I v))) (ca_A (gs_f M 4 v, G)) := by
  intro j
  by_cases e : j = 4
  · subst e
    rfl
  · rw [if_neg e]
    unfold ca_A
    by_cases h6 : j < 6
    · rw [if_pos h6, if_pos h6]
      have : j = 0 ∨ j = 1 ∨ j = 2 ∨ j = 3 ∨ j = 4 ∨ j = 5 := by omega
      rcases this with rfl | rfl | rfl | rfl | rfl | rfl <;> first | rfl | exact absurd rfl e
    · rw [if_neg h6, if_neg h6]
theorem ca_F5 {M : gq_M} {G : gq_M × (Int → Int64)} {v : Int32} : gc_up (ca_A (M, G)) 5 (gc_O 1 ([gv_I (gq_f M 5), gv_R 22, gv_R 23].set 0 (gv_I v))) (ca_A (gs_f M 5 v, G)) := by
  intro j
  by_cases e : j = 5
  · subst e
    rfl
  · rw [if_neg e]
    unfold ca_A
    by_cases h6 : j < 6
    · rw [if_pos h6, if_pos h6]
      have : j = 0 ∨ j = 1 ∨ j = 2 ∨ j = 3 ∨ j = 4 ∨ j = 5 := by omega
      rcases this with rfl | rfl | rfl | rfl | rfl | rfl <;> first | rfl | exact absurd rfl e
    · rw [if_neg h6, if_neg h6]
theorem ma_F0 {C M : gq_M} {o : Int → Int64} {v : Int32} : gc_up (ca_A (C, M, o)) 57 (gc_O 6 ([gv_I (gq_f M 0), gv_I (gq_f M 1), gv_I (gq_f M 2), gv_R 58, gv_R 74, gv_R 75, gv_R 59, gv_R 60, gv_R 61, gv_R 62, gv_R 63, gv_R 64, gv_R 65, gv_R 76, gv_R 77, gv_R 66, gv_L (gq_j M 0), gv_I (gq_f M 3), gv_R 67, gv_R 68, gv_I (gq_f M 4), gv_R 69, gv_R 70, gv_I (gq_f M 5), gv_R 71, gv_R 78, gv_R 79, gv_R 72, gv_R 73].set 0 (gv_I v))) (ca_A (C, gs_f M 0 v, o)) := by
  intro j
  by_cases e : j = 57
  · subst e
    rfl
  · rw [if_neg e]
    unfold ca_A
    by_cases h57 : j < 57
    · by_cases h6 : j < 6
      · rw [if_pos h6, if_pos h6]
      · rw [if_neg h6, if_neg h6]
        by_cases h35 : j < 35
        · rw [if_pos h35, if_pos h35]
        · rw [if_neg h35, if_neg h35]
          by_cases h55 : j < 55
          · rw [if_pos h55, if_pos h55]
          · rw [if_neg h55, if_neg h55, if_pos h57, if_pos h57]
    · simp only [show ¬ j < 6 by omega, show ¬ j < 35 by omega, show ¬ j < 55 by omega, h57, show ¬ j < 58 by omega, if_false]
theorem ma_F1 {C M : gq_M} {o : Int → Int64} {v : Int32} : gc_up (ca_A (C, M, o)) 57 (gc_O 6 ([gv_I (gq_f M 0), gv_I (gq_f M 1), gv_I (gq_f M 2), gv_R 58, gv_R 74, gv_R 75, gv_R 59, gv_R 60, gv_R 61, gv_R 62, gv_R 63, gv_R 64, gv_R 65, gv_R 76, gv_R 77, gv_R 66, gv_L (gq_j M 0), gv_I (gq_f M 3), gv_R 67, gv_R 68, gv_I (gq_f M 4), gv_R 69, gv_R 70, gv_I (gq_f M 5), gv_R 71, gv_R 78, gv_R 79, gv_R 72, gv_R 73].set 1 (gv_I v))) (ca_A (C, gs_f M 1 v, o)) := by
  intro j
  by_cases e : j = 57
  · subst e
    rfl
  · rw [if_neg e]
    unfold ca_A
    by_cases h57 : j < 57
    · by_cases h6 : j < 6
      · rw [if_pos h6, if_pos h6]
      · rw [if_neg h6, if_neg h6]
        by_cases h35 : j < 35
        · rw [if_pos h35, if_pos h35]
        · rw [if_neg h35, if_neg h35]
          by_cases h55 : j < 55
          · rw [if_pos h55, if_pos h55]
          · rw [if_neg h55, if_neg h55, if_pos h57, if_pos h57]
    · simp only [show ¬ j < 6 by omega, show ¬ j < 35 by omega, show ¬ j < 55 by omega, h57, show ¬ j < 58 by omega, if_false]
theorem ma_F2 {C M : gq_M} {o : Int → Int64} {v : Int32} : gc_up (ca_A (C, M, o)) 57 (gc_O 6 ([gv_I (gq_f M 0), gv_I (gq_f M 1), gv_I (gq_f M 2), gv_R 58, gv_R 74, gv_R 75, gv_R 59, gv_R 60, gv_R 61, gv_R 62, gv_R 63, gv_R 64, gv_R 65, gv_R 76, gv_R 77, gv_R 66, gv_L (gq_j M 0), gv_I (gq_f M 3), gv_R 67, gv_R 68, gv_I (gq_f M 4), gv_R 69, gv_R 70, gv_I (gq_f M 5), gv_R 71, gv_R 78, gv_R 79, gv_R 72, gv_R 73].set 2 (gv_I v))) (ca_A (C, gs_f M 2 v, o)) := by
  intro j
  by_cases e : j = 57
  · subst e
    rfl
  · rw [if_neg e]
    unfold ca_A
    by_cases h57 : j < 57
    · by_cases h6 : j < 6
      · rw [if_pos h6, if_pos h6]
      · rw [if_neg h6, if_neg h6]
        by_cases h35 : j < 35
        · rw [if_pos h35, if_pos h35]
        · rw [if_neg h35, if_neg h35]
          by_cases h55 : j < 55
          · rw [if_pos h55, if_pos h55]
          · rw [if_neg h55, if_neg h55, if_pos h57, if_pos h57]
    · simp only [show ¬ j < 6 by omega, show ¬ j < 35 by omega, show ¬ j < 55 by omega, h57, show ¬ j < 58 by omega, if_false]
theorem ma_J0 {C M : gq_M} {o : Int → Int64} {v : Int64} : gc_up (ca_A (C, M, o)) 57 (gc_O 6 ([gv_I (gq_f M 0), gv_I (gq_f M 1), gv_I (gq_f M 2), gv_R 58, gv_R 74, gv_R 75, gv_R 59, gv_R 60, gv_R 61, gv_R 62, gv_R 63, gv_R 64, gv_R 65, gv_R 76, gv_R 77, gv_R 66, gv_L (gq_j M 0), gv_I (gq_f M 3), gv_R 67, gv_R 68, gv_I (gq_f M 4), gv_R 69, gv_R 70, gv_I (gq_f M 5), gv_R 71, gv_R 78, gv_R 79, gv_R 72, gv_R 73].set 16 (gv_L v))) (ca_A (C, gs_j M 0 v, o)) := by
  intro j
  by_cases e : j = 57
  · subst e
    rfl
  · rw [if_neg e]
    unfold ca_A
    by_cases h57 : j < 57
    · by_cases h6 : j < 6
      · rw [if_pos h6, if_pos h6]
      · rw [if_neg h6, if_neg h6]
        by_cases h35 : j < 35
        · rw [if_pos h35, if_pos h35]
        · rw [if_neg h35, if_neg h35]
          by_cases h55 : j < 55
          · rw [if_pos h55, if_pos h55]
          · rw [if_neg h55, if_neg h55, if_pos h57, if_pos h57]
    · simp only [show ¬ j < 6 by omega, show ¬ j < 35 by omega, show ¬ j < 55 by omega, h57, show ¬ j < 58 by omega, if_false]
theorem ma_F3 {C M : gq_M} {o : Int → Int64} {v : Int32} : gc_up (ca_A (C, M, o)) 57 (gc_O 6 ([gv_I (gq_f M 0), gv_I (gq_f M 1), gv_I (gq_f M 2), gv_R 58, gv_R 74, gv_R 75, gv_R 59, gv_R 60, gv_R 61, gv_R 62, gv_R 63, gv_R 64, gv_R 65, gv_R 76, gv_R 77, gv_R 66, gv_L (gq_j M 0), gv_I (gq_f M 3), gv_R 67, gv_R 68, gv_I (gq_f M 4), gv_R 69, gv_R 70, gv_I (gq_f M 5), gv_R 71, gv_R 78, gv_R 79, gv_R 72, gv_R 73].set 17 (gv_I v))) (ca_A (C, gs_f M 3 v, o)) := by
  intro j
  by_cases e : j = 57
  · subst e
    rfl
  · rw [if_neg e]
    unfold ca_A
    by_cases h57 : j < 57
    · by_cases h6 : j < 6
      · rw [if_pos h6, if_pos h6]
      · rw [if_neg h6, if_neg h6]
        by_cases h35 : j < 35
        · rw [if_pos h35, if_pos h35]
        · rw [if_neg h35, if_neg h35]
          by_cases h55 : j < 55
          · rw [if_pos h55, if_pos h55]
          · rw [if_neg h55, if_neg h55, if_pos h57, if_pos h57]
    · simp only [show ¬ j < 6 by omega, show ¬ j < 35 by omega, show ¬ j < 55 by omega, h57, show ¬ j < 58 by omega, if_false]
theorem ma_F4 {C M : gq_M} {o : Int → Int64} {v : Int32} : gc_up (ca_A (C, M, o)) 57 (gc_O 6 ([gv_I (gq_f M 0), gv_I (gq_f M 1), gv_I (gq_f M 2), gv_R 58, gv_R 74, gv_R 75, gv_R 59, gv_R 60, gv_R 61, gv_R 62, gv_R 63, gv_R 64, gv_R 65, gv_R 76, gv_R 77, gv_R 66, gv_L (gq_j M 0), gv_I (gq_f M 3), gv_R 67, gv_R 68, gv_I (gq_f M 4), gv_R 69, gv_R 70, gv_I (gq_f M 5), gv_R 71, gv_R 78, gv_R 79, gv_R 72, gv_R 73].set 20 (gv_I v))) (ca_A (C, gs_f M 4 v, o)) := by
  intro j
  by_cases e : j = 57
  · subst e
    rfl
  · rw [if_neg e]
    unfold ca_A
    by_cases h57 : j < 57
    · by_cases h6 : j < 6
      · rw [if_pos h6, if_pos h6]
      · rw [if_neg h6, if_neg h6]
        by_cases h35 : j < 35
        · rw [if_pos h35, if_pos h35]
        · rw [if_neg h35, if_neg h35]
          by_cases h55 : j < 55
          · rw [if_pos h55, if_pos h55]
          · rw [if_neg h55, if_neg h55, if_pos h57, if_pos h57]
    · simp only [show ¬ j < 6 by omega, show ¬ j < 35 by omega, show ¬ j < 55 by omega, h57, show ¬ j < 58 by omega, if_false]
theorem ma_F5 {C M : gq_M} {o : Int → Int64} {v : Int32} : gc_up (ca_A (C, M, o)) 57 (gc_O 6 ([gv_I (gq_f M 0), gv_I (gq_f M 1), gv_I (gq_f M 2), gv_R 58, gv_R 74, gv_R 75, gv_R 59, gv_R 60, gv_R 61, gv_R 62, gv_R 63, gv_R 64, gv_R 65, gv_R 76, gv_R 77, gv_R 66, gv_L (gq_j M 0), gv_I (gq_f M 3), gv_R 67, gv_R 68, gv_I (gq_f M 4), gv_R 69, gv_R 70, gv_I (gq_f M 5), gv_R 71, gv_R 78, gv_R 79, gv_R 72, gv_R 73].set 23 (gv_I v))) (ca_A (C, gs_f M 5 v, o)) := by
  intro j
  by_cases e : j = 57
  · subst e
    rfl
  · rw [if_neg e]
    unfold ca_A
    by_cases h57 : j < 57
    · by_cases h6 : j < 6
      · rw [if_pos h6, if_pos h6]
      · rw [if_neg h6, if_neg h6]
        by_cases h35 : j < 35
        · rw [if_pos h35, if_pos h35]
        · rw [if_neg h35, if_neg h35]
          by_cases h55 : j < 55
          · rw [if_pos h55, if_pos h55]
          · rw [if_neg h55, if_neg h55, if_pos h57, if_pos h57]
    · simp only [show ¬ j < 6 by omega, show ¬ j < 35 by omega, show ¬ j < 55 by omega, h57, show ¬ j < 58 by omega, if_false]
end
section
/-! THROWS: a method that throws, makes one new cell and changes nothing -/
def gt_N : Nat → String
  | 1 => "java/lang/IndexOutOfBoundsException"
  | _ => "java/lang/IllegalArgumentException"
def gt_Q (kd mc ms : Nat) : Array Value → State → Outcome → State → Prop := fun _ st o t => ∃ (q : Nat) (ce : Cell), o = .threw q ∧ st.heap.size ≤ q ∧ t.heap[q]? = some ce ∧ ce.vm = .none ∧ st.vm.findClass (gt_N kd) = some ce.cls ∧ FrameEndT st o t [] mc ms
theorem gt_same {s t : State} {mc ms : Nat} (h : s.sameButNew t [] mc ms) : ∀ j : Nat, j < s.heap.size → t.heap[j]? = s.heap[j]? := by
  intro j hj
  obtain ⟨-, -, -, -, -, h6⟩ := h
  have hc : s.heap[j]? = some s.heap[j] := Array.getElem?_eq_getElem hj
  obtain ⟨c', h1, h2, h3, h4⟩ := h6 j _ hc
  have e : c'.slots = s.heap[j].slots := Array.ext_getElem? (fun i => h4 i (by simp))
  rw [h1, hc]
  exact congrArg some (h2.trans (by rw [e]))
def gt_B (kd mc ms : Nat) : Pt → Array Value → Addr → Pt → Prop := fun A _ q B => B.locs = A.locs ∧ B.cells = A.cells + mc ∧ B.slots = A.slots + ms ∧ ∃ ce : Cell, A.U.heap.size ≤ q ∧ B.U.heap[q]? = some ce ∧ ce.vm = .none ∧ A.U.vm.findClass (gt_N kd) = some ce.cls ∧ (∀ j : Nat, j < A.U.heap.size → B.U.heap[j]? = A.U.heap[j]?) ∧ A.U.heap.size ≤ B.U.heap.size
section GTB
variable {l : Launch} {R : Room} {p : Program} {e : Env} {below : List Frame} {s : State} {sargs : Array Value} {y : MethodName} {b : ByteArray} {mL kd : Nat} {ret : Option FieldType} {rm : Room} {Pc : Array Value → State → Prop}
theorem gt_back (hM : MetFree l y (headSpec (Cond.code y b mL ret :: gw_T) rm) Pc (fun _ _ _ _ _ => True) (gt_Q kd rm.cells rm.slots)) (hblind : FrameBlind Pc) (hR : rm.frames + 1 ≤ R.frames ∧ 8 + (mL + 11) + rm.locals ≤ R.locals)
    (hws : ∀ w ∈ Cond.code y b mL ret :: gw_T, ∀ (a' : Array Value) (U : State), s.WarmedH U.vm → w.before a' U = true) (hinit : ∀ (a' : Array Value) (U : State), s.WarmedH U.vm → (Cond.initialized y.cls).before a' U = true) :
    BackT l R p e below s sargs y 3 8 (PreOf R rm.cells rm.slots Pc) (gt_B kd rm.cells rm.slots) := by
  refine BackT.of_free (S := headSpec (Cond.code y b mL ret :: gw_T) rm) (P := Pc) (bytes := b) (maxL := mL) (ret := ret) (E := fun a st o t L k n => L = [] ∧ k = rm.cells ∧ n = rm.slots) hM hR.1 hR.2 ?_ ?_ (fun _ _ _ _ _ _ _ _ _ => trivial) ?_ ?_
  · intro m meth c A a X hp
    exact ⟨atoms_intro fun w hw => hws w hw _ _ X.warmed, hws _ List.mem_cons_self _ _ X.warmed, hinit _ _ X.warmed, hp.1, hp.2.1⟩
  · intro m meth c A a g mk X hp
    exact hblind _ _ _ _ hp.2.2
  · intro a st o t ⟨q, ce, h1, h2, h3, h4, h5, h6⟩
    exact ⟨[], rm.cells, rm.slots, h6, rfl, rfl, rfl⟩
  · intro m meth c A a g mk v t L k n X hp hq hF hE
    obtain ⟨rfl, rfl, rfl⟩ := hE
    obtain ⟨q, ce, h1, h2, h3, h4, h5, h6⟩ := hq
    cases h1
    refine ⟨by simp [Pt.locs], rfl, rfl, ce, h2, h3, h4, h5, fun j hj => ?_, h6.2.2.2.1⟩
    exact gt_same h6.2.2 j hj
end GTB
section GTC
variable {p : Program} {l : Launch} {e : Env} {R : Room} {s : State} {m : MethodId} {args : Array Value} {below : List Frame} {meth : Method} {c : Code} {T : State} {locs : List Loc} {cells slots : Nat}
theorem gt_callV (X : Stand p l e R s m args below meth c T locs cells slots) (hexec : p.tables.exec = Jvm.exec) {own C : String} {index : Nat} {y : MethodName} {bytes : ByteArray} {maxL : Nat} {ret : Option FieldType}
    (hown : s.vm.findClass own = some m.cls) (hlink : (Cond.methodLink own index y).before args s = true) (hinst : (Cond.instanceMethod y).before args s = true) (hsel : (Cond.selects C y y).before args s = true)
    (hcode : (Cond.code y bytes maxL ret).before args s = true) (hy : y.cls ≠ "java/lang/invoke/MethodHandle" ∧ y.cls ≠ "java/lang/invoke/VarHandle")
    {W : Nat} {Pre : Pt → Array Value → Prop} {Post : Pt → Array Value → Addr → Pt → Prop} (hK : BackT l R p e below s args y 3 W Pre Post)
    {b : Addr} {cellB : Cell} (hcell : T.heap[b]? = some cellB) (hobj : cellB.vm.isStatics = false) (hcls : s.vm.findClass C = some cellB.cls)
    {g : JFrame} (hg : g.method = m) (hsize : g.locals.size = c.maxLocals) {argsL rest : List Value} (hlen : ∀ sig, parseMethodDescriptor y.desc = some sig → argsL.length = sig.parameters.length)
    (hstack : g.stack = argsL.reverse ++ .ref b :: rest) (hW : 2 * g.monitorRoom + (rest.map fun v => v.category).sum ≤ W) (hdg : decode c.code g.pc = .ok (.invokevirtual index, 3))
    (hpre : ∀ vm₁, s.WarmedH vm₁ → Pre ⟨T.setVm vm₁, locs, cells, slots⟩ (Value.ref b :: argsL).toArray) :
    ∃ (v : Addr) (vm₁ : Vm) (B : Pt), s.WarmedH vm₁ ∧ Stand p l e R s m args below meth c B.U B.locs B.cells B.slots ∧ Post ⟨T.setVm vm₁, locs, cells, slots⟩ (Value.ref b :: argsL).toArray v B ∧
      Steps p.tables e below (T.setTop g) ((B.U.setTop { g with stack := rest }).pushFrame (.throwing v)) := by
  obtain ⟨mk, methM, hnamed, hmethM, hstM, habM⟩ := Cond.instanceMethod_spec hinst
  obtain ⟨methM', cM, hmethM', -, -, -, -, -, -, hsigM⟩ := Cond.code_spec hnamed hcode
  cases hmethM.symm.trans hmethM'
  obtain ⟨c2, r2, m2, q1, q2, q3, q4, kP, hkP, hkPi⟩ := Cond.selects_spec hsel
  cases hcls.symm.trans q1
  cases (State.methodFound?_of_named hnamed hy).symm.trans q2
  cases hnamed.symm.trans q3
  have hselP : selectMethod e.platform s.vm cellB.cls mk = .method mk := by rw [Launch.admits_selectMethod X.admits]; exact q4
  obtain ⟨vm₁, X₁, hstep₁⟩ := X.invokevirtual hexec hown hlink hnamed hmethM hstM hkP hkPi hy (a := b) (cell := cellB) hcell
    (fun z h => by rw [h] at hobj; cases hobj) hselP hmethM habM hkP hkPi (g := g) hg (argsL := argsL) (rest := rest) (hlen _ hsigM) hstack hdg
  obtain ⟨v, B, X', hpost, hsteps⟩ := hK m meth c ⟨T.setVm vm₁, locs, cells, slots⟩ { g with stack := rest } (.invokevirtual index) mk (Value.ref b :: argsL).toArray X₁ hg hsize hdg hW (X₁.named hnamed) (hpre vm₁ X₁.warmed)
  exact ⟨v, vm₁, B, X₁.warmed, X', hpost, hstep₁ _ fun acts => by rw [doInvoke_state]; exact hsteps⟩
theorem gt_callS (X : Stand p l e R s m args below meth c T locs cells slots) (hexec : p.tables.exec = Jvm.exec) {own : String} {index : Nat} {y : MethodName} {bytes : ByteArray} {maxL : Nat} {ret : Option FieldType}
    (hown : s.vm.findClass own = some m.cls) (hlink : (Cond.methodLink own index y).before args s = true) (hstat : (Cond.static y).before args s = true) (hinit : (Cond.initialized y.cls).before args s = true)
    (hcode : (Cond.code y bytes maxL ret).before args s = true) (hy : y.cls ≠ "java/lang/invoke/MethodHandle" ∧ y.cls ≠ "java/lang/invoke/VarHandle")
    {W : Nat} {Pre : Pt → Array Value → Prop} {Post : Pt → Array Value → Addr → Pt → Prop} (hK : BackT l R p e below s args y 3 W Pre Post)
    {g : JFrame} (hg : g.method = m) (hsize : g.locals.size = c.maxLocals) {argsL rest : List Value} (hlen : ∀ sig, parseMethodDescriptor y.desc = some sig → argsL.length = sig.parameters.length)
    (hstack : g.stack = argsL.reverse ++ rest) (hW : 2 * g.monitorRoom + (rest.map fun v => v.category).sum ≤ W) (hdg : decode c.code g.pc = .ok (.invokestatic index, 3))
    (hpre : ∀ vm₁, s.WarmedH vm₁ → Pre ⟨T.setVm vm₁, locs, cells, slots⟩ argsL.toArray) :
    ∃ (v : Addr) (vm₁ : Vm) (B : Pt), s.WarmedH vm₁ ∧ Stand p l e R s m args below meth c B.U B.locs B.cells B.slots ∧ Post ⟨T.setVm vm₁, locs, cells, slots⟩ argsL.toArray v B ∧
      Steps p.tables e below (T.setTop g) ((B.U.setTop { g with stack := rest }).pushFrame (.throwing v)) := by
  obtain ⟨mk, hnamed⟩ := Cond.code_named hcode
  obtain ⟨methM, cM, hmethM, -, -, -, -, -, -, hsigM⟩ := Cond.code_spec hnamed hcode
  have hstatic : methM.isStatic = true := Cond.static_spec hnamed hmethM hstat
  obtain ⟨kP, hkP, -⟩ := className_of_methodNamed hnamed
  have hinitP : kP.init = .initialized := Cond.initialized_spec (findClass_of_methodNamed hnamed) hkP hinit
  obtain ⟨vm₁, X₁, hstep₁⟩ := X.invokestatic hexec hown hlink hnamed hmethM hstatic hkP hinitP hy (g := g) hg (argsL := argsL) (rest := rest) (hlen _ hsigM) hstack hdg
  obtain ⟨v, B, X', hpost, hsteps⟩ := hK m meth c ⟨T.setVm vm₁, locs, cells, slots⟩ { g with stack := rest } (.invokestatic index) mk argsL.toArray X₁ hg hsize hdg hW (X₁.named hnamed) (hpre vm₁ X₁.warmed)
  exact ⟨v, vm₁, B, X₁.warmed, X', hpost, hstep₁ _ fun acts => by rw [doInvoke_state]; exact hsteps⟩
end GTC
/-! the contract of a method that throws -/
def gm_X (N : Nat) (l : Launch) (D : va_G) (ad : Nat → Nat) (ck : Nat → ClassId) (y : MethodName) (b : ByteArray) (nL : Nat) (ret : Option FieldType) (rm : Room) (as : List gv_V) (cf : Nat → gc_T) (kd : Nat) : Prop :=
  ∀ sz, MetFree l y (headSpec (Cond.code y b nL ret :: gw_T) rm) (gm_P N D ad ck as cf sz) (fun _ _ _ _ _ => True) (gt_Q kd rm.cells rm.slots)
/-- what a walk knows that ends in a throw -/
def gt_X (R : Room) (kd : Nat) (x : gx_X) : Prop := match x with
  | (p, l, e, s, m, args, below, meth, c, Q, D, A, ad, ck) => e.platform.stackTraces = false ∧ (∀ z ∈ c.exceptionTable.toList, ∀ pc, covers z pc = false) ∧ meth.locks = false ∧ (∀ q, A q → s.heap.size ≤ q) ∧
    ∀ (t : State) (q : Nat) (ce : Cell), t.status = .running → Ended t below (.threw q) → s.WarmedH t.vm → s.sameButNew ({ t with vm := s.vm } : State) [] R.cells R.slots → t.heap[q]? = some ce → ce.vm = .none → s.vm.findClass (gt_N kd) = some ce.cls → s.heap.size ≤ q → Q t
theorem gm_X.of {N : Nat} {l : Launch} {D : va_G} {ad : Nat → Nat} {ck : Nat → ClassId} {y : MethodName} {b : ByteArray} {nL : Nat} {ret : Option FieldType} {rm : Room} {as : List gv_V} {cf : Nat → gc_T} {kd : Nat} (hfl : l.flags = pinnedFlags ++ [noTraceFlag]) (hy : plainName y.cls = true) (hw : gv_w as ≤ nL)
    (h : ∀ x : gx_X, gw_C N 0 y.cls b nL x → gt_X rm kd x → gw_G N nL rm x 0 0 cf 0 (gv_args 0 as) []) : gm_X N l D ad ck y b nL ret rm as cf kd := by
  intro sz
  refine MetFree.of_bodyS (code := b) (maxLocals := nL) (ret := ret) hy ?_ ?_
  · intro args s m h hn
    obtain ⟨meth, c, h1, h2, h3, h4, h5, h6, -, -⟩ := Cond.code_spec hn (atoms_spec (ws := Cond.code y b nL ret :: gw_T) h _ List.mem_cons_self)
    exact ⟨meth, c, h1, h2, h3, h4, h5, h6⟩
  · intro p e s m args below meth c s₁ B hml hv _
    have hts := atoms_spec (ws := Cond.code y b nL ret :: gw_T) B.pre
    obtain ⟨rfl, hsz, hP, hK, hnw, hij, hE⟩ := hv
    have hh0 : s₁.heap = s.heap := by rw [B.state]; rfl
    have X := Stand.of_body B
    have hown : s.vm.findClass y.cls = some m.cls := findClass_of_methodNamed B.named
    have hl := lv_entry (as.map (gv_v ad)) (n := nL) (by rw [gv_w_len]; exact hw)
    rw [gv_args_eq] at hl
    have hex : c.exceptionTable.toList = [] := by
      obtain ⟨meth', c', h1, h2, -, -, -, -, h6, -⟩ := Cond.code_spec B.named (hts _ List.mem_cons_self)
      cases h1.symm.trans B.method
      cases h2.symm.trans X.code
      simpa using h6
    obtain ⟨t, a1, o, b1, b2, b3⟩ := h (p, l, e, s, m, (as.map (gv_v ad)).toArray, below, meth, c, fun t => ∃ o, t.status = .running ∧ Ended t below o ∧ gt_Q kd rm.cells rm.slots (as.map (gv_v ad)).toArray s o t, D, gm_A 0 ad sz, ad, ck)
      ⟨B.exec, B.bytes, hml, hown, fun w hw => hts w (List.mem_cons_of_mem _ hw), hnw, hK, fun q hq => Or.inr (by rw [← hsz]; exact hq), hij, fun i hi => absurd hi (Nat.not_lt_zero i), B.notSynchronized, gm_Age (Nat.zero_le _) hE hsz, hE⟩
      ⟨Launch.traces_off hfl X.admits, (by rw [hex]; intro z hz; cases hz), B.notSynchronized, (fun q hq => by
        rcases hq with ⟨i, hi, _⟩ | hq
        · exact absurd hi (Nat.not_lt_zero i)
        · rw [hsz]; exact hq), fun t q ce g1 g2 g3 g4 g5 g6 g7 g8 => ⟨_, g1, g2, q, ce, rfl, g8, g5, g6, g7, ⟨q, rfl⟩, g3, g4⟩⟩
      s.heap [] _ hP va_S.rf hl s₁ hh0 X
    refine ⟨t, o, ?_, b1, b2, b3⟩
    rw [lg_entry_eq]
    exact a1
theorem gk_isRef {C n d : String} {A : Nat → Prop} {args : Array Value} {s : State} (h : va_Zq C n d A s s.heap) : (Cond.isRef (.static C n d)).before args s = true := by
  have key : ∀ v : Value, va_Z C n d v A s s.heap → (Term.static C n d).eval args s none [] s = some v := by
    intro v hv
    obtain ⟨cf, kf, fi, f, a, cell, h1, h2, h3, h4, h5, h6, h7, h8⟩ := hv
    simp [Term.eval, State.fieldNamed?, h1, h2, h4, h5, h6, h7]
  rcases h with h | ⟨t, h⟩
  · simp [Cond.before, Cond.holds, Cond.value, key _ h]
  · simp [Cond.before, Cond.holds, Cond.value, key _ h]
def gt_U1 : Cond := Cond.isRef (.static "java/lang/Throwable" "UNASSIGNED_STACK" "[Ljava/lang/StackTraceElement;")
def gt_U2 : Cond := Cond.isRef (.static "java/lang/Throwable" "SUPPRESSED_SENTINEL" "Ljava/util/List;")
def gt_L1 : Cond := Cond.laysStatic "java/lang/Throwable" "UNASSIGNED_STACK" "[Ljava/lang/StackTraceElement;"
def gt_L2 : Cond := Cond.laysStatic "java/lang/Throwable" "SUPPRESSED_SENTINEL" "Ljava/util/List;"
/-- the words of 'new X(text)' and its throw -/
def gt_W (own : String) (ci ic kd : Nat) : Prop := (∀ a ∈ Bundle.ownAtoms own ic (gt_N kd) ["java/lang/RuntimeException", "java/lang/Exception"], a ∈ gw_T ∨ a ∈ gk_Tw ∨ a = gt_U1 ∨ a = gt_U2 ∨ a = gt_L1 ∨ a = gt_L2) ∧ Cond.classLink own ci (gt_N kd) ∈ gw_T ∧ Cond.instantiable (gt_N kd) 6 ∈ gw_T ∧ Cond.initialized (gt_N kd) ∈ gw_T ∧ Bundle.fit (gt_N kd) = true
theorem lt_1 : gt_W "PinSwaps" 48 52 1 := ⟨by decide +kernel, by decide +kernel, by decide +kernel, by decide +kernel, by decide +kernel⟩
theorem lt_2 : gt_W "PinSwaps" 63 67 2 := ⟨by decide +kernel, by decide +kernel, by decide +kernel, by decide +kernel, by decide +kernel⟩
section GTX
variable {N w nL : Nat} {cc : ByteArray} {R : Room} {x : gx_X} {k n : Nat} {cf : Nat → gc_T} {pc : Nat} {lv : List (Nat × gv_V)} {st stk : List gv_V} {y : MethodName} {b : ByteArray} {mL : Nat} {ret : Option FieldType} {rm : Room} {as : List gv_V} {kd : Nat}
theorem gx_throw (hC : gw_C N w "PinSwaps" cc nL x) (hT : gt_X R kd x) {ci i ic : Nat} {tx : String} (hd0 : decode cc pc = .ok (.new ci, 3)) (hd1 : decode cc (pc + 3) = .ok (.dup, 1)) (hd2 : decode cc (pc + 4) = .ok (.ldc i, 2)) (hd3 : decode cc (pc + 6) = .ok (.invokespecial ic, 3)) (hd4 : decode cc (pc + 9) = .ok (.athrow, 1))
    (hw : gt_W "PinSwaps" ci ic kd) (hs : (i, tx) ∈ gk_strs) (hk : k + 1 ≤ R.cells) (hn : n + 6 ≤ R.slots) (hf : 5 < R.frames) (hlo : 1 + gv_w st + 81 ≤ R.locals) : gw_G N nL R x k n cf pc lv st := by
  obtain ⟨p, l, e, s, m, args, below, meth, c, Q, D, A, ad, ck⟩ := x
  obtain ⟨hx, hb, hml, hown, hts, hnw, hK, hA, hij, hAd, hlk, hAg, hE⟩ := hC
  obtain ⟨t1, t2, t3, t4, t5⟩ := hT
  obtain ⟨w1, w2, w3, w4, w5⟩ := hw
  obtain ⟨-, -, hE⟩ := hE
  intro H locs ls hP hS hl
  obtain ⟨a0, hR0⟩ := hE.2.1 _ hs
  obtain ⟨cC, kC0, hfc, hkC0, -⟩ := Cond.instantiable_spec (hts _ w3)
  refine va_forget (fun q hq => t4 _ (hS.2.2 q hq)) ?_
  refine W.newcK hx hb hown (hts _ w2) (hts _ w3) (hts _ w4) rfl hd0 hk hn hfc rfl ?_
  intro H' kC hkC hnew hz hkeep
  refine lv_dup hx hb hd1 rfl ?_
  refine va_ldcS hx hb hown hR0 hd2 ?_
  intro T hTh X
  have hwords : ∀ a ∈ Bundle.ownAtoms "PinSwaps" ic (gt_N kd) ["java/lang/RuntimeException", "java/lang/Exception"], a.before args s = true := by
    intro a ha
    rcases w1 a ha with h | h | h | h | h | h
    · exact hts _ h
    · have h9 := Cond.tabsOnly_warm (args' := args) (T := s) (State.WarmedH.refl s) a (List.mem_filter.mp h).2 (hE.1.1 a h)
      rwa [State.setVm_self] at h9
    · rw [h]; exact gk_isRef hE.2.2.1
    · rw [h]; exact gk_isRef hE.2.2.2.1
    · rw [h]; exact hE.1.2.1
    · rw [h]; exact hE.1.2.2
  obtain ⟨U, hst, hrun, hend, hW, hsame, ce, hce, hoc⟩ := X.ctorThrowS hx t1 hown w5 (by decide +kernel) hwords (fun q hq => by cases hq) hfc hkC (by rw [hTh]; exact hnew) hS.1 (msg := .ref a0) rfl (g := F0 m (pc + 3 + 1 + 2) ls (.ref a0 :: .ref H.size :: .ref H.size :: st.map (gv_v ad))) rfl (hl.1.trans hml.symm) rfl rfl rfl (by rw [hb]; exact hd3) (by rw [hb]; exact hd4) (fun z hz => t2 z hz _) (by simpa using hf) (by
      have h0 : ((st.map (gv_v ad)).map fun v => v.category).sum = gv_w st := gv_w_sum ad st
      have h1 : ((Value.ref H.size :: st.map (gv_v ad)).map fun v => v.category).sum = 1 + gv_w st := by rw [List.map_cons, List.sum_cons, h0]; rfl
      have h2 : (F0 m (pc + 3 + 1 + 2) ls (.ref a0 :: .ref H.size :: .ref H.size :: st.map (gv_v ad))).monitorRoom = 0 := rfl
      rw [h1, h2]
      simp only [List.length_cons, List.length_nil]
      omega) t3
  refine ⟨U, hst, ?_⟩
  exact t5 U H.size ce hrun hend hW (hsame.weaken (fun q hq _ => hq) hk hn) hce hoc.vm hoc.cls hS.1
end GTX
end
section
/-! CALLS OF METHODS THAT THROW: not caught, caught -/
section GTY
variable {N w nL : Nat} {own : String} {cc : ByteArray} {R : Room} {x : gx_X} {k n : Nat} {cf : Nat → gc_T} {pc : Nat} {lv : List (Nat × gv_V)} {st stk : List gv_V} {y : MethodName} {b : ByteArray} {mL : Nat} {ret : Option FieldType} {rm : Room} {as : List gv_V} {kd : Nat}
/-- the machine comes to the note of the throw, over the caller's frame -/
def gt_Z (p : Program) (l : Launch) (e : Env) (R : Room) (s : State) (m : MethodId) (args : Array Value) (below : List Frame) (meth : Method) (c : Code) (H : Heap) (locs : List Loc) (k n mc ms kd : Nat) (g : JFrame) (rest : List Value) : Prop :=
  ∀ T : State, T.heap = H → Stand p l e R s m args below meth c T locs k n → ∃ (q : Nat) (T' : State) (ce : Cell), Stand p l e R s m args below meth c T' locs (k + mc) (n + ms) ∧ H.size ≤ q ∧ T'.heap[q]? = some ce ∧ ce.vm = .none ∧ s.vm.findClass (gt_N kd) = some ce.cls ∧ (∀ j : Nat, j < H.size → T'.heap[j]? = H[j]?) ∧ H.size ≤ T'.heap.size ∧ Steps p.tables e below (T.setTop g) ((T'.setTop { g with stack := rest }).pushFrame (.throwing q))
theorem gt_runV {p : Program} {l : Launch} {e : Env} {s : State} {m : MethodId} {args : Array Value} {below : List Frame} {meth : Method} {c : Code} {H : Heap} {locs : List Loc} {Pc : Array Value → State → Prop} {i na o : Nat} {As rest : List Value} {g : JFrame}
    (S : CallFix p m c cc nL s args gw_T own) (hM : MetFree l y (headSpec (Cond.code y b mL ret :: gw_T) rm) Pc (fun _ _ _ _ _ => True) (gt_Q kd rm.cells rm.slots)) (hl0 : Cond.methodLink own i y ∈ gw_T) (hV : gw_V own i y b mL ret na) (hR : rm.frames + 1 ≤ R.frames ∧ 8 + (mL + 11) + rm.locals ≤ R.locals) (hp : PreV s H y.cls o Pc As)
    (hg : g.method = m) (hn : As.length = na) (hsize : g.locals.size = nL) (hstack : g.stack = As.reverse ++ .ref o :: rest) (hW : 2 * g.monitorRoom + (rest.map fun v => v.category).sum ≤ 8) (hdg : decode cc g.pc = .ok (.invokevirtual i, 3)) (hf : k + rm.cells ≤ R.cells ∧ n + rm.slots ≤ R.slots) :
    gt_Z p l e R s m args below meth c H locs k n rm.cells rm.slots kd g rest := by
  obtain ⟨hx, hb, hml, hown, hts⟩ := S
  obtain ⟨-, hi, hs, hin, hcd, hne, hpar⟩ := hV
  obtain ⟨hbl, ⟨cellB, hcB, hoB, hclB⟩, hPc⟩ := hp
  intro T hTh X
  have hK' := gt_back (R := R) (p := p) (e := e) (below := below) (s := s) (sargs := args) hM hbl hR (pay_in hts (gw_good hcd)) (fun a' U hW => word_at hW (good_of_word (List.mem_filter.mp hin).2) (hts _ hin))
  obtain ⟨q, vm₁, ⟨U', l2, c2, s2⟩, hW₁, X', ⟨e1, e2, e3, ce, g1, g2, g3, g4, g5, g6⟩, hst⟩ := gt_callV X hx hown (hts _ hl0) (hts _ hi) (hts _ hs) (hts _ hcd) hne hK' (by rw [hTh]; exact hcB) hoB hclB hg (hsize.trans hml.symm) (argsL := As) (rest := rest) (fun sig h => by rw [h] at hpar; exact hn.trans (Option.some.inj hpar).symm) hstack hW (by rw [hb]; exact hdg)
    (fun vm₁ hW₁ => ⟨hf.1, hf.2, hPc (T.setVm vm₁) hTh hW₁⟩)
  dsimp only [Pt.U, Pt.locs, Pt.cells, Pt.slots] at X' e1 e2 e3 g1 g2 g4 g5 g6 hst
  subst e1; subst e2; subst e3
  have hsz : (T.setVm vm₁).heap = H := hTh
  rw [hsz] at g1 g5 g6
  refine ⟨q, U', ce, X', g1, g2, g3, ?_, g5, g6, hst⟩
  rw [← hW₁.alike.findClass]
  exact g4
theorem gt_runS {p : Program} {l : Launch} {e : Env} {s : State} {m : MethodId} {args : Array Value} {below : List Frame} {meth : Method} {c : Code} {H : Heap} {locs : List Loc} {Pc : Array Value → State → Prop} {i na : Nat} {As rest : List Value} {g : JFrame}
    (S : CallFix p m c cc nL s args gw_T own) (hM : MetFree l y (headSpec (Cond.code y b mL ret :: gw_T) rm) Pc (fun _ _ _ _ _ => True) (gt_Q kd rm.cells rm.slots)) (hl0 : Cond.methodLink own i y ∈ gw_T) (hV : gw_S own i y b mL ret na) (hR : rm.frames + 1 ≤ R.frames ∧ 8 + (mL + 11) + rm.locals ≤ R.locals) (hp : PreS s H Pc As)
    (hg : g.method = m) (hn : As.length = na) (hsize : g.locals.size = nL) (hstack : g.stack = As.reverse ++ rest) (hW : 2 * g.monitorRoom + (rest.map fun v => v.category).sum ≤ 8) (hdg : decode cc g.pc = .ok (.invokestatic i, 3)) (hf : k + rm.cells ≤ R.cells ∧ n + rm.slots ≤ R.slots) :
    gt_Z p l e R s m args below meth c H locs k n rm.cells rm.slots kd g rest := by
  obtain ⟨hx, hb, hml, hown, hts⟩ := S
  obtain ⟨-, hi, hin, hcd, hne, hpar⟩ := hV
  obtain ⟨hbl, hPc⟩ := hp
  intro T hTh X
  have hK' := gt_back (R := R) (p := p) (e := e) (below := below) (s := s) (sargs := args) hM hbl hR (pay_in hts (gw_good hcd)) (fun a' U hW => word_at hW (good_of_word (List.mem_filter.mp hin).2) (hts _ hin))
  obtain ⟨q, vm₁, ⟨U', l2, c2, s2⟩, hW₁, X', ⟨e1, e2, e3, ce, g1, g2, g3, g4, g5, g6⟩, hst⟩ := gt_callS X hx hown (hts _ hl0) (hts _ hi) (hts _ hin) (hts _ hcd) hne hK' hg (hsize.trans hml.symm) (argsL := As) (rest := rest) (fun sig h => by rw [h] at hpar; exact hn.trans (Option.some.inj hpar).symm) hstack hW (by rw [hb]; exact hdg)
    (fun vm₁ hW₁ => ⟨hf.1, hf.2, hPc (T.setVm vm₁) hTh hW₁⟩)
  dsimp only [Pt.U, Pt.locs, Pt.cells, Pt.slots] at X' e1 e2 e3 g1 g2 g4 g5 g6 hst
  subst e1; subst e2; subst e3
  have hsz : (T.setVm vm₁).heap = H := hTh
  rw [hsz] at g1 g5 g6
  refine ⟨q, U', ce, X', g1, g2, g3, ?_, g5, g6, hst⟩
  rw [← hW₁.alike.findClass]
  exact g4
theorem gx_tV (hC : gw_C N w own cc nL x) (hT : gt_X R kd x) {i na o ci : Nat} {fs : List gv_V} (hd : decode cc pc = .ok (.invokevirtual i, 3)) (hl0 : Cond.methodLink own i y ∈ gw_T) (hV : gw_V own i y b mL ret na) (hM : gm_X N (gx_l x) (gx_D x) (gx_ad x) (gx_ck x) y b mL ret rm (gv_R o :: as) cf kd) (hn : as.length = na) (hR : rm.frames + 1 ≤ R.frames ∧ 8 + (mL + 11) + rm.locals ≤ R.locals) (hf : k + rm.cells ≤ R.cells ∧ n + rm.slots ≤ R.slots) (ho : o < N) (hci : ∃ (T : u_T) (M : Nat), vwCl[ci]? = some (y.cls, T, M)) (hc : cf o = gc_O ci fs) (hst : stk = as.reverse ++ gv_R o :: st) (hcat : gv_w st ≤ 8) : gw_G N nL R x k n cf pc lv stk := by
  obtain ⟨p, l, e, s, m, args, below, meth, c, Q, D, A, ad, ck⟩ := x
  obtain ⟨hx, hb, hml, hown, hts, hnw, hK, hA, hij, hAd, hlk, hAg, hE⟩ := hC
  obtain ⟨t1, t2, t3, t4, t5⟩ := hT
  subst hst
  intro H locs ls hP hS hl
  obtain ⟨T0, M0, hci⟩ := hci
  refine va_forget (fun q hq => t4 _ (hS.2.2 q hq)) ?_
  intro T hTh X
  obtain ⟨q, T', ce, X', g1, g2, g3, g4, g5, g6, hst⟩ := gt_runV (As := as.map (gv_v ad)) (rest := st.map (gv_v ad)) (o := ad o) ⟨hx, hb, hml, hown, hts⟩ (hM H.size) hl0 hV hR ⟨gm_blind, va_recv hK hP hci (gw_atE ho hc), fun U hU hW => ⟨rfl, by rw [hU], by rw [hU]; exact hP, va_K.moved hW.alike hK, gw_warm hW hnw, hij, hE.go hU hW hAg hS⟩⟩ (g := F0 m pc ls ((as.reverse ++ gv_R o :: st).map (gv_v ad))) rfl (by simpa using hn) hl.1 (by simp [gv_v]) (lv_room (by rw [gv_w_sum]; exact hcat)) hd hf T hTh X
  obtain ⟨st2, hrun, hend, hWU, hsame⟩ := X'.leaveThrown q (g := { F0 m pc ls ((as.reverse ++ gv_R o :: st).map (gv_v ad)) with stack := st.map (gv_v ad) }) rfl rfl rfl (fun z hz => t2 z hz _) t3
  exact ⟨_, hst.trans st2, t5 _ q ce hrun hend hWU (hsame.weaken (fun q hq _ => hq) hf.1 hf.2) g2 g3 g4 (Nat.le_trans hS.1 g1)⟩
theorem gx_tS (hC : gw_C N w own cc nL x) (hT : gt_X R kd x) {i na : Nat} (hd : decode cc pc = .ok (.invokestatic i, 3)) (hl0 : Cond.methodLink own i y ∈ gw_T) (hV : gw_S own i y b mL ret na) (hM : gm_X N (gx_l x) (gx_D x) (gx_ad x) (gx_ck x) y b mL ret rm as cf kd) (hn : as.length = na) (hR : rm.frames + 1 ≤ R.frames ∧ 8 + (mL + 11) + rm.locals ≤ R.locals) (hf : k + rm.cells ≤ R.cells ∧ n + rm.slots ≤ R.slots) (hst : stk = as.reverse ++ st) (hcat : gv_w st ≤ 8) : gw_G N nL R x k n cf pc lv stk := by
  obtain ⟨p, l, e, s, m, args, below, meth, c, Q, D, A, ad, ck⟩ := x
  obtain ⟨hx, hb, hml, hown, hts, hnw, hK, hA, hij, hAd, hlk, hAg, hE⟩ := hC
  obtain ⟨t1, t2, t3, t4, t5⟩ := hT
  subst hst
  intro H locs ls hP hS hl
  refine va_forget (fun q hq => t4 _ (hS.2.2 q hq)) ?_
  intro T hTh X
  obtain ⟨q, T', ce, X', g1, g2, g3, g4, g5, g6, hst⟩ := gt_runS (As := as.map (gv_v ad)) (rest := st.map (gv_v ad)) ⟨hx, hb, hml, hown, hts⟩ (hM H.size) hl0 hV hR ⟨gm_blind, fun U hU hW => ⟨rfl, by rw [hU], by rw [hU]; exact hP, va_K.moved hW.alike hK, gw_warm hW hnw, hij, hE.go hU hW hAg hS⟩⟩ (g := F0 m pc ls ((as.reverse ++ st).map (gv_v ad))) rfl (by simpa using hn) hl.1 (by simp) (lv_room (by rw [gv_w_sum]; exact hcat)) hd hf T hTh X
  obtain ⟨st2, hrun, hend, hWU, hsame⟩ := X'.leaveThrown q (g := { F0 m pc ls ((as.reverse ++ st).map (gv_v ad)) with stack := st.map (gv_v ad) }) rfl rfl rfl (fun z hz => t2 z hz _) t3
  exact ⟨_, hst.trans st2, t5 _ q ce hrun hend hWU (hsame.weaken (fun q hq _ => hq) hf.1 hf.2) g2 g3 g4 (Nat.le_trans hS.1 g1)⟩
/-- the handlers of a method -/
def gh_e (h : Nat × Nat × Nat × Nat) : ExceptionTableEntry := ⟨h.1, h.2.1, h.2.2.1, h.2.2.2⟩
def gh_T (hs : List (Nat × Nat × Nat × Nat)) : gx_X → Prop
  | (_, _, _, _, _, _, _, _, c, _, _, _, _, _) => c.exceptionTable.toList = hs.map gh_e
theorem gh_of {l : List ExceptionTableEntry} {hs : List (Nat × Nat × Nat × Nat)} (h : l.map (fun h => (h.startPc, h.endPc, h.handlerPc, h.catchType)) = hs) : l = hs.map gh_e := by
  rw [← h, List.map_map]
  have : (gh_e ∘ fun h : ExceptionTableEntry => (h.startPc, h.endPc, h.handlerPc, h.catchType)) = id := by
    funext z
    rfl
  rw [this, List.map_id]
/-- the handler h catches what is thrown by kind: those before it don't -/
def gh_C (own : String) (kd : Nat) (pre : List (Nat × Nat × Nat × Nat)) (h : Nat × Nat × Nat × Nat) (pc : Nat) : Prop :=
  covers (gh_e h) pc = true ∧ h.2.2.2 ≠ 0 ∧ Cond.classLink own h.2.2.2 (gt_N kd) ∈ gw_T ∧ Cond.castable (gt_N kd) (gt_N kd) ∈ gk_Tw ∧
  (∀ g ∈ pre, kd = 2 ∧ g.2.2.2 ≠ 0 ∧ Cond.classLink own g.2.2.2 (gt_N 1) ∈ gw_T)
theorem gx_cV (hC : gw_C N w own cc nL x) {pre rst : List (Nat × Nat × Nat × Nat)} {hh : Nat × Nat × Nat × Nat} (hH : gh_T (pre ++ hh :: rst) x) (hG : gh_C own kd pre hh pc) {i na o ci j len : Nat} {fs : List gv_V} (hd : decode cc pc = .ok (.invokevirtual i, 3)) (hda : (∃ j4 : Fin 4, j4.val = j ∧ decode cc hh.2.2.1 = .ok (.astore_n j4, 1) ∧ len = 1) ∨ (decode cc hh.2.2.1 = .ok (.astore j, 2) ∧ len = 2)) (hj : j < nL) (hl0 : Cond.methodLink own i y ∈ gw_T) (hV : gw_V own i y b mL ret na) (hM : gm_X N (gx_l x) (gx_D x) (gx_ad x) (gx_ck x) y b mL ret rm (gv_R o :: as) cf kd) (hn : as.length = na) (hR : rm.frames + 1 ≤ R.frames ∧ 8 + (mL + 11) + rm.locals ≤ R.locals) (hf : k + rm.cells ≤ R.cells ∧ n + rm.slots ≤ R.slots) (ho : o < N) (hci : ∃ (T : u_T) (M : Nat), vwCl[ci]? = some (y.cls, T, M)) (hc : cf o = gc_O ci fs) (hst : stk = as.reverse ++ gv_R o :: st) (hcat : gv_w st ≤ 8)
    (kk : gw_G N nL R x (k + rm.cells) (n + rm.slots) cf (hh.2.2.1 + len) [] []) : gw_G N nL R x k n cf pc lv stk := by
  obtain ⟨p, l, e, s, m, args, below, meth, c, Q, D, A, ad, ck⟩ := x
  obtain ⟨hx, hb, hml, hown, hts, hnw, hK, hA, hij, hAd, hlk, hAg, hE⟩ := hC
  subst hst
  intro H locs ls hP hS hl
  obtain ⟨T0, M0, hci⟩ := hci
  intro T hTh X
  obtain ⟨q, T', ce, X', g1, g2, g3, g4, g5, g6, hst⟩ := gt_runV (As := as.map (gv_v ad)) (rest := st.map (gv_v ad)) (o := ad o) ⟨hx, hb, hml, hown, hts⟩ (hM H.size) hl0 hV hR ⟨gm_blind, va_recv hK hP hci (gw_atE ho hc), fun U hU hW => ⟨rfl, by rw [hU], by rw [hU]; exact hP, va_K.moved hW.alike hK, gw_warm hW hnw, hij, hE.go hU hW hAg hS⟩⟩ (g := F0 m pc ls ((as.reverse ++ gv_R o :: st).map (gv_v ad))) rfl (by simpa using hn) hl.1 (by simp [gv_v]) (lv_room (by rw [gv_w_sum]; exact hcat)) hd hf T hTh X
  obtain ⟨c1, c2, c3, c4, c5⟩ := hG
  have hpl : e.platform.magicAccessors = ({} : Platform).magicAccessors := by rw [X.admits.platform]
  have hcast : (Cond.castable (gt_N kd) (gt_N kd)).before args s = true := by
    have h9 := Cond.tabsOnly_warm (args' := args) (T := s) (State.WarmedH.refl s) _ (List.mem_filter.mp c4).2 (hE.2.2.1.1 _ c4)
    rwa [State.setVm_self] at h9
  obtain ⟨d3, d4, hd3, hd4, hasg⟩ := Cond.castable_spec hcast
  cases hd3.symm.trans g4
  cases hd4.symm.trans g4
  obtain ⟨hend, hk0⟩ := X'.catches_of_link (x := gh_e hh) hown c2 (hts _ c3) g4 hasg
  have hpass : ∀ z ∈ pre.map gh_e, RowPassed e.platform s m.cls pc ce.cls z := by
    intro z hz
    obtain ⟨g, hg, rfl⟩ := List.mem_map.mp hz
    obtain ⟨e1, e2, e3⟩ := c5 g hg
    subst e1
    obtain ⟨c', hc', hcl⟩ := Cond.classLink_spec hown (hts _ e3) e.platform hpl
    exact Or.inr ⟨e2, c', hcl, hE.2.2.2.2.2.2.2.2.2.2 _ _ g4 hc'⟩
  obtain ⟨vm', XV, stV⟩ := X'.thenCaughtThrough q (g := { F0 m pc ls ((as.reverse ++ gv_R o :: st).map (gv_v ad)) with stack := st.map (gv_v ad) }) rfl hst g2 (by rw [g3]; rfl) hk0 (pre.map gh_e) (gh_e hh) (rst.map gh_e) (by rw [show c.exceptionTable.toList = (pre ++ hh :: rst).map gh_e from hH, List.map_append, List.map_cons]) hpass c1 hend
  have hP' : va_P D vwCl (gw_L N ad ck cf) T'.heap := hP.kept (fun k' q' hq => g5 _ (hP k' q' hq).lt)
  have hS' : va_S A s.heap T'.heap locs := ⟨Nat.le_trans hS.1 g6, fun a h1 h2 => by rw [g5 a (Nat.lt_of_lt_of_le h1 hS.1)]; exact hS.2.1 a h1 h2, hS.2.2⟩
  have Wh : W p l e R s m args below meth c T'.heap locs (k + rm.cells) (n + rm.slots) Q (F0 m hh.2.2.1 ls [.ref q]) := by
    rcases hda with ⟨j4, hj4, hda, rfl⟩ | ⟨hda, rfl⟩
    · exact lv_astore_n hx hb hda hj4 hl hj rfl (fun ls' h' => kk T'.heap locs ls' hP' hS' ⟨h'.1, h'.2.1, fun z hz => by cases hz⟩)
    · exact lv_astore hx hb hda hl hj rfl (fun ls' h' => kk T'.heap locs ls' hP' hS' ⟨h'.1, h'.2.1, fun z hz => by cases hz⟩)
  obtain ⟨t, a1, b1⟩ := Wh (T'.setVm vm') rfl XV
  exact ⟨t, stV.trans a1, b1⟩
end GTY
/-! A METHOD WITH HANDLERS, static, an int for its answer: its contract, the call -/
def gm_W (N w : Nat) (l : Launch) (D : va_G) (ad : Nat → Nat) (ck : Nat → ClassId) (y : MethodName) (b : ByteArray) (nL : Nat) (hs : List (Nat × Nat × Nat × Nat)) (rm : Room) (as : List gv_V) (cf : Nat → gc_T) (post : Int32 → (Nat → gc_T) → Prop) : Prop :=
  ∀ sz, MetFree l y (headSpec (Cond.codeWith y b nL (some .int) hs :: gw_T) rm) (gm_P N D ad ck as cf sz) (fun _ _ _ _ _ => True) (fun a st o t => va_Qi (fun (r : Int32) (c2 : Nat → gc_T) => post r c2) (fun c2 t => va_P D vwCl (gw_L N ad ck c2) t.heap) (gm_A w ad sz) a st o t ∧ ∃ L, FrameEnd st o t L rm.cells rm.slots ∧ ∀ q ∈ L, gm_A w ad sz q.base)
theorem gm_W.of {N w : Nat} {l : Launch} {D : va_G} {ad : Nat → Nat} {ck : Nat → ClassId} {y : MethodName} {b : ByteArray} {nL : Nat} {hs : List (Nat × Nat × Nat × Nat)} {rm : Room} {as : List gv_V} {cf : Nat → gc_T} {post : Int32 → (Nat → gc_T) → Prop} (hy : plainName y.cls = true) (hw : gv_w as ≤ nL)
    (h : ∀ x : gx_X, gx_l x = l → gx_D x = D → gx_ad x = ad → gx_ck x = ck → gw_C N w y.cls b nL x → gh_T hs x → gr_I N b nL .int rm x post → gw_G N nL rm x 0 0 cf 0 (gv_args 0 as) []) (hw81 : w ≤ 81 := by decide) : gm_W N w l D ad ck y b nL hs rm as cf post := by
  intro sz
  refine MetFree.of_bodyS (code := b) (maxLocals := nL) (ret := some .int) hy ?_ ?_
  · intro args s m h hn
    obtain ⟨m', meth, c, hn', h1, h2, h3, h4, -, h5, h6, -⟩ := Cond.codeWith_spec (atoms_spec (ws := Cond.codeWith y b nL (some .int) hs :: gw_T) h _ List.mem_cons_self)
    cases hn.symm.trans hn'
    exact ⟨meth, c, h1, h2, h3, h4, h5, h6⟩
  · intro p e s m args below meth c s₁ B hml hv _
    have hts := atoms_spec (ws := Cond.codeWith y b nL (some .int) hs :: gw_T) B.pre
    obtain ⟨rfl, hsz, hP, hK, hnw, hij, hE⟩ := hv
    have hh0 : s₁.heap = s.heap := by rw [B.state]; rfl
    have X := Stand.of_body B
    have hown : s.vm.findClass y.cls = some m.cls := findClass_of_methodNamed B.named
    have hl := lv_entry (as.map (gv_v ad)) (n := nL) (by rw [gv_w_len]; exact hw)
    rw [gv_args_eq] at hl
    have hex : c.exceptionTable.toList = hs.map gh_e := by
      obtain ⟨m', meth', c', hn', h1, h2, -, -, h5, -, -, -⟩ := Cond.codeWith_spec (hts _ List.mem_cons_self)
      cases hn'.symm.trans B.named
      cases h1.symm.trans B.method
      cases h2.symm.trans X.code
      exact gh_of h5
    obtain ⟨t, a1, o, b1, b2, b3⟩ := h (p, l, e, s, m, (as.map (gv_v ad)).toArray, below, meth, c, MQ below (va_Qi (fun (r : Int32) (c2 : Nat → gc_T) => post r c2) (fun c2 t => va_P D vwCl (gw_L N ad ck c2) t.heap) (gm_A w ad sz)) (as.map (gv_v ad)).toArray s rm.cells rm.slots (gm_A w ad sz), D, gm_A w ad sz, ad, ck) rfl rfl rfl rfl
      ⟨B.exec, B.bytes, hml, hown, fun w hw => hts w (List.mem_cons_of_mem _ hw), hnw, hK, fun q hq => Or.inr (by rw [← hsz]; exact hq), hij, fun i hi => Or.inl ⟨i, hi, rfl⟩, B.notSynchronized, gm_Age hw81 hE hsz, hE⟩
      hex (by
        intro z c2 k n pc lv hk hn hd hnar hpost
        intro H1 locs1 ls1 hP1 hS1 hl1
        refine W.widen (k := rm.cells) (n := rm.slots) hk hn ?_
        exact W.zret B.exec B.bytes B.returns hnar (fun t ht hW => ⟨⟨z, c2, rfl, hpost, by show va_P D vwCl (gw_L N ad ck c2) t.heap; rw [ht]; exact hP1⟩, hS1.F ht⟩) hS1.2.2 hd B.notSynchronized)
      s.heap [] _ hP va_S.rf hl s₁ hh0 X
    refine ⟨t, o, ?_, b1, b2, b3⟩
    rw [lg_entry_eq]
    exact a1
section GWS
variable {N w w2 nL : Nat} {own : String} {cc : ByteArray} {R : Room} {x : gx_X} {k n : Nat} {cf : Nat → gc_T} {pc : Nat} {lv : List (Nat × gv_V)} {st stk : List gv_V} {y : MethodName} {b : ByteArray} {mL : Nat} {hs : List (Nat × Nat × Nat × Nat)} {rm : Room} {as : List gv_V}
def gw_Y (own : String) (i : Nat) (y : MethodName) (b : ByteArray) (mL : Nat) (hs : List (Nat × Nat × Nat × Nat)) (na : Nat) : Prop := Cond.methodLink own i y ∈ gw_T ∧ Cond.static y ∈ gw_T ∧ Cond.initialized y.cls ∈ gw_T ∧ Cond.codeWith y b mL (some .int) hs ∈ gw_T ∧ (y.cls ≠ "java/lang/invoke/MethodHandle" ∧ y.cls ≠ "java/lang/invoke/VarHandle") ∧ (parseMethodDescriptor y.desc).map (fun d => d.parameters.length) = some na
theorem gx_sW (hC : gw_C N w own cc nL x) {i na : Nat} {post : Int32 → (Nat → gc_T) → Prop} (hd : decode cc pc = .ok (.invokestatic i, 3)) (hV : gw_Y own i y b mL hs na) (hM : gm_W N w2 (gx_l x) (gx_D x) (gx_ad x) (gx_ck x) y b mL hs rm as cf post) (hn : as.length = na) (hw2 : w2 ≤ w) (hR : rm.frames + 1 ≤ R.frames ∧ 8 + (mL + 11) + rm.locals ≤ R.locals) (hf : k + rm.cells ≤ R.cells ∧ n + rm.slots ≤ R.slots) (hst : stk = as.reverse ++ st) (hcat : gv_w st ≤ 8)
    (kk : ∀ (z : Int32) (c2 : Nat → gc_T), post z c2 → gw_G N nL R x (k + rm.cells) (n + rm.slots) c2 (pc + 3) lv (gv_I z :: st)) : gw_G N nL R x k n cf pc lv stk := by
  obtain ⟨p, l, e, s, m, args, below, meth, c, Q, D, A, ad, ck⟩ := x
  obtain ⟨hx, hb, hml, hown, hts, hnw, hK, hA, hij, hAd, hlk, hAg, hE⟩ := hC
  obtain ⟨y1, y2, y3, y4, y5, y6⟩ := hV
  subst hst
  intro H locs ls hP hS hl
  have hFc := gm_free (N := w2) hAd hw2 hA hS
  have hgood : GoodIn gw_T (Cond.codeWith y b mL (some .int) hs :: gw_T) := by
    intro w hw
    rcases List.mem_cons.mp hw with rfl | hw
    · exact ⟨y4, Or.inl rfl⟩
    · exact ⟨hw, good_of_word (List.mem_filter.mp hw).2⟩
  have hws := pay_in hts hgood
  have hK' : Back l R p e below s args y 3 8 (PreOf R rm.cells rm.slots (gm_P N D ad ck as cf H.size)) (PostOf (va_Qi (fun (r : Int32) (c2 : Nat → gc_T) => post r c2) (fun c2 t => va_P D vwCl (gw_L N ad ck c2) t.heap) (gm_A w2 ad H.size)) rm.cells rm.slots (gm_A w2 ad H.size)) := by
    refine Back.of_freeWith (handlers := hs) (S := headSpec (Cond.codeWith y b mL (some .int) hs :: gw_T) rm) (P := gm_P N D ad ck as cf H.size) (bytes := b) (maxL := mL) (ret := some .int) (E := fun a st o t L k n => k = rm.cells ∧ n = rm.slots ∧ ∀ q ∈ L, gm_A w2 ad H.size q.base) (hM H.size) hR.1 hR.2 ?_ ?_ (fun _ _ _ _ _ _ _ _ _ => trivial) ?_ ?_
    · intro m meth c A a X hp
      exact ⟨atoms_intro fun w hw => hws w hw _ _ X.warmed, hws _ List.mem_cons_self _ _ X.warmed, word_at X.warmed (good_of_word (List.mem_filter.mp y3).2) (hts _ y3), hp.1, hp.2.1⟩
    · intro m meth c A a g mk X hp
      exact gm_blind _ _ _ _ hp.2.2
    · intro a st o t ⟨hq, L, hF, hL⟩
      exact ⟨L, rm.cells, rm.slots, hF, rfl, rfl, hL⟩
    · intro m meth c A a g mk v t L k n X hp hq hF ⟨e1, e2, hL⟩
      subst e1; subst e2
      exact ⟨g, mk, t, L, rfl, rfl, hq.1, rfl, hL, rfl, rfl⟩
  have hrun : va_Run p l e R s m args below meth c H locs k n rm.cells rm.slots (F0 m pc ls ((as.reverse ++ st).map (gv_v ad))) (st.map (gv_v ad)) (va_Qi (fun (r : Int32) (c2 : Nat → gc_T) => post r c2) (fun c2 t => va_P D vwCl (gw_L N ad ck c2) t.heap) (gm_A w2 ad H.size) (as.map (gv_v ad)).toArray) (gm_A w2 ad H.size) := by
    intro T hT X
    obtain ⟨mk, methM, cM, hnamed, hmethM, -, -, -, -, -, -, hsigM⟩ := Cond.codeWith_spec (hts _ y4)
    have hstatic : methM.isStatic = true := Cond.static_spec hnamed hmethM (hts _ y2)
    obtain ⟨kP, hkP, -⟩ := className_of_methodNamed hnamed
    have hinitP : kP.init = .initialized := Cond.initialized_spec (findClass_of_methodNamed hnamed) hkP (hts _ y3)
    obtain ⟨vm₁, X₁, hstep₁⟩ := X.invokestatic hx hown (hts _ y1) hnamed hmethM hstatic hkP hinitP y5 (g := F0 m pc ls ((as.reverse ++ st).map (gv_v ad))) rfl (argsL := as.map (gv_v ad)) (rest := st.map (gv_v ad)) (by rw [hsigM] at y6; simp only [List.length_map]; exact hn.trans (Option.some.inj y6).symm) (by simp) (by rw [hb]; exact hd)
    obtain ⟨v, ⟨U', l2, c2, s2⟩, X', ⟨g', mk', t, L, e1, e2, hq, h1, hL, h2, h3⟩, hsteps⟩ := hK' m meth c ⟨T.setVm vm₁, locs, k, n⟩ { F0 m pc ls ((as.reverse ++ st).map (gv_v ad)) with stack := st.map (gv_v ad) } (.invokestatic i) mk (as.map (gv_v ad)).toArray X₁ rfl (hl.1.trans hml.symm) (by rw [hb]; exact hd) (lv_room (by rw [gv_w_sum]; exact hcat)) (X₁.named hnamed)
      ⟨hf.1, hf.2, rfl, by show T.heap.size = H.size; rw [hT], by show va_P D vwCl (gw_L N ad ck cf) T.heap; rw [hT]; exact hP, va_K.moved X₁.warmed.alike hK, gw_warm X₁.warmed hnw, hij, hE.go hT X₁.warmed hAg hS⟩
    dsimp only [Pt.U, Pt.locs, Pt.cells, Pt.slots] at X' e1 e2 h1 h2 h3 hsteps
    subst h1; subst h2; subst h3
    exact ⟨v, (T.setVm vm₁).calling g' mk' (as.map (gv_v ad)).toArray, t, U', L, hT, X', hL, e1, e2, hq, fun target h => hstep₁ _ fun acts => by rw [doInvoke_state]; exact hsteps.trans h⟩
  exact va_calli hrun hS (fun q _ h => hFc q h) hFc (fun r u t H1 locs1 ht hvm hq hB hz1 hk1 hS1 => kk r u hq H1 locs1 ls (by rw [← ht]; exact hB) hS1 hl)
end GWS
end
section
/-! ROWS FOR: the two static tables, System.arraycopy, an answer that is an array -/
def gz_cpy (f g : Int → Int32) (n : Int) : Int → Int32 := fun z => if 0 ≤ z ∧ z < n then f z else g z
def gw_Cp (own : String) (i : Nat) : Prop := Cond.methodLink own i arraycopyName ∈ gw_T ∧ Cond.native arraycopyName ∈ gw_T ∧ Cond.static arraycopyName ∈ gw_T ∧ Cond.initialized "java/lang/System" ∈ gw_T
theorem lj_copy : gw_Cp "PinSwaps$History" 24 := ⟨gw_in 284 (by decide +kernel) (by decide +kernel), gw_in 286 (by decide +kernel) (by decide +kernel), gw_in 285 (by decide +kernel) (by decide +kernel), gw_in 69 (by decide +kernel) (by decide +kernel)⟩
theorem gz_cpe (f g : Int → Int32) {n : Int32} (h0 : 0 ≤ n.toInt) : va_cpy (fun j : Nat => f (j : Int)) (fun j : Nat => g (j : Int)) (0 : Int32).toNatClampNeg (0 : Int32).toNatClampNeg n.toNatClampNeg = fun j : Nat => gz_cpy f g n.toInt (j : Int) := by
  funext j
  have e0 : (0 : Int32).toNatClampNeg = 0 := rfl
  have e1 : (n.toNatClampNeg : Int) = n.toInt := gz_ix h0
  unfold va_cpy gz_cpy
  rw [e0]
  by_cases h : j < n.toNatClampNeg
  · rw [if_pos (by omega), if_pos (by omega)]
    congr 1
    omega
  · rw [if_neg (by omega), if_neg (by omega)]
section GXM
variable {N w w2 nL : Nat} {own : String} {cc : ByteArray} {R : Room} {x : gx_X} {k n : Nat} {cf : Nat → gc_T} {pc : Nat} {lv : List (Nat × gv_V)} {st stk : List gv_V} {y : MethodName} {b : ByteArray} {mL : Nat} {rt : FieldType} {rm : Room} {as : List gv_V}
theorem gx_copy (hC : gw_C N w own cc nL x) (hw : N ≤ w) {i o1 o2 l1 l2 : Nat} {f g : Int → Int32} {nn : Int32} {cf2 : Nat → gc_T} (hd : decode cc pc = .ok (.invokestatic i, 3)) (hj : gw_Cp own i) (ho1 : o1 < N) (ho2 : o2 < N) (hc1 : cf o1 = gc_I 0 l1 f) (hc2 : cf o2 = gc_I 0 l2 g) (h0 : 0 ≤ nn.toInt ∧ nn.toInt ≤ (l1 : Int) ∧ nn.toInt ≤ (l2 : Int)) (hu : gc_up cf o2 (gc_I 0 l2 (gz_cpy f g nn.toInt)) cf2) (hf : 1 ≤ R.frames) (hlo : gv_w st + (nativeFrameWords "java/lang/System" "arraycopy" 5 + 11) ≤ R.locals)
    (kk : gw_G N nL R x k n cf2 (pc + 3) lv st) : gw_G N nL R x k n cf pc lv (gv_I nn :: gv_I 0 :: gv_R o2 :: gv_I 0 :: gv_R o1 :: st) := by
  obtain ⟨p, l, e, s, m, args, below, meth, c, Q, D, A, ad, ck⟩ := x
  obtain ⟨hx, hb, hml, hown, hts, hnw, hK, hA, hij, hAd, hlk⟩ := hC
  obtain ⟨j1, j2, j3, j4⟩ := hj
  intro H locs ls hP hS hl
  have e1 : (nn.toNatClampNeg : Int) = nn.toInt := gz_ix h0.1
  have e0 : (0 : Int32).toNatClampNeg = 0 := rfl
  refine va_copyi (n0 := l1) (n1 := l2) (f := fun j : Nat => f (j : Int)) (g := fun j : Nat => g (j : Int)) (ty := .int) (sp := 0) (dp := 0) (n := nn) hx hb (hml.trans hl.1.symm) hown (hts _ j1) (hts _ j2) (hts _ j3) (hts _ j4) hK hP (gw_D hij (fun i hi => hAd i (Nat.lt_of_lt_of_le hi hw))) hS o1 o2 0 0 (gw_atE ho1 hc1) (gw_atE ho2 hc2) rfl rfl rfl (by decide) (by decide) ?_ (by rw [e0]; omega) (by rw [e0]; omega) (fun _ _ => rfl) hf (by rw [gv_w_sum]; exact hlo) hd ?_
  · intro z
    have z1 := Int32.lt_iff_toInt_lt.mp z
    have z2 : (0 : Int32).toInt = 0 := rfl
    omega
  · intro H1 locs1 hP1 hD1 hS1
    rw [gz_cpe f g h0.1] at hP1
    have hP2 : va_P D vwCl (gw_L N ad ck cf2) H1 := by
      rw [← gw_set ho2 hu]
      exact hP1
    exact kk H1 locs1 ls hP2 hS1 hl
theorem gx_ord (hC : gw_C N w "PinSwaps$Gates" cc nL x) (hd : decode cc pc = .ok (.getstatic 25, 3)) (kk : gw_G N nL R x k n cf (pc + 3) lv (gv_R 90 :: st)) : gw_G N nL R x k n cf pc lv st := by
  obtain ⟨p, l, e, s, m, args, below, meth, c, Q, D, A, ad, ck⟩ := x
  obtain ⟨hx, hb, hml, hown, hts, hnw, hK, hA, hij, hAd, hlk, hAg, hE⟩ := hC
  intro H locs ls hP hS hl
  refine va_gets hx hb (hE.2.2.2.2.2.2.1.narrow hAg) hS hown (hts _ (gw_in 646 (by decide +kernel) (by decide +kernel))) (fun _ z => z) hd ?_
  have h := kk H locs ls hP hS hl
  rw [List.map_cons, show gv_v ad (gv_R 90) = .ref (ad 90) from rfl, hE.1.2.1] at h
  exact h
theorem gx_cnt (hC : gw_C N w "PinSwaps$Gates" cc nL x) (hd : decode cc pc = .ok (.getstatic 22, 3)) (kk : gw_G N nL R x k n cf (pc + 3) lv (gv_R 91 :: st)) : gw_G N nL R x k n cf pc lv st := by
  obtain ⟨p, l, e, s, m, args, below, meth, c, Q, D, A, ad, ck⟩ := x
  obtain ⟨hx, hb, hml, hown, hts, hnw, hK, hA, hij, hAd, hlk, hAg, hE⟩ := hC
  intro H locs ls hP hS hl
  refine va_gets hx hb (hE.2.2.2.2.2.2.2.2.1.narrow hAg) hS hown (hts _ (gw_in 644 (by decide +kernel) (by decide +kernel))) (fun _ z => z) hd ?_
  have h := kk H locs ls hP hS hl
  rw [List.map_cons, show gv_v ad (gv_R 91) = .ref (ad 91) from rfl, hE.1.2.2] at h
  exact h
theorem gx_t90 (hC : gw_C N w own cc nL x) {z : Int32} (hd : decode cc pc = .ok (.iaload, 1)) (hz : 0 ≤ z.toInt ∧ z.toInt < ((24 : Nat) : Int)) (kk : gw_G N nL R x k n cf (pc + 1) lv (gv_I (gk_ord.getD z.toInt.toNat 0) :: st)) : gw_G N nL R x k n cf pc lv (gv_I z :: gv_R 90 :: st) := by
  obtain ⟨p, l, e, s, m, args, below, meth, c, Q, D, A, ad, ck⟩ := x
  obtain ⟨hx, hb, hml, hown, hts, hnw, hK, hA, hij, hAd, hlk, hAg, hE⟩ := hC
  intro H locs ls hP hS hl
  rw [List.map_cons, List.map_cons, show gv_v ad (gv_R 90) = .ref (ad 90) from rfl, hE.1.2.1]
  exact va_ti hx hb (hE.2.2.2.2.2.2.2.1.narrow hAg) hS (gv_vin hz) rfl hd (kk H locs ls hP hS hl)
theorem gx_t91 (hC : gw_C N w own cc nL x) {z : Int32} (hd : decode cc pc = .ok (.iaload, 1)) (hz : 0 ≤ z.toInt ∧ z.toInt < ((5 : Nat) : Int)) (kk : gw_G N nL R x k n cf (pc + 1) lv (gv_I (gk_cnt.getD z.toInt.toNat 0) :: st)) : gw_G N nL R x k n cf pc lv (gv_I z :: gv_R 91 :: st) := by
  obtain ⟨p, l, e, s, m, args, below, meth, c, Q, D, A, ad, ck⟩ := x
  obtain ⟨hx, hb, hml, hown, hts, hnw, hK, hA, hij, hAd, hlk, hAg, hE⟩ := hC
  intro H locs ls hP hS hl
  rw [List.map_cons, List.map_cons, show gv_v ad (gv_R 91) = .ref (ad 91) from rfl, hE.1.2.2]
  exact va_ti hx hb (hE.2.2.2.2.2.2.2.2.2.1.narrow hAg) hS (gv_vin hz) rfl hd (kk H locs ls hP hS hl)
def gm_R (N w : Nat) (l : Launch) (D : va_G) (ad : Nat → Nat) (ck : Nat → ClassId) (y : MethodName) (b : ByteArray) (nL : Nat) (rm : Room) (as : List gv_V) (cf : Nat → gc_T) (post : Nat → (Nat → gc_T) → Prop) : Prop :=
  ∀ sz, Met l y (Cond.code y b nL (some (.array .int)) :: gw_T) rm (gm_P N D ad ck as cf sz) (va_Qr (fun (u : Nat × (Nat → gc_T)) => post u.1 u.2) (fun u a t => a = ad u.1 ∧ va_P D vwCl (gw_L N ad ck u.2) t.heap) (gm_A w ad sz)) rm.cells rm.slots (gm_A w ad sz)
def gr_R (N : Nat) (b : ByteArray) (nL : Nat) (rm : Room) (x : gx_X) (post : Nat → (Nat → gc_T) → Prop) : Prop := ∀ {z : Nat} {c2 : Nat → gc_T} {k n pc : Nat} {lv : List (Nat × gv_V)}, k ≤ rm.cells → n ≤ rm.slots → decode b pc = .ok (.areturn, 1) → post z c2 → gw_G N nL rm x k n c2 pc lv [gv_R z]
theorem gm_R.of {l : Launch} {D : va_G} {ad : Nat → Nat} {ck : Nat → ClassId} {nL : Nat} {post : Nat → (Nat → gc_T) → Prop} (hy : plainName y.cls = true) (hw : gv_w as ≤ nL)
    (h : ∀ x : gx_X, gw_C N w y.cls b nL x → gr_R N b nL rm x post → gw_G N nL rm x 0 0 cf 0 (gv_args 0 as) []) (hw81 : w ≤ 81 := by decide) : gm_R N w l D ad ck y b nL rm as cf post := by
  intro sz
  refine Met.ofW (cc := b) (maxL := nL) (ret := some (.array .int)) hy rfl ?_
  intro p e s m args below meth c s₁ B hml hv
  obtain ⟨rfl, hsz, hP, hK, hnw, hij, hE⟩ := hv
  have hts := atoms_spec (ws := Cond.code y b nL (some (.array .int)) :: gw_T) B.pre
  have hown : s.vm.findClass y.cls = some m.cls := findClass_of_methodNamed B.named
  have hl := lv_entry (as.map (gv_v ad)) (n := nL) (by rw [gv_w_len]; exact hw)
  rw [lg_entry_eq]
  rw [gv_args_eq] at hl
  refine h (p, l, e, s, m, (as.map (gv_v ad)).toArray, below, meth, c, _, D, gm_A w ad sz, ad, ck) ⟨B.exec, B.bytes, hml, hown, fun w hw => hts w (List.mem_cons_of_mem _ hw), hnw, hK, fun q hq => Or.inr (by rw [← hsz]; exact hq), hij, fun i hi => Or.inl ⟨i, hi, rfl⟩, B.notSynchronized, gm_Age hw81 hE hsz, hE⟩ ?_ s.heap [] _ hP va_S.rf hl
  intro z c2 k n pc lv hk hn hd hpost
  intro H1 locs1 ls1 hP1 hS1 hl1
  refine W.widen (k := rm.cells) (n := rm.slots) hk hn ?_
  exact W.aret B.exec B.bytes B.returns (Or.inr ⟨_, rfl⟩) (Or.inr ⟨ad z, rfl⟩) (fun t ht hW => ⟨⟨(z, c2), ad z, rfl, hpost, rfl, by show va_P D vwCl (gw_L N ad ck c2) t.heap; rw [ht]; exact hP1⟩, hS1.F ht⟩) hS1.2.2 hd B.notSynchronized
theorem gx_vR (hC : gw_C N w own cc nL x) {i na o ci : Nat} {fs : List gv_V} {post : Nat → (Nat → gc_T) → Prop} (hd : decode cc pc = .ok (.invokevirtual i, 3)) (hV : gw_V own i y b mL (some (.array .int)) na) (hM : gm_R N w2 (gx_l x) (gx_D x) (gx_ad x) (gx_ck x) y b mL rm (gv_R o :: as) cf post) (hn : as.length = na) (hw2 : w2 ≤ w) (hR : rm.frames + 1 ≤ R.frames ∧ 8 + (mL + 11) + rm.locals ≤ R.locals) (hf : k + rm.cells ≤ R.cells ∧ n + rm.slots ≤ R.slots) (ho : o < N) (hci : ∃ (T : u_T) (M : Nat), vwCl[ci]? = some (y.cls, T, M)) (hc : cf o = gc_O ci fs) (hst : stk = as.reverse ++ gv_R o :: st) (hcat : gv_w st ≤ 8)
    (kk : ∀ (z : Nat) (c2 : Nat → gc_T), post z c2 → gw_G N nL R x (k + rm.cells) (n + rm.slots) c2 (pc + 3) lv (gv_R z :: st)) : gw_G N nL R x k n cf pc lv stk := by
  obtain ⟨p, l, e, s, m, args, below, meth, c, Q, D, A, ad, ck⟩ := x
  obtain ⟨hx, hb, hml, hown, hts, hnw, hK, hA, hij, hAd, hlk⟩ := hC
  subst hst
  intro H locs ls hP hS hl
  obtain ⟨T, M, hci⟩ := hci
  have hFc := gm_free (N := w2) hAd hw2 hA hS
  refine va_callr (gw_runV (As := as.map (gv_v ad)) (rest := st.map (gv_v ad)) (o := ad o) ⟨hx, hb, hml, hown, hts⟩ hnw (hM H.size) hV hR ⟨gm_blind, va_recv hK hP hci (gw_atE ho hc), fun U hU hW => ⟨rfl, by rw [hU], by rw [hU]; exact hP, va_K.moved hW.alike hK, gw_warm hW hnw, hij, hlk.2.2.go hU hW hlk.2.1 hS⟩⟩ rfl (by simpa using hn) hl.1 (by simp [gv_v]) (lv_room (by rw [gv_w_sum]; exact hcat)) hd hf) hS (fun q _ h => hFc q h) hFc (fun u ra t H1 locs1 ht hvm hq hB hz1 hk1 hS1 => ?_)
  obtain ⟨z, c2⟩ := u
  obtain ⟨hra, hB⟩ := hB
  subst hra
  exact kk z c2 hq H1 locs1 ls (by rw [← ht]; exact hB) hS1 hl
end GXM
/-! answers of methods that may throw: .inl is the kind of what is thrown -/
def gb_x {α β : Type} (o : Option (Nat ⊕ α)) (g : α → Option (Nat ⊕ β)) : Option (Nat ⊕ β) := match o with
  | none => none
  | some (.inl k) => some (.inl k)
  | some (.inr a) => g a
theorem gb_xr {α β : Type} {o : Option (Nat ⊕ α)} {g : α → Option (Nat ⊕ β)} {r : β} (h : gb_x o g = some (.inr r)) : ∃ q, o = some (.inr q) ∧ g q = some (.inr r) := by
  rcases o with _ | k | q
  · cases h
  · cases h
  · exact ⟨q, rfl, h⟩
theorem gb_xl {α β : Type} {o : Option (Nat ⊕ α)} {g : α → Option (Nat ⊕ β)} {r : Nat} (h : gb_x o g = some (.inl r)) : o = some (.inl r) ∨ ∃ q, o = some (.inr q) ∧ g q = some (.inl r) := by
  rcases o with _ | k | q
  · cases h
  · exact Or.inl h
  · exact Or.inr ⟨q, rfl, h⟩
def gb_r {β : Type} (o : Option β) : Option (Nat ⊕ β) := match o with
  | none => none
  | some a => some (.inr a)
theorem gb_rr {β : Type} {o : Option β} {r : β} (h : gb_r o = some (.inr r)) : o = some r := by
  rcases o with _ | a
  · cases h
  · cases h
    rfl
theorem gb_rl {β : Type} {o : Option β} {r : Nat} (h : gb_r o = some (.inl r)) : False := by
  rcases o with _ | a
  · cases h
  · cases h
end
