section
-- ===== PART A: goes FIRST, ahead of the names: the tables' words, and 'selects' of the private methods out of them =====
/-- a private method of a class that the tables say can be made, by its rows of tables_1 -/
def lw_okq (q : MethodName × Nat) : Prop := (q.1.cls ≠ "java/lang/invoke/MethodHandle" ∧ q.1.cls ≠ "java/lang/invoke/VarHandle") ∧ Cond.instantiable q.1.cls q.2 ∈ tables_1 ∧ Cond.privateMethod q.1 ∈ tables_1 ∧ Cond.instanceMethod q.1 ∈ tables_1
theorem lw_p0 : lw_okq (⟨"InsultStatues$Reader", "readToken", "()V"⟩, 9) := ⟨⟨by decide +kernel, by decide +kernel⟩, List.mem_of_getElem? (i := 18) (by decide +kernel), List.mem_of_getElem? (i := 215) (by decide +kernel), List.mem_of_getElem? (i := 216) (by decide +kernel)⟩
theorem lw_p1 : lw_okq (⟨"InsultStatues$Reader", "readItem", "()Z"⟩, 9) := ⟨⟨by decide +kernel, by decide +kernel⟩, List.mem_of_getElem? (i := 18) (by decide +kernel), List.mem_of_getElem? (i := 229) (by decide +kernel), List.mem_of_getElem? (i := 230) (by decide +kernel)⟩
theorem lw_p2 : lw_okq (⟨"InsultStatues$Reader", "readYards", "()Z"⟩, 9) := ⟨⟨by decide +kernel, by decide +kernel⟩, List.mem_of_getElem? (i := 18) (by decide +kernel), List.mem_of_getElem? (i := 233) (by decide +kernel), List.mem_of_getElem? (i := 234) (by decide +kernel)⟩
theorem lw_p3 : lw_okq (⟨"InsultStatues$Reader", "readNumber", "(II)Z"⟩, 9) := ⟨⟨by decide +kernel, by decide +kernel⟩, List.mem_of_getElem? (i := 18) (by decide +kernel), List.mem_of_getElem? (i := 237) (by decide +kernel), List.mem_of_getElem? (i := 238) (by decide +kernel)⟩
theorem lw_p4 : lw_okq (⟨"InsultStatues$Reader", "numberOfToken", "()I"⟩, 9) := ⟨⟨by decide +kernel, by decide +kernel⟩, List.mem_of_getElem? (i := 18) (by decide +kernel), List.mem_of_getElem? (i := 241) (by decide +kernel), List.mem_of_getElem? (i := 242) (by decide +kernel)⟩
theorem lw_p5 : lw_okq (⟨"InsultStatues$Reader", "readStop", "()Z"⟩, 9) := ⟨⟨by decide +kernel, by decide +kernel⟩, List.mem_of_getElem? (i := 18) (by decide +kernel), List.mem_of_getElem? (i := 248) (by decide +kernel), List.mem_of_getElem? (i := 249) (by decide +kernel)⟩
theorem lw_p6 : lw_okq (⟨"InsultStatues$Reader", "readStatue", "()Z"⟩, 9) := ⟨⟨by decide +kernel, by decide +kernel⟩, List.mem_of_getElem? (i := 18) (by decide +kernel), List.mem_of_getElem? (i := 252) (by decide +kernel), List.mem_of_getElem? (i := 253) (by decide +kernel)⟩
theorem lw_p7 : lw_okq (⟨"InsultStatues$Reader", "readInsults", "(I)Z"⟩, 9) := ⟨⟨by decide +kernel, by decide +kernel⟩, List.mem_of_getElem? (i := 18) (by decide +kernel), List.mem_of_getElem? (i := 260) (by decide +kernel), List.mem_of_getElem? (i := 261) (by decide +kernel)⟩
theorem lw_p8 : lw_okq (⟨"InsultStatues$Reader", "readOne", "()Z"⟩, 9) := ⟨⟨by decide +kernel, by decide +kernel⟩, List.mem_of_getElem? (i := 18) (by decide +kernel), List.mem_of_getElem? (i := 268) (by decide +kernel), List.mem_of_getElem? (i := 269) (by decide +kernel)⟩
theorem lw_p9 : lw_okq (⟨"InsultStatues$Reader", "insultsOfRow", "()I"⟩, 9) := ⟨⟨by decide +kernel, by decide +kernel⟩, List.mem_of_getElem? (i := 18) (by decide +kernel), List.mem_of_getElem? (i := 272) (by decide +kernel), List.mem_of_getElem? (i := 273) (by decide +kernel)⟩
theorem lw_p10 : lw_okq (⟨"InsultStatues$Reader", "readSight", "()Z"⟩, 9) := ⟨⟨by decide +kernel, by decide +kernel⟩, List.mem_of_getElem? (i := 18) (by decide +kernel), List.mem_of_getElem? (i := 280) (by decide +kernel), List.mem_of_getElem? (i := 281) (by decide +kernel)⟩
theorem lw_p11 : lw_okq (⟨"InsultStatues", "beginAnew", "()V"⟩, 10) := ⟨⟨by decide +kernel, by decide +kernel⟩, List.mem_of_getElem? (i := 10) (by decide +kernel), List.mem_of_getElem? (i := 288) (by decide +kernel), List.mem_of_getElem? (i := 289) (by decide +kernel)⟩
theorem lw_p12 : lw_okq (⟨"InsultStatues", "wrongedBy", "(I)I"⟩, 10) := ⟨⟨by decide +kernel, by decide +kernel⟩, List.mem_of_getElem? (i := 10) (by decide +kernel), List.mem_of_getElem? (i := 308) (by decide +kernel), List.mem_of_getElem? (i := 309) (by decide +kernel)⟩
theorem lw_p13 : lw_okq (⟨"InsultStatues", "pullAt", "(I)I"⟩, 10) := ⟨⟨by decide +kernel, by decide +kernel⟩, List.mem_of_getElem? (i := 10) (by decide +kernel), List.mem_of_getElem? (i := 312) (by decide +kernel), List.mem_of_getElem? (i := 313) (by decide +kernel)⟩
theorem lw_p14 : lw_okq (⟨"InsultStatues", "pullersAt", "(I)I"⟩, 10) := ⟨⟨by decide +kernel, by decide +kernel⟩, List.mem_of_getElem? (i := 10) (by decide +kernel), List.mem_of_getElem? (i := 316) (by decide +kernel), List.mem_of_getElem? (i := 317) (by decide +kernel)⟩
theorem lw_p15 : lw_okq (⟨"InsultStatues", "offendedIn", "(II)I"⟩, 10) := ⟨⟨by decide +kernel, by decide +kernel⟩, List.mem_of_getElem? (i := 10) (by decide +kernel), List.mem_of_getElem? (i := 324) (by decide +kernel), List.mem_of_getElem? (i := 325) (by decide +kernel)⟩
def lw_privs_1 : List (MethodName × Nat) := [(⟨"InsultStatues$Reader", "readToken", "()V"⟩, 9), (⟨"InsultStatues$Reader", "readItem", "()Z"⟩, 9), (⟨"InsultStatues$Reader", "readYards", "()Z"⟩, 9), (⟨"InsultStatues$Reader", "readNumber", "(II)Z"⟩, 9), (⟨"InsultStatues$Reader", "numberOfToken", "()I"⟩, 9), (⟨"InsultStatues$Reader", "readStop", "()Z"⟩, 9), (⟨"InsultStatues$Reader", "readStatue", "()Z"⟩, 9), (⟨"InsultStatues$Reader", "readInsults", "(I)Z"⟩, 9), (⟨"InsultStatues$Reader", "readOne", "()Z"⟩, 9), (⟨"InsultStatues$Reader", "insultsOfRow", "()I"⟩, 9), (⟨"InsultStatues$Reader", "readSight", "()Z"⟩, 9), (⟨"InsultStatues", "beginAnew", "()V"⟩, 10), (⟨"InsultStatues", "wrongedBy", "(I)I"⟩, 10), (⟨"InsultStatues", "pullAt", "(I)I"⟩, 10), (⟨"InsultStatues", "pullersAt", "(I)I"⟩, 10), (⟨"InsultStatues", "offendedIn", "(II)I"⟩, 10)]
theorem lw_r1 : ∀ q ∈ lw_privs_1, lw_okq q := List.forall_mem_cons.mpr ⟨lw_p0, List.forall_mem_cons.mpr ⟨lw_p1, List.forall_mem_cons.mpr ⟨lw_p2, List.forall_mem_cons.mpr ⟨lw_p3, List.forall_mem_cons.mpr ⟨lw_p4, List.forall_mem_cons.mpr ⟨lw_p5, List.forall_mem_cons.mpr ⟨lw_p6, List.forall_mem_cons.mpr ⟨lw_p7, List.forall_mem_cons.mpr ⟨lw_p8, List.forall_mem_cons.mpr ⟨lw_p9, List.forall_mem_cons.mpr ⟨lw_p10, List.forall_mem_cons.mpr ⟨lw_p11, List.forall_mem_cons.mpr ⟨lw_p12, List.forall_mem_cons.mpr ⟨lw_p13, List.forall_mem_cons.mpr ⟨lw_p14, List.forall_mem_cons.mpr ⟨lw_p15, fun _ h => absurd h List.not_mem_nil⟩⟩⟩⟩⟩⟩⟩⟩⟩⟩⟩⟩⟩⟩⟩⟩
theorem lw_p16 : lw_okq (⟨"InsultStatues", "placeOf", "(I)I"⟩, 10) := ⟨⟨by decide +kernel, by decide +kernel⟩, List.mem_of_getElem? (i := 10) (by decide +kernel), List.mem_of_getElem? (i := 332) (by decide +kernel), List.mem_of_getElem? (i := 333) (by decide +kernel)⟩
theorem lw_p17 : lw_okq (⟨"InsultStatues", "statueIn", "(I)I"⟩, 10) := ⟨⟨by decide +kernel, by decide +kernel⟩, List.mem_of_getElem? (i := 10) (by decide +kernel), List.mem_of_getElem? (i := 336) (by decide +kernel), List.mem_of_getElem? (i := 337) (by decide +kernel)⟩
theorem lw_p18 : lw_okq (⟨"InsultStatues", "moving", "()I"⟩, 10) := ⟨⟨by decide +kernel, by decide +kernel⟩, List.mem_of_getElem? (i := 10) (by decide +kernel), List.mem_of_getElem? (i := 357) (by decide +kernel), List.mem_of_getElem? (i := 358) (by decide +kernel)⟩
theorem lw_p19 : lw_okq (⟨"InsultStatues", "moves", "(I)Z"⟩, 10) := ⟨⟨by decide +kernel, by decide +kernel⟩, List.mem_of_getElem? (i := 10) (by decide +kernel), List.mem_of_getElem? (i := 361) (by decide +kernel), List.mem_of_getElem? (i := 362) (by decide +kernel)⟩
theorem lw_p20 : lw_okq (⟨"InsultStatues", "emptyYards", "()I"⟩, 10) := ⟨⟨by decide +kernel, by decide +kernel⟩, List.mem_of_getElem? (i := 10) (by decide +kernel), List.mem_of_getElem? (i := 365) (by decide +kernel), List.mem_of_getElem? (i := 366) (by decide +kernel)⟩
theorem lw_p21 : lw_okq (⟨"InsultStatues$Past", "loseOldest", "()V"⟩, 4) := ⟨⟨by decide +kernel, by decide +kernel⟩, List.mem_of_getElem? (i := 141) (by decide +kernel), List.mem_of_getElem? (i := 377) (by decide +kernel), List.mem_of_getElem? (i := 378) (by decide +kernel)⟩
theorem lw_p22 : lw_okq (⟨"InsultStatues", "allMoveBy", "(II)Z"⟩, 10) := ⟨⟨by decide +kernel, by decide +kernel⟩, List.mem_of_getElem? (i := 10) (by decide +kernel), List.mem_of_getElem? (i := 421) (by decide +kernel), List.mem_of_getElem? (i := 422) (by decide +kernel)⟩
theorem lw_p23 : lw_okq (⟨"InsultStatues", "pullsToBare", "(II)I"⟩, 10) := ⟨⟨by decide +kernel, by decide +kernel⟩, List.mem_of_getElem? (i := 10) (by decide +kernel), List.mem_of_getElem? (i := 429) (by decide +kernel), List.mem_of_getElem? (i := 430) (by decide +kernel)⟩
theorem lw_p24 : lw_okq (⟨"InsultStatues", "chancesToMove", "(III)I"⟩, 10) := ⟨⟨by decide +kernel, by decide +kernel⟩, List.mem_of_getElem? (i := 10) (by decide +kernel), List.mem_of_getElem? (i := 453) (by decide +kernel), List.mem_of_getElem? (i := 454) (by decide +kernel)⟩
theorem lw_p25 : lw_okq (⟨"InsultStatues", "stillPossible", "()I"⟩, 10) := ⟨⟨by decide +kernel, by decide +kernel⟩, List.mem_of_getElem? (i := 10) (by decide +kernel), List.mem_of_getElem? (i := 475) (by decide +kernel), List.mem_of_getElem? (i := 476) (by decide +kernel)⟩
theorem lw_p26 : lw_okq (⟨"InsultStatues", "asGeneral", "(I)I"⟩, 10) := ⟨⟨by decide +kernel, by decide +kernel⟩, List.mem_of_getElem? (i := 10) (by decide +kernel), List.mem_of_getElem? (i := 491) (by decide +kernel), List.mem_of_getElem? (i := 492) (by decide +kernel)⟩
theorem lw_p27 : lw_okq (⟨"InsultStatues", "asStatue", "(I)I"⟩, 10) := ⟨⟨by decide +kernel, by decide +kernel⟩, List.mem_of_getElem? (i := 10) (by decide +kernel), List.mem_of_getElem? (i := 496) (by decide +kernel), List.mem_of_getElem? (i := 497) (by decide +kernel)⟩
theorem lw_p28 : lw_okq (⟨"InsultStatues", "asPoet", "(I)I"⟩, 10) := ⟨⟨by decide +kernel, by decide +kernel⟩, List.mem_of_getElem? (i := 10) (by decide +kernel), List.mem_of_getElem? (i := 500) (by decide +kernel), List.mem_of_getElem? (i := 501) (by decide +kernel)⟩
theorem lw_p29 : lw_okq (⟨"InsultStatues", "asHorse", "(I)I"⟩, 10) := ⟨⟨by decide +kernel, by decide +kernel⟩, List.mem_of_getElem? (i := 10) (by decide +kernel), List.mem_of_getElem? (i := 505) (by decide +kernel), List.mem_of_getElem? (i := 506) (by decide +kernel)⟩
theorem lw_p30 : lw_okq (⟨"InsultStatues", "asSaint", "(I)I"⟩, 10) := ⟨⟨by decide +kernel, by decide +kernel⟩, List.mem_of_getElem? (i := 10) (by decide +kernel), List.mem_of_getElem? (i := 510) (by decide +kernel), List.mem_of_getElem? (i := 511) (by decide +kernel)⟩
theorem lw_p31 : lw_okq (⟨"InsultStatues", "asGirl", "(I)I"⟩, 10) := ⟨⟨by decide +kernel, by decide +kernel⟩, List.mem_of_getElem? (i := 10) (by decide +kernel), List.mem_of_getElem? (i := 515) (by decide +kernel), List.mem_of_getElem? (i := 516) (by decide +kernel)⟩
def lw_privs_2 : List (MethodName × Nat) := [(⟨"InsultStatues", "placeOf", "(I)I"⟩, 10), (⟨"InsultStatues", "statueIn", "(I)I"⟩, 10), (⟨"InsultStatues", "moving", "()I"⟩, 10), (⟨"InsultStatues", "moves", "(I)Z"⟩, 10), (⟨"InsultStatues", "emptyYards", "()I"⟩, 10), (⟨"InsultStatues$Past", "loseOldest", "()V"⟩, 4), (⟨"InsultStatues", "allMoveBy", "(II)Z"⟩, 10), (⟨"InsultStatues", "pullsToBare", "(II)I"⟩, 10), (⟨"InsultStatues", "chancesToMove", "(III)I"⟩, 10), (⟨"InsultStatues", "stillPossible", "()I"⟩, 10), (⟨"InsultStatues", "asGeneral", "(I)I"⟩, 10), (⟨"InsultStatues", "asStatue", "(I)I"⟩, 10), (⟨"InsultStatues", "asPoet", "(I)I"⟩, 10), (⟨"InsultStatues", "asHorse", "(I)I"⟩, 10), (⟨"InsultStatues", "asSaint", "(I)I"⟩, 10), (⟨"InsultStatues", "asGirl", "(I)I"⟩, 10)]
theorem lw_r2 : ∀ q ∈ lw_privs_2, lw_okq q := List.forall_mem_cons.mpr ⟨lw_p16, List.forall_mem_cons.mpr ⟨lw_p17, List.forall_mem_cons.mpr ⟨lw_p18, List.forall_mem_cons.mpr ⟨lw_p19, List.forall_mem_cons.mpr ⟨lw_p20, List.forall_mem_cons.mpr ⟨lw_p21, List.forall_mem_cons.mpr ⟨lw_p22, List.forall_mem_cons.mpr ⟨lw_p23, List.forall_mem_cons.mpr ⟨lw_p24, List.forall_mem_cons.mpr ⟨lw_p25, List.forall_mem_cons.mpr ⟨lw_p26, List.forall_mem_cons.mpr ⟨lw_p27, List.forall_mem_cons.mpr ⟨lw_p28, List.forall_mem_cons.mpr ⟨lw_p29, List.forall_mem_cons.mpr ⟨lw_p30, List.forall_mem_cons.mpr ⟨lw_p31, fun _ h => absurd h List.not_mem_nil⟩⟩⟩⟩⟩⟩⟩⟩⟩⟩⟩⟩⟩⟩⟩⟩
theorem lw_p32 : lw_okq (⟨"InsultStatuesModel", "readAll", "()I"⟩, 18) := ⟨⟨by decide +kernel, by decide +kernel⟩, List.mem_of_getElem? (i := 543) (by decide +kernel), List.mem_of_getElem? (i := 620) (by decide +kernel), List.mem_of_getElem? (i := 621) (by decide +kernel)⟩
theorem lw_p33 : lw_okq (⟨"InsultStatuesModel", "next", "()V"⟩, 18) := ⟨⟨by decide +kernel, by decide +kernel⟩, List.mem_of_getElem? (i := 543) (by decide +kernel), List.mem_of_getElem? (i := 624) (by decide +kernel), List.mem_of_getElem? (i := 625) (by decide +kernel)⟩
theorem lw_p34 : lw_okq (⟨"InsultStatuesModel", "item", "(ZZ)Z"⟩, 18) := ⟨⟨by decide +kernel, by decide +kernel⟩, List.mem_of_getElem? (i := 543) (by decide +kernel), List.mem_of_getElem? (i := 638) (by decide +kernel), List.mem_of_getElem? (i := 639) (by decide +kernel)⟩
theorem lw_p35 : lw_okq (⟨"InsultStatuesModel", "isNumber", "(II)Z"⟩, 18) := ⟨⟨by decide +kernel, by decide +kernel⟩, List.mem_of_getElem? (i := 543) (by decide +kernel), List.mem_of_getElem? (i := 642) (by decide +kernel), List.mem_of_getElem? (i := 643) (by decide +kernel)⟩
theorem lw_p36 : lw_okq (⟨"InsultStatuesModel", "isEnd", "()Z"⟩, 18) := ⟨⟨by decide +kernel, by decide +kernel⟩, List.mem_of_getElem? (i := 543) (by decide +kernel), List.mem_of_getElem? (i := 646) (by decide +kernel), List.mem_of_getElem? (i := 647) (by decide +kernel)⟩
theorem lw_p37 : lw_okq (⟨"InsultStatuesModel", "statueItem", "()Z"⟩, 18) := ⟨⟨by decide +kernel, by decide +kernel⟩, List.mem_of_getElem? (i := 543) (by decide +kernel), List.mem_of_getElem? (i := 650) (by decide +kernel), List.mem_of_getElem? (i := 651) (by decide +kernel)⟩
theorem lw_p38 : lw_okq (⟨"InsultStatuesModel", "isEmptyYard", "(I)Z"⟩, 18) := ⟨⟨by decide +kernel, by decide +kernel⟩, List.mem_of_getElem? (i := 543) (by decide +kernel), List.mem_of_getElem? (i := 654) (by decide +kernel), List.mem_of_getElem? (i := 655) (by decide +kernel)⟩
theorem lw_p39 : lw_okq (⟨"InsultStatuesModel", "isInsults", "(I)Z"⟩, 18) := ⟨⟨by decide +kernel, by decide +kernel⟩, List.mem_of_getElem? (i := 543) (by decide +kernel), List.mem_of_getElem? (i := 658) (by decide +kernel), List.mem_of_getElem? (i := 659) (by decide +kernel)⟩
theorem lw_p40 : lw_okq (⟨"InsultStatuesModel", "personItem", "()Z"⟩, 18) := ⟨⟨by decide +kernel, by decide +kernel⟩, List.mem_of_getElem? (i := 543) (by decide +kernel), List.mem_of_getElem? (i := 665) (by decide +kernel), List.mem_of_getElem? (i := 666) (by decide +kernel)⟩
theorem lw_p41 : lw_okq (⟨"InsultStatuesModel", "isStatue", "(I)Z"⟩, 18) := ⟨⟨by decide +kernel, by decide +kernel⟩, List.mem_of_getElem? (i := 543) (by decide +kernel), List.mem_of_getElem? (i := 673) (by decide +kernel), List.mem_of_getElem? (i := 674) (by decide +kernel)⟩
theorem lw_p42 : lw_okq (⟨"InsultStatuesModel", "wronged", "(I)I"⟩, 18) := ⟨⟨by decide +kernel, by decide +kernel⟩, List.mem_of_getElem? (i := 543) (by decide +kernel), List.mem_of_getElem? (i := 677) (by decide +kernel), List.mem_of_getElem? (i := 678) (by decide +kernel)⟩
theorem lw_p43 : lw_okq (⟨"InsultStatuesModel", "isWronged", "(II)Z"⟩, 18) := ⟨⟨by decide +kernel, by decide +kernel⟩, List.mem_of_getElem? (i := 543) (by decide +kernel), List.mem_of_getElem? (i := 681) (by decide +kernel), List.mem_of_getElem? (i := 682) (by decide +kernel)⟩
theorem lw_p44 : lw_okq (⟨"InsultStatuesModel", "pull", "(I)I"⟩, 18) := ⟨⟨by decide +kernel, by decide +kernel⟩, List.mem_of_getElem? (i := 543) (by decide +kernel), List.mem_of_getElem? (i := 685) (by decide +kernel), List.mem_of_getElem? (i := 686) (by decide +kernel)⟩
theorem lw_p45 : lw_okq (⟨"InsultStatuesModel", "strength", "(I)I"⟩, 18) := ⟨⟨by decide +kernel, by decide +kernel⟩, List.mem_of_getElem? (i := 543) (by decide +kernel), List.mem_of_getElem? (i := 689) (by decide +kernel), List.mem_of_getElem? (i := 690) (by decide +kernel)⟩
theorem lw_p46 : lw_okq (⟨"InsultStatuesModel", "offended", "(II)I"⟩, 18) := ⟨⟨by decide +kernel, by decide +kernel⟩, List.mem_of_getElem? (i := 543) (by decide +kernel), List.mem_of_getElem? (i := 693) (by decide +kernel), List.mem_of_getElem? (i := 694) (by decide +kernel)⟩
theorem lw_p47 : lw_okq (⟨"InsultStatuesModel", "placeOf", "(I)I"⟩, 18) := ⟨⟨by decide +kernel, by decide +kernel⟩, List.mem_of_getElem? (i := 543) (by decide +kernel), List.mem_of_getElem? (i := 697) (by decide +kernel), List.mem_of_getElem? (i := 698) (by decide +kernel)⟩
def lw_privs_3 : List (MethodName × Nat) := [(⟨"InsultStatuesModel", "readAll", "()I"⟩, 18), (⟨"InsultStatuesModel", "next", "()V"⟩, 18), (⟨"InsultStatuesModel", "item", "(ZZ)Z"⟩, 18), (⟨"InsultStatuesModel", "isNumber", "(II)Z"⟩, 18), (⟨"InsultStatuesModel", "isEnd", "()Z"⟩, 18), (⟨"InsultStatuesModel", "statueItem", "()Z"⟩, 18), (⟨"InsultStatuesModel", "isEmptyYard", "(I)Z"⟩, 18), (⟨"InsultStatuesModel", "isInsults", "(I)Z"⟩, 18), (⟨"InsultStatuesModel", "personItem", "()Z"⟩, 18), (⟨"InsultStatuesModel", "isStatue", "(I)Z"⟩, 18), (⟨"InsultStatuesModel", "wronged", "(I)I"⟩, 18), (⟨"InsultStatuesModel", "isWronged", "(II)Z"⟩, 18), (⟨"InsultStatuesModel", "pull", "(I)I"⟩, 18), (⟨"InsultStatuesModel", "strength", "(I)I"⟩, 18), (⟨"InsultStatuesModel", "offended", "(II)I"⟩, 18), (⟨"InsultStatuesModel", "placeOf", "(I)I"⟩, 18)]
theorem lw_r3 : ∀ q ∈ lw_privs_3, lw_okq q := List.forall_mem_cons.mpr ⟨lw_p32, List.forall_mem_cons.mpr ⟨lw_p33, List.forall_mem_cons.mpr ⟨lw_p34, List.forall_mem_cons.mpr ⟨lw_p35, List.forall_mem_cons.mpr ⟨lw_p36, List.forall_mem_cons.mpr ⟨lw_p37, List.forall_mem_cons.mpr ⟨lw_p38, List.forall_mem_cons.mpr ⟨lw_p39, List.forall_mem_cons.mpr ⟨lw_p40, List.forall_mem_cons.mpr ⟨lw_p41, List.forall_mem_cons.mpr ⟨lw_p42, List.forall_mem_cons.mpr ⟨lw_p43, List.forall_mem_cons.mpr ⟨lw_p44, List.forall_mem_cons.mpr ⟨lw_p45, List.forall_mem_cons.mpr ⟨lw_p46, List.forall_mem_cons.mpr ⟨lw_p47, fun _ h => absurd h List.not_mem_nil⟩⟩⟩⟩⟩⟩⟩⟩⟩⟩⟩⟩⟩⟩⟩⟩
theorem lw_p48 : lw_okq (⟨"InsultStatuesModel", "statueIn", "(I)I"⟩, 18) := ⟨⟨by decide +kernel, by decide +kernel⟩, List.mem_of_getElem? (i := 543) (by decide +kernel), List.mem_of_getElem? (i := 701) (by decide +kernel), List.mem_of_getElem? (i := 702) (by decide +kernel)⟩
theorem lw_p49 : lw_okq (⟨"InsultStatuesModel", "isOne", "(I)Z"⟩, 18) := ⟨⟨by decide +kernel, by decide +kernel⟩, List.mem_of_getElem? (i := 543) (by decide +kernel), List.mem_of_getElem? (i := 709) (by decide +kernel), List.mem_of_getElem? (i := 710) (by decide +kernel)⟩
theorem lw_p50 : lw_okq (⟨"InsultStatuesModel", "moves", "(I)Z"⟩, 18) := ⟨⟨by decide +kernel, by decide +kernel⟩, List.mem_of_getElem? (i := 543) (by decide +kernel), List.mem_of_getElem? (i := 717) (by decide +kernel), List.mem_of_getElem? (i := 718) (by decide +kernel)⟩
theorem lw_p51 : lw_okq (⟨"InsultStatuesModel", "note", "()V"⟩, 18) := ⟨⟨by decide +kernel, by decide +kernel⟩, List.mem_of_getElem? (i := 543) (by decide +kernel), List.mem_of_getElem? (i := 725) (by decide +kernel), List.mem_of_getElem? (i := 726) (by decide +kernel)⟩
theorem lw_p52 : lw_okq (⟨"InsultStatuesModel", "isYard", "(I)Z"⟩, 18) := ⟨⟨by decide +kernel, by decide +kernel⟩, List.mem_of_getElem? (i := 543) (by decide +kernel), List.mem_of_getElem? (i := 744) (by decide +kernel), List.mem_of_getElem? (i := 745) (by decide +kernel)⟩
theorem lw_p53 : lw_okq (⟨"InsultStatuesModel", "bareBy", "(II)I"⟩, 18) := ⟨⟨by decide +kernel, by decide +kernel⟩, List.mem_of_getElem? (i := 543) (by decide +kernel), List.mem_of_getElem? (i := 760) (by decide +kernel), List.mem_of_getElem? (i := 761) (by decide +kernel)⟩
theorem lw_p54 : lw_okq (⟨"InsultStatuesModel", "asStatue", "(I)I"⟩, 18) := ⟨⟨by decide +kernel, by decide +kernel⟩, List.mem_of_getElem? (i := 543) (by decide +kernel), List.mem_of_getElem? (i := 802) (by decide +kernel), List.mem_of_getElem? (i := 803) (by decide +kernel)⟩
theorem lw_p55 : lw_okq (⟨"InsultStatuesModel", "asGeneral", "(I)I"⟩, 18) := ⟨⟨by decide +kernel, by decide +kernel⟩, List.mem_of_getElem? (i := 543) (by decide +kernel), List.mem_of_getElem? (i := 806) (by decide +kernel), List.mem_of_getElem? (i := 807) (by decide +kernel)⟩
theorem lw_p56 : lw_okq (⟨"InsultStatuesModel", "asPoet", "(I)I"⟩, 18) := ⟨⟨by decide +kernel, by decide +kernel⟩, List.mem_of_getElem? (i := 543) (by decide +kernel), List.mem_of_getElem? (i := 810) (by decide +kernel), List.mem_of_getElem? (i := 811) (by decide +kernel)⟩
theorem lw_p57 : lw_okq (⟨"InsultStatuesModel", "asHorse", "(I)I"⟩, 18) := ⟨⟨by decide +kernel, by decide +kernel⟩, List.mem_of_getElem? (i := 543) (by decide +kernel), List.mem_of_getElem? (i := 815) (by decide +kernel), List.mem_of_getElem? (i := 816) (by decide +kernel)⟩
theorem lw_p58 : lw_okq (⟨"InsultStatuesModel", "asSaint", "(I)I"⟩, 18) := ⟨⟨by decide +kernel, by decide +kernel⟩, List.mem_of_getElem? (i := 543) (by decide +kernel), List.mem_of_getElem? (i := 820) (by decide +kernel), List.mem_of_getElem? (i := 821) (by decide +kernel)⟩
theorem lw_p59 : lw_okq (⟨"InsultStatuesModel", "asGirl", "(I)I"⟩, 18) := ⟨⟨by decide +kernel, by decide +kernel⟩, List.mem_of_getElem? (i := 543) (by decide +kernel), List.mem_of_getElem? (i := 825) (by decide +kernel), List.mem_of_getElem? (i := 826) (by decide +kernel)⟩
def lw_privs_4 : List (MethodName × Nat) := [(⟨"InsultStatuesModel", "statueIn", "(I)I"⟩, 18), (⟨"InsultStatuesModel", "isOne", "(I)Z"⟩, 18), (⟨"InsultStatuesModel", "moves", "(I)Z"⟩, 18), (⟨"InsultStatuesModel", "note", "()V"⟩, 18), (⟨"InsultStatuesModel", "isYard", "(I)Z"⟩, 18), (⟨"InsultStatuesModel", "bareBy", "(II)I"⟩, 18), (⟨"InsultStatuesModel", "asStatue", "(I)I"⟩, 18), (⟨"InsultStatuesModel", "asGeneral", "(I)I"⟩, 18), (⟨"InsultStatuesModel", "asPoet", "(I)I"⟩, 18), (⟨"InsultStatuesModel", "asHorse", "(I)I"⟩, 18), (⟨"InsultStatuesModel", "asSaint", "(I)I"⟩, 18), (⟨"InsultStatuesModel", "asGirl", "(I)I"⟩, 18)]
theorem lw_r4 : ∀ q ∈ lw_privs_4, lw_okq q := List.forall_mem_cons.mpr ⟨lw_p48, List.forall_mem_cons.mpr ⟨lw_p49, List.forall_mem_cons.mpr ⟨lw_p50, List.forall_mem_cons.mpr ⟨lw_p51, List.forall_mem_cons.mpr ⟨lw_p52, List.forall_mem_cons.mpr ⟨lw_p53, List.forall_mem_cons.mpr ⟨lw_p54, List.forall_mem_cons.mpr ⟨lw_p55, List.forall_mem_cons.mpr ⟨lw_p56, List.forall_mem_cons.mpr ⟨lw_p57, List.forall_mem_cons.mpr ⟨lw_p58, List.forall_mem_cons.mpr ⟨lw_p59, fun _ h => absurd h List.not_mem_nil⟩⟩⟩⟩⟩⟩⟩⟩⟩⟩⟩⟩
def lw_privs : List (MethodName × Nat) := lw_privs_1 ++ (lw_privs_2 ++ (lw_privs_3 ++ (lw_privs_4)))
def lw_tbl : List Cond := k2_sels lw_privs ++ tables_1
theorem lw_privs_ok : ∀ q ∈ lw_privs, lw_okq q := by
  show ∀ q ∈ lw_privs_1 ++ (lw_privs_2 ++ (lw_privs_3 ++ (lw_privs_4))), lw_okq q
  exact List.forall_mem_append.mpr ⟨lw_r1, List.forall_mem_append.mpr ⟨lw_r2, List.forall_mem_append.mpr ⟨lw_r3, lw_r4⟩⟩⟩
end
section
def RX0 : String := "InsultStatues$Past"
def TX0 : u_T := fun k => match k with
  | 0 => ("InsultStatues$Past", "known", "I", false)
  | 1 => ("InsultStatues$Past", "deed", "[I", true)
  | 2 => ("InsultStatues$Past", "thing", "[I", true)
  | _ => ("InsultStatues$Past", "detail", "[I", true)
def tyX0 : Nat → FieldType := fun k => match k with
  | 0 => .int
  | 1 => .array .int
  | 2 => .array .int
  | _ => .array .int
theorem nmX0 : ∀ a, a < 4 → ∀ b, b < 4 → a ≠ b → (TX0 a).2.1 ≠ (TX0 b).2.1 := by decide +kernel
theorem tyX0_ok : ∀ k, k < 4 → parseFieldDescriptor (TX0 k).2.2.1 = some (tyX0 k) := by decide +kernel
abbrev cX0_init : ByteArray := prog_2_method_1_code
def yX0_init : MethodName := ⟨RX0, "<init>", "()V"⟩
abbrev cX0_lose : ByteArray := prog_2_method_2_code
def yX0_lose : MethodName := ⟨RX0, "lose", "()V"⟩
abbrev cX0_add : ByteArray := prog_2_method_3_code
def yX0_add : MethodName := ⟨RX0, "add", "(III)V"⟩
abbrev cX0_loseOldest : ByteArray := prog_2_method_4_code
def yX0_loseOldest : MethodName := ⟨RX0, "loseOldest", "()V"⟩
abbrev cX0_takeBack : ByteArray := prog_2_method_5_code
def yX0_takeBack : MethodName := ⟨RX0, "takeBack", "(LInsultStatues$Scene;)V"⟩
def RX1 : String := "InsultStatues$Reader"
def TX1 : u_T := fun k => match k with
  | 0 => ("InsultStatues$Reader", "letters", "I", false)
  | 1 => ("InsultStatues$Reader", "text", "[I", true)
  | 2 => ("InsultStatues$Reader", "town", "LInsultStatues$Town;", false)
  | 3 => ("InsultStatues$Reader", "items", "I", false)
  | 4 => ("InsultStatues$Reader", "sightTold", "Z", false)
  | 5 => ("InsultStatues$Reader", "place", "I", false)
  | 6 => ("InsultStatues$Reader", "next", "I", false)
  | 7 => ("InsultStatues$Reader", "token", "I", false)
  | _ => ("InsultStatues$Reader", "number", "I", false)
def tyX1 : Nat → FieldType := fun k => match k with
  | 0 => .int
  | 1 => .array .int
  | 2 => .object "InsultStatues$Town"
  | 3 => .int
  | 4 => .boolean
  | 5 => .int
  | 6 => .int
  | 7 => .int
  | _ => .int
theorem nmX1 : ∀ a, a < 9 → ∀ b, b < 9 → a ≠ b → (TX1 a).2.1 ≠ (TX1 b).2.1 := by decide +kernel
theorem tyX1_ok : ∀ k, k < 9 → parseFieldDescriptor (TX1 k).2.2.1 = some (tyX1 k) := by decide +kernel
abbrev cX1_init : ByteArray := prog_3_method_1_code
def yX1_init : MethodName := ⟨RX1, "<init>", "()V"⟩
abbrev cX1_addLetter : ByteArray := prog_3_method_2_code
def yX1_addLetter : MethodName := ⟨RX1, "addLetter", "(I)V"⟩
abbrev cX1_giveTown : ByteArray := prog_3_method_3_code
def yX1_giveTown : MethodName := ⟨RX1, "giveTown", "(LInsultStatues$Town;)LInsultStatues$Town;"⟩
abbrev cX1_readTown : ByteArray := prog_3_method_4_code
def yX1_readTown : MethodName := ⟨RX1, "readTown", "()I"⟩
abbrev cX1_readItem : ByteArray := prog_3_method_5_code
def yX1_readItem : MethodName := ⟨RX1, "readItem", "()Z"⟩
abbrev cX1_readYards : ByteArray := prog_3_method_6_code
def yX1_readYards : MethodName := ⟨RX1, "readYards", "()Z"⟩
abbrev cX1_readSight : ByteArray := prog_3_method_7_code
def yX1_readSight : MethodName := ⟨RX1, "readSight", "()Z"⟩
abbrev cX1_readStatue : ByteArray := prog_3_method_8_code
def yX1_readStatue : MethodName := ⟨RX1, "readStatue", "()Z"⟩
abbrev cX1_readOne : ByteArray := prog_3_method_9_code
def yX1_readOne : MethodName := ⟨RX1, "readOne", "()Z"⟩
abbrev cX1_readStop : ByteArray := prog_3_method_10_code
def yX1_readStop : MethodName := ⟨RX1, "readStop", "()Z"⟩
abbrev cX1_readNumber : ByteArray := prog_3_method_11_code
def yX1_readNumber : MethodName := ⟨RX1, "readNumber", "(II)Z"⟩
abbrev cX1_numberOfToken : ByteArray := prog_3_method_12_code
def yX1_numberOfToken : MethodName := ⟨RX1, "numberOfToken", "()I"⟩
abbrev cX1_readInsults : ByteArray := prog_3_method_13_code
def yX1_readInsults : MethodName := ⟨RX1, "readInsults", "(I)Z"⟩
abbrev cX1_insultsOfRow : ByteArray := prog_3_method_14_code
def yX1_insultsOfRow : MethodName := ⟨RX1, "insultsOfRow", "()I"⟩
abbrev cX1_readToken : ByteArray := prog_3_method_15_code
def yX1_readToken : MethodName := ⟨RX1, "readToken", "()V"⟩
abbrev cX1_kindOf : ByteArray := prog_3_method_16_code
def yX1_kindOf : MethodName := ⟨RX1, "kindOf", "(I)I"⟩
def RX2 : String := "InsultStatues$Scene"
def TX2 : u_T := fun k => match k with
  | 0 => ("InsultStatues$Scene", "come", "I", false)
  | 1 => ("InsultStatues$Scene", "yardOf", "[I", true)
  | _ => ("InsultStatues$Scene", "claimed", "[I", true)
def tyX2 : Nat → FieldType := fun k => match k with
  | 0 => .int
  | 1 => .array .int
  | _ => .array .int
theorem nmX2 : ∀ a, a < 3 → ∀ b, b < 3 → a ≠ b → (TX2 a).2.1 ≠ (TX2 b).2.1 := by decide +kernel
theorem tyX2_ok : ∀ k, k < 3 → parseFieldDescriptor (TX2 k).2.2.1 = some (tyX2 k) := by decide +kernel
abbrev cX2_init : ByteArray := prog_4_method_1_code
def yX2_init : MethodName := ⟨RX2, "<init>", "()V"⟩
abbrev cX2_begin : ByteArray := prog_4_method_2_code
def yX2_begin : MethodName := ⟨RX2, "begin", "(LInsultStatues$Town;)V"⟩
abbrev cX2_copyFrom : ByteArray := prog_4_method_3_code
def yX2_copyFrom : MethodName := ⟨RX2, "copyFrom", "(LInsultStatues$Scene;)V"⟩
abbrev cX2_timesBelieved : ByteArray := prog_4_method_4_code
def yX2_timesBelieved : MethodName := ⟨RX2, "timesBelieved", "(I)I"⟩
def RX3 : String := "InsultStatues$Town"
def TX3 : u_T := fun k => match k with
  | 0 => ("InsultStatues$Town", "yards", "I", false)
  | 1 => ("InsultStatues$Town", "sight", "I", false)
  | 2 => ("InsultStatues$Town", "statues", "I", false)
  | 3 => ("InsultStatues$Town", "people", "I", false)
  | 4 => ("InsultStatues$Town", "stands", "[I", true)
  | 5 => ("InsultStatues$Town", "weight", "[I", true)
  | 6 => ("InsultStatues$Town", "insult", "[I", true)
  | 7 => ("InsultStatues$Town", "home", "[I", true)
  | 8 => ("InsultStatues$Town", "strong", "[I", true)
  | 9 => ("InsultStatues$Town", "credit", "[I", true)
  | 10 => ("InsultStatues$Town", "wrongs", "[I", true)
  | _ => ("InsultStatues$Town", "insulted", "[I", true)
def tyX3 : Nat → FieldType := fun k => match k with
  | 0 => .int
  | 1 => .int
  | 2 => .int
  | 3 => .int
  | 4 => .array .int
  | 5 => .array .int
  | 6 => .array .int
  | 7 => .array .int
  | 8 => .array .int
  | 9 => .array .int
  | 10 => .array .int
  | _ => .array .int
theorem nmX3 : ∀ a, a < 12 → ∀ b, b < 12 → a ≠ b → (TX3 a).2.1 ≠ (TX3 b).2.1 := by decide +kernel
theorem tyX3_ok : ∀ k, k < 12 → parseFieldDescriptor (TX3 k).2.2.1 = some (tyX3 k) := by decide +kernel
abbrev cX3_init : ByteArray := prog_5_method_1_code
def yX3_init : MethodName := ⟨RX3, "<init>", "()V"⟩
abbrev cX3_empty : ByteArray := prog_5_method_2_code
def yX3_empty : MethodName := ⟨RX3, "empty", "()V"⟩
abbrev cX3_hasStatue : ByteArray := prog_5_method_3_code
def yX3_hasStatue : MethodName := ⟨RX3, "hasStatue", "(I)Z"⟩
abbrev cX3_hasOne : ByteArray := prog_5_method_4_code
def yX3_hasOne : MethodName := ⟨RX3, "hasOne", "(I)Z"⟩
abbrev cX3_hasYard : ByteArray := prog_5_method_5_code
def yX3_hasYard : MethodName := ⟨RX3, "hasYard", "(I)Z"⟩
abbrev cX3_isTaken : ByteArray := prog_5_method_6_code
def yX3_isTaken : MethodName := ⟨RX3, "isTaken", "(I)Z"⟩
abbrev cX3_addStatue : ByteArray := prog_5_method_7_code
def yX3_addStatue : MethodName := ⟨RX3, "addStatue", "(III)V"⟩
abbrev cX3_addOne : ByteArray := prog_5_method_8_code
def yX3_addOne : MethodName := ⟨RX3, "addOne", "(IIII)V"⟩
abbrev cX3_findInsulted : ByteArray := prog_5_method_9_code
def yX3_findInsulted : MethodName := ⟨RX3, "findInsulted", "()V"⟩
abbrev cX3_strengthOf : ByteArray := prog_5_method_10_code
def yX3_strengthOf : MethodName := ⟨RX3, "strengthOf", "(I)I"⟩
def RX4 : String := "InsultStatues"
def TX4 : u_T := fun k => match k with
  | 0 => ("InsultStatues", "reader", "LInsultStatues$Reader;", true)
  | 1 => ("InsultStatues", "told", "LInsultStatues$Town;", false)
  | 2 => ("InsultStatues", "scene", "LInsultStatues$Scene;", true)
  | 3 => ("InsultStatues", "past", "LInsultStatues$Past;", true)
  | 4 => ("InsultStatues", "images", "[LInsultStatues$Scene;", true)
  | 5 => ("InsultStatues", "kept", "[Z", true)
  | 6 => ("InsultStatues", "seenStatue", "[I", true)
  | 7 => ("InsultStatues", "seenWronged", "[I", true)
  | 8 => ("InsultStatues", "seen", "I", false)
  | _ => ("InsultStatues", "traced", "J", false)
def tyX4 : Nat → FieldType := fun k => match k with
  | 0 => .object "InsultStatues$Reader"
  | 1 => .object "InsultStatues$Town"
  | 2 => .object "InsultStatues$Scene"
  | 3 => .object "InsultStatues$Past"
  | 4 => .array (.object "InsultStatues$Scene")
  | 5 => .array .boolean
  | 6 => .array .int
  | 7 => .array .int
  | 8 => .int
  | _ => .long
theorem nmX4 : ∀ a, a < 10 → ∀ b, b < 10 → a ≠ b → (TX4 a).2.1 ≠ (TX4 b).2.1 := by decide +kernel
theorem tyX4_ok : ∀ k, k < 10 → parseFieldDescriptor (TX4 k).2.2.1 = some (tyX4 k) := by decide +kernel
abbrev cX4_init : ByteArray := prog_1_method_1_code
def yX4_init : MethodName := ⟨RX4, "<init>", "()V"⟩
abbrev cX4_type : ByteArray := prog_1_method_2_code
def yX4_type : MethodName := ⟨RX4, "type", "(I)I"⟩
abbrev cX4_clear : ByteArray := prog_1_method_3_code
def yX4_clear : MethodName := ⟨RX4, "clear", "()I"⟩
abbrev cX4_town : ByteArray := prog_1_method_4_code
def yX4_town : MethodName := ⟨RX4, "town", "()I"⟩
abbrev cX4_beginAnew : ByteArray := prog_1_method_5_code
def yX4_beginAnew : MethodName := ⟨RX4, "beginAnew", "()V"⟩
abbrev cX4_statue : ByteArray := prog_1_method_6_code
def yX4_statue : MethodName := ⟨RX4, "statue", "(II)I"⟩
abbrev cX4_one : ByteArray := prog_1_method_7_code
def yX4_one : MethodName := ⟨RX4, "one", "(II)I"⟩
abbrev cX4_now : ByteArray := prog_1_method_8_code
def yX4_now : MethodName := ⟨RX4, "now", "(I)I"⟩
abbrev cX4_comes : ByteArray := prog_1_method_9_code
def yX4_comes : MethodName := ⟨RX4, "comes", "(I)I"⟩
abbrev cX4_goes : ByteArray := prog_1_method_10_code
def yX4_goes : MethodName := ⟨RX4, "goes", "(I)I"⟩
abbrev cX4_claims : ByteArray := prog_1_method_11_code
def yX4_claims : MethodName := ⟨RX4, "claims", "(II)I"⟩
abbrev cX4_pulls : ByteArray := prog_1_method_12_code
def yX4_pulls : MethodName := ⟨RX4, "pulls", "(II)I"⟩
abbrev cX4_undo : ByteArray := prog_1_method_13_code
def yX4_undo : MethodName := ⟨RX4, "undo", "()I"⟩
abbrev cX4_gather : ByteArray := prog_1_method_14_code
def yX4_gather : MethodName := ⟨RX4, "gather", "(I)I"⟩
abbrev cX4_bare : ByteArray := prog_1_method_15_code
def yX4_bare : MethodName := ⟨RX4, "bare", "(II)I"⟩
abbrev cX4_scale : ByteArray := prog_1_method_16_code
def yX4_scale : MethodName := ⟨RX4, "scale", "(II)I"⟩
abbrev cX4_offends : ByteArray := prog_1_method_17_code
def yX4_offends : MethodName := ⟨RX4, "offends", "(II)I"⟩
abbrev cX4_odds : ByteArray := prog_1_method_18_code
def yX4_odds : MethodName := ⟨RX4, "odds", "(III)I"⟩
abbrev cX4_sees : ByteArray := prog_1_method_19_code
def yX4_sees : MethodName := ⟨RX4, "sees", "(II)I"⟩
abbrev cX4_forget : ByteArray := prog_1_method_20_code
def yX4_forget : MethodName := ⟨RX4, "forget", "()I"⟩
abbrev cX4_who : ByteArray := prog_1_method_21_code
def yX4_who : MethodName := ⟨RX4, "who", "()I"⟩
abbrev cX4_show : ByteArray := prog_1_method_22_code
def yX4_show : MethodName := ⟨RX4, "show", "()I"⟩
abbrev cX4_rate : ByteArray := prog_1_method_23_code
def yX4_rate : MethodName := ⟨RX4, "rate", "(II)I"⟩
abbrev cX4_keep : ByteArray := prog_1_method_24_code
def yX4_keep : MethodName := ⟨RX4, "keep", "(I)I"⟩
abbrev cX4_back : ByteArray := prog_1_method_25_code
def yX4_back : MethodName := ⟨RX4, "back", "(I)I"⟩
abbrev cX4_count : ByteArray := prog_1_method_26_code
def yX4_count : MethodName := ⟨RX4, "count", "(I)I"⟩
abbrev cX4_trace : ByteArray := prog_1_method_27_code
def yX4_trace : MethodName := ⟨RX4, "trace", "()J"⟩
abbrev cX4_wrongedBy : ByteArray := prog_1_method_28_code
def yX4_wrongedBy : MethodName := ⟨RX4, "wrongedBy", "(I)I"⟩
abbrev cX4_pullersAt : ByteArray := prog_1_method_29_code
def yX4_pullersAt : MethodName := ⟨RX4, "pullersAt", "(I)I"⟩
abbrev cX4_pullAt : ByteArray := prog_1_method_30_code
def yX4_pullAt : MethodName := ⟨RX4, "pullAt", "(I)I"⟩
abbrev cX4_moves : ByteArray := prog_1_method_31_code
def yX4_moves : MethodName := ⟨RX4, "moves", "(I)Z"⟩
abbrev cX4_moving : ByteArray := prog_1_method_32_code
def yX4_moving : MethodName := ⟨RX4, "moving", "()I"⟩
abbrev cX4_allMoveBy : ByteArray := prog_1_method_33_code
def yX4_allMoveBy : MethodName := ⟨RX4, "allMoveBy", "(II)Z"⟩
abbrev cX4_statueIn : ByteArray := prog_1_method_34_code
def yX4_statueIn : MethodName := ⟨RX4, "statueIn", "(I)I"⟩
abbrev cX4_emptyYards : ByteArray := prog_1_method_35_code
def yX4_emptyYards : MethodName := ⟨RX4, "emptyYards", "()I"⟩
abbrev cX4_pullsToBare : ByteArray := prog_1_method_36_code
def yX4_pullsToBare : MethodName := ⟨RX4, "pullsToBare", "(II)I"⟩
abbrev cX4_offendedIn : ByteArray := prog_1_method_37_code
def yX4_offendedIn : MethodName := ⟨RX4, "offendedIn", "(II)I"⟩
abbrev cX4_placeOf : ByteArray := prog_1_method_38_code
def yX4_placeOf : MethodName := ⟨RX4, "placeOf", "(I)I"⟩
abbrev cX4_chancesToMove : ByteArray := prog_1_method_39_code
def yX4_chancesToMove : MethodName := ⟨RX4, "chancesToMove", "(III)I"⟩
abbrev cX4_stillPossible : ByteArray := prog_1_method_40_code
def yX4_stillPossible : MethodName := ⟨RX4, "stillPossible", "()I"⟩
abbrev cX4_asStatue : ByteArray := prog_1_method_41_code
def yX4_asStatue : MethodName := ⟨RX4, "asStatue", "(I)I"⟩
abbrev cX4_asGeneral : ByteArray := prog_1_method_42_code
def yX4_asGeneral : MethodName := ⟨RX4, "asGeneral", "(I)I"⟩
abbrev cX4_asPoet : ByteArray := prog_1_method_43_code
def yX4_asPoet : MethodName := ⟨RX4, "asPoet", "(I)I"⟩
abbrev cX4_asHorse : ByteArray := prog_1_method_44_code
def yX4_asHorse : MethodName := ⟨RX4, "asHorse", "(I)I"⟩
abbrev cX4_asSaint : ByteArray := prog_1_method_45_code
def yX4_asSaint : MethodName := ⟨RX4, "asSaint", "(I)I"⟩
abbrev cX4_asGirl : ByteArray := prog_1_method_46_code
def yX4_asGirl : MethodName := ⟨RX4, "asGirl", "(I)I"⟩
abbrev cX4_has : ByteArray := prog_1_method_47_code
def yX4_has : MethodName := ⟨RX4, "has", "(II)Z"⟩
abbrev cX4_isWithin : ByteArray := prog_1_method_48_code
def yX4_isWithin : MethodName := ⟨RX4, "isWithin", "(II)Z"⟩
abbrev cX4_isSide : ByteArray := prog_1_method_49_code
def yX4_isSide : MethodName := ⟨RX4, "isSide", "(I)Z"⟩
abbrev cX4_stepTo : ByteArray := prog_1_method_50_code
def yX4_stepTo : MethodName := ⟨RX4, "stepTo", "(I)I"⟩
abbrev cX4_isImage : ByteArray := prog_1_method_51_code
def yX4_isImage : MethodName := ⟨RX4, "isImage", "(I)Z"⟩
abbrev cX4_ordersOf : ByteArray := prog_1_method_52_code
def yX4_ordersOf : MethodName := ⟨RX4, "ordersOf", "(I)I"⟩
abbrev cX4_power : ByteArray := prog_1_method_53_code
def yX4_power : MethodName := ⟨RX4, "power", "(II)I"⟩
abbrev cX4_commonDivisor : ByteArray := prog_1_method_54_code
def yX4_commonDivisor : MethodName := ⟨RX4, "commonDivisor", "(II)I"⟩
def RX5 : String := "InsultStatuesModel"
def TX5 : u_T := fun k => match k with
  | 0 => ("InsultStatuesModel", "told", "[I", true)
  | 1 => ("InsultStatuesModel", "read", "[I", true)
  | 2 => ("InsultStatuesModel", "readRow", "[I", true)
  | 3 => ("InsultStatuesModel", "now", "[I", true)
  | 4 => ("InsultStatuesModel", "before", "[I", true)
  | 5 => ("InsultStatuesModel", "undoMany", "I", false)
  | 6 => ("InsultStatuesModel", "images", "[I", true)
  | 7 => ("InsultStatuesModel", "imaged", "I", false)
  | 8 => ("InsultStatuesModel", "length", "I", false)
  | 9 => ("InsultStatuesModel", "text", "[I", true)
  | 10 => ("InsultStatuesModel", "seenMany", "I", false)
  | 11 => ("InsultStatuesModel", "seenOf", "[I", true)
  | 12 => ("InsultStatuesModel", "seenIs", "[I", true)
  | 13 => ("InsultStatuesModel", "trace", "J", false)
  | 14 => ("InsultStatuesModel", "spot", "I", false)
  | 15 => ("InsultStatuesModel", "begins", "I", false)
  | 16 => ("InsultStatuesModel", "token", "I", false)
  | _ => ("InsultStatuesModel", "value", "I", false)
def tyX5 : Nat → FieldType := fun k => match k with
  | 0 => .array .int
  | 1 => .array .int
  | 2 => .array .int
  | 3 => .array .int
  | 4 => .array .int
  | 5 => .int
  | 6 => .array .int
  | 7 => .int
  | 8 => .int
  | 9 => .array .int
  | 10 => .int
  | 11 => .array .int
  | 12 => .array .int
  | 13 => .long
  | 14 => .int
  | 15 => .int
  | 16 => .int
  | _ => .int
theorem nmX5 : ∀ a, a < 18 → ∀ b, b < 18 → a ≠ b → (TX5 a).2.1 ≠ (TX5 b).2.1 := by decide +kernel
theorem tyX5_ok : ∀ k, k < 18 → parseFieldDescriptor (TX5 k).2.2.1 = some (tyX5 k) := by decide +kernel
abbrev cX5_init : ByteArray := prog_7_method_1_code
def yX5_init : MethodName := ⟨RX5, "<init>", "()V"⟩
abbrev cX5_in : ByteArray := prog_7_method_2_code
def yX5_in : MethodName := ⟨RX5, "in", "(JJJ)Z"⟩
abbrev cX5_has : ByteArray := prog_7_method_3_code
def yX5_has : MethodName := ⟨RX5, "has", "(II)Z"⟩
abbrev cX5_ones : ByteArray := prog_7_method_4_code
def yX5_ones : MethodName := ⟨RX5, "ones", "(I)I"⟩
abbrev cX5_type : ByteArray := prog_7_method_5_code
def yX5_type : MethodName := ⟨RX5, "type", "(I)I"⟩
abbrev cX5_clear : ByteArray := prog_7_method_6_code
def yX5_clear : MethodName := ⟨RX5, "clear", "()I"⟩
abbrev cX5_isFigure : ByteArray := prog_7_method_7_code
def yX5_isFigure : MethodName := ⟨RX5, "isFigure", "(I)Z"⟩
abbrev cX5_isLetter : ByteArray := prog_7_method_8_code
def yX5_isLetter : MethodName := ⟨RX5, "isLetter", "(I)Z"⟩
abbrev cX5_next : ByteArray := prog_7_method_9_code
def yX5_next : MethodName := ⟨RX5, "next", "()V"⟩
abbrev cX5_isNumber : ByteArray := prog_7_method_10_code
def yX5_isNumber : MethodName := ⟨RX5, "isNumber", "(II)Z"⟩
abbrev cX5_isEnd : ByteArray := prog_7_method_11_code
def yX5_isEnd : MethodName := ⟨RX5, "isEnd", "()Z"⟩
abbrev cX5_isInsults : ByteArray := prog_7_method_12_code
def yX5_isInsults : MethodName := ⟨RX5, "isInsults", "(I)Z"⟩
abbrev cX5_isEmptyYard : ByteArray := prog_7_method_13_code
def yX5_isEmptyYard : MethodName := ⟨RX5, "isEmptyYard", "(I)Z"⟩
abbrev cX5_statueItem : ByteArray := prog_7_method_14_code
def yX5_statueItem : MethodName := ⟨RX5, "statueItem", "()Z"⟩
abbrev cX5_personItem : ByteArray := prog_7_method_15_code
def yX5_personItem : MethodName := ⟨RX5, "personItem", "()Z"⟩
abbrev cX5_item : ByteArray := prog_7_method_16_code
def yX5_item : MethodName := ⟨RX5, "item", "(ZZ)Z"⟩
abbrev cX5_readAll : ByteArray := prog_7_method_17_code
def yX5_readAll : MethodName := ⟨RX5, "readAll", "()I"⟩
abbrev cX5_town : ByteArray := prog_7_method_18_code
def yX5_town : MethodName := ⟨RX5, "town", "()I"⟩
abbrev cX5_isStatue : ByteArray := prog_7_method_19_code
def yX5_isStatue : MethodName := ⟨RX5, "isStatue", "(I)Z"⟩
abbrev cX5_isOne : ByteArray := prog_7_method_20_code
def yX5_isOne : MethodName := ⟨RX5, "isOne", "(I)Z"⟩
abbrev cX5_isYard : ByteArray := prog_7_method_21_code
def yX5_isYard : MethodName := ⟨RX5, "isYard", "(I)Z"⟩
abbrev cX5_isWronged : ByteArray := prog_7_method_22_code
def yX5_isWronged : MethodName := ⟨RX5, "isWronged", "(II)Z"⟩
abbrev cX5_wronged : ByteArray := prog_7_method_23_code
def yX5_wronged : MethodName := ⟨RX5, "wronged", "(I)I"⟩
abbrev cX5_strength : ByteArray := prog_7_method_24_code
def yX5_strength : MethodName := ⟨RX5, "strength", "(I)I"⟩
abbrev cX5_pull : ByteArray := prog_7_method_25_code
def yX5_pull : MethodName := ⟨RX5, "pull", "(I)I"⟩
abbrev cX5_moves : ByteArray := prog_7_method_26_code
def yX5_moves : MethodName := ⟨RX5, "moves", "(I)Z"⟩
abbrev cX5_statueIn : ByteArray := prog_7_method_27_code
def yX5_statueIn : MethodName := ⟨RX5, "statueIn", "(I)I"⟩
abbrev cX5_offended : ByteArray := prog_7_method_28_code
def yX5_offended : MethodName := ⟨RX5, "offended", "(II)I"⟩
abbrev cX5_placeOf : ByteArray := prog_7_method_29_code
def yX5_placeOf : MethodName := ⟨RX5, "placeOf", "(I)I"⟩
abbrev cX5_statue : ByteArray := prog_7_method_30_code
def yX5_statue : MethodName := ⟨RX5, "statue", "(II)I"⟩
abbrev cX5_one : ByteArray := prog_7_method_31_code
def yX5_one : MethodName := ⟨RX5, "one", "(II)I"⟩
abbrev cX5_now : ByteArray := prog_7_method_32_code
def yX5_now : MethodName := ⟨RX5, "now", "(I)I"⟩
abbrev cX5_note : ByteArray := prog_7_method_33_code
def yX5_note : MethodName := ⟨RX5, "note", "()V"⟩
abbrev cX5_comes : ByteArray := prog_7_method_34_code
def yX5_comes : MethodName := ⟨RX5, "comes", "(I)I"⟩
abbrev cX5_goes : ByteArray := prog_7_method_35_code
def yX5_goes : MethodName := ⟨RX5, "goes", "(I)I"⟩
abbrev cX5_claims : ByteArray := prog_7_method_36_code
def yX5_claims : MethodName := ⟨RX5, "claims", "(II)I"⟩
abbrev cX5_pulls : ByteArray := prog_7_method_37_code
def yX5_pulls : MethodName := ⟨RX5, "pulls", "(II)I"⟩
abbrev cX5_undo : ByteArray := prog_7_method_38_code
def yX5_undo : MethodName := ⟨RX5, "undo", "()I"⟩
abbrev cX5_gather : ByteArray := prog_7_method_39_code
def yX5_gather : MethodName := ⟨RX5, "gather", "(I)I"⟩
abbrev cX5_bareBy : ByteArray := prog_7_method_40_code
def yX5_bareBy : MethodName := ⟨RX5, "bareBy", "(II)I"⟩
abbrev cX5_bare : ByteArray := prog_7_method_41_code
def yX5_bare : MethodName := ⟨RX5, "bare", "(II)I"⟩
abbrev cX5_scale : ByteArray := prog_7_method_42_code
def yX5_scale : MethodName := ⟨RX5, "scale", "(II)I"⟩
abbrev cX5_orders : ByteArray := prog_7_method_43_code
def yX5_orders : MethodName := ⟨RX5, "orders", "(I)I"⟩
abbrev cX5_offends : ByteArray := prog_7_method_44_code
def yX5_offends : MethodName := ⟨RX5, "offends", "(II)I"⟩
abbrev cX5_odds : ByteArray := prog_7_method_45_code
def yX5_odds : MethodName := ⟨RX5, "odds", "(III)I"⟩
abbrev cX5_sees : ByteArray := prog_7_method_46_code
def yX5_sees : MethodName := ⟨RX5, "sees", "(II)I"⟩
abbrev cX5_forget : ByteArray := prog_7_method_47_code
def yX5_forget : MethodName := ⟨RX5, "forget", "()I"⟩
abbrev cX5_who : ByteArray := prog_7_method_48_code
def yX5_who : MethodName := ⟨RX5, "who", "()I"⟩
abbrev cX5_show : ByteArray := prog_7_method_49_code
def yX5_show : MethodName := ⟨RX5, "show", "()I"⟩
abbrev cX5_asStatue : ByteArray := prog_7_method_50_code
def yX5_asStatue : MethodName := ⟨RX5, "asStatue", "(I)I"⟩
abbrev cX5_asGeneral : ByteArray := prog_7_method_51_code
def yX5_asGeneral : MethodName := ⟨RX5, "asGeneral", "(I)I"⟩
abbrev cX5_asPoet : ByteArray := prog_7_method_52_code
def yX5_asPoet : MethodName := ⟨RX5, "asPoet", "(I)I"⟩
abbrev cX5_asHorse : ByteArray := prog_7_method_53_code
def yX5_asHorse : MethodName := ⟨RX5, "asHorse", "(I)I"⟩
abbrev cX5_asSaint : ByteArray := prog_7_method_54_code
def yX5_asSaint : MethodName := ⟨RX5, "asSaint", "(I)I"⟩
abbrev cX5_asGirl : ByteArray := prog_7_method_55_code
def yX5_asGirl : MethodName := ⟨RX5, "asGirl", "(I)I"⟩
abbrev cX5_rate : ByteArray := prog_7_method_56_code
def yX5_rate : MethodName := ⟨RX5, "rate", "(II)I"⟩
abbrev cX5_keep : ByteArray := prog_7_method_57_code
def yX5_keep : MethodName := ⟨RX5, "keep", "(I)I"⟩
abbrev cX5_back : ByteArray := prog_7_method_58_code
def yX5_back : MethodName := ⟨RX5, "back", "(I)I"⟩
abbrev cX5_count : ByteArray := prog_7_method_59_code
def yX5_count : MethodName := ⟨RX5, "count", "(I)I"⟩
abbrev cX5_trace : ByteArray := prog_7_method_60_code
def yX5_trace : MethodName := ⟨RX5, "trace", "()J"⟩
def RJ6 : String := "java/lang/Integer"
abbrev cJ6_bitCount_0f7a4 : ByteArray := prog_8_method_49_code
def yJ6_bitCount_0f7a4 : MethodName := ⟨RJ6, "bitCount", "(I)I"⟩
def RJ9 : String := "java/lang/Math"
abbrev cJ9_abs_0f7a4 : ByteArray := prog_9_method_59_code
def yJ9_abs_0f7a4 : MethodName := ⟨RJ9, "abs", "(I)I"⟩
abbrev cJ9_max_7cf53 : ByteArray := prog_9_method_65_code
def yJ9_max_7cf53 : MethodName := ⟨RJ9, "max", "(II)I"⟩
abbrev cJ9_min_7cf53 : ByteArray := prog_9_method_69_code
def yJ9_min_7cf53 : MethodName := ⟨RJ9, "min", "(II)I"⟩
def RL : String := "InsultStatuesLaw"
abbrev cL_law : ByteArray := code
def yL_law : MethodName := x
end
section
/-! ===== the small machine: values, two rows of cells, steps as what must hold next =====
A cell: a row of ints (0) or booleans (1) with its length; a row of references; an object (number of its class, fields). A reference below 1000 is a place in the first row of cells, from 1000 on in the second, 2000 is FACTORIAL, 2001 the script. -/
abbrev zC : Type := (Nat × Nat × (Nat → Int32)) ⊕ (List (Option Nat) ⊕ (Nat × List Value))
abbrev zH : Type := List zC × List zC
abbrev zL : Type := List (Option Value)
abbrev zS : Type := Nat × (Nat → Int32)
abbrev zR : Type := Instr × Nat × Nat × Nat × Nat × Int32 × Int64 × List (Int32 × Nat)
abbrev zX : Type := Nat → zL → List Value → zH → Nat → Nat → Prop
abbrev q0 (i : Instr) (nx : Nat) : Option zR := some (i, nx, 0, 0, 0, 0, 0, [])
abbrev q1 (i : Instr) (nx a : Nat) : Option zR := some (i, nx, a, 0, 0, 0, 0, [])
abbrev q3 (i : Instr) (nx a b c : Nat) : Option zR := some (i, nx, a, b, c, 0, 0, [])
abbrev qx (i : Instr) (nx : Nat) (x : Int32) : Option zR := some (i, nx, 0, 0, 0, x, 0, [])
abbrev qy (i : Instr) (nx : Nat) (y : Int64) : Option zR := some (i, nx, 0, 0, 0, 0, y, [])
abbrev qi (i : Instr) (nx a : Nat) (x : Int32) : Option zR := some (i, nx, a, 0, 0, x, 0, [])
abbrev qs (i : Instr) (nx a : Nat) (sw : List (Int32 × Nat)) : Option zR := some (i, nx, a, 0, 0, 0, 0, sw)
/-- the instruction at a pc -/
def z_at (T : List (List (Option zR))) (pc : Nat) : Option zR := match T[pc / 16]? with
  | some l => match l[pc % 16]? with
    | some r => r
    | none => none
  | none => none
def z_get (h : zH) (k : Nat) : Option zC := match Nat.ble 1000 k with
  | true => h.2[k - 1000]?
  | false => h.1[k]?
def z_set (h : zH) (k : Nat) (c : zC) : zH := match Nat.ble 1000 k with
  | true => (h.1, h.2.set (k - 1000) c)
  | false => (h.1.set k c, h.2)
def z_fac (j : Nat) : Int32 := match j with
  | 0 => 1
  | 1 => 1
  | 2 => 2
  | 3 => 6
  | 4 => 24
  | 5 => 120
  | _ => 720
def z_isl (v : Option Value) : Bool := match v with
  | some (.long _) => true
  | some (.double _) => true
  | _ => false
def z_cat (st : List Value) : Nat := (st.map fun v => v.category).sum
/-- are all references cells that are there -/
def z_okr (h : zH) (k : Nat) : Bool := (Nat.blt k h.1.length) || (Nat.ble 1000 k && Nat.blt k (1000 + h.2.length)) || Nat.ble 2000 k
def z_okv (h : zH) (v : Value) : Bool := match v with
  | .ref k => z_okr h k
  | _ => true
def z_oko (h : zH) (v : Option Value) : Bool := match v with
  | some v => z_okv h v
  | none => true
def z_okc (h : zH) (c : zC) : Bool := match c with
  | .inl _ => true
  | .inr (.inl l) => l.all fun q => match q with
    | some k => z_okr h k
    | none => true
  | .inr (.inr (_, fs)) => fs.all (z_okv h)
def z_wfh (h : zH) : Bool := h.1.all (z_okc h) && h.2.all (z_okc h)
def z_wf (h : zH) (ls : zL) (st : List Value) : Bool := z_wfh h && ls.all (z_oko h) && st.all (z_okv h)
/-- default fields of a class by its number -/
def z_dfl (ci : Nat) : List Value := match ci with
  | 0 => [.int 0, .null, .null, .null]
  | 1 => [.int 0, .null, .null, .int 0, .int 0, .int 0, .int 0, .int 0, .int 0]
  | 2 => [.int 0, .null, .null]
  | 3 => [.int 0, .int 0, .int 0, .int 0, .null, .null, .null, .null, .null, .null, .null, .null]
  | 4 => [.null, .null, .null, .null, .null, .null, .null, .null, .int 0, .long 0]
  | _ => [.null, .null, .null, .null, .null, .int 0, .null, .int 0, .int 0, .null, .int 0, .null, .null, .long 0, .int 0, .int 0, .int 0, .int 0]
def z_c0 (c : ClassFile.Cond) (v : Int32) : Prop := match c with
  | .eq => v = 0
  | .ne => ¬ v = 0
  | .lt => v < 0
  | .ge => 0 ≤ v
  | .gt => 0 < v
  | .le => v ≤ 0
def z_c2 (c : ClassFile.Cond) (v w : Int32) : Prop := match c with
  | .eq => v = w
  | .ne => ¬ v = w
  | .lt => v < w
  | .ge => w ≤ v
  | .gt => w < v
  | .le => v ≤ w
def z_sw (v : Int32) (d : Nat) (K : Nat → Prop) : List (Int32 × Nat) → Prop
  | [] => K d
  | (x, t) :: r => (v = x → K t) ∧ (¬ v = x → z_sw v d K r)
/-- what a field may take, by the kind of its type: 0 int, 1 boolean, 2 a reference, 3 long -/
def z_pf (c : Nat) (v : Value) (P : Prop) : Prop := match c, v with
  | 0, .int _ => P
  | 1, .int w => (w = 0 ∨ w = 1) ∧ P
  | 2, .ref _ => P
  | 3, .long _ => P
  | _, _ => False
def z_app (b : Nat) (st : List Value) (K : List Value → List Value → Prop) : Prop := match b, st with
  | 0, r => K [] r
  | 1, v0 :: r => K [v0] r
  | 2, v1 :: v0 :: r => K [v0, v1] r
  | 3, v2 :: v1 :: v0 :: r => K [v0, v1, v2] r
  | 4, v3 :: v2 :: v1 :: v0 :: r => K [v0, v1, v2, v3] r
  | 5, v4 :: v3 :: v2 :: v1 :: v0 :: r => K [v0, v1, v2, v3, v4] r
  | _, _ => False
def z_push (v : Option Value) (r : List Value) : List Value := match v with
  | some v => v :: r
  | none => r
/-- the receiver is an object of that class -/
def z_rcv (h : zH) (c : Nat) (As : List Value) : Bool := match As with
  | .ref q :: _ => match z_get h q with
    | some (.inr (.inr (ci, _))) => Nat.beq ci c
    | _ => false
  | _ => false
def z_new (h : zH) (c : Nat) (e : zC) (K : Nat → zH → Prop) : Prop := match c, h with
  | 0, (h1, []) => h1.length < 1000 ∧ K h1.length (h1 ++ [e], [])
  | 1, (h1, h2) => (h1.length ≤ 1000 ∧ h2.length < 1000) ∧ K (1000 + h2.length) (h1, h2 ++ [e])
  | _, _ => False
abbrev zQ : Type := Nat → Nat → Nat → List Value → zH → Option Value → zH → Prop
def z_call (C : zQ) (mc ms : Nat) (X : zX) (a nx : Nat) (ls : zL) (As r : List Value) (h : zH) (k n : Nat) : Prop :=
  (∃ (v : Option Value) (h' : zH), C 0 0 a As h v h' ∧ X nx ls (z_push v r) h' k n) ∨
  (∃ (v : Option Value) (h' : zH) (mc' ms' : Nat), C mc' ms' a As h v h' ∧ z_wf h ls r = true ∧ k + mc' ≤ mc ∧ n + ms' ≤ ms ∧ X nx ls (z_push v r) h' (k + mc') (n + ms'))
def z_k1 (st : List Value) (P : Int32 → List Value → Prop) : Prop := match st with
  | .int v :: r => P v r
  | _ => False
def z_k2 (st : List Value) (P : Int32 → Int32 → List Value → Prop) : Prop := match st with
  | .int w :: .int v :: r => P v w r
  | _ => False
def z_kll (st : List Value) (P : Int64 → Int64 → List Value → Prop) : Prop := match st with
  | .long w :: .long v :: r => P v w r
  | _ => False
def z_kr (st : List Value) (P : Nat → List Value → Prop) : Prop := match st with
  | .ref q :: r => P q r
  | _ => False
def z_kir (st : List Value) (P : Int32 → Nat → List Value → Prop) : Prop := match st with
  | .int j :: .ref q :: r => P j q r
  | _ => False
def z_kiir (st : List Value) (P : Int32 → Int32 → Nat → List Value → Prop) : Prop := match st with
  | .int v :: .int j :: .ref q :: r => P v j q r
  | _ => False
def z_krir (st : List Value) (P : Nat → Int32 → Nat → List Value → Prop) : Prop := match st with
  | .ref v :: .int j :: .ref q :: r => P v j q r
  | _ => False
def z_kvr (st : List Value) (P : Value → Nat → List Value → Prop) : Prop := match st with
  | v :: .ref q :: r => P v q r
  | _ => False
def z_kd1 (st : List Value) (P : Value → List Value → Prop) : Prop := match st with
  | .ref v :: r => P (.ref v) r
  | .int v :: r => P (.int v) r
  | _ => False
def z_li (ls : zL) (a : Nat) (P : Int32 → Prop) : Prop := match ls[a]? with
  | some (some (.int v)) => P v
  | _ => False
def z_la (ls : zL) (a : Nat) (P : Nat → Prop) : Prop := match ls[a]? with
  | some (some (.ref v)) => P v
  | _ => False
def z_ll (ls : zL) (a : Nat) (P : Int64 → Prop) : Prop := match ls[a]? with
  | some (some (.long v)) => P v
  | _ => False
def z_if (b : Bool) (P : Prop) : Prop := match b with
  | true => P
  | false => False
def z_hi (h : zH) (q t : Nat) (P : Nat → (Nat → Int32) → Prop) : Prop := match z_get h q with
  | some (.inl (t', m, f)) => z_if (Nat.beq t' t) (P m f)
  | _ => False
def z_hr (h : zH) (q : Nat) (P : List (Option Nat) → Prop) : Prop := match z_get h q with
  | some (.inr (.inl l)) => P l
  | _ => False
def z_ho (h : zH) (q ci : Nat) (P : List Value → Prop) : Prop := match z_get h q with
  | some (.inr (.inr (ci', fs))) => z_if (Nat.beq ci' ci) (P fs)
  | _ => False
def z_hs (S : zS) (h : zH) (q : Nat) (P : Nat → (Nat → Int32) → Prop) : Prop := match Nat.ble 2000 q with
  | true => match Nat.beq q 2000 with
    | true => P 7 z_fac
    | false => z_if (Nat.beq q 2001) (P S.1 S.2)
  | false => z_hi h q 0 P
def z_fd (fs : List Value) (b : Nat) (P : Value → Prop) : Prop := match fs[b]? with
  | some v => P v
  | none => False
def z_ret (st : List Value) (P : Value → Prop) : Prop := match st with
  | [v] => P v
  | _ => False
def z_ob (As : List Value) (P : Prop) : Prop := match As with
  | [.ref _] => P
  | _ => False
def z_isr (As : List Value) : Bool := match As with
  | .ref _ :: _ => true
  | _ => false
def z_sp (a : Nat) (P P' : Prop) : Prop := match Nat.beq a 0 with
  | true => P
  | false => P'
def z_ri (rb : Bool) (v : Value) (P : Option Value → Prop) : Prop := match v with
  | .int v => match rb with
    | true => (v = 0 ∨ v = 1) ∧ P (some (.int v))
    | false => P (some (.int v))
  | _ => False
def z_rl (v : Value) (P : Option Value → Prop) : Prop := match v with
  | .long v => P (some (.long v))
  | _ => False
def z_ra (v : Value) (P : Option Value → Prop) : Prop := match v with
  | .ref v => P (some (.ref v))
  | _ => False
def z_rv (st : List Value) (P : Prop) : Prop := match st with
  | [] => P
  | _ => False
/-- one step: what must hold for the machine to be well at this instruction -/
def z_stp (S : zS) (C : zQ) (rb : Bool) (mc ms : Nat) (X : zX) (Rt : Option Value → zH → Prop) (i : Instr) (nx a b c : Nat) (x : Int32) (y : Int64) (sw : List (Int32 × Nat)) (ls : zL) (st : List Value) (h : zH) (k n : Nat) : Prop :=
  match i with
  | .iconst _ => X nx ls (.int x :: st) h k n
  | .bipush _ => X nx ls (.int x :: st) h k n
  | .sipush _ => X nx ls (.int x :: st) h k n
  | .ldc _ => X nx ls (.int x :: st) h k n
  | .ldc_w _ => X nx ls (.int x :: st) h k n
  | .lconst _ => X nx ls (.long y :: st) h k n
  | .ldc2_w _ => X nx ls (.long y :: st) h k n
  | .iload_n _ => z_li ls a fun v => X nx ls (.int v :: st) h k n
  | .iload _ => z_li ls a fun v => X nx ls (.int v :: st) h k n
  | .aload_n _ => z_la ls a fun v => X nx ls (.ref v :: st) h k n
  | .aload _ => z_la ls a fun v => X nx ls (.ref v :: st) h k n
  | .lload_n _ => z_ll ls a fun v => X nx ls (.long v :: st) h k n
  | .lload _ => z_ll ls a fun v => X nx ls (.long v :: st) h k n
  | .istore_n _ => z_if (!ls.any z_isl) (z_k1 st fun v r => X nx (ls.set a (some (.int v))) r h k n)
  | .istore _ => z_if (!ls.any z_isl) (z_k1 st fun v r => X nx (ls.set a (some (.int v))) r h k n)
  | .astore_n _ => z_if (!ls.any z_isl) (z_kr st fun v r => X nx (ls.set a (some (.ref v))) r h k n)
  | .iinc _ _ => z_if (!ls.any z_isl) (z_li ls a fun v => X nx (ls.set a (some (.int (v + x)))) st h k n)
  | .iadd => z_k2 st fun v w r => X nx ls (.int (v + w) :: r) h k n
  | .isub => z_k2 st fun v w r => X nx ls (.int (v - w) :: r) h k n
  | .imul => z_k2 st fun v w r => X nx ls (.int (v * w) :: r) h k n
  | .idiv => z_k2 st fun v w r => ¬ w = 0 ∧ X nx ls (.int (v / w) :: r) h k n
  | .irem => z_k2 st fun v w r => ¬ w = 0 ∧ X nx ls (.int (v - v / w * w) :: r) h k n
  | .ineg => z_k1 st fun v r => X nx ls (.int (-v) :: r) h k n
  | .iand => z_k2 st fun v w r => X nx ls (.int (v &&& w) :: r) h k n
  | .ior => z_k2 st fun v w r => X nx ls (.int (v ||| w) :: r) h k n
  | .ixor => z_k2 st fun v w r => X nx ls (.int (v ^^^ w) :: r) h k n
  | .ishl => z_k2 st fun v w r => X nx ls (.int (v <<< (w &&& 31)) :: r) h k n
  | .ishr => z_k2 st fun v w r => X nx ls (.int (v >>> (w &&& 31)) :: r) h k n
  | .iushr => z_k2 st fun v w r => X nx ls (.int ((v.toUInt32 >>> (w.toUInt32 &&& Int32.toUInt32 31)).toInt32) :: r) h k n
  | .i2l => z_k1 st fun v r => X nx ls (.long v.toInt64 :: r) h k n
  | .ladd => z_kll st fun v w r => X nx ls (.long (v + w) :: r) h k n
  | .lcmp => z_kll st fun v w r => X nx ls (.int (lg_cmp v w) :: r) h k n
  | .dup => z_kd1 st fun v r => X nx ls (v :: v :: r) h k n
  | .dup2 => z_kir st fun w v r => X nx ls (.int w :: .ref v :: .int w :: .ref v :: r) h k n
  | .ifCond o _ => z_k1 st fun v r => (z_c0 o v → X a ls r h k n) ∧ (¬ z_c0 o v → X nx ls r h k n)
  | .if_icmp o _ => z_k2 st fun v w r => (z_c2 o v w → X a ls r h k n) ∧ (¬ z_c2 o v w → X nx ls r h k n)
  | .goto _ => X a ls st h k n
  | .tableswitch _ _ _ _ => z_k1 st fun v r => z_sw v a (fun t => X t ls r h k n) sw
  | .iaload => z_kir st fun j q r => z_hs S h q fun m f => vp_in j m ∧ X nx ls (.int (f j.toNatClampNeg) :: r) h k n
  | .iastore => z_kiir st fun v j q r => z_hi h q 0 fun m f => vp_in j m ∧ X nx ls r (z_set h q (.inl (0, m, upd f j.toNatClampNeg v))) k n
  | .baload => z_kir st fun j q r => z_hi h q 1 fun m f => vp_in j m ∧ X nx ls (.int (f j.toNatClampNeg) :: r) h k n
  | .bastore => z_kiir st fun v j q r => z_hi h q 1 fun m f => vp_in j m ∧ (v = 0 ∨ v = 1) ∧ X nx ls r (z_set h q (.inl (1, m, upd f j.toNatClampNeg v))) k n
  | .aaload => z_kir st fun j q r => z_hr h q fun l => vp_in j l.length ∧ ∃ t, l[j.toNatClampNeg]? = some (some t) ∧ X nx ls (.ref t :: r) h k n
  | .aastore => z_krir st fun v j q r => z_hr h q fun l => z_ho h v 2 fun _ => vp_in j l.length ∧ X nx ls r (z_set h q (.inr (.inl (l.set j.toNatClampNeg (some v))))) k n
  | .arraylength => z_kr st fun q r => z_hs S h q fun m _ => X nx ls (.int (Int32.ofNat m) :: r) h k n
  | .getfield _ => z_kr st fun q r => z_ho h q a fun fs => z_fd fs b fun v => X nx ls (v :: r) h k n
  | .putfield _ => z_kvr st fun v q r => z_ho h q a fun fs => z_if (Nat.blt b fs.length) (z_pf c v (X nx ls r (z_set h q (.inr (.inr (a, fs.set b v)))) k n))
  | .getstatic _ => X nx ls (.ref 2000 :: st) h k n
  | .new _ => z_wf h ls st = true ∧ k + 1 ≤ mc ∧ n + b ≤ ms ∧ z_new h c (.inr (.inr (a, z_dfl a))) (fun q h' => X nx ls (.ref q :: st) h' (k + 1) (n + b))
  | .newarray _ => z_k1 st fun v r => z_wf h ls r = true ∧ v = Int32.ofNat b ∧ k + 1 ≤ mc ∧ n + b ≤ ms ∧ z_new h c (.inl (a, b, fun _ => 0)) (fun q h' => X nx ls (.ref q :: r) h' (k + 1) (n + b))
  | .anewarray _ => z_k1 st fun v r => z_wf h ls r = true ∧ v = Int32.ofNat b ∧ k + 1 ≤ mc ∧ n + b ≤ ms ∧ z_new h c (.inr (.inl (List.replicate b none))) (fun q h' => X nx ls (.ref q :: r) h' (k + 1) (n + b))
  | .invokestatic _ => z_app b st fun As r => z_if (Nat.ble (z_cat r) 8) (z_call C mc ms X a nx ls As r h k n)
  | .invokevirtual _ => z_app b st fun As r => z_if (Nat.ble (z_cat r) 8) (z_if (z_rcv h c As) (z_call C mc ms X a nx ls As r h k n))
  | .invokespecial _ => z_app b st fun As r => z_if (Nat.ble (z_cat r) 8) (z_sp a (z_ob As (X nx ls r h k n)) (z_if (z_isr As) (z_call C mc ms X a nx ls As r h k n)))
  | .ireturn => z_ret st fun v => z_ri rb v fun w => Rt w h
  | .lreturn => z_ret st fun v => z_rl v fun w => Rt w h
  | .areturn => z_ret st fun v => z_ra v fun w => Rt w h
  | .return_ => z_rv st (Rt none h)
  | _ => False
def z_ent1 (args : List Value) : zL := args.flatMap fun v => match v with
  | .long w => [some (.long w), none]
  | .double w => [some (.double w), none]
  | v => [some v]
def z_ent (ml : Nat) (args : List Value) : zL := z_ent1 args ++ List.replicate (ml - (z_ent1 args).length) none
/-- X is shut under steps backward -/
def z_cl (S : zS) (C : zQ) (T : List (List (Option zR))) (rb : Bool) (mc ms : Nat) (Rt : Option Value → zH → Prop) (X : zX) : Prop :=
  ∀ (pc : Nat) (ls : zL) (st : List Value) (h : zH) (k n : Nat) (i : Instr) (nx a b c : Nat) (x : Int32) (y : Int64) (sw : List (Int32 × Nat)), z_at T pc = some (i, nx, a, b, c, x, y, sw) → z_stp S C rb mc ms X Rt i nx a b c x y sw ls st h k n → X pc ls st h k n
end
section
def tX0_init : List (List (Option zR)) := [[q1 (.aload_n 0) 1 0, q3 (.invokespecial 3) 4 0 1 0, none, none, q1 (.aload_n 0) 5 0, qx (.bipush 10) 7 10, none, q3 (.newarray .int) 9 0 10 0, none, q3 (.putfield 9) 12 0 1 2, none, none, q1 (.aload_n 0) 13 0, qx (.bipush 10) 15 10, none, q3 (.newarray .int) 17 0 10 0],
  [none, q3 (.putfield 15) 20 0 2 2, none, none, q1 (.aload_n 0) 21 0, qx (.bipush 10) 23 10, none, q3 (.newarray .int) 25 0 10 0, none, q3 (.putfield 18) 28 0 3 2, none, none, q0 .return_ 29]]
def tX0_lose : List (List (Option zR)) := [[q1 (.aload_n 0) 1 0, qx (.iconst 0) 2 0, q3 (.putfield 21) 5 0 0 0, none, none, q0 .return_ 6]]
def tX0_add : List (List (Option zR)) := [[q1 (.aload_n 0) 1 0, q3 (.getfield 21) 4 0 0 0, none, none, qx (.bipush 10) 6 10, none, q1 (.if_icmp .lt 7) 9 13, none, none, q1 (.aload_n 0) 10 0, q3 (.invokevirtual 25) 13 4 1 0, none, none, q1 (.aload_n 0) 14 0, q3 (.getfield 9) 17 0 1 2, none],
  [none, q1 (.aload_n 0) 18 0, q3 (.getfield 21) 21 0 0 0, none, none, q1 (.iload_n 1) 22 1, q0 .iastore 23, q1 (.aload_n 0) 24 0, q3 (.getfield 15) 27 0 2 2, none, none, q1 (.aload_n 0) 28 0, q3 (.getfield 21) 31 0 0 0, none, none, q1 (.iload_n 2) 32 2],
  [q0 .iastore 33, q1 (.aload_n 0) 34 0, q3 (.getfield 18) 37 0 3 2, none, none, q1 (.aload_n 0) 38 0, q3 (.getfield 21) 41 0 0 0, none, none, q1 (.iload_n 3) 42 3, q0 .iastore 43, q1 (.aload_n 0) 44 0, q0 .dup 45, q3 (.getfield 21) 48 0 0 0, none, none],
  [qx (.iconst 1) 49 1, q0 .iadd 50, q3 (.putfield 21) 53 0 0 0, none, none, q0 .return_ 54]]
def tX0_loseOldest : List (List (Option zR)) := [[qx (.iconst 1) 1 1, q1 (.istore_n 1) 2 1, q1 (.iload_n 1) 3 1, qx (.bipush 10) 5 10, none, q1 (.if_icmp .ge 51) 8 56, none, none, q1 (.aload_n 0) 9 0, q3 (.getfield 9) 12 0 1 2, none, none, q1 (.iload_n 1) 13 1, qx (.iconst 1) 14 1, q0 .isub 15, q1 (.aload_n 0) 16 0],
  [q3 (.getfield 9) 19 0 1 2, none, none, q1 (.iload_n 1) 20 1, q0 .iaload 21, q0 .iastore 22, q1 (.aload_n 0) 23 0, q3 (.getfield 15) 26 0 2 2, none, none, q1 (.iload_n 1) 27 1, qx (.iconst 1) 28 1, q0 .isub 29, q1 (.aload_n 0) 30 0, q3 (.getfield 15) 33 0 2 2, none],
  [none, q1 (.iload_n 1) 34 1, q0 .iaload 35, q0 .iastore 36, q1 (.aload_n 0) 37 0, q3 (.getfield 18) 40 0 3 2, none, none, q1 (.iload_n 1) 41 1, qx (.iconst 1) 42 1, q0 .isub 43, q1 (.aload_n 0) 44 0, q3 (.getfield 18) 47 0 3 2, none, none, q1 (.iload_n 1) 48 1],
  [q0 .iaload 49, q0 .iastore 50, qi (.iinc 1 1) 53 1 1, none, none, q1 (.goto (-51)) 56 2, none, none, q1 (.aload_n 0) 57 0, qx (.bipush 9) 59 9, none, q3 (.putfield 21) 62 0 0 0, none, none, q0 .return_ 63]]
def tX0_takeBack : List (List (Option zR)) := [[q1 (.aload_n 0) 1 0, q3 (.getfield 21) 4 0 0 0, none, none, q1 (.ifCond .gt 4) 7 8, none, none, q0 .return_ 8, q1 (.aload_n 0) 9 0, q0 .dup 10, q3 (.getfield 21) 13 0 0 0, none, none, qx (.iconst 1) 14 1, q0 .isub 15, q3 (.putfield 21) 18 0 0 0],
  [none, none, q1 (.aload_n 0) 19 0, q3 (.getfield 15) 22 0 2 2, none, none, q1 (.aload_n 0) 23 0, q3 (.getfield 21) 26 0 0 0, none, none, q0 .iaload 27, q1 (.istore_n 2) 28 2, q1 (.aload_n 0) 29 0, q3 (.getfield 9) 32 0 1 2, none, none],
  [q1 (.aload_n 0) 33 0, q3 (.getfield 21) 36 0 0 0, none, none, q0 .iaload 37, qs (.tableswitch 84 0 2 #[27, 44, 59]) 64 121 [(0, 64), (1, 81), (2, 96)], none, none, none, none, none, none, none, none, none, none],
  [none, none, none, none, none, none, none, none, none, none, none, none, none, none, none, none],
  [q1 (.aload_n 1) 65 1, q0 .dup 66, q3 (.getfield 28) 69 2 0 0, none, none, qx (.iconst 1) 70 1, q1 (.iload_n 2) 71 2, q0 .ishl 72, qx (.iconst (-1)) 73 (-1), q0 .ixor 74, q0 .iand 75, q3 (.putfield 28) 78 2 0 0, none, none, q1 (.goto 58) 81 136, none],
  [none, q1 (.aload_n 1) 82 1, q0 .dup 83, q3 (.getfield 28) 86 2 0 0, none, none, qx (.iconst 1) 87 1, q1 (.iload_n 2) 88 2, q0 .ishl 89, q0 .ior 90, q3 (.putfield 28) 93 2 0 0, none, none, q1 (.goto 43) 96 136, none, none],
  [q1 (.aload_n 1) 97 1, q3 (.getfield 33) 100 2 2 2, none, none, q1 (.iload_n 2) 101 2, q0 .dup2 102, q0 .iaload 103, qx (.iconst 1) 104 1, q1 (.aload_n 0) 105 0, q3 (.getfield 18) 108 0 3 2, none, none, q1 (.aload_n 0) 109 0, q3 (.getfield 21) 112 0 0 0, none, none],
  [q0 .iaload 113, q0 .ishl 114, qx (.iconst (-1)) 115 (-1), q0 .ixor 116, q0 .iand 117, q0 .iastore 118, q1 (.goto 18) 121 136, none, none, q1 (.aload_n 1) 122 1, q3 (.getfield 36) 125 2 1 2, none, none, q1 (.iload_n 2) 126 2, q1 (.aload_n 0) 127 0, q3 (.getfield 18) 130 0 3 2],
  [none, none, q1 (.aload_n 0) 131 0, q3 (.getfield 21) 134 0 0 0, none, none, q0 .iaload 135, q0 .iastore 136, q0 .return_ 137]]
def tX1_init : List (List (Option zR)) := [[q1 (.aload_n 0) 1 0, q3 (.invokespecial 3) 4 0 1 0, none, none, q1 (.aload_n 0) 5 0, qx (.sipush 150) 8 150, none, none, q3 (.newarray .int) 10 0 150 0, none, q3 (.putfield 9) 13 1 1 2, none, none, q1 (.aload_n 0) 14 0, q3 (.new 15) 17 3 12 0, none],
  [none, q0 .dup 18, q3 (.invokespecial 17) 21 26 1 3, none, none, q3 (.putfield 18) 24 1 2 2, none, none, q0 .return_ 25]]
def tX1_addLetter : List (List (Option zR)) := [[q1 (.aload_n 0) 1 0, q3 (.getfield 22) 4 1 0 0, none, none, qx (.sipush 150) 7 150, none, none, q1 (.if_icmp .ge 23) 10 30, none, none, q1 (.aload_n 0) 11 0, q3 (.getfield 9) 14 1 1 2, none, none, q1 (.aload_n 0) 15 0, q3 (.getfield 22) 18 1 0 0],
  [none, none, q1 (.iload_n 1) 19 1, q0 .iastore 20, q1 (.aload_n 0) 21 0, q0 .dup 22, q3 (.getfield 22) 25 1 0 0, none, none, qx (.iconst 1) 26 1, q0 .iadd 27, q3 (.putfield 22) 30 1 0 0, none, none, q0 .return_ 31]]
def tX1_giveTown : List (List (Option zR)) := [[q1 (.aload_n 0) 1 0, q3 (.getfield 18) 4 1 2 2, none, none, q1 (.astore_n 2) 5 2, q1 (.aload_n 0) 6 0, q1 (.aload_n 1) 7 1, q3 (.putfield 18) 10 1 2 2, none, none, q1 (.aload_n 2) 11 2, q0 .areturn 12]]
def tX1_readTown : List (List (Option zR)) := [[q1 (.aload_n 0) 1 0, q3 (.getfield 18) 4 1 2 2, none, none, q3 (.invokevirtual 26) 7 27 1 3, none, none, q1 (.aload_n 0) 8 0, qx (.iconst 0) 9 0, q3 (.putfield 29) 12 1 4 1, none, none, q1 (.aload_n 0) 13 0, qx (.iconst 0) 14 0, q3 (.putfield 33) 17 1 6 0, none],
  [none, q1 (.aload_n 0) 18 0, qx (.iconst 0) 19 0, q3 (.putfield 36) 22 1 3 0, none, none, q1 (.aload_n 0) 23 0, q3 (.getfield 36) 26 1 3 0, none, none, q1 (.aload_n 0) 27 0, q3 (.getfield 22) 30 1 0 0, none, none, q1 (.if_icmp .gt 54) 33 84, none],
  [none, q1 (.aload_n 0) 34 0, q3 (.invokevirtual 39) 37 20 1 1, none, none, q1 (.aload_n 0) 38 0, q3 (.getfield 42) 41 1 7 0, none, none, q1 (.ifCond .ne 15) 44 56, none, none, q1 (.aload_n 0) 45 0, q3 (.getfield 18) 48 1 2 2, none, none],
  [q3 (.invokevirtual 45) 51 34 1 3, none, none, q1 (.aload_n 0) 52 0, q3 (.getfield 36) 55 1 3 0, none, none, q0 .ireturn 56, q1 (.aload_n 0) 57 0, q3 (.invokevirtual 48) 60 10 1 1, none, none, q1 (.ifCond .ne 11) 63 71, none, none, qx (.bipush (-10)) 65 (-10)],
  [none, q1 (.aload_n 0) 66 0, q3 (.getfield 52) 69 1 5 0, none, none, q0 .isub 70, q0 .ireturn 71, q1 (.aload_n 0) 72 0, q0 .dup 73, q3 (.getfield 36) 76 1 3 0, none, none, qx (.iconst 1) 77 1, q0 .iadd 78, q3 (.putfield 36) 81 1 3 0, none],
  [none, q1 (.goto (-59)) 84 22, none, none, qx (.bipush (-10)) 86 (-10), none, q1 (.aload_n 0) 87 0, q3 (.getfield 22) 90 1 0 0, none, none, q0 .isub 91, q0 .ireturn 92]]
def tX1_readItem : List (List (Option zR)) := [[q1 (.aload_n 0) 1 0, q3 (.getfield 42) 4 1 7 0, none, none, qx (.iconst 1) 5 1, q1 (.if_icmp .ne 16) 8 21, none, none, q1 (.aload_n 0) 9 0, q3 (.getfield 33) 12 1 6 0, none, none, q1 (.aload_n 0) 13 0, q3 (.getfield 52) 16 1 5 0, none, none],
  [q0 .isub 17, qx (.iconst 1) 18 1, q1 (.if_icmp .eq 5) 21 23, none, none, qx (.iconst 0) 22 0, q0 .ireturn 23, q1 (.aload_n 0) 24 0, q3 (.getfield 9) 27 1 1 2, none, none, q1 (.aload_n 0) 28 0, q3 (.getfield 52) 31 1 5 0, none, none, q0 .iaload 32],
  [qs (.tableswitch 72 110 118 #[52, 72, 62, 72, 72, 72, 57, 72, 67]) 84 104 [(110, 84), (111, 104), (112, 94), (113, 104), (114, 104), (115, 104), (116, 89), (117, 104), (118, 99)], none, none, none, none, none, none, none, none, none, none, none, none, none, none, none],
  [none, none, none, none, none, none, none, none, none, none, none, none, none, none, none, none],
  [none, none, none, none, none, none, none, none, none, none, none, none, none, none, none, none],
  [none, none, none, none, q1 (.aload_n 0) 85 0, q3 (.invokevirtual 55) 88 11 1 1, none, none, q0 .ireturn 89, q1 (.aload_n 0) 90 0, q3 (.invokevirtual 58) 93 13 1 1, none, none, q0 .ireturn 94, q1 (.aload_n 0) 95 0, q3 (.invokevirtual 61) 98 14 1 1],
  [none, none, q0 .ireturn 99, q1 (.aload_n 0) 100 0, q3 (.invokevirtual 64) 103 12 1 1, none, none, q0 .ireturn 104, qx (.iconst 0) 105 0, q0 .ireturn 106]]
def tX1_readYards : List (List (Option zR)) := [[q1 (.aload_n 0) 1 0, q3 (.getfield 36) 4 1 3 0, none, none, q1 (.ifCond .gt 13) 7 17, none, none, q1 (.aload_n 0) 8 0, qx (.iconst 2) 9 2, qx (.bipush 10) 11 10, none, q3 (.invokevirtual 67) 14 16 3 1, none, none, q1 (.ifCond .ne 5) 17 19, none],
  [none, qx (.iconst 0) 18 0, q0 .ireturn 19, q1 (.aload_n 0) 20 0, q3 (.getfield 18) 23 1 2 2, none, none, q1 (.aload_n 0) 24 0, q3 (.getfield 71) 27 1 8 0, none, none, q3 (.putfield 74) 30 3 0 0, none, none, q1 (.aload_n 0) 31 0, q3 (.invokevirtual 77) 34 15 1 1],
  [none, none, q0 .ireturn 35]]
def tX1_readSight : List (List (Option zR)) := [[q1 (.aload_n 0) 1 0, q3 (.getfield 29) 4 1 4 1, none, none, q1 (.ifCond .ne 12) 7 16, none, none, q1 (.aload_n 0) 8 0, qx (.iconst 0) 9 0, qx (.iconst 3) 10 3, q3 (.invokevirtual 67) 13 16 3 1, none, none, q1 (.ifCond .ne 5) 16 18, none, none],
  [qx (.iconst 0) 17 0, q0 .ireturn 18, q1 (.aload_n 0) 19 0, q3 (.getfield 18) 22 1 2 2, none, none, q1 (.aload_n 0) 23 0, q3 (.getfield 71) 26 1 8 0, none, none, q3 (.putfield 80) 29 3 1 0, none, none, q1 (.aload_n 0) 30 0, qx (.iconst 1) 31 1, q3 (.putfield 29) 34 1 4 1],
  [none, none, q1 (.aload_n 0) 35 0, q3 (.invokevirtual 77) 38 15 1 1, none, none, q0 .ireturn 39]]
def tX1_readStatue : List (List (Option zR)) := [[q1 (.aload_n 0) 1 0, q3 (.getfield 18) 4 1 2 2, none, none, q3 (.getfield 83) 7 3 2 0, none, none, qx (.bipush 6) 9 6, none, q1 (.if_icmp .ge 34) 12 43, none, none, q1 (.aload_n 0) 13 0, qx (.iconst 0) 14 0, q1 (.aload_n 0) 15 0, q3 (.getfield 18) 18 1 2 2],
  [none, none, q3 (.getfield 74) 21 3 0 0, none, none, qx (.iconst 1) 22 1, q0 .isub 23, q3 (.invokevirtual 67) 26 16 3 1, none, none, q1 (.ifCond .eq 17) 29 43, none, none, q1 (.aload_n 0) 30 0, q3 (.getfield 18) 33 1 2 2, none],
  [none, q1 (.aload_n 0) 34 0, q3 (.getfield 71) 37 1 8 0, none, none, q3 (.invokevirtual 86) 40 31 2 3, none, none, q1 (.ifCond .eq 5) 43 45, none, none, qx (.iconst 0) 44 0, q0 .ireturn 45, q1 (.aload_n 0) 46 0, q3 (.getfield 71) 49 1 8 0, none],
  [none, q1 (.istore_n 1) 50 1, q1 (.aload_n 0) 51 0, qx (.iconst 1) 52 1, qx (.bipush 30) 54 30, none, q3 (.invokevirtual 67) 57 16 3 1, none, none, q1 (.ifCond .ne 5) 60 62, none, none, qx (.iconst 0) 61 0, q0 .ireturn 62, q1 (.aload_n 0) 63 0, q3 (.getfield 71) 66 1 8 0],
  [none, none, q1 (.istore_n 2) 67 2, q1 (.aload_n 0) 68 0, qx (.iconst 1) 69 1, q3 (.invokevirtual 90) 72 18 2 1, none, none, q1 (.ifCond .ne 5) 75 77, none, none, qx (.iconst 0) 76 0, q0 .ireturn 77, q1 (.aload_n 0) 78 0, q3 (.getfield 18) 81 1 2 2, none],
  [none, q1 (.iload_n 1) 82 1, q1 (.iload_n 2) 83 2, q1 (.aload_n 0) 84 0, q3 (.getfield 9) 87 1 1 2, none, none, q1 (.aload_n 0) 88 0, q3 (.getfield 52) 91 1 5 0, none, none, q0 .iaload 92, qx (.bipush 97) 94 97, none, q0 .isub 95, q3 (.invokevirtual 93) 98 32 4 3],
  [none, none, q1 (.aload_n 0) 99 0, q3 (.invokevirtual 77) 102 15 1 1, none, none, q0 .ireturn 103]]
def tX1_readOne : List (List (Option zR)) := [[q1 (.aload_n 0) 1 0, q3 (.getfield 18) 4 1 2 2, none, none, q3 (.getfield 97) 7 3 3 0, none, none, qx (.bipush 6) 9 6, none, q1 (.if_icmp .ge 20) 12 29, none, none, q1 (.aload_n 0) 13 0, qx (.iconst 0) 14 0, q1 (.aload_n 0) 15 0, q3 (.getfield 18) 18 1 2 2],
  [none, none, q3 (.getfield 74) 21 3 0 0, none, none, qx (.iconst 1) 22 1, q0 .isub 23, q3 (.invokevirtual 67) 26 16 3 1, none, none, q1 (.ifCond .ne 5) 29 31, none, none, qx (.iconst 0) 30 0, q0 .ireturn 31, q1 (.aload_n 0) 32 0],
  [q3 (.getfield 71) 35 1 8 0, none, none, q1 (.istore_n 1) 36 1, q1 (.aload_n 0) 37 0, qx (.iconst 1) 38 1, qx (.bipush 9) 40 9, none, q3 (.invokevirtual 67) 43 16 3 1, none, none, q1 (.ifCond .ne 5) 46 48, none, none, qx (.iconst 0) 47 0, q0 .ireturn 48],
  [q1 (.aload_n 0) 49 0, q3 (.getfield 71) 52 1 8 0, none, none, q1 (.istore_n 2) 53 2, q1 (.aload_n 0) 54 0, qx (.iconst 0) 55 0, qx (.iconst 3) 56 3, q3 (.invokevirtual 67) 59 16 3 1, none, none, q1 (.ifCond .ne 5) 62 64, none, none, qx (.iconst 0) 63 0, q0 .ireturn 64],
  [q1 (.aload_n 0) 65 0, q3 (.getfield 71) 68 1 8 0, none, none, q1 (.istore_n 3) 69 3, q1 (.aload_n 0) 70 0, qx (.bipush 6) 72 6, none, q3 (.invokevirtual 90) 75 18 2 1, none, none, q1 (.ifCond .ne 5) 78 80, none, none, qx (.iconst 0) 79 0, q0 .ireturn 80],
  [q1 (.aload_n 0) 81 0, q3 (.getfield 18) 84 1 2 2, none, none, q1 (.iload_n 1) 85 1, q1 (.iload_n 2) 86 2, q1 (.iload_n 3) 87 3, q1 (.aload_n 0) 88 0, q3 (.invokevirtual 100) 91 19 1 1, none, none, q3 (.invokevirtual 104) 94 33 5 3, none, none, q1 (.aload_n 0) 95 0, q3 (.invokevirtual 77) 98 15 1 1],
  [none, none, q0 .ireturn 99]]
def tX1_readStop : List (List (Option zR)) := [[q1 (.aload_n 0) 1 0, q3 (.invokevirtual 39) 4 20 1 1, none, none, q1 (.aload_n 0) 5 0, q3 (.getfield 42) 8 1 7 0, none, none, qx (.iconst 3) 9 3, q1 (.if_icmp .ne 7) 12 16, none, none, qx (.iconst 1) 13 1, q1 (.goto 4) 16 17, none, none],
  [qx (.iconst 0) 17 0, q0 .ireturn 18]]
def tX1_readNumber : List (List (Option zR)) := [[q1 (.aload_n 0) 1 0, q3 (.invokevirtual 39) 4 20 1 1, none, none, q1 (.aload_n 0) 5 0, q1 (.aload_n 0) 6 0, q3 (.getfield 42) 9 1 7 0, none, none, qx (.iconst 2) 10 2, q1 (.if_icmp .ne 10) 13 20, none, none, q1 (.aload_n 0) 14 0, q3 (.invokevirtual 108) 17 17 1 1, none],
  [none, q1 (.goto 5) 20 22, none, none, qx (.bipush 100) 22 100, none, q3 (.putfield 71) 25 1 8 0, none, none, q1 (.aload_n 0) 26 0, q3 (.getfield 71) 29 1 8 0, none, none, q1 (.iload_n 1) 30 1, q1 (.if_icmp .lt 15) 33 45, none],
  [none, q1 (.aload_n 0) 34 0, q3 (.getfield 71) 37 1 8 0, none, none, q1 (.iload_n 2) 38 2, q1 (.if_icmp .gt 7) 41 45, none, none, qx (.iconst 1) 42 1, q1 (.goto 4) 45 46, none, none, qx (.iconst 0) 46 0, q0 .ireturn 47]]
def tX1_numberOfToken : List (List (Option zR)) := [[q1 (.aload_n 0) 1 0, q3 (.getfield 9) 4 1 1 2, none, none, q1 (.aload_n 0) 5 0, q3 (.getfield 52) 8 1 5 0, none, none, q0 .iaload 9, qx (.bipush 48) 11 48, none, q1 (.if_icmp .ne 19) 14 30, none, none, q1 (.aload_n 0) 15 0, q3 (.getfield 33) 18 1 6 0],
  [none, none, q1 (.aload_n 0) 19 0, q3 (.getfield 52) 22 1 5 0, none, none, q0 .isub 23, qx (.iconst 1) 24 1, q1 (.if_icmp .le 6) 27 30, none, none, qx (.bipush 100) 29 100, none, q0 .ireturn 30, qx (.iconst 0) 31 0, q1 (.istore_n 1) 32 1],
  [q1 (.aload_n 0) 33 0, q3 (.getfield 52) 36 1 5 0, none, none, q1 (.istore_n 2) 37 2, q1 (.iload_n 2) 38 2, q1 (.aload_n 0) 39 0, q3 (.getfield 33) 42 1 6 0, none, none, q1 (.if_icmp .ge 29) 45 71, none, none, q1 (.iload_n 1) 46 1, qx (.bipush 10) 48 10, none],
  [q0 .imul 49, q1 (.aload_n 0) 50 0, q3 (.getfield 9) 53 1 1 2, none, none, q1 (.iload_n 2) 54 2, q0 .iaload 55, q0 .iadd 56, qx (.bipush 48) 58 48, none, q0 .isub 59, qx (.bipush 100) 61 100, none, q3 (.invokestatic 111) 64 153 2 7, none, none],
  [q1 (.istore_n 1) 65 1, qi (.iinc 2 1) 68 2 1, none, none, q1 (.goto (-31)) 71 37, none, none, q1 (.iload_n 1) 72 1, q0 .ireturn 73]]
def tX1_readInsults : List (List (Option zR)) := [[q1 (.aload_n 0) 1 0, q3 (.invokevirtual 39) 4 20 1 1, none, none, q1 (.aload_n 0) 5 0, q3 (.getfield 42) 8 1 7 0, none, none, qx (.iconst 1) 9 1, q1 (.if_icmp .ne 16) 12 25, none, none, q1 (.aload_n 0) 13 0, q3 (.getfield 33) 16 1 6 0, none, none],
  [q1 (.aload_n 0) 17 0, q3 (.getfield 52) 20 1 5 0, none, none, q0 .isub 21, q1 (.iload_n 1) 22 1, q1 (.if_icmp .le 5) 25 27, none, none, qx (.iconst 0) 26 0, q0 .ireturn 27, q1 (.aload_n 0) 28 0, q3 (.getfield 52) 31 1 5 0, none, none, q1 (.istore_n 2) 32 2],
  [q1 (.iload_n 2) 33 2, q1 (.aload_n 0) 34 0, q3 (.getfield 33) 37 1 6 0, none, none, q1 (.if_icmp .ge 22) 40 59, none, none, q1 (.aload_n 0) 41 0, q3 (.getfield 9) 44 1 1 2, none, none, q1 (.iload_n 2) 45 2, q0 .iaload 46, qx (.bipush 102) 48 102, none],
  [q1 (.if_icmp .le 5) 51 53, none, none, qx (.iconst 0) 52 0, q0 .ireturn 53, qi (.iinc 2 1) 56 2 1, none, none, q1 (.goto (-24)) 59 32, none, none, qx (.iconst 1) 60 1, q0 .ireturn 61]]
def tX1_insultsOfRow : List (List (Option zR)) := [[qx (.iconst 0) 1 0, q1 (.istore_n 1) 2 1, q1 (.aload_n 0) 3 0, q3 (.getfield 52) 6 1 5 0, none, none, q1 (.istore_n 2) 7 2, q1 (.iload_n 2) 8 2, q1 (.aload_n 0) 9 0, q3 (.getfield 33) 12 1 6 0, none, none, q1 (.if_icmp .ge 23) 15 35, none, none, q1 (.iload_n 1) 16 1],
  [qx (.iconst 1) 17 1, q1 (.aload_n 0) 18 0, q3 (.getfield 9) 21 1 1 2, none, none, q1 (.iload_n 2) 22 2, q0 .iaload 23, qx (.bipush 97) 25 97, none, q0 .isub 26, q0 .ishl 27, q0 .ior 28, q1 (.istore_n 1) 29 1, qi (.iinc 2 1) 32 2 1, none, none],
  [q1 (.goto (-25)) 35 7, none, none, q1 (.iload_n 1) 36 1, q0 .ireturn 37]]
def tX1_readToken : List (List (Option zR)) := [[q1 (.aload_n 0) 1 0, q3 (.getfield 33) 4 1 6 0, none, none, q1 (.aload_n 0) 5 0, q3 (.getfield 22) 8 1 0 0, none, none, q1 (.if_icmp .ge 30) 11 38, none, none, q1 (.aload_n 0) 12 0, q3 (.getfield 9) 15 1 1 2, none, none, q1 (.aload_n 0) 16 0],
  [q3 (.getfield 33) 19 1 6 0, none, none, q0 .iaload 20, qx (.bipush 32) 22 32, none, q1 (.if_icmp .ne 16) 25 38, none, none, q1 (.aload_n 0) 26 0, q0 .dup 27, q3 (.getfield 33) 30 1 6 0, none, none, qx (.iconst 1) 31 1, q0 .iadd 32],
  [q3 (.putfield 33) 35 1 6 0, none, none, q1 (.goto (-35)) 38 0, none, none, q1 (.aload_n 0) 39 0, q1 (.aload_n 0) 40 0, q3 (.getfield 33) 43 1 6 0, none, none, q3 (.putfield 52) 46 1 5 0, none, none, q1 (.aload_n 0) 47 0, q3 (.getfield 33) 50 1 6 0],
  [none, none, q1 (.aload_n 0) 51 0, q3 (.getfield 22) 54 1 0 0, none, none, q1 (.if_icmp .lt 9) 57 63, none, none, q1 (.aload_n 0) 58 0, qx (.iconst 0) 59 0, q3 (.putfield 42) 62 1 7 0, none, none, q0 .return_ 63, q1 (.aload_n 0) 64 0],
  [q1 (.aload_n 0) 65 0, q3 (.getfield 9) 68 1 1 2, none, none, q1 (.aload_n 0) 69 0, q3 (.getfield 33) 72 1 6 0, none, none, q0 .iaload 73, q3 (.invokestatic 117) 76 21 1 1, none, none, q3 (.putfield 42) 79 1 7 0, none, none, q1 (.aload_n 0) 80 0],
  [q0 .dup 81, q3 (.getfield 33) 84 1 6 0, none, none, qx (.iconst 1) 85 1, q0 .iadd 86, q3 (.putfield 33) 89 1 6 0, none, none, q1 (.aload_n 0) 90 0, q3 (.getfield 42) 93 1 7 0, none, none, qx (.iconst 1) 94 1, q1 (.if_icmp .eq 11) 97 105, none],
  [none, q1 (.aload_n 0) 98 0, q3 (.getfield 42) 101 1 7 0, none, none, qx (.iconst 2) 102 2, q1 (.if_icmp .ne 7) 105 109, none, none, qx (.iconst 1) 106 1, q1 (.goto 4) 109 110, none, none, qx (.iconst 0) 110 0, q1 (.istore_n 1) 111 1, q1 (.iload_n 1) 112 1],
  [q1 (.ifCond .eq 46) 115 158, none, none, q1 (.aload_n 0) 116 0, q3 (.getfield 33) 119 1 6 0, none, none, q1 (.aload_n 0) 120 0, q3 (.getfield 22) 123 1 0 0, none, none, q1 (.if_icmp .ge 35) 126 158, none, none, q1 (.aload_n 0) 127 0, q3 (.getfield 9) 130 1 1 2],
  [none, none, q1 (.aload_n 0) 131 0, q3 (.getfield 33) 134 1 6 0, none, none, q0 .iaload 135, q3 (.invokestatic 117) 138 21 1 1, none, none, q1 (.aload_n 0) 139 0, q3 (.getfield 42) 142 1 7 0, none, none, q1 (.if_icmp .ne 16) 145 158, none],
  [none, q1 (.aload_n 0) 146 0, q0 .dup 147, q3 (.getfield 33) 150 1 6 0, none, none, qx (.iconst 1) 151 1, q0 .iadd 152, q3 (.putfield 33) 155 1 6 0, none, none, q1 (.goto (-44)) 158 111, none, none, q0 .return_ 159]]
def tX1_kindOf : List (List (Option zR)) := [[q1 (.iload_n 0) 1 0, qx (.bipush 97) 3 97, none, q1 (.if_icmp .lt 11) 6 14, none, none, q1 (.iload_n 0) 7 0, qx (.bipush 122) 9 122, none, q1 (.if_icmp .gt 5) 12 14, none, none, qx (.iconst 1) 13 1, q0 .ireturn 14, q1 (.iload_n 0) 15 0, qx (.bipush 48) 17 48],
  [none, q1 (.if_icmp .lt 11) 20 28, none, none, q1 (.iload_n 0) 21 0, qx (.bipush 57) 23 57, none, q1 (.if_icmp .gt 5) 26 28, none, none, qx (.iconst 2) 27 2, q0 .ireturn 28, q1 (.iload_n 0) 29 0, qx (.bipush 59) 31 59, none, q1 (.if_icmp .ne 7) 34 38],
  [none, none, qx (.iconst 3) 35 3, q1 (.goto 4) 38 39, none, none, qx (.iconst 4) 39 4, q0 .ireturn 40]]
def tX2_init : List (List (Option zR)) := [[q1 (.aload_n 0) 1 0, q3 (.invokespecial 3) 4 0 1 0, none, none, q1 (.aload_n 0) 5 0, qx (.bipush 6) 7 6, none, q3 (.newarray .int) 9 0 6 0, none, q3 (.putfield 9) 12 2 1 2, none, none, q1 (.aload_n 0) 13 0, qx (.bipush 6) 15 6, none, q3 (.newarray .int) 17 0 6 0],
  [none, q3 (.putfield 15) 20 2 2 2, none, none, q0 .return_ 21]]
def tX2_begin : List (List (Option zR)) := [[q1 (.aload_n 0) 1 0, qx (.iconst 0) 2 0, q3 (.putfield 18) 5 2 0 0, none, none, qx (.iconst 0) 6 0, q1 (.istore_n 2) 7 2, q1 (.iload_n 2) 8 2, qx (.bipush 6) 10 6, none, q1 (.if_icmp .ge 28) 13 38, none, none, q1 (.aload_n 0) 14 0, q3 (.getfield 9) 17 2 1 2, none],
  [none, q1 (.iload_n 2) 18 2, q1 (.aload_n 1) 19 1, q3 (.getfield 22) 22 3 4 2, none, none, q1 (.iload_n 2) 23 2, q0 .iaload 24, q0 .iastore 25, q1 (.aload_n 0) 26 0, q3 (.getfield 15) 29 2 2 2, none, none, q1 (.iload_n 2) 30 2, qx (.iconst 0) 31 0, q0 .iastore 32],
  [qi (.iinc 2 1) 35 2 1, none, none, q1 (.goto (-28)) 38 7, none, none, q0 .return_ 39]]
def tX2_copyFrom : List (List (Option zR)) := [[q1 (.aload_n 0) 1 0, q1 (.aload_n 1) 2 1, q3 (.getfield 18) 5 2 0 0, none, none, q3 (.putfield 18) 8 2 0 0, none, none, qx (.iconst 0) 9 0, q1 (.istore_n 2) 10 2, q1 (.iload_n 2) 11 2, qx (.bipush 6) 13 6, none, q1 (.if_icmp .ge 33) 16 46, none, none],
  [q1 (.aload_n 0) 17 0, q3 (.getfield 9) 20 2 1 2, none, none, q1 (.iload_n 2) 21 2, q1 (.aload_n 1) 22 1, q3 (.getfield 9) 25 2 1 2, none, none, q1 (.iload_n 2) 26 2, q0 .iaload 27, q0 .iastore 28, q1 (.aload_n 0) 29 0, q3 (.getfield 15) 32 2 2 2, none, none],
  [q1 (.iload_n 2) 33 2, q1 (.aload_n 1) 34 1, q3 (.getfield 15) 37 2 2 2, none, none, q1 (.iload_n 2) 38 2, q0 .iaload 39, q0 .iastore 40, qi (.iinc 2 1) 43 2 1, none, none, q1 (.goto (-33)) 46 10, none, none, q0 .return_ 47]]
def tX2_timesBelieved : List (List (Option zR)) := [[qx (.iconst 0) 1 0, q1 (.istore_n 2) 2 2, qx (.iconst 0) 3 0, q1 (.istore_n 3) 4 3, q1 (.iload_n 3) 5 3, qx (.bipush 6) 7 6, none, q1 (.if_icmp .ge 25) 10 32, none, none, q1 (.aload_n 0) 11 0, q3 (.getfield 15) 14 2 2 2, none, none, q1 (.iload_n 3) 15 3, q0 .iaload 16],
  [q1 (.iload_n 1) 17 1, q3 (.invokestatic 27) 20 82 2 4, none, none, q1 (.ifCond .eq 6) 23 26, none, none, qi (.iinc 2 1) 26 2 1, none, none, qi (.iinc 3 1) 29 3 1, none, none, q1 (.goto (-25)) 32 4, none, none],
  [q1 (.iload_n 2) 33 2, q0 .ireturn 34]]
def tX3_init : List (List (Option zR)) := [[q1 (.aload_n 0) 1 0, q3 (.invokespecial 3) 4 0 1 0, none, none, q1 (.aload_n 0) 5 0, qx (.bipush 6) 7 6, none, q3 (.newarray .int) 9 0 6 0, none, q3 (.putfield 9) 12 3 4 2, none, none, q1 (.aload_n 0) 13 0, qx (.bipush 6) 15 6, none, q3 (.newarray .int) 17 0 6 0],
  [none, q3 (.putfield 15) 20 3 5 2, none, none, q1 (.aload_n 0) 21 0, qx (.bipush 6) 23 6, none, q3 (.newarray .int) 25 0 6 0, none, q3 (.putfield 18) 28 3 6 2, none, none, q1 (.aload_n 0) 29 0, qx (.bipush 6) 31 6, none, q3 (.newarray .int) 33 0 6 0],
  [none, q3 (.putfield 21) 36 3 7 2, none, none, q1 (.aload_n 0) 37 0, qx (.bipush 6) 39 6, none, q3 (.newarray .int) 41 0 6 0, none, q3 (.putfield 24) 44 3 8 2, none, none, q1 (.aload_n 0) 45 0, qx (.bipush 6) 47 6, none, q3 (.newarray .int) 49 0 6 0],
  [none, q3 (.putfield 27) 52 3 9 2, none, none, q1 (.aload_n 0) 53 0, qx (.bipush 6) 55 6, none, q3 (.newarray .int) 57 0 6 0, none, q3 (.putfield 30) 60 3 10 2, none, none, q1 (.aload_n 0) 61 0, qx (.bipush 6) 63 6, none, q3 (.newarray .int) 65 0 6 0],
  [none, q3 (.putfield 33) 68 3 11 2, none, none, q1 (.aload_n 0) 69 0, q3 (.invokevirtual 36) 72 27 1 3, none, none, q0 .return_ 73]]
def tX3_empty : List (List (Option zR)) := [[q1 (.aload_n 0) 1 0, qx (.bipush 6) 3 6, none, q3 (.putfield 39) 6 3 0 0, none, none, q1 (.aload_n 0) 7 0, qx (.iconst 1) 8 1, q3 (.putfield 43) 11 3 1 0, none, none, q1 (.aload_n 0) 12 0, qx (.iconst 0) 13 0, q3 (.putfield 46) 16 3 2 0, none, none],
  [q1 (.aload_n 0) 17 0, qx (.iconst 0) 18 0, q3 (.putfield 49) 21 3 3 0, none, none, q0 .return_ 22]]
def tX3_hasStatue : List (List (Option zR)) := [[q1 (.iload_n 1) 1 1, q1 (.ifCond .lt 15) 4 16, none, none, q1 (.iload_n 1) 5 1, q1 (.aload_n 0) 6 0, q3 (.getfield 46) 9 3 2 0, none, none, q1 (.if_icmp .ge 7) 12 16, none, none, qx (.iconst 1) 13 1, q1 (.goto 4) 16 17, none, none],
  [qx (.iconst 0) 17 0, q0 .ireturn 18]]
def tX3_hasOne : List (List (Option zR)) := [[q1 (.iload_n 1) 1 1, q1 (.ifCond .lt 15) 4 16, none, none, q1 (.iload_n 1) 5 1, q1 (.aload_n 0) 6 0, q3 (.getfield 49) 9 3 3 0, none, none, q1 (.if_icmp .ge 7) 12 16, none, none, qx (.iconst 1) 13 1, q1 (.goto 4) 16 17, none, none],
  [qx (.iconst 0) 17 0, q0 .ireturn 18]]
def tX3_hasYard : List (List (Option zR)) := [[q1 (.iload_n 1) 1 1, q1 (.ifCond .lt 15) 4 16, none, none, q1 (.iload_n 1) 5 1, q1 (.aload_n 0) 6 0, q3 (.getfield 39) 9 3 0 0, none, none, q1 (.if_icmp .ge 7) 12 16, none, none, qx (.iconst 1) 13 1, q1 (.goto 4) 16 17, none, none],
  [qx (.iconst 0) 17 0, q0 .ireturn 18]]
def tX3_isTaken : List (List (Option zR)) := [[qx (.iconst 0) 1 0, q1 (.istore_n 2) 2 2, q1 (.iload_n 2) 3 2, q1 (.aload_n 0) 4 0, q3 (.getfield 46) 7 3 2 0, none, none, q1 (.if_icmp .ge 21) 10 28, none, none, q1 (.aload_n 0) 11 0, q3 (.getfield 9) 14 3 4 2, none, none, q1 (.iload_n 2) 15 2, q0 .iaload 16],
  [q1 (.iload_n 1) 17 1, q1 (.if_icmp .ne 5) 20 22, none, none, qx (.iconst 1) 21 1, q0 .ireturn 22, qi (.iinc 2 1) 25 2 1, none, none, q1 (.goto (-23)) 28 2, none, none, qx (.iconst 0) 29 0, q0 .ireturn 30]]
def tX3_addStatue : List (List (Option zR)) := [[q1 (.aload_n 0) 1 0, q3 (.getfield 46) 4 3 2 0, none, none, qx (.bipush 6) 6 6, none, q1 (.if_icmp .ge 43) 9 49, none, none, q1 (.aload_n 0) 10 0, q3 (.getfield 9) 13 3 4 2, none, none, q1 (.aload_n 0) 14 0, q3 (.getfield 46) 17 3 2 0, none],
  [none, q1 (.iload_n 1) 18 1, q0 .iastore 19, q1 (.aload_n 0) 20 0, q3 (.getfield 15) 23 3 5 2, none, none, q1 (.aload_n 0) 24 0, q3 (.getfield 46) 27 3 2 0, none, none, q1 (.iload_n 2) 28 2, q0 .iastore 29, q1 (.aload_n 0) 30 0, q3 (.getfield 18) 33 3 6 2, none],
  [none, q1 (.aload_n 0) 34 0, q3 (.getfield 46) 37 3 2 0, none, none, q1 (.iload_n 3) 38 3, q0 .iastore 39, q1 (.aload_n 0) 40 0, q0 .dup 41, q3 (.getfield 46) 44 3 2 0, none, none, qx (.iconst 1) 45 1, q0 .iadd 46, q3 (.putfield 46) 49 3 2 0, none],
  [none, q0 .return_ 50]]
def tX3_addOne : List (List (Option zR)) := [[q1 (.aload_n 0) 1 0, q3 (.getfield 49) 4 3 3 0, none, none, qx (.bipush 6) 6 6, none, q1 (.if_icmp .ge 54) 9 60, none, none, q1 (.aload_n 0) 10 0, q3 (.getfield 21) 13 3 7 2, none, none, q1 (.aload_n 0) 14 0, q3 (.getfield 49) 17 3 3 0, none],
  [none, q1 (.iload_n 1) 18 1, q0 .iastore 19, q1 (.aload_n 0) 20 0, q3 (.getfield 24) 23 3 8 2, none, none, q1 (.aload_n 0) 24 0, q3 (.getfield 49) 27 3 3 0, none, none, q1 (.iload_n 2) 28 2, q0 .iastore 29, q1 (.aload_n 0) 30 0, q3 (.getfield 27) 33 3 9 2, none],
  [none, q1 (.aload_n 0) 34 0, q3 (.getfield 49) 37 3 3 0, none, none, q1 (.iload_n 3) 38 3, q0 .iastore 39, q1 (.aload_n 0) 40 0, q3 (.getfield 30) 43 3 10 2, none, none, q1 (.aload_n 0) 44 0, q3 (.getfield 49) 47 3 3 0, none, none, q1 (.iload 4) 49 4],
  [none, q0 .iastore 50, q1 (.aload_n 0) 51 0, q0 .dup 52, q3 (.getfield 49) 55 3 3 0, none, none, qx (.iconst 1) 56 1, q0 .iadd 57, q3 (.putfield 49) 60 3 3 0, none, none, q0 .return_ 61]]
def tX3_findInsulted : List (List (Option zR)) := [[qx (.iconst 0) 1 0, q1 (.istore_n 1) 2 1, q1 (.iload_n 1) 3 1, q1 (.aload_n 0) 4 0, q3 (.getfield 46) 7 3 2 0, none, none, q1 (.if_icmp .ge 62) 10 69, none, none, q1 (.aload_n 0) 11 0, q3 (.getfield 33) 14 3 11 2, none, none, q1 (.iload_n 1) 15 1, qx (.iconst 0) 16 0],
  [q0 .iastore 17, qx (.iconst 0) 18 0, q1 (.istore_n 2) 19 2, q1 (.iload_n 2) 20 2, q1 (.aload_n 0) 21 0, q3 (.getfield 49) 24 3 3 0, none, none, q1 (.if_icmp .ge 39) 27 63, none, none, q1 (.aload_n 0) 28 0, q3 (.getfield 30) 31 3 10 2, none, none, q1 (.iload_n 2) 32 2],
  [q0 .iaload 33, q1 (.aload_n 0) 34 0, q3 (.getfield 18) 37 3 6 2, none, none, q1 (.iload_n 1) 38 1, q0 .iaload 39, q3 (.invokestatic 52) 42 82 2 4, none, none, q1 (.ifCond .eq 15) 45 57, none, none, q1 (.aload_n 0) 46 0, q3 (.getfield 33) 49 3 11 2, none],
  [none, q1 (.iload_n 1) 50 1, q0 .dup2 51, q0 .iaload 52, qx (.iconst 1) 53 1, q1 (.iload_n 2) 54 2, q0 .ishl 55, q0 .ior 56, q0 .iastore 57, qi (.iinc 2 1) 60 2 1, none, none, q1 (.goto (-41)) 63 19, none, none, qi (.iinc 1 1) 66 1 1],
  [none, none, q1 (.goto (-64)) 69 2, none, none, q0 .return_ 70]]
def tX3_strengthOf : List (List (Option zR)) := [[qx (.iconst 0) 1 0, q1 (.istore_n 2) 2 2, qx (.iconst 0) 3 0, q1 (.istore_n 3) 4 3, q1 (.iload_n 3) 5 3, q1 (.aload_n 0) 6 0, q3 (.getfield 49) 9 3 3 0, none, none, q1 (.if_icmp .ge 26) 12 35, none, none, q1 (.iload_n 1) 13 1, q1 (.iload_n 3) 14 3, q3 (.invokestatic 52) 17 82 2 4, none],
  [none, q1 (.ifCond .eq 12) 20 29, none, none, q1 (.iload_n 2) 21 2, q1 (.aload_n 0) 22 0, q3 (.getfield 24) 25 3 8 2, none, none, q1 (.iload_n 3) 26 3, q0 .iaload 27, q0 .iadd 28, q1 (.istore_n 2) 29 2, qi (.iinc 3 1) 32 3 1, none, none],
  [q1 (.goto (-28)) 35 4, none, none, q1 (.iload_n 2) 36 2, q0 .ireturn 37]]
def tX4_init : List (List (Option zR)) := [[q1 (.aload_n 0) 1 0, q3 (.invokespecial 1) 4 0 1 0, none, none, q1 (.aload_n 0) 5 0, q3 (.new 7) 8 1 9 0, none, none, q0 .dup 9, q3 (.invokespecial 9) 12 6 1 1, none, none, q3 (.putfield 10) 15 4 0 2, none, none, q1 (.aload_n 0) 16 0],
  [q3 (.new 16) 19 3 12 0, none, none, q0 .dup 20, q3 (.invokespecial 18) 23 26 1 3, none, none, q3 (.putfield 19) 26 4 1 2, none, none, q1 (.aload_n 0) 27 0, q3 (.new 23) 30 2 3 0, none, none, q0 .dup 31, q3 (.invokespecial 25) 34 22 1 2],
  [none, none, q3 (.putfield 26) 37 4 2 2, none, none, q1 (.aload_n 0) 38 0, q3 (.new 30) 41 0 4 0, none, none, q0 .dup 42, q3 (.invokespecial 32) 45 1 1 0, none, none, q3 (.putfield 33) 48 4 3 2, none, none],
  [q1 (.aload_n 0) 49 0, qx (.iconst 2) 50 2, q3 (.anewarray 23) 53 2 2 0, none, none, q3 (.putfield 37) 56 4 4 2, none, none, qx (.iconst 0) 57 0, q1 (.istore_n 1) 58 1, q1 (.iload_n 1) 59 1, qx (.iconst 2) 60 2, q1 (.if_icmp .ge 22) 63 82, none, none, q1 (.aload_n 0) 64 0],
  [q3 (.getfield 37) 67 4 4 2, none, none, q1 (.iload_n 1) 68 1, q3 (.new 23) 71 2 3 0, none, none, q0 .dup 72, q3 (.invokespecial 25) 75 22 1 2, none, none, q0 .aastore 76, qi (.iinc 1 1) 79 1 1, none, none, q1 (.goto (-21)) 82 58],
  [none, none, q1 (.aload_n 0) 83 0, qx (.iconst 2) 84 2, q3 (.newarray .boolean) 86 1 2 0, none, q3 (.putfield 41) 89 4 5 2, none, none, q1 (.aload_n 0) 90 0, qx (.bipush 6) 92 6, none, q3 (.newarray .int) 94 0 6 0, none, q3 (.putfield 45) 97 4 6 2, none],
  [none, q1 (.aload_n 0) 98 0, qx (.bipush 6) 100 6, none, q3 (.newarray .int) 102 0 6 0, none, q3 (.putfield 49) 105 4 7 2, none, none, q1 (.aload_n 0) 106 0, qx (.iconst 0) 107 0, q3 (.putfield 52) 110 4 8 0, none, none, q1 (.aload_n 0) 111 0, qy (.lconst 0) 112 0],
  [q3 (.putfield 56) 115 4 9 3, none, none, q0 .return_ 116]]
def tX4_type : List (List (Option zR)) := [[q1 (.iload_n 1) 1 1, q1 (.ifCond .lt 10) 4 11, none, none, q1 (.iload_n 1) 5 1, qx (.sipush 255) 8 255, none, none, q1 (.if_icmp .le 5) 11 13, none, none, qx (.iconst (-1)) 12 (-1), q0 .ireturn 13, q1 (.aload_n 0) 14 0, q3 (.getfield 10) 17 4 0 2, none],
  [none, q3 (.getfield 60) 20 1 0 0, none, none, qx (.sipush 150) 23 150, none, none, q1 (.if_icmp .lt 6) 26 29, none, none, qx (.bipush (-3)) 28 (-3), none, q0 .ireturn 29, q1 (.aload_n 0) 30 0, q3 (.getfield 10) 33 4 0 2, none],
  [none, q1 (.iload_n 1) 34 1, q3 (.invokevirtual 63) 37 7 2 1, none, none, q1 (.aload_n 0) 38 0, q3 (.getfield 10) 41 4 0 2, none, none, q3 (.getfield 60) 44 1 0 0, none, none, q0 .ireturn 45]]
def tX4_clear : List (List (Option zR)) := [[q1 (.aload_n 0) 1 0, q3 (.getfield 10) 4 4 0 2, none, none, q3 (.getfield 60) 7 1 0 0, none, none, q1 (.istore_n 1) 8 1, q1 (.aload_n 0) 9 0, q3 (.getfield 10) 12 4 0 2, none, none, qx (.iconst 0) 13 0, q3 (.putfield 60) 16 1 0 0, none, none],
  [q1 (.iload_n 1) 17 1, q0 .ireturn 18]]
def tX4_town : List (List (Option zR)) := [[q1 (.aload_n 0) 1 0, q3 (.getfield 10) 4 4 0 2, none, none, q3 (.invokevirtual 67) 7 9 1 1, none, none, q1 (.istore_n 1) 8 1, q1 (.iload_n 1) 9 1, q1 (.ifCond .lt 22) 12 31, none, none, q1 (.aload_n 0) 13 0, q1 (.aload_n 0) 14 0, q3 (.getfield 10) 17 4 0 2, none],
  [none, q1 (.aload_n 0) 18 0, q3 (.getfield 19) 21 4 1 2, none, none, q3 (.invokevirtual 71) 24 8 2 1, none, none, q3 (.putfield 19) 27 4 1 2, none, none, q1 (.aload_n 0) 28 0, q3 (.invokevirtual 75) 31 40 1 4, none, none, q1 (.iload_n 1) 32 1],
  [q0 .ireturn 33]]
def tX4_beginAnew : List (List (Option zR)) := [[q1 (.aload_n 0) 1 0, q3 (.getfield 10) 4 4 0 2, none, none, qx (.iconst 0) 5 0, q3 (.putfield 60) 8 1 0 0, none, none, q1 (.aload_n 0) 9 0, q3 (.getfield 26) 12 4 2 2, none, none, q1 (.aload_n 0) 13 0, q3 (.getfield 19) 16 4 1 2, none, none],
  [q3 (.invokevirtual 78) 19 23 2 2, none, none, q1 (.aload_n 0) 20 0, q3 (.getfield 33) 23 4 3 2, none, none, q3 (.invokevirtual 82) 26 2 1 0, none, none, q1 (.aload_n 0) 27 0, qx (.iconst 0) 28 0, q3 (.putfield 52) 31 4 8 0, none, none, qx (.iconst 0) 32 0],
  [q1 (.istore_n 1) 33 1, q1 (.iload_n 1) 34 1, qx (.iconst 2) 35 2, q1 (.if_icmp .ge 16) 38 51, none, none, q1 (.aload_n 0) 39 0, q3 (.getfield 41) 42 4 5 2, none, none, q1 (.iload_n 1) 43 1, qx (.iconst 0) 44 0, q0 .bastore 45, qi (.iinc 1 1) 48 1 1, none, none],
  [q1 (.goto (-15)) 51 33, none, none, q0 .return_ 52]]
end
section
def tX4_statue : List (List (Option zR)) := [[q1 (.aload_n 0) 1 0, q3 (.getfield 19) 4 4 1 2, none, none, q1 (.iload_n 1) 5 1, q3 (.invokevirtual 85) 8 28 2 3, none, none, q1 (.ifCond .ne 5) 11 13, none, none, qx (.iconst (-1)) 12 (-1), q0 .ireturn 13, q1 (.iload_n 2) 14 2, qs (.tableswitch 105 0 6 #[42, 52, 62, 72, 78, 84, 99]) 56 119 [(0, 56), (1, 66), (2, 76), (3, 86), (4, 92), (5, 98), (6, 113)], none],
  [none, none, none, none, none, none, none, none, none, none, none, none, none, none, none, none],
  [none, none, none, none, none, none, none, none, none, none, none, none, none, none, none, none],
  [none, none, none, none, none, none, none, none, q1 (.aload_n 0) 57 0, q3 (.getfield 26) 60 4 2 2, none, none, q3 (.getfield 89) 63 2 1 2, none, none, q1 (.iload_n 1) 64 1],
  [q0 .iaload 65, q0 .ireturn 66, q1 (.aload_n 0) 67 0, q3 (.getfield 19) 70 4 1 2, none, none, q3 (.getfield 92) 73 3 5 2, none, none, q1 (.iload_n 1) 74 1, q0 .iaload 75, q0 .ireturn 76, q1 (.aload_n 0) 77 0, q3 (.getfield 19) 80 4 1 2, none, none],
  [q3 (.getfield 95) 83 3 6 2, none, none, q1 (.iload_n 1) 84 1, q0 .iaload 85, q0 .ireturn 86, q1 (.aload_n 0) 87 0, q1 (.iload_n 1) 88 1, q3 (.invokevirtual 98) 91 63 2 4, none, none, q0 .ireturn 92, q1 (.aload_n 0) 93 0, q1 (.iload_n 1) 94 1, q3 (.invokevirtual 102) 97 65 2 4, none],
  [none, q0 .ireturn 98, q1 (.aload_n 0) 99 0, q1 (.iload_n 1) 100 1, q1 (.aload_n 0) 101 0, q3 (.getfield 26) 104 4 2 2, none, none, q3 (.getfield 89) 107 2 1 2, none, none, q1 (.iload_n 1) 108 1, q0 .iaload 109, q3 (.invokevirtual 105) 112 72 3 4, none, none],
  [q0 .ireturn 113, q1 (.aload_n 0) 114 0, q1 (.iload_n 1) 115 1, q3 (.invokevirtual 109) 118 73 2 4, none, none, q0 .ireturn 119, qx (.iconst (-1)) 120 (-1), q0 .ireturn 121]]
def tX4_one : List (List (Option zR)) := [[q1 (.aload_n 0) 1 0, q3 (.getfield 19) 4 4 1 2, none, none, q1 (.iload_n 1) 5 1, q3 (.invokevirtual 112) 8 29 2 3, none, none, q1 (.ifCond .ne 5) 11 13, none, none, qx (.iconst (-1)) 12 (-1), q0 .ireturn 13, q1 (.iload_n 2) 14 2, qs (.tableswitch 107 0 5 #[38, 48, 58, 68, 78, 98]) 52 121 [(0, 52), (1, 62), (2, 72), (3, 82), (4, 92), (5, 112)], none],
  [none, none, none, none, none, none, none, none, none, none, none, none, none, none, none, none],
  [none, none, none, none, none, none, none, none, none, none, none, none, none, none, none, none],
  [none, none, none, none, q1 (.aload_n 0) 53 0, q3 (.getfield 19) 56 4 1 2, none, none, q3 (.getfield 115) 59 3 7 2, none, none, q1 (.iload_n 1) 60 1, q0 .iaload 61, q0 .ireturn 62, q1 (.aload_n 0) 63 0, q3 (.getfield 19) 66 4 1 2],
  [none, none, q3 (.getfield 118) 69 3 8 2, none, none, q1 (.iload_n 1) 70 1, q0 .iaload 71, q0 .ireturn 72, q1 (.aload_n 0) 73 0, q3 (.getfield 19) 76 4 1 2, none, none, q3 (.getfield 121) 79 3 9 2, none, none, q1 (.iload_n 1) 80 1],
  [q0 .iaload 81, q0 .ireturn 82, q1 (.aload_n 0) 83 0, q3 (.getfield 19) 86 4 1 2, none, none, q3 (.getfield 124) 89 3 10 2, none, none, q1 (.iload_n 1) 90 1, q0 .iaload 91, q0 .ireturn 92, q1 (.aload_n 0) 93 0, q3 (.getfield 26) 96 4 2 2, none, none],
  [q3 (.getfield 127) 99 2 0 0, none, none, q1 (.iload_n 1) 100 1, q3 (.invokestatic 130) 103 82 2 4, none, none, q1 (.ifCond .eq 7) 106 110, none, none, qx (.iconst 1) 107 1, q1 (.goto 4) 110 111, none, none, qx (.iconst 0) 111 0, q0 .ireturn 112],
  [q1 (.aload_n 0) 113 0, q3 (.getfield 26) 116 4 2 2, none, none, q1 (.iload_n 1) 117 1, q3 (.invokevirtual 134) 120 25 2 2, none, none, q0 .ireturn 121, qx (.iconst (-1)) 122 (-1), q0 .ireturn 123]]
def tX4_now : List (List (Option zR)) := [[q1 (.iload_n 1) 1 1, qs (.tableswitch 57 0 3 #[31, 39, 44, 49]) 32 58 [(0, 32), (1, 40), (2, 45), (3, 50)], none, none, none, none, none, none, none, none, none, none, none, none, none, none],
  [none, none, none, none, none, none, none, none, none, none, none, none, none, none, none, none],
  [q1 (.aload_n 0) 33 0, q3 (.getfield 26) 36 4 2 2, none, none, q3 (.getfield 127) 39 2 0 0, none, none, q0 .ireturn 40, q1 (.aload_n 0) 41 0, q3 (.invokevirtual 137) 44 67 1 4, none, none, q0 .ireturn 45, q1 (.aload_n 0) 46 0, q3 (.invokevirtual 140) 49 70 1 4, none],
  [none, q0 .ireturn 50, q1 (.aload_n 0) 51 0, q3 (.getfield 33) 54 4 3 2, none, none, q3 (.getfield 143) 57 0 0 0, none, none, q0 .ireturn 58, qx (.iconst (-1)) 59 (-1), q0 .ireturn 60]]
def tX4_comes : List (List (Option zR)) := [[q1 (.aload_n 0) 1 0, q3 (.getfield 19) 4 4 1 2, none, none, q1 (.iload_n 1) 5 1, q3 (.invokevirtual 112) 8 29 2 3, none, none, q1 (.ifCond .ne 5) 11 13, none, none, qx (.iconst (-1)) 12 (-1), q0 .ireturn 13, q1 (.aload_n 0) 14 0, q3 (.getfield 26) 17 4 2 2, none],
  [none, q3 (.getfield 127) 20 2 0 0, none, none, q1 (.iload_n 1) 21 1, q3 (.invokestatic 130) 24 82 2 4, none, none, q1 (.ifCond .eq 6) 27 30, none, none, qx (.bipush (-2)) 29 (-2), none, q0 .ireturn 30, q1 (.aload_n 0) 31 0, q3 (.getfield 26) 34 4 2 2],
  [none, none, q0 .dup 35, q3 (.getfield 127) 38 2 0 0, none, none, qx (.iconst 1) 39 1, q1 (.iload_n 1) 40 1, q0 .ishl 41, q0 .ior 42, q3 (.putfield 127) 45 2 0 0, none, none, q1 (.aload_n 0) 46 0, q3 (.getfield 33) 49 4 3 2, none],
  [none, qx (.iconst 0) 50 0, q1 (.iload_n 1) 51 1, qx (.iconst 0) 52 0, q3 (.invokevirtual 146) 55 3 4 0, none, none, q1 (.aload_n 0) 56 0, q3 (.getfield 26) 59 4 2 2, none, none, q3 (.getfield 127) 62 2 0 0, none, none, q3 (.invokestatic 150) 65 150 1 6, none],
  [none, q0 .ireturn 66]]
def tX4_goes : List (List (Option zR)) := [[q1 (.aload_n 0) 1 0, q3 (.getfield 19) 4 4 1 2, none, none, q1 (.iload_n 1) 5 1, q3 (.invokevirtual 112) 8 29 2 3, none, none, q1 (.ifCond .ne 5) 11 13, none, none, qx (.iconst (-1)) 12 (-1), q0 .ireturn 13, q1 (.aload_n 0) 14 0, q3 (.getfield 26) 17 4 2 2, none],
  [none, q3 (.getfield 127) 20 2 0 0, none, none, q1 (.iload_n 1) 21 1, q3 (.invokestatic 130) 24 82 2 4, none, none, q1 (.ifCond .ne 6) 27 30, none, none, qx (.bipush (-2)) 29 (-2), none, q0 .ireturn 30, q1 (.aload_n 0) 31 0, q3 (.getfield 26) 34 4 2 2],
  [none, none, q0 .dup 35, q3 (.getfield 127) 38 2 0 0, none, none, qx (.iconst 1) 39 1, q1 (.iload_n 1) 40 1, q0 .ishl 41, qx (.iconst (-1)) 42 (-1), q0 .ixor 43, q0 .iand 44, q3 (.putfield 127) 47 2 0 0, none, none, q1 (.aload_n 0) 48 0],
  [q3 (.getfield 33) 51 4 3 2, none, none, qx (.iconst 1) 52 1, q1 (.iload_n 1) 53 1, qx (.iconst 0) 54 0, q3 (.invokevirtual 146) 57 3 4 0, none, none, q1 (.aload_n 0) 58 0, q3 (.getfield 26) 61 4 2 2, none, none, q3 (.getfield 127) 64 2 0 0, none, none],
  [q3 (.invokestatic 150) 67 150 1 6, none, none, q0 .ireturn 68]]
def tX4_claims : List (List (Option zR)) := [[q1 (.aload_n 0) 1 0, q3 (.getfield 19) 4 4 1 2, none, none, q1 (.iload_n 1) 5 1, q3 (.invokevirtual 112) 8 29 2 3, none, none, q1 (.ifCond .eq 14) 11 22, none, none, q1 (.aload_n 0) 12 0, q3 (.getfield 19) 15 4 1 2, none, none, q1 (.iload_n 2) 16 2],
  [q3 (.invokevirtual 85) 19 28 2 3, none, none, q1 (.ifCond .ne 5) 22 24, none, none, qx (.iconst (-1)) 23 (-1), q0 .ireturn 24, q1 (.aload_n 0) 25 0, q1 (.iload_n 2) 26 2, q3 (.invokevirtual 98) 29 63 2 4, none, none, q1 (.iload_n 1) 30 1, q3 (.invokestatic 130) 33 82 2 4, none],
  [none, q1 (.ifCond .eq 6) 36 39, none, none, qx (.bipush (-2)) 38 (-2), none, q0 .ireturn 39, q1 (.aload_n 0) 40 0, q3 (.getfield 26) 43 4 2 2, none, none, q1 (.iload_n 1) 44 1, q3 (.invokevirtual 134) 47 25 2 2, none, none, q1 (.aload_n 0) 48 0],
  [q3 (.getfield 19) 51 4 1 2, none, none, q3 (.getfield 121) 54 3 9 2, none, none, q1 (.iload_n 1) 55 1, q0 .iaload 56, q1 (.if_icmp .lt 6) 59 62, none, none, qx (.bipush (-3)) 61 (-3), none, q0 .ireturn 62, q1 (.aload_n 0) 63 0, q3 (.getfield 26) 66 4 2 2],
  [none, none, q3 (.getfield 155) 69 2 2 2, none, none, q1 (.iload_n 2) 70 2, q0 .dup2 71, q0 .iaload 72, qx (.iconst 1) 73 1, q1 (.iload_n 1) 74 1, q0 .ishl 75, q0 .ior 76, q0 .iastore 77, q1 (.aload_n 0) 78 0, q3 (.getfield 33) 81 4 3 2, none],
  [none, qx (.iconst 2) 82 2, q1 (.iload_n 2) 83 2, q1 (.iload_n 1) 84 1, q3 (.invokevirtual 146) 87 3 4 0, none, none, q1 (.aload_n 0) 88 0, q1 (.iload_n 2) 89 2, q3 (.invokevirtual 102) 92 65 2 4, none, none, q0 .ireturn 93]]
def tX4_pulls : List (List (Option zR)) := [[q1 (.aload_n 0) 1 0, q3 (.getfield 19) 4 4 1 2, none, none, q1 (.iload_n 1) 5 1, q3 (.invokevirtual 85) 8 28 2 3, none, none, q1 (.ifCond .eq 10) 11 18, none, none, q1 (.iload_n 2) 12 2, q3 (.invokestatic 158) 15 84 1 4, none, none, q1 (.ifCond .ne 5) 18 20],
  [none, none, qx (.iconst (-1)) 19 (-1), q0 .ireturn 20, q1 (.aload_n 0) 21 0, q3 (.getfield 26) 24 4 2 2, none, none, q3 (.getfield 89) 27 2 1 2, none, none, q1 (.iload_n 1) 28 1, q0 .iaload 29, q1 (.istore_n 3) 30 3, q1 (.iload_n 3) 31 3, q1 (.iload_n 2) 32 2],
  [q3 (.invokestatic 161) 35 85 1 4, none, none, q0 .iadd 36, q1 (.istore 4) 38 4, none, q1 (.aload_n 0) 39 0, q1 (.iload_n 1) 40 1, q3 (.invokevirtual 164) 43 66 2 4, none, none, q1 (.ifCond .eq 26) 46 69, none, none, q1 (.aload_n 0) 47 0, q3 (.getfield 19) 50 4 1 2],
  [none, none, q1 (.iload 4) 52 4, none, q3 (.invokevirtual 167) 55 30 2 3, none, none, q1 (.ifCond .eq 14) 58 69, none, none, q1 (.aload_n 0) 59 0, q1 (.iload 4) 61 4, none, q3 (.invokevirtual 170) 64 69 2 4, none, none],
  [qx (.bipush (-9)) 66 (-9), none, q1 (.if_icmp .eq 6) 69 72, none, none, qx (.bipush (-2)) 71 (-2), none, q0 .ireturn 72, q1 (.aload_n 0) 73 0, q3 (.getfield 26) 76 4 2 2, none, none, q3 (.getfield 89) 79 2 1 2, none, none, q1 (.iload_n 1) 80 1],
  [q1 (.iload 4) 82 4, none, q0 .iastore 83, q1 (.aload_n 0) 84 0, q3 (.getfield 33) 87 4 3 2, none, none, qx (.iconst 3) 88 3, q1 (.iload_n 1) 89 1, q1 (.iload_n 3) 90 3, q3 (.invokevirtual 146) 93 3 4 0, none, none, q1 (.iload 4) 95 4, none, q0 .ireturn 96]]
def tX4_undo : List (List (Option zR)) := [[q1 (.aload_n 0) 1 0, q3 (.getfield 33) 4 4 3 2, none, none, q3 (.getfield 143) 7 0 0 0, none, none, q1 (.ifCond .ne 6) 10 13, none, none, qx (.bipush (-2)) 12 (-2), none, q0 .ireturn 13, q1 (.aload_n 0) 14 0, q3 (.getfield 33) 17 4 3 2, none],
  [none, q1 (.aload_n 0) 18 0, q3 (.getfield 26) 21 4 2 2, none, none, q3 (.invokevirtual 173) 24 5 2 0, none, none, q1 (.aload_n 0) 25 0, q3 (.getfield 33) 28 4 3 2, none, none, q3 (.getfield 143) 31 0 0 0, none, none, q0 .ireturn 32]]
def tX4_gather : List (List (Option zR)) := [[q1 (.iload_n 1) 1 1, q1 (.ifCond .lt 16) 4 17, none, none, q1 (.iload_n 1) 5 1, qx (.iconst 1) 6 1, q1 (.aload_n 0) 7 0, q3 (.getfield 19) 10 4 1 2, none, none, q3 (.getfield 177) 13 3 2 0, none, none, q0 .ishl 14, q1 (.if_icmp .lt 5) 17 19, none],
  [none, qx (.iconst (-1)) 18 (-1), q0 .ireturn 19, qx (.bipush (-9)) 21 (-9), none, q1 (.istore_n 2) 22 2, qx (.iconst 0) 23 0, q1 (.istore_n 3) 24 3, q1 (.iload_n 3) 25 3, qx (.iconst 1) 26 1, q1 (.aload_n 0) 27 0, q3 (.getfield 19) 30 4 1 2, none, none, q3 (.getfield 180) 33 3 3 0, none],
  [none, q0 .ishl 34, q1 (.if_icmp .ge 49) 37 83, none, none, q1 (.iload_n 2) 38 2, qx (.bipush (-9)) 40 (-9), none, q1 (.if_icmp .eq 14) 43 54, none, none, q1 (.iload_n 3) 44 3, q3 (.invokestatic 150) 47 150 1 6, none, none, q1 (.iload_n 2) 48 2],
  [q3 (.invokestatic 150) 51 150 1 6, none, none, q1 (.if_icmp .ge 7) 54 58, none, none, qx (.iconst 1) 55 1, q1 (.goto 4) 58 59, none, none, qx (.iconst 0) 59 0, q1 (.istore 4) 61 4, none, q1 (.iload 4) 63 4, none, q1 (.ifCond .eq 14) 66 77],
  [none, none, q1 (.aload_n 0) 67 0, q1 (.iload_n 3) 68 3, q1 (.iload_n 1) 69 1, q3 (.invokevirtual 183) 72 68 3 4, none, none, q1 (.ifCond .eq 5) 75 77, none, none, q1 (.iload_n 3) 76 3, q1 (.istore_n 2) 77 2, qi (.iinc 3 1) 80 3 1, none, none],
  [q1 (.goto (-56)) 83 24, none, none, q1 (.iload_n 2) 84 2, q0 .ireturn 85]]
def tX4_bare : List (List (Option zR)) := [[q1 (.aload_n 0) 1 0, q3 (.getfield 19) 4 4 1 2, none, none, q1 (.iload_n 1) 5 1, q3 (.invokevirtual 167) 8 30 2 3, none, none, q1 (.ifCond .eq 12) 11 20, none, none, q1 (.iload_n 2) 12 2, q1 (.ifCond .lt 8) 15 20, none, none, q1 (.iload_n 2) 16 2],
  [qx (.iconst 1) 17 1, q1 (.if_icmp .le 5) 20 22, none, none, qx (.iconst (-1)) 21 (-1), q0 .ireturn 22, q1 (.aload_n 0) 23 0, q1 (.iload_n 1) 24 1, qx (.iconst 0) 25 0, q3 (.invokevirtual 186) 28 71 3 4, none, none, q1 (.istore_n 3) 29 3, q1 (.aload_n 0) 30 0, q1 (.iload_n 1) 31 1, qx (.iconst 1) 32 1],
  [q3 (.invokevirtual 186) 35 71 3 4, none, none, q1 (.istore 4) 37 4, none, q1 (.iload 4) 39 4, none, qx (.bipush (-9)) 41 (-9), none, q1 (.if_icmp .eq 19) 44 60, none, none, q1 (.iload_n 3) 45 3, qx (.bipush (-9)) 47 (-9), none, q1 (.if_icmp .eq 9) 50 56],
  [none, none, q1 (.iload 4) 52 4, none, q1 (.iload_n 3) 53 3, q1 (.if_icmp .ge 7) 56 60, none, none, qx (.iconst 1) 57 1, q1 (.goto 4) 60 61, none, none, qx (.iconst 0) 61 0, q1 (.istore 5) 63 5, none, q1 (.iload 5) 65 5],
  [none, qx (.iconst 1) 66 1, q1 (.if_icmp .ne 8) 69 74, none, none, q1 (.iload 4) 71 4, none, q1 (.goto 4) 74 75, none, none, q1 (.iload_n 3) 75 3, q1 (.istore 6) 77 6, none, q1 (.iload_n 2) 78 2, q1 (.ifCond .ne 6) 81 84, none],
  [none, q1 (.iload 6) 83 6, none, q0 .ireturn 84, q1 (.iload 6) 86 6, none, qx (.bipush (-9)) 88 (-9), none, q1 (.if_icmp .eq 8) 91 96, none, none, q1 (.iload 6) 93 6, none, q1 (.ifCond .ne 8) 96 101, none, none],
  [qx (.bipush (-9)) 98 (-9), none, q1 (.goto 5) 101 103, none, none, q1 (.iload 5) 103 5, none, q0 .ireturn 104]]
def tX4_scale : List (List (Option zR)) := [[q1 (.aload_n 0) 1 0, q3 (.getfield 19) 4 4 1 2, none, none, q1 (.iload_n 1) 5 1, q3 (.invokevirtual 112) 8 29 2 3, none, none, q1 (.ifCond .eq 14) 11 22, none, none, q1 (.aload_n 0) 12 0, q3 (.getfield 19) 15 4 1 2, none, none, q1 (.iload_n 2) 16 2],
  [q3 (.invokevirtual 85) 19 28 2 3, none, none, q1 (.ifCond .ne 5) 22 24, none, none, qx (.iconst (-1)) 23 (-1), q0 .ireturn 24, q1 (.aload_n 0) 25 0, q1 (.iload_n 2) 26 2, q3 (.invokevirtual 189) 29 64 2 4, none, none, q1 (.istore_n 3) 30 3, q1 (.iload_n 3) 31 3, q1 (.iload_n 1) 32 1],
  [q3 (.invokestatic 130) 35 82 2 4, none, none, q1 (.ifCond .ne 5) 38 40, none, none, qx (.iconst 0) 39 0, q0 .ireturn 40, q1 (.iload_n 3) 41 3, qx (.iconst 1) 42 1, q1 (.iload_n 1) 43 1, q0 .ishl 44, qx (.iconst (-1)) 45 (-1), q0 .ixor 46, q0 .iand 47, q1 (.istore 4) 49 4],
  [none, qx (.iconst 0) 50 0, q1 (.istore 5) 52 5, none, qx (.iconst 0) 53 0, q1 (.istore 6) 55 6, none, q1 (.iload 6) 57 6, none, qx (.iconst 1) 58 1, q1 (.aload_n 0) 59 0, q3 (.getfield 19) 62 4 1 2, none, none, q3 (.getfield 180) 65 3 3 0, none],
  [none, q0 .ishl 66, q1 (.if_icmp .ge 92) 69 158, none, none, q1 (.aload_n 0) 70 0, q3 (.getfield 19) 73 4 1 2, none, none, q3 (.getfield 92) 76 3 5 2, none, none, q1 (.iload_n 2) 77 2, q0 .iaload 78, q1 (.aload_n 0) 79 0, q3 (.getfield 19) 82 4 1 2],
  [none, none, q1 (.iload 6) 84 6, none, q3 (.invokevirtual 192) 87 35 2 3, none, none, q0 .isub 88, q1 (.istore 7) 90 7, none, q1 (.iload 7) 92 7, none, q1 (.ifCond .le 21) 95 113, none, none, q1 (.iload 7) 97 7],
  [none, q1 (.aload_n 0) 98 0, q3 (.getfield 19) 101 4 1 2, none, none, q3 (.getfield 118) 104 3 8 2, none, none, q1 (.iload_n 1) 105 1, q0 .iaload 106, q1 (.if_icmp .gt 7) 109 113, none, none, qx (.iconst 1) 110 1, q1 (.goto 4) 113 114, none],
  [none, qx (.iconst 0) 114 0, q1 (.istore 8) 116 8, none, q1 (.iload 6) 118 6, none, q1 (.iload 4) 120 4, none, q3 (.invokestatic 195) 123 83 2 4, none, none, q1 (.ifCond .eq 29) 126 152, none, none, q1 (.iload 8) 128 8, none],
  [q1 (.ifCond .eq 24) 131 152, none, none, q1 (.iload 5) 133 5, none, q1 (.iload 6) 135 6, none, q3 (.invokestatic 198) 138 87 1 4, none, none, q1 (.iload 4) 140 4, none, q1 (.iload 6) 142 6, none, qx (.iconst (-1)) 143 (-1), q0 .ixor 144],
  [q0 .iand 145, q3 (.invokestatic 198) 148 87 1 4, none, none, q0 .imul 149, q0 .iadd 150, q1 (.istore 5) 152 5, none, qi (.iinc 6 1) 155 6 1, none, none, q1 (.goto (-100)) 158 55, none, none, q1 (.iload 5) 160 5, none],
  [q0 .ireturn 161]]
def tX4_offends : List (List (Option zR)) := [[q1 (.aload_n 0) 1 0, q3 (.getfield 19) 4 4 1 2, none, none, q1 (.iload_n 1) 5 1, q3 (.invokevirtual 85) 8 28 2 3, none, none, q1 (.ifCond .eq 14) 11 22, none, none, q1 (.aload_n 0) 12 0, q3 (.getfield 19) 15 4 1 2, none, none, q1 (.iload_n 2) 16 2],
  [q3 (.invokevirtual 167) 19 30 2 3, none, none, q1 (.ifCond .ne 5) 22 24, none, none, qx (.iconst (-1)) 23 (-1), q0 .ireturn 24, q1 (.aload_n 0) 25 0, q1 (.iload_n 1) 26 1, q1 (.iload_n 2) 27 2, q3 (.invokevirtual 105) 30 72 3 4, none, none, q0 .ireturn 31]]
def tX4_odds : List (List (Option zR)) := [[q1 (.aload_n 0) 1 0, q3 (.getfield 19) 4 4 1 2, none, none, q1 (.iload_n 1) 5 1, q3 (.invokevirtual 85) 8 28 2 3, none, none, q1 (.ifCond .eq 22) 11 30, none, none, q1 (.iload_n 2) 12 2, q1 (.ifCond .lt 18) 15 30, none, none, q1 (.iload_n 2) 16 2],
  [qx (.bipush 10) 18 10, none, q1 (.if_icmp .gt 12) 21 30, none, none, q1 (.iload_n 3) 22 3, q1 (.ifCond .lt 8) 25 30, none, none, q1 (.iload_n 3) 26 3, qx (.iconst 1) 27 1, q1 (.if_icmp .le 5) 30 32, none, none, qx (.iconst (-1)) 31 (-1), q0 .ireturn 32],
  [q1 (.aload_n 0) 33 0, q1 (.iload_n 1) 34 1, q3 (.invokevirtual 189) 37 64 2 4, none, none, q1 (.istore 4) 39 4, none, q1 (.aload_n 0) 40 0, q1 (.iload_n 1) 41 1, q1 (.iload 4) 43 4, none, q1 (.iload_n 2) 44 2, q3 (.invokevirtual 201) 47 74 4 4, none, none, q1 (.istore 5) 49 5],
  [none, qx (.bipush 10) 51 10, none, q1 (.iload 4) 53 4, none, q3 (.invokestatic 150) 56 150 1 6, none, none, q3 (.invokestatic 205) 59 88 2 4, none, none, q1 (.istore 6) 61 6, none, q1 (.iload 5) 63 5, none, q1 (.iload 6) 65 6],
  [none, q3 (.invokestatic 208) 68 89 2 4, none, none, q1 (.istore 7) 70 7, none, q1 (.iload 7) 72 7, none, q1 (.ifCond .ne 6) 75 78, none, none, qx (.bipush (-9)) 77 (-9), none, q0 .ireturn 78, q1 (.iload_n 3) 79 3, q1 (.ifCond .ne 11) 82 90],
  [none, none, q1 (.iload 5) 84 5, none, q1 (.iload 7) 86 7, none, q0 .idiv 87, q1 (.goto 8) 90 95, none, none, q1 (.iload 6) 92 6, none, q1 (.iload 7) 94 7, none, q0 .idiv 95, q0 .ireturn 96]]
def tX4_sees : List (List (Option zR)) := [[q1 (.aload_n 0) 1 0, q3 (.getfield 19) 4 4 1 2, none, none, q1 (.iload_n 1) 5 1, q3 (.invokevirtual 85) 8 28 2 3, none, none, q1 (.ifCond .eq 12) 11 20, none, none, q1 (.iload_n 2) 12 2, q1 (.ifCond .lt 8) 15 20, none, none, q1 (.iload_n 2) 16 2],
  [qx (.iconst 1) 17 1, q1 (.if_icmp .le 5) 20 22, none, none, qx (.iconst (-1)) 21 (-1), q0 .ireturn 22, q1 (.aload_n 0) 23 0, q3 (.getfield 52) 26 4 8 0, none, none, qx (.bipush 6) 28 6, none, q1 (.if_icmp .lt 6) 31 34, none, none, qx (.bipush (-3)) 33 (-3)],
  [none, q0 .ireturn 34, q1 (.aload_n 0) 35 0, q3 (.getfield 45) 38 4 6 2, none, none, q1 (.aload_n 0) 39 0, q3 (.getfield 52) 42 4 8 0, none, none, q1 (.iload_n 1) 43 1, q0 .iastore 44, q1 (.aload_n 0) 45 0, q3 (.getfield 49) 48 4 7 2, none, none],
  [q1 (.aload_n 0) 49 0, q3 (.getfield 52) 52 4 8 0, none, none, q1 (.iload_n 2) 53 2, q0 .iastore 54, q1 (.aload_n 0) 55 0, q0 .dup 56, q3 (.getfield 52) 59 4 8 0, none, none, qx (.iconst 1) 60 1, q0 .iadd 61, q3 (.putfield 52) 64 4 8 0, none, none],
  [q1 (.aload_n 0) 65 0, q3 (.getfield 52) 68 4 8 0, none, none, q0 .ireturn 69]]
def tX4_forget : List (List (Option zR)) := [[q1 (.aload_n 0) 1 0, q3 (.getfield 52) 4 4 8 0, none, none, q1 (.istore_n 1) 5 1, q1 (.aload_n 0) 6 0, qx (.iconst 0) 7 0, q3 (.putfield 52) 10 4 8 0, none, none, q1 (.iload_n 1) 11 1, q0 .ireturn 12]]
def tX4_who : List (List (Option zR)) := [[q1 (.aload_n 0) 1 0, q3 (.invokevirtual 211) 4 75 1 4, none, none, q0 .ireturn 5]]
def tX4_show : List (List (Option zR)) := [[q1 (.aload_n 0) 1 0, q3 (.invokevirtual 211) 4 75 1 4, none, none, q1 (.istore_n 1) 5 1, q1 (.iload_n 1) 6 1, q3 (.invokestatic 150) 9 150 1 6, none, none, qx (.iconst 1) 10 1, q1 (.if_icmp .gt 6) 13 16, none, none, qx (.bipush (-9)) 15 (-9), none, q0 .ireturn 16],
  [qx (.bipush (-9)) 18 (-9), none, q1 (.istore_n 2) 19 2, qx (.bipush 7) 21 7, none, q1 (.istore_n 3) 22 3, qx (.iconst 0) 23 0, q1 (.istore 4) 25 4, none, q1 (.iload 4) 27 4, none, q1 (.aload_n 0) 28 0, q3 (.getfield 19) 31 4 1 2, none, none, q3 (.getfield 177) 34 3 2 0],
  [none, none, q1 (.if_icmp .ge 48) 37 82, none, none, q1 (.iload_n 1) 38 1, q1 (.aload_n 0) 39 0, q1 (.iload 4) 41 4, none, q3 (.invokevirtual 98) 44 63 2 4, none, none, q0 .iand 45, q3 (.invokestatic 150) 48 150 1 6, none, none],
  [q1 (.istore 5) 50 5, none, q1 (.iload 5) 52 5, none, q1 (.iload_n 1) 53 1, q3 (.invokestatic 150) 56 150 1 6, none, none, q1 (.iload 5) 58 5, none, q0 .isub 59, q3 (.invokestatic 214) 62 152 2 7, none, none, q1 (.istore 6) 64 6, none],
  [q1 (.iload 6) 66 6, none, q1 (.iload_n 3) 67 3, q1 (.if_icmp .ge 9) 70 76, none, none, q1 (.iload 6) 72 6, none, q1 (.istore_n 3) 73 3, q1 (.iload 4) 75 4, none, q1 (.istore_n 2) 76 2, qi (.iinc 4 1) 79 4 1, none, none, q1 (.goto (-54)) 82 25],
  [none, none, q1 (.iload_n 2) 83 2, q0 .ireturn 84]]
def tX4_rate : List (List (Option zR)) := [[q1 (.iload_n 1) 1 1, q1 (.ifCond .lt 20) 4 21, none, none, q1 (.iload_n 1) 5 1, qx (.bipush 6) 7 6, none, q1 (.if_icmp .ge 14) 10 21, none, none, q1 (.aload_n 0) 11 0, q3 (.getfield 19) 14 4 1 2, none, none, q1 (.iload_n 2) 15 2, q3 (.invokevirtual 85) 18 28 2 3],
  [none, none, q1 (.ifCond .ne 6) 21 24, none, none, qx (.ldc 219) 23 (-1000000), none, q0 .ireturn 24, q1 (.iload_n 1) 25 1, qs (.tableswitch 65 1 5 #[35, 41, 47, 53, 59]) 60 90 [(1, 60), (2, 66), (3, 72), (4, 78), (5, 84)], none, none, none, none, none, none],
  [none, none, none, none, none, none, none, none, none, none, none, none, none, none, none, none],
  [none, none, none, none, none, none, none, none, none, none, none, none, q1 (.aload_n 0) 61 0, q1 (.iload_n 2) 62 2, q3 (.invokevirtual 220) 65 77 2 4, none],
  [none, q0 .ireturn 66, q1 (.aload_n 0) 67 0, q1 (.iload_n 2) 68 2, q3 (.invokevirtual 223) 71 78 2 4, none, none, q0 .ireturn 72, q1 (.aload_n 0) 73 0, q1 (.iload_n 2) 74 2, q3 (.invokevirtual 226) 77 79 2 4, none, none, q0 .ireturn 78, q1 (.aload_n 0) 79 0, q1 (.iload_n 2) 80 2],
  [q3 (.invokevirtual 229) 83 80 2 4, none, none, q0 .ireturn 84, q1 (.aload_n 0) 85 0, q1 (.iload_n 2) 86 2, q3 (.invokevirtual 232) 89 81 2 4, none, none, q0 .ireturn 90, q1 (.aload_n 0) 91 0, q1 (.iload_n 2) 92 2, q3 (.invokevirtual 235) 95 76 2 4, none, none, q0 .ireturn 96]]
def tX4_keep : List (List (Option zR)) := [[q1 (.iload_n 1) 1 1, q3 (.invokestatic 238) 4 86 1 4, none, none, q1 (.ifCond .ne 5) 7 9, none, none, qx (.iconst (-1)) 8 (-1), q0 .ireturn 9, q1 (.aload_n 0) 10 0, q3 (.getfield 37) 13 4 4 2, none, none, q1 (.iload_n 1) 14 1, q0 .aaload 15, q1 (.aload_n 0) 16 0],
  [q3 (.getfield 26) 19 4 2 2, none, none, q3 (.invokevirtual 241) 22 24 2 2, none, none, q1 (.aload_n 0) 23 0, q3 (.getfield 41) 26 4 5 2, none, none, q1 (.iload_n 1) 27 1, qx (.iconst 1) 28 1, q0 .bastore 29, q1 (.aload_n 0) 30 0, q3 (.getfield 26) 33 4 2 2, none],
  [none, q3 (.getfield 127) 36 2 0 0, none, none, q3 (.invokestatic 150) 39 150 1 6, none, none, q0 .ireturn 40]]
def tX4_back : List (List (Option zR)) := [[q1 (.iload_n 1) 1 1, q3 (.invokestatic 238) 4 86 1 4, none, none, q1 (.ifCond .ne 5) 7 9, none, none, qx (.iconst (-1)) 8 (-1), q0 .ireturn 9, q1 (.aload_n 0) 10 0, q3 (.getfield 41) 13 4 5 2, none, none, q1 (.iload_n 1) 14 1, q0 .baload 15, q1 (.ifCond .ne 6) 18 21],
  [none, none, qx (.bipush (-2)) 20 (-2), none, q0 .ireturn 21, q1 (.aload_n 0) 22 0, q3 (.getfield 26) 25 4 2 2, none, none, q1 (.aload_n 0) 26 0, q3 (.getfield 37) 29 4 4 2, none, none, q1 (.iload_n 1) 30 1, q0 .aaload 31, q3 (.invokevirtual 241) 34 24 2 2],
  [none, none, q1 (.aload_n 0) 35 0, q3 (.getfield 33) 38 4 3 2, none, none, q3 (.invokevirtual 82) 41 2 1 0, none, none, q1 (.aload_n 0) 42 0, q3 (.getfield 26) 45 4 2 2, none, none, q3 (.getfield 127) 48 2 0 0, none, none],
  [q3 (.invokestatic 150) 51 150 1 6, none, none, q0 .ireturn 52]]
def tX4_count : List (List (Option zR)) := [[q1 (.iload_n 1) 1 1, qs (.tableswitch 84 0 5 #[39, 47, 55, 63, 71, 76]) 40 85 [(0, 40), (1, 48), (2, 56), (3, 64), (4, 72), (5, 77)], none, none, none, none, none, none, none, none, none, none, none, none, none, none],
  [none, none, none, none, none, none, none, none, none, none, none, none, none, none, none, none],
  [none, none, none, none, none, none, none, none, q1 (.aload_n 0) 41 0, q3 (.getfield 19) 44 4 1 2, none, none, q3 (.getfield 244) 47 3 0 0, none, none, q0 .ireturn 48],
  [q1 (.aload_n 0) 49 0, q3 (.getfield 19) 52 4 1 2, none, none, q3 (.getfield 177) 55 3 2 0, none, none, q0 .ireturn 56, q1 (.aload_n 0) 57 0, q3 (.getfield 19) 60 4 1 2, none, none, q3 (.getfield 180) 63 3 3 0, none, none, q0 .ireturn 64],
  [q1 (.aload_n 0) 65 0, q3 (.getfield 19) 68 4 1 2, none, none, q3 (.getfield 247) 71 3 1 0, none, none, q0 .ireturn 72, q1 (.aload_n 0) 73 0, q3 (.getfield 52) 76 4 8 0, none, none, q0 .ireturn 77, q1 (.aload_n 0) 78 0, q3 (.getfield 10) 81 4 0 2, none],
  [none, q3 (.getfield 60) 84 1 0 0, none, none, q0 .ireturn 85, qx (.iconst (-1)) 86 (-1), q0 .ireturn 87]]
def tX4_trace : List (List (Option zR)) := [[q1 (.aload_n 0) 1 0, q3 (.getfield 56) 4 4 9 3, none, none, q0 .lreturn 5]]
def tX4_wrongedBy : List (List (Option zR)) := [[q1 (.aload_n 0) 1 0, q3 (.getfield 19) 4 4 1 2, none, none, q3 (.getfield 250) 7 3 11 2, none, none, q1 (.iload_n 1) 8 1, q0 .iaload 9, q1 (.aload_n 0) 10 0, q3 (.getfield 26) 13 4 2 2, none, none, q3 (.getfield 155) 16 2 2 2, none, none],
  [q1 (.iload_n 1) 17 1, q0 .iaload 18, q0 .ior 19, q0 .ireturn 20]]
def tX4_pullersAt : List (List (Option zR)) := [[q1 (.aload_n 0) 1 0, q1 (.iload_n 1) 2 1, q3 (.invokevirtual 98) 5 63 2 4, none, none, q1 (.aload_n 0) 6 0, q3 (.getfield 26) 9 4 2 2, none, none, q3 (.getfield 127) 12 2 0 0, none, none, q0 .iand 13, q0 .ireturn 14]]
def tX4_pullAt : List (List (Option zR)) := [[q1 (.aload_n 0) 1 0, q3 (.getfield 19) 4 4 1 2, none, none, q1 (.aload_n 0) 5 0, q1 (.iload_n 1) 6 1, q3 (.invokevirtual 189) 9 64 2 4, none, none, q3 (.invokevirtual 192) 12 35 2 3, none, none, q0 .ireturn 13]]
def tX4_moves : List (List (Option zR)) := [[q1 (.aload_n 0) 1 0, q1 (.iload_n 1) 2 1, q3 (.invokevirtual 102) 5 65 2 4, none, none, q1 (.aload_n 0) 6 0, q3 (.getfield 19) 9 4 1 2, none, none, q3 (.getfield 92) 12 3 5 2, none, none, q1 (.iload_n 1) 13 1, q0 .iaload 14, q1 (.if_icmp .lt 7) 17 21, none],
  [none, qx (.iconst 1) 18 1, q1 (.goto 4) 21 22, none, none, qx (.iconst 0) 22 0, q0 .ireturn 23]]
def tX4_moving : List (List (Option zR)) := [[qx (.iconst 0) 1 0, q1 (.istore_n 1) 2 1, qx (.iconst 0) 3 0, q1 (.istore_n 2) 4 2, q1 (.iload_n 2) 5 2, q1 (.aload_n 0) 6 0, q3 (.getfield 19) 9 4 1 2, none, none, q3 (.getfield 177) 12 3 2 0, none, none, q1 (.if_icmp .ge 23) 15 35, none, none, q1 (.aload_n 0) 16 0],
  [q1 (.iload_n 2) 17 2, q3 (.invokevirtual 164) 20 66 2 4, none, none, q1 (.ifCond .eq 9) 23 29, none, none, q1 (.iload_n 1) 24 1, qx (.iconst 1) 25 1, q1 (.iload_n 2) 26 2, q0 .ishl 27, q0 .ior 28, q1 (.istore_n 1) 29 1, qi (.iinc 2 1) 32 2 1, none, none],
  [q1 (.goto (-28)) 35 4, none, none, q1 (.iload_n 1) 36 1, q0 .ireturn 37]]
def tX4_allMoveBy : List (List (Option zR)) := [[qx (.iconst 0) 1 0, q1 (.istore_n 3) 2 3, q1 (.iload_n 3) 3 3, q1 (.aload_n 0) 4 0, q3 (.getfield 19) 7 4 1 2, none, none, q3 (.getfield 177) 10 3 2 0, none, none, q1 (.if_icmp .ge 49) 13 59, none, none, q1 (.aload_n 0) 14 0, q3 (.getfield 19) 17 4 1 2, none],
  [none, q1 (.iload_n 1) 18 1, q1 (.aload_n 0) 19 0, q1 (.iload_n 3) 20 3, q3 (.invokevirtual 98) 23 63 2 4, none, none, q0 .iand 24, q3 (.invokevirtual 192) 27 35 2 3, none, none, q1 (.istore 4) 29 4, none, q1 (.iload_n 2) 30 2, q1 (.iload_n 3) 31 3, q3 (.invokestatic 130) 34 82 2 4],
  [none, none, q1 (.ifCond .eq 19) 37 53, none, none, q1 (.iload 4) 39 4, none, q1 (.aload_n 0) 40 0, q3 (.getfield 19) 43 4 1 2, none, none, q3 (.getfield 92) 46 3 5 2, none, none, q1 (.iload_n 3) 47 3, q0 .iaload 48],
  [q1 (.if_icmp .ge 5) 51 53, none, none, qx (.iconst 0) 52 0, q0 .ireturn 53, qi (.iinc 3 1) 56 3 1, none, none, q1 (.goto (-54)) 59 2, none, none, qx (.iconst 1) 60 1, q0 .ireturn 61]]
def tX4_statueIn : List (List (Option zR)) := [[qx (.iconst 0) 1 0, q1 (.istore_n 2) 2 2, q1 (.iload_n 2) 3 2, q1 (.aload_n 0) 4 0, q3 (.getfield 19) 7 4 1 2, none, none, q3 (.getfield 177) 10 3 2 0, none, none, q1 (.if_icmp .ge 24) 13 34, none, none, q1 (.aload_n 0) 14 0, q3 (.getfield 26) 17 4 2 2, none],
  [none, q3 (.getfield 89) 20 2 1 2, none, none, q1 (.iload_n 2) 21 2, q0 .iaload 22, q1 (.iload_n 1) 23 1, q1 (.if_icmp .ne 5) 26 28, none, none, q1 (.iload_n 2) 27 2, q0 .ireturn 28, qi (.iinc 2 1) 31 2 1, none, none, q1 (.goto (-29)) 34 2],
  [none, none, qx (.bipush (-9)) 36 (-9), none, q0 .ireturn 37]]
def tX4_emptyYards : List (List (Option zR)) := [[qx (.iconst 0) 1 0, q1 (.istore_n 1) 2 1, qx (.iconst 0) 3 0, q1 (.istore_n 2) 4 2, q1 (.iload_n 2) 5 2, q1 (.aload_n 0) 6 0, q3 (.getfield 19) 9 4 1 2, none, none, q3 (.getfield 244) 12 3 0 0, none, none, q1 (.if_icmp .ge 25) 15 37, none, none, q1 (.aload_n 0) 16 0],
  [q1 (.iload_n 2) 17 2, q3 (.invokevirtual 170) 20 69 2 4, none, none, qx (.bipush (-9)) 22 (-9), none, q1 (.if_icmp .ne 9) 25 31, none, none, q1 (.iload_n 1) 26 1, qx (.iconst 1) 27 1, q1 (.iload_n 2) 28 2, q0 .ishl 29, q0 .ior 30, q1 (.istore_n 1) 31 1, qi (.iinc 2 1) 34 2 1],
  [none, none, q1 (.goto (-30)) 37 4, none, none, q1 (.iload_n 1) 38 1, q0 .ireturn 39]]
def tX4_pullsToBare : List (List (Option zR)) := [[qx (.iconst 0) 1 0, q1 (.istore_n 3) 2 3, q1 (.iload_n 3) 3 3, q1 (.aload_n 0) 4 0, q3 (.getfield 19) 7 4 1 2, none, none, q3 (.getfield 244) 10 3 0 0, none, none, q1 (.if_icmp .ge 63) 13 73, none, none, q1 (.iload_n 1) 14 1, q1 (.iload_n 3) 15 3, q1 (.iload_n 2) 16 2],
  [q3 (.invokestatic 161) 19 85 1 4, none, none, q0 .imul 20, q0 .iadd 21, q1 (.istore 4) 23 4, none, q1 (.aload_n 0) 24 0, q3 (.getfield 19) 27 4 1 2, none, none, q1 (.iload 4) 29 4, none, q3 (.invokevirtual 167) 32 30 2 3, none, none],
  [q1 (.ifCond .ne 6) 35 38, none, none, qx (.bipush (-9)) 37 (-9), none, q0 .ireturn 38, q1 (.aload_n 0) 39 0, q1 (.iload 4) 41 4, none, q3 (.invokevirtual 170) 44 69 2 4, none, none, q1 (.istore 5) 46 5, none, q1 (.iload 5) 48 5, none],
  [qx (.bipush (-9)) 50 (-9), none, q1 (.if_icmp .ne 5) 53 55, none, none, q1 (.iload_n 3) 54 3, q0 .ireturn 55, q1 (.aload_n 0) 56 0, q1 (.iload 5) 58 5, none, q3 (.invokevirtual 164) 61 66 2 4, none, none, q1 (.ifCond .ne 6) 64 67, none, none],
  [qx (.bipush (-9)) 66 (-9), none, q0 .ireturn 67, qi (.iinc 3 1) 70 3 1, none, none, q1 (.goto (-68)) 73 2, none, none, qx (.bipush (-9)) 75 (-9), none, q0 .ireturn 76]]
def tX4_offendedIn : List (List (Option zR)) := [[q1 (.aload_n 0) 1 0, q1 (.iload_n 1) 2 1, q3 (.invokevirtual 98) 5 63 2 4, none, none, q1 (.istore_n 3) 6 3, qx (.iconst 0) 7 0, q1 (.istore 4) 9 4, none, qx (.iconst 0) 10 0, q1 (.istore 5) 12 5, none, q1 (.iload 5) 14 5, none, q1 (.aload_n 0) 15 0, q3 (.getfield 19) 18 4 1 2],
  [none, none, q3 (.getfield 180) 21 3 3 0, none, none, q1 (.if_icmp .ge 46) 24 67, none, none, q1 (.iload_n 3) 25 3, q1 (.iload 5) 27 5, none, q3 (.invokestatic 130) 30 82 2 4, none, none, q1 (.ifCond .eq 31) 33 61, none],
  [none, q1 (.aload_n 0) 34 0, q3 (.getfield 19) 37 4 1 2, none, none, q3 (.getfield 115) 40 3 7 2, none, none, q1 (.iload 5) 42 5, none, q0 .iaload 43, q1 (.iload_n 2) 44 2, q0 .isub 45, q3 (.invokestatic 253) 48 151 1 7, none, none],
  [q1 (.aload_n 0) 49 0, q3 (.getfield 19) 52 4 1 2, none, none, q3 (.getfield 247) 55 3 1 0, none, none, q1 (.if_icmp .gt 6) 58 61, none, none, qi (.iinc 4 1) 61 4 1, none, none, qi (.iinc 5 1) 64 5 1, none, none],
  [q1 (.goto (-52)) 67 12, none, none, q1 (.iload 4) 69 4, none, q0 .ireturn 70]]
def tX4_placeOf : List (List (Option zR)) := [[q1 (.aload_n 0) 1 0, q3 (.getfield 26) 4 4 2 2, none, none, q3 (.getfield 89) 7 2 1 2, none, none, q1 (.iload_n 1) 8 1, q0 .iaload 9, q1 (.istore_n 2) 10 2, qx (.bipush 7) 12 7, none, q1 (.istore_n 3) 13 3, qx (.iconst 0) 14 0, q1 (.istore 4) 16 4, none],
  [q1 (.iload 4) 18 4, none, q1 (.aload_n 0) 19 0, q3 (.getfield 19) 22 4 1 2, none, none, q3 (.getfield 244) 25 3 0 0, none, none, q1 (.if_icmp .ge 51) 28 76, none, none, q1 (.aload_n 0) 29 0, q1 (.iload 4) 31 4, none, q3 (.invokevirtual 170) 34 69 2 4],
  [none, none, q1 (.istore 5) 36 5, none, q1 (.aload_n 0) 37 0, q1 (.iload_n 1) 38 1, q1 (.iload 4) 40 4, none, q3 (.invokevirtual 105) 43 72 3 4, none, none, q1 (.istore 6) 45 6, none, q1 (.iload 5) 47 5, none, qx (.bipush (-9)) 49 (-9)],
  [none, q1 (.if_icmp .eq 9) 52 58, none, none, q1 (.iload 5) 54 5, none, q1 (.iload_n 1) 55 1, q1 (.if_icmp .ne 15) 58 70, none, none, q1 (.iload 6) 60 6, none, q1 (.iload_n 3) 61 3, q1 (.if_icmp .ge 9) 64 70, none, none],
  [q1 (.iload 6) 66 6, none, q1 (.istore_n 3) 67 3, q1 (.iload 4) 69 4, none, q1 (.istore_n 2) 70 2, qi (.iinc 4 1) 73 4 1, none, none, q1 (.goto (-57)) 76 16, none, none, q1 (.iload_n 2) 77 2, q0 .ireturn 78]]
def tX4_chancesToMove : List (List (Option zR)) := [[qx (.iconst 0) 1 0, q1 (.istore 4) 3 4, none, qx (.iconst 0) 4 0, q1 (.istore 5) 6 5, none, q1 (.iload 5) 8 5, none, qx (.iconst 1) 9 1, q1 (.aload_n 0) 10 0, q3 (.getfield 19) 13 4 1 2, none, none, q3 (.getfield 180) 16 3 3 0, none, none],
  [q0 .ishl 17, q1 (.if_icmp .ge 74) 20 91, none, none, q1 (.iload 5) 22 5, none, q1 (.iload_n 2) 23 2, q3 (.invokestatic 195) 26 83 2 4, none, none, q1 (.ifCond .eq 59) 29 85, none, none, q1 (.aload_n 0) 30 0, q3 (.getfield 19) 33 4 1 2, none],
  [none, q1 (.iload 5) 35 5, none, q3 (.invokevirtual 192) 38 35 2 3, none, none, q1 (.aload_n 0) 39 0, q3 (.getfield 19) 42 4 1 2, none, none, q3 (.getfield 92) 45 3 5 2, none, none, q1 (.iload_n 1) 46 1, q0 .iaload 47, q1 (.if_icmp .lt 38) 50 85],
  [none, none, q1 (.iload_n 2) 51 2, q1 (.iload 5) 53 5, none, qx (.iconst (-1)) 54 (-1), q0 .ixor 55, q0 .iand 56, q3 (.invokestatic 150) 59 150 1 6, none, none, q1 (.istore 6) 61 6, none, q1 (.iload 4) 63 4, none, qx (.bipush 10) 65 10],
  [none, q1 (.iload_n 3) 66 3, q0 .isub 67, q1 (.iload 5) 69 5, none, q3 (.invokestatic 150) 72 150 1 6, none, none, q3 (.invokestatic 205) 75 88 2 4, none, none, q1 (.iload_n 3) 76 3, q1 (.iload 6) 78 6, none, q3 (.invokestatic 205) 81 88 2 4, none],
  [none, q0 .imul 82, q0 .iadd 83, q1 (.istore 4) 85 4, none, qi (.iinc 5 1) 88 5 1, none, none, q1 (.goto (-82)) 91 6, none, none, q1 (.iload 4) 93 4, none, q0 .ireturn 94]]
def tX4_stillPossible : List (List (Option zR)) := [[qx (.iconst 1) 1 1, q1 (.aload_n 0) 2 0, q3 (.getfield 19) 5 4 1 2, none, none, q3 (.getfield 180) 8 3 3 0, none, none, q0 .ishl 9, qx (.iconst 1) 10 1, q0 .isub 11, q1 (.istore_n 1) 12 1, qx (.iconst 0) 13 0, q1 (.istore_n 2) 14 2, q1 (.iload_n 2) 15 2, q1 (.aload_n 0) 16 0],
  [q3 (.getfield 52) 19 4 8 0, none, none, q1 (.if_icmp .ge 40) 22 59, none, none, q1 (.aload_n 0) 23 0, q1 (.aload_n 0) 24 0, q3 (.getfield 45) 27 4 6 2, none, none, q1 (.iload_n 2) 28 2, q0 .iaload 29, q3 (.invokevirtual 98) 32 63 2 4, none, none],
  [q1 (.istore_n 3) 33 3, q1 (.iload_n 1) 34 1, q1 (.aload_n 0) 35 0, q3 (.getfield 49) 38 4 7 2, none, none, q1 (.iload_n 2) 39 2, q0 .iaload 40, qx (.iconst 1) 41 1, q1 (.if_icmp .ne 7) 44 48, none, none, q1 (.iload_n 3) 45 3, q1 (.goto 6) 48 51, none, none],
  [q1 (.iload_n 3) 49 3, qx (.iconst (-1)) 50 (-1), q0 .ixor 51, q0 .iand 52, q1 (.istore_n 1) 53 1, qi (.iinc 2 1) 56 2 1, none, none, q1 (.goto (-42)) 59 14, none, none, q1 (.iload_n 1) 60 1, q0 .ireturn 61]]
def tX4_asStatue : List (List (Option zR)) := [[q1 (.aload_n 0) 1 0, q0 .dup 2, q3 (.getfield 56) 5 4 9 3, none, none, qy (.lconst 1) 6 1, q0 .ladd 7, q3 (.putfield 56) 10 4 9 3, none, none, q1 (.aload_n 0) 11 0, q3 (.getfield 19) 14 4 1 2, none, none, q3 (.getfield 92) 17 3 5 2, none],
  [none, q1 (.iload_n 1) 18 1, q0 .iaload 19, q0 .ireturn 20]]
def tX4_asGeneral : List (List (Option zR)) := [[q1 (.aload_n 0) 1 0, q0 .dup 2, q3 (.getfield 56) 5 4 9 3, none, none, qy (.ldc2_w 256) 8 10, none, none, q0 .ladd 9, q3 (.putfield 56) 12 4 9 3, none, none, q1 (.aload_n 0) 13 0, q1 (.iload_n 1) 14 1, q3 (.invokevirtual 235) 17 76 2 4, none],
  [none, q1 (.aload_n 0) 18 0, q3 (.getfield 26) 21 4 2 2, none, none, q3 (.getfield 89) 24 2 1 2, none, none, q1 (.iload_n 1) 25 1, q0 .iaload 26, q0 .iadd 27, q0 .ireturn 28]]
def tX4_asPoet : List (List (Option zR)) := [[q1 (.aload_n 0) 1 0, q0 .dup 2, q3 (.getfield 56) 5 4 9 3, none, none, qy (.ldc2_w 258) 8 100, none, none, q0 .ladd 9, q3 (.putfield 56) 12 4 9 3, none, none, q1 (.aload_n 0) 13 0, q1 (.iload_n 1) 14 1, q3 (.invokevirtual 235) 17 76 2 4, none],
  [none, q1 (.aload_n 0) 18 0, q1 (.iload_n 1) 19 1, q3 (.invokevirtual 102) 22 65 2 4, none, none, q0 .isub 23, q0 .ireturn 24]]
def tX4_asHorse : List (List (Option zR)) := [[q1 (.aload_n 0) 1 0, q0 .dup 2, q3 (.getfield 56) 5 4 9 3, none, none, qy (.ldc2_w 260) 8 1000, none, none, q0 .ladd 9, q3 (.putfield 56) 12 4 9 3, none, none, qx (.iconst 2) 13 2, q1 (.aload_n 0) 14 0, q1 (.iload_n 1) 15 1, q3 (.invokevirtual 220) 18 77 2 4],
  [none, none, q0 .imul 19, q0 .ireturn 20]]
def tX4_asSaint : List (List (Option zR)) := [[q1 (.aload_n 0) 1 0, q0 .dup 2, q3 (.getfield 56) 5 4 9 3, none, none, qy (.ldc2_w 262) 8 10000, none, none, q0 .ladd 9, q3 (.putfield 56) 12 4 9 3, none, none, q1 (.aload_n 0) 13 0, q1 (.iload_n 1) 14 1, q3 (.invokevirtual 223) 17 78 2 4, none],
  [none, q1 (.iload_n 1) 18 1, q0 .iadd 19, q0 .ireturn 20]]
end
section
def tX4_asGirl : List (List (Option zR)) := [[q1 (.aload_n 0) 1 0, q0 .dup 2, q3 (.getfield 56) 5 4 9 3, none, none, qy (.ldc2_w 264) 8 100000, none, none, q0 .ladd 9, q3 (.putfield 56) 12 4 9 3, none, none, q1 (.aload_n 0) 13 0, q1 (.iload_n 1) 14 1, q3 (.invokevirtual 235) 17 76 2 4, none],
  [none, q1 (.aload_n 0) 18 0, q1 (.iload_n 1) 19 1, q3 (.invokevirtual 98) 22 63 2 4, none, none, q3 (.invokestatic 150) 25 150 1 6, none, none, q0 .iadd 26, q0 .ireturn 27]]
def tX4_has : List (List (Option zR)) := [[q1 (.iload_n 0) 1 0, q1 (.iload_n 1) 2 1, q0 .ishr 3, qx (.iconst 1) 4 1, q0 .iand 5, qx (.iconst 1) 6 1, q1 (.if_icmp .ne 7) 9 13, none, none, qx (.iconst 1) 10 1, q1 (.goto 4) 13 14, none, none, qx (.iconst 0) 14 0, q0 .ireturn 15]]
def tX4_isWithin : List (List (Option zR)) := [[q1 (.iload_n 0) 1 0, q1 (.iload_n 1) 2 1, qx (.iconst (-1)) 3 (-1), q0 .ixor 4, q0 .iand 5, q1 (.ifCond .ne 7) 8 12, none, none, qx (.iconst 1) 9 1, q1 (.goto 4) 12 13, none, none, qx (.iconst 0) 13 0, q0 .ireturn 14]]
def tX4_isSide : List (List (Option zR)) := [[q1 (.iload_n 0) 1 0, q1 (.ifCond .eq 8) 4 9, none, none, q1 (.iload_n 0) 5 0, qx (.iconst 1) 6 1, q1 (.if_icmp .ne 7) 9 13, none, none, qx (.iconst 1) 10 1, q1 (.goto 4) 13 14, none, none, qx (.iconst 0) 14 0, q0 .ireturn 15]]
def tX4_stepTo : List (List (Option zR)) := [[q1 (.iload_n 0) 1 0, qx (.iconst 1) 2 1, q1 (.if_icmp .ne 7) 5 9, none, none, qx (.iconst 1) 6 1, q1 (.goto 4) 9 10, none, none, qx (.iconst (-1)) 10 (-1), q0 .ireturn 11]]
def tX4_isImage : List (List (Option zR)) := [[q1 (.iload_n 0) 1 0, q1 (.ifCond .lt 12) 4 13, none, none, q1 (.iload_n 0) 5 0, qx (.iconst 2) 6 2, q1 (.if_icmp .ge 7) 9 13, none, none, qx (.iconst 1) 10 1, q1 (.goto 4) 13 14, none, none, qx (.iconst 0) 14 0, q0 .ireturn 15]]
def tX4_ordersOf : List (List (Option zR)) := [[q1 (.iload_n 0) 1 0, q3 (.invokestatic 150) 4 150 1 6, none, none, q1 (.istore_n 1) 5 1, q1 (.iload_n 1) 6 1, q0 (.getstatic 266) 9, none, none, q0 .arraylength 10, q1 (.if_icmp .ge 11) 13 21, none, none, q0 (.getstatic 266) 16, none, none],
  [q1 (.iload_n 1) 17 1, q0 .iaload 18, q1 (.goto 4) 21 22, none, none, qx (.iconst 0) 22 0, q0 .ireturn 23]]
def tX4_power : List (List (Option zR)) := [[qx (.iconst 1) 1 1, q1 (.istore_n 2) 2 2, qx (.iconst 0) 3 0, q1 (.istore_n 3) 4 3, q1 (.iload_n 3) 5 3, q1 (.iload_n 1) 6 1, q1 (.if_icmp .ge 13) 9 19, none, none, q1 (.iload_n 2) 10 2, q1 (.iload_n 0) 11 0, q0 .imul 12, q1 (.istore_n 2) 13 2, qi (.iinc 3 1) 16 3 1, none, none],
  [q1 (.goto (-12)) 19 4, none, none, q1 (.iload_n 2) 20 2, q0 .ireturn 21]]
def tX4_commonDivisor : List (List (Option zR)) := [[q1 (.iload_n 0) 1 0, q1 (.istore_n 2) 2 2, q1 (.iload_n 1) 3 1, q1 (.istore_n 3) 4 3, qx (.iconst 0) 5 0, q1 (.istore 4) 7 4, none, q1 (.iload 4) 9 4, none, qx (.bipush 100) 11 100, none, q1 (.if_icmp .ge 23) 14 34, none, none, q1 (.iload_n 3) 15 3, q1 (.ifCond .le 19) 18 34],
  [none, none, q1 (.iload_n 2) 19 2, q1 (.iload_n 3) 20 3, q0 .irem 21, q1 (.istore 5) 23 5, none, q1 (.iload_n 3) 24 3, q1 (.istore_n 2) 25 2, q1 (.iload 5) 27 5, none, q1 (.istore_n 3) 28 3, qi (.iinc 4 1) 31 4 1, none, none, q1 (.goto (-24)) 34 7],
  [none, none, q1 (.iload_n 2) 35 2, q0 .ireturn 36]]
def tX5_init : List (List (Option zR)) := [[q1 (.aload_n 0) 1 0, q3 (.invokespecial 1) 4 0 1 0, none, none, q1 (.aload_n 0) 5 0, qx (.bipush 40) 7 40, none, q3 (.newarray .int) 9 0 40 1, none, q3 (.putfield 7) 12 5 0 2, none, none, q1 (.aload_n 0) 13 0, qx (.bipush 40) 15 40, none, q3 (.newarray .int) 17 0 40 1],
  [none, q3 (.putfield 13) 20 5 1 2, none, none, q1 (.aload_n 0) 21 0, qx (.bipush 19) 23 19, none, q3 (.newarray .int) 25 0 19 1, none, q3 (.putfield 16) 28 5 2 2, none, none, q1 (.aload_n 0) 29 0, qx (.bipush 19) 31 19, none, q3 (.newarray .int) 33 0 19 1],
  [none, q3 (.putfield 19) 36 5 3 2, none, none, q1 (.aload_n 0) 37 0, qx (.sipush 190) 40 190, none, none, q3 (.newarray .int) 42 0 190 1, none, q3 (.putfield 22) 45 5 4 2, none, none, q1 (.aload_n 0) 46 0, qx (.bipush 38) 48 38, none],
  [q3 (.newarray .int) 50 0 38 1, none, q3 (.putfield 25) 53 5 6 2, none, none, q1 (.aload_n 0) 54 0, qx (.sipush 150) 57 150, none, none, q3 (.newarray .int) 59 0 150 1, none, q3 (.putfield 28) 62 5 9 2, none, none, q1 (.aload_n 0) 63 0, qx (.bipush 6) 65 6],
  [none, q3 (.newarray .int) 67 0 6 1, none, q3 (.putfield 31) 70 5 11 2, none, none, q1 (.aload_n 0) 71 0, qx (.bipush 6) 73 6, none, q3 (.newarray .int) 75 0 6 1, none, q3 (.putfield 34) 78 5 12 2, none, none, q1 (.aload_n 0) 79 0, q3 (.getfield 7) 82 5 0 2],
  [none, none, qx (.iconst 0) 83 0, qx (.bipush 6) 85 6, none, q0 .iastore 86, q1 (.aload_n 0) 87 0, q3 (.getfield 7) 90 5 0 2, none, none, qx (.iconst 3) 91 3, qx (.iconst 1) 92 1, q0 .iastore 93, q0 .return_ 94]]
def tX5_in : List (List (Option zR)) := [[q1 (.lload_n 0) 1 0, q1 (.lload_n 2) 2 2, q0 .lcmp 3, q1 (.ifCond .lt 14) 6 17, none, none, q1 (.lload_n 0) 7 0, q1 (.lload 4) 9 4, none, q0 .lcmp 10, q1 (.ifCond .gt 7) 13 17, none, none, qx (.iconst 1) 14 1, q1 (.goto 4) 17 18, none],
  [none, qx (.iconst 0) 18 0, q0 .ireturn 19]]
def tX5_has : List (List (Option zR)) := [[q1 (.iload_n 0) 1 0, q1 (.iload_n 1) 2 1, q0 .ishr 3, qx (.iconst 1) 4 1, q0 .iand 5, qx (.iconst 1) 6 1, q1 (.if_icmp .ne 7) 9 13, none, none, qx (.iconst 1) 10 1, q1 (.goto 4) 13 14, none, none, qx (.iconst 0) 14 0, q0 .ireturn 15]]
def tX5_ones : List (List (Option zR)) := [[qx (.iconst 0) 1 0, q1 (.istore_n 1) 2 1, q1 (.iload_n 0) 3 0, q1 (.istore_n 2) 4 2, q1 (.iload_n 2) 5 2, q1 (.ifCond .eq 15) 8 20, none, none, qi (.iinc 1 1) 11 1 1, none, none, q1 (.iload_n 2) 12 2, q1 (.iload_n 2) 13 2, qx (.iconst 1) 14 1, q0 .isub 15, q0 .iand 16],
  [q1 (.istore_n 2) 17 2, q1 (.goto (-13)) 20 4, none, none, q1 (.iload_n 1) 21 1, q0 .ireturn 22]]
def tX5_type : List (List (Option zR)) := [[q1 (.iload_n 1) 1 1, q0 .i2l 2, qy (.lconst 0) 3 0, qy (.ldc2_w 37) 6 255, none, none, q3 (.invokestatic 39) 9 91 3 5, none, none, q1 (.ifCond .ne 5) 12 14, none, none, qx (.iconst (-1)) 13 (-1), q0 .ireturn 14, q1 (.aload_n 0) 15 0, q3 (.getfield 43) 18 5 8 0],
  [none, none, qx (.sipush 150) 21 150, none, none, q1 (.if_icmp .ne 6) 24 27, none, none, qx (.bipush (-3)) 26 (-3), none, q0 .ireturn 27, q1 (.aload_n 0) 28 0, q3 (.getfield 28) 31 5 9 2, none, none, q1 (.aload_n 0) 32 0],
  [q3 (.getfield 43) 35 5 8 0, none, none, q1 (.iload_n 1) 36 1, q0 .iastore 37, q1 (.aload_n 0) 38 0, q0 .dup 39, q3 (.getfield 43) 42 5 8 0, none, none, qx (.iconst 1) 43 1, q0 .iadd 44, q3 (.putfield 43) 47 5 8 0, none, none, q1 (.aload_n 0) 48 0],
  [q3 (.getfield 43) 51 5 8 0, none, none, q0 .ireturn 52]]
def tX5_clear : List (List (Option zR)) := [[q1 (.aload_n 0) 1 0, q3 (.getfield 43) 4 5 8 0, none, none, q1 (.istore_n 1) 5 1, q1 (.aload_n 0) 6 0, qx (.iconst 0) 7 0, q3 (.putfield 43) 10 5 8 0, none, none, q1 (.iload_n 1) 11 1, q0 .ireturn 12]]
def tX5_isFigure : List (List (Option zR)) := [[q1 (.iload_n 0) 1 0, q0 .i2l 2, qy (.ldc2_w 47) 5 48, none, none, qy (.ldc2_w 49) 8 57, none, none, q3 (.invokestatic 39) 11 91 3 5, none, none, q0 .ireturn 12]]
def tX5_isLetter : List (List (Option zR)) := [[q1 (.iload_n 0) 1 0, q0 .i2l 2, qy (.ldc2_w 51) 5 97, none, none, qy (.ldc2_w 53) 8 122, none, none, q3 (.invokestatic 39) 11 91 3 5, none, none, q0 .ireturn 12]]
def tX5_next : List (List (Option zR)) := [[q1 (.aload_n 0) 1 0, q3 (.getfield 55) 4 5 14 0, none, none, q1 (.aload_n 0) 5 0, q3 (.getfield 43) 8 5 8 0, none, none, q1 (.if_icmp .ge 30) 11 38, none, none, q1 (.aload_n 0) 12 0, q3 (.getfield 28) 15 5 9 2, none, none, q1 (.aload_n 0) 16 0],
  [q3 (.getfield 55) 19 5 14 0, none, none, q0 .iaload 20, qx (.bipush 32) 22 32, none, q1 (.if_icmp .ne 16) 25 38, none, none, q1 (.aload_n 0) 26 0, q0 .dup 27, q3 (.getfield 55) 30 5 14 0, none, none, qx (.iconst 1) 31 1, q0 .iadd 32],
  [q3 (.putfield 55) 35 5 14 0, none, none, q1 (.goto (-35)) 38 0, none, none, q1 (.aload_n 0) 39 0, q1 (.aload_n 0) 40 0, q3 (.getfield 55) 43 5 14 0, none, none, q3 (.putfield 58) 46 5 15 0, none, none, q1 (.aload_n 0) 47 0, qx (.iconst 0) 48 0],
  [q3 (.putfield 61) 51 5 17 0, none, none, q1 (.aload_n 0) 52 0, qx (.iconst 0) 53 0, q3 (.putfield 64) 56 5 16 0, none, none, q1 (.aload_n 0) 57 0, q3 (.getfield 55) 60 5 14 0, none, none, q1 (.aload_n 0) 61 0, q3 (.getfield 43) 64 5 8 0, none, none],
  [q1 (.if_icmp .ne 4) 67 68, none, none, q0 .return_ 68, q1 (.aload_n 0) 69 0, q3 (.getfield 28) 72 5 9 2, none, none, q1 (.aload_n 0) 73 0, q3 (.getfield 55) 76 5 14 0, none, none, q0 .iaload 77, q1 (.istore_n 1) 78 1, q1 (.iload_n 1) 79 1, q3 (.invokestatic 67) 82 97 1 5],
  [none, none, q1 (.ifCond .eq 63) 85 145, none, none, q1 (.aload_n 0) 86 0, q3 (.getfield 55) 89 5 14 0, none, none, q1 (.aload_n 0) 90 0, q3 (.getfield 43) 93 5 8 0, none, none, q1 (.if_icmp .ge 31) 96 124, none, none],
  [q1 (.aload_n 0) 97 0, q3 (.getfield 28) 100 5 9 2, none, none, q1 (.aload_n 0) 101 0, q3 (.getfield 55) 104 5 14 0, none, none, q0 .iaload 105, q3 (.invokestatic 67) 108 97 1 5, none, none, q1 (.ifCond .eq 16) 111 124, none, none, q1 (.aload_n 0) 112 0],
  [q0 .dup 113, q3 (.getfield 55) 116 5 14 0, none, none, qx (.iconst 1) 117 1, q0 .iadd 118, q3 (.putfield 55) 121 5 14 0, none, none, q1 (.goto (-36)) 124 85, none, none, q1 (.aload_n 0) 125 0, qx (.iconst 1) 126 1, q3 (.putfield 64) 129 5 16 0, none],
  [none, q1 (.aload_n 0) 130 0, q1 (.aload_n 0) 131 0, q3 (.getfield 55) 134 5 14 0, none, none, q1 (.aload_n 0) 135 0, q3 (.getfield 58) 138 5 15 0, none, none, q0 .isub 139, q3 (.putfield 61) 142 5 17 0, none, none, q1 (.goto 172) 145 314, none],
  [none, q1 (.iload_n 1) 146 1, q3 (.invokestatic 71) 149 96 1 5, none, none, q1 (.ifCond .eq 140) 152 289, none, none, q1 (.aload_n 0) 153 0, q3 (.getfield 55) 156 5 14 0, none, none, q1 (.aload_n 0) 157 0, q3 (.getfield 43) 160 5 8 0, none, none],
  [q1 (.if_icmp .ge 75) 163 235, none, none, q1 (.aload_n 0) 164 0, q3 (.getfield 28) 167 5 9 2, none, none, q1 (.aload_n 0) 168 0, q3 (.getfield 55) 171 5 14 0, none, none, q0 .iaload 172, q3 (.invokestatic 71) 175 96 1 5, none, none, q1 (.ifCond .eq 60) 178 235],
  [none, none, q1 (.aload_n 0) 179 0, q1 (.aload_n 0) 180 0, q3 (.getfield 55) 183 5 14 0, none, none, q1 (.aload_n 0) 184 0, q3 (.getfield 58) 187 5 15 0, none, none, q0 .isub 188, qx (.iconst 2) 189 2, q1 (.if_icmp .ge 26) 192 215, none, none],
  [qx (.bipush 10) 194 10, none, q1 (.aload_n 0) 195 0, q3 (.getfield 61) 198 5 17 0, none, none, q0 .imul 199, q1 (.aload_n 0) 200 0, q3 (.getfield 28) 203 5 9 2, none, none, q1 (.aload_n 0) 204 0, q3 (.getfield 55) 207 5 14 0, none, none, q0 .iaload 208],
  [q0 .iadd 209, qx (.bipush 48) 211 48, none, q0 .isub 212, q1 (.goto 7) 215 219, none, none, q1 (.aload_n 0) 216 0, q3 (.getfield 61) 219 5 17 0, none, none, q3 (.putfield 61) 222 5 17 0, none, none, q1 (.aload_n 0) 223 0, q0 .dup 224],
  [q3 (.getfield 55) 227 5 14 0, none, none, qx (.iconst 1) 228 1, q0 .iadd 229, q3 (.putfield 55) 232 5 14 0, none, none, q1 (.goto (-80)) 235 152, none, none, q1 (.aload_n 0) 236 0, q3 (.getfield 55) 239 5 14 0, none, none, q1 (.aload_n 0) 240 0],
  [q3 (.getfield 58) 243 5 15 0, none, none, q0 .isub 244, qx (.iconst 3) 245 3, q1 (.if_icmp .ge 26) 248 271, none, none, q1 (.iload_n 1) 249 1, qx (.bipush 48) 251 48, none, q1 (.if_icmp .ne 16) 254 267, none, none, q1 (.aload_n 0) 255 0, q3 (.getfield 55) 258 5 14 0],
  [none, none, q1 (.aload_n 0) 259 0, q3 (.getfield 58) 262 5 15 0, none, none, q0 .isub 263, qx (.iconst 1) 264 1, q1 (.if_icmp .ne 7) 267 271, none, none, qx (.iconst 1) 268 1, q1 (.goto 4) 271 272, none, none, qx (.iconst 0) 272 0],
  [q1 (.istore_n 2) 273 2, q1 (.aload_n 0) 274 0, q1 (.iload_n 2) 275 2, q1 (.ifCond .eq 7) 278 282, none, none, qx (.iconst 2) 279 2, q1 (.goto 4) 282 283, none, none, qx (.iconst (-1)) 283 (-1), q3 (.putfield 64) 286 5 16 0, none, none, q1 (.goto 28) 289 314, none],
  [none, q1 (.aload_n 0) 290 0, q0 .dup 291, q3 (.getfield 55) 294 5 14 0, none, none, qx (.iconst 1) 295 1, q0 .iadd 296, q3 (.putfield 55) 299 5 14 0, none, none, q1 (.aload_n 0) 300 0, q1 (.iload_n 1) 301 1, qx (.bipush 59) 303 59, none, q1 (.if_icmp .ne 7) 306 310],
  [none, none, qx (.iconst 3) 307 3, q1 (.goto 4) 310 311, none, none, qx (.iconst (-1)) 311 (-1), q3 (.putfield 64) 314 5 16 0, none, none, q0 .return_ 315]]
def tX5_isNumber : List (List (Option zR)) := [[q1 (.aload_n 0) 1 0, q3 (.invokevirtual 74) 4 98 1 5, none, none, q1 (.aload_n 0) 5 0, q3 (.getfield 64) 8 5 16 0, none, none, qx (.iconst 2) 9 2, q1 (.if_icmp .ne 22) 12 31, none, none, q1 (.aload_n 0) 13 0, q3 (.getfield 61) 16 5 17 0, none, none],
  [q0 .i2l 17, q1 (.iload_n 1) 18 1, q0 .i2l 19, q1 (.iload_n 2) 20 2, q0 .i2l 21, q3 (.invokestatic 39) 24 91 3 5, none, none, q1 (.ifCond .eq 7) 27 31, none, none, qx (.iconst 1) 28 1, q1 (.goto 4) 31 32, none, none, qx (.iconst 0) 32 0],
  [q0 .ireturn 33]]
def tX5_isEnd : List (List (Option zR)) := [[q1 (.aload_n 0) 1 0, q3 (.invokevirtual 74) 4 98 1 5, none, none, q1 (.aload_n 0) 5 0, q3 (.getfield 64) 8 5 16 0, none, none, qx (.iconst 3) 9 3, q1 (.if_icmp .ne 7) 12 16, none, none, qx (.iconst 1) 13 1, q1 (.goto 4) 16 17, none, none],
  [qx (.iconst 0) 17 0, q0 .ireturn 18]]
def tX5_isInsults : List (List (Option zR)) := [[q1 (.aload_n 0) 1 0, q3 (.invokevirtual 74) 4 98 1 5, none, none, q1 (.aload_n 0) 5 0, q3 (.getfield 64) 8 5 16 0, none, none, qx (.iconst 1) 9 1, q1 (.if_icmp .ne 11) 12 20, none, none, q1 (.aload_n 0) 13 0, q3 (.getfield 61) 16 5 17 0, none, none],
  [q1 (.iload_n 1) 17 1, q1 (.if_icmp .le 5) 20 22, none, none, qx (.iconst 0) 21 0, q0 .ireturn 22, qx (.iconst 0) 23 0, q1 (.istore_n 2) 24 2, q1 (.aload_n 0) 25 0, q3 (.getfield 58) 28 5 15 0, none, none, q1 (.istore_n 3) 29 3, q1 (.iload_n 3) 30 3, q1 (.aload_n 0) 31 0, q3 (.getfield 55) 34 5 14 0],
  [none, none, q1 (.if_icmp .ge 36) 37 70, none, none, q1 (.aload_n 0) 38 0, q3 (.getfield 28) 41 5 9 2, none, none, q1 (.iload_n 3) 42 3, q0 .iaload 43, qx (.bipush 102) 45 102, none, q1 (.if_icmp .le 5) 48 50, none, none],
  [qx (.iconst 0) 49 0, q0 .ireturn 50, q1 (.iload_n 2) 51 2, qx (.iconst 1) 52 1, q1 (.aload_n 0) 53 0, q3 (.getfield 28) 56 5 9 2, none, none, q1 (.iload_n 3) 57 3, q0 .iaload 58, qx (.bipush 97) 60 97, none, q0 .isub 61, q0 .ishl 62, q0 .ior 63, q1 (.istore_n 2) 64 2],
  [qi (.iinc 3 1) 67 3 1, none, none, q1 (.goto (-38)) 70 29, none, none, q1 (.aload_n 0) 71 0, q1 (.iload_n 2) 72 2, q3 (.putfield 61) 75 5 17 0, none, none, qx (.iconst 1) 76 1, q0 .ireturn 77]]
def tX5_isEmptyYard : List (List (Option zR)) := [[qx (.iconst 1) 1 1, q1 (.istore_n 2) 2 2, qx (.iconst 0) 3 0, q1 (.istore_n 3) 4 3, q1 (.iload_n 3) 5 3, q1 (.aload_n 0) 6 0, q3 (.getfield 13) 9 5 1 2, none, none, qx (.iconst 1) 10 1, q0 .iaload 11, q1 (.if_icmp .ge 29) 14 40, none, none, q1 (.iload_n 2) 15 2, q1 (.ifCond .eq 17) 18 32],
  [none, none, q1 (.aload_n 0) 19 0, q3 (.getfield 16) 22 5 2 2, none, none, q1 (.iload_n 3) 23 3, q0 .iaload 24, q1 (.iload_n 1) 25 1, q1 (.if_icmp .eq 7) 28 32, none, none, qx (.iconst 1) 29 1, q1 (.goto 4) 32 33, none, none],
  [qx (.iconst 0) 33 0, q1 (.istore_n 2) 34 2, qi (.iinc 3 1) 37 3 1, none, none, q1 (.goto (-33)) 40 4, none, none, q1 (.iload_n 2) 41 2, q0 .ireturn 42]]
def tX5_statueItem : List (List (Option zR)) := [[q1 (.aload_n 0) 1 0, q3 (.getfield 13) 4 5 1 2, none, none, qx (.iconst 1) 5 1, q0 .iaload 6, q1 (.istore_n 1) 7 1, q1 (.iload_n 1) 8 1, qx (.bipush 6) 10 6, none, q1 (.if_icmp .eq 30) 13 40, none, none, q1 (.aload_n 0) 14 0, qx (.iconst 0) 15 0, q1 (.aload_n 0) 16 0],
  [q3 (.getfield 13) 19 5 1 2, none, none, qx (.iconst 0) 20 0, q0 .iaload 21, qx (.iconst 1) 22 1, q0 .isub 23, q3 (.invokevirtual 77) 26 99 3 5, none, none, q1 (.ifCond .eq 14) 29 40, none, none, q1 (.aload_n 0) 30 0, q1 (.aload_n 0) 31 0, q3 (.getfield 61) 34 5 17 0],
  [none, none, q3 (.invokevirtual 81) 37 102 2 5, none, none, q1 (.ifCond .ne 5) 40 42, none, none, qx (.iconst 0) 41 0, q0 .ireturn 42, q1 (.aload_n 0) 43 0, q3 (.getfield 16) 46 5 2 2, none, none, q1 (.iload_n 1) 47 1, q1 (.aload_n 0) 48 0],
  [q3 (.getfield 61) 51 5 17 0, none, none, q0 .iastore 52, q1 (.aload_n 0) 53 0, qx (.iconst 1) 54 1, qx (.bipush 30) 56 30, none, q3 (.invokevirtual 77) 59 99 3 5, none, none, q1 (.ifCond .ne 5) 62 64, none, none, qx (.iconst 0) 63 0, q0 .ireturn 64],
  [q1 (.aload_n 0) 65 0, q3 (.getfield 13) 68 5 1 2, none, none, qx (.iconst 4) 69 4, q1 (.iload_n 1) 70 1, q0 .iadd 71, q1 (.aload_n 0) 72 0, q3 (.getfield 61) 75 5 17 0, none, none, q0 .iastore 76, q1 (.aload_n 0) 77 0, qx (.iconst 1) 78 1, q3 (.invokevirtual 84) 81 101 2 5, none],
  [none, q1 (.ifCond .ne 5) 84 86, none, none, qx (.iconst 0) 85 0, q0 .ireturn 86, qx (.iconst 0) 87 0, q1 (.istore_n 2) 88 2, q1 (.aload_n 0) 89 0, q3 (.getfield 61) 92 5 17 0, none, none, q1 (.iload_n 2) 93 2, q3 (.invokestatic 87) 96 92 2 5, none, none],
  [q1 (.ifCond .ne 9) 99 105, none, none, qi (.iinc 2 1) 102 2 1, none, none, q1 (.goto (-14)) 105 88, none, none, q1 (.aload_n 0) 106 0, q3 (.getfield 13) 109 5 1 2, none, none, qx (.bipush 10) 111 10, none, q1 (.iload_n 1) 112 1],
  [q0 .iadd 113, q1 (.iload_n 2) 114 2, q0 .iastore 115, q1 (.aload_n 0) 116 0, q3 (.getfield 13) 119 5 1 2, none, none, qx (.iconst 1) 120 1, q0 .dup2 121, q0 .iaload 122, qx (.iconst 1) 123 1, q0 .iadd 124, q0 .iastore 125, q1 (.aload_n 0) 126 0, q3 (.invokevirtual 90) 129 100 1 5, none],
  [none, q0 .ireturn 130]]
def tX5_personItem : List (List (Option zR)) := [[q1 (.aload_n 0) 1 0, q3 (.getfield 13) 4 5 1 2, none, none, qx (.iconst 2) 5 2, q0 .iaload 6, q1 (.istore_n 1) 7 1, q1 (.iload_n 1) 8 1, qx (.bipush 6) 10 6, none, q1 (.if_icmp .eq 19) 13 29, none, none, q1 (.aload_n 0) 14 0, qx (.iconst 0) 15 0, q1 (.aload_n 0) 16 0],
  [q3 (.getfield 13) 19 5 1 2, none, none, qx (.iconst 0) 20 0, q0 .iaload 21, qx (.iconst 1) 22 1, q0 .isub 23, q3 (.invokevirtual 77) 26 99 3 5, none, none, q1 (.ifCond .ne 5) 29 31, none, none, qx (.iconst 0) 30 0, q0 .ireturn 31, q1 (.aload_n 0) 32 0],
  [q3 (.getfield 13) 35 5 1 2, none, none, qx (.bipush 16) 37 16, none, q1 (.iload_n 1) 38 1, q0 .iadd 39, q1 (.aload_n 0) 40 0, q3 (.getfield 61) 43 5 17 0, none, none, q0 .iastore 44, q1 (.aload_n 0) 45 0, qx (.iconst 1) 46 1, qx (.bipush 9) 48 9, none],
  [q3 (.invokevirtual 77) 51 99 3 5, none, none, q1 (.ifCond .ne 5) 54 56, none, none, qx (.iconst 0) 55 0, q0 .ireturn 56, q1 (.aload_n 0) 57 0, q3 (.getfield 13) 60 5 1 2, none, none, qx (.bipush 22) 62 22, none, q1 (.iload_n 1) 63 1, q0 .iadd 64],
  [q1 (.aload_n 0) 65 0, q3 (.getfield 61) 68 5 17 0, none, none, q0 .iastore 69, q1 (.aload_n 0) 70 0, qx (.iconst 0) 71 0, qx (.iconst 3) 72 3, q3 (.invokevirtual 77) 75 99 3 5, none, none, q1 (.ifCond .ne 5) 78 80, none, none, qx (.iconst 0) 79 0, q0 .ireturn 80],
  [q1 (.aload_n 0) 81 0, q3 (.getfield 13) 84 5 1 2, none, none, qx (.bipush 28) 86 28, none, q1 (.iload_n 1) 87 1, q0 .iadd 88, q1 (.aload_n 0) 89 0, q3 (.getfield 61) 92 5 17 0, none, none, q0 .iastore 93, q1 (.aload_n 0) 94 0, qx (.bipush 6) 96 6, none],
  [q3 (.invokevirtual 84) 99 101 2 5, none, none, q1 (.ifCond .ne 5) 102 104, none, none, qx (.iconst 0) 103 0, q0 .ireturn 104, q1 (.aload_n 0) 105 0, q3 (.getfield 13) 108 5 1 2, none, none, qx (.bipush 34) 110 34, none, q1 (.iload_n 1) 111 1, q0 .iadd 112],
  [q1 (.aload_n 0) 113 0, q3 (.getfield 61) 116 5 17 0, none, none, q0 .iastore 117, q1 (.aload_n 0) 118 0, q3 (.getfield 13) 121 5 1 2, none, none, qx (.iconst 2) 122 2, q0 .dup2 123, q0 .iaload 124, qx (.iconst 1) 125 1, q0 .iadd 126, q0 .iastore 127, q1 (.aload_n 0) 128 0],
  [q3 (.invokevirtual 90) 131 100 1 5, none, none, q0 .ireturn 132]]
def tX5_item : List (List (Option zR)) := [[q1 (.aload_n 0) 1 0, q3 (.getfield 64) 4 5 16 0, none, none, qx (.iconst 1) 5 1, q1 (.if_icmp .ne 23) 8 28, none, none, q1 (.aload_n 0) 9 0, q3 (.getfield 61) 12 5 17 0, none, none, qx (.iconst 1) 13 1, q1 (.if_icmp .ne 15) 16 28, none, none],
  [q1 (.aload_n 0) 17 0, q3 (.getfield 28) 20 5 9 2, none, none, q1 (.aload_n 0) 21 0, q3 (.getfield 58) 24 5 15 0, none, none, q0 .iaload 25, q1 (.goto 4) 28 29, none, none, qx (.iconst 0) 29 0, q1 (.istore_n 3) 30 3, q1 (.iload_n 3) 31 3, qx (.bipush 110) 33 110],
  [none, q1 (.if_icmp .ne 44) 36 77, none, none, q1 (.iload_n 1) 37 1, q1 (.ifCond .eq 40) 40 77, none, none, q1 (.aload_n 0) 41 0, qx (.iconst 2) 42 2, qx (.bipush 10) 44 10, none, q3 (.invokevirtual 77) 47 99 3 5, none, none, q1 (.istore 4) 49 4],
  [none, q1 (.aload_n 0) 50 0, q3 (.getfield 13) 53 5 1 2, none, none, qx (.iconst 0) 54 0, q1 (.aload_n 0) 55 0, q3 (.getfield 61) 58 5 17 0, none, none, q0 .iastore 59, q1 (.iload 4) 61 4, none, q1 (.ifCond .eq 14) 64 75, none, none],
  [q1 (.aload_n 0) 65 0, q3 (.invokevirtual 90) 68 100 1 5, none, none, q1 (.ifCond .eq 7) 71 75, none, none, qx (.iconst 1) 72 1, q1 (.goto 4) 75 76, none, none, qx (.iconst 0) 76 0, q0 .ireturn 77, q1 (.iload_n 3) 78 3, qx (.bipush 116) 80 116, none],
  [q1 (.if_icmp .ne 8) 83 88, none, none, q1 (.aload_n 0) 84 0, q3 (.invokevirtual 94) 87 103 1 5, none, none, q0 .ireturn 88, q1 (.iload_n 3) 89 3, qx (.bipush 112) 91 112, none, q1 (.if_icmp .ne 8) 94 99, none, none, q1 (.aload_n 0) 95 0, q3 (.invokevirtual 97) 98 104 1 5],
  [none, none, q0 .ireturn 99, q1 (.iload_n 3) 100 3, qx (.bipush 118) 102 118, none, q1 (.if_icmp .ne 16) 105 118, none, none, q1 (.iload_n 2) 106 2, q1 (.ifCond .ne 12) 109 118, none, none, q1 (.aload_n 0) 110 0, qx (.iconst 0) 111 0, qx (.iconst 3) 112 3],
  [q3 (.invokevirtual 77) 115 99 3 5, none, none, q1 (.ifCond .ne 5) 118 120, none, none, qx (.iconst 0) 119 0, q0 .ireturn 120, q1 (.aload_n 0) 121 0, q3 (.getfield 13) 124 5 1 2, none, none, qx (.iconst 3) 125 3, q1 (.aload_n 0) 126 0, q3 (.getfield 61) 129 5 17 0, none],
  [none, q0 .iastore 130, q1 (.aload_n 0) 131 0, q3 (.invokevirtual 90) 134 100 1 5, none, none, q0 .ireturn 135]]
def tX5_readAll : List (List (Option zR)) := [[qx (.iconst 0) 1 0, q1 (.istore_n 1) 2 1, q1 (.iload_n 1) 3 1, qx (.bipush 40) 5 40, none, q1 (.if_icmp .ge 34) 8 39, none, none, q1 (.aload_n 0) 9 0, q3 (.getfield 13) 12 5 1 2, none, none, q1 (.iload_n 1) 13 1, q1 (.iload_n 1) 14 1, q1 (.ifCond .ne 8) 17 22, none],
  [none, qx (.bipush 6) 19 6, none, q1 (.goto 13) 22 32, none, none, q1 (.iload_n 1) 23 1, qx (.iconst 3) 24 3, q1 (.if_icmp .ne 7) 27 31, none, none, qx (.iconst 1) 28 1, q1 (.goto 4) 31 32, none, none, qx (.iconst 0) 32 0],
  [q0 .iastore 33, qi (.iinc 1 1) 36 1 1, none, none, q1 (.goto (-34)) 39 2, none, none, qx (.iconst 0) 40 0, q1 (.istore_n 1) 41 1, q1 (.iload_n 1) 42 1, qx (.bipush 19) 44 19, none, q1 (.if_icmp .ge 16) 47 60, none, none, q1 (.aload_n 0) 48 0],
  [q3 (.getfield 16) 51 5 2 2, none, none, q1 (.iload_n 1) 52 1, qx (.iconst 0) 53 0, q0 .iastore 54, qi (.iinc 1 1) 57 1 1, none, none, q1 (.goto (-16)) 60 41, none, none, q1 (.aload_n 0) 61 0, qx (.iconst 0) 62 0, q3 (.putfield 55) 65 5 14 0, none],
  [none, qx (.iconst 0) 66 0, q1 (.istore_n 1) 67 1, qx (.iconst 0) 68 0, q1 (.istore_n 2) 69 2, q1 (.aload_n 0) 70 0, q3 (.invokevirtual 74) 73 98 1 5, none, none, q1 (.aload_n 0) 74 0, q3 (.getfield 64) 77 5 16 0, none, none, q1 (.ifCond .eq 88) 80 165, none, none],
  [q1 (.aload_n 0) 81 0, q3 (.getfield 64) 84 5 16 0, none, none, qx (.iconst 1) 85 1, q1 (.if_icmp .ne 29) 88 114, none, none, q1 (.aload_n 0) 89 0, q3 (.getfield 61) 92 5 17 0, none, none, qx (.iconst 1) 93 1, q1 (.if_icmp .ne 21) 96 114, none, none],
  [q1 (.aload_n 0) 97 0, q3 (.getfield 28) 100 5 9 2, none, none, q1 (.aload_n 0) 101 0, q3 (.getfield 58) 104 5 15 0, none, none, q0 .iaload 105, qx (.bipush 118) 107 118, none, q1 (.if_icmp .ne 7) 110 114, none, none, qx (.iconst 1) 111 1, q1 (.goto 4) 114 115],
  [none, none, qx (.iconst 0) 115 0, q1 (.istore_n 3) 116 3, q1 (.aload_n 0) 117 0, q1 (.iload_n 1) 118 1, q1 (.ifCond .ne 7) 121 125, none, none, qx (.iconst 1) 122 1, q1 (.goto 4) 125 126, none, none, qx (.iconst 0) 126 0, q1 (.iload_n 2) 127 2, q3 (.invokevirtual 100) 130 105 3 5],
  [none, none, q1 (.ifCond .ne 11) 133 141, none, none, qx (.bipush (-10)) 135 (-10), none, q1 (.aload_n 0) 136 0, q3 (.getfield 58) 139 5 15 0, none, none, q0 .isub 140, q0 .ireturn 141, q1 (.iload_n 2) 142 2, q1 (.ifCond .ne 7) 145 149, none],
  [none, q1 (.iload_n 3) 146 3, q1 (.ifCond .eq 7) 149 153, none, none, qx (.iconst 1) 150 1, q1 (.goto 4) 153 154, none, none, qx (.iconst 0) 154 0, q1 (.istore_n 2) 155 2, qi (.iinc 1 1) 158 1 1, none, none, q1 (.aload_n 0) 159 0, q3 (.invokevirtual 74) 162 98 1 5],
  [none, none, q1 (.goto (-89)) 165 73, none, none, q1 (.iload_n 1) 166 1, q0 .ireturn 167]]
def tX5_town : List (List (Option zR)) := [[q1 (.aload_n 0) 1 0, q3 (.invokevirtual 104) 4 106 1 5, none, none, q1 (.istore_n 1) 5 1, q1 (.iload_n 1) 6 1, q1 (.ifCond .ge 5) 9 11, none, none, q1 (.iload_n 1) 10 1, q0 .ireturn 11, qx (.iconst 0) 12 0, q1 (.istore_n 2) 13 2, q1 (.iload_n 2) 14 2, qx (.bipush 40) 16 40, none],
  [q1 (.if_icmp .ge 21) 19 37, none, none, q1 (.aload_n 0) 20 0, q3 (.getfield 7) 23 5 0 2, none, none, q1 (.iload_n 2) 24 2, q1 (.aload_n 0) 25 0, q3 (.getfield 13) 28 5 1 2, none, none, q1 (.iload_n 2) 29 2, q0 .iaload 30, q0 .iastore 31, qi (.iinc 2 1) 34 2 1],
  [none, none, q1 (.goto (-21)) 37 13, none, none, qx (.iconst 0) 38 0, q1 (.istore_n 2) 39 2, q1 (.iload_n 2) 40 2, qx (.bipush 19) 42 19, none, q1 (.if_icmp .ge 21) 45 63, none, none, q1 (.aload_n 0) 46 0, q3 (.getfield 19) 49 5 3 2, none],
  [none, q1 (.iload_n 2) 50 2, q1 (.aload_n 0) 51 0, q3 (.getfield 16) 54 5 2 2, none, none, q1 (.iload_n 2) 55 2, q0 .iaload 56, q0 .iastore 57, qi (.iinc 2 1) 60 2 1, none, none, q1 (.goto (-21)) 63 39, none, none, q1 (.aload_n 0) 64 0],
  [qx (.iconst 0) 65 0, q3 (.putfield 43) 68 5 8 0, none, none, q1 (.aload_n 0) 69 0, qx (.iconst 0) 70 0, q3 (.putfield 108) 73 5 5 0, none, none, q1 (.aload_n 0) 74 0, qx (.iconst 0) 75 0, q3 (.putfield 111) 78 5 7 0, none, none, q1 (.aload_n 0) 79 0, qx (.iconst 0) 80 0],
  [q3 (.putfield 114) 83 5 10 0, none, none, q1 (.iload_n 1) 84 1, q0 .ireturn 85]]
def tX5_isStatue : List (List (Option zR)) := [[q1 (.iload_n 1) 1 1, q0 .i2l 2, qy (.lconst 0) 3 0, q1 (.aload_n 0) 4 0, q3 (.getfield 7) 7 5 0 2, none, none, qx (.iconst 1) 8 1, q0 .iaload 9, qx (.iconst 1) 10 1, q0 .isub 11, q0 .i2l 12, q3 (.invokestatic 39) 15 91 3 5, none, none, q0 .ireturn 16]]
def tX5_isOne : List (List (Option zR)) := [[q1 (.iload_n 1) 1 1, q0 .i2l 2, qy (.lconst 0) 3 0, q1 (.aload_n 0) 4 0, q3 (.getfield 7) 7 5 0 2, none, none, qx (.iconst 2) 8 2, q0 .iaload 9, qx (.iconst 1) 10 1, q0 .isub 11, q0 .i2l 12, q3 (.invokestatic 39) 15 91 3 5, none, none, q0 .ireturn 16]]
def tX5_isYard : List (List (Option zR)) := [[q1 (.iload_n 1) 1 1, q0 .i2l 2, qy (.lconst 0) 3 0, q1 (.aload_n 0) 4 0, q3 (.getfield 7) 7 5 0 2, none, none, qx (.iconst 0) 8 0, q0 .iaload 9, qx (.iconst 1) 10 1, q0 .isub 11, q0 .i2l 12, q3 (.invokestatic 39) 15 91 3 5, none, none, q0 .ireturn 16]]
def tX5_isWronged : List (List (Option zR)) := [[q1 (.aload_n 0) 1 0, q3 (.getfield 7) 4 5 0 2, none, none, qx (.bipush 34) 6 34, none, q1 (.iload_n 1) 7 1, q0 .iadd 8, q0 .iaload 9, q1 (.aload_n 0) 10 0, q3 (.getfield 7) 13 5 0 2, none, none, qx (.bipush 10) 15 10, none, q1 (.iload_n 2) 16 2],
  [q0 .iadd 17, q0 .iaload 18, q3 (.invokestatic 87) 21 92 2 5, none, none, q1 (.ifCond .ne 19) 24 40, none, none, q1 (.aload_n 0) 25 0, q3 (.getfield 19) 28 5 3 2, none, none, qx (.bipush 13) 30 13, none, q1 (.iload_n 1) 31 1, q0 .iadd 32],
  [q0 .iaload 33, q1 (.iload_n 2) 34 2, q3 (.invokestatic 87) 37 92 2 5, none, none, q1 (.ifCond .eq 7) 40 44, none, none, qx (.iconst 1) 41 1, q1 (.goto 4) 44 45, none, none, qx (.iconst 0) 45 0, q0 .ireturn 46]]
def tX5_wronged : List (List (Option zR)) := [[qx (.iconst 0) 1 0, q1 (.istore_n 2) 2 2, qx (.iconst 0) 3 0, q1 (.istore_n 3) 4 3, q1 (.iload_n 3) 5 3, q1 (.aload_n 0) 6 0, q3 (.getfield 7) 9 5 0 2, none, none, qx (.iconst 2) 10 2, q0 .iaload 11, q1 (.if_icmp .ge 28) 14 39, none, none, q1 (.iload_n 2) 15 2, q1 (.aload_n 0) 16 0],
  [q1 (.iload_n 3) 17 3, q1 (.iload_n 1) 18 1, q3 (.invokevirtual 117) 21 111 3 5, none, none, q1 (.ifCond .eq 9) 24 30, none, none, qx (.iconst 1) 25 1, q1 (.iload_n 3) 26 3, q0 .ishl 27, q1 (.goto 4) 30 31, none, none, qx (.iconst 0) 31 0, q0 .ior 32],
  [q1 (.istore_n 2) 33 2, qi (.iinc 3 1) 36 3 1, none, none, q1 (.goto (-32)) 39 4, none, none, q1 (.iload_n 2) 40 2, q0 .ireturn 41]]
def tX5_strength : List (List (Option zR)) := [[qx (.iconst 0) 1 0, q1 (.istore_n 2) 2 2, qx (.iconst 0) 3 0, q1 (.istore_n 3) 4 3, q1 (.iload_n 3) 5 3, q1 (.aload_n 0) 6 0, q3 (.getfield 7) 9 5 0 2, none, none, qx (.iconst 2) 10 2, q0 .iaload 11, q1 (.if_icmp .ge 33) 14 44, none, none, q1 (.iload_n 2) 15 2, q1 (.iload_n 1) 16 1],
  [q1 (.iload_n 3) 17 3, q3 (.invokestatic 87) 20 92 2 5, none, none, q1 (.ifCond .eq 15) 23 35, none, none, q1 (.aload_n 0) 24 0, q3 (.getfield 7) 27 5 0 2, none, none, qx (.bipush 22) 29 22, none, q1 (.iload_n 3) 30 3, q0 .iadd 31, q0 .iaload 32],
  [q1 (.goto 4) 35 36, none, none, qx (.iconst 0) 36 0, q0 .iadd 37, q1 (.istore_n 2) 38 2, qi (.iinc 3 1) 41 3 1, none, none, q1 (.goto (-37)) 44 4, none, none, q1 (.iload_n 2) 45 2, q0 .ireturn 46]]
def tX5_pull : List (List (Option zR)) := [[q1 (.aload_n 0) 1 0, q1 (.aload_n 0) 2 0, q1 (.iload_n 1) 3 1, q3 (.invokevirtual 120) 6 112 2 5, none, none, q1 (.aload_n 0) 7 0, q3 (.getfield 19) 10 5 3 2, none, none, qx (.bipush 6) 12 6, none, q0 .iaload 13, q0 .iand 14, q3 (.invokevirtual 124) 17 113 2 5, none],
  [none, q0 .ireturn 18]]
def tX5_moves : List (List (Option zR)) := [[q1 (.aload_n 0) 1 0, q1 (.iload_n 1) 2 1, q3 (.invokevirtual 127) 5 114 2 5, none, none, q1 (.aload_n 0) 6 0, q3 (.getfield 7) 9 5 0 2, none, none, qx (.iconst 4) 10 4, q1 (.iload_n 1) 11 1, q0 .iadd 12, q0 .iaload 13, q1 (.if_icmp .lt 7) 16 20, none, none],
  [qx (.iconst 1) 17 1, q1 (.goto 4) 20 21, none, none, qx (.iconst 0) 21 0, q0 .ireturn 22]]
def tX5_statueIn : List (List (Option zR)) := [[qx (.bipush (-9)) 2 (-9), none, q1 (.istore_n 2) 3 2, qx (.iconst 0) 4 0, q1 (.istore_n 3) 5 3, q1 (.iload_n 3) 6 3, q1 (.aload_n 0) 7 0, q3 (.getfield 7) 10 5 0 2, none, none, qx (.iconst 1) 11 1, q0 .iaload 12, q1 (.if_icmp .ge 25) 15 37, none, none, q1 (.aload_n 0) 16 0],
  [q3 (.getfield 19) 19 5 3 2, none, none, q1 (.iload_n 3) 20 3, q0 .iaload 21, q1 (.iload_n 1) 22 1, q1 (.if_icmp .ne 7) 25 29, none, none, q1 (.iload_n 3) 26 3, q1 (.goto 4) 29 30, none, none, q1 (.iload_n 2) 30 2, q1 (.istore_n 2) 31 2, qi (.iinc 3 1) 34 3 1],
  [none, none, q1 (.goto (-29)) 37 5, none, none, q1 (.iload_n 2) 38 2, q0 .ireturn 39]]
def tX5_offended : List (List (Option zR)) := [[qx (.iconst 0) 1 0, q1 (.istore_n 3) 2 3, q1 (.aload_n 0) 3 0, q1 (.iload_n 1) 4 1, q3 (.invokevirtual 120) 7 112 2 5, none, none, q1 (.istore 4) 9 4, none, qx (.iconst 0) 10 0, q1 (.istore 5) 12 5, none, q1 (.iload 5) 14 5, none, q1 (.aload_n 0) 15 0, q3 (.getfield 7) 18 5 0 2],
  [none, none, qx (.iconst 2) 19 2, q0 .iaload 20, q1 (.if_icmp .ge 64) 23 84, none, none, q1 (.aload_n 0) 24 0, q3 (.getfield 7) 27 5 0 2, none, none, qx (.bipush 16) 29 16, none, q1 (.iload 5) 31 5, none, q0 .iadd 32],
  [q0 .iaload 33, q1 (.iload_n 2) 34 2, q0 .isub 35, q1 (.istore 6) 37 6, none, q1 (.iload_n 3) 38 3, q1 (.iload 4) 40 4, none, q1 (.iload 5) 42 5, none, q3 (.invokestatic 87) 45 92 2 5, none, none, q1 (.ifCond .eq 30) 48 75, none, none],
  [q1 (.iload 6) 50 6, none, q1 (.aload_n 0) 51 0, q3 (.getfield 7) 54 5 0 2, none, none, qx (.iconst 3) 55 3, q0 .iaload 56, q1 (.if_icmp .gt 19) 59 75, none, none, q1 (.iload 6) 61 6, none, q0 .ineg 62, q1 (.aload_n 0) 63 0, q3 (.getfield 7) 66 5 0 2],
  [none, none, qx (.iconst 3) 67 3, q0 .iaload 68, q1 (.if_icmp .gt 7) 71 75, none, none, qx (.iconst 1) 72 1, q1 (.goto 4) 75 76, none, none, qx (.iconst 0) 76 0, q0 .iadd 77, q1 (.istore_n 3) 78 3, qi (.iinc 5 1) 81 5 1, none],
  [none, q1 (.goto (-69)) 84 12, none, none, q1 (.iload_n 3) 85 3, q0 .ireturn 86]]
def tX5_placeOf : List (List (Option zR)) := [[qx (.bipush (-9)) 2 (-9), none, q1 (.istore_n 2) 3 2, q1 (.aload_n 0) 4 0, q3 (.getfield 7) 7 5 0 2, none, none, qx (.iconst 0) 8 0, q0 .iaload 9, qx (.iconst 1) 10 1, q0 .isub 11, q1 (.istore_n 3) 12 3, q1 (.iload_n 3) 13 3, q1 (.ifCond .lt 68) 16 81, none, none],
  [q1 (.aload_n 0) 17 0, q1 (.iload_n 3) 18 3, q3 (.invokevirtual 130) 21 116 2 5, none, none, qx (.bipush (-9)) 23 (-9), none, q1 (.if_icmp .eq 13) 26 36, none, none, q1 (.aload_n 0) 27 0, q3 (.getfield 19) 30 5 3 2, none, none, q1 (.iload_n 1) 31 1, q0 .iaload 32],
  [q1 (.iload_n 3) 33 3, q1 (.if_icmp .ne 7) 36 40, none, none, qx (.iconst 1) 37 1, q1 (.goto 4) 40 41, none, none, qx (.iconst 0) 41 0, q1 (.istore 4) 43 4, none, q1 (.iload 4) 45 4, none, q1 (.ifCond .eq 28) 48 73, none, none],
  [q1 (.iload_n 2) 49 2, qx (.bipush (-9)) 51 (-9), none, q1 (.if_icmp .eq 18) 54 69, none, none, q1 (.aload_n 0) 55 0, q1 (.iload_n 1) 56 1, q1 (.iload_n 3) 57 3, q3 (.invokevirtual 133) 60 117 3 5, none, none, q1 (.aload_n 0) 61 0, q1 (.iload_n 1) 62 1, q1 (.iload_n 2) 63 2, q3 (.invokevirtual 133) 66 117 3 5],
  [none, none, q1 (.if_icmp .gt 7) 69 73, none, none, q1 (.iload_n 3) 70 3, q1 (.goto 4) 73 74, none, none, q1 (.iload_n 2) 74 2, q1 (.istore_n 2) 75 2, qi (.iinc 3 (-1)) 78 3 (-1), none, none, q1 (.goto (-66)) 81 12, none],
  [none, q1 (.iload_n 2) 82 2, q0 .ireturn 83]]
def tX5_statue : List (List (Option zR)) := [[q1 (.aload_n 0) 1 0, q1 (.iload_n 1) 2 1, q3 (.invokevirtual 137) 5 108 2 5, none, none, q1 (.ifCond .ne 5) 8 10, none, none, qx (.iconst (-1)) 9 (-1), q0 .ireturn 10, q1 (.iload_n 2) 11 2, qs (.tableswitch 97 0 6 #[41, 48, 57, 67, 73, 79, 91]) 52 108 [(0, 52), (1, 59), (2, 68), (3, 78), (4, 84), (5, 90), (6, 102)], none, none, none, none],
  [none, none, none, none, none, none, none, none, none, none, none, none, none, none, none, none],
  [none, none, none, none, none, none, none, none, none, none, none, none, none, none, none, none],
  [none, none, none, none, q1 (.aload_n 0) 53 0, q3 (.getfield 19) 56 5 3 2, none, none, q1 (.iload_n 1) 57 1, q0 .iaload 58, q0 .ireturn 59, q1 (.aload_n 0) 60 0, q3 (.getfield 7) 63 5 0 2, none, none, qx (.iconst 4) 64 4],
  [q1 (.iload_n 1) 65 1, q0 .iadd 66, q0 .iaload 67, q0 .ireturn 68, q1 (.aload_n 0) 69 0, q3 (.getfield 7) 72 5 0 2, none, none, qx (.bipush 10) 74 10, none, q1 (.iload_n 1) 75 1, q0 .iadd 76, q0 .iaload 77, q0 .ireturn 78, q1 (.aload_n 0) 79 0, q1 (.iload_n 1) 80 1],
  [q3 (.invokevirtual 120) 83 112 2 5, none, none, q0 .ireturn 84, q1 (.aload_n 0) 85 0, q1 (.iload_n 1) 86 1, q3 (.invokevirtual 127) 89 114 2 5, none, none, q0 .ireturn 90, q1 (.aload_n 0) 91 0, q1 (.iload_n 1) 92 1, q1 (.aload_n 0) 93 0, q3 (.getfield 19) 96 5 3 2, none, none],
  [q1 (.iload_n 1) 97 1, q0 .iaload 98, q3 (.invokevirtual 133) 101 117 3 5, none, none, q0 .ireturn 102, q1 (.aload_n 0) 103 0, q1 (.iload_n 1) 104 1, q3 (.invokevirtual 140) 107 118 2 5, none, none, q0 .ireturn 108, qx (.iconst (-1)) 109 (-1), q0 .ireturn 110]]
def tX5_one : List (List (Option zR)) := [[q1 (.aload_n 0) 1 0, q1 (.iload_n 1) 2 1, q3 (.invokevirtual 143) 5 109 2 5, none, none, q1 (.ifCond .ne 5) 8 10, none, none, qx (.iconst (-1)) 9 (-1), q0 .ireturn 10, q1 (.iload_n 2) 11 2, qs (.tableswitch 99 0 5 #[37, 47, 57, 67, 77, 89]) 48 110 [(0, 48), (1, 58), (2, 68), (3, 78), (4, 88), (5, 100)], none, none, none, none],
  [none, none, none, none, none, none, none, none, none, none, none, none, none, none, none, none],
  [none, none, none, none, none, none, none, none, none, none, none, none, none, none, none, none],
  [q1 (.aload_n 0) 49 0, q3 (.getfield 7) 52 5 0 2, none, none, qx (.bipush 16) 54 16, none, q1 (.iload_n 1) 55 1, q0 .iadd 56, q0 .iaload 57, q0 .ireturn 58, q1 (.aload_n 0) 59 0, q3 (.getfield 7) 62 5 0 2, none, none, qx (.bipush 22) 64 22, none],
  [q1 (.iload_n 1) 65 1, q0 .iadd 66, q0 .iaload 67, q0 .ireturn 68, q1 (.aload_n 0) 69 0, q3 (.getfield 7) 72 5 0 2, none, none, qx (.bipush 28) 74 28, none, q1 (.iload_n 1) 75 1, q0 .iadd 76, q0 .iaload 77, q0 .ireturn 78, q1 (.aload_n 0) 79 0, q3 (.getfield 7) 82 5 0 2],
  [none, none, qx (.bipush 34) 84 34, none, q1 (.iload_n 1) 85 1, q0 .iadd 86, q0 .iaload 87, q0 .ireturn 88, q1 (.aload_n 0) 89 0, q3 (.getfield 19) 92 5 3 2, none, none, qx (.bipush 6) 94 6, none, q0 .iaload 95, q1 (.iload_n 1) 96 1],
  [q0 .ishr 97, qx (.iconst 1) 98 1, q0 .iand 99, q0 .ireturn 100, q1 (.aload_n 0) 101 0, q3 (.getfield 19) 104 5 3 2, none, none, qx (.bipush 7) 106 7, none, q1 (.iload_n 1) 107 1, q0 .iadd 108, q0 .iaload 109, q0 .ireturn 110, qx (.iconst (-1)) 111 (-1), q0 .ireturn 112]]
end
section
def tX5_now : List (List (Option zR)) := [[qx (.iconst 0) 1 0, q1 (.istore_n 2) 2 2, q1 (.iload_n 1) 3 1, qs (.tableswitch 120 0 3 #[29, 37, 75, 115]) 32 123 [(0, 32), (1, 40), (2, 78), (3, 118)], none, none, none, none, none, none, none, none, none, none, none, none],
  [none, none, none, none, none, none, none, none, none, none, none, none, none, none, none, none],
  [q1 (.aload_n 0) 33 0, q3 (.getfield 19) 36 5 3 2, none, none, qx (.bipush 6) 38 6, none, q0 .iaload 39, q0 .ireturn 40, qx (.iconst 0) 41 0, q1 (.istore_n 3) 42 3, q1 (.iload_n 3) 43 3, q1 (.aload_n 0) 44 0, q3 (.getfield 7) 47 5 0 2, none, none, qx (.iconst 1) 48 1],
  [q0 .iaload 49, q1 (.if_icmp .ge 27) 52 76, none, none, q1 (.iload_n 2) 53 2, q1 (.aload_n 0) 54 0, q1 (.iload_n 3) 55 3, q3 (.invokevirtual 146) 58 115 2 5, none, none, q1 (.ifCond .eq 9) 61 67, none, none, qx (.iconst 1) 62 1, q1 (.iload_n 3) 63 3, q0 .ishl 64],
  [q1 (.goto 4) 67 68, none, none, qx (.iconst 0) 68 0, q0 .ior 69, q1 (.istore_n 2) 70 2, qi (.iinc 3 1) 73 3 1, none, none, q1 (.goto (-31)) 76 42, none, none, q1 (.iload_n 2) 77 2, q0 .ireturn 78, qx (.iconst 0) 79 0, q1 (.istore_n 3) 80 3],
  [q1 (.iload_n 3) 81 3, q1 (.aload_n 0) 82 0, q3 (.getfield 7) 85 5 0 2, none, none, qx (.iconst 0) 86 0, q0 .iaload 87, q1 (.if_icmp .ge 29) 90 116, none, none, q1 (.iload_n 2) 91 2, q1 (.aload_n 0) 92 0, q1 (.iload_n 3) 93 3, q3 (.invokevirtual 130) 96 116 2 5, none, none],
  [qx (.bipush (-9)) 98 (-9), none, q1 (.if_icmp .ne 9) 101 107, none, none, qx (.iconst 1) 102 1, q1 (.iload_n 3) 103 3, q0 .ishl 104, q1 (.goto 4) 107 108, none, none, qx (.iconst 0) 108 0, q0 .ior 109, q1 (.istore_n 2) 110 2, qi (.iinc 3 1) 113 3 1, none],
  [none, q1 (.goto (-33)) 116 80, none, none, q1 (.iload_n 2) 117 2, q0 .ireturn 118, q1 (.aload_n 0) 119 0, q3 (.getfield 108) 122 5 5 0, none, none, q0 .ireturn 123, qx (.iconst (-1)) 124 (-1), q0 .ireturn 125]]
def tX5_note : List (List (Option zR)) := [[q1 (.aload_n 0) 1 0, q3 (.getfield 108) 4 5 5 0, none, none, qx (.bipush 10) 6 10, none, q1 (.if_icmp .ne 43) 9 49, none, none, qx (.iconst 0) 10 0, q1 (.istore_n 1) 11 1, q1 (.iload_n 1) 12 1, qx (.sipush 171) 15 171, none, none, q1 (.if_icmp .ge 24) 18 39],
  [none, none, q1 (.aload_n 0) 19 0, q3 (.getfield 22) 22 5 4 2, none, none, q1 (.iload_n 1) 23 1, q1 (.aload_n 0) 24 0, q3 (.getfield 22) 27 5 4 2, none, none, qx (.bipush 19) 29 19, none, q1 (.iload_n 1) 30 1, q0 .iadd 31, q0 .iaload 32],
  [q0 .iastore 33, qi (.iinc 1 1) 36 1 1, none, none, q1 (.goto (-25)) 39 11, none, none, q1 (.aload_n 0) 40 0, q0 .dup 41, q3 (.getfield 108) 44 5 5 0, none, none, qx (.iconst 1) 45 1, q0 .isub 46, q3 (.putfield 108) 49 5 5 0, none],
  [none, qx (.iconst 0) 50 0, q1 (.istore_n 1) 51 1, q1 (.iload_n 1) 52 1, qx (.bipush 19) 54 19, none, q1 (.if_icmp .ge 29) 57 83, none, none, q1 (.aload_n 0) 58 0, q3 (.getfield 22) 61 5 4 2, none, none, qx (.bipush 19) 63 19, none, q1 (.aload_n 0) 64 0],
  [q3 (.getfield 108) 67 5 5 0, none, none, q0 .imul 68, q1 (.iload_n 1) 69 1, q0 .iadd 70, q1 (.aload_n 0) 71 0, q3 (.getfield 19) 74 5 3 2, none, none, q1 (.iload_n 1) 75 1, q0 .iaload 76, q0 .iastore 77, qi (.iinc 1 1) 80 1 1, none, none],
  [q1 (.goto (-29)) 83 51, none, none, q1 (.aload_n 0) 84 0, q0 .dup 85, q3 (.getfield 108) 88 5 5 0, none, none, qx (.iconst 1) 89 1, q0 .iadd 90, q3 (.putfield 108) 93 5 5 0, none, none, q0 .return_ 94]]
def tX5_comes : List (List (Option zR)) := [[q1 (.aload_n 0) 1 0, q1 (.iload_n 1) 2 1, q3 (.invokevirtual 143) 5 109 2 5, none, none, q1 (.ifCond .ne 5) 8 10, none, none, qx (.iconst (-1)) 9 (-1), q0 .ireturn 10, q1 (.aload_n 0) 11 0, q3 (.getfield 19) 14 5 3 2, none, none, qx (.bipush 6) 16 6, none],
  [q0 .iaload 17, q1 (.iload_n 1) 18 1, q3 (.invokestatic 87) 21 92 2 5, none, none, q1 (.ifCond .eq 6) 24 27, none, none, qx (.bipush (-2)) 26 (-2), none, q0 .ireturn 27, q1 (.aload_n 0) 28 0, q3 (.invokevirtual 149) 31 122 1 5, none, none, q1 (.aload_n 0) 32 0],
  [q3 (.getfield 19) 35 5 3 2, none, none, qx (.bipush 6) 37 6, none, q0 .dup2 38, q0 .iaload 39, qx (.iconst 1) 40 1, q1 (.iload_n 1) 41 1, q0 .ishl 42, q0 .ior 43, q0 .iastore 44, q1 (.aload_n 0) 45 0, q3 (.getfield 19) 48 5 3 2, none, none],
  [qx (.bipush 6) 50 6, none, q0 .iaload 51, q3 (.invokestatic 152) 54 93 1 5, none, none, q0 .ireturn 55]]
def tX5_goes : List (List (Option zR)) := [[q1 (.aload_n 0) 1 0, q1 (.iload_n 1) 2 1, q3 (.invokevirtual 143) 5 109 2 5, none, none, q1 (.ifCond .ne 5) 8 10, none, none, qx (.iconst (-1)) 9 (-1), q0 .ireturn 10, q1 (.aload_n 0) 11 0, q3 (.getfield 19) 14 5 3 2, none, none, qx (.bipush 6) 16 6, none],
  [q0 .iaload 17, q1 (.iload_n 1) 18 1, q3 (.invokestatic 87) 21 92 2 5, none, none, q1 (.ifCond .ne 6) 24 27, none, none, qx (.bipush (-2)) 26 (-2), none, q0 .ireturn 27, q1 (.aload_n 0) 28 0, q3 (.invokevirtual 149) 31 122 1 5, none, none, q1 (.aload_n 0) 32 0],
  [q3 (.getfield 19) 35 5 3 2, none, none, qx (.bipush 6) 37 6, none, q0 .dup2 38, q0 .iaload 39, qx (.iconst 1) 40 1, q1 (.iload_n 1) 41 1, q0 .ishl 42, qx (.iconst (-1)) 43 (-1), q0 .ixor 44, q0 .iand 45, q0 .iastore 46, q1 (.aload_n 0) 47 0, q3 (.getfield 19) 50 5 3 2],
  [none, none, qx (.bipush 6) 52 6, none, q0 .iaload 53, q3 (.invokestatic 152) 56 93 1 5, none, none, q0 .ireturn 57]]
def tX5_claims : List (List (Option zR)) := [[q1 (.aload_n 0) 1 0, q1 (.iload_n 1) 2 1, q3 (.invokevirtual 143) 5 109 2 5, none, none, q1 (.ifCond .eq 11) 8 16, none, none, q1 (.aload_n 0) 9 0, q1 (.iload_n 2) 10 2, q3 (.invokevirtual 137) 13 108 2 5, none, none, q1 (.ifCond .ne 5) 16 18, none, none],
  [qx (.iconst (-1)) 17 (-1), q0 .ireturn 18, q1 (.aload_n 0) 19 0, q1 (.iload_n 1) 20 1, q1 (.iload_n 2) 21 2, q3 (.invokevirtual 117) 24 111 3 5, none, none, q1 (.ifCond .eq 6) 27 30, none, none, qx (.bipush (-2)) 29 (-2), none, q0 .ireturn 30, q1 (.aload_n 0) 31 0, q3 (.getfield 19) 34 5 3 2],
  [none, none, qx (.bipush 7) 36 7, none, q1 (.iload_n 1) 37 1, q0 .iadd 38, q0 .iaload 39, q1 (.aload_n 0) 40 0, q3 (.getfield 7) 43 5 0 2, none, none, qx (.bipush 28) 45 28, none, q1 (.iload_n 1) 46 1, q0 .iadd 47, q0 .iaload 48],
  [q1 (.if_icmp .lt 6) 51 54, none, none, qx (.bipush (-3)) 53 (-3), none, q0 .ireturn 54, q1 (.aload_n 0) 55 0, q3 (.invokevirtual 149) 58 122 1 5, none, none, q1 (.aload_n 0) 59 0, q3 (.getfield 19) 62 5 3 2, none, none, qx (.bipush 7) 64 7, none],
  [q1 (.iload_n 1) 65 1, q0 .iadd 66, q0 .dup2 67, q0 .iaload 68, qx (.iconst 1) 69 1, q0 .iadd 70, q0 .iastore 71, q1 (.aload_n 0) 72 0, q3 (.getfield 19) 75 5 3 2, none, none, qx (.bipush 13) 77 13, none, q1 (.iload_n 1) 78 1, q0 .iadd 79, q0 .dup2 80],
  [q0 .iaload 81, qx (.iconst 1) 82 1, q1 (.iload_n 2) 83 2, q0 .ishl 84, q0 .ior 85, q0 .iastore 86, q1 (.aload_n 0) 87 0, q1 (.iload_n 2) 88 2, q3 (.invokevirtual 127) 91 114 2 5, none, none, q0 .ireturn 92]]
def tX5_pulls : List (List (Option zR)) := [[q1 (.aload_n 0) 1 0, q1 (.iload_n 1) 2 1, q3 (.invokevirtual 137) 5 108 2 5, none, none, q1 (.ifCond .eq 13) 8 18, none, none, q1 (.iload_n 2) 9 2, q0 .i2l 10, qy (.lconst 0) 11 0, qy (.lconst 1) 12 1, q3 (.invokestatic 39) 15 91 3 5, none, none, q1 (.ifCond .ne 5) 18 20],
  [none, none, qx (.iconst (-1)) 19 (-1), q0 .ireturn 20, q1 (.iload_n 2) 21 2, q1 (.ifCond .ne 14) 24 35, none, none, q1 (.aload_n 0) 25 0, q3 (.getfield 19) 28 5 3 2, none, none, q1 (.iload_n 1) 29 1, q0 .iaload 30, qx (.iconst 1) 31 1, q0 .isub 32],
  [q1 (.goto 11) 35 43, none, none, q1 (.aload_n 0) 36 0, q3 (.getfield 19) 39 5 3 2, none, none, q1 (.iload_n 1) 40 1, q0 .iaload 41, qx (.iconst 1) 42 1, q0 .iadd 43, q1 (.istore_n 3) 44 3, q1 (.aload_n 0) 45 0, q1 (.iload_n 1) 46 1, q3 (.invokevirtual 146) 49 115 2 5, none],
  [none, q1 (.ifCond .eq 21) 52 70, none, none, q1 (.aload_n 0) 53 0, q1 (.iload_n 3) 54 3, q3 (.invokevirtual 155) 57 110 2 5, none, none, q1 (.ifCond .eq 13) 60 70, none, none, q1 (.aload_n 0) 61 0, q1 (.iload_n 3) 62 3, q3 (.invokevirtual 130) 65 116 2 5, none],
  [none, qx (.bipush (-9)) 67 (-9), none, q1 (.if_icmp .eq 6) 70 73, none, none, qx (.bipush (-2)) 72 (-2), none, q0 .ireturn 73, q1 (.aload_n 0) 74 0, q3 (.invokevirtual 149) 77 122 1 5, none, none, q1 (.aload_n 0) 78 0, q3 (.getfield 19) 81 5 3 2, none],
  [none, q1 (.iload_n 1) 82 1, q1 (.iload_n 3) 83 3, q0 .iastore 84, q1 (.iload_n 3) 85 3, q0 .ireturn 86]]
def tX5_undo : List (List (Option zR)) := [[q1 (.aload_n 0) 1 0, q3 (.getfield 108) 4 5 5 0, none, none, q1 (.ifCond .ne 6) 7 10, none, none, qx (.bipush (-2)) 9 (-2), none, q0 .ireturn 10, q1 (.aload_n 0) 11 0, q0 .dup 12, q3 (.getfield 108) 15 5 5 0, none, none, qx (.iconst 1) 16 1],
  [q0 .isub 17, q3 (.putfield 108) 20 5 5 0, none, none, qx (.iconst 0) 21 0, q1 (.istore_n 1) 22 1, q1 (.iload_n 1) 23 1, qx (.bipush 19) 25 19, none, q1 (.if_icmp .ge 29) 28 54, none, none, q1 (.aload_n 0) 29 0, q3 (.getfield 19) 32 5 3 2, none, none],
  [q1 (.iload_n 1) 33 1, q1 (.aload_n 0) 34 0, q3 (.getfield 22) 37 5 4 2, none, none, qx (.bipush 19) 39 19, none, q1 (.aload_n 0) 40 0, q3 (.getfield 108) 43 5 5 0, none, none, q0 .imul 44, q1 (.iload_n 1) 45 1, q0 .iadd 46, q0 .iaload 47, q0 .iastore 48],
  [qi (.iinc 1 1) 51 1 1, none, none, q1 (.goto (-29)) 54 22, none, none, q1 (.aload_n 0) 55 0, q3 (.getfield 108) 58 5 5 0, none, none, q0 .ireturn 59]]
def tX5_gather : List (List (Option zR)) := [[q1 (.iload_n 1) 1 1, q0 .i2l 2, qy (.lconst 0) 3 0, qx (.iconst 1) 4 1, q1 (.aload_n 0) 5 0, q3 (.getfield 7) 8 5 0 2, none, none, qx (.iconst 1) 9 1, q0 .iaload 10, q0 .ishl 11, qx (.iconst 1) 12 1, q0 .isub 13, q0 .i2l 14, q3 (.invokestatic 39) 17 91 3 5, none],
  [none, q1 (.ifCond .ne 5) 20 22, none, none, qx (.iconst (-1)) 21 (-1), q0 .ireturn 22, qx (.bipush (-9)) 24 (-9), none, q1 (.istore_n 2) 25 2, qx (.iconst 0) 26 0, q1 (.istore_n 3) 27 3, q1 (.iload_n 3) 28 3, qx (.iconst 1) 29 1, q1 (.aload_n 0) 30 0, q3 (.getfield 7) 33 5 0 2, none],
  [none, qx (.iconst 2) 34 2, q0 .iaload 35, q0 .ishl 36, q1 (.if_icmp .ge 109) 39 145, none, none, q1 (.iload_n 2) 40 2, qx (.bipush (-9)) 42 (-9), none, q1 (.if_icmp .eq 14) 45 56, none, none, q1 (.iload_n 3) 46 3, q3 (.invokestatic 152) 49 93 1 5, none],
  [none, q1 (.iload_n 2) 50 2, q3 (.invokestatic 152) 53 93 1 5, none, none, q1 (.if_icmp .ge 7) 56 60, none, none, qx (.iconst 1) 57 1, q1 (.goto 4) 60 61, none, none, qx (.iconst 0) 61 0, q1 (.istore 4) 63 4, none, qx (.iconst 0) 64 0],
  [q1 (.istore 5) 66 5, none, q1 (.iload 5) 68 5, none, q1 (.aload_n 0) 69 0, q3 (.getfield 7) 72 5 0 2, none, none, qx (.iconst 1) 73 1, q0 .iaload 74, q1 (.if_icmp .ge 54) 77 128, none, none, q1 (.iload 4) 79 4, none, q1 (.ifCond .eq 40) 82 119],
  [none, none, q1 (.iload_n 1) 83 1, q1 (.iload 5) 85 5, none, q3 (.invokestatic 87) 88 92 2 5, none, none, q1 (.ifCond .eq 27) 91 115, none, none, q1 (.aload_n 0) 92 0, q1 (.aload_n 0) 93 0, q1 (.iload 5) 95 5, none, q3 (.invokevirtual 120) 98 112 2 5],
  [none, none, q1 (.iload_n 3) 99 3, q0 .iand 100, q3 (.invokevirtual 124) 103 113 2 5, none, none, q1 (.aload_n 0) 104 0, q3 (.getfield 7) 107 5 0 2, none, none, qx (.iconst 4) 108 4, q1 (.iload 5) 110 5, none, q0 .iadd 111, q0 .iaload 112],
  [q1 (.if_icmp .lt 7) 115 119, none, none, qx (.iconst 1) 116 1, q1 (.goto 4) 119 120, none, none, qx (.iconst 0) 120 0, q1 (.istore 4) 122 4, none, qi (.iinc 5 1) 125 5 1, none, none, q1 (.goto (-59)) 128 66, none, none],
  [q1 (.iload 4) 130 4, none, q1 (.ifCond .eq 7) 133 137, none, none, q1 (.iload_n 3) 134 3, q1 (.goto 4) 137 138, none, none, q1 (.iload_n 2) 138 2, q1 (.istore_n 2) 139 2, qi (.iinc 3 1) 142 3 1, none, none, q1 (.goto (-115)) 145 27, none],
  [none, q1 (.iload_n 2) 146 2, q0 .ireturn 147]]
def tX5_bareBy : List (List (Option zR)) := [[qx (.iconst 0) 1 0, q1 (.istore_n 3) 2 3, q1 (.iload_n 1) 3 1, q1 (.istore 4) 5 4, none, q1 (.aload_n 0) 6 0, q1 (.iload 4) 8 4, none, q3 (.invokevirtual 155) 11 110 2 5, none, none, q1 (.ifCond .eq 44) 14 55, none, none, q1 (.aload_n 0) 15 0, q1 (.iload 4) 17 4],
  [none, q3 (.invokevirtual 130) 20 116 2 5, none, none, q1 (.istore 5) 22 5, none, q1 (.iload 5) 24 5, none, qx (.bipush (-9)) 26 (-9), none, q1 (.if_icmp .ne 5) 29 31, none, none, q1 (.iload_n 3) 30 3, q0 .ireturn 31, q1 (.aload_n 0) 32 0],
  [q1 (.iload 5) 34 5, none, q3 (.invokevirtual 146) 37 115 2 5, none, none, q1 (.ifCond .ne 6) 40 43, none, none, qx (.bipush (-9)) 42 (-9), none, q0 .ireturn 43, qi (.iinc 3 1) 46 3 1, none, none, q1 (.iload 4) 48 4, none],
  [q1 (.iload_n 2) 49 2, q0 .iadd 50, q1 (.istore 4) 52 4, none, q1 (.goto (-47)) 55 5, none, none, qx (.bipush (-9)) 57 (-9), none, q0 .ireturn 58]]
def tX5_bare : List (List (Option zR)) := [[q1 (.aload_n 0) 1 0, q1 (.iload_n 1) 2 1, q3 (.invokevirtual 155) 5 110 2 5, none, none, q1 (.ifCond .eq 13) 8 18, none, none, q1 (.iload_n 2) 9 2, q0 .i2l 10, qy (.lconst 0) 11 0, qy (.lconst 1) 12 1, q3 (.invokestatic 39) 15 91 3 5, none, none, q1 (.ifCond .ne 5) 18 20],
  [none, none, qx (.iconst (-1)) 19 (-1), q0 .ireturn 20, q1 (.aload_n 0) 21 0, q1 (.iload_n 1) 22 1, qx (.iconst (-1)) 23 (-1), q3 (.invokevirtual 158) 26 129 3 5, none, none, q1 (.istore_n 3) 27 3, q1 (.aload_n 0) 28 0, q1 (.iload_n 1) 29 1, qx (.iconst 1) 30 1, q3 (.invokevirtual 158) 33 129 3 5, none],
  [none, q1 (.istore 4) 35 4, none, q1 (.iload_n 3) 36 3, qx (.bipush (-9)) 38 (-9), none, q1 (.if_icmp .eq 16) 41 54, none, none, q1 (.iload 4) 43 4, none, qx (.bipush (-9)) 45 (-9), none, q1 (.if_icmp .eq 13) 48 58, none, none],
  [q1 (.iload 4) 50 4, none, q1 (.iload_n 3) 51 3, q1 (.if_icmp .ge 7) 54 58, none, none, qx (.iconst 1) 55 1, q1 (.goto 4) 58 59, none, none, qx (.iconst 0) 59 0, q1 (.istore 5) 61 5, none, q1 (.iload 5) 63 5, none, q1 (.ifCond .eq 8) 66 71],
  [none, none, q1 (.iload 4) 68 4, none, q1 (.goto 4) 71 72, none, none, q1 (.iload_n 3) 72 3, q1 (.istore 6) 74 6, none, q1 (.iload_n 2) 75 2, q1 (.ifCond .ne 8) 78 83, none, none, q1 (.iload 6) 80 6, none],
  [q1 (.goto 30) 83 110, none, none, q1 (.iload 6) 85 6, none, qx (.bipush (-9)) 87 (-9), none, q1 (.if_icmp .eq 8) 90 95, none, none, q1 (.iload 6) 92 6, none, q1 (.ifCond .ne 8) 95 100, none, none, qx (.bipush (-9)) 97 (-9)],
  [none, q1 (.goto 13) 100 110, none, none, q1 (.iload 5) 102 5, none, q1 (.ifCond .eq 7) 105 109, none, none, qx (.iconst 1) 106 1, q1 (.goto 4) 109 110, none, none, qx (.iconst 0) 110 0, q0 .ireturn 111]]
def tX5_scale : List (List (Option zR)) := [[q1 (.aload_n 0) 1 0, q1 (.iload_n 1) 2 1, q3 (.invokevirtual 143) 5 109 2 5, none, none, q1 (.ifCond .eq 11) 8 16, none, none, q1 (.aload_n 0) 9 0, q1 (.iload_n 2) 10 2, q3 (.invokevirtual 137) 13 108 2 5, none, none, q1 (.ifCond .ne 5) 16 18, none, none],
  [qx (.iconst (-1)) 17 (-1), q0 .ireturn 18, q1 (.aload_n 0) 19 0, q1 (.iload_n 2) 20 2, q3 (.invokevirtual 120) 23 112 2 5, none, none, q1 (.aload_n 0) 24 0, q3 (.getfield 19) 27 5 3 2, none, none, qx (.bipush 6) 29 6, none, q0 .iaload 30, q0 .iand 31, q1 (.istore_n 3) 32 3],
  [q1 (.iload_n 3) 33 3, q1 (.iload_n 1) 34 1, q3 (.invokestatic 87) 37 92 2 5, none, none, q1 (.ifCond .ne 5) 40 42, none, none, qx (.iconst 0) 41 0, q0 .ireturn 42, q1 (.iload_n 3) 43 3, q3 (.invokestatic 152) 46 93 1 5, none, none, q1 (.istore 4) 48 4, none],
  [qx (.iconst 0) 49 0, q1 (.istore 5) 51 5, none, qx (.iconst 0) 52 0, q1 (.istore 6) 54 6, none, q1 (.iload 6) 56 6, none, qx (.bipush 64) 58 64, none, q1 (.if_icmp .ge 126) 61 184, none, none, q1 (.iload 6) 63 6, none, q1 (.iload_n 3) 64 3],
  [qx (.iconst (-1)) 65 (-1), q0 .ixor 66, q0 .iand 67, q1 (.ifCond .ne 16) 70 83, none, none, q1 (.iload 6) 72 6, none, q1 (.iload_n 1) 73 1, q3 (.invokestatic 87) 76 92 2 5, none, none, q1 (.ifCond .ne 7) 79 83, none, none, qx (.iconst 1) 80 1],
  [q1 (.goto 4) 83 84, none, none, qx (.iconst 0) 84 0, q1 (.istore 7) 86 7, none, q1 (.aload_n 0) 87 0, q1 (.iload 6) 89 6, none, q3 (.invokevirtual 124) 92 113 2 5, none, none, q1 (.istore 8) 94 8, none, q1 (.iload 7) 96 7, none],
  [q1 (.ifCond .eq 43) 99 139, none, none, q1 (.iload 8) 101 8, none, q1 (.aload_n 0) 102 0, q3 (.getfield 7) 105 5 0 2, none, none, qx (.iconst 4) 106 4, q1 (.iload_n 2) 107 2, q0 .iadd 108, q0 .iaload 109, q1 (.if_icmp .ge 30) 112 139, none, none],
  [q1 (.iload 8) 114 8, none, q1 (.aload_n 0) 115 0, q3 (.getfield 7) 118 5 0 2, none, none, qx (.bipush 22) 120 22, none, q1 (.iload_n 1) 121 1, q0 .iadd 122, q0 .iaload 123, q0 .iadd 124, q1 (.aload_n 0) 125 0, q3 (.getfield 7) 128 5 0 2, none, none],
  [qx (.iconst 4) 129 4, q1 (.iload_n 2) 130 2, q0 .iadd 131, q0 .iaload 132, q1 (.if_icmp .lt 7) 135 139, none, none, qx (.iconst 1) 136 1, q1 (.goto 4) 139 140, none, none, qx (.iconst 0) 140 0, q1 (.istore 9) 142 9, none, q1 (.iload 5) 144 5, none],
  [q1 (.iload 9) 146 9, none, q1 (.ifCond .eq 28) 149 174, none, none, q1 (.iload 6) 151 6, none, q3 (.invokestatic 152) 154 93 1 5, none, none, q3 (.invokestatic 161) 157 132 1 5, none, none, q1 (.iload 4) 159 4, none, qx (.iconst 1) 160 1],
  [q0 .isub 161, q1 (.iload 6) 163 6, none, q3 (.invokestatic 152) 166 93 1 5, none, none, q0 .isub 167, q3 (.invokestatic 161) 170 132 1 5, none, none, q0 .imul 171, q1 (.goto 4) 174 175, none, none, qx (.iconst 0) 175 0, q0 .iadd 176],
  [q1 (.istore 5) 178 5, none, qi (.iinc 6 1) 181 6 1, none, none, q1 (.goto (-127)) 184 54, none, none, q1 (.iload 5) 186 5, none, q0 .ireturn 187]]
def tX5_orders : List (List (Option zR)) := [[qx (.iconst 1) 1 1, q1 (.istore_n 1) 2 1, qx (.iconst 2) 3 2, q1 (.istore_n 2) 4 2, q1 (.iload_n 2) 5 2, q1 (.iload_n 0) 6 0, q1 (.if_icmp .gt 13) 9 19, none, none, q1 (.iload_n 1) 10 1, q1 (.iload_n 2) 11 2, q0 .imul 12, q1 (.istore_n 1) 13 1, qi (.iinc 2 1) 16 2 1, none, none],
  [q1 (.goto (-12)) 19 4, none, none, q1 (.iload_n 1) 20 1, q0 .ireturn 21]]
def tX5_offends : List (List (Option zR)) := [[q1 (.aload_n 0) 1 0, q1 (.iload_n 1) 2 1, q3 (.invokevirtual 137) 5 108 2 5, none, none, q1 (.ifCond .eq 20) 8 25, none, none, q1 (.aload_n 0) 9 0, q1 (.iload_n 2) 10 2, q3 (.invokevirtual 155) 13 110 2 5, none, none, q1 (.ifCond .eq 12) 16 25, none, none],
  [q1 (.aload_n 0) 17 0, q1 (.iload_n 1) 18 1, q1 (.iload_n 2) 19 2, q3 (.invokevirtual 133) 22 117 3 5, none, none, q1 (.goto 4) 25 26, none, none, qx (.iconst (-1)) 26 (-1), q0 .ireturn 27]]
def tX5_odds : List (List (Option zR)) := [[q1 (.aload_n 0) 1 0, q1 (.iload_n 1) 2 1, q3 (.invokevirtual 137) 5 108 2 5, none, none, q1 (.ifCond .eq 25) 8 30, none, none, q1 (.iload_n 2) 9 2, q0 .i2l 10, qy (.lconst 0) 11 0, qy (.ldc2_w 164) 14 10, none, none, q3 (.invokestatic 39) 17 91 3 5, none],
  [none, q1 (.ifCond .eq 13) 20 30, none, none, q1 (.iload_n 3) 21 3, q0 .i2l 22, qy (.lconst 0) 23 0, qy (.lconst 1) 24 1, q3 (.invokestatic 39) 27 91 3 5, none, none, q1 (.ifCond .ne 5) 30 32, none, none, qx (.iconst (-1)) 31 (-1), q0 .ireturn 32],
  [q1 (.aload_n 0) 33 0, q1 (.iload_n 1) 34 1, q3 (.invokevirtual 120) 37 112 2 5, none, none, q1 (.aload_n 0) 38 0, q3 (.getfield 19) 41 5 3 2, none, none, qx (.bipush 6) 43 6, none, q0 .iaload 44, q0 .iand 45, q1 (.istore 4) 47 4, none, qx (.iconst 0) 48 0],
  [q1 (.istore 5) 50 5, none, qx (.iconst 0) 51 0, q1 (.istore 6) 53 6, none, qx (.iconst 0) 54 0, q1 (.istore 7) 56 7, none, q1 (.iload 7) 58 7, none, qx (.bipush 64) 60 64, none, q1 (.if_icmp .ge 115) 63 175, none, none, q1 (.iload 7) 65 7],
  [none, q1 (.iload 4) 67 4, none, qx (.iconst (-1)) 68 (-1), q0 .ixor 69, q0 .iand 70, q1 (.ifCond .ne 99) 73 169, none, none, qx (.iconst 1) 74 1, q1 (.istore 8) 76 8, none, qx (.iconst 0) 77 0, q1 (.istore 9) 79 9, none, q1 (.iload 9) 81 9],
  [none, qx (.bipush 6) 83 6, none, q1 (.if_icmp .ge 46) 86 129, none, none, q1 (.iload 8) 88 8, none, q1 (.iload 4) 90 4, none, q1 (.iload 9) 92 9, none, q3 (.invokestatic 87) 95 92 2 5, none, none, q1 (.ifCond .ne 7) 98 102],
  [none, none, qx (.iconst 1) 99 1, q1 (.goto 21) 102 120, none, none, q1 (.iload 7) 104 7, none, q1 (.iload 9) 106 9, none, q3 (.invokestatic 87) 109 92 2 5, none, none, q1 (.ifCond .eq 7) 112 116, none, none],
  [q1 (.iload_n 2) 113 2, q1 (.goto 7) 116 120, none, none, qx (.bipush 10) 118 10, none, q1 (.iload_n 2) 119 2, q0 .isub 120, q0 .imul 121, q1 (.istore 8) 123 8, none, qi (.iinc 9 1) 126 9 1, none, none, q1 (.goto (-47)) 129 79, none],
  [none, q1 (.iload 6) 131 6, none, q1 (.iload 8) 133 8, none, q0 .iadd 134, q1 (.istore 6) 136 6, none, q1 (.iload 5) 138 5, none, q1 (.aload_n 0) 139 0, q1 (.iload 4) 141 4, none, q1 (.iload 7) 143 7, none, qx (.iconst (-1)) 144 (-1)],
  [q0 .ixor 145, q0 .iand 146, q3 (.invokevirtual 124) 149 113 2 5, none, none, q1 (.aload_n 0) 150 0, q3 (.getfield 7) 153 5 0 2, none, none, qx (.iconst 4) 154 4, q1 (.iload_n 1) 155 1, q0 .iadd 156, q0 .iaload 157, q1 (.if_icmp .lt 8) 160 165, none, none],
  [q1 (.iload 8) 162 8, none, q1 (.goto 4) 165 166, none, none, qx (.iconst 0) 166 0, q0 .iadd 167, q1 (.istore 5) 169 5, none, qi (.iinc 7 1) 172 7 1, none, none, q1 (.goto (-116)) 175 56, none, none, q1 (.iload 5) 177 5],
  [none, q1 (.istore 7) 179 7, none, q1 (.iload 6) 181 6, none, q1 (.istore 8) 183 8, none, q1 (.iload 8) 185 8, none, q1 (.ifCond .eq 21) 188 206, none, none, q1 (.iload 7) 190 7, none, q1 (.iload 8) 192 8, none],
  [q0 .irem 193, q1 (.istore 9) 195 9, none, q1 (.iload 8) 197 8, none, q1 (.istore 7) 199 7, none, q1 (.iload 9) 201 9, none, q1 (.istore 8) 203 8, none, q1 (.goto (-20)) 206 183, none, none, q1 (.iload_n 3) 207 3, q1 (.ifCond .ne 11) 210 218],
  [none, none, q1 (.iload 5) 212 5, none, q1 (.iload 7) 214 7, none, q0 .idiv 215, q1 (.goto 8) 218 223, none, none, q1 (.iload 6) 220 6, none, q1 (.iload 7) 222 7, none, q0 .idiv 223, q0 .ireturn 224]]
def tX5_sees : List (List (Option zR)) := [[q1 (.aload_n 0) 1 0, q1 (.iload_n 1) 2 1, q3 (.invokevirtual 137) 5 108 2 5, none, none, q1 (.ifCond .eq 13) 8 18, none, none, q1 (.iload_n 2) 9 2, q0 .i2l 10, qy (.lconst 0) 11 0, qy (.lconst 1) 12 1, q3 (.invokestatic 39) 15 91 3 5, none, none, q1 (.ifCond .ne 5) 18 20],
  [none, none, qx (.iconst (-1)) 19 (-1), q0 .ireturn 20, q1 (.aload_n 0) 21 0, q3 (.getfield 114) 24 5 10 0, none, none, qx (.bipush 6) 26 6, none, q1 (.if_icmp .ne 6) 29 32, none, none, qx (.bipush (-3)) 31 (-3), none, q0 .ireturn 32],
  [q1 (.aload_n 0) 33 0, q3 (.getfield 31) 36 5 11 2, none, none, q1 (.aload_n 0) 37 0, q3 (.getfield 114) 40 5 10 0, none, none, q1 (.iload_n 1) 41 1, q0 .iastore 42, q1 (.aload_n 0) 43 0, q3 (.getfield 34) 46 5 12 2, none, none, q1 (.aload_n 0) 47 0, q3 (.getfield 114) 50 5 10 0],
  [none, none, q1 (.iload_n 2) 51 2, q0 .iastore 52, q1 (.aload_n 0) 53 0, q0 .dup 54, q3 (.getfield 114) 57 5 10 0, none, none, qx (.iconst 1) 58 1, q0 .iadd 59, q3 (.putfield 114) 62 5 10 0, none, none, q1 (.aload_n 0) 63 0, q3 (.getfield 114) 66 5 10 0],
  [none, none, q0 .ireturn 67]]
def tX5_forget : List (List (Option zR)) := [[q1 (.aload_n 0) 1 0, q3 (.getfield 114) 4 5 10 0, none, none, q1 (.istore_n 1) 5 1, q1 (.aload_n 0) 6 0, qx (.iconst 0) 7 0, q3 (.putfield 114) 10 5 10 0, none, none, q1 (.iload_n 1) 11 1, q0 .ireturn 12]]
def tX5_who : List (List (Option zR)) := [[qx (.iconst 1) 1 1, q1 (.aload_n 0) 2 0, q3 (.getfield 7) 5 5 0 2, none, none, qx (.iconst 2) 6 2, q0 .iaload 7, q0 .ishl 8, qx (.iconst 1) 9 1, q0 .isub 10, q1 (.istore_n 1) 11 1, qx (.iconst 0) 12 0, q1 (.istore_n 2) 13 2, q1 (.iload_n 2) 14 2, q1 (.aload_n 0) 15 0, q3 (.getfield 114) 18 5 10 0],
  [none, none, q1 (.if_icmp .ge 40) 21 58, none, none, q1 (.aload_n 0) 22 0, q1 (.aload_n 0) 23 0, q3 (.getfield 31) 26 5 11 2, none, none, q1 (.iload_n 2) 27 2, q0 .iaload 28, q3 (.invokevirtual 120) 31 112 2 5, none, none, q1 (.istore_n 3) 32 3],
  [q1 (.iload_n 1) 33 1, q1 (.aload_n 0) 34 0, q3 (.getfield 34) 37 5 12 2, none, none, q1 (.iload_n 2) 38 2, q0 .iaload 39, qx (.iconst 1) 40 1, q1 (.if_icmp .ne 7) 43 47, none, none, q1 (.iload_n 3) 44 3, q1 (.goto 6) 47 50, none, none, q1 (.iload_n 3) 48 3],
  [qx (.iconst (-1)) 49 (-1), q0 .ixor 50, q0 .iand 51, q1 (.istore_n 1) 52 1, qi (.iinc 2 1) 55 2 1, none, none, q1 (.goto (-42)) 58 13, none, none, q1 (.iload_n 1) 59 1, q0 .ireturn 60]]
def tX5_show : List (List (Option zR)) := [[q1 (.aload_n 0) 1 0, q3 (.invokevirtual 166) 4 137 1 5, none, none, q1 (.istore_n 1) 5 1, qx (.bipush (-9)) 7 (-9), none, q1 (.istore_n 2) 8 2, qx (.bipush 7) 10 7, none, q1 (.istore_n 3) 11 3, qx (.iconst 0) 12 0, q1 (.istore 4) 14 4, none, q1 (.iload 4) 16 4, none],
  [q1 (.aload_n 0) 17 0, q3 (.getfield 7) 20 5 0 2, none, none, qx (.iconst 1) 21 1, q0 .iaload 22, q1 (.if_icmp .ge 81) 25 103, none, none, q1 (.iload_n 1) 26 1, q3 (.invokestatic 152) 29 93 1 5, none, none, qx (.iconst 1) 30 1, q1 (.if_icmp .le 73) 33 103, none],
  [none, q1 (.iload_n 1) 34 1, q1 (.aload_n 0) 35 0, q1 (.iload 4) 37 4, none, q3 (.invokevirtual 120) 40 112 2 5, none, none, q0 .iand 41, q3 (.invokestatic 152) 44 93 1 5, none, none, q1 (.istore 5) 46 5, none, q1 (.iload_n 1) 47 1, q3 (.invokestatic 152) 50 93 1 5],
  [none, none, q1 (.iload 5) 52 5, none, q0 .isub 53, q1 (.istore 6) 55 6, none, q1 (.iload 5) 57 5, none, q1 (.iload 6) 59 6, none, q1 (.if_icmp .le 8) 62 67, none, none, q1 (.iload 5) 64 5, none],
  [q1 (.goto 5) 67 69, none, none, q1 (.iload 6) 69 6, none, q1 (.istore 7) 71 7, none, q1 (.iload 7) 73 7, none, q1 (.iload_n 3) 74 3, q1 (.if_icmp .ge 8) 77 82, none, none, q1 (.iload 4) 79 4, none, q1 (.goto 4) 82 83],
  [none, none, q1 (.iload_n 2) 83 2, q1 (.istore_n 2) 84 2, q1 (.iload 7) 86 7, none, q1 (.iload_n 3) 87 3, q1 (.if_icmp .ge 8) 90 95, none, none, q1 (.iload 7) 92 7, none, q1 (.goto 4) 95 96, none, none, q1 (.iload_n 3) 96 3],
  [q1 (.istore_n 3) 97 3, qi (.iinc 4 1) 100 4 1, none, none, q1 (.goto (-86)) 103 14, none, none, q1 (.iload_n 2) 104 2, q0 .ireturn 105]]
def tX5_asStatue : List (List (Option zR)) := [[q1 (.aload_n 0) 1 0, q0 .dup 2, q3 (.getfield 169) 5 5 13 3, none, none, qy (.lconst 1) 6 1, q0 .ladd 7, q3 (.putfield 169) 10 5 13 3, none, none, q1 (.aload_n 0) 11 0, q3 (.getfield 7) 14 5 0 2, none, none, qx (.iconst 4) 15 4, q1 (.iload_n 1) 16 1],
  [q0 .iadd 17, q0 .iaload 18, q0 .ireturn 19]]
def tX5_asGeneral : List (List (Option zR)) := [[q1 (.aload_n 0) 1 0, q0 .dup 2, q3 (.getfield 169) 5 5 13 3, none, none, qy (.ldc2_w 164) 8 10, none, none, q0 .ladd 9, q3 (.putfield 169) 12 5 13 3, none, none, q1 (.aload_n 0) 13 0, q1 (.iload_n 1) 14 1, q3 (.invokevirtual 173) 17 139 2 5, none],
  [none, q1 (.aload_n 0) 18 0, q3 (.getfield 19) 21 5 3 2, none, none, q1 (.iload_n 1) 22 1, q0 .iaload 23, q0 .iadd 24, q0 .ireturn 25]]
def tX5_asPoet : List (List (Option zR)) := [[q1 (.aload_n 0) 1 0, q0 .dup 2, q3 (.getfield 169) 5 5 13 3, none, none, qy (.ldc2_w 176) 8 100, none, none, q0 .ladd 9, q3 (.putfield 169) 12 5 13 3, none, none, q1 (.aload_n 0) 13 0, q1 (.iload_n 1) 14 1, q3 (.invokevirtual 173) 17 139 2 5, none],
  [none, q1 (.aload_n 0) 18 0, q1 (.iload_n 1) 19 1, q3 (.invokevirtual 127) 22 114 2 5, none, none, q0 .isub 23, q0 .ireturn 24]]
def tX5_asHorse : List (List (Option zR)) := [[q1 (.aload_n 0) 1 0, q0 .dup 2, q3 (.getfield 169) 5 5 13 3, none, none, qy (.ldc2_w 178) 8 1000, none, none, q0 .ladd 9, q3 (.putfield 169) 12 5 13 3, none, none, qx (.iconst 2) 13 2, q1 (.aload_n 0) 14 0, q1 (.iload_n 1) 15 1, q3 (.invokevirtual 180) 18 140 2 5],
  [none, none, q0 .imul 19, q0 .ireturn 20]]
def tX5_asSaint : List (List (Option zR)) := [[q1 (.aload_n 0) 1 0, q0 .dup 2, q3 (.getfield 169) 5 5 13 3, none, none, qy (.ldc2_w 183) 8 10000, none, none, q0 .ladd 9, q3 (.putfield 169) 12 5 13 3, none, none, q1 (.aload_n 0) 13 0, q1 (.iload_n 1) 14 1, q3 (.invokevirtual 185) 17 141 2 5, none],
  [none, q1 (.iload_n 1) 18 1, q0 .iadd 19, q0 .ireturn 20]]
def tX5_asGirl : List (List (Option zR)) := [[q1 (.aload_n 0) 1 0, q0 .dup 2, q3 (.getfield 169) 5 5 13 3, none, none, qy (.ldc2_w 188) 8 100000, none, none, q0 .ladd 9, q3 (.putfield 169) 12 5 13 3, none, none, q1 (.aload_n 0) 13 0, q1 (.iload_n 1) 14 1, q3 (.invokevirtual 173) 17 139 2 5, none],
  [none, q1 (.aload_n 0) 18 0, q1 (.iload_n 1) 19 1, q3 (.invokevirtual 120) 22 112 2 5, none, none, q3 (.invokestatic 152) 25 93 1 5, none, none, q0 .iadd 26, q0 .ireturn 27]]
def tX5_rate : List (List (Option zR)) := [[q1 (.aload_n 0) 1 0, q1 (.iload_n 2) 2 2, q3 (.invokevirtual 137) 5 108 2 5, none, none, q1 (.ifCond .ne 6) 8 11, none, none, qx (.ldc 190) 10 (-1000000), none, q0 .ireturn 11, q1 (.iload_n 1) 12 1, qs (.tableswitch 76 0 5 #[40, 46, 52, 58, 64, 70]) 52 88 [(0, 52), (1, 58), (2, 64), (3, 70), (4, 76), (5, 82)], none, none, none],
  [none, none, none, none, none, none, none, none, none, none, none, none, none, none, none, none],
  [none, none, none, none, none, none, none, none, none, none, none, none, none, none, none, none],
  [none, none, none, none, q1 (.aload_n 0) 53 0, q1 (.iload_n 2) 54 2, q3 (.invokevirtual 173) 57 139 2 5, none, none, q0 .ireturn 58, q1 (.aload_n 0) 59 0, q1 (.iload_n 2) 60 2, q3 (.invokevirtual 180) 63 140 2 5, none, none, q0 .ireturn 64],
  [q1 (.aload_n 0) 65 0, q1 (.iload_n 2) 66 2, q3 (.invokevirtual 185) 69 141 2 5, none, none, q0 .ireturn 70, q1 (.aload_n 0) 71 0, q1 (.iload_n 2) 72 2, q3 (.invokevirtual 191) 75 142 2 5, none, none, q0 .ireturn 76, q1 (.aload_n 0) 77 0, q1 (.iload_n 2) 78 2, q3 (.invokevirtual 194) 81 143 2 5, none],
  [none, q0 .ireturn 82, q1 (.aload_n 0) 83 0, q1 (.iload_n 2) 84 2, q3 (.invokevirtual 197) 87 144 2 5, none, none, q0 .ireturn 88, qx (.ldc 190) 90 (-1000000), none, q0 .ireturn 91]]
def tX5_keep : List (List (Option zR)) := [[q1 (.iload_n 1) 1 1, q0 .i2l 2, qy (.lconst 0) 3 0, qy (.lconst 1) 4 1, q3 (.invokestatic 39) 7 91 3 5, none, none, q1 (.ifCond .ne 5) 10 12, none, none, qx (.iconst (-1)) 11 (-1), q0 .ireturn 12, qx (.iconst 0) 13 0, q1 (.istore_n 2) 14 2, q1 (.iload_n 2) 15 2, qx (.bipush 19) 17 19],
  [none, q1 (.if_icmp .ge 26) 20 43, none, none, q1 (.aload_n 0) 21 0, q3 (.getfield 25) 24 5 6 2, none, none, qx (.bipush 19) 26 19, none, q1 (.iload_n 1) 27 1, q0 .imul 28, q1 (.iload_n 2) 29 2, q0 .iadd 30, q1 (.aload_n 0) 31 0, q3 (.getfield 19) 34 5 3 2],
  [none, none, q1 (.iload_n 2) 35 2, q0 .iaload 36, q0 .iastore 37, qi (.iinc 2 1) 40 2 1, none, none, q1 (.goto (-26)) 43 14, none, none, q1 (.aload_n 0) 44 0, q0 .dup 45, q3 (.getfield 111) 48 5 7 0, none, none],
  [qx (.iconst 1) 49 1, q1 (.iload_n 1) 50 1, q0 .ishl 51, q0 .ior 52, q3 (.putfield 111) 55 5 7 0, none, none, q1 (.aload_n 0) 56 0, q3 (.getfield 19) 59 5 3 2, none, none, qx (.bipush 6) 61 6, none, q0 .iaload 62, q3 (.invokestatic 152) 65 93 1 5, none],
  [none, q0 .ireturn 66]]
def tX5_back : List (List (Option zR)) := [[q1 (.iload_n 1) 1 1, q0 .i2l 2, qy (.lconst 0) 3 0, qy (.lconst 1) 4 1, q3 (.invokestatic 39) 7 91 3 5, none, none, q1 (.ifCond .ne 5) 10 12, none, none, qx (.iconst (-1)) 11 (-1), q0 .ireturn 12, q1 (.aload_n 0) 13 0, q3 (.getfield 111) 16 5 7 0, none, none],
  [q1 (.iload_n 1) 17 1, q3 (.invokestatic 87) 20 92 2 5, none, none, q1 (.ifCond .ne 6) 23 26, none, none, qx (.bipush (-2)) 25 (-2), none, q0 .ireturn 26, qx (.iconst 0) 27 0, q1 (.istore_n 2) 28 2, q1 (.iload_n 2) 29 2, qx (.bipush 19) 31 19, none, q1 (.if_icmp .ge 26) 34 57],
  [none, none, q1 (.aload_n 0) 35 0, q3 (.getfield 19) 38 5 3 2, none, none, q1 (.iload_n 2) 39 2, q1 (.aload_n 0) 40 0, q3 (.getfield 25) 43 5 6 2, none, none, qx (.bipush 19) 45 19, none, q1 (.iload_n 1) 46 1, q0 .imul 47, q1 (.iload_n 2) 48 2],
  [q0 .iadd 49, q0 .iaload 50, q0 .iastore 51, qi (.iinc 2 1) 54 2 1, none, none, q1 (.goto (-26)) 57 28, none, none, q1 (.aload_n 0) 58 0, qx (.iconst 0) 59 0, q3 (.putfield 108) 62 5 5 0, none, none, q1 (.aload_n 0) 63 0, q3 (.getfield 19) 66 5 3 2],
  [none, none, qx (.bipush 6) 68 6, none, q0 .iaload 69, q3 (.invokestatic 152) 72 93 1 5, none, none, q0 .ireturn 73]]
def tX5_count : List (List (Option zR)) := [[q1 (.iload_n 1) 1 1, qs (.tableswitch 56 0 5 #[39, 39, 39, 39, 46, 51]) 40 57 [(0, 40), (1, 40), (2, 40), (3, 40), (4, 47), (5, 52)], none, none, none, none, none, none, none, none, none, none, none, none, none, none],
  [none, none, none, none, none, none, none, none, none, none, none, none, none, none, none, none],
  [none, none, none, none, none, none, none, none, q1 (.aload_n 0) 41 0, q3 (.getfield 7) 44 5 0 2, none, none, q1 (.iload_n 1) 45 1, q0 .iaload 46, q0 .ireturn 47, q1 (.aload_n 0) 48 0],
  [q3 (.getfield 114) 51 5 10 0, none, none, q0 .ireturn 52, q1 (.aload_n 0) 53 0, q3 (.getfield 43) 56 5 8 0, none, none, q0 .ireturn 57, qx (.iconst (-1)) 58 (-1), q0 .ireturn 59]]
def tX5_trace : List (List (Option zR)) := [[q1 (.aload_n 0) 1 0, q3 (.getfield 169) 4 5 13 3, none, none, q0 .lreturn 5]]
def tJ6_bitCount_0f7a4 : List (List (Option zR)) := [[q1 (.iload_n 0) 1 0, q1 (.iload_n 0) 2 0, qx (.iconst 1) 3 1, q0 .iushr 4, qx (.ldc_w 265) 7 1431655765, none, none, q0 .iand 8, q0 .isub 9, q1 (.istore_n 0) 10 0, q1 (.iload_n 0) 11 0, qx (.ldc_w 266) 14 858993459, none, none, q0 .iand 15, q1 (.iload_n 0) 16 0],
  [qx (.iconst 2) 17 2, q0 .iushr 18, qx (.ldc_w 266) 21 858993459, none, none, q0 .iand 22, q0 .iadd 23, q1 (.istore_n 0) 24 0, q1 (.iload_n 0) 25 0, q1 (.iload_n 0) 26 0, qx (.iconst 4) 27 4, q0 .iushr 28, q0 .iadd 29, qx (.ldc_w 267) 32 252645135, none, none],
  [q0 .iand 33, q1 (.istore_n 0) 34 0, q1 (.iload_n 0) 35 0, q1 (.iload_n 0) 36 0, qx (.bipush 8) 38 8, none, q0 .iushr 39, q0 .iadd 40, q1 (.istore_n 0) 41 0, q1 (.iload_n 0) 42 0, q1 (.iload_n 0) 43 0, qx (.bipush 16) 45 16, none, q0 .iushr 46, q0 .iadd 47, q1 (.istore_n 0) 48 0],
  [q1 (.iload_n 0) 49 0, qx (.bipush 63) 51 63, none, q0 .iand 52, q0 .ireturn 53]]
def tJ9_abs_0f7a4 : List (List (Option zR)) := [[q1 (.iload_n 0) 1 0, q1 (.ifCond .ge 8) 4 9, none, none, q1 (.iload_n 0) 5 0, q0 .ineg 6, q1 (.goto 4) 9 10, none, none, q1 (.iload_n 0) 10 0, q0 .ireturn 11]]
def tJ9_max_7cf53 : List (List (Option zR)) := [[q1 (.iload_n 0) 1 0, q1 (.iload_n 1) 2 1, q1 (.if_icmp .lt 7) 5 9, none, none, q1 (.iload_n 0) 6 0, q1 (.goto 4) 9 10, none, none, q1 (.iload_n 1) 10 1, q0 .ireturn 11]]
def tJ9_min_7cf53 : List (List (Option zR)) := [[q1 (.iload_n 0) 1 0, q1 (.iload_n 1) 2 1, q1 (.if_icmp .gt 7) 5 9, none, none, q1 (.iload_n 0) 6 0, q1 (.goto 4) 9 10, none, none, q1 (.iload_n 1) 10 1, q0 .ireturn 11]]
def tL_law : List (List (Option zR)) := [[q3 (.new 7) 3 4 10 0, none, none, q0 .dup 4, q3 (.invokespecial 9) 7 36 1 4, none, none, q1 (.astore_n 1) 8 1, q3 (.new 10) 11 5 18 1, none, none, q0 .dup 12, q3 (.invokespecial 12) 15 90 1 5, none, none, q1 (.astore_n 2) 16 2],
  [qx (.iconst 0) 17 0, q1 (.istore_n 3) 18 3, q1 (.iload_n 3) 19 3, q1 (.aload_n 0) 20 0, q0 .arraylength 21, qx (.iconst 4) 22 4, q0 .isub 23, q1 (.if_icmp .gt 747) 26 770, none, none, q1 (.aload_n 0) 27 0, q1 (.iload_n 3) 28 3, q0 .iaload 29, qx (.bipush 31) 31 31, none, q0 .iand 32],
  [qs (.tableswitch 732 0 24 #[116, 139, 152, 165, 198, 231, 254, 277, 300, 333, 366, 379, 402, 435, 468, 501, 544, 577, 590, 603, 616, 649, 672, 695, 718]) 148 764 [(0, 148), (1, 171), (2, 184), (3, 197), (4, 230), (5, 263), (6, 286), (7, 309), (8, 332), (9, 365), (10, 398), (11, 411), (12, 434), (13, 467), (14, 500), (15, 533), (16, 576), (17, 609), (18, 622), (19, 635), (20, 648), (21, 681), (22, 704), (23, 727), (24, 750)], none, none, none, none, none, none, none, none, none, none, none, none, none, none, none],
  [none, none, none, none, none, none, none, none, none, none, none, none, none, none, none, none],
  [none, none, none, none, none, none, none, none, none, none, none, none, none, none, none, none],
  [none, none, none, none, none, none, none, none, none, none, none, none, none, none, none, none],
  [none, none, none, none, none, none, none, none, none, none, none, none, none, none, none, none],
  [none, none, none, none, none, none, none, none, none, none, none, none, none, none, none, none],
  [none, none, none, none, none, none, none, none, none, none, none, none, none, none, none, none],
  [none, none, none, none, q1 (.aload_n 1) 149 1, q1 (.aload_n 0) 150 0, q1 (.iload_n 3) 151 3, qx (.iconst 1) 152 1, q0 .iadd 153, q0 .iaload 154, q3 (.invokevirtual 13) 157 37 2 4, none, none, q1 (.aload_n 2) 158 2, q1 (.aload_n 0) 159 0, q1 (.iload_n 3) 160 3],
  [qx (.iconst 1) 161 1, q0 .iadd 162, q0 .iaload 163, q3 (.invokevirtual 17) 166 94 2 5, none, none, q1 (.if_icmp .eq 598) 169 764, none, none, qx (.iconst 0) 170 0, q0 .ireturn 171, q1 (.aload_n 1) 172 1, q3 (.invokevirtual 18) 175 38 1 4, none, none, q1 (.aload_n 2) 176 2],
  [q3 (.invokevirtual 22) 179 95 1 5, none, none, q1 (.if_icmp .eq 585) 182 764, none, none, qx (.iconst 0) 183 0, q0 .ireturn 184, q1 (.aload_n 1) 185 1, q3 (.invokevirtual 23) 188 39 1 4, none, none, q1 (.aload_n 2) 189 2, q3 (.invokevirtual 26) 192 107 1 5, none, none],
  [q1 (.if_icmp .eq 572) 195 764, none, none, qx (.iconst 0) 196 0, q0 .ireturn 197, q1 (.aload_n 1) 198 1, q1 (.aload_n 0) 199 0, q1 (.iload_n 3) 200 3, qx (.iconst 1) 201 1, q0 .iadd 202, q0 .iaload 203, q1 (.aload_n 0) 204 0, q1 (.iload_n 3) 205 3, qx (.iconst 2) 206 2, q0 .iadd 207, q0 .iaload 208],
  [q3 (.invokevirtual 27) 211 41 3 4, none, none, q1 (.aload_n 2) 212 2, q1 (.aload_n 0) 213 0, q1 (.iload_n 3) 214 3, qx (.iconst 1) 215 1, q0 .iadd 216, q0 .iaload 217, q1 (.aload_n 0) 218 0, q1 (.iload_n 3) 219 3, qx (.iconst 2) 220 2, q0 .iadd 221, q0 .iaload 222, q3 (.invokevirtual 31) 225 119 3 5, none],
  [none, q1 (.if_icmp .eq 539) 228 764, none, none, qx (.iconst 0) 229 0, q0 .ireturn 230, q1 (.aload_n 1) 231 1, q1 (.aload_n 0) 232 0, q1 (.iload_n 3) 233 3, qx (.iconst 1) 234 1, q0 .iadd 235, q0 .iaload 236, q1 (.aload_n 0) 237 0, q1 (.iload_n 3) 238 3, qx (.iconst 2) 239 2, q0 .iadd 240],
  [q0 .iaload 241, q3 (.invokevirtual 32) 244 42 3 4, none, none, q1 (.aload_n 2) 245 2, q1 (.aload_n 0) 246 0, q1 (.iload_n 3) 247 3, qx (.iconst 1) 248 1, q0 .iadd 249, q0 .iaload 250, q1 (.aload_n 0) 251 0, q1 (.iload_n 3) 252 3, qx (.iconst 2) 253 2, q0 .iadd 254, q0 .iaload 255, q3 (.invokevirtual 35) 258 120 3 5],
  [none, none, q1 (.if_icmp .eq 506) 261 764, none, none, qx (.iconst 0) 262 0, q0 .ireturn 263, q1 (.aload_n 1) 264 1, q1 (.aload_n 0) 265 0, q1 (.iload_n 3) 266 3, qx (.iconst 1) 267 1, q0 .iadd 268, q0 .iaload 269, q3 (.invokevirtual 36) 272 43 2 4, none, none],
  [q1 (.aload_n 2) 273 2, q1 (.aload_n 0) 274 0, q1 (.iload_n 3) 275 3, qx (.iconst 1) 276 1, q0 .iadd 277, q0 .iaload 278, q3 (.invokevirtual 39) 281 121 2 5, none, none, q1 (.if_icmp .eq 483) 284 764, none, none, qx (.iconst 0) 285 0, q0 .ireturn 286, q1 (.aload_n 1) 287 1, q1 (.aload_n 0) 288 0],
  [q1 (.iload_n 3) 289 3, qx (.iconst 1) 290 1, q0 .iadd 291, q0 .iaload 292, q3 (.invokevirtual 40) 295 44 2 4, none, none, q1 (.aload_n 2) 296 2, q1 (.aload_n 0) 297 0, q1 (.iload_n 3) 298 3, qx (.iconst 1) 299 1, q0 .iadd 300, q0 .iaload 301, q3 (.invokevirtual 43) 304 123 2 5, none, none],
  [q1 (.if_icmp .eq 460) 307 764, none, none, qx (.iconst 0) 308 0, q0 .ireturn 309, q1 (.aload_n 1) 310 1, q1 (.aload_n 0) 311 0, q1 (.iload_n 3) 312 3, qx (.iconst 1) 313 1, q0 .iadd 314, q0 .iaload 315, q3 (.invokevirtual 44) 318 45 2 4, none, none, q1 (.aload_n 2) 319 2, q1 (.aload_n 0) 320 0],
  [q1 (.iload_n 3) 321 3, qx (.iconst 1) 322 1, q0 .iadd 323, q0 .iaload 324, q3 (.invokevirtual 47) 327 124 2 5, none, none, q1 (.if_icmp .eq 437) 330 764, none, none, qx (.iconst 0) 331 0, q0 .ireturn 332, q1 (.aload_n 1) 333 1, q1 (.aload_n 0) 334 0, q1 (.iload_n 3) 335 3, qx (.iconst 1) 336 1],
  [q0 .iadd 337, q0 .iaload 338, q1 (.aload_n 0) 339 0, q1 (.iload_n 3) 340 3, qx (.iconst 2) 341 2, q0 .iadd 342, q0 .iaload 343, q3 (.invokevirtual 48) 346 46 3 4, none, none, q1 (.aload_n 2) 347 2, q1 (.aload_n 0) 348 0, q1 (.iload_n 3) 349 3, qx (.iconst 1) 350 1, q0 .iadd 351, q0 .iaload 352],
  [q1 (.aload_n 0) 353 0, q1 (.iload_n 3) 354 3, qx (.iconst 2) 355 2, q0 .iadd 356, q0 .iaload 357, q3 (.invokevirtual 51) 360 125 3 5, none, none, q1 (.if_icmp .eq 404) 363 764, none, none, qx (.iconst 0) 364 0, q0 .ireturn 365, q1 (.aload_n 1) 366 1, q1 (.aload_n 0) 367 0, q1 (.iload_n 3) 368 3],
  [qx (.iconst 1) 369 1, q0 .iadd 370, q0 .iaload 371, q1 (.aload_n 0) 372 0, q1 (.iload_n 3) 373 3, qx (.iconst 2) 374 2, q0 .iadd 375, q0 .iaload 376, q3 (.invokevirtual 52) 379 47 3 4, none, none, q1 (.aload_n 2) 380 2, q1 (.aload_n 0) 381 0, q1 (.iload_n 3) 382 3, qx (.iconst 1) 383 1, q0 .iadd 384],
  [q0 .iaload 385, q1 (.aload_n 0) 386 0, q1 (.iload_n 3) 387 3, qx (.iconst 2) 388 2, q0 .iadd 389, q0 .iaload 390, q3 (.invokevirtual 55) 393 126 3 5, none, none, q1 (.if_icmp .eq 371) 396 764, none, none, qx (.iconst 0) 397 0, q0 .ireturn 398, q1 (.aload_n 1) 399 1, q3 (.invokevirtual 56) 402 48 1 4],
  [none, none, q1 (.aload_n 2) 403 2, q3 (.invokevirtual 59) 406 127 1 5, none, none, q1 (.if_icmp .eq 358) 409 764, none, none, qx (.iconst 0) 410 0, q0 .ireturn 411, q1 (.aload_n 1) 412 1, q1 (.aload_n 0) 413 0, q1 (.iload_n 3) 414 3, qx (.iconst 1) 415 1, q0 .iadd 416],
  [q0 .iaload 417, q3 (.invokevirtual 60) 420 49 2 4, none, none, q1 (.aload_n 2) 421 2, q1 (.aload_n 0) 422 0, q1 (.iload_n 3) 423 3, qx (.iconst 1) 424 1, q0 .iadd 425, q0 .iaload 426, q3 (.invokevirtual 63) 429 128 2 5, none, none, q1 (.if_icmp .eq 335) 432 764, none, none],
  [qx (.iconst 0) 433 0, q0 .ireturn 434, q1 (.aload_n 1) 435 1, q1 (.aload_n 0) 436 0, q1 (.iload_n 3) 437 3, qx (.iconst 1) 438 1, q0 .iadd 439, q0 .iaload 440, q1 (.aload_n 0) 441 0, q1 (.iload_n 3) 442 3, qx (.iconst 2) 443 2, q0 .iadd 444, q0 .iaload 445, q3 (.invokevirtual 64) 448 50 3 4, none, none],
  [q1 (.aload_n 2) 449 2, q1 (.aload_n 0) 450 0, q1 (.iload_n 3) 451 3, qx (.iconst 1) 452 1, q0 .iadd 453, q0 .iaload 454, q1 (.aload_n 0) 455 0, q1 (.iload_n 3) 456 3, qx (.iconst 2) 457 2, q0 .iadd 458, q0 .iaload 459, q3 (.invokevirtual 67) 462 130 3 5, none, none, q1 (.if_icmp .eq 302) 465 764, none],
  [none, qx (.iconst 0) 466 0, q0 .ireturn 467, q1 (.aload_n 1) 468 1, q1 (.aload_n 0) 469 0, q1 (.iload_n 3) 470 3, qx (.iconst 1) 471 1, q0 .iadd 472, q0 .iaload 473, q1 (.aload_n 0) 474 0, q1 (.iload_n 3) 475 3, qx (.iconst 2) 476 2, q0 .iadd 477, q0 .iaload 478, q3 (.invokevirtual 68) 481 51 3 4, none],
  [none, q1 (.aload_n 2) 482 2, q1 (.aload_n 0) 483 0, q1 (.iload_n 3) 484 3, qx (.iconst 1) 485 1, q0 .iadd 486, q0 .iaload 487, q1 (.aload_n 0) 488 0, q1 (.iload_n 3) 489 3, qx (.iconst 2) 490 2, q0 .iadd 491, q0 .iaload 492, q3 (.invokevirtual 71) 495 131 3 5, none, none, q1 (.if_icmp .eq 269) 498 764],
  [none, none, qx (.iconst 0) 499 0, q0 .ireturn 500, q1 (.aload_n 1) 501 1, q1 (.aload_n 0) 502 0, q1 (.iload_n 3) 503 3, qx (.iconst 1) 504 1, q0 .iadd 505, q0 .iaload 506, q1 (.aload_n 0) 507 0, q1 (.iload_n 3) 508 3, qx (.iconst 2) 509 2, q0 .iadd 510, q0 .iaload 511, q3 (.invokevirtual 72) 514 52 3 4],
  [none, none, q1 (.aload_n 2) 515 2, q1 (.aload_n 0) 516 0, q1 (.iload_n 3) 517 3, qx (.iconst 1) 518 1, q0 .iadd 519, q0 .iaload 520, q1 (.aload_n 0) 521 0, q1 (.iload_n 3) 522 3, qx (.iconst 2) 523 2, q0 .iadd 524, q0 .iaload 525, q3 (.invokevirtual 75) 528 133 3 5, none, none],
  [q1 (.if_icmp .eq 236) 531 764, none, none, qx (.iconst 0) 532 0, q0 .ireturn 533, q1 (.aload_n 1) 534 1, q1 (.aload_n 0) 535 0, q1 (.iload_n 3) 536 3, qx (.iconst 1) 537 1, q0 .iadd 538, q0 .iaload 539, q1 (.aload_n 0) 540 0, q1 (.iload_n 3) 541 3, qx (.iconst 2) 542 2, q0 .iadd 543, q0 .iaload 544],
  [q1 (.aload_n 0) 545 0, q1 (.iload_n 3) 546 3, qx (.iconst 3) 547 3, q0 .iadd 548, q0 .iaload 549, q3 (.invokevirtual 76) 552 53 4 4, none, none, q1 (.aload_n 2) 553 2, q1 (.aload_n 0) 554 0, q1 (.iload_n 3) 555 3, qx (.iconst 1) 556 1, q0 .iadd 557, q0 .iaload 558, q1 (.aload_n 0) 559 0, q1 (.iload_n 3) 560 3],
  [qx (.iconst 2) 561 2, q0 .iadd 562, q0 .iaload 563, q1 (.aload_n 0) 564 0, q1 (.iload_n 3) 565 3, qx (.iconst 3) 566 3, q0 .iadd 567, q0 .iaload 568, q3 (.invokevirtual 80) 571 134 4 5, none, none, q1 (.if_icmp .eq 193) 574 764, none, none, qx (.iconst 0) 575 0, q0 .ireturn 576],
  [q1 (.aload_n 1) 577 1, q1 (.aload_n 0) 578 0, q1 (.iload_n 3) 579 3, qx (.iconst 1) 580 1, q0 .iadd 581, q0 .iaload 582, q1 (.aload_n 0) 583 0, q1 (.iload_n 3) 584 3, qx (.iconst 2) 585 2, q0 .iadd 586, q0 .iaload 587, q3 (.invokevirtual 81) 590 54 3 4, none, none, q1 (.aload_n 2) 591 2, q1 (.aload_n 0) 592 0],
  [q1 (.iload_n 3) 593 3, qx (.iconst 1) 594 1, q0 .iadd 595, q0 .iaload 596, q1 (.aload_n 0) 597 0, q1 (.iload_n 3) 598 3, qx (.iconst 2) 599 2, q0 .iadd 600, q0 .iaload 601, q3 (.invokevirtual 84) 604 135 3 5, none, none, q1 (.if_icmp .eq 160) 607 764, none, none, qx (.iconst 0) 608 0],
  [q0 .ireturn 609, q1 (.aload_n 1) 610 1, q3 (.invokevirtual 85) 613 55 1 4, none, none, q1 (.aload_n 2) 614 2, q3 (.invokevirtual 88) 617 136 1 5, none, none, q1 (.if_icmp .eq 147) 620 764, none, none, qx (.iconst 0) 621 0, q0 .ireturn 622, q1 (.aload_n 1) 623 1, q3 (.invokevirtual 89) 626 56 1 4],
  [none, none, q1 (.aload_n 2) 627 2, q3 (.invokevirtual 92) 630 137 1 5, none, none, q1 (.if_icmp .eq 134) 633 764, none, none, qx (.iconst 0) 634 0, q0 .ireturn 635, q1 (.aload_n 1) 636 1, q3 (.invokevirtual 93) 639 57 1 4, none, none, q1 (.aload_n 2) 640 2],
  [q3 (.invokevirtual 96) 643 138 1 5, none, none, q1 (.if_icmp .eq 121) 646 764, none, none, qx (.iconst 0) 647 0, q0 .ireturn 648, q1 (.aload_n 1) 649 1, q1 (.aload_n 0) 650 0, q1 (.iload_n 3) 651 3, qx (.iconst 1) 652 1, q0 .iadd 653, q0 .iaload 654, q1 (.aload_n 0) 655 0, q1 (.iload_n 3) 656 3],
  [qx (.iconst 2) 657 2, q0 .iadd 658, q0 .iaload 659, q3 (.invokevirtual 97) 662 58 3 4, none, none, q1 (.aload_n 2) 663 2, q1 (.aload_n 0) 664 0, q1 (.iload_n 3) 665 3, qx (.iconst 1) 666 1, q0 .iadd 667, q0 .iaload 668, q1 (.aload_n 0) 669 0, q1 (.iload_n 3) 670 3, qx (.iconst 2) 671 2, q0 .iadd 672],
  [q0 .iaload 673, q3 (.invokevirtual 100) 676 145 3 5, none, none, q1 (.if_icmp .eq 88) 679 764, none, none, qx (.iconst 0) 680 0, q0 .ireturn 681, q1 (.aload_n 1) 682 1, q1 (.aload_n 0) 683 0, q1 (.iload_n 3) 684 3, qx (.iconst 1) 685 1, q0 .iadd 686, q0 .iaload 687, q3 (.invokevirtual 101) 690 59 2 4],
  [none, none, q1 (.aload_n 2) 691 2, q1 (.aload_n 0) 692 0, q1 (.iload_n 3) 693 3, qx (.iconst 1) 694 1, q0 .iadd 695, q0 .iaload 696, q3 (.invokevirtual 104) 699 146 2 5, none, none, q1 (.if_icmp .eq 65) 702 764, none, none, qx (.iconst 0) 703 0, q0 .ireturn 704],
  [q1 (.aload_n 1) 705 1, q1 (.aload_n 0) 706 0, q1 (.iload_n 3) 707 3, qx (.iconst 1) 708 1, q0 .iadd 709, q0 .iaload 710, q3 (.invokevirtual 105) 713 60 2 4, none, none, q1 (.aload_n 2) 714 2, q1 (.aload_n 0) 715 0, q1 (.iload_n 3) 716 3, qx (.iconst 1) 717 1, q0 .iadd 718, q0 .iaload 719, q3 (.invokevirtual 108) 722 147 2 5],
  [none, none, q1 (.if_icmp .eq 42) 725 764, none, none, qx (.iconst 0) 726 0, q0 .ireturn 727, q1 (.aload_n 1) 728 1, q1 (.aload_n 0) 729 0, q1 (.iload_n 3) 730 3, qx (.iconst 1) 731 1, q0 .iadd 732, q0 .iaload 733, q3 (.invokevirtual 109) 736 61 2 4, none, none],
  [q1 (.aload_n 2) 737 2, q1 (.aload_n 0) 738 0, q1 (.iload_n 3) 739 3, qx (.iconst 1) 740 1, q0 .iadd 741, q0 .iaload 742, q3 (.invokevirtual 112) 745 148 2 5, none, none, q1 (.if_icmp .eq 19) 748 764, none, none, qx (.iconst 0) 749 0, q0 .ireturn 750, q1 (.aload_n 1) 751 1, q3 (.invokevirtual 113) 754 62 1 4],
  [none, none, q1 (.aload_n 2) 755 2, q3 (.invokevirtual 117) 758 149 1 5, none, none, q0 .lcmp 759, q1 (.ifCond .eq 5) 762 764, none, none, qx (.iconst 0) 763 0, q0 .ireturn 764, qi (.iinc 3 4) 767 3 4, none, none, q1 (.goto (-749)) 770 18],
  [none, none, qx (.iconst 1) 771 1, q0 .ireturn 772]]
end
section
def z_tab : List (Nat × Bool × List (List (Option zR))) := [(1, false, []),
  (1, false, tX0_init),
  (1, false, tX0_lose),
  (4, false, tX0_add),
  (2, false, tX0_loseOldest),
  (3, false, tX0_takeBack),
  (1, false, tX1_init),
  (2, false, tX1_addLetter),
  (3, false, tX1_giveTown),
  (1, false, tX1_readTown),
  (1, true, tX1_readItem),
  (1, true, tX1_readYards),
  (1, true, tX1_readSight),
  (3, true, tX1_readStatue),
  (4, true, tX1_readOne),
  (1, true, tX1_readStop),
  (3, true, tX1_readNumber),
  (3, false, tX1_numberOfToken),
  (3, true, tX1_readInsults),
  (3, false, tX1_insultsOfRow),
  (2, false, tX1_readToken),
  (1, false, tX1_kindOf),
  (1, false, tX2_init),
  (3, false, tX2_begin),
  (3, false, tX2_copyFrom),
  (4, false, tX2_timesBelieved),
  (1, false, tX3_init),
  (1, false, tX3_empty),
  (2, true, tX3_hasStatue),
  (2, true, tX3_hasOne),
  (2, true, tX3_hasYard),
  (3, true, tX3_isTaken),
  (4, false, tX3_addStatue),
  (5, false, tX3_addOne),
  (3, false, tX3_findInsulted),
  (4, false, tX3_strengthOf),
  (2, false, tX4_init),
  (2, false, tX4_type),
  (2, false, tX4_clear),
  (2, false, tX4_town),
  (2, false, tX4_beginAnew),
  (3, false, tX4_statue),
  (3, false, tX4_one),
  (2, false, tX4_now),
  (2, false, tX4_comes),
  (2, false, tX4_goes),
  (3, false, tX4_claims),
  (5, false, tX4_pulls),
  (1, false, tX4_undo),
  (5, false, tX4_gather),
  (7, false, tX4_bare),
  (9, false, tX4_scale),
  (3, false, tX4_offends),
  (8, false, tX4_odds),
  (3, false, tX4_sees),
  (2, false, tX4_forget),
  (1, false, tX4_who),
  (7, false, tX4_show),
  (3, false, tX4_rate),
  (2, false, tX4_keep),
  (2, false, tX4_back),
  (2, false, tX4_count),
  (1, false, tX4_trace),
  (2, false, tX4_wrongedBy),
  (2, false, tX4_pullersAt),
  (2, false, tX4_pullAt),
  (2, true, tX4_moves),
  (3, false, tX4_moving),
  (5, true, tX4_allMoveBy),
  (3, false, tX4_statueIn),
  (3, false, tX4_emptyYards),
  (6, false, tX4_pullsToBare),
  (6, false, tX4_offendedIn),
  (7, false, tX4_placeOf),
  (7, false, tX4_chancesToMove),
  (4, false, tX4_stillPossible),
  (2, false, tX4_asStatue),
  (2, false, tX4_asGeneral),
  (2, false, tX4_asPoet),
  (2, false, tX4_asHorse),
  (2, false, tX4_asSaint),
  (2, false, tX4_asGirl),
  (2, true, tX4_has),
  (2, true, tX4_isWithin),
  (1, true, tX4_isSide),
  (1, false, tX4_stepTo),
  (1, true, tX4_isImage),
  (2, false, tX4_ordersOf),
  (4, false, tX4_power),
  (6, false, tX4_commonDivisor),
  (1, false, tX5_init),
  (6, true, tX5_in),
  (2, true, tX5_has),
  (3, false, tX5_ones),
  (2, false, tX5_type),
  (2, false, tX5_clear),
  (1, true, tX5_isFigure),
  (1, true, tX5_isLetter),
  (3, false, tX5_next),
  (3, true, tX5_isNumber),
  (1, true, tX5_isEnd),
  (4, true, tX5_isInsults),
  (4, true, tX5_isEmptyYard),
  (3, true, tX5_statueItem),
  (2, true, tX5_personItem),
  (5, true, tX5_item),
  (4, false, tX5_readAll),
  (3, false, tX5_town),
  (2, true, tX5_isStatue),
  (2, true, tX5_isOne),
  (2, true, tX5_isYard),
  (3, true, tX5_isWronged),
  (4, false, tX5_wronged),
  (4, false, tX5_strength),
  (2, false, tX5_pull),
  (2, true, tX5_moves),
  (4, false, tX5_statueIn),
  (7, false, tX5_offended),
  (5, false, tX5_placeOf),
  (3, false, tX5_statue),
  (3, false, tX5_one),
  (4, false, tX5_now),
  (2, false, tX5_note),
  (2, false, tX5_comes),
  (2, false, tX5_goes),
  (3, false, tX5_claims),
  (4, false, tX5_pulls),
  (2, false, tX5_undo),
  (6, false, tX5_gather),
  (6, false, tX5_bareBy),
  (7, false, tX5_bare),
  (10, false, tX5_scale),
  (3, false, tX5_orders),
  (3, false, tX5_offends),
  (10, false, tX5_odds),
  (3, false, tX5_sees),
  (2, false, tX5_forget),
  (4, false, tX5_who),
  (8, false, tX5_show),
  (2, false, tX5_asStatue),
  (2, false, tX5_asGeneral),
  (2, false, tX5_asPoet),
  (2, false, tX5_asHorse),
  (2, false, tX5_asSaint),
  (2, false, tX5_asGirl),
  (3, false, tX5_rate),
  (3, false, tX5_keep),
  (3, false, tX5_back),
  (2, false, tX5_count),
  (1, false, tX5_trace),
  (1, false, tJ6_bitCount_0f7a4),
  (1, false, tJ9_abs_0f7a4),
  (2, false, tJ9_max_7cf53),
  (2, false, tJ9_min_7cf53),
  (4, true, tL_law)]
def z_my : List (Nat × MethodName × ByteArray × Nat × Option FieldType) := [(8, objectInit, ⟨#[0xb1]⟩, 1, none),
  (0, yX0_init, cX0_init, 1, none),
  (0, yX0_lose, cX0_lose, 1, none),
  (0, yX0_add, cX0_add, 4, none),
  (0, yX0_loseOldest, cX0_loseOldest, 2, none),
  (0, yX0_takeBack, cX0_takeBack, 3, none),
  (1, yX1_init, cX1_init, 1, none),
  (1, yX1_addLetter, cX1_addLetter, 2, none),
  (1, yX1_giveTown, cX1_giveTown, 3, (some (.object "InsultStatues$Town"))),
  (1, yX1_readTown, cX1_readTown, 1, (some .int)),
  (1, yX1_readItem, cX1_readItem, 1, (some .boolean)),
  (1, yX1_readYards, cX1_readYards, 1, (some .boolean)),
  (1, yX1_readSight, cX1_readSight, 1, (some .boolean)),
  (1, yX1_readStatue, cX1_readStatue, 3, (some .boolean)),
  (1, yX1_readOne, cX1_readOne, 4, (some .boolean)),
  (1, yX1_readStop, cX1_readStop, 1, (some .boolean)),
  (1, yX1_readNumber, cX1_readNumber, 3, (some .boolean)),
  (1, yX1_numberOfToken, cX1_numberOfToken, 3, (some .int)),
  (1, yX1_readInsults, cX1_readInsults, 3, (some .boolean)),
  (1, yX1_insultsOfRow, cX1_insultsOfRow, 3, (some .int)),
  (1, yX1_readToken, cX1_readToken, 2, none),
  (1, yX1_kindOf, cX1_kindOf, 1, (some .int)),
  (2, yX2_init, cX2_init, 1, none),
  (2, yX2_begin, cX2_begin, 3, none),
  (2, yX2_copyFrom, cX2_copyFrom, 3, none),
  (2, yX2_timesBelieved, cX2_timesBelieved, 4, (some .int)),
  (3, yX3_init, cX3_init, 1, none),
  (3, yX3_empty, cX3_empty, 1, none),
  (3, yX3_hasStatue, cX3_hasStatue, 2, (some .boolean)),
  (3, yX3_hasOne, cX3_hasOne, 2, (some .boolean)),
  (3, yX3_hasYard, cX3_hasYard, 2, (some .boolean)),
  (3, yX3_isTaken, cX3_isTaken, 3, (some .boolean)),
  (3, yX3_addStatue, cX3_addStatue, 4, none),
  (3, yX3_addOne, cX3_addOne, 5, none),
  (3, yX3_findInsulted, cX3_findInsulted, 3, none),
  (3, yX3_strengthOf, cX3_strengthOf, 4, (some .int)),
  (4, yX4_init, cX4_init, 2, none),
  (4, yX4_type, cX4_type, 2, (some .int)),
  (4, yX4_clear, cX4_clear, 2, (some .int)),
  (4, yX4_town, cX4_town, 2, (some .int)),
  (4, yX4_beginAnew, cX4_beginAnew, 2, none),
  (4, yX4_statue, cX4_statue, 3, (some .int)),
  (4, yX4_one, cX4_one, 3, (some .int)),
  (4, yX4_now, cX4_now, 2, (some .int)),
  (4, yX4_comes, cX4_comes, 2, (some .int)),
  (4, yX4_goes, cX4_goes, 2, (some .int)),
  (4, yX4_claims, cX4_claims, 3, (some .int)),
  (4, yX4_pulls, cX4_pulls, 5, (some .int)),
  (4, yX4_undo, cX4_undo, 1, (some .int)),
  (4, yX4_gather, cX4_gather, 5, (some .int)),
  (4, yX4_bare, cX4_bare, 7, (some .int)),
  (4, yX4_scale, cX4_scale, 9, (some .int)),
  (4, yX4_offends, cX4_offends, 3, (some .int)),
  (4, yX4_odds, cX4_odds, 8, (some .int)),
  (4, yX4_sees, cX4_sees, 3, (some .int)),
  (4, yX4_forget, cX4_forget, 2, (some .int)),
  (4, yX4_who, cX4_who, 1, (some .int)),
  (4, yX4_show, cX4_show, 7, (some .int)),
  (4, yX4_rate, cX4_rate, 3, (some .int)),
  (4, yX4_keep, cX4_keep, 2, (some .int)),
  (4, yX4_back, cX4_back, 2, (some .int)),
  (4, yX4_count, cX4_count, 2, (some .int)),
  (4, yX4_trace, cX4_trace, 1, (some .long)),
  (4, yX4_wrongedBy, cX4_wrongedBy, 2, (some .int)),
  (4, yX4_pullersAt, cX4_pullersAt, 2, (some .int)),
  (4, yX4_pullAt, cX4_pullAt, 2, (some .int)),
  (4, yX4_moves, cX4_moves, 2, (some .boolean)),
  (4, yX4_moving, cX4_moving, 3, (some .int)),
  (4, yX4_allMoveBy, cX4_allMoveBy, 5, (some .boolean)),
  (4, yX4_statueIn, cX4_statueIn, 3, (some .int)),
  (4, yX4_emptyYards, cX4_emptyYards, 3, (some .int)),
  (4, yX4_pullsToBare, cX4_pullsToBare, 6, (some .int)),
  (4, yX4_offendedIn, cX4_offendedIn, 6, (some .int)),
  (4, yX4_placeOf, cX4_placeOf, 7, (some .int)),
  (4, yX4_chancesToMove, cX4_chancesToMove, 7, (some .int)),
  (4, yX4_stillPossible, cX4_stillPossible, 4, (some .int)),
  (4, yX4_asStatue, cX4_asStatue, 2, (some .int)),
  (4, yX4_asGeneral, cX4_asGeneral, 2, (some .int)),
  (4, yX4_asPoet, cX4_asPoet, 2, (some .int)),
  (4, yX4_asHorse, cX4_asHorse, 2, (some .int)),
  (4, yX4_asSaint, cX4_asSaint, 2, (some .int)),
  (4, yX4_asGirl, cX4_asGirl, 2, (some .int)),
  (4, yX4_has, cX4_has, 2, (some .boolean)),
  (4, yX4_isWithin, cX4_isWithin, 2, (some .boolean)),
  (4, yX4_isSide, cX4_isSide, 1, (some .boolean)),
  (4, yX4_stepTo, cX4_stepTo, 1, (some .int)),
  (4, yX4_isImage, cX4_isImage, 1, (some .boolean)),
  (4, yX4_ordersOf, cX4_ordersOf, 2, (some .int)),
  (4, yX4_power, cX4_power, 4, (some .int)),
  (4, yX4_commonDivisor, cX4_commonDivisor, 6, (some .int)),
  (5, yX5_init, cX5_init, 1, none),
  (5, yX5_in, cX5_in, 6, (some .boolean)),
  (5, yX5_has, cX5_has, 2, (some .boolean)),
  (5, yX5_ones, cX5_ones, 3, (some .int)),
  (5, yX5_type, cX5_type, 2, (some .int)),
  (5, yX5_clear, cX5_clear, 2, (some .int)),
  (5, yX5_isFigure, cX5_isFigure, 1, (some .boolean)),
  (5, yX5_isLetter, cX5_isLetter, 1, (some .boolean)),
  (5, yX5_next, cX5_next, 3, none),
  (5, yX5_isNumber, cX5_isNumber, 3, (some .boolean)),
  (5, yX5_isEnd, cX5_isEnd, 1, (some .boolean)),
  (5, yX5_isInsults, cX5_isInsults, 4, (some .boolean)),
  (5, yX5_isEmptyYard, cX5_isEmptyYard, 4, (some .boolean)),
  (5, yX5_statueItem, cX5_statueItem, 3, (some .boolean)),
  (5, yX5_personItem, cX5_personItem, 2, (some .boolean)),
  (5, yX5_item, cX5_item, 5, (some .boolean)),
  (5, yX5_readAll, cX5_readAll, 4, (some .int)),
  (5, yX5_town, cX5_town, 3, (some .int)),
  (5, yX5_isStatue, cX5_isStatue, 2, (some .boolean)),
  (5, yX5_isOne, cX5_isOne, 2, (some .boolean)),
  (5, yX5_isYard, cX5_isYard, 2, (some .boolean)),
  (5, yX5_isWronged, cX5_isWronged, 3, (some .boolean)),
  (5, yX5_wronged, cX5_wronged, 4, (some .int)),
  (5, yX5_strength, cX5_strength, 4, (some .int)),
  (5, yX5_pull, cX5_pull, 2, (some .int)),
  (5, yX5_moves, cX5_moves, 2, (some .boolean)),
  (5, yX5_statueIn, cX5_statueIn, 4, (some .int)),
  (5, yX5_offended, cX5_offended, 7, (some .int)),
  (5, yX5_placeOf, cX5_placeOf, 5, (some .int)),
  (5, yX5_statue, cX5_statue, 3, (some .int)),
  (5, yX5_one, cX5_one, 3, (some .int)),
  (5, yX5_now, cX5_now, 4, (some .int)),
  (5, yX5_note, cX5_note, 2, none),
  (5, yX5_comes, cX5_comes, 2, (some .int)),
  (5, yX5_goes, cX5_goes, 2, (some .int)),
  (5, yX5_claims, cX5_claims, 3, (some .int)),
  (5, yX5_pulls, cX5_pulls, 4, (some .int)),
  (5, yX5_undo, cX5_undo, 2, (some .int)),
  (5, yX5_gather, cX5_gather, 6, (some .int)),
  (5, yX5_bareBy, cX5_bareBy, 6, (some .int)),
  (5, yX5_bare, cX5_bare, 7, (some .int)),
  (5, yX5_scale, cX5_scale, 10, (some .int)),
  (5, yX5_orders, cX5_orders, 3, (some .int)),
  (5, yX5_offends, cX5_offends, 3, (some .int)),
  (5, yX5_odds, cX5_odds, 10, (some .int)),
  (5, yX5_sees, cX5_sees, 3, (some .int)),
  (5, yX5_forget, cX5_forget, 2, (some .int)),
  (5, yX5_who, cX5_who, 4, (some .int)),
  (5, yX5_show, cX5_show, 8, (some .int)),
  (5, yX5_asStatue, cX5_asStatue, 2, (some .int)),
  (5, yX5_asGeneral, cX5_asGeneral, 2, (some .int)),
  (5, yX5_asPoet, cX5_asPoet, 2, (some .int)),
  (5, yX5_asHorse, cX5_asHorse, 2, (some .int)),
  (5, yX5_asSaint, cX5_asSaint, 2, (some .int)),
  (5, yX5_asGirl, cX5_asGirl, 2, (some .int)),
  (5, yX5_rate, cX5_rate, 3, (some .int)),
  (5, yX5_keep, cX5_keep, 3, (some .int)),
  (5, yX5_back, cX5_back, 3, (some .int)),
  (5, yX5_count, cX5_count, 2, (some .int)),
  (5, yX5_trace, cX5_trace, 1, (some .long)),
  (6, yJ6_bitCount_0f7a4, cJ6_bitCount_0f7a4, 1, (some .int)),
  (7, yJ9_abs_0f7a4, cJ9_abs_0f7a4, 1, (some .int)),
  (7, yJ9_max_7cf53, cJ9_max_7cf53, 2, (some .int)),
  (7, yJ9_min_7cf53, cJ9_min_7cf53, 2, (some .int)),
  (8, yL_law, cL_law, 4, (some .boolean))]
def z_fl : List (Nat × Nat × Nat × Nat) := [(0, 9, 0, 1), (0, 15, 0, 2), (0, 18, 0, 3), (0, 21, 0, 0), (0, 28, 2, 0), (0, 33, 2, 2), (0, 36, 2, 1), (1, 9, 1, 1), (1, 18, 1, 2), (1, 22, 1, 0), (1, 29, 1, 4), (1, 33, 1, 6), (1, 36, 1, 3), (1, 42, 1, 7), (1, 52, 1, 5), (1, 71, 1, 8), (1, 74, 3, 0), (1, 80, 3, 1), (1, 83, 3, 2), (1, 97, 3, 3), (2, 9, 2, 1), (2, 15, 2, 2), (2, 18, 2, 0), (2, 22, 3, 4), (3, 9, 3, 4), (3, 15, 3, 5), (3, 18, 3, 6), (3, 21, 3, 7), (3, 24, 3, 8), (3, 27, 3, 9), (3, 30, 3, 10), (3, 33, 3, 11), (3, 39, 3, 0), (3, 43, 3, 1), (3, 46, 3, 2), (3, 49, 3, 3), (4, 10, 4, 0), (4, 19, 4, 1), (4, 26, 4, 2), (4, 33, 4, 3), (4, 37, 4, 4), (4, 41, 4, 5), (4, 45, 4, 6), (4, 49, 4, 7), (4, 52, 4, 8), (4, 56, 4, 9), (4, 60, 1, 0), (4, 89, 2, 1), (4, 92, 3, 5), (4, 95, 3, 6), (4, 115, 3, 7), (4, 118, 3, 8), (4, 121, 3, 9), (4, 124, 3, 10), (4, 127, 2, 0), (4, 143, 0, 0), (4, 155, 2, 2), (4, 177, 3, 2), (4, 180, 3, 3), (4, 244, 3, 0), (4, 247, 3, 1), (4, 250, 3, 11), (5, 7, 5, 0), (5, 13, 5, 1), (5, 16, 5, 2), (5, 19, 5, 3), (5, 22, 5, 4), (5, 25, 5, 6), (5, 28, 5, 9), (5, 31, 5, 11), (5, 34, 5, 12), (5, 43, 5, 8), (5, 55, 5, 14), (5, 58, 5, 15), (5, 61, 5, 17), (5, 64, 5, 16), (5, 108, 5, 5), (5, 111, 5, 7), (5, 114, 5, 10), (5, 169, 5, 13)]
def z_ml : List (Nat × Nat × Nat) := [(0, 3, 0), (0, 25, 4), (1, 3, 0), (1, 17, 26), (1, 26, 27), (1, 39, 20), (1, 45, 34), (1, 48, 10), (1, 55, 11), (1, 58, 13), (1, 61, 14), (1, 64, 12), (1, 67, 16), (1, 77, 15), (1, 86, 31), (1, 90, 18), (1, 93, 32), (1, 100, 19), (1, 104, 33), (1, 108, 17), (1, 111, 153), (1, 117, 21), (2, 3, 0), (3, 3, 0), (3, 36, 27), (4, 1, 0), (4, 18, 26), (4, 63, 7), (4, 67, 9), (4, 71, 8), (4, 75, 40), (4, 78, 23), (4, 82, 2), (4, 85, 28), (4, 98, 63), (4, 102, 65), (4, 105, 72), (4, 109, 73), (4, 112, 29), (4, 130, 82), (4, 134, 25), (4, 137, 67), (4, 140, 70), (4, 146, 3), (4, 150, 150), (4, 158, 84), (4, 161, 85), (4, 164, 66), (4, 167, 30), (4, 170, 69), (4, 173, 5), (4, 183, 68), (4, 186, 71), (4, 189, 64), (4, 192, 35), (4, 195, 83), (4, 198, 87), (4, 201, 74), (4, 205, 88), (4, 208, 89), (4, 211, 75), (4, 214, 152), (4, 220, 77), (4, 223, 78), (4, 226, 79), (4, 229, 80), (4, 232, 81), (4, 235, 76), (4, 238, 86), (4, 241, 24), (4, 253, 151), (5, 1, 0), (5, 39, 91), (5, 67, 97), (5, 71, 96), (5, 74, 98), (5, 77, 99), (5, 81, 102), (5, 84, 101), (5, 87, 92), (5, 90, 100), (5, 94, 103), (5, 97, 104), (5, 100, 105), (5, 104, 106), (5, 117, 111), (5, 120, 112), (5, 124, 113), (5, 127, 114), (5, 130, 116), (5, 133, 117), (5, 137, 108), (5, 140, 118), (5, 143, 109), (5, 146, 115), (5, 149, 122), (5, 152, 93), (5, 155, 110), (5, 158, 129), (5, 161, 132), (5, 166, 137), (5, 173, 139), (5, 180, 140), (5, 185, 141), (5, 191, 142), (5, 194, 143), (5, 197, 144), (8, 9, 36), (8, 12, 90), (8, 13, 37), (8, 17, 94), (8, 18, 38), (8, 22, 95), (8, 23, 39), (8, 26, 107), (8, 27, 41), (8, 31, 119), (8, 32, 42), (8, 35, 120), (8, 36, 43), (8, 39, 121), (8, 40, 44), (8, 43, 123), (8, 44, 45), (8, 47, 124), (8, 48, 46), (8, 51, 125), (8, 52, 47), (8, 55, 126), (8, 56, 48), (8, 59, 127), (8, 60, 49), (8, 63, 128), (8, 64, 50), (8, 67, 130), (8, 68, 51), (8, 71, 131), (8, 72, 52), (8, 75, 133), (8, 76, 53), (8, 80, 134), (8, 81, 54), (8, 84, 135), (8, 85, 55), (8, 88, 136), (8, 89, 56), (8, 92, 137), (8, 93, 57), (8, 96, 138), (8, 97, 58), (8, 100, 145), (8, 101, 59), (8, 104, 146), (8, 105, 60), (8, 108, 147), (8, 109, 61), (8, 112, 148), (8, 113, 62), (8, 117, 149)]
def z_nl : List (Nat × Nat × Nat × String) := [(2, 27, 82, "InsultStatues"), (3, 52, 82, "InsultStatues"), (4, 9, 6, "InsultStatues"), (4, 25, 22, "InsultStatues"), (4, 32, 1, "InsultStatues")]
def z_cll : List (Nat × Nat × Nat) := [(1, 15, 3), (4, 7, 1), (4, 16, 3), (4, 23, 2), (4, 30, 0), (8, 7, 4), (8, 10, 5)]
def z_vs : List (Nat × Nat × Nat) := [(2, 1, 0), (3, 4, 0), (4, 1, 0), (5, 2, 0), (7, 2, 1), (8, 2, 1), (9, 1, 1), (10, 1, 1), (11, 1, 1), (12, 1, 1), (13, 1, 1), (14, 1, 1), (15, 1, 1), (16, 3, 1), (17, 1, 1), (18, 2, 1), (19, 1, 1), (20, 1, 1), (23, 2, 2), (24, 2, 2), (25, 2, 2), (27, 1, 3), (28, 2, 3), (29, 2, 3), (30, 2, 3), (31, 2, 3), (32, 4, 3), (33, 5, 3), (34, 1, 3), (35, 2, 3), (37, 2, 4), (38, 1, 4), (39, 1, 4), (40, 1, 4), (41, 3, 4), (42, 3, 4), (43, 2, 4), (44, 2, 4), (45, 2, 4), (46, 3, 4), (47, 3, 4), (48, 1, 4), (49, 2, 4), (50, 3, 4), (51, 3, 4), (52, 3, 4), (53, 4, 4), (54, 3, 4), (55, 1, 4), (56, 1, 4), (57, 1, 4), (58, 3, 4), (59, 2, 4), (60, 2, 4), (61, 2, 4), (62, 1, 4), (63, 2, 4), (64, 2, 4), (65, 2, 4), (66, 2, 4), (67, 1, 4), (68, 3, 4), (69, 2, 4), (70, 1, 4), (71, 3, 4), (72, 3, 4), (73, 2, 4), (74, 4, 4), (75, 1, 4), (76, 2, 4), (77, 2, 4), (78, 2, 4), (79, 2, 4), (80, 2, 4), (81, 2, 4), (94, 2, 5), (95, 1, 5), (98, 1, 5), (99, 3, 5), (100, 1, 5), (101, 2, 5), (102, 2, 5), (103, 1, 5), (104, 1, 5), (105, 3, 5), (106, 1, 5), (107, 1, 5), (108, 2, 5), (109, 2, 5), (110, 2, 5), (111, 3, 5), (112, 2, 5), (113, 2, 5), (114, 2, 5), (115, 2, 5), (116, 2, 5), (117, 3, 5), (118, 2, 5), (119, 3, 5), (120, 3, 5), (121, 2, 5), (122, 1, 5), (123, 2, 5), (124, 2, 5), (125, 3, 5), (126, 3, 5), (127, 1, 5), (128, 2, 5), (129, 3, 5), (130, 3, 5), (131, 3, 5), (133, 3, 5), (134, 4, 5), (135, 3, 5), (136, 1, 5), (137, 1, 5), (138, 1, 5), (139, 2, 5), (140, 2, 5), (141, 2, 5), (142, 2, 5), (143, 2, 5), (144, 2, 5), (145, 3, 5), (146, 2, 5), (147, 2, 5), (148, 2, 5), (149, 1, 5)]
def z_ss : List (Nat × Nat × Nat) := [(21, 1, 1), (82, 2, 4), (83, 2, 4), (84, 1, 4), (85, 1, 4), (86, 1, 4), (87, 1, 4), (88, 2, 4), (89, 2, 4), (91, 3, 5), (92, 2, 5), (93, 1, 5), (96, 1, 5), (97, 1, 5), (132, 1, 5), (150, 1, 6), (151, 1, 7), (152, 2, 7), (153, 2, 7)]
def z_is : List (Nat × Nat × Nat) := [(1, 1, 0), (6, 1, 1), (22, 1, 2), (26, 1, 3), (36, 1, 4), (90, 1, 5)]
def z_kc : List (Nat × Nat × Int32) := [(4, 219, (-1000000)), (5, 190, (-1000000)), (6, 265, 1431655765), (6, 266, 858993459), (6, 267, 252645135)]
def z_kl : List (Nat × Nat × Int64) := [(4, 256, 10), (4, 258, 100), (4, 260, 1000), (4, 262, 10000), (4, 264, 100000), (5, 37, 255), (5, 47, 48), (5, 49, 57), (5, 51, 97), (5, 53, 122), (5, 164, 10), (5, 176, 100), (5, 178, 1000), (5, 183, 10000), (5, 188, 100000)]
def z_flp : List Nat := [148, 149, 150, 146, 125, 131, 128, 89, 90, 87, 92, 94, 91, 95, 93, 96, 34, 37, 40, 43, 127, 130, 124, 46, 45, 47, 49, 51, 53, 55, 57, 59, 33, 36, 39, 42, 161, 162, 163, 164, 165, 166, 167, 168, 169, 170, 88, 129, 48, 50, 52, 54, 56, 58, 126, 147, 132, 41, 44, 35, 38, 60, 548, 549, 550, 551, 552, 554, 557, 559, 560, 556, 562, 563, 565, 564, 553, 555, 558, 561]
def z_mlp : List Nat := [145, 376, 22, 25, 213, 214, 221, 228, 232, 251, 267, 279, 236, 247, 255, 259, 263, 271, 275, 240, 244, 218, 123, 28, 29, 14, 117, 197, 209, 283, 287, 291, 295, 303, 307, 311, 323, 331, 343, 327, 347, 356, 364, 372, 380, 398, 401, 360, 404, 335, 412, 420, 428, 315, 319, 436, 439, 452, 456, 459, 474, 482, 490, 499, 504, 509, 514, 495, 523, 526, 328, 547, 608, 627, 632, 623, 641, 653, 657, 661, 645, 649, 664, 637, 619, 680, 676, 688, 684, 700, 692, 672, 696, 708, 716, 724, 728, 743, 759, 767, 795, 801, 805, 809, 814, 819, 824, 11, 544, 193, 603, 201, 611, 205, 615, 299, 668, 339, 704, 352, 712, 368, 720, 386, 731, 390, 735, 394, 739, 408, 747, 416, 751, 424, 755, 432, 763, 444, 770, 448, 774, 462, 779, 466, 783, 470, 787, 478, 791, 485, 796, 519, 829, 530, 833, 534, 837, 538, 841]
def z_vsp : List Nat := [296, 373, 378, 413, 198, 284, 210, 230, 234, 281, 253, 269, 249, 238, 242, 261, 273, 216, 292, 527, 348, 30, 304, 344, 405, 256, 264, 276, 222, 320, 194, 202, 206, 289, 300, 340, 353, 369, 387, 391, 395, 409, 417, 425, 433, 445, 449, 463, 467, 471, 479, 486, 520, 531, 535, 539, 309, 317, 313, 362, 358, 422, 337, 366, 430, 325, 333, 454, 476, 497, 492, 501, 506, 511, 516, 604, 612, 625, 643, 647, 659, 655, 651, 666, 639, 621, 616, 674, 710, 745, 682, 678, 690, 686, 718, 702, 694, 698, 669, 705, 713, 726, 721, 732, 736, 740, 748, 752, 761, 756, 764, 771, 775, 780, 784, 788, 792, 803, 807, 811, 816, 821, 826, 797, 830, 834, 838, 842]
def z_vsq : List Nat := [357, 434, 21, 474, 259, 345, 271, 1, 2, 10, 6, 8, 5, 3, 4, 7, 9, 0, 353, 588, 409, 91, 365, 405, 466, 317, 325, 337, 283, 381, 255, 263, 267, 11, 361, 401, 414, 430, 448, 452, 456, 470, 478, 486, 494, 506, 510, 524, 528, 532, 540, 547, 581, 592, 596, 600, 12, 14, 13, 19, 18, 22, 17, 20, 23, 15, 16, 24, 25, 27, 26, 28, 29, 30, 31, 665, 673, 33, 35, 36, 39, 38, 37, 40, 34, 32, 677, 41, 49, 52, 43, 42, 45, 44, 50, 48, 46, 47, 730, 766, 774, 51, 782, 793, 797, 801, 809, 813, 53, 817, 825, 832, 836, 841, 845, 849, 853, 54, 55, 56, 57, 58, 59, 858, 891, 895, 899, 903]
def z_ssp : List Nat := [219, 226, 437, 399, 402, 524, 440, 457, 460, 609, 662, 729, 633, 628, 768, 381, 329, 483, 245]
def z_isp : List Nat := [143, 20, 121, 26, 12, 545]
def z_myp : List Nat := [0, 5, 5, 5, 5, 5, 2, 2, 2, 2, 2, 2, 2, 2, 2, 2, 2, 2, 2, 2, 2, 2, 4, 4, 4, 4, 3, 3, 3, 3, 3, 3, 3, 3, 3, 3, 1, 1, 1, 1, 1, 1, 1, 1, 1, 1, 1, 1, 1, 1, 1, 1, 1, 1, 1, 1, 1, 1, 1, 1, 1, 1, 1, 1, 1, 1, 1, 1, 1, 1, 1, 1, 1, 1, 1, 1, 1, 1, 1, 1, 1, 1, 1, 1, 1, 1, 1, 1, 1, 1, 6, 6, 6, 6, 6, 6, 6, 6, 6, 6, 6, 6, 6, 6, 6, 6, 6, 6, 6, 6, 6, 6, 6, 6, 6, 6, 6, 6, 6, 6, 6, 6, 6, 6, 6, 6, 6, 6, 6, 6, 6, 6, 6, 6, 6, 6, 6, 6, 6, 6, 6, 6, 6, 6, 6, 6, 6, 6, 6, 6, 8, 7, 7, 7, 0]
end
section
def z_pk (r : Nat × MethodName × ByteArray × Nat × Option FieldType) : Prop := r.1 = 8 ∨ Jvm.Cond.code r.2.1 r.2.2.1 r.2.2.2.1 r.2.2.2.2 ∈ tables_1
theorem kX0_init : Jvm.Cond.code yX0_init cX0_init 1 none ∈ tables_1 := List.mem_append_left _ (List.mem_of_getElem? (i := 144) rfl)
theorem kX0_lose : Jvm.Cond.code yX0_lose cX0_lose 1 none ∈ tables_1 := List.mem_append_right _ (List.mem_append_left _ (List.mem_of_getElem? (i := 58) rfl))
theorem kX0_add : Jvm.Cond.code yX0_add cX0_add 4 none ∈ tables_1 := List.mem_append_right _ (List.mem_append_left _ (List.mem_of_getElem? (i := 135) rfl))
theorem kX0_loseOldest : Jvm.Cond.code yX0_loseOldest cX0_loseOldest 2 none ∈ tables_1 := List.mem_append_right _ (List.mem_append_left _ (List.mem_of_getElem? (i := 139) rfl))
theorem kX0_takeBack : Jvm.Cond.code yX0_takeBack cX0_takeBack 3 none ∈ tables_1 := List.mem_append_right _ (List.mem_append_left _ (List.mem_of_getElem? (i := 175) rfl))
theorem kX1_init : Jvm.Cond.code yX1_init cX1_init 1 none ∈ tables_1 := List.mem_append_left _ (List.mem_of_getElem? (i := 21) rfl)
theorem kX1_addLetter : Jvm.Cond.code yX1_addLetter cX1_addLetter 2 none ∈ tables_1 := List.mem_append_left _ (List.mem_of_getElem? (i := 200) rfl)
theorem kX1_giveTown : Jvm.Cond.code yX1_giveTown cX1_giveTown 3 (some (.object "InsultStatues$Town")) ∈ tables_1 := List.mem_append_right _ (List.mem_append_left _ (List.mem_of_getElem? (i := 46) rfl))
theorem kX1_readTown : Jvm.Cond.code yX1_readTown cX1_readTown 1 (some .int) ∈ tables_1 := List.mem_append_left _ (List.mem_of_getElem? (i := 212) rfl)
theorem kX1_readItem : Jvm.Cond.code yX1_readItem cX1_readItem 1 (some .boolean) ∈ tables_1 := List.mem_append_left _ (List.mem_of_getElem? (i := 231) rfl)
theorem kX1_readYards : Jvm.Cond.code yX1_readYards cX1_readYards 1 (some .boolean) ∈ tables_1 := List.mem_append_left _ (List.mem_of_getElem? (i := 235) rfl)
theorem kX1_readSight : Jvm.Cond.code yX1_readSight cX1_readSight 1 (some .boolean) ∈ tables_1 := List.mem_append_right _ (List.mem_append_left _ (List.mem_of_getElem? (i := 42) rfl))
theorem kX1_readStatue : Jvm.Cond.code yX1_readStatue cX1_readStatue 3 (some .boolean) ∈ tables_1 := List.mem_append_right _ (List.mem_append_left _ (List.mem_of_getElem? (i := 14) rfl))
theorem kX1_readOne : Jvm.Cond.code yX1_readOne cX1_readOne 4 (some .boolean) ∈ tables_1 := List.mem_append_right _ (List.mem_append_left _ (List.mem_of_getElem? (i := 30) rfl))
theorem kX1_readStop : Jvm.Cond.code yX1_readStop cX1_readStop 1 (some .boolean) ∈ tables_1 := List.mem_append_right _ (List.mem_append_left _ (List.mem_of_getElem? (i := 10) rfl))
theorem kX1_readNumber : Jvm.Cond.code yX1_readNumber cX1_readNumber 3 (some .boolean) ∈ tables_1 := List.mem_append_left _ (List.mem_of_getElem? (i := 239) rfl)
theorem kX1_numberOfToken : Jvm.Cond.code yX1_numberOfToken cX1_numberOfToken 3 (some .int) ∈ tables_1 := List.mem_append_right _ (List.mem_append_left _ (List.mem_of_getElem? (i := 3) rfl))
theorem kX1_readInsults : Jvm.Cond.code yX1_readInsults cX1_readInsults 3 (some .boolean) ∈ tables_1 := List.mem_append_right _ (List.mem_append_left _ (List.mem_of_getElem? (i := 22) rfl))
theorem kX1_insultsOfRow : Jvm.Cond.code yX1_insultsOfRow cX1_insultsOfRow 3 (some .int) ∈ tables_1 := List.mem_append_right _ (List.mem_append_left _ (List.mem_of_getElem? (i := 34) rfl))
theorem kX1_readToken : Jvm.Cond.code yX1_readToken cX1_readToken 2 none ∈ tables_1 := List.mem_append_left _ (List.mem_of_getElem? (i := 217) rfl)
theorem kX1_kindOf : Jvm.Cond.code yX1_kindOf cX1_kindOf 1 (some .int) ∈ tables_1 := List.mem_append_left _ (List.mem_of_getElem? (i := 220) rfl)
theorem kX2_init : Jvm.Cond.code yX2_init cX2_init 1 none ∈ tables_1 := List.mem_append_left _ (List.mem_of_getElem? (i := 122) rfl)
theorem kX2_begin : Jvm.Cond.code yX2_begin cX2_begin 3 none ∈ tables_1 := List.mem_append_right _ (List.mem_append_left _ (List.mem_of_getElem? (i := 54) rfl))
theorem kX2_copyFrom : Jvm.Cond.code yX2_copyFrom cX2_copyFrom 3 none ∈ tables_1 := List.mem_append_right _ (List.mem_append_right _ (List.mem_append_left _ (List.mem_of_getElem? (i := 49) rfl)))
theorem kX2_timesBelieved : Jvm.Cond.code yX2_timesBelieved cX2_timesBelieved 4 (some .int) ∈ tables_1 := List.mem_append_right _ (List.mem_append_left _ (List.mem_of_getElem? (i := 110) rfl))
theorem kX3_init : Jvm.Cond.code yX3_init cX3_init 1 none ∈ tables_1 := List.mem_append_left _ (List.mem_of_getElem? (i := 27) rfl)
theorem kX3_empty : Jvm.Cond.code yX3_empty cX3_empty 1 none ∈ tables_1 := List.mem_append_left _ (List.mem_of_getElem? (i := 32) rfl)
theorem kX3_hasStatue : Jvm.Cond.code yX3_hasStatue cX3_hasStatue 2 (some .boolean) ∈ tables_1 := List.mem_append_right _ (List.mem_append_left _ (List.mem_of_getElem? (i := 66) rfl))
theorem kX3_hasOne : Jvm.Cond.code yX3_hasOne cX3_hasOne 2 (some .boolean) ∈ tables_1 := List.mem_append_right _ (List.mem_append_left _ (List.mem_of_getElem? (i := 106) rfl))
theorem kX3_hasYard : Jvm.Cond.code yX3_hasYard cX3_hasYard 2 (some .boolean) ∈ tables_1 := List.mem_append_right _ (List.mem_append_left _ (List.mem_of_getElem? (i := 167) rfl))
theorem kX3_isTaken : Jvm.Cond.code yX3_isTaken cX3_isTaken 3 (some .boolean) ∈ tables_1 := List.mem_append_right _ (List.mem_append_left _ (List.mem_of_getElem? (i := 18) rfl))
theorem kX3_addStatue : Jvm.Cond.code yX3_addStatue cX3_addStatue 4 none ∈ tables_1 := List.mem_append_right _ (List.mem_append_left _ (List.mem_of_getElem? (i := 26) rfl))
theorem kX3_addOne : Jvm.Cond.code yX3_addOne cX3_addOne 5 none ∈ tables_1 := List.mem_append_right _ (List.mem_append_left _ (List.mem_of_getElem? (i := 38) rfl))
theorem kX3_findInsulted : Jvm.Cond.code yX3_findInsulted cX3_findInsulted 3 none ∈ tables_1 := List.mem_append_left _ (List.mem_of_getElem? (i := 224) rfl)
theorem kX3_strengthOf : Jvm.Cond.code yX3_strengthOf cX3_strengthOf 4 (some .int) ∈ tables_1 := List.mem_append_right _ (List.mem_append_left _ (List.mem_of_getElem? (i := 82) rfl))
theorem kX4_init : Jvm.Cond.code yX4_init cX4_init 2 none ∈ tables_1 := List.mem_append_left _ (List.mem_of_getElem? (i := 13) rfl)
theorem kX4_type : Jvm.Cond.code yX4_type cX4_type 2 (some .int) ∈ tables_1 := List.mem_append_left _ (List.mem_of_getElem? (i := 196) rfl)
theorem kX4_clear : Jvm.Cond.code yX4_clear cX4_clear 2 (some .int) ∈ tables_1 := List.mem_append_left _ (List.mem_of_getElem? (i := 204) rfl)
theorem kX4_town : Jvm.Cond.code yX4_town cX4_town 2 (some .int) ∈ tables_1 := List.mem_append_left _ (List.mem_of_getElem? (i := 208) rfl)
theorem kX4_beginAnew : Jvm.Cond.code yX4_beginAnew cX4_beginAnew 2 none ∈ tables_1 := List.mem_append_right _ (List.mem_append_left _ (List.mem_of_getElem? (i := 50) rfl))
theorem kX4_statue : Jvm.Cond.code yX4_statue cX4_statue 3 (some .int) ∈ tables_1 := List.mem_append_right _ (List.mem_append_left _ (List.mem_of_getElem? (i := 62) rfl))
theorem kX4_one : Jvm.Cond.code yX4_one cX4_one 3 (some .int) ∈ tables_1 := List.mem_append_right _ (List.mem_append_left _ (List.mem_of_getElem? (i := 102) rfl))
theorem kX4_now : Jvm.Cond.code yX4_now cX4_now 2 (some .int) ∈ tables_1 := List.mem_append_right _ (List.mem_append_left _ (List.mem_of_getElem? (i := 115) rfl))
theorem kX4_comes : Jvm.Cond.code yX4_comes cX4_comes 2 (some .int) ∈ tables_1 := List.mem_append_right _ (List.mem_append_left _ (List.mem_of_getElem? (i := 131) rfl))
theorem kX4_goes : Jvm.Cond.code yX4_goes cX4_goes 2 (some .int) ∈ tables_1 := List.mem_append_right _ (List.mem_append_left _ (List.mem_of_getElem? (i := 149) rfl))
theorem kX4_claims : Jvm.Cond.code yX4_claims cX4_claims 3 (some .int) ∈ tables_1 := List.mem_append_right _ (List.mem_append_left _ (List.mem_of_getElem? (i := 153) rfl))
theorem kX4_pulls : Jvm.Cond.code yX4_pulls cX4_pulls 5 (some .int) ∈ tables_1 := List.mem_append_right _ (List.mem_append_left _ (List.mem_of_getElem? (i := 157) rfl))
theorem kX4_undo : Jvm.Cond.code yX4_undo cX4_undo 1 (some .int) ∈ tables_1 := List.mem_append_right _ (List.mem_append_left _ (List.mem_of_getElem? (i := 171) rfl))
theorem kX4_gather : Jvm.Cond.code yX4_gather cX4_gather 5 (some .int) ∈ tables_1 := List.mem_append_right _ (List.mem_append_left _ (List.mem_of_getElem? (i := 179) rfl))
theorem kX4_bare : Jvm.Cond.code yX4_bare cX4_bare 7 (some .int) ∈ tables_1 := List.mem_append_right _ (List.mem_append_left _ (List.mem_of_getElem? (i := 187) rfl))
theorem kX4_scale : Jvm.Cond.code yX4_scale cX4_scale 9 (some .int) ∈ tables_1 := List.mem_append_right _ (List.mem_append_left _ (List.mem_of_getElem? (i := 195) rfl))
theorem kX4_offends : Jvm.Cond.code yX4_offends cX4_offends 3 (some .int) ∈ tables_1 := List.mem_append_right _ (List.mem_append_left _ (List.mem_of_getElem? (i := 207) rfl))
theorem kX4_odds : Jvm.Cond.code yX4_odds cX4_odds 8 (some .int) ∈ tables_1 := List.mem_append_right _ (List.mem_append_left _ (List.mem_of_getElem? (i := 211) rfl))
theorem kX4_sees : Jvm.Cond.code yX4_sees cX4_sees 3 (some .int) ∈ tables_1 := List.mem_append_right _ (List.mem_append_left _ (List.mem_of_getElem? (i := 225) rfl))
theorem kX4_forget : Jvm.Cond.code yX4_forget cX4_forget 2 (some .int) ∈ tables_1 := List.mem_append_right _ (List.mem_append_left _ (List.mem_of_getElem? (i := 229) rfl))
theorem kX4_who : Jvm.Cond.code yX4_who cX4_who 1 (some .int) ∈ tables_1 := List.mem_append_right _ (List.mem_append_left _ (List.mem_of_getElem? (i := 233) rfl))
theorem kX4_show : Jvm.Cond.code yX4_show cX4_show 7 (some .int) ∈ tables_1 := List.mem_append_right _ (List.mem_append_right _ (List.mem_append_left _ (List.mem_of_getElem? (i := 1) rfl)))
theorem kX4_rate : Jvm.Cond.code yX4_rate cX4_rate 3 (some .int) ∈ tables_1 := List.mem_append_right _ (List.mem_append_right _ (List.mem_append_left _ (List.mem_of_getElem? (i := 8) rfl)))
theorem kX4_keep : Jvm.Cond.code yX4_keep cX4_keep 2 (some .int) ∈ tables_1 := List.mem_append_right _ (List.mem_append_right _ (List.mem_append_left _ (List.mem_of_getElem? (i := 42) rfl)))
theorem kX4_back : Jvm.Cond.code yX4_back cX4_back 2 (some .int) ∈ tables_1 := List.mem_append_right _ (List.mem_append_right _ (List.mem_append_left _ (List.mem_of_getElem? (i := 53) rfl)))
theorem kX4_count : Jvm.Cond.code yX4_count cX4_count 2 (some .int) ∈ tables_1 := List.mem_append_right _ (List.mem_append_right _ (List.mem_append_left _ (List.mem_of_getElem? (i := 57) rfl)))
theorem kX4_trace : Jvm.Cond.code yX4_trace cX4_trace 1 (some .long) ∈ tables_1 := List.mem_append_right _ (List.mem_append_right _ (List.mem_append_left _ (List.mem_of_getElem? (i := 61) rfl)))
theorem kX4_wrongedBy : Jvm.Cond.code yX4_wrongedBy cX4_wrongedBy 2 (some .int) ∈ tables_1 := List.mem_append_right _ (List.mem_append_left _ (List.mem_of_getElem? (i := 70) rfl))
theorem kX4_pullersAt : Jvm.Cond.code yX4_pullersAt cX4_pullersAt 2 (some .int) ∈ tables_1 := List.mem_append_right _ (List.mem_append_left _ (List.mem_of_getElem? (i := 78) rfl))
theorem kX4_pullAt : Jvm.Cond.code yX4_pullAt cX4_pullAt 2 (some .int) ∈ tables_1 := List.mem_append_right _ (List.mem_append_left _ (List.mem_of_getElem? (i := 74) rfl))
theorem kX4_moves : Jvm.Cond.code yX4_moves cX4_moves 2 (some .boolean) ∈ tables_1 := List.mem_append_right _ (List.mem_append_left _ (List.mem_of_getElem? (i := 123) rfl))
theorem kX4_moving : Jvm.Cond.code yX4_moving cX4_moving 3 (some .int) ∈ tables_1 := List.mem_append_right _ (List.mem_append_left _ (List.mem_of_getElem? (i := 119) rfl))
theorem kX4_allMoveBy : Jvm.Cond.code yX4_allMoveBy cX4_allMoveBy 5 (some .boolean) ∈ tables_1 := List.mem_append_right _ (List.mem_append_left _ (List.mem_of_getElem? (i := 183) rfl))
theorem kX4_statueIn : Jvm.Cond.code yX4_statueIn cX4_statueIn 3 (some .int) ∈ tables_1 := List.mem_append_right _ (List.mem_append_left _ (List.mem_of_getElem? (i := 98) rfl))
theorem kX4_emptyYards : Jvm.Cond.code yX4_emptyYards cX4_emptyYards 3 (some .int) ∈ tables_1 := List.mem_append_right _ (List.mem_append_left _ (List.mem_of_getElem? (i := 127) rfl))
theorem kX4_pullsToBare : Jvm.Cond.code yX4_pullsToBare cX4_pullsToBare 6 (some .int) ∈ tables_1 := List.mem_append_right _ (List.mem_append_left _ (List.mem_of_getElem? (i := 191) rfl))
theorem kX4_offendedIn : Jvm.Cond.code yX4_offendedIn cX4_offendedIn 6 (some .int) ∈ tables_1 := List.mem_append_right _ (List.mem_append_left _ (List.mem_of_getElem? (i := 86) rfl))
theorem kX4_placeOf : Jvm.Cond.code yX4_placeOf cX4_placeOf 7 (some .int) ∈ tables_1 := List.mem_append_right _ (List.mem_append_left _ (List.mem_of_getElem? (i := 94) rfl))
theorem kX4_chancesToMove : Jvm.Cond.code yX4_chancesToMove cX4_chancesToMove 7 (some .int) ∈ tables_1 := List.mem_append_right _ (List.mem_append_left _ (List.mem_of_getElem? (i := 215) rfl))
theorem kX4_stillPossible : Jvm.Cond.code yX4_stillPossible cX4_stillPossible 4 (some .int) ∈ tables_1 := List.mem_append_right _ (List.mem_append_left _ (List.mem_of_getElem? (i := 237) rfl))
theorem kX4_asStatue : Jvm.Cond.code yX4_asStatue cX4_asStatue 2 (some .int) ∈ tables_1 := List.mem_append_right _ (List.mem_append_right _ (List.mem_append_left _ (List.mem_of_getElem? (i := 18) rfl)))
theorem kX4_asGeneral : Jvm.Cond.code yX4_asGeneral cX4_asGeneral 2 (some .int) ∈ tables_1 := List.mem_append_right _ (List.mem_append_right _ (List.mem_append_left _ (List.mem_of_getElem? (i := 13) rfl)))
theorem kX4_asPoet : Jvm.Cond.code yX4_asPoet cX4_asPoet 2 (some .int) ∈ tables_1 := List.mem_append_right _ (List.mem_append_right _ (List.mem_append_left _ (List.mem_of_getElem? (i := 22) rfl)))
theorem kX4_asHorse : Jvm.Cond.code yX4_asHorse cX4_asHorse 2 (some .int) ∈ tables_1 := List.mem_append_right _ (List.mem_append_right _ (List.mem_append_left _ (List.mem_of_getElem? (i := 27) rfl)))
theorem kX4_asSaint : Jvm.Cond.code yX4_asSaint cX4_asSaint 2 (some .int) ∈ tables_1 := List.mem_append_right _ (List.mem_append_right _ (List.mem_append_left _ (List.mem_of_getElem? (i := 32) rfl)))
theorem kX4_asGirl : Jvm.Cond.code yX4_asGirl cX4_asGirl 2 (some .int) ∈ tables_1 := List.mem_append_right _ (List.mem_append_right _ (List.mem_append_left _ (List.mem_of_getElem? (i := 37) rfl)))
theorem kX4_has : Jvm.Cond.code yX4_has cX4_has 2 (some .boolean) ∈ tables_1 := List.mem_append_left _ (List.mem_of_getElem? (i := 227) rfl)
theorem kX4_isWithin : Jvm.Cond.code yX4_isWithin cX4_isWithin 2 (some .boolean) ∈ tables_1 := List.mem_append_right _ (List.mem_append_left _ (List.mem_of_getElem? (i := 198) rfl))
theorem kX4_isSide : Jvm.Cond.code yX4_isSide cX4_isSide 1 (some .boolean) ∈ tables_1 := List.mem_append_right _ (List.mem_append_left _ (List.mem_of_getElem? (i := 160) rfl))
theorem kX4_stepTo : Jvm.Cond.code yX4_stepTo cX4_stepTo 1 (some .int) ∈ tables_1 := List.mem_append_right _ (List.mem_append_left _ (List.mem_of_getElem? (i := 163) rfl))
theorem kX4_isImage : Jvm.Cond.code yX4_isImage cX4_isImage 1 (some .boolean) ∈ tables_1 := List.mem_append_right _ (List.mem_append_right _ (List.mem_append_left _ (List.mem_of_getElem? (i := 45) rfl)))
theorem kX4_ordersOf : Jvm.Cond.code yX4_ordersOf cX4_ordersOf 2 (some .int) ∈ tables_1 := List.mem_append_right _ (List.mem_append_left _ (List.mem_of_getElem? (i := 201) rfl))
theorem kX4_power : Jvm.Cond.code yX4_power cX4_power 4 (some .int) ∈ tables_1 := List.mem_append_right _ (List.mem_append_left _ (List.mem_of_getElem? (i := 218) rfl))
theorem kX4_commonDivisor : Jvm.Cond.code yX4_commonDivisor cX4_commonDivisor 6 (some .int) ∈ tables_1 := List.mem_append_right _ (List.mem_append_left _ (List.mem_of_getElem? (i := 221) rfl))
theorem kX5_init : Jvm.Cond.code yX5_init cX5_init 1 none ∈ tables_1 := List.mem_append_right _ (List.mem_append_right _ (List.mem_append_left _ (List.mem_of_getElem? (i := 66) rfl)))
theorem kX5_in : Jvm.Cond.code yX5_in cX5_in 6 (some .boolean) ∈ tables_1 := List.mem_append_right _ (List.mem_append_right _ (List.mem_append_left _ (List.mem_of_getElem? (i := 130) rfl)))
theorem kX5_has : Jvm.Cond.code yX5_has cX5_has 2 (some .boolean) ∈ tables_1 := List.mem_append_right _ (List.mem_append_right _ (List.mem_append_left _ (List.mem_of_getElem? (i := 183) rfl)))
theorem kX5_ones : Jvm.Cond.code yX5_ones cX5_ones 3 (some .int) ∈ tables_1 := List.mem_append_right _ (List.mem_append_right _ (List.mem_append_right _ (List.mem_of_getElem? (i := 10) rfl)))
theorem kX5_type : Jvm.Cond.code yX5_type cX5_type 2 (some .int) ∈ tables_1 := List.mem_append_right _ (List.mem_append_right _ (List.mem_append_left _ (List.mem_of_getElem? (i := 126) rfl)))
theorem kX5_clear : Jvm.Cond.code yX5_clear cX5_clear 2 (some .int) ∈ tables_1 := List.mem_append_right _ (List.mem_append_right _ (List.mem_append_left _ (List.mem_of_getElem? (i := 134) rfl)))
theorem kX5_isFigure : Jvm.Cond.code yX5_isFigure cX5_isFigure 1 (some .boolean) ∈ tables_1 := List.mem_append_right _ (List.mem_append_right _ (List.mem_append_left _ (List.mem_of_getElem? (i := 154) rfl)))
theorem kX5_isLetter : Jvm.Cond.code yX5_isLetter cX5_isLetter 1 (some .boolean) ∈ tables_1 := List.mem_append_right _ (List.mem_append_right _ (List.mem_append_left _ (List.mem_of_getElem? (i := 149) rfl)))
theorem kX5_next : Jvm.Cond.code yX5_next cX5_next 3 none ∈ tables_1 := List.mem_append_right _ (List.mem_append_right _ (List.mem_append_left _ (List.mem_of_getElem? (i := 146) rfl)))
theorem kX5_isNumber : Jvm.Cond.code yX5_isNumber cX5_isNumber 3 (some .boolean) ∈ tables_1 := List.mem_append_right _ (List.mem_append_right _ (List.mem_append_left _ (List.mem_of_getElem? (i := 164) rfl)))
theorem kX5_isEnd : Jvm.Cond.code yX5_isEnd cX5_isEnd 1 (some .boolean) ∈ tables_1 := List.mem_append_right _ (List.mem_append_right _ (List.mem_append_left _ (List.mem_of_getElem? (i := 168) rfl)))
theorem kX5_isInsults : Jvm.Cond.code yX5_isInsults cX5_isInsults 4 (some .boolean) ∈ tables_1 := List.mem_append_right _ (List.mem_append_right _ (List.mem_append_left _ (List.mem_of_getElem? (i := 180) rfl)))
theorem kX5_isEmptyYard : Jvm.Cond.code yX5_isEmptyYard cX5_isEmptyYard 4 (some .boolean) ∈ tables_1 := List.mem_append_right _ (List.mem_append_right _ (List.mem_append_left _ (List.mem_of_getElem? (i := 176) rfl)))
theorem kX5_statueItem : Jvm.Cond.code yX5_statueItem cX5_statueItem 3 (some .boolean) ∈ tables_1 := List.mem_append_right _ (List.mem_append_right _ (List.mem_append_left _ (List.mem_of_getElem? (i := 172) rfl)))
theorem kX5_personItem : Jvm.Cond.code yX5_personItem cX5_personItem 2 (some .boolean) ∈ tables_1 := List.mem_append_right _ (List.mem_append_right _ (List.mem_append_left _ (List.mem_of_getElem? (i := 187) rfl)))
theorem kX5_item : Jvm.Cond.code yX5_item cX5_item 5 (some .boolean) ∈ tables_1 := List.mem_append_right _ (List.mem_append_right _ (List.mem_append_left _ (List.mem_of_getElem? (i := 160) rfl)))
theorem kX5_readAll : Jvm.Cond.code yX5_readAll cX5_readAll 4 (some .int) ∈ tables_1 := List.mem_append_right _ (List.mem_append_right _ (List.mem_append_left _ (List.mem_of_getElem? (i := 142) rfl)))
theorem kX5_town : Jvm.Cond.code yX5_town cX5_town 3 (some .int) ∈ tables_1 := List.mem_append_right _ (List.mem_append_right _ (List.mem_append_left _ (List.mem_of_getElem? (i := 138) rfl)))
theorem kX5_isStatue : Jvm.Cond.code yX5_isStatue cX5_isStatue 2 (some .boolean) ∈ tables_1 := List.mem_append_right _ (List.mem_append_right _ (List.mem_append_left _ (List.mem_of_getElem? (i := 195) rfl)))
theorem kX5_isOne : Jvm.Cond.code yX5_isOne cX5_isOne 2 (some .boolean) ∈ tables_1 := List.mem_append_right _ (List.mem_append_right _ (List.mem_append_left _ (List.mem_of_getElem? (i := 231) rfl)))
theorem kX5_isYard : Jvm.Cond.code yX5_isYard cX5_isYard 2 (some .boolean) ∈ tables_1 := List.mem_append_right _ (List.mem_append_right _ (List.mem_append_right _ (List.mem_of_getElem? (i := 26) rfl)))
theorem kX5_isWronged : Jvm.Cond.code yX5_isWronged cX5_isWronged 3 (some .boolean) ∈ tables_1 := List.mem_append_right _ (List.mem_append_right _ (List.mem_append_left _ (List.mem_of_getElem? (i := 203) rfl)))
theorem kX5_wronged : Jvm.Cond.code yX5_wronged cX5_wronged 4 (some .int) ∈ tables_1 := List.mem_append_right _ (List.mem_append_right _ (List.mem_append_left _ (List.mem_of_getElem? (i := 199) rfl)))
theorem kX5_strength : Jvm.Cond.code yX5_strength cX5_strength 4 (some .int) ∈ tables_1 := List.mem_append_right _ (List.mem_append_right _ (List.mem_append_left _ (List.mem_of_getElem? (i := 211) rfl)))
theorem kX5_pull : Jvm.Cond.code yX5_pull cX5_pull 2 (some .int) ∈ tables_1 := List.mem_append_right _ (List.mem_append_right _ (List.mem_append_left _ (List.mem_of_getElem? (i := 207) rfl)))
theorem kX5_moves : Jvm.Cond.code yX5_moves cX5_moves 2 (some .boolean) ∈ tables_1 := List.mem_append_right _ (List.mem_append_right _ (List.mem_append_left _ (List.mem_of_getElem? (i := 239) rfl)))
theorem kX5_statueIn : Jvm.Cond.code yX5_statueIn cX5_statueIn 4 (some .int) ∈ tables_1 := List.mem_append_right _ (List.mem_append_right _ (List.mem_append_left _ (List.mem_of_getElem? (i := 223) rfl)))
theorem kX5_offended : Jvm.Cond.code yX5_offended cX5_offended 7 (some .int) ∈ tables_1 := List.mem_append_right _ (List.mem_append_right _ (List.mem_append_left _ (List.mem_of_getElem? (i := 215) rfl)))
theorem kX5_placeOf : Jvm.Cond.code yX5_placeOf cX5_placeOf 5 (some .int) ∈ tables_1 := List.mem_append_right _ (List.mem_append_right _ (List.mem_append_left _ (List.mem_of_getElem? (i := 219) rfl)))
theorem kX5_statue : Jvm.Cond.code yX5_statue cX5_statue 3 (some .int) ∈ tables_1 := List.mem_append_right _ (List.mem_append_right _ (List.mem_append_left _ (List.mem_of_getElem? (i := 191) rfl)))
theorem kX5_one : Jvm.Cond.code yX5_one cX5_one 3 (some .int) ∈ tables_1 := List.mem_append_right _ (List.mem_append_right _ (List.mem_append_left _ (List.mem_of_getElem? (i := 227) rfl)))
theorem kX5_now : Jvm.Cond.code yX5_now cX5_now 4 (some .int) ∈ tables_1 := List.mem_append_right _ (List.mem_append_right _ (List.mem_append_left _ (List.mem_of_getElem? (i := 235) rfl)))
theorem kX5_note : Jvm.Cond.code yX5_note cX5_note 2 none ∈ tables_1 := List.mem_append_right _ (List.mem_append_right _ (List.mem_append_right _ (List.mem_of_getElem? (i := 7) rfl)))
theorem kX5_comes : Jvm.Cond.code yX5_comes cX5_comes 2 (some .int) ∈ tables_1 := List.mem_append_right _ (List.mem_append_right _ (List.mem_append_right _ (List.mem_of_getElem? (i := 3) rfl)))
theorem kX5_goes : Jvm.Cond.code yX5_goes cX5_goes 2 (some .int) ∈ tables_1 := List.mem_append_right _ (List.mem_append_right _ (List.mem_append_right _ (List.mem_of_getElem? (i := 14) rfl)))
theorem kX5_claims : Jvm.Cond.code yX5_claims cX5_claims 3 (some .int) ∈ tables_1 := List.mem_append_right _ (List.mem_append_right _ (List.mem_append_right _ (List.mem_of_getElem? (i := 18) rfl)))
theorem kX5_pulls : Jvm.Cond.code yX5_pulls cX5_pulls 4 (some .int) ∈ tables_1 := List.mem_append_right _ (List.mem_append_right _ (List.mem_append_right _ (List.mem_of_getElem? (i := 22) rfl)))
theorem kX5_undo : Jvm.Cond.code yX5_undo cX5_undo 2 (some .int) ∈ tables_1 := List.mem_append_right _ (List.mem_append_right _ (List.mem_append_right _ (List.mem_of_getElem? (i := 30) rfl)))
theorem kX5_gather : Jvm.Cond.code yX5_gather cX5_gather 6 (some .int) ∈ tables_1 := List.mem_append_right _ (List.mem_append_right _ (List.mem_append_right _ (List.mem_of_getElem? (i := 34) rfl)))
theorem kX5_bareBy : Jvm.Cond.code yX5_bareBy cX5_bareBy 6 (some .int) ∈ tables_1 := List.mem_append_right _ (List.mem_append_right _ (List.mem_append_right _ (List.mem_of_getElem? (i := 42) rfl)))
theorem kX5_bare : Jvm.Cond.code yX5_bare cX5_bare 7 (some .int) ∈ tables_1 := List.mem_append_right _ (List.mem_append_right _ (List.mem_append_right _ (List.mem_of_getElem? (i := 38) rfl)))
theorem kX5_scale : Jvm.Cond.code yX5_scale cX5_scale 10 (some .int) ∈ tables_1 := List.mem_append_right _ (List.mem_append_right _ (List.mem_append_right _ (List.mem_of_getElem? (i := 46) rfl)))
theorem kX5_orders : Jvm.Cond.code yX5_orders cX5_orders 3 (some .int) ∈ tables_1 := List.mem_append_right _ (List.mem_append_right _ (List.mem_append_right _ (List.mem_of_getElem? (i := 49) rfl)))
theorem kX5_offends : Jvm.Cond.code yX5_offends cX5_offends 3 (some .int) ∈ tables_1 := List.mem_append_right _ (List.mem_append_right _ (List.mem_append_right _ (List.mem_of_getElem? (i := 53) rfl)))
theorem kX5_odds : Jvm.Cond.code yX5_odds cX5_odds 10 (some .int) ∈ tables_1 := List.mem_append_right _ (List.mem_append_right _ (List.mem_append_right _ (List.mem_of_getElem? (i := 57) rfl)))
theorem kX5_sees : Jvm.Cond.code yX5_sees cX5_sees 3 (some .int) ∈ tables_1 := List.mem_append_right _ (List.mem_append_right _ (List.mem_append_right _ (List.mem_of_getElem? (i := 62) rfl)))
theorem kX5_forget : Jvm.Cond.code yX5_forget cX5_forget 2 (some .int) ∈ tables_1 := List.mem_append_right _ (List.mem_append_right _ (List.mem_append_right _ (List.mem_of_getElem? (i := 66) rfl)))
theorem kX5_who : Jvm.Cond.code yX5_who cX5_who 4 (some .int) ∈ tables_1 := List.mem_append_right _ (List.mem_append_right _ (List.mem_append_right _ (List.mem_of_getElem? (i := 70) rfl)))
theorem kX5_show : Jvm.Cond.code yX5_show cX5_show 8 (some .int) ∈ tables_1 := List.mem_append_right _ (List.mem_append_right _ (List.mem_append_right _ (List.mem_of_getElem? (i := 74) rfl)))
theorem kX5_asStatue : Jvm.Cond.code yX5_asStatue cX5_asStatue 2 (some .int) ∈ tables_1 := List.mem_append_right _ (List.mem_append_right _ (List.mem_append_right _ (List.mem_of_getElem? (i := 84) rfl)))
theorem kX5_asGeneral : Jvm.Cond.code yX5_asGeneral cX5_asGeneral 2 (some .int) ∈ tables_1 := List.mem_append_right _ (List.mem_append_right _ (List.mem_append_right _ (List.mem_of_getElem? (i := 88) rfl)))
theorem kX5_asPoet : Jvm.Cond.code yX5_asPoet cX5_asPoet 2 (some .int) ∈ tables_1 := List.mem_append_right _ (List.mem_append_right _ (List.mem_append_right _ (List.mem_of_getElem? (i := 92) rfl)))
theorem kX5_asHorse : Jvm.Cond.code yX5_asHorse cX5_asHorse 2 (some .int) ∈ tables_1 := List.mem_append_right _ (List.mem_append_right _ (List.mem_append_right _ (List.mem_of_getElem? (i := 97) rfl)))
theorem kX5_asSaint : Jvm.Cond.code yX5_asSaint cX5_asSaint 2 (some .int) ∈ tables_1 := List.mem_append_right _ (List.mem_append_right _ (List.mem_append_right _ (List.mem_of_getElem? (i := 102) rfl)))
theorem kX5_asGirl : Jvm.Cond.code yX5_asGirl cX5_asGirl 2 (some .int) ∈ tables_1 := List.mem_append_right _ (List.mem_append_right _ (List.mem_append_right _ (List.mem_of_getElem? (i := 107) rfl)))
theorem kX5_rate : Jvm.Cond.code yX5_rate cX5_rate 3 (some .int) ∈ tables_1 := List.mem_append_right _ (List.mem_append_right _ (List.mem_append_right _ (List.mem_of_getElem? (i := 79) rfl)))
theorem kX5_keep : Jvm.Cond.code yX5_keep cX5_keep 3 (some .int) ∈ tables_1 := List.mem_append_right _ (List.mem_append_right _ (List.mem_append_right _ (List.mem_of_getElem? (i := 112) rfl)))
theorem kX5_back : Jvm.Cond.code yX5_back cX5_back 3 (some .int) ∈ tables_1 := List.mem_append_right _ (List.mem_append_right _ (List.mem_append_right _ (List.mem_of_getElem? (i := 116) rfl)))
theorem kX5_count : Jvm.Cond.code yX5_count cX5_count 2 (some .int) ∈ tables_1 := List.mem_append_right _ (List.mem_append_right _ (List.mem_append_right _ (List.mem_of_getElem? (i := 120) rfl)))
theorem kX5_trace : Jvm.Cond.code yX5_trace cX5_trace 1 (some .long) ∈ tables_1 := List.mem_append_right _ (List.mem_append_right _ (List.mem_append_right _ (List.mem_of_getElem? (i := 124) rfl)))
theorem kJ6_bitCount_0f7a4 : Jvm.Cond.code yJ6_bitCount_0f7a4 cJ6_bitCount_0f7a4 1 (some .int) ∈ tables_1 := List.mem_append_right _ (List.mem_append_left _ (List.mem_of_getElem? (i := 142) rfl))
theorem kJ9_abs_0f7a4 : Jvm.Cond.code yJ9_abs_0f7a4 cJ9_abs_0f7a4 1 (some .int) ∈ tables_1 := List.mem_append_right _ (List.mem_append_left _ (List.mem_of_getElem? (i := 90) rfl))
theorem kJ9_max_7cf53 : Jvm.Cond.code yJ9_max_7cf53 cJ9_max_7cf53 2 (some .int) ∈ tables_1 := List.mem_append_right _ (List.mem_append_right _ (List.mem_append_left _ (List.mem_of_getElem? (i := 4) rfl)))
theorem kJ9_min_7cf53 : Jvm.Cond.code yJ9_min_7cf53 cJ9_min_7cf53 2 (some .int) ∈ tables_1 := List.mem_append_right _ (List.mem_append_left _ (List.mem_of_getElem? (i := 6) rfl))
theorem z_pk0 : ∀ r ∈ (z_my.drop 0).take 16, z_pk r := List.forall_mem_cons.mpr ⟨Or.inl rfl, List.forall_mem_cons.mpr ⟨Or.inr kX0_init, List.forall_mem_cons.mpr ⟨Or.inr kX0_lose, List.forall_mem_cons.mpr ⟨Or.inr kX0_add, List.forall_mem_cons.mpr ⟨Or.inr kX0_loseOldest, List.forall_mem_cons.mpr ⟨Or.inr kX0_takeBack, List.forall_mem_cons.mpr ⟨Or.inr kX1_init, List.forall_mem_cons.mpr ⟨Or.inr kX1_addLetter, List.forall_mem_cons.mpr ⟨Or.inr kX1_giveTown, List.forall_mem_cons.mpr ⟨Or.inr kX1_readTown, List.forall_mem_cons.mpr ⟨Or.inr kX1_readItem, List.forall_mem_cons.mpr ⟨Or.inr kX1_readYards, List.forall_mem_cons.mpr ⟨Or.inr kX1_readSight, List.forall_mem_cons.mpr ⟨Or.inr kX1_readStatue, List.forall_mem_cons.mpr ⟨Or.inr kX1_readOne, List.forall_mem_cons.mpr ⟨Or.inr kX1_readStop, fun _ h => absurd h List.not_mem_nil⟩⟩⟩⟩⟩⟩⟩⟩⟩⟩⟩⟩⟩⟩⟩⟩
theorem z_pk1 : ∀ r ∈ (z_my.drop 16).take 16, z_pk r := List.forall_mem_cons.mpr ⟨Or.inr kX1_readNumber, List.forall_mem_cons.mpr ⟨Or.inr kX1_numberOfToken, List.forall_mem_cons.mpr ⟨Or.inr kX1_readInsults, List.forall_mem_cons.mpr ⟨Or.inr kX1_insultsOfRow, List.forall_mem_cons.mpr ⟨Or.inr kX1_readToken, List.forall_mem_cons.mpr ⟨Or.inr kX1_kindOf, List.forall_mem_cons.mpr ⟨Or.inr kX2_init, List.forall_mem_cons.mpr ⟨Or.inr kX2_begin, List.forall_mem_cons.mpr ⟨Or.inr kX2_copyFrom, List.forall_mem_cons.mpr ⟨Or.inr kX2_timesBelieved, List.forall_mem_cons.mpr ⟨Or.inr kX3_init, List.forall_mem_cons.mpr ⟨Or.inr kX3_empty, List.forall_mem_cons.mpr ⟨Or.inr kX3_hasStatue, List.forall_mem_cons.mpr ⟨Or.inr kX3_hasOne, List.forall_mem_cons.mpr ⟨Or.inr kX3_hasYard, List.forall_mem_cons.mpr ⟨Or.inr kX3_isTaken, fun _ h => absurd h List.not_mem_nil⟩⟩⟩⟩⟩⟩⟩⟩⟩⟩⟩⟩⟩⟩⟩⟩
theorem z_pk2 : ∀ r ∈ (z_my.drop 32).take 16, z_pk r := List.forall_mem_cons.mpr ⟨Or.inr kX3_addStatue, List.forall_mem_cons.mpr ⟨Or.inr kX3_addOne, List.forall_mem_cons.mpr ⟨Or.inr kX3_findInsulted, List.forall_mem_cons.mpr ⟨Or.inr kX3_strengthOf, List.forall_mem_cons.mpr ⟨Or.inr kX4_init, List.forall_mem_cons.mpr ⟨Or.inr kX4_type, List.forall_mem_cons.mpr ⟨Or.inr kX4_clear, List.forall_mem_cons.mpr ⟨Or.inr kX4_town, List.forall_mem_cons.mpr ⟨Or.inr kX4_beginAnew, List.forall_mem_cons.mpr ⟨Or.inr kX4_statue, List.forall_mem_cons.mpr ⟨Or.inr kX4_one, List.forall_mem_cons.mpr ⟨Or.inr kX4_now, List.forall_mem_cons.mpr ⟨Or.inr kX4_comes, List.forall_mem_cons.mpr ⟨Or.inr kX4_goes, List.forall_mem_cons.mpr ⟨Or.inr kX4_claims, List.forall_mem_cons.mpr ⟨Or.inr kX4_pulls, fun _ h => absurd h List.not_mem_nil⟩⟩⟩⟩⟩⟩⟩⟩⟩⟩⟩⟩⟩⟩⟩⟩
theorem z_pk3 : ∀ r ∈ (z_my.drop 48).take 16, z_pk r := List.forall_mem_cons.mpr ⟨Or.inr kX4_undo, List.forall_mem_cons.mpr ⟨Or.inr kX4_gather, List.forall_mem_cons.mpr ⟨Or.inr kX4_bare, List.forall_mem_cons.mpr ⟨Or.inr kX4_scale, List.forall_mem_cons.mpr ⟨Or.inr kX4_offends, List.forall_mem_cons.mpr ⟨Or.inr kX4_odds, List.forall_mem_cons.mpr ⟨Or.inr kX4_sees, List.forall_mem_cons.mpr ⟨Or.inr kX4_forget, List.forall_mem_cons.mpr ⟨Or.inr kX4_who, List.forall_mem_cons.mpr ⟨Or.inr kX4_show, List.forall_mem_cons.mpr ⟨Or.inr kX4_rate, List.forall_mem_cons.mpr ⟨Or.inr kX4_keep, List.forall_mem_cons.mpr ⟨Or.inr kX4_back, List.forall_mem_cons.mpr ⟨Or.inr kX4_count, List.forall_mem_cons.mpr ⟨Or.inr kX4_trace, List.forall_mem_cons.mpr ⟨Or.inr kX4_wrongedBy, fun _ h => absurd h List.not_mem_nil⟩⟩⟩⟩⟩⟩⟩⟩⟩⟩⟩⟩⟩⟩⟩⟩
theorem z_pk4 : ∀ r ∈ (z_my.drop 64).take 16, z_pk r := List.forall_mem_cons.mpr ⟨Or.inr kX4_pullersAt, List.forall_mem_cons.mpr ⟨Or.inr kX4_pullAt, List.forall_mem_cons.mpr ⟨Or.inr kX4_moves, List.forall_mem_cons.mpr ⟨Or.inr kX4_moving, List.forall_mem_cons.mpr ⟨Or.inr kX4_allMoveBy, List.forall_mem_cons.mpr ⟨Or.inr kX4_statueIn, List.forall_mem_cons.mpr ⟨Or.inr kX4_emptyYards, List.forall_mem_cons.mpr ⟨Or.inr kX4_pullsToBare, List.forall_mem_cons.mpr ⟨Or.inr kX4_offendedIn, List.forall_mem_cons.mpr ⟨Or.inr kX4_placeOf, List.forall_mem_cons.mpr ⟨Or.inr kX4_chancesToMove, List.forall_mem_cons.mpr ⟨Or.inr kX4_stillPossible, List.forall_mem_cons.mpr ⟨Or.inr kX4_asStatue, List.forall_mem_cons.mpr ⟨Or.inr kX4_asGeneral, List.forall_mem_cons.mpr ⟨Or.inr kX4_asPoet, List.forall_mem_cons.mpr ⟨Or.inr kX4_asHorse, fun _ h => absurd h List.not_mem_nil⟩⟩⟩⟩⟩⟩⟩⟩⟩⟩⟩⟩⟩⟩⟩⟩
theorem z_pk5 : ∀ r ∈ (z_my.drop 80).take 16, z_pk r := List.forall_mem_cons.mpr ⟨Or.inr kX4_asSaint, List.forall_mem_cons.mpr ⟨Or.inr kX4_asGirl, List.forall_mem_cons.mpr ⟨Or.inr kX4_has, List.forall_mem_cons.mpr ⟨Or.inr kX4_isWithin, List.forall_mem_cons.mpr ⟨Or.inr kX4_isSide, List.forall_mem_cons.mpr ⟨Or.inr kX4_stepTo, List.forall_mem_cons.mpr ⟨Or.inr kX4_isImage, List.forall_mem_cons.mpr ⟨Or.inr kX4_ordersOf, List.forall_mem_cons.mpr ⟨Or.inr kX4_power, List.forall_mem_cons.mpr ⟨Or.inr kX4_commonDivisor, List.forall_mem_cons.mpr ⟨Or.inr kX5_init, List.forall_mem_cons.mpr ⟨Or.inr kX5_in, List.forall_mem_cons.mpr ⟨Or.inr kX5_has, List.forall_mem_cons.mpr ⟨Or.inr kX5_ones, List.forall_mem_cons.mpr ⟨Or.inr kX5_type, List.forall_mem_cons.mpr ⟨Or.inr kX5_clear, fun _ h => absurd h List.not_mem_nil⟩⟩⟩⟩⟩⟩⟩⟩⟩⟩⟩⟩⟩⟩⟩⟩
theorem z_pk6 : ∀ r ∈ (z_my.drop 96).take 16, z_pk r := List.forall_mem_cons.mpr ⟨Or.inr kX5_isFigure, List.forall_mem_cons.mpr ⟨Or.inr kX5_isLetter, List.forall_mem_cons.mpr ⟨Or.inr kX5_next, List.forall_mem_cons.mpr ⟨Or.inr kX5_isNumber, List.forall_mem_cons.mpr ⟨Or.inr kX5_isEnd, List.forall_mem_cons.mpr ⟨Or.inr kX5_isInsults, List.forall_mem_cons.mpr ⟨Or.inr kX5_isEmptyYard, List.forall_mem_cons.mpr ⟨Or.inr kX5_statueItem, List.forall_mem_cons.mpr ⟨Or.inr kX5_personItem, List.forall_mem_cons.mpr ⟨Or.inr kX5_item, List.forall_mem_cons.mpr ⟨Or.inr kX5_readAll, List.forall_mem_cons.mpr ⟨Or.inr kX5_town, List.forall_mem_cons.mpr ⟨Or.inr kX5_isStatue, List.forall_mem_cons.mpr ⟨Or.inr kX5_isOne, List.forall_mem_cons.mpr ⟨Or.inr kX5_isYard, List.forall_mem_cons.mpr ⟨Or.inr kX5_isWronged, fun _ h => absurd h List.not_mem_nil⟩⟩⟩⟩⟩⟩⟩⟩⟩⟩⟩⟩⟩⟩⟩⟩
theorem z_pk7 : ∀ r ∈ (z_my.drop 112).take 16, z_pk r := List.forall_mem_cons.mpr ⟨Or.inr kX5_wronged, List.forall_mem_cons.mpr ⟨Or.inr kX5_strength, List.forall_mem_cons.mpr ⟨Or.inr kX5_pull, List.forall_mem_cons.mpr ⟨Or.inr kX5_moves, List.forall_mem_cons.mpr ⟨Or.inr kX5_statueIn, List.forall_mem_cons.mpr ⟨Or.inr kX5_offended, List.forall_mem_cons.mpr ⟨Or.inr kX5_placeOf, List.forall_mem_cons.mpr ⟨Or.inr kX5_statue, List.forall_mem_cons.mpr ⟨Or.inr kX5_one, List.forall_mem_cons.mpr ⟨Or.inr kX5_now, List.forall_mem_cons.mpr ⟨Or.inr kX5_note, List.forall_mem_cons.mpr ⟨Or.inr kX5_comes, List.forall_mem_cons.mpr ⟨Or.inr kX5_goes, List.forall_mem_cons.mpr ⟨Or.inr kX5_claims, List.forall_mem_cons.mpr ⟨Or.inr kX5_pulls, List.forall_mem_cons.mpr ⟨Or.inr kX5_undo, fun _ h => absurd h List.not_mem_nil⟩⟩⟩⟩⟩⟩⟩⟩⟩⟩⟩⟩⟩⟩⟩⟩
theorem z_pk8 : ∀ r ∈ (z_my.drop 128).take 16, z_pk r := List.forall_mem_cons.mpr ⟨Or.inr kX5_gather, List.forall_mem_cons.mpr ⟨Or.inr kX5_bareBy, List.forall_mem_cons.mpr ⟨Or.inr kX5_bare, List.forall_mem_cons.mpr ⟨Or.inr kX5_scale, List.forall_mem_cons.mpr ⟨Or.inr kX5_orders, List.forall_mem_cons.mpr ⟨Or.inr kX5_offends, List.forall_mem_cons.mpr ⟨Or.inr kX5_odds, List.forall_mem_cons.mpr ⟨Or.inr kX5_sees, List.forall_mem_cons.mpr ⟨Or.inr kX5_forget, List.forall_mem_cons.mpr ⟨Or.inr kX5_who, List.forall_mem_cons.mpr ⟨Or.inr kX5_show, List.forall_mem_cons.mpr ⟨Or.inr kX5_asStatue, List.forall_mem_cons.mpr ⟨Or.inr kX5_asGeneral, List.forall_mem_cons.mpr ⟨Or.inr kX5_asPoet, List.forall_mem_cons.mpr ⟨Or.inr kX5_asHorse, List.forall_mem_cons.mpr ⟨Or.inr kX5_asSaint, fun _ h => absurd h List.not_mem_nil⟩⟩⟩⟩⟩⟩⟩⟩⟩⟩⟩⟩⟩⟩⟩⟩
theorem z_pk9 : ∀ r ∈ (z_my.drop 144).take 16, z_pk r := List.forall_mem_cons.mpr ⟨Or.inr kX5_asGirl, List.forall_mem_cons.mpr ⟨Or.inr kX5_rate, List.forall_mem_cons.mpr ⟨Or.inr kX5_keep, List.forall_mem_cons.mpr ⟨Or.inr kX5_back, List.forall_mem_cons.mpr ⟨Or.inr kX5_count, List.forall_mem_cons.mpr ⟨Or.inr kX5_trace, List.forall_mem_cons.mpr ⟨Or.inr kJ6_bitCount_0f7a4, List.forall_mem_cons.mpr ⟨Or.inr kJ9_abs_0f7a4, List.forall_mem_cons.mpr ⟨Or.inr kJ9_max_7cf53, List.forall_mem_cons.mpr ⟨Or.inr kJ9_min_7cf53, List.forall_mem_cons.mpr ⟨Or.inl rfl, fun _ h => absurd h List.not_mem_nil⟩⟩⟩⟩⟩⟩⟩⟩⟩⟩⟩
theorem z_mem16 {α : Type} {P : α → Prop} {l : List α} (n : Nat) (h1 : ∀ r ∈ l.take n, P r) (h2 : ∀ r ∈ l.drop n, P r) : ∀ r ∈ l, P r := fun r h => by
  rw [← List.take_append_drop n l] at h
  exact (List.mem_append.mp h).elim (h1 r) (h2 r)
theorem f_code : ∀ r ∈ z_my, z_pk r := by
  refine z_mem16 16 z_pk0 ?_
  try rw [List.drop_drop]
  refine z_mem16 16 z_pk1 ?_
  try rw [List.drop_drop]
  refine z_mem16 16 z_pk2 ?_
  try rw [List.drop_drop]
  refine z_mem16 16 z_pk3 ?_
  try rw [List.drop_drop]
  refine z_mem16 16 z_pk4 ?_
  try rw [List.drop_drop]
  refine z_mem16 16 z_pk5 ?_
  try rw [List.drop_drop]
  refine z_mem16 16 z_pk6 ?_
  try rw [List.drop_drop]
  refine z_mem16 16 z_pk7 ?_
  try rw [List.drop_drop]
  refine z_mem16 16 z_pk8 ?_
  try rw [List.drop_drop]
  refine z_mem16 16 z_pk9 ?_
  try rw [List.drop_drop]
  exact fun r h => absurd h (by simp [z_my])
end
section
def z_inf (M : Nat) : Nat × Bool × List (List (Option zR)) := match z_tab[M]? with
  | some q => q
  | none => (0, false, [])
/-- a method's run: with at most mc new cells of ms slots, calls at most d deep -/
def Ex (S : zS) : Nat → zQ
  | 0 => fun _ _ _ _ _ _ _ => False
  | d + 1 => fun mc ms M args h v h' => Nat.ble (z_ent1 args).length (z_inf M).1 = true ∧ ∀ X : zX, z_cl S (Ex S d) (z_inf M).2.2 (z_inf M).2.1 mc ms (fun v' g' => v' = v ∧ g' = h') X → X 0 (z_ent (z_inf M).1 args) [] h 0 0
theorem exI {S : zS} {d mc ms M ml : Nat} {rb : Bool} {T : List (List (Option zR))} {args : List Value} {h : zH} {v : Option Value} {h' : zH} (hM : z_inf M = (ml, rb, T)) (hl : Nat.ble (z_ent1 args).length ml = true) (H : ∀ X : zX, z_cl S (Ex S d) T rb mc ms (fun v' g' => v' = v ∧ g' = h') X → X 0 (z_ent ml args) [] h 0 0) : Ex S (d + 1) mc ms M args h v h' := by
  refine ⟨by rw [hM]; exact hl, fun X hX => ?_⟩
  have := H X (by rw [hM] at hX; exact hX)
  rw [hM]
  exact this
end
section
/-! ===== from the small machine's cells to the kit's worlds ===== -/
abbrev z_cls : List vw_C := [(RX0, TX0, 4), (RX1, TX1, 9), (RX2, TX2, 3), (RX3, TX3, 12), (RX4, TX4, 10), (RX5, TX5, 18)]
def z_tv (ad : Nat → Nat) (v : Value) : Value := match v with
  | .ref k => .ref (ad k)
  | v => v
def z_te (dA : Nat → ClassId) (ad : Nat → Nat) (c : zC) : va_E := match c with
  | .inl (t, n, f) => .inl (dA t, n, .inl f)
  | .inr (.inl l) => .inl (dA 2, l.length, .inr (.inr (.inr (.inr fun j => ((l[j]?).getD none).map ad))))
  | .inr (.inr (ci, fs)) => .inr (ci, fs.map (z_tv ad))
def z_tl (dA : Nat → ClassId) (ad : Nat → Nat) : Nat → List zC → va_W
  | _, [] => []
  | o, c :: r => (ad o, z_te dA ad c) :: z_tl dA ad (o + 1) r
def z_tw (dA : Nat → ClassId) (ad : Nat → Nat) (h : zH) : va_W := z_tl dA ad 0 h.1 ++ z_tl dA ad 1000 h.2
theorem z_tl_len (dA : Nat → ClassId) (ad : Nat → Nat) : ∀ (l : List zC) (o : Nat), (z_tl dA ad o l).length = l.length
  | [], _ => rfl
  | _ :: r, o => congrArg (· + 1) (z_tl_len dA ad r (o + 1))
theorem z_tl_get (dA : Nat → ClassId) (ad : Nat → Nat) : ∀ (l : List zC) (o k : Nat), (z_tl dA ad o l)[k]? = (l[k]?).map fun c => (ad (o + k), z_te dA ad c)
  | [], _, _ => by simp [z_tl]
  | c :: r, o, 0 => by simp [z_tl]
  | c :: r, o, k + 1 => by
    have := z_tl_get dA ad r (o + 1) k
    simp only [z_tl, List.getElem?_cons_succ]
    rw [this, show o + 1 + k = o + (k + 1) by omega]
theorem z_tl_set (dA : Nat → ClassId) (ad : Nat → Nat) : ∀ (l : List zC) (o k : Nat) (c : zC), (z_tl dA ad o l).set k (ad (o + k), z_te dA ad c) = z_tl dA ad o (l.set k c)
  | [], _, _, _ => by simp [z_tl]
  | c0 :: r, o, 0, c => by simp [z_tl]
  | c0 :: r, o, k + 1, c => by
    have := z_tl_set dA ad r (o + 1) k c
    simp only [z_tl, List.set_cons_succ]
    rw [← this, show o + 1 + k = o + (k + 1) by omega]
theorem z_tl_app (dA : Nat → ClassId) (ad : Nat → Nat) : ∀ (l : List zC) (o : Nat) (c : zC), z_tl dA ad o (l ++ [c]) = z_tl dA ad o l ++ [(ad (o + l.length), z_te dA ad c)]
  | [], o, c => by simp [z_tl]
  | c0 :: r, o, c => by
    have := z_tl_app dA ad r (o + 1) c
    simp only [z_tl, List.cons_append, List.length_cons]
    rw [this, show o + 1 + r.length = o + (r.length + 1) by omega]
theorem z_tl_congr (dA : Nat → ClassId) {ad ad' : Nat → Nat} : ∀ (l : List zC) (o : Nat), (∀ c ∈ l, z_te dA ad c = z_te dA ad' c) → (∀ k, k < l.length → ad (o + k) = ad' (o + k)) → z_tl dA ad o l = z_tl dA ad' o l
  | [], _, _, _ => rfl
  | c :: r, o, h1, h2 => by
    have := z_tl_congr dA r (o + 1) (fun x hx => h1 x (List.mem_cons_of_mem _ hx)) (fun k hk => by
      have := h2 (k + 1) (by simpa using hk)
      rwa [show o + (k + 1) = o + 1 + k by omega] at this)
    have h0 := h2 0 (by simp)
    simp only [z_tl]
    rw [this, h1 c List.mem_cons_self, show ad o = ad' o from h0]
def z_pos (h : zH) (k : Nat) : Nat := if Nat.ble 1000 k = true then h.1.length + (k - 1000) else k
theorem z_get_tw (dA : Nat → ClassId) (ad : Nat → Nat) {h : zH} {k : Nat} {c : zC} (hg : z_get h k = some c) : (z_tw dA ad h)[z_pos h k]? = some (ad k, z_te dA ad c) := by
  unfold z_get at hg
  unfold z_tw z_pos
  cases hb : Nat.ble 1000 k with
  | true =>
    rw [hb] at hg
    have hk : 1000 ≤ k := Nat.le_of_ble_eq_true hb
    simp only [if_true]
    rw [List.getElem?_append_right (by rw [z_tl_len]; omega), z_tl_len, z_tl_get, show h.1.length + (k - 1000) - h.1.length = k - 1000 by omega, show h.2[k - 1000]? = some c from hg, show 1000 + (k - 1000) = k by omega]
    rfl
  | false =>
    rw [hb] at hg
    have hl : k < h.1.length := (List.getElem?_eq_some_iff.mp hg).1
    simp only [Bool.false_eq_true, if_false]
    rw [List.getElem?_append_left (by rw [z_tl_len]; exact hl), z_tl_get, show h.1[k]? = some c from hg, Nat.zero_add]
    rfl
theorem z_set_tw (dA : Nat → ClassId) (ad : Nat → Nat) {h : zH} {k : Nat} {c0 : zC} (c : zC) (hg : z_get h k = some c0) : (z_tw dA ad h).set (z_pos h k) (ad k, z_te dA ad c) = z_tw dA ad (z_set h k c) := by
  unfold z_get at hg
  unfold z_tw z_pos z_set
  cases hb : Nat.ble 1000 k with
  | true =>
    rw [hb] at hg
    have hk : 1000 ≤ k := Nat.le_of_ble_eq_true hb
    simp only [if_true]
    rw [List.set_append_right _ _ (by rw [z_tl_len]; omega), z_tl_len, show h.1.length + (k - 1000) - h.1.length = k - 1000 by omega]
    have := z_tl_set dA ad h.2 1000 (k - 1000) c
    rw [show 1000 + (k - 1000) = k by omega] at this
    rw [this]
  | false =>
    rw [hb] at hg
    have hl : k < h.1.length := (List.getElem?_eq_some_iff.mp hg).1
    simp only [Bool.false_eq_true, if_false]
    rw [List.set_append_left _ _ (by rw [z_tl_len]; exact hl)]
    have := z_tl_set dA ad h.1 0 k c
    rw [Nat.zero_add] at this
    rw [this]
theorem z_set_len1 (h : zH) (k : Nat) (c : zC) : (z_set h k c).1.length = h.1.length := by
  unfold z_set; cases Nat.ble 1000 k <;> simp
theorem z_set_len2 (h : zH) (k : Nat) (c : zC) : (z_set h k c).2.length = h.2.length := by
  unfold z_set; cases Nat.ble 1000 k <;> simp
/-- the address of one new cell -/
def z_ad (ad : Nat → Nat) (r q : Nat) : Nat → Nat := fun k => if k = r then q else ad k
theorem z_tv_congr {h : zH} {ad ad' : Nat → Nat} (ha : ∀ r, z_okr h r = true → ad' r = ad r) {v : Value} (hv : z_okv h v = true) : z_tv ad' v = z_tv ad v := by
  cases v with
  | ref k => exact congrArg Value.ref (ha k hv)
  | _ => rfl
theorem z_tvs_congr {h : zH} {ad ad' : Nat → Nat} (ha : ∀ r, z_okr h r = true → ad' r = ad r) {st : List Value} (hv : st.all (z_okv h) = true) : st.map (z_tv ad') = st.map (z_tv ad) :=
  List.map_congr_left fun v hm => z_tv_congr ha (List.all_eq_true.mp hv v hm)
theorem z_te_congr (dA : Nat → ClassId) {h : zH} {ad ad' : Nat → Nat} (ha : ∀ r, z_okr h r = true → ad' r = ad r) {c : zC} (hv : z_okc h c = true) : z_te dA ad' c = z_te dA ad c := by
  match c with
  | .inl _ => rfl
  | .inr (.inl l) =>
    have : (fun j : Nat => ((l[j]?).getD none).map ad') = fun j : Nat => ((l[j]?).getD none).map ad := by
      funext j
      cases hl : l[j]? with
      | none => rfl
      | some o =>
        have := List.all_eq_true.mp hv o (List.mem_of_getElem? hl)
        cases o with
        | none => rfl
        | some k => simp [ha k this]
    show Sum.inl (dA 2, l.length, Sum.inr (Sum.inr (Sum.inr (Sum.inr fun j : Nat => ((l[j]?).getD none).map ad')))) = Sum.inl (dA 2, l.length, Sum.inr (Sum.inr (Sum.inr (Sum.inr fun j : Nat => ((l[j]?).getD none).map ad))))
    rw [this]
  | .inr (.inr (ci, fs)) =>
    show Sum.inr (ci, fs.map (z_tv ad')) = Sum.inr (ci, fs.map (z_tv ad))
    rw [z_tvs_congr ha hv]
theorem z_tw_congr (dA : Nat → ClassId) {h : zH} {ad ad' : Nat → Nat} (ha : ∀ r, z_okr h r = true → ad' r = ad r) (hv : z_wfh h = true) : z_tw dA ad' h = z_tw dA ad h := by
  unfold z_wfh at hv
  rw [Bool.and_eq_true] at hv
  unfold z_tw
  rw [z_tl_congr dA h.1 0 (fun c hc => z_te_congr dA ha (List.all_eq_true.mp hv.1 c hc)) (fun k hk => ha _ (by simp [z_okr, Nat.blt, hk]; omega)),
    z_tl_congr dA h.2 1000 (fun c hc => z_te_congr dA ha (List.all_eq_true.mp hv.2 c hc)) (fun k hk => ha _ (by simp [z_okr, Nat.blt]; omega))]
/-- the locals -/
def z_lr (ad : Nat → Nat) (ml : Nat) (ls : zL) (lsC : Array Slot) : Prop := ls.length = ml ∧ lv_has lsC ml [] ∧ ∀ (i : Nat) (v : Value), ls[i]? = some (some v) → lsC[i]? = some (.val (z_tv ad v))
theorem z_lr_congr {h : zH} {ad ad' : Nat → Nat} (ha : ∀ r, z_okr h r = true → ad' r = ad r) {ml : Nat} {ls : zL} {lsC : Array Slot} (hv : ls.all (z_oko h) = true) (hl : z_lr ad ml ls lsC) : z_lr ad' ml ls lsC := by
  refine ⟨hl.1, hl.2.1, fun i v hi => ?_⟩
  rw [z_tv_congr ha (show z_okv h v = true from List.all_eq_true.mp hv (some v) (List.mem_of_getElem? hi))]
  exact hl.2.2 i v hi
/-- the pairs that hold, as the kit lists them -/
def z_prs (ad : Nat → Nat) : Nat → zL → List (Nat × Value)
  | _, [] => []
  | o, some v :: r => (o, z_tv ad v) :: z_prs ad (o + 1) r
  | o, none :: r => z_prs ad (o + 1) r
theorem z_prs_mem (ad : Nat → Nat) : ∀ (ls : zL) (o i : Nat) (v : Value), ls[i]? = some (some v) → (o + i, z_tv ad v) ∈ z_prs ad o ls
  | [], _, _, _, h => by simp at h
  | some w :: r, o, 0, v, h => by
    simp at h; subst h; simp [z_prs]
  | none :: r, o, 0, v, h => by simp at h
  | some w :: r, o, i + 1, v, h => by
    have := z_prs_mem ad r (o + 1) i v (by simpa using h)
    rw [show o + (i + 1) = o + 1 + i by omega]
    exact List.mem_cons_of_mem _ this
  | none :: r, o, i + 1, v, h => by
    have := z_prs_mem ad r (o + 1) i v (by simpa using h)
    rw [show o + (i + 1) = o + 1 + i by omega]
    exact this
theorem z_prs_of (ad : Nat → Nat) : ∀ (ls : zL) (o : Nat) (q : Nat × Value), q ∈ z_prs ad o ls → ∃ (i : Nat) (v : Value), ls[i]? = some (some v) ∧ q = (o + i, z_tv ad v)
  | [], _, _, h => by simp [z_prs] at h
  | some w :: r, o, q, h => by
    rcases List.mem_cons.mp h with h | h
    · exact ⟨0, w, rfl, h⟩
    · obtain ⟨i, v, h1, h2⟩ := z_prs_of ad r (o + 1) q h
      exact ⟨i + 1, v, by simpa using h1, by rw [h2, show o + 1 + i = o + (i + 1) by omega]⟩
  | none :: r, o, q, h => by
    obtain ⟨i, v, h1, h2⟩ := z_prs_of ad r (o + 1) q h
    exact ⟨i + 1, v, by simpa using h1, by rw [h2, show o + 1 + i = o + (i + 1) by omega]⟩
theorem z_lr_has {ad : Nat → Nat} {ml : Nat} {ls : zL} {lsC : Array Slot} (h : z_lr ad ml ls lsC) : lv_has lsC ml (z_prs ad 0 ls) := by
  refine ⟨h.2.1.1, h.2.1.2.1, fun q hq => ?_⟩
  obtain ⟨i, v, h1, h2⟩ := z_prs_of ad ls 0 q hq
  rw [h2, Nat.zero_add]
  exact h.2.2 i v h1
theorem z_cat_tv (ad : Nat → Nat) (v : Value) : (z_tv ad v).category = v.category := by cases v <;> rfl
/-- a store of an int or a reference where no long lies -/
theorem z_lr_set {ad : Nat → Nat} {ml : Nat} {ls : zL} {lsC lsC' : Array Slot} {a : Nat} {v : Value} (h : z_lr ad ml ls lsC) (hn : ls.any z_isl = false)
    (h' : lv_has lsC' ml ((a, z_tv ad v) :: (z_prs ad 0 ls).filter (fun q => !(q.1 == a) && !(q.1 + 1 == a && q.2.category == 2)))) : z_lr ad ml (ls.set a (some v)) lsC' := by
  refine ⟨by rw [List.length_set]; exact h.1, ⟨h'.1, h'.2.1, fun q hq => by simp at hq⟩, fun i w hi => ?_⟩
  by_cases hia : i = a
  · subst hia
    rw [List.getElem?_set] at hi
    by_cases hl : i < ls.length
    · simp [hl] at hi
      subst hi
      exact h'.2.2 (i, z_tv ad v) List.mem_cons_self
    · simp [hl] at hi
  · rw [List.getElem?_set_ne (Ne.symm hia)] at hi
    refine h'.2.2 (i, z_tv ad w) (List.mem_cons_of_mem _ (List.mem_filter.mpr ⟨?_, ?_⟩))
    · have := z_prs_mem ad ls 0 i w hi
      rwa [Nat.zero_add] at this
    · have hc : ¬ w.category = 2 := fun hc => by
        have h1 : z_isl (some w) = true := by cases w <;> first | rfl | (simp [Value.category] at hc; done)
        have h2 := List.any_eq_false.mp hn (some w) (List.mem_of_getElem? hi)
        exact h2 h1
      simp only [z_cat_tv]
      simp [hia, hc]
end
section
/-! ===== what the tables say of the links; the check of a row of code ===== -/
def z_cn (o : Nat) : String := match o with
  | 0 => RX0
  | 1 => RX1
  | 2 => RX2
  | 3 => RX3
  | 4 => RX4
  | 5 => RX5
  | 6 => RJ6
  | 7 => RJ9
  | _ => RL
def z_ty (o : Nat) : Nat → FieldType := match o with
  | 0 => tyX0
  | 1 => tyX1
  | 2 => tyX2
  | 3 => tyX3
  | 4 => tyX4
  | _ => tyX5
def z_kd (t : FieldType) : Nat := match t with
  | .int => 0
  | .boolean => 1
  | .long => 3
  | .object _ => 2
  | .array _ => 2
  | _ => 9
def z_ws : List Jvm.Cond := lw_tbl.filter goodWord
theorem z_inW {w : Jvm.Cond} (h : w ∈ tables_1) (g : goodWord w = true) : w ∈ z_ws := List.mem_filter.mpr ⟨List.mem_append_right _ h, g⟩
/-- a check of each of a list, with a place that goes with it -/
def z_all2 {α : Type} (P : α → Nat → Bool) : List α → List Nat → Bool
  | [], _ => true
  | q :: r, p :: s => P q p && z_all2 P r s
  | _ :: _, [] => false
theorem z_all2_of {α : Type} {P : α → Nat → Bool} : ∀ {l : List α} {s : List Nat}, z_all2 P l s = true → ∀ q ∈ l, ∃ p, P q p = true
  | [], _, _, _, h => by simp at h
  | q :: r, p :: s, hh, q', h => by
    simp only [z_all2, Bool.and_eq_true] at hh
    rcases List.mem_cons.mp h with h | h
    · exact ⟨p, by rw [h]; exact hh.1⟩
    · exact z_all2_of hh.2 q' h
  | _ :: _, [], hh, _, _ => by simp [z_all2] at hh
def z_is? (p : Nat) (w : Jvm.Cond) : Bool := decide (tables_1[p]? = some w)
theorem z_is_mem {p : Nat} {w : Jvm.Cond} (h : z_is? p w = true) : w ∈ tables_1 := List.mem_of_getElem? (of_decide_eq_true h)
theorem f_fl : z_all2 (fun q p => match z_cls[q.2.2.1]? with
    | some r => decide (q.2.2.2 < r.2.2) && z_is? p (Jvm.Cond.fieldLink (z_cn q.1) q.2.1 (r.2.1 q.2.2.2).1 (r.2.1 q.2.2.2).2.1 (r.2.1 q.2.2.2).2.2.1)
    | none => false) z_fl z_flp = true := by decide +kernel
theorem f_ml : z_all2 (fun q p => match z_my[q.2.2]? with
    | some r => z_is? p (Jvm.Cond.methodLink (z_cn q.1) q.2.1 r.2.1)
    | none => false) z_ml z_mlp = true := by decide +kernel
theorem f_nl : (z_nl.all fun q => match z_my[q.2.2.1]? with
    | some r => decide (Jvm.Cond.methodLinkNest (z_cn q.1) q.2.1 r.2.1 q.2.2.2 ∈ tables_1)
    | none => false) = true := by decide +kernel
theorem f_cll : (z_cll.all fun q => match z_cls[q.2.2]? with
    | some r => decide (Jvm.Cond.classLink (z_cn q.1) q.2.1 r.1 ∈ tables_1) && decide (Jvm.Cond.instantiable r.1 r.2.2 ∈ tables_1) && decide (Jvm.Cond.initialized r.1 ∈ tables_1)
    | none => false) = true := by decide +kernel
theorem f_kc : (z_kc.all fun q => decide (Jvm.Cond.constant (z_cn q.1) q.2.1 q.2.2 ∈ tables_1)) = true := by decide +kernel
theorem f_kl : (z_kl.all fun q => decide (Jvm.Cond.constantLong (z_cn q.1) q.2.1 q.2.2 ∈ tables_1)) = true := by decide +kernel
theorem f_vs1 : z_all2 (fun q p => match z_my[q.1]?, z_cls[q.2.2]? with
    | some r, some e => z_is? p (Jvm.Cond.instanceMethod r.2.1) && decide ((parseMethodDescriptor r.2.1.desc).map (fun d => d.parameters.length + 1) = some q.2.1) && decide (e.1 = r.2.1.cls) && decide (r.1 < 8)
    | _, _ => false) z_vs z_vsp = true := by decide +kernel
theorem f_vs2 : z_all2 (fun q p => match z_my[q.1]? with
    | some r => decide (lw_tbl[p]? = some (Jvm.Cond.selects r.2.1.cls r.2.1 r.2.1))
    | none => false) z_vs z_vsq = true := by decide +kernel
theorem f_ss : z_all2 (fun q p => match z_my[q.1]? with
    | some r => z_is? p (Jvm.Cond.static r.2.1) && decide ((parseMethodDescriptor r.2.1.desc).map (fun d => d.parameters.length) = some q.2.1) && decide (r.1 < 8)
    | none => false) z_ss z_ssp = true := by decide +kernel
theorem f_is : z_all2 (fun q p => match z_my[q.1]? with
    | some r => z_is? p (Jvm.Cond.instanceMethod r.2.1) && decide (r.2.1.name = "<init>") && decide ((parseMethodDescriptor r.2.1.desc).map (fun d => d.parameters.length + 1) = some q.2.1) && decide (r.2.2.2.2 = none) && decide (r.1 < 8)
    | none => false) z_is z_isp = true := by decide +kernel
theorem f_my : z_all2 (fun r p => decide (r.1 = 8) || (decide (z_cn r.1 = r.2.1.cls) && z_is? p (Jvm.Cond.initialized r.2.1.cls) && plainFor r.2.1 && decide (r.2.1.cls ≠ "java/lang/invoke/MethodHandle") && decide (r.2.1.cls ≠ "java/lang/invoke/VarHandle") && Nat.ble r.2.2.2.1 17)) z_my z_myp = true := by decide +kernel
theorem f_cls : (z_cls.all fun r => (u_ws r.1 r.2.1 r.2.2).all fun w => decide (w ∈ tables_1)) = true := by decide +kernel
theorem f_obj : Jvm.Cond.instanceMethod objectInit ∈ tables_1 ∧ Jvm.Cond.code objectInit ⟨#[0xb1]⟩ 1 none ∈ tables_1 := by decide +kernel
theorem f_fac : Jvm.Cond.fieldLink RX4 266 "InsultStatues" "FACTORIAL" "[I" ∈ tables_1 := by decide +kernel
theorem f_arr : Jvm.Cond.arrayClass .int ∈ tables_1 ∧ Jvm.Cond.arrayClass .boolean ∈ tables_1 ∧ Jvm.Cond.classLink RX4 23 RX2 ∈ tables_1 := by decide +kernel
def z_csw (pc d : Nat) (lo : Int) (dflt hi : Int) (offs : List Int) (sw : List (Int32 × Nat)) : Bool :=
  decide ((pc : Int) + dflt = (d : Int)) && decide (hi = lo + (offs.length : Int) - 1) && decide (sw.length = offs.length) &&
  (List.range offs.length).all fun j => match offs[j]?, sw[j]? with
    | some o, some (x, t) => decide (x.toInt = lo + (j : Int)) && decide ((pc : Int) + o = (t : Int))
    | _, _ => false
def z_chk (own ml : Nat) (ini : Bool) (pc : Nat) (i : Instr) (nx a b c : Nat) (x : Int32) (y : Int64) (sw : List (Int32 × Nat)) : Bool := match i with
  | .iconst v => decide (nx = pc + 1) && decide (Int32.ofInt v = x)
  | .bipush v => decide (nx = pc + 2) && decide ((Int8.ofInt v).toInt32 = x)
  | .sipush v => decide (nx = pc + 3) && decide ((Int16.ofInt v).toInt32 = x)
  | .ldc v => decide (nx = pc + 2) && decide ((own, v, x) ∈ z_kc)
  | .ldc_w v => decide (nx = pc + 3) && decide ((own, v, x) ∈ z_kc)
  | .lconst v => decide (nx = pc + 1) && decide (Int64.ofNat (v : Nat) = y)
  | .ldc2_w v => decide (nx = pc + 3) && decide ((own, v, y) ∈ z_kl)
  | .iload_n v => decide (nx = pc + 1) && decide ((v : Nat) = a)
  | .aload_n v => decide (nx = pc + 1) && decide ((v : Nat) = a)
  | .lload_n v => decide (nx = pc + 1) && decide ((v : Nat) = a)
  | .iload v => decide (nx = pc + 2) && decide (v = a)
  | .aload v => decide (nx = pc + 2) && decide (v = a)
  | .lload v => decide (nx = pc + 2) && decide (v = a)
  | .istore_n v => decide (nx = pc + 1) && decide ((v : Nat) = a) && decide (a < ml)
  | .astore_n v => decide (nx = pc + 1) && decide ((v : Nat) = a) && decide (a < ml)
  | .istore v => decide (nx = pc + 2) && decide (v = a) && decide (a < ml)
  | .iinc v w => decide (nx = pc + 3) && decide (v = a) && decide (a < ml) && decide (Int32.ofInt w = x)
  | .ifCond _ o => decide (nx = pc + 3) && decide ((pc : Int) + o = (a : Int))
  | .if_icmp _ o => decide (nx = pc + 3) && decide ((pc : Int) + o = (a : Int))
  | .goto o => decide ((pc : Int) + o = (a : Int)) && decide (nx = pc + 3)
  | .tableswitch d lo hi offs => z_csw pc a lo d hi offs.toList sw
  | .getfield v => decide (nx = pc + 3) && decide ((own, v, a, b) ∈ z_fl)
  | .putfield v => decide (nx = pc + 3) && decide ((own, v, a, b) ∈ z_fl) && decide (z_kd (z_ty a b) = c) && (match z_cls[a]? with
    | some r => !(r.2.1 b).2.2.2 || (ini && decide ((r.2.1 b).1 = z_cn own))
    | none => false)
  | .getstatic v => decide (nx = pc + 3) && decide (own = 4) && decide (v = 266)
  | .new v => decide (nx = pc + 3) && decide ((own, v, a) ∈ z_cll) && (match z_cls[a]? with
    | some r => decide (r.2.2 = b)
    | none => false)
  | .newarray t => decide (nx = pc + 2) && ((decide (t = .int) && decide (a = 0)) || (decide (t = .boolean) && decide (a = 1))) && decide (b ≤ 1000)
  | .anewarray v => decide (nx = pc + 3) && decide (own = 4) && decide (v = 23) && decide (b ≤ 1000)
  | .invokevirtual v => decide (nx = pc + 3) && decide ((own, v, a) ∈ z_ml) && decide ((a, b, c) ∈ z_vs)
  | .invokestatic v => decide (nx = pc + 3) && (decide ((own, v, a) ∈ z_ml) || decide ((own, v, a, RX4) ∈ z_nl)) && decide ((a, b, c) ∈ z_ss)
  | .invokespecial v => decide (nx = pc + 3) && ((decide (a = 0) && decide ((own, v, 0) ∈ z_ml) && decide (b = 1)) || (!decide (a = 0) && (decide ((own, v, a) ∈ z_ml) || decide ((own, v, a, RX4) ∈ z_nl)) && decide ((a, b, c) ∈ z_is)))
  | _ => decide (nx = pc + 1)
def z_crt (ret : Option FieldType) (i : Instr) : Bool := match i with
  | .ireturn => decide (ret = some .int) || decide (ret = some .boolean)
  | .lreturn => decide (ret = some .long)
  | .areturn => decide (ret = some (.object RX3))
  | .return_ => decide (ret = none)
  | _ => true
def z_chkM (M : Nat) : Bool := match z_my[M]?, z_tab[M]? with
  | some (own, y, cc, ml, ret), some (ml', rb, T) => decide (ml = ml') && decide (rb = decide (ret = some .boolean)) &&
    (List.range (16 * T.length)).all fun pc => match z_at T pc with
      | none => true
      | some (i, nx, a, b, c, x, y', sw) => decide (decode cc pc = .ok (i, nx - pc)) && z_crt ret i && z_chk own ml (decide (y.name = "<init>")) pc i nx a b c x y' sw
  | _, _ => false
end
section
/-! ===== soundness: a run of the small machine is a run of the machine ===== -/
theorem z_clsP {a : Nat} {r : vw_C} (h : z_cls[a]? = some r) : (∀ k, k < r.2.2 → parseFieldDescriptor (r.2.1 k).2.2.1 = some (z_ty a k)) ∧ (∀ x, x < r.2.2 → ∀ y, y < r.2.2 → x ≠ y → (r.2.1 x).2.1 ≠ (r.2.1 y).2.1) ∧ (∀ w ∈ u_ws r.1 r.2.1 r.2.2, w ∈ z_ws) ∧ (∀ j, j < r.2.2 → defaultValue (z_ty a j) = vp_V (z_dfl a) j) ∧ (z_dfl a).length = r.2.2 := by
  have hw : ∀ w ∈ u_ws r.1 r.2.1 r.2.2, w ∈ z_ws := by
    intro w hw
    have h1 := List.all_eq_true.mp f_cls r (List.mem_of_getElem? h)
    have h2 := of_decide_eq_true (List.all_eq_true.mp h1 w hw)
    refine z_inW h2 ?_
    obtain ⟨k, -, rfl⟩ := List.mem_map.mp hw
    unfold u_lay
    split <;> rfl
  match a, h with
  | 0, h => cases h; exact ⟨tyX0_ok, nmX0, hw, by decide +kernel, rfl⟩
  | 1, h => cases h; exact ⟨tyX1_ok, nmX1, hw, by decide +kernel, rfl⟩
  | 2, h => cases h; exact ⟨tyX2_ok, nmX2, hw, by decide +kernel, rfl⟩
  | 3, h => cases h; exact ⟨tyX3_ok, nmX3, hw, by decide +kernel, rfl⟩
  | 4, h => cases h; exact ⟨tyX4_ok, nmX4, hw, by decide +kernel, rfl⟩
  | 5, h => cases h; exact ⟨tyX5_ok, nmX5, hw, by decide +kernel, rfl⟩
  | k + 6, h => simp [z_cls] at h
theorem z_flP {o v a b : Nat} (h : (o, v, a, b) ∈ z_fl) : ∃ r : vw_C, z_cls[a]? = some r ∧ b < r.2.2 ∧ Jvm.Cond.fieldLink (z_cn o) v (r.2.1 b).1 (r.2.1 b).2.1 (r.2.1 b).2.2.1 ∈ z_ws := by
  obtain ⟨p, hp⟩ := z_all2_of f_fl _ h
  dsimp only at hp
  cases hc : z_cls[a]? with
  | none => rw [hc] at hp; exact absurd hp Bool.false_ne_true
  | some r =>
    rw [hc] at hp
    simp only [Bool.and_eq_true, decide_eq_true_eq] at hp
    exact ⟨r, rfl, hp.1, z_inW (z_is_mem hp.2) rfl⟩
theorem z_mlP {o v M : Nat} (h : (o, v, M) ∈ z_ml) : ∃ r, z_my[M]? = some r ∧ Jvm.Cond.methodLink (z_cn o) v r.2.1 ∈ z_ws := by
  obtain ⟨p, hp⟩ := z_all2_of f_ml _ h
  dsimp only at hp
  cases hc : z_my[M]? with
  | none => rw [hc] at hp; exact absurd hp Bool.false_ne_true
  | some r => rw [hc] at hp; exact ⟨r, rfl, z_inW (z_is_mem hp) rfl⟩
theorem z_cllP {o v a : Nat} (h : (o, v, a) ∈ z_cll) : ∃ r : vw_C, z_cls[a]? = some r ∧ Jvm.Cond.classLink (z_cn o) v r.1 ∈ z_ws ∧ Jvm.Cond.instantiable r.1 r.2.2 ∈ z_ws ∧ Jvm.Cond.initialized r.1 ∈ z_ws := by
  have hp := List.all_eq_true.mp f_cll _ h
  dsimp only at hp
  cases hc : z_cls[a]? with
  | none => rw [hc] at hp; exact absurd hp Bool.false_ne_true
  | some r =>
    rw [hc] at hp
    simp only [Bool.and_eq_true, decide_eq_true_eq] at hp
    exact ⟨r, rfl, z_inW hp.1.1 rfl, z_inW hp.1.2 rfl, z_inW hp.2 rfl⟩
theorem z_vsP {M b c : Nat} (h : (M, b, c) ∈ z_vs) : ∃ r e, z_my[M]? = some r ∧ z_cls[c]? = some e ∧ Jvm.Cond.instanceMethod r.2.1 ∈ z_ws ∧ Jvm.Cond.selects r.2.1.cls r.2.1 r.2.1 ∈ z_ws ∧ (parseMethodDescriptor r.2.1.desc).map (fun d => d.parameters.length + 1) = some b ∧ e.1 = r.2.1.cls ∧ r.1 < 8 := by
  obtain ⟨p, hp⟩ := z_all2_of f_vs1 _ h
  obtain ⟨q, hq⟩ := z_all2_of f_vs2 _ h
  dsimp only at hp hq
  cases hc : z_my[M]? with
  | none => rw [hc] at hq; exact absurd hq Bool.false_ne_true
  | some r =>
    cases he : z_cls[c]? with
    | none => rw [hc, he] at hp; exact absurd hp Bool.false_ne_true
    | some e =>
      rw [hc, he] at hp
      rw [hc] at hq
      simp only [Bool.and_eq_true, decide_eq_true_eq] at hp hq
      exact ⟨r, e, rfl, rfl, z_inW (z_is_mem hp.1.1.1) rfl, List.mem_filter.mpr ⟨List.mem_of_getElem? hq, rfl⟩, hp.1.1.2, hp.1.2, hp.2⟩
theorem z_ssP {M b c : Nat} (h : (M, b, c) ∈ z_ss) : ∃ r, z_my[M]? = some r ∧ Jvm.Cond.static r.2.1 ∈ z_ws ∧ (parseMethodDescriptor r.2.1.desc).map (fun d => d.parameters.length) = some b ∧ r.1 < 8 := by
  obtain ⟨p, hp⟩ := z_all2_of f_ss _ h
  dsimp only at hp
  cases hc : z_my[M]? with
  | none => rw [hc] at hp; exact absurd hp Bool.false_ne_true
  | some r =>
    rw [hc] at hp
    simp only [Bool.and_eq_true, decide_eq_true_eq] at hp
    exact ⟨r, rfl, z_inW (z_is_mem hp.1.1) rfl, hp.1.2, hp.2⟩
theorem z_isP {M b c : Nat} (h : (M, b, c) ∈ z_is) : ∃ r, z_my[M]? = some r ∧ Jvm.Cond.instanceMethod r.2.1 ∈ z_ws ∧ r.2.1.name = "<init>" ∧ (parseMethodDescriptor r.2.1.desc).map (fun d => d.parameters.length + 1) = some b ∧ r.2.2.2.2 = none ∧ r.1 < 8 := by
  obtain ⟨p, hp⟩ := z_all2_of f_is _ h
  dsimp only at hp
  cases hc : z_my[M]? with
  | none => rw [hc] at hp; exact absurd hp Bool.false_ne_true
  | some r =>
    rw [hc] at hp
    simp only [Bool.and_eq_true, decide_eq_true_eq] at hp
    exact ⟨r, rfl, z_inW (z_is_mem hp.1.1.1.1) rfl, hp.1.1.1.2, hp.1.1.2, hp.1.2, hp.2⟩
theorem z_myP {M : Nat} {r : Nat × MethodName × ByteArray × Nat × Option FieldType} (h : z_my[M]? = some r) (h8 : ¬ r.1 = 8) : z_cn r.1 = r.2.1.cls ∧ Jvm.Cond.code r.2.1 r.2.2.1 r.2.2.2.1 r.2.2.2.2 ∈ z_ws ∧ Jvm.Cond.initialized r.2.1.cls ∈ z_ws ∧ plainFor r.2.1 = true ∧ (r.2.1.cls ≠ "java/lang/invoke/MethodHandle" ∧ r.2.1.cls ≠ "java/lang/invoke/VarHandle") ∧ r.2.2.2.1 ≤ 17 := by
  obtain ⟨p, hp⟩ := z_all2_of f_my _ (List.mem_of_getElem? h)
  simp only [Bool.or_eq_true, Bool.and_eq_true, decide_eq_true_eq] at hp
  rcases hp with hp | hp
  · exact absurd hp h8
  · rcases f_code r (List.mem_of_getElem? h) with hc | hc
    · exact absurd hc h8
    · exact ⟨hp.1.1.1.1.1, z_inW hc rfl, z_inW (z_is_mem hp.1.1.1.1.2) rfl, hp.1.1.1.2, ⟨hp.1.1.2, hp.1.2⟩, Nat.le_of_ble_eq_true hp.2⟩
theorem z_goodIn {Ts : List Jvm.Cond} (hTs : ∀ w ∈ z_ws, w ∈ Ts) {w : Jvm.Cond} (hw : w ∈ z_ws) : GoodIn Ts (w :: z_ws) := by
  intro w' h
  rcases List.mem_cons.mp h with h | h
  · rw [h]; exact ⟨hTs w hw, good_of_word (List.mem_filter.mp hw).2⟩
  · exact ⟨hTs w' h, good_of_word (List.mem_filter.mp h).2⟩
/-! what is given of a state, beside its cells -/
def z_nest (U : State) : Prop := (∀ q ∈ z_nl, ∀ r, z_my[q.2.2.1]? = some r → va_Nw (Jvm.Cond.methodLinkNest (z_cn q.1) q.2.1 r.2.1 q.2.2.2) U) ∧ va_AO RX2 U
def z_tys (dA : Nat → ClassId) : List (ClassId × FieldType) := [(dA 0, .int), (dA 1, .boolean), (dA 2, .object RX2)]
def z_K (D : va_G) (dA : Nat → ClassId) (U : State) : Prop := va_K D z_cls (z_tys dA) U ∧ z_nest U
def z_Z (S : zS) (t0 t1 : Nat) (A : Nat → Prop) (U : State) (H : Heap) : Prop := va_Z "InsultStatues" "FACTORIAL" "[I" (.ref t0) A U H ∧ va_T .int t0 7 (fun j => .int (z_fac j)) A U H ∧ va_T .int t1 S.1 (fun j => .int (S.2 j)) A U H
theorem z_K.warm {D : va_G} {dA : Nat → ClassId} {s U : State} (hW : s.WarmedH U.vm) (h : z_K D dA s) : z_K D dA U := ⟨va_K.moved hW.alike h.1, fun q hq r hr => va_Nw.warmM hW (h.2.1 q hq r hr), va_AO.moved hW.alike h.2.2⟩
theorem z_K.same {D : va_G} {dA : Nat → ClassId} {s U : State} (hv : s.vm = U.vm) (h : z_K D dA s) : z_K D dA U := ⟨va_K.moved (hv ▸ Vm.Alike.refl s.vm) h.1, fun q hq r hr => va_Nw.same rfl hv (h.2.1 q hq r hr), va_AO.moved (hv ▸ Vm.Alike.refl s.vm) h.2.2⟩
theorem z_Z.moved {S : zS} {t0 t1 : Nat} {A : Nat → Prop} {u U : State} {H : Heap} (hvm : u.vm.Alike U.vm) (h : z_Z S t0 t1 A u H) : z_Z S t0 t1 A U H := ⟨h.1.moved hvm, h.2.1.moved hvm, h.2.2.moved hvm⟩
theorem z_Z.narrow {S : zS} {t0 t1 : Nat} {A B : Nat → Prop} {U : State} {H : Heap} (h : z_Z S t0 t1 A U H) (hAB : ∀ q, B q → A q) : z_Z S t0 t1 B U H := ⟨h.1.narrow hAB, h.2.1.narrow hAB, h.2.2.narrow hAB⟩
theorem z_Z.kept {S : zS} {t0 t1 : Nat} {A : Nat → Prop} {U : State} {H H1 : Heap} (h : z_Z S t0 t1 A U H) (hq : ∀ a : Nat, a < H.size → ¬ A a → H1[a]? = H[a]?) : z_Z S t0 t1 A U H1 := ⟨h.1.kept hq, h.2.1.kept hq, h.2.2.kept hq⟩
def z_Pc (D : va_G) (dA : Nat → ClassId) (S : zS) (ad : Nat → Nat) (sz : Nat) (As : List Value) (h : zH) : Array Value → State → Prop := va_Pc (As.map (z_tv ad)) (fun U => U.heap.size = sz ∧ va_P D z_cls (z_tw dA ad h) U.heap ∧ va_D (fun _ => True) (z_tw dA ad h) ∧ z_K D dA U ∧ z_Z S (ad 2000) (ad 2001) (va_A (z_tw dA ad h) sz) U U.heap)
def z_Po (D : va_G) (dA : Nat → ClassId) (ad : Nat → Nat) (sz : Nat) (h : zH) (mc : Nat) (v : Option Value) (h' : zH) (w : Option Value) (H : Heap) : Prop := ∃ ad' : Nat → Nat, w = v.map (z_tv ad') ∧ (∀ r, z_okr h r = true → ad' r = ad r) ∧ (mc = 0 → ad' = ad) ∧ (h.1.length ≤ h'.1.length ∧ h.2.length ≤ h'.2.length) ∧ va_P D z_cls (z_tw dA ad' h') H ∧ va_D (va_A (z_tw dA ad h) sz) (z_tw dA ad' h')
def z_Qc (D : va_G) (dA : Nat → ClassId) (ad : Nat → Nat) (sz : Nat) (h : zH) (mc : Nat) (v : Option Value) (h' : zH) : Array Value → State → Outcome → State → Prop := fun _ st oc t => (∃ w, oc = .returned w ∧ z_Po D dA ad sz h mc v h' w t.heap) ∧ va_F (va_A (z_tw dA ad h) sz) st t
def z_Met (l : Launch) (D : va_G) (dA : Nat → ClassId) (S : zS) (d mc ms M : Nat) (As : List Value) (h : zH) (v : Option Value) (h' : zH) : Prop := ∀ r, z_my[M]? = some r → ¬ r.1 = 8 → ∀ (ad : Nat → Nat) (sz : Nat), Met l r.2.1 (Jvm.Cond.code r.2.1 r.2.2.1 r.2.2.2.1 r.2.2.2.2 :: z_ws) ({ frames := d, cells := mc, slots := ms, locals := 36 * d }) (z_Pc D dA S ad sz As h) (z_Qc D dA ad sz h mc v h') mc ms (va_A (z_tw dA ad h) sz)
theorem z_blind {D : va_G} {dA : Nat → ClassId} {S : zS} {ad : Nat → Nat} {sz : Nat} {As : List Value} {h : zH} : FrameBlind (z_Pc D dA S ad sz As h) := by
  intro a U g mk hq
  obtain ⟨e, h1, h2, h3, h4, h5⟩ := hq
  exact ⟨e, h1, h2, h3, z_K.same rfl h4, h5.moved (Vm.Alike.refl U.vm)⟩
section ZS
variable {p : Program} {l : Launch} {e : Env} {R : Room} {s : State} {m : MethodId} {args : Array Value} {below : List Frame} {meth : Method} {c : Code} {Q : State → Prop}
/-- behind a call -/
theorem z_wcall {H : Heap} {locs : List Loc} {cells slots mc' ms' pc : Nat} {ls : Array Slot} {st0 rest : List Value} {A0 A1 : Nat → Prop} {free : Addr → Prop} {Post : Option Value → Heap → Prop}
    (hr : va_Run p l e R s m args below meth c H locs cells slots mc' ms' (F0 m pc ls st0) rest (fun st oc t => (∃ w, oc = .returned w ∧ Post w t.heap) ∧ va_F A1 st t) free) (hS : va_S A0 s.heap H locs) (hA : ∀ q, q < H.size → A1 q → A0 q) (hf : ∀ q, free q → A0 q)
    (kk : ∀ (w : Option Value) (H1 : Heap) (locs1 : List Loc), Post w H1 → va_S A0 s.heap H1 locs1 → W p l e R s m args below meth c H1 locs1 (cells + mc') (slots + ms') Q (F0 m (pc + 3) ls (w.toList ++ rest))) : W p l e R s m args below meth c H locs cells slots Q (F0 m pc ls st0) := by
  intro T hT X
  obtain ⟨v, st₀, t, T', L, h0, X', hL, e1, e2, ⟨⟨w, hv, hb⟩, hz, hk⟩, st⟩ := hr T hT X
  cases hv
  rw [h0] at hz hk
  obtain ⟨t2, a1, b1⟩ := kk v T'.heap (locs ++ L) (by rw [e1]; exact hb)
    ⟨Nat.le_trans hS.1 (by rw [e1]; exact hz), fun q h1 h2 => by rw [e1, hk q (Nat.lt_of_lt_of_le h1 hS.1) (fun z => h2 (hA q (Nat.lt_of_lt_of_le h1 hS.1) z))]; exact hS.2.1 q h1 h2, fun q hq => by
      rcases List.mem_append.mp hq with h | h
      · exact hS.2.2 q h
      · exact hf _ (hL q h)⟩ T' rfl X'
  exact ⟨t2, st t2 a1, b1⟩
/-- how the machine stands to the small one -/
def z_rel (D : va_G) (dA : Nat → ClassId) (A : Nat → Prop) (s : State) (h0 : zH) (ad0 : Nat → Nat) (ml : Nat) (ls : zL) (h : zH) (k : Nat) (ad : Nat → Nat) (H : Heap) (locs : List Loc) (lsC : Array Slot) : Prop :=
  (∀ r, z_okr h0 r = true → ad r = ad0 r) ∧ (k = 0 → ad = ad0) ∧ (h0.1.length ≤ h.1.length ∧ h0.2.length ≤ h.2.length) ∧ va_P D z_cls (z_tw dA ad h) H ∧ va_D A (z_tw dA ad h) ∧ va_S A s.heap H locs ∧ z_lr ad ml ls lsC
def z_XW (p : Program) (l : Launch) (e : Env) (R : Room) (s : State) (m : MethodId) (args : Array Value) (below : List Frame) (meth : Method) (c : Code) (Q : State → Prop) (D : va_G) (dA : Nat → ClassId) (A : Nat → Prop) (h0 : zH) (ad0 : Nat → Nat) (mc ms ml : Nat) : zX := fun pc ls st h k n =>
  k ≤ mc → n ≤ ms → ∀ (ad : Nat → Nat) (H : Heap) (locs : List Loc) (lsC : Array Slot), z_rel D dA A s h0 ad0 ml ls h k ad H locs lsC → W p l e R s m args below meth c H locs k n Q (F0 m pc lsC (st.map (z_tv ad)))
/-! shapes -/
theorem z_k1_of {st : List Value} {P : Int32 → List Value → Prop} (h : z_k1 st P) : ∃ v r, st = .int v :: r ∧ P v r := by
  unfold z_k1 at h; split at h
  · exact ⟨_, _, rfl, h⟩
  · exact h.elim
theorem z_k2_of {st : List Value} {P : Int32 → Int32 → List Value → Prop} (h : z_k2 st P) : ∃ v w r, st = .int w :: .int v :: r ∧ P v w r := by
  unfold z_k2 at h; split at h
  · exact ⟨_, _, _, rfl, h⟩
  · exact h.elim
theorem z_kll_of {st : List Value} {P : Int64 → Int64 → List Value → Prop} (h : z_kll st P) : ∃ v w r, st = .long w :: .long v :: r ∧ P v w r := by
  unfold z_kll at h; split at h
  · exact ⟨_, _, _, rfl, h⟩
  · exact h.elim
theorem z_kr_of {st : List Value} {P : Nat → List Value → Prop} (h : z_kr st P) : ∃ v r, st = .ref v :: r ∧ P v r := by
  unfold z_kr at h; split at h
  · exact ⟨_, _, rfl, h⟩
  · exact h.elim
theorem z_kir_of {st : List Value} {P : Int32 → Nat → List Value → Prop} (h : z_kir st P) : ∃ v w r, st = .int v :: .ref w :: r ∧ P v w r := by
  unfold z_kir at h; split at h
  · exact ⟨_, _, _, rfl, h⟩
  · exact h.elim
theorem z_kiir_of {st : List Value} {P : Int32 → Int32 → Nat → List Value → Prop} (h : z_kiir st P) : ∃ v j q r, st = .int v :: .int j :: .ref q :: r ∧ P v j q r := by
  unfold z_kiir at h; split at h
  · exact ⟨_, _, _, _, rfl, h⟩
  · exact h.elim
theorem z_krir_of {st : List Value} {P : Nat → Int32 → Nat → List Value → Prop} (h : z_krir st P) : ∃ v j q r, st = .ref v :: .int j :: .ref q :: r ∧ P v j q r := by
  unfold z_krir at h; split at h
  · exact ⟨_, _, _, _, rfl, h⟩
  · exact h.elim
theorem z_kvr_of {st : List Value} {P : Value → Nat → List Value → Prop} (h : z_kvr st P) : ∃ v q r, st = v :: .ref q :: r ∧ P v q r := by
  unfold z_kvr at h; split at h
  · exact ⟨_, _, _, rfl, h⟩
  · exact h.elim
theorem z_kd1_of {st : List Value} {P : Value → List Value → Prop} (h : z_kd1 st P) : ∃ v r, st = v :: r ∧ v.category = 1 ∧ P v r := by
  unfold z_kd1 at h; split at h
  · exact ⟨_, _, rfl, rfl, h⟩
  · exact ⟨_, _, rfl, rfl, h⟩
  · exact h.elim
theorem z_li_of {ls : zL} {a : Nat} {P : Int32 → Prop} (h : z_li ls a P) : ∃ v, ls[a]? = some (some (.int v)) ∧ P v := by
  unfold z_li at h; split at h
  · exact ⟨_, ‹_›, h⟩
  · exact h.elim
theorem z_la_of {ls : zL} {a : Nat} {P : Nat → Prop} (h : z_la ls a P) : ∃ v, ls[a]? = some (some (.ref v)) ∧ P v := by
  unfold z_la at h; split at h
  · exact ⟨_, ‹_›, h⟩
  · exact h.elim
theorem z_ll_of {ls : zL} {a : Nat} {P : Int64 → Prop} (h : z_ll ls a P) : ∃ v, ls[a]? = some (some (.long v)) ∧ P v := by
  unfold z_ll at h; split at h
  · exact ⟨_, ‹_›, h⟩
  · exact h.elim
theorem z_if_of {b : Bool} {P : Prop} (h : z_if b P) : b = true ∧ P := by
  unfold z_if at h; split at h
  · exact ⟨rfl, h⟩
  · exact h.elim
theorem z_hi_of {h : zH} {q t : Nat} {P : Nat → (Nat → Int32) → Prop} (hh : z_hi h q t P) : ∃ m f, z_get h q = some (.inl (t, m, f)) ∧ P m f := by
  unfold z_hi at hh; split at hh
  · obtain ⟨h1, h2⟩ := z_if_of hh
    have := Nat.eq_of_beq_eq_true h1
    subst this
    exact ⟨_, _, ‹_›, h2⟩
  · exact hh.elim
theorem z_hr_of {h : zH} {q : Nat} {P : List (Option Nat) → Prop} (hh : z_hr h q P) : ∃ f, z_get h q = some (.inr (.inl f)) ∧ P f := by
  unfold z_hr at hh; split at hh
  · exact ⟨_, ‹_›, hh⟩
  · exact hh.elim
theorem z_ho_of {h : zH} {q t : Nat} {P : List Value → Prop} (hh : z_ho h q t P) : ∃ f, z_get h q = some (.inr (.inr (t, f))) ∧ P f := by
  unfold z_ho at hh; split at hh
  · obtain ⟨h1, h2⟩ := z_if_of hh
    have := Nat.eq_of_beq_eq_true h1
    subst this
    exact ⟨_, ‹_›, h2⟩
  · exact hh.elim
theorem z_fd_of {fs : List Value} {b : Nat} {P : Value → Prop} (h : z_fd fs b P) : ∃ v, fs[b]? = some v ∧ P v := by
  unfold z_fd at h; split at h
  · exact ⟨_, ‹_›, h⟩
  · exact h.elim
theorem z_ret_of {st : List Value} {P : Value → Prop} (h : z_ret st P) : ∃ v, st = [v] ∧ P v := by
  unfold z_ret at h; split at h
  · exact ⟨_, rfl, h⟩
  · exact h.elim
theorem z_rel.lr {D : va_G} {dA : Nat → ClassId} {A : Nat → Prop} {s : State} {h0 : zH} {ad0 : Nat → Nat} {ml : Nat} {ls : zL} {h : zH} {k : Nat} {ad : Nat → Nat} {H : Heap} {locs : List Loc} {lsC : Array Slot} (hR : z_rel D dA A s h0 ad0 ml ls h k ad H locs lsC) : z_lr ad ml ls lsC := hR.2.2.2.2.2.2
theorem z_rel.setl {D : va_G} {dA : Nat → ClassId} {A : Nat → Prop} {s : State} {h0 : zH} {ad0 : Nat → Nat} {ml : Nat} {ls ls' : zL} {h : zH} {k : Nat} {ad : Nat → Nat} {H : Heap} {locs : List Loc} {lsC lsC' : Array Slot} (hR : z_rel D dA A s h0 ad0 ml ls h k ad H locs lsC) (hl : z_lr ad ml ls' lsC') : z_rel D dA A s h0 ad0 ml ls' h k ad H locs lsC' :=
  ⟨hR.1, hR.2.1, hR.2.2.1, hR.2.2.2.1, hR.2.2.2.2.1, hR.2.2.2.2.2.1, hl⟩
theorem z_rel.seth {D : va_G} {dA : Nat → ClassId} {A : Nat → Prop} {s : State} {h0 : zH} {ad0 : Nat → Nat} {ml : Nat} {ls : zL} {h : zH} {k : Nat} {ad : Nat → Nat} {H H1 : Heap} {locs locs1 : List Loc} {lsC : Array Slot} (hR : z_rel D dA A s h0 ad0 ml ls h k ad H locs lsC) {q : Nat} {c0 c1 : zC} (hg : z_get h q = some c0) (hP : va_P D z_cls ((z_tw dA ad h).set (z_pos h q) (ad q, z_te dA ad c1)) H1) (hD : va_D A ((z_tw dA ad h).set (z_pos h q) (ad q, z_te dA ad c1))) (hS : va_S A s.heap H1 locs1) : z_rel D dA A s h0 ad0 ml ls (z_set h q c1) k ad H1 locs1 lsC := by
  rw [z_set_tw dA ad c1 hg] at hP hD
  exact ⟨hR.1, hR.2.1, by rw [z_set_len1, z_set_len2]; exact hR.2.2.1, hP, hD, hS, hR.lr⟩
end ZS
end
section
section ZC
variable {p : Program} {l : Launch} {e : Env} {R : Room} {s : State} {m : MethodId} {args : Array Value} {below : List Frame} {meth : Method} {c : Code} {Q : State → Prop}
theorem z_okr_iff {h : zH} {k : Nat} : z_okr h k = true ↔ k < h.1.length ∨ (1000 ≤ k ∧ k < 1000 + h.2.length) ∨ 2000 ≤ k := by
  unfold z_okr Nat.blt
  simp only [Bool.or_eq_true, Bool.and_eq_true, Nat.ble_eq, Nat.succ_le_iff]
  exact or_assoc
theorem z_okr_no {h : zH} {k : Nat} (hh : ¬ (k < h.1.length ∨ (1000 ≤ k ∧ k < 1000 + h.2.length) ∨ 2000 ≤ k)) : z_okr h k = false := Bool.eq_false_iff.mpr fun e => hh (z_okr_iff.mp e)
/-- the givens of a body -/
def z_ctx (p : Program) (R : Room) (s : State) (m : MethodId) (args : Array Value) (meth : Method) (c : Code) (D : va_G) (dA : Nat → ClassId) (A : Nat → Prop) (S : zS) (ad0 : Nat → Nat) (own ml d mc ms : Nat) (cc : ByteArray) (ini : Bool) (Ts : List Jvm.Cond) : Prop :=
  p.tables.exec = Jvm.exec ∧ c.code = cc ∧ c.maxLocals = ml ∧ s.vm.findClass (z_cn own) = some m.cls ∧ (∀ w ∈ Ts, w.before args s = true) ∧ (∀ w ∈ z_ws, w ∈ Ts) ∧ z_K D dA s ∧ z_Z S (ad0 2000) (ad0 2001) A s s.heap ∧ (∀ q, s.heap.size ≤ q → A q) ∧ (ini = true → meth.name = "<init>") ∧ mc ≤ R.cells ∧ ms ≤ R.slots ∧ d + 1 ≤ R.frames ∧ 36 * (d + 1) ≤ R.locals
theorem z_len {cc : ByteArray} {pc nx n : Nat} {i : Instr} (hd : decode cc pc = .ok (i, nx - pc)) (h : nx = pc + n) : decode cc pc = .ok (i, n) := by
  rw [hd, h, Nat.add_sub_cancel_left]
theorem z_toNat {b : Nat} (h : b ≤ 1000) : ¬ (Int32.ofNat b) < 0 ∧ (Int32.ofNat b).toNatClampNeg = b := ⟨nI_pos (by omega), nI_clamp (by omega)⟩
theorem z_bool {v : Int32} (h : v = 0 ∨ v = 1) : narrow .boolean (.int v) = .int v ∧ fits .boolean (.int v) = true := by
  rcases h with rfl | rfl <;> decide
theorem z_nar {v : Int32} (h : v = 0 ∨ v = 1) : vp_nar .boolean v = v := by
  rcases h with rfl | rfl <;> decide
theorem z_pf_of {cd : Nat} {v : Value} {P : Prop} (h : z_pf cd v P) {ty : FieldType} (ht : z_kd ty = cd) (ad : Nat → Nat) : narrow ty (z_tv ad v) = z_tv ad v ∧ fits ty (z_tv ad v) = true ∧ P := by
  unfold z_pf at h
  split at h
  · cases ty <;> first | (simp [z_kd] at ht; done) | exact ⟨rfl, rfl, h⟩
  · cases ty <;> first | (simp [z_kd] at ht; done) | exact ⟨(z_bool h.1).1, (z_bool h.1).2, h.2⟩
  · cases ty <;> first | (simp [z_kd] at ht; done) | exact ⟨rfl, rfl, h⟩
  · cases ty <;> first | (simp [z_kd] at ht; done) | exact ⟨rfl, rfl, h⟩
  · exact h.elim
theorem z_sw_of {v : Int32} {d : Nat} {K : Nat → Prop} : ∀ {sw : List (Int32 × Nat)}, z_sw v d K sw → (∃ (j : Nat) (x : Int32) (t : Nat), sw[j]? = some (x, t) ∧ v = x ∧ K t) ∨ ((∀ (j : Nat) (x : Int32) (t : Nat), sw[j]? = some (x, t) → ¬ v = x) ∧ K d)
  | [], h => Or.inr ⟨fun j x t hj => by simp at hj, h⟩
  | (x, t) :: r, h => by
    by_cases hv : v = x
    · exact Or.inl ⟨0, x, t, rfl, hv, h.1 hv⟩
    · rcases z_sw_of (h.2 hv) with ⟨j, x', t', h1, h2, h3⟩ | ⟨h1, h2⟩
      · exact Or.inl ⟨j + 1, x', t', by simpa using h1, h2, h3⟩
      · refine Or.inr ⟨fun j x' t' hj => ?_, h2⟩
        cases j with
        | zero => simp at hj; rw [← hj.1]; exact hv
        | succ j => exact h1 j x' t' (by simpa using hj)
/-- a new cell's address, and the rest as it was -/
theorem z_rel.push {D : va_G} {dA : Nat → ClassId} {A : Nat → Prop} {s : State} {h0 : zH} {ad0 : Nat → Nat} {ml : Nat} {ls : zL} {h h' : zH} {k : Nat} {ad : Nat → Nat} {H H1 : Heap} {locs locs1 : List Loc} {lsC : Array Slot} (hR : z_rel D dA A s h0 ad0 ml ls h k ad H locs lsC) {r q : Nat} {c1 : zC} {st : List Value} (hwf : z_wf h ls st = true)
    (hr : z_okr h r = false) (hr0 : z_okr h0 r = false) (hh : z_tw dA (z_ad ad r q) h' = z_tw dA (z_ad ad r q) h ++ [(q, z_te dA ad c1)]) (hl : h.1.length ≤ h'.1.length ∧ h.2.length ≤ h'.2.length)
    (hP : va_P D z_cls (z_tw dA ad h ++ [(q, z_te dA ad c1)]) H1) (hD : va_D A (z_tw dA ad h ++ [(q, z_te dA ad c1)])) (hS : va_S A s.heap H1 locs1) : z_rel D dA A s h0 ad0 ml ls h' (k + 1) (z_ad ad r q) H1 locs1 lsC ∧ st.map (z_tv (z_ad ad r q)) = st.map (z_tv ad) := by
  unfold z_wf at hwf
  simp only [Bool.and_eq_true] at hwf
  have ha : ∀ x, z_okr h x = true → z_ad ad r q x = ad x := fun x hx => by
    unfold z_ad
    rw [if_neg]
    intro e
    rw [e, hr] at hx
    cases hx
  have e1 := z_tw_congr dA ha hwf.1.1
  rw [← e1, ← hh] at hP hD
  refine ⟨⟨fun x hx => ?_, fun h => by omega, ⟨Nat.le_trans hR.2.2.1.1 hl.1, Nat.le_trans hR.2.2.1.2 hl.2⟩, hP, hD, hS, z_lr_congr ha hwf.1.2 hR.lr⟩, z_tvs_congr ha hwf.2⟩
  unfold z_ad
  rw [if_neg]
  · exact hR.1 x hx
  · intro e
    rw [e, hr0] at hx
    cases hx
theorem z_new_of {h : zH} {cd : Nat} {e1 : zC} {K : Nat → zH → Prop} (hh : z_new h cd e1 K) : ∃ (r : Nat) (h' : zH), K r h' ∧ z_okr h r = false ∧ (∀ h0 : zH, h0.1.length ≤ h.1.length → h0.2.length ≤ h.2.length → z_okr h0 r = false) ∧ (h.1.length ≤ h'.1.length ∧ h.2.length ≤ h'.2.length) ∧ ∀ (dA : Nat → ClassId) (ad : Nat → Nat), z_tw dA ad h' = z_tw dA ad h ++ [(ad r, z_te dA ad e1)] := by
  unfold z_new at hh
  split at hh
  · rename_i h1
    obtain ⟨hl, hk⟩ := hh
    refine ⟨_, _, hk, ?_, fun h0 g1 g2 => ?_, ⟨by simp, by simp⟩, fun dA ad => ?_⟩
    · exact z_okr_no (by dsimp only [List.length_nil]; omega)
    · dsimp only [List.length_nil] at g1 g2
      exact z_okr_no (by omega)
    · unfold z_tw
      rw [z_tl_app]
      simp [z_tl]
  · rename_i h1 h2
    obtain ⟨hl, hk⟩ := hh
    refine ⟨_, _, hk, ?_, fun h0 g1 g2 => ?_, ⟨by simp, by simp⟩, fun dA ad => ?_⟩
    · exact z_okr_no (by dsimp only; omega)
    · dsimp only at g1 g2
      exact z_okr_no (by omega)
    · unfold z_tw
      dsimp only
      rw [z_tl_app, List.append_assoc]
  · exact hh.elim
end ZC
end
section
section ZB
variable {p : Program} {l : Launch} {e : Env} {R : Room} {s : State} {m : MethodId} {args : Array Value} {below : List Frame} {meth : Method} {c : Code} {Q : State → Prop}
theorem z_app_of {b : Nat} {st : List Value} {K : List Value → List Value → Prop} (h : z_app b st K) : ∃ As r, st = As.reverse ++ r ∧ As.length = b ∧ K As r := by
  unfold z_app at h
  split at h
  · exact ⟨[], _, rfl, rfl, h⟩
  · exact ⟨[_], _, rfl, rfl, h⟩
  · exact ⟨[_, _], _, rfl, rfl, h⟩
  · exact ⟨[_, _, _], _, rfl, rfl, h⟩
  · exact ⟨[_, _, _, _], _, rfl, rfl, h⟩
  · exact ⟨[_, _, _, _, _], _, rfl, rfl, h⟩
  · exact h.elim
theorem z_cat_map (ad : Nat → Nat) (r : List Value) : ((r.map (z_tv ad)).map fun v => v.category).sum = z_cat r := by
  unfold z_cat
  rw [List.map_map]
  congr 1
  exact List.map_congr_left fun v _ => z_cat_tv ad v
theorem z_free {D : va_G} {dA : Nat → ClassId} {A : Nat → Prop} {h0 h : zH} {ad0 ad : Nat → Nat} {ml k : Nat} {ls : zL} {H : Heap} {locs : List Loc} {lsC : Array Slot} (hA : ∀ q, s.heap.size ≤ q → A q) (hR : z_rel D dA A s h0 ad0 ml ls h k ad H locs lsC) : ∀ q, va_A (z_tw dA ad h) H.size q → A q := by
  intro q hq
  rcases hq with ⟨j, e1, hj⟩ | hq
  · exact hR.2.2.2.2.1.2 j _ hj
  · exact hA q (Nat.le_trans hR.2.2.2.2.2.1.1 hq)
/-- what the callee is given -/
theorem z_given {D : va_G} {dA : Nat → ClassId} {A : Nat → Prop} {S : zS} {h0 h : zH} {ad0 ad : Nat → Nat} {ml k : Nat} {ls : zL} {H : Heap} {locs : List Loc} {lsC : Array Slot} (As : List Value) (hK : z_K D dA s) (hZ : z_Z S (ad0 2000) (ad0 2001) A s s.heap) (hA : ∀ q, s.heap.size ≤ q → A q) (hR : z_rel D dA A s h0 ad0 ml ls h k ad H locs lsC) (U : State) (hU : U.heap = H) (hW : s.WarmedH U.vm) : z_Pc D dA S ad H.size As h (As.map (z_tv ad)).toArray U := by
  refine ⟨rfl, by rw [hU], by rw [hU]; exact hR.2.2.2.1, hR.2.2.2.2.1.weaken (fun _ _ _ _ => trivial), hK.warm hW, ?_⟩
  have e0 : ad 2000 = ad0 2000 := hR.1 _ (z_okr_iff.mpr (Or.inr (Or.inr (by decide))))
  have e1 : ad 2001 = ad0 2001 := hR.1 _ (z_okr_iff.mpr (Or.inr (Or.inr (by decide))))
  rw [e0, e1, hU]
  have h1 := hZ.kept (H1 := H) (fun a h1 h2 => hR.2.2.2.2.2.1.2.1 a h1 h2)
  exact (h1.narrow (z_free hA hR)).moved hW.alike
theorem z_after {D : va_G} {dA : Nat → ClassId} {A : Nat → Prop} {h0 h h' : zH} {ad0 ad : Nat → Nat} {ml k n mc ms mc' ms' pc nx : Nat} {ls : zL} {H : Heap} {locs : List Loc} {lsC : Array Slot} {v : Option Value} {r : List Value} {st0 : List Value} (hA : ∀ q, s.heap.size ≤ q → A q) (hR : z_rel D dA A s h0 ad0 ml ls h k ad H locs lsC) (hwf : mc' = 0 ∨ z_wf h ls r = true) (hnx : nx = pc + 3) (hk : k + mc' ≤ mc) (hn : n + ms' ≤ ms)
    (hrun : va_Run p l e R s m args below meth c H locs k n mc' ms' (F0 m pc lsC st0) (r.map (z_tv ad)) (fun st oc t => (∃ w, oc = .returned w ∧ z_Po D dA ad H.size h mc' v h' w t.heap) ∧ va_F (va_A (z_tw dA ad h) H.size) st t) (va_A (z_tw dA ad h) H.size))
    (hs : z_XW p l e R s m args below meth c Q D dA A h0 ad0 mc ms ml nx ls (z_push v r) h' (k + mc') (n + ms')) : W p l e R s m args below meth c H locs k n Q (F0 m pc lsC st0) := by
  have hF := z_free hA hR
  refine z_wcall hrun hR.2.2.2.2.2.1 (fun q _ hq => hF q hq) hF (fun w H1 locs1 hPo hS1 => ?_)
  obtain ⟨ad', hw, ha, h0', hlen, hP1, hD1⟩ := hPo
  have hst : r.map (z_tv ad') = r.map (z_tv ad) ∧ z_lr ad' ml ls lsC := by
    rcases hwf with h1 | h1
    · rw [h0' h1]; exact ⟨rfl, hR.lr⟩
    · unfold z_wf at h1
      simp only [Bool.and_eq_true] at h1
      exact ⟨z_tvs_congr ha h1.2, z_lr_congr ha h1.1.2 hR.lr⟩
  have hrel : z_rel D dA A s h0 ad0 ml ls h' (k + mc') ad' H1 locs1 lsC := by
    refine ⟨fun x hx => ?_, fun hz => ?_, ⟨Nat.le_trans hR.2.2.1.1 hlen.1, Nat.le_trans hR.2.2.1.2 hlen.2⟩, hP1, hD1.weaken (fun _ q _ hq => hF q.1 hq), hS1, hst.2⟩
    · have hx' : z_okr h x = true := by
        rw [z_okr_iff] at hx ⊢
        have := hR.2.2.1
        omega
      rw [ha x hx']
      exact hR.1 x hx
    · rw [h0' (by omega)]
      exact hR.2.1 (by omega)
  have := hs hk hn ad' H1 locs1 lsC hrel
  rw [← hst.1, hw, ← hnx]
  cases v with
  | none => exact this
  | some v => exact this
theorem z_call_of {S : zS} {d mc ms a nx k n : Nat} {X : zX} {ls : zL} {As r : List Value} {h : zH} (hk : k ≤ mc) (hn : n ≤ ms) (hs : z_call (Ex S d) mc ms X a nx ls As r h k n) : ∃ (v : Option Value) (h' : zH) (mc' ms' : Nat), Ex S d mc' ms' a As h v h' ∧ (mc' = 0 ∨ z_wf h ls r = true) ∧ k + mc' ≤ mc ∧ n + ms' ≤ ms ∧ X nx ls (z_push v r) h' (k + mc') (n + ms') := by
  rcases hs with ⟨v, h', h1, h2⟩ | ⟨v, h', mc', ms', h1, h2, h3, h4, h5⟩
  · exact ⟨v, h', 0, 0, h1, Or.inl rfl, hk, hn, h2⟩
  · exact ⟨v, h', mc', ms', h1, Or.inr h2, h3, h4, h5⟩
theorem z_rcv_of {h : zH} {cd : Nat} {As : List Value} (hh : z_rcv h cd As = true) : ∃ q As' fs, As = .ref q :: As' ∧ z_get h q = some (.inr (.inr (cd, fs))) := by
  unfold z_rcv at hh
  split at hh
  · split at hh
    · have := Nat.eq_of_beq_eq_true hh
      subst this
      exact ⟨_, _, _, rfl, ‹_›⟩
    · cases hh
  · cases hh
end ZB
end
section
theorem z_e_sp {S : zS} {C : zQ} {rb : Bool} {mc ms : Nat} {X : zX} {Rt : Option Value → zH → Prop} {v nx a b c : Nat} {x : Int32} {y : Int64} {sw : List (Int32 × Nat)} {ls : zL} {st : List Value} {h : zH} {k n : Nat} (hs : z_stp S C rb mc ms X Rt (.invokespecial v) nx a b c x y sw ls st h k n) : z_app b st fun As r => z_if (Nat.ble (z_cat r) 8) (z_sp a (z_ob As (X nx ls r h k n)) (z_if (z_isr As) (z_call C mc ms X a nx ls As r h k n))) := hs
theorem z_e_st {S : zS} {C : zQ} {rb : Bool} {mc ms : Nat} {X : zX} {Rt : Option Value → zH → Prop} {v nx a b c : Nat} {x : Int32} {y : Int64} {sw : List (Int32 × Nat)} {ls : zL} {st : List Value} {h : zH} {k n : Nat} (hs : z_stp S C rb mc ms X Rt (.invokestatic v) nx a b c x y sw ls st h k n) : z_app b st fun As r => z_if (Nat.ble (z_cat r) 8) (z_call C mc ms X a nx ls As r h k n) := hs
theorem z_e_vi {S : zS} {C : zQ} {rb : Bool} {mc ms : Nat} {X : zX} {Rt : Option Value → zH → Prop} {v nx a b c : Nat} {x : Int32} {y : Int64} {sw : List (Int32 × Nat)} {ls : zL} {st : List Value} {h : zH} {k n : Nat} (hs : z_stp S C rb mc ms X Rt (.invokevirtual v) nx a b c x y sw ls st h k n) : z_app b st fun As r => z_if (Nat.ble (z_cat r) 8) (z_if (z_rcv h c As) (z_call C mc ms X a nx ls As r h k n)) := hs
theorem z_e_ir {S : zS} {C : zQ} {rb : Bool} {mc ms : Nat} {X : zX} {Rt : Option Value → zH → Prop} {nx a b c : Nat} {x : Int32} {y : Int64} {sw : List (Int32 × Nat)} {ls : zL} {st : List Value} {h : zH} {k n : Nat} (hs : z_stp S C rb mc ms X Rt .ireturn nx a b c x y sw ls st h k n) : z_ret st fun v => z_ri rb v fun w => Rt w h := hs
theorem z_e_lr {S : zS} {C : zQ} {rb : Bool} {mc ms : Nat} {X : zX} {Rt : Option Value → zH → Prop} {nx a b c : Nat} {x : Int32} {y : Int64} {sw : List (Int32 × Nat)} {ls : zL} {st : List Value} {h : zH} {k n : Nat} (hs : z_stp S C rb mc ms X Rt .lreturn nx a b c x y sw ls st h k n) : z_ret st fun v => z_rl v fun w => Rt w h := hs
theorem z_e_ar {S : zS} {C : zQ} {rb : Bool} {mc ms : Nat} {X : zX} {Rt : Option Value → zH → Prop} {nx a b c : Nat} {x : Int32} {y : Int64} {sw : List (Int32 × Nat)} {ls : zL} {st : List Value} {h : zH} {k n : Nat} (hs : z_stp S C rb mc ms X Rt .areturn nx a b c x y sw ls st h k n) : z_ret st fun v => z_ra v fun w => Rt w h := hs
section ZT
variable {p : Program} {l : Launch} {e : Env} {R : Room} {s : State} {m : MethodId} {args : Array Value} {below : List Frame} {meth : Method} {c : Code} {Q : State → Prop}
def z_rok (i : Instr) (v : Option Value) (rb : Bool) : Prop := match i, v with
  | .ireturn, some (.int w) => rb = true → w = 0 ∨ w = 1
  | .lreturn, some (.long _) => True
  | .areturn, some (.ref _) => True
  | .return_, none => True
  | _, _ => False
set_option maxHeartbeats 8000000 in
set_option maxRecDepth 100000 in
theorem z_close {D : va_G} {dA : Nat → ClassId} {A : Nat → Prop} {S : zS} {ad0 : Nat → Nat} {own ml d mc ms : Nat} {cc : ByteArray} {ini : Bool} {Ts : List Jvm.Cond} {h0 : zH} {T : List (List (Option zR))} {rb : Bool} {Rt : Option Value → zH → Prop} (hx0 : z_ctx p R s m args meth c D dA A S ad0 own ml d mc ms cc ini Ts)
    (hT : ∀ (pc : Nat) (i : Instr) (nx a b cd : Nat) (x : Int32) (y : Int64) (sw : List (Int32 × Nat)), z_at T pc = some (i, nx, a, b, cd, x, y, sw) → decode cc pc = .ok (i, nx - pc) ∧ z_chk own ml ini pc i nx a b cd x y sw = true)
    (hC : ∀ (mc' ms' M : Nat) (As : List Value) (h : zH) (v : Option Value) (h' : zH), Ex S d mc' ms' M As h v h' → z_Met l D dA S d mc' ms' M As h v h')
    (hret : ∀ (pc : Nat) (i : Instr) (nx a b cd : Nat) (x : Int32) (y : Int64) (sw : List (Int32 × Nat)) (ls : zL) (h : zH) (k n : Nat) (ad : Nat → Nat) (H : Heap) (locs : List Loc) (lsC : Array Slot) (v : Option Value), z_at T pc = some (i, nx, a, b, cd, x, y, sw) → z_rok i v rb → Rt v h → k ≤ mc → n ≤ ms → z_rel D dA A s h0 ad0 ml ls h k ad H locs lsC → W p l e R s m args below meth c H locs k n Q (F0 m pc lsC ((v.map (z_tv ad)).toList))) :
    z_cl S (Ex S d) T rb mc ms Rt (z_XW p l e R s m args below meth c Q D dA A h0 ad0 mc ms ml) := by
  intro pc ls st h k n i nx a b cd x y sw hat hs hk hn ad H locs lsC hR
  obtain ⟨hx, hb, hml, hown, hts, hTs, hK, hZ, hA, hini, hRc, hRs, hRf, hRl⟩ := hx0
  obtain ⟨hdec, hchk⟩ := hT _ _ _ _ _ _ _ _ _ hat
  have hlr := hR.lr
  have hP := hR.2.2.2.1
  have hD := hR.2.2.2.2.1
  have hS := hR.2.2.2.2.2.1
  cases i
  case iconst v =>
    simp only [z_chk, Bool.and_eq_true, decide_eq_true_eq] at hchk
    obtain ⟨hnx, hv⟩ := hchk
    subst hnx
    exact lv_iconst hx hb (z_len hdec rfl) hv (hs hk hn ad H locs lsC hR)
  case bipush v =>
    simp only [z_chk, Bool.and_eq_true, decide_eq_true_eq] at hchk
    obtain ⟨hnx, hv⟩ := hchk
    subst hnx
    exact lv_bipush hx hb (z_len hdec rfl) hv (hs hk hn ad H locs lsC hR)
  case sipush v =>
    simp only [z_chk, Bool.and_eq_true, decide_eq_true_eq] at hchk
    obtain ⟨hnx, hv⟩ := hchk
    subst hnx
    exact lv_sipush hx hb (z_len hdec rfl) hv (hs hk hn ad H locs lsC hR)
  case lconst v =>
    simp only [z_chk, Bool.and_eq_true, decide_eq_true_eq] at hchk
    obtain ⟨hnx, hv⟩ := hchk
    subst hnx
    exact lv_lconst hx hb (z_len hdec rfl) hv (hs hk hn ad H locs lsC hR)
  case ldc v =>
    simp only [z_chk, Bool.and_eq_true, decide_eq_true_eq] at hchk
    obtain ⟨hnx, hv⟩ := hchk
    subst hnx
    have hw := of_decide_eq_true (List.all_eq_true.mp f_kc _ hv)
    exact lv_ldc hx hb hown (hts _ (hTs _ (z_inW hw rfl))) (z_len hdec rfl) (hs hk hn ad H locs lsC hR)
  case ldc_w v =>
    simp only [z_chk, Bool.and_eq_true, decide_eq_true_eq] at hchk
    obtain ⟨hnx, hv⟩ := hchk
    subst hnx
    have hw := of_decide_eq_true (List.all_eq_true.mp f_kc _ hv)
    exact lv_ldcw hx hb hown (hts _ (hTs _ (z_inW hw rfl))) (z_len hdec rfl) (hs hk hn ad H locs lsC hR)
  case ldc2_w v =>
    simp only [z_chk, Bool.and_eq_true, decide_eq_true_eq] at hchk
    obtain ⟨hnx, hv⟩ := hchk
    subst hnx
    have hw := of_decide_eq_true (List.all_eq_true.mp f_kl _ hv)
    exact lv_ldc2 hx hb hown (hts _ (hTs _ (z_inW hw rfl))) (z_len hdec rfl) (hs hk hn ad H locs lsC hR)
  case iload_n j =>
    simp only [z_chk, Bool.and_eq_true, decide_eq_true_eq] at hchk
    obtain ⟨hnx, hj⟩ := hchk
    subst hnx
    obtain ⟨v, hv, hs⟩ := z_li_of hs
    exact lv_iload_n hx hb (z_len hdec rfl) hj (hlr.2.2 a _ hv) (hs hk hn ad H locs lsC hR)
  case aload_n j =>
    simp only [z_chk, Bool.and_eq_true, decide_eq_true_eq] at hchk
    obtain ⟨hnx, hj⟩ := hchk
    subst hnx
    obtain ⟨v, hv, hs⟩ := z_la_of hs
    exact lv_aload_n hx hb (z_len hdec rfl) hj (hlr.2.2 a _ hv) (hs hk hn ad H locs lsC hR)
  case lload_n j =>
    simp only [z_chk, Bool.and_eq_true, decide_eq_true_eq] at hchk
    obtain ⟨hnx, hj⟩ := hchk
    subst hnx
    obtain ⟨v, hv, hs⟩ := z_ll_of hs
    exact lv_lload_n hx hb (z_len hdec rfl) hj (hlr.2.2 a _ hv) (hs hk hn ad H locs lsC hR)
  case iload j =>
    simp only [z_chk, Bool.and_eq_true, decide_eq_true_eq] at hchk
    obtain ⟨hnx, hj⟩ := hchk
    subst hnx
    subst hj
    obtain ⟨v, hv, hs⟩ := z_li_of hs
    exact lv_iload hx hb (z_len hdec rfl) (hlr.2.2 j _ hv) (hs hk hn ad H locs lsC hR)
  case aload j =>
    simp only [z_chk, Bool.and_eq_true, decide_eq_true_eq] at hchk
    obtain ⟨hnx, hj⟩ := hchk
    subst hnx
    subst hj
    obtain ⟨v, hv, hs⟩ := z_la_of hs
    exact lv_aload hx hb (z_len hdec rfl) (hlr.2.2 j _ hv) (hs hk hn ad H locs lsC hR)
  case lload j =>
    simp only [z_chk, Bool.and_eq_true, decide_eq_true_eq] at hchk
    obtain ⟨hnx, hj⟩ := hchk
    subst hnx
    subst hj
    obtain ⟨v, hv, hs⟩ := z_ll_of hs
    exact lv_lload hx hb (z_len hdec rfl) (hlr.2.2 j _ hv) (hs hk hn ad H locs lsC hR)
  case istore_n j =>
    simp only [z_chk, Bool.and_eq_true, decide_eq_true_eq] at hchk
    obtain ⟨⟨hnx, hj⟩, ham⟩ := hchk
    subst hnx
    obtain ⟨hno, hs⟩ := z_if_of hs
    obtain ⟨v, r, rfl, hs⟩ := z_k1_of hs
    exact lv_istore_n hx hb (z_len hdec rfl) hj (z_lr_has hlr) ham rfl (fun ls' hl' => hs hk hn ad H locs ls' (hR.setl (z_lr_set hlr (by simpa using hno) hl')))
  case astore_n j =>
    simp only [z_chk, Bool.and_eq_true, decide_eq_true_eq] at hchk
    obtain ⟨⟨hnx, hj⟩, ham⟩ := hchk
    subst hnx
    obtain ⟨hno, hs⟩ := z_if_of hs
    obtain ⟨v, r, rfl, hs⟩ := z_kr_of hs
    exact lv_astore_n hx hb (z_len hdec rfl) hj (z_lr_has hlr) ham rfl (fun ls' hl' => hs hk hn ad H locs ls' (hR.setl (z_lr_set hlr (by simpa using hno) hl')))
  case istore j =>
    simp only [z_chk, Bool.and_eq_true, decide_eq_true_eq] at hchk
    obtain ⟨⟨hnx, hj⟩, ham⟩ := hchk
    subst hnx
    subst hj
    obtain ⟨hno, hs⟩ := z_if_of hs
    obtain ⟨v, r, rfl, hs⟩ := z_k1_of hs
    exact lv_istore hx hb (z_len hdec rfl) (z_lr_has hlr) ham rfl (fun ls' hl' => hs hk hn ad H locs ls' (hR.setl (z_lr_set hlr (by simpa using hno) hl')))
  case iinc j q =>
    simp only [z_chk, Bool.and_eq_true, decide_eq_true_eq] at hchk
    obtain ⟨⟨⟨hnx, hj⟩, ham⟩, hq⟩ := hchk
    subst hnx
    subst hj
    obtain ⟨hno, hs⟩ := z_if_of hs
    obtain ⟨v, hv, hs⟩ := z_li_of hs
    obtain ⟨i0, hi0⟩ := List.getElem?_of_mem (z_prs_mem ad ls 0 j _ hv)
    rw [Nat.zero_add] at hi0
    exact lv_iinc (x := v) (v := v + x) hx hb (z_len hdec rfl) (z_lr_has hlr) hi0 (by rw [hq]) ham rfl (fun ls' hl' => hs hk hn ad H locs ls' (hR.setl (z_lr_set hlr (by simpa using hno) hl')))
  case iadd =>
    have hnx : nx = pc + 1 := of_decide_eq_true hchk
    subst hnx
    obtain ⟨v, w, r, rfl, hs⟩ := z_k2_of hs
    exact lv_iadd hx hb (z_len hdec rfl) (hs hk hn ad H locs lsC hR)
  case isub =>
    have hnx : nx = pc + 1 := of_decide_eq_true hchk
    subst hnx
    obtain ⟨v, w, r, rfl, hs⟩ := z_k2_of hs
    exact lv_isub hx hb (z_len hdec rfl) (hs hk hn ad H locs lsC hR)
  case imul =>
    have hnx : nx = pc + 1 := of_decide_eq_true hchk
    subst hnx
    obtain ⟨v, w, r, rfl, hs⟩ := z_k2_of hs
    exact lv_imul hx hb (z_len hdec rfl) (hs hk hn ad H locs lsC hR)
  case iand =>
    have hnx : nx = pc + 1 := of_decide_eq_true hchk
    subst hnx
    obtain ⟨v, w, r, rfl, hs⟩ := z_k2_of hs
    exact lv_iand hx hb (z_len hdec rfl) (hs hk hn ad H locs lsC hR)
  case ior =>
    have hnx : nx = pc + 1 := of_decide_eq_true hchk
    subst hnx
    obtain ⟨v, w, r, rfl, hs⟩ := z_k2_of hs
    exact lv_ior hx hb (z_len hdec rfl) (hs hk hn ad H locs lsC hR)
  case ixor =>
    have hnx : nx = pc + 1 := of_decide_eq_true hchk
    subst hnx
    obtain ⟨v, w, r, rfl, hs⟩ := z_k2_of hs
    exact lv_ixor hx hb (z_len hdec rfl) (hs hk hn ad H locs lsC hR)
  case ishl =>
    have hnx : nx = pc + 1 := of_decide_eq_true hchk
    subst hnx
    obtain ⟨v, w, r, rfl, hs⟩ := z_k2_of hs
    exact lv_ishl hx hb (z_len hdec rfl) (hs hk hn ad H locs lsC hR)
  case ishr =>
    have hnx : nx = pc + 1 := of_decide_eq_true hchk
    subst hnx
    obtain ⟨v, w, r, rfl, hs⟩ := z_k2_of hs
    exact lv_ishr hx hb (z_len hdec rfl) (hs hk hn ad H locs lsC hR)
  case idiv =>
    have hnx : nx = pc + 1 := of_decide_eq_true hchk
    subst hnx
    obtain ⟨v, w, r, rfl, hs⟩ := z_k2_of hs
    exact lv_idiv hx hb (z_len hdec rfl) hs.1 (hs.2 hk hn ad H locs lsC hR)
  case irem =>
    have hnx : nx = pc + 1 := of_decide_eq_true hchk
    subst hnx
    obtain ⟨v, w, r, rfl, hs⟩ := z_k2_of hs
    exact lv_irem hx hb (z_len hdec rfl) hs.1 (hs.2 hk hn ad H locs lsC hR)
  case iushr =>
    have hnx : nx = pc + 1 := of_decide_eq_true hchk
    subst hnx
    obtain ⟨v, w, r, rfl, hs⟩ := z_k2_of hs
    exact lv_iushr hx hb (z_len hdec rfl) rfl (hs hk hn ad H locs lsC hR)
  case ineg =>
    have hnx : nx = pc + 1 := of_decide_eq_true hchk
    subst hnx
    obtain ⟨v, r, rfl, hs⟩ := z_k1_of hs
    exact lv_ineg hx hb (z_len hdec rfl) (hs hk hn ad H locs lsC hR)
  case i2l =>
    have hnx : nx = pc + 1 := of_decide_eq_true hchk
    subst hnx
    obtain ⟨v, r, rfl, hs⟩ := z_k1_of hs
    exact lv_i2l hx hb (z_len hdec rfl) rfl (hs hk hn ad H locs lsC hR)
  case ladd =>
    have hnx : nx = pc + 1 := of_decide_eq_true hchk
    subst hnx
    obtain ⟨v, w, r, rfl, hs⟩ := z_kll_of hs
    exact lv_ladd hx hb (z_len hdec rfl) (hs hk hn ad H locs lsC hR)
  case lcmp =>
    have hnx : nx = pc + 1 := of_decide_eq_true hchk
    subst hnx
    obtain ⟨v, w, r, rfl, hs⟩ := z_kll_of hs
    exact W.lcmp hx hb (z_len hdec rfl) (hs hk hn ad H locs lsC hR)
  case dup =>
    have hnx : nx = pc + 1 := of_decide_eq_true hchk
    subst hnx
    obtain ⟨v, r, rfl, hc1, hs⟩ := z_kd1_of (st := st) (P := fun v r => z_XW p l e R s m args below meth c Q D dA A h0 ad0 mc ms ml (pc + 1) ls (v :: v :: r) h k n) hs
    exact lv_dup hx hb (z_len hdec rfl) (by rw [z_cat_tv]; exact hc1) (hs hk hn ad H locs lsC hR)
  case dup2 =>
    have hnx : nx = pc + 1 := of_decide_eq_true hchk
    subst hnx
    obtain ⟨v, w, r, rfl, hs⟩ := z_kir_of hs
    exact lv_dup2_11 hx hb (z_len hdec rfl) rfl rfl (hs hk hn ad H locs lsC hR)
  case ifCond o j =>
    simp only [z_chk, Bool.and_eq_true, decide_eq_true_eq] at hchk
    obtain ⟨hnx, ht⟩ := hchk
    subst hnx
    obtain ⟨v, r, rfl, hs⟩ := z_k1_of hs
    cases o
    case eq => exact lv_if_eq hx hb (z_len hdec rfl) ht (fun hc => hs.1 hc hk hn ad H locs lsC hR) (fun hc => hs.2 hc hk hn ad H locs lsC hR)
    case ne => exact lv_if_ne hx hb (z_len hdec rfl) ht (fun hc => hs.1 hc hk hn ad H locs lsC hR) (fun hc => hs.2 (fun h9 => h9 hc) hk hn ad H locs lsC hR)
    case lt => exact lv_if_lt hx hb (z_len hdec rfl) ht (fun hc => hs.1 hc hk hn ad H locs lsC hR) (fun hc => hs.2 hc hk hn ad H locs lsC hR)
    case ge => exact lv_if_ge hx hb (z_len hdec rfl) ht (fun hc => hs.1 hc hk hn ad H locs lsC hR) (fun hc => hs.2 hc hk hn ad H locs lsC hR)
    case gt => exact lv_if_gt hx hb (z_len hdec rfl) ht (fun hc => hs.1 hc hk hn ad H locs lsC hR) (fun hc => hs.2 hc hk hn ad H locs lsC hR)
    case le => exact lv_if_le hx hb (z_len hdec rfl) ht (fun hc => hs.1 hc hk hn ad H locs lsC hR) (fun hc => hs.2 hc hk hn ad H locs lsC hR)
  case if_icmp o j =>
    simp only [z_chk, Bool.and_eq_true, decide_eq_true_eq] at hchk
    obtain ⟨hnx, ht⟩ := hchk
    subst hnx
    obtain ⟨v, w, r, rfl, hs⟩ := z_k2_of hs
    cases o
    case eq => exact lv_icmp_eq hx hb (z_len hdec rfl) ht (fun hc => hs.1 hc hk hn ad H locs lsC hR) (fun hc => hs.2 hc hk hn ad H locs lsC hR)
    case ne => exact lv_icmp_ne hx hb (z_len hdec rfl) ht (fun hc => hs.1 hc hk hn ad H locs lsC hR) (fun hc => hs.2 (fun h9 => h9 hc) hk hn ad H locs lsC hR)
    case lt => exact lv_icmp_lt hx hb (z_len hdec rfl) ht (fun hc => hs.1 hc hk hn ad H locs lsC hR) (fun hc => hs.2 hc hk hn ad H locs lsC hR)
    case ge => exact lv_icmp_ge hx hb (z_len hdec rfl) ht (fun hc => hs.1 hc hk hn ad H locs lsC hR) (fun hc => hs.2 hc hk hn ad H locs lsC hR)
    case gt => exact lv_icmp_gt hx hb (z_len hdec rfl) ht (fun hc => hs.1 hc hk hn ad H locs lsC hR) (fun hc => hs.2 hc hk hn ad H locs lsC hR)
    case le => exact lv_icmp_le hx hb (z_len hdec rfl) ht (fun hc => hs.1 hc hk hn ad H locs lsC hR) (fun hc => hs.2 hc hk hn ad H locs lsC hR)
  case goto o =>
    simp only [z_chk, Bool.and_eq_true, decide_eq_true_eq] at hchk
    obtain ⟨ht, hnx⟩ := hchk
    exact lv_goto hx hb (z_len hdec hnx) ht (hs hk hn ad H locs lsC hR)
  case tableswitch df lo hi offs =>
    obtain ⟨v, r, rfl, hs⟩ := z_k1_of hs
    have hchk : z_csw pc a lo df hi offs.toList sw = true := hchk
    unfold z_csw at hchk
    simp only [Bool.and_eq_true, decide_eq_true_eq] at hchk
    obtain ⟨⟨⟨h1, h2⟩, h3⟩, h4⟩ := hchk
    have h5 : ∀ j, j < offs.toList.length → ∃ o x t, offs.toList[j]? = some o ∧ sw[j]? = some (x, t) ∧ x.toInt = lo + (j : Int) ∧ (pc : Int) + o = (t : Int) := by
      intro j hj
      have h6 := List.all_eq_true.mp h4 j (List.mem_range.mpr hj)
      obtain ⟨o, ho⟩ : ∃ o, offs.toList[j]? = some o := ⟨_, List.getElem?_eq_getElem hj⟩
      obtain ⟨⟨x, t⟩, hxt⟩ : ∃ q, sw[j]? = some q := ⟨_, List.getElem?_eq_getElem (by omega)⟩
      rw [ho, hxt] at h6
      simp only [Bool.and_eq_true, decide_eq_true_eq] at h6
      exact ⟨o, x, t, ho, hxt, h6.1, h6.2⟩
    rcases z_sw_of hs with ⟨j, x, t, hj, hv, hs⟩ | ⟨hno, hs⟩
    · have hjl : j < offs.toList.length := by rw [← h3]; exact (List.getElem?_eq_some_iff.mp hj).1
      obtain ⟨o, x', t', g1, g2, g3, g4⟩ := h5 j hjl
      rw [hj] at g2
      cases g2
      refine lv_tableIn hx hb hdec (x := v) (off := o) (tgt := t) (by rw [hv, g3]; omega) (by rw [hv, g3, h2]; omega) ?_ g4 (hs hk hn ad H locs lsC hR)
      rw [hv, g3, show (lo + (j : Int) - lo).toNat = j by omega, ← Array.getElem?_toList]
      exact g1
    · refine lv_tableOut hx hb hdec (x := v) (tgt := a) ?_ h1 (hs hk hn ad H locs lsC hR)
      by_cases hlt : v.toInt < lo
      · exact Or.inl hlt
      · right
        rw [h2]
        by_cases hl2 : v.toInt < lo + (offs.toList.length : Int)
        · exfalso
          obtain ⟨o, x, t, g1, g2, g3, g4⟩ := h5 (v.toInt - lo).toNat (by omega)
          refine hno _ x t g2 (Int32.toInt_inj.mp ?_)
          rw [g3]
          omega
        · omega
  case iaload =>
    have hnx : nx = pc + 1 := of_decide_eq_true hchk
    subst hnx
    
    obtain ⟨j, q, r, rfl, hs⟩ := z_kir_of hs
    have hs : z_hs S h q fun m f => vp_in j m ∧ z_XW p l e R s _ args below meth c Q D dA A h0 ad0 mc ms ml (pc + 1) ls (.int (f j.toNatClampNeg) :: r) h k n := hs
    unfold z_hs at hs
    split at hs
    · rename_i hq
      split at hs
      · rename_i hq2
        have hq2 := Nat.eq_of_beq_eq_true hq2
        subst hq2
        have e0 : ad 2000 = ad0 2000 := hR.1 _ (z_okr_iff.mpr (Or.inr (Or.inr (by decide))))
        show W p l e R s _ args below meth c H locs k n Q (F0 _ pc lsC (.int j :: .ref (ad 2000) :: r.map (z_tv ad)))
        rw [e0]
        exact va_ti (t := ad0 2000) (N := 7) hx hb hZ.2.1 hS hs.1 rfl (z_len hdec rfl) (hs.2 hk hn ad H locs lsC hR)
      · obtain ⟨hq3, hs⟩ := z_if_of hs
        have hq3 := Nat.eq_of_beq_eq_true hq3
        subst hq3
        have e0 : ad 2001 = ad0 2001 := hR.1 _ (z_okr_iff.mpr (Or.inr (Or.inr (by decide))))
        show W p l e R s _ args below meth c H locs k n Q (F0 _ pc lsC (.int j :: .ref (ad 2001) :: r.map (z_tv ad)))
        rw [e0]
        exact va_ti (t := ad0 2001) (N := S.1) hx hb hZ.2.2 hS hs.1 rfl (z_len hdec rfl) (hs.2 hk hn ad H locs lsC hR)
    · obtain ⟨m1, f, hg, hs⟩ := z_hi_of hs
      exact va_iald hx hb hK.1 hP _ 0 (z_get_tw dA ad hg) rfl hs.1 (z_len hdec rfl) (hs.2 hk hn ad H locs lsC hR)
  case arraylength =>
    have hnx : nx = pc + 1 := of_decide_eq_true hchk
    subst hnx
    
    obtain ⟨q, r, rfl, hs⟩ := z_kr_of hs
    have hs : z_hs S h q fun m f => z_XW p l e R s _ args below meth c Q D dA A h0 ad0 mc ms ml (pc + 1) ls (.int (Int32.ofNat m) :: r) h k n := hs
    unfold z_hs at hs
    split at hs
    · rename_i hq
      split at hs
      · rename_i hq2
        have hq2 := Nat.eq_of_beq_eq_true hq2
        subst hq2
        have e0 : ad 2000 = ad0 2000 := hR.1 _ (z_okr_iff.mpr (Or.inr (Or.inr (by decide))))
        show W p l e R s _ args below meth c H locs k n Q (F0 _ pc lsC (.ref (ad 2000) :: r.map (z_tv ad)))
        rw [e0]
        exact va_tlen (t := ad0 2000) (N := 7) hx hb hZ.2.1 hS rfl (z_len hdec rfl) (hs hk hn ad H locs lsC hR)
      · obtain ⟨hq3, hs⟩ := z_if_of hs
        have hq3 := Nat.eq_of_beq_eq_true hq3
        subst hq3
        have e0 : ad 2001 = ad0 2001 := hR.1 _ (z_okr_iff.mpr (Or.inr (Or.inr (by decide))))
        show W p l e R s _ args below meth c H locs k n Q (F0 _ pc lsC (.ref (ad 2001) :: r.map (z_tv ad)))
        rw [e0]
        exact va_tlen (t := ad0 2001) (N := S.1) hx hb hZ.2.2 hS rfl (z_len hdec rfl) (hs hk hn ad H locs lsC hR)
    · obtain ⟨m1, f, hg, hs⟩ := z_hi_of hs
      exact va_alen hx hb hK.1 hP _ 0 (z_get_tw dA ad hg) rfl rfl (z_len hdec rfl) (hs hk hn ad H locs lsC hR)
  case iastore =>
    have hnx : nx = pc + 1 := of_decide_eq_true hchk
    subst hnx
    
    obtain ⟨v, j, q, r, rfl, hs⟩ := z_kiir_of hs
    obtain ⟨m1, f, hg, hs⟩ := z_hi_of hs
    exact va_iast hx hb hK.1 hP hD hS _ 0 (z_get_tw dA ad hg) rfl hs.1 (z_len hdec rfl) (fun H1 locs1 hP1 hD1 hS1 => hs.2 hk hn ad H1 locs1 lsC (hR.seth hg hP1 hD1 hS1))
  case baload =>
    have hnx : nx = pc + 1 := of_decide_eq_true hchk
    subst hnx
    
    obtain ⟨j, q, r, rfl, hs⟩ := z_kir_of hs
    obtain ⟨m1, f, hg, hs⟩ := z_hi_of hs
    exact va_zald hx hb hK.1 hP _ 1 (z_get_tw dA ad hg) rfl hs.1 (z_len hdec rfl) (hs.2 hk hn ad H locs lsC hR)
  case bastore =>
    have hnx : nx = pc + 1 := of_decide_eq_true hchk
    subst hnx
    
    obtain ⟨v, j, q, r, rfl, hs⟩ := z_kiir_of hs
    obtain ⟨m1, f, hg, hs⟩ := z_hi_of hs
    refine va_zast hx hb hK.1 hP hD hS _ 1 (z_get_tw dA ad hg) rfl hs.1 (z_len hdec rfl) (fun H1 locs1 hP1 hD1 hS1 => ?_)
    rw [z_nar hs.2.1] at hP1 hD1
    exact hs.2.2 hk hn ad H1 locs1 lsC (hR.seth hg hP1 hD1 hS1)
  case aaload =>
    have hnx : nx = pc + 1 := of_decide_eq_true hchk
    subst hnx
    
    obtain ⟨j, q, r, rfl, hs⟩ := z_kir_of hs
    obtain ⟨f, hg, hj, t, ht, hs⟩ := z_hr_of hs
    refine va_aldq hx hb hK.1 hP _ 2 (z_get_tw dA ad hg) rfl hj (z_len hdec rfl) ?_
    rw [ht]
    exact hs hk hn ad H locs lsC hR
  case aastore =>
    have hnx : nx = pc + 1 := of_decide_eq_true hchk
    subst hnx
    
    obtain ⟨v, j, q, r, rfl, hs⟩ := z_krir_of hs
    obtain ⟨f, hg, hs⟩ := z_hr_of hs
    obtain ⟨fs, hv, hs⟩ := z_ho_of hs
    refine va_astq (ci := 2) (r := (RX2, TX2, 3)) hx hb hK.1 hP hD hS _ 2 _ (z_get_tw dA ad hg) rfl (z_get_tw dA ad hv) rfl hs.1 (z_len hdec rfl) (fun H1 locs1 hP1 hD1 hS1 => ?_)
    have e1 : va_up (fun j : Nat => ((f[j]?).getD none).map ad) j.toNatClampNeg (some (ad v)) = fun i : Nat => (((f.set j.toNatClampNeg (some v))[i]?).getD none).map ad := by
      funext i
      unfold va_up
      have hl : j.toNatClampNeg < f.length := by
        have := hs.1
        unfold vp_in at this
        omega
      by_cases hi : i = j.toNatClampNeg
      · subst hi
        rw [if_pos rfl, List.getElem?_set_self hl]
        rfl
      · rw [if_neg hi, List.getElem?_set_ne (Ne.symm hi)]
    have e2 : f.length = (f.set j.toNatClampNeg (some v)).length := by simp
    rw [e1] at hP1 hD1
    rw [e2] at hP1 hD1
    exact hs.2 hk hn ad H1 locs1 lsC (hR.seth hg hP1 hD1 hS1)
  case getfield v =>
    simp only [z_chk, Bool.and_eq_true, decide_eq_true_eq] at hchk
    obtain ⟨hnx, hf⟩ := hchk
    subst hnx
    obtain ⟨q, r, rfl, hs⟩ := z_kr_of hs
    obtain ⟨fs, hg, hs⟩ := z_ho_of hs
    obtain ⟨w, hw, hs⟩ := z_fd_of hs
    obtain ⟨r1, hc, hb1, hl⟩ := z_flP hf
    exact va_get (D := D) (ci := a) (v := z_tv ad w) (C := r1.1) (T := r1.2.1) (N := r1.2.2) hx hb hts (fun w h9 => hTs w ((z_clsP hc).2.2.1 w h9)) hown hK.1 hP _ (z_get_tw dA ad hg) hc b hb1 (hts _ (hTs _ hl)) (fun _ h9 => h9) (by rw [List.getElem?_map, hw]; rfl) (z_len hdec rfl) (hs hk hn ad H locs lsC hR)
  case putfield v =>
    simp only [z_chk, Bool.and_eq_true, decide_eq_true_eq] at hchk
    obtain ⟨⟨⟨hnx, hf⟩, hkd⟩, hfin⟩ := hchk
    subst hnx
    obtain ⟨w, q, r, rfl, hs⟩ := z_kvr_of hs
    obtain ⟨fs, hg, hs⟩ := z_ho_of hs
    obtain ⟨hbl, hs⟩ := z_if_of hs
    obtain ⟨r1, hc, hb1, hl⟩ := z_flP hf
    obtain ⟨k1, k2, k3, k4, k5⟩ := z_clsP hc
    obtain ⟨n1, n2, hs⟩ := z_pf_of hs hkd ad
    rw [hc] at hfin
    have hbl : b < (fs.map (z_tv ad)).length := by rw [List.length_map]; exact Nat.le_of_ble_eq_true hbl
    have hgo : ∀ (H1 : Heap) (locs1 : List Loc), va_P D z_cls ((z_tw dA ad h).set (z_pos h q) (ad q, .inr (a, (fs.map (z_tv ad)).set b (z_tv ad w)))) H1 → va_D A ((z_tw dA ad h).set (z_pos h q) (ad q, .inr (a, (fs.map (z_tv ad)).set b (z_tv ad w)))) → va_S A s.heap H1 locs1 → W p l e R s _ args below meth c H1 locs1 k n Q (F0 _ (pc + 3) lsC (r.map (z_tv ad))) := fun H1 locs1 hP1 hD1 hS1 => by
      rw [← List.map_set] at hP1 hD1
      exact hs hk hn ad H1 locs1 lsC (hR.seth (c1 := .inr (.inr (a, fs.set b w))) hg hP1 hD1 hS1)
    cases hfl : (r1.2.1 b).2.2.2 with
    | false => exact va_put (D := D) (ci := a) (v := z_tv ad w) (ty := z_ty a b) (C := r1.1) (T := r1.2.1) (N := r1.2.2) hx hb hts (fun w h9 => hTs w (k3 w h9)) (z_ty a) k1 k2 hown hK.1 hP hD hS _ (z_get_tw dA ad hg) hc b hb1 (hts _ (hTs _ hl)) (fun _ h9 => h9) hfl (k1 b hb1) n1 n2 hbl (z_len hdec rfl) hgo
    | true =>
      dsimp only at hfin
      rw [hfl] at hfin
      simp only [Bool.not_true, Bool.false_or, Bool.and_eq_true, decide_eq_true_eq] at hfin
      exact va_putF (D := D) (ci := a) (v := z_tv ad w) (ty := z_ty a b) (C := r1.1) (T := r1.2.1) (N := r1.2.2) hx hb hts (fun w h9 => hTs w (k3 w h9)) (z_ty a) k1 k2 hown hK.1 hP hD hS _ (z_get_tw dA ad hg) hc b hb1 (hts _ (hTs _ hl)) (fun _ h9 => h9) hfl (hini hfin.1) hfin.2 (k1 b hb1) n1 n2 hbl (z_len hdec rfl) hgo
  case getstatic v =>
    simp only [z_chk, Bool.and_eq_true, decide_eq_true_eq] at hchk
    obtain ⟨⟨hnx, ho⟩, hv⟩ := hchk
    subst hnx
    subst ho
    subst hv
    have e0 : ad 2000 = ad0 2000 := hR.1 _ (z_okr_iff.mpr (Or.inr (Or.inr (by decide))))
    have h9 := hs hk hn ad H locs lsC hR
    rw [List.map_cons, show z_tv ad (.ref 2000) = .ref (ad0 2000) from congrArg Value.ref e0] at h9
    exact va_gets hx hb hZ.1 hS hown (hts _ (hTs _ (z_inW f_fac rfl))) (fun _ h9 => h9) (z_len hdec rfl) h9
  case new v =>
    simp only [z_chk, Bool.and_eq_true, decide_eq_true_eq] at hchk
    obtain ⟨⟨hnx, hf⟩, hbN⟩ := hchk
    subst hnx
    obtain ⟨hwf, hk1, hn1, hs⟩ := hs
    obtain ⟨r1, hc, g1, g2, g3⟩ := z_cllP hf
    obtain ⟨k1, k2, k3, k4, k5⟩ := z_clsP hc
    rw [hc] at hbN
    have hbN : r1.2.2 = b := of_decide_eq_true hbN
    subst hbN
    obtain ⟨r, h', hs, o1, o2, o3, o4⟩ := z_new_of hs
    have hdf : (z_dfl a).map (z_tv ad) = z_dfl a := by
      unfold z_dfl
      split <;> rfl
    refine va_new (D := D) (ci := a) (fs := z_dfl a) (C := r1.1) (T := r1.2.1) (N := r1.2.2) hx hb hts (fun w h9 => hTs w (k3 w h9)) (z_ty a) k1 hown (hts _ (hTs _ g1)) (hts _ (hTs _ g2)) (hts _ (hTs _ g3)) hK.1 hP hD hS hA hc k4 (Nat.le_trans hk1 hRc) (Nat.le_trans hn1 hRs) (z_len hdec rfl) (fun q H1 hP1 hD1 hS1 => ?_)
    have e1 : z_te dA ad (.inr (.inr (a, z_dfl a))) = .inr (a, z_dfl a) := by
      show Sum.inr (a, (z_dfl a).map (z_tv ad)) = _
      rw [hdf]
    have e2 : z_te dA (z_ad ad r q) (.inr (.inr (a, z_dfl a))) = z_te dA ad (.inr (.inr (a, z_dfl a))) := by
      show Sum.inr (a, (z_dfl a).map (z_tv (z_ad ad r q))) = Sum.inr (a, (z_dfl a).map (z_tv ad))
      unfold z_dfl
      split <;> rfl
    rw [← e1] at hP1 hD1
    obtain ⟨hR1, hst⟩ := hR.push (r := r) (q := q) hwf o1 (o2 h0 hR.2.2.1.1 hR.2.2.1.2) (by rw [o4, e2]; simp [z_ad]) o3 hP1 hD1 hS1
    have h9 := hs hk1 hn1 (z_ad ad r q) H1 locs lsC hR1
    rw [List.map_cons, hst, show z_tv (z_ad ad r q) (.ref r) = .ref q by simp [z_tv, z_ad]] at h9
    exact h9
  case newarray t =>
    simp only [z_chk, Bool.and_eq_true, decide_eq_true_eq] at hchk
    obtain ⟨⟨hnx, ht⟩, hb1⟩ := hchk
    subst hnx
    obtain ⟨v, r, rfl, hwf, hv, hk1, hn1, hs2⟩ := z_k1_of hs
    clear hs
    subst hv
    obtain ⟨rr, h', hs, o1, o2, o3, o4⟩ := z_new_of hs2
    have hz := z_toNat hb1
    have hgo : ∀ (q : Nat) (H1 : Heap) (ty : FieldType) (t0 : Nat) (cA : ClassId), (z_tys dA)[t0]? = some (dA a, ty) → va_RA s cA ty → (∀ C, ty ≠ .object C) → va_P D z_cls (z_tw dA ad h ++ [(q, .inl (cA, b, .inl fun _ => 0))]) H1 → va_D A (z_tw dA ad h ++ [(q, .inl (cA, b, .inl fun _ => 0))]) → va_S A s.heap H1 locs → W p l e R s m args below meth c H1 locs (k + 1) (n + b) Q (F0 m (pc + 2) lsC (.ref q :: r.map (z_tv ad))) := by
      intro q H1 ty t0 cA htt hra hno hP1 hD1 hS1
      have hra2 := (hK.1.2 t0 _ htt).2
      have hcA : cA = dA a := by
        cases ty <;> first | exact absurd rfl (hno _) | exact Option.some.inj ((show s.vm.findClass _ = some cA from hra).symm.trans (show s.vm.findClass _ = some (dA a) from hra2))
      subst hcA
      obtain ⟨hR1, hst⟩ := hR.push (r := rr) (q := q) (c1 := .inl (a, b, fun _ => 0)) hwf o1 (o2 h0 hR.2.2.1.1 hR.2.2.1.2) (by rw [o4]; simp [z_ad, z_te]) o3 hP1 hD1 hS1
      have h9 := hs hk1 hn1 (z_ad ad rr q) H1 locs lsC hR1
      rw [List.map_cons, hst, show z_tv (z_ad ad rr q) (.ref rr) = .ref q by simp [z_tv, z_ad]] at h9
      exact h9
    simp only [Bool.or_eq_true, Bool.and_eq_true, decide_eq_true_eq] at ht
    rcases ht with ⟨rfl, rfl⟩ | ⟨rfl, rfl⟩
    · refine va_newa (atype := .int) (ty := .int) (a0 := (b, .inl fun _ => 0)) hx hb (hts _ (hTs _ (z_inW f_arr.1 rfl))) rfl hK.1 hP hD hS hA (fun cA => rfl) hz.1 hz.2 (by show b * 4 ≤ _; omega) (Nat.le_trans hk1 hRc) (Nat.le_trans hn1 hRs) (z_len hdec rfl) (fun q cA H1 hK1 hP1 hD1 hS1 => ?_)
      exact hgo q H1 .int 0 cA rfl (hK1.2 3 _ rfl).2 (fun C h9 => by cases h9) hP1 hD1 hS1
    · refine va_newa (atype := .boolean) (ty := .boolean) (a0 := (b, .inl fun _ => 0)) hx hb (hts _ (hTs _ (z_inW f_arr.2.1 rfl))) rfl hK.1 hP hD hS hA (fun cA => rfl) hz.1 hz.2 (by show b * 1 ≤ _; omega) (Nat.le_trans hk1 hRc) (Nat.le_trans hn1 hRs) (z_len hdec rfl) (fun q cA H1 hK1 hP1 hD1 hS1 => ?_)
      exact hgo q H1 .boolean 1 cA rfl (hK1.2 3 _ rfl).2 (fun C h9 => by cases h9) hP1 hD1 hS1
  case anewarray v =>
    simp only [z_chk, Bool.and_eq_true, decide_eq_true_eq] at hchk
    obtain ⟨⟨⟨hnx, ho⟩, hv1⟩, hb1⟩ := hchk
    subst hnx
    subst ho
    subst hv1
    obtain ⟨v, r, rfl, hwf, hv, hk1, hn1, hs2⟩ := z_k1_of hs
    clear hs
    subst hv
    obtain ⟨rr, h', hs, o1, o2, o3, o4⟩ := z_new_of hs2
    have hz := z_toNat hb1
    refine va_newq (C := RX2) hx hb hown (hts _ (hTs _ (z_inW f_arr.2.2 rfl))) hK.2.2 hK.1 hP hD hS hA hz.1 hz.2 (by omega) (Nat.le_trans hk1 hRc) (Nat.le_trans hn1 hRs) (z_len hdec rfl) (fun q cA H1 hK1 hP1 hD1 hS1 => ?_)
    have hcA : cA = dA 2 := by
      obtain ⟨kA, comp, f1, f2, f3, f4⟩ := (hK1.2 3 (cA, .object RX2) rfl).2
      obtain ⟨kA', comp', f1', f2', f3', f4'⟩ := (hK.1.2 2 (dA 2, .object RX2) rfl).2
      exact Option.some.inj (f4.symm.trans f4')
    subst hcA
    have e1 : ∀ ad : Nat → Nat, z_te dA ad (.inr (.inl (List.replicate b none))) = .inl (dA 2, b, .inr (.inr (.inr (.inr fun _ => none)))) := fun ad => by
      show Sum.inl (dA 2, (List.replicate b (none : Option Nat)).length, Sum.inr (Sum.inr (Sum.inr (Sum.inr fun j : Nat => (((List.replicate b (none : Option Nat))[j]?).getD none).map ad)))) = _
      have : (fun j : Nat => (((List.replicate b (none : Option Nat))[j]?).getD none).map ad) = fun _ => none := by
        funext j
        rw [List.getElem?_replicate]
        split <;> rfl
      rw [this, List.length_replicate]
    rw [← e1 ad] at hP1 hD1
    obtain ⟨hR1, hst⟩ := hR.push (r := rr) (q := q) (c1 := .inr (.inl (List.replicate b none))) hwf o1 (o2 h0 hR.2.2.1.1 hR.2.2.1.2) (by rw [o4, e1, e1]; simp [z_ad]) o3 hP1 hD1 hS1
    have h9 := hs hk1 hn1 (z_ad ad rr q) H1 locs lsC hR1
    rw [List.map_cons, hst, show z_tv (z_ad ad rr q) (.ref rr) = .ref q by simp [z_tv, z_ad]] at h9
    exact h9
  case invokevirtual v =>
    simp only [z_chk, Bool.and_eq_true, decide_eq_true_eq] at hchk
    obtain ⟨⟨hnx, hm1⟩, hv1⟩ := hchk
    obtain ⟨As, r, rfl, hlen, hs⟩ := z_app_of (z_e_vi hs)
    obtain ⟨hcat, hs⟩ := z_if_of hs
    obtain ⟨hrc, hs⟩ := z_if_of hs
    obtain ⟨q, As', fs, rfl, hg⟩ := z_rcv_of hrc
    obtain ⟨v0, h', mc', ms', hex, hwf, hk1, hn1, hs⟩ := z_call_of hk hn hs
    obtain ⟨r1, hr1, hl1⟩ := z_mlP hm1
    obtain ⟨r2, e2, hr2, he2, w1, w2, hds, hcl, h8⟩ := z_vsP hv1
    rw [hr1] at hr2
    cases hr2
    obtain ⟨y1, y2, y3, y4, y5, y6⟩ := z_myP hr1 (by omega)
    have hM := hC mc' ms' a _ h v0 h' hex r1 hr1 (by omega) ad H.size
    have hds : (parseMethodDescriptor r1.2.1.desc).map (fun d => d.parameters.length) = some As'.length := by
      cases hpd : parseMethodDescriptor r1.2.1.desc with
      | none => rw [hpd] at hds; cases hds
      | some dd =>
        rw [hpd] at hds
        have : dd.parameters.length + 1 = b := Option.some.inj hds
        have : As'.length + 1 = b := hlen
        exact congrArg some (by show dd.parameters.length = _; omega)
    have hG : GoodIn Ts (wsV (z_cn own) v e2.1 r1.2.1 (Jvm.Cond.code r1.2.1 r1.2.2.1 r1.2.2.2.1 r1.2.2.2.2 :: z_ws)) := by
      intro w hw
      rcases List.mem_append.mp hw with hw | hw
      · have hw' : w ∈ z_ws := by
          rcases List.mem_cons.mp hw with h9 | hw
          · rw [h9]; exact hl1
          · rcases List.mem_cons.mp hw with h9 | hw
            · rw [h9]; exact w1
            · rcases List.mem_cons.mp hw with h9 | hw
              · rw [h9, hcl]; exact w2
              · rcases List.mem_cons.mp hw with h9 | hw
                · rw [h9, hcl]; exact y3
                · cases hw
        exact ⟨hTs w hw', good_of_word (List.mem_filter.mp hw').2⟩
      · exact z_goodIn hTs y2 w hw
    refine z_after hA hR hwf hnx hk1 hn1 (va_runV (C := e2.1) (b := ad q) (As := As'.map (z_tv ad)) (rest := r.map (z_tv ad)) ⟨hx, hb, hml, hown, hts⟩ hM (cwV As'.length hts hG rfl rfl rfl ⟨hcl.symm, y5.1, y5.2, hds⟩ ⟨hRf, by show 8 + (r1.2.2.2.1 + 11) + 36 * d ≤ _; omega⟩) ⟨z_blind, va_recv hK.1 hP he2 (z_get_tw dA ad hg), fun U hU hW => z_given (.ref q :: As') hK hZ hA hR U hU hW⟩ rfl (List.length_map _) hlr.2.1.1 ?_ (lv_room (by rw [z_cat_map]; exact Nat.le_of_ble_eq_true hcat)) (z_len hdec hnx) ⟨Nat.le_trans hk1 hRc, Nat.le_trans hn1 hRs⟩) hs
    show List.map (z_tv ad) ((Value.ref q :: As').reverse ++ r) = _
    rw [List.reverse_cons, List.append_assoc, List.map_append, List.map_reverse]
    rfl
  case invokestatic v =>
    simp only [z_chk, Bool.and_eq_true, decide_eq_true_eq] at hchk
    obtain ⟨⟨hnx, hm1⟩, hv1⟩ := hchk
    obtain ⟨As, r, rfl, hlen, hs⟩ := z_app_of (z_e_st hs)
    obtain ⟨hcat, hs⟩ := z_if_of hs
    obtain ⟨v0, h', mc', ms', hex, hwf, hk1, hn1, hs⟩ := z_call_of hk hn hs
    obtain ⟨r1, hr1, w1, hds, h8⟩ := z_ssP hv1
    obtain ⟨y1, y2, y3, y4, y5, y6⟩ := z_myP hr1 (by omega)
    have hM := hC mc' ms' a _ h v0 h' hex r1 hr1 (by omega) ad H.size
    rw [← hlen] at hds
    have hst : List.map (z_tv ad) (As.reverse ++ r) = (As.map (z_tv ad)).reverse ++ r.map (z_tv ad) := by rw [List.map_append, List.map_reverse]
    have hRo : 8 + (r1.2.2.2.1 + 11) + 36 * d ≤ R.locals := by omega
    simp only [Bool.or_eq_true, decide_eq_true_eq] at hm1
    rcases hm1 with hm1 | hm1
    · obtain ⟨r2, hr2, hl1⟩ := z_mlP hm1
      rw [hr1] at hr2
      cases hr2
      have hG : GoodIn Ts (va_wsS (z_cn own) v r1.2.1 (Jvm.Cond.code r1.2.1 r1.2.2.1 r1.2.2.2.1 r1.2.2.2.2 :: z_ws)) := by
        intro w hw
        rcases List.mem_append.mp hw with hw | hw
        · have hw' : w ∈ z_ws := by
            rcases List.mem_cons.mp hw with h9 | hw
            · rw [h9]; exact hl1
            · rcases List.mem_cons.mp hw with h9 | hw
              · rw [h9]; exact w1
              · rcases List.mem_cons.mp hw with h9 | hw
                · rw [h9]; exact y3
                · cases hw
          exact ⟨hTs w hw', good_of_word (List.mem_filter.mp hw').2⟩
        · exact z_goodIn hTs y2 w hw
      exact z_after hA hR hwf hnx hk1 hn1 (va_runS (As := As.map (z_tv ad)) (rest := r.map (z_tv ad)) ⟨hx, hb, hml, hown, hts⟩ hM (va_cwS As.length hts hG rfl rfl rfl ⟨y5.1, y5.2, hds⟩ ⟨hRf, hRo⟩) ⟨z_blind, fun U hU hW => z_given As hK hZ hA hR U hU hW⟩ rfl (List.length_map _) hlr.2.1.1 hst (lv_room (by rw [z_cat_map]; exact Nat.le_of_ble_eq_true hcat)) (z_len hdec hnx) ⟨Nat.le_trans hk1 hRc, Nat.le_trans hn1 hRs⟩) hs
    · have hnw := hK.2.1 _ hm1 r1 hr1
      exact z_after hA hR hwf hnx hk1 hn1 (va_runSN (host := RX4) (As := As.map (z_tv ad)) (rest := r.map (z_tv ad)) ⟨hx, hb, hml, hown, hts⟩ hM ⟨va_cnB As.length hts (z_goodIn hTs y2) rfl rfl rfl hnw (hts _ (hTs _ y3)) ⟨y5.1, y5.2, hds⟩ ⟨hRf, hRo⟩, hts _ (hTs _ w1), trivial⟩ ⟨z_blind, fun U hU hW => z_given As hK hZ hA hR U hU hW⟩ rfl (List.length_map _) hlr.2.1.1 hst (lv_room (by rw [z_cat_map]; exact Nat.le_of_ble_eq_true hcat)) (z_len hdec hnx) ⟨Nat.le_trans hk1 hRc, Nat.le_trans hn1 hRs⟩) hs
  case invokespecial v =>
    simp only [z_chk, Bool.and_eq_true, decide_eq_true_eq] at hchk
    obtain ⟨hnx, hm1⟩ := hchk
    obtain ⟨As, r, rfl, hlen, hs⟩ := z_app_of (z_e_sp hs)
    obtain ⟨hcat, hs⟩ := z_if_of hs
    simp only [Bool.or_eq_true, Bool.and_eq_true, decide_eq_true_eq, Bool.not_eq_true', decide_eq_false_iff_not] at hm1
    rcases hm1 with ⟨⟨ha0, hm1⟩, hb1⟩ | ⟨⟨ha0, hm1⟩, hi1⟩
    · subst ha0
      obtain ⟨r1, hr1, hl1⟩ := z_mlP hm1
      have hr1' : (8, objectInit, (⟨#[0xb1]⟩ : ByteArray), 1, none) = r1 := Option.some.inj hr1
      subst hr1'
      have hs : z_ob As (z_XW p l e R s m args below meth c Q D dA A h0 ad0 mc ms ml nx ls r h k n) := hs
      unfold z_ob at hs
      split at hs
      · subst hnx
        have hcat : ((r.map (z_tv ad)).map fun v => v.category).sum ≤ 8 := by rw [z_cat_map]; exact Nat.le_of_ble_eq_true hcat
        exact W.objInit hx hb hown (hts _ (hTs _ hl1)) (hts _ (hTs _ (z_inW f_obj.1 rfl))) (hts _ (hTs _ (z_inW f_obj.2 rfl))) rfl (by rw [hml]; exact hlr.2.1.1) rfl (z_len hdec rfl) (by omega) (by show 2 * 0 + ((r.map (z_tv ad)).map fun v => v.category).sum + 12 ≤ R.locals; omega) (hs hk hn ad H locs lsC hR)
      · exact hs.elim
    · obtain ⟨r1, hr1, w1, hnm, hds, hrt, h8⟩ := z_isP hi1
      obtain ⟨y1, y2, y3, y4, y5, y6⟩ := z_myP hr1 (by omega)
      have hs : z_if (z_isr As) (z_call (Ex S d) mc ms (z_XW p l e R s m args below meth c Q D dA A h0 ad0 mc ms ml) a nx ls As r h k n) := by
        have hs : z_sp a (z_ob As (z_XW p l e R s m args below meth c Q D dA A h0 ad0 mc ms ml nx ls r h k n)) (z_if (z_isr As) (z_call (Ex S d) mc ms (z_XW p l e R s m args below meth c Q D dA A h0 ad0 mc ms ml) a nx ls As r h k n)) := hs
        unfold z_sp at hs
        split at hs
        · rename_i hz
          exact absurd (Nat.eq_of_beq_eq_true hz) ha0
        · exact hs
      obtain ⟨hisr, hs⟩ := z_if_of hs
      obtain ⟨q, As', rfl⟩ : ∃ q As', As = .ref q :: As' := by
        unfold z_isr at hisr
        split at hisr
        · exact ⟨_, _, rfl⟩
        · cases hisr
      obtain ⟨v0, h', mc', ms', hex, hwf, hk1, hn1, hs⟩ := z_call_of hk hn hs
      have hM := hC mc' ms' a _ h v0 h' hex r1 hr1 (by omega) ad H.size
      rw [hrt] at hM y2
      have hds : (parseMethodDescriptor r1.2.1.desc).map (fun d => d.parameters.length) = some As'.length := by
        cases hpd : parseMethodDescriptor r1.2.1.desc with
        | none => rw [hpd] at hds; cases hds
        | some dd =>
          rw [hpd] at hds
          have : dd.parameters.length + 1 = b := Option.some.inj hds
          have : As'.length + 1 = b := hlen
          exact congrArg some (by show dd.parameters.length = _; omega)
      have hst : List.map (z_tv ad) ((Value.ref q :: As').reverse ++ r) = (As'.map (z_tv ad)).reverse ++ .ref (ad q) :: r.map (z_tv ad) := by
        rw [List.reverse_cons, List.append_assoc, List.map_append, List.map_reverse]
        rfl
      have hRo : 8 + (r1.2.2.2.1 + 11) + 36 * d ≤ R.locals := by omega
      rcases hm1 with hm1 | hm1
      · obtain ⟨r2, hr2, hl1⟩ := z_mlP hm1
        rw [hr1] at hr2
        cases hr2
        exact z_after hA hR hwf hnx hk1 hn1 (va_runI (b := ad q) (As := As'.map (z_tv ad)) (rest := r.map (z_tv ad)) ⟨hx, hb, hml, hown, hts⟩ hM (cwI As'.length hts (z_goodIn hTs y2) rfl rfl rfl (hts _ (hTs _ y3)) (hts _ (hTs _ hl1)) (hts _ (hTs _ w1)) hnm ⟨y5.1, y5.2, hds⟩ ⟨hRf, hRo⟩) ⟨z_blind, fun U hU hW => z_given (.ref q :: As') hK hZ hA hR U hU hW⟩ rfl (List.length_map _) hlr.2.1.1 hst (lv_room (by rw [z_cat_map]; exact Nat.le_of_ble_eq_true hcat)) (z_len hdec hnx) ⟨Nat.le_trans hk1 hRc, Nat.le_trans hn1 hRs⟩) hs
      · have hnw := hK.2.1 _ hm1 r1 hr1
        exact z_after hA hR hwf hnx hk1 hn1 (va_runIN (host := RX4) (b := ad q) (As := As'.map (z_tv ad)) (rest := r.map (z_tv ad)) ⟨hx, hb, hml, hown, hts⟩ hM ⟨va_cnB As'.length hts (z_goodIn hTs y2) rfl rfl rfl hnw (hts _ (hTs _ y3)) ⟨y5.1, y5.2, hds⟩ ⟨hRf, hRo⟩, hnm, hts _ (hTs _ w1)⟩ ⟨z_blind, fun U hU hW => z_given (.ref q :: As') hK hZ hA hR U hU hW⟩ rfl (List.length_map _) hlr.2.1.1 hst (lv_room (by rw [z_cat_map]; exact Nat.le_of_ble_eq_true hcat)) (z_len hdec hnx) ⟨Nat.le_trans hk1 hRc, Nat.le_trans hn1 hRs⟩) hs
  case ireturn =>
    obtain ⟨v, rfl, hs⟩ := z_ret_of (z_e_ir hs)
    cases v
    case int v hs =>
      refine hret pc _ nx a b cd x y sw ls h k n ad H locs lsC (some (.int v)) hat ?_ ?_ hk hn hR
      · intro hrb
        subst hrb
        exact hs.1
      · cases rb with
        | true => exact hs.2
        | false => exact hs
    all_goals (rename_i hs; exact False.elim hs)
  case lreturn =>
    obtain ⟨v, rfl, hs⟩ := z_ret_of (z_e_lr hs)
    cases v
    case long v hs => exact hret pc _ nx a b cd x y sw ls h k n ad H locs lsC (some (.long v)) hat trivial hs hk hn hR
    all_goals (rename_i hs; exact False.elim hs)
  case areturn =>
    obtain ⟨v, rfl, hs⟩ := z_ret_of (z_e_ar hs)
    cases v
    case ref v hs => exact hret pc _ nx a b cd x y sw ls h k n ad H locs lsC (some (.ref v)) hat trivial hs hk hn hR
    all_goals (rename_i hs; exact False.elim hs)
  case return_ =>
    cases st with
    | nil => exact hret pc _ nx a b cd x y sw ls h k n ad H locs lsC none hat trivial hs hk hn hR
    | cons v r => exact False.elim hs
  all_goals exact False.elim hs
end ZT
end
section
theorem z_at_lt {T : List (List (Option zR))} {pc : Nat} {r : zR} (h : z_at T pc = some r) : pc < 16 * T.length := by
  unfold z_at at h
  split at h
  · rename_i l hl
    have := (List.getElem?_eq_some_iff.mp hl).1
    omega
  · cases h
theorem z_chkM_of {M : Nat} {r : Nat × MethodName × ByteArray × Nat × Option FieldType} (hr : z_my[M]? = some r) (hc : z_chkM M = true) : ∃ (rb : Bool) (T : List (List (Option zR))), z_inf M = (r.2.2.2.1, rb, T) ∧ (rb = decide (r.2.2.2.2 = some .boolean)) ∧ ∀ (pc : Nat) (i : Instr) (nx a b cd : Nat) (x : Int32) (y : Int64) (sw : List (Int32 × Nat)), z_at T pc = some (i, nx, a, b, cd, x, y, sw) → (decode r.2.2.1 pc = .ok (i, nx - pc) ∧ z_chk r.1 r.2.2.2.1 (decide (r.2.1.name = "<init>")) pc i nx a b cd x y sw = true) ∧ z_crt r.2.2.2.2 i = true := by
  unfold z_chkM at hc
  rw [hr] at hc
  obtain ⟨own, y0, cc, ml, ret⟩ := r
  cases ht : z_tab[M]? with
  | none => rw [ht] at hc; exact absurd hc Bool.false_ne_true
  | some q =>
    obtain ⟨ml', rb, T⟩ := q
    rw [ht] at hc
    dsimp only at hc
    simp only [Bool.and_eq_true, decide_eq_true_eq] at hc
    obtain ⟨⟨h1, h2⟩, h3⟩ := hc
    subst h1
    refine ⟨rb, T, by unfold z_inf; rw [ht], h2, fun pc i nx a b cd x y sw hat => ?_⟩
    have h4 := List.all_eq_true.mp h3 pc (List.mem_range.mpr (z_at_lt hat))
    rw [hat] at h4
    dsimp only at h4
    simp only [Bool.and_eq_true, decide_eq_true_eq] at h4
    exact ⟨⟨h4.1.1, h4.2⟩, h4.1.2⟩
def z_slot (ad : Nat → Nat) (o : Option Value) : Slot := match o with
  | some v => .val (z_tv ad v)
  | none => .second
theorem z_ent1_sl (ad : Nat → Nat) : ∀ As : List Value, lg_sl (As.map (z_tv ad)) = (z_ent1 As).map (z_slot ad)
  | [] => rfl
  | v :: r => by
    have h1 : lg_sl ((v :: r).map (z_tv ad)) = (if (z_tv ad v).category = 2 then [Slot.val (z_tv ad v), .second] else [.val (z_tv ad v)]) ++ lg_sl (r.map (z_tv ad)) := rfl
    have h2 : z_ent1 (v :: r) = z_ent1 [v] ++ z_ent1 r := by simp [z_ent1]
    rw [h1, z_ent1_sl ad r, h2, List.map_append]
    congr 1
    cases v <;> rfl
theorem z_ent_lr (ad : Nat → Nat) {ml : Nat} {As : List Value} (hl : Nat.ble (z_ent1 As).length ml = true) : z_lr ad ml (z_ent ml As) ((lg_sl (As.map (z_tv ad)) ++ List.replicate (ml - (lg_sl (As.map (z_tv ad))).length) Slot.unset).toArray) := by
  have hl := Nat.le_of_ble_eq_true hl
  have hlen : (lg_sl (As.map (z_tv ad))).length = (z_ent1 As).length := by rw [z_ent1_sl, List.length_map]
  have he := lv_entry (As.map (z_tv ad)) (n := ml) (by omega)
  refine ⟨by unfold z_ent; rw [List.length_append, List.length_replicate]; omega, ⟨he.1, he.2.1, fun q hq => by simp at hq⟩, fun i v hi => ?_⟩
  unfold z_ent at hi
  have hil : i < (z_ent1 As).length := by
    rcases Nat.lt_or_ge i (z_ent1 As).length with h | h
    · exact h
    · rw [List.getElem?_append_right h, List.getElem?_replicate] at hi
      split at hi <;> cases hi
  rw [List.getElem?_append_left hil] at hi
  rw [List.getElem?_toArray, List.getElem?_append_left (by omega), z_ent1_sl, List.getElem?_map, hi]
  rfl
set_option maxHeartbeats 4000000 in
theorem z_sound {l : Launch} {D : va_G} {dA : Nat → ClassId} {S : zS} (hAll : ∀ (M : Nat) (r : Nat × MethodName × ByteArray × Nat × Option FieldType), z_my[M]? = some r → z_chkM M = true) : ∀ (d mc ms M : Nat) (As : List Value) (h : zH) (v : Option Value) (h' : zH), Ex S d mc ms M As h v h' → z_Met l D dA S d mc ms M As h v h' := by
  intro d
  induction d with
  | zero => intro mc ms M As h v h' hE; exact hE.elim
  | succ d ih =>
    intro mc ms M As h v h' hE r hr h8 ad sz
    obtain ⟨y1, y2, y3, y4, y5, y6⟩ := z_myP hr h8
    obtain ⟨rb, T, hinf, hrb, hT⟩ := z_chkM_of hr (hAll M r hr)
    have hEl : Nat.ble (z_ent1 As).length r.2.2.2.1 = true := by have := hE.1; rw [hinf] at this; exact this
    have hE2 := hE.2
    rw [hinf] at hE2
    dsimp only at hE2
    refine va_MetF (cc := r.2.2.1) (maxL := r.2.2.2.1) (ret := r.2.2.2.2) y4 rfl ?_
    intro p e s m args below meth c s₁ B hml hv
    obtain ⟨rfl, hsz, hP, hD0, hK, hZ⟩ := hv
    have hx := B.exec
    have hb := B.bytes
    have hr1 := B.returns
    have hts := atoms_spec (ws := Jvm.Cond.code r.2.1 r.2.2.1 r.2.2.2.1 r.2.2.2.2 :: z_ws) B.pre
    have hown : s.vm.findClass (z_cn r.1) = some m.cls := by rw [y1]; exact findClass_of_methodNamed B.named
    have hlocks := B.notSynchronized
    have hin : meth.name = r.2.1.name := (name_of_methodNamed B.named B.method).1
    subst hsz
    have hD := hD0.self (sz := s.heap.size)
    have hA : ∀ q : Nat, s.heap.size ≤ q → va_A (z_tw dA ad h) s.heap.size q := fun q h => Or.inr h
    have ctx : z_ctx p ({ frames := d + 1, cells := mc, slots := ms, locals := 36 * (d + 1) }) s m (As.map (z_tv ad)).toArray meth c D dA (va_A (z_tw dA ad h) s.heap.size) S ad r.1 r.2.2.2.1 d mc ms r.2.2.1 (decide (r.2.1.name = "<init>")) (Jvm.Cond.code r.2.1 r.2.2.1 r.2.2.2.1 r.2.2.2.2 :: z_ws) :=
      ⟨hx, hb, hml, hown, hts, fun w hw => List.mem_cons_of_mem _ hw, hK, hZ, hA, fun h9 => by rw [hin]; exact of_decide_eq_true h9, Nat.le_refl _, Nat.le_refl _, Nat.le_refl _, Nat.le_refl _⟩
    have hcl := z_close (l := l) (e := e) (below := below) (Q := MQ below (z_Qc D dA ad s.heap.size h mc v h') (As.map (z_tv ad)).toArray s mc ms (va_A (z_tw dA ad h) s.heap.size)) (h0 := h) (T := T) (rb := rb) (Rt := fun v' g' => v' = v ∧ g' = h') ctx (fun pc i nx a b cd x y sw hat => (hT pc i nx a b cd x y sw hat).1) (fun mc' ms' M' As' g v' g' hE' => ih mc' ms' M' As' g v' g' hE') ?_
    · have hX := hE2 _ hcl (Nat.zero_le _) (Nat.zero_le _) ad s.heap [] _ ⟨fun _ _ => rfl, fun _ => rfl, ⟨Nat.le_refl _, Nat.le_refl _⟩, hP, hD, va_S.rf, z_ent_lr ad hEl⟩
      rw [lg_entry_eq]
      exact hX
    · intro pc i nx a b cd x y sw ls g k n ad' H locs lsC w hat hrok hRt hk hn hR
      obtain ⟨rfl, rfl⟩ := hRt
      obtain ⟨⟨hdec, hchk⟩, hcrt⟩ := hT pc i nx a b cd x y sw hat
      have hq : ∀ t : State, t.heap = H → z_Qc D dA ad s.heap.size h mc w g (As.map (z_tv ad)).toArray s (.returned (w.map (z_tv ad'))) t := fun t ht =>
        ⟨⟨_, rfl, ad', rfl, hR.1, fun hz => hR.2.1 (by omega), hR.2.2.1, by rw [ht]; exact hR.2.2.2.1, hR.2.2.2.2.1⟩, hR.2.2.2.2.2.1.F ht⟩
      refine W.widen hk hn ?_
      unfold z_rok at hrok
      split at hrok
      · have hnx : nx = pc + 1 := of_decide_eq_true hchk
        simp only [z_crt, Bool.or_eq_true, decide_eq_true_eq] at hcrt
        rcases hcrt with hc | hc
        · exact W.iret hx hb (by rw [hr1]; exact hc) (fun t ht hW => hq t ht) hR.2.2.2.2.2.1.2.2 (z_len hdec hnx)
        · exact W.zret hx hb (by rw [hr1]; exact hc) (z_bool (hrok (by rw [hrb, hc]; rfl))).1 (fun t ht hW => hq t ht) hR.2.2.2.2.2.1.2.2 (z_len hdec hnx)
      · have hnx : nx = pc + 1 := of_decide_eq_true hchk
        exact W.lret hx hb (by rw [hr1]; exact of_decide_eq_true hcrt) (fun t ht hW => hq t ht) hR.2.2.2.2.2.1.2.2 (z_len hdec hnx)
      · have hnx : nx = pc + 1 := of_decide_eq_true hchk
        exact W.aret hx hb (by rw [hr1]; exact of_decide_eq_true hcrt) (Or.inl ⟨_, rfl⟩) (Or.inr ⟨_, rfl⟩) (fun t ht hW => hq t ht) hR.2.2.2.2.2.1.2.2 (z_len hdec hnx)
      · have hnx : nx = pc + 1 := of_decide_eq_true hchk
        exact W.vret hx hb (by rw [hr1]; exact of_decide_eq_true hcrt) (fun t ht hW => hq t ht) hR.2.2.2.2.2.1.2.2 (z_len hdec hnx)
      · exact hrok.elim
end
section
theorem z_ck0 : (List.range' 0 16).all z_chkM = true := by decide +kernel
theorem z_ck1 : (List.range' 16 16).all z_chkM = true := by decide +kernel
theorem z_ck2 : (List.range' 32 16).all z_chkM = true := by decide +kernel
end
section
theorem z_ck3 : (List.range' 48 16).all z_chkM = true := by decide +kernel
theorem z_ck4 : (List.range' 64 16).all z_chkM = true := by decide +kernel
theorem z_ck5 : (List.range' 80 16).all z_chkM = true := by decide +kernel
end
section
theorem z_ck6 : (List.range' 96 16).all z_chkM = true := by decide +kernel
theorem z_ck7 : (List.range' 112 16).all z_chkM = true := by decide +kernel
theorem z_ck8 : (List.range' 128 16).all z_chkM = true := by decide +kernel
end
section
theorem z_ck9 : (List.range' 144 11).all z_chkM = true := by decide +kernel
end
section
theorem z_lenM : z_my.length = 155 := by decide +kernel
theorem z_allM (M : Nat) (r : Nat × MethodName × ByteArray × Nat × Option FieldType) (hr : z_my[M]? = some r) : z_chkM M = true := by
  have hM : M < 155 := by rw [← z_lenM]; exact (List.getElem?_eq_some_iff.mp hr).1
  by_cases h0 : M < 16
  · exact List.all_eq_true.mp z_ck0 M (List.mem_range'_1.mpr (by omega))
  by_cases h1 : M < 32
  · exact List.all_eq_true.mp z_ck1 M (List.mem_range'_1.mpr (by omega))
  by_cases h2 : M < 48
  · exact List.all_eq_true.mp z_ck2 M (List.mem_range'_1.mpr (by omega))
  by_cases h3 : M < 64
  · exact List.all_eq_true.mp z_ck3 M (List.mem_range'_1.mpr (by omega))
  by_cases h4 : M < 80
  · exact List.all_eq_true.mp z_ck4 M (List.mem_range'_1.mpr (by omega))
  by_cases h5 : M < 96
  · exact List.all_eq_true.mp z_ck5 M (List.mem_range'_1.mpr (by omega))
  by_cases h6 : M < 112
  · exact List.all_eq_true.mp z_ck6 M (List.mem_range'_1.mpr (by omega))
  by_cases h7 : M < 128
  · exact List.all_eq_true.mp z_ck7 M (List.mem_range'_1.mpr (by omega))
  by_cases h8 : M < 144
  · exact List.all_eq_true.mp z_ck8 M (List.mem_range'_1.mpr (by omega))
  by_cases h9 : M < 155
  · exact List.all_eq_true.mp z_ck9 M (List.mem_range'_1.mpr (by omega))
  omega
end
section
/-! THE CLAIM OUT OF ONE WALK OF THE LAW'S BODY. Your part is whole_start (and what it stands on); all else here is the same for every law, but numbers. -/
def R_law : String := "InsultStatuesLaw"
def lw_P (b : Addr) (xs : List Int32) (args : Array Value) (s : State) : Prop := args = #[.ref b] ∧ s.IntsAt b xs ∧ xs.length ≤ 2048 ∧ (Jvm.Cond.and given_1 narrow_1).before args s = true
def lw_Q (_ : Array Value) (s : State) (o : Outcome) (t : State) : Prop := o = .returned (some (.int 1)) ∧ Framed s o t [] 600000 7302250
def lw_Z (below : List Frame) (a : Array Value) (s : State) : State → Prop := fun t => ∃ o, t.status = .running ∧ Ended t below o ∧ lw_Q a s o t
/-- the law's own end, with 1 on the stack, nothing written that was there before, its room as the claim has it -/
theorem lw_ret {p : Program} {l : Launch} {e : Env} {s : State} {m : MethodId} {below : List Frame} {meth : Method} {c : Code} {b : Nat} (hx : p.tables.exec = Jvm.exec) (hb : c.code = code) (hr : meth.sig.returnType = ret) (hlocks : meth.locks = false) {pc : Nat} {H : Heap} {ls : Array Slot} (hdg : decode code pc = .ok (.ireturn, 1)) : W p l e room_1 s m #[Value.ref b] below meth c H [] 600000 7302250 (lw_Z below #[Value.ref b] s) (F0 m pc ls [.int 1]) := by
  intro T hT X
  obtain ⟨fs, hret, hrun, hended, hW, hframe⟩ := X.leave (v := some (.int 1)) (hlocks := hlocks) (fun h => by rw [hr] at h; cases h)
  have hmeth' : T.vm.method? m = some meth := X.method'
  refine ⟨T.setFrames fs, ?_, .returned (some (.int 1)), hrun, hended, rfl, ⟨_, rfl⟩, hW, hframe⟩
  jvm_step X.here [X.here.top, hx, hb, hdg, hmeth', hr, ret, narrow_b1]
  (try refine ⟨rfl, ?_⟩); (try refine ⟨rfl, ?_⟩)
  first | (intro acts; rw [hret _ acts rfl rfl rfl]) | rw [hret _ _ rfl rfl rfl]
  exact Steps.refl _
/-- what holds at the law's entry: the machine, the code, the tables' words (any of lw_tbl by 'hts w (by decide +kernel)'), the script of L ints xs at the cell b, what the Statement gives of the start (any of its parts by flat_of_before) -/
def lw_At (p : Program) (s : State) (m : MethodId) (meth : Method) (c : Code) (b L : Nat) (xs : Nat → Int32) : Prop :=
  p.tables.exec = Jvm.exec ∧ c.code = code ∧ meth.sig.returnType = ret ∧ c.maxLocals = 4 ∧ s.vm.findClass R_law = some m.cls ∧ (∀ w ∈ lw_tbl, w.before #[Value.ref b] s = true) ∧ va_X b L xs s s.heap ∧ b < s.heap.size ∧ meth.locks = false ∧ (Jvm.Cond.and given_1 narrow_1).before #[Value.ref b] s = true
end
section
theorem z_subW : ∀ w ∈ z_ws, w ∈ lw_tbl := fun w h => (List.mem_filter.mp h).1
theorem z_inT {w : Jvm.Cond} (h : w ∈ tables_1) : w ∈ lw_tbl := List.mem_append_right _ h
theorem f_inst : (z_cls.all fun r => decide (Jvm.Cond.instantiable r.1 r.2.2 ∈ tables_1)) = true := by decide +kernel
theorem f_ao : Jvm.Cond.arrayOver (.object RX2) ∈ tables_1 ∧ Jvm.Cond.laysStatic "InsultStatues" "FACTORIAL" "[I" ∈ tables_1 ∧ Jvm.Cond.initialized "InsultStatues" ∈ tables_1 := by decide +kernel
set_option maxHeartbeats 4000000 in
/-- the classes' numbers and slots, the array classes -/
theorem z_K0 {s : State} {args : Array Value} (hts : ∀ w ∈ lw_tbl, w.before args s = true) : ∃ (D : va_G) (dA : Nat → ClassId), z_K D dA s := by
  have hk : ∀ (a : Nat) (r : vw_C), z_cls[a]? = some r → ∃ (cC : ClassId) (iS : Nat → Nat), u_Kn s r.1 r.2.1 r.2.2 cC iS := fun a r h => by
    have h1 := of_decide_eq_true (List.all_eq_true.mp f_inst r (List.mem_of_getElem? h))
    exact u_known (C := r.1) (T := r.2.1) (N := r.2.2) (n := r.2.2) hts (fun w hw => z_subW w ((z_clsP h).2.2.1 w hw)) (hts _ (z_inT h1))
  obtain ⟨c0, i0, k0⟩ := hk 0 _ rfl
  obtain ⟨c1, i1, k1⟩ := hk 1 _ rfl
  obtain ⟨c2, i2, k2⟩ := hk 2 _ rfl
  obtain ⟨c3, i3, k3⟩ := hk 3 _ rfl
  obtain ⟨c4, i4, k4⟩ := hk 4 _ rfl
  obtain ⟨c5, i5, k5⟩ := hk 5 _ rfl
  obtain ⟨a0, ka0, ca0, f1, f2, f3⟩ := Cond.arrayClass_spec (hts _ (z_inT f_arr.1))
  obtain ⟨a1, ka1, ca1, g1, g2, g3⟩ := Cond.arrayClass_spec (hts _ (z_inT f_arr.2.1))
  obtain ⟨ca2, a2, ka2, h1, h2, h3, h4, h5⟩ := Cond.arrayOver_spec (hts _ (z_inT f_ao.1))
  refine ⟨(fun k => match k with | 0 => c0 | 1 => c1 | 2 => c2 | 3 => c3 | 4 => c4 | _ => c5, fun k => match k with | 0 => i0 | 1 => i1 | 2 => i2 | 3 => i3 | 4 => i4 | _ => i5), fun k => match k with | 0 => a0 | 1 => a1 | _ => a2, ⟨fun k q hq => ?_, fun k q hq => ?_⟩, fun q hq r hr => ?_, va_AO.of (hts _ (z_inT f_ao.1))⟩
  · match k, hq with
    | 0, hq => cases hq; exact k0
    | 1, hq => cases hq; exact k1
    | 2, hq => cases hq; exact k2
    | 3, hq => cases hq; exact k3
    | 4, hq => cases hq; exact k4
    | 5, hq => cases hq; exact k5
    | k + 6, hq => simp [z_cls] at hq
  · match k, hq with
    | 0, hq => cases hq; exact ⟨fun n z => ⟨(fun k h => by cases h), ka0, f2, ca0, f3⟩, f1⟩
    | 1, hq => cases hq; exact ⟨fun n z => ⟨(fun k h => by cases h), ka1, g2, ca1, g3⟩, g1⟩
    | 2, hq => cases hq; exact ⟨fun n z => ⟨(fun k h => by cases h), ka2, h3, ca2, h4⟩, ka2, ca2, h3, h4, h1, h5⟩
    | k + 3, hq => simp [z_tys] at hq
  · have h9 := List.all_eq_true.mp f_nl q hq
    rw [hr] at h9
    exact va_Nw.of rfl (hts _ (z_inT (of_decide_eq_true h9)))
set_option maxHeartbeats 4000000 in
theorem z_Z0 {s : State} {b L : Nat} {xs : Nat → Int32} (hL : L ≤ 2048) (hts : ∀ w ∈ lw_tbl, w.before #[Value.ref b] s = true) (hX : va_X b L xs s s.heap) (hbl : b < s.heap.size) (hgv : (Jvm.Cond.and given_1 narrow_1).before #[Value.ref b] s = true) : ∃ t0 : Nat, z_Z (L, xs) t0 b (fun q => s.heap.size ≤ q) s s.heap := by
  have hs := flat_of_before _ hgv
  have harr : (Jvm.Cond.arrayOf (.static "InsultStatues" "FACTORIAL" "[I") .int).before #[Value.ref b] s = true := hs _ (by decide +kernel)
  have hlen := va_eqt (hs (Jvm.Cond.eq (.length (.static "InsultStatues" "FACTORIAL" "[I")) (.int 7)) (by decide +kernel))
  have hA : ∀ a : Nat, a < s.heap.size → ¬ (fun q : Nat => s.heap.size ≤ q) a := fun a h => Nat.not_le.mpr h
  have e0 := va_eqt (hs (Jvm.Cond.eq (.elem (.static "InsultStatues" "FACTORIAL" "[I") (.int 0)) (.int 1)) (by decide +kernel))
  have e1 := va_eqt (hs (Jvm.Cond.eq (.elem (.static "InsultStatues" "FACTORIAL" "[I") (.int 1)) (.int 1)) (by decide +kernel))
  have e2 := va_eqt (hs (Jvm.Cond.eq (.elem (.static "InsultStatues" "FACTORIAL" "[I") (.int 2)) (.int 2)) (by decide +kernel))
  have e3 := va_eqt (hs (Jvm.Cond.eq (.elem (.static "InsultStatues" "FACTORIAL" "[I") (.int 3)) (.int 6)) (by decide +kernel))
  have e4 := va_eqt (hs (Jvm.Cond.eq (.elem (.static "InsultStatues" "FACTORIAL" "[I") (.int 4)) (.int 24)) (by decide +kernel))
  have e5 := va_eqt (hs (Jvm.Cond.eq (.elem (.static "InsultStatues" "FACTORIAL" "[I") (.int 5)) (.int 120)) (by decide +kernel))
  have e6 := va_eqt (hs (Jvm.Cond.eq (.elem (.static "InsultStatues" "FACTORIAL" "[I") (.int 6)) (.int 720)) (by decide +kernel))
  obtain ⟨t0, ht0, hT0⟩ := va_Tof (N := 7) (f := fun j => .int (z_fac j)) (A := fun q => s.heap.size ≤ q) (by decide) harr hlen (fun j hj => by
    match j, hj with
    | 0, _ => exact e0
    | 1, _ => exact e1
    | 2, _ => exact e2
    | 3, _ => exact e3
    | 4, _ => exact e4
    | 5, _ => exact e5
    | 6, _ => exact e6
    | k + 7, h => omega) hA
  refine ⟨t0, va_Zref (hts _ (z_inT f_ao.2.1)) (hts _ (z_inT f_ao.2.2)) ht0 hA, hT0, ?_⟩
  obtain ⟨scr, h1, h2, h3, h4, h5⟩ := hX
  exact ⟨scr, h1, h2, h3, Nat.le_of_eq h4.symm, by rw [h4], h5, hA b hbl⟩
set_option maxHeartbeats 4000000 in
/-- the law's run in the small machine is its run -/
theorem z_lawW {p : Program} {e : Env} {s : State} {m : MethodId} {below : List Frame} {meth : Method} {c : Code} (l : Launch) {b L : Nat} {xs : Nat → Int32} (hL : L ≤ 2048) (C0 : lw_At p s m meth c b L xs)
    (hrun : ∀ X : zX, z_cl (L, xs) (Ex (L, xs) 9) tL_law true 600000 7302250 (fun v _ => v = some (.int 1)) X → X 0 (z_ent 4 [.ref 2001]) [] ([], []) 0 0) : W p l e room_1 s m #[Value.ref b] below meth c s.heap [] 0 0 (lw_Z below #[Value.ref b] s) (entryFrame m ([Value.ref b] : List Value).toArray 4) := by
  obtain ⟨hx, hb, hr, hml, hown, hts, hX, hbl, hlocks, hgv⟩ := C0
  obtain ⟨D, dA, hK⟩ := z_K0 hts
  obtain ⟨t0, hZ⟩ := z_Z0 hL hts hX hbl hgv
  obtain ⟨rb, T, hinf, hrb, hT⟩ := z_chkM_of (M := 154) (r := (8, yL_law, cL_law, 4, some .boolean)) rfl (z_allM 154 _ rfl)
  have hinf2 : (4, true, tL_law) = (4, rb, T) := hinf
  obtain ⟨rfl, rfl⟩ : true = rb ∧ tL_law = T := by
    have h1 := congrArg (fun q : Nat × Bool × List (List (Option zR)) => q.2.1) hinf2
    have h2 := congrArg (fun q : Nat × Bool × List (List (Option zR)) => q.2.2) hinf2
    exact ⟨h1, h2⟩
  have hA : ∀ q : Nat, s.heap.size ≤ q → (fun q : Nat => s.heap.size ≤ q) q := fun _ h => h
  have ctx : z_ctx p room_1 s m #[Value.ref b] meth c D dA (fun q : Nat => s.heap.size ≤ q) (L, xs) (fun k => if k = 2000 then t0 else if k = 2001 then b else 0) 8 4 9 600000 7302250 code (decide (yL_law.name = "<init>")) lw_tbl :=
    ⟨hx, hb, hml, hown, hts, z_subW, hK, hZ, hA, fun h9 => absurd (of_decide_eq_true h9) (by decide +kernel), Nat.le_refl _, Nat.le_refl _, Nat.le_of_ble_eq_true rfl, Nat.le_of_ble_eq_true rfl⟩
  have hcl := z_close (l := l) (e := e) (below := below) (Q := lw_Z below #[Value.ref b] s) (h0 := ([], [])) (T := tL_law) (rb := true) (Rt := fun v' _ => v' = some (.int 1)) ctx (fun pc i nx a b cd x y sw hat => (hT pc i nx a b cd x y sw hat).1) (fun mc' ms' M' As' g v' g' hE' => z_sound z_allM 9 mc' ms' M' As' g v' g' hE') ?_
  · have hX := hrun _ hcl (Nat.zero_le _) (Nat.zero_le _) (fun k => if k = 2000 then t0 else if k = 2001 then b else 0) s.heap [] _ ⟨fun _ _ => rfl, fun _ => rfl, ⟨Nat.le_refl _, Nat.le_refl _⟩, fun k q h => by simp [z_tw, z_tl] at h, ⟨fun i j p q h => by simp [z_tw, z_tl] at h, fun k q h => by simp [z_tw, z_tl] at h⟩, va_S.rf, z_ent_lr _ rfl⟩
    rw [lg_entry_eq]
    exact hX
  · intro pc i nx a b' cd x y sw ls g k n ad' H locs lsC w hat hrok hRt hk hn hR
    subst hRt
    obtain ⟨⟨hdec, hchk⟩, hcrt⟩ := hT pc i nx a b' cd x y sw hat
    refine va_forget (fun q hq => hR.2.2.2.2.2.1.2.2 q hq) ?_
    refine W.widen (k := 600000) (n := 7302250) hk hn ?_
    unfold z_rok at hrok
    split at hrok
    · rename_i heq
      cases heq
      have hnx : nx = pc + 1 := of_decide_eq_true hchk
      exact lw_ret hx hb hr hlocks (z_len hdec hnx)
    all_goals (first | exact hrok.elim | (rename_i heq; cases heq))
end
section
/-! ===== the states: class (cS) and reference (mS), and their cells ===== -/
abbrev cF : Type := Nat → Int32
abbrev cT : Type := Int32 × Int32 × Int32 × Int32 × cF × cF × cF × cF × cF × cF × cF × cF
abbrev tYards (x : cT) : Int32 := x.1
abbrev tSight (x : cT) : Int32 := x.2.1
abbrev tStatues (x : cT) : Int32 := x.2.2.1
abbrev tPeople (x : cT) : Int32 := x.2.2.2.1
abbrev tStands (x : cT) : cF := x.2.2.2.2.1
abbrev tWeight (x : cT) : cF := x.2.2.2.2.2.1
abbrev tInsult (x : cT) : cF := x.2.2.2.2.2.2.1
abbrev tHome (x : cT) : cF := x.2.2.2.2.2.2.2.1
abbrev tStrong (x : cT) : cF := x.2.2.2.2.2.2.2.2.1
abbrev tCredit (x : cT) : cF := x.2.2.2.2.2.2.2.2.2.1
abbrev tWrongs (x : cT) : cF := x.2.2.2.2.2.2.2.2.2.2.1
abbrev tInsulted (x : cT) : cF := x.2.2.2.2.2.2.2.2.2.2.2
abbrev s_tYards (x : cT) (v : Int32) : cT := (v, x.2.1, x.2.2.1, x.2.2.2.1, x.2.2.2.2.1, x.2.2.2.2.2.1, x.2.2.2.2.2.2.1, x.2.2.2.2.2.2.2.1, x.2.2.2.2.2.2.2.2.1, x.2.2.2.2.2.2.2.2.2.1, x.2.2.2.2.2.2.2.2.2.2.1, x.2.2.2.2.2.2.2.2.2.2.2)
abbrev s_tSight (x : cT) (v : Int32) : cT := (x.1, v, x.2.2.1, x.2.2.2.1, x.2.2.2.2.1, x.2.2.2.2.2.1, x.2.2.2.2.2.2.1, x.2.2.2.2.2.2.2.1, x.2.2.2.2.2.2.2.2.1, x.2.2.2.2.2.2.2.2.2.1, x.2.2.2.2.2.2.2.2.2.2.1, x.2.2.2.2.2.2.2.2.2.2.2)
abbrev s_tStatues (x : cT) (v : Int32) : cT := (x.1, x.2.1, v, x.2.2.2.1, x.2.2.2.2.1, x.2.2.2.2.2.1, x.2.2.2.2.2.2.1, x.2.2.2.2.2.2.2.1, x.2.2.2.2.2.2.2.2.1, x.2.2.2.2.2.2.2.2.2.1, x.2.2.2.2.2.2.2.2.2.2.1, x.2.2.2.2.2.2.2.2.2.2.2)
abbrev s_tPeople (x : cT) (v : Int32) : cT := (x.1, x.2.1, x.2.2.1, v, x.2.2.2.2.1, x.2.2.2.2.2.1, x.2.2.2.2.2.2.1, x.2.2.2.2.2.2.2.1, x.2.2.2.2.2.2.2.2.1, x.2.2.2.2.2.2.2.2.2.1, x.2.2.2.2.2.2.2.2.2.2.1, x.2.2.2.2.2.2.2.2.2.2.2)
abbrev s_tStands (x : cT) (v : cF) : cT := (x.1, x.2.1, x.2.2.1, x.2.2.2.1, v, x.2.2.2.2.2.1, x.2.2.2.2.2.2.1, x.2.2.2.2.2.2.2.1, x.2.2.2.2.2.2.2.2.1, x.2.2.2.2.2.2.2.2.2.1, x.2.2.2.2.2.2.2.2.2.2.1, x.2.2.2.2.2.2.2.2.2.2.2)
abbrev s_tWeight (x : cT) (v : cF) : cT := (x.1, x.2.1, x.2.2.1, x.2.2.2.1, x.2.2.2.2.1, v, x.2.2.2.2.2.2.1, x.2.2.2.2.2.2.2.1, x.2.2.2.2.2.2.2.2.1, x.2.2.2.2.2.2.2.2.2.1, x.2.2.2.2.2.2.2.2.2.2.1, x.2.2.2.2.2.2.2.2.2.2.2)
abbrev s_tInsult (x : cT) (v : cF) : cT := (x.1, x.2.1, x.2.2.1, x.2.2.2.1, x.2.2.2.2.1, x.2.2.2.2.2.1, v, x.2.2.2.2.2.2.2.1, x.2.2.2.2.2.2.2.2.1, x.2.2.2.2.2.2.2.2.2.1, x.2.2.2.2.2.2.2.2.2.2.1, x.2.2.2.2.2.2.2.2.2.2.2)
abbrev s_tHome (x : cT) (v : cF) : cT := (x.1, x.2.1, x.2.2.1, x.2.2.2.1, x.2.2.2.2.1, x.2.2.2.2.2.1, x.2.2.2.2.2.2.1, v, x.2.2.2.2.2.2.2.2.1, x.2.2.2.2.2.2.2.2.2.1, x.2.2.2.2.2.2.2.2.2.2.1, x.2.2.2.2.2.2.2.2.2.2.2)
abbrev s_tStrong (x : cT) (v : cF) : cT := (x.1, x.2.1, x.2.2.1, x.2.2.2.1, x.2.2.2.2.1, x.2.2.2.2.2.1, x.2.2.2.2.2.2.1, x.2.2.2.2.2.2.2.1, v, x.2.2.2.2.2.2.2.2.2.1, x.2.2.2.2.2.2.2.2.2.2.1, x.2.2.2.2.2.2.2.2.2.2.2)
abbrev s_tCredit (x : cT) (v : cF) : cT := (x.1, x.2.1, x.2.2.1, x.2.2.2.1, x.2.2.2.2.1, x.2.2.2.2.2.1, x.2.2.2.2.2.2.1, x.2.2.2.2.2.2.2.1, x.2.2.2.2.2.2.2.2.1, v, x.2.2.2.2.2.2.2.2.2.2.1, x.2.2.2.2.2.2.2.2.2.2.2)
abbrev s_tWrongs (x : cT) (v : cF) : cT := (x.1, x.2.1, x.2.2.1, x.2.2.2.1, x.2.2.2.2.1, x.2.2.2.2.2.1, x.2.2.2.2.2.2.1, x.2.2.2.2.2.2.2.1, x.2.2.2.2.2.2.2.2.1, x.2.2.2.2.2.2.2.2.2.1, v, x.2.2.2.2.2.2.2.2.2.2.2)
abbrev s_tInsulted (x : cT) (v : cF) : cT := (x.1, x.2.1, x.2.2.1, x.2.2.2.1, x.2.2.2.2.1, x.2.2.2.2.2.1, x.2.2.2.2.2.2.1, x.2.2.2.2.2.2.2.1, x.2.2.2.2.2.2.2.2.1, x.2.2.2.2.2.2.2.2.2.1, x.2.2.2.2.2.2.2.2.2.2.1, v)
abbrev cR : Type := Int32 × cF × Int32 × Int32 × Int32 × Int32 × Int32 × Int32
abbrev rLetters (x : cR) : Int32 := x.1
abbrev rText (x : cR) : cF := x.2.1
abbrev rItems (x : cR) : Int32 := x.2.2.1
abbrev rSightTold (x : cR) : Int32 := x.2.2.2.1
abbrev rPlace (x : cR) : Int32 := x.2.2.2.2.1
abbrev rNext (x : cR) : Int32 := x.2.2.2.2.2.1
abbrev rToken (x : cR) : Int32 := x.2.2.2.2.2.2.1
abbrev rNumber (x : cR) : Int32 := x.2.2.2.2.2.2.2
abbrev s_rLetters (x : cR) (v : Int32) : cR := (v, x.2.1, x.2.2.1, x.2.2.2.1, x.2.2.2.2.1, x.2.2.2.2.2.1, x.2.2.2.2.2.2.1, x.2.2.2.2.2.2.2)
abbrev s_rText (x : cR) (v : cF) : cR := (x.1, v, x.2.2.1, x.2.2.2.1, x.2.2.2.2.1, x.2.2.2.2.2.1, x.2.2.2.2.2.2.1, x.2.2.2.2.2.2.2)
abbrev s_rItems (x : cR) (v : Int32) : cR := (x.1, x.2.1, v, x.2.2.2.1, x.2.2.2.2.1, x.2.2.2.2.2.1, x.2.2.2.2.2.2.1, x.2.2.2.2.2.2.2)
abbrev s_rSightTold (x : cR) (v : Int32) : cR := (x.1, x.2.1, x.2.2.1, v, x.2.2.2.2.1, x.2.2.2.2.2.1, x.2.2.2.2.2.2.1, x.2.2.2.2.2.2.2)
abbrev s_rPlace (x : cR) (v : Int32) : cR := (x.1, x.2.1, x.2.2.1, x.2.2.2.1, v, x.2.2.2.2.2.1, x.2.2.2.2.2.2.1, x.2.2.2.2.2.2.2)
abbrev s_rNext (x : cR) (v : Int32) : cR := (x.1, x.2.1, x.2.2.1, x.2.2.2.1, x.2.2.2.2.1, v, x.2.2.2.2.2.2.1, x.2.2.2.2.2.2.2)
abbrev s_rToken (x : cR) (v : Int32) : cR := (x.1, x.2.1, x.2.2.1, x.2.2.2.1, x.2.2.2.2.1, x.2.2.2.2.2.1, v, x.2.2.2.2.2.2.2)
abbrev s_rNumber (x : cR) (v : Int32) : cR := (x.1, x.2.1, x.2.2.1, x.2.2.2.1, x.2.2.2.2.1, x.2.2.2.2.2.1, x.2.2.2.2.2.2.1, v)
abbrev cN : Type := Int32 × cF × cF
abbrev nCome (x : cN) : Int32 := x.1
abbrev nYardOf (x : cN) : cF := x.2.1
abbrev nClaimed (x : cN) : cF := x.2.2
abbrev s_nCome (x : cN) (v : Int32) : cN := (v, x.2.1, x.2.2)
abbrev s_nYardOf (x : cN) (v : cF) : cN := (x.1, v, x.2.2)
abbrev s_nClaimed (x : cN) (v : cF) : cN := (x.1, x.2.1, v)
abbrev cP : Type := Int32 × cF × cF × cF
abbrev pKnown (x : cP) : Int32 := x.1
abbrev pDeed (x : cP) : cF := x.2.1
abbrev pThing (x : cP) : cF := x.2.2.1
abbrev pDetail (x : cP) : cF := x.2.2.2
abbrev s_pKnown (x : cP) (v : Int32) : cP := (v, x.2.1, x.2.2.1, x.2.2.2)
abbrev s_pDeed (x : cP) (v : cF) : cP := (x.1, v, x.2.2.1, x.2.2.2)
abbrev s_pThing (x : cP) (v : cF) : cP := (x.1, x.2.1, v, x.2.2.2)
abbrev s_pDetail (x : cP) (v : cF) : cP := (x.1, x.2.1, x.2.2.1, v)
abbrev cS : Type := cR × cT × cT × cN × cP × cN × cN × cF × cF × cF × Int32 × Int64
abbrev cRd (x : cS) : cR := x.1
abbrev cTo (x : cS) : cT := x.2.1
abbrev cSp (x : cS) : cT := x.2.2.1
abbrev cSc (x : cS) : cN := x.2.2.2.1
abbrev cPa (x : cS) : cP := x.2.2.2.2.1
abbrev cI0 (x : cS) : cN := x.2.2.2.2.2.1
abbrev cI1 (x : cS) : cN := x.2.2.2.2.2.2.1
abbrev cKept (x : cS) : cF := x.2.2.2.2.2.2.2.1
abbrev cSeenS (x : cS) : cF := x.2.2.2.2.2.2.2.2.1
abbrev cSeenW (x : cS) : cF := x.2.2.2.2.2.2.2.2.2.1
abbrev cSeen (x : cS) : Int32 := x.2.2.2.2.2.2.2.2.2.2.1
abbrev cTraced (x : cS) : Int64 := x.2.2.2.2.2.2.2.2.2.2.2
abbrev s_cRd (x : cS) (v : cR) : cS := (v, x.2.1, x.2.2.1, x.2.2.2.1, x.2.2.2.2.1, x.2.2.2.2.2.1, x.2.2.2.2.2.2.1, x.2.2.2.2.2.2.2.1, x.2.2.2.2.2.2.2.2.1, x.2.2.2.2.2.2.2.2.2.1, x.2.2.2.2.2.2.2.2.2.2.1, x.2.2.2.2.2.2.2.2.2.2.2)
abbrev s_cTo (x : cS) (v : cT) : cS := (x.1, v, x.2.2.1, x.2.2.2.1, x.2.2.2.2.1, x.2.2.2.2.2.1, x.2.2.2.2.2.2.1, x.2.2.2.2.2.2.2.1, x.2.2.2.2.2.2.2.2.1, x.2.2.2.2.2.2.2.2.2.1, x.2.2.2.2.2.2.2.2.2.2.1, x.2.2.2.2.2.2.2.2.2.2.2)
abbrev s_cSp (x : cS) (v : cT) : cS := (x.1, x.2.1, v, x.2.2.2.1, x.2.2.2.2.1, x.2.2.2.2.2.1, x.2.2.2.2.2.2.1, x.2.2.2.2.2.2.2.1, x.2.2.2.2.2.2.2.2.1, x.2.2.2.2.2.2.2.2.2.1, x.2.2.2.2.2.2.2.2.2.2.1, x.2.2.2.2.2.2.2.2.2.2.2)
abbrev s_cSc (x : cS) (v : cN) : cS := (x.1, x.2.1, x.2.2.1, v, x.2.2.2.2.1, x.2.2.2.2.2.1, x.2.2.2.2.2.2.1, x.2.2.2.2.2.2.2.1, x.2.2.2.2.2.2.2.2.1, x.2.2.2.2.2.2.2.2.2.1, x.2.2.2.2.2.2.2.2.2.2.1, x.2.2.2.2.2.2.2.2.2.2.2)
abbrev s_cPa (x : cS) (v : cP) : cS := (x.1, x.2.1, x.2.2.1, x.2.2.2.1, v, x.2.2.2.2.2.1, x.2.2.2.2.2.2.1, x.2.2.2.2.2.2.2.1, x.2.2.2.2.2.2.2.2.1, x.2.2.2.2.2.2.2.2.2.1, x.2.2.2.2.2.2.2.2.2.2.1, x.2.2.2.2.2.2.2.2.2.2.2)
abbrev s_cI0 (x : cS) (v : cN) : cS := (x.1, x.2.1, x.2.2.1, x.2.2.2.1, x.2.2.2.2.1, v, x.2.2.2.2.2.2.1, x.2.2.2.2.2.2.2.1, x.2.2.2.2.2.2.2.2.1, x.2.2.2.2.2.2.2.2.2.1, x.2.2.2.2.2.2.2.2.2.2.1, x.2.2.2.2.2.2.2.2.2.2.2)
abbrev s_cI1 (x : cS) (v : cN) : cS := (x.1, x.2.1, x.2.2.1, x.2.2.2.1, x.2.2.2.2.1, x.2.2.2.2.2.1, v, x.2.2.2.2.2.2.2.1, x.2.2.2.2.2.2.2.2.1, x.2.2.2.2.2.2.2.2.2.1, x.2.2.2.2.2.2.2.2.2.2.1, x.2.2.2.2.2.2.2.2.2.2.2)
abbrev s_cKept (x : cS) (v : cF) : cS := (x.1, x.2.1, x.2.2.1, x.2.2.2.1, x.2.2.2.2.1, x.2.2.2.2.2.1, x.2.2.2.2.2.2.1, v, x.2.2.2.2.2.2.2.2.1, x.2.2.2.2.2.2.2.2.2.1, x.2.2.2.2.2.2.2.2.2.2.1, x.2.2.2.2.2.2.2.2.2.2.2)
abbrev s_cSeenS (x : cS) (v : cF) : cS := (x.1, x.2.1, x.2.2.1, x.2.2.2.1, x.2.2.2.2.1, x.2.2.2.2.2.1, x.2.2.2.2.2.2.1, x.2.2.2.2.2.2.2.1, v, x.2.2.2.2.2.2.2.2.2.1, x.2.2.2.2.2.2.2.2.2.2.1, x.2.2.2.2.2.2.2.2.2.2.2)
abbrev s_cSeenW (x : cS) (v : cF) : cS := (x.1, x.2.1, x.2.2.1, x.2.2.2.1, x.2.2.2.2.1, x.2.2.2.2.2.1, x.2.2.2.2.2.2.1, x.2.2.2.2.2.2.2.1, x.2.2.2.2.2.2.2.2.1, v, x.2.2.2.2.2.2.2.2.2.2.1, x.2.2.2.2.2.2.2.2.2.2.2)
abbrev s_cSeen (x : cS) (v : Int32) : cS := (x.1, x.2.1, x.2.2.1, x.2.2.2.1, x.2.2.2.2.1, x.2.2.2.2.2.1, x.2.2.2.2.2.2.1, x.2.2.2.2.2.2.2.1, x.2.2.2.2.2.2.2.2.1, x.2.2.2.2.2.2.2.2.2.1, v, x.2.2.2.2.2.2.2.2.2.2.2)
abbrev s_cTraced (x : cS) (v : Int64) : cS := (x.1, x.2.1, x.2.2.1, x.2.2.2.1, x.2.2.2.2.1, x.2.2.2.2.2.1, x.2.2.2.2.2.2.1, x.2.2.2.2.2.2.2.1, x.2.2.2.2.2.2.2.2.1, x.2.2.2.2.2.2.2.2.2.1, x.2.2.2.2.2.2.2.2.2.2.1, v)
def hC (sw : Bool) (c : cS) : List zC := match sw with
  | false => [.inr (.inr (4, [.ref 1, .ref 12, .ref 21, .ref 24, .ref 28, .ref 35, .ref 36, .ref 37, .int (cSeen c), .long (cTraced c)])),
  .inr (.inr (1, [.int (rLetters (cRd c)), .ref 2, .ref 3, .int (rItems (cRd c)), .int (rSightTold (cRd c)), .int (rPlace (cRd c)), .int (rNext (cRd c)), .int (rToken (cRd c)), .int (rNumber (cRd c))])),
  .inl (0, 150, rText (cRd c)),
  .inr (.inr (3, [.int (tYards (cSp c)), .int (tSight (cSp c)), .int (tStatues (cSp c)), .int (tPeople (cSp c)), .ref 4, .ref 5, .ref 6, .ref 7, .ref 8, .ref 9, .ref 10, .ref 11])),
  .inl (0, 6, tStands (cSp c)),
  .inl (0, 6, tWeight (cSp c)),
  .inl (0, 6, tInsult (cSp c)),
  .inl (0, 6, tHome (cSp c)),
  .inl (0, 6, tStrong (cSp c)),
  .inl (0, 6, tCredit (cSp c)),
  .inl (0, 6, tWrongs (cSp c)),
  .inl (0, 6, tInsulted (cSp c)),
  .inr (.inr (3, [.int (tYards (cTo c)), .int (tSight (cTo c)), .int (tStatues (cTo c)), .int (tPeople (cTo c)), .ref 13, .ref 14, .ref 15, .ref 16, .ref 17, .ref 18, .ref 19, .ref 20])),
  .inl (0, 6, tStands (cTo c)),
  .inl (0, 6, tWeight (cTo c)),
  .inl (0, 6, tInsult (cTo c)),
  .inl (0, 6, tHome (cTo c)),
  .inl (0, 6, tStrong (cTo c)),
  .inl (0, 6, tCredit (cTo c)),
  .inl (0, 6, tWrongs (cTo c)),
  .inl (0, 6, tInsulted (cTo c)),
  .inr (.inr (2, [.int (nCome (cSc c)), .ref 22, .ref 23])),
  .inl (0, 6, nYardOf (cSc c)),
  .inl (0, 6, nClaimed (cSc c)),
  .inr (.inr (0, [.int (pKnown (cPa c)), .ref 25, .ref 26, .ref 27])),
  .inl (0, 10, pDeed (cPa c)),
  .inl (0, 10, pThing (cPa c)),
  .inl (0, 10, pDetail (cPa c)),
  .inr (.inl [some 29, some 32]),
  .inr (.inr (2, [.int (nCome (cI0 c)), .ref 30, .ref 31])),
  .inl (0, 6, nYardOf (cI0 c)),
  .inl (0, 6, nClaimed (cI0 c)),
  .inr (.inr (2, [.int (nCome (cI1 c)), .ref 33, .ref 34])),
  .inl (0, 6, nYardOf (cI1 c)),
  .inl (0, 6, nClaimed (cI1 c)),
  .inl (1, 2, cKept c),
  .inl (0, 6, cSeenS c),
  .inl (0, 6, cSeenW c)]
  | true => [.inr (.inr (4, [.ref 1, .ref 3, .ref 21, .ref 24, .ref 28, .ref 35, .ref 36, .ref 37, .int (cSeen c), .long (cTraced c)])),
  .inr (.inr (1, [.int (rLetters (cRd c)), .ref 2, .ref 12, .int (rItems (cRd c)), .int (rSightTold (cRd c)), .int (rPlace (cRd c)), .int (rNext (cRd c)), .int (rToken (cRd c)), .int (rNumber (cRd c))])),
  .inl (0, 150, rText (cRd c)),
  .inr (.inr (3, [.int (tYards (cTo c)), .int (tSight (cTo c)), .int (tStatues (cTo c)), .int (tPeople (cTo c)), .ref 4, .ref 5, .ref 6, .ref 7, .ref 8, .ref 9, .ref 10, .ref 11])),
  .inl (0, 6, tStands (cTo c)),
  .inl (0, 6, tWeight (cTo c)),
  .inl (0, 6, tInsult (cTo c)),
  .inl (0, 6, tHome (cTo c)),
  .inl (0, 6, tStrong (cTo c)),
  .inl (0, 6, tCredit (cTo c)),
  .inl (0, 6, tWrongs (cTo c)),
  .inl (0, 6, tInsulted (cTo c)),
  .inr (.inr (3, [.int (tYards (cSp c)), .int (tSight (cSp c)), .int (tStatues (cSp c)), .int (tPeople (cSp c)), .ref 13, .ref 14, .ref 15, .ref 16, .ref 17, .ref 18, .ref 19, .ref 20])),
  .inl (0, 6, tStands (cSp c)),
  .inl (0, 6, tWeight (cSp c)),
  .inl (0, 6, tInsult (cSp c)),
  .inl (0, 6, tHome (cSp c)),
  .inl (0, 6, tStrong (cSp c)),
  .inl (0, 6, tCredit (cSp c)),
  .inl (0, 6, tWrongs (cSp c)),
  .inl (0, 6, tInsulted (cSp c)),
  .inr (.inr (2, [.int (nCome (cSc c)), .ref 22, .ref 23])),
  .inl (0, 6, nYardOf (cSc c)),
  .inl (0, 6, nClaimed (cSc c)),
  .inr (.inr (0, [.int (pKnown (cPa c)), .ref 25, .ref 26, .ref 27])),
  .inl (0, 10, pDeed (cPa c)),
  .inl (0, 10, pThing (cPa c)),
  .inl (0, 10, pDetail (cPa c)),
  .inr (.inl [some 29, some 32]),
  .inr (.inr (2, [.int (nCome (cI0 c)), .ref 30, .ref 31])),
  .inl (0, 6, nYardOf (cI0 c)),
  .inl (0, 6, nClaimed (cI0 c)),
  .inr (.inr (2, [.int (nCome (cI1 c)), .ref 33, .ref 34])),
  .inl (0, 6, nYardOf (cI1 c)),
  .inl (0, 6, nClaimed (cI1 c)),
  .inl (1, 2, cKept c),
  .inl (0, 6, cSeenS c),
  .inl (0, 6, cSeenW c)]
abbrev toR (sw : Bool) : Nat := match sw with
  | false => 12
  | true => 3
abbrev spR (sw : Bool) : Nat := match sw with
  | false => 3
  | true => 12
abbrev mS : Type := cF × cF × cF × cF × cF × Int32 × cF × Int32 × Int32 × cF × Int32 × cF × cF × Int64 × Int32 × Int32 × Int32 × Int32
abbrev mTold (x : mS) : cF := x.1
abbrev mRead (x : mS) : cF := x.2.1
abbrev mReadRow (x : mS) : cF := x.2.2.1
abbrev mNow (x : mS) : cF := x.2.2.2.1
abbrev mBefore (x : mS) : cF := x.2.2.2.2.1
abbrev mUndo (x : mS) : Int32 := x.2.2.2.2.2.1
abbrev mImages (x : mS) : cF := x.2.2.2.2.2.2.1
abbrev mImaged (x : mS) : Int32 := x.2.2.2.2.2.2.2.1
abbrev mLength (x : mS) : Int32 := x.2.2.2.2.2.2.2.2.1
abbrev mText (x : mS) : cF := x.2.2.2.2.2.2.2.2.2.1
abbrev mSeen (x : mS) : Int32 := x.2.2.2.2.2.2.2.2.2.2.1
abbrev mSeenOf (x : mS) : cF := x.2.2.2.2.2.2.2.2.2.2.2.1
abbrev mSeenIs (x : mS) : cF := x.2.2.2.2.2.2.2.2.2.2.2.2.1
abbrev mTrace (x : mS) : Int64 := x.2.2.2.2.2.2.2.2.2.2.2.2.2.1
abbrev mSpot (x : mS) : Int32 := x.2.2.2.2.2.2.2.2.2.2.2.2.2.2.1
abbrev mBegins (x : mS) : Int32 := x.2.2.2.2.2.2.2.2.2.2.2.2.2.2.2.1
abbrev mToken (x : mS) : Int32 := x.2.2.2.2.2.2.2.2.2.2.2.2.2.2.2.2.1
abbrev mValue (x : mS) : Int32 := x.2.2.2.2.2.2.2.2.2.2.2.2.2.2.2.2.2
abbrev s_mTold (x : mS) (v : cF) : mS := (v, x.2.1, x.2.2.1, x.2.2.2.1, x.2.2.2.2.1, x.2.2.2.2.2.1, x.2.2.2.2.2.2.1, x.2.2.2.2.2.2.2.1, x.2.2.2.2.2.2.2.2.1, x.2.2.2.2.2.2.2.2.2.1, x.2.2.2.2.2.2.2.2.2.2.1, x.2.2.2.2.2.2.2.2.2.2.2.1, x.2.2.2.2.2.2.2.2.2.2.2.2.1, x.2.2.2.2.2.2.2.2.2.2.2.2.2.1, x.2.2.2.2.2.2.2.2.2.2.2.2.2.2.1, x.2.2.2.2.2.2.2.2.2.2.2.2.2.2.2.1, x.2.2.2.2.2.2.2.2.2.2.2.2.2.2.2.2.1, x.2.2.2.2.2.2.2.2.2.2.2.2.2.2.2.2.2)
abbrev s_mRead (x : mS) (v : cF) : mS := (x.1, v, x.2.2.1, x.2.2.2.1, x.2.2.2.2.1, x.2.2.2.2.2.1, x.2.2.2.2.2.2.1, x.2.2.2.2.2.2.2.1, x.2.2.2.2.2.2.2.2.1, x.2.2.2.2.2.2.2.2.2.1, x.2.2.2.2.2.2.2.2.2.2.1, x.2.2.2.2.2.2.2.2.2.2.2.1, x.2.2.2.2.2.2.2.2.2.2.2.2.1, x.2.2.2.2.2.2.2.2.2.2.2.2.2.1, x.2.2.2.2.2.2.2.2.2.2.2.2.2.2.1, x.2.2.2.2.2.2.2.2.2.2.2.2.2.2.2.1, x.2.2.2.2.2.2.2.2.2.2.2.2.2.2.2.2.1, x.2.2.2.2.2.2.2.2.2.2.2.2.2.2.2.2.2)
abbrev s_mReadRow (x : mS) (v : cF) : mS := (x.1, x.2.1, v, x.2.2.2.1, x.2.2.2.2.1, x.2.2.2.2.2.1, x.2.2.2.2.2.2.1, x.2.2.2.2.2.2.2.1, x.2.2.2.2.2.2.2.2.1, x.2.2.2.2.2.2.2.2.2.1, x.2.2.2.2.2.2.2.2.2.2.1, x.2.2.2.2.2.2.2.2.2.2.2.1, x.2.2.2.2.2.2.2.2.2.2.2.2.1, x.2.2.2.2.2.2.2.2.2.2.2.2.2.1, x.2.2.2.2.2.2.2.2.2.2.2.2.2.2.1, x.2.2.2.2.2.2.2.2.2.2.2.2.2.2.2.1, x.2.2.2.2.2.2.2.2.2.2.2.2.2.2.2.2.1, x.2.2.2.2.2.2.2.2.2.2.2.2.2.2.2.2.2)
abbrev s_mNow (x : mS) (v : cF) : mS := (x.1, x.2.1, x.2.2.1, v, x.2.2.2.2.1, x.2.2.2.2.2.1, x.2.2.2.2.2.2.1, x.2.2.2.2.2.2.2.1, x.2.2.2.2.2.2.2.2.1, x.2.2.2.2.2.2.2.2.2.1, x.2.2.2.2.2.2.2.2.2.2.1, x.2.2.2.2.2.2.2.2.2.2.2.1, x.2.2.2.2.2.2.2.2.2.2.2.2.1, x.2.2.2.2.2.2.2.2.2.2.2.2.2.1, x.2.2.2.2.2.2.2.2.2.2.2.2.2.2.1, x.2.2.2.2.2.2.2.2.2.2.2.2.2.2.2.1, x.2.2.2.2.2.2.2.2.2.2.2.2.2.2.2.2.1, x.2.2.2.2.2.2.2.2.2.2.2.2.2.2.2.2.2)
abbrev s_mBefore (x : mS) (v : cF) : mS := (x.1, x.2.1, x.2.2.1, x.2.2.2.1, v, x.2.2.2.2.2.1, x.2.2.2.2.2.2.1, x.2.2.2.2.2.2.2.1, x.2.2.2.2.2.2.2.2.1, x.2.2.2.2.2.2.2.2.2.1, x.2.2.2.2.2.2.2.2.2.2.1, x.2.2.2.2.2.2.2.2.2.2.2.1, x.2.2.2.2.2.2.2.2.2.2.2.2.1, x.2.2.2.2.2.2.2.2.2.2.2.2.2.1, x.2.2.2.2.2.2.2.2.2.2.2.2.2.2.1, x.2.2.2.2.2.2.2.2.2.2.2.2.2.2.2.1, x.2.2.2.2.2.2.2.2.2.2.2.2.2.2.2.2.1, x.2.2.2.2.2.2.2.2.2.2.2.2.2.2.2.2.2)
abbrev s_mUndo (x : mS) (v : Int32) : mS := (x.1, x.2.1, x.2.2.1, x.2.2.2.1, x.2.2.2.2.1, v, x.2.2.2.2.2.2.1, x.2.2.2.2.2.2.2.1, x.2.2.2.2.2.2.2.2.1, x.2.2.2.2.2.2.2.2.2.1, x.2.2.2.2.2.2.2.2.2.2.1, x.2.2.2.2.2.2.2.2.2.2.2.1, x.2.2.2.2.2.2.2.2.2.2.2.2.1, x.2.2.2.2.2.2.2.2.2.2.2.2.2.1, x.2.2.2.2.2.2.2.2.2.2.2.2.2.2.1, x.2.2.2.2.2.2.2.2.2.2.2.2.2.2.2.1, x.2.2.2.2.2.2.2.2.2.2.2.2.2.2.2.2.1, x.2.2.2.2.2.2.2.2.2.2.2.2.2.2.2.2.2)
abbrev s_mImages (x : mS) (v : cF) : mS := (x.1, x.2.1, x.2.2.1, x.2.2.2.1, x.2.2.2.2.1, x.2.2.2.2.2.1, v, x.2.2.2.2.2.2.2.1, x.2.2.2.2.2.2.2.2.1, x.2.2.2.2.2.2.2.2.2.1, x.2.2.2.2.2.2.2.2.2.2.1, x.2.2.2.2.2.2.2.2.2.2.2.1, x.2.2.2.2.2.2.2.2.2.2.2.2.1, x.2.2.2.2.2.2.2.2.2.2.2.2.2.1, x.2.2.2.2.2.2.2.2.2.2.2.2.2.2.1, x.2.2.2.2.2.2.2.2.2.2.2.2.2.2.2.1, x.2.2.2.2.2.2.2.2.2.2.2.2.2.2.2.2.1, x.2.2.2.2.2.2.2.2.2.2.2.2.2.2.2.2.2)
abbrev s_mImaged (x : mS) (v : Int32) : mS := (x.1, x.2.1, x.2.2.1, x.2.2.2.1, x.2.2.2.2.1, x.2.2.2.2.2.1, x.2.2.2.2.2.2.1, v, x.2.2.2.2.2.2.2.2.1, x.2.2.2.2.2.2.2.2.2.1, x.2.2.2.2.2.2.2.2.2.2.1, x.2.2.2.2.2.2.2.2.2.2.2.1, x.2.2.2.2.2.2.2.2.2.2.2.2.1, x.2.2.2.2.2.2.2.2.2.2.2.2.2.1, x.2.2.2.2.2.2.2.2.2.2.2.2.2.2.1, x.2.2.2.2.2.2.2.2.2.2.2.2.2.2.2.1, x.2.2.2.2.2.2.2.2.2.2.2.2.2.2.2.2.1, x.2.2.2.2.2.2.2.2.2.2.2.2.2.2.2.2.2)
abbrev s_mLength (x : mS) (v : Int32) : mS := (x.1, x.2.1, x.2.2.1, x.2.2.2.1, x.2.2.2.2.1, x.2.2.2.2.2.1, x.2.2.2.2.2.2.1, x.2.2.2.2.2.2.2.1, v, x.2.2.2.2.2.2.2.2.2.1, x.2.2.2.2.2.2.2.2.2.2.1, x.2.2.2.2.2.2.2.2.2.2.2.1, x.2.2.2.2.2.2.2.2.2.2.2.2.1, x.2.2.2.2.2.2.2.2.2.2.2.2.2.1, x.2.2.2.2.2.2.2.2.2.2.2.2.2.2.1, x.2.2.2.2.2.2.2.2.2.2.2.2.2.2.2.1, x.2.2.2.2.2.2.2.2.2.2.2.2.2.2.2.2.1, x.2.2.2.2.2.2.2.2.2.2.2.2.2.2.2.2.2)
abbrev s_mText (x : mS) (v : cF) : mS := (x.1, x.2.1, x.2.2.1, x.2.2.2.1, x.2.2.2.2.1, x.2.2.2.2.2.1, x.2.2.2.2.2.2.1, x.2.2.2.2.2.2.2.1, x.2.2.2.2.2.2.2.2.1, v, x.2.2.2.2.2.2.2.2.2.2.1, x.2.2.2.2.2.2.2.2.2.2.2.1, x.2.2.2.2.2.2.2.2.2.2.2.2.1, x.2.2.2.2.2.2.2.2.2.2.2.2.2.1, x.2.2.2.2.2.2.2.2.2.2.2.2.2.2.1, x.2.2.2.2.2.2.2.2.2.2.2.2.2.2.2.1, x.2.2.2.2.2.2.2.2.2.2.2.2.2.2.2.2.1, x.2.2.2.2.2.2.2.2.2.2.2.2.2.2.2.2.2)
abbrev s_mSeen (x : mS) (v : Int32) : mS := (x.1, x.2.1, x.2.2.1, x.2.2.2.1, x.2.2.2.2.1, x.2.2.2.2.2.1, x.2.2.2.2.2.2.1, x.2.2.2.2.2.2.2.1, x.2.2.2.2.2.2.2.2.1, x.2.2.2.2.2.2.2.2.2.1, v, x.2.2.2.2.2.2.2.2.2.2.2.1, x.2.2.2.2.2.2.2.2.2.2.2.2.1, x.2.2.2.2.2.2.2.2.2.2.2.2.2.1, x.2.2.2.2.2.2.2.2.2.2.2.2.2.2.1, x.2.2.2.2.2.2.2.2.2.2.2.2.2.2.2.1, x.2.2.2.2.2.2.2.2.2.2.2.2.2.2.2.2.1, x.2.2.2.2.2.2.2.2.2.2.2.2.2.2.2.2.2)
abbrev s_mSeenOf (x : mS) (v : cF) : mS := (x.1, x.2.1, x.2.2.1, x.2.2.2.1, x.2.2.2.2.1, x.2.2.2.2.2.1, x.2.2.2.2.2.2.1, x.2.2.2.2.2.2.2.1, x.2.2.2.2.2.2.2.2.1, x.2.2.2.2.2.2.2.2.2.1, x.2.2.2.2.2.2.2.2.2.2.1, v, x.2.2.2.2.2.2.2.2.2.2.2.2.1, x.2.2.2.2.2.2.2.2.2.2.2.2.2.1, x.2.2.2.2.2.2.2.2.2.2.2.2.2.2.1, x.2.2.2.2.2.2.2.2.2.2.2.2.2.2.2.1, x.2.2.2.2.2.2.2.2.2.2.2.2.2.2.2.2.1, x.2.2.2.2.2.2.2.2.2.2.2.2.2.2.2.2.2)
abbrev s_mSeenIs (x : mS) (v : cF) : mS := (x.1, x.2.1, x.2.2.1, x.2.2.2.1, x.2.2.2.2.1, x.2.2.2.2.2.1, x.2.2.2.2.2.2.1, x.2.2.2.2.2.2.2.1, x.2.2.2.2.2.2.2.2.1, x.2.2.2.2.2.2.2.2.2.1, x.2.2.2.2.2.2.2.2.2.2.1, x.2.2.2.2.2.2.2.2.2.2.2.1, v, x.2.2.2.2.2.2.2.2.2.2.2.2.2.1, x.2.2.2.2.2.2.2.2.2.2.2.2.2.2.1, x.2.2.2.2.2.2.2.2.2.2.2.2.2.2.2.1, x.2.2.2.2.2.2.2.2.2.2.2.2.2.2.2.2.1, x.2.2.2.2.2.2.2.2.2.2.2.2.2.2.2.2.2)
abbrev s_mTrace (x : mS) (v : Int64) : mS := (x.1, x.2.1, x.2.2.1, x.2.2.2.1, x.2.2.2.2.1, x.2.2.2.2.2.1, x.2.2.2.2.2.2.1, x.2.2.2.2.2.2.2.1, x.2.2.2.2.2.2.2.2.1, x.2.2.2.2.2.2.2.2.2.1, x.2.2.2.2.2.2.2.2.2.2.1, x.2.2.2.2.2.2.2.2.2.2.2.1, x.2.2.2.2.2.2.2.2.2.2.2.2.1, v, x.2.2.2.2.2.2.2.2.2.2.2.2.2.2.1, x.2.2.2.2.2.2.2.2.2.2.2.2.2.2.2.1, x.2.2.2.2.2.2.2.2.2.2.2.2.2.2.2.2.1, x.2.2.2.2.2.2.2.2.2.2.2.2.2.2.2.2.2)
abbrev s_mSpot (x : mS) (v : Int32) : mS := (x.1, x.2.1, x.2.2.1, x.2.2.2.1, x.2.2.2.2.1, x.2.2.2.2.2.1, x.2.2.2.2.2.2.1, x.2.2.2.2.2.2.2.1, x.2.2.2.2.2.2.2.2.1, x.2.2.2.2.2.2.2.2.2.1, x.2.2.2.2.2.2.2.2.2.2.1, x.2.2.2.2.2.2.2.2.2.2.2.1, x.2.2.2.2.2.2.2.2.2.2.2.2.1, x.2.2.2.2.2.2.2.2.2.2.2.2.2.1, v, x.2.2.2.2.2.2.2.2.2.2.2.2.2.2.2.1, x.2.2.2.2.2.2.2.2.2.2.2.2.2.2.2.2.1, x.2.2.2.2.2.2.2.2.2.2.2.2.2.2.2.2.2)
abbrev s_mBegins (x : mS) (v : Int32) : mS := (x.1, x.2.1, x.2.2.1, x.2.2.2.1, x.2.2.2.2.1, x.2.2.2.2.2.1, x.2.2.2.2.2.2.1, x.2.2.2.2.2.2.2.1, x.2.2.2.2.2.2.2.2.1, x.2.2.2.2.2.2.2.2.2.1, x.2.2.2.2.2.2.2.2.2.2.1, x.2.2.2.2.2.2.2.2.2.2.2.1, x.2.2.2.2.2.2.2.2.2.2.2.2.1, x.2.2.2.2.2.2.2.2.2.2.2.2.2.1, x.2.2.2.2.2.2.2.2.2.2.2.2.2.2.1, v, x.2.2.2.2.2.2.2.2.2.2.2.2.2.2.2.2.1, x.2.2.2.2.2.2.2.2.2.2.2.2.2.2.2.2.2)
abbrev s_mToken (x : mS) (v : Int32) : mS := (x.1, x.2.1, x.2.2.1, x.2.2.2.1, x.2.2.2.2.1, x.2.2.2.2.2.1, x.2.2.2.2.2.2.1, x.2.2.2.2.2.2.2.1, x.2.2.2.2.2.2.2.2.1, x.2.2.2.2.2.2.2.2.2.1, x.2.2.2.2.2.2.2.2.2.2.1, x.2.2.2.2.2.2.2.2.2.2.2.1, x.2.2.2.2.2.2.2.2.2.2.2.2.1, x.2.2.2.2.2.2.2.2.2.2.2.2.2.1, x.2.2.2.2.2.2.2.2.2.2.2.2.2.2.1, x.2.2.2.2.2.2.2.2.2.2.2.2.2.2.2.1, v, x.2.2.2.2.2.2.2.2.2.2.2.2.2.2.2.2.2)
abbrev s_mValue (x : mS) (v : Int32) : mS := (x.1, x.2.1, x.2.2.1, x.2.2.2.1, x.2.2.2.2.1, x.2.2.2.2.2.1, x.2.2.2.2.2.2.1, x.2.2.2.2.2.2.2.1, x.2.2.2.2.2.2.2.2.1, x.2.2.2.2.2.2.2.2.2.1, x.2.2.2.2.2.2.2.2.2.2.1, x.2.2.2.2.2.2.2.2.2.2.2.1, x.2.2.2.2.2.2.2.2.2.2.2.2.1, x.2.2.2.2.2.2.2.2.2.2.2.2.2.1, x.2.2.2.2.2.2.2.2.2.2.2.2.2.2.1, x.2.2.2.2.2.2.2.2.2.2.2.2.2.2.2.1, x.2.2.2.2.2.2.2.2.2.2.2.2.2.2.2.2.1, v)
def hM (m : mS) : List zC := [.inr (.inr (5, [.ref 1001, .ref 1002, .ref 1003, .ref 1004, .ref 1005, .int (mUndo m), .ref 1006, .int (mImaged m), .int (mLength m), .ref 1007, .int (mSeen m), .ref 1008, .ref 1009, .long (mTrace m), .int (mSpot m), .int (mBegins m), .int (mToken m), .int (mValue m)])),
  .inl (0, 40, mTold m),
  .inl (0, 40, mRead m),
  .inl (0, 19, mReadRow m),
  .inl (0, 19, mNow m),
  .inl (0, 190, mBefore m),
  .inl (0, 38, mImages m),
  .inl (0, 150, mText m),
  .inl (0, 6, mSeenOf m),
  .inl (0, 6, mSeenIs m)]
def b2i (b : Bool) : Int32 := bif b then 1 else 0
def zhas (set i : Int32) : Bool := (set >>> (i &&& 31)) &&& 1 == 1
end
section
theorem b2i_01 (b : Bool) : b2i b = 0 ∨ b2i b = 1 := by cases b <;> simp [b2i]
theorem zhas_t {set i : Int32} (h : (set >>> (i &&& 31)) &&& 1 = 1) : zhas set i = true := beq_iff_eq.mpr h
theorem zhas_f {set i : Int32} (h : ¬ (set >>> (i &&& 31)) &&& 1 = 1) : zhas set i = false := beq_eq_false_iff_ne.mpr h
theorem c_has (S : zS) (d : Nat) (h : zH) (set i : Int32) : Ex S (d + 1) 0 0 82 [.int set, .int i] h (some (.int (b2i (zhas set i)))) h := by
  (refine exI rfl rfl ?_; intro X hX)
  repeat refine hX _ _ _ _ _ _ _ _ _ _ _ _ _ _ rfl ?_
  refine ⟨fun hc => ?_, fun hc => ?_⟩
  · have hc : ¬ (set >>> (i &&& 31)) &&& 1 = 1 := hc
    repeat refine hX _ _ _ _ _ _ _ _ _ _ _ _ _ _ rfl ?_
    exact ⟨Or.inl rfl, by rw [zhas_f hc]; rfl, rfl⟩
  · have hc : ¬ ¬ (set >>> (i &&& 31)) &&& 1 = 1 := hc
    repeat refine hX _ _ _ _ _ _ _ _ _ _ _ _ _ _ rfl ?_
    exact ⟨Or.inr rfl, by rw [zhas_t (Classical.not_not.mp hc)]; rfl, rfl⟩
theorem c_wrongedBy (S : zS) (d : Nat) (sw : Bool) (c : cS) (hm : List zC) {s : Nat} (hs : s < 6) : Ex S (d + 1) 0 0 63 [.ref 0, .int (nI s)] (hC sw c, hm) (some (.int (tInsulted (cTo c) s ||| nClaimed (cSc c) s))) (hC sw c, hm) := by
  cases sw
  all_goals
    (refine exI rfl rfl ?_; intro X hX)
    repeat refine hX _ _ _ _ _ _ _ _ _ _ _ _ _ _ rfl ?_
    refine ⟨vp_in_nI (by omega) (by decide), ?_⟩
    rw [nI_clamp (by omega)]
    repeat refine hX _ _ _ _ _ _ _ _ _ _ _ _ _ _ rfl ?_
    refine ⟨vp_in_nI (by omega) (by decide), ?_⟩
    rw [nI_clamp (by omega)]
    repeat refine hX _ _ _ _ _ _ _ _ _ _ _ _ _ _ rfl ?_
    exact ⟨rfl, rfl⟩
end
section
theorem i_empty1 (S : zS) (d : Nat) : Ex S (d + 1) 0 0 27 [.ref 3] ([.inr (.inr (4, [.null, .null, .null, .null, .null, .null, .null, .null, .int 0, .long 0])), .inr (.inr (1, [.int 0, .ref 2, .null, .int 0, .int 0, .int 0, .int 0, .int 0, .int 0])), .inl (0, 150, (fun _ => 0)), .inr (.inr (3, [.int 0, .int 0, .int 0, .int 0, .ref 4, .ref 5, .ref 6, .ref 7, .ref 8, .ref 9, .ref 10, .ref 11])), .inl (0, 6, (fun _ => 0)), .inl (0, 6, (fun _ => 0)), .inl (0, 6, (fun _ => 0)), .inl (0, 6, (fun _ => 0)), .inl (0, 6, (fun _ => 0)), .inl (0, 6, (fun _ => 0)), .inl (0, 6, (fun _ => 0)), .inl (0, 6, (fun _ => 0))], []) none ([.inr (.inr (4, [.null, .null, .null, .null, .null, .null, .null, .null, .int 0, .long 0])), .inr (.inr (1, [.int 0, .ref 2, .null, .int 0, .int 0, .int 0, .int 0, .int 0, .int 0])), .inl (0, 150, (fun _ => 0)), .inr (.inr (3, [.int 6, .int 1, .int 0, .int 0, .ref 4, .ref 5, .ref 6, .ref 7, .ref 8, .ref 9, .ref 10, .ref 11])), .inl (0, 6, (fun _ => 0)), .inl (0, 6, (fun _ => 0)), .inl (0, 6, (fun _ => 0)), .inl (0, 6, (fun _ => 0)), .inl (0, 6, (fun _ => 0)), .inl (0, 6, (fun _ => 0)), .inl (0, 6, (fun _ => 0)), .inl (0, 6, (fun _ => 0))], []) := by
  (refine exI rfl rfl ?_; intro X hX)
  repeat refine hX _ _ _ _ _ _ _ _ _ _ _ _ _ _ rfl ?_
  exact ⟨rfl, rfl⟩
theorem i_town1 (S : zS) (d : Nat) : Ex S (d + 2) 8 48 26 [.ref 3] ([.inr (.inr (4, [.null, .null, .null, .null, .null, .null, .null, .null, .int 0, .long 0])), .inr (.inr (1, [.int 0, .ref 2, .null, .int 0, .int 0, .int 0, .int 0, .int 0, .int 0])), .inl (0, 150, (fun _ => 0)), .inr (.inr (3, [.int 0, .int 0, .int 0, .int 0, .null, .null, .null, .null, .null, .null, .null, .null]))], []) none ([.inr (.inr (4, [.null, .null, .null, .null, .null, .null, .null, .null, .int 0, .long 0])), .inr (.inr (1, [.int 0, .ref 2, .null, .int 0, .int 0, .int 0, .int 0, .int 0, .int 0])), .inl (0, 150, (fun _ => 0)), .inr (.inr (3, [.int 6, .int 1, .int 0, .int 0, .ref 4, .ref 5, .ref 6, .ref 7, .ref 8, .ref 9, .ref 10, .ref 11])), .inl (0, 6, (fun _ => 0)), .inl (0, 6, (fun _ => 0)), .inl (0, 6, (fun _ => 0)), .inl (0, 6, (fun _ => 0)), .inl (0, 6, (fun _ => 0)), .inl (0, 6, (fun _ => 0)), .inl (0, 6, (fun _ => 0)), .inl (0, 6, (fun _ => 0))], []) := by
  (refine exI rfl rfl ?_; intro X hX)
  repeat refine hX _ _ _ _ _ _ _ _ _ _ _ _ _ _ rfl ?_
  refine ⟨rfl, rfl, by decide, by decide, by decide, ?_⟩
  repeat refine hX _ _ _ _ _ _ _ _ _ _ _ _ _ _ rfl ?_
  refine ⟨rfl, rfl, by decide, by decide, by decide, ?_⟩
  repeat refine hX _ _ _ _ _ _ _ _ _ _ _ _ _ _ rfl ?_
  refine ⟨rfl, rfl, by decide, by decide, by decide, ?_⟩
  repeat refine hX _ _ _ _ _ _ _ _ _ _ _ _ _ _ rfl ?_
  refine ⟨rfl, rfl, by decide, by decide, by decide, ?_⟩
  repeat refine hX _ _ _ _ _ _ _ _ _ _ _ _ _ _ rfl ?_
  refine ⟨rfl, rfl, by decide, by decide, by decide, ?_⟩
  repeat refine hX _ _ _ _ _ _ _ _ _ _ _ _ _ _ rfl ?_
  refine ⟨rfl, rfl, by decide, by decide, by decide, ?_⟩
  repeat refine hX _ _ _ _ _ _ _ _ _ _ _ _ _ _ rfl ?_
  refine ⟨rfl, rfl, by decide, by decide, by decide, ?_⟩
  repeat refine hX _ _ _ _ _ _ _ _ _ _ _ _ _ _ rfl ?_
  refine ⟨rfl, rfl, by decide, by decide, by decide, ?_⟩
  repeat refine hX _ _ _ _ _ _ _ _ _ _ _ _ _ _ rfl ?_
  refine Or.inl ⟨_, _, i_empty1 S d, ?_⟩
  repeat refine hX _ _ _ _ _ _ _ _ _ _ _ _ _ _ rfl ?_
  exact ⟨rfl, rfl⟩
theorem i_reader (S : zS) (d : Nat) : Ex S (d + 3) 10 210 6 [.ref 1] ([.inr (.inr (4, [.null, .null, .null, .null, .null, .null, .null, .null, .int 0, .long 0])), .inr (.inr (1, [.int 0, .null, .null, .int 0, .int 0, .int 0, .int 0, .int 0, .int 0]))], []) none ([.inr (.inr (4, [.null, .null, .null, .null, .null, .null, .null, .null, .int 0, .long 0])), .inr (.inr (1, [.int 0, .ref 2, .ref 3, .int 0, .int 0, .int 0, .int 0, .int 0, .int 0])), .inl (0, 150, (fun _ => 0)), .inr (.inr (3, [.int 6, .int 1, .int 0, .int 0, .ref 4, .ref 5, .ref 6, .ref 7, .ref 8, .ref 9, .ref 10, .ref 11])), .inl (0, 6, (fun _ => 0)), .inl (0, 6, (fun _ => 0)), .inl (0, 6, (fun _ => 0)), .inl (0, 6, (fun _ => 0)), .inl (0, 6, (fun _ => 0)), .inl (0, 6, (fun _ => 0)), .inl (0, 6, (fun _ => 0)), .inl (0, 6, (fun _ => 0))], []) := by
  (refine exI rfl rfl ?_; intro X hX)
  repeat refine hX _ _ _ _ _ _ _ _ _ _ _ _ _ _ rfl ?_
  refine ⟨rfl, rfl, by decide, by decide, by decide, ?_⟩
  repeat refine hX _ _ _ _ _ _ _ _ _ _ _ _ _ _ rfl ?_
  refine ⟨rfl, by decide, by decide, by decide, ?_⟩
  repeat refine hX _ _ _ _ _ _ _ _ _ _ _ _ _ _ rfl ?_
  refine Or.inr ⟨_, _, 8, 48, i_town1 S d, rfl, by decide, by decide, ?_⟩
  repeat refine hX _ _ _ _ _ _ _ _ _ _ _ _ _ _ rfl ?_
  exact ⟨rfl, rfl⟩
theorem i_empty2 (S : zS) (d : Nat) : Ex S (d + 1) 0 0 27 [.ref 12] ([.inr (.inr (4, [.ref 1, .null, .null, .null, .null, .null, .null, .null, .int 0, .long 0])), .inr (.inr (1, [.int 0, .ref 2, .ref 3, .int 0, .int 0, .int 0, .int 0, .int 0, .int 0])), .inl (0, 150, (fun _ => 0)), .inr (.inr (3, [.int 6, .int 1, .int 0, .int 0, .ref 4, .ref 5, .ref 6, .ref 7, .ref 8, .ref 9, .ref 10, .ref 11])), .inl (0, 6, (fun _ => 0)), .inl (0, 6, (fun _ => 0)), .inl (0, 6, (fun _ => 0)), .inl (0, 6, (fun _ => 0)), .inl (0, 6, (fun _ => 0)), .inl (0, 6, (fun _ => 0)), .inl (0, 6, (fun _ => 0)), .inl (0, 6, (fun _ => 0)), .inr (.inr (3, [.int 0, .int 0, .int 0, .int 0, .ref 13, .ref 14, .ref 15, .ref 16, .ref 17, .ref 18, .ref 19, .ref 20])), .inl (0, 6, (fun _ => 0)), .inl (0, 6, (fun _ => 0)), .inl (0, 6, (fun _ => 0)), .inl (0, 6, (fun _ => 0)), .inl (0, 6, (fun _ => 0)), .inl (0, 6, (fun _ => 0)), .inl (0, 6, (fun _ => 0)), .inl (0, 6, (fun _ => 0))], []) none ([.inr (.inr (4, [.ref 1, .null, .null, .null, .null, .null, .null, .null, .int 0, .long 0])), .inr (.inr (1, [.int 0, .ref 2, .ref 3, .int 0, .int 0, .int 0, .int 0, .int 0, .int 0])), .inl (0, 150, (fun _ => 0)), .inr (.inr (3, [.int 6, .int 1, .int 0, .int 0, .ref 4, .ref 5, .ref 6, .ref 7, .ref 8, .ref 9, .ref 10, .ref 11])), .inl (0, 6, (fun _ => 0)), .inl (0, 6, (fun _ => 0)), .inl (0, 6, (fun _ => 0)), .inl (0, 6, (fun _ => 0)), .inl (0, 6, (fun _ => 0)), .inl (0, 6, (fun _ => 0)), .inl (0, 6, (fun _ => 0)), .inl (0, 6, (fun _ => 0)), .inr (.inr (3, [.int 6, .int 1, .int 0, .int 0, .ref 13, .ref 14, .ref 15, .ref 16, .ref 17, .ref 18, .ref 19, .ref 20])), .inl (0, 6, (fun _ => 0)), .inl (0, 6, (fun _ => 0)), .inl (0, 6, (fun _ => 0)), .inl (0, 6, (fun _ => 0)), .inl (0, 6, (fun _ => 0)), .inl (0, 6, (fun _ => 0)), .inl (0, 6, (fun _ => 0)), .inl (0, 6, (fun _ => 0))], []) := by
  (refine exI rfl rfl ?_; intro X hX)
  repeat refine hX _ _ _ _ _ _ _ _ _ _ _ _ _ _ rfl ?_
  exact ⟨rfl, rfl⟩
theorem i_town2 (S : zS) (d : Nat) : Ex S (d + 2) 8 48 26 [.ref 12] ([.inr (.inr (4, [.ref 1, .null, .null, .null, .null, .null, .null, .null, .int 0, .long 0])), .inr (.inr (1, [.int 0, .ref 2, .ref 3, .int 0, .int 0, .int 0, .int 0, .int 0, .int 0])), .inl (0, 150, (fun _ => 0)), .inr (.inr (3, [.int 6, .int 1, .int 0, .int 0, .ref 4, .ref 5, .ref 6, .ref 7, .ref 8, .ref 9, .ref 10, .ref 11])), .inl (0, 6, (fun _ => 0)), .inl (0, 6, (fun _ => 0)), .inl (0, 6, (fun _ => 0)), .inl (0, 6, (fun _ => 0)), .inl (0, 6, (fun _ => 0)), .inl (0, 6, (fun _ => 0)), .inl (0, 6, (fun _ => 0)), .inl (0, 6, (fun _ => 0)), .inr (.inr (3, [.int 0, .int 0, .int 0, .int 0, .null, .null, .null, .null, .null, .null, .null, .null]))], []) none ([.inr (.inr (4, [.ref 1, .null, .null, .null, .null, .null, .null, .null, .int 0, .long 0])), .inr (.inr (1, [.int 0, .ref 2, .ref 3, .int 0, .int 0, .int 0, .int 0, .int 0, .int 0])), .inl (0, 150, (fun _ => 0)), .inr (.inr (3, [.int 6, .int 1, .int 0, .int 0, .ref 4, .ref 5, .ref 6, .ref 7, .ref 8, .ref 9, .ref 10, .ref 11])), .inl (0, 6, (fun _ => 0)), .inl (0, 6, (fun _ => 0)), .inl (0, 6, (fun _ => 0)), .inl (0, 6, (fun _ => 0)), .inl (0, 6, (fun _ => 0)), .inl (0, 6, (fun _ => 0)), .inl (0, 6, (fun _ => 0)), .inl (0, 6, (fun _ => 0)), .inr (.inr (3, [.int 6, .int 1, .int 0, .int 0, .ref 13, .ref 14, .ref 15, .ref 16, .ref 17, .ref 18, .ref 19, .ref 20])), .inl (0, 6, (fun _ => 0)), .inl (0, 6, (fun _ => 0)), .inl (0, 6, (fun _ => 0)), .inl (0, 6, (fun _ => 0)), .inl (0, 6, (fun _ => 0)), .inl (0, 6, (fun _ => 0)), .inl (0, 6, (fun _ => 0)), .inl (0, 6, (fun _ => 0))], []) := by
  (refine exI rfl rfl ?_; intro X hX)
  repeat refine hX _ _ _ _ _ _ _ _ _ _ _ _ _ _ rfl ?_
  refine ⟨rfl, rfl, by decide, by decide, by decide, ?_⟩
  repeat refine hX _ _ _ _ _ _ _ _ _ _ _ _ _ _ rfl ?_
  refine ⟨rfl, rfl, by decide, by decide, by decide, ?_⟩
  repeat refine hX _ _ _ _ _ _ _ _ _ _ _ _ _ _ rfl ?_
  refine ⟨rfl, rfl, by decide, by decide, by decide, ?_⟩
  repeat refine hX _ _ _ _ _ _ _ _ _ _ _ _ _ _ rfl ?_
  refine ⟨rfl, rfl, by decide, by decide, by decide, ?_⟩
  repeat refine hX _ _ _ _ _ _ _ _ _ _ _ _ _ _ rfl ?_
  refine ⟨rfl, rfl, by decide, by decide, by decide, ?_⟩
  repeat refine hX _ _ _ _ _ _ _ _ _ _ _ _ _ _ rfl ?_
  refine ⟨rfl, rfl, by decide, by decide, by decide, ?_⟩
  repeat refine hX _ _ _ _ _ _ _ _ _ _ _ _ _ _ rfl ?_
  refine ⟨rfl, rfl, by decide, by decide, by decide, ?_⟩
  repeat refine hX _ _ _ _ _ _ _ _ _ _ _ _ _ _ rfl ?_
  refine ⟨rfl, rfl, by decide, by decide, by decide, ?_⟩
  repeat refine hX _ _ _ _ _ _ _ _ _ _ _ _ _ _ rfl ?_
  refine Or.inl ⟨_, _, i_empty2 S d, ?_⟩
  repeat refine hX _ _ _ _ _ _ _ _ _ _ _ _ _ _ rfl ?_
  exact ⟨rfl, rfl⟩
theorem i_scene1 (S : zS) (d : Nat) : Ex S (d + 1) 2 12 22 [.ref 21] ([.inr (.inr (4, [.ref 1, .ref 12, .null, .null, .null, .null, .null, .null, .int 0, .long 0])), .inr (.inr (1, [.int 0, .ref 2, .ref 3, .int 0, .int 0, .int 0, .int 0, .int 0, .int 0])), .inl (0, 150, (fun _ => 0)), .inr (.inr (3, [.int 6, .int 1, .int 0, .int 0, .ref 4, .ref 5, .ref 6, .ref 7, .ref 8, .ref 9, .ref 10, .ref 11])), .inl (0, 6, (fun _ => 0)), .inl (0, 6, (fun _ => 0)), .inl (0, 6, (fun _ => 0)), .inl (0, 6, (fun _ => 0)), .inl (0, 6, (fun _ => 0)), .inl (0, 6, (fun _ => 0)), .inl (0, 6, (fun _ => 0)), .inl (0, 6, (fun _ => 0)), .inr (.inr (3, [.int 6, .int 1, .int 0, .int 0, .ref 13, .ref 14, .ref 15, .ref 16, .ref 17, .ref 18, .ref 19, .ref 20])), .inl (0, 6, (fun _ => 0)), .inl (0, 6, (fun _ => 0)), .inl (0, 6, (fun _ => 0)), .inl (0, 6, (fun _ => 0)), .inl (0, 6, (fun _ => 0)), .inl (0, 6, (fun _ => 0)), .inl (0, 6, (fun _ => 0)), .inl (0, 6, (fun _ => 0)), .inr (.inr (2, [.int 0, .null, .null]))], []) none ([.inr (.inr (4, [.ref 1, .ref 12, .null, .null, .null, .null, .null, .null, .int 0, .long 0])), .inr (.inr (1, [.int 0, .ref 2, .ref 3, .int 0, .int 0, .int 0, .int 0, .int 0, .int 0])), .inl (0, 150, (fun _ => 0)), .inr (.inr (3, [.int 6, .int 1, .int 0, .int 0, .ref 4, .ref 5, .ref 6, .ref 7, .ref 8, .ref 9, .ref 10, .ref 11])), .inl (0, 6, (fun _ => 0)), .inl (0, 6, (fun _ => 0)), .inl (0, 6, (fun _ => 0)), .inl (0, 6, (fun _ => 0)), .inl (0, 6, (fun _ => 0)), .inl (0, 6, (fun _ => 0)), .inl (0, 6, (fun _ => 0)), .inl (0, 6, (fun _ => 0)), .inr (.inr (3, [.int 6, .int 1, .int 0, .int 0, .ref 13, .ref 14, .ref 15, .ref 16, .ref 17, .ref 18, .ref 19, .ref 20])), .inl (0, 6, (fun _ => 0)), .inl (0, 6, (fun _ => 0)), .inl (0, 6, (fun _ => 0)), .inl (0, 6, (fun _ => 0)), .inl (0, 6, (fun _ => 0)), .inl (0, 6, (fun _ => 0)), .inl (0, 6, (fun _ => 0)), .inl (0, 6, (fun _ => 0)), .inr (.inr (2, [.int 0, .ref 22, .ref 23])), .inl (0, 6, (fun _ => 0)), .inl (0, 6, (fun _ => 0))], []) := by
  (refine exI rfl rfl ?_; intro X hX)
  repeat refine hX _ _ _ _ _ _ _ _ _ _ _ _ _ _ rfl ?_
  refine ⟨rfl, rfl, by decide, by decide, by decide, ?_⟩
  repeat refine hX _ _ _ _ _ _ _ _ _ _ _ _ _ _ rfl ?_
  refine ⟨rfl, rfl, by decide, by decide, by decide, ?_⟩
  repeat refine hX _ _ _ _ _ _ _ _ _ _ _ _ _ _ rfl ?_
  exact ⟨rfl, rfl⟩
theorem i_past (S : zS) (d : Nat) : Ex S (d + 1) 3 30 1 [.ref 24] ([.inr (.inr (4, [.ref 1, .ref 12, .ref 21, .null, .null, .null, .null, .null, .int 0, .long 0])), .inr (.inr (1, [.int 0, .ref 2, .ref 3, .int 0, .int 0, .int 0, .int 0, .int 0, .int 0])), .inl (0, 150, (fun _ => 0)), .inr (.inr (3, [.int 6, .int 1, .int 0, .int 0, .ref 4, .ref 5, .ref 6, .ref 7, .ref 8, .ref 9, .ref 10, .ref 11])), .inl (0, 6, (fun _ => 0)), .inl (0, 6, (fun _ => 0)), .inl (0, 6, (fun _ => 0)), .inl (0, 6, (fun _ => 0)), .inl (0, 6, (fun _ => 0)), .inl (0, 6, (fun _ => 0)), .inl (0, 6, (fun _ => 0)), .inl (0, 6, (fun _ => 0)), .inr (.inr (3, [.int 6, .int 1, .int 0, .int 0, .ref 13, .ref 14, .ref 15, .ref 16, .ref 17, .ref 18, .ref 19, .ref 20])), .inl (0, 6, (fun _ => 0)), .inl (0, 6, (fun _ => 0)), .inl (0, 6, (fun _ => 0)), .inl (0, 6, (fun _ => 0)), .inl (0, 6, (fun _ => 0)), .inl (0, 6, (fun _ => 0)), .inl (0, 6, (fun _ => 0)), .inl (0, 6, (fun _ => 0)), .inr (.inr (2, [.int 0, .ref 22, .ref 23])), .inl (0, 6, (fun _ => 0)), .inl (0, 6, (fun _ => 0)), .inr (.inr (0, [.int 0, .null, .null, .null]))], []) none ([.inr (.inr (4, [.ref 1, .ref 12, .ref 21, .null, .null, .null, .null, .null, .int 0, .long 0])), .inr (.inr (1, [.int 0, .ref 2, .ref 3, .int 0, .int 0, .int 0, .int 0, .int 0, .int 0])), .inl (0, 150, (fun _ => 0)), .inr (.inr (3, [.int 6, .int 1, .int 0, .int 0, .ref 4, .ref 5, .ref 6, .ref 7, .ref 8, .ref 9, .ref 10, .ref 11])), .inl (0, 6, (fun _ => 0)), .inl (0, 6, (fun _ => 0)), .inl (0, 6, (fun _ => 0)), .inl (0, 6, (fun _ => 0)), .inl (0, 6, (fun _ => 0)), .inl (0, 6, (fun _ => 0)), .inl (0, 6, (fun _ => 0)), .inl (0, 6, (fun _ => 0)), .inr (.inr (3, [.int 6, .int 1, .int 0, .int 0, .ref 13, .ref 14, .ref 15, .ref 16, .ref 17, .ref 18, .ref 19, .ref 20])), .inl (0, 6, (fun _ => 0)), .inl (0, 6, (fun _ => 0)), .inl (0, 6, (fun _ => 0)), .inl (0, 6, (fun _ => 0)), .inl (0, 6, (fun _ => 0)), .inl (0, 6, (fun _ => 0)), .inl (0, 6, (fun _ => 0)), .inl (0, 6, (fun _ => 0)), .inr (.inr (2, [.int 0, .ref 22, .ref 23])), .inl (0, 6, (fun _ => 0)), .inl (0, 6, (fun _ => 0)), .inr (.inr (0, [.int 0, .ref 25, .ref 26, .ref 27])), .inl (0, 10, (fun _ => 0)), .inl (0, 10, (fun _ => 0)), .inl (0, 10, (fun _ => 0))], []) := by
  (refine exI rfl rfl ?_; intro X hX)
  repeat refine hX _ _ _ _ _ _ _ _ _ _ _ _ _ _ rfl ?_
  refine ⟨rfl, rfl, by decide, by decide, by decide, ?_⟩
  repeat refine hX _ _ _ _ _ _ _ _ _ _ _ _ _ _ rfl ?_
  refine ⟨rfl, rfl, by decide, by decide, by decide, ?_⟩
  repeat refine hX _ _ _ _ _ _ _ _ _ _ _ _ _ _ rfl ?_
  refine ⟨rfl, rfl, by decide, by decide, by decide, ?_⟩
  repeat refine hX _ _ _ _ _ _ _ _ _ _ _ _ _ _ rfl ?_
  exact ⟨rfl, rfl⟩
theorem i_scene2 (S : zS) (d : Nat) : Ex S (d + 1) 2 12 22 [.ref 29] ([.inr (.inr (4, [.ref 1, .ref 12, .ref 21, .ref 24, .ref 28, .null, .null, .null, .int 0, .long 0])), .inr (.inr (1, [.int 0, .ref 2, .ref 3, .int 0, .int 0, .int 0, .int 0, .int 0, .int 0])), .inl (0, 150, (fun _ => 0)), .inr (.inr (3, [.int 6, .int 1, .int 0, .int 0, .ref 4, .ref 5, .ref 6, .ref 7, .ref 8, .ref 9, .ref 10, .ref 11])), .inl (0, 6, (fun _ => 0)), .inl (0, 6, (fun _ => 0)), .inl (0, 6, (fun _ => 0)), .inl (0, 6, (fun _ => 0)), .inl (0, 6, (fun _ => 0)), .inl (0, 6, (fun _ => 0)), .inl (0, 6, (fun _ => 0)), .inl (0, 6, (fun _ => 0)), .inr (.inr (3, [.int 6, .int 1, .int 0, .int 0, .ref 13, .ref 14, .ref 15, .ref 16, .ref 17, .ref 18, .ref 19, .ref 20])), .inl (0, 6, (fun _ => 0)), .inl (0, 6, (fun _ => 0)), .inl (0, 6, (fun _ => 0)), .inl (0, 6, (fun _ => 0)), .inl (0, 6, (fun _ => 0)), .inl (0, 6, (fun _ => 0)), .inl (0, 6, (fun _ => 0)), .inl (0, 6, (fun _ => 0)), .inr (.inr (2, [.int 0, .ref 22, .ref 23])), .inl (0, 6, (fun _ => 0)), .inl (0, 6, (fun _ => 0)), .inr (.inr (0, [.int 0, .ref 25, .ref 26, .ref 27])), .inl (0, 10, (fun _ => 0)), .inl (0, 10, (fun _ => 0)), .inl (0, 10, (fun _ => 0)), .inr (.inl [none, none]), .inr (.inr (2, [.int 0, .null, .null]))], []) none ([.inr (.inr (4, [.ref 1, .ref 12, .ref 21, .ref 24, .ref 28, .null, .null, .null, .int 0, .long 0])), .inr (.inr (1, [.int 0, .ref 2, .ref 3, .int 0, .int 0, .int 0, .int 0, .int 0, .int 0])), .inl (0, 150, (fun _ => 0)), .inr (.inr (3, [.int 6, .int 1, .int 0, .int 0, .ref 4, .ref 5, .ref 6, .ref 7, .ref 8, .ref 9, .ref 10, .ref 11])), .inl (0, 6, (fun _ => 0)), .inl (0, 6, (fun _ => 0)), .inl (0, 6, (fun _ => 0)), .inl (0, 6, (fun _ => 0)), .inl (0, 6, (fun _ => 0)), .inl (0, 6, (fun _ => 0)), .inl (0, 6, (fun _ => 0)), .inl (0, 6, (fun _ => 0)), .inr (.inr (3, [.int 6, .int 1, .int 0, .int 0, .ref 13, .ref 14, .ref 15, .ref 16, .ref 17, .ref 18, .ref 19, .ref 20])), .inl (0, 6, (fun _ => 0)), .inl (0, 6, (fun _ => 0)), .inl (0, 6, (fun _ => 0)), .inl (0, 6, (fun _ => 0)), .inl (0, 6, (fun _ => 0)), .inl (0, 6, (fun _ => 0)), .inl (0, 6, (fun _ => 0)), .inl (0, 6, (fun _ => 0)), .inr (.inr (2, [.int 0, .ref 22, .ref 23])), .inl (0, 6, (fun _ => 0)), .inl (0, 6, (fun _ => 0)), .inr (.inr (0, [.int 0, .ref 25, .ref 26, .ref 27])), .inl (0, 10, (fun _ => 0)), .inl (0, 10, (fun _ => 0)), .inl (0, 10, (fun _ => 0)), .inr (.inl [none, none]), .inr (.inr (2, [.int 0, .ref 30, .ref 31])), .inl (0, 6, (fun _ => 0)), .inl (0, 6, (fun _ => 0))], []) := by
  (refine exI rfl rfl ?_; intro X hX)
  repeat refine hX _ _ _ _ _ _ _ _ _ _ _ _ _ _ rfl ?_
  refine ⟨rfl, rfl, by decide, by decide, by decide, ?_⟩
  repeat refine hX _ _ _ _ _ _ _ _ _ _ _ _ _ _ rfl ?_
  refine ⟨rfl, rfl, by decide, by decide, by decide, ?_⟩
  repeat refine hX _ _ _ _ _ _ _ _ _ _ _ _ _ _ rfl ?_
  exact ⟨rfl, rfl⟩
theorem i_scene3 (S : zS) (d : Nat) : Ex S (d + 1) 2 12 22 [.ref 32] ([.inr (.inr (4, [.ref 1, .ref 12, .ref 21, .ref 24, .ref 28, .null, .null, .null, .int 0, .long 0])), .inr (.inr (1, [.int 0, .ref 2, .ref 3, .int 0, .int 0, .int 0, .int 0, .int 0, .int 0])), .inl (0, 150, (fun _ => 0)), .inr (.inr (3, [.int 6, .int 1, .int 0, .int 0, .ref 4, .ref 5, .ref 6, .ref 7, .ref 8, .ref 9, .ref 10, .ref 11])), .inl (0, 6, (fun _ => 0)), .inl (0, 6, (fun _ => 0)), .inl (0, 6, (fun _ => 0)), .inl (0, 6, (fun _ => 0)), .inl (0, 6, (fun _ => 0)), .inl (0, 6, (fun _ => 0)), .inl (0, 6, (fun _ => 0)), .inl (0, 6, (fun _ => 0)), .inr (.inr (3, [.int 6, .int 1, .int 0, .int 0, .ref 13, .ref 14, .ref 15, .ref 16, .ref 17, .ref 18, .ref 19, .ref 20])), .inl (0, 6, (fun _ => 0)), .inl (0, 6, (fun _ => 0)), .inl (0, 6, (fun _ => 0)), .inl (0, 6, (fun _ => 0)), .inl (0, 6, (fun _ => 0)), .inl (0, 6, (fun _ => 0)), .inl (0, 6, (fun _ => 0)), .inl (0, 6, (fun _ => 0)), .inr (.inr (2, [.int 0, .ref 22, .ref 23])), .inl (0, 6, (fun _ => 0)), .inl (0, 6, (fun _ => 0)), .inr (.inr (0, [.int 0, .ref 25, .ref 26, .ref 27])), .inl (0, 10, (fun _ => 0)), .inl (0, 10, (fun _ => 0)), .inl (0, 10, (fun _ => 0)), .inr (.inl [some 29, none]), .inr (.inr (2, [.int 0, .ref 30, .ref 31])), .inl (0, 6, (fun _ => 0)), .inl (0, 6, (fun _ => 0)), .inr (.inr (2, [.int 0, .null, .null]))], []) none ([.inr (.inr (4, [.ref 1, .ref 12, .ref 21, .ref 24, .ref 28, .null, .null, .null, .int 0, .long 0])), .inr (.inr (1, [.int 0, .ref 2, .ref 3, .int 0, .int 0, .int 0, .int 0, .int 0, .int 0])), .inl (0, 150, (fun _ => 0)), .inr (.inr (3, [.int 6, .int 1, .int 0, .int 0, .ref 4, .ref 5, .ref 6, .ref 7, .ref 8, .ref 9, .ref 10, .ref 11])), .inl (0, 6, (fun _ => 0)), .inl (0, 6, (fun _ => 0)), .inl (0, 6, (fun _ => 0)), .inl (0, 6, (fun _ => 0)), .inl (0, 6, (fun _ => 0)), .inl (0, 6, (fun _ => 0)), .inl (0, 6, (fun _ => 0)), .inl (0, 6, (fun _ => 0)), .inr (.inr (3, [.int 6, .int 1, .int 0, .int 0, .ref 13, .ref 14, .ref 15, .ref 16, .ref 17, .ref 18, .ref 19, .ref 20])), .inl (0, 6, (fun _ => 0)), .inl (0, 6, (fun _ => 0)), .inl (0, 6, (fun _ => 0)), .inl (0, 6, (fun _ => 0)), .inl (0, 6, (fun _ => 0)), .inl (0, 6, (fun _ => 0)), .inl (0, 6, (fun _ => 0)), .inl (0, 6, (fun _ => 0)), .inr (.inr (2, [.int 0, .ref 22, .ref 23])), .inl (0, 6, (fun _ => 0)), .inl (0, 6, (fun _ => 0)), .inr (.inr (0, [.int 0, .ref 25, .ref 26, .ref 27])), .inl (0, 10, (fun _ => 0)), .inl (0, 10, (fun _ => 0)), .inl (0, 10, (fun _ => 0)), .inr (.inl [some 29, none]), .inr (.inr (2, [.int 0, .ref 30, .ref 31])), .inl (0, 6, (fun _ => 0)), .inl (0, 6, (fun _ => 0)), .inr (.inr (2, [.int 0, .ref 33, .ref 34])), .inl (0, 6, (fun _ => 0)), .inl (0, 6, (fun _ => 0))], []) := by
  (refine exI rfl rfl ?_; intro X hX)
  repeat refine hX _ _ _ _ _ _ _ _ _ _ _ _ _ _ rfl ?_
  refine ⟨rfl, rfl, by decide, by decide, by decide, ?_⟩
  repeat refine hX _ _ _ _ _ _ _ _ _ _ _ _ _ _ rfl ?_
  refine ⟨rfl, rfl, by decide, by decide, by decide, ?_⟩
  repeat refine hX _ _ _ _ _ _ _ _ _ _ _ _ _ _ rfl ?_
  exact ⟨rfl, rfl⟩
def cS0 : cS := ((0, (fun _ => 0), 0, 0, 0, 0, 0, 0), (6, 1, 0, 0, (fun _ => 0), (fun _ => 0), (fun _ => 0), (fun _ => 0), (fun _ => 0), (fun _ => 0), (fun _ => 0), (fun _ => 0)), (6, 1, 0, 0, (fun _ => 0), (fun _ => 0), (fun _ => 0), (fun _ => 0), (fun _ => 0), (fun _ => 0), (fun _ => 0), (fun _ => 0)), (0, (fun _ => 0), (fun _ => 0)), (0, (fun _ => 0), (fun _ => 0), (fun _ => 0)), (0, (fun _ => 0), (fun _ => 0)), (0, (fun _ => 0), (fun _ => 0)), (fun _ => 0), (fun _ => 0), (fun _ => 0), 0, 0)
set_option maxRecDepth 20000 in
theorem i_class (S : zS) (d : Nat) : Ex S (d + 4) 100 1000 36 [.ref 0] ([.inr (.inr (4, [.null, .null, .null, .null, .null, .null, .null, .null, .int 0, .long 0]))], []) none (hC false cS0, []) := by
  (refine exI rfl rfl ?_; intro X hX)
  repeat refine hX _ _ _ _ _ _ _ _ _ _ _ _ _ _ rfl ?_
  refine ⟨rfl, by decide, by decide, by decide, ?_⟩
  repeat refine hX _ _ _ _ _ _ _ _ _ _ _ _ _ _ rfl ?_
  refine Or.inr ⟨_, _, 10, 210, i_reader S d, rfl, by decide, by decide, ?_⟩
  repeat refine hX _ _ _ _ _ _ _ _ _ _ _ _ _ _ rfl ?_
  refine ⟨rfl, by decide, by decide, by decide, ?_⟩
  repeat refine hX _ _ _ _ _ _ _ _ _ _ _ _ _ _ rfl ?_
  refine Or.inr ⟨_, _, 8, 48, i_town2 S (d + 1), rfl, by decide, by decide, ?_⟩
  repeat refine hX _ _ _ _ _ _ _ _ _ _ _ _ _ _ rfl ?_
  refine ⟨rfl, by decide, by decide, by decide, ?_⟩
  repeat refine hX _ _ _ _ _ _ _ _ _ _ _ _ _ _ rfl ?_
  refine Or.inr ⟨_, _, 2, 12, i_scene1 S (d + 2), rfl, by decide, by decide, ?_⟩
  repeat refine hX _ _ _ _ _ _ _ _ _ _ _ _ _ _ rfl ?_
  refine ⟨rfl, by decide, by decide, by decide, ?_⟩
  repeat refine hX _ _ _ _ _ _ _ _ _ _ _ _ _ _ rfl ?_
  refine Or.inr ⟨_, _, 3, 30, i_past S (d + 2), rfl, by decide, by decide, ?_⟩
  repeat refine hX _ _ _ _ _ _ _ _ _ _ _ _ _ _ rfl ?_
  refine ⟨rfl, rfl, by decide, by decide, by decide, ?_⟩
  repeat refine hX _ _ _ _ _ _ _ _ _ _ _ _ _ _ rfl ?_
  refine br_f (by unfold z_c2; decide) ?_
  repeat refine hX _ _ _ _ _ _ _ _ _ _ _ _ _ _ rfl ?_
  refine ⟨rfl, by decide, by decide, by decide, ?_⟩
  repeat refine hX _ _ _ _ _ _ _ _ _ _ _ _ _ _ rfl ?_
  refine Or.inr ⟨_, _, 2, 12, i_scene2 S (d + 2), rfl, by decide, by decide, ?_⟩
  repeat refine hX _ _ _ _ _ _ _ _ _ _ _ _ _ _ rfl ?_
  refine ⟨by unfold vp_in; decide, ?_⟩
  repeat refine hX _ _ _ _ _ _ _ _ _ _ _ _ _ _ rfl ?_
  refine br_f (by unfold z_c2; decide) ?_
  repeat refine hX _ _ _ _ _ _ _ _ _ _ _ _ _ _ rfl ?_
  refine ⟨rfl, by decide, by decide, by decide, ?_⟩
  repeat refine hX _ _ _ _ _ _ _ _ _ _ _ _ _ _ rfl ?_
  refine Or.inr ⟨_, _, 2, 12, i_scene3 S (d + 2), rfl, by decide, by decide, ?_⟩
  repeat refine hX _ _ _ _ _ _ _ _ _ _ _ _ _ _ rfl ?_
  refine ⟨by unfold vp_in; decide, ?_⟩
  repeat refine hX _ _ _ _ _ _ _ _ _ _ _ _ _ _ rfl ?_
  refine br_t (by unfold z_c2; decide) ?_
  repeat refine hX _ _ _ _ _ _ _ _ _ _ _ _ _ _ rfl ?_
  refine ⟨rfl, rfl, by decide, by decide, by decide, ?_⟩
  repeat refine hX _ _ _ _ _ _ _ _ _ _ _ _ _ _ rfl ?_
  refine ⟨rfl, rfl, by decide, by decide, by decide, ?_⟩
  repeat refine hX _ _ _ _ _ _ _ _ _ _ _ _ _ _ rfl ?_
  refine ⟨rfl, rfl, by decide, by decide, by decide, ?_⟩
  repeat refine hX _ _ _ _ _ _ _ _ _ _ _ _ _ _ rfl ?_
  exact ⟨rfl, rfl⟩
def mS0 : mS := (upd (upd (fun _ => 0) 0 6) 3 1, (fun _ => 0), (fun _ => 0), (fun _ => 0), (fun _ => 0), 0, (fun _ => 0), 0, 0, (fun _ => 0), 0, (fun _ => 0), (fun _ => 0), 0, 0, 0, 0, 0)
theorem i_model (S : zS) (d : Nat) : Ex S (d + 1) 100 1000 90 [.ref 1000] (hC false cS0, [.inr (.inr (5, [.null, .null, .null, .null, .null, .int 0, .null, .int 0, .int 0, .null, .int 0, .null, .null, .long 0, .int 0, .int 0, .int 0, .int 0]))]) none (hC false cS0, hM mS0) := by
  (refine exI rfl rfl ?_; intro X hX)
  repeat refine hX _ _ _ _ _ _ _ _ _ _ _ _ _ _ rfl ?_
  refine ⟨rfl, rfl, by decide, by decide, by decide, ?_⟩
  repeat refine hX _ _ _ _ _ _ _ _ _ _ _ _ _ _ rfl ?_
  refine ⟨rfl, rfl, by decide, by decide, by decide, ?_⟩
  repeat refine hX _ _ _ _ _ _ _ _ _ _ _ _ _ _ rfl ?_
  refine ⟨rfl, rfl, by decide, by decide, by decide, ?_⟩
  repeat refine hX _ _ _ _ _ _ _ _ _ _ _ _ _ _ rfl ?_
  refine ⟨rfl, rfl, by decide, by decide, by decide, ?_⟩
  repeat refine hX _ _ _ _ _ _ _ _ _ _ _ _ _ _ rfl ?_
  refine ⟨rfl, rfl, by decide, by decide, by decide, ?_⟩
  repeat refine hX _ _ _ _ _ _ _ _ _ _ _ _ _ _ rfl ?_
  refine ⟨rfl, rfl, by decide, by decide, by decide, ?_⟩
  repeat refine hX _ _ _ _ _ _ _ _ _ _ _ _ _ _ rfl ?_
  refine ⟨rfl, rfl, by decide, by decide, by decide, ?_⟩
  repeat refine hX _ _ _ _ _ _ _ _ _ _ _ _ _ _ rfl ?_
  refine ⟨rfl, rfl, by decide, by decide, by decide, ?_⟩
  repeat refine hX _ _ _ _ _ _ _ _ _ _ _ _ _ _ rfl ?_
  refine ⟨rfl, rfl, by decide, by decide, by decide, ?_⟩
  repeat refine hX _ _ _ _ _ _ _ _ _ _ _ _ _ _ rfl ?_
  refine ⟨by unfold vp_in; decide, ?_⟩
  repeat refine hX _ _ _ _ _ _ _ _ _ _ _ _ _ _ rfl ?_
  refine ⟨by unfold vp_in; decide, ?_⟩
  repeat refine hX _ _ _ _ _ _ _ _ _ _ _ _ _ _ rfl ?_
  exact ⟨rfl, rfl⟩
end
section
/-! ===== small sets as numbers below 64 ===== -/
def nmask : Nat → (Nat → Bool) → Nat
  | 0, _ => 0
  | n + 1, b => nmask n b + bif b n then 2 ^ n else 0
theorem nmask_lt (b : Nat → Bool) : ∀ n, nmask n b < 2 ^ n
  | 0 => by simp [nmask]
  | n + 1 => by
    have := nmask_lt b n
    rw [nmask, Nat.pow_succ]
    cases b n <;> simp <;> omega
theorem nmask_bit (b : Nat → Bool) (p : Nat) : ∀ n, (nmask n b).testBit p = (decide (p < n) && b p)
  | 0 => by simp [nmask]
  | n + 1 => by
    have ih := nmask_bit b p n
    have hl := nmask_lt b n
    rw [nmask]
    by_cases hp : p = n
    · subst hp
      have h0 : (nmask p b).testBit p = false := Nat.testBit_lt_two_pow hl
      cases hb : b p with
      | false => simp [h0]
      | true =>
        simp only [cond_true]
        rw [Nat.add_comm, Nat.testBit_two_pow_add_eq, h0]
        simp
    · have hd : decide (p < n + 1) = decide (p < n) := by
        apply decide_eq_decide.mpr
        omega
      rw [hd, ← ih]
      cases hb : b n with
      | false => simp
      | true =>
        simp only [cond_true]
        rcases Nat.lt_or_gt_of_ne hp with h | h
        · rw [Nat.add_comm, Nat.testBit_two_pow_add_gt h]
        · have h1 : nmask n b + 2 ^ n < 2 ^ p := by
            have : 2 ^ (n + 1) ≤ 2 ^ p := Nat.pow_le_pow_right (by decide) h
            rw [Nat.pow_succ] at this
            omega
          rw [Nat.testBit_lt_two_pow h1, Nat.testBit_lt_two_pow (by omega)]
theorem nmask_congr {b b' : Nat → Bool} : ∀ n, (∀ p, p < n → b p = b' p) → nmask n b = nmask n b'
  | 0, _ => rfl
  | n + 1, h => by rw [nmask, nmask, nmask_congr n (fun p hp => h p (by omega)), h n (by omega)]
theorem nmask_eq {n x : Nat} (hx : x < 2 ^ n) {b : Nat → Bool} (h : ∀ p, p < n → b p = x.testBit p) : nmask n b = x := by
  apply Nat.eq_of_testBit_eq
  intro p
  rw [nmask_bit]
  by_cases hp : p < n
  · simp [hp, h p hp]
  · rw [Nat.testBit_lt_two_pow (Nat.lt_of_lt_of_le hx (Nat.pow_le_pow_right (by decide) (by omega)))]
    simp [hp]
theorem pow_le64 {n : Nat} (h : n ≤ 6) : 2 ^ n ≤ 64 := Nat.pow_le_pow_right (n := 2) (by decide) h
theorem nmask_lt64 {n : Nat} (h : n ≤ 6) (b : Nat → Bool) : nmask n b < 64 := Nat.lt_of_lt_of_le (nmask_lt b n) (pow_le64 h)
theorem nmask_or (n : Nat) (b b' : Nat → Bool) : nmask n b ||| nmask n b' = nmask n (fun p => b p || b' p) := by
  apply Nat.eq_of_testBit_eq
  intro p
  rw [Nat.testBit_or, nmask_bit, nmask_bit, nmask_bit]
  cases decide (p < n) <;> simp
def pop (a : Nat) : Nat := (a.testBit 0).toNat + (a.testBit 1).toNat + (a.testBit 2).toNat + (a.testBit 3).toNat + (a.testBit 4).toNat + (a.testBit 5).toNat
theorem q_has : ∀ a, a < 64 → ∀ p, p < 6 → zhas (nI a) (nI p) = a.testBit p := by decide +kernel
theorem q_and : ∀ a, a < 64 → ∀ b, b < 64 → nI a &&& nI b = nI (a &&& b) := by decide +kernel
theorem q_or : ∀ a, a < 64 → ∀ b, b < 64 → nI a ||| nI b = nI (a ||| b) := by decide +kernel
theorem q_andn : ∀ a, a < 64 → ∀ b, b < 64 → nI a &&& (nI b ^^^ (-1)) = nI (a &&& (63 ^^^ b)) := by decide +kernel
theorem q_shl : ∀ p, p < 12 → (1 : Int32) <<< (nI p &&& 31) = nI (2 ^ p) := by decide +kernel
theorem q_shr1 : ∀ a, a < 64 → ∀ p, p < 6 → (nI a >>> (nI p &&& 31)) &&& 1 = nI ((a.testBit p).toNat) := by decide +kernel
theorem q_and_lt {a b : Nat} (h : a < 64) : a &&& b < 64 := Nat.lt_of_le_of_lt Nat.and_le_left h
theorem q_or_lt : ∀ a, a < 64 → ∀ b, b < 64 → a ||| b < 64 := by decide +kernel
/-- the JDK's count of bits -/
def jbc (x : Int32) : Int32 :=
  let a := x - ((x.toUInt32 >>> (Int32.toUInt32 1 &&& Int32.toUInt32 31)).toInt32 &&& 1431655765)
  let b := (a &&& 858993459) + ((a.toUInt32 >>> (Int32.toUInt32 2 &&& Int32.toUInt32 31)).toInt32 &&& 858993459)
  let c := (b + (b.toUInt32 >>> (Int32.toUInt32 4 &&& Int32.toUInt32 31)).toInt32) &&& 252645135
  let e := c + (c.toUInt32 >>> (Int32.toUInt32 8 &&& Int32.toUInt32 31)).toInt32
  let g := e + (e.toUInt32 >>> (Int32.toUInt32 16 &&& Int32.toUInt32 31)).toInt32
  g &&& 63
theorem q_jbc : ∀ a, a < 64 → jbc (nI a) = nI (pop a) := by decide +kernel
theorem j_bc (S : zS) (d : Nat) (h : zH) (x : Int32) : Ex S (d + 1) 0 0 150 [.int x] h (some (.int (jbc x))) h := by
  (refine exI rfl rfl ?_; intro X hX)
  repeat refine hX _ _ _ _ _ _ _ _ _ _ _ _ _ _ rfl ?_
  exact ⟨rfl, rfl⟩
theorem j_bcN (S : zS) (d : Nat) (h : zH) {a : Nat} (ha : a < 64) : Ex S (d + 1) 0 0 150 [.int (nI a)] h (some (.int (nI (pop a)))) h := by
  have := j_bc S d h (nI a)
  rwa [q_jbc a ha] at this
/-! the reference's count of bits -/
theorem q_low : ∀ a, a < 64 → 0 < a → nI a &&& (nI a - 1) = nI (a &&& (a - 1)) ∧ (a &&& (a - 1)) < a ∧ pop a = pop (a &&& (a - 1)) + 1 := by decide +kernel
theorem m_ones (S : zS) (d : Nat) (h : zH) {a : Nat} (ha : a < 64) : Ex S (d + 1) 0 0 93 [.int (nI a)] h (some (.int (nI (pop a)))) h := by
  (refine exI rfl rfl ?_; intro X hX)
  have loop : ∀ (n b k : Nat), b ≤ n → b < 64 → k + pop b = pop a → X 4 [some (.int (nI a)), some (.int (nI k)), some (.int (nI b))] [] h 0 0 := by
    intro n
    induction n with
    | zero =>
      intro b k hb _ hk
      have hb : b = 0 := by omega
      subst hb
      repeat refine hX _ _ _ _ _ _ _ _ _ _ _ _ _ _ rfl ?_
      refine br_t (show nI 0 = 0 from rfl) ?_
      repeat refine hX _ _ _ _ _ _ _ _ _ _ _ _ _ _ rfl ?_
      exact ⟨by rw [← hk]; rfl, rfl⟩
    | succ n ih =>
      intro b k hb hb64 hk
      by_cases h0 : b = 0
      · subst h0
        repeat refine hX _ _ _ _ _ _ _ _ _ _ _ _ _ _ rfl ?_
        refine br_t (show nI 0 = 0 from rfl) ?_
        repeat refine hX _ _ _ _ _ _ _ _ _ _ _ _ _ _ rfl ?_
        exact ⟨by rw [← hk]; rfl, rfl⟩
      · obtain ⟨e1, e2, e3⟩ := q_low b hb64 (by omega)
        repeat refine hX _ _ _ _ _ _ _ _ _ _ _ _ _ _ rfl ?_
        refine br_f (show ¬ nI b = 0 from nI_ne0 (by omega) (by omega)) ?_
        iterate 8 (refine hX _ _ _ _ _ _ _ _ _ _ _ _ _ _ rfl ?_)
        rw [e1, nI_1]
        exact ih (b &&& (b - 1)) (k + 1) (by omega) (by omega) (by omega)
  iterate 4 (refine hX _ _ _ _ _ _ _ _ _ _ _ _ _ _ rfl ?_)
  exact loop a a 0 (Nat.le_refl _) ha (by omega)
end
section
/-! ===== what class and reference are about: a town, what is now in it ===== -/
abbrev aF : Type := Nat → Nat
abbrev aT : Type := Nat × Nat × Nat × Nat × aF × aF × aF × aF × aF × aF
abbrev aNy (A : aT) : Nat := A.1
abbrev aSi (A : aT) : Nat := A.2.1
abbrev aNs (A : aT) : Nat := A.2.2.1
abbrev aNp (A : aT) : Nat := A.2.2.2.1
abbrev aWe (A : aT) : aF := A.2.2.2.2.1
abbrev aIn (A : aT) : aF := A.2.2.2.2.2.1
abbrev aHo (A : aT) : aF := A.2.2.2.2.2.2.1
abbrev aSt (A : aT) : aF := A.2.2.2.2.2.2.2.1
abbrev aCr (A : aT) : aF := A.2.2.2.2.2.2.2.2.1
abbrev aWg (A : aT) : aF := A.2.2.2.2.2.2.2.2.2
abbrev aN : Type := Nat × aF × aF
abbrev nCo (N : aN) : Nat := N.1
abbrev nYa (N : aN) : aF := N.2.1
abbrev nCl (N : aN) : aF := N.2.2
def TWf (A : aT) : Prop := 2 ≤ aNy A ∧ aNy A ≤ 10 ∧ aSi A ≤ 3 ∧ aNs A ≤ 6 ∧ aNp A ≤ 6 ∧ (∀ j, j < aNs A → 1 ≤ aWe A j ∧ aWe A j ≤ 30 ∧ aIn A j < 6) ∧ (∀ p, p < aNp A → aHo A p < aNy A ∧ 1 ≤ aSt A p ∧ aSt A p ≤ 9 ∧ aCr A p ≤ 3 ∧ aWg A p < 64)
def NWf (A : aT) (N : aN) : Prop := nCo N < 2 ^ aNp A ∧ (∀ j, j < aNs A → nYa N j < aNy A) ∧ (∀ j, j < aNs A → ∀ k, k < aNs A → nYa N j = nYa N k → j = k) ∧ (∀ p, p < aNp A → nCl N p < 2 ^ aNs A)
def TRel (t : cT) (A : aT) : Prop := tYards t = nI (aNy A) ∧ tSight t = nI (aSi A) ∧ tStatues t = nI (aNs A) ∧ tPeople t = nI (aNp A) ∧ (∀ j, j < aNs A → tWeight t j = nI (aWe A j) ∧ tInsult t j = nI (aIn A j) ∧ tInsulted t j = nI (nmask (aNp A) (fun p => (aWg A p).testBit (aIn A j)))) ∧ (∀ p, p < aNp A → tHome t p = nI (aHo A p) ∧ tStrong t p = nI (aSt A p) ∧ tCredit t p = nI (aCr A p) ∧ tWrongs t p = nI (aWg A p))
def NRel (A : aT) (n : cN) (N : aN) : Prop := nCome n = nI (nCo N) ∧ (∀ j, j < aNs A → nYardOf n j = nI (nYa N j)) ∧ (∀ j, j < 6 → nClaimed n j = nI (nmask (aNp A) (fun p => (nCl N p).testBit j)))
/-- the people who are wronged by a statue -/
def aWr (A : aT) (N : aN) (j : Nat) : Nat := nmask (aNp A) (fun p => (aWg A p).testBit (aIn A j) || (nCl N p).testBit j)
def aSum (f : aF) (set : Nat) : Nat → Nat
  | 0 => 0
  | n + 1 => aSum f set n + bif set.testBit n then f n else 0
def aStr (A : aT) (set : Nat) : Nat := aSum (aSt A) set (aNp A)
def aPull (A : aT) (N : aN) (j : Nat) : Nat := aStr A (aWr A N j &&& nCo N)
def aMov (A : aT) (N : aN) (j : Nat) : Bool := decide (aWe A j ≤ aPull A N j)
/-- who stands in a yard -/
def aFst (f : aF) (y : Int32) : Nat → Nat → Int32
  | 0, _ => -9
  | n + 1, j => if nI (f j) = y then nI j else aFst f y n (j + 1)
def aSin (A : aT) (N : aN) (y : Int32) : Int32 := aFst (nYa N) y (aNs A) 0
def inb (x : Int32) (n : Nat) : Bool := !decide (x < 0) && decide (x < nI n)
theorem inb_nI {j n : Nat} (h : j < n) (hn : n < 2 ^ 31) : inb (nI j) n = true := by
  unfold inb
  simp [nI_pos (show j < 2 ^ 31 by omega), nI_lt h hn]
theorem inb_of {x : Int32} {n : Nat} (h : inb x n = true) (hn : n < 2 ^ 31) : ∃ j, j < n ∧ x = nI j := by
  unfold inb at h
  simp only [Bool.and_eq_true, Bool.not_eq_true', decide_eq_true_eq, decide_eq_false_iff_not] at h
  obtain ⟨j, hj, rfl⟩ := nI_of h.1
  exact ⟨j, (nI_ltI hj hn).mp h.2, rfl⟩
theorem aWr_lt {A : aT} (hA : TWf A) (N : aN) (j : Nat) : aWr A N j < 64 := nmask_lt64 hA.2.2.2.2.1 _
theorem aSum_le {f : aF} {set : Nat} : ∀ n, (∀ p, p < n → f p ≤ 9) → aSum f set n ≤ 9 * n
  | 0, _ => by simp [aSum]
  | n + 1, h => by
    have := aSum_le (set := set) n (fun p hp => h p (by omega))
    have h2 := h n (by omega)
    rw [aSum]
    cases set.testBit n <;> simp <;> omega
theorem aStr_le {A : aT} (hA : TWf A) (set : Nat) : aStr A set ≤ 54 := by
  have := aSum_le (f := aSt A) (set := set) (aNp A) (fun p hp => (hA.2.2.2.2.2.2 p hp).2.2.1)
  have h2 := hA.2.2.2.2.1
  unfold aStr
  omega
end
section
/-! ===== the class: what is read ===== -/
theorem c_hasX (S : zS) (d : Nat) (h : zH) {a p : Nat} (ha : a < 64) (hp : p < 6) : Ex S (d + 1) 0 0 82 [.int (nI a), .int (nI p)] h (some (.int (b2i (a.testBit p)))) h := by
  have := c_has S d h (nI a) (nI p)
  rwa [q_has a ha p hp] at this
theorem c_wr (S : zS) (d : Nat) (sw : Bool) (c : cS) (hm : List zC) {A : aT} {N : aN} (hA : TWf A) (hT : TRel (cTo c) A) (hN : NRel A (cSc c) N) {j : Nat} (hj : j < aNs A) : Ex S (d + 1) 0 0 63 [.ref 0, .int (nI j)] (hC sw c, hm) (some (.int (nI (aWr A N j)))) (hC sw c, hm) := by
  have hns := hA.2.2.2.1
  have hnp := hA.2.2.2.2.1
  have := c_wrongedBy S d sw c hm (s := j) (by omega)
  obtain ⟨-, -, -, -, h5, -⟩ := hT
  obtain ⟨-, -, h6⟩ := hN
  rwa [(h5 j hj).2.2, h6 j (by omega), q_or _ (nmask_lt64 hnp _) _ (nmask_lt64 hnp _), nmask_or] at this
theorem c_strengthOf (S : zS) (d : Nat) (sw : Bool) (c : cS) (hm : List zC) {A : aT} (hA : TWf A) (hT : TRel (cTo c) A) {set : Nat} (hs : set < 64) : Ex S (d + 2) 0 0 35 [.ref (toR sw), .int (nI set)] (hC sw c, hm) (some (.int (nI (aStr A set)))) (hC sw c, hm) := by
  have hnp := hA.2.2.2.2.1
  obtain ⟨-, -, -, hp, -, h6⟩ := hT
  cases sw
  case false =>
    (refine exI rfl rfl ?_; intro X hX)
    have loop : ∀ (k j : Nat), j + k = aNp A → X 4 [some (.ref 12), some (.int (nI set)), some (.int (nI (aSum (aSt A) set j))), some (.int (nI j))] [] (hC false c, hm) 0 0 := by
      intro k
      induction k with
      | zero =>
        intro j hj
        repeat refine hX _ _ _ _ _ _ _ _ _ _ _ _ _ _ rfl ?_
        rw [hp]
        refine br_t (show nI (aNp A) ≤ nI j from nI_le (by omega) (by omega)) ?_
        repeat refine hX _ _ _ _ _ _ _ _ _ _ _ _ _ _ rfl ?_
        exact ⟨by rw [show j = aNp A by omega]; rfl, rfl⟩
      | succ k ih =>
        intro j hj
        repeat refine hX _ _ _ _ _ _ _ _ _ _ _ _ _ _ rfl ?_
        rw [hp]
        refine br_f (show ¬ nI (aNp A) ≤ nI j from nI_ge (by omega) (by omega)) ?_
        repeat refine hX _ _ _ _ _ _ _ _ _ _ _ _ _ _ rfl ?_
        refine Or.inl ⟨_, _, c_hasX S d _ hs (by omega), ?_⟩
        repeat refine hX _ _ _ _ _ _ _ _ _ _ _ _ _ _ rfl ?_
        have h7 := ih (j + 1) (by omega)
        rw [aSum] at h7
        cases hb : set.testBit j with
        | false =>
          refine br_t (show b2i false = 0 from rfl) ?_
          iterate 2 (refine hX _ _ _ _ _ _ _ _ _ _ _ _ _ _ rfl ?_)
          rw [nI_1]
          rw [hb] at h7
          exact h7
        | true =>
          refine br_f (show ¬ b2i true = 0 by decide) ?_
          repeat refine hX _ _ _ _ _ _ _ _ _ _ _ _ _ _ rfl ?_
          refine ⟨vp_in_nI (by omega) (by decide), ?_⟩
          rw [nI_clamp (by omega)]
          rw [(h6 j (by omega)).2.1]
          iterate 4 (refine hX _ _ _ _ _ _ _ _ _ _ _ _ _ _ rfl ?_)
          rw [nI_1, nI_add]
          rw [hb] at h7
          exact h7
    iterate 4 (refine hX _ _ _ _ _ _ _ _ _ _ _ _ _ _ rfl ?_)
    exact loop (aNp A) 0 (by omega)
  case true =>
    (refine exI rfl rfl ?_; intro X hX)
    have loop : ∀ (k j : Nat), j + k = aNp A → X 4 [some (.ref 3), some (.int (nI set)), some (.int (nI (aSum (aSt A) set j))), some (.int (nI j))] [] (hC true c, hm) 0 0 := by
      intro k
      induction k with
      | zero =>
        intro j hj
        repeat refine hX _ _ _ _ _ _ _ _ _ _ _ _ _ _ rfl ?_
        rw [hp]
        refine br_t (show nI (aNp A) ≤ nI j from nI_le (by omega) (by omega)) ?_
        repeat refine hX _ _ _ _ _ _ _ _ _ _ _ _ _ _ rfl ?_
        exact ⟨by rw [show j = aNp A by omega]; rfl, rfl⟩
      | succ k ih =>
        intro j hj
        repeat refine hX _ _ _ _ _ _ _ _ _ _ _ _ _ _ rfl ?_
        rw [hp]
        refine br_f (show ¬ nI (aNp A) ≤ nI j from nI_ge (by omega) (by omega)) ?_
        repeat refine hX _ _ _ _ _ _ _ _ _ _ _ _ _ _ rfl ?_
        refine Or.inl ⟨_, _, c_hasX S d _ hs (by omega), ?_⟩
        repeat refine hX _ _ _ _ _ _ _ _ _ _ _ _ _ _ rfl ?_
        have h7 := ih (j + 1) (by omega)
        rw [aSum] at h7
        cases hb : set.testBit j with
        | false =>
          refine br_t (show b2i false = 0 from rfl) ?_
          iterate 2 (refine hX _ _ _ _ _ _ _ _ _ _ _ _ _ _ rfl ?_)
          rw [nI_1]
          rw [hb] at h7
          exact h7
        | true =>
          refine br_f (show ¬ b2i true = 0 by decide) ?_
          repeat refine hX _ _ _ _ _ _ _ _ _ _ _ _ _ _ rfl ?_
          refine ⟨vp_in_nI (by omega) (by decide), ?_⟩
          rw [nI_clamp (by omega)]
          rw [(h6 j (by omega)).2.1]
          iterate 4 (refine hX _ _ _ _ _ _ _ _ _ _ _ _ _ _ rfl ?_)
          rw [nI_1, nI_add]
          rw [hb] at h7
          exact h7
    iterate 4 (refine hX _ _ _ _ _ _ _ _ _ _ _ _ _ _ rfl ?_)
    exact loop (aNp A) 0 (by omega)
end
section
/-! ===== more of what is asked of a town ===== -/
theorem nI_or (a b : Nat) : nI a ||| nI b = nI (a ||| b) := by
  apply Int32.toBitVec_inj.mp
  show (nI a).toBitVec ||| (nI b).toBitVec = (nI (a ||| b)).toBitVec
  show BitVec.ofNat 32 a ||| BitVec.ofNat 32 b = BitVec.ofNat 32 (a ||| b)
  exact (BitVec.ofNat_or).symm
theorem nmask_set (b : Nat → Bool) (n : Nat) : nmask n b ||| 2 ^ n = nmask n b + 2 ^ n := by
  rw [Nat.or_comm, Nat.add_comm]
  have := Nat.two_pow_add_eq_or_of_lt (nmask_lt b n) 1
  rw [Nat.mul_one] at this
  exact this.symm
def aCnt (b : Nat → Bool) : Nat → Nat
  | 0 => 0
  | n + 1 => aCnt b n + (b n).toNat
theorem aCnt_le (b : Nat → Bool) : ∀ n, aCnt b n ≤ n
  | 0 => by simp [aCnt]
  | n + 1 => by
    have := aCnt_le b n
    rw [aCnt]
    cases b n <;> simp <;> omega
theorem aCnt_congr {b b' : Nat → Bool} : ∀ n, (∀ p, p < n → b p = b' p) → aCnt b n = aCnt b' n
  | 0, _ => rfl
  | n + 1, h => by rw [aCnt, aCnt, aCnt_congr n (fun p hp => h p (by omega)), h n (by omega)]
theorem pop_cnt (x : Nat) : aCnt (fun s => x.testBit s) 6 = pop x := by
  simp only [aCnt, pop]
  omega
def aNear (a b s : Nat) : Bool := decide (a ≤ b + s) && decide (b ≤ a + s)
def jabs (x : Int32) : Int32 := if 0 ≤ x then x else -x
theorem q_near : ∀ a, a < 10 → ∀ b, b < 10 → ∀ s, s < 4 → decide (nI s < jabs (nI a - nI b)) = !aNear a b s := by decide +kernel
theorem j_abs (S : zS) (d : Nat) (h : zH) (x : Int32) : Ex S (d + 1) 0 0 151 [.int x] h (some (.int (jabs x))) h := by
  (refine exI rfl rfl ?_; intro X hX)
  repeat refine hX _ _ _ _ _ _ _ _ _ _ _ _ _ _ rfl ?_
  refine ⟨fun hc => ?_, fun hc => ?_⟩
  · have hc : 0 ≤ x := hc
    repeat refine hX _ _ _ _ _ _ _ _ _ _ _ _ _ _ rfl ?_
    exact ⟨by rw [jabs, if_pos hc], rfl⟩
  · have hc : ¬ 0 ≤ x := hc
    repeat refine hX _ _ _ _ _ _ _ _ _ _ _ _ _ _ rfl ?_
    exact ⟨by rw [jabs, if_neg hc], rfl⟩
/-- how many a statue offends in a yard -/
def aOff (A : aT) (N : aN) (j y : Nat) : Nat := aCnt (fun p => (aWr A N j).testBit p && aNear (aHo A p) y (aSi A)) (aNp A)
theorem aOff_le {A : aT} (hA : TWf A) (N : aN) (j y : Nat) : aOff A N j y ≤ 6 := Nat.le_trans (aCnt_le _ _) hA.2.2.2.2.1
def sel (w : Int32) (e : Int32) : List (Int32 × Int32) → Int32
  | [] => e
  | (x, v) :: r => if w = x then v else sel w e r
/-- may a statue stand there -/
def aCan (A : aT) (N : aN) (j y : Nat) : Bool := decide (aSin A N (nI y) = -9) || decide (nYa N j = y)
def aPlc (A : aT) (N : aN) (j : Nat) : Nat → Nat × Nat
  | 0 => (nYa N j, 7)
  | y + 1 => bif aCan A N j y && decide (aOff A N j y < (aPlc A N j y).2) then (y, aOff A N j y) else aPlc A N j y
def aEmp (A : aT) (N : aN) : Nat := nmask (aNy A) (fun y => decide (aSin A N (nI y) = -9))
def aMvs (A : aT) (N : aN) : Nat := nmask (aNs A) (aMov A N)
theorem aFst_cases {f : aF} {y : Int32} : ∀ (n j : Nat), aFst f y n j = -9 ∨ ∃ k, j ≤ k ∧ k < j + n ∧ aFst f y n j = nI k ∧ nI (f k) = y
  | 0, _ => Or.inl rfl
  | n + 1, j => by
    rw [aFst]
    by_cases h : nI (f j) = y
    · rw [if_pos h]
      exact Or.inr ⟨j, Nat.le_refl _, by omega, rfl, h⟩
    · rw [if_neg h]
      rcases aFst_cases (f := f) (y := y) n (j + 1) with h1 | ⟨k, h1, h2, h3, h4⟩
      · exact Or.inl h1
      · exact Or.inr ⟨k, by omega, by omega, h3, h4⟩
theorem aFst_none {f : aF} {y : Int32} : ∀ (n j : Nat), j + n ≤ 100 → aFst f y n j = -9 → ∀ k, j ≤ k → k < j + n → ¬ nI (f k) = y
  | 0, _, _, _, k, h1, h2 => by omega
  | n + 1, j, hl, h, k, h1, h2 => by
    rw [aFst] at h
    by_cases hj : nI (f j) = y
    · rw [if_pos hj] at h
      have : ∀ j, j < 100 → ¬ nI j = -9 := by decide +kernel
      exact absurd h (this j (by omega))
    · rw [if_neg hj] at h
      by_cases hk : k = j
      · rw [hk]; exact hj
      · exact aFst_none n (j + 1) (by omega) h k (by omega) (by omega)
theorem n9 : ∀ j, j < 100 → ¬ nI j = -9 := by decide +kernel
end
section
theorem c_hasStatue (S : zS) (d : Nat) (sw : Bool) (c : cS) (hm : List zC) {n : Nat} (hn : tStatues (cTo c) = nI n) (x : Int32) : Ex S (d + 1) 0 0 28 [.ref (toR sw), .int x] (hC sw c, hm) (some (.int (b2i (inb x n)))) (hC sw c, hm) := by
  cases sw
  all_goals
    (refine exI rfl rfl ?_; intro X hX)
    repeat refine hX _ _ _ _ _ _ _ _ _ _ _ _ _ _ rfl ?_
    refine ⟨fun hc => ?_, fun hc => ?_⟩
    · have hc : x < 0 := hc
      repeat refine hX _ _ _ _ _ _ _ _ _ _ _ _ _ _ rfl ?_
      exact ⟨Or.inl rfl, by simp [inb, hc, b2i], rfl⟩
    · have hc : ¬ x < 0 := hc
      repeat refine hX _ _ _ _ _ _ _ _ _ _ _ _ _ _ rfl ?_
      rw [hn]
      refine ⟨fun h2 => ?_, fun h2 => ?_⟩
      · have h2 : ¬ x < nI n := Int32.not_lt.mpr h2
        repeat refine hX _ _ _ _ _ _ _ _ _ _ _ _ _ _ rfl ?_
        exact ⟨Or.inl rfl, by simp [inb, hc, h2, b2i], rfl⟩
      · have h2 : x < nI n := Int32.not_le.mp h2
        repeat refine hX _ _ _ _ _ _ _ _ _ _ _ _ _ _ rfl ?_
        exact ⟨Or.inr rfl, by simp [inb, hc, h2, b2i], rfl⟩
theorem c_hasOne (S : zS) (d : Nat) (sw : Bool) (c : cS) (hm : List zC) {n : Nat} (hn : tPeople (cTo c) = nI n) (x : Int32) : Ex S (d + 1) 0 0 29 [.ref (toR sw), .int x] (hC sw c, hm) (some (.int (b2i (inb x n)))) (hC sw c, hm) := by
  cases sw
  all_goals
    (refine exI rfl rfl ?_; intro X hX)
    repeat refine hX _ _ _ _ _ _ _ _ _ _ _ _ _ _ rfl ?_
    refine ⟨fun hc => ?_, fun hc => ?_⟩
    · have hc : x < 0 := hc
      repeat refine hX _ _ _ _ _ _ _ _ _ _ _ _ _ _ rfl ?_
      exact ⟨Or.inl rfl, by simp [inb, hc, b2i], rfl⟩
    · have hc : ¬ x < 0 := hc
      repeat refine hX _ _ _ _ _ _ _ _ _ _ _ _ _ _ rfl ?_
      rw [hn]
      refine ⟨fun h2 => ?_, fun h2 => ?_⟩
      · have h2 : ¬ x < nI n := Int32.not_lt.mpr h2
        repeat refine hX _ _ _ _ _ _ _ _ _ _ _ _ _ _ rfl ?_
        exact ⟨Or.inl rfl, by simp [inb, hc, h2, b2i], rfl⟩
      · have h2 : x < nI n := Int32.not_le.mp h2
        repeat refine hX _ _ _ _ _ _ _ _ _ _ _ _ _ _ rfl ?_
        exact ⟨Or.inr rfl, by simp [inb, hc, h2, b2i], rfl⟩
theorem c_hasYard (S : zS) (d : Nat) (sw : Bool) (c : cS) (hm : List zC) {n : Nat} (hn : tYards (cTo c) = nI n) (x : Int32) : Ex S (d + 1) 0 0 30 [.ref (toR sw), .int x] (hC sw c, hm) (some (.int (b2i (inb x n)))) (hC sw c, hm) := by
  cases sw
  all_goals
    (refine exI rfl rfl ?_; intro X hX)
    repeat refine hX _ _ _ _ _ _ _ _ _ _ _ _ _ _ rfl ?_
    refine ⟨fun hc => ?_, fun hc => ?_⟩
    · have hc : x < 0 := hc
      repeat refine hX _ _ _ _ _ _ _ _ _ _ _ _ _ _ rfl ?_
      exact ⟨Or.inl rfl, by simp [inb, hc, b2i], rfl⟩
    · have hc : ¬ x < 0 := hc
      repeat refine hX _ _ _ _ _ _ _ _ _ _ _ _ _ _ rfl ?_
      rw [hn]
      refine ⟨fun h2 => ?_, fun h2 => ?_⟩
      · have h2 : ¬ x < nI n := Int32.not_lt.mpr h2
        repeat refine hX _ _ _ _ _ _ _ _ _ _ _ _ _ _ rfl ?_
        exact ⟨Or.inl rfl, by simp [inb, hc, h2, b2i], rfl⟩
      · have h2 : x < nI n := Int32.not_le.mp h2
        repeat refine hX _ _ _ _ _ _ _ _ _ _ _ _ _ _ rfl ?_
        exact ⟨Or.inr rfl, by simp [inb, hc, h2, b2i], rfl⟩
section CR
variable (S : zS) (d : Nat) (sw : Bool) (c : cS) (hm : List zC) {A : aT} {N : aN} (hA : TWf A) (hT : TRel (cTo c) A) (hW : NWf A N) (hN : NRel A (cSc c) N)
theorem nCo_lt {A : aT} {N : aN} (hA : TWf A) (hW : NWf A N) : nCo N < 64 := Nat.lt_of_lt_of_le hW.1 (pow_le64 hA.2.2.2.2.1)
theorem c_pullersAt (S : zS) (d : Nat) (sw : Bool) (c : cS) (hm : List zC) {A : aT} {N : aN} (hA : TWf A) (hT : TRel (cTo c) A) (hW : NWf A N) (hN : NRel A (cSc c) N) {j : Nat} (hj : j < aNs A) : Ex S (d + 2) 0 0 64 [.ref 0, .int (nI j)] (hC sw c, hm) (some (.int (nI (aWr A N j &&& nCo N)))) (hC sw c, hm) := by
  have hw := c_wr S d sw c hm hA hT hN hj
  have h1 := aWr_lt hA N j
  have h2 := nCo_lt hA hW
  obtain ⟨hc, -, -⟩ := hN
  cases sw
  all_goals
    (refine exI rfl rfl ?_; intro X hX)
    repeat refine hX _ _ _ _ _ _ _ _ _ _ _ _ _ _ rfl ?_
    refine Or.inl ⟨_, _, hw, ?_⟩
    repeat refine hX _ _ _ _ _ _ _ _ _ _ _ _ _ _ rfl ?_
    rw [hc, q_and _ h1 _ h2]
    exact ⟨rfl, rfl⟩
theorem c_pullAt (S : zS) (d : Nat) (sw : Bool) (c : cS) (hm : List zC) {A : aT} {N : aN} (hA : TWf A) (hT : TRel (cTo c) A) (hW : NWf A N) (hN : NRel A (cSc c) N) {j : Nat} (hj : j < aNs A) : Ex S (d + 3) 0 0 65 [.ref 0, .int (nI j)] (hC sw c, hm) (some (.int (nI (aPull A N j)))) (hC sw c, hm) := by
  have hp := c_pullersAt S d sw c hm hA hT hW hN hj
  have hs := c_strengthOf S d sw c hm hA hT (set := aWr A N j &&& nCo N) (q_and_lt (aWr_lt hA N j))
  cases sw
  all_goals
    (refine exI rfl rfl ?_; intro X hX)
    repeat refine hX _ _ _ _ _ _ _ _ _ _ _ _ _ _ rfl ?_
    refine Or.inl ⟨_, _, hp, ?_⟩
    repeat refine hX _ _ _ _ _ _ _ _ _ _ _ _ _ _ rfl ?_
    refine Or.inl ⟨_, _, hs, ?_⟩
    repeat refine hX _ _ _ _ _ _ _ _ _ _ _ _ _ _ rfl ?_
    exact ⟨rfl, rfl⟩
theorem c_moves (S : zS) (d : Nat) (sw : Bool) (c : cS) (hm : List zC) {A : aT} {N : aN} (hA : TWf A) (hT : TRel (cTo c) A) (hW : NWf A N) (hN : NRel A (cSc c) N) {j : Nat} (hj : j < aNs A) : Ex S (d + 4) 0 0 66 [.ref 0, .int (nI j)] (hC sw c, hm) (some (.int (b2i (aMov A N j)))) (hC sw c, hm) := by
  have hp := c_pullAt S d sw c hm hA hT hW hN hj
  have hns := hA.2.2.2.1
  have h3 := (hA.2.2.2.2.2.1 j hj).2.1
  have h4 : aPull A N j ≤ 54 := aStr_le hA _
  have h5 := (hT.2.2.2.2.1 j hj).1
  cases sw
  all_goals
    (refine exI rfl rfl ?_; intro X hX)
    repeat refine hX _ _ _ _ _ _ _ _ _ _ _ _ _ _ rfl ?_
    refine Or.inl ⟨_, _, hp, ?_⟩
    repeat refine hX _ _ _ _ _ _ _ _ _ _ _ _ _ _ rfl ?_
    refine ⟨vp_in_nI (by omega) (by decide), ?_⟩
    rw [nI_clamp (by omega)]
    rw [h5]
    repeat refine hX _ _ _ _ _ _ _ _ _ _ _ _ _ _ rfl ?_
    refine ⟨fun hc => ?_, fun hc => ?_⟩
    · have hc : ¬ aWe A j ≤ aPull A N j := by have := (nI_ltI (by omega) (by omega)).mp (show nI (aPull A N j) < nI (aWe A j) from hc); omega
      repeat refine hX _ _ _ _ _ _ _ _ _ _ _ _ _ _ rfl ?_
      exact ⟨Or.inl rfl, by simp [aMov, hc, b2i], rfl⟩
    · have hc : aWe A j ≤ aPull A N j := Nat.not_lt.mp fun h9 => hc (nI_lt h9 (by omega))
      repeat refine hX _ _ _ _ _ _ _ _ _ _ _ _ _ _ rfl ?_
      exact ⟨Or.inr rfl, by simp [aMov, hc, b2i], rfl⟩
theorem c_statueIn (S : zS) (d : Nat) (sw : Bool) (c : cS) (hm : List zC) {A : aT} {N : aN} (hA : TWf A) (hT : TRel (cTo c) A) (hN : NRel A (cSc c) N) (y : Int32) : Ex S (d + 1) 0 0 69 [.ref 0, .int y] (hC sw c, hm) (some (.int (aSin A N y))) (hC sw c, hm) := by
  have hns := hA.2.2.2.1
  obtain ⟨-, -, hn, -, -, -⟩ := hT
  obtain ⟨-, hy, -⟩ := hN
  cases sw
  case false =>
    (refine exI rfl rfl ?_; intro X hX)
    have loop : ∀ (k j : Nat), j + k = aNs A → aFst (nYa N) y k j = aSin A N y → X 2 [some (.ref 0), some (.int y), some (.int (nI j))] [] (hC false c, hm) 0 0 := by
      intro k
      induction k with
      | zero =>
        intro j hj he
        repeat refine hX _ _ _ _ _ _ _ _ _ _ _ _ _ _ rfl ?_
        rw [hn]
        refine br_t (show nI (aNs A) ≤ nI j from nI_le (by omega) (by omega)) ?_
        repeat refine hX _ _ _ _ _ _ _ _ _ _ _ _ _ _ rfl ?_
        exact ⟨by rw [← he]; rfl, rfl⟩
      | succ k ih =>
        intro j hj he
        repeat refine hX _ _ _ _ _ _ _ _ _ _ _ _ _ _ rfl ?_
        rw [hn]
        refine br_f (show ¬ nI (aNs A) ≤ nI j from nI_ge (by omega) (by omega)) ?_
        repeat refine hX _ _ _ _ _ _ _ _ _ _ _ _ _ _ rfl ?_
        refine ⟨vp_in_nI (by omega) (by decide), ?_⟩
        rw [nI_clamp (by omega)]
        rw [hy j (by omega)]
        repeat refine hX _ _ _ _ _ _ _ _ _ _ _ _ _ _ rfl ?_
        rw [aFst] at he
        refine ⟨fun hc => ?_, fun hc => ?_⟩
        · rw [if_neg (show ¬ nI (nYa N j) = y from hc)] at he
          iterate 2 (refine hX _ _ _ _ _ _ _ _ _ _ _ _ _ _ rfl ?_)
          rw [nI_1]
          exact ih (j + 1) (by omega) he
        · rw [if_pos (show nI (nYa N j) = y from Classical.not_not.mp hc)] at he
          repeat refine hX _ _ _ _ _ _ _ _ _ _ _ _ _ _ rfl ?_
          exact ⟨by rw [← he], rfl⟩
    iterate 2 (refine hX _ _ _ _ _ _ _ _ _ _ _ _ _ _ rfl ?_)
    exact loop (aNs A) 0 (by omega) rfl
  case true =>
    (refine exI rfl rfl ?_; intro X hX)
    have loop : ∀ (k j : Nat), j + k = aNs A → aFst (nYa N) y k j = aSin A N y → X 2 [some (.ref 0), some (.int y), some (.int (nI j))] [] (hC true c, hm) 0 0 := by
      intro k
      induction k with
      | zero =>
        intro j hj he
        repeat refine hX _ _ _ _ _ _ _ _ _ _ _ _ _ _ rfl ?_
        rw [hn]
        refine br_t (show nI (aNs A) ≤ nI j from nI_le (by omega) (by omega)) ?_
        repeat refine hX _ _ _ _ _ _ _ _ _ _ _ _ _ _ rfl ?_
        exact ⟨by rw [← he]; rfl, rfl⟩
      | succ k ih =>
        intro j hj he
        repeat refine hX _ _ _ _ _ _ _ _ _ _ _ _ _ _ rfl ?_
        rw [hn]
        refine br_f (show ¬ nI (aNs A) ≤ nI j from nI_ge (by omega) (by omega)) ?_
        repeat refine hX _ _ _ _ _ _ _ _ _ _ _ _ _ _ rfl ?_
        refine ⟨vp_in_nI (by omega) (by decide), ?_⟩
        rw [nI_clamp (by omega)]
        rw [hy j (by omega)]
        repeat refine hX _ _ _ _ _ _ _ _ _ _ _ _ _ _ rfl ?_
        rw [aFst] at he
        refine ⟨fun hc => ?_, fun hc => ?_⟩
        · rw [if_neg (show ¬ nI (nYa N j) = y from hc)] at he
          iterate 2 (refine hX _ _ _ _ _ _ _ _ _ _ _ _ _ _ rfl ?_)
          rw [nI_1]
          exact ih (j + 1) (by omega) he
        · rw [if_pos (show nI (nYa N j) = y from Classical.not_not.mp hc)] at he
          repeat refine hX _ _ _ _ _ _ _ _ _ _ _ _ _ _ rfl ?_
          exact ⟨by rw [← he], rfl⟩
    iterate 2 (refine hX _ _ _ _ _ _ _ _ _ _ _ _ _ _ rfl ?_)
    exact loop (aNs A) 0 (by omega) rfl
theorem c_timesB (S : zS) (d : Nat) (sw : Bool) (c : cS) (hm : List zC) {A : aT} {N : aN} (hA : TWf A) (hN : NRel A (cSc c) N) {p : Nat} (hp : p < aNp A) : Ex S (d + 2) 0 0 25 [.ref 21, .int (nI p)] (hC sw c, hm) (some (.int (nI (pop (nCl N p))))) (hC sw c, hm) := by
  have hnp := hA.2.2.2.2.1
  obtain ⟨-, -, hl⟩ := hN
  cases sw
  case false =>
    (refine exI rfl rfl ?_; intro X hX)
    have loop : ∀ (k j : Nat), j + k = 6 → X 4 [some (.ref 21), some (.int (nI p)), some (.int (nI (aCnt (fun s => (nCl N p).testBit s) j))), some (.int (nI j))] [] (hC false c, hm) 0 0 := by
      intro k
      induction k with
      | zero =>
        intro j hj
        repeat refine hX _ _ _ _ _ _ _ _ _ _ _ _ _ _ rfl ?_
        refine br_t (show nI 6 ≤ nI j from nI_le (by omega) (by omega)) ?_
        repeat refine hX _ _ _ _ _ _ _ _ _ _ _ _ _ _ rfl ?_
        exact ⟨by rw [show j = 6 by omega, pop_cnt], rfl⟩
      | succ k ih =>
        intro j hj
        repeat refine hX _ _ _ _ _ _ _ _ _ _ _ _ _ _ rfl ?_
        refine br_f (show ¬ nI 6 ≤ nI j from nI_ge (by omega) (by omega)) ?_
        repeat refine hX _ _ _ _ _ _ _ _ _ _ _ _ _ _ rfl ?_
        refine ⟨vp_in_nI (by omega) (by decide), ?_⟩
        rw [nI_clamp (by omega)]
        rw [hl j (by omega)]
        repeat refine hX _ _ _ _ _ _ _ _ _ _ _ _ _ _ rfl ?_
        refine Or.inl ⟨_, _, c_hasX S d _ (nmask_lt64 hnp _) (by omega), ?_⟩
        rw [nmask_bit]
        simp only [hp, decide_true, Bool.true_and]
        repeat refine hX _ _ _ _ _ _ _ _ _ _ _ _ _ _ rfl ?_
        have h7 := ih (j + 1) (by omega)
        rw [aCnt] at h7
        cases hb : (nCl N p).testBit j with
        | false =>
          refine br_t (show b2i false = 0 from rfl) ?_
          iterate 2 (refine hX _ _ _ _ _ _ _ _ _ _ _ _ _ _ rfl ?_)
          rw [nI_1]
          rw [hb] at h7
          exact h7
        | true =>
          refine br_f (show ¬ b2i true = 0 by decide) ?_
          iterate 3 (refine hX _ _ _ _ _ _ _ _ _ _ _ _ _ _ rfl ?_)
          rw [nI_1, nI_1]
          rw [hb] at h7
          exact h7
    iterate 4 (refine hX _ _ _ _ _ _ _ _ _ _ _ _ _ _ rfl ?_)
    exact loop 6 0 (by omega)
  case true =>
    (refine exI rfl rfl ?_; intro X hX)
    have loop : ∀ (k j : Nat), j + k = 6 → X 4 [some (.ref 21), some (.int (nI p)), some (.int (nI (aCnt (fun s => (nCl N p).testBit s) j))), some (.int (nI j))] [] (hC true c, hm) 0 0 := by
      intro k
      induction k with
      | zero =>
        intro j hj
        repeat refine hX _ _ _ _ _ _ _ _ _ _ _ _ _ _ rfl ?_
        refine br_t (show nI 6 ≤ nI j from nI_le (by omega) (by omega)) ?_
        repeat refine hX _ _ _ _ _ _ _ _ _ _ _ _ _ _ rfl ?_
        exact ⟨by rw [show j = 6 by omega, pop_cnt], rfl⟩
      | succ k ih =>
        intro j hj
        repeat refine hX _ _ _ _ _ _ _ _ _ _ _ _ _ _ rfl ?_
        refine br_f (show ¬ nI 6 ≤ nI j from nI_ge (by omega) (by omega)) ?_
        repeat refine hX _ _ _ _ _ _ _ _ _ _ _ _ _ _ rfl ?_
        refine ⟨vp_in_nI (by omega) (by decide), ?_⟩
        rw [nI_clamp (by omega)]
        rw [hl j (by omega)]
        repeat refine hX _ _ _ _ _ _ _ _ _ _ _ _ _ _ rfl ?_
        refine Or.inl ⟨_, _, c_hasX S d _ (nmask_lt64 hnp _) (by omega), ?_⟩
        rw [nmask_bit]
        simp only [hp, decide_true, Bool.true_and]
        repeat refine hX _ _ _ _ _ _ _ _ _ _ _ _ _ _ rfl ?_
        have h7 := ih (j + 1) (by omega)
        rw [aCnt] at h7
        cases hb : (nCl N p).testBit j with
        | false =>
          refine br_t (show b2i false = 0 from rfl) ?_
          iterate 2 (refine hX _ _ _ _ _ _ _ _ _ _ _ _ _ _ rfl ?_)
          rw [nI_1]
          rw [hb] at h7
          exact h7
        | true =>
          refine br_f (show ¬ b2i true = 0 by decide) ?_
          iterate 3 (refine hX _ _ _ _ _ _ _ _ _ _ _ _ _ _ rfl ?_)
          rw [nI_1, nI_1]
          rw [hb] at h7
          exact h7
    iterate 4 (refine hX _ _ _ _ _ _ _ _ _ _ _ _ _ _ rfl ?_)
    exact loop 6 0 (by omega)
end CR
end
section
theorem c_offIn (S : zS) (d : Nat) (sw : Bool) (c : cS) (hm : List zC) {A : aT} {N : aN} (hA : TWf A) (hT : TRel (cTo c) A) (hN : NRel A (cSc c) N) {j y : Nat} (hj : j < aNs A) (hy : y < 10) : Ex S (d + 2) 0 0 72 [.ref 0, .int (nI j), .int (nI y)] (hC sw c, hm) (some (.int (nI (aOff A N j y)))) (hC sw c, hm) := by
  have hnp := hA.2.2.2.2.1
  have hw := c_wr S d sw c hm hA hT hN hj
  have hwl := aWr_lt hA N j
  have hsi := hA.2.2.1
  have hny := hA.2.1
  have hho := fun p hp => (hA.2.2.2.2.2.2 p hp).1
  obtain ⟨-, hs, -, hp, -, h6⟩ := hT
  cases sw
  case false =>
    (refine exI rfl rfl ?_; intro X hX)
    repeat refine hX _ _ _ _ _ _ _ _ _ _ _ _ _ _ rfl ?_
    refine Or.inl ⟨_, _, hw, ?_⟩
    have loop : ∀ (k i : Nat), i + k = aNp A → X 12 [some (.ref 0), some (.int (nI j)), some (.int (nI y)), some (.int (nI (aWr A N j))), some (.int (nI (aCnt (fun p => (aWr A N j).testBit p && aNear (aHo A p) y (aSi A)) i))), some (.int (nI i))] [] (hC false c, hm) 0 0 := by
      intro k
      induction k with
      | zero =>
        intro i hi
        repeat refine hX _ _ _ _ _ _ _ _ _ _ _ _ _ _ rfl ?_
        rw [hp]
        refine br_t (show nI (aNp A) ≤ nI i from nI_le (by omega) (by omega)) ?_
        repeat refine hX _ _ _ _ _ _ _ _ _ _ _ _ _ _ rfl ?_
        exact ⟨by rw [show i = aNp A by omega]; rfl, rfl⟩
      | succ k ih =>
        intro i hi
        repeat refine hX _ _ _ _ _ _ _ _ _ _ _ _ _ _ rfl ?_
        rw [hp]
        refine br_f (show ¬ nI (aNp A) ≤ nI i from nI_ge (by omega) (by omega)) ?_
        repeat refine hX _ _ _ _ _ _ _ _ _ _ _ _ _ _ rfl ?_
        refine Or.inl ⟨_, _, c_hasX S d _ hwl (by omega), ?_⟩
        repeat refine hX _ _ _ _ _ _ _ _ _ _ _ _ _ _ rfl ?_
        have h7 := ih (i + 1) (by omega)
        rw [aCnt] at h7
        cases hb : (aWr A N j).testBit i with
        | false =>
          refine br_t (show b2i false = 0 from rfl) ?_
          iterate 2 (refine hX _ _ _ _ _ _ _ _ _ _ _ _ _ _ rfl ?_)
          rw [nI_1]
          rw [hb] at h7
          exact h7
        | true =>
          refine br_f (show ¬ b2i true = 0 by decide) ?_
          repeat refine hX _ _ _ _ _ _ _ _ _ _ _ _ _ _ rfl ?_
          refine ⟨vp_in_nI (by omega) (by decide), ?_⟩
          rw [nI_clamp (by omega)]
          rw [(h6 i (by omega)).1]
          repeat refine hX _ _ _ _ _ _ _ _ _ _ _ _ _ _ rfl ?_
          refine Or.inl ⟨_, _, j_abs S d _ _, ?_⟩
          repeat refine hX _ _ _ _ _ _ _ _ _ _ _ _ _ _ rfl ?_
          rw [hs]
          have hq := q_near (aHo A i) (by have := hho i (by omega); omega) y hy (aSi A) (by omega)
          rw [hb, Bool.true_and] at h7
          cases hn : aNear (aHo A i) y (aSi A) with
          | false =>
            rw [hn] at hq h7
            refine br_t (show nI (aSi A) < jabs (nI (aHo A i) - nI y) from of_decide_eq_true hq) ?_
            iterate 2 (refine hX _ _ _ _ _ _ _ _ _ _ _ _ _ _ rfl ?_)
            rw [nI_1]
            exact h7
          | true =>
            rw [hn] at hq h7
            refine br_f (show ¬ nI (aSi A) < jabs (nI (aHo A i) - nI y) from of_decide_eq_false hq) ?_
            iterate 3 (refine hX _ _ _ _ _ _ _ _ _ _ _ _ _ _ rfl ?_)
            rw [nI_1, nI_1]
            exact h7
    iterate 5 (refine hX _ _ _ _ _ _ _ _ _ _ _ _ _ _ rfl ?_)
    exact loop (aNp A) 0 (by omega)
  case true =>
    (refine exI rfl rfl ?_; intro X hX)
    repeat refine hX _ _ _ _ _ _ _ _ _ _ _ _ _ _ rfl ?_
    refine Or.inl ⟨_, _, hw, ?_⟩
    have loop : ∀ (k i : Nat), i + k = aNp A → X 12 [some (.ref 0), some (.int (nI j)), some (.int (nI y)), some (.int (nI (aWr A N j))), some (.int (nI (aCnt (fun p => (aWr A N j).testBit p && aNear (aHo A p) y (aSi A)) i))), some (.int (nI i))] [] (hC true c, hm) 0 0 := by
      intro k
      induction k with
      | zero =>
        intro i hi
        repeat refine hX _ _ _ _ _ _ _ _ _ _ _ _ _ _ rfl ?_
        rw [hp]
        refine br_t (show nI (aNp A) ≤ nI i from nI_le (by omega) (by omega)) ?_
        repeat refine hX _ _ _ _ _ _ _ _ _ _ _ _ _ _ rfl ?_
        exact ⟨by rw [show i = aNp A by omega]; rfl, rfl⟩
      | succ k ih =>
        intro i hi
        repeat refine hX _ _ _ _ _ _ _ _ _ _ _ _ _ _ rfl ?_
        rw [hp]
        refine br_f (show ¬ nI (aNp A) ≤ nI i from nI_ge (by omega) (by omega)) ?_
        repeat refine hX _ _ _ _ _ _ _ _ _ _ _ _ _ _ rfl ?_
        refine Or.inl ⟨_, _, c_hasX S d _ hwl (by omega), ?_⟩
        repeat refine hX _ _ _ _ _ _ _ _ _ _ _ _ _ _ rfl ?_
        have h7 := ih (i + 1) (by omega)
        rw [aCnt] at h7
        cases hb : (aWr A N j).testBit i with
        | false =>
          refine br_t (show b2i false = 0 from rfl) ?_
          iterate 2 (refine hX _ _ _ _ _ _ _ _ _ _ _ _ _ _ rfl ?_)
          rw [nI_1]
          rw [hb] at h7
          exact h7
        | true =>
          refine br_f (show ¬ b2i true = 0 by decide) ?_
          repeat refine hX _ _ _ _ _ _ _ _ _ _ _ _ _ _ rfl ?_
          refine ⟨vp_in_nI (by omega) (by decide), ?_⟩
          rw [nI_clamp (by omega)]
          rw [(h6 i (by omega)).1]
          repeat refine hX _ _ _ _ _ _ _ _ _ _ _ _ _ _ rfl ?_
          refine Or.inl ⟨_, _, j_abs S d _ _, ?_⟩
          repeat refine hX _ _ _ _ _ _ _ _ _ _ _ _ _ _ rfl ?_
          rw [hs]
          have hq := q_near (aHo A i) (by have := hho i (by omega); omega) y hy (aSi A) (by omega)
          rw [hb, Bool.true_and] at h7
          cases hn : aNear (aHo A i) y (aSi A) with
          | false =>
            rw [hn] at hq h7
            refine br_t (show nI (aSi A) < jabs (nI (aHo A i) - nI y) from of_decide_eq_true hq) ?_
            iterate 2 (refine hX _ _ _ _ _ _ _ _ _ _ _ _ _ _ rfl ?_)
            rw [nI_1]
            exact h7
          | true =>
            rw [hn] at hq h7
            refine br_f (show ¬ nI (aSi A) < jabs (nI (aHo A i) - nI y) from of_decide_eq_false hq) ?_
            iterate 3 (refine hX _ _ _ _ _ _ _ _ _ _ _ _ _ _ rfl ?_)
            rw [nI_1, nI_1]
            exact h7
    iterate 5 (refine hX _ _ _ _ _ _ _ _ _ _ _ _ _ _ rfl ?_)
    exact loop (aNp A) 0 (by omega)
theorem aPlc_lt {A : aT} (hA : TWf A) {N : aN} (hW : NWf A N) {j : Nat} (hj : j < aNs A) : ∀ y, y ≤ aNy A → (aPlc A N j y).1 < aNy A ∧ (aPlc A N j y).2 ≤ 7
  | 0, _ => ⟨hW.2.1 j hj, Nat.le_refl _⟩
  | y + 1, h => by
    have ih := aPlc_lt hA hW hj y (by omega)
    have ho := aOff_le hA N j y
    rw [aPlc]
    cases (aCan A N j y && decide (aOff A N j y < (aPlc A N j y).2)) with
    | false => exact ih
    | true => exact ⟨by show y < _; omega, by show aOff A N j y ≤ 7; omega⟩
/-- the class's test: nobody there, or he himself -/
theorem aSin_self {A : aT} (hA : TWf A) {N : aN} (hW : NWf A N) {j y : Nat} (hj : j < aNs A) (hy : y < 10) : aSin A N (nI y) = nI j ↔ nYa N j = y := by
  have hns := hA.2.2.2.1
  have hny := hA.2.1
  constructor
  · intro h
    rcases aFst_cases (f := nYa N) (y := nI y) (aNs A) 0 with h1 | ⟨k, h1, h2, h3, h4⟩
    · exact absurd (h.symm.trans h1) (n9 j (by omega))
    · have := (nI_eq (by omega) (by omega)).mp (h3.symm.trans h)
      subst this
      have := hW.2.1 k (by omega)
      exact (nI_eq (by omega) (by omega)).mp h4
  · intro h
    rcases aFst_cases (f := nYa N) (y := nI y) (aNs A) 0 with h1 | ⟨k, h1, h2, h3, h4⟩
    · exact absurd (congrArg nI h) (aFst_none (aNs A) 0 (by omega) h1 j (by omega) (by omega))
    · have h5 := hW.2.1 k (by omega)
      have h6 := (nI_eq (by omega) (by omega)).mp h4
      rw [hW.2.2.1 j hj k (by omega) (by omega)]
      exact h3
theorem c_placeOf (S : zS) (d : Nat) (sw : Bool) (c : cS) (hm : List zC) {A : aT} {N : aN} (hA : TWf A) (hT : TRel (cTo c) A) (hW : NWf A N) (hN : NRel A (cSc c) N) {j : Nat} (hj : j < aNs A) : Ex S (d + 3) 0 0 73 [.ref 0, .int (nI j)] (hC sw c, hm) (some (.int (nI (aPlc A N j (aNy A)).1))) (hC sw c, hm) := by
  have hns := hA.2.2.2.1
  have hny := hA.2.1
  have hoff := fun y (h : y < 10) => c_offIn S d sw c hm hA hT hN hj h
  have hin := fun y => c_statueIn S (d + 1) sw c hm hA hT hN y
  have hol := fun y => aOff_le hA N j y
  have hpl := fun y hy => aPlc_lt hA hW hj y hy
  have hyj := hN.2.1 j hj
  have hYt := hT.1
  cases sw
  case false =>
    (refine exI rfl rfl ?_; intro X hX)
    have loop : ∀ (k i : Nat) (v5 v6 : Option Value), i + k = aNy A → ((v5 = none ∧ v6 = none) ∨ ∃ a b, v5 = some (.int a) ∧ v6 = some (.int b)) → X 16 [some (.ref 0), some (.int (nI j)), some (.int (nI (aPlc A N j i).1)), some (.int (nI (aPlc A N j i).2)), some (.int (nI i)), v5, v6] [] (hC false c, hm) 0 0 := by
      intro k
      induction k with
      | zero =>
        intro i v5 v6 hi h5
        repeat refine hX _ _ _ _ _ _ _ _ _ _ _ _ _ _ rfl ?_
        rw [hYt]
        refine br_t (show nI (aNy A) ≤ nI i from nI_le (by omega) (by omega)) ?_
        repeat refine hX _ _ _ _ _ _ _ _ _ _ _ _ _ _ rfl ?_
        exact ⟨by rw [show i = aNy A by omega], rfl⟩
      | succ k ih =>
        intro i v5 v6 hi h5
        have hl := (hpl i (by omega)).2
        have ho := hol i
        have h7 := ih (i + 1) (some (.int (aSin A N (nI i)))) (some (.int (nI (aOff A N j i)))) (by omega) (Or.inr ⟨_, _, rfl, rfl⟩)
        rw [aPlc] at h7
        have h70 : (aCan A N j i && decide (aOff A N j i < (aPlc A N j i).2)) = false → X 70 [some (.ref 0), some (.int (nI j)), some (.int (nI (aPlc A N j i).1)), some (.int (nI (aPlc A N j i).2)), some (.int (nI i)), some (.int (aSin A N (nI i))), some (.int (nI (aOff A N j i)))] [] (hC false c, hm) 0 0 := by
          intro hb
          rw [hb] at h7
          iterate 2 (refine hX _ _ _ _ _ _ _ _ _ _ _ _ _ _ rfl ?_)
          rw [nI_1]
          exact h7
        have h58 : aCan A N j i = true → X 58 [some (.ref 0), some (.int (nI j)), some (.int (nI (aPlc A N j i).1)), some (.int (nI (aPlc A N j i).2)), some (.int (nI i)), some (.int (aSin A N (nI i))), some (.int (nI (aOff A N j i)))] [] (hC false c, hm) 0 0 := by
          intro hb
          repeat refine hX _ _ _ _ _ _ _ _ _ _ _ _ _ _ rfl ?_
          by_cases hlt : aOff A N j i < (aPlc A N j i).2
          · refine br_f (show ¬ nI (aPlc A N j i).2 ≤ nI (aOff A N j i) from nI_ge hlt (by omega)) ?_
            iterate 6 (refine hX _ _ _ _ _ _ _ _ _ _ _ _ _ _ rfl ?_)
            rw [nI_1]
            rw [hb, decide_eq_true hlt] at h7
            exact h7
          · refine br_t (show nI (aPlc A N j i).2 ≤ nI (aOff A N j i) from nI_le (by omega) (by omega)) ?_
            exact h70 (by rw [decide_eq_false hlt, Bool.and_false])
        have hrest : X 45 [some (.ref 0), some (.int (nI j)), some (.int (nI (aPlc A N j i).1)), some (.int (nI (aPlc A N j i).2)), some (.int (nI i)), some (.int (aSin A N (nI i))), some (.int (nI (aOff A N j i)))] [] (hC false c, hm) 0 0 := by
          repeat refine hX _ _ _ _ _ _ _ _ _ _ _ _ _ _ rfl ?_
          by_cases hz : aSin A N (nI i) = -9
          · refine br_t (show aSin A N (nI i) = -9 from hz) ?_
            exact h58 (by rw [aCan, decide_eq_true hz, Bool.true_or])
          · refine br_f (show ¬ aSin A N (nI i) = -9 from hz) ?_
            repeat refine hX _ _ _ _ _ _ _ _ _ _ _ _ _ _ rfl ?_
            by_cases hs : aSin A N (nI i) = nI j
            · refine br_f (show ¬ ¬ aSin A N (nI i) = nI j from fun h9 => h9 hs) ?_
              exact h58 (by rw [aCan, decide_eq_true ((aSin_self hA hW hj (by omega)).mp hs), Bool.or_true])
            · refine br_t (show ¬ aSin A N (nI i) = nI j from hs) ?_
              exact h70 (by rw [aCan, decide_eq_false hz, decide_eq_false (fun h9 => hs ((aSin_self hA hW hj (by omega)).mpr h9))]; rfl)
        rcases h5 with ⟨rfl, rfl⟩ | ⟨a, b, rfl, rfl⟩
        all_goals
          repeat refine hX _ _ _ _ _ _ _ _ _ _ _ _ _ _ rfl ?_
          rw [hYt]
          refine br_f (show ¬ nI (aNy A) ≤ nI i from nI_ge (by omega) (by omega)) ?_
          repeat refine hX _ _ _ _ _ _ _ _ _ _ _ _ _ _ rfl ?_
          refine Or.inl ⟨_, _, hin (nI i), ?_⟩
          repeat refine hX _ _ _ _ _ _ _ _ _ _ _ _ _ _ rfl ?_
          refine Or.inl ⟨_, _, hoff i (by omega), ?_⟩
          iterate 1 (refine hX _ _ _ _ _ _ _ _ _ _ _ _ _ _ rfl ?_)
          exact hrest
    repeat refine hX _ _ _ _ _ _ _ _ _ _ _ _ _ _ rfl ?_
    refine ⟨vp_in_nI (by omega) (by decide), ?_⟩
    rw [nI_clamp (by omega)]
    rw [hyj]
    iterate 5 (refine hX _ _ _ _ _ _ _ _ _ _ _ _ _ _ rfl ?_)
    exact loop (aNy A) 0 none none (by omega) (Or.inl ⟨rfl, rfl⟩)
  case true =>
    (refine exI rfl rfl ?_; intro X hX)
    have loop : ∀ (k i : Nat) (v5 v6 : Option Value), i + k = aNy A → ((v5 = none ∧ v6 = none) ∨ ∃ a b, v5 = some (.int a) ∧ v6 = some (.int b)) → X 16 [some (.ref 0), some (.int (nI j)), some (.int (nI (aPlc A N j i).1)), some (.int (nI (aPlc A N j i).2)), some (.int (nI i)), v5, v6] [] (hC true c, hm) 0 0 := by
      intro k
      induction k with
      | zero =>
        intro i v5 v6 hi h5
        repeat refine hX _ _ _ _ _ _ _ _ _ _ _ _ _ _ rfl ?_
        rw [hYt]
        refine br_t (show nI (aNy A) ≤ nI i from nI_le (by omega) (by omega)) ?_
        repeat refine hX _ _ _ _ _ _ _ _ _ _ _ _ _ _ rfl ?_
        exact ⟨by rw [show i = aNy A by omega], rfl⟩
      | succ k ih =>
        intro i v5 v6 hi h5
        have hl := (hpl i (by omega)).2
        have ho := hol i
        have h7 := ih (i + 1) (some (.int (aSin A N (nI i)))) (some (.int (nI (aOff A N j i)))) (by omega) (Or.inr ⟨_, _, rfl, rfl⟩)
        rw [aPlc] at h7
        have h70 : (aCan A N j i && decide (aOff A N j i < (aPlc A N j i).2)) = false → X 70 [some (.ref 0), some (.int (nI j)), some (.int (nI (aPlc A N j i).1)), some (.int (nI (aPlc A N j i).2)), some (.int (nI i)), some (.int (aSin A N (nI i))), some (.int (nI (aOff A N j i)))] [] (hC true c, hm) 0 0 := by
          intro hb
          rw [hb] at h7
          iterate 2 (refine hX _ _ _ _ _ _ _ _ _ _ _ _ _ _ rfl ?_)
          rw [nI_1]
          exact h7
        have h58 : aCan A N j i = true → X 58 [some (.ref 0), some (.int (nI j)), some (.int (nI (aPlc A N j i).1)), some (.int (nI (aPlc A N j i).2)), some (.int (nI i)), some (.int (aSin A N (nI i))), some (.int (nI (aOff A N j i)))] [] (hC true c, hm) 0 0 := by
          intro hb
          repeat refine hX _ _ _ _ _ _ _ _ _ _ _ _ _ _ rfl ?_
          by_cases hlt : aOff A N j i < (aPlc A N j i).2
          · refine br_f (show ¬ nI (aPlc A N j i).2 ≤ nI (aOff A N j i) from nI_ge hlt (by omega)) ?_
            iterate 6 (refine hX _ _ _ _ _ _ _ _ _ _ _ _ _ _ rfl ?_)
            rw [nI_1]
            rw [hb, decide_eq_true hlt] at h7
            exact h7
          · refine br_t (show nI (aPlc A N j i).2 ≤ nI (aOff A N j i) from nI_le (by omega) (by omega)) ?_
            exact h70 (by rw [decide_eq_false hlt, Bool.and_false])
        have hrest : X 45 [some (.ref 0), some (.int (nI j)), some (.int (nI (aPlc A N j i).1)), some (.int (nI (aPlc A N j i).2)), some (.int (nI i)), some (.int (aSin A N (nI i))), some (.int (nI (aOff A N j i)))] [] (hC true c, hm) 0 0 := by
          repeat refine hX _ _ _ _ _ _ _ _ _ _ _ _ _ _ rfl ?_
          by_cases hz : aSin A N (nI i) = -9
          · refine br_t (show aSin A N (nI i) = -9 from hz) ?_
            exact h58 (by rw [aCan, decide_eq_true hz, Bool.true_or])
          · refine br_f (show ¬ aSin A N (nI i) = -9 from hz) ?_
            repeat refine hX _ _ _ _ _ _ _ _ _ _ _ _ _ _ rfl ?_
            by_cases hs : aSin A N (nI i) = nI j
            · refine br_f (show ¬ ¬ aSin A N (nI i) = nI j from fun h9 => h9 hs) ?_
              exact h58 (by rw [aCan, decide_eq_true ((aSin_self hA hW hj (by omega)).mp hs), Bool.or_true])
            · refine br_t (show ¬ aSin A N (nI i) = nI j from hs) ?_
              exact h70 (by rw [aCan, decide_eq_false hz, decide_eq_false (fun h9 => hs ((aSin_self hA hW hj (by omega)).mpr h9))]; rfl)
        rcases h5 with ⟨rfl, rfl⟩ | ⟨a, b, rfl, rfl⟩
        all_goals
          repeat refine hX _ _ _ _ _ _ _ _ _ _ _ _ _ _ rfl ?_
          rw [hYt]
          refine br_f (show ¬ nI (aNy A) ≤ nI i from nI_ge (by omega) (by omega)) ?_
          repeat refine hX _ _ _ _ _ _ _ _ _ _ _ _ _ _ rfl ?_
          refine Or.inl ⟨_, _, hin (nI i), ?_⟩
          repeat refine hX _ _ _ _ _ _ _ _ _ _ _ _ _ _ rfl ?_
          refine Or.inl ⟨_, _, hoff i (by omega), ?_⟩
          iterate 1 (refine hX _ _ _ _ _ _ _ _ _ _ _ _ _ _ rfl ?_)
          exact hrest
    repeat refine hX _ _ _ _ _ _ _ _ _ _ _ _ _ _ rfl ?_
    refine ⟨vp_in_nI (by omega) (by decide), ?_⟩
    rw [nI_clamp (by omega)]
    rw [hyj]
    iterate 5 (refine hX _ _ _ _ _ _ _ _ _ _ _ _ _ _ rfl ?_)
    exact loop (aNy A) 0 none none (by omega) (Or.inl ⟨rfl, rfl⟩)
theorem c_moving (S : zS) (d : Nat) (sw : Bool) (c : cS) (hm : List zC) {A : aT} {N : aN} (hA : TWf A) (hT : TRel (cTo c) A) (hW : NWf A N) (hN : NRel A (cSc c) N) : Ex S (d + 5) 0 0 67 [.ref 0] (hC sw c, hm) (some (.int (nI (aMvs A N)))) (hC sw c, hm) := by
  have hns := hA.2.2.2.1
  have hmv := fun j (hj : j < aNs A) => c_moves S d sw c hm hA hT hW hN hj
  obtain ⟨-, -, hn, -, -, -⟩ := hT
  cases sw
  case false =>
    (refine exI rfl rfl ?_; intro X hX)
    have loop : ∀ (k j : Nat), j + k = aNs A → X 4 [some (.ref 0), some (.int (nI (nmask j (aMov A N)))), some (.int (nI j))] [] (hC false c, hm) 0 0 := by
      intro k
      induction k with
      | zero =>
        intro j hj
        repeat refine hX _ _ _ _ _ _ _ _ _ _ _ _ _ _ rfl ?_
        rw [hn]
        refine br_t (show nI (aNs A) ≤ nI j from nI_le (by omega) (by omega)) ?_
        repeat refine hX _ _ _ _ _ _ _ _ _ _ _ _ _ _ rfl ?_
        exact ⟨by rw [show j = aNs A by omega]; rfl, rfl⟩
      | succ k ih =>
        intro j hj
        repeat refine hX _ _ _ _ _ _ _ _ _ _ _ _ _ _ rfl ?_
        rw [hn]
        refine br_f (show ¬ nI (aNs A) ≤ nI j from nI_ge (by omega) (by omega)) ?_
        repeat refine hX _ _ _ _ _ _ _ _ _ _ _ _ _ _ rfl ?_
        refine Or.inl ⟨_, _, hmv j (by omega), ?_⟩
        repeat refine hX _ _ _ _ _ _ _ _ _ _ _ _ _ _ rfl ?_
        have h7 := ih (j + 1) (by omega)
        rw [nmask] at h7
        cases hb : aMov A N j with
        | false =>
          refine br_t (show b2i false = 0 from rfl) ?_
          iterate 2 (refine hX _ _ _ _ _ _ _ _ _ _ _ _ _ _ rfl ?_)
          rw [nI_1]
          rw [hb] at h7
          exact h7
        | true =>
          refine br_f (show ¬ b2i true = 0 by decide) ?_
          iterate 8 (refine hX _ _ _ _ _ _ _ _ _ _ _ _ _ _ rfl ?_)
          rw [nI_1, q_shl j (by omega), nI_or, nmask_set]
          rw [hb] at h7
          exact h7
    iterate 4 (refine hX _ _ _ _ _ _ _ _ _ _ _ _ _ _ rfl ?_)
    exact loop (aNs A) 0 (by omega)
  case true =>
    (refine exI rfl rfl ?_; intro X hX)
    have loop : ∀ (k j : Nat), j + k = aNs A → X 4 [some (.ref 0), some (.int (nI (nmask j (aMov A N)))), some (.int (nI j))] [] (hC true c, hm) 0 0 := by
      intro k
      induction k with
      | zero =>
        intro j hj
        repeat refine hX _ _ _ _ _ _ _ _ _ _ _ _ _ _ rfl ?_
        rw [hn]
        refine br_t (show nI (aNs A) ≤ nI j from nI_le (by omega) (by omega)) ?_
        repeat refine hX _ _ _ _ _ _ _ _ _ _ _ _ _ _ rfl ?_
        exact ⟨by rw [show j = aNs A by omega]; rfl, rfl⟩
      | succ k ih =>
        intro j hj
        repeat refine hX _ _ _ _ _ _ _ _ _ _ _ _ _ _ rfl ?_
        rw [hn]
        refine br_f (show ¬ nI (aNs A) ≤ nI j from nI_ge (by omega) (by omega)) ?_
        repeat refine hX _ _ _ _ _ _ _ _ _ _ _ _ _ _ rfl ?_
        refine Or.inl ⟨_, _, hmv j (by omega), ?_⟩
        repeat refine hX _ _ _ _ _ _ _ _ _ _ _ _ _ _ rfl ?_
        have h7 := ih (j + 1) (by omega)
        rw [nmask] at h7
        cases hb : aMov A N j with
        | false =>
          refine br_t (show b2i false = 0 from rfl) ?_
          iterate 2 (refine hX _ _ _ _ _ _ _ _ _ _ _ _ _ _ rfl ?_)
          rw [nI_1]
          rw [hb] at h7
          exact h7
        | true =>
          refine br_f (show ¬ b2i true = 0 by decide) ?_
          iterate 8 (refine hX _ _ _ _ _ _ _ _ _ _ _ _ _ _ rfl ?_)
          rw [nI_1, q_shl j (by omega), nI_or, nmask_set]
          rw [hb] at h7
          exact h7
    iterate 4 (refine hX _ _ _ _ _ _ _ _ _ _ _ _ _ _ rfl ?_)
    exact loop (aNs A) 0 (by omega)
theorem c_emptyY (S : zS) (d : Nat) (sw : Bool) (c : cS) (hm : List zC) {A : aT} {N : aN} (hA : TWf A) (hT : TRel (cTo c) A) (hN : NRel A (cSc c) N) : Ex S (d + 2) 0 0 70 [.ref 0] (hC sw c, hm) (some (.int (nI (aEmp A N)))) (hC sw c, hm) := by
  have hny := hA.2.1
  have hin := fun y => c_statueIn S d sw c hm hA hT hN y
  obtain ⟨hn, -, -, -, -, -⟩ := hT
  cases sw
  case false =>
    (refine exI rfl rfl ?_; intro X hX)
    have loop : ∀ (k j : Nat), j + k = aNy A → X 4 [some (.ref 0), some (.int (nI (nmask j (fun y => decide (aSin A N (nI y) = -9))))), some (.int (nI j))] [] (hC false c, hm) 0 0 := by
      intro k
      induction k with
      | zero =>
        intro j hj
        repeat refine hX _ _ _ _ _ _ _ _ _ _ _ _ _ _ rfl ?_
        rw [hn]
        refine br_t (show nI (aNy A) ≤ nI j from nI_le (by omega) (by omega)) ?_
        repeat refine hX _ _ _ _ _ _ _ _ _ _ _ _ _ _ rfl ?_
        exact ⟨by rw [show j = aNy A by omega]; rfl, rfl⟩
      | succ k ih =>
        intro j hj
        repeat refine hX _ _ _ _ _ _ _ _ _ _ _ _ _ _ rfl ?_
        rw [hn]
        refine br_f (show ¬ nI (aNy A) ≤ nI j from nI_ge (by omega) (by omega)) ?_
        repeat refine hX _ _ _ _ _ _ _ _ _ _ _ _ _ _ rfl ?_
        refine Or.inl ⟨_, _, hin (nI j), ?_⟩
        repeat refine hX _ _ _ _ _ _ _ _ _ _ _ _ _ _ rfl ?_
        have h7 := ih (j + 1) (by omega)
        rw [nmask] at h7
        by_cases hb : aSin A N (nI j) = -9
        · refine br_f (show ¬ ¬ aSin A N (nI j) = -9 from fun h9 => h9 hb) ?_
          iterate 8 (refine hX _ _ _ _ _ _ _ _ _ _ _ _ _ _ rfl ?_)
          rw [nI_1, q_shl j (by omega), nI_or, nmask_set]
          rw [decide_eq_true hb] at h7
          exact h7
        · refine br_t (show ¬ aSin A N (nI j) = -9 from hb) ?_
          iterate 2 (refine hX _ _ _ _ _ _ _ _ _ _ _ _ _ _ rfl ?_)
          rw [nI_1]
          rw [decide_eq_false hb] at h7
          exact h7
    iterate 4 (refine hX _ _ _ _ _ _ _ _ _ _ _ _ _ _ rfl ?_)
    exact loop (aNy A) 0 (by omega)
  case true =>
    (refine exI rfl rfl ?_; intro X hX)
    have loop : ∀ (k j : Nat), j + k = aNy A → X 4 [some (.ref 0), some (.int (nI (nmask j (fun y => decide (aSin A N (nI y) = -9))))), some (.int (nI j))] [] (hC true c, hm) 0 0 := by
      intro k
      induction k with
      | zero =>
        intro j hj
        repeat refine hX _ _ _ _ _ _ _ _ _ _ _ _ _ _ rfl ?_
        rw [hn]
        refine br_t (show nI (aNy A) ≤ nI j from nI_le (by omega) (by omega)) ?_
        repeat refine hX _ _ _ _ _ _ _ _ _ _ _ _ _ _ rfl ?_
        exact ⟨by rw [show j = aNy A by omega]; rfl, rfl⟩
      | succ k ih =>
        intro j hj
        repeat refine hX _ _ _ _ _ _ _ _ _ _ _ _ _ _ rfl ?_
        rw [hn]
        refine br_f (show ¬ nI (aNy A) ≤ nI j from nI_ge (by omega) (by omega)) ?_
        repeat refine hX _ _ _ _ _ _ _ _ _ _ _ _ _ _ rfl ?_
        refine Or.inl ⟨_, _, hin (nI j), ?_⟩
        repeat refine hX _ _ _ _ _ _ _ _ _ _ _ _ _ _ rfl ?_
        have h7 := ih (j + 1) (by omega)
        rw [nmask] at h7
        by_cases hb : aSin A N (nI j) = -9
        · refine br_f (show ¬ ¬ aSin A N (nI j) = -9 from fun h9 => h9 hb) ?_
          iterate 8 (refine hX _ _ _ _ _ _ _ _ _ _ _ _ _ _ rfl ?_)
          rw [nI_1, q_shl j (by omega), nI_or, nmask_set]
          rw [decide_eq_true hb] at h7
          exact h7
        · refine br_t (show ¬ aSin A N (nI j) = -9 from hb) ?_
          iterate 2 (refine hX _ _ _ _ _ _ _ _ _ _ _ _ _ _ rfl ?_)
          rw [nI_1]
          rw [decide_eq_false hb] at h7
          exact h7
    iterate 4 (refine hX _ _ _ _ _ _ _ _ _ _ _ _ _ _ rfl ?_)
    exact loop (aNy A) 0 (by omega)
end
section
/-! ===== the whole of what both hold ===== -/
abbrev aS : Type := aT × aN × Nat × aF × Nat × (Nat → aN) × (Nat → Bool) × (Nat → aN) × Nat × aF × aF × Int64
abbrev sT (a : aS) : aT := a.1
abbrev sN (a : aS) : aN := a.2.1
abbrev sLen (a : aS) : Nat := a.2.2.1
abbrev sTx (a : aS) : aF := a.2.2.2.1
abbrev sK (a : aS) : Nat := a.2.2.2.2.1
abbrev sH (a : aS) : Nat → aN := a.2.2.2.2.2.1
abbrev sKe (a : aS) : Nat → Bool := a.2.2.2.2.2.2.1
abbrev sIm (a : aS) : Nat → aN := a.2.2.2.2.2.2.2.1
abbrev sQ (a : aS) : Nat := a.2.2.2.2.2.2.2.2.1
abbrev sOf (a : aS) : aF := a.2.2.2.2.2.2.2.2.2.1
abbrev sIs (a : aS) : aF := a.2.2.2.2.2.2.2.2.2.2.1
abbrev sTr (a : aS) : Int64 := a.2.2.2.2.2.2.2.2.2.2.2
abbrev mkA (T : aT) (N : aN) (n : Nat) (tx : aF) (k : Nat) (H : Nat → aN) (ke : Nat → Bool) (im : Nat → aN) (q : Nat) (o i : aF) (tr : Int64) : aS := (T, N, n, tx, k, H, ke, im, q, o, i, tr)
def AWf (a : aS) : Prop := TWf (sT a) ∧ NWf (sT a) (sN a) ∧ (sLen a ≤ 150 ∧ ∀ i, i < sLen a → sTx a i < 256) ∧ (sK a ≤ 10 ∧ ∀ j, j < sK a → NWf (sT a) (sH a j)) ∧ (∀ i, i < 2 → sKe a i = true → NWf (sT a) (sIm a i)) ∧ (sQ a ≤ 6 ∧ ∀ i, i < sQ a → sOf a i < aNs (sT a) ∧ sIs a i < 2)
/-- what undoing a deed does to a scene -/
def tb (dd t e : Int32) (n : cN) : cN :=
  if dd = 0 then (nCome n &&& ((1 <<< (t &&& 31)) ^^^ (-1)), nYardOf n, nClaimed n)
  else if dd = 1 then (nCome n ||| (1 <<< (t &&& 31)), nYardOf n, nClaimed n)
  else if dd = 2 then (nCome n, nYardOf n, upd (nClaimed n) t.toNatClampNeg (nClaimed n t.toNatClampNeg &&& ((1 <<< (e &&& 31)) ^^^ (-1))))
  else (nCome n, upd (nYardOf n) t.toNatClampNeg e, nClaimed n)
/-- a deed that leads from N to N' -/
def DRel (A : aT) (dd t e : Int32) (N N' : aN) : Prop := vp_in t 6 ∧ ∀ n : cN, NRel A n N' → NRel A (tb dd t e n) N
def hx (a : aS) (j : Nat) : aN := if j < sK a then sH a j else sN a
def CRel (c : cS) (a : aS) : Prop := TRel (cTo c) (sT a) ∧ NRel (sT a) (cSc c) (sN a) ∧ (rLetters (cRd c) = nI (sLen a) ∧ ∀ i, i < sLen a → rText (cRd c) i = nI (sTx a i)) ∧ (pKnown (cPa c) = nI (sK a) ∧ ∀ j, j < sK a → DRel (sT a) (pDeed (cPa c) j) (pThing (cPa c) j) (pDetail (cPa c) j) (hx a j) (hx a (j + 1))) ∧ (∀ i, i < 2 → cKept c i = b2i (sKe a i)) ∧ (sKe a 0 = true → NRel (sT a) (cI0 c) (sIm a 0)) ∧ (sKe a 1 = true → NRel (sT a) (cI1 c) (sIm a 1)) ∧ (cSeen c = nI (sQ a) ∧ ∀ i, i < sQ a → cSeenS c i = nI (sOf a i) ∧ cSeenW c i = nI (sIs a i)) ∧ cTraced c = sTr a
def MTold (g : cF) (A : aT) : Prop := g 0 = nI (aNy A) ∧ g 1 = nI (aNs A) ∧ g 2 = nI (aNp A) ∧ g 3 = nI (aSi A) ∧ (∀ j, j < aNs A → g (4 + j) = nI (aWe A j) ∧ g (10 + j) = nI (aIn A j)) ∧ (∀ p, p < aNp A → g (16 + p) = nI (aHo A p) ∧ g (22 + p) = nI (aSt A p) ∧ g (28 + p) = nI (aCr A p) ∧ g (34 + p) = nI (aWg A p))
def MRow (A : aT) (f : cF) (o : Nat) (N : aN) : Prop := f (o + 6) = nI (nCo N) ∧ (∀ j, j < aNs A → f (o + j) = nI (nYa N j)) ∧ (∀ p, p < aNp A → f (o + 7 + p) = nI (pop (nCl N p)) ∧ f (o + 13 + p) = nI (nCl N p))
def MRel (m : mS) (a : aS) : Prop := MTold (mTold m) (sT a) ∧ MRow (sT a) (mNow m) 0 (sN a) ∧ (mLength m = nI (sLen a) ∧ ∀ i, i < sLen a → mText m i = nI (sTx a i)) ∧ (mUndo m = nI (sK a) ∧ ∀ j, j < sK a → MRow (sT a) (mBefore m) (19 * j) (sH a j)) ∧ (mImaged m = nI ((sKe a 0).toNat + 2 * (sKe a 1).toNat) ∧ ∀ i, i < 2 → sKe a i = true → MRow (sT a) (mImages m) (19 * i) (sIm a i)) ∧ (mSeen m = nI (sQ a) ∧ ∀ i, i < sQ a → mSeenOf m i = nI (sOf a i) ∧ mSeenIs m i = nI (sIs a i)) ∧ mTrace m = sTr a
end
section
/-! ===== the class: the calls that only read ===== -/
def spStatue (A : aT) (N : aN) (s w : Int32) : Int32 := bif inb s (aNs A) then sel w (-1) [(0, nI (nYa N s.toNatClampNeg)), (1, nI (aWe A s.toNatClampNeg)), (2, nI (aIn A s.toNatClampNeg)), (3, nI (aWr A N s.toNatClampNeg)), (4, nI (aPull A N s.toNatClampNeg)), (5, nI (aOff A N s.toNatClampNeg (nYa N s.toNatClampNeg))), (6, nI (aPlc A N s.toNatClampNeg (aNy A)).1)] else -1
theorem c_statue (S : zS) (d : Nat) (sw : Bool) (c : cS) (hm : List zC) {A : aT} {N : aN} (hA : TWf A) (hT : TRel (cTo c) A) (hW : NWf A N) (hN : NRel A (cSc c) N) (s w : Int32) : Ex S (d + 4) 0 0 41 [.ref 0, .int s, .int w] (hC sw c, hm) (some (.int (spStatue A N s w))) (hC sw c, hm) := by
  have hns := hA.2.2.2.1
  have hny := hA.2.1
  have hst := c_hasStatue S (d + 2) sw c hm hT.2.2.1 s
  have hwr := fun j (hj : j < aNs A) => c_wr S (d + 2) sw c hm hA hT hN hj
  have hpu := fun j (hj : j < aNs A) => c_pullAt S d sw c hm hA hT hW hN hj
  have hof := fun j (hj : j < aNs A) y (hy : y < 10) => c_offIn S (d + 1) sw c hm hA hT hN hj hy
  have hpl := fun j (hj : j < aNs A) => c_placeOf S d sw c hm hA hT hW hN hj
  have h5 := hT.2.2.2.2.1
  have h6 := hN.2.1
  unfold spStatue
  cases hin : inb s (aNs A) with
  | false =>
    rw [hin] at hst
    cases sw
    all_goals
      (refine exI rfl rfl ?_; intro X hX)
      repeat refine hX _ _ _ _ _ _ _ _ _ _ _ _ _ _ rfl ?_
      refine Or.inl ⟨_, _, hst, ?_⟩
      repeat refine hX _ _ _ _ _ _ _ _ _ _ _ _ _ _ rfl ?_
      refine br_f (show ¬ ¬ b2i false = 0 by decide) ?_
      repeat refine hX _ _ _ _ _ _ _ _ _ _ _ _ _ _ rfl ?_
      exact ⟨rfl, rfl⟩
  | true =>
    rw [hin] at hst
    obtain ⟨j, hj, rfl⟩ := inb_of hin (by omega)
    simp only [cond_true, nI_clamp (show j < 2 ^ 31 by omega)]
    cases sw
    all_goals
      (refine exI rfl rfl ?_; intro X hX)
      repeat refine hX _ _ _ _ _ _ _ _ _ _ _ _ _ _ rfl ?_
      refine Or.inl ⟨_, _, hst, ?_⟩
      repeat refine hX _ _ _ _ _ _ _ _ _ _ _ _ _ _ rfl ?_
      have hyj := hW.2.1 j hj
      refine br_t (show ¬ b2i true = 0 by decide) ?_
      repeat refine hX _ _ _ _ _ _ _ _ _ _ _ _ _ _ rfl ?_
      refine ⟨fun hw => ?_, fun h0 => ⟨fun hw => ?_, fun h1 => ⟨fun hw => ?_, fun h2 => ⟨fun hw => ?_, fun h3 => ⟨fun hw => ?_, fun h4 => ⟨fun hw => ?_, fun h5 => ⟨fun hw => ?_, fun h6 => ?_⟩⟩⟩⟩⟩⟩⟩
      · subst hw
        repeat refine hX _ _ _ _ _ _ _ _ _ _ _ _ _ _ rfl ?_
        refine ⟨vp_in_nI (by omega) (by decide), ?_⟩
        rw [nI_clamp (by omega)]
        rw [h6 j hj]
        repeat refine hX _ _ _ _ _ _ _ _ _ _ _ _ _ _ rfl ?_
        exact ⟨rfl, rfl⟩
      · subst hw
        repeat refine hX _ _ _ _ _ _ _ _ _ _ _ _ _ _ rfl ?_
        refine ⟨vp_in_nI (by omega) (by decide), ?_⟩
        rw [nI_clamp (by omega)]
        rw [(h5 j hj).1]
        repeat refine hX _ _ _ _ _ _ _ _ _ _ _ _ _ _ rfl ?_
        exact ⟨rfl, rfl⟩
      · subst hw
        repeat refine hX _ _ _ _ _ _ _ _ _ _ _ _ _ _ rfl ?_
        refine ⟨vp_in_nI (by omega) (by decide), ?_⟩
        rw [nI_clamp (by omega)]
        rw [(h5 j hj).2.1]
        repeat refine hX _ _ _ _ _ _ _ _ _ _ _ _ _ _ rfl ?_
        exact ⟨rfl, rfl⟩
      · subst hw
        repeat refine hX _ _ _ _ _ _ _ _ _ _ _ _ _ _ rfl ?_
        refine Or.inl ⟨_, _, hwr j hj, ?_⟩
        repeat refine hX _ _ _ _ _ _ _ _ _ _ _ _ _ _ rfl ?_
        exact ⟨rfl, rfl⟩
      · subst hw
        repeat refine hX _ _ _ _ _ _ _ _ _ _ _ _ _ _ rfl ?_
        refine Or.inl ⟨_, _, hpu j hj, ?_⟩
        repeat refine hX _ _ _ _ _ _ _ _ _ _ _ _ _ _ rfl ?_
        exact ⟨rfl, rfl⟩
      · subst hw
        repeat refine hX _ _ _ _ _ _ _ _ _ _ _ _ _ _ rfl ?_
        refine ⟨vp_in_nI (by omega) (by decide), ?_⟩
        rw [nI_clamp (by omega)]
        rw [h6 j hj]
        repeat refine hX _ _ _ _ _ _ _ _ _ _ _ _ _ _ rfl ?_
        refine Or.inl ⟨_, _, hof j hj _ (by omega), ?_⟩
        repeat refine hX _ _ _ _ _ _ _ _ _ _ _ _ _ _ rfl ?_
        exact ⟨rfl, rfl⟩
      · subst hw
        repeat refine hX _ _ _ _ _ _ _ _ _ _ _ _ _ _ rfl ?_
        refine Or.inl ⟨_, _, hpl j hj, ?_⟩
        repeat refine hX _ _ _ _ _ _ _ _ _ _ _ _ _ _ rfl ?_
        exact ⟨rfl, rfl⟩
      · repeat refine hX _ _ _ _ _ _ _ _ _ _ _ _ _ _ rfl ?_
        exact ⟨by simp only [sel]; rw [if_neg h0, if_neg h1, if_neg h2, if_neg h3, if_neg h4, if_neg h5, if_neg h6], rfl⟩
def spOne (A : aT) (N : aN) (s w : Int32) : Int32 := bif inb s (aNp A) then sel w (-1) [(0, nI (aHo A s.toNatClampNeg)), (1, nI (aSt A s.toNatClampNeg)), (2, nI (aCr A s.toNatClampNeg)), (3, nI (aWg A s.toNatClampNeg)), (4, b2i ((nCo N).testBit s.toNatClampNeg)), (5, nI (pop (nCl N s.toNatClampNeg)))] else -1
theorem c_one (S : zS) (d : Nat) (sw : Bool) (c : cS) (hm : List zC) {A : aT} {N : aN} (hA : TWf A) (hT : TRel (cTo c) A) (hW : NWf A N) (hN : NRel A (cSc c) N) (s w : Int32) : Ex S (d + 3) 0 0 42 [.ref 0, .int s, .int w] (hC sw c, hm) (some (.int (spOne A N s w))) (hC sw c, hm) := by
  have hnp := hA.2.2.2.2.1
  have hst := c_hasOne S (d + 1) sw c hm hT.2.2.2.1 s
  have htb := fun j (hj : j < aNp A) => c_timesB S d sw c hm hA hN hj
  have h5 := hT.2.2.2.2.2
  have h6 := hN.1
  have hco := nCo_lt hA hW
  unfold spOne
  cases hin : inb s (aNp A) with
  | false =>
    rw [hin] at hst
    cases sw
    all_goals
      (refine exI rfl rfl ?_; intro X hX)
      repeat refine hX _ _ _ _ _ _ _ _ _ _ _ _ _ _ rfl ?_
      refine Or.inl ⟨_, _, hst, ?_⟩
      repeat refine hX _ _ _ _ _ _ _ _ _ _ _ _ _ _ rfl ?_
      refine br_f (show ¬ ¬ b2i false = 0 by decide) ?_
      repeat refine hX _ _ _ _ _ _ _ _ _ _ _ _ _ _ rfl ?_
      exact ⟨rfl, rfl⟩
  | true =>
    rw [hin] at hst
    obtain ⟨j, hj, rfl⟩ := inb_of hin (by omega)
    simp only [cond_true, nI_clamp (show j < 2 ^ 31 by omega)]
    cases sw
    all_goals
      (refine exI rfl rfl ?_; intro X hX)
      repeat refine hX _ _ _ _ _ _ _ _ _ _ _ _ _ _ rfl ?_
      refine Or.inl ⟨_, _, hst, ?_⟩
      repeat refine hX _ _ _ _ _ _ _ _ _ _ _ _ _ _ rfl ?_
      refine br_t (show ¬ b2i true = 0 by decide) ?_
      repeat refine hX _ _ _ _ _ _ _ _ _ _ _ _ _ _ rfl ?_
      refine ⟨fun hw => ?_, fun h0 => ⟨fun hw => ?_, fun h1 => ⟨fun hw => ?_, fun h2 => ⟨fun hw => ?_, fun h3 => ⟨fun hw => ?_, fun h4 => ⟨fun hw => ?_, fun h5 => ?_⟩⟩⟩⟩⟩⟩
      · subst hw
        repeat refine hX _ _ _ _ _ _ _ _ _ _ _ _ _ _ rfl ?_
        refine ⟨vp_in_nI (by omega) (by decide), ?_⟩
        rw [nI_clamp (by omega)]
        rw [(h5 j hj).1]
        repeat refine hX _ _ _ _ _ _ _ _ _ _ _ _ _ _ rfl ?_
        exact ⟨rfl, rfl⟩
      · subst hw
        repeat refine hX _ _ _ _ _ _ _ _ _ _ _ _ _ _ rfl ?_
        refine ⟨vp_in_nI (by omega) (by decide), ?_⟩
        rw [nI_clamp (by omega)]
        rw [(h5 j hj).2.1]
        repeat refine hX _ _ _ _ _ _ _ _ _ _ _ _ _ _ rfl ?_
        exact ⟨rfl, rfl⟩
      · subst hw
        repeat refine hX _ _ _ _ _ _ _ _ _ _ _ _ _ _ rfl ?_
        refine ⟨vp_in_nI (by omega) (by decide), ?_⟩
        rw [nI_clamp (by omega)]
        rw [(h5 j hj).2.2.1]
        repeat refine hX _ _ _ _ _ _ _ _ _ _ _ _ _ _ rfl ?_
        exact ⟨rfl, rfl⟩
      · subst hw
        repeat refine hX _ _ _ _ _ _ _ _ _ _ _ _ _ _ rfl ?_
        refine ⟨vp_in_nI (by omega) (by decide), ?_⟩
        rw [nI_clamp (by omega)]
        rw [(h5 j hj).2.2.2]
        repeat refine hX _ _ _ _ _ _ _ _ _ _ _ _ _ _ rfl ?_
        exact ⟨rfl, rfl⟩
      · subst hw
        repeat refine hX _ _ _ _ _ _ _ _ _ _ _ _ _ _ rfl ?_
        rw [h6]
        refine Or.inl ⟨_, _, c_hasX S (d + 1) _ hco (by omega), ?_⟩
        repeat refine hX _ _ _ _ _ _ _ _ _ _ _ _ _ _ rfl ?_
        cases hb : (nCo N).testBit j with
        | false =>
          refine br_t (show b2i false = 0 from rfl) ?_
          repeat refine hX _ _ _ _ _ _ _ _ _ _ _ _ _ _ rfl ?_
          exact ⟨by simp only [sel]; rw [hb]; rfl, rfl⟩
        | true =>
          refine br_f (show ¬ b2i true = 0 by decide) ?_
          repeat refine hX _ _ _ _ _ _ _ _ _ _ _ _ _ _ rfl ?_
          exact ⟨by simp only [sel]; rw [hb]; rfl, rfl⟩
      · subst hw
        repeat refine hX _ _ _ _ _ _ _ _ _ _ _ _ _ _ rfl ?_
        refine Or.inl ⟨_, _, htb j hj, ?_⟩
        repeat refine hX _ _ _ _ _ _ _ _ _ _ _ _ _ _ rfl ?_
        exact ⟨rfl, rfl⟩
      · repeat refine hX _ _ _ _ _ _ _ _ _ _ _ _ _ _ rfl ?_
        exact ⟨by simp only [sel]; rw [if_neg h0, if_neg h1, if_neg h2, if_neg h3, if_neg h4, if_neg h5], rfl⟩
def spNow (a : aS) (w : Int32) : Int32 := sel w (-1) [(0, nI (nCo (sN a))), (1, nI (aMvs (sT a) (sN a))), (2, nI (aEmp (sT a) (sN a))), (3, nI (sK a))]
theorem c_now (S : zS) (d : Nat) (sw : Bool) (c : cS) (hm : List zC) {a : aS} (hA : AWf a) (hR : CRel c a) (w : Int32) : Ex S (d + 6) 0 0 43 [.ref 0, .int w] (hC sw c, hm) (some (.int (spNow a w))) (hC sw c, hm) := by
  have hmv := c_moving S d sw c hm hA.1 hR.1 hA.2.1 hR.2.1
  have hem := c_emptyY S (d + 3) sw c hm hA.1 hR.1 hR.2.1
  have g1 := hR.2.1.1
  have g2 := hR.2.2.2.1.1
  unfold spNow
  cases sw
  all_goals
    (refine exI rfl rfl ?_; intro X hX)
    repeat refine hX _ _ _ _ _ _ _ _ _ _ _ _ _ _ rfl ?_
    refine ⟨fun hw => ?_, fun h0 => ⟨fun hw => ?_, fun h1 => ⟨fun hw => ?_, fun h2 => ⟨fun hw => ?_, fun h3 => ?_⟩⟩⟩⟩
    · subst hw
      repeat refine hX _ _ _ _ _ _ _ _ _ _ _ _ _ _ rfl ?_
      rw [g1]
      exact ⟨rfl, rfl⟩
    · subst hw
      repeat refine hX _ _ _ _ _ _ _ _ _ _ _ _ _ _ rfl ?_
      refine Or.inl ⟨_, _, hmv, ?_⟩
      repeat refine hX _ _ _ _ _ _ _ _ _ _ _ _ _ _ rfl ?_
      exact ⟨rfl, rfl⟩
    · subst hw
      repeat refine hX _ _ _ _ _ _ _ _ _ _ _ _ _ _ rfl ?_
      refine Or.inl ⟨_, _, hem, ?_⟩
      repeat refine hX _ _ _ _ _ _ _ _ _ _ _ _ _ _ rfl ?_
      exact ⟨rfl, rfl⟩
    · subst hw
      repeat refine hX _ _ _ _ _ _ _ _ _ _ _ _ _ _ rfl ?_
      rw [g2]
      exact ⟨rfl, rfl⟩
    · repeat refine hX _ _ _ _ _ _ _ _ _ _ _ _ _ _ rfl ?_
      exact ⟨by simp only [sel]; rw [if_neg h0, if_neg h1, if_neg h2, if_neg h3], rfl⟩
def spOffends (A : aT) (N : aN) (s y : Int32) : Int32 := bif inb s (aNs A) && inb y (aNy A) then nI (aOff A N s.toNatClampNeg y.toNatClampNeg) else -1
theorem c_offends (S : zS) (d : Nat) (sw : Bool) (c : cS) (hm : List zC) {A : aT} {N : aN} (hA : TWf A) (hT : TRel (cTo c) A) (hN : NRel A (cSc c) N) (s y : Int32) : Ex S (d + 3) 0 0 52 [.ref 0, .int s, .int y] (hC sw c, hm) (some (.int (spOffends A N s y))) (hC sw c, hm) := by
  have hns := hA.2.2.2.1
  have hny := hA.2.1
  have hst := c_hasStatue S (d + 1) sw c hm hT.2.2.1 s
  have hya := c_hasYard S (d + 1) sw c hm hT.1 y
  have hof := fun j (hj : j < aNs A) y (hy : y < 10) => c_offIn S d sw c hm hA hT hN hj hy
  unfold spOffends
  cases hin : inb s (aNs A) with
  | false =>
    rw [hin] at hst
    cases sw
    all_goals
      (refine exI rfl rfl ?_; intro X hX)
      repeat refine hX _ _ _ _ _ _ _ _ _ _ _ _ _ _ rfl ?_
      refine Or.inl ⟨_, _, hst, ?_⟩
      repeat refine hX _ _ _ _ _ _ _ _ _ _ _ _ _ _ rfl ?_
      refine br_t (show b2i false = 0 from rfl) ?_
      repeat refine hX _ _ _ _ _ _ _ _ _ _ _ _ _ _ rfl ?_
      exact ⟨rfl, rfl⟩
  | true =>
    rw [hin] at hst
    obtain ⟨j, hj, rfl⟩ := inb_of hin (by omega)
    cases hiy : inb y (aNy A) with
    | false =>
      rw [hiy] at hya
      cases sw
      all_goals
        (refine exI rfl rfl ?_; intro X hX)
        repeat refine hX _ _ _ _ _ _ _ _ _ _ _ _ _ _ rfl ?_
        refine Or.inl ⟨_, _, hst, ?_⟩
        repeat refine hX _ _ _ _ _ _ _ _ _ _ _ _ _ _ rfl ?_
        refine br_f (show ¬ b2i true = 0 by decide) ?_
        repeat refine hX _ _ _ _ _ _ _ _ _ _ _ _ _ _ rfl ?_
        refine Or.inl ⟨_, _, hya, ?_⟩
        repeat refine hX _ _ _ _ _ _ _ _ _ _ _ _ _ _ rfl ?_
        refine br_f (show ¬ ¬ b2i false = 0 by decide) ?_
        repeat refine hX _ _ _ _ _ _ _ _ _ _ _ _ _ _ rfl ?_
        exact ⟨rfl, rfl⟩
    | true =>
      rw [hiy] at hya
      obtain ⟨z, hz, rfl⟩ := inb_of hiy (by omega)
      simp only [cond_true, Bool.and_self, nI_clamp (show j < 2 ^ 31 by omega), nI_clamp (show z < 2 ^ 31 by omega)]
      cases sw
      all_goals
        (refine exI rfl rfl ?_; intro X hX)
        repeat refine hX _ _ _ _ _ _ _ _ _ _ _ _ _ _ rfl ?_
        refine Or.inl ⟨_, _, hst, ?_⟩
        repeat refine hX _ _ _ _ _ _ _ _ _ _ _ _ _ _ rfl ?_
        refine br_f (show ¬ b2i true = 0 by decide) ?_
        repeat refine hX _ _ _ _ _ _ _ _ _ _ _ _ _ _ rfl ?_
        refine Or.inl ⟨_, _, hya, ?_⟩
        repeat refine hX _ _ _ _ _ _ _ _ _ _ _ _ _ _ rfl ?_
        refine br_t (show ¬ b2i true = 0 by decide) ?_
        repeat refine hX _ _ _ _ _ _ _ _ _ _ _ _ _ _ rfl ?_
        refine Or.inl ⟨_, _, hof j hj z (by omega), ?_⟩
        repeat refine hX _ _ _ _ _ _ _ _ _ _ _ _ _ _ rfl ?_
        exact ⟨rfl, rfl⟩
def spCount (a : aS) (w : Int32) : Int32 := sel w (-1) [(0, nI (aNy (sT a))), (1, nI (aNs (sT a))), (2, nI (aNp (sT a))), (3, nI (aSi (sT a))), (4, nI (sQ a)), (5, nI (sLen a))]
theorem c_count (S : zS) (d : Nat) (sw : Bool) (c : cS) (hm : List zC) {a : aS} (hR : CRel c a) (w : Int32) : Ex S (d + 1) 0 0 61 [.ref 0, .int w] (hC sw c, hm) (some (.int (spCount a w))) (hC sw c, hm) := by
  obtain ⟨⟨g1, g2, g3, g4, -, -⟩, -, ⟨g5, -⟩, -, -, -, -, ⟨g6, -⟩, -⟩ := hR
  unfold spCount
  cases sw
  all_goals
    (refine exI rfl rfl ?_; intro X hX)
    repeat refine hX _ _ _ _ _ _ _ _ _ _ _ _ _ _ rfl ?_
    refine ⟨fun hw => ?_, fun h0 => ⟨fun hw => ?_, fun h1 => ⟨fun hw => ?_, fun h2 => ⟨fun hw => ?_, fun h3 => ⟨fun hw => ?_, fun h4 => ⟨fun hw => ?_, fun h5 => ?_⟩⟩⟩⟩⟩⟩
    · subst hw
      repeat refine hX _ _ _ _ _ _ _ _ _ _ _ _ _ _ rfl ?_
      rw [g1]
      exact ⟨rfl, rfl⟩
    · subst hw
      repeat refine hX _ _ _ _ _ _ _ _ _ _ _ _ _ _ rfl ?_
      rw [g3]
      exact ⟨rfl, rfl⟩
    · subst hw
      repeat refine hX _ _ _ _ _ _ _ _ _ _ _ _ _ _ rfl ?_
      rw [g4]
      exact ⟨rfl, rfl⟩
    · subst hw
      repeat refine hX _ _ _ _ _ _ _ _ _ _ _ _ _ _ rfl ?_
      rw [g2]
      exact ⟨rfl, rfl⟩
    · subst hw
      repeat refine hX _ _ _ _ _ _ _ _ _ _ _ _ _ _ rfl ?_
      rw [g6]
      exact ⟨rfl, rfl⟩
    · subst hw
      repeat refine hX _ _ _ _ _ _ _ _ _ _ _ _ _ _ rfl ?_
      rw [g5]
      exact ⟨rfl, rfl⟩
    · repeat refine hX _ _ _ _ _ _ _ _ _ _ _ _ _ _ rfl ?_
      exact ⟨by simp only [sel]; rw [if_neg h0, if_neg h1, if_neg h2, if_neg h3, if_neg h4, if_neg h5], rfl⟩
theorem c_trace (S : zS) (d : Nat) (sw : Bool) (c : cS) (hm : List zC) {a : aS} (hR : CRel c a) : Ex S (d + 1) 0 0 62 [.ref 0] (hC sw c, hm) (some (.long (sTr a))) (hC sw c, hm) := by
  obtain ⟨-, -, -, -, -, -, -, -, hr⟩ := hR
  cases sw
  all_goals
    (refine exI rfl rfl ?_; intro X hX)
    repeat refine hX _ _ _ _ _ _ _ _ _ _ _ _ _ _ rfl ?_
    rw [hr]
    exact ⟨rfl, rfl⟩
end
section
/-! ===== the class: text, what was seen ===== -/
def aup {α : Type} (f : Nat → α) (k : Nat) (v : α) : Nat → α := fun j => if j = k then v else f j
theorem aup_s {α : Type} (f : Nat → α) (k : Nat) (v : α) : aup f k v k = v := by simp [aup]
theorem aup_n {α : Type} (f : Nat → α) {k j : Nat} (v : α) (h : j ≠ k) : aup f k v j = f j := by simp [aup, h]
theorem inb_no {x : Int32} {n : Nat} (h : inb x n = false) : x < 0 ∨ (¬ x < 0 ∧ nI n ≤ x) := by
  unfold inb at h
  by_cases h0 : x < 0
  · exact Or.inl h0
  · right
    refine ⟨h0, ?_⟩
    simp only [h0, decide_false, Bool.not_false, Bool.true_and, decide_eq_false_iff_not] at h
    exact Int32.not_lt.mp h
theorem le_no {x : Int32} {n : Nat} (hn : n + 1 < 2 ^ 31) (h : nI (n + 1) ≤ x) : ¬ x ≤ nI n := fun h2 => by
  have := Int32.le_trans h h2
  exact nI_ge (show n < n + 1 by omega) hn this
abbrev uText (a : aS) (n : Nat) (tx : aF) : aS := mkA (sT a) (sN a) n tx (sK a) (sH a) (sKe a) (sIm a) (sQ a) (sOf a) (sIs a) (sTr a)
abbrev uSeen (a : aS) (q : Nat) (o i : aF) : aS := mkA (sT a) (sN a) (sLen a) (sTx a) (sK a) (sH a) (sKe a) (sIm a) q o i (sTr a)
abbrev uTr (a : aS) (t : Int64) : aS := mkA (sT a) (sN a) (sLen a) (sTx a) (sK a) (sH a) (sKe a) (sIm a) (sQ a) (sOf a) (sIs a) t
abbrev uNow (a : aS) (N : aN) (k : Nat) (H : Nat → aN) : aS := mkA (sT a) N (sLen a) (sTx a) k H (sKe a) (sIm a) (sQ a) (sOf a) (sIs a) (sTr a)
abbrev uImg (a : aS) (ke : Nat → Bool) (im : Nat → aN) : aS := mkA (sT a) (sN a) (sLen a) (sTx a) (sK a) (sH a) ke im (sQ a) (sOf a) (sIs a) (sTr a)
def spType (a : aS) (x : Int32) : Int32 × aS := bif inb x 256 then (if sLen a = 150 then (-3, a) else (nI (sLen a + 1), uText a (sLen a + 1) (aup (sTx a) (sLen a) x.toNatClampNeg))) else (-1, a)
theorem c_addLetter (S : zS) (d : Nat) (sw : Bool) (c : cS) (hm : List zC) {n : Nat} (hn : rLetters (cRd c) = nI n) (h : n < 150) (x : Int32) : Ex S (d + 1) 0 0 7 [.ref 1, .int x] (hC sw c, hm) none (hC sw (s_cRd c (s_rLetters (s_rText (cRd c) (upd (rText (cRd c)) n x)) (nI (n + 1)))), hm) := by
  cases sw
  case false =>
    (refine exI rfl rfl ?_; intro X hX)
    repeat refine hX _ _ _ _ _ _ _ _ _ _ _ _ _ _ rfl ?_
    rw [hn]
    refine br_f (show ¬ nI 150 ≤ nI n from nI_ge h (by omega)) ?_
    repeat refine hX _ _ _ _ _ _ _ _ _ _ _ _ _ _ rfl ?_
    rw [hn]
    refine ⟨vp_in_nI (by omega) (by decide), ?_⟩
    rw [nI_clamp (by omega)]
    repeat refine hX _ _ _ _ _ _ _ _ _ _ _ _ _ _ rfl ?_
    refine ⟨rfl, ?_⟩
    rw [← nI_1, ← hn]
    rfl
  case true =>
    (refine exI rfl rfl ?_; intro X hX)
    repeat refine hX _ _ _ _ _ _ _ _ _ _ _ _ _ _ rfl ?_
    rw [hn]
    refine br_f (show ¬ nI 150 ≤ nI n from nI_ge h (by omega)) ?_
    repeat refine hX _ _ _ _ _ _ _ _ _ _ _ _ _ _ rfl ?_
    rw [hn]
    refine ⟨vp_in_nI (by omega) (by decide), ?_⟩
    rw [nI_clamp (by omega)]
    repeat refine hX _ _ _ _ _ _ _ _ _ _ _ _ _ _ rfl ?_
    refine ⟨rfl, ?_⟩
    rw [← nI_1, ← hn]
    rfl
theorem c_type (S : zS) (d : Nat) (sw : Bool) (c : cS) (hm : List zC) {a : aS} (hA : AWf a) (hR : CRel c a) (x : Int32) : ∃ c', Ex S (d + 2) 0 0 37 [.ref 0, .int x] (hC sw c, hm) (some (.int (spType a x).1)) (hC sw c', hm) ∧ CRel c' (spType a x).2 := by
  obtain ⟨hle, htx⟩ := hA.2.2.1
  obtain ⟨hlt, htt⟩ := hR.2.2.1
  unfold spType
  cases hin : inb x 256 with
  | false =>
    refine ⟨c, ?_, hR⟩
    have hno := inb_no hin
    cases sw
    all_goals
      (refine exI rfl rfl ?_; intro X hX)
      repeat refine hX _ _ _ _ _ _ _ _ _ _ _ _ _ _ rfl ?_
      rcases hno with h0 | ⟨h0, h1⟩
      · refine br_t (show x < 0 from h0) ?_
        repeat refine hX _ _ _ _ _ _ _ _ _ _ _ _ _ _ rfl ?_
        exact ⟨rfl, rfl⟩
      · refine br_f (show ¬ x < 0 from h0) ?_
        repeat refine hX _ _ _ _ _ _ _ _ _ _ _ _ _ _ rfl ?_
        refine br_f (show ¬ x ≤ nI 255 from le_no (by decide) h1) ?_
        repeat refine hX _ _ _ _ _ _ _ _ _ _ _ _ _ _ rfl ?_
        exact ⟨rfl, rfl⟩
  | true =>
    obtain ⟨j, hj, rfl⟩ := inb_of hin (by decide)
    simp only [cond_true, nI_clamp (show j < 2 ^ 31 by omega)]
    by_cases h150 : sLen a = 150
    · rw [if_pos h150]
      refine ⟨c, ?_, hR⟩
      cases sw
      all_goals
        (refine exI rfl rfl ?_; intro X hX)
        repeat refine hX _ _ _ _ _ _ _ _ _ _ _ _ _ _ rfl ?_
        refine br_f (show ¬ nI j < 0 from nI_pos (by omega)) ?_
        repeat refine hX _ _ _ _ _ _ _ _ _ _ _ _ _ _ rfl ?_
        refine br_t (show nI j ≤ nI 255 from nI_le (by omega) (by decide)) ?_
        repeat refine hX _ _ _ _ _ _ _ _ _ _ _ _ _ _ rfl ?_
        rw [hlt]
        refine br_f (show ¬ nI (sLen a) < nI 150 from nI_nlt (by omega) (by omega)) ?_
        repeat refine hX _ _ _ _ _ _ _ _ _ _ _ _ _ _ rfl ?_
        exact ⟨rfl, rfl⟩
    · rw [if_neg h150]
      have hadd := c_addLetter S d sw c hm hlt (by omega) (nI j)
      refine ⟨s_cRd c (s_rLetters (s_rText (cRd c) (upd (rText (cRd c)) (sLen a) (nI j))) (nI (sLen a + 1))), ?_, ?_⟩
      rotate_left
      · refine ⟨hR.1, hR.2.1, ⟨rfl, fun i hi => ?_⟩, hR.2.2.2.1, hR.2.2.2.2.1, hR.2.2.2.2.2.1, hR.2.2.2.2.2.2.1, hR.2.2.2.2.2.2.2.1, hR.2.2.2.2.2.2.2.2⟩
        show upd (rText (cRd c)) (sLen a) (nI j) i = nI (aup (sTx a) (sLen a) j i)
        by_cases hi2 : i = sLen a
        · rw [hi2, pk_us, aup_s]
        · have hi3 : i < sLen a + 1 := hi
          rw [pk_un hi2, aup_n _ _ hi2, htt i (by omega)]
      · cases sw
        all_goals
          (refine exI rfl rfl ?_; intro X hX)
          repeat refine hX _ _ _ _ _ _ _ _ _ _ _ _ _ _ rfl ?_
          refine br_f (show ¬ nI j < 0 from nI_pos (by omega)) ?_
          repeat refine hX _ _ _ _ _ _ _ _ _ _ _ _ _ _ rfl ?_
          refine br_t (show nI j ≤ nI 255 from nI_le (by omega) (by decide)) ?_
          repeat refine hX _ _ _ _ _ _ _ _ _ _ _ _ _ _ rfl ?_
          rw [hlt]
          refine br_t (show nI (sLen a) < nI 150 from nI_lt (by omega) (by decide)) ?_
          repeat refine hX _ _ _ _ _ _ _ _ _ _ _ _ _ _ rfl ?_
          refine Or.inl ⟨_, _, hadd, ?_⟩
          repeat refine hX _ _ _ _ _ _ _ _ _ _ _ _ _ _ rfl ?_
          exact ⟨rfl, rfl⟩
def spClear (a : aS) : Int32 × aS := (nI (sLen a), uText a 0 (sTx a))
theorem c_clear (S : zS) (d : Nat) (sw : Bool) (c : cS) (hm : List zC) {a : aS} (hR : CRel c a) : ∃ c', Ex S (d + 1) 0 0 38 [.ref 0] (hC sw c, hm) (some (.int (spClear a).1)) (hC sw c', hm) ∧ CRel c' (spClear a).2 := by
  obtain ⟨hlt, htt⟩ := hR.2.2.1
  refine ⟨s_cRd c (s_rLetters (cRd c) 0), ?_, ⟨hR.1, hR.2.1, ⟨rfl, fun i hi => absurd hi (Nat.not_lt_zero i)⟩, hR.2.2.2.1, hR.2.2.2.2.1, hR.2.2.2.2.2.1, hR.2.2.2.2.2.2.1, hR.2.2.2.2.2.2.2.1, hR.2.2.2.2.2.2.2.2⟩⟩
  cases sw
  all_goals
    (refine exI rfl rfl ?_; intro X hX)
    repeat refine hX _ _ _ _ _ _ _ _ _ _ _ _ _ _ rfl ?_
    rw [hlt]
    exact ⟨rfl, rfl⟩
def spForget (a : aS) : Int32 × aS := (nI (sQ a), uSeen a 0 (sOf a) (sIs a))
theorem c_forget (S : zS) (d : Nat) (sw : Bool) (c : cS) (hm : List zC) {a : aS} (hR : CRel c a) : ∃ c', Ex S (d + 1) 0 0 55 [.ref 0] (hC sw c, hm) (some (.int (spForget a).1)) (hC sw c', hm) ∧ CRel c' (spForget a).2 := by
  obtain ⟨hq, -⟩ := hR.2.2.2.2.2.2.2.1
  refine ⟨s_cSeen c 0, ?_, ⟨hR.1, hR.2.1, hR.2.2.1, hR.2.2.2.1, hR.2.2.2.2.1, hR.2.2.2.2.2.1, hR.2.2.2.2.2.2.1, ⟨rfl, fun i hi => absurd hi (Nat.not_lt_zero i)⟩, hR.2.2.2.2.2.2.2.2⟩⟩
  cases sw
  all_goals
    (refine exI rfl rfl ?_; intro X hX)
    repeat refine hX _ _ _ _ _ _ _ _ _ _ _ _ _ _ rfl ?_
    rw [hq]
    exact ⟨rfl, rfl⟩
def spSees (a : aS) (s w : Int32) : Int32 × aS := bif inb s (aNs (sT a)) && inb w 2 then (if sQ a = 6 then (-3, a) else (nI (sQ a + 1), uSeen a (sQ a + 1) (aup (sOf a) (sQ a) s.toNatClampNeg) (aup (sIs a) (sQ a) w.toNatClampNeg))) else (-1, a)
theorem c_sees (S : zS) (d : Nat) (sw : Bool) (c : cS) (hm : List zC) {a : aS} (hA : AWf a) (hR : CRel c a) (s w : Int32) : ∃ c', Ex S (d + 2) 0 0 54 [.ref 0, .int s, .int w] (hC sw c, hm) (some (.int (spSees a s w).1)) (hC sw c', hm) ∧ CRel c' (spSees a s w).2 := by
  have hns := hA.1.2.2.2.1
  obtain ⟨hq6, hqq⟩ := hA.2.2.2.2.2
  obtain ⟨hq, hsq⟩ := hR.2.2.2.2.2.2.2.1
  have hst := c_hasStatue S d sw c hm hR.1.2.2.1 s
  unfold spSees
  cases hin : inb s (aNs (sT a)) with
  | false =>
    rw [hin] at hst
    refine ⟨c, ?_, hR⟩
    cases sw
    all_goals
      (refine exI rfl rfl ?_; intro X hX)
      repeat refine hX _ _ _ _ _ _ _ _ _ _ _ _ _ _ rfl ?_
      refine Or.inl ⟨_, _, hst, ?_⟩
      repeat refine hX _ _ _ _ _ _ _ _ _ _ _ _ _ _ rfl ?_
      refine br_t (show b2i false = 0 from rfl) ?_
      repeat refine hX _ _ _ _ _ _ _ _ _ _ _ _ _ _ rfl ?_
      exact ⟨rfl, rfl⟩
  | true =>
    rw [hin] at hst
    obtain ⟨j, hj, rfl⟩ := inb_of hin (by omega)
    cases hiw : inb w 2 with
    | false =>
      refine ⟨c, ?_, hR⟩
      have hno := inb_no hiw
      cases sw
      all_goals
        (refine exI rfl rfl ?_; intro X hX)
        repeat refine hX _ _ _ _ _ _ _ _ _ _ _ _ _ _ rfl ?_
        refine Or.inl ⟨_, _, hst, ?_⟩
        repeat refine hX _ _ _ _ _ _ _ _ _ _ _ _ _ _ rfl ?_
        refine br_f (show ¬ b2i true = 0 by decide) ?_
        repeat refine hX _ _ _ _ _ _ _ _ _ _ _ _ _ _ rfl ?_
        rcases hno with h0 | ⟨h0, h1⟩
        · refine br_t (show w < 0 from h0) ?_
          repeat refine hX _ _ _ _ _ _ _ _ _ _ _ _ _ _ rfl ?_
          exact ⟨rfl, rfl⟩
        · refine br_f (show ¬ w < 0 from h0) ?_
          repeat refine hX _ _ _ _ _ _ _ _ _ _ _ _ _ _ rfl ?_
          refine br_f (show ¬ w ≤ nI 1 from le_no (by decide) h1) ?_
          repeat refine hX _ _ _ _ _ _ _ _ _ _ _ _ _ _ rfl ?_
          exact ⟨rfl, rfl⟩
    | true =>
      obtain ⟨z, hz, rfl⟩ := inb_of hiw (by decide)
      simp only [cond_true, Bool.and_self, nI_clamp (show j < 2 ^ 31 by omega), nI_clamp (show z < 2 ^ 31 by omega)]
      by_cases h6 : sQ a = 6
      · rw [if_pos h6]
        refine ⟨c, ?_, hR⟩
        cases sw
        all_goals
          (refine exI rfl rfl ?_; intro X hX)
          repeat refine hX _ _ _ _ _ _ _ _ _ _ _ _ _ _ rfl ?_
          refine Or.inl ⟨_, _, hst, ?_⟩
          repeat refine hX _ _ _ _ _ _ _ _ _ _ _ _ _ _ rfl ?_
          refine br_f (show ¬ b2i true = 0 by decide) ?_
          repeat refine hX _ _ _ _ _ _ _ _ _ _ _ _ _ _ rfl ?_
          refine br_f (show ¬ nI z < 0 from nI_pos (by omega)) ?_
          repeat refine hX _ _ _ _ _ _ _ _ _ _ _ _ _ _ rfl ?_
          refine br_t (show nI z ≤ nI 1 from nI_le (by omega) (by decide)) ?_
          repeat refine hX _ _ _ _ _ _ _ _ _ _ _ _ _ _ rfl ?_
          rw [hq]
          refine br_f (show ¬ nI (sQ a) < nI 6 from nI_nlt (by omega) (by omega)) ?_
          repeat refine hX _ _ _ _ _ _ _ _ _ _ _ _ _ _ rfl ?_
          exact ⟨rfl, rfl⟩
      · rw [if_neg h6]
        refine ⟨s_cSeen (s_cSeenW (s_cSeenS c (upd (cSeenS c) (sQ a) (nI j))) (upd (cSeenW c) (sQ a) (nI z))) (nI (sQ a + 1)), ?_, ⟨hR.1, hR.2.1, hR.2.2.1, hR.2.2.2.1, hR.2.2.2.2.1, hR.2.2.2.2.2.1, hR.2.2.2.2.2.2.1, ⟨rfl, fun i hi => ?_⟩, hR.2.2.2.2.2.2.2.2⟩⟩
        rotate_left
        · show upd (cSeenS c) (sQ a) (nI j) i = nI (aup (sOf a) (sQ a) j i) ∧ upd (cSeenW c) (sQ a) (nI z) i = nI (aup (sIs a) (sQ a) z i)
          by_cases hi2 : i = sQ a
          · rw [hi2, pk_us, pk_us, aup_s, aup_s]; exact ⟨rfl, rfl⟩
          · have hi3 : i < sQ a + 1 := hi
            rw [pk_un hi2, pk_un hi2, aup_n _ _ hi2, aup_n _ _ hi2]
            exact hsq i (by omega)
        · cases sw
          all_goals
            (refine exI rfl rfl ?_; intro X hX)
            repeat refine hX _ _ _ _ _ _ _ _ _ _ _ _ _ _ rfl ?_
            refine Or.inl ⟨_, _, hst, ?_⟩
            repeat refine hX _ _ _ _ _ _ _ _ _ _ _ _ _ _ rfl ?_
            refine br_f (show ¬ b2i true = 0 by decide) ?_
            repeat refine hX _ _ _ _ _ _ _ _ _ _ _ _ _ _ rfl ?_
            refine br_f (show ¬ nI z < 0 from nI_pos (by omega)) ?_
            repeat refine hX _ _ _ _ _ _ _ _ _ _ _ _ _ _ rfl ?_
            refine br_t (show nI z ≤ nI 1 from nI_le (by omega) (by decide)) ?_
            repeat refine hX _ _ _ _ _ _ _ _ _ _ _ _ _ _ rfl ?_
            rw [hq]
            refine br_t (show nI (sQ a) < nI 6 from nI_lt (by omega) (by decide)) ?_
            repeat refine hX _ _ _ _ _ _ _ _ _ _ _ _ _ _ rfl ?_
            rw [hq]
            refine ⟨vp_in_nI (by omega) (by decide), ?_⟩
            rw [nI_clamp (by omega)]
            repeat refine hX _ _ _ _ _ _ _ _ _ _ _ _ _ _ rfl ?_
            rw [hq]
            refine ⟨vp_in_nI (by omega) (by decide), ?_⟩
            rw [nI_clamp (by omega)]
            repeat refine hX _ _ _ _ _ _ _ _ _ _ _ _ _ _ rfl ?_
            exact ⟨by rw [hq, nI_1], by rw [hq, nI_1]; rfl⟩
end
section
/-! ===== the class: what is done, and undone ===== -/
/-- the row moved down by one, as far as n -/
def shl (f : cF) (n : Nat) : cF := fun i => if i < n then f (i + 1) else f i
theorem shl_0 (f : cF) : shl f 0 = f := by funext i; simp [shl]
theorem shl_s (f : cF) (n : Nat) : upd (shl f n) n (shl f n (n + 1)) = shl f (n + 1) := by
  funext i
  unfold upd
  by_cases h : i = n
  · subst h
    simp [shl]
    intro h
    omega
  · rw [if_neg h]
    unfold shl
    by_cases h2 : i < n
    · rw [if_pos h2, if_pos (by omega)]
    · rw [if_neg h2, if_neg (by omega)]
theorem c_loseOldest (S : zS) (d : Nat) (sw : Bool) (c : cS) (hm : List zC) : Ex S (d + 1) 0 0 4 [.ref 24] (hC sw c, hm) none (hC sw (s_cPa c (nI 9, shl (pDeed (cPa c)) 9, shl (pThing (cPa c)) 9, shl (pDetail (cPa c)) 9)), hm) := by
  cases sw
  case false =>
    (refine exI rfl rfl ?_; intro X hX)
    have loop : ∀ (k i : Nat), i + k = 9 → X 2 [some (.ref 24), some (.int (nI (i + 1)))] [] (hC false (s_cPa c (pKnown (cPa c), shl (pDeed (cPa c)) i, shl (pThing (cPa c)) i, shl (pDetail (cPa c)) i)), hm) 0 0 := by
      intro k
      induction k with
      | zero =>
        intro i hi
        have : i = 9 := by omega
        subst this
        repeat refine hX _ _ _ _ _ _ _ _ _ _ _ _ _ _ rfl ?_
        refine br_t (show nI 10 ≤ nI 10 from nI_le (by omega) (by decide)) ?_
        repeat refine hX _ _ _ _ _ _ _ _ _ _ _ _ _ _ rfl ?_
        exact ⟨rfl, rfl⟩
      | succ k ih =>
        intro i hi
        repeat refine hX _ _ _ _ _ _ _ _ _ _ _ _ _ _ rfl ?_
        refine br_f (show ¬ nI 10 ≤ nI (i + 1) from nI_ge (by omega) (by decide)) ?_
        repeat refine hX _ _ _ _ _ _ _ _ _ _ _ _ _ _ rfl ?_
        refine ⟨vp_in_nI (by omega) (by decide), ?_⟩
        rw [nI_clamp (by omega)]
        repeat refine hX _ _ _ _ _ _ _ _ _ _ _ _ _ _ rfl ?_
        rw [nI_pred]
        refine ⟨vp_in_nI (by omega) (by decide), ?_⟩
        rw [nI_clamp (by omega)]
        repeat refine hX _ _ _ _ _ _ _ _ _ _ _ _ _ _ rfl ?_
        refine ⟨vp_in_nI (by omega) (by decide), ?_⟩
        rw [nI_clamp (by omega)]
        repeat refine hX _ _ _ _ _ _ _ _ _ _ _ _ _ _ rfl ?_
        rw [nI_pred]
        refine ⟨vp_in_nI (by omega) (by decide), ?_⟩
        rw [nI_clamp (by omega)]
        repeat refine hX _ _ _ _ _ _ _ _ _ _ _ _ _ _ rfl ?_
        refine ⟨vp_in_nI (by omega) (by decide), ?_⟩
        rw [nI_clamp (by omega)]
        repeat refine hX _ _ _ _ _ _ _ _ _ _ _ _ _ _ rfl ?_
        rw [nI_pred]
        refine ⟨vp_in_nI (by omega) (by decide), ?_⟩
        rw [nI_clamp (by omega)]
        iterate 2 (refine hX _ _ _ _ _ _ _ _ _ _ _ _ _ _ rfl ?_)
        rw [nI_1]
        have h7 := ih (i + 1) (by omega)
        rw [← shl_s, ← shl_s, ← shl_s] at h7
        exact h7
    iterate 2 (refine hX _ _ _ _ _ _ _ _ _ _ _ _ _ _ rfl ?_)
    have h8 := loop 9 0 (by omega)
    rw [shl_0, shl_0, shl_0] at h8
    exact h8
  case true =>
    (refine exI rfl rfl ?_; intro X hX)
    have loop : ∀ (k i : Nat), i + k = 9 → X 2 [some (.ref 24), some (.int (nI (i + 1)))] [] (hC true (s_cPa c (pKnown (cPa c), shl (pDeed (cPa c)) i, shl (pThing (cPa c)) i, shl (pDetail (cPa c)) i)), hm) 0 0 := by
      intro k
      induction k with
      | zero =>
        intro i hi
        have : i = 9 := by omega
        subst this
        repeat refine hX _ _ _ _ _ _ _ _ _ _ _ _ _ _ rfl ?_
        refine br_t (show nI 10 ≤ nI 10 from nI_le (by omega) (by decide)) ?_
        repeat refine hX _ _ _ _ _ _ _ _ _ _ _ _ _ _ rfl ?_
        exact ⟨rfl, rfl⟩
      | succ k ih =>
        intro i hi
        repeat refine hX _ _ _ _ _ _ _ _ _ _ _ _ _ _ rfl ?_
        refine br_f (show ¬ nI 10 ≤ nI (i + 1) from nI_ge (by omega) (by decide)) ?_
        repeat refine hX _ _ _ _ _ _ _ _ _ _ _ _ _ _ rfl ?_
        refine ⟨vp_in_nI (by omega) (by decide), ?_⟩
        rw [nI_clamp (by omega)]
        repeat refine hX _ _ _ _ _ _ _ _ _ _ _ _ _ _ rfl ?_
        rw [nI_pred]
        refine ⟨vp_in_nI (by omega) (by decide), ?_⟩
        rw [nI_clamp (by omega)]
        repeat refine hX _ _ _ _ _ _ _ _ _ _ _ _ _ _ rfl ?_
        refine ⟨vp_in_nI (by omega) (by decide), ?_⟩
        rw [nI_clamp (by omega)]
        repeat refine hX _ _ _ _ _ _ _ _ _ _ _ _ _ _ rfl ?_
        rw [nI_pred]
        refine ⟨vp_in_nI (by omega) (by decide), ?_⟩
        rw [nI_clamp (by omega)]
        repeat refine hX _ _ _ _ _ _ _ _ _ _ _ _ _ _ rfl ?_
        refine ⟨vp_in_nI (by omega) (by decide), ?_⟩
        rw [nI_clamp (by omega)]
        repeat refine hX _ _ _ _ _ _ _ _ _ _ _ _ _ _ rfl ?_
        rw [nI_pred]
        refine ⟨vp_in_nI (by omega) (by decide), ?_⟩
        rw [nI_clamp (by omega)]
        iterate 2 (refine hX _ _ _ _ _ _ _ _ _ _ _ _ _ _ rfl ?_)
        rw [nI_1]
        have h7 := ih (i + 1) (by omega)
        rw [← shl_s, ← shl_s, ← shl_s] at h7
        exact h7
    iterate 2 (refine hX _ _ _ _ _ _ _ _ _ _ _ _ _ _ rfl ?_)
    have h8 := loop 9 0 (by omega)
    rw [shl_0, shl_0, shl_0] at h8
    exact h8
def pAdd (p : cP) (k : Nat) (dd t e : Int32) : cP := if k = 10 then (nI 10, upd (shl (pDeed p) 9) 9 dd, upd (shl (pThing p) 9) 9 t, upd (shl (pDetail p) 9) 9 e) else (nI (k + 1), upd (pDeed p) k dd, upd (pThing p) k t, upd (pDetail p) k e)
theorem c_add (S : zS) (d : Nat) (sw : Bool) (c : cS) (hm : List zC) {k : Nat} (hk : pKnown (cPa c) = nI k) (h10 : k ≤ 10) (dd t e : Int32) : Ex S (d + 2) 0 0 3 [.ref 24, .int dd, .int t, .int e] (hC sw c, hm) none (hC sw (s_cPa c (pAdd (cPa c) k dd t e)), hm) := by
  have hlo := c_loseOldest S d sw c hm
  unfold pAdd
  by_cases h : k = 10
  · subst h
    rw [if_pos rfl]
    cases sw
    all_goals
      (refine exI rfl rfl ?_; intro X hX)
      repeat refine hX _ _ _ _ _ _ _ _ _ _ _ _ _ _ rfl ?_
      rw [hk]
      refine br_f (show ¬ nI 10 < nI 10 from nI_nlt (by omega) (by decide)) ?_
      repeat refine hX _ _ _ _ _ _ _ _ _ _ _ _ _ _ rfl ?_
      refine Or.inl ⟨_, _, hlo, ?_⟩
      repeat refine hX _ _ _ _ _ _ _ _ _ _ _ _ _ _ rfl ?_
      refine ⟨vp_in_nI (by omega) (by decide), ?_⟩
      rw [nI_clamp (by omega)]
      repeat refine hX _ _ _ _ _ _ _ _ _ _ _ _ _ _ rfl ?_
      refine ⟨vp_in_nI (by omega) (by decide), ?_⟩
      rw [nI_clamp (by omega)]
      repeat refine hX _ _ _ _ _ _ _ _ _ _ _ _ _ _ rfl ?_
      refine ⟨vp_in_nI (by omega) (by decide), ?_⟩
      rw [nI_clamp (by omega)]
      repeat refine hX _ _ _ _ _ _ _ _ _ _ _ _ _ _ rfl ?_
      exact ⟨rfl, rfl⟩
  · rw [if_neg h]
    cases sw
    all_goals
      (refine exI rfl rfl ?_; intro X hX)
      repeat refine hX _ _ _ _ _ _ _ _ _ _ _ _ _ _ rfl ?_
      rw [hk]
      refine br_t (show nI k < nI 10 from nI_lt (by omega) (by decide)) ?_
      repeat refine hX _ _ _ _ _ _ _ _ _ _ _ _ _ _ rfl ?_
      rw [hk]
      refine ⟨vp_in_nI (by omega) (by decide), ?_⟩
      rw [nI_clamp (by omega)]
      repeat refine hX _ _ _ _ _ _ _ _ _ _ _ _ _ _ rfl ?_
      rw [hk]
      refine ⟨vp_in_nI (by omega) (by decide), ?_⟩
      rw [nI_clamp (by omega)]
      repeat refine hX _ _ _ _ _ _ _ _ _ _ _ _ _ _ rfl ?_
      rw [hk]
      refine ⟨vp_in_nI (by omega) (by decide), ?_⟩
      rw [nI_clamp (by omega)]
      repeat refine hX _ _ _ _ _ _ _ _ _ _ _ _ _ _ rfl ?_
      exact ⟨rfl, by rw [hk, nI_1]; rfl⟩
theorem c_takeBack (S : zS) (d : Nat) (sw : Bool) (c : cS) (hm : List zC) {k : Nat} (hk : pKnown (cPa c) = nI (k + 1)) (h10 : k < 10) (ht : vp_in (pThing (cPa c) k) 6) : Ex S (d + 1) 0 0 5 [.ref 24, .ref 21] (hC sw c, hm) none (hC sw (s_cSc (s_cPa c (s_pKnown (cPa c) (nI k))) (tb (pDeed (cPa c) k) (pThing (cPa c) k) (pDetail (cPa c) k) (cSc c))), hm) := by
  unfold tb
  cases sw
  case false =>
    (refine exI rfl rfl ?_; intro X hX)
    repeat refine hX _ _ _ _ _ _ _ _ _ _ _ _ _ _ rfl ?_
    rw [hk]
    refine br_t (show 0 < nI (k + 1) from nI_lt (a := 0) (by omega) (by omega)) ?_
    repeat refine hX _ _ _ _ _ _ _ _ _ _ _ _ _ _ rfl ?_
    rw [hk, nI_pred]
    refine ⟨vp_in_nI (by omega) (by decide), ?_⟩
    rw [nI_clamp (by omega)]
    repeat refine hX _ _ _ _ _ _ _ _ _ _ _ _ _ _ rfl ?_
    refine ⟨vp_in_nI (by omega) (by decide), ?_⟩
    rw [nI_clamp (by omega)]
    repeat refine hX _ _ _ _ _ _ _ _ _ _ _ _ _ _ rfl ?_
    refine ⟨fun h0 => ?_, fun h0 => ⟨fun h1 => ?_, fun h1 => ⟨fun h2 => ?_, fun h2 => ?_⟩⟩⟩
    · repeat refine hX _ _ _ _ _ _ _ _ _ _ _ _ _ _ rfl ?_
      exact ⟨rfl, by rw [if_pos h0]; rfl⟩
    · repeat refine hX _ _ _ _ _ _ _ _ _ _ _ _ _ _ rfl ?_
      exact ⟨rfl, by rw [if_neg h0, if_pos h1]; rfl⟩
    · repeat refine hX _ _ _ _ _ _ _ _ _ _ _ _ _ _ rfl ?_
      refine ⟨ht, ?_⟩
      repeat refine hX _ _ _ _ _ _ _ _ _ _ _ _ _ _ rfl ?_
      refine ⟨vp_in_nI (by omega) (by decide), ?_⟩
      rw [nI_clamp (by omega)]
      repeat refine hX _ _ _ _ _ _ _ _ _ _ _ _ _ _ rfl ?_
      refine ⟨ht, ?_⟩
      repeat refine hX _ _ _ _ _ _ _ _ _ _ _ _ _ _ rfl ?_
      exact ⟨rfl, by rw [if_neg h0, if_neg h1, if_pos h2]; rfl⟩
    · repeat refine hX _ _ _ _ _ _ _ _ _ _ _ _ _ _ rfl ?_
      refine ⟨vp_in_nI (by omega) (by decide), ?_⟩
      rw [nI_clamp (by omega)]
      repeat refine hX _ _ _ _ _ _ _ _ _ _ _ _ _ _ rfl ?_
      refine ⟨ht, ?_⟩
      repeat refine hX _ _ _ _ _ _ _ _ _ _ _ _ _ _ rfl ?_
      exact ⟨rfl, by rw [if_neg h0, if_neg h1, if_neg h2]; rfl⟩
  case true =>
    (refine exI rfl rfl ?_; intro X hX)
    repeat refine hX _ _ _ _ _ _ _ _ _ _ _ _ _ _ rfl ?_
    rw [hk]
    refine br_t (show 0 < nI (k + 1) from nI_lt (a := 0) (by omega) (by omega)) ?_
    repeat refine hX _ _ _ _ _ _ _ _ _ _ _ _ _ _ rfl ?_
    rw [hk, nI_pred]
    refine ⟨vp_in_nI (by omega) (by decide), ?_⟩
    rw [nI_clamp (by omega)]
    repeat refine hX _ _ _ _ _ _ _ _ _ _ _ _ _ _ rfl ?_
    refine ⟨vp_in_nI (by omega) (by decide), ?_⟩
    rw [nI_clamp (by omega)]
    repeat refine hX _ _ _ _ _ _ _ _ _ _ _ _ _ _ rfl ?_
    refine ⟨fun h0 => ?_, fun h0 => ⟨fun h1 => ?_, fun h1 => ⟨fun h2 => ?_, fun h2 => ?_⟩⟩⟩
    · repeat refine hX _ _ _ _ _ _ _ _ _ _ _ _ _ _ rfl ?_
      exact ⟨rfl, by rw [if_pos h0]; rfl⟩
    · repeat refine hX _ _ _ _ _ _ _ _ _ _ _ _ _ _ rfl ?_
      exact ⟨rfl, by rw [if_neg h0, if_pos h1]; rfl⟩
    · repeat refine hX _ _ _ _ _ _ _ _ _ _ _ _ _ _ rfl ?_
      refine ⟨ht, ?_⟩
      repeat refine hX _ _ _ _ _ _ _ _ _ _ _ _ _ _ rfl ?_
      refine ⟨vp_in_nI (by omega) (by decide), ?_⟩
      rw [nI_clamp (by omega)]
      repeat refine hX _ _ _ _ _ _ _ _ _ _ _ _ _ _ rfl ?_
      refine ⟨ht, ?_⟩
      repeat refine hX _ _ _ _ _ _ _ _ _ _ _ _ _ _ rfl ?_
      exact ⟨rfl, by rw [if_neg h0, if_neg h1, if_pos h2]; rfl⟩
    · repeat refine hX _ _ _ _ _ _ _ _ _ _ _ _ _ _ rfl ?_
      refine ⟨vp_in_nI (by omega) (by decide), ?_⟩
      rw [nI_clamp (by omega)]
      repeat refine hX _ _ _ _ _ _ _ _ _ _ _ _ _ _ rfl ?_
      refine ⟨ht, ?_⟩
      repeat refine hX _ _ _ _ _ _ _ _ _ _ _ _ _ _ rfl ?_
      exact ⟨rfl, by rw [if_neg h0, if_neg h1, if_neg h2]; rfl⟩
end
section
def cpf (src old : cF) (n : Nat) : cF := fun j => if j < n then src j else old j
theorem cpf_0 (src old : cF) : cpf src old 0 = old := by funext j; simp [cpf]
theorem cpf_s (src old : cF) (n : Nat) : upd (cpf src old n) n (src n) = cpf src old (n + 1) := by
  funext j
  unfold upd cpf
  by_cases h : j = n
  · subst h; simp
  · rw [if_neg h]
    by_cases h2 : j < n
    · rw [if_pos h2, if_pos (by omega)]
    · rw [if_neg h2, if_neg (by omega)]
def cpN (s o : cN) : cN := (nCome s, cpf (nYardOf s) (nYardOf o) 6, cpf (nClaimed s) (nClaimed o) 6)
theorem cpN_rel {A : aT} (hA : TWf A) {s : cN} (o : cN) {N : aN} (h : NRel A s N) : NRel A (cpN s o) N := by
  have hns := hA.2.2.2.1
  refine ⟨h.1, fun j hj => ?_, fun j hj => ?_⟩
  · show cpf (nYardOf s) (nYardOf o) 6 j = _
    rw [cpf, if_pos (by omega)]; exact h.2.1 j hj
  · show cpf (nClaimed s) (nClaimed o) 6 j = _
    rw [cpf, if_pos hj]; exact h.2.2 j hj
theorem c_copy_k0 (S : zS) (d : Nat) (sw : Bool) (c : cS) (hm : List zC) : Ex S (d + 1) 0 0 24 [.ref 29, .ref 21] (hC sw c, hm) none (hC sw (s_cI0 c (cpN (cSc c) (cI0 c))), hm) := by
  cases sw
  case false =>
    (refine exI rfl rfl ?_; intro X hX)
    have loop : ∀ (k i : Nat), i + k = 6 → X 10 [some (.ref 29), some (.ref 21), some (.int (nI i))] [] (hC false (s_cI0 c (nCome (cSc c), cpf (nYardOf (cSc c)) (nYardOf (cI0 c)) i, cpf (nClaimed (cSc c)) (nClaimed (cI0 c)) i)), hm) 0 0 := by
      intro k
      induction k with
      | zero =>
        intro i hi
        have : i = 6 := by omega
        subst this
        repeat refine hX _ _ _ _ _ _ _ _ _ _ _ _ _ _ rfl ?_
        refine br_t (show nI 6 ≤ nI 6 from nI_le (by omega) (by decide)) ?_
        repeat refine hX _ _ _ _ _ _ _ _ _ _ _ _ _ _ rfl ?_
        exact ⟨rfl, rfl⟩
      | succ k ih =>
        intro i hi
        repeat refine hX _ _ _ _ _ _ _ _ _ _ _ _ _ _ rfl ?_
        refine br_f (show ¬ nI 6 ≤ nI i from nI_ge (by omega) (by decide)) ?_
        repeat refine hX _ _ _ _ _ _ _ _ _ _ _ _ _ _ rfl ?_
        refine ⟨vp_in_nI (by omega) (by decide), ?_⟩
        rw [nI_clamp (by omega)]
        repeat refine hX _ _ _ _ _ _ _ _ _ _ _ _ _ _ rfl ?_
        refine ⟨vp_in_nI (by omega) (by decide), ?_⟩
        rw [nI_clamp (by omega)]
        repeat refine hX _ _ _ _ _ _ _ _ _ _ _ _ _ _ rfl ?_
        refine ⟨vp_in_nI (by omega) (by decide), ?_⟩
        rw [nI_clamp (by omega)]
        repeat refine hX _ _ _ _ _ _ _ _ _ _ _ _ _ _ rfl ?_
        refine ⟨vp_in_nI (by omega) (by decide), ?_⟩
        rw [nI_clamp (by omega)]
        iterate 2 (refine hX _ _ _ _ _ _ _ _ _ _ _ _ _ _ rfl ?_)
        rw [nI_1]
        have h7 := ih (i + 1) (by omega)
        rw [← cpf_s, ← cpf_s] at h7
        exact h7
    iterate 6 (refine hX _ _ _ _ _ _ _ _ _ _ _ _ _ _ rfl ?_)
    have h8 := loop 6 0 (by omega)
    rw [cpf_0, cpf_0] at h8
    exact h8
  case true =>
    (refine exI rfl rfl ?_; intro X hX)
    have loop : ∀ (k i : Nat), i + k = 6 → X 10 [some (.ref 29), some (.ref 21), some (.int (nI i))] [] (hC true (s_cI0 c (nCome (cSc c), cpf (nYardOf (cSc c)) (nYardOf (cI0 c)) i, cpf (nClaimed (cSc c)) (nClaimed (cI0 c)) i)), hm) 0 0 := by
      intro k
      induction k with
      | zero =>
        intro i hi
        have : i = 6 := by omega
        subst this
        repeat refine hX _ _ _ _ _ _ _ _ _ _ _ _ _ _ rfl ?_
        refine br_t (show nI 6 ≤ nI 6 from nI_le (by omega) (by decide)) ?_
        repeat refine hX _ _ _ _ _ _ _ _ _ _ _ _ _ _ rfl ?_
        exact ⟨rfl, rfl⟩
      | succ k ih =>
        intro i hi
        repeat refine hX _ _ _ _ _ _ _ _ _ _ _ _ _ _ rfl ?_
        refine br_f (show ¬ nI 6 ≤ nI i from nI_ge (by omega) (by decide)) ?_
        repeat refine hX _ _ _ _ _ _ _ _ _ _ _ _ _ _ rfl ?_
        refine ⟨vp_in_nI (by omega) (by decide), ?_⟩
        rw [nI_clamp (by omega)]
        repeat refine hX _ _ _ _ _ _ _ _ _ _ _ _ _ _ rfl ?_
        refine ⟨vp_in_nI (by omega) (by decide), ?_⟩
        rw [nI_clamp (by omega)]
        repeat refine hX _ _ _ _ _ _ _ _ _ _ _ _ _ _ rfl ?_
        refine ⟨vp_in_nI (by omega) (by decide), ?_⟩
        rw [nI_clamp (by omega)]
        repeat refine hX _ _ _ _ _ _ _ _ _ _ _ _ _ _ rfl ?_
        refine ⟨vp_in_nI (by omega) (by decide), ?_⟩
        rw [nI_clamp (by omega)]
        iterate 2 (refine hX _ _ _ _ _ _ _ _ _ _ _ _ _ _ rfl ?_)
        rw [nI_1]
        have h7 := ih (i + 1) (by omega)
        rw [← cpf_s, ← cpf_s] at h7
        exact h7
    iterate 6 (refine hX _ _ _ _ _ _ _ _ _ _ _ _ _ _ rfl ?_)
    have h8 := loop 6 0 (by omega)
    rw [cpf_0, cpf_0] at h8
    exact h8
theorem c_copy_k1 (S : zS) (d : Nat) (sw : Bool) (c : cS) (hm : List zC) : Ex S (d + 1) 0 0 24 [.ref 32, .ref 21] (hC sw c, hm) none (hC sw (s_cI1 c (cpN (cSc c) (cI1 c))), hm) := by
  cases sw
  case false =>
    (refine exI rfl rfl ?_; intro X hX)
    have loop : ∀ (k i : Nat), i + k = 6 → X 10 [some (.ref 32), some (.ref 21), some (.int (nI i))] [] (hC false (s_cI1 c (nCome (cSc c), cpf (nYardOf (cSc c)) (nYardOf (cI1 c)) i, cpf (nClaimed (cSc c)) (nClaimed (cI1 c)) i)), hm) 0 0 := by
      intro k
      induction k with
      | zero =>
        intro i hi
        have : i = 6 := by omega
        subst this
        repeat refine hX _ _ _ _ _ _ _ _ _ _ _ _ _ _ rfl ?_
        refine br_t (show nI 6 ≤ nI 6 from nI_le (by omega) (by decide)) ?_
        repeat refine hX _ _ _ _ _ _ _ _ _ _ _ _ _ _ rfl ?_
        exact ⟨rfl, rfl⟩
      | succ k ih =>
        intro i hi
        repeat refine hX _ _ _ _ _ _ _ _ _ _ _ _ _ _ rfl ?_
        refine br_f (show ¬ nI 6 ≤ nI i from nI_ge (by omega) (by decide)) ?_
        repeat refine hX _ _ _ _ _ _ _ _ _ _ _ _ _ _ rfl ?_
        refine ⟨vp_in_nI (by omega) (by decide), ?_⟩
        rw [nI_clamp (by omega)]
        repeat refine hX _ _ _ _ _ _ _ _ _ _ _ _ _ _ rfl ?_
        refine ⟨vp_in_nI (by omega) (by decide), ?_⟩
        rw [nI_clamp (by omega)]
        repeat refine hX _ _ _ _ _ _ _ _ _ _ _ _ _ _ rfl ?_
        refine ⟨vp_in_nI (by omega) (by decide), ?_⟩
        rw [nI_clamp (by omega)]
        repeat refine hX _ _ _ _ _ _ _ _ _ _ _ _ _ _ rfl ?_
        refine ⟨vp_in_nI (by omega) (by decide), ?_⟩
        rw [nI_clamp (by omega)]
        iterate 2 (refine hX _ _ _ _ _ _ _ _ _ _ _ _ _ _ rfl ?_)
        rw [nI_1]
        have h7 := ih (i + 1) (by omega)
        rw [← cpf_s, ← cpf_s] at h7
        exact h7
    iterate 6 (refine hX _ _ _ _ _ _ _ _ _ _ _ _ _ _ rfl ?_)
    have h8 := loop 6 0 (by omega)
    rw [cpf_0, cpf_0] at h8
    exact h8
  case true =>
    (refine exI rfl rfl ?_; intro X hX)
    have loop : ∀ (k i : Nat), i + k = 6 → X 10 [some (.ref 32), some (.ref 21), some (.int (nI i))] [] (hC true (s_cI1 c (nCome (cSc c), cpf (nYardOf (cSc c)) (nYardOf (cI1 c)) i, cpf (nClaimed (cSc c)) (nClaimed (cI1 c)) i)), hm) 0 0 := by
      intro k
      induction k with
      | zero =>
        intro i hi
        have : i = 6 := by omega
        subst this
        repeat refine hX _ _ _ _ _ _ _ _ _ _ _ _ _ _ rfl ?_
        refine br_t (show nI 6 ≤ nI 6 from nI_le (by omega) (by decide)) ?_
        repeat refine hX _ _ _ _ _ _ _ _ _ _ _ _ _ _ rfl ?_
        exact ⟨rfl, rfl⟩
      | succ k ih =>
        intro i hi
        repeat refine hX _ _ _ _ _ _ _ _ _ _ _ _ _ _ rfl ?_
        refine br_f (show ¬ nI 6 ≤ nI i from nI_ge (by omega) (by decide)) ?_
        repeat refine hX _ _ _ _ _ _ _ _ _ _ _ _ _ _ rfl ?_
        refine ⟨vp_in_nI (by omega) (by decide), ?_⟩
        rw [nI_clamp (by omega)]
        repeat refine hX _ _ _ _ _ _ _ _ _ _ _ _ _ _ rfl ?_
        refine ⟨vp_in_nI (by omega) (by decide), ?_⟩
        rw [nI_clamp (by omega)]
        repeat refine hX _ _ _ _ _ _ _ _ _ _ _ _ _ _ rfl ?_
        refine ⟨vp_in_nI (by omega) (by decide), ?_⟩
        rw [nI_clamp (by omega)]
        repeat refine hX _ _ _ _ _ _ _ _ _ _ _ _ _ _ rfl ?_
        refine ⟨vp_in_nI (by omega) (by decide), ?_⟩
        rw [nI_clamp (by omega)]
        iterate 2 (refine hX _ _ _ _ _ _ _ _ _ _ _ _ _ _ rfl ?_)
        rw [nI_1]
        have h7 := ih (i + 1) (by omega)
        rw [← cpf_s, ← cpf_s] at h7
        exact h7
    iterate 6 (refine hX _ _ _ _ _ _ _ _ _ _ _ _ _ _ rfl ?_)
    have h8 := loop 6 0 (by omega)
    rw [cpf_0, cpf_0] at h8
    exact h8
theorem c_copy_b0 (S : zS) (d : Nat) (sw : Bool) (c : cS) (hm : List zC) : Ex S (d + 1) 0 0 24 [.ref 21, .ref 29] (hC sw c, hm) none (hC sw (s_cSc c (cpN (cI0 c) (cSc c))), hm) := by
  cases sw
  case false =>
    (refine exI rfl rfl ?_; intro X hX)
    have loop : ∀ (k i : Nat), i + k = 6 → X 10 [some (.ref 21), some (.ref 29), some (.int (nI i))] [] (hC false (s_cSc c (nCome (cI0 c), cpf (nYardOf (cI0 c)) (nYardOf (cSc c)) i, cpf (nClaimed (cI0 c)) (nClaimed (cSc c)) i)), hm) 0 0 := by
      intro k
      induction k with
      | zero =>
        intro i hi
        have : i = 6 := by omega
        subst this
        repeat refine hX _ _ _ _ _ _ _ _ _ _ _ _ _ _ rfl ?_
        refine br_t (show nI 6 ≤ nI 6 from nI_le (by omega) (by decide)) ?_
        repeat refine hX _ _ _ _ _ _ _ _ _ _ _ _ _ _ rfl ?_
        exact ⟨rfl, rfl⟩
      | succ k ih =>
        intro i hi
        repeat refine hX _ _ _ _ _ _ _ _ _ _ _ _ _ _ rfl ?_
        refine br_f (show ¬ nI 6 ≤ nI i from nI_ge (by omega) (by decide)) ?_
        repeat refine hX _ _ _ _ _ _ _ _ _ _ _ _ _ _ rfl ?_
        refine ⟨vp_in_nI (by omega) (by decide), ?_⟩
        rw [nI_clamp (by omega)]
        repeat refine hX _ _ _ _ _ _ _ _ _ _ _ _ _ _ rfl ?_
        refine ⟨vp_in_nI (by omega) (by decide), ?_⟩
        rw [nI_clamp (by omega)]
        repeat refine hX _ _ _ _ _ _ _ _ _ _ _ _ _ _ rfl ?_
        refine ⟨vp_in_nI (by omega) (by decide), ?_⟩
        rw [nI_clamp (by omega)]
        repeat refine hX _ _ _ _ _ _ _ _ _ _ _ _ _ _ rfl ?_
        refine ⟨vp_in_nI (by omega) (by decide), ?_⟩
        rw [nI_clamp (by omega)]
        iterate 2 (refine hX _ _ _ _ _ _ _ _ _ _ _ _ _ _ rfl ?_)
        rw [nI_1]
        have h7 := ih (i + 1) (by omega)
        rw [← cpf_s, ← cpf_s] at h7
        exact h7
    iterate 6 (refine hX _ _ _ _ _ _ _ _ _ _ _ _ _ _ rfl ?_)
    have h8 := loop 6 0 (by omega)
    rw [cpf_0, cpf_0] at h8
    exact h8
  case true =>
    (refine exI rfl rfl ?_; intro X hX)
    have loop : ∀ (k i : Nat), i + k = 6 → X 10 [some (.ref 21), some (.ref 29), some (.int (nI i))] [] (hC true (s_cSc c (nCome (cI0 c), cpf (nYardOf (cI0 c)) (nYardOf (cSc c)) i, cpf (nClaimed (cI0 c)) (nClaimed (cSc c)) i)), hm) 0 0 := by
      intro k
      induction k with
      | zero =>
        intro i hi
        have : i = 6 := by omega
        subst this
        repeat refine hX _ _ _ _ _ _ _ _ _ _ _ _ _ _ rfl ?_
        refine br_t (show nI 6 ≤ nI 6 from nI_le (by omega) (by decide)) ?_
        repeat refine hX _ _ _ _ _ _ _ _ _ _ _ _ _ _ rfl ?_
        exact ⟨rfl, rfl⟩
      | succ k ih =>
        intro i hi
        repeat refine hX _ _ _ _ _ _ _ _ _ _ _ _ _ _ rfl ?_
        refine br_f (show ¬ nI 6 ≤ nI i from nI_ge (by omega) (by decide)) ?_
        repeat refine hX _ _ _ _ _ _ _ _ _ _ _ _ _ _ rfl ?_
        refine ⟨vp_in_nI (by omega) (by decide), ?_⟩
        rw [nI_clamp (by omega)]
        repeat refine hX _ _ _ _ _ _ _ _ _ _ _ _ _ _ rfl ?_
        refine ⟨vp_in_nI (by omega) (by decide), ?_⟩
        rw [nI_clamp (by omega)]
        repeat refine hX _ _ _ _ _ _ _ _ _ _ _ _ _ _ rfl ?_
        refine ⟨vp_in_nI (by omega) (by decide), ?_⟩
        rw [nI_clamp (by omega)]
        repeat refine hX _ _ _ _ _ _ _ _ _ _ _ _ _ _ rfl ?_
        refine ⟨vp_in_nI (by omega) (by decide), ?_⟩
        rw [nI_clamp (by omega)]
        iterate 2 (refine hX _ _ _ _ _ _ _ _ _ _ _ _ _ _ rfl ?_)
        rw [nI_1]
        have h7 := ih (i + 1) (by omega)
        rw [← cpf_s, ← cpf_s] at h7
        exact h7
    iterate 6 (refine hX _ _ _ _ _ _ _ _ _ _ _ _ _ _ rfl ?_)
    have h8 := loop 6 0 (by omega)
    rw [cpf_0, cpf_0] at h8
    exact h8
theorem c_copy_b1 (S : zS) (d : Nat) (sw : Bool) (c : cS) (hm : List zC) : Ex S (d + 1) 0 0 24 [.ref 21, .ref 32] (hC sw c, hm) none (hC sw (s_cSc c (cpN (cI1 c) (cSc c))), hm) := by
  cases sw
  case false =>
    (refine exI rfl rfl ?_; intro X hX)
    have loop : ∀ (k i : Nat), i + k = 6 → X 10 [some (.ref 21), some (.ref 32), some (.int (nI i))] [] (hC false (s_cSc c (nCome (cI1 c), cpf (nYardOf (cI1 c)) (nYardOf (cSc c)) i, cpf (nClaimed (cI1 c)) (nClaimed (cSc c)) i)), hm) 0 0 := by
      intro k
      induction k with
      | zero =>
        intro i hi
        have : i = 6 := by omega
        subst this
        repeat refine hX _ _ _ _ _ _ _ _ _ _ _ _ _ _ rfl ?_
        refine br_t (show nI 6 ≤ nI 6 from nI_le (by omega) (by decide)) ?_
        repeat refine hX _ _ _ _ _ _ _ _ _ _ _ _ _ _ rfl ?_
        exact ⟨rfl, rfl⟩
      | succ k ih =>
        intro i hi
        repeat refine hX _ _ _ _ _ _ _ _ _ _ _ _ _ _ rfl ?_
        refine br_f (show ¬ nI 6 ≤ nI i from nI_ge (by omega) (by decide)) ?_
        repeat refine hX _ _ _ _ _ _ _ _ _ _ _ _ _ _ rfl ?_
        refine ⟨vp_in_nI (by omega) (by decide), ?_⟩
        rw [nI_clamp (by omega)]
        repeat refine hX _ _ _ _ _ _ _ _ _ _ _ _ _ _ rfl ?_
        refine ⟨vp_in_nI (by omega) (by decide), ?_⟩
        rw [nI_clamp (by omega)]
        repeat refine hX _ _ _ _ _ _ _ _ _ _ _ _ _ _ rfl ?_
        refine ⟨vp_in_nI (by omega) (by decide), ?_⟩
        rw [nI_clamp (by omega)]
        repeat refine hX _ _ _ _ _ _ _ _ _ _ _ _ _ _ rfl ?_
        refine ⟨vp_in_nI (by omega) (by decide), ?_⟩
        rw [nI_clamp (by omega)]
        iterate 2 (refine hX _ _ _ _ _ _ _ _ _ _ _ _ _ _ rfl ?_)
        rw [nI_1]
        have h7 := ih (i + 1) (by omega)
        rw [← cpf_s, ← cpf_s] at h7
        exact h7
    iterate 6 (refine hX _ _ _ _ _ _ _ _ _ _ _ _ _ _ rfl ?_)
    have h8 := loop 6 0 (by omega)
    rw [cpf_0, cpf_0] at h8
    exact h8
  case true =>
    (refine exI rfl rfl ?_; intro X hX)
    have loop : ∀ (k i : Nat), i + k = 6 → X 10 [some (.ref 21), some (.ref 32), some (.int (nI i))] [] (hC true (s_cSc c (nCome (cI1 c), cpf (nYardOf (cI1 c)) (nYardOf (cSc c)) i, cpf (nClaimed (cI1 c)) (nClaimed (cSc c)) i)), hm) 0 0 := by
      intro k
      induction k with
      | zero =>
        intro i hi
        have : i = 6 := by omega
        subst this
        repeat refine hX _ _ _ _ _ _ _ _ _ _ _ _ _ _ rfl ?_
        refine br_t (show nI 6 ≤ nI 6 from nI_le (by omega) (by decide)) ?_
        repeat refine hX _ _ _ _ _ _ _ _ _ _ _ _ _ _ rfl ?_
        exact ⟨rfl, rfl⟩
      | succ k ih =>
        intro i hi
        repeat refine hX _ _ _ _ _ _ _ _ _ _ _ _ _ _ rfl ?_
        refine br_f (show ¬ nI 6 ≤ nI i from nI_ge (by omega) (by decide)) ?_
        repeat refine hX _ _ _ _ _ _ _ _ _ _ _ _ _ _ rfl ?_
        refine ⟨vp_in_nI (by omega) (by decide), ?_⟩
        rw [nI_clamp (by omega)]
        repeat refine hX _ _ _ _ _ _ _ _ _ _ _ _ _ _ rfl ?_
        refine ⟨vp_in_nI (by omega) (by decide), ?_⟩
        rw [nI_clamp (by omega)]
        repeat refine hX _ _ _ _ _ _ _ _ _ _ _ _ _ _ rfl ?_
        refine ⟨vp_in_nI (by omega) (by decide), ?_⟩
        rw [nI_clamp (by omega)]
        repeat refine hX _ _ _ _ _ _ _ _ _ _ _ _ _ _ rfl ?_
        refine ⟨vp_in_nI (by omega) (by decide), ?_⟩
        rw [nI_clamp (by omega)]
        iterate 2 (refine hX _ _ _ _ _ _ _ _ _ _ _ _ _ _ rfl ?_)
        rw [nI_1]
        have h7 := ih (i + 1) (by omega)
        rw [← cpf_s, ← cpf_s] at h7
        exact h7
    iterate 6 (refine hX _ _ _ _ _ _ _ _ _ _ _ _ _ _ rfl ?_)
    have h8 := loop 6 0 (by omega)
    rw [cpf_0, cpf_0] at h8
    exact h8
/-! the deeds, one by one -/
def hPk (k : Nat) : Nat := if k = 10 then 10 else k + 1
def hPH (k : Nat) (H : Nat → aN) (N : aN) : Nat → aN := if k = 10 then (fun j => if j < 9 then H (j + 1) else N) else aup H k N
abbrev uDo (a : aS) (N : aN) : aS := uNow a N (hPk (sK a)) (hPH (sK a) (sH a) (sN a))
theorem past_add {a : aS} {p : cP} (hk10 : sK a ≤ 10) (h : pKnown p = nI (sK a) ∧ ∀ j, j < sK a → DRel (sT a) (pDeed p j) (pThing p j) (pDetail p j) (hx a j) (hx a (j + 1))) {N' : aN} {dd t e : Int32} (hd : DRel (sT a) dd t e (sN a) N') : pKnown (pAdd p (sK a) dd t e) = nI (sK (uDo a N')) ∧ ∀ j, j < sK (uDo a N') → DRel (sT a) (pDeed (pAdd p (sK a) dd t e) j) (pThing (pAdd p (sK a) dd t e) j) (pDetail (pAdd p (sK a) dd t e) j) (hx (uDo a N') j) (hx (uDo a N') (j + 1)) := by
  obtain ⟨-, h2⟩ := h
  by_cases hk : sK a = 10
  · have e1 : pAdd p (sK a) dd t e = (nI 10, upd (shl (pDeed p) 9) 9 dd, upd (shl (pThing p) 9) 9 t, upd (shl (pDetail p) 9) 9 e) := by rw [pAdd, if_pos hk]
    have e2 : hPk (sK a) = 10 := by rw [hPk, if_pos hk]
    have e3 : hPH (sK a) (sH a) (sN a) = fun j => if j < 9 then sH a (j + 1) else sN a := by rw [hPH, if_pos hk]
    rw [e1]
    refine ⟨by show nI 10 = nI (hPk (sK a)); rw [e2], fun j hj => ?_⟩
    have hj : j < 10 := by rw [← e2]; exact hj
    have hxj : ∀ i, i < 10 → hx (uDo a N') i = if i < 9 then sH a (i + 1) else sN a := fun i hi => by
      unfold hx
      rw [if_pos (show i < sK (uDo a N') by show i < hPk (sK a); rw [e2]; exact hi)]
      show hPH (sK a) (sH a) (sN a) i = _
      rw [e3]
    have hx10 : hx (uDo a N') 10 = N' := by
      unfold hx
      rw [if_neg (show ¬ 10 < sK (uDo a N') by show ¬ 10 < hPk (sK a); rw [e2]; omega)]
    have hxa : ∀ i, hx a i = if i < 10 then sH a i else sN a := fun i => by unfold hx; rw [hk]
    by_cases h9 : j = 9
    · subst h9
      show DRel (sT a) (upd (shl (pDeed p) 9) 9 dd 9) (upd (shl (pThing p) 9) 9 t 9) (upd (shl (pDetail p) 9) 9 e 9) _ _
      rw [pk_us, pk_us, pk_us, hxj 9 (by omega), hx10]
      exact hd
    · show DRel (sT a) (upd (shl (pDeed p) 9) 9 dd j) (upd (shl (pThing p) 9) 9 t j) (upd (shl (pDetail p) 9) 9 e j) _ _
      rw [pk_un h9, pk_un h9, pk_un h9]
      have e4 : ∀ f : cF, shl f 9 j = f (j + 1) := fun f => by rw [shl, if_pos (by omega)]
      rw [e4, e4, e4, hxj j (by omega), hxj (j + 1) (by omega), if_pos (by omega)]
      have := h2 (j + 1) (by omega)
      rw [hxa (j + 1), hxa (j + 1 + 1), if_pos (by omega)] at this
      by_cases h8 : j + 1 < 9
      · rw [if_pos h8]
        rwa [if_pos (by omega)] at this
      · rw [if_neg h8]
        rwa [if_neg (by omega)] at this
  · have e1 : pAdd p (sK a) dd t e = (nI (sK a + 1), upd (pDeed p) (sK a) dd, upd (pThing p) (sK a) t, upd (pDetail p) (sK a) e) := by rw [pAdd, if_neg hk]
    have e2 : hPk (sK a) = sK a + 1 := by rw [hPk, if_neg hk]
    have e3 : hPH (sK a) (sH a) (sN a) = aup (sH a) (sK a) (sN a) := by rw [hPH, if_neg hk]
    rw [e1]
    refine ⟨by show nI (sK a + 1) = nI (hPk (sK a)); rw [e2], fun j hj => ?_⟩
    have hj : j < sK a + 1 := by rw [← e2]; exact hj
    have hxj : ∀ i, i < sK a + 1 → hx (uDo a N') i = hx a i := fun i hi => by
      unfold hx
      rw [if_pos (show i < sK (uDo a N') by show i < hPk (sK a); rw [e2]; exact hi)]
      show hPH (sK a) (sH a) (sN a) i = _
      rw [e3]
      by_cases h1 : i = sK a
      · rw [h1, aup_s, if_neg (by omega)]
      · rw [aup_n _ _ h1, if_pos (by omega)]
    by_cases h9 : j = sK a
    · have hx1 : hx (uDo a N') (sK a + 1) = N' := by
        unfold hx
        rw [if_neg (show ¬ sK a + 1 < sK (uDo a N') by show ¬ sK a + 1 < hPk (sK a); rw [e2]; omega)]
      show DRel (sT a) (upd (pDeed p) (sK a) dd j) (upd (pThing p) (sK a) t j) (upd (pDetail p) (sK a) e j) _ _
      rw [h9, pk_us, pk_us, pk_us, hxj _ (by omega), hx1]
      have : hx a (sK a) = sN a := by unfold hx; rw [if_neg (by omega)]
      rw [this]
      exact hd
    · show DRel (sT a) (upd (pDeed p) (sK a) dd j) (upd (pThing p) (sK a) t j) (upd (pDetail p) (sK a) e j) _ _
      rw [pk_un h9, pk_un h9, pk_un h9, hxj j (by omega), hxj (j + 1) (by omega)]
      exact h2 j (by omega)
theorem q_orc : ∀ a, a < 64 → ∀ p, p < 6 → a.testBit p = false → (a ||| 2 ^ p) &&& (63 ^^^ 2 ^ p) = a := by decide +kernel
theorem q_clo : ∀ a, a < 64 → ∀ p, p < 6 → a.testBit p = true → (a &&& (63 ^^^ 2 ^ p)) ||| 2 ^ p = a := by decide +kernel
theorem q_p64 : ∀ p, p < 6 → 2 ^ p < 64 := by decide
theorem q_clr_lt : ∀ n, n ≤ 6 → ∀ a, a < 64 → a < 2 ^ n → ∀ p, p < 6 → a &&& (63 ^^^ 2 ^ p) < 2 ^ n := by decide +kernel
theorem or_lt {n a p : Nat} (ha : a < 2 ^ n) (hp : p < n) : a ||| 2 ^ p < 2 ^ n := Nat.or_lt_two_pow ha (Nat.pow_lt_pow_right (by decide) hp)
def spComes (a : aS) (x : Int32) : Int32 × aS := bif inb x (aNp (sT a)) then (bif (nCo (sN a)).testBit x.toNatClampNeg then (-2, a) else (nI (pop (nCo (sN a) ||| 2 ^ x.toNatClampNeg)), uDo a (nCo (sN a) ||| 2 ^ x.toNatClampNeg, nYa (sN a), nCl (sN a)))) else (-1, a)
theorem c_comes (S : zS) (d : Nat) (sw : Bool) (c : cS) (hm : List zC) {a : aS} (hA : AWf a) (hR : CRel c a) (x : Int32) : ∃ c', Ex S (d + 3) 0 0 44 [.ref 0, .int x] (hC sw c, hm) (some (.int (spComes a x).1)) (hC sw c', hm) ∧ CRel c' (spComes a x).2 := by
  have hnp := hA.1.2.2.2.2.1
  have hst := c_hasOne S (d + 1) sw c hm hR.1.2.2.2.1 x
  have hco := nCo_lt hA.1 hA.2.1
  obtain ⟨hk10, -⟩ := hA.2.2.2.1
  have hkn := hR.2.2.2.1.1
  have hcm := hR.2.1.1
  unfold spComes
  cases hin : inb x (aNp (sT a)) with
  | false =>
    rw [hin] at hst
    refine ⟨c, ?_, hR⟩
    cases sw
    all_goals
      (refine exI rfl rfl ?_; intro X hX)
      repeat refine hX _ _ _ _ _ _ _ _ _ _ _ _ _ _ rfl ?_
      refine Or.inl ⟨_, _, hst, ?_⟩
      repeat refine hX _ _ _ _ _ _ _ _ _ _ _ _ _ _ rfl ?_
      refine br_f (show ¬ ¬ b2i false = 0 by decide) ?_
      repeat refine hX _ _ _ _ _ _ _ _ _ _ _ _ _ _ rfl ?_
      exact ⟨rfl, rfl⟩
  | true =>
    rw [hin] at hst
    obtain ⟨j, hj, rfl⟩ := inb_of hin (by omega)
    simp only [cond_true, nI_clamp (show j < 2 ^ 31 by omega)]
    have hhas := fun h => c_hasX S (d + 1) h hco (show j < 6 by omega)
    cases hb : (nCo (sN a)).testBit j with
    | true =>
      rw [hb] at hhas
      refine ⟨c, ?_, hR⟩
      cases sw
      all_goals
        (refine exI rfl rfl ?_; intro X hX)
        repeat refine hX _ _ _ _ _ _ _ _ _ _ _ _ _ _ rfl ?_
        refine Or.inl ⟨_, _, hst, ?_⟩
        repeat refine hX _ _ _ _ _ _ _ _ _ _ _ _ _ _ rfl ?_
        refine br_t (show ¬ b2i true = 0 by decide) ?_
        repeat refine hX _ _ _ _ _ _ _ _ _ _ _ _ _ _ rfl ?_
        rw [hcm]
        refine Or.inl ⟨_, _, hhas _, ?_⟩
        repeat refine hX _ _ _ _ _ _ _ _ _ _ _ _ _ _ rfl ?_
        refine br_f (show ¬ b2i true = 0 by decide) ?_
        repeat refine hX _ _ _ _ _ _ _ _ _ _ _ _ _ _ rfl ?_
        exact ⟨rfl, rfl⟩
    | false =>
      rw [hb] at hhas
      have hor : nI (nCo (sN a)) ||| (1 <<< (nI j &&& 31)) = nI (nCo (sN a) ||| 2 ^ j) := by rw [q_shl j (by omega), nI_or]
      have hl2 := q_or_lt _ hco _ (q_p64 j (by omega))
      have hadd := c_add S d sw (s_cSc c (s_nCome (cSc c) (nI (nCo (sN a) ||| 2 ^ j)))) hm hkn hk10 0 (nI j) 0
      have hbc := fun h => j_bcN S (d + 1) h hl2
      refine ⟨s_cPa (s_cSc c (s_nCome (cSc c) (nI (nCo (sN a) ||| 2 ^ j)))) (pAdd (cPa c) (sK a) 0 (nI j) 0), ?_, ⟨hR.1, ⟨rfl, hR.2.1.2⟩, hR.2.2.1, past_add hk10 hR.2.2.2.1 ⟨vp_in_nI (by omega) (by decide), fun n hn => ?_⟩, hR.2.2.2.2.1, hR.2.2.2.2.2.1, hR.2.2.2.2.2.2.1, hR.2.2.2.2.2.2.2.1, hR.2.2.2.2.2.2.2.2⟩⟩
      rotate_left
      · unfold tb
        rw [if_pos rfl]
        refine ⟨?_, hn.2⟩
        show nCome n &&& ((1 <<< (nI j &&& 31)) ^^^ (-1)) = nI (nCo (sN a))
        rw [show nCome n = nI (nCo (sN a) ||| 2 ^ j) from hn.1, q_shl j (by omega), q_andn _ hl2 _ (q_p64 j (by omega)), q_orc _ hco j (by omega) hb]
      · cases sw
        all_goals
          (refine exI rfl rfl ?_; intro X hX)
          repeat refine hX _ _ _ _ _ _ _ _ _ _ _ _ _ _ rfl ?_
          refine Or.inl ⟨_, _, hst, ?_⟩
          repeat refine hX _ _ _ _ _ _ _ _ _ _ _ _ _ _ rfl ?_
          refine br_t (show ¬ b2i true = 0 by decide) ?_
          repeat refine hX _ _ _ _ _ _ _ _ _ _ _ _ _ _ rfl ?_
          rw [hcm]
          refine Or.inl ⟨_, _, hhas _, ?_⟩
          repeat refine hX _ _ _ _ _ _ _ _ _ _ _ _ _ _ rfl ?_
          refine br_t (show b2i false = 0 from rfl) ?_
          repeat refine hX _ _ _ _ _ _ _ _ _ _ _ _ _ _ rfl ?_
          rw [hcm, hor]
          refine Or.inl ⟨_, _, hadd, ?_⟩
          repeat refine hX _ _ _ _ _ _ _ _ _ _ _ _ _ _ rfl ?_
          refine Or.inl ⟨_, _, hbc _, ?_⟩
          repeat refine hX _ _ _ _ _ _ _ _ _ _ _ _ _ _ rfl ?_
          exact ⟨rfl, rfl⟩
end
section
def spGoes (a : aS) (x : Int32) : Int32 × aS := bif inb x (aNp (sT a)) then (bif (nCo (sN a)).testBit x.toNatClampNeg then (nI (pop (nCo (sN a) &&& (63 ^^^ 2 ^ x.toNatClampNeg))), uDo a (nCo (sN a) &&& (63 ^^^ 2 ^ x.toNatClampNeg), nYa (sN a), nCl (sN a))) else (-2, a)) else (-1, a)
theorem c_goes (S : zS) (d : Nat) (sw : Bool) (c : cS) (hm : List zC) {a : aS} (hA : AWf a) (hR : CRel c a) (x : Int32) : ∃ c', Ex S (d + 3) 0 0 45 [.ref 0, .int x] (hC sw c, hm) (some (.int (spGoes a x).1)) (hC sw c', hm) ∧ CRel c' (spGoes a x).2 := by
  have hnp := hA.1.2.2.2.2.1
  have hst := c_hasOne S (d + 1) sw c hm hR.1.2.2.2.1 x
  have hco := nCo_lt hA.1 hA.2.1
  obtain ⟨hk10, -⟩ := hA.2.2.2.1
  have hkn := hR.2.2.2.1.1
  have hcm := hR.2.1.1
  unfold spGoes
  cases hin : inb x (aNp (sT a)) with
  | false =>
    rw [hin] at hst
    refine ⟨c, ?_, hR⟩
    cases sw
    all_goals
      (refine exI rfl rfl ?_; intro X hX)
      repeat refine hX _ _ _ _ _ _ _ _ _ _ _ _ _ _ rfl ?_
      refine Or.inl ⟨_, _, hst, ?_⟩
      repeat refine hX _ _ _ _ _ _ _ _ _ _ _ _ _ _ rfl ?_
      refine br_f (show ¬ ¬ b2i false = 0 by decide) ?_
      repeat refine hX _ _ _ _ _ _ _ _ _ _ _ _ _ _ rfl ?_
      exact ⟨rfl, rfl⟩
  | true =>
    rw [hin] at hst
    obtain ⟨j, hj, rfl⟩ := inb_of hin (by omega)
    simp only [cond_true, nI_clamp (show j < 2 ^ 31 by omega)]
    have hhas := fun h => c_hasX S (d + 1) h hco (show j < 6 by omega)
    cases hb : (nCo (sN a)).testBit j with
    | true =>
      rw [hb] at hhas
      have hor : nI (nCo (sN a)) &&& ((1 <<< (nI j &&& 31)) ^^^ (-1)) = nI (nCo (sN a) &&& (63 ^^^ 2 ^ j)) := by rw [q_shl j (by omega), q_andn _ hco _ (q_p64 j (by omega))]
      have hl2 : nCo (sN a) &&& (63 ^^^ 2 ^ j) < 64 := q_and_lt hco
      have hadd := c_add S d sw (s_cSc c (s_nCome (cSc c) (nI (nCo (sN a) &&& (63 ^^^ 2 ^ j))))) hm hkn hk10 1 (nI j) 0
      have hbc := fun h => j_bcN S (d + 1) h hl2
      refine ⟨s_cPa (s_cSc c (s_nCome (cSc c) (nI (nCo (sN a) &&& (63 ^^^ 2 ^ j))))) (pAdd (cPa c) (sK a) 1 (nI j) 0), ?_, ⟨hR.1, ⟨rfl, hR.2.1.2⟩, hR.2.2.1, past_add hk10 hR.2.2.2.1 ⟨vp_in_nI (by omega) (by decide), fun n hn => ?_⟩, hR.2.2.2.2.1, hR.2.2.2.2.2.1, hR.2.2.2.2.2.2.1, hR.2.2.2.2.2.2.2.1, hR.2.2.2.2.2.2.2.2⟩⟩
      rotate_left
      · unfold tb
        rw [if_neg (by decide), if_pos rfl]
        refine ⟨?_, hn.2⟩
        show nCome n ||| (1 <<< (nI j &&& 31)) = nI (nCo (sN a))
        rw [show nCome n = nI (nCo (sN a) &&& (63 ^^^ 2 ^ j)) from hn.1, q_shl j (by omega), nI_or, q_clo _ hco j (by omega) hb]
      · cases sw
        all_goals
          (refine exI rfl rfl ?_; intro X hX)
          repeat refine hX _ _ _ _ _ _ _ _ _ _ _ _ _ _ rfl ?_
          refine Or.inl ⟨_, _, hst, ?_⟩
          repeat refine hX _ _ _ _ _ _ _ _ _ _ _ _ _ _ rfl ?_
          refine br_t (show ¬ b2i true = 0 by decide) ?_
          repeat refine hX _ _ _ _ _ _ _ _ _ _ _ _ _ _ rfl ?_
          rw [hcm]
          refine Or.inl ⟨_, _, hhas _, ?_⟩
          repeat refine hX _ _ _ _ _ _ _ _ _ _ _ _ _ _ rfl ?_
          refine br_t (show ¬ b2i true = 0 by decide) ?_
          repeat refine hX _ _ _ _ _ _ _ _ _ _ _ _ _ _ rfl ?_
          rw [hcm, hor]
          refine Or.inl ⟨_, _, hadd, ?_⟩
          repeat refine hX _ _ _ _ _ _ _ _ _ _ _ _ _ _ rfl ?_
          refine Or.inl ⟨_, _, hbc _, ?_⟩
          repeat refine hX _ _ _ _ _ _ _ _ _ _ _ _ _ _ rfl ?_
          exact ⟨rfl, rfl⟩
    | false =>
      rw [hb] at hhas
      refine ⟨c, ?_, hR⟩
      cases sw
      all_goals
        (refine exI rfl rfl ?_; intro X hX)
        repeat refine hX _ _ _ _ _ _ _ _ _ _ _ _ _ _ rfl ?_
        refine Or.inl ⟨_, _, hst, ?_⟩
        repeat refine hX _ _ _ _ _ _ _ _ _ _ _ _ _ _ rfl ?_
        refine br_t (show ¬ b2i true = 0 by decide) ?_
        repeat refine hX _ _ _ _ _ _ _ _ _ _ _ _ _ _ rfl ?_
        rw [hcm]
        refine Or.inl ⟨_, _, hhas _, ?_⟩
        repeat refine hX _ _ _ _ _ _ _ _ _ _ _ _ _ _ rfl ?_
        refine br_f (show ¬ ¬ b2i false = 0 by decide) ?_
        repeat refine hX _ _ _ _ _ _ _ _ _ _ _ _ _ _ rfl ?_
        exact ⟨rfl, rfl⟩
theorem nmask_or1 {n p : Nat} (hp : p < n) {b b' : Nat → Bool} (h : ∀ q, q < n → b' q = (b q || decide (q = p))) : nmask n b ||| 2 ^ p = nmask n b' := by
  apply Nat.eq_of_testBit_eq
  intro q
  rw [Nat.testBit_or, nmask_bit, nmask_bit, Nat.testBit_two_pow]
  by_cases hq : q < n
  · rw [h q hq]
    simp only [hq, decide_true, Bool.true_and]
    congr 1
    exact decide_eq_decide.mpr eq_comm
  · have : ¬ p = q := by omega
    simp [hq, this]
/-- what a claim makes of the claims -/
theorem cl_set {l : aF} {p s j : Nat} (q : Nat) : (aup l p (l p ||| 2 ^ s) q).testBit j = ((l q).testBit j || (decide (q = p) && decide (s = j))) := by
  by_cases hq : q = p
  · subst hq
    rw [aup_s, Nat.testBit_or, Nat.testBit_two_pow]
    simp
  · rw [aup_n _ _ hq]
    simp [hq]
def spClaims (a : aS) (x y : Int32) : Int32 × aS := bif inb x (aNp (sT a)) && inb y (aNs (sT a)) then (bif (aWr (sT a) (sN a) y.toNatClampNeg).testBit x.toNatClampNeg then (-2, a) else (if aCr (sT a) x.toNatClampNeg ≤ pop (nCl (sN a) x.toNatClampNeg) then (-3, a) else (nI (aPull (sT a) (nCo (sN a), nYa (sN a), aup (nCl (sN a)) x.toNatClampNeg (nCl (sN a) x.toNatClampNeg ||| 2 ^ y.toNatClampNeg)) y.toNatClampNeg), uDo a (nCo (sN a), nYa (sN a), aup (nCl (sN a)) x.toNatClampNeg (nCl (sN a) x.toNatClampNeg ||| 2 ^ y.toNatClampNeg))))) else (-1, a)
theorem claim_wf {A : aT} {N : aN} (hW : NWf A N) {p s : Nat} (hs : s < aNs A) : NWf A (nCo N, nYa N, aup (nCl N) p (nCl N p ||| 2 ^ s)) := by
  refine ⟨hW.1, hW.2.1, hW.2.2.1, fun q hq => ?_⟩
  show aup (nCl N) p (nCl N p ||| 2 ^ s) q < _
  by_cases h : q = p
  · subst h; rw [aup_s]; exact or_lt (hW.2.2.2 q hq) hs
  · rw [aup_n _ _ h]; exact hW.2.2.2 q hq
theorem claim_rel {A : aT} (hA : TWf A) {N : aN} {n : cN} (hN : NRel A n N) {p s : Nat} (hp : p < aNp A) (hs : s < aNs A) : NRel A (nCome n, nYardOf n, upd (nClaimed n) s (nClaimed n s ||| (1 <<< (nI p &&& 31)))) (nCo N, nYa N, aup (nCl N) p (nCl N p ||| 2 ^ s)) := by
  have hnp := hA.2.2.2.2.1
  have hns := hA.2.2.2.1
  refine ⟨hN.1, hN.2.1, fun j hj => ?_⟩
  show upd (nClaimed n) s (nClaimed n s ||| (1 <<< (nI p &&& 31))) j = nI (nmask (aNp A) (fun q => (aup (nCl N) p (nCl N p ||| 2 ^ s) q).testBit j))
  by_cases h : j = s
  · subst h
    rw [pk_us, hN.2.2 j hj, q_shl p (by omega), nI_or, nmask_or1 hp (b' := fun q => (aup (nCl N) p (nCl N p ||| 2 ^ j) q).testBit j) (fun q hq => by rw [cl_set]; simp)]
  · rw [pk_un h, hN.2.2 j hj]
    refine congrArg nI (nmask_congr _ fun q hq => ?_)
    rw [cl_set]
    simp [Ne.symm h]
theorem claim_undo {A : aT} (hA : TWf A) {N : aN} {p s : Nat} (hp : p < aNp A) (hs : s < aNs A) (hb : (nCl N p).testBit s = false) : DRel A 2 (nI s) (nI p) N (nCo N, nYa N, aup (nCl N) p (nCl N p ||| 2 ^ s)) := by
  have hnp := hA.2.2.2.2.1
  have hns := hA.2.2.2.1
  refine ⟨vp_in_nI (by omega) (by decide), fun n hn => ?_⟩
  unfold tb
  rw [if_neg (by decide), if_neg (by decide), if_pos rfl, nI_clamp (by omega)]
  refine ⟨hn.1, hn.2.1, fun j hj => ?_⟩
  show upd (nClaimed n) s (nClaimed n s &&& ((1 <<< (nI p &&& 31)) ^^^ (-1))) j = _
  have h6 : ∀ j, j < 6 → nClaimed n j = nI (nmask (aNp A) (fun q => (aup (nCl N) p (nCl N p ||| 2 ^ s) q).testBit j)) := hn.2.2
  by_cases h : j = s
  · subst h
    have hbm : (nmask (aNp A) (fun q => (nCl N q).testBit j)).testBit p = false := by rw [nmask_bit]; simp [hp, hb]
    rw [pk_us, h6 j hj, ← nmask_or1 hp (b := fun q => (nCl N q).testBit j) (fun q hq => by rw [cl_set]; simp), q_shl p (by omega), q_andn _ (q_or_lt _ (nmask_lt64 hnp _) _ (q_p64 p (by omega))) _ (q_p64 p (by omega)), q_orc _ (nmask_lt64 hnp _) p (by omega) hbm]
  · rw [pk_un h, h6 j hj]
    refine congrArg nI (nmask_congr _ fun q hq => ?_)
    rw [cl_set]
    simp [Ne.symm h]
theorem c_claims (S : zS) (d : Nat) (sw : Bool) (c : cS) (hm : List zC) {a : aS} (hA : AWf a) (hR : CRel c a) (x y : Int32) : ∃ c', Ex S (d + 4) 0 0 46 [.ref 0, .int x, .int y] (hC sw c, hm) (some (.int (spClaims a x y).1)) (hC sw c', hm) ∧ CRel c' (spClaims a x y).2 := by
  have hnp := hA.1.2.2.2.2.1
  have hns := hA.1.2.2.2.1
  have hst := c_hasOne S (d + 2) sw c hm hR.1.2.2.2.1 x
  have hst2 := c_hasStatue S (d + 2) sw c hm hR.1.2.2.1 y
  obtain ⟨hk10, -⟩ := hA.2.2.2.1
  have hkn := hR.2.2.2.1.1
  unfold spClaims
  cases hin : inb x (aNp (sT a)) with
  | false =>
    rw [hin] at hst
    refine ⟨c, ?_, hR⟩
    cases sw
    all_goals
      (refine exI rfl rfl ?_; intro X hX)
      repeat refine hX _ _ _ _ _ _ _ _ _ _ _ _ _ _ rfl ?_
      refine Or.inl ⟨_, _, hst, ?_⟩
      repeat refine hX _ _ _ _ _ _ _ _ _ _ _ _ _ _ rfl ?_
      refine br_t (show b2i false = 0 from rfl) ?_
      repeat refine hX _ _ _ _ _ _ _ _ _ _ _ _ _ _ rfl ?_
      exact ⟨rfl, rfl⟩
  | true =>
    rw [hin] at hst
    obtain ⟨p, hp, rfl⟩ := inb_of hin (by omega)
    cases hin2 : inb y (aNs (sT a)) with
    | false =>
      rw [hin2] at hst2
      refine ⟨c, ?_, hR⟩
      cases sw
      all_goals
        (refine exI rfl rfl ?_; intro X hX)
        repeat refine hX _ _ _ _ _ _ _ _ _ _ _ _ _ _ rfl ?_
        refine Or.inl ⟨_, _, hst, ?_⟩
        repeat refine hX _ _ _ _ _ _ _ _ _ _ _ _ _ _ rfl ?_
        refine br_f (show ¬ b2i true = 0 by decide) ?_
        repeat refine hX _ _ _ _ _ _ _ _ _ _ _ _ _ _ rfl ?_
        refine Or.inl ⟨_, _, hst2, ?_⟩
        repeat refine hX _ _ _ _ _ _ _ _ _ _ _ _ _ _ rfl ?_
        refine br_f (show ¬ ¬ b2i false = 0 by decide) ?_
        repeat refine hX _ _ _ _ _ _ _ _ _ _ _ _ _ _ rfl ?_
        exact ⟨rfl, rfl⟩
    | true =>
      rw [hin2] at hst2
      obtain ⟨s, hs, rfl⟩ := inb_of hin2 (by omega)
      simp only [cond_true, Bool.and_self, nI_clamp (show p < 2 ^ 31 by omega), nI_clamp (show s < 2 ^ 31 by omega)]
      have hwr := c_wr S (d + 2) sw c hm hA.1 hR.1 hR.2.1 hs
      have hwl := aWr_lt hA.1 (sN a) s
      have hhas := fun h => c_hasX S (d + 2) h hwl (show p < 6 by omega)
      cases hb : (aWr (sT a) (sN a) s).testBit p with
      | true =>
        rw [hb] at hhas
        refine ⟨c, ?_, hR⟩
        cases sw
        all_goals
          (refine exI rfl rfl ?_; intro X hX)
          repeat refine hX _ _ _ _ _ _ _ _ _ _ _ _ _ _ rfl ?_
          refine Or.inl ⟨_, _, hst, ?_⟩
          repeat refine hX _ _ _ _ _ _ _ _ _ _ _ _ _ _ rfl ?_
          refine br_f (show ¬ b2i true = 0 by decide) ?_
          repeat refine hX _ _ _ _ _ _ _ _ _ _ _ _ _ _ rfl ?_
          refine Or.inl ⟨_, _, hst2, ?_⟩
          repeat refine hX _ _ _ _ _ _ _ _ _ _ _ _ _ _ rfl ?_
          refine br_t (show ¬ b2i true = 0 by decide) ?_
          repeat refine hX _ _ _ _ _ _ _ _ _ _ _ _ _ _ rfl ?_
          refine Or.inl ⟨_, _, hwr, ?_⟩
          repeat refine hX _ _ _ _ _ _ _ _ _ _ _ _ _ _ rfl ?_
          refine Or.inl ⟨_, _, hhas _, ?_⟩
          repeat refine hX _ _ _ _ _ _ _ _ _ _ _ _ _ _ rfl ?_
          refine br_f (show ¬ b2i true = 0 by decide) ?_
          repeat refine hX _ _ _ _ _ _ _ _ _ _ _ _ _ _ rfl ?_
          exact ⟨rfl, rfl⟩
      | false =>
        rw [hb] at hhas
        have htb := c_timesB S (d + 1) sw c hm hA.1 hR.2.1 hp
        have hcr := (hR.1.2.2.2.2.2 p hp).2.2.1
        have hc3 := (hA.1.2.2.2.2.2.2 p hp).2.2.2.1
        have hpop : pop (nCl (sN a) p) ≤ 6 := by rw [← pop_cnt]; exact aCnt_le _ 6
        simp only [cond_false]
        by_cases hle : aCr (sT a) p ≤ pop (nCl (sN a) p)
        · rw [if_pos hle]
          refine ⟨c, ?_, hR⟩
          cases sw
          all_goals
            (refine exI rfl rfl ?_; intro X hX)
            repeat refine hX _ _ _ _ _ _ _ _ _ _ _ _ _ _ rfl ?_
            refine Or.inl ⟨_, _, hst, ?_⟩
            repeat refine hX _ _ _ _ _ _ _ _ _ _ _ _ _ _ rfl ?_
            refine br_f (show ¬ b2i true = 0 by decide) ?_
            repeat refine hX _ _ _ _ _ _ _ _ _ _ _ _ _ _ rfl ?_
            refine Or.inl ⟨_, _, hst2, ?_⟩
            repeat refine hX _ _ _ _ _ _ _ _ _ _ _ _ _ _ rfl ?_
            refine br_t (show ¬ b2i true = 0 by decide) ?_
            repeat refine hX _ _ _ _ _ _ _ _ _ _ _ _ _ _ rfl ?_
            refine Or.inl ⟨_, _, hwr, ?_⟩
            repeat refine hX _ _ _ _ _ _ _ _ _ _ _ _ _ _ rfl ?_
            refine Or.inl ⟨_, _, hhas _, ?_⟩
            repeat refine hX _ _ _ _ _ _ _ _ _ _ _ _ _ _ rfl ?_
            refine br_t (show b2i false = 0 from rfl) ?_
            repeat refine hX _ _ _ _ _ _ _ _ _ _ _ _ _ _ rfl ?_
            refine Or.inl ⟨_, _, htb, ?_⟩
            repeat refine hX _ _ _ _ _ _ _ _ _ _ _ _ _ _ rfl ?_
            refine ⟨vp_in_nI (by omega) (by decide), ?_⟩
            rw [nI_clamp (by omega)]
            rw [hcr]
            repeat refine hX _ _ _ _ _ _ _ _ _ _ _ _ _ _ rfl ?_
            refine br_f (show ¬ nI (pop (nCl (sN a) p)) < nI (aCr (sT a) p) from nI_nlt hle (by omega)) ?_
            repeat refine hX _ _ _ _ _ _ _ _ _ _ _ _ _ _ rfl ?_
            exact ⟨rfl, rfl⟩
        · rw [if_neg hle]
          have hbc : (nCl (sN a) p).testBit s = false := by
            unfold aWr at hb
            rw [nmask_bit] at hb
            simp only [hp, decide_true, Bool.true_and, Bool.or_eq_false_iff] at hb
            exact hb.2
          have hN' := claim_rel hA.1 hR.2.1 hp hs
          have hW' := claim_wf (p := p) hA.2.1 hs
          have hadd := c_add S (d + 1) sw (s_cSc c (nCome (cSc c), nYardOf (cSc c), upd (nClaimed (cSc c)) s (nClaimed (cSc c) s ||| (1 <<< (nI p &&& 31))))) hm hkn hk10 2 (nI s) (nI p)
          have hpu := c_pullAt S d sw (s_cPa (s_cSc c (nCome (cSc c), nYardOf (cSc c), upd (nClaimed (cSc c)) s (nClaimed (cSc c) s ||| (1 <<< (nI p &&& 31))))) (pAdd (cPa c) (sK a) 2 (nI s) (nI p))) hm hA.1 hR.1 hW' hN' hs
          refine ⟨s_cPa (s_cSc c (nCome (cSc c), nYardOf (cSc c), upd (nClaimed (cSc c)) s (nClaimed (cSc c) s ||| (1 <<< (nI p &&& 31))))) (pAdd (cPa c) (sK a) 2 (nI s) (nI p)), ?_, ⟨hR.1, hN', hR.2.2.1, past_add hk10 hR.2.2.2.1 (claim_undo hA.1 hp hs hbc), hR.2.2.2.2.1, hR.2.2.2.2.2.1, hR.2.2.2.2.2.2.1, hR.2.2.2.2.2.2.2.1, hR.2.2.2.2.2.2.2.2⟩⟩
          cases sw
          all_goals
            (refine exI rfl rfl ?_; intro X hX)
            repeat refine hX _ _ _ _ _ _ _ _ _ _ _ _ _ _ rfl ?_
            refine Or.inl ⟨_, _, hst, ?_⟩
            repeat refine hX _ _ _ _ _ _ _ _ _ _ _ _ _ _ rfl ?_
            refine br_f (show ¬ b2i true = 0 by decide) ?_
            repeat refine hX _ _ _ _ _ _ _ _ _ _ _ _ _ _ rfl ?_
            refine Or.inl ⟨_, _, hst2, ?_⟩
            repeat refine hX _ _ _ _ _ _ _ _ _ _ _ _ _ _ rfl ?_
            refine br_t (show ¬ b2i true = 0 by decide) ?_
            repeat refine hX _ _ _ _ _ _ _ _ _ _ _ _ _ _ rfl ?_
            refine Or.inl ⟨_, _, hwr, ?_⟩
            repeat refine hX _ _ _ _ _ _ _ _ _ _ _ _ _ _ rfl ?_
            refine Or.inl ⟨_, _, hhas _, ?_⟩
            repeat refine hX _ _ _ _ _ _ _ _ _ _ _ _ _ _ rfl ?_
            refine br_t (show b2i false = 0 from rfl) ?_
            repeat refine hX _ _ _ _ _ _ _ _ _ _ _ _ _ _ rfl ?_
            refine Or.inl ⟨_, _, htb, ?_⟩
            repeat refine hX _ _ _ _ _ _ _ _ _ _ _ _ _ _ rfl ?_
            refine ⟨vp_in_nI (by omega) (by decide), ?_⟩
            rw [nI_clamp (by omega)]
            rw [hcr]
            repeat refine hX _ _ _ _ _ _ _ _ _ _ _ _ _ _ rfl ?_
            refine br_t (show nI (pop (nCl (sN a) p)) < nI (aCr (sT a) p) from nI_lt (by omega) (by omega)) ?_
            repeat refine hX _ _ _ _ _ _ _ _ _ _ _ _ _ _ rfl ?_
            refine ⟨vp_in_nI (by omega) (by decide), ?_⟩
            rw [nI_clamp (by omega)]
            repeat refine hX _ _ _ _ _ _ _ _ _ _ _ _ _ _ rfl ?_
            refine ⟨vp_in_nI (by omega) (by decide), ?_⟩
            rw [nI_clamp (by omega)]
            repeat refine hX _ _ _ _ _ _ _ _ _ _ _ _ _ _ rfl ?_
            refine Or.inl ⟨_, _, hadd, ?_⟩
            repeat refine hX _ _ _ _ _ _ _ _ _ _ _ _ _ _ rfl ?_
            refine Or.inl ⟨_, _, hpu, ?_⟩
            repeat refine hX _ _ _ _ _ _ _ _ _ _ _ _ _ _ rfl ?_
            exact ⟨rfl, rfl⟩
end
section
theorem c_isSide (S : zS) (d : Nat) (h : zH) (x : Int32) : Ex S (d + 1) 0 0 84 [.int x] h (some (.int (b2i (inb x 2)))) h := by
  cases hin : inb x 2 with
  | true =>
    obtain ⟨j, hj, rfl⟩ := inb_of hin (by decide)
    (refine exI rfl rfl ?_; intro X hX)
    repeat refine hX _ _ _ _ _ _ _ _ _ _ _ _ _ _ rfl ?_
    by_cases h0 : j = 0
    · subst h0
      refine br_t (show nI 0 = 0 from rfl) ?_
      repeat refine hX _ _ _ _ _ _ _ _ _ _ _ _ _ _ rfl ?_
      exact ⟨Or.inr rfl, rfl, rfl⟩
    · have : j = 1 := by omega
      subst this
      refine br_f (show ¬ nI 1 = 0 by decide) ?_
      repeat refine hX _ _ _ _ _ _ _ _ _ _ _ _ _ _ rfl ?_
      refine br_f (show ¬ ¬ nI 1 = 1 by decide) ?_
      repeat refine hX _ _ _ _ _ _ _ _ _ _ _ _ _ _ rfl ?_
      exact ⟨Or.inr rfl, rfl, rfl⟩
  | false =>
    have h0 : ¬ x = 0 := fun h => by rw [h] at hin; exact absurd hin (by decide)
    have h1 : ¬ x = 1 := fun h => by rw [h] at hin; exact absurd hin (by decide)
    (refine exI rfl rfl ?_; intro X hX)
    repeat refine hX _ _ _ _ _ _ _ _ _ _ _ _ _ _ rfl ?_
    refine br_f (show ¬ x = 0 from h0) ?_
    repeat refine hX _ _ _ _ _ _ _ _ _ _ _ _ _ _ rfl ?_
    refine br_t (show ¬ x = 1 from h1) ?_
    repeat refine hX _ _ _ _ _ _ _ _ _ _ _ _ _ _ rfl ?_
    exact ⟨Or.inl rfl, rfl, rfl⟩
theorem c_isImage (S : zS) (d : Nat) (h : zH) (x : Int32) : Ex S (d + 1) 0 0 86 [.int x] h (some (.int (b2i (inb x 2)))) h := by
  (refine exI rfl rfl ?_; intro X hX)
  repeat refine hX _ _ _ _ _ _ _ _ _ _ _ _ _ _ rfl ?_
  refine ⟨fun hc => ?_, fun hc => ?_⟩
  · have hc : x < 0 := hc
    repeat refine hX _ _ _ _ _ _ _ _ _ _ _ _ _ _ rfl ?_
    exact ⟨Or.inl rfl, by simp [inb, hc, b2i], rfl⟩
  · have hc : ¬ x < 0 := hc
    repeat refine hX _ _ _ _ _ _ _ _ _ _ _ _ _ _ rfl ?_
    refine ⟨fun h2 => ?_, fun h2 => ?_⟩
    · have h2 : ¬ x < nI 2 := Int32.not_lt.mpr h2
      repeat refine hX _ _ _ _ _ _ _ _ _ _ _ _ _ _ rfl ?_
      exact ⟨Or.inl rfl, by simp [inb, hc, h2, b2i], rfl⟩
    · have h2 : x < nI 2 := Int32.not_le.mp h2
      repeat refine hX _ _ _ _ _ _ _ _ _ _ _ _ _ _ rfl ?_
      exact ⟨Or.inr rfl, by simp [inb, hc, h2, b2i], rfl⟩
def aStep (x : Int32) : Int32 := if x = 1 then 1 else -1
theorem c_stepTo (S : zS) (d : Nat) (h : zH) (x : Int32) : Ex S (d + 1) 0 0 85 [.int x] h (some (.int (aStep x))) h := by
  (refine exI rfl rfl ?_; intro X hX)
  repeat refine hX _ _ _ _ _ _ _ _ _ _ _ _ _ _ rfl ?_
  refine ⟨fun hc => ?_, fun hc => ?_⟩
  · repeat refine hX _ _ _ _ _ _ _ _ _ _ _ _ _ _ rfl ?_
    exact ⟨by rw [aStep, if_neg (show ¬ x = 1 from hc)], rfl⟩
  · repeat refine hX _ _ _ _ _ _ _ _ _ _ _ _ _ _ rfl ?_
    exact ⟨by rw [aStep, if_pos (show x = 1 from Classical.not_not.mp hc)], rfl⟩
def aTo (a : aS) (s : Nat) (y : Int32) : Int32 := nI (nYa (sN a) s) + aStep y
def spPulls (a : aS) (x y : Int32) : Int32 × aS := bif inb x (aNs (sT a)) && inb y 2 then (bif aMov (sT a) (sN a) x.toNatClampNeg && (inb (aTo a x.toNatClampNeg y) (aNy (sT a)) && decide (aSin (sT a) (sN a) (aTo a x.toNatClampNeg y) = -9)) then (aTo a x.toNatClampNeg y, uDo a (nCo (sN a), aup (nYa (sN a)) x.toNatClampNeg (aTo a x.toNatClampNeg y).toNatClampNeg, nCl (sN a))) else (-2, a)) else (-1, a)
theorem pull_wf {A : aT} (hA : TWf A) {N : aN} (hW : NWf A N) {s t : Nat} (ht : t < aNy A) (hn : aSin A N (nI t) = -9) : NWf A (nCo N, aup (nYa N) s t, nCl N) := by
  have hns := hA.2.2.2.1
  have hny := hA.2.1
  have hne : ∀ k, k < aNs A → ¬ nYa N k = t := fun k hk h => aFst_none (aNs A) 0 (by omega) hn k (by omega) (by omega) (congrArg nI h)
  refine ⟨hW.1, fun j hj => ?_, fun j hj k hk h => ?_, hW.2.2.2⟩
  · show aup (nYa N) s t j < _
    by_cases h : j = s
    · rw [h, aup_s]; exact ht
    · rw [aup_n _ _ h]; exact hW.2.1 j hj
  · have h : aup (nYa N) s t j = aup (nYa N) s t k := h
    by_cases h1 : j = s
    · by_cases h2 : k = s
      · omega
      · rw [h1, aup_s, aup_n _ _ h2] at h
        exact absurd h.symm (hne k hk)
    · by_cases h2 : k = s
      · rw [h2, aup_s, aup_n _ _ h1] at h
        exact absurd h (hne j hj)
      · rw [aup_n _ _ h1, aup_n _ _ h2] at h
        exact hW.2.2.1 j hj k hk h
theorem c_pulls (S : zS) (d : Nat) (sw : Bool) (c : cS) (hm : List zC) {a : aS} (hA : AWf a) (hR : CRel c a) (x y : Int32) : ∃ c', Ex S (d + 5) 0 0 47 [.ref 0, .int x, .int y] (hC sw c, hm) (some (.int (spPulls a x y).1)) (hC sw c', hm) ∧ CRel c' (spPulls a x y).2 := by
  have hns := hA.1.2.2.2.1
  have hny := hA.1.2.1
  have hst := c_hasStatue S (d + 3) sw c hm hR.1.2.2.1 x
  have hsi := fun h => c_isSide S (d + 3) h y
  obtain ⟨hk10, -⟩ := hA.2.2.2.1
  have hkn := hR.2.2.2.1.1
  unfold spPulls
  cases hin : inb x (aNs (sT a)) with
  | false =>
    rw [hin] at hst
    refine ⟨c, ?_, hR⟩
    cases sw
    all_goals
      (refine exI rfl rfl ?_; intro X hX)
      repeat refine hX _ _ _ _ _ _ _ _ _ _ _ _ _ _ rfl ?_
      refine Or.inl ⟨_, _, hst, ?_⟩
      repeat refine hX _ _ _ _ _ _ _ _ _ _ _ _ _ _ rfl ?_
      refine br_t (show b2i false = 0 from rfl) ?_
      repeat refine hX _ _ _ _ _ _ _ _ _ _ _ _ _ _ rfl ?_
      exact ⟨rfl, rfl⟩
  | true =>
    rw [hin] at hst
    obtain ⟨s, hs, rfl⟩ := inb_of hin (by omega)
    cases hin2 : inb y 2 with
    | false =>
      rw [hin2] at hsi
      refine ⟨c, ?_, hR⟩
      cases sw
      all_goals
        (refine exI rfl rfl ?_; intro X hX)
        repeat refine hX _ _ _ _ _ _ _ _ _ _ _ _ _ _ rfl ?_
        refine Or.inl ⟨_, _, hst, ?_⟩
        repeat refine hX _ _ _ _ _ _ _ _ _ _ _ _ _ _ rfl ?_
        refine br_f (show ¬ b2i true = 0 by decide) ?_
        repeat refine hX _ _ _ _ _ _ _ _ _ _ _ _ _ _ rfl ?_
        refine Or.inl ⟨_, _, hsi _, ?_⟩
        repeat refine hX _ _ _ _ _ _ _ _ _ _ _ _ _ _ rfl ?_
        refine br_f (show ¬ ¬ b2i false = 0 by decide) ?_
        repeat refine hX _ _ _ _ _ _ _ _ _ _ _ _ _ _ rfl ?_
        exact ⟨rfl, rfl⟩
    | true =>
      rw [hin2] at hsi
      simp only [cond_true, Bool.and_self, nI_clamp (show s < 2 ^ 31 by omega)]
      have hsp := fun h => c_stepTo S (d + 3) h y
      have hmo := c_moves S d sw c hm hA.1 hR.1 hA.2.1 hR.2.1 hs
      have hya := c_hasYard S (d + 3) sw c hm hR.1.1 (aTo a s y)
      have hsn := c_statueIn S (d + 3) sw c hm hA.1 hR.1 hR.2.1 (aTo a s y)
      have hyf := hR.2.1.2.1 s hs
      cases hmv : aMov (sT a) (sN a) s with
      | false =>
        rw [hmv] at hmo
        refine ⟨c, ?_, hR⟩
        cases sw
        all_goals
          (refine exI rfl rfl ?_; intro X hX)
          repeat refine hX _ _ _ _ _ _ _ _ _ _ _ _ _ _ rfl ?_
          refine Or.inl ⟨_, _, hst, ?_⟩
          repeat refine hX _ _ _ _ _ _ _ _ _ _ _ _ _ _ rfl ?_
          refine br_f (show ¬ b2i true = 0 by decide) ?_
          repeat refine hX _ _ _ _ _ _ _ _ _ _ _ _ _ _ rfl ?_
          refine Or.inl ⟨_, _, hsi _, ?_⟩
          repeat refine hX _ _ _ _ _ _ _ _ _ _ _ _ _ _ rfl ?_
          refine br_t (show ¬ b2i true = 0 by decide) ?_
          repeat refine hX _ _ _ _ _ _ _ _ _ _ _ _ _ _ rfl ?_
          refine ⟨vp_in_nI (by omega) (by decide), ?_⟩
          rw [nI_clamp (by omega)]
          rw [hyf]
          repeat refine hX _ _ _ _ _ _ _ _ _ _ _ _ _ _ rfl ?_
          refine Or.inl ⟨_, _, hsp _, ?_⟩
          repeat refine hX _ _ _ _ _ _ _ _ _ _ _ _ _ _ rfl ?_
          refine Or.inl ⟨_, _, hmo, ?_⟩
          repeat refine hX _ _ _ _ _ _ _ _ _ _ _ _ _ _ rfl ?_
          refine br_t (show b2i false = 0 from rfl) ?_
          repeat refine hX _ _ _ _ _ _ _ _ _ _ _ _ _ _ rfl ?_
          exact ⟨rfl, rfl⟩
      | true =>
        rw [hmv] at hmo
        cases hiy : inb (aTo a s y) (aNy (sT a)) with
        | false =>
          rw [hiy] at hya
          refine ⟨c, ?_, hR⟩
          cases sw
          all_goals
            (refine exI rfl rfl ?_; intro X hX)
            repeat refine hX _ _ _ _ _ _ _ _ _ _ _ _ _ _ rfl ?_
            refine Or.inl ⟨_, _, hst, ?_⟩
            repeat refine hX _ _ _ _ _ _ _ _ _ _ _ _ _ _ rfl ?_
            refine br_f (show ¬ b2i true = 0 by decide) ?_
            repeat refine hX _ _ _ _ _ _ _ _ _ _ _ _ _ _ rfl ?_
            refine Or.inl ⟨_, _, hsi _, ?_⟩
            repeat refine hX _ _ _ _ _ _ _ _ _ _ _ _ _ _ rfl ?_
            refine br_t (show ¬ b2i true = 0 by decide) ?_
            repeat refine hX _ _ _ _ _ _ _ _ _ _ _ _ _ _ rfl ?_
            refine ⟨vp_in_nI (by omega) (by decide), ?_⟩
            rw [nI_clamp (by omega)]
            rw [hyf]
            repeat refine hX _ _ _ _ _ _ _ _ _ _ _ _ _ _ rfl ?_
            refine Or.inl ⟨_, _, hsp _, ?_⟩
            repeat refine hX _ _ _ _ _ _ _ _ _ _ _ _ _ _ rfl ?_
            refine Or.inl ⟨_, _, hmo, ?_⟩
            repeat refine hX _ _ _ _ _ _ _ _ _ _ _ _ _ _ rfl ?_
            refine br_f (show ¬ b2i true = 0 by decide) ?_
            repeat refine hX _ _ _ _ _ _ _ _ _ _ _ _ _ _ rfl ?_
            refine Or.inl ⟨_, _, hya, ?_⟩
            repeat refine hX _ _ _ _ _ _ _ _ _ _ _ _ _ _ rfl ?_
            refine br_t (show b2i false = 0 from rfl) ?_
            repeat refine hX _ _ _ _ _ _ _ _ _ _ _ _ _ _ rfl ?_
            exact ⟨rfl, rfl⟩
        | true =>
          rw [hiy] at hya
          by_cases h9 : aSin (sT a) (sN a) (aTo a s y) = -9
          · obtain ⟨t, ht, hto⟩ := inb_of hiy (by omega)
            rw [decide_eq_true h9]
            simp only [Bool.and_self, cond_true]
            have hadd := c_add S (d + 2) sw (s_cSc c (nCome (cSc c), upd (nYardOf (cSc c)) s (aTo a s y), nClaimed (cSc c))) hm hkn hk10 3 (nI s) (nI (nYa (sN a) s))
            refine ⟨s_cPa (s_cSc c (nCome (cSc c), upd (nYardOf (cSc c)) s (aTo a s y), nClaimed (cSc c))) (pAdd (cPa c) (sK a) 3 (nI s) (nI (nYa (sN a) s))), ?_, ⟨hR.1, ⟨hR.2.1.1, fun j hj => ?_, hR.2.1.2.2⟩, hR.2.2.1, past_add hk10 hR.2.2.2.1 ⟨vp_in_nI (by omega) (by decide), fun n hn => ?_⟩, hR.2.2.2.2.1, hR.2.2.2.2.2.1, hR.2.2.2.2.2.2.1, hR.2.2.2.2.2.2.2.1, hR.2.2.2.2.2.2.2.2⟩⟩
            rotate_left
            · show upd (nYardOf (cSc c)) s (aTo a s y) j = nI (aup (nYa (sN a)) s (aTo a s y).toNatClampNeg j)
              rw [hto, nI_clamp (by omega)]
              by_cases h : j = s
              · rw [h, pk_us, aup_s]
              · rw [pk_un h, aup_n _ _ h]; exact hR.2.1.2.1 j hj
            · unfold tb
              rw [if_neg (by decide), if_neg (by decide), if_neg (by decide), nI_clamp (by omega)]
              refine ⟨hn.1, fun j hj => ?_, hn.2.2⟩
              show upd (nYardOf n) s (nI (nYa (sN a) s)) j = nI (nYa (sN a) j)
              by_cases h : j = s
              · rw [h, pk_us]
              · rw [pk_un h]
                have := hn.2.1 j hj
                rw [this]
                show nI (aup (nYa (sN a)) s _ j) = _
                rw [aup_n _ _ h]
            · cases sw
              all_goals
                (refine exI rfl rfl ?_; intro X hX)
                repeat refine hX _ _ _ _ _ _ _ _ _ _ _ _ _ _ rfl ?_
                refine Or.inl ⟨_, _, hst, ?_⟩
                repeat refine hX _ _ _ _ _ _ _ _ _ _ _ _ _ _ rfl ?_
                refine br_f (show ¬ b2i true = 0 by decide) ?_
                repeat refine hX _ _ _ _ _ _ _ _ _ _ _ _ _ _ rfl ?_
                refine Or.inl ⟨_, _, hsi _, ?_⟩
                repeat refine hX _ _ _ _ _ _ _ _ _ _ _ _ _ _ rfl ?_
                refine br_t (show ¬ b2i true = 0 by decide) ?_
                repeat refine hX _ _ _ _ _ _ _ _ _ _ _ _ _ _ rfl ?_
                refine ⟨vp_in_nI (by omega) (by decide), ?_⟩
                rw [nI_clamp (by omega)]
                rw [hyf]
                repeat refine hX _ _ _ _ _ _ _ _ _ _ _ _ _ _ rfl ?_
                refine Or.inl ⟨_, _, hsp _, ?_⟩
                repeat refine hX _ _ _ _ _ _ _ _ _ _ _ _ _ _ rfl ?_
                refine Or.inl ⟨_, _, hmo, ?_⟩
                repeat refine hX _ _ _ _ _ _ _ _ _ _ _ _ _ _ rfl ?_
                refine br_f (show ¬ b2i true = 0 by decide) ?_
                repeat refine hX _ _ _ _ _ _ _ _ _ _ _ _ _ _ rfl ?_
                refine Or.inl ⟨_, _, hya, ?_⟩
                repeat refine hX _ _ _ _ _ _ _ _ _ _ _ _ _ _ rfl ?_
                refine br_f (show ¬ b2i true = 0 by decide) ?_
                repeat refine hX _ _ _ _ _ _ _ _ _ _ _ _ _ _ rfl ?_
                refine Or.inl ⟨_, _, hsn, ?_⟩
                repeat refine hX _ _ _ _ _ _ _ _ _ _ _ _ _ _ rfl ?_
                refine br_t (show aSin (sT a) (sN a) (aTo a s y) = -9 from h9) ?_
                repeat refine hX _ _ _ _ _ _ _ _ _ _ _ _ _ _ rfl ?_
                refine ⟨vp_in_nI (by omega) (by decide), ?_⟩
                rw [nI_clamp (by omega)]
                repeat refine hX _ _ _ _ _ _ _ _ _ _ _ _ _ _ rfl ?_
                refine Or.inl ⟨_, _, hadd, ?_⟩
                repeat refine hX _ _ _ _ _ _ _ _ _ _ _ _ _ _ rfl ?_
                exact ⟨rfl, rfl⟩
          · rw [decide_eq_false h9]
            refine ⟨c, ?_, hR⟩
            cases sw
            all_goals
              (refine exI rfl rfl ?_; intro X hX)
              repeat refine hX _ _ _ _ _ _ _ _ _ _ _ _ _ _ rfl ?_
              refine Or.inl ⟨_, _, hst, ?_⟩
              repeat refine hX _ _ _ _ _ _ _ _ _ _ _ _ _ _ rfl ?_
              refine br_f (show ¬ b2i true = 0 by decide) ?_
              repeat refine hX _ _ _ _ _ _ _ _ _ _ _ _ _ _ rfl ?_
              refine Or.inl ⟨_, _, hsi _, ?_⟩
              repeat refine hX _ _ _ _ _ _ _ _ _ _ _ _ _ _ rfl ?_
              refine br_t (show ¬ b2i true = 0 by decide) ?_
              repeat refine hX _ _ _ _ _ _ _ _ _ _ _ _ _ _ rfl ?_
              refine ⟨vp_in_nI (by omega) (by decide), ?_⟩
              rw [nI_clamp (by omega)]
              rw [hyf]
              repeat refine hX _ _ _ _ _ _ _ _ _ _ _ _ _ _ rfl ?_
              refine Or.inl ⟨_, _, hsp _, ?_⟩
              repeat refine hX _ _ _ _ _ _ _ _ _ _ _ _ _ _ rfl ?_
              refine Or.inl ⟨_, _, hmo, ?_⟩
              repeat refine hX _ _ _ _ _ _ _ _ _ _ _ _ _ _ rfl ?_
              refine br_f (show ¬ b2i true = 0 by decide) ?_
              repeat refine hX _ _ _ _ _ _ _ _ _ _ _ _ _ _ rfl ?_
              refine Or.inl ⟨_, _, hya, ?_⟩
              repeat refine hX _ _ _ _ _ _ _ _ _ _ _ _ _ _ rfl ?_
              refine br_f (show ¬ b2i true = 0 by decide) ?_
              repeat refine hX _ _ _ _ _ _ _ _ _ _ _ _ _ _ rfl ?_
              refine Or.inl ⟨_, _, hsn, ?_⟩
              repeat refine hX _ _ _ _ _ _ _ _ _ _ _ _ _ _ rfl ?_
              refine br_f (show ¬ aSin (sT a) (sN a) (aTo a s y) = -9 from h9) ?_
              repeat refine hX _ _ _ _ _ _ _ _ _ _ _ _ _ _ rfl ?_
              exact ⟨rfl, rfl⟩
def spUndo (a : aS) : Int32 × aS := if sK a = 0 then (-2, a) else (nI (sK a - 1), uNow a (sH a (sK a - 1)) (sK a - 1) (sH a))
theorem c_undo (S : zS) (d : Nat) (sw : Bool) (c : cS) (hm : List zC) {a : aS} (hA : AWf a) (hR : CRel c a) : ∃ c', Ex S (d + 2) 0 0 48 [.ref 0] (hC sw c, hm) (some (.int (spUndo a).1)) (hC sw c', hm) ∧ CRel c' (spUndo a).2 := by
  obtain ⟨hk10, -⟩ := hA.2.2.2.1
  obtain ⟨hkn, hdr⟩ := hR.2.2.2.1
  unfold spUndo
  by_cases h0 : sK a = 0
  · rw [if_pos h0]
    refine ⟨c, ?_, hR⟩
    rw [h0] at hkn
    cases sw
    all_goals
      (refine exI rfl rfl ?_; intro X hX)
      repeat refine hX _ _ _ _ _ _ _ _ _ _ _ _ _ _ rfl ?_
      rw [hkn]
      refine br_f (show ¬ ¬ nI 0 = 0 by decide) ?_
      repeat refine hX _ _ _ _ _ _ _ _ _ _ _ _ _ _ rfl ?_
      exact ⟨rfl, rfl⟩
  · rw [if_neg h0]
    obtain ⟨k, hk⟩ : ∃ k, sK a = k + 1 := ⟨sK a - 1, by omega⟩
    rw [hk] at hkn
    rw [show sK a - 1 = k by omega]
    obtain ⟨hth, hlast⟩ := hdr k (by omega)
    have htb := c_takeBack S d sw c hm hkn (by omega) hth
    have hxk : hx a (k + 1) = sN a := by unfold hx; rw [if_neg (by omega)]
    have hxk2 : hx a k = sH a k := by unfold hx; rw [if_pos (by omega)]
    rw [hxk, hxk2] at hlast
    refine ⟨s_cSc (s_cPa c (s_pKnown (cPa c) (nI k))) (tb (pDeed (cPa c) k) (pThing (cPa c) k) (pDetail (cPa c) k) (cSc c)), ?_, ⟨hR.1, hlast _ hR.2.1, hR.2.2.1, ⟨rfl, fun j hj => ?_⟩, hR.2.2.2.2.1, hR.2.2.2.2.2.1, hR.2.2.2.2.2.2.1, hR.2.2.2.2.2.2.2.1, hR.2.2.2.2.2.2.2.2⟩⟩
    rotate_left
    · have hj : j < k := hj
      have h1 : ∀ i, i ≤ k → hx (uNow a (sH a k) k (sH a)) i = hx a i := fun i hi => by
        unfold hx
        show (if i < k then sH a i else sH a k) = _
        rw [if_pos (show i < sK a by omega)]
        by_cases h : i < k
        · rw [if_pos h]
        · rw [if_neg h, show i = k by omega]
      rw [h1 j (by omega), h1 (j + 1) (by omega)]
      exact hdr j (by omega)
    · cases sw
      all_goals
        (refine exI rfl rfl ?_; intro X hX)
        repeat refine hX _ _ _ _ _ _ _ _ _ _ _ _ _ _ rfl ?_
        rw [hkn]
        refine br_t (show ¬ nI (k + 1) = 0 from nI_ne0 (by omega) (by omega)) ?_
        repeat refine hX _ _ _ _ _ _ _ _ _ _ _ _ _ _ rfl ?_
        refine Or.inl ⟨_, _, htb, ?_⟩
        repeat refine hX _ _ _ _ _ _ _ _ _ _ _ _ _ _ rfl ?_
        exact ⟨rfl, rfl⟩
def spKeep (a : aS) (x : Int32) : Int32 × aS := bif inb x 2 then (nI (pop (nCo (sN a))), uImg a (aup (sKe a) x.toNatClampNeg true) (aup (sIm a) x.toNatClampNeg (sN a))) else (-1, a)
theorem c_keep (S : zS) (d : Nat) (sw : Bool) (c : cS) (hm : List zC) {a : aS} (hA : AWf a) (hR : CRel c a) (x : Int32) : ∃ c', Ex S (d + 2) 0 0 59 [.ref 0, .int x] (hC sw c, hm) (some (.int (spKeep a x).1)) (hC sw c', hm) ∧ CRel c' (spKeep a x).2 := by
  have him := fun h => c_isImage S d h x
  have hbc := fun h => j_bcN S d h (nCo_lt hA.1 hA.2.1)
  have hcm := hR.2.1.1
  have hke := hR.2.2.2.2.1
  unfold spKeep
  cases hin : inb x 2 with
  | false =>
    rw [hin] at him
    refine ⟨c, ?_, hR⟩
    cases sw
    all_goals
      (refine exI rfl rfl ?_; intro X hX)
      repeat refine hX _ _ _ _ _ _ _ _ _ _ _ _ _ _ rfl ?_
      refine Or.inl ⟨_, _, him _, ?_⟩
      repeat refine hX _ _ _ _ _ _ _ _ _ _ _ _ _ _ rfl ?_
      refine br_f (show ¬ ¬ b2i false = 0 by decide) ?_
      repeat refine hX _ _ _ _ _ _ _ _ _ _ _ _ _ _ rfl ?_
      exact ⟨rfl, rfl⟩
  | true =>
    rw [hin] at him
    obtain ⟨j, hj, rfl⟩ := inb_of hin (by decide)
    simp only [cond_true, nI_clamp (show j < 2 ^ 31 by omega)]
    have hkk : ∀ i, i < 2 → upd (cKept c) j 1 i = b2i (aup (sKe a) j true i) := fun i hi => by
      by_cases h : i = j
      · rw [h, pk_us, aup_s]; rfl
      · rw [pk_un h, aup_n _ _ h]; exact hke i hi
    by_cases h0 : j = 0
    · subst h0
      have hcp := c_copy_k0 S d sw c hm
      refine ⟨s_cKept (s_cI0 c (cpN (cSc c) (cI0 c))) (upd (cKept c) 0 1), ?_, ⟨hR.1, hR.2.1, hR.2.2.1, hR.2.2.2.1, hkk, fun _ => ?_, fun h => ?_, hR.2.2.2.2.2.2.2.1, hR.2.2.2.2.2.2.2.2⟩⟩
      rotate_left
      · show NRel (sT a) (cpN (cSc c) (cI0 c)) (aup (sIm a) 0 (sN a) 0)
        rw [aup_s]
        exact cpN_rel hA.1 _ hR.2.1
      · show NRel (sT a) (cI1 c) (aup (sIm a) 0 (sN a) 1)
        rw [aup_n _ _ (by decide)]
        have h : aup (sKe a) 0 true 1 = true := h
        rw [aup_n _ _ (by decide)] at h
        exact hR.2.2.2.2.2.2.1 h
      · cases sw
        all_goals
          (refine exI rfl rfl ?_; intro X hX)
          repeat refine hX _ _ _ _ _ _ _ _ _ _ _ _ _ _ rfl ?_
          refine Or.inl ⟨_, _, him _, ?_⟩
          repeat refine hX _ _ _ _ _ _ _ _ _ _ _ _ _ _ rfl ?_
          refine br_t (show ¬ b2i true = 0 by decide) ?_
          repeat refine hX _ _ _ _ _ _ _ _ _ _ _ _ _ _ rfl ?_
          refine ⟨by unfold vp_in; decide, 29, rfl, ?_⟩
          repeat refine hX _ _ _ _ _ _ _ _ _ _ _ _ _ _ rfl ?_
          refine Or.inl ⟨_, _, hcp, ?_⟩
          repeat refine hX _ _ _ _ _ _ _ _ _ _ _ _ _ _ rfl ?_
          refine ⟨by unfold vp_in; decide, Or.inr rfl, ?_⟩
          repeat refine hX _ _ _ _ _ _ _ _ _ _ _ _ _ _ rfl ?_
          rw [hcm]
          refine Or.inl ⟨_, _, hbc _, ?_⟩
          repeat refine hX _ _ _ _ _ _ _ _ _ _ _ _ _ _ rfl ?_
          exact ⟨rfl, rfl⟩
    · have : j = 1 := by omega
      subst this
      have hcp := c_copy_k1 S d sw c hm
      refine ⟨s_cKept (s_cI1 c (cpN (cSc c) (cI1 c))) (upd (cKept c) 1 1), ?_, ⟨hR.1, hR.2.1, hR.2.2.1, hR.2.2.2.1, hkk, fun h => ?_, fun _ => ?_, hR.2.2.2.2.2.2.2.1, hR.2.2.2.2.2.2.2.2⟩⟩
      rotate_left
      · show NRel (sT a) (cI0 c) (aup (sIm a) 1 (sN a) 0)
        rw [aup_n _ _ (by decide)]
        have h : aup (sKe a) 1 true 0 = true := h
        rw [aup_n _ _ (by decide)] at h
        exact hR.2.2.2.2.2.1 h
      · show NRel (sT a) (cpN (cSc c) (cI1 c)) (aup (sIm a) 1 (sN a) 1)
        rw [aup_s]
        exact cpN_rel hA.1 _ hR.2.1
      · cases sw
        all_goals
          (refine exI rfl rfl ?_; intro X hX)
          repeat refine hX _ _ _ _ _ _ _ _ _ _ _ _ _ _ rfl ?_
          refine Or.inl ⟨_, _, him _, ?_⟩
          repeat refine hX _ _ _ _ _ _ _ _ _ _ _ _ _ _ rfl ?_
          refine br_t (show ¬ b2i true = 0 by decide) ?_
          repeat refine hX _ _ _ _ _ _ _ _ _ _ _ _ _ _ rfl ?_
          refine ⟨by unfold vp_in; decide, 32, rfl, ?_⟩
          repeat refine hX _ _ _ _ _ _ _ _ _ _ _ _ _ _ rfl ?_
          refine Or.inl ⟨_, _, hcp, ?_⟩
          repeat refine hX _ _ _ _ _ _ _ _ _ _ _ _ _ _ rfl ?_
          refine ⟨by unfold vp_in; decide, Or.inr rfl, ?_⟩
          repeat refine hX _ _ _ _ _ _ _ _ _ _ _ _ _ _ rfl ?_
          rw [hcm]
          refine Or.inl ⟨_, _, hbc _, ?_⟩
          repeat refine hX _ _ _ _ _ _ _ _ _ _ _ _ _ _ rfl ?_
          exact ⟨rfl, rfl⟩
theorem c_lose (S : zS) (d : Nat) (sw : Bool) (c : cS) (hm : List zC) : Ex S (d + 1) 0 0 2 [.ref 24] (hC sw c, hm) none (hC sw (s_cPa c (s_pKnown (cPa c) 0)), hm) := by
  cases sw
  all_goals
    (refine exI rfl rfl ?_; intro X hX)
    repeat refine hX _ _ _ _ _ _ _ _ _ _ _ _ _ _ rfl ?_
    exact ⟨rfl, rfl⟩
def spBack (a : aS) (x : Int32) : Int32 × aS := bif inb x 2 then (bif sKe a x.toNatClampNeg then (nI (pop (nCo (sIm a x.toNatClampNeg))), uNow a (sIm a x.toNatClampNeg) 0 (sH a)) else (-2, a)) else (-1, a)
theorem c_back (S : zS) (d : Nat) (sw : Bool) (c : cS) (hm : List zC) {a : aS} (hA : AWf a) (hR : CRel c a) (x : Int32) : ∃ c', Ex S (d + 2) 0 0 60 [.ref 0, .int x] (hC sw c, hm) (some (.int (spBack a x).1)) (hC sw c', hm) ∧ CRel c' (spBack a x).2 := by
  have him := fun h => c_isImage S d h x
  have hke := hR.2.2.2.2.1
  unfold spBack
  cases hin : inb x 2 with
  | false =>
    rw [hin] at him
    refine ⟨c, ?_, hR⟩
    cases sw
    all_goals
      (refine exI rfl rfl ?_; intro X hX)
      repeat refine hX _ _ _ _ _ _ _ _ _ _ _ _ _ _ rfl ?_
      refine Or.inl ⟨_, _, him _, ?_⟩
      repeat refine hX _ _ _ _ _ _ _ _ _ _ _ _ _ _ rfl ?_
      refine br_f (show ¬ ¬ b2i false = 0 by decide) ?_
      repeat refine hX _ _ _ _ _ _ _ _ _ _ _ _ _ _ rfl ?_
      exact ⟨rfl, rfl⟩
  | true =>
    rw [hin] at him
    obtain ⟨j, hj, rfl⟩ := inb_of hin (by decide)
    simp only [cond_true, nI_clamp (show j < 2 ^ 31 by omega)]
    have hkj := hke j hj
    cases hk : sKe a j with
    | false =>
      rw [hk] at hkj
      refine ⟨c, ?_, hR⟩
      cases sw
      all_goals
        (refine exI rfl rfl ?_; intro X hX)
        repeat refine hX _ _ _ _ _ _ _ _ _ _ _ _ _ _ rfl ?_
        refine Or.inl ⟨_, _, him _, ?_⟩
        repeat refine hX _ _ _ _ _ _ _ _ _ _ _ _ _ _ rfl ?_
        refine br_t (show ¬ b2i true = 0 by decide) ?_
        repeat refine hX _ _ _ _ _ _ _ _ _ _ _ _ _ _ rfl ?_
        refine ⟨vp_in_nI (by omega) (by decide), ?_⟩
        rw [nI_clamp (by omega)]
        rw [hkj]
        repeat refine hX _ _ _ _ _ _ _ _ _ _ _ _ _ _ rfl ?_
        refine br_f (show ¬ ¬ b2i false = 0 by decide) ?_
        repeat refine hX _ _ _ _ _ _ _ _ _ _ _ _ _ _ rfl ?_
        exact ⟨rfl, rfl⟩
    | true =>
      rw [hk] at hkj
      have hWi := hA.2.2.2.2.1 j hj hk
      have hbc := fun h => j_bcN S d h (nCo_lt hA.1 hWi)
      by_cases h0 : j = 0
      · subst h0
        have hNi := hR.2.2.2.2.2.1 hk
        have hci := hNi.1
        have hcp := c_copy_b0 S d sw c hm
        have hbc2 : ∀ h, Ex S (d + 1) 0 0 150 [.int (nCome (cI0 c))] h (some (.int (nI (pop (nCo (sIm a 0)))))) h := fun h => by rw [hci]; exact hbc h
        have hlo := c_lose S d sw (s_cSc c (cpN (cI0 c) (cSc c))) hm
        refine ⟨s_cPa (s_cSc c (cpN (cI0 c) (cSc c))) (s_pKnown (cPa c) 0), ?_, ⟨hR.1, cpN_rel hA.1 _ hNi, hR.2.2.1, ⟨rfl, fun j hj => absurd hj (Nat.not_lt_zero j)⟩, hR.2.2.2.2.1, hR.2.2.2.2.2.1, hR.2.2.2.2.2.2.1, hR.2.2.2.2.2.2.2.1, hR.2.2.2.2.2.2.2.2⟩⟩
        cases sw
        all_goals
          (refine exI rfl rfl ?_; intro X hX)
          repeat refine hX _ _ _ _ _ _ _ _ _ _ _ _ _ _ rfl ?_
          refine Or.inl ⟨_, _, him _, ?_⟩
          repeat refine hX _ _ _ _ _ _ _ _ _ _ _ _ _ _ rfl ?_
          refine br_t (show ¬ b2i true = 0 by decide) ?_
          repeat refine hX _ _ _ _ _ _ _ _ _ _ _ _ _ _ rfl ?_
          refine ⟨vp_in_nI (by omega) (by decide), ?_⟩
          rw [nI_clamp (by omega)]
          rw [hkj]
          repeat refine hX _ _ _ _ _ _ _ _ _ _ _ _ _ _ rfl ?_
          refine br_t (show ¬ b2i true = 0 by decide) ?_
          repeat refine hX _ _ _ _ _ _ _ _ _ _ _ _ _ _ rfl ?_
          refine ⟨by unfold vp_in; decide, 29, rfl, ?_⟩
          repeat refine hX _ _ _ _ _ _ _ _ _ _ _ _ _ _ rfl ?_
          refine Or.inl ⟨_, _, hcp, ?_⟩
          repeat refine hX _ _ _ _ _ _ _ _ _ _ _ _ _ _ rfl ?_
          refine Or.inl ⟨_, _, hlo, ?_⟩
          repeat refine hX _ _ _ _ _ _ _ _ _ _ _ _ _ _ rfl ?_
          refine Or.inl ⟨_, _, hbc2 _, ?_⟩
          repeat refine hX _ _ _ _ _ _ _ _ _ _ _ _ _ _ rfl ?_
          exact ⟨rfl, rfl⟩
      · have : j = 1 := by omega
        subst this
        have hNi := hR.2.2.2.2.2.2.1 hk
        have hci := hNi.1
        have hcp := c_copy_b1 S d sw c hm
        have hbc2 : ∀ h, Ex S (d + 1) 0 0 150 [.int (nCome (cI1 c))] h (some (.int (nI (pop (nCo (sIm a 1)))))) h := fun h => by rw [hci]; exact hbc h
        have hlo := c_lose S d sw (s_cSc c (cpN (cI1 c) (cSc c))) hm
        refine ⟨s_cPa (s_cSc c (cpN (cI1 c) (cSc c))) (s_pKnown (cPa c) 0), ?_, ⟨hR.1, cpN_rel hA.1 _ hNi, hR.2.2.1, ⟨rfl, fun j hj => absurd hj (Nat.not_lt_zero j)⟩, hR.2.2.2.2.1, hR.2.2.2.2.2.1, hR.2.2.2.2.2.2.1, hR.2.2.2.2.2.2.2.1, hR.2.2.2.2.2.2.2.2⟩⟩
        cases sw
        all_goals
          (refine exI rfl rfl ?_; intro X hX)
          repeat refine hX _ _ _ _ _ _ _ _ _ _ _ _ _ _ rfl ?_
          refine Or.inl ⟨_, _, him _, ?_⟩
          repeat refine hX _ _ _ _ _ _ _ _ _ _ _ _ _ _ rfl ?_
          refine br_t (show ¬ b2i true = 0 by decide) ?_
          repeat refine hX _ _ _ _ _ _ _ _ _ _ _ _ _ _ rfl ?_
          refine ⟨vp_in_nI (by omega) (by decide), ?_⟩
          rw [nI_clamp (by omega)]
          rw [hkj]
          repeat refine hX _ _ _ _ _ _ _ _ _ _ _ _ _ _ rfl ?_
          refine br_t (show ¬ b2i true = 0 by decide) ?_
          repeat refine hX _ _ _ _ _ _ _ _ _ _ _ _ _ _ rfl ?_
          refine ⟨by unfold vp_in; decide, 32, rfl, ?_⟩
          repeat refine hX _ _ _ _ _ _ _ _ _ _ _ _ _ _ rfl ?_
          refine Or.inl ⟨_, _, hcp, ?_⟩
          repeat refine hX _ _ _ _ _ _ _ _ _ _ _ _ _ _ rfl ?_
          refine Or.inl ⟨_, _, hlo, ?_⟩
          repeat refine hX _ _ _ _ _ _ _ _ _ _ _ _ _ _ rfl ?_
          refine Or.inl ⟨_, _, hbc2 _, ?_⟩
          repeat refine hX _ _ _ _ _ _ _ _ _ _ _ _ _ _ rfl ?_
          exact ⟨rfl, rfl⟩
end
section
/-! ===== the class: who it was, kinds ===== -/
def aWho (A : aT) (N : aN) (o i : aF) : Nat → Nat
  | 0 => 2 ^ aNp A - 1
  | k + 1 => aWho A N o i k &&& (bif decide (i k = 1) then aWr A N (o k) else 63 ^^^ aWr A N (o k))
theorem aWho_lt {A : aT} (hA : TWf A) (N : aN) (o i : aF) : ∀ k, aWho A N o i k < 64
  | 0 => by
    have := pow_le64 hA.2.2.2.2.1
    have : 0 < 2 ^ aNp A := Nat.two_pow_pos _
    show 2 ^ aNp A - 1 < 64
    omega
  | k + 1 => q_and_lt (aWho_lt hA N o i k)
theorem q_people : ∀ n, n ≤ 6 → (1 : Int32) <<< (nI n &&& 31) - 1 = nI (2 ^ n - 1) := by decide +kernel
theorem c_still (S : zS) (d : Nat) (sw : Bool) (c : cS) (hm : List zC) {a : aS} (hA : AWf a) (hR : CRel c a) : Ex S (d + 2) 0 0 75 [.ref 0] (hC sw c, hm) (some (.int (nI (aWho (sT a) (sN a) (sOf a) (sIs a) (sQ a))))) (hC sw c, hm) := by
  have hnp := hA.1.2.2.2.2.1
  have hns := hA.1.2.2.2.1
  obtain ⟨hq6, hqq⟩ := hA.2.2.2.2.2
  obtain ⟨hq, hsq⟩ := hR.2.2.2.2.2.2.2.1
  have hp := hR.1.2.2.2.1
  have hwr := fun j (hj : j < aNs (sT a)) => c_wr S d sw c hm hA.1 hR.1 hR.2.1 hj
  have hwl := fun j => aWr_lt hA.1 (sN a) j
  have hol := fun k => aWho_lt hA.1 (sN a) (sOf a) (sIs a) k
  cases sw
  case false =>
    (refine exI rfl rfl ?_; intro X hX)
    have loop : ∀ (k i : Nat) (v : Option Value), i + k = sQ a → (v = none ∨ ∃ z, v = some (.int z)) → X 14 [some (.ref 0), some (.int (nI (aWho (sT a) (sN a) (sOf a) (sIs a) i))), some (.int (nI i)), v] [] (hC false c, hm) 0 0 := by
      intro k
      induction k with
      | zero =>
        intro i v hi hv
        repeat refine hX _ _ _ _ _ _ _ _ _ _ _ _ _ _ rfl ?_
        rw [hq]
        refine br_t (show nI (sQ a) ≤ nI i from nI_le (by omega) (by omega)) ?_
        repeat refine hX _ _ _ _ _ _ _ _ _ _ _ _ _ _ rfl ?_
        exact ⟨by rw [show i = sQ a by omega], rfl⟩
      | succ k ih =>
        intro i v hi hv
        obtain ⟨ho2, hi2⟩ := hqq i (by omega)
        have h7 := ih (i + 1) (some (.int (nI (aWr (sT a) (sN a) (sOf a i))))) (by omega) (Or.inr ⟨_, rfl⟩)
        rw [aWho] at h7
        rcases hv with rfl | ⟨z, rfl⟩
        all_goals
          repeat refine hX _ _ _ _ _ _ _ _ _ _ _ _ _ _ rfl ?_
          rw [hq]
          refine br_f (show ¬ nI (sQ a) ≤ nI i from nI_ge (by omega) (by omega)) ?_
          repeat refine hX _ _ _ _ _ _ _ _ _ _ _ _ _ _ rfl ?_
          refine ⟨vp_in_nI (by omega) (by decide), ?_⟩
          rw [nI_clamp (by omega)]
          rw [(hsq i (by omega)).1]
          repeat refine hX _ _ _ _ _ _ _ _ _ _ _ _ _ _ rfl ?_
          refine Or.inl ⟨_, _, hwr _ ho2, ?_⟩
          repeat refine hX _ _ _ _ _ _ _ _ _ _ _ _ _ _ rfl ?_
          refine ⟨vp_in_nI (by omega) (by decide), ?_⟩
          rw [nI_clamp (by omega)]
          rw [(hsq i (by omega)).2]
          repeat refine hX _ _ _ _ _ _ _ _ _ _ _ _ _ _ rfl ?_
          by_cases h1 : sIs a i = 1
          · refine br_f (show ¬ ¬ nI (sIs a i) = 1 from fun h9 => h9 (congrArg nI h1)) ?_
            iterate 6 (refine hX _ _ _ _ _ _ _ _ _ _ _ _ _ _ rfl ?_)
            rw [nI_1, q_and _ (hol i) _ (hwl _)]
            rw [decide_eq_true h1] at h7
            exact h7
          · refine br_t (show ¬ nI (sIs a i) = 1 from fun h9 => h1 ((nI_eq (b := 1) (by omega) (by decide)).mp h9)) ?_
            iterate 7 (refine hX _ _ _ _ _ _ _ _ _ _ _ _ _ _ rfl ?_)
            rw [nI_1, q_andn _ (hol i) _ (hwl _)]
            rw [decide_eq_false h1] at h7
            exact h7
    iterate 5 (refine hX _ _ _ _ _ _ _ _ _ _ _ _ _ _ rfl ?_)
    rw [hp]
    iterate 3 (refine hX _ _ _ _ _ _ _ _ _ _ _ _ _ _ rfl ?_)
    rw [q_people _ hnp]
    iterate 2 (refine hX _ _ _ _ _ _ _ _ _ _ _ _ _ _ rfl ?_)
    exact loop (sQ a) 0 none (by omega) (Or.inl rfl)
  case true =>
    (refine exI rfl rfl ?_; intro X hX)
    have loop : ∀ (k i : Nat) (v : Option Value), i + k = sQ a → (v = none ∨ ∃ z, v = some (.int z)) → X 14 [some (.ref 0), some (.int (nI (aWho (sT a) (sN a) (sOf a) (sIs a) i))), some (.int (nI i)), v] [] (hC true c, hm) 0 0 := by
      intro k
      induction k with
      | zero =>
        intro i v hi hv
        repeat refine hX _ _ _ _ _ _ _ _ _ _ _ _ _ _ rfl ?_
        rw [hq]
        refine br_t (show nI (sQ a) ≤ nI i from nI_le (by omega) (by omega)) ?_
        repeat refine hX _ _ _ _ _ _ _ _ _ _ _ _ _ _ rfl ?_
        exact ⟨by rw [show i = sQ a by omega], rfl⟩
      | succ k ih =>
        intro i v hi hv
        obtain ⟨ho2, hi2⟩ := hqq i (by omega)
        have h7 := ih (i + 1) (some (.int (nI (aWr (sT a) (sN a) (sOf a i))))) (by omega) (Or.inr ⟨_, rfl⟩)
        rw [aWho] at h7
        rcases hv with rfl | ⟨z, rfl⟩
        all_goals
          repeat refine hX _ _ _ _ _ _ _ _ _ _ _ _ _ _ rfl ?_
          rw [hq]
          refine br_f (show ¬ nI (sQ a) ≤ nI i from nI_ge (by omega) (by omega)) ?_
          repeat refine hX _ _ _ _ _ _ _ _ _ _ _ _ _ _ rfl ?_
          refine ⟨vp_in_nI (by omega) (by decide), ?_⟩
          rw [nI_clamp (by omega)]
          rw [(hsq i (by omega)).1]
          repeat refine hX _ _ _ _ _ _ _ _ _ _ _ _ _ _ rfl ?_
          refine Or.inl ⟨_, _, hwr _ ho2, ?_⟩
          repeat refine hX _ _ _ _ _ _ _ _ _ _ _ _ _ _ rfl ?_
          refine ⟨vp_in_nI (by omega) (by decide), ?_⟩
          rw [nI_clamp (by omega)]
          rw [(hsq i (by omega)).2]
          repeat refine hX _ _ _ _ _ _ _ _ _ _ _ _ _ _ rfl ?_
          by_cases h1 : sIs a i = 1
          · refine br_f (show ¬ ¬ nI (sIs a i) = 1 from fun h9 => h9 (congrArg nI h1)) ?_
            iterate 6 (refine hX _ _ _ _ _ _ _ _ _ _ _ _ _ _ rfl ?_)
            rw [nI_1, q_and _ (hol i) _ (hwl _)]
            rw [decide_eq_true h1] at h7
            exact h7
          · refine br_t (show ¬ nI (sIs a i) = 1 from fun h9 => h1 ((nI_eq (b := 1) (by omega) (by decide)).mp h9)) ?_
            iterate 7 (refine hX _ _ _ _ _ _ _ _ _ _ _ _ _ _ rfl ?_)
            rw [nI_1, q_andn _ (hol i) _ (hwl _)]
            rw [decide_eq_false h1] at h7
            exact h7
    iterate 5 (refine hX _ _ _ _ _ _ _ _ _ _ _ _ _ _ rfl ?_)
    rw [hp]
    iterate 3 (refine hX _ _ _ _ _ _ _ _ _ _ _ _ _ _ rfl ?_)
    rw [q_people _ hnp]
    iterate 2 (refine hX _ _ _ _ _ _ _ _ _ _ _ _ _ _ rfl ?_)
    exact loop (sQ a) 0 none (by omega) (Or.inl rfl)
abbrev spWho (a : aS) : Nat := aWho (sT a) (sN a) (sOf a) (sIs a) (sQ a)
theorem c_who (S : zS) (d : Nat) (sw : Bool) (c : cS) (hm : List zC) {a : aS} (hA : AWf a) (hR : CRel c a) : Ex S (d + 3) 0 0 56 [.ref 0] (hC sw c, hm) (some (.int (nI (spWho a)))) (hC sw c, hm) := by
  have h := c_still S d sw c hm hA hR
  cases sw
  all_goals
    (refine exI rfl rfl ?_; intro X hX)
    repeat refine hX _ _ _ _ _ _ _ _ _ _ _ _ _ _ rfl ?_
    refine Or.inl ⟨_, _, h, ?_⟩
    repeat refine hX _ _ _ _ _ _ _ _ _ _ _ _ _ _ rfl ?_
    exact ⟨rfl, rfl⟩
def aPart (A : aT) (N : aN) (set j : Nat) : Nat := max (pop (set &&& aWr A N j)) (pop set - pop (set &&& aWr A N j))
def aShw (A : aT) (N : aN) (set : Nat) : Nat → Int32 × Nat
  | 0 => (-9, 7)
  | j + 1 => bif decide (aPart A N set j < (aShw A N set j).2) then (nI j, aPart A N set j) else aShw A N set j
theorem pop_le (x : Nat) : pop x ≤ 6 := by rw [← pop_cnt]; exact aCnt_le _ 6
theorem pop_and : ∀ a, a < 64 → ∀ b, b < 64 → pop (a &&& b) ≤ pop a := by decide +kernel
theorem aShw_le (A : aT) (N : aN) (set : Nat) : ∀ j, (aShw A N set j).2 ≤ 7
  | 0 => Nat.le_refl _
  | j + 1 => by
    have h1 := pop_le set
    have h2 := pop_le (set &&& aWr A N j)
    rw [aShw]
    cases decide (aPart A N set j < (aShw A N set j).2)
    · exact aShw_le A N set j
    · show aPart A N set j ≤ 7
      unfold aPart
      omega
theorem j_max (S : zS) (d : Nat) (h : zH) {x y : Nat} (hx : x < 2 ^ 31) (hy : y < 2 ^ 31) : Ex S (d + 1) 0 0 152 [.int (nI x), .int (nI y)] h (some (.int (nI (max x y)))) h := by
  (refine exI rfl rfl ?_; intro X hX)
  repeat refine hX _ _ _ _ _ _ _ _ _ _ _ _ _ _ rfl ?_
  by_cases hlt : x < y
  · refine br_t (show nI x < nI y from nI_lt hlt hy) ?_
    repeat refine hX _ _ _ _ _ _ _ _ _ _ _ _ _ _ rfl ?_
    exact ⟨by rw [Nat.max_eq_right (by omega)], rfl⟩
  · refine br_f (show ¬ nI x < nI y from nI_nlt (by omega) hx) ?_
    repeat refine hX _ _ _ _ _ _ _ _ _ _ _ _ _ _ rfl ?_
    exact ⟨by rw [Nat.max_eq_left (by omega)], rfl⟩
def spShow (a : aS) : Int32 := if pop (spWho a) ≤ 1 then -9 else (aShw (sT a) (sN a) (spWho a) (aNs (sT a))).1
theorem c_show (S : zS) (d : Nat) (sw : Bool) (c : cS) (hm : List zC) {a : aS} (hA : AWf a) (hR : CRel c a) : Ex S (d + 3) 0 0 57 [.ref 0] (hC sw c, hm) (some (.int (spShow a))) (hC sw c, hm) := by
  have hns := hA.1.2.2.2.1
  have h : Ex S (d + 2) 0 0 75 [.ref 0] (hC sw c, hm) (some (.int (nI (spWho a)))) (hC sw c, hm) := c_still S d sw c hm hA hR
  have hn := hR.1.2.2.1
  have hlt : spWho a < 64 := aWho_lt hA.1 _ _ _ _
  have hbc := fun hh => j_bcN S (d + 1) hh hlt
  have hwr := fun j (hj : j < aNs (sT a)) => c_wr S (d + 1) sw c hm hA.1 hR.1 hR.2.1 hj
  have hwl := fun j => aWr_lt hA.1 (sN a) j
  have hbc2 := fun hh j => j_bcN S (d + 1) hh (q_and_lt (b := aWr (sT a) (sN a) j) hlt)
  have hpo := pop_le (spWho a)
  unfold spShow
  generalize hset : spWho a = set at *
  by_cases h1 : pop set ≤ 1
  · rw [if_pos h1]
    cases sw
    all_goals
      (refine exI rfl rfl ?_; intro X hX)
      repeat refine hX _ _ _ _ _ _ _ _ _ _ _ _ _ _ rfl ?_
      refine Or.inl ⟨_, _, h, ?_⟩
      repeat refine hX _ _ _ _ _ _ _ _ _ _ _ _ _ _ rfl ?_
      refine Or.inl ⟨_, _, hbc _, ?_⟩
      repeat refine hX _ _ _ _ _ _ _ _ _ _ _ _ _ _ rfl ?_
      refine br_f (show ¬ nI 1 < nI (pop set) from nI_nlt h1 (by decide)) ?_
      repeat refine hX _ _ _ _ _ _ _ _ _ _ _ _ _ _ rfl ?_
      exact ⟨rfl, rfl⟩
  · rw [if_neg h1]
    cases sw
    case false =>
      (refine exI rfl rfl ?_; intro X hX)
      have loop : ∀ (k j : Nat) (v5 v6 : Option Value), j + k = aNs (sT a) → ((v5 = none ∧ v6 = none) ∨ ∃ y z, v5 = some (.int y) ∧ v6 = some (.int z)) → X 25 [some (.ref 0), some (.int (nI set)), some (.int (aShw (sT a) (sN a) set j).1), some (.int (nI (aShw (sT a) (sN a) set j).2)), some (.int (nI j)), v5, v6] [] (hC false c, hm) 0 0 := by
        intro k
        induction k with
        | zero =>
          intro j v5 v6 hj hv
          repeat refine hX _ _ _ _ _ _ _ _ _ _ _ _ _ _ rfl ?_
          rw [hn]
          refine br_t (show nI (aNs (sT a)) ≤ nI j from nI_le (by omega) (by omega)) ?_
          repeat refine hX _ _ _ _ _ _ _ _ _ _ _ _ _ _ rfl ?_
          exact ⟨by rw [show j = aNs (sT a) by omega], rfl⟩
        | succ k ih =>
          intro j v5 v6 hj hv
          have hpl := pop_le (set &&& aWr (sT a) (sN a) j)
          have hpa := pop_and set hlt _ (hwl j)
          have hsl := aShw_le (sT a) (sN a) set j
          have hmx := j_max S (d + 1) (hC false c, hm) (x := pop (set &&& aWr (sT a) (sN a) j)) (y := pop set - pop (set &&& aWr (sT a) (sN a) j)) (by omega) (by omega)
          have hap : aPart (sT a) (sN a) set j ≤ 6 := by unfold aPart; omega
          have h7 := ih (j + 1) (some (.int (nI (pop (set &&& aWr (sT a) (sN a) j))))) (some (.int (nI (aPart (sT a) (sN a) set j)))) (by omega) (Or.inr ⟨_, _, rfl, rfl⟩)
          rw [aShw] at h7
          rcases hv with ⟨rfl, rfl⟩ | ⟨y, z, rfl, rfl⟩
          all_goals
            repeat refine hX _ _ _ _ _ _ _ _ _ _ _ _ _ _ rfl ?_
            rw [hn]
            refine br_f (show ¬ nI (aNs (sT a)) ≤ nI j from nI_ge (by omega) (by omega)) ?_
            repeat refine hX _ _ _ _ _ _ _ _ _ _ _ _ _ _ rfl ?_
            refine Or.inl ⟨_, _, hwr j (by omega), ?_⟩
            iterate 2 (refine hX _ _ _ _ _ _ _ _ _ _ _ _ _ _ rfl ?_)
            rw [q_and _ hlt _ (hwl j)]
            repeat refine hX _ _ _ _ _ _ _ _ _ _ _ _ _ _ rfl ?_
            refine Or.inl ⟨_, _, hbc2 _ j, ?_⟩
            repeat refine hX _ _ _ _ _ _ _ _ _ _ _ _ _ _ rfl ?_
            refine Or.inl ⟨_, _, hbc _, ?_⟩
            iterate 3 (refine hX _ _ _ _ _ _ _ _ _ _ _ _ _ _ rfl ?_)
            rw [pk_sub hpa]
            repeat refine hX _ _ _ _ _ _ _ _ _ _ _ _ _ _ rfl ?_
            refine Or.inl ⟨_, _, hmx, ?_⟩
            repeat refine hX _ _ _ _ _ _ _ _ _ _ _ _ _ _ rfl ?_
            by_cases hl : aPart (sT a) (sN a) set j < (aShw (sT a) (sN a) set j).2
            · refine br_f (show ¬ nI (aShw (sT a) (sN a) set j).2 ≤ nI (aPart (sT a) (sN a) set j) from nI_ge hl (by omega)) ?_
              iterate 6 (refine hX _ _ _ _ _ _ _ _ _ _ _ _ _ _ rfl ?_)
              rw [nI_1]
              rw [decide_eq_true hl] at h7
              exact h7
            · refine br_t (show nI (aShw (sT a) (sN a) set j).2 ≤ nI (aPart (sT a) (sN a) set j) from nI_le (by omega) (by omega)) ?_
              iterate 2 (refine hX _ _ _ _ _ _ _ _ _ _ _ _ _ _ rfl ?_)
              rw [nI_1]
              rw [decide_eq_false hl] at h7
              exact h7
      repeat refine hX _ _ _ _ _ _ _ _ _ _ _ _ _ _ rfl ?_
      refine Or.inl ⟨_, _, h, ?_⟩
      repeat refine hX _ _ _ _ _ _ _ _ _ _ _ _ _ _ rfl ?_
      refine Or.inl ⟨_, _, hbc _, ?_⟩
      repeat refine hX _ _ _ _ _ _ _ _ _ _ _ _ _ _ rfl ?_
      refine br_t (show nI 1 < nI (pop set) from nI_lt (by omega) (by omega)) ?_
      iterate 6 (refine hX _ _ _ _ _ _ _ _ _ _ _ _ _ _ rfl ?_)
      exact loop (aNs (sT a)) 0 none none (by omega) (Or.inl ⟨rfl, rfl⟩)
    case true =>
      (refine exI rfl rfl ?_; intro X hX)
      have loop : ∀ (k j : Nat) (v5 v6 : Option Value), j + k = aNs (sT a) → ((v5 = none ∧ v6 = none) ∨ ∃ y z, v5 = some (.int y) ∧ v6 = some (.int z)) → X 25 [some (.ref 0), some (.int (nI set)), some (.int (aShw (sT a) (sN a) set j).1), some (.int (nI (aShw (sT a) (sN a) set j).2)), some (.int (nI j)), v5, v6] [] (hC true c, hm) 0 0 := by
        intro k
        induction k with
        | zero =>
          intro j v5 v6 hj hv
          repeat refine hX _ _ _ _ _ _ _ _ _ _ _ _ _ _ rfl ?_
          rw [hn]
          refine br_t (show nI (aNs (sT a)) ≤ nI j from nI_le (by omega) (by omega)) ?_
          repeat refine hX _ _ _ _ _ _ _ _ _ _ _ _ _ _ rfl ?_
          exact ⟨by rw [show j = aNs (sT a) by omega], rfl⟩
        | succ k ih =>
          intro j v5 v6 hj hv
          have hpl := pop_le (set &&& aWr (sT a) (sN a) j)
          have hpa := pop_and set hlt _ (hwl j)
          have hsl := aShw_le (sT a) (sN a) set j
          have hmx := j_max S (d + 1) (hC true c, hm) (x := pop (set &&& aWr (sT a) (sN a) j)) (y := pop set - pop (set &&& aWr (sT a) (sN a) j)) (by omega) (by omega)
          have hap : aPart (sT a) (sN a) set j ≤ 6 := by unfold aPart; omega
          have h7 := ih (j + 1) (some (.int (nI (pop (set &&& aWr (sT a) (sN a) j))))) (some (.int (nI (aPart (sT a) (sN a) set j)))) (by omega) (Or.inr ⟨_, _, rfl, rfl⟩)
          rw [aShw] at h7
          rcases hv with ⟨rfl, rfl⟩ | ⟨y, z, rfl, rfl⟩
          all_goals
            repeat refine hX _ _ _ _ _ _ _ _ _ _ _ _ _ _ rfl ?_
            rw [hn]
            refine br_f (show ¬ nI (aNs (sT a)) ≤ nI j from nI_ge (by omega) (by omega)) ?_
            repeat refine hX _ _ _ _ _ _ _ _ _ _ _ _ _ _ rfl ?_
            refine Or.inl ⟨_, _, hwr j (by omega), ?_⟩
            iterate 2 (refine hX _ _ _ _ _ _ _ _ _ _ _ _ _ _ rfl ?_)
            rw [q_and _ hlt _ (hwl j)]
            repeat refine hX _ _ _ _ _ _ _ _ _ _ _ _ _ _ rfl ?_
            refine Or.inl ⟨_, _, hbc2 _ j, ?_⟩
            repeat refine hX _ _ _ _ _ _ _ _ _ _ _ _ _ _ rfl ?_
            refine Or.inl ⟨_, _, hbc _, ?_⟩
            iterate 3 (refine hX _ _ _ _ _ _ _ _ _ _ _ _ _ _ rfl ?_)
            rw [pk_sub hpa]
            repeat refine hX _ _ _ _ _ _ _ _ _ _ _ _ _ _ rfl ?_
            refine Or.inl ⟨_, _, hmx, ?_⟩
            repeat refine hX _ _ _ _ _ _ _ _ _ _ _ _ _ _ rfl ?_
            by_cases hl : aPart (sT a) (sN a) set j < (aShw (sT a) (sN a) set j).2
            · refine br_f (show ¬ nI (aShw (sT a) (sN a) set j).2 ≤ nI (aPart (sT a) (sN a) set j) from nI_ge hl (by omega)) ?_
              iterate 6 (refine hX _ _ _ _ _ _ _ _ _ _ _ _ _ _ rfl ?_)
              rw [nI_1]
              rw [decide_eq_true hl] at h7
              exact h7
            · refine br_t (show nI (aShw (sT a) (sN a) set j).2 ≤ nI (aPart (sT a) (sN a) set j) from nI_le (by omega) (by omega)) ?_
              iterate 2 (refine hX _ _ _ _ _ _ _ _ _ _ _ _ _ _ rfl ?_)
              rw [nI_1]
              rw [decide_eq_false hl] at h7
              exact h7
      repeat refine hX _ _ _ _ _ _ _ _ _ _ _ _ _ _ rfl ?_
      refine Or.inl ⟨_, _, h, ?_⟩
      repeat refine hX _ _ _ _ _ _ _ _ _ _ _ _ _ _ rfl ?_
      refine Or.inl ⟨_, _, hbc _, ?_⟩
      repeat refine hX _ _ _ _ _ _ _ _ _ _ _ _ _ _ rfl ?_
      refine br_t (show nI 1 < nI (pop set) from nI_lt (by omega) (by omega)) ?_
      iterate 6 (refine hX _ _ _ _ _ _ _ _ _ _ _ _ _ _ rfl ?_)
      exact loop (aNs (sT a)) 0 none none (by omega) (Or.inl ⟨rfl, rfl⟩)
/-! kinds -/
theorem c_asStatue (S : zS) (d : Nat) (sw : Bool) (c : cS) (hm : List zC) {A : aT} (hA : TWf A) (hT : TRel (cTo c) A) {j : Nat} (hj : j < aNs A) : Ex S (d + 1) 0 0 76 [.ref 0, .int (nI j)] (hC sw c, hm) (some (.int (nI (aWe A j)))) (hC sw (s_cTraced c (cTraced c + 1)), hm) := by
  have hns := hA.2.2.2.1
  have h := (hT.2.2.2.2.1 j hj).1
  cases sw
  all_goals
    (refine exI rfl rfl ?_; intro X hX)
    repeat refine hX _ _ _ _ _ _ _ _ _ _ _ _ _ _ rfl ?_
    refine ⟨vp_in_nI (by omega) (by decide), ?_⟩
    rw [nI_clamp (by omega)]
    rw [h]
    repeat refine hX _ _ _ _ _ _ _ _ _ _ _ _ _ _ rfl ?_
    exact ⟨rfl, rfl⟩
theorem c_asGeneral (S : zS) (d : Nat) (sw : Bool) (c : cS) (hm : List zC) {A : aT} {N : aN} (hA : TWf A) (hT : TRel (cTo c) A) (hN : NRel A (cSc c) N) {j : Nat} (hj : j < aNs A) : Ex S (d + 2) 0 0 77 [.ref 0, .int (nI j)] (hC sw c, hm) (some (.int (nI (aWe A j) + nI (nYa N j)))) (hC sw (s_cTraced c (cTraced c + 10 + 1)), hm) := by
  have hns := hA.2.2.2.1
  have h := (fun t => c_asStatue S d sw (s_cTraced c t) hm hA hT hj) (cTraced c + 10)
  have hy := hN.2.1 j hj
  cases sw
  all_goals
    (refine exI rfl rfl ?_; intro X hX)
    repeat refine hX _ _ _ _ _ _ _ _ _ _ _ _ _ _ rfl ?_
    refine Or.inl ⟨_, _, h, ?_⟩
    repeat refine hX _ _ _ _ _ _ _ _ _ _ _ _ _ _ rfl ?_
    refine ⟨vp_in_nI (by omega) (by decide), ?_⟩
    rw [nI_clamp (by omega)]
    rw [hy]
    repeat refine hX _ _ _ _ _ _ _ _ _ _ _ _ _ _ rfl ?_
    exact ⟨rfl, rfl⟩
theorem c_asPoet (S : zS) (d : Nat) (sw : Bool) (c : cS) (hm : List zC) {A : aT} {N : aN} (hA : TWf A) (hT : TRel (cTo c) A) (hW : NWf A N) (hN : NRel A (cSc c) N) {j : Nat} (hj : j < aNs A) : Ex S (d + 4) 0 0 78 [.ref 0, .int (nI j)] (hC sw c, hm) (some (.int (nI (aWe A j) - nI (aPull A N j)))) (hC sw (s_cTraced c (cTraced c + 100 + 1)), hm) := by
  have h := (fun t => c_asStatue S (d + 2) sw (s_cTraced c t) hm hA hT hj) (cTraced c + 100)
  have hp := (fun t => c_pullAt S d sw (s_cTraced c t) hm hA hT hW hN hj) (cTraced c + 100 + 1)
  cases sw
  all_goals
    (refine exI rfl rfl ?_; intro X hX)
    repeat refine hX _ _ _ _ _ _ _ _ _ _ _ _ _ _ rfl ?_
    refine Or.inl ⟨_, _, h, ?_⟩
    repeat refine hX _ _ _ _ _ _ _ _ _ _ _ _ _ _ rfl ?_
    refine Or.inl ⟨_, _, hp, ?_⟩
    repeat refine hX _ _ _ _ _ _ _ _ _ _ _ _ _ _ rfl ?_
    exact ⟨rfl, rfl⟩
theorem c_asHorse (S : zS) (d : Nat) (sw : Bool) (c : cS) (hm : List zC) {A : aT} {N : aN} (hA : TWf A) (hT : TRel (cTo c) A) (hN : NRel A (cSc c) N) {j : Nat} (hj : j < aNs A) : Ex S (d + 3) 0 0 79 [.ref 0, .int (nI j)] (hC sw c, hm) (some (.int (2 * (nI (aWe A j) + nI (nYa N j))))) (hC sw (s_cTraced c (cTraced c + 1000 + 10 + 1)), hm) := by
  have h := (fun t => c_asGeneral S d sw (s_cTraced c t) hm hA hT hN hj) (cTraced c + 1000)
  cases sw
  all_goals
    (refine exI rfl rfl ?_; intro X hX)
    repeat refine hX _ _ _ _ _ _ _ _ _ _ _ _ _ _ rfl ?_
    refine Or.inl ⟨_, _, h, ?_⟩
    repeat refine hX _ _ _ _ _ _ _ _ _ _ _ _ _ _ rfl ?_
    exact ⟨rfl, rfl⟩
theorem c_asSaint (S : zS) (d : Nat) (sw : Bool) (c : cS) (hm : List zC) {A : aT} {N : aN} (hA : TWf A) (hT : TRel (cTo c) A) (hW : NWf A N) (hN : NRel A (cSc c) N) {j : Nat} (hj : j < aNs A) : Ex S (d + 5) 0 0 80 [.ref 0, .int (nI j)] (hC sw c, hm) (some (.int (nI (aWe A j) - nI (aPull A N j) + nI j))) (hC sw (s_cTraced c (cTraced c + 10000 + 100 + 1)), hm) := by
  have h := (fun t => c_asPoet S d sw (s_cTraced c t) hm hA hT hW hN hj) (cTraced c + 10000)
  cases sw
  all_goals
    (refine exI rfl rfl ?_; intro X hX)
    repeat refine hX _ _ _ _ _ _ _ _ _ _ _ _ _ _ rfl ?_
    refine Or.inl ⟨_, _, h, ?_⟩
    repeat refine hX _ _ _ _ _ _ _ _ _ _ _ _ _ _ rfl ?_
    exact ⟨rfl, rfl⟩
theorem c_asGirl (S : zS) (d : Nat) (sw : Bool) (c : cS) (hm : List zC) {A : aT} {N : aN} (hA : TWf A) (hT : TRel (cTo c) A) (hN : NRel A (cSc c) N) {j : Nat} (hj : j < aNs A) : Ex S (d + 2) 0 0 81 [.ref 0, .int (nI j)] (hC sw c, hm) (some (.int (nI (aWe A j) + nI (pop (aWr A N j))))) (hC sw (s_cTraced c (cTraced c + 100000 + 1)), hm) := by
  have h := (fun t => c_asStatue S d sw (s_cTraced c t) hm hA hT hj) (cTraced c + 100000)
  have hw := (fun t => c_wr S d sw (s_cTraced c t) hm hA hT hN hj) (cTraced c + 100000 + 1)
  have hbc := fun hh => j_bcN S d hh (aWr_lt hA N j)
  cases sw
  all_goals
    (refine exI rfl rfl ?_; intro X hX)
    repeat refine hX _ _ _ _ _ _ _ _ _ _ _ _ _ _ rfl ?_
    refine Or.inl ⟨_, _, h, ?_⟩
    repeat refine hX _ _ _ _ _ _ _ _ _ _ _ _ _ _ rfl ?_
    refine Or.inl ⟨_, _, hw, ?_⟩
    repeat refine hX _ _ _ _ _ _ _ _ _ _ _ _ _ _ rfl ?_
    refine Or.inl ⟨_, _, hbc _, ?_⟩
    repeat refine hX _ _ _ _ _ _ _ _ _ _ _ _ _ _ rfl ?_
    exact ⟨rfl, rfl⟩
def aRate (a : aS) (k : Int32) (j : Nat) : Int32 := sel k (nI (aWe (sT a) j)) [(1, nI (aWe (sT a) j) + nI (nYa (sN a) j)), (2, nI (aWe (sT a) j) - nI (aPull (sT a) (sN a) j)), (3, 2 * (nI (aWe (sT a) j) + nI (nYa (sN a) j))), (4, nI (aWe (sT a) j) - nI (aPull (sT a) (sN a) j) + nI j), (5, nI (aWe (sT a) j) + nI (pop (aWr (sT a) (sN a) j)))]
def selL (w : Int32) (e : Int64) : List (Int32 × Int64) → Int64
  | [] => e
  | (x, v) :: r => if w = x then v else selL w e r
def aRtr (a : aS) (k : Int32) : Int64 := selL k (sTr a + 1) [(1, sTr a + 10 + 1), (2, sTr a + 100 + 1), (3, sTr a + 1000 + 10 + 1), (4, sTr a + 10000 + 100 + 1), (5, sTr a + 100000 + 1)]
def spRate (a : aS) (k s : Int32) : Int32 × aS := bif inb k 6 && inb s (aNs (sT a)) then (aRate a k s.toNatClampNeg, uTr a (aRtr a k)) else (-1000000, a)
theorem c_rate (S : zS) (d : Nat) (sw : Bool) (c : cS) (hm : List zC) {a : aS} (hA : AWf a) (hR : CRel c a) (k s : Int32) : ∃ c', Ex S (d + 6) 0 0 58 [.ref 0, .int k, .int s] (hC sw c, hm) (some (.int (spRate a k s).1)) (hC sw c', hm) ∧ CRel c' (spRate a k s).2 := by
  have hns := hA.1.2.2.2.1
  have hst := c_hasStatue S (d + 4) sw c hm hR.1.2.2.1 s
  have htr := hR.2.2.2.2.2.2.2.2
  unfold spRate
  cases hik : inb k 6 with
  | false =>
    refine ⟨c, ?_, hR⟩
    have hno := inb_no hik
    cases sw
    all_goals
      (refine exI rfl rfl ?_; intro X hX)
      repeat refine hX _ _ _ _ _ _ _ _ _ _ _ _ _ _ rfl ?_
      rcases hno with h0 | ⟨h0, h1⟩
      · refine br_t (show k < 0 from h0) ?_
        repeat refine hX _ _ _ _ _ _ _ _ _ _ _ _ _ _ rfl ?_
        exact ⟨rfl, rfl⟩
      · refine br_f (show ¬ k < 0 from h0) ?_
        repeat refine hX _ _ _ _ _ _ _ _ _ _ _ _ _ _ rfl ?_
        refine br_t (show nI 6 ≤ k from h1) ?_
        repeat refine hX _ _ _ _ _ _ _ _ _ _ _ _ _ _ rfl ?_
        exact ⟨rfl, rfl⟩
  | true =>
    obtain ⟨z, hz, rfl⟩ := inb_of hik (by decide)
    cases hin : inb s (aNs (sT a)) with
    | false =>
      rw [hin] at hst
      refine ⟨c, ?_, hR⟩
      cases sw
      all_goals
        (refine exI rfl rfl ?_; intro X hX)
        repeat refine hX _ _ _ _ _ _ _ _ _ _ _ _ _ _ rfl ?_
        refine br_f (show ¬ nI z < 0 from nI_pos (by omega)) ?_
        repeat refine hX _ _ _ _ _ _ _ _ _ _ _ _ _ _ rfl ?_
        refine br_f (show ¬ nI 6 ≤ nI z from nI_ge (by omega) (by decide)) ?_
        repeat refine hX _ _ _ _ _ _ _ _ _ _ _ _ _ _ rfl ?_
        refine Or.inl ⟨_, _, hst, ?_⟩
        repeat refine hX _ _ _ _ _ _ _ _ _ _ _ _ _ _ rfl ?_
        refine br_f (show ¬ ¬ b2i false = 0 by decide) ?_
        repeat refine hX _ _ _ _ _ _ _ _ _ _ _ _ _ _ rfl ?_
        exact ⟨rfl, rfl⟩
    | true =>
      rw [hin] at hst
      obtain ⟨j, hj, rfl⟩ := inb_of hin (by omega)
      simp only [cond_true, Bool.and_self, nI_clamp (show j < 2 ^ 31 by omega)]
      have g0 := c_asStatue S (d + 4) sw c hm hA.1 hR.1 hj
      have g1 := c_asGeneral S (d + 3) sw c hm hA.1 hR.1 hR.2.1 hj
      have g2 := c_asPoet S (d + 1) sw c hm hA.1 hR.1 hA.2.1 hR.2.1 hj
      have g3 := c_asHorse S (d + 2) sw c hm hA.1 hR.1 hR.2.1 hj
      have g4 := c_asSaint S d sw c hm hA.1 hR.1 hA.2.1 hR.2.1 hj
      have g5 := c_asGirl S (d + 3) sw c hm hA.1 hR.1 hR.2.1 hj
      have hrel : ∀ t, CRel (s_cTraced c t) (uTr a t) := fun t => ⟨hR.1, hR.2.1, hR.2.2.1, hR.2.2.2.1, hR.2.2.2.2.1, hR.2.2.2.2.2.1, hR.2.2.2.2.2.2.1, hR.2.2.2.2.2.2.2.1, rfl⟩
      refine ⟨s_cTraced c (aRtr a (nI z)), ?_, hrel _⟩
      rw [htr] at g0 g1 g2 g3 g4 g5
      cases sw
      all_goals
        (refine exI rfl rfl ?_; intro X hX)
        repeat refine hX _ _ _ _ _ _ _ _ _ _ _ _ _ _ rfl ?_
        refine br_f (show ¬ nI z < 0 from nI_pos (by omega)) ?_
        repeat refine hX _ _ _ _ _ _ _ _ _ _ _ _ _ _ rfl ?_
        refine br_f (show ¬ nI 6 ≤ nI z from nI_ge (by omega) (by decide)) ?_
        repeat refine hX _ _ _ _ _ _ _ _ _ _ _ _ _ _ rfl ?_
        refine Or.inl ⟨_, _, hst, ?_⟩
        repeat refine hX _ _ _ _ _ _ _ _ _ _ _ _ _ _ rfl ?_
        refine br_t (show ¬ b2i true = 0 by decide) ?_
        repeat refine hX _ _ _ _ _ _ _ _ _ _ _ _ _ _ rfl ?_
        refine ⟨fun hw => ?_, fun h0 => ⟨fun hw => ?_, fun h1 => ⟨fun hw => ?_, fun h2 => ⟨fun hw => ?_, fun h3 => ⟨fun hw => ?_, fun h4 => ?_⟩⟩⟩⟩⟩
        · repeat refine hX _ _ _ _ _ _ _ _ _ _ _ _ _ _ rfl ?_
          refine Or.inl ⟨_, _, g1, ?_⟩
          repeat refine hX _ _ _ _ _ _ _ _ _ _ _ _ _ _ rfl ?_
          exact ⟨by rw [hw]; rfl, by rw [hw]; rfl⟩
        · repeat refine hX _ _ _ _ _ _ _ _ _ _ _ _ _ _ rfl ?_
          refine Or.inl ⟨_, _, g2, ?_⟩
          repeat refine hX _ _ _ _ _ _ _ _ _ _ _ _ _ _ rfl ?_
          exact ⟨by rw [hw]; rfl, by rw [hw]; rfl⟩
        · repeat refine hX _ _ _ _ _ _ _ _ _ _ _ _ _ _ rfl ?_
          refine Or.inl ⟨_, _, g3, ?_⟩
          repeat refine hX _ _ _ _ _ _ _ _ _ _ _ _ _ _ rfl ?_
          exact ⟨by rw [hw]; rfl, by rw [hw]; rfl⟩
        · repeat refine hX _ _ _ _ _ _ _ _ _ _ _ _ _ _ rfl ?_
          refine Or.inl ⟨_, _, g4, ?_⟩
          repeat refine hX _ _ _ _ _ _ _ _ _ _ _ _ _ _ rfl ?_
          exact ⟨by rw [hw]; rfl, by rw [hw]; rfl⟩
        · repeat refine hX _ _ _ _ _ _ _ _ _ _ _ _ _ _ rfl ?_
          refine Or.inl ⟨_, _, g5, ?_⟩
          repeat refine hX _ _ _ _ _ _ _ _ _ _ _ _ _ _ rfl ?_
          exact ⟨by rw [hw]; rfl, by rw [hw]; rfl⟩
        · repeat refine hX _ _ _ _ _ _ _ _ _ _ _ _ _ _ rfl ?_
          refine Or.inl ⟨_, _, g0, ?_⟩
          repeat refine hX _ _ _ _ _ _ _ _ _ _ _ _ _ _ rfl ?_
          exact ⟨by simp only [aRate, sel]; rw [if_neg h0, if_neg h1, if_neg h2, if_neg h3, if_neg h4], by simp only [aRtr, selL]; rw [if_neg h0, if_neg h1, if_neg h2, if_neg h3, if_neg h4]⟩
end
section
/-! ===== the class: the fewest who must come, the fewest pulls ===== -/
def aAll (A : aT) (N : aN) (pe set : Nat) : Nat → Bool
  | 0 => true
  | j + 1 => aAll A N pe set j && (!set.testBit j || decide (aWe A j ≤ aStr A (pe &&& aWr A N j)))
theorem aAll_no {A : aT} {N : aN} {pe set : Nat} : ∀ (k j : Nat), aAll A N pe set j = false → aAll A N pe set (j + k) = false
  | 0, _, h => h
  | k + 1, j, h => by
    rw [← Nat.add_assoc, aAll, aAll_no k j h, Bool.false_and]
theorem c_allMove (S : zS) (d : Nat) (sw : Bool) (c : cS) (hm : List zC) {A : aT} {N : aN} (hA : TWf A) (hT : TRel (cTo c) A) (hN : NRel A (cSc c) N) {pe set : Nat} (hpe : pe < 64) (hset : set < 64) : Ex S (d + 3) 0 0 68 [.ref 0, .int (nI pe), .int (nI set)] (hC sw c, hm) (some (.int (b2i (aAll A N pe set (aNs A))))) (hC sw c, hm) := by
  have hns := hA.2.2.2.1
  have hwr := fun j (hj : j < aNs A) => c_wr S (d + 1) sw c hm hA hT hN hj
  have hwl := fun j => aWr_lt hA N j
  have hst := fun (x : Nat) (hx : x < 64) => c_strengthOf S d sw c hm hA hT hx
  have hhas := fun h j (hj : j < 6) => c_hasX S (d + 1) h hset hj
  have h5 := fun j hj => (hT.2.2.2.2.1 j hj).1
  have hn := hT.2.2.1
  cases sw
  case false =>
    (refine exI rfl rfl ?_; intro X hX)
    have loop : ∀ (k j : Nat) (v : Option Value), j + k = aNs A → (v = none ∨ ∃ z, v = some (.int z)) → aAll A N pe set j = true → X 2 [some (.ref 0), some (.int (nI pe)), some (.int (nI set)), some (.int (nI j)), v] [] (hC false c, hm) 0 0 := by
      intro k
      induction k with
      | zero =>
        intro j v hj hv ha
        repeat refine hX _ _ _ _ _ _ _ _ _ _ _ _ _ _ rfl ?_
        rw [hn]
        refine br_t (show nI (aNs A) ≤ nI j from nI_le (by omega) (by omega)) ?_
        repeat refine hX _ _ _ _ _ _ _ _ _ _ _ _ _ _ rfl ?_
        exact ⟨Or.inr rfl, by rw [← show j = aNs A by omega, ha]; rfl, rfl⟩
      | succ k ih =>
        intro j v hj hv ha
        have hwe := (hA.2.2.2.2.2.1 j (by omega)).2.1
        have hsl := aStr_le hA (pe &&& aWr A N j)
        have h7 := ih (j + 1) (some (.int (nI (aStr A (pe &&& aWr A N j))))) (by omega) (Or.inr ⟨_, rfl⟩)
        have h8 := aAll_no (A := A) (N := N) (pe := pe) (set := set) k (j + 1)
        rw [show j + 1 + k = aNs A by omega] at h8
        rw [aAll, ha, Bool.true_and] at h7 h8
        rcases hv with rfl | ⟨z, rfl⟩
        all_goals
          repeat refine hX _ _ _ _ _ _ _ _ _ _ _ _ _ _ rfl ?_
          rw [hn]
          refine br_f (show ¬ nI (aNs A) ≤ nI j from nI_ge (by omega) (by omega)) ?_
          repeat refine hX _ _ _ _ _ _ _ _ _ _ _ _ _ _ rfl ?_
          refine Or.inl ⟨_, _, hwr j (by omega), ?_⟩
          iterate 2 (refine hX _ _ _ _ _ _ _ _ _ _ _ _ _ _ rfl ?_)
          rw [q_and _ hpe _ (hwl j)]
          refine Or.inl ⟨_, _, hst _ (q_and_lt hpe), ?_⟩
          repeat refine hX _ _ _ _ _ _ _ _ _ _ _ _ _ _ rfl ?_
          refine Or.inl ⟨_, _, hhas _ j (by omega), ?_⟩
          repeat refine hX _ _ _ _ _ _ _ _ _ _ _ _ _ _ rfl ?_
          cases hb : set.testBit j with
          | false =>
            rw [hb] at h7
            refine br_t (show b2i false = 0 from rfl) ?_
            iterate 2 (refine hX _ _ _ _ _ _ _ _ _ _ _ _ _ _ rfl ?_)
            rw [nI_1]
            exact h7 rfl
          | true =>
            rw [hb] at h7 h8
            refine br_f (show ¬ b2i true = 0 by decide) ?_
            repeat refine hX _ _ _ _ _ _ _ _ _ _ _ _ _ _ rfl ?_
            refine ⟨vp_in_nI (by omega) (by decide), ?_⟩
            rw [nI_clamp (by omega)]
            rw [h5 j (by omega)]
            repeat refine hX _ _ _ _ _ _ _ _ _ _ _ _ _ _ rfl ?_
            by_cases hle : aWe A j ≤ aStr A (pe &&& aWr A N j)
            · refine br_t (show nI (aWe A j) ≤ nI (aStr A (pe &&& aWr A N j)) from nI_le hle (by omega)) ?_
              iterate 2 (refine hX _ _ _ _ _ _ _ _ _ _ _ _ _ _ rfl ?_)
              rw [nI_1]
              exact h7 (by rw [decide_eq_true hle]; rfl)
            · refine br_f (show ¬ nI (aWe A j) ≤ nI (aStr A (pe &&& aWr A N j)) from nI_ge (by omega) (by omega)) ?_
              repeat refine hX _ _ _ _ _ _ _ _ _ _ _ _ _ _ rfl ?_
              exact ⟨Or.inl rfl, by rw [h8 (by rw [decide_eq_false hle]; rfl)]; rfl, rfl⟩
    iterate 2 (refine hX _ _ _ _ _ _ _ _ _ _ _ _ _ _ rfl ?_)
    exact loop (aNs A) 0 none (by omega) (Or.inl rfl) rfl
  case true =>
    (refine exI rfl rfl ?_; intro X hX)
    have loop : ∀ (k j : Nat) (v : Option Value), j + k = aNs A → (v = none ∨ ∃ z, v = some (.int z)) → aAll A N pe set j = true → X 2 [some (.ref 0), some (.int (nI pe)), some (.int (nI set)), some (.int (nI j)), v] [] (hC true c, hm) 0 0 := by
      intro k
      induction k with
      | zero =>
        intro j v hj hv ha
        repeat refine hX _ _ _ _ _ _ _ _ _ _ _ _ _ _ rfl ?_
        rw [hn]
        refine br_t (show nI (aNs A) ≤ nI j from nI_le (by omega) (by omega)) ?_
        repeat refine hX _ _ _ _ _ _ _ _ _ _ _ _ _ _ rfl ?_
        exact ⟨Or.inr rfl, by rw [← show j = aNs A by omega, ha]; rfl, rfl⟩
      | succ k ih =>
        intro j v hj hv ha
        have hwe := (hA.2.2.2.2.2.1 j (by omega)).2.1
        have hsl := aStr_le hA (pe &&& aWr A N j)
        have h7 := ih (j + 1) (some (.int (nI (aStr A (pe &&& aWr A N j))))) (by omega) (Or.inr ⟨_, rfl⟩)
        have h8 := aAll_no (A := A) (N := N) (pe := pe) (set := set) k (j + 1)
        rw [show j + 1 + k = aNs A by omega] at h8
        rw [aAll, ha, Bool.true_and] at h7 h8
        rcases hv with rfl | ⟨z, rfl⟩
        all_goals
          repeat refine hX _ _ _ _ _ _ _ _ _ _ _ _ _ _ rfl ?_
          rw [hn]
          refine br_f (show ¬ nI (aNs A) ≤ nI j from nI_ge (by omega) (by omega)) ?_
          repeat refine hX _ _ _ _ _ _ _ _ _ _ _ _ _ _ rfl ?_
          refine Or.inl ⟨_, _, hwr j (by omega), ?_⟩
          iterate 2 (refine hX _ _ _ _ _ _ _ _ _ _ _ _ _ _ rfl ?_)
          rw [q_and _ hpe _ (hwl j)]
          refine Or.inl ⟨_, _, hst _ (q_and_lt hpe), ?_⟩
          repeat refine hX _ _ _ _ _ _ _ _ _ _ _ _ _ _ rfl ?_
          refine Or.inl ⟨_, _, hhas _ j (by omega), ?_⟩
          repeat refine hX _ _ _ _ _ _ _ _ _ _ _ _ _ _ rfl ?_
          cases hb : set.testBit j with
          | false =>
            rw [hb] at h7
            refine br_t (show b2i false = 0 from rfl) ?_
            iterate 2 (refine hX _ _ _ _ _ _ _ _ _ _ _ _ _ _ rfl ?_)
            rw [nI_1]
            exact h7 rfl
          | true =>
            rw [hb] at h7 h8
            refine br_f (show ¬ b2i true = 0 by decide) ?_
            repeat refine hX _ _ _ _ _ _ _ _ _ _ _ _ _ _ rfl ?_
            refine ⟨vp_in_nI (by omega) (by decide), ?_⟩
            rw [nI_clamp (by omega)]
            rw [h5 j (by omega)]
            repeat refine hX _ _ _ _ _ _ _ _ _ _ _ _ _ _ rfl ?_
            by_cases hle : aWe A j ≤ aStr A (pe &&& aWr A N j)
            · refine br_t (show nI (aWe A j) ≤ nI (aStr A (pe &&& aWr A N j)) from nI_le hle (by omega)) ?_
              iterate 2 (refine hX _ _ _ _ _ _ _ _ _ _ _ _ _ _ rfl ?_)
              rw [nI_1]
              exact h7 (by rw [decide_eq_true hle]; rfl)
            · refine br_f (show ¬ nI (aWe A j) ≤ nI (aStr A (pe &&& aWr A N j)) from nI_ge (by omega) (by omega)) ?_
              repeat refine hX _ _ _ _ _ _ _ _ _ _ _ _ _ _ rfl ?_
              exact ⟨Or.inl rfl, by rw [h8 (by rw [decide_eq_false hle]; rfl)]; rfl, rfl⟩
    iterate 2 (refine hX _ _ _ _ _ _ _ _ _ _ _ _ _ _ rfl ?_)
    exact loop (aNs A) 0 none (by omega) (Or.inl rfl) rfl
def oI (o : Option Nat) : Int32 := match o with
  | none => -9
  | some b => nI b
def oFew (o : Option Nat) (n : Nat) : Bool := match o with
  | none => true
  | some b => decide (pop n < pop b)
def aGa (A : aT) (N : aN) (set : Nat) : Nat → Option Nat
  | 0 => none
  | n + 1 => bif oFew (aGa A N set n) n && aAll A N n set (aNs A) then some n else aGa A N set n
theorem aGa_lt {A : aT} {N : aN} {set : Nat} : ∀ n b, aGa A N set n = some b → b < n
  | 0, _, h => by cases h
  | n + 1, b, h => by
    rw [aGa] at h
    cases hb : (oFew (aGa A N set n) n && aAll A N n set (aNs A)) with
    | false => rw [hb] at h; exact Nat.lt_succ_of_lt (aGa_lt n b h)
    | true => rw [hb] at h; cases h; exact Nat.lt_succ_self _
def spGather (a : aS) (x : Int32) : Int32 := bif inb x (2 ^ aNs (sT a)) then oI (aGa (sT a) (sN a) x.toNatClampNeg (2 ^ aNp (sT a))) else -1
theorem c_gather (S : zS) (d : Nat) (sw : Bool) (c : cS) (hm : List zC) {a : aS} (hA : AWf a) (hR : CRel c a) (x : Int32) : Ex S (d + 4) 0 0 49 [.ref 0, .int x] (hC sw c, hm) (some (.int (spGather a x))) (hC sw c, hm) := by
  have hns := hA.1.2.2.2.1
  have hnp := hA.1.2.2.2.2.1
  have h64 := pow_le64 hnp
  have h64s := pow_le64 hns
  have hn := hR.1.2.2.1
  have hp := hR.1.2.2.2.1
  have hbc := fun h (x : Nat) (hx : x < 64) => j_bcN S (d + 2) h hx
  have e1 := q_shl (aNs (sT a)) (by omega)
  have e2 := q_shl (aNp (sT a)) (by omega)
  unfold spGather
  cases hin : inb x (2 ^ aNs (sT a)) with
  | false =>
    have hno := inb_no hin
    cases sw
    all_goals
      (refine exI rfl rfl ?_; intro X hX)
      repeat refine hX _ _ _ _ _ _ _ _ _ _ _ _ _ _ rfl ?_
      rcases hno with h0 | ⟨h0, h1⟩
      · refine br_t (show x < 0 from h0) ?_
        repeat refine hX _ _ _ _ _ _ _ _ _ _ _ _ _ _ rfl ?_
        exact ⟨rfl, rfl⟩
      · refine br_f (show ¬ x < 0 from h0) ?_
        repeat refine hX _ _ _ _ _ _ _ _ _ _ _ _ _ _ rfl ?_
        rw [hn, e1]
        refine br_f (show ¬ x < nI (2 ^ aNs (sT a)) from Int32.not_lt.mpr h1) ?_
        repeat refine hX _ _ _ _ _ _ _ _ _ _ _ _ _ _ rfl ?_
        exact ⟨rfl, rfl⟩
  | true =>
    obtain ⟨set, hset, rfl⟩ := inb_of hin (by omega)
    simp only [cond_true, nI_clamp (show set < 2 ^ 31 by omega)]
    have hall := fun (pe : Nat) (hpe : pe < 64) => c_allMove S d sw c hm hA.1 hR.1 hR.2.1 (set := set) hpe (by omega)
    cases sw
    case false =>
      (refine exI rfl rfl ?_; intro X hX)
      have loop : ∀ (k i : Nat) (v : Option Value), i + k = 2 ^ aNp (sT a) → (v = none ∨ ∃ z, v = some (.int z)) → X 24 [some (.ref 0), some (.int (nI set)), some (.int (oI (aGa (sT a) (sN a) set i))), some (.int (nI i)), v] [] (hC false c, hm) 0 0 := by
        intro k
        induction k with
        | zero =>
          intro i v hi hv
          repeat refine hX _ _ _ _ _ _ _ _ _ _ _ _ _ _ rfl ?_
          rw [hp, e2]
          refine br_t (show nI (2 ^ aNp (sT a)) ≤ nI i from nI_le (by omega) (by omega)) ?_
          repeat refine hX _ _ _ _ _ _ _ _ _ _ _ _ _ _ rfl ?_
          exact ⟨by rw [show i = 2 ^ aNp (sT a) by omega], rfl⟩
        | succ k ih =>
          intro i v hi hv
          have h7 := fun z => ih (i + 1) (some (.int z)) (by omega) (Or.inr ⟨_, rfl⟩)
          rw [aGa] at h7
          have h77 : ∀ z, (oFew (aGa (sT a) (sN a) set i) i && aAll (sT a) (sN a) i set (aNs (sT a))) = false → X 77 [some (.ref 0), some (.int (nI set)), some (.int (oI (aGa (sT a) (sN a) set i))), some (.int (nI i)), some (.int z)] [] (hC false c, hm) 0 0 := by
            intro z hb
            have h8 := h7 z
            rw [hb] at h8
            iterate 2 (refine hX _ _ _ _ _ _ _ _ _ _ _ _ _ _ rfl ?_)
            rw [nI_1]
            exact h8
          have h61 : X 61 [some (.ref 0), some (.int (nI set)), some (.int (oI (aGa (sT a) (sN a) set i))), some (.int (nI i)), some (.int (b2i (oFew (aGa (sT a) (sN a) set i) i)))] [] (hC false c, hm) 0 0 := by
            repeat refine hX _ _ _ _ _ _ _ _ _ _ _ _ _ _ rfl ?_
            cases hf : oFew (aGa (sT a) (sN a) set i) i with
            | false =>
              refine br_t (show b2i false = 0 from rfl) ?_
              exact h77 _ (by rw [hf, Bool.false_and])
            | true =>
              refine br_f (show ¬ b2i true = 0 by decide) ?_
              repeat refine hX _ _ _ _ _ _ _ _ _ _ _ _ _ _ rfl ?_
              refine Or.inl ⟨_, _, hall i (by omega), ?_⟩
              repeat refine hX _ _ _ _ _ _ _ _ _ _ _ _ _ _ rfl ?_
              cases hm2 : aAll (sT a) (sN a) i set (aNs (sT a)) with
              | false =>
                refine br_t (show b2i false = 0 from rfl) ?_
                exact h77 _ (by rw [hm2, Bool.and_false])
              | true =>
                refine br_f (show ¬ b2i true = 0 by decide) ?_
                have h8 := h7 (b2i true)
                rw [hf, hm2] at h8
                iterate 4 (refine hX _ _ _ _ _ _ _ _ _ _ _ _ _ _ rfl ?_)
                rw [nI_1]
                exact h8
          rcases hv with rfl | ⟨z, rfl⟩
          all_goals
            repeat refine hX _ _ _ _ _ _ _ _ _ _ _ _ _ _ rfl ?_
            rw [hp, e2]
            refine br_f (show ¬ nI (2 ^ aNp (sT a)) ≤ nI i from nI_ge (by omega) (by omega)) ?_
            repeat refine hX _ _ _ _ _ _ _ _ _ _ _ _ _ _ rfl ?_
            cases hg : aGa (sT a) (sN a) set i with
            | none =>
              rw [hg] at h61
              refine br_t (show oI none = -9 from rfl) ?_
              iterate 3 (refine hX _ _ _ _ _ _ _ _ _ _ _ _ _ _ rfl ?_)
              exact h61
            | some b =>
              rw [hg] at h61
              have hbl := aGa_lt _ _ hg
              refine br_f (show ¬ nI b = -9 from n9 b (by omega)) ?_
              repeat refine hX _ _ _ _ _ _ _ _ _ _ _ _ _ _ rfl ?_
              refine Or.inl ⟨_, _, hbc _ i (by omega), ?_⟩
              repeat refine hX _ _ _ _ _ _ _ _ _ _ _ _ _ _ rfl ?_
              refine Or.inl ⟨_, _, hbc _ b (by omega), ?_⟩
              repeat refine hX _ _ _ _ _ _ _ _ _ _ _ _ _ _ rfl ?_
              have hp1 := pop_le i
              have hp2 := pop_le b
              by_cases hlt : pop i < pop b
              · refine br_f (show ¬ nI (pop b) ≤ nI (pop i) from nI_ge hlt (by omega)) ?_
                rw [show oFew (some b) i = true from decide_eq_true hlt] at h61
                iterate 3 (refine hX _ _ _ _ _ _ _ _ _ _ _ _ _ _ rfl ?_)
                exact h61
              · refine br_t (show nI (pop b) ≤ nI (pop i) from nI_le (by omega) (by omega)) ?_
                rw [show oFew (some b) i = false from decide_eq_false hlt] at h61
                iterate 2 (refine hX _ _ _ _ _ _ _ _ _ _ _ _ _ _ rfl ?_)
                exact h61
      repeat refine hX _ _ _ _ _ _ _ _ _ _ _ _ _ _ rfl ?_
      refine br_f (show ¬ nI set < 0 from nI_pos (by omega)) ?_
      repeat refine hX _ _ _ _ _ _ _ _ _ _ _ _ _ _ rfl ?_
      rw [hn, e1]
      refine br_t (show nI set < nI (2 ^ aNs (sT a)) from nI_lt hset (by omega)) ?_
      iterate 4 (refine hX _ _ _ _ _ _ _ _ _ _ _ _ _ _ rfl ?_)
      exact loop (2 ^ aNp (sT a)) 0 none (by omega) (Or.inl rfl)
    case true =>
      (refine exI rfl rfl ?_; intro X hX)
      have loop : ∀ (k i : Nat) (v : Option Value), i + k = 2 ^ aNp (sT a) → (v = none ∨ ∃ z, v = some (.int z)) → X 24 [some (.ref 0), some (.int (nI set)), some (.int (oI (aGa (sT a) (sN a) set i))), some (.int (nI i)), v] [] (hC true c, hm) 0 0 := by
        intro k
        induction k with
        | zero =>
          intro i v hi hv
          repeat refine hX _ _ _ _ _ _ _ _ _ _ _ _ _ _ rfl ?_
          rw [hp, e2]
          refine br_t (show nI (2 ^ aNp (sT a)) ≤ nI i from nI_le (by omega) (by omega)) ?_
          repeat refine hX _ _ _ _ _ _ _ _ _ _ _ _ _ _ rfl ?_
          exact ⟨by rw [show i = 2 ^ aNp (sT a) by omega], rfl⟩
        | succ k ih =>
          intro i v hi hv
          have h7 := fun z => ih (i + 1) (some (.int z)) (by omega) (Or.inr ⟨_, rfl⟩)
          rw [aGa] at h7
          have h77 : ∀ z, (oFew (aGa (sT a) (sN a) set i) i && aAll (sT a) (sN a) i set (aNs (sT a))) = false → X 77 [some (.ref 0), some (.int (nI set)), some (.int (oI (aGa (sT a) (sN a) set i))), some (.int (nI i)), some (.int z)] [] (hC true c, hm) 0 0 := by
            intro z hb
            have h8 := h7 z
            rw [hb] at h8
            iterate 2 (refine hX _ _ _ _ _ _ _ _ _ _ _ _ _ _ rfl ?_)
            rw [nI_1]
            exact h8
          have h61 : X 61 [some (.ref 0), some (.int (nI set)), some (.int (oI (aGa (sT a) (sN a) set i))), some (.int (nI i)), some (.int (b2i (oFew (aGa (sT a) (sN a) set i) i)))] [] (hC true c, hm) 0 0 := by
            repeat refine hX _ _ _ _ _ _ _ _ _ _ _ _ _ _ rfl ?_
            cases hf : oFew (aGa (sT a) (sN a) set i) i with
            | false =>
              refine br_t (show b2i false = 0 from rfl) ?_
              exact h77 _ (by rw [hf, Bool.false_and])
            | true =>
              refine br_f (show ¬ b2i true = 0 by decide) ?_
              repeat refine hX _ _ _ _ _ _ _ _ _ _ _ _ _ _ rfl ?_
              refine Or.inl ⟨_, _, hall i (by omega), ?_⟩
              repeat refine hX _ _ _ _ _ _ _ _ _ _ _ _ _ _ rfl ?_
              cases hm2 : aAll (sT a) (sN a) i set (aNs (sT a)) with
              | false =>
                refine br_t (show b2i false = 0 from rfl) ?_
                exact h77 _ (by rw [hm2, Bool.and_false])
              | true =>
                refine br_f (show ¬ b2i true = 0 by decide) ?_
                have h8 := h7 (b2i true)
                rw [hf, hm2] at h8
                iterate 4 (refine hX _ _ _ _ _ _ _ _ _ _ _ _ _ _ rfl ?_)
                rw [nI_1]
                exact h8
          rcases hv with rfl | ⟨z, rfl⟩
          all_goals
            repeat refine hX _ _ _ _ _ _ _ _ _ _ _ _ _ _ rfl ?_
            rw [hp, e2]
            refine br_f (show ¬ nI (2 ^ aNp (sT a)) ≤ nI i from nI_ge (by omega) (by omega)) ?_
            repeat refine hX _ _ _ _ _ _ _ _ _ _ _ _ _ _ rfl ?_
            cases hg : aGa (sT a) (sN a) set i with
            | none =>
              rw [hg] at h61
              refine br_t (show oI none = -9 from rfl) ?_
              iterate 3 (refine hX _ _ _ _ _ _ _ _ _ _ _ _ _ _ rfl ?_)
              exact h61
            | some b =>
              rw [hg] at h61
              have hbl := aGa_lt _ _ hg
              refine br_f (show ¬ nI b = -9 from n9 b (by omega)) ?_
              repeat refine hX _ _ _ _ _ _ _ _ _ _ _ _ _ _ rfl ?_
              refine Or.inl ⟨_, _, hbc _ i (by omega), ?_⟩
              repeat refine hX _ _ _ _ _ _ _ _ _ _ _ _ _ _ rfl ?_
              refine Or.inl ⟨_, _, hbc _ b (by omega), ?_⟩
              repeat refine hX _ _ _ _ _ _ _ _ _ _ _ _ _ _ rfl ?_
              have hp1 := pop_le i
              have hp2 := pop_le b
              by_cases hlt : pop i < pop b
              · refine br_f (show ¬ nI (pop b) ≤ nI (pop i) from nI_ge hlt (by omega)) ?_
                rw [show oFew (some b) i = true from decide_eq_true hlt] at h61
                iterate 3 (refine hX _ _ _ _ _ _ _ _ _ _ _ _ _ _ rfl ?_)
                exact h61
              · refine br_t (show nI (pop b) ≤ nI (pop i) from nI_le (by omega) (by omega)) ?_
                rw [show oFew (some b) i = false from decide_eq_false hlt] at h61
                iterate 2 (refine hX _ _ _ _ _ _ _ _ _ _ _ _ _ _ rfl ?_)
                exact h61
      repeat refine hX _ _ _ _ _ _ _ _ _ _ _ _ _ _ rfl ?_
      refine br_f (show ¬ nI set < 0 from nI_pos (by omega)) ?_
      repeat refine hX _ _ _ _ _ _ _ _ _ _ _ _ _ _ rfl ?_
      rw [hn, e1]
      refine br_t (show nI set < nI (2 ^ aNs (sT a)) from nI_lt hset (by omega)) ?_
      iterate 4 (refine hX _ _ _ _ _ _ _ _ _ _ _ _ _ _ rfl ?_)
      exact loop (2 ^ aNp (sT a)) 0 none (by omega) (Or.inl rfl)
/-- pulls by which a yard is bare, up and down -/
def aMvAt (A : aT) (N : aN) (t : Nat) : Bool := aMov A N (aSin A N (nI t)).toNatClampNeg
def aBrU (A : aT) (N : aN) : Nat → Nat → Nat → Int32
  | 0, _, _ => -9
  | n + 1, p, t => if aSin A N (nI t) = -9 then nI p else bif aMvAt A N t then aBrU A N n (p + 1) (t + 1) else -9
def aBrD (A : aT) (N : aN) : Nat → Nat → Int32
  | 0, _ => -9
  | f + 1, p => if aSin A N (nI f) = -9 then nI p else bif aMvAt A N f then aBrD A N f (p + 1) else -9
theorem aSin_some {A : aT} (hA : TWf A) {N : aN} {y : Int32} (h : ¬ aSin A N y = -9) : ∃ k, k < aNs A ∧ aSin A N y = nI k := by
  rcases aFst_cases (f := nYa N) (y := y) (aNs A) 0 with h1 | ⟨k, h1, h2, h3, h4⟩
  · exact absurd h1 h
  · exact ⟨k, by omega, h3⟩
theorem c_bareU (S : zS) (d : Nat) (sw : Bool) (c : cS) (hm : List zC) {A : aT} {N : aN} (hA : TWf A) (hT : TRel (cTo c) A) (hW : NWf A N) (hN : NRel A (cSc c) N) {y : Nat} (hy : y < aNy A) : Ex S (d + 5) 0 0 71 [.ref 0, .int (nI y), .int 1] (hC sw c, hm) (some (.int (aBrU A N (aNy A - y) 0 y))) (hC sw c, hm) := by
  have hns := hA.2.2.2.1
  have hny := hA.2.1
  have hsp : ∀ h, Ex S (d + 4) 0 0 85 [.int 1] h (some (.int 1)) h := fun h => c_stepTo S (d + 3) h 1
  have hya := fun x => c_hasYard S (d + 3) sw c hm hT.1 x
  have hsn := fun x => c_statueIn S (d + 3) sw c hm hA hT hN x
  have hmo := fun j (hj : j < aNs A) => c_moves S d sw c hm hA hT hW hN hj
  have hYt := hT.1
  cases sw
  case false =>
    (refine exI rfl rfl ?_; intro X hX)
    have loop : ∀ (n p : Nat) (v4 v5 : Option Value), y + p + n = aNy A → ((v4 = none ∧ v5 = none) ∨ ∃ z1 z2, v4 = some (.int z1) ∧ v5 = some (.int z2)) → aBrU A N n p (y + p) = aBrU A N (aNy A - y) 0 y → X 2 [some (.ref 0), some (.int (nI y)), some (.int 1), some (.int (nI p)), v4, v5] [] (hC false c, hm) 0 0 := by
      intro n
      induction n with
      | zero =>
        intro p v4 v5 hp hv he
        have hf := hya (nI y + nI p * 1)
        rw [Int32.mul_one, nI_add] at hf
        have hnb : inb (nI (y + p)) (aNy A) = false := by
          unfold inb
          rw [decide_eq_false (nI_nlt (show aNy A ≤ y + p by omega) (by omega)), Bool.and_false]
        rw [hnb] at hf
        rcases hv with ⟨rfl, rfl⟩ | ⟨z1, z2, rfl, rfl⟩
        all_goals
          repeat refine hX _ _ _ _ _ _ _ _ _ _ _ _ _ _ rfl ?_
          rw [hYt]
          by_cases h1 : p = aNy A
          · refine br_t (show nI (aNy A) ≤ nI p from nI_le (by omega) (by omega)) ?_
            repeat refine hX _ _ _ _ _ _ _ _ _ _ _ _ _ _ rfl ?_
            exact ⟨by rw [← he]; rfl, rfl⟩
          · refine br_f (show ¬ nI (aNy A) ≤ nI p from nI_ge (by omega) (by omega)) ?_
            repeat refine hX _ _ _ _ _ _ _ _ _ _ _ _ _ _ rfl ?_
            refine Or.inl ⟨_, _, hsp _, ?_⟩
            iterate 3 (refine hX _ _ _ _ _ _ _ _ _ _ _ _ _ _ rfl ?_)
            rw [Int32.mul_one, nI_add]
            repeat refine hX _ _ _ _ _ _ _ _ _ _ _ _ _ _ rfl ?_
            refine Or.inl ⟨_, _, hf, ?_⟩
            repeat refine hX _ _ _ _ _ _ _ _ _ _ _ _ _ _ rfl ?_
            refine br_f (show ¬ ¬ b2i false = 0 by decide) ?_
            repeat refine hX _ _ _ _ _ _ _ _ _ _ _ _ _ _ rfl ?_
            exact ⟨by rw [← he]; rfl, rfl⟩
      | succ n ih =>
        intro p v4 v5 hp hv he
        have hf := hya (nI (y + p))
        rw [inb_nI (show y + p < aNy A by omega) (by omega)] at hf
        rw [aBrU] at he
        rcases hv with ⟨rfl, rfl⟩ | ⟨z1, z2, rfl, rfl⟩
        all_goals
          repeat refine hX _ _ _ _ _ _ _ _ _ _ _ _ _ _ rfl ?_
          rw [hYt]
          refine br_f (show ¬ nI (aNy A) ≤ nI p from nI_ge (by omega) (by omega)) ?_
          repeat refine hX _ _ _ _ _ _ _ _ _ _ _ _ _ _ rfl ?_
          refine Or.inl ⟨_, _, hsp _, ?_⟩
          iterate 3 (refine hX _ _ _ _ _ _ _ _ _ _ _ _ _ _ rfl ?_)
          rw [Int32.mul_one, nI_add]
          repeat refine hX _ _ _ _ _ _ _ _ _ _ _ _ _ _ rfl ?_
          refine Or.inl ⟨_, _, hf, ?_⟩
          repeat refine hX _ _ _ _ _ _ _ _ _ _ _ _ _ _ rfl ?_
          refine br_t (show ¬ b2i true = 0 by decide) ?_
          repeat refine hX _ _ _ _ _ _ _ _ _ _ _ _ _ _ rfl ?_
          refine Or.inl ⟨_, _, hsn _, ?_⟩
          repeat refine hX _ _ _ _ _ _ _ _ _ _ _ _ _ _ rfl ?_
          by_cases h9 : aSin A N (nI (y + p)) = -9
          · rw [if_pos h9] at he
            refine br_f (show ¬ ¬ aSin A N (nI (y + p)) = -9 from fun h => h h9) ?_
            repeat refine hX _ _ _ _ _ _ _ _ _ _ _ _ _ _ rfl ?_
            exact ⟨by rw [← he], rfl⟩
          · rw [if_neg h9] at he
            refine br_t (show ¬ aSin A N (nI (y + p)) = -9 from h9) ?_
            obtain ⟨j, hj, hsj⟩ := aSin_some hA h9
            have hmj := hmo j hj
            have hat : aMvAt A N (y + p) = aMov A N j := by unfold aMvAt; rw [hsj, nI_clamp (by omega)]
            rw [hat] at he
            have h7 := ih (p + 1) (some (.int (nI (y + p)))) (some (.int (aSin A N (nI (y + p))))) (by omega) (Or.inr ⟨_, _, rfl, rfl⟩)
            rw [hsj] at h7 ⊢
            repeat refine hX _ _ _ _ _ _ _ _ _ _ _ _ _ _ rfl ?_
            refine Or.inl ⟨_, _, hmj, ?_⟩
            repeat refine hX _ _ _ _ _ _ _ _ _ _ _ _ _ _ rfl ?_
            cases hb : aMov A N j with
            | false =>
              rw [hb] at he
              refine br_f (show ¬ ¬ b2i false = 0 by decide) ?_
              repeat refine hX _ _ _ _ _ _ _ _ _ _ _ _ _ _ rfl ?_
              exact ⟨by rw [← he]; rfl, rfl⟩
            | true =>
              rw [hb] at he
              refine br_t (show ¬ b2i true = 0 by decide) ?_
              iterate 2 (refine hX _ _ _ _ _ _ _ _ _ _ _ _ _ _ rfl ?_)
              rw [nI_1]
              exact h7 he
    iterate 2 (refine hX _ _ _ _ _ _ _ _ _ _ _ _ _ _ rfl ?_)
    exact loop (aNy A - y) 0 none none (by omega) (Or.inl ⟨rfl, rfl⟩) rfl
  case true =>
    (refine exI rfl rfl ?_; intro X hX)
    have loop : ∀ (n p : Nat) (v4 v5 : Option Value), y + p + n = aNy A → ((v4 = none ∧ v5 = none) ∨ ∃ z1 z2, v4 = some (.int z1) ∧ v5 = some (.int z2)) → aBrU A N n p (y + p) = aBrU A N (aNy A - y) 0 y → X 2 [some (.ref 0), some (.int (nI y)), some (.int 1), some (.int (nI p)), v4, v5] [] (hC true c, hm) 0 0 := by
      intro n
      induction n with
      | zero =>
        intro p v4 v5 hp hv he
        have hf := hya (nI y + nI p * 1)
        rw [Int32.mul_one, nI_add] at hf
        have hnb : inb (nI (y + p)) (aNy A) = false := by
          unfold inb
          rw [decide_eq_false (nI_nlt (show aNy A ≤ y + p by omega) (by omega)), Bool.and_false]
        rw [hnb] at hf
        rcases hv with ⟨rfl, rfl⟩ | ⟨z1, z2, rfl, rfl⟩
        all_goals
          repeat refine hX _ _ _ _ _ _ _ _ _ _ _ _ _ _ rfl ?_
          rw [hYt]
          by_cases h1 : p = aNy A
          · refine br_t (show nI (aNy A) ≤ nI p from nI_le (by omega) (by omega)) ?_
            repeat refine hX _ _ _ _ _ _ _ _ _ _ _ _ _ _ rfl ?_
            exact ⟨by rw [← he]; rfl, rfl⟩
          · refine br_f (show ¬ nI (aNy A) ≤ nI p from nI_ge (by omega) (by omega)) ?_
            repeat refine hX _ _ _ _ _ _ _ _ _ _ _ _ _ _ rfl ?_
            refine Or.inl ⟨_, _, hsp _, ?_⟩
            iterate 3 (refine hX _ _ _ _ _ _ _ _ _ _ _ _ _ _ rfl ?_)
            rw [Int32.mul_one, nI_add]
            repeat refine hX _ _ _ _ _ _ _ _ _ _ _ _ _ _ rfl ?_
            refine Or.inl ⟨_, _, hf, ?_⟩
            repeat refine hX _ _ _ _ _ _ _ _ _ _ _ _ _ _ rfl ?_
            refine br_f (show ¬ ¬ b2i false = 0 by decide) ?_
            repeat refine hX _ _ _ _ _ _ _ _ _ _ _ _ _ _ rfl ?_
            exact ⟨by rw [← he]; rfl, rfl⟩
      | succ n ih =>
        intro p v4 v5 hp hv he
        have hf := hya (nI (y + p))
        rw [inb_nI (show y + p < aNy A by omega) (by omega)] at hf
        rw [aBrU] at he
        rcases hv with ⟨rfl, rfl⟩ | ⟨z1, z2, rfl, rfl⟩
        all_goals
          repeat refine hX _ _ _ _ _ _ _ _ _ _ _ _ _ _ rfl ?_
          rw [hYt]
          refine br_f (show ¬ nI (aNy A) ≤ nI p from nI_ge (by omega) (by omega)) ?_
          repeat refine hX _ _ _ _ _ _ _ _ _ _ _ _ _ _ rfl ?_
          refine Or.inl ⟨_, _, hsp _, ?_⟩
          iterate 3 (refine hX _ _ _ _ _ _ _ _ _ _ _ _ _ _ rfl ?_)
          rw [Int32.mul_one, nI_add]
          repeat refine hX _ _ _ _ _ _ _ _ _ _ _ _ _ _ rfl ?_
          refine Or.inl ⟨_, _, hf, ?_⟩
          repeat refine hX _ _ _ _ _ _ _ _ _ _ _ _ _ _ rfl ?_
          refine br_t (show ¬ b2i true = 0 by decide) ?_
          repeat refine hX _ _ _ _ _ _ _ _ _ _ _ _ _ _ rfl ?_
          refine Or.inl ⟨_, _, hsn _, ?_⟩
          repeat refine hX _ _ _ _ _ _ _ _ _ _ _ _ _ _ rfl ?_
          by_cases h9 : aSin A N (nI (y + p)) = -9
          · rw [if_pos h9] at he
            refine br_f (show ¬ ¬ aSin A N (nI (y + p)) = -9 from fun h => h h9) ?_
            repeat refine hX _ _ _ _ _ _ _ _ _ _ _ _ _ _ rfl ?_
            exact ⟨by rw [← he], rfl⟩
          · rw [if_neg h9] at he
            refine br_t (show ¬ aSin A N (nI (y + p)) = -9 from h9) ?_
            obtain ⟨j, hj, hsj⟩ := aSin_some hA h9
            have hmj := hmo j hj
            have hat : aMvAt A N (y + p) = aMov A N j := by unfold aMvAt; rw [hsj, nI_clamp (by omega)]
            rw [hat] at he
            have h7 := ih (p + 1) (some (.int (nI (y + p)))) (some (.int (aSin A N (nI (y + p))))) (by omega) (Or.inr ⟨_, _, rfl, rfl⟩)
            rw [hsj] at h7 ⊢
            repeat refine hX _ _ _ _ _ _ _ _ _ _ _ _ _ _ rfl ?_
            refine Or.inl ⟨_, _, hmj, ?_⟩
            repeat refine hX _ _ _ _ _ _ _ _ _ _ _ _ _ _ rfl ?_
            cases hb : aMov A N j with
            | false =>
              rw [hb] at he
              refine br_f (show ¬ ¬ b2i false = 0 by decide) ?_
              repeat refine hX _ _ _ _ _ _ _ _ _ _ _ _ _ _ rfl ?_
              exact ⟨by rw [← he]; rfl, rfl⟩
            | true =>
              rw [hb] at he
              refine br_t (show ¬ b2i true = 0 by decide) ?_
              iterate 2 (refine hX _ _ _ _ _ _ _ _ _ _ _ _ _ _ rfl ?_)
              rw [nI_1]
              exact h7 he
    iterate 2 (refine hX _ _ _ _ _ _ _ _ _ _ _ _ _ _ rfl ?_)
    exact loop (aNy A - y) 0 none none (by omega) (Or.inl ⟨rfl, rfl⟩) rfl
end
section
theorem q_down : ∀ y, y < 10 → ∀ p, p < 11 → p ≤ y → nI y + nI p * (-1) = nI (y - p) := by decide +kernel
theorem q_down1 : ∀ y, y < 10 → nI y + nI (y + 1) * (-1) = -1 := by decide +kernel
theorem c_bareD (S : zS) (d : Nat) (sw : Bool) (c : cS) (hm : List zC) {A : aT} {N : aN} (hA : TWf A) (hT : TRel (cTo c) A) (hW : NWf A N) (hN : NRel A (cSc c) N) {y : Nat} (hy : y < aNy A) : Ex S (d + 5) 0 0 71 [.ref 0, .int (nI y), .int 0] (hC sw c, hm) (some (.int (aBrD A N (y + 1) 0))) (hC sw c, hm) := by
  have hns := hA.2.2.2.1
  have hny := hA.2.1
  have hsp : ∀ h, Ex S (d + 4) 0 0 85 [.int 0] h (some (.int (-1))) h := fun h => c_stepTo S (d + 3) h 0
  have hya := fun x => c_hasYard S (d + 3) sw c hm hT.1 x
  have hsn := fun x => c_statueIn S (d + 3) sw c hm hA hT hN x
  have hmo := fun j (hj : j < aNs A) => c_moves S d sw c hm hA hT hW hN hj
  have hYt := hT.1
  cases sw
  case false =>
    (refine exI rfl rfl ?_; intro X hX)
    have loop : ∀ (f p : Nat) (v4 v5 : Option Value), f + p = y + 1 → ((v4 = none ∧ v5 = none) ∨ ∃ z1 z2, v4 = some (.int z1) ∧ v5 = some (.int z2)) → aBrD A N f p = aBrD A N (y + 1) 0 → X 2 [some (.ref 0), some (.int (nI y)), some (.int 0), some (.int (nI p)), v4, v5] [] (hC false c, hm) 0 0 := by
      intro f
      induction f with
      | zero =>
        intro p v4 v5 hp hv he
        have hp : p = y + 1 := by omega
        subst hp
        have hf := hya (-1)
        rw [show inb (-1) (aNy A) = false from rfl] at hf
        rcases hv with ⟨rfl, rfl⟩ | ⟨z1, z2, rfl, rfl⟩
        all_goals
          repeat refine hX _ _ _ _ _ _ _ _ _ _ _ _ _ _ rfl ?_
          rw [hYt]
          by_cases h1 : y + 1 = aNy A
          · refine br_t (show nI (aNy A) ≤ nI (y + 1) from nI_le (by omega) (by omega)) ?_
            repeat refine hX _ _ _ _ _ _ _ _ _ _ _ _ _ _ rfl ?_
            exact ⟨by rw [← he]; rfl, rfl⟩
          · refine br_f (show ¬ nI (aNy A) ≤ nI (y + 1) from nI_ge (by omega) (by omega)) ?_
            repeat refine hX _ _ _ _ _ _ _ _ _ _ _ _ _ _ rfl ?_
            refine Or.inl ⟨_, _, hsp _, ?_⟩
            iterate 3 (refine hX _ _ _ _ _ _ _ _ _ _ _ _ _ _ rfl ?_)
            rw [q_down1 y (by omega)]
            repeat refine hX _ _ _ _ _ _ _ _ _ _ _ _ _ _ rfl ?_
            refine Or.inl ⟨_, _, hf, ?_⟩
            repeat refine hX _ _ _ _ _ _ _ _ _ _ _ _ _ _ rfl ?_
            refine br_f (show ¬ ¬ b2i false = 0 by decide) ?_
            repeat refine hX _ _ _ _ _ _ _ _ _ _ _ _ _ _ rfl ?_
            exact ⟨by rw [← he]; rfl, rfl⟩
      | succ f ih =>
        intro p v4 v5 hp hv he
        have hfy : y - p = f := by omega
        have hf := hya (nI f)
        rw [inb_nI (show f < aNy A by omega) (by omega)] at hf
        rw [aBrD] at he
        rcases hv with ⟨rfl, rfl⟩ | ⟨z1, z2, rfl, rfl⟩
        all_goals
          repeat refine hX _ _ _ _ _ _ _ _ _ _ _ _ _ _ rfl ?_
          rw [hYt]
          refine br_f (show ¬ nI (aNy A) ≤ nI p from nI_ge (by omega) (by omega)) ?_
          repeat refine hX _ _ _ _ _ _ _ _ _ _ _ _ _ _ rfl ?_
          refine Or.inl ⟨_, _, hsp _, ?_⟩
          iterate 3 (refine hX _ _ _ _ _ _ _ _ _ _ _ _ _ _ rfl ?_)
          rw [q_down y (by omega) p (by omega) (by omega), hfy]
          repeat refine hX _ _ _ _ _ _ _ _ _ _ _ _ _ _ rfl ?_
          refine Or.inl ⟨_, _, hf, ?_⟩
          repeat refine hX _ _ _ _ _ _ _ _ _ _ _ _ _ _ rfl ?_
          refine br_t (show ¬ b2i true = 0 by decide) ?_
          repeat refine hX _ _ _ _ _ _ _ _ _ _ _ _ _ _ rfl ?_
          refine Or.inl ⟨_, _, hsn _, ?_⟩
          repeat refine hX _ _ _ _ _ _ _ _ _ _ _ _ _ _ rfl ?_
          by_cases h9 : aSin A N (nI f) = -9
          · rw [if_pos h9] at he
            refine br_f (show ¬ ¬ aSin A N (nI f) = -9 from fun h => h h9) ?_
            repeat refine hX _ _ _ _ _ _ _ _ _ _ _ _ _ _ rfl ?_
            exact ⟨by rw [← he], rfl⟩
          · rw [if_neg h9] at he
            refine br_t (show ¬ aSin A N (nI f) = -9 from h9) ?_
            obtain ⟨j, hj, hsj⟩ := aSin_some hA h9
            have hmj := hmo j hj
            have hat : aMvAt A N f = aMov A N j := by unfold aMvAt; rw [hsj, nI_clamp (by omega)]
            rw [hat] at he
            have h7 := ih (p + 1) (some (.int (nI f))) (some (.int (aSin A N (nI f)))) (by omega) (Or.inr ⟨_, _, rfl, rfl⟩)
            rw [hsj] at h7 ⊢
            repeat refine hX _ _ _ _ _ _ _ _ _ _ _ _ _ _ rfl ?_
            refine Or.inl ⟨_, _, hmj, ?_⟩
            repeat refine hX _ _ _ _ _ _ _ _ _ _ _ _ _ _ rfl ?_
            cases hb : aMov A N j with
            | false =>
              rw [hb] at he
              refine br_f (show ¬ ¬ b2i false = 0 by decide) ?_
              repeat refine hX _ _ _ _ _ _ _ _ _ _ _ _ _ _ rfl ?_
              exact ⟨by rw [← he]; rfl, rfl⟩
            | true =>
              rw [hb] at he
              refine br_t (show ¬ b2i true = 0 by decide) ?_
              iterate 2 (refine hX _ _ _ _ _ _ _ _ _ _ _ _ _ _ rfl ?_)
              rw [nI_1]
              exact h7 he
    iterate 2 (refine hX _ _ _ _ _ _ _ _ _ _ _ _ _ _ rfl ?_)
    exact loop (y + 1) 0 none none (by omega) (Or.inl ⟨rfl, rfl⟩) rfl
  case true =>
    (refine exI rfl rfl ?_; intro X hX)
    have loop : ∀ (f p : Nat) (v4 v5 : Option Value), f + p = y + 1 → ((v4 = none ∧ v5 = none) ∨ ∃ z1 z2, v4 = some (.int z1) ∧ v5 = some (.int z2)) → aBrD A N f p = aBrD A N (y + 1) 0 → X 2 [some (.ref 0), some (.int (nI y)), some (.int 0), some (.int (nI p)), v4, v5] [] (hC true c, hm) 0 0 := by
      intro f
      induction f with
      | zero =>
        intro p v4 v5 hp hv he
        have hp : p = y + 1 := by omega
        subst hp
        have hf := hya (-1)
        rw [show inb (-1) (aNy A) = false from rfl] at hf
        rcases hv with ⟨rfl, rfl⟩ | ⟨z1, z2, rfl, rfl⟩
        all_goals
          repeat refine hX _ _ _ _ _ _ _ _ _ _ _ _ _ _ rfl ?_
          rw [hYt]
          by_cases h1 : y + 1 = aNy A
          · refine br_t (show nI (aNy A) ≤ nI (y + 1) from nI_le (by omega) (by omega)) ?_
            repeat refine hX _ _ _ _ _ _ _ _ _ _ _ _ _ _ rfl ?_
            exact ⟨by rw [← he]; rfl, rfl⟩
          · refine br_f (show ¬ nI (aNy A) ≤ nI (y + 1) from nI_ge (by omega) (by omega)) ?_
            repeat refine hX _ _ _ _ _ _ _ _ _ _ _ _ _ _ rfl ?_
            refine Or.inl ⟨_, _, hsp _, ?_⟩
            iterate 3 (refine hX _ _ _ _ _ _ _ _ _ _ _ _ _ _ rfl ?_)
            rw [q_down1 y (by omega)]
            repeat refine hX _ _ _ _ _ _ _ _ _ _ _ _ _ _ rfl ?_
            refine Or.inl ⟨_, _, hf, ?_⟩
            repeat refine hX _ _ _ _ _ _ _ _ _ _ _ _ _ _ rfl ?_
            refine br_f (show ¬ ¬ b2i false = 0 by decide) ?_
            repeat refine hX _ _ _ _ _ _ _ _ _ _ _ _ _ _ rfl ?_
            exact ⟨by rw [← he]; rfl, rfl⟩
      | succ f ih =>
        intro p v4 v5 hp hv he
        have hfy : y - p = f := by omega
        have hf := hya (nI f)
        rw [inb_nI (show f < aNy A by omega) (by omega)] at hf
        rw [aBrD] at he
        rcases hv with ⟨rfl, rfl⟩ | ⟨z1, z2, rfl, rfl⟩
        all_goals
          repeat refine hX _ _ _ _ _ _ _ _ _ _ _ _ _ _ rfl ?_
          rw [hYt]
          refine br_f (show ¬ nI (aNy A) ≤ nI p from nI_ge (by omega) (by omega)) ?_
          repeat refine hX _ _ _ _ _ _ _ _ _ _ _ _ _ _ rfl ?_
          refine Or.inl ⟨_, _, hsp _, ?_⟩
          iterate 3 (refine hX _ _ _ _ _ _ _ _ _ _ _ _ _ _ rfl ?_)
          rw [q_down y (by omega) p (by omega) (by omega), hfy]
          repeat refine hX _ _ _ _ _ _ _ _ _ _ _ _ _ _ rfl ?_
          refine Or.inl ⟨_, _, hf, ?_⟩
          repeat refine hX _ _ _ _ _ _ _ _ _ _ _ _ _ _ rfl ?_
          refine br_t (show ¬ b2i true = 0 by decide) ?_
          repeat refine hX _ _ _ _ _ _ _ _ _ _ _ _ _ _ rfl ?_
          refine Or.inl ⟨_, _, hsn _, ?_⟩
          repeat refine hX _ _ _ _ _ _ _ _ _ _ _ _ _ _ rfl ?_
          by_cases h9 : aSin A N (nI f) = -9
          · rw [if_pos h9] at he
            refine br_f (show ¬ ¬ aSin A N (nI f) = -9 from fun h => h h9) ?_
            repeat refine hX _ _ _ _ _ _ _ _ _ _ _ _ _ _ rfl ?_
            exact ⟨by rw [← he], rfl⟩
          · rw [if_neg h9] at he
            refine br_t (show ¬ aSin A N (nI f) = -9 from h9) ?_
            obtain ⟨j, hj, hsj⟩ := aSin_some hA h9
            have hmj := hmo j hj
            have hat : aMvAt A N f = aMov A N j := by unfold aMvAt; rw [hsj, nI_clamp (by omega)]
            rw [hat] at he
            have h7 := ih (p + 1) (some (.int (nI f))) (some (.int (aSin A N (nI f)))) (by omega) (Or.inr ⟨_, _, rfl, rfl⟩)
            rw [hsj] at h7 ⊢
            repeat refine hX _ _ _ _ _ _ _ _ _ _ _ _ _ _ rfl ?_
            refine Or.inl ⟨_, _, hmj, ?_⟩
            repeat refine hX _ _ _ _ _ _ _ _ _ _ _ _ _ _ rfl ?_
            cases hb : aMov A N j with
            | false =>
              rw [hb] at he
              refine br_f (show ¬ ¬ b2i false = 0 by decide) ?_
              repeat refine hX _ _ _ _ _ _ _ _ _ _ _ _ _ _ rfl ?_
              exact ⟨by rw [← he]; rfl, rfl⟩
            | true =>
              rw [hb] at he
              refine br_t (show ¬ b2i true = 0 by decide) ?_
              iterate 2 (refine hX _ _ _ _ _ _ _ _ _ _ _ _ _ _ rfl ?_)
              rw [nI_1]
              exact h7 he
    iterate 2 (refine hX _ _ _ _ _ _ _ _ _ _ _ _ _ _ rfl ?_)
    exact loop (y + 1) 0 none none (by omega) (Or.inl ⟨rfl, rfl⟩) rfl
/-- of both sides the fewer; 0: how many, 1: the side -/
def aUp (dn up : Int32) : Bool := decide (¬ up = -9 ∧ (dn = -9 ∨ up < dn))
def aBare (dn up w : Int32) : Int32 := if w = 0 then (bif aUp dn up then up else dn) else (if (bif aUp dn up then up else dn) = -9 ∨ (bif aUp dn up then up else dn) = 0 then -9 else b2i (aUp dn up))
def spBare (A : aT) (N : aN) (y w : Int32) : Int32 := bif inb y (aNy A) && inb w 2 then aBare (aBrD A N (y.toNatClampNeg + 1) 0) (aBrU A N (aNy A - y.toNatClampNeg) 0 y.toNatClampNeg) w else -1
theorem c_bare (S : zS) (d : Nat) (sw : Bool) (c : cS) (hm : List zC) {A : aT} {N : aN} (hA : TWf A) (hT : TRel (cTo c) A) (hW : NWf A N) (hN : NRel A (cSc c) N) (y w : Int32) : Ex S (d + 6) 0 0 50 [.ref 0, .int y, .int w] (hC sw c, hm) (some (.int (spBare A N y w))) (hC sw c, hm) := by
  have hny := hA.2.1
  have hya := c_hasYard S (d + 4) sw c hm hT.1 y
  unfold spBare
  cases hin : inb y (aNy A) with
  | false =>
    rw [hin] at hya
    cases sw
    all_goals
      (refine exI rfl rfl ?_; intro X hX)
      repeat refine hX _ _ _ _ _ _ _ _ _ _ _ _ _ _ rfl ?_
      refine Or.inl ⟨_, _, hya, ?_⟩
      repeat refine hX _ _ _ _ _ _ _ _ _ _ _ _ _ _ rfl ?_
      refine br_t (show b2i false = 0 from rfl) ?_
      repeat refine hX _ _ _ _ _ _ _ _ _ _ _ _ _ _ rfl ?_
      exact ⟨rfl, rfl⟩
  | true =>
    rw [hin] at hya
    obtain ⟨j, hj, rfl⟩ := inb_of hin (by omega)
    cases hiw : inb w 2 with
    | false =>
      have hno := inb_no hiw
      cases sw
      all_goals
        (refine exI rfl rfl ?_; intro X hX)
        repeat refine hX _ _ _ _ _ _ _ _ _ _ _ _ _ _ rfl ?_
        refine Or.inl ⟨_, _, hya, ?_⟩
        repeat refine hX _ _ _ _ _ _ _ _ _ _ _ _ _ _ rfl ?_
        refine br_f (show ¬ b2i true = 0 by decide) ?_
        repeat refine hX _ _ _ _ _ _ _ _ _ _ _ _ _ _ rfl ?_
        rcases hno with h0 | ⟨h0, h1⟩
        · refine br_t (show w < 0 from h0) ?_
          repeat refine hX _ _ _ _ _ _ _ _ _ _ _ _ _ _ rfl ?_
          exact ⟨rfl, rfl⟩
        · refine br_f (show ¬ w < 0 from h0) ?_
          repeat refine hX _ _ _ _ _ _ _ _ _ _ _ _ _ _ rfl ?_
          refine br_f (show ¬ w ≤ nI 1 from le_no (by decide) h1) ?_
          repeat refine hX _ _ _ _ _ _ _ _ _ _ _ _ _ _ rfl ?_
          exact ⟨rfl, rfl⟩
    | true =>
      obtain ⟨z, hz, rfl⟩ := inb_of hiw (by decide)
      simp only [cond_true, Bool.and_self, nI_clamp (show j < 2 ^ 31 by omega)]
      have hD := c_bareD S d sw c hm hA hT hW hN hj
      have hU := c_bareU S d sw c hm hA hT hW hN hj
      generalize aBrD A N (j + 1) 0 = dn at hD ⊢
      generalize aBrU A N (aNy A - j) 0 j = up at hU ⊢
      cases sw
      case false =>
        (refine exI rfl rfl ?_; intro X hX)
        have fin : ∀ (u : Bool) (v : Int32), u = aUp dn up → v = (bif aUp dn up then up else dn) → X 77 [some (.ref 0), some (.int (nI j)), some (.int (nI z)), some (.int dn), some (.int up), some (.int (b2i u)), some (.int v)] [] (hC false c, hm) 0 0 := by
          intro u v hu hv
          repeat refine hX _ _ _ _ _ _ _ _ _ _ _ _ _ _ rfl ?_
          by_cases h0 : nI z = 0
          · refine br_f (show ¬ ¬ nI z = 0 from fun h => h h0) ?_
            repeat refine hX _ _ _ _ _ _ _ _ _ _ _ _ _ _ rfl ?_
            exact ⟨by rw [aBare, if_pos h0, hv], rfl⟩
          · refine br_t (show ¬ nI z = 0 from h0) ?_
            repeat refine hX _ _ _ _ _ _ _ _ _ _ _ _ _ _ rfl ?_
            by_cases h9 : v = -9
            · refine br_t (show v = -9 from h9) ?_
              repeat refine hX _ _ _ _ _ _ _ _ _ _ _ _ _ _ rfl ?_
              exact ⟨by rw [aBare, if_neg h0, ← hv, if_pos (Or.inl h9)], rfl⟩
            · refine br_f (show ¬ v = -9 from h9) ?_
              repeat refine hX _ _ _ _ _ _ _ _ _ _ _ _ _ _ rfl ?_
              by_cases hz0 : v = 0
              · refine br_f (show ¬ ¬ v = 0 from fun h => h hz0) ?_
                repeat refine hX _ _ _ _ _ _ _ _ _ _ _ _ _ _ rfl ?_
                exact ⟨by rw [aBare, if_neg h0, ← hv, if_pos (Or.inr hz0)], rfl⟩
              · refine br_t (show ¬ v = 0 from hz0) ?_
                repeat refine hX _ _ _ _ _ _ _ _ _ _ _ _ _ _ rfl ?_
                exact ⟨by rw [aBare, if_neg h0, ← hv, if_neg (fun h => h.elim h9 hz0), hu], rfl⟩
        have mid : ∀ u : Bool, u = aUp dn up → X 63 [some (.ref 0), some (.int (nI j)), some (.int (nI z)), some (.int dn), some (.int up), some (.int (b2i u)), none] [] (hC false c, hm) 0 0 := by
          intro u hu
          repeat refine hX _ _ _ _ _ _ _ _ _ _ _ _ _ _ rfl ?_
          cases u with
          | false =>
            refine br_t (show ¬ b2i false = 1 by decide) ?_
            iterate 2 (refine hX _ _ _ _ _ _ _ _ _ _ _ _ _ _ rfl ?_)
            exact fin false dn hu (by rw [← hu]; rfl)
          | true =>
            refine br_f (show ¬ ¬ b2i true = 1 by decide) ?_
            iterate 3 (refine hX _ _ _ _ _ _ _ _ _ _ _ _ _ _ rfl ?_)
            exact fin true up hu (by rw [← hu]; rfl)
        repeat refine hX _ _ _ _ _ _ _ _ _ _ _ _ _ _ rfl ?_
        refine Or.inl ⟨_, _, hya, ?_⟩
        repeat refine hX _ _ _ _ _ _ _ _ _ _ _ _ _ _ rfl ?_
        refine br_f (show ¬ b2i true = 0 by decide) ?_
        repeat refine hX _ _ _ _ _ _ _ _ _ _ _ _ _ _ rfl ?_
        refine br_f (show ¬ nI z < 0 from nI_pos (by omega)) ?_
        repeat refine hX _ _ _ _ _ _ _ _ _ _ _ _ _ _ rfl ?_
        refine br_t (show nI z ≤ nI 1 from nI_le (by omega) (by decide)) ?_
        repeat refine hX _ _ _ _ _ _ _ _ _ _ _ _ _ _ rfl ?_
        refine Or.inl ⟨_, _, hD, ?_⟩
        repeat refine hX _ _ _ _ _ _ _ _ _ _ _ _ _ _ rfl ?_
        refine Or.inl ⟨_, _, hU, ?_⟩
        repeat refine hX _ _ _ _ _ _ _ _ _ _ _ _ _ _ rfl ?_
        by_cases h9 : up = -9
        · refine br_t (show up = -9 from h9) ?_
          iterate 2 (refine hX _ _ _ _ _ _ _ _ _ _ _ _ _ _ rfl ?_)
          exact mid false (by rw [aUp, decide_eq_false (fun h => h.1 h9)])
        · refine br_f (show ¬ up = -9 from h9) ?_
          repeat refine hX _ _ _ _ _ _ _ _ _ _ _ _ _ _ rfl ?_
          by_cases h8 : dn = -9
          · refine br_t (show dn = -9 from h8) ?_
            iterate 3 (refine hX _ _ _ _ _ _ _ _ _ _ _ _ _ _ rfl ?_)
            exact mid true (by rw [aUp, decide_eq_true ⟨h9, Or.inl h8⟩])
          · refine br_f (show ¬ dn = -9 from h8) ?_
            repeat refine hX _ _ _ _ _ _ _ _ _ _ _ _ _ _ rfl ?_
            by_cases hlt : up < dn
            · refine br_f (show ¬ dn ≤ up from Int32.not_le.mpr hlt) ?_
              iterate 3 (refine hX _ _ _ _ _ _ _ _ _ _ _ _ _ _ rfl ?_)
              exact mid true (by rw [aUp, decide_eq_true ⟨h9, Or.inr hlt⟩])
            · refine br_t (show dn ≤ up from Int32.not_lt.mp hlt) ?_
              iterate 2 (refine hX _ _ _ _ _ _ _ _ _ _ _ _ _ _ rfl ?_)
              exact mid false (by rw [aUp, decide_eq_false (fun h => h.2.elim h8 hlt)])
      case true =>
        (refine exI rfl rfl ?_; intro X hX)
        have fin : ∀ (u : Bool) (v : Int32), u = aUp dn up → v = (bif aUp dn up then up else dn) → X 77 [some (.ref 0), some (.int (nI j)), some (.int (nI z)), some (.int dn), some (.int up), some (.int (b2i u)), some (.int v)] [] (hC true c, hm) 0 0 := by
          intro u v hu hv
          repeat refine hX _ _ _ _ _ _ _ _ _ _ _ _ _ _ rfl ?_
          by_cases h0 : nI z = 0
          · refine br_f (show ¬ ¬ nI z = 0 from fun h => h h0) ?_
            repeat refine hX _ _ _ _ _ _ _ _ _ _ _ _ _ _ rfl ?_
            exact ⟨by rw [aBare, if_pos h0, hv], rfl⟩
          · refine br_t (show ¬ nI z = 0 from h0) ?_
            repeat refine hX _ _ _ _ _ _ _ _ _ _ _ _ _ _ rfl ?_
            by_cases h9 : v = -9
            · refine br_t (show v = -9 from h9) ?_
              repeat refine hX _ _ _ _ _ _ _ _ _ _ _ _ _ _ rfl ?_
              exact ⟨by rw [aBare, if_neg h0, ← hv, if_pos (Or.inl h9)], rfl⟩
            · refine br_f (show ¬ v = -9 from h9) ?_
              repeat refine hX _ _ _ _ _ _ _ _ _ _ _ _ _ _ rfl ?_
              by_cases hz0 : v = 0
              · refine br_f (show ¬ ¬ v = 0 from fun h => h hz0) ?_
                repeat refine hX _ _ _ _ _ _ _ _ _ _ _ _ _ _ rfl ?_
                exact ⟨by rw [aBare, if_neg h0, ← hv, if_pos (Or.inr hz0)], rfl⟩
              · refine br_t (show ¬ v = 0 from hz0) ?_
                repeat refine hX _ _ _ _ _ _ _ _ _ _ _ _ _ _ rfl ?_
                exact ⟨by rw [aBare, if_neg h0, ← hv, if_neg (fun h => h.elim h9 hz0), hu], rfl⟩
        have mid : ∀ u : Bool, u = aUp dn up → X 63 [some (.ref 0), some (.int (nI j)), some (.int (nI z)), some (.int dn), some (.int up), some (.int (b2i u)), none] [] (hC true c, hm) 0 0 := by
          intro u hu
          repeat refine hX _ _ _ _ _ _ _ _ _ _ _ _ _ _ rfl ?_
          cases u with
          | false =>
            refine br_t (show ¬ b2i false = 1 by decide) ?_
            iterate 2 (refine hX _ _ _ _ _ _ _ _ _ _ _ _ _ _ rfl ?_)
            exact fin false dn hu (by rw [← hu]; rfl)
          | true =>
            refine br_f (show ¬ ¬ b2i true = 1 by decide) ?_
            iterate 3 (refine hX _ _ _ _ _ _ _ _ _ _ _ _ _ _ rfl ?_)
            exact fin true up hu (by rw [← hu]; rfl)
        repeat refine hX _ _ _ _ _ _ _ _ _ _ _ _ _ _ rfl ?_
        refine Or.inl ⟨_, _, hya, ?_⟩
        repeat refine hX _ _ _ _ _ _ _ _ _ _ _ _ _ _ rfl ?_
        refine br_f (show ¬ b2i true = 0 by decide) ?_
        repeat refine hX _ _ _ _ _ _ _ _ _ _ _ _ _ _ rfl ?_
        refine br_f (show ¬ nI z < 0 from nI_pos (by omega)) ?_
        repeat refine hX _ _ _ _ _ _ _ _ _ _ _ _ _ _ rfl ?_
        refine br_t (show nI z ≤ nI 1 from nI_le (by omega) (by decide)) ?_
        repeat refine hX _ _ _ _ _ _ _ _ _ _ _ _ _ _ rfl ?_
        refine Or.inl ⟨_, _, hD, ?_⟩
        repeat refine hX _ _ _ _ _ _ _ _ _ _ _ _ _ _ rfl ?_
        refine Or.inl ⟨_, _, hU, ?_⟩
        repeat refine hX _ _ _ _ _ _ _ _ _ _ _ _ _ _ rfl ?_
        by_cases h9 : up = -9
        · refine br_t (show up = -9 from h9) ?_
          iterate 2 (refine hX _ _ _ _ _ _ _ _ _ _ _ _ _ _ rfl ?_)
          exact mid false (by rw [aUp, decide_eq_false (fun h => h.1 h9)])
        · refine br_f (show ¬ up = -9 from h9) ?_
          repeat refine hX _ _ _ _ _ _ _ _ _ _ _ _ _ _ rfl ?_
          by_cases h8 : dn = -9
          · refine br_t (show dn = -9 from h8) ?_
            iterate 3 (refine hX _ _ _ _ _ _ _ _ _ _ _ _ _ _ rfl ?_)
            exact mid true (by rw [aUp, decide_eq_true ⟨h9, Or.inl h8⟩])
          · refine br_f (show ¬ dn = -9 from h8) ?_
            repeat refine hX _ _ _ _ _ _ _ _ _ _ _ _ _ _ rfl ?_
            by_cases hlt : up < dn
            · refine br_f (show ¬ dn ≤ up from Int32.not_le.mpr hlt) ?_
              iterate 3 (refine hX _ _ _ _ _ _ _ _ _ _ _ _ _ _ rfl ?_)
              exact mid true (by rw [aUp, decide_eq_true ⟨h9, Or.inr hlt⟩])
            · refine br_t (show dn ≤ up from Int32.not_lt.mp hlt) ?_
              iterate 2 (refine hX _ _ _ _ _ _ _ _ _ _ _ _ _ _ rfl ?_)
              exact mid false (by rw [aUp, decide_eq_false (fun h => h.2.elim h8 hlt)])
/-! ===== the class: orders, odds ===== -/
def aSub (a b : Nat) : Bool := decide (a &&& (63 ^^^ b) = 0)
theorem c_isWithin (S : zS) (d : Nat) (h : zH) {a b : Nat} (ha : a < 64) (hb : b < 64) : Ex S (d + 1) 0 0 83 [.int (nI a), .int (nI b)] h (some (.int (b2i (aSub a b)))) h := by
  have hl : a &&& (63 ^^^ b) < 64 := q_and_lt ha
  (refine exI rfl rfl ?_; intro X hX)
  repeat refine hX _ _ _ _ _ _ _ _ _ _ _ _ _ _ rfl ?_
  rw [q_andn a ha b hb]
  by_cases h0 : a &&& (63 ^^^ b) = 0
  · refine br_f (show ¬ ¬ nI (a &&& (63 ^^^ b)) = 0 from fun h => h (congrArg nI h0)) ?_
    repeat refine hX _ _ _ _ _ _ _ _ _ _ _ _ _ _ rfl ?_
    exact ⟨Or.inr rfl, by rw [aSub, decide_eq_true h0]; rfl, rfl⟩
  · refine br_t (show ¬ nI (a &&& (63 ^^^ b)) = 0 from nI_ne0 (by omega) (by omega)) ?_
    repeat refine hX _ _ _ _ _ _ _ _ _ _ _ _ _ _ rfl ?_
    exact ⟨Or.inl rfl, by rw [aSub, decide_eq_false h0]; rfl, rfl⟩
def fac : Nat → Nat
  | 0 => 1
  | n + 1 => (n + 1) * fac n
theorem q_fac : ∀ n, n < 7 → z_fac n = nI (fac n) := by decide +kernel
theorem c_ordersOf (S : zS) (d : Nat) (h : zH) {a : Nat} (ha : a < 64) : Ex S (d + 2) 0 0 87 [.int (nI a)] h (some (.int (nI (fac (pop a))))) h := by
  have hbc := j_bcN S d h ha
  have hp := pop_le a
  (refine exI rfl rfl ?_; intro X hX)
  repeat refine hX _ _ _ _ _ _ _ _ _ _ _ _ _ _ rfl ?_
  refine Or.inl ⟨_, _, hbc, ?_⟩
  repeat refine hX _ _ _ _ _ _ _ _ _ _ _ _ _ _ rfl ?_
  refine br_f (show ¬ nI 7 ≤ nI (pop a) from nI_ge (by omega) (by decide)) ?_
  repeat refine hX _ _ _ _ _ _ _ _ _ _ _ _ _ _ rfl ?_
  refine ⟨vp_in_nI (by omega) (by decide), ?_⟩
  rw [nI_clamp (by omega)]
  rw [q_fac (pop a) (by omega)]
  repeat refine hX _ _ _ _ _ _ _ _ _ _ _ _ _ _ rfl ?_
  exact ⟨rfl, rfl⟩
def aSumN (f : Nat → Nat) : Nat → Nat
  | 0 => 0
  | n + 1 => aSumN f n + f n
def aScT (A : aT) (oth p j : Nat) (ah : Nat) : Nat := bif aSub ah oth && (decide (aStr A ah < aWe A j) && decide (aWe A j ≤ aStr A ah + aSt A p)) then fac (pop ah) * fac (pop (oth &&& (63 ^^^ ah))) else 0
def spScale (A : aT) (N : aN) (x y : Int32) : Int32 := bif inb x (aNp A) && inb y (aNs A) then (bif (aWr A N y.toNatClampNeg &&& nCo N).testBit x.toNatClampNeg then nI (aSumN (aScT A ((aWr A N y.toNatClampNeg &&& nCo N) &&& (63 ^^^ 2 ^ x.toNatClampNeg)) x.toNatClampNeg y.toNatClampNeg) (2 ^ aNp A)) else 0) else -1
theorem q_miss1 : ∀ w, w < 31 → ∀ s, s < 55 → decide (nI w - nI s ≤ 0) = !decide (s < w) := by decide +kernel
theorem q_miss2 : ∀ w, w < 31 → ∀ s, s < 55 → ∀ t, t < 10 → decide (nI t < nI w - nI s) = !decide (w ≤ s + t) := by decide +kernel
end
section
theorem c_scale (S : zS) (d : Nat) (sw : Bool) (c : cS) (hm : List zC) {A : aT} {N : aN} (hA : TWf A) (hT : TRel (cTo c) A) (hW : NWf A N) (hN : NRel A (cSc c) N) (x y : Int32) : Ex S (d + 3) 0 0 51 [.ref 0, .int x, .int y] (hC sw c, hm) (some (.int (spScale A N x y))) (hC sw c, hm) := by
  have hns := hA.2.2.2.1
  have hnp := hA.2.2.2.2.1
  have h64 := pow_le64 hnp
  have hst := c_hasOne S (d + 1) sw c hm hT.2.2.2.1 x
  have hst2 := c_hasStatue S (d + 1) sw c hm hT.2.2.1 y
  have hpe := hT.2.2.2.1
  have e2 := q_shl (aNp A) (by omega)
  unfold spScale
  cases hin : inb x (aNp A) with
  | false =>
    rw [hin] at hst
    cases sw
    all_goals
      (refine exI rfl rfl ?_; intro X hX)
      repeat refine hX _ _ _ _ _ _ _ _ _ _ _ _ _ _ rfl ?_
      refine Or.inl ⟨_, _, hst, ?_⟩
      repeat refine hX _ _ _ _ _ _ _ _ _ _ _ _ _ _ rfl ?_
      refine br_t (show b2i false = 0 from rfl) ?_
      repeat refine hX _ _ _ _ _ _ _ _ _ _ _ _ _ _ rfl ?_
      exact ⟨rfl, rfl⟩
  | true =>
    rw [hin] at hst
    obtain ⟨p, hp, rfl⟩ := inb_of hin (by omega)
    cases hin2 : inb y (aNs A) with
    | false =>
      rw [hin2] at hst2
      cases sw
      all_goals
        (refine exI rfl rfl ?_; intro X hX)
        repeat refine hX _ _ _ _ _ _ _ _ _ _ _ _ _ _ rfl ?_
        refine Or.inl ⟨_, _, hst, ?_⟩
        repeat refine hX _ _ _ _ _ _ _ _ _ _ _ _ _ _ rfl ?_
        refine br_f (show ¬ b2i true = 0 by decide) ?_
        repeat refine hX _ _ _ _ _ _ _ _ _ _ _ _ _ _ rfl ?_
        refine Or.inl ⟨_, _, hst2, ?_⟩
        repeat refine hX _ _ _ _ _ _ _ _ _ _ _ _ _ _ rfl ?_
        refine br_f (show ¬ ¬ b2i false = 0 by decide) ?_
        repeat refine hX _ _ _ _ _ _ _ _ _ _ _ _ _ _ rfl ?_
        exact ⟨rfl, rfl⟩
    | true =>
      rw [hin2] at hst2
      obtain ⟨s, hs, rfl⟩ := inb_of hin2 (by omega)
      simp only [cond_true, Bool.and_self, nI_clamp (show p < 2 ^ 31 by omega), nI_clamp (show s < 2 ^ 31 by omega)]
      have hpu := c_pullersAt S d sw c hm hA hT hW hN hs
      have hal : aWr A N s &&& nCo N < 64 := q_and_lt (aWr_lt hA N s)
      generalize aWr A N s &&& nCo N = all at *
      have hhas := fun h => c_hasX S (d + 1) h hal (show p < 6 by omega)
      cases hb : all.testBit p with
      | false =>
        rw [hb] at hhas
        cases sw
        all_goals
          (refine exI rfl rfl ?_; intro X hX)
          repeat refine hX _ _ _ _ _ _ _ _ _ _ _ _ _ _ rfl ?_
          refine Or.inl ⟨_, _, hst, ?_⟩
          repeat refine hX _ _ _ _ _ _ _ _ _ _ _ _ _ _ rfl ?_
          refine br_f (show ¬ b2i true = 0 by decide) ?_
          repeat refine hX _ _ _ _ _ _ _ _ _ _ _ _ _ _ rfl ?_
          refine Or.inl ⟨_, _, hst2, ?_⟩
          repeat refine hX _ _ _ _ _ _ _ _ _ _ _ _ _ _ rfl ?_
          refine br_t (show ¬ b2i true = 0 by decide) ?_
          repeat refine hX _ _ _ _ _ _ _ _ _ _ _ _ _ _ rfl ?_
          refine Or.inl ⟨_, _, hpu, ?_⟩
          repeat refine hX _ _ _ _ _ _ _ _ _ _ _ _ _ _ rfl ?_
          refine Or.inl ⟨_, _, hhas _, ?_⟩
          repeat refine hX _ _ _ _ _ _ _ _ _ _ _ _ _ _ rfl ?_
          refine br_f (show ¬ ¬ b2i false = 0 by decide) ?_
          repeat refine hX _ _ _ _ _ _ _ _ _ _ _ _ _ _ rfl ?_
          exact ⟨rfl, rfl⟩
      | true =>
        rw [hb] at hhas
        simp only [cond_true]
        have hol : all &&& (63 ^^^ 2 ^ p) < 64 := q_and_lt hal
        have eo : nI all &&& ((1 <<< (nI p &&& 31)) ^^^ (-1)) = nI (all &&& (63 ^^^ 2 ^ p)) := by rw [q_shl p (by omega), q_andn _ hal _ (q_p64 p (by omega))]
        generalize all &&& (63 ^^^ 2 ^ p) = oth at *
        have hstr := fun (z : Nat) (hz : z < 64) => c_strengthOf S d sw c hm hA hT hz
        have hwi := fun h (z : Nat) (hz : z < 64) => c_isWithin S (d + 1) h hz hol
        have hor := fun h (z : Nat) (hz : z < 64) => c_ordersOf S d h hz
        have hwe := (hT.2.2.2.2.1 s hs).1
        have hsg := (hT.2.2.2.2.2 p hp).2.1
        have hw30 := (hA.2.2.2.2.2.1 s hs).2.1
        have hs9 := (hA.2.2.2.2.2.2 p hp).2.2.1
        cases sw
        case false =>
          (refine exI rfl rfl ?_; intro X hX)
          have loop : ∀ (k i : Nat) (v7 v8 : Option Value), i + k = 2 ^ aNp A → ((v7 = none ∧ v8 = none) ∨ ∃ z1 z2, v7 = some (.int z1) ∧ v8 = some (.int z2)) → X 55 [some (.ref 0), some (.int (nI p)), some (.int (nI s)), some (.int (nI all)), some (.int (nI oth)), some (.int (nI (aSumN (aScT A oth p s) i))), some (.int (nI i)), v7, v8] [] (hC false c, hm) 0 0 := by
            intro k
            induction k with
            | zero =>
              intro i v7 v8 hi hv
              repeat refine hX _ _ _ _ _ _ _ _ _ _ _ _ _ _ rfl ?_
              rw [hpe, e2]
              refine br_t (show nI (2 ^ aNp A) ≤ nI i from nI_le (by omega) (by omega)) ?_
              repeat refine hX _ _ _ _ _ _ _ _ _ _ _ _ _ _ rfl ?_
              exact ⟨by rw [show i = 2 ^ aNp A by omega], rfl⟩
            | succ k ih =>
              intro i v7 v8 hi hv
              have hsl := aStr_le hA i
              have h7 := fun z1 z2 => ih (i + 1) (some (.int z1)) (some (.int z2)) (by omega) (Or.inr ⟨_, _, rfl, rfl⟩)
              rw [aSumN] at h7
              have m1 := q_miss1 (aWe A s) (by omega) (aStr A i) (by omega)
              have m2 := q_miss2 (aWe A s) (by omega) (aStr A i) (by omega) (aSt A p) (by omega)
              have h152 : ∀ z1 z2, aScT A oth p s i = 0 → X 152 [some (.ref 0), some (.int (nI p)), some (.int (nI s)), some (.int (nI all)), some (.int (nI oth)), some (.int (nI (aSumN (aScT A oth p s) i))), some (.int (nI i)), some (.int z1), some (.int z2)] [] (hC false c, hm) 0 0 := by
                intro z1 z2 h0
                have h8 := h7 z1 z2
                rw [h0] at h8
                iterate 2 (refine hX _ _ _ _ _ _ _ _ _ _ _ _ _ _ rfl ?_)
                rw [nI_1]
                exact h8
              have h116 : ∀ z1 (u : Bool), u = (decide (aStr A i < aWe A s) && decide (aWe A s ≤ aStr A i + aSt A p)) → X 116 [some (.ref 0), some (.int (nI p)), some (.int (nI s)), some (.int (nI all)), some (.int (nI oth)), some (.int (nI (aSumN (aScT A oth p s) i))), some (.int (nI i)), some (.int z1), some (.int (b2i u))] [] (hC false c, hm) 0 0 := by
                intro z1 u hu
                repeat refine hX _ _ _ _ _ _ _ _ _ _ _ _ _ _ rfl ?_
                refine Or.inl ⟨_, _, hwi _ i (by omega), ?_⟩
                repeat refine hX _ _ _ _ _ _ _ _ _ _ _ _ _ _ rfl ?_
                cases hsb : aSub i oth with
                | false =>
                  refine br_t (show b2i false = 0 from rfl) ?_
                  exact h152 _ _ (by rw [aScT, hsb]; rfl)
                | true =>
                  refine br_f (show ¬ b2i true = 0 by decide) ?_
                  repeat refine hX _ _ _ _ _ _ _ _ _ _ _ _ _ _ rfl ?_
                  cases u with
                  | false =>
                    refine br_t (show b2i false = 0 from rfl) ?_
                    exact h152 _ _ (by rw [aScT, hsb, ← hu]; rfl)
                  | true =>
                    refine br_f (show ¬ b2i true = 0 by decide) ?_
                    have h8 := h7 z1 (b2i true)
                    rw [show aScT A oth p s i = fac (pop i) * fac (pop (oth &&& (63 ^^^ i))) by rw [aScT, hsb, ← hu]; rfl] at h8
                    repeat refine hX _ _ _ _ _ _ _ _ _ _ _ _ _ _ rfl ?_
                    refine Or.inl ⟨_, _, hor _ i (by omega), ?_⟩
                    iterate 6 (refine hX _ _ _ _ _ _ _ _ _ _ _ _ _ _ rfl ?_)
                    rw [q_andn _ hol i (by omega)]
                    refine Or.inl ⟨_, _, hor _ _ (q_and_lt hol), ?_⟩
                    iterate 5 (refine hX _ _ _ _ _ _ _ _ _ _ _ _ _ _ rfl ?_)
                    rw [nI_1, pk_mul, nI_add]
                    exact h8
              rcases hv with ⟨rfl, rfl⟩ | ⟨z1, z2, rfl, rfl⟩
              all_goals
                repeat refine hX _ _ _ _ _ _ _ _ _ _ _ _ _ _ rfl ?_
                rw [hpe, e2]
                refine br_f (show ¬ nI (2 ^ aNp A) ≤ nI i from nI_ge (by omega) (by omega)) ?_
                repeat refine hX _ _ _ _ _ _ _ _ _ _ _ _ _ _ rfl ?_
                refine ⟨vp_in_nI (by omega) (by decide), ?_⟩
                rw [nI_clamp (by omega)]
                rw [hwe]
                repeat refine hX _ _ _ _ _ _ _ _ _ _ _ _ _ _ rfl ?_
                refine Or.inl ⟨_, _, hstr i (by omega), ?_⟩
                repeat refine hX _ _ _ _ _ _ _ _ _ _ _ _ _ _ rfl ?_
                by_cases c1 : aStr A i < aWe A s
                · rw [decide_eq_true c1] at m1 h116
                  refine br_f (show ¬ nI (aWe A s) - nI (aStr A i) ≤ 0 from of_decide_eq_false m1) ?_
                  repeat refine hX _ _ _ _ _ _ _ _ _ _ _ _ _ _ rfl ?_
                  refine ⟨vp_in_nI (by omega) (by decide), ?_⟩
                  rw [nI_clamp (by omega)]
                  rw [hsg]
                  repeat refine hX _ _ _ _ _ _ _ _ _ _ _ _ _ _ rfl ?_
                  by_cases c2 : aWe A s ≤ aStr A i + aSt A p
                  · rw [decide_eq_true c2] at m2 h116
                    refine br_f (show ¬ nI (aSt A p) < nI (aWe A s) - nI (aStr A i) from of_decide_eq_false m2) ?_
                    iterate 3 (refine hX _ _ _ _ _ _ _ _ _ _ _ _ _ _ rfl ?_)
                    exact h116 _ true rfl
                  · rw [decide_eq_false c2] at m2 h116
                    refine br_t (show nI (aSt A p) < nI (aWe A s) - nI (aStr A i) from of_decide_eq_true m2) ?_
                    iterate 2 (refine hX _ _ _ _ _ _ _ _ _ _ _ _ _ _ rfl ?_)
                    exact h116 _ false rfl
                · rw [decide_eq_false c1] at m1 h116
                  refine br_t (show nI (aWe A s) - nI (aStr A i) ≤ 0 from of_decide_eq_true m1) ?_
                  iterate 2 (refine hX _ _ _ _ _ _ _ _ _ _ _ _ _ _ rfl ?_)
                  exact h116 _ false rfl
          repeat refine hX _ _ _ _ _ _ _ _ _ _ _ _ _ _ rfl ?_
          refine Or.inl ⟨_, _, hst, ?_⟩
          repeat refine hX _ _ _ _ _ _ _ _ _ _ _ _ _ _ rfl ?_
          refine br_f (show ¬ b2i true = 0 by decide) ?_
          repeat refine hX _ _ _ _ _ _ _ _ _ _ _ _ _ _ rfl ?_
          refine Or.inl ⟨_, _, hst2, ?_⟩
          repeat refine hX _ _ _ _ _ _ _ _ _ _ _ _ _ _ rfl ?_
          refine br_t (show ¬ b2i true = 0 by decide) ?_
          repeat refine hX _ _ _ _ _ _ _ _ _ _ _ _ _ _ rfl ?_
          refine Or.inl ⟨_, _, hpu, ?_⟩
          repeat refine hX _ _ _ _ _ _ _ _ _ _ _ _ _ _ rfl ?_
          refine Or.inl ⟨_, _, hhas _, ?_⟩
          repeat refine hX _ _ _ _ _ _ _ _ _ _ _ _ _ _ rfl ?_
          refine br_t (show ¬ b2i true = 0 by decide) ?_
          iterate 8 (refine hX _ _ _ _ _ _ _ _ _ _ _ _ _ _ rfl ?_)
          rw [eo]
          iterate 4 (refine hX _ _ _ _ _ _ _ _ _ _ _ _ _ _ rfl ?_)
          exact loop (2 ^ aNp A) 0 none none (by omega) (Or.inl ⟨rfl, rfl⟩)
        case true =>
          (refine exI rfl rfl ?_; intro X hX)
          have loop : ∀ (k i : Nat) (v7 v8 : Option Value), i + k = 2 ^ aNp A → ((v7 = none ∧ v8 = none) ∨ ∃ z1 z2, v7 = some (.int z1) ∧ v8 = some (.int z2)) → X 55 [some (.ref 0), some (.int (nI p)), some (.int (nI s)), some (.int (nI all)), some (.int (nI oth)), some (.int (nI (aSumN (aScT A oth p s) i))), some (.int (nI i)), v7, v8] [] (hC true c, hm) 0 0 := by
            intro k
            induction k with
            | zero =>
              intro i v7 v8 hi hv
              repeat refine hX _ _ _ _ _ _ _ _ _ _ _ _ _ _ rfl ?_
              rw [hpe, e2]
              refine br_t (show nI (2 ^ aNp A) ≤ nI i from nI_le (by omega) (by omega)) ?_
              repeat refine hX _ _ _ _ _ _ _ _ _ _ _ _ _ _ rfl ?_
              exact ⟨by rw [show i = 2 ^ aNp A by omega], rfl⟩
            | succ k ih =>
              intro i v7 v8 hi hv
              have hsl := aStr_le hA i
              have h7 := fun z1 z2 => ih (i + 1) (some (.int z1)) (some (.int z2)) (by omega) (Or.inr ⟨_, _, rfl, rfl⟩)
              rw [aSumN] at h7
              have m1 := q_miss1 (aWe A s) (by omega) (aStr A i) (by omega)
              have m2 := q_miss2 (aWe A s) (by omega) (aStr A i) (by omega) (aSt A p) (by omega)
              have h152 : ∀ z1 z2, aScT A oth p s i = 0 → X 152 [some (.ref 0), some (.int (nI p)), some (.int (nI s)), some (.int (nI all)), some (.int (nI oth)), some (.int (nI (aSumN (aScT A oth p s) i))), some (.int (nI i)), some (.int z1), some (.int z2)] [] (hC true c, hm) 0 0 := by
                intro z1 z2 h0
                have h8 := h7 z1 z2
                rw [h0] at h8
                iterate 2 (refine hX _ _ _ _ _ _ _ _ _ _ _ _ _ _ rfl ?_)
                rw [nI_1]
                exact h8
              have h116 : ∀ z1 (u : Bool), u = (decide (aStr A i < aWe A s) && decide (aWe A s ≤ aStr A i + aSt A p)) → X 116 [some (.ref 0), some (.int (nI p)), some (.int (nI s)), some (.int (nI all)), some (.int (nI oth)), some (.int (nI (aSumN (aScT A oth p s) i))), some (.int (nI i)), some (.int z1), some (.int (b2i u))] [] (hC true c, hm) 0 0 := by
                intro z1 u hu
                repeat refine hX _ _ _ _ _ _ _ _ _ _ _ _ _ _ rfl ?_
                refine Or.inl ⟨_, _, hwi _ i (by omega), ?_⟩
                repeat refine hX _ _ _ _ _ _ _ _ _ _ _ _ _ _ rfl ?_
                cases hsb : aSub i oth with
                | false =>
                  refine br_t (show b2i false = 0 from rfl) ?_
                  exact h152 _ _ (by rw [aScT, hsb]; rfl)
                | true =>
                  refine br_f (show ¬ b2i true = 0 by decide) ?_
                  repeat refine hX _ _ _ _ _ _ _ _ _ _ _ _ _ _ rfl ?_
                  cases u with
                  | false =>
                    refine br_t (show b2i false = 0 from rfl) ?_
                    exact h152 _ _ (by rw [aScT, hsb, ← hu]; rfl)
                  | true =>
                    refine br_f (show ¬ b2i true = 0 by decide) ?_
                    have h8 := h7 z1 (b2i true)
                    rw [show aScT A oth p s i = fac (pop i) * fac (pop (oth &&& (63 ^^^ i))) by rw [aScT, hsb, ← hu]; rfl] at h8
                    repeat refine hX _ _ _ _ _ _ _ _ _ _ _ _ _ _ rfl ?_
                    refine Or.inl ⟨_, _, hor _ i (by omega), ?_⟩
                    iterate 6 (refine hX _ _ _ _ _ _ _ _ _ _ _ _ _ _ rfl ?_)
                    rw [q_andn _ hol i (by omega)]
                    refine Or.inl ⟨_, _, hor _ _ (q_and_lt hol), ?_⟩
                    iterate 5 (refine hX _ _ _ _ _ _ _ _ _ _ _ _ _ _ rfl ?_)
                    rw [nI_1, pk_mul, nI_add]
                    exact h8
              rcases hv with ⟨rfl, rfl⟩ | ⟨z1, z2, rfl, rfl⟩
              all_goals
                repeat refine hX _ _ _ _ _ _ _ _ _ _ _ _ _ _ rfl ?_
                rw [hpe, e2]
                refine br_f (show ¬ nI (2 ^ aNp A) ≤ nI i from nI_ge (by omega) (by omega)) ?_
                repeat refine hX _ _ _ _ _ _ _ _ _ _ _ _ _ _ rfl ?_
                refine ⟨vp_in_nI (by omega) (by decide), ?_⟩
                rw [nI_clamp (by omega)]
                rw [hwe]
                repeat refine hX _ _ _ _ _ _ _ _ _ _ _ _ _ _ rfl ?_
                refine Or.inl ⟨_, _, hstr i (by omega), ?_⟩
                repeat refine hX _ _ _ _ _ _ _ _ _ _ _ _ _ _ rfl ?_
                by_cases c1 : aStr A i < aWe A s
                · rw [decide_eq_true c1] at m1 h116
                  refine br_f (show ¬ nI (aWe A s) - nI (aStr A i) ≤ 0 from of_decide_eq_false m1) ?_
                  repeat refine hX _ _ _ _ _ _ _ _ _ _ _ _ _ _ rfl ?_
                  refine ⟨vp_in_nI (by omega) (by decide), ?_⟩
                  rw [nI_clamp (by omega)]
                  rw [hsg]
                  repeat refine hX _ _ _ _ _ _ _ _ _ _ _ _ _ _ rfl ?_
                  by_cases c2 : aWe A s ≤ aStr A i + aSt A p
                  · rw [decide_eq_true c2] at m2 h116
                    refine br_f (show ¬ nI (aSt A p) < nI (aWe A s) - nI (aStr A i) from of_decide_eq_false m2) ?_
                    iterate 3 (refine hX _ _ _ _ _ _ _ _ _ _ _ _ _ _ rfl ?_)
                    exact h116 _ true rfl
                  · rw [decide_eq_false c2] at m2 h116
                    refine br_t (show nI (aSt A p) < nI (aWe A s) - nI (aStr A i) from of_decide_eq_true m2) ?_
                    iterate 2 (refine hX _ _ _ _ _ _ _ _ _ _ _ _ _ _ rfl ?_)
                    exact h116 _ false rfl
                · rw [decide_eq_false c1] at m1 h116
                  refine br_t (show nI (aWe A s) - nI (aStr A i) ≤ 0 from of_decide_eq_true m1) ?_
                  iterate 2 (refine hX _ _ _ _ _ _ _ _ _ _ _ _ _ _ rfl ?_)
                  exact h116 _ false rfl
          repeat refine hX _ _ _ _ _ _ _ _ _ _ _ _ _ _ rfl ?_
          refine Or.inl ⟨_, _, hst, ?_⟩
          repeat refine hX _ _ _ _ _ _ _ _ _ _ _ _ _ _ rfl ?_
          refine br_f (show ¬ b2i true = 0 by decide) ?_
          repeat refine hX _ _ _ _ _ _ _ _ _ _ _ _ _ _ rfl ?_
          refine Or.inl ⟨_, _, hst2, ?_⟩
          repeat refine hX _ _ _ _ _ _ _ _ _ _ _ _ _ _ rfl ?_
          refine br_t (show ¬ b2i true = 0 by decide) ?_
          repeat refine hX _ _ _ _ _ _ _ _ _ _ _ _ _ _ rfl ?_
          refine Or.inl ⟨_, _, hpu, ?_⟩
          repeat refine hX _ _ _ _ _ _ _ _ _ _ _ _ _ _ rfl ?_
          refine Or.inl ⟨_, _, hhas _, ?_⟩
          repeat refine hX _ _ _ _ _ _ _ _ _ _ _ _ _ _ rfl ?_
          refine br_t (show ¬ b2i true = 0 by decide) ?_
          iterate 8 (refine hX _ _ _ _ _ _ _ _ _ _ _ _ _ _ rfl ?_)
          rw [eo]
          iterate 4 (refine hX _ _ _ _ _ _ _ _ _ _ _ _ _ _ rfl ?_)
          exact loop (2 ^ aNp A) 0 none none (by omega) (Or.inl ⟨rfl, rfl⟩)
theorem c_power (S : zS) (d : Nat) (h : zH) {b t : Nat} (ht : t < 1000) : Ex S (d + 1) 0 0 88 [.int (nI b), .int (nI t)] h (some (.int (nI (b ^ t)))) h := by
  (refine exI rfl rfl ?_; intro X hX)
  have loop : ∀ (k i : Nat), i + k = t → X 4 [some (.int (nI b)), some (.int (nI t)), some (.int (nI (b ^ i))), some (.int (nI i))] [] h 0 0 := by
    intro k
    induction k with
    | zero =>
      intro i hi
      repeat refine hX _ _ _ _ _ _ _ _ _ _ _ _ _ _ rfl ?_
      refine br_t (show nI t ≤ nI i from nI_le (by omega) (by omega)) ?_
      repeat refine hX _ _ _ _ _ _ _ _ _ _ _ _ _ _ rfl ?_
      exact ⟨by rw [show i = t by omega], rfl⟩
    | succ k ih =>
      intro i hi
      repeat refine hX _ _ _ _ _ _ _ _ _ _ _ _ _ _ rfl ?_
      refine br_f (show ¬ nI t ≤ nI i from nI_ge (by omega) (by omega)) ?_
      have h7 := ih (i + 1) (by omega)
      rw [Nat.pow_succ] at h7
      iterate 6 (refine hX _ _ _ _ _ _ _ _ _ _ _ _ _ _ rfl ?_)
      rw [nI_1, pk_mul]
      exact h7
  iterate 4 (refine hX _ _ _ _ _ _ _ _ _ _ _ _ _ _ rfl ?_)
  exact loop t 0 (by omega)
end
section
theorem gcd_half {r m : Nat} (h0 : 0 < m) (hm : m < r) : 2 * (r % m) < r := by
  have h1 := Nat.mod_lt r h0
  have h2 := Nat.mod_add_div r m
  have h3 : 1 ≤ r / m := Nat.div_pos (Nat.le_of_lt hm) h0
  have h4 : m * 1 ≤ m * (r / m) := Nat.mul_le_mul_left m h3
  omega
theorem c_gcd (S : zS) (d : Nat) (h : zH) {a b : Nat} (ha : a < 2 ^ 30) (hb : b < 2 ^ 30) : Ex S (d + 1) 0 0 89 [.int (nI a), .int (nI b)] h (some (.int (nI (Nat.gcd a b)))) h := by
  (refine exI rfl rfl ?_; intro X hX)
  have one : ∀ (g r st : Nat) (v : Option Value), (v = none ∨ ∃ z, v = some (.int z)) → g < 2 ^ 30 → r < 2 ^ 30 → 0 < r → st < 100 → X 7 [some (.int (nI a)), some (.int (nI b)), some (.int (nI r)), some (.int (nI (g % r))), some (.int (nI (st + 1))), some (.int (nI (g % r)))] [] h 0 0 → X 7 [some (.int (nI a)), some (.int (nI b)), some (.int (nI g)), some (.int (nI r)), some (.int (nI st)), v] [] h 0 0 := by
    intro g r st v hv hg hr h0 hst hk
    rcases hv with rfl | ⟨z, rfl⟩
    all_goals
      repeat refine hX _ _ _ _ _ _ _ _ _ _ _ _ _ _ rfl ?_
      refine br_f (show ¬ nI 100 ≤ nI st from nI_ge (by omega) (by decide)) ?_
      repeat refine hX _ _ _ _ _ _ _ _ _ _ _ _ _ _ rfl ?_
      refine br_f (show ¬ nI r ≤ 0 from nI_nle h0 (by omega)) ?_
      repeat refine hX _ _ _ _ _ _ _ _ _ _ _ _ _ _ rfl ?_
      refine ⟨nI_ne0 h0 (by omega), ?_⟩
      rw [pk_rem (by omega) h0 (by omega)]
      iterate 7 (refine hX _ _ _ _ _ _ _ _ _ _ _ _ _ _ rfl ?_)
      rw [nI_1]
      exact hk
  have fin : ∀ (g st : Nat) (v : Option Value), st < 100 → g = Nat.gcd a b → X 7 [some (.int (nI a)), some (.int (nI b)), some (.int (nI g)), some (.int (nI 0)), some (.int (nI st)), v] [] h 0 0 := by
    intro g st v hst hg
    repeat refine hX _ _ _ _ _ _ _ _ _ _ _ _ _ _ rfl ?_
    refine br_f (show ¬ nI 100 ≤ nI st from nI_ge (by omega) (by decide)) ?_
    repeat refine hX _ _ _ _ _ _ _ _ _ _ _ _ _ _ rfl ?_
    refine br_t (show nI 0 ≤ 0 by decide) ?_
    repeat refine hX _ _ _ _ _ _ _ _ _ _ _ _ _ _ rfl ?_
    exact ⟨by rw [hg], rfl⟩
  have loop : ∀ (k g r st : Nat) (v : Option Value), (v = none ∨ ∃ z, v = some (.int z)) → g < 2 ^ 30 → r < 2 ^ 30 → r < 2 ^ k → st + 2 * k < 100 → Nat.gcd g r = Nat.gcd a b → X 7 [some (.int (nI a)), some (.int (nI b)), some (.int (nI g)), some (.int (nI r)), some (.int (nI st)), v] [] h 0 0 := by
    intro k
    induction k with
    | zero =>
      intro g r st v hv hg hr hk hst he
      have : r = 0 := by omega
      subst this
      exact fin g st v (by omega) (by rw [← he, Nat.gcd_zero_right])
    | succ k ih =>
      intro g r st v hv hg hr hk hst he
      rcases Nat.eq_zero_or_pos r with h0 | h0
      · subst h0
        exact fin g st v (by omega) (by rw [← he, Nat.gcd_zero_right])
      · have hm := Nat.mod_lt g h0
        have e1 : Nat.gcd r (g % r) = Nat.gcd a b := by rw [← he, Nat.gcd_comm g r, Nat.gcd_rec r g, Nat.gcd_comm]
        refine one g r st v hv hg hr h0 (by omega) ?_
        rcases Nat.eq_zero_or_pos (g % r) with hm0 | hm0
        · rw [hm0] at e1 ⊢
          exact fin r (st + 1) _ (by omega) (by rw [← e1, Nat.gcd_zero_right])
        · have hh := gcd_half hm0 hm
          have hm2 := Nat.mod_lt r hm0
          have e2 : Nat.gcd (g % r) (r % (g % r)) = Nat.gcd a b := by rw [← e1, Nat.gcd_comm r (g % r), Nat.gcd_rec (g % r) r, Nat.gcd_comm]
          rw [Nat.pow_succ] at hk
          refine one r (g % r) (st + 1) _ (Or.inr ⟨_, rfl⟩) hr (by omega) hm0 (by omega) ?_
          exact ih (g % r) (r % (g % r)) (st + 1 + 1) _ (Or.inr ⟨_, rfl⟩) (by omega) (by omega) (by omega) (by omega) e2
  iterate 6 (refine hX _ _ _ _ _ _ _ _ _ _ _ _ _ _ rfl ?_)
  exact loop 30 a b 0 none (Or.inl rfl) ha hb hb (by omega) rfl
/-! odds -/
def aOdW (set x t : Nat) : Nat := bif aSub t set then (10 - x) ^ (pop t) * x ^ (pop (set &&& (63 ^^^ t))) else 0
set_option maxRecDepth 100000 in
theorem q_binom : ∀ set, set < 64 → ∀ x, x < 11 → aSumN (aOdW set x) 64 = 10 ^ pop set := by decide +kernel
def aOdT (A : aT) (j set x t : Nat) : Nat := bif decide (aWe A j ≤ aStr A t) then aOdW set x t else 0
theorem aSumN_le {f g : Nat → Nat} (h : ∀ k, f k ≤ g k) : ∀ n, aSumN f n ≤ aSumN g n
  | 0 => Nat.le_refl _
  | n + 1 => Nat.add_le_add (aSumN_le h n) (h n)
theorem aSumN_mono {f : Nat → Nat} (n : Nat) : ∀ k, aSumN f n ≤ aSumN f (n + k)
  | 0 => Nat.le_refl _
  | k + 1 => Nat.le_trans (aSumN_mono n k) (Nat.le_add_right _ _)
def aOdU (A : aT) (N : aN) (j x : Nat) : Nat := aSumN (aOdT A j (aWr A N j &&& nCo N) x) (2 ^ aNp A)
theorem aOdU_le {A : aT} (hA : TWf A) (N : aN) (j : Nat) {x : Nat} (hx : x < 11) : aOdU A N j x ≤ 10 ^ pop (aWr A N j &&& nCo N) := by
  rw [← q_binom _ (q_and_lt (aWr_lt hA N j)) x hx]
  refine Nat.le_trans (aSumN_le (g := aOdW (aWr A N j &&& nCo N) x) (fun k => ?_) _) ?_
  · unfold aOdT
    cases decide (aWe A j ≤ aStr A k) <;> simp
  · have h64 := pow_le64 hA.2.2.2.2.1
    have := aSumN_mono (f := aOdW (aWr A N j &&& nCo N) x) (2 ^ aNp A) (64 - 2 ^ aNp A)
    rwa [show 2 ^ aNp A + (64 - 2 ^ aNp A) = 64 by omega] at this
theorem q_ten : ∀ n, n < 7 → 10 ^ n ≤ 1000000 ∧ 0 < 10 ^ n := by decide
theorem pop_ten (x : Nat) : 10 ^ pop x ≤ 1000000 ∧ 0 < 10 ^ pop x := q_ten _ (Nat.lt_succ_of_le (pop_le x))
theorem c_chances (S : zS) (d : Nat) (sw : Bool) (c : cS) (hm : List zC) {A : aT} {N : aN} (hA : TWf A) (hT : TRel (cTo c) A) {j set x : Nat} (hj : j < aNs A) (hset : set < 64) (hx : x < 11) : Ex S (d + 3) 0 0 74 [.ref 0, .int (nI j), .int (nI set), .int (nI x)] (hC sw c, hm) (some (.int (nI (aSumN (aOdT A j set x) (2 ^ aNp A))))) (hC sw c, hm) := by
  have hns := hA.2.2.2.1
  have hnp := hA.2.2.2.2.1
  have h64 := pow_le64 hnp
  have hpe := hT.2.2.2.1
  have e2 := q_shl (aNp A) (by omega)
  have hstr := fun (z : Nat) (hz : z < 64) => c_strengthOf S d sw c hm hA hT hz
  have hwi := fun h (z : Nat) (hz : z < 64) => c_isWithin S (d + 1) h hz hset
  have hbc := fun h (z : Nat) (hz : z < 64) => j_bcN S (d + 1) h hz
  have hpw := fun h (b t : Nat) (ht : t < 1000) => c_power S (d + 1) h (b := b) ht
  have hwe := (hT.2.2.2.2.1 j hj).1
  have hw30 := (hA.2.2.2.2.2.1 j hj).2.1
  cases sw
  case false =>
    (refine exI rfl rfl ?_; intro X hX)
    have loop : ∀ (k i : Nat) (v : Option Value), i + k = 2 ^ aNp A → (v = none ∨ ∃ z, v = some (.int z)) → X 6 [some (.ref 0), some (.int (nI j)), some (.int (nI set)), some (.int (nI x)), some (.int (nI (aSumN (aOdT A j set x) i))), some (.int (nI i)), v] [] (hC false c, hm) 0 0 := by
      intro k
      induction k with
      | zero =>
        intro i v hi hv
        repeat refine hX _ _ _ _ _ _ _ _ _ _ _ _ _ _ rfl ?_
        rw [hpe, e2]
        refine br_t (show nI (2 ^ aNp A) ≤ nI i from nI_le (by omega) (by omega)) ?_
        repeat refine hX _ _ _ _ _ _ _ _ _ _ _ _ _ _ rfl ?_
        exact ⟨by rw [show i = 2 ^ aNp A by omega], rfl⟩
      | succ k ih =>
        intro i v hi hv
        have hsl := aStr_le hA i
        have hpo := pop_le i
        have hpo2 := pop_le (set &&& (63 ^^^ i))
        have h7 := fun v hv => ih (i + 1) v (by omega) hv
        rw [aSumN] at h7
        have h85 : ∀ v, (v = none ∨ ∃ z, v = some (.int z)) → aOdT A j set x i = 0 → X 85 [some (.ref 0), some (.int (nI j)), some (.int (nI set)), some (.int (nI x)), some (.int (nI (aSumN (aOdT A j set x) i))), some (.int (nI i)), v] [] (hC false c, hm) 0 0 := by
          intro v hv h0
          have h8 := h7 v hv
          rw [h0] at h8
          rcases hv with rfl | ⟨z, rfl⟩
          all_goals
            iterate 2 (refine hX _ _ _ _ _ _ _ _ _ _ _ _ _ _ rfl ?_)
            rw [nI_1]
            exact h8
        have hv0 := hv
        rcases hv with rfl | ⟨z, rfl⟩
        all_goals
          repeat refine hX _ _ _ _ _ _ _ _ _ _ _ _ _ _ rfl ?_
          rw [hpe, e2]
          refine br_f (show ¬ nI (2 ^ aNp A) ≤ nI i from nI_ge (by omega) (by omega)) ?_
          repeat refine hX _ _ _ _ _ _ _ _ _ _ _ _ _ _ rfl ?_
          refine Or.inl ⟨_, _, hwi _ i (by omega), ?_⟩
          repeat refine hX _ _ _ _ _ _ _ _ _ _ _ _ _ _ rfl ?_
          cases hsb : aSub i set with
          | false =>
            refine br_t (show b2i false = 0 from rfl) ?_
            exact h85 _ hv0 (by rw [aOdT, aOdW, hsb]; cases decide (aWe A j ≤ aStr A i) <;> rfl)
          | true =>
            refine br_f (show ¬ b2i true = 0 by decide) ?_
            repeat refine hX _ _ _ _ _ _ _ _ _ _ _ _ _ _ rfl ?_
            refine Or.inl ⟨_, _, hstr i (by omega), ?_⟩
            repeat refine hX _ _ _ _ _ _ _ _ _ _ _ _ _ _ rfl ?_
            refine ⟨vp_in_nI (by omega) (by decide), ?_⟩
            rw [nI_clamp (by omega)]
            rw [hwe]
            repeat refine hX _ _ _ _ _ _ _ _ _ _ _ _ _ _ rfl ?_
            by_cases hle : aWe A j ≤ aStr A i
            · refine br_f (show ¬ nI (aStr A i) < nI (aWe A j) from nI_nlt hle (by omega)) ?_
              have h8 := h7 (some (.int (nI (pop (set &&& (63 ^^^ i)))))) (Or.inr ⟨_, rfl⟩)
              rw [show aOdT A j set x i = (10 - x) ^ (pop i) * x ^ (pop (set &&& (63 ^^^ i))) by rw [aOdT, aOdW, hsb, decide_eq_true hle]; rfl] at h8
              iterate 6 (refine hX _ _ _ _ _ _ _ _ _ _ _ _ _ _ rfl ?_)
              rw [q_andn _ hset i (by omega)]
              refine Or.inl ⟨_, _, hbc _ _ (q_and_lt hset), ?_⟩
              iterate 6 (refine hX _ _ _ _ _ _ _ _ _ _ _ _ _ _ rfl ?_)
              rw [show (10 : Int32) - nI x = nI (10 - x) from pk_sub (a := 10) (by omega)]
              repeat refine hX _ _ _ _ _ _ _ _ _ _ _ _ _ _ rfl ?_
              refine Or.inl ⟨_, _, hbc _ i (by omega), ?_⟩
              repeat refine hX _ _ _ _ _ _ _ _ _ _ _ _ _ _ rfl ?_
              refine Or.inl ⟨_, _, hpw _ _ _ (by omega), ?_⟩
              repeat refine hX _ _ _ _ _ _ _ _ _ _ _ _ _ _ rfl ?_
              refine Or.inl ⟨_, _, hpw _ _ _ (by omega), ?_⟩
              iterate 5 (refine hX _ _ _ _ _ _ _ _ _ _ _ _ _ _ rfl ?_)
              rw [nI_1, pk_mul, nI_add]
              exact h8
            · refine br_t (show nI (aStr A i) < nI (aWe A j) from nI_lt (by omega) (by omega)) ?_
              exact h85 _ hv0 (by rw [aOdT, decide_eq_false hle]; rfl)
    iterate 4 (refine hX _ _ _ _ _ _ _ _ _ _ _ _ _ _ rfl ?_)
    exact loop (2 ^ aNp A) 0 none (by omega) (Or.inl rfl)
  case true =>
    (refine exI rfl rfl ?_; intro X hX)
    have loop : ∀ (k i : Nat) (v : Option Value), i + k = 2 ^ aNp A → (v = none ∨ ∃ z, v = some (.int z)) → X 6 [some (.ref 0), some (.int (nI j)), some (.int (nI set)), some (.int (nI x)), some (.int (nI (aSumN (aOdT A j set x) i))), some (.int (nI i)), v] [] (hC true c, hm) 0 0 := by
      intro k
      induction k with
      | zero =>
        intro i v hi hv
        repeat refine hX _ _ _ _ _ _ _ _ _ _ _ _ _ _ rfl ?_
        rw [hpe, e2]
        refine br_t (show nI (2 ^ aNp A) ≤ nI i from nI_le (by omega) (by omega)) ?_
        repeat refine hX _ _ _ _ _ _ _ _ _ _ _ _ _ _ rfl ?_
        exact ⟨by rw [show i = 2 ^ aNp A by omega], rfl⟩
      | succ k ih =>
        intro i v hi hv
        have hsl := aStr_le hA i
        have hpo := pop_le i
        have hpo2 := pop_le (set &&& (63 ^^^ i))
        have h7 := fun v hv => ih (i + 1) v (by omega) hv
        rw [aSumN] at h7
        have h85 : ∀ v, (v = none ∨ ∃ z, v = some (.int z)) → aOdT A j set x i = 0 → X 85 [some (.ref 0), some (.int (nI j)), some (.int (nI set)), some (.int (nI x)), some (.int (nI (aSumN (aOdT A j set x) i))), some (.int (nI i)), v] [] (hC true c, hm) 0 0 := by
          intro v hv h0
          have h8 := h7 v hv
          rw [h0] at h8
          rcases hv with rfl | ⟨z, rfl⟩
          all_goals
            iterate 2 (refine hX _ _ _ _ _ _ _ _ _ _ _ _ _ _ rfl ?_)
            rw [nI_1]
            exact h8
        have hv0 := hv
        rcases hv with rfl | ⟨z, rfl⟩
        all_goals
          repeat refine hX _ _ _ _ _ _ _ _ _ _ _ _ _ _ rfl ?_
          rw [hpe, e2]
          refine br_f (show ¬ nI (2 ^ aNp A) ≤ nI i from nI_ge (by omega) (by omega)) ?_
          repeat refine hX _ _ _ _ _ _ _ _ _ _ _ _ _ _ rfl ?_
          refine Or.inl ⟨_, _, hwi _ i (by omega), ?_⟩
          repeat refine hX _ _ _ _ _ _ _ _ _ _ _ _ _ _ rfl ?_
          cases hsb : aSub i set with
          | false =>
            refine br_t (show b2i false = 0 from rfl) ?_
            exact h85 _ hv0 (by rw [aOdT, aOdW, hsb]; cases decide (aWe A j ≤ aStr A i) <;> rfl)
          | true =>
            refine br_f (show ¬ b2i true = 0 by decide) ?_
            repeat refine hX _ _ _ _ _ _ _ _ _ _ _ _ _ _ rfl ?_
            refine Or.inl ⟨_, _, hstr i (by omega), ?_⟩
            repeat refine hX _ _ _ _ _ _ _ _ _ _ _ _ _ _ rfl ?_
            refine ⟨vp_in_nI (by omega) (by decide), ?_⟩
            rw [nI_clamp (by omega)]
            rw [hwe]
            repeat refine hX _ _ _ _ _ _ _ _ _ _ _ _ _ _ rfl ?_
            by_cases hle : aWe A j ≤ aStr A i
            · refine br_f (show ¬ nI (aStr A i) < nI (aWe A j) from nI_nlt hle (by omega)) ?_
              have h8 := h7 (some (.int (nI (pop (set &&& (63 ^^^ i)))))) (Or.inr ⟨_, rfl⟩)
              rw [show aOdT A j set x i = (10 - x) ^ (pop i) * x ^ (pop (set &&& (63 ^^^ i))) by rw [aOdT, aOdW, hsb, decide_eq_true hle]; rfl] at h8
              iterate 6 (refine hX _ _ _ _ _ _ _ _ _ _ _ _ _ _ rfl ?_)
              rw [q_andn _ hset i (by omega)]
              refine Or.inl ⟨_, _, hbc _ _ (q_and_lt hset), ?_⟩
              iterate 6 (refine hX _ _ _ _ _ _ _ _ _ _ _ _ _ _ rfl ?_)
              rw [show (10 : Int32) - nI x = nI (10 - x) from pk_sub (a := 10) (by omega)]
              repeat refine hX _ _ _ _ _ _ _ _ _ _ _ _ _ _ rfl ?_
              refine Or.inl ⟨_, _, hbc _ i (by omega), ?_⟩
              repeat refine hX _ _ _ _ _ _ _ _ _ _ _ _ _ _ rfl ?_
              refine Or.inl ⟨_, _, hpw _ _ _ (by omega), ?_⟩
              repeat refine hX _ _ _ _ _ _ _ _ _ _ _ _ _ _ rfl ?_
              refine Or.inl ⟨_, _, hpw _ _ _ (by omega), ?_⟩
              iterate 5 (refine hX _ _ _ _ _ _ _ _ _ _ _ _ _ _ rfl ?_)
              rw [nI_1, pk_mul, nI_add]
              exact h8
            · refine br_t (show nI (aStr A i) < nI (aWe A j) from nI_lt (by omega) (by omega)) ?_
              exact h85 _ hv0 (by rw [aOdT, decide_eq_false hle]; rfl)
    iterate 4 (refine hX _ _ _ _ _ _ _ _ _ _ _ _ _ _ rfl ?_)
    exact loop (2 ^ aNp A) 0 none (by omega) (Or.inl rfl)
def aOdds (u l : Nat) (w : Int32) : Int32 := if w = 0 then nI (u / Nat.gcd u l) else nI (l / Nat.gcd u l)
def spOdds (A : aT) (N : aN) (s x w : Int32) : Int32 := bif inb s (aNs A) && (inb x 11 && inb w 2) then aOdds (aOdU A N s.toNatClampNeg x.toNatClampNeg) (10 ^ pop (aWr A N s.toNatClampNeg &&& nCo N)) w else -1
theorem c_odds (S : zS) (d : Nat) (sw : Bool) (c : cS) (hm : List zC) {A : aT} {N : aN} (hA : TWf A) (hT : TRel (cTo c) A) (hW : NWf A N) (hN : NRel A (cSc c) N) (s x w : Int32) : Ex S (d + 4) 0 0 53 [.ref 0, .int s, .int x, .int w] (hC sw c, hm) (some (.int (spOdds A N s x w))) (hC sw c, hm) := by
  have hns := hA.2.2.2.1
  have hst := c_hasStatue S (d + 2) sw c hm hT.2.2.1 s
  unfold spOdds
  cases hin : inb s (aNs A) with
  | false =>
    rw [hin] at hst
    cases sw
    all_goals
      (refine exI rfl rfl ?_; intro X hX)
      repeat refine hX _ _ _ _ _ _ _ _ _ _ _ _ _ _ rfl ?_
      refine Or.inl ⟨_, _, hst, ?_⟩
      repeat refine hX _ _ _ _ _ _ _ _ _ _ _ _ _ _ rfl ?_
      refine br_t (show b2i false = 0 from rfl) ?_
      repeat refine hX _ _ _ _ _ _ _ _ _ _ _ _ _ _ rfl ?_
      exact ⟨rfl, rfl⟩
  | true =>
    rw [hin] at hst
    obtain ⟨j, hj, rfl⟩ := inb_of hin (by omega)
    cases hix : inb x 11 with
    | false =>
      have hno := inb_no hix
      cases sw
      all_goals
        (refine exI rfl rfl ?_; intro X hX)
        repeat refine hX _ _ _ _ _ _ _ _ _ _ _ _ _ _ rfl ?_
        refine Or.inl ⟨_, _, hst, ?_⟩
        repeat refine hX _ _ _ _ _ _ _ _ _ _ _ _ _ _ rfl ?_
        refine br_f (show ¬ b2i true = 0 by decide) ?_
        repeat refine hX _ _ _ _ _ _ _ _ _ _ _ _ _ _ rfl ?_
        rcases hno with h0 | ⟨h0, h1⟩
        · refine br_t (show x < 0 from h0) ?_
          repeat refine hX _ _ _ _ _ _ _ _ _ _ _ _ _ _ rfl ?_
          exact ⟨rfl, rfl⟩
        · refine br_f (show ¬ x < 0 from h0) ?_
          repeat refine hX _ _ _ _ _ _ _ _ _ _ _ _ _ _ rfl ?_
          refine br_t (show nI 10 < x from Int32.not_le.mp (le_no (by decide) h1)) ?_
          repeat refine hX _ _ _ _ _ _ _ _ _ _ _ _ _ _ rfl ?_
          exact ⟨rfl, rfl⟩
    | true =>
      obtain ⟨xx, hxx, rfl⟩ := inb_of hix (by decide)
      cases hiw : inb w 2 with
      | false =>
        have hno := inb_no hiw
        cases sw
        all_goals
          (refine exI rfl rfl ?_; intro X hX)
          repeat refine hX _ _ _ _ _ _ _ _ _ _ _ _ _ _ rfl ?_
          refine Or.inl ⟨_, _, hst, ?_⟩
          repeat refine hX _ _ _ _ _ _ _ _ _ _ _ _ _ _ rfl ?_
          refine br_f (show ¬ b2i true = 0 by decide) ?_
          repeat refine hX _ _ _ _ _ _ _ _ _ _ _ _ _ _ rfl ?_
          refine br_f (show ¬ nI xx < 0 from nI_pos (by omega)) ?_
          repeat refine hX _ _ _ _ _ _ _ _ _ _ _ _ _ _ rfl ?_
          refine br_f (show ¬ nI 10 < nI xx from nI_nlt (by omega) (by decide)) ?_
          repeat refine hX _ _ _ _ _ _ _ _ _ _ _ _ _ _ rfl ?_
          rcases hno with h0 | ⟨h0, h1⟩
          · refine br_t (show w < 0 from h0) ?_
            repeat refine hX _ _ _ _ _ _ _ _ _ _ _ _ _ _ rfl ?_
            exact ⟨rfl, rfl⟩
          · refine br_f (show ¬ w < 0 from h0) ?_
            repeat refine hX _ _ _ _ _ _ _ _ _ _ _ _ _ _ rfl ?_
            refine br_f (show ¬ w ≤ nI 1 from le_no (by decide) h1) ?_
            repeat refine hX _ _ _ _ _ _ _ _ _ _ _ _ _ _ rfl ?_
            exact ⟨rfl, rfl⟩
      | true =>
        obtain ⟨z, hz, rfl⟩ := inb_of hiw (by decide)
        simp only [cond_true, Bool.and_self, nI_clamp (show j < 2 ^ 31 by omega), nI_clamp (show xx < 2 ^ 31 by omega)]
        have hpu := c_pullersAt S (d + 1) sw c hm hA hT hW hN hj
        have hal : aWr A N j &&& nCo N < 64 := q_and_lt (aWr_lt hA N j)
        have hch := c_chances S d sw c hm (N := N) hA hT hj hal hxx
        have hule := aOdU_le hA N j hxx
        unfold aOdU at hule ⊢
        have htn := pop_ten (aWr A N j &&& nCo N)
        have hpo := pop_le (aWr A N j &&& nCo N)
        generalize aWr A N j &&& nCo N = all at *
        have hbc := fun h => j_bcN S (d + 2) h hal
        have hpw := fun h => c_power S (d + 2) h (b := 10) (t := pop all) (by omega)
        generalize aSumN (aOdT A j all xx) (2 ^ aNp A) = u at *
        generalize 10 ^ pop all = lw at *
        have hg := fun h => c_gcd S (d + 2) h (a := u) (b := lw) (by omega) (by omega)
        have hg0 : 0 < Nat.gcd u lw := Nat.gcd_pos_of_pos_right u htn.2
        have hgl : Nat.gcd u lw ≤ lw := Nat.gcd_le_right u htn.2
        unfold aOdds
        cases sw
        all_goals
          (refine exI rfl rfl ?_; intro X hX)
          repeat refine hX _ _ _ _ _ _ _ _ _ _ _ _ _ _ rfl ?_
          refine Or.inl ⟨_, _, hst, ?_⟩
          repeat refine hX _ _ _ _ _ _ _ _ _ _ _ _ _ _ rfl ?_
          refine br_f (show ¬ b2i true = 0 by decide) ?_
          repeat refine hX _ _ _ _ _ _ _ _ _ _ _ _ _ _ rfl ?_
          refine br_f (show ¬ nI xx < 0 from nI_pos (by omega)) ?_
          repeat refine hX _ _ _ _ _ _ _ _ _ _ _ _ _ _ rfl ?_
          refine br_f (show ¬ nI 10 < nI xx from nI_nlt (by omega) (by decide)) ?_
          repeat refine hX _ _ _ _ _ _ _ _ _ _ _ _ _ _ rfl ?_
          refine br_f (show ¬ nI z < 0 from nI_pos (by omega)) ?_
          repeat refine hX _ _ _ _ _ _ _ _ _ _ _ _ _ _ rfl ?_
          refine br_t (show nI z ≤ nI 1 from nI_le (by omega) (by decide)) ?_
          repeat refine hX _ _ _ _ _ _ _ _ _ _ _ _ _ _ rfl ?_
          refine Or.inl ⟨_, _, hpu, ?_⟩
          repeat refine hX _ _ _ _ _ _ _ _ _ _ _ _ _ _ rfl ?_
          refine Or.inl ⟨_, _, hch, ?_⟩
          repeat refine hX _ _ _ _ _ _ _ _ _ _ _ _ _ _ rfl ?_
          refine Or.inl ⟨_, _, hbc _, ?_⟩
          repeat refine hX _ _ _ _ _ _ _ _ _ _ _ _ _ _ rfl ?_
          refine Or.inl ⟨_, _, hpw _, ?_⟩
          repeat refine hX _ _ _ _ _ _ _ _ _ _ _ _ _ _ rfl ?_
          refine Or.inl ⟨_, _, hg _, ?_⟩
          repeat refine hX _ _ _ _ _ _ _ _ _ _ _ _ _ _ rfl ?_
          refine br_t (show ¬ nI (Nat.gcd u lw) = 0 from nI_ne0 hg0 (by omega)) ?_
          repeat refine hX _ _ _ _ _ _ _ _ _ _ _ _ _ _ rfl ?_
          by_cases h0 : nI z = 0
          · refine br_f (show ¬ ¬ nI z = 0 from fun h => h h0) ?_
            repeat refine hX _ _ _ _ _ _ _ _ _ _ _ _ _ _ rfl ?_
            refine ⟨nI_ne0 hg0 (by omega), ?_⟩
            repeat refine hX _ _ _ _ _ _ _ _ _ _ _ _ _ _ rfl ?_
            exact ⟨by rw [if_pos h0, pk_div (by omega) hg0 (by omega)], rfl⟩
          · refine br_t (show ¬ nI z = 0 from h0) ?_
            repeat refine hX _ _ _ _ _ _ _ _ _ _ _ _ _ _ rfl ?_
            refine ⟨nI_ne0 hg0 (by omega), ?_⟩
            repeat refine hX _ _ _ _ _ _ _ _ _ _ _ _ _ _ rfl ?_
            exact ⟨by rw [if_neg h0, pk_div (by omega) hg0 (by omega)], rfl⟩
end
section
/-! ===== the reference: what is read ===== -/
theorem lg_lt (x y : Int64) : lg_cmp x y < 0 ↔ x < y := by
  unfold lg_cmp
  by_cases h1 : x > y
  · rw [if_pos h1]
    have : ¬ x < y := fun h => Int64.lt_irrefl (Int64.lt_trans h h1)
    simp [this]
  · rw [if_neg h1]
    by_cases h2 : x = y
    · rw [if_pos h2, h2]
      simp [Int64.lt_irrefl]
    · rw [if_neg h2]
      have : x < y := by
        rcases Int64.lt_or_le x y with h | h
        · exact h
        · exact absurd (Int64.le_antisymm (Int64.not_lt.mp h1) h) h2
      simp [this]
theorem lg_gt (x y : Int64) : 0 < lg_cmp x y ↔ y < x := by
  unfold lg_cmp
  by_cases h1 : x > y
  · rw [if_pos h1]
    simp [show y < x from h1]
  · rw [if_neg h1]
    have h3 : ¬ y < x := h1
    by_cases h2 : x = y
    · rw [if_pos h2]; simp [h3]
    · rw [if_neg h2]; simp [h3]
theorem m_in (S : zS) (d : Nat) (h : zH) (x lo hi : Int64) : Ex S (d + 1) 0 0 91 [.long x, .long lo, .long hi] h (some (.int (b2i (decide (lo ≤ x) && decide (x ≤ hi))))) h := by
  (refine exI rfl rfl ?_; intro X hX)
  repeat refine hX _ _ _ _ _ _ _ _ _ _ _ _ _ _ rfl ?_
  by_cases h1 : x < lo
  · refine br_t (show lg_cmp x lo < 0 from (lg_lt x lo).mpr h1) ?_
    repeat refine hX _ _ _ _ _ _ _ _ _ _ _ _ _ _ rfl ?_
    exact ⟨Or.inl rfl, by rw [decide_eq_false (Int64.not_le.mpr h1)]; rfl, rfl⟩
  · refine br_f (show ¬ lg_cmp x lo < 0 from fun h => h1 ((lg_lt x lo).mp h)) ?_
    repeat refine hX _ _ _ _ _ _ _ _ _ _ _ _ _ _ rfl ?_
    by_cases h2 : hi < x
    · refine br_t (show 0 < lg_cmp x hi from (lg_gt x hi).mpr h2) ?_
      repeat refine hX _ _ _ _ _ _ _ _ _ _ _ _ _ _ rfl ?_
      exact ⟨Or.inl rfl, by rw [decide_eq_true (Int64.not_lt.mp h1), decide_eq_false (Int64.not_le.mpr h2)]; rfl, rfl⟩
    · refine br_f (show ¬ 0 < lg_cmp x hi from fun h => h2 ((lg_gt x hi).mp h)) ?_
      repeat refine hX _ _ _ _ _ _ _ _ _ _ _ _ _ _ rfl ?_
      exact ⟨Or.inr rfl, by rw [decide_eq_true (Int64.not_lt.mp h1), decide_eq_true (Int64.not_lt.mp h2)]; rfl, rfl⟩
theorem in64 (x : Int32) {n : Nat} (hn : n < 2 ^ 30) : (decide ((0 : Int64) ≤ x.toInt64) && decide (x.toInt64 ≤ (nI n - 1).toInt64)) = inb x n := by
  have e1 : (nI n - 1).toInt = (n : Int) - 1 := pk_sub_toInt (b := 1) hn (by decide)
  have e2 : (nI n).toInt = n := nI_toInt (by omega)
  unfold inb
  simp only [Int64.le_iff_toInt_le, Int32.lt_iff_toInt_lt, Int32.toInt_toInt64, e1, e2]
  have e3 : (0 : Int64).toInt = 0 := rfl
  have e4 : (0 : Int32).toInt = 0 := rfl
  rw [e3, e4, ← decide_not]
  congr 1 <;> exact decide_eq_decide.mpr (by omega)
theorem in64c (x : Int32) {k : Nat} (hk : k < 2 ^ 30) : (decide ((0 : Int64) ≤ x.toInt64) && decide (x.toInt64 ≤ lN k)) = inb x (k + 1) := by
  have e1 : (lN k).toInt = (k : Int) := lN_toInt (by omega)
  have e2 : (nI (k + 1)).toInt = ((k + 1 : Nat) : Int) := nI_toInt (by omega)
  unfold inb
  simp only [Int64.le_iff_toInt_le, Int32.lt_iff_toInt_lt, Int32.toInt_toInt64, e1, e2]
  have e3 : (0 : Int64).toInt = 0 := rfl
  have e4 : (0 : Int32).toInt = 0 := rfl
  rw [e3, e4, ← decide_not]
  congr 1 <;> exact decide_eq_decide.mpr (by omega)
theorem m_has (S : zS) (d : Nat) (h : zH) (set i : Int32) : Ex S (d + 1) 0 0 92 [.int set, .int i] h (some (.int (b2i (zhas set i)))) h := by
  (refine exI rfl rfl ?_; intro X hX)
  repeat refine hX _ _ _ _ _ _ _ _ _ _ _ _ _ _ rfl ?_
  refine ⟨fun hc => ?_, fun hc => ?_⟩
  · have hc : ¬ (set >>> (i &&& 31)) &&& 1 = 1 := hc
    repeat refine hX _ _ _ _ _ _ _ _ _ _ _ _ _ _ rfl ?_
    exact ⟨Or.inl rfl, by rw [zhas_f hc]; rfl, rfl⟩
  · have hc : ¬ ¬ (set >>> (i &&& 31)) &&& 1 = 1 := hc
    repeat refine hX _ _ _ _ _ _ _ _ _ _ _ _ _ _ rfl ?_
    exact ⟨Or.inr rfl, by rw [zhas_t (Classical.not_not.mp hc)]; rfl, rfl⟩
theorem m_hasX (S : zS) (d : Nat) (h : zH) {a p : Nat} (ha : a < 64) (hp : p < 6) : Ex S (d + 1) 0 0 92 [.int (nI a), .int (nI p)] h (some (.int (b2i (a.testBit p)))) h := by
  have := m_has S d h (nI a) (nI p)
  rwa [q_has a ha p hp] at this
theorem m_isStatue (S : zS) (d : Nat) (hc : List zC) (m : mS) {A : aT} (hA : TWf A) (hT : MTold (mTold m) A) (x : Int32) : Ex S (d + 2) 0 0 108 [.ref 1000, .int x] (hc, hM m) (some (.int (b2i (inb x (aNs A))))) (hc, hM m) := by
  have hns := hA.2.2.2.1
  have hin := fun h => m_in S d h x.toInt64 0 (nI (aNs A) - 1).toInt64
  rw [in64 x (by omega)] at hin
  (refine exI rfl rfl ?_; intro X hX)
  repeat refine hX _ _ _ _ _ _ _ _ _ _ _ _ _ _ rfl ?_
  refine ⟨by unfold vp_in; decide, ?_⟩
  rw [show (1 : Int32).toNatClampNeg = 1 from rfl]
  rw [hT.2.1]
  repeat refine hX _ _ _ _ _ _ _ _ _ _ _ _ _ _ rfl ?_
  refine Or.inl ⟨_, _, hin _, ?_⟩
  repeat refine hX _ _ _ _ _ _ _ _ _ _ _ _ _ _ rfl ?_
  exact ⟨b2i_01 _, rfl, rfl⟩
theorem m_isOne (S : zS) (d : Nat) (hc : List zC) (m : mS) {A : aT} (hA : TWf A) (hT : MTold (mTold m) A) (x : Int32) : Ex S (d + 2) 0 0 109 [.ref 1000, .int x] (hc, hM m) (some (.int (b2i (inb x (aNp A))))) (hc, hM m) := by
  have hnp := hA.2.2.2.2.1
  have hin := fun h => m_in S d h x.toInt64 0 (nI (aNp A) - 1).toInt64
  rw [in64 x (by omega)] at hin
  (refine exI rfl rfl ?_; intro X hX)
  repeat refine hX _ _ _ _ _ _ _ _ _ _ _ _ _ _ rfl ?_
  refine ⟨by unfold vp_in; decide, ?_⟩
  rw [show (2 : Int32).toNatClampNeg = 2 from rfl]
  rw [hT.2.2.1]
  repeat refine hX _ _ _ _ _ _ _ _ _ _ _ _ _ _ rfl ?_
  refine Or.inl ⟨_, _, hin _, ?_⟩
  repeat refine hX _ _ _ _ _ _ _ _ _ _ _ _ _ _ rfl ?_
  exact ⟨b2i_01 _, rfl, rfl⟩
theorem m_isYard (S : zS) (d : Nat) (hc : List zC) (m : mS) {A : aT} (hA : TWf A) (hT : MTold (mTold m) A) (x : Int32) : Ex S (d + 2) 0 0 110 [.ref 1000, .int x] (hc, hM m) (some (.int (b2i (inb x (aNy A))))) (hc, hM m) := by
  have hny := hA.2.1
  have hin := fun h => m_in S d h x.toInt64 0 (nI (aNy A) - 1).toInt64
  rw [in64 x (by omega)] at hin
  (refine exI rfl rfl ?_; intro X hX)
  repeat refine hX _ _ _ _ _ _ _ _ _ _ _ _ _ _ rfl ?_
  refine ⟨by unfold vp_in; decide, ?_⟩
  rw [show (0 : Int32).toNatClampNeg = 0 from rfl]
  rw [hT.1]
  repeat refine hX _ _ _ _ _ _ _ _ _ _ _ _ _ _ rfl ?_
  refine Or.inl ⟨_, _, hin _, ?_⟩
  repeat refine hX _ _ _ _ _ _ _ _ _ _ _ _ _ _ rfl ?_
  exact ⟨b2i_01 _, rfl, rfl⟩
theorem MRow_0 {A : aT} {f : cF} {N : aN} (h : MRow A f 0 N) : f 6 = nI (nCo N) ∧ (∀ j, j < aNs A → f j = nI (nYa N j)) ∧ (∀ p, p < aNp A → f (7 + p) = nI (pop (nCl N p)) ∧ f (13 + p) = nI (nCl N p)) := by
  unfold MRow at h
  simpa using h
theorem nCl_lt {A : aT} {N : aN} (hA : TWf A) (hW : NWf A N) {p : Nat} (hp : p < aNp A) : nCl N p < 64 := Nat.lt_of_lt_of_le (hW.2.2.2 p hp) (pow_le64 hA.2.2.2.1)
theorem m_isWronged (S : zS) (d : Nat) (hc : List zC) (m : mS) {A : aT} {N : aN} (hA : TWf A) (hT : MTold (mTold m) A) (hW : NWf A N) (hN : MRow A (mNow m) 0 N) {p j : Nat} (hp : p < aNp A) (hj : j < aNs A) : Ex S (d + 2) 0 0 111 [.ref 1000, .int (nI p), .int (nI j)] (hc, hM m) (some (.int (b2i ((aWg A p).testBit (aIn A j) || (nCl N p).testBit j)))) (hc, hM m) := by
  have hns := hA.2.2.2.1
  have hnp := hA.2.2.2.2.1
  have hN := MRow_0 hN
  have h1 := fun h => m_hasX S d h (hA.2.2.2.2.2.2 p hp).2.2.2.2 (hA.2.2.2.2.2.1 j hj).2.2
  have h2 := fun h => m_hasX S d h (nCl_lt hA hW hp) (show j < 6 by omega)
  have g1 := (hT.2.2.2.2.2 p hp).2.2.2
  have g2 := (hT.2.2.2.2.1 j hj).2
  have g3 := (hN.2.2 p hp).2
  (refine exI rfl rfl ?_; intro X hX)
  repeat refine hX _ _ _ _ _ _ _ _ _ _ _ _ _ _ rfl ?_
  rw [show (34 : Int32) + nI p = nI (34 + p) from nI_add 34 p]
  refine ⟨vp_in_nI (by omega) (by decide), ?_⟩
  rw [nI_clamp (by omega)]
  rw [g1]
  repeat refine hX _ _ _ _ _ _ _ _ _ _ _ _ _ _ rfl ?_
  rw [show (10 : Int32) + nI j = nI (10 + j) from nI_add 10 j]
  refine ⟨vp_in_nI (by omega) (by decide), ?_⟩
  rw [nI_clamp (by omega)]
  rw [g2]
  repeat refine hX _ _ _ _ _ _ _ _ _ _ _ _ _ _ rfl ?_
  refine Or.inl ⟨_, _, h1 _, ?_⟩
  repeat refine hX _ _ _ _ _ _ _ _ _ _ _ _ _ _ rfl ?_
  cases hb : (aWg A p).testBit (aIn A j) with
  | true =>
    refine br_t (show ¬ b2i true = 0 by decide) ?_
    repeat refine hX _ _ _ _ _ _ _ _ _ _ _ _ _ _ rfl ?_
    exact ⟨Or.inr rfl, by rw [hb]; rfl, rfl⟩
  | false =>
    refine br_f (show ¬ ¬ b2i false = 0 by decide) ?_
    repeat refine hX _ _ _ _ _ _ _ _ _ _ _ _ _ _ rfl ?_
    rw [show (13 : Int32) + nI p = nI (13 + p) from nI_add 13 p]
    refine ⟨vp_in_nI (by omega) (by decide), ?_⟩
    rw [nI_clamp (by omega)]
    rw [g3]
    repeat refine hX _ _ _ _ _ _ _ _ _ _ _ _ _ _ rfl ?_
    refine Or.inl ⟨_, _, h2 _, ?_⟩
    repeat refine hX _ _ _ _ _ _ _ _ _ _ _ _ _ _ rfl ?_
    cases hb2 : (nCl N p).testBit j with
    | true =>
      refine br_f (show ¬ b2i true = 0 by decide) ?_
      repeat refine hX _ _ _ _ _ _ _ _ _ _ _ _ _ _ rfl ?_
      exact ⟨Or.inr rfl, by rw [hb, hb2]; rfl, rfl⟩
    | false =>
      refine br_t (show b2i false = 0 from rfl) ?_
      repeat refine hX _ _ _ _ _ _ _ _ _ _ _ _ _ _ rfl ?_
      exact ⟨Or.inl rfl, by rw [hb, hb2]; rfl, rfl⟩
theorem m_wronged (S : zS) (d : Nat) (hc : List zC) (m : mS) {A : aT} {N : aN} (hA : TWf A) (hT : MTold (mTold m) A) (hW : NWf A N) (hN : MRow A (mNow m) 0 N) {j : Nat} (hj : j < aNs A) : Ex S (d + 3) 0 0 112 [.ref 1000, .int (nI j)] (hc, hM m) (some (.int (nI (aWr A N j)))) (hc, hM m) := by
  have hnp := hA.2.2.2.2.1
  have hw := fun p (hp : p < aNp A) => m_isWronged S d hc m hA hT hW hN hp hj
  have g := hT.2.2.1
  (refine exI rfl rfl ?_; intro X hX)
  have loop : ∀ (k p : Nat), p + k = aNp A → X 4 [some (.ref 1000), some (.int (nI j)), some (.int (nI (nmask p (fun p => (aWg A p).testBit (aIn A j) || (nCl N p).testBit j)))), some (.int (nI p))] [] (hc, hM m) 0 0 := by
    intro k
    induction k with
    | zero =>
      intro p hp
      repeat refine hX _ _ _ _ _ _ _ _ _ _ _ _ _ _ rfl ?_
      refine ⟨by unfold vp_in; decide, ?_⟩
      rw [show (2 : Int32).toNatClampNeg = 2 from rfl]
      rw [g]
      repeat refine hX _ _ _ _ _ _ _ _ _ _ _ _ _ _ rfl ?_
      refine br_t (show nI (aNp A) ≤ nI p from nI_le (by omega) (by omega)) ?_
      repeat refine hX _ _ _ _ _ _ _ _ _ _ _ _ _ _ rfl ?_
      exact ⟨by rw [show p = aNp A by omega]; rfl, rfl⟩
    | succ k ih =>
      intro p hp
      repeat refine hX _ _ _ _ _ _ _ _ _ _ _ _ _ _ rfl ?_
      refine ⟨by unfold vp_in; decide, ?_⟩
      rw [show (2 : Int32).toNatClampNeg = 2 from rfl]
      rw [g]
      repeat refine hX _ _ _ _ _ _ _ _ _ _ _ _ _ _ rfl ?_
      refine br_f (show ¬ nI (aNp A) ≤ nI p from nI_ge (by omega) (by omega)) ?_
      repeat refine hX _ _ _ _ _ _ _ _ _ _ _ _ _ _ rfl ?_
      refine Or.inl ⟨_, _, hw p (by omega), ?_⟩
      repeat refine hX _ _ _ _ _ _ _ _ _ _ _ _ _ _ rfl ?_
      have h7 := ih (p + 1) (by omega)
      rw [nmask] at h7
      cases hb : ((aWg A p).testBit (aIn A j) || (nCl N p).testBit j) with
      | false =>
        refine br_t (show b2i false = 0 from rfl) ?_
        iterate 5 (refine hX _ _ _ _ _ _ _ _ _ _ _ _ _ _ rfl ?_)
        rw [nI_1, show nI (nmask p (fun p => (aWg A p).testBit (aIn A j) || (nCl N p).testBit j)) ||| 0 = nI (nmask p (fun p => (aWg A p).testBit (aIn A j) || (nCl N p).testBit j)) from Int32.or_zero]
        rw [hb] at h7
        exact h7
      | true =>
        refine br_f (show ¬ b2i true = 0 by decide) ?_
        iterate 8 (refine hX _ _ _ _ _ _ _ _ _ _ _ _ _ _ rfl ?_)
        rw [nI_1, q_shl p (by omega), nI_or, nmask_set]
        rw [hb] at h7
        exact h7
  iterate 4 (refine hX _ _ _ _ _ _ _ _ _ _ _ _ _ _ rfl ?_)
  exact loop (aNp A) 0 (by omega)
theorem m_strength (S : zS) (d : Nat) (hc : List zC) (m : mS) {A : aT} (hA : TWf A) (hT : MTold (mTold m) A) {set : Nat} (hs : set < 64) : Ex S (d + 2) 0 0 113 [.ref 1000, .int (nI set)] (hc, hM m) (some (.int (nI (aStr A set)))) (hc, hM m) := by
  have hnp := hA.2.2.2.2.1
  have g := hT.2.2.1
  have g2 := hT.2.2.2.2.2
  (refine exI rfl rfl ?_; intro X hX)
  have loop : ∀ (k p : Nat), p + k = aNp A → X 4 [some (.ref 1000), some (.int (nI set)), some (.int (nI (aSum (aSt A) set p))), some (.int (nI p))] [] (hc, hM m) 0 0 := by
    intro k
    induction k with
    | zero =>
      intro p hp
      repeat refine hX _ _ _ _ _ _ _ _ _ _ _ _ _ _ rfl ?_
      refine ⟨by unfold vp_in; decide, ?_⟩
      rw [show (2 : Int32).toNatClampNeg = 2 from rfl]
      rw [g]
      repeat refine hX _ _ _ _ _ _ _ _ _ _ _ _ _ _ rfl ?_
      refine br_t (show nI (aNp A) ≤ nI p from nI_le (by omega) (by omega)) ?_
      repeat refine hX _ _ _ _ _ _ _ _ _ _ _ _ _ _ rfl ?_
      exact ⟨by rw [show p = aNp A by omega]; rfl, rfl⟩
    | succ k ih =>
      intro p hp
      repeat refine hX _ _ _ _ _ _ _ _ _ _ _ _ _ _ rfl ?_
      refine ⟨by unfold vp_in; decide, ?_⟩
      rw [show (2 : Int32).toNatClampNeg = 2 from rfl]
      rw [g]
      repeat refine hX _ _ _ _ _ _ _ _ _ _ _ _ _ _ rfl ?_
      refine br_f (show ¬ nI (aNp A) ≤ nI p from nI_ge (by omega) (by omega)) ?_
      repeat refine hX _ _ _ _ _ _ _ _ _ _ _ _ _ _ rfl ?_
      refine Or.inl ⟨_, _, m_hasX S d _ hs (by omega), ?_⟩
      repeat refine hX _ _ _ _ _ _ _ _ _ _ _ _ _ _ rfl ?_
      have h7 := ih (p + 1) (by omega)
      rw [aSum] at h7
      cases hb : set.testBit p with
      | false =>
        refine br_t (show b2i false = 0 from rfl) ?_
        iterate 5 (refine hX _ _ _ _ _ _ _ _ _ _ _ _ _ _ rfl ?_)
        rw [nI_1, show (0 : Int32) = nI 0 from rfl, nI_add]
        rw [hb] at h7
        exact h7
      | true =>
        refine br_f (show ¬ b2i true = 0 by decide) ?_
        repeat refine hX _ _ _ _ _ _ _ _ _ _ _ _ _ _ rfl ?_
        rw [show (22 : Int32) + nI p = nI (22 + p) from nI_add 22 p]
        refine ⟨vp_in_nI (by omega) (by decide), ?_⟩
        rw [nI_clamp (by omega)]
        rw [(g2 p (by omega)).2.1]
        iterate 5 (refine hX _ _ _ _ _ _ _ _ _ _ _ _ _ _ rfl ?_)
        rw [nI_1, nI_add]
        rw [hb] at h7
        exact h7
  iterate 4 (refine hX _ _ _ _ _ _ _ _ _ _ _ _ _ _ rfl ?_)
  exact loop (aNp A) 0 (by omega)
end
section
theorem m_pull (S : zS) (d : Nat) (hc : List zC) (m : mS) {A : aT} {N : aN} (hA : TWf A) (hT : MTold (mTold m) A) (hW : NWf A N) (hN : MRow A (mNow m) 0 N) {j : Nat} (hj : j < aNs A) : Ex S (d + 4) 0 0 114 [.ref 1000, .int (nI j)] (hc, hM m) (some (.int (nI (aPull A N j)))) (hc, hM m) := by
  have hw := m_wronged S d hc m hA hT hW hN hj
  have hs := m_strength S (d + 1) hc m hA hT (set := aWr A N j &&& nCo N) (q_and_lt (aWr_lt hA N j))
  have hN := MRow_0 hN
  (refine exI rfl rfl ?_; intro X hX)
  repeat refine hX _ _ _ _ _ _ _ _ _ _ _ _ _ _ rfl ?_
  refine Or.inl ⟨_, _, hw, ?_⟩
  repeat refine hX _ _ _ _ _ _ _ _ _ _ _ _ _ _ rfl ?_
  refine ⟨by unfold vp_in; decide, ?_⟩
  rw [show (6 : Int32).toNatClampNeg = 6 from rfl]
  rw [hN.1]
  repeat refine hX _ _ _ _ _ _ _ _ _ _ _ _ _ _ rfl ?_
  rw [q_and _ (aWr_lt hA N j) _ (nCo_lt hA hW)]
  refine Or.inl ⟨_, _, hs, ?_⟩
  repeat refine hX _ _ _ _ _ _ _ _ _ _ _ _ _ _ rfl ?_
  exact ⟨rfl, rfl⟩
theorem m_moves (S : zS) (d : Nat) (hc : List zC) (m : mS) {A : aT} {N : aN} (hA : TWf A) (hT : MTold (mTold m) A) (hW : NWf A N) (hN : MRow A (mNow m) 0 N) {j : Nat} (hj : j < aNs A) : Ex S (d + 5) 0 0 115 [.ref 1000, .int (nI j)] (hc, hM m) (some (.int (b2i (aMov A N j)))) (hc, hM m) := by
  have hp := m_pull S d hc m hA hT hW hN hj
  have hns := hA.2.2.2.1
  have h3 := (hA.2.2.2.2.2.1 j hj).2.1
  have h4 : aPull A N j ≤ 54 := aStr_le hA _
  have h5 := (hT.2.2.2.2.1 j hj).1
  (refine exI rfl rfl ?_; intro X hX)
  repeat refine hX _ _ _ _ _ _ _ _ _ _ _ _ _ _ rfl ?_
  refine Or.inl ⟨_, _, hp, ?_⟩
  repeat refine hX _ _ _ _ _ _ _ _ _ _ _ _ _ _ rfl ?_
  rw [show (4 : Int32) + nI j = nI (4 + j) from nI_add 4 j]
  refine ⟨vp_in_nI (by omega) (by decide), ?_⟩
  rw [nI_clamp (by omega)]
  rw [h5]
  repeat refine hX _ _ _ _ _ _ _ _ _ _ _ _ _ _ rfl ?_
  refine ⟨fun hc => ?_, fun hc => ?_⟩
  · have hc : ¬ aWe A j ≤ aPull A N j := by have := (nI_ltI (by omega) (by omega)).mp (show nI (aPull A N j) < nI (aWe A j) from hc); omega
    repeat refine hX _ _ _ _ _ _ _ _ _ _ _ _ _ _ rfl ?_
    exact ⟨Or.inl rfl, by simp [aMov, hc, b2i], rfl⟩
  · have hc : aWe A j ≤ aPull A N j := Nat.not_lt.mp fun h9 => hc (nI_lt h9 (by omega))
    repeat refine hX _ _ _ _ _ _ _ _ _ _ _ _ _ _ rfl ?_
    exact ⟨Or.inr rfl, by simp [aMov, hc, b2i], rfl⟩
/-- the last who stands there is the first -/
theorem aFst_last {A : aT} (hA : TWf A) {N : aN} (hW : NWf A N) {y : Int32} {i : Nat} (hi : i < aNs A) (hy : nI (nYa N i) = y) : aSin A N y = nI i := by
  have hns := hA.2.2.2.1
  have hny := hA.2.1
  have h1 := hW.2.1 i hi
  rw [← hy]
  exact (aSin_self hA hW hi (by omega)).mpr rfl
theorem m_statueIn (S : zS) (d : Nat) (hc : List zC) (m : mS) {A : aT} {N : aN} (hA : TWf A) (hT : MTold (mTold m) A) (hW : NWf A N) (hN : MRow A (mNow m) 0 N) (y : Int32) : Ex S (d + 1) 0 0 116 [.ref 1000, .int y] (hc, hM m) (some (.int (aSin A N y))) (hc, hM m) := by
  have hns := hA.2.2.2.1
  have hN := MRow_0 hN
  have g := hT.2.1
  (refine exI rfl rfl ?_; intro X hX)
  have loop : ∀ (k j : Nat) (w : Int32), j + k = aNs A → (w = -9 ∨ w = aSin A N y) → (∀ i, i < j → nI (nYa N i) = y → w = aSin A N y) → X 5 [some (.ref 1000), some (.int y), some (.int w), some (.int (nI j))] [] (hc, hM m) 0 0 := by
    intro k
    induction k with
    | zero =>
      intro j w hj hw hall
      repeat refine hX _ _ _ _ _ _ _ _ _ _ _ _ _ _ rfl ?_
      refine ⟨by unfold vp_in; decide, ?_⟩
      rw [show (1 : Int32).toNatClampNeg = 1 from rfl]
      rw [g]
      repeat refine hX _ _ _ _ _ _ _ _ _ _ _ _ _ _ rfl ?_
      refine br_t (show nI (aNs A) ≤ nI j from nI_le (by omega) (by omega)) ?_
      repeat refine hX _ _ _ _ _ _ _ _ _ _ _ _ _ _ rfl ?_
      refine ⟨?_, rfl⟩
      rcases hw with hw | hw
      · rcases aFst_cases (f := nYa N) (y := y) (aNs A) 0 with h1 | ⟨k, h1, h2, h3, h4⟩
        · rw [hw]; exact congrArg (fun z => some (Value.int z)) h1.symm
        · rw [hall k (by omega) h4]
      · rw [hw]
    | succ k ih =>
      intro j w hj hw hall
      repeat refine hX _ _ _ _ _ _ _ _ _ _ _ _ _ _ rfl ?_
      refine ⟨by unfold vp_in; decide, ?_⟩
      rw [show (1 : Int32).toNatClampNeg = 1 from rfl]
      rw [g]
      repeat refine hX _ _ _ _ _ _ _ _ _ _ _ _ _ _ rfl ?_
      refine br_f (show ¬ nI (aNs A) ≤ nI j from nI_ge (by omega) (by omega)) ?_
      repeat refine hX _ _ _ _ _ _ _ _ _ _ _ _ _ _ rfl ?_
      refine ⟨vp_in_nI (by omega) (by decide), ?_⟩
      rw [nI_clamp (by omega)]
      rw [hN.2.1 j (by omega)]
      repeat refine hX _ _ _ _ _ _ _ _ _ _ _ _ _ _ rfl ?_
      by_cases he : nI (nYa N j) = y
      · refine br_f (show ¬ ¬ nI (nYa N j) = y from fun h => h he) ?_
        have hl := aFst_last hA hW (show j < aNs A by omega) he
        iterate 5 (refine hX _ _ _ _ _ _ _ _ _ _ _ _ _ _ rfl ?_)
        rw [nI_1]
        exact ih (j + 1) (nI j) (by omega) (Or.inr hl.symm) (fun i _ _ => hl.symm)
      · refine br_t (show ¬ nI (nYa N j) = y from he) ?_
        iterate 4 (refine hX _ _ _ _ _ _ _ _ _ _ _ _ _ _ rfl ?_)
        rw [nI_1]
        refine ih (j + 1) w (by omega) hw (fun i hi h => ?_)
        by_cases hij : i = j
        · exact absurd (by rw [← hij]; exact h) he
        · exact hall i (by omega) h
  iterate 4 (refine hX _ _ _ _ _ _ _ _ _ _ _ _ _ _ rfl ?_)
  exact loop (aNs A) 0 (-9) (by omega) (Or.inl rfl) (fun i hi => absurd hi (Nat.not_lt_zero i))
theorem q_near2 : ∀ a, a < 10 → ∀ b, b < 10 → ∀ s, s < 4 → (!decide (nI s < nI a - nI b) && !decide (nI s < -(nI a - nI b))) = aNear a b s := by decide +kernel
theorem m_offended (S : zS) (d : Nat) (hc : List zC) (m : mS) {A : aT} {N : aN} (hA : TWf A) (hT : MTold (mTold m) A) (hW : NWf A N) (hN : MRow A (mNow m) 0 N) {j y : Nat} (hj : j < aNs A) (hy : y < 10) : Ex S (d + 4) 0 0 117 [.ref 1000, .int (nI j), .int (nI y)] (hc, hM m) (some (.int (nI (aOff A N j y)))) (hc, hM m) := by
  have hnp := hA.2.2.2.2.1
  have hsi := hA.2.2.1
  have hny := hA.2.1
  have hw := m_wronged S d hc m hA hT hW hN hj
  have hwl := aWr_lt hA N j
  have g := hT.2.2.1
  have g2 := hT.2.2.2.2.2
  have g3 := hT.2.2.2.1
  (refine exI rfl rfl ?_; intro X hX)
  have loop : ∀ (k p : Nat) (v : Option Value), p + k = aNp A → (v = none ∨ ∃ z, v = some (.int z)) → X 12 [some (.ref 1000), some (.int (nI j)), some (.int (nI y)), some (.int (nI (aCnt (fun p => (aWr A N j).testBit p && aNear (aHo A p) y (aSi A)) p))), some (.int (nI (aWr A N j))), some (.int (nI p)), v] [] (hc, hM m) 0 0 := by
    intro k
    induction k with
    | zero =>
      intro p v hp hv
      repeat refine hX _ _ _ _ _ _ _ _ _ _ _ _ _ _ rfl ?_
      refine ⟨by unfold vp_in; decide, ?_⟩
      rw [show (2 : Int32).toNatClampNeg = 2 from rfl]
      rw [g]
      repeat refine hX _ _ _ _ _ _ _ _ _ _ _ _ _ _ rfl ?_
      refine br_t (show nI (aNp A) ≤ nI p from nI_le (by omega) (by omega)) ?_
      repeat refine hX _ _ _ _ _ _ _ _ _ _ _ _ _ _ rfl ?_
      exact ⟨by rw [show p = aNp A by omega]; rfl, rfl⟩
    | succ k ih =>
      intro p v hp hv
      have h7 := ih (p + 1) (some (.int (nI (aHo A p) - nI y))) (by omega) (Or.inr ⟨_, rfl⟩)
      rw [aCnt] at h7
      have hho := (hA.2.2.2.2.2.2 p (by omega)).1
      have hq := q_near2 (aHo A p) (by omega) y hy (aSi A) (by omega)
      have h75 : ((aWr A N j).testBit p && aNear (aHo A p) y (aSi A)) = false → X 75 [some (.ref 1000), some (.int (nI j)), some (.int (nI y)), some (.int (nI (aCnt (fun p => (aWr A N j).testBit p && aNear (aHo A p) y (aSi A)) p))), some (.int (nI (aWr A N j))), some (.int (nI p)), some (.int (nI (aHo A p) - nI y))] [.int (nI (aCnt (fun p => (aWr A N j).testBit p && aNear (aHo A p) y (aSi A)) p))] (hc, hM m) 0 0 := by
        intro hb
        rw [hb] at h7
        iterate 5 (refine hX _ _ _ _ _ _ _ _ _ _ _ _ _ _ rfl ?_)
        rw [nI_1, show (0 : Int32) = nI 0 from rfl, nI_add]
        exact h7
      rcases hv with rfl | ⟨z, rfl⟩
      all_goals
        repeat refine hX _ _ _ _ _ _ _ _ _ _ _ _ _ _ rfl ?_
        refine ⟨by unfold vp_in; decide, ?_⟩
        rw [show (2 : Int32).toNatClampNeg = 2 from rfl]
        rw [g]
        repeat refine hX _ _ _ _ _ _ _ _ _ _ _ _ _ _ rfl ?_
        refine br_f (show ¬ nI (aNp A) ≤ nI p from nI_ge (by omega) (by omega)) ?_
        repeat refine hX _ _ _ _ _ _ _ _ _ _ _ _ _ _ rfl ?_
        rw [show (16 : Int32) + nI p = nI (16 + p) from nI_add 16 p]
        refine ⟨vp_in_nI (by omega) (by decide), ?_⟩
        rw [nI_clamp (by omega)]
        rw [(g2 p (by omega)).1]
        repeat refine hX _ _ _ _ _ _ _ _ _ _ _ _ _ _ rfl ?_
        refine Or.inl ⟨_, _, m_hasX S (d + 2) _ hwl (by omega), ?_⟩
        repeat refine hX _ _ _ _ _ _ _ _ _ _ _ _ _ _ rfl ?_
        cases hb : (aWr A N j).testBit p with
        | false =>
          refine br_t (show b2i false = 0 from rfl) ?_
          exact h75 (by rw [hb]; rfl)
        | true =>
          refine br_f (show ¬ b2i true = 0 by decide) ?_
          repeat refine hX _ _ _ _ _ _ _ _ _ _ _ _ _ _ rfl ?_
          refine ⟨by unfold vp_in; decide, ?_⟩
          rw [show (3 : Int32).toNatClampNeg = 3 from rfl]
          rw [g3]
          repeat refine hX _ _ _ _ _ _ _ _ _ _ _ _ _ _ rfl ?_
          by_cases c1 : nI (aSi A) < nI (aHo A p) - nI y
          · refine br_t (show nI (aSi A) < nI (aHo A p) - nI y from c1) ?_
            rw [decide_eq_true c1] at hq
            exact h75 (by rw [hb, ← hq]; rfl)
          · refine br_f (show ¬ nI (aSi A) < nI (aHo A p) - nI y from c1) ?_
            repeat refine hX _ _ _ _ _ _ _ _ _ _ _ _ _ _ rfl ?_
            refine ⟨by unfold vp_in; decide, ?_⟩
            rw [show (3 : Int32).toNatClampNeg = 3 from rfl]
            rw [g3]
            repeat refine hX _ _ _ _ _ _ _ _ _ _ _ _ _ _ rfl ?_
            by_cases c2 : nI (aSi A) < -(nI (aHo A p) - nI y)
            · refine br_t (show nI (aSi A) < -(nI (aHo A p) - nI y) from c2) ?_
              rw [decide_eq_true c2] at hq
              exact h75 (by rw [hb, ← hq, decide_eq_false c1]; rfl)
            · refine br_f (show ¬ nI (aSi A) < -(nI (aHo A p) - nI y) from c2) ?_
              rw [decide_eq_false c1, decide_eq_false c2] at hq
              rw [hb, ← hq] at h7
              iterate 6 (refine hX _ _ _ _ _ _ _ _ _ _ _ _ _ _ rfl ?_)
              rw [nI_1, nI_1]
              exact h7
  repeat refine hX _ _ _ _ _ _ _ _ _ _ _ _ _ _ rfl ?_
  refine Or.inl ⟨_, _, hw, ?_⟩
  iterate 3 (refine hX _ _ _ _ _ _ _ _ _ _ _ _ _ _ rfl ?_)
  exact loop (aNp A) 0 none (by omega) (Or.inl rfl)
/-! the place: going down with 'or equal' comes to the same -/
def aBest (A : aT) (N : aN) (j b : Nat) : Prop := aCan A N j b = true ∧ b < aNy A ∧ (∀ y, y < aNy A → aCan A N j y = true → aOff A N j b ≤ aOff A N j y) ∧ ∀ y, y < b → aCan A N j y = true → aOff A N j b < aOff A N j y
theorem aBest_one {A : aT} {N : aN} {j b b' : Nat} (h : aBest A N j b) (h' : aBest A N j b') : b = b' := by
  rcases Nat.lt_trichotomy b b' with hl | he | hg
  · have h1 := h'.2.2.2 b hl h.1
    have h2 := h.2.2.1 b' h'.2.1 h'.1
    omega
  · exact he
  · have h1 := h.2.2.2 b' hg h'.1
    have h2 := h'.2.2.1 b h.2.1 h.1
    omega
theorem aPlc_best {A : aT} (hA : TWf A) {N : aN} (hW : NWf A N) {j : Nat} (hj : j < aNs A) : aBest A N j (aPlc A N j (aNy A)).1 := by
  have key : ∀ n, n ≤ aNy A → ((aPlc A N j n).2 = 7 ∧ ∀ y, y < n → aCan A N j y = false) ∨ ((aPlc A N j n).2 = aOff A N j (aPlc A N j n).1 ∧ (aPlc A N j n).1 < n ∧ aCan A N j (aPlc A N j n).1 = true ∧ (∀ y, y < n → aCan A N j y = true → aOff A N j (aPlc A N j n).1 ≤ aOff A N j y) ∧ ∀ y, y < (aPlc A N j n).1 → aCan A N j y = true → aOff A N j (aPlc A N j n).1 < aOff A N j y) := by
    intro n
    induction n with
    | zero => intro _; exact Or.inl ⟨rfl, fun y hy => absurd hy (Nat.not_lt_zero y)⟩
    | succ n ih =>
      intro hn
      have ho := aOff_le hA N j n
      rcases ih (by omega) with ⟨h1, h2⟩ | ⟨h1, h2, h3, h4, h5⟩
      · rw [aPlc, h1]
        cases hc : aCan A N j n with
        | false =>
          left
          refine ⟨h1, fun y hy => ?_⟩
          by_cases hyn : y = n
          · rw [hyn]; exact hc
          · exact h2 y (by omega)
        | true =>
          right
          rw [decide_eq_true (show aOff A N j n < 7 by omega)]
          refine ⟨rfl, Nat.lt_succ_self n, hc, fun y hy hcy => ?_, fun y hy hcy => ?_⟩
          · by_cases hyn : y = n
            · rw [hyn]; exact Nat.le_refl _
            · rw [h2 y (by omega)] at hcy; cases hcy
          · rw [h2 y hy] at hcy; cases hcy
      · right
        rw [aPlc]
        cases hb : (aCan A N j n && decide (aOff A N j n < (aPlc A N j n).2)) with
        | false =>
          refine ⟨h1, Nat.lt_succ_of_lt h2, h3, fun y hy hcy => ?_, h5⟩
          by_cases hyn : y = n
          · subst hyn
            rw [hcy, Bool.true_and, h1] at hb
            exact Nat.not_lt.mp (of_decide_eq_false hb)
          · exact h4 y (by omega) hcy
        | true =>
          rw [Bool.and_eq_true, h1] at hb
          have hlt := of_decide_eq_true hb.2
          refine ⟨rfl, Nat.lt_succ_self n, hb.1, fun y hy hcy => ?_, fun y hy hcy => ?_⟩
          · by_cases hyn : y = n
            · rw [hyn]; exact Nat.le_refl _
            · exact Nat.le_trans (Nat.le_of_lt hlt) (h4 y (by omega) hcy)
          · exact Nat.lt_of_lt_of_le hlt (h4 y hy hcy)
  rcases key (aNy A) (Nat.le_refl _) with ⟨h1, h2⟩ | ⟨h1, h2, h3, h4, h5⟩
  · have h3 := h2 (nYa N j) (hW.2.1 j hj)
    rw [aCan, decide_eq_true (rfl : nYa N j = nYa N j), Bool.or_true] at h3
    cases h3
  · exact ⟨h3, h2, h4, h5⟩
theorem m_placeOf (S : zS) (d : Nat) (hc : List zC) (m : mS) {A : aT} {N : aN} (hA : TWf A) (hT : MTold (mTold m) A) (hW : NWf A N) (hN : MRow A (mNow m) 0 N) {j : Nat} (hj : j < aNs A) : Ex S (d + 5) 0 0 118 [.ref 1000, .int (nI j)] (hc, hM m) (some (.int (nI (aPlc A N j (aNy A)).1))) (hc, hM m) := by
  have hns := hA.2.2.2.1
  have hny := hA.2.1
  have hof := fun y (hy : y < 10) => m_offended S d hc m hA hT hW hN hj hy
  have hin := fun y => m_statueIn S (d + 3) hc m hA hT hW hN y
  have hol := fun y => aOff_le hA N j y
  have hN := MRow_0 hN
  have g := hT.1
  have hyj := hW.2.1 j hj
  (refine exI rfl rfl ?_; intro X hX)
  have loop : ∀ (n : Nat) (o : Option Nat) (v : Option Value), n ≤ aNy A → (v = none ∨ ∃ z, v = some (.int z)) → (o = none → ∀ y, n ≤ y → y < aNy A → aCan A N j y = false) → (∀ b, o = some b → n ≤ b ∧ b < aNy A ∧ aCan A N j b = true ∧ (∀ y, n ≤ y → y < aNy A → aCan A N j y = true → aOff A N j b ≤ aOff A N j y) ∧ ∀ y, n ≤ y → y < b → aCan A N j y = true → aOff A N j b < aOff A N j y) → X 12 [some (.ref 1000), some (.int (nI j)), some (.int (oI o)), some (.int (nI n - 1)), v] [] (hc, hM m) 0 0 := by
    intro n
    induction n with
    | zero =>
      intro o v hn hv h1 h2
      repeat refine hX _ _ _ _ _ _ _ _ _ _ _ _ _ _ rfl ?_
      refine br_t (show nI 0 - 1 < 0 by decide) ?_
      repeat refine hX _ _ _ _ _ _ _ _ _ _ _ _ _ _ rfl ?_
      refine ⟨?_, rfl⟩
      cases o with
      | none =>
        have h3 := h1 rfl (nYa N j) (Nat.zero_le _) hyj
        rw [aCan, decide_eq_true (rfl : nYa N j = nYa N j), Bool.or_true] at h3
        cases h3
      | some b =>
        obtain ⟨-, b1, b2, b3, b4⟩ := h2 b rfl
        rw [aBest_one (aPlc_best hA hW hj) ⟨b2, b1, fun y hy => b3 y (Nat.zero_le _) hy, fun y hy => b4 y (Nat.zero_le _) hy⟩]
        rfl
    | succ n ih =>
      intro o v hn hv h1 h2
      rw [nI_pred]
      have h73 : ∀ z, (aCan A N j n = false ∨ ∃ b, o = some b ∧ aOff A N j b < aOff A N j n) → X 73 [some (.ref 1000), some (.int (nI j)), some (.int (oI o)), some (.int (nI n)), some (.int z)] [] (hc, hM m) 0 0 := by
        intro z hcase
        have h7 := ih o (some (.int z)) (by omega) (Or.inr ⟨_, rfl⟩) (fun ho y hy hyn => ?_) (fun b ho => ?_)
        · iterate 4 (refine hX _ _ _ _ _ _ _ _ _ _ _ _ _ _ rfl ?_)
          rw [← Int32.sub_eq_add_neg]
          exact h7
        · by_cases hyn2 : y = n
          · rcases hcase with hcc | ⟨b, hb, -⟩
            · rw [hyn2]; exact hcc
            · rw [ho] at hb; cases hb
          · exact h1 ho y (by omega) hyn
        · obtain ⟨b0, b1, b2, b3, b4⟩ := h2 b ho
          refine ⟨by omega, b1, b2, fun y hy hyn hcy => ?_, fun y hy hyb hcy => ?_⟩
          · by_cases hyn2 : y = n
            · rcases hcase with hcc | ⟨b', hb', hlt⟩
              · rw [hyn2, hcc] at hcy; cases hcy
              · rw [ho] at hb'; cases hb'
                rw [hyn2]; omega
            · exact b3 y (by omega) hyn hcy
          · by_cases hyn2 : y = n
            · rcases hcase with hcc | ⟨b', hb', hlt⟩
              · rw [hyn2, hcc] at hcy; cases hcy
              · rw [ho] at hb'; cases hb'
                rw [hyn2]; exact hlt
            · exact b4 y (by omega) hyb hcy
      have h69 : ∀ z, aCan A N j n = true → (∀ b, o = some b → aOff A N j n ≤ aOff A N j b) → X 69 [some (.ref 1000), some (.int (nI j)), some (.int (oI o)), some (.int (nI n)), some (.int z)] [] (hc, hM m) 0 0 := by
        intro z hcc hle
        have h7 := ih (some n) (some (.int z)) (by omega) (Or.inr ⟨_, rfl⟩) (fun ho => by cases ho) (fun b ho => ?_)
        · iterate 5 (refine hX _ _ _ _ _ _ _ _ _ _ _ _ _ _ rfl ?_)
          rw [← Int32.sub_eq_add_neg]
          exact h7
        · cases ho
          refine ⟨Nat.le_refl _, by omega, hcc, fun y hy hyn hcy => ?_, fun y hy hyb => by omega⟩
          by_cases hyn2 : y = n
          · rw [hyn2]; exact Nat.le_refl _
          · cases ho2 : o with
            | none => rw [h1 ho2 y (by omega) hyn] at hcy; cases hcy
            | some b => exact Nat.le_trans (hle b ho2) ((h2 b ho2).2.2.2.1 y (by omega) hyn hcy)
      have h43 : ∀ u : Bool, u = aCan A N j n → X 43 [some (.ref 1000), some (.int (nI j)), some (.int (oI o)), some (.int (nI n)), some (.int (b2i u))] [] (hc, hM m) 0 0 := by
        intro u hu
        repeat refine hX _ _ _ _ _ _ _ _ _ _ _ _ _ _ rfl ?_
        cases u with
        | false =>
          refine br_t (show b2i false = 0 from rfl) ?_
          exact h73 _ (Or.inl hu.symm)
        | true =>
          refine br_f (show ¬ b2i true = 0 by decide) ?_
          repeat refine hX _ _ _ _ _ _ _ _ _ _ _ _ _ _ rfl ?_
          cases o with
          | none =>
            refine br_t (show oI none = -9 from rfl) ?_
            exact h69 _ hu.symm (fun b hb => by cases hb)
          | some b =>
            obtain ⟨b0, b1, -⟩ := h2 b rfl
            refine br_f (show ¬ nI b = -9 from n9 b (by omega)) ?_
            repeat refine hX _ _ _ _ _ _ _ _ _ _ _ _ _ _ rfl ?_
            refine Or.inl ⟨_, _, hof n (by omega), ?_⟩
            repeat refine hX _ _ _ _ _ _ _ _ _ _ _ _ _ _ rfl ?_
            refine Or.inl ⟨_, _, hof b (by omega), ?_⟩
            repeat refine hX _ _ _ _ _ _ _ _ _ _ _ _ _ _ rfl ?_
            have hx1 := hol n
            have hx2 := hol b
            by_cases hlt : aOff A N j b < aOff A N j n
            · refine br_t (show nI (aOff A N j b) < nI (aOff A N j n) from nI_lt hlt (by omega)) ?_
              exact h73 _ (Or.inr ⟨b, rfl, hlt⟩)
            · refine br_f (show ¬ nI (aOff A N j b) < nI (aOff A N j n) from nI_nlt (by omega) (by omega)) ?_
              exact h69 _ hu.symm (fun b' hb' => by cases hb'; omega)
      rcases hv with rfl | ⟨z, rfl⟩
      all_goals
        repeat refine hX _ _ _ _ _ _ _ _ _ _ _ _ _ _ rfl ?_
        refine br_f (show ¬ nI n < 0 from nI_pos (by omega)) ?_
        repeat refine hX _ _ _ _ _ _ _ _ _ _ _ _ _ _ rfl ?_
        refine Or.inl ⟨_, _, hin (nI n), ?_⟩
        repeat refine hX _ _ _ _ _ _ _ _ _ _ _ _ _ _ rfl ?_
        by_cases h9 : aSin A N (nI n) = -9
        · refine br_t (show aSin A N (nI n) = -9 from h9) ?_
          iterate 3 (refine hX _ _ _ _ _ _ _ _ _ _ _ _ _ _ rfl ?_)
          exact h43 true (by rw [aCan, decide_eq_true h9, Bool.true_or])
        · refine br_f (show ¬ aSin A N (nI n) = -9 from h9) ?_
          repeat refine hX _ _ _ _ _ _ _ _ _ _ _ _ _ _ rfl ?_
          refine ⟨vp_in_nI (by omega) (by decide), ?_⟩
          rw [nI_clamp (by omega)]
          rw [hN.2.1 j hj]
          repeat refine hX _ _ _ _ _ _ _ _ _ _ _ _ _ _ rfl ?_
          by_cases he : nYa N j = n
          · refine br_f (show ¬ ¬ nI (nYa N j) = nI n from fun h => h (congrArg nI he)) ?_
            iterate 3 (refine hX _ _ _ _ _ _ _ _ _ _ _ _ _ _ rfl ?_)
            exact h43 true (by rw [aCan, decide_eq_true he, Bool.or_true])
          · refine br_t (show ¬ nI (nYa N j) = nI n from fun h => he ((nI_eq (by omega) (by omega)).mp h)) ?_
            iterate 2 (refine hX _ _ _ _ _ _ _ _ _ _ _ _ _ _ rfl ?_)
            exact h43 false (by rw [aCan, decide_eq_false h9, decide_eq_false he]; rfl)
  repeat refine hX _ _ _ _ _ _ _ _ _ _ _ _ _ _ rfl ?_
  refine ⟨by unfold vp_in; decide, ?_⟩
  rw [show (0 : Int32).toNatClampNeg = 0 from rfl]
  rw [g]
  iterate 3 (refine hX _ _ _ _ _ _ _ _ _ _ _ _ _ _ rfl ?_)
  exact loop (aNy A) none none (Nat.le_refl _) (Or.inl rfl) (fun _ y hy hyn => by omega) (fun b hb => by cases hb)
end
section
theorem m_statue (S : zS) (d : Nat) (hc : List zC) (m : mS) {A : aT} {N : aN} (hA : TWf A) (hT : MTold (mTold m) A) (hW : NWf A N) (hN : MRow A (mNow m) 0 N) (s w : Int32) : Ex S (d + 6) 0 0 119 [.ref 1000, .int s, .int w] (hc, hM m) (some (.int (spStatue A N s w))) (hc, hM m) := by
  have hns := hA.2.2.2.1
  have hny := hA.2.1
  have hst := m_isStatue S (d + 3) hc m hA hT s
  have hwr := fun j (hj : j < aNs A) => m_wronged S (d + 2) hc m hA hT hW hN hj
  have hpu := fun j (hj : j < aNs A) => m_pull S (d + 1) hc m hA hT hW hN hj
  have hof := fun j (hj : j < aNs A) y (hy : y < 10) => m_offended S (d + 1) hc m hA hT hW hN hj hy
  have hpl := fun j (hj : j < aNs A) => m_placeOf S d hc m hA hT hW hN hj
  have g5 := hT.2.2.2.2.1
  have hN := MRow_0 hN
  unfold spStatue
  cases hin : inb s (aNs A) with
  | false =>
    rw [hin] at hst
    (refine exI rfl rfl ?_; intro X hX)
    repeat refine hX _ _ _ _ _ _ _ _ _ _ _ _ _ _ rfl ?_
    refine Or.inl ⟨_, _, hst, ?_⟩
    repeat refine hX _ _ _ _ _ _ _ _ _ _ _ _ _ _ rfl ?_
    refine br_f (show ¬ ¬ b2i false = 0 by decide) ?_
    repeat refine hX _ _ _ _ _ _ _ _ _ _ _ _ _ _ rfl ?_
    exact ⟨rfl, rfl⟩
  | true =>
    rw [hin] at hst
    obtain ⟨j, hj, rfl⟩ := inb_of hin (by omega)
    simp only [cond_true, nI_clamp (show j < 2 ^ 31 by omega)]
    have hyj := hW.2.1 j hj
    (refine exI rfl rfl ?_; intro X hX)
    repeat refine hX _ _ _ _ _ _ _ _ _ _ _ _ _ _ rfl ?_
    refine Or.inl ⟨_, _, hst, ?_⟩
    repeat refine hX _ _ _ _ _ _ _ _ _ _ _ _ _ _ rfl ?_
    refine br_t (show ¬ b2i true = 0 by decide) ?_
    repeat refine hX _ _ _ _ _ _ _ _ _ _ _ _ _ _ rfl ?_
    refine ⟨fun hw => ?_, fun h0 => ⟨fun hw => ?_, fun h1 => ⟨fun hw => ?_, fun h2 => ⟨fun hw => ?_, fun h3 => ⟨fun hw => ?_, fun h4 => ⟨fun hw => ?_, fun h5 => ⟨fun hw => ?_, fun h6 => ?_⟩⟩⟩⟩⟩⟩⟩
    · subst hw
      repeat refine hX _ _ _ _ _ _ _ _ _ _ _ _ _ _ rfl ?_
      refine ⟨vp_in_nI (by omega) (by decide), ?_⟩
      rw [nI_clamp (by omega)]
      rw [hN.2.1 j hj]
      repeat refine hX _ _ _ _ _ _ _ _ _ _ _ _ _ _ rfl ?_
      exact ⟨rfl, rfl⟩
    · subst hw
      repeat refine hX _ _ _ _ _ _ _ _ _ _ _ _ _ _ rfl ?_
      rw [show (4 : Int32) + nI j = nI (4 + j) from nI_add 4 j]
      refine ⟨vp_in_nI (by omega) (by decide), ?_⟩
      rw [nI_clamp (by omega)]
      rw [(g5 j hj).1]
      repeat refine hX _ _ _ _ _ _ _ _ _ _ _ _ _ _ rfl ?_
      exact ⟨rfl, rfl⟩
    · subst hw
      repeat refine hX _ _ _ _ _ _ _ _ _ _ _ _ _ _ rfl ?_
      rw [show (10 : Int32) + nI j = nI (10 + j) from nI_add 10 j]
      refine ⟨vp_in_nI (by omega) (by decide), ?_⟩
      rw [nI_clamp (by omega)]
      rw [(g5 j hj).2]
      repeat refine hX _ _ _ _ _ _ _ _ _ _ _ _ _ _ rfl ?_
      exact ⟨rfl, rfl⟩
    · subst hw
      repeat refine hX _ _ _ _ _ _ _ _ _ _ _ _ _ _ rfl ?_
      refine Or.inl ⟨_, _, hwr j hj, ?_⟩
      repeat refine hX _ _ _ _ _ _ _ _ _ _ _ _ _ _ rfl ?_
      exact ⟨rfl, rfl⟩
    · subst hw
      repeat refine hX _ _ _ _ _ _ _ _ _ _ _ _ _ _ rfl ?_
      refine Or.inl ⟨_, _, hpu j hj, ?_⟩
      repeat refine hX _ _ _ _ _ _ _ _ _ _ _ _ _ _ rfl ?_
      exact ⟨rfl, rfl⟩
    · subst hw
      repeat refine hX _ _ _ _ _ _ _ _ _ _ _ _ _ _ rfl ?_
      refine ⟨vp_in_nI (by omega) (by decide), ?_⟩
      rw [nI_clamp (by omega)]
      rw [hN.2.1 j hj]
      repeat refine hX _ _ _ _ _ _ _ _ _ _ _ _ _ _ rfl ?_
      refine Or.inl ⟨_, _, hof j hj _ (by omega), ?_⟩
      repeat refine hX _ _ _ _ _ _ _ _ _ _ _ _ _ _ rfl ?_
      exact ⟨rfl, rfl⟩
    · subst hw
      repeat refine hX _ _ _ _ _ _ _ _ _ _ _ _ _ _ rfl ?_
      refine Or.inl ⟨_, _, hpl j hj, ?_⟩
      repeat refine hX _ _ _ _ _ _ _ _ _ _ _ _ _ _ rfl ?_
      exact ⟨rfl, rfl⟩
    · repeat refine hX _ _ _ _ _ _ _ _ _ _ _ _ _ _ rfl ?_
      exact ⟨by simp only [sel]; rw [if_neg h0, if_neg h1, if_neg h2, if_neg h3, if_neg h4, if_neg h5, if_neg h6], rfl⟩
theorem nI_b2i (b : Bool) : nI b.toNat = b2i b := by cases b <;> rfl
theorem m_one (S : zS) (d : Nat) (hc : List zC) (m : mS) {A : aT} {N : aN} (hA : TWf A) (hT : MTold (mTold m) A) (hW : NWf A N) (hN : MRow A (mNow m) 0 N) (s w : Int32) : Ex S (d + 3) 0 0 120 [.ref 1000, .int s, .int w] (hc, hM m) (some (.int (spOne A N s w))) (hc, hM m) := by
  have hnp := hA.2.2.2.2.1
  have hst := m_isOne S d hc m hA hT s
  have g6 := hT.2.2.2.2.2
  have hco := nCo_lt hA hW
  have hN := MRow_0 hN
  unfold spOne
  cases hin : inb s (aNp A) with
  | false =>
    rw [hin] at hst
    (refine exI rfl rfl ?_; intro X hX)
    repeat refine hX _ _ _ _ _ _ _ _ _ _ _ _ _ _ rfl ?_
    refine Or.inl ⟨_, _, hst, ?_⟩
    repeat refine hX _ _ _ _ _ _ _ _ _ _ _ _ _ _ rfl ?_
    refine br_f (show ¬ ¬ b2i false = 0 by decide) ?_
    repeat refine hX _ _ _ _ _ _ _ _ _ _ _ _ _ _ rfl ?_
    exact ⟨rfl, rfl⟩
  | true =>
    rw [hin] at hst
    obtain ⟨j, hj, rfl⟩ := inb_of hin (by omega)
    simp only [cond_true, nI_clamp (show j < 2 ^ 31 by omega)]
    (refine exI rfl rfl ?_; intro X hX)
    repeat refine hX _ _ _ _ _ _ _ _ _ _ _ _ _ _ rfl ?_
    refine Or.inl ⟨_, _, hst, ?_⟩
    repeat refine hX _ _ _ _ _ _ _ _ _ _ _ _ _ _ rfl ?_
    refine br_t (show ¬ b2i true = 0 by decide) ?_
    repeat refine hX _ _ _ _ _ _ _ _ _ _ _ _ _ _ rfl ?_
    refine ⟨fun hw => ?_, fun h0 => ⟨fun hw => ?_, fun h1 => ⟨fun hw => ?_, fun h2 => ⟨fun hw => ?_, fun h3 => ⟨fun hw => ?_, fun h4 => ⟨fun hw => ?_, fun h5 => ?_⟩⟩⟩⟩⟩⟩
    · subst hw
      repeat refine hX _ _ _ _ _ _ _ _ _ _ _ _ _ _ rfl ?_
      rw [show (16 : Int32) + nI j = nI (16 + j) from nI_add 16 j]
      refine ⟨vp_in_nI (by omega) (by decide), ?_⟩
      rw [nI_clamp (by omega)]
      rw [(g6 j hj).1]
      repeat refine hX _ _ _ _ _ _ _ _ _ _ _ _ _ _ rfl ?_
      exact ⟨rfl, rfl⟩
    · subst hw
      repeat refine hX _ _ _ _ _ _ _ _ _ _ _ _ _ _ rfl ?_
      rw [show (22 : Int32) + nI j = nI (22 + j) from nI_add 22 j]
      refine ⟨vp_in_nI (by omega) (by decide), ?_⟩
      rw [nI_clamp (by omega)]
      rw [(g6 j hj).2.1]
      repeat refine hX _ _ _ _ _ _ _ _ _ _ _ _ _ _ rfl ?_
      exact ⟨rfl, rfl⟩
    · subst hw
      repeat refine hX _ _ _ _ _ _ _ _ _ _ _ _ _ _ rfl ?_
      rw [show (28 : Int32) + nI j = nI (28 + j) from nI_add 28 j]
      refine ⟨vp_in_nI (by omega) (by decide), ?_⟩
      rw [nI_clamp (by omega)]
      rw [(g6 j hj).2.2.1]
      repeat refine hX _ _ _ _ _ _ _ _ _ _ _ _ _ _ rfl ?_
      exact ⟨rfl, rfl⟩
    · subst hw
      repeat refine hX _ _ _ _ _ _ _ _ _ _ _ _ _ _ rfl ?_
      rw [show (34 : Int32) + nI j = nI (34 + j) from nI_add 34 j]
      refine ⟨vp_in_nI (by omega) (by decide), ?_⟩
      rw [nI_clamp (by omega)]
      rw [(g6 j hj).2.2.2]
      repeat refine hX _ _ _ _ _ _ _ _ _ _ _ _ _ _ rfl ?_
      exact ⟨rfl, rfl⟩
    · subst hw
      repeat refine hX _ _ _ _ _ _ _ _ _ _ _ _ _ _ rfl ?_
      refine ⟨by unfold vp_in; decide, ?_⟩
      rw [show (6 : Int32).toNatClampNeg = 6 from rfl]
      rw [hN.1]
      repeat refine hX _ _ _ _ _ _ _ _ _ _ _ _ _ _ rfl ?_
      exact ⟨by simp only [sel]; rw [q_shr1 _ hco j (by omega), nI_b2i]; rfl, rfl⟩
    · subst hw
      repeat refine hX _ _ _ _ _ _ _ _ _ _ _ _ _ _ rfl ?_
      rw [show (7 : Int32) + nI j = nI (7 + j) from nI_add 7 j]
      refine ⟨vp_in_nI (by omega) (by decide), ?_⟩
      rw [nI_clamp (by omega)]
      rw [(hN.2.2 j hj).1]
      repeat refine hX _ _ _ _ _ _ _ _ _ _ _ _ _ _ rfl ?_
      exact ⟨rfl, rfl⟩
    · repeat refine hX _ _ _ _ _ _ _ _ _ _ _ _ _ _ rfl ?_
      exact ⟨by simp only [sel]; rw [if_neg h0, if_neg h1, if_neg h2, if_neg h3, if_neg h4, if_neg h5], rfl⟩
theorem m_now (S : zS) (d : Nat) (hc : List zC) (m : mS) {a : aS} (hA : AWf a) (hR : MRel m a) (w : Int32) : Ex S (d + 6) 0 0 121 [.ref 1000, .int w] (hc, hM m) (some (.int (spNow a w))) (hc, hM m) := by
  have hns := hA.1.2.2.2.1
  have hny := hA.1.2.1
  have hmv := fun j (hj : j < aNs (sT a)) => m_moves S d hc m hA.1 hR.1 hA.2.1 hR.2.1 hj
  have hsi := fun y => m_statueIn S (d + 4) hc m hA.1 hR.1 hA.2.1 hR.2.1 y
  have g0 := hR.1.1
  have g1 := hR.1.2.1
  have gu := hR.2.2.2.1.1
  have hN := MRow_0 hR.2.1
  unfold spNow
  (refine exI rfl rfl ?_; intro X hX)
  have loop1 : ∀ (k j : Nat), j + k = aNs (sT a) → w = 1 → X 42 [some (.ref 1000), some (.int w), some (.int (nI (nmask j (aMov (sT a) (sN a))))), some (.int (nI j))] [] (hc, hM m) 0 0 := by
    intro k
    induction k with
    | zero =>
      intro j hj hw
      repeat refine hX _ _ _ _ _ _ _ _ _ _ _ _ _ _ rfl ?_
      refine ⟨by unfold vp_in; decide, ?_⟩
      rw [show (1 : Int32).toNatClampNeg = 1 from rfl]
      rw [g1]
      repeat refine hX _ _ _ _ _ _ _ _ _ _ _ _ _ _ rfl ?_
      refine br_t (show nI (aNs (sT a)) ≤ nI j from nI_le (by omega) (by omega)) ?_
      repeat refine hX _ _ _ _ _ _ _ _ _ _ _ _ _ _ rfl ?_
      exact ⟨by rw [hw, show j = aNs (sT a) by omega]; rfl, rfl⟩
    | succ k ih =>
      intro j hj hw
      repeat refine hX _ _ _ _ _ _ _ _ _ _ _ _ _ _ rfl ?_
      refine ⟨by unfold vp_in; decide, ?_⟩
      rw [show (1 : Int32).toNatClampNeg = 1 from rfl]
      rw [g1]
      repeat refine hX _ _ _ _ _ _ _ _ _ _ _ _ _ _ rfl ?_
      refine br_f (show ¬ nI (aNs (sT a)) ≤ nI j from nI_ge (by omega) (by omega)) ?_
      repeat refine hX _ _ _ _ _ _ _ _ _ _ _ _ _ _ rfl ?_
      refine Or.inl ⟨_, _, hmv j (by omega), ?_⟩
      repeat refine hX _ _ _ _ _ _ _ _ _ _ _ _ _ _ rfl ?_
      have h7 := ih (j + 1) (by omega) hw
      rw [nmask] at h7
      cases hb : aMov (sT a) (sN a) j with
      | false =>
        refine br_t (show b2i false = 0 from rfl) ?_
        iterate 5 (refine hX _ _ _ _ _ _ _ _ _ _ _ _ _ _ rfl ?_)
        rw [nI_1, show nI (nmask j (aMov (sT a) (sN a))) ||| 0 = nI (nmask j (aMov (sT a) (sN a))) from Int32.or_zero]
        rw [hb] at h7
        exact h7
      | true =>
        refine br_f (show ¬ b2i true = 0 by decide) ?_
        iterate 8 (refine hX _ _ _ _ _ _ _ _ _ _ _ _ _ _ rfl ?_)
        rw [nI_1, q_shl j (by omega), nI_or, nmask_set]
        rw [hb] at h7
        exact h7
  have loop2 : ∀ (k j : Nat), j + k = aNy (sT a) → w = 2 → X 80 [some (.ref 1000), some (.int w), some (.int (nI (nmask j (fun y => decide (aSin (sT a) (sN a) (nI y) = -9))))), some (.int (nI j))] [] (hc, hM m) 0 0 := by
    intro k
    induction k with
    | zero =>
      intro j hj hw
      repeat refine hX _ _ _ _ _ _ _ _ _ _ _ _ _ _ rfl ?_
      refine ⟨by unfold vp_in; decide, ?_⟩
      rw [show (0 : Int32).toNatClampNeg = 0 from rfl]
      rw [g0]
      repeat refine hX _ _ _ _ _ _ _ _ _ _ _ _ _ _ rfl ?_
      refine br_t (show nI (aNy (sT a)) ≤ nI j from nI_le (by omega) (by omega)) ?_
      repeat refine hX _ _ _ _ _ _ _ _ _ _ _ _ _ _ rfl ?_
      exact ⟨by rw [hw, show j = aNy (sT a) by omega]; rfl, rfl⟩
    | succ k ih =>
      intro j hj hw
      repeat refine hX _ _ _ _ _ _ _ _ _ _ _ _ _ _ rfl ?_
      refine ⟨by unfold vp_in; decide, ?_⟩
      rw [show (0 : Int32).toNatClampNeg = 0 from rfl]
      rw [g0]
      repeat refine hX _ _ _ _ _ _ _ _ _ _ _ _ _ _ rfl ?_
      refine br_f (show ¬ nI (aNy (sT a)) ≤ nI j from nI_ge (by omega) (by omega)) ?_
      repeat refine hX _ _ _ _ _ _ _ _ _ _ _ _ _ _ rfl ?_
      refine Or.inl ⟨_, _, hsi (nI j), ?_⟩
      repeat refine hX _ _ _ _ _ _ _ _ _ _ _ _ _ _ rfl ?_
      have h7 := ih (j + 1) (by omega) hw
      rw [nmask] at h7
      by_cases hb : aSin (sT a) (sN a) (nI j) = -9
      · refine br_f (show ¬ ¬ aSin (sT a) (sN a) (nI j) = -9 from fun h => h hb) ?_
        iterate 8 (refine hX _ _ _ _ _ _ _ _ _ _ _ _ _ _ rfl ?_)
        rw [nI_1, q_shl j (by omega), nI_or, nmask_set]
        rw [decide_eq_true hb] at h7
        exact h7
      · refine br_t (show ¬ aSin (sT a) (sN a) (nI j) = -9 from hb) ?_
        iterate 5 (refine hX _ _ _ _ _ _ _ _ _ _ _ _ _ _ rfl ?_)
        rw [nI_1, show nI (nmask j (fun y => decide (aSin (sT a) (sN a) (nI y) = -9))) ||| 0 = nI (nmask j (fun y => decide (aSin (sT a) (sN a) (nI y) = -9))) from Int32.or_zero]
        rw [decide_eq_false hb] at h7
        exact h7
  repeat refine hX _ _ _ _ _ _ _ _ _ _ _ _ _ _ rfl ?_
  refine ⟨fun hw => ?_, fun h0 => ⟨fun hw => ?_, fun h1 => ⟨fun hw => ?_, fun h2 => ⟨fun hw => ?_, fun h3 => ?_⟩⟩⟩⟩
  · repeat refine hX _ _ _ _ _ _ _ _ _ _ _ _ _ _ rfl ?_
    refine ⟨by unfold vp_in; decide, ?_⟩
    rw [show (6 : Int32).toNatClampNeg = 6 from rfl]
    rw [hN.1]
    repeat refine hX _ _ _ _ _ _ _ _ _ _ _ _ _ _ rfl ?_
    exact ⟨by rw [hw]; rfl, rfl⟩
  · iterate 2 (refine hX _ _ _ _ _ _ _ _ _ _ _ _ _ _ rfl ?_)
    exact loop1 (aNs (sT a)) 0 (by omega) hw
  · iterate 2 (refine hX _ _ _ _ _ _ _ _ _ _ _ _ _ _ rfl ?_)
    exact loop2 (aNy (sT a)) 0 (by omega) hw
  · repeat refine hX _ _ _ _ _ _ _ _ _ _ _ _ _ _ rfl ?_
    rw [gu]
    exact ⟨by rw [hw]; rfl, rfl⟩
  · repeat refine hX _ _ _ _ _ _ _ _ _ _ _ _ _ _ rfl ?_
    exact ⟨by simp only [sel]; rw [if_neg h0, if_neg h1, if_neg h2, if_neg h3], rfl⟩
theorem m_offends (S : zS) (d : Nat) (hc : List zC) (m : mS) {A : aT} {N : aN} (hA : TWf A) (hT : MTold (mTold m) A) (hW : NWf A N) (hN : MRow A (mNow m) 0 N) (s y : Int32) : Ex S (d + 5) 0 0 133 [.ref 1000, .int s, .int y] (hc, hM m) (some (.int (spOffends A N s y))) (hc, hM m) := by
  have hns := hA.2.2.2.1
  have hny := hA.2.1
  have hst := m_isStatue S (d + 2) hc m hA hT s
  have hya := m_isYard S (d + 2) hc m hA hT y
  have hof := fun j (hj : j < aNs A) y (hy : y < 10) => m_offended S d hc m hA hT hW hN hj hy
  unfold spOffends
  cases hin : inb s (aNs A) with
  | false =>
    rw [hin] at hst
    (refine exI rfl rfl ?_; intro X hX)
    repeat refine hX _ _ _ _ _ _ _ _ _ _ _ _ _ _ rfl ?_
    refine Or.inl ⟨_, _, hst, ?_⟩
    repeat refine hX _ _ _ _ _ _ _ _ _ _ _ _ _ _ rfl ?_
    refine br_t (show b2i false = 0 from rfl) ?_
    repeat refine hX _ _ _ _ _ _ _ _ _ _ _ _ _ _ rfl ?_
    exact ⟨rfl, rfl⟩
  | true =>
    rw [hin] at hst
    obtain ⟨j, hj, rfl⟩ := inb_of hin (by omega)
    cases hiy : inb y (aNy A) with
    | false =>
      rw [hiy] at hya
      (refine exI rfl rfl ?_; intro X hX)
      repeat refine hX _ _ _ _ _ _ _ _ _ _ _ _ _ _ rfl ?_
      refine Or.inl ⟨_, _, hst, ?_⟩
      repeat refine hX _ _ _ _ _ _ _ _ _ _ _ _ _ _ rfl ?_
      refine br_f (show ¬ b2i true = 0 by decide) ?_
      repeat refine hX _ _ _ _ _ _ _ _ _ _ _ _ _ _ rfl ?_
      refine Or.inl ⟨_, _, hya, ?_⟩
      repeat refine hX _ _ _ _ _ _ _ _ _ _ _ _ _ _ rfl ?_
      refine br_t (show b2i false = 0 from rfl) ?_
      repeat refine hX _ _ _ _ _ _ _ _ _ _ _ _ _ _ rfl ?_
      exact ⟨rfl, rfl⟩
    | true =>
      rw [hiy] at hya
      obtain ⟨z, hz, rfl⟩ := inb_of hiy (by omega)
      simp only [cond_true, Bool.and_self, nI_clamp (show j < 2 ^ 31 by omega), nI_clamp (show z < 2 ^ 31 by omega)]
      (refine exI rfl rfl ?_; intro X hX)
      repeat refine hX _ _ _ _ _ _ _ _ _ _ _ _ _ _ rfl ?_
      refine Or.inl ⟨_, _, hst, ?_⟩
      repeat refine hX _ _ _ _ _ _ _ _ _ _ _ _ _ _ rfl ?_
      refine br_f (show ¬ b2i true = 0 by decide) ?_
      repeat refine hX _ _ _ _ _ _ _ _ _ _ _ _ _ _ rfl ?_
      refine Or.inl ⟨_, _, hya, ?_⟩
      repeat refine hX _ _ _ _ _ _ _ _ _ _ _ _ _ _ rfl ?_
      refine br_f (show ¬ b2i true = 0 by decide) ?_
      repeat refine hX _ _ _ _ _ _ _ _ _ _ _ _ _ _ rfl ?_
      refine Or.inl ⟨_, _, hof j hj z (by omega), ?_⟩
      repeat refine hX _ _ _ _ _ _ _ _ _ _ _ _ _ _ rfl ?_
      exact ⟨rfl, rfl⟩
theorem m_count (S : zS) (d : Nat) (hc : List zC) (m : mS) {a : aS} (hR : MRel m a) (w : Int32) : Ex S (d + 1) 0 0 148 [.ref 1000, .int w] (hc, hM m) (some (.int (spCount a w))) (hc, hM m) := by
  obtain ⟨⟨g0, g1, g2, g3, -, -⟩, -, ⟨g5, -⟩, -, -, ⟨g6, -⟩, -⟩ := hR
  unfold spCount
  (refine exI rfl rfl ?_; intro X hX)
  repeat refine hX _ _ _ _ _ _ _ _ _ _ _ _ _ _ rfl ?_
  refine ⟨fun hw => ?_, fun h0 => ⟨fun hw => ?_, fun h1 => ⟨fun hw => ?_, fun h2 => ⟨fun hw => ?_, fun h3 => ⟨fun hw => ?_, fun h4 => ⟨fun hw => ?_, fun h5 => ?_⟩⟩⟩⟩⟩⟩
  · subst hw
    repeat refine hX _ _ _ _ _ _ _ _ _ _ _ _ _ _ rfl ?_
    refine ⟨by unfold vp_in; decide, ?_⟩
    rw [show (0 : Int32).toNatClampNeg = 0 from rfl]
    rw [g0]
    repeat refine hX _ _ _ _ _ _ _ _ _ _ _ _ _ _ rfl ?_
    exact ⟨rfl, rfl⟩
  · subst hw
    repeat refine hX _ _ _ _ _ _ _ _ _ _ _ _ _ _ rfl ?_
    refine ⟨by unfold vp_in; decide, ?_⟩
    rw [show (1 : Int32).toNatClampNeg = 1 from rfl]
    rw [g1]
    repeat refine hX _ _ _ _ _ _ _ _ _ _ _ _ _ _ rfl ?_
    exact ⟨rfl, rfl⟩
  · subst hw
    repeat refine hX _ _ _ _ _ _ _ _ _ _ _ _ _ _ rfl ?_
    refine ⟨by unfold vp_in; decide, ?_⟩
    rw [show (2 : Int32).toNatClampNeg = 2 from rfl]
    rw [g2]
    repeat refine hX _ _ _ _ _ _ _ _ _ _ _ _ _ _ rfl ?_
    exact ⟨rfl, rfl⟩
  · subst hw
    repeat refine hX _ _ _ _ _ _ _ _ _ _ _ _ _ _ rfl ?_
    refine ⟨by unfold vp_in; decide, ?_⟩
    rw [show (3 : Int32).toNatClampNeg = 3 from rfl]
    rw [g3]
    repeat refine hX _ _ _ _ _ _ _ _ _ _ _ _ _ _ rfl ?_
    exact ⟨rfl, rfl⟩
  · subst hw
    repeat refine hX _ _ _ _ _ _ _ _ _ _ _ _ _ _ rfl ?_
    rw [g6]
    exact ⟨rfl, rfl⟩
  · subst hw
    repeat refine hX _ _ _ _ _ _ _ _ _ _ _ _ _ _ rfl ?_
    rw [g5]
    exact ⟨rfl, rfl⟩
  · repeat refine hX _ _ _ _ _ _ _ _ _ _ _ _ _ _ rfl ?_
    exact ⟨by simp only [sel]; rw [if_neg h0, if_neg h1, if_neg h2, if_neg h3, if_neg h4, if_neg h5], rfl⟩
theorem m_trace (S : zS) (d : Nat) (hc : List zC) (m : mS) {a : aS} (hR : MRel m a) : Ex S (d + 1) 0 0 149 [.ref 1000] (hc, hM m) (some (.long (sTr a))) (hc, hM m) := by
  obtain ⟨-, -, -, -, -, -, hr⟩ := hR
  (refine exI rfl rfl ?_; intro X hX)
  repeat refine hX _ _ _ _ _ _ _ _ _ _ _ _ _ _ rfl ?_
  rw [hr]
  exact ⟨rfl, rfl⟩
end
section
/-! ===== the reference: text, what was seen, who, kinds ===== -/
theorem m_type (S : zS) (d : Nat) (hc : List zC) (m : mS) {a : aS} (hA : AWf a) (hR : MRel m a) (x : Int32) : ∃ m', Ex S (d + 2) 0 0 94 [.ref 1000, .int x] (hc, hM m) (some (.int (spType a x).1)) (hc, hM m') ∧ MRel m' (spType a x).2 := by
  obtain ⟨hle, htx⟩ := hA.2.2.1
  obtain ⟨hlt, htt⟩ := hR.2.2.1
  have hin64 := fun h => m_in S d h x.toInt64 0 (lN 255)
  rw [in64c x (by decide)] at hin64
  unfold spType
  cases hin : inb x 256 with
  | false =>
    rw [hin] at hin64
    refine ⟨m, ?_, hR⟩
    (refine exI rfl rfl ?_; intro X hX)
    repeat refine hX _ _ _ _ _ _ _ _ _ _ _ _ _ _ rfl ?_
    refine Or.inl ⟨_, _, hin64 _, ?_⟩
    repeat refine hX _ _ _ _ _ _ _ _ _ _ _ _ _ _ rfl ?_
    refine br_f (show ¬ ¬ b2i false = 0 by decide) ?_
    repeat refine hX _ _ _ _ _ _ _ _ _ _ _ _ _ _ rfl ?_
    exact ⟨rfl, rfl⟩
  | true =>
    rw [hin] at hin64
    obtain ⟨j, hj, rfl⟩ := inb_of hin (by decide)
    simp only [cond_true, nI_clamp (show j < 2 ^ 31 by omega)]
    by_cases h150 : sLen a = 150
    · rw [if_pos h150]
      refine ⟨m, ?_, hR⟩
      (refine exI rfl rfl ?_; intro X hX)
      repeat refine hX _ _ _ _ _ _ _ _ _ _ _ _ _ _ rfl ?_
      refine Or.inl ⟨_, _, hin64 _, ?_⟩
      repeat refine hX _ _ _ _ _ _ _ _ _ _ _ _ _ _ rfl ?_
      refine br_t (show ¬ b2i true = 0 by decide) ?_
      repeat refine hX _ _ _ _ _ _ _ _ _ _ _ _ _ _ rfl ?_
      rw [hlt, h150]
      refine br_f (show ¬ ¬ nI 150 = 150 by decide) ?_
      repeat refine hX _ _ _ _ _ _ _ _ _ _ _ _ _ _ rfl ?_
      exact ⟨rfl, rfl⟩
    · rw [if_neg h150]
      refine ⟨s_mLength (s_mText m (upd (mText m) (sLen a) (nI j))) (nI (sLen a + 1)), ?_, ⟨hR.1, hR.2.1, ⟨rfl, fun i hi => ?_⟩, hR.2.2.2.1, hR.2.2.2.2.1, hR.2.2.2.2.2.1, hR.2.2.2.2.2.2⟩⟩
      rotate_left
      · show upd (mText m) (sLen a) (nI j) i = nI (aup (sTx a) (sLen a) j i)
        by_cases hi2 : i = sLen a
        · rw [hi2, pk_us, aup_s]
        · have hi3 : i < sLen a + 1 := hi
          rw [pk_un hi2, aup_n _ _ hi2, htt i (by omega)]
      · (refine exI rfl rfl ?_; intro X hX)
        repeat refine hX _ _ _ _ _ _ _ _ _ _ _ _ _ _ rfl ?_
        refine Or.inl ⟨_, _, hin64 _, ?_⟩
        repeat refine hX _ _ _ _ _ _ _ _ _ _ _ _ _ _ rfl ?_
        refine br_t (show ¬ b2i true = 0 by decide) ?_
        repeat refine hX _ _ _ _ _ _ _ _ _ _ _ _ _ _ rfl ?_
        rw [hlt]
        refine br_t (show ¬ nI (sLen a) = nI 150 from fun h => h150 ((nI_eq (by omega) (by decide)).mp h)) ?_
        repeat refine hX _ _ _ _ _ _ _ _ _ _ _ _ _ _ rfl ?_
        rw [hlt]
        refine ⟨vp_in_nI (by omega) (by decide), ?_⟩
        rw [nI_clamp (by omega)]
        repeat refine hX _ _ _ _ _ _ _ _ _ _ _ _ _ _ rfl ?_
        rw [hlt, nI_1]
        exact ⟨rfl, rfl⟩
theorem m_clear (S : zS) (d : Nat) (hc : List zC) (m : mS) {a : aS} (hR : MRel m a) : ∃ m', Ex S (d + 1) 0 0 95 [.ref 1000] (hc, hM m) (some (.int (spClear a).1)) (hc, hM m') ∧ MRel m' (spClear a).2 := by
  obtain ⟨hlt, htt⟩ := hR.2.2.1
  refine ⟨s_mLength m 0, ?_, ⟨hR.1, hR.2.1, ⟨rfl, fun i hi => absurd hi (Nat.not_lt_zero i)⟩, hR.2.2.2.1, hR.2.2.2.2.1, hR.2.2.2.2.2.1, hR.2.2.2.2.2.2⟩⟩
  (refine exI rfl rfl ?_; intro X hX)
  repeat refine hX _ _ _ _ _ _ _ _ _ _ _ _ _ _ rfl ?_
  rw [hlt]
  exact ⟨rfl, rfl⟩
theorem m_forget (S : zS) (d : Nat) (hc : List zC) (m : mS) {a : aS} (hR : MRel m a) : ∃ m', Ex S (d + 1) 0 0 136 [.ref 1000] (hc, hM m) (some (.int (spForget a).1)) (hc, hM m') ∧ MRel m' (spForget a).2 := by
  obtain ⟨hq, -⟩ := hR.2.2.2.2.2.1
  refine ⟨s_mSeen m 0, ?_, ⟨hR.1, hR.2.1, hR.2.2.1, hR.2.2.2.1, hR.2.2.2.2.1, ⟨rfl, fun i hi => absurd hi (Nat.not_lt_zero i)⟩, hR.2.2.2.2.2.2⟩⟩
  (refine exI rfl rfl ?_; intro X hX)
  repeat refine hX _ _ _ _ _ _ _ _ _ _ _ _ _ _ rfl ?_
  rw [hq]
  exact ⟨rfl, rfl⟩
theorem m_sees (S : zS) (d : Nat) (hc : List zC) (m : mS) {a : aS} (hA : AWf a) (hR : MRel m a) (s w : Int32) : ∃ m', Ex S (d + 3) 0 0 135 [.ref 1000, .int s, .int w] (hc, hM m) (some (.int (spSees a s w).1)) (hc, hM m') ∧ MRel m' (spSees a s w).2 := by
  have hns := hA.1.2.2.2.1
  obtain ⟨hq6, hqq⟩ := hA.2.2.2.2.2
  obtain ⟨hq, hsq⟩ := hR.2.2.2.2.2.1
  have hst := m_isStatue S d hc m hA.1 hR.1 s
  have hin64 := fun h => m_in S (d + 1) h w.toInt64 0 (lN 1)
  rw [in64c w (by decide)] at hin64
  unfold spSees
  cases hin : inb s (aNs (sT a)) with
  | false =>
    rw [hin] at hst
    refine ⟨m, ?_, hR⟩
    (refine exI rfl rfl ?_; intro X hX)
    repeat refine hX _ _ _ _ _ _ _ _ _ _ _ _ _ _ rfl ?_
    refine Or.inl ⟨_, _, hst, ?_⟩
    repeat refine hX _ _ _ _ _ _ _ _ _ _ _ _ _ _ rfl ?_
    refine br_t (show b2i false = 0 from rfl) ?_
    repeat refine hX _ _ _ _ _ _ _ _ _ _ _ _ _ _ rfl ?_
    exact ⟨rfl, rfl⟩
  | true =>
    rw [hin] at hst
    obtain ⟨j, hj, rfl⟩ := inb_of hin (by omega)
    cases hiw : inb w 2 with
    | false =>
      rw [hiw] at hin64
      refine ⟨m, ?_, hR⟩
      (refine exI rfl rfl ?_; intro X hX)
      repeat refine hX _ _ _ _ _ _ _ _ _ _ _ _ _ _ rfl ?_
      refine Or.inl ⟨_, _, hst, ?_⟩
      repeat refine hX _ _ _ _ _ _ _ _ _ _ _ _ _ _ rfl ?_
      refine br_f (show ¬ b2i true = 0 by decide) ?_
      repeat refine hX _ _ _ _ _ _ _ _ _ _ _ _ _ _ rfl ?_
      refine Or.inl ⟨_, _, hin64 _, ?_⟩
      repeat refine hX _ _ _ _ _ _ _ _ _ _ _ _ _ _ rfl ?_
      refine br_f (show ¬ ¬ b2i false = 0 by decide) ?_
      repeat refine hX _ _ _ _ _ _ _ _ _ _ _ _ _ _ rfl ?_
      exact ⟨rfl, rfl⟩
    | true =>
      rw [hiw] at hin64
      obtain ⟨z, hz, rfl⟩ := inb_of hiw (by decide)
      simp only [cond_true, Bool.and_self, nI_clamp (show j < 2 ^ 31 by omega), nI_clamp (show z < 2 ^ 31 by omega)]
      by_cases h6 : sQ a = 6
      · rw [if_pos h6]
        refine ⟨m, ?_, hR⟩
        (refine exI rfl rfl ?_; intro X hX)
        repeat refine hX _ _ _ _ _ _ _ _ _ _ _ _ _ _ rfl ?_
        refine Or.inl ⟨_, _, hst, ?_⟩
        repeat refine hX _ _ _ _ _ _ _ _ _ _ _ _ _ _ rfl ?_
        refine br_f (show ¬ b2i true = 0 by decide) ?_
        repeat refine hX _ _ _ _ _ _ _ _ _ _ _ _ _ _ rfl ?_
        refine Or.inl ⟨_, _, hin64 _, ?_⟩
        repeat refine hX _ _ _ _ _ _ _ _ _ _ _ _ _ _ rfl ?_
        refine br_t (show ¬ b2i true = 0 by decide) ?_
        repeat refine hX _ _ _ _ _ _ _ _ _ _ _ _ _ _ rfl ?_
        rw [hq, h6]
        refine br_f (show ¬ ¬ nI 6 = 6 by decide) ?_
        repeat refine hX _ _ _ _ _ _ _ _ _ _ _ _ _ _ rfl ?_
        exact ⟨rfl, rfl⟩
      · rw [if_neg h6]
        refine ⟨s_mSeen (s_mSeenIs (s_mSeenOf m (upd (mSeenOf m) (sQ a) (nI j))) (upd (mSeenIs m) (sQ a) (nI z))) (nI (sQ a + 1)), ?_, ⟨hR.1, hR.2.1, hR.2.2.1, hR.2.2.2.1, hR.2.2.2.2.1, ⟨rfl, fun i hi => ?_⟩, hR.2.2.2.2.2.2⟩⟩
        rotate_left
        · show upd (mSeenOf m) (sQ a) (nI j) i = nI (aup (sOf a) (sQ a) j i) ∧ upd (mSeenIs m) (sQ a) (nI z) i = nI (aup (sIs a) (sQ a) z i)
          by_cases hi2 : i = sQ a
          · rw [hi2, pk_us, pk_us, aup_s, aup_s]; exact ⟨rfl, rfl⟩
          · have hi3 : i < sQ a + 1 := hi
            rw [pk_un hi2, pk_un hi2, aup_n _ _ hi2, aup_n _ _ hi2]
            exact hsq i (by omega)
        · (refine exI rfl rfl ?_; intro X hX)
          repeat refine hX _ _ _ _ _ _ _ _ _ _ _ _ _ _ rfl ?_
          refine Or.inl ⟨_, _, hst, ?_⟩
          repeat refine hX _ _ _ _ _ _ _ _ _ _ _ _ _ _ rfl ?_
          refine br_f (show ¬ b2i true = 0 by decide) ?_
          repeat refine hX _ _ _ _ _ _ _ _ _ _ _ _ _ _ rfl ?_
          refine Or.inl ⟨_, _, hin64 _, ?_⟩
          repeat refine hX _ _ _ _ _ _ _ _ _ _ _ _ _ _ rfl ?_
          refine br_t (show ¬ b2i true = 0 by decide) ?_
          repeat refine hX _ _ _ _ _ _ _ _ _ _ _ _ _ _ rfl ?_
          rw [hq]
          refine br_t (show ¬ nI (sQ a) = nI 6 from fun h => h6 ((nI_eq (by omega) (by decide)).mp h)) ?_
          repeat refine hX _ _ _ _ _ _ _ _ _ _ _ _ _ _ rfl ?_
          rw [hq]
          refine ⟨vp_in_nI (by omega) (by decide), ?_⟩
          rw [nI_clamp (by omega)]
          repeat refine hX _ _ _ _ _ _ _ _ _ _ _ _ _ _ rfl ?_
          rw [hq]
          refine ⟨vp_in_nI (by omega) (by decide), ?_⟩
          rw [nI_clamp (by omega)]
          repeat refine hX _ _ _ _ _ _ _ _ _ _ _ _ _ _ rfl ?_
          exact ⟨by rw [hq, nI_1], by rw [hq, nI_1]; rfl⟩
theorem m_who (S : zS) (d : Nat) (hc : List zC) (m : mS) {a : aS} (hA : AWf a) (hR : MRel m a) : Ex S (d + 4) 0 0 137 [.ref 1000] (hc, hM m) (some (.int (nI (spWho a)))) (hc, hM m) := by
  have hnp := hA.1.2.2.2.2.1
  have hns := hA.1.2.2.2.1
  obtain ⟨hq6, hqq⟩ := hA.2.2.2.2.2
  obtain ⟨hq, hsq⟩ := hR.2.2.2.2.2.1
  have hp := hR.1.2.2.1
  have hwr := fun j (hj : j < aNs (sT a)) => m_wronged S d hc m hA.1 hR.1 hA.2.1 hR.2.1 hj
  have hwl := fun j => aWr_lt hA.1 (sN a) j
  have hol := fun k => aWho_lt hA.1 (sN a) (sOf a) (sIs a) k
  (refine exI rfl rfl ?_; intro X hX)
  have loop : ∀ (k i : Nat) (v : Option Value), i + k = sQ a → (v = none ∨ ∃ z, v = some (.int z)) → X 13 [some (.ref 1000), some (.int (nI (aWho (sT a) (sN a) (sOf a) (sIs a) i))), some (.int (nI i)), v] [] (hc, hM m) 0 0 := by
    intro k
    induction k with
    | zero =>
      intro i v hi hv
      repeat refine hX _ _ _ _ _ _ _ _ _ _ _ _ _ _ rfl ?_
      rw [hq]
      refine br_t (show nI (sQ a) ≤ nI i from nI_le (by omega) (by omega)) ?_
      repeat refine hX _ _ _ _ _ _ _ _ _ _ _ _ _ _ rfl ?_
      exact ⟨by rw [show i = sQ a by omega], rfl⟩
    | succ k ih =>
      intro i v hi hv
      obtain ⟨ho2, hi2⟩ := hqq i (by omega)
      have h7 := ih (i + 1) (some (.int (nI (aWr (sT a) (sN a) (sOf a i))))) (by omega) (Or.inr ⟨_, rfl⟩)
      rw [aWho] at h7
      rcases hv with rfl | ⟨z, rfl⟩
      all_goals
        repeat refine hX _ _ _ _ _ _ _ _ _ _ _ _ _ _ rfl ?_
        rw [hq]
        refine br_f (show ¬ nI (sQ a) ≤ nI i from nI_ge (by omega) (by omega)) ?_
        repeat refine hX _ _ _ _ _ _ _ _ _ _ _ _ _ _ rfl ?_
        refine ⟨vp_in_nI (by omega) (by decide), ?_⟩
        rw [nI_clamp (by omega)]
        rw [(hsq i (by omega)).1]
        repeat refine hX _ _ _ _ _ _ _ _ _ _ _ _ _ _ rfl ?_
        refine Or.inl ⟨_, _, hwr _ ho2, ?_⟩
        repeat refine hX _ _ _ _ _ _ _ _ _ _ _ _ _ _ rfl ?_
        refine ⟨vp_in_nI (by omega) (by decide), ?_⟩
        rw [nI_clamp (by omega)]
        rw [(hsq i (by omega)).2]
        repeat refine hX _ _ _ _ _ _ _ _ _ _ _ _ _ _ rfl ?_
        by_cases h1 : sIs a i = 1
        · refine br_f (show ¬ ¬ nI (sIs a i) = 1 from fun h9 => h9 (congrArg nI h1)) ?_
          iterate 6 (refine hX _ _ _ _ _ _ _ _ _ _ _ _ _ _ rfl ?_)
          rw [nI_1, q_and _ (hol i) _ (hwl _)]
          rw [decide_eq_true h1] at h7
          exact h7
        · refine br_t (show ¬ nI (sIs a i) = 1 from fun h9 => h1 ((nI_eq (b := 1) (by omega) (by decide)).mp h9)) ?_
          iterate 7 (refine hX _ _ _ _ _ _ _ _ _ _ _ _ _ _ rfl ?_)
          rw [nI_1, q_andn _ (hol i) _ (hwl _)]
          rw [decide_eq_false h1] at h7
          exact h7
  iterate 5 (refine hX _ _ _ _ _ _ _ _ _ _ _ _ _ _ rfl ?_)
  refine ⟨by unfold vp_in; decide, ?_⟩
  rw [show (2 : Int32).toNatClampNeg = 2 from rfl]
  rw [hp]
  iterate 4 (refine hX _ _ _ _ _ _ _ _ _ _ _ _ _ _ rfl ?_)
  rw [q_people _ hnp]
  iterate 2 (refine hX _ _ _ _ _ _ _ _ _ _ _ _ _ _ rfl ?_)
  exact loop (sQ a) 0 none (by omega) (Or.inl rfl)
theorem m_show (S : zS) (d : Nat) (hc : List zC) (m : mS) {a : aS} (hA : AWf a) (hR : MRel m a) : Ex S (d + 5) 0 0 138 [.ref 1000] (hc, hM m) (some (.int (spShow a))) (hc, hM m) := by
  have hns := hA.1.2.2.2.1
  have h := m_who S d hc m hA hR
  have hn := hR.1.2.1
  have hlt : spWho a < 64 := aWho_lt hA.1 _ _ _ _
  have hbc := fun hh => m_ones S (d + 3) hh hlt
  have hwr := fun j (hj : j < aNs (sT a)) => m_wronged S (d + 1) hc m hA.1 hR.1 hA.2.1 hR.2.1 hj
  have hwl := fun j => aWr_lt hA.1 (sN a) j
  have hbc2 := fun hh j => m_ones S (d + 3) hh (q_and_lt (b := aWr (sT a) (sN a) j) hlt)
  have hpo := pop_le (spWho a)
  unfold spShow
  generalize hset : spWho a = set at *
  by_cases h1 : pop set ≤ 1
  · rw [if_pos h1]
    (refine exI rfl rfl ?_; intro X hX)
    repeat refine hX _ _ _ _ _ _ _ _ _ _ _ _ _ _ rfl ?_
    refine Or.inl ⟨_, _, h, ?_⟩
    repeat refine hX _ _ _ _ _ _ _ _ _ _ _ _ _ _ rfl ?_
    refine ⟨by unfold vp_in; decide, ?_⟩
    rw [show (1 : Int32).toNatClampNeg = 1 from rfl]
    rw [hn]
    repeat refine hX _ _ _ _ _ _ _ _ _ _ _ _ _ _ rfl ?_
    by_cases h0 : aNs (sT a) ≤ 0
    · refine br_t (show nI (aNs (sT a)) ≤ nI 0 from nI_le h0 (by decide)) ?_
      repeat refine hX _ _ _ _ _ _ _ _ _ _ _ _ _ _ rfl ?_
      exact ⟨rfl, rfl⟩
    · refine br_f (show ¬ nI (aNs (sT a)) ≤ nI 0 from nI_ge (by omega) (by omega)) ?_
      repeat refine hX _ _ _ _ _ _ _ _ _ _ _ _ _ _ rfl ?_
      refine Or.inl ⟨_, _, hbc _, ?_⟩
      repeat refine hX _ _ _ _ _ _ _ _ _ _ _ _ _ _ rfl ?_
      refine br_t (show nI (pop set) ≤ nI 1 from nI_le h1 (by decide)) ?_
      repeat refine hX _ _ _ _ _ _ _ _ _ _ _ _ _ _ rfl ?_
      exact ⟨rfl, rfl⟩
  · rw [if_neg h1]
    (refine exI rfl rfl ?_; intro X hX)
    have loop : ∀ (k j : Nat) (v5 v6 v7 : Option Value), j + k = aNs (sT a) → ((v5 = none ∧ v6 = none ∧ v7 = none) ∨ ∃ x y z, v5 = some (.int x) ∧ v6 = some (.int y) ∧ v7 = some (.int z)) → X 14 [some (.ref 1000), some (.int (nI set)), some (.int (aShw (sT a) (sN a) set j).1), some (.int (nI (aShw (sT a) (sN a) set j).2)), some (.int (nI j)), v5, v6, v7] [] (hc, hM m) 0 0 := by
      intro k
      induction k with
      | zero =>
        intro j v5 v6 v7 hj hv
        repeat refine hX _ _ _ _ _ _ _ _ _ _ _ _ _ _ rfl ?_
        refine ⟨by unfold vp_in; decide, ?_⟩
        rw [show (1 : Int32).toNatClampNeg = 1 from rfl]
        rw [hn]
        repeat refine hX _ _ _ _ _ _ _ _ _ _ _ _ _ _ rfl ?_
        refine br_t (show nI (aNs (sT a)) ≤ nI j from nI_le (by omega) (by omega)) ?_
        repeat refine hX _ _ _ _ _ _ _ _ _ _ _ _ _ _ rfl ?_
        exact ⟨by rw [show j = aNs (sT a) by omega], rfl⟩
      | succ k ih =>
        intro j v5 v6 v7 hj hv
        have hpl := pop_le (set &&& aWr (sT a) (sN a) j)
        have hpa := pop_and set hlt _ (hwl j)
        have hsl := aShw_le (sT a) (sN a) set j
        have hap : aPart (sT a) (sN a) set j ≤ 6 := by unfold aPart; omega
        have h7 := ih (j + 1) (some (.int (nI (pop (set &&& aWr (sT a) (sN a) j))))) (some (.int (nI (pop set - pop (set &&& aWr (sT a) (sN a) j))))) (some (.int (nI (aPart (sT a) (sN a) set j)))) (by omega) (Or.inr ⟨_, _, _, rfl, rfl, rfl⟩)
        rw [aShw] at h7
        have h69 : X 69 [some (.ref 1000), some (.int (nI set)), some (.int (aShw (sT a) (sN a) set j).1), some (.int (nI (aShw (sT a) (sN a) set j).2)), some (.int (nI j)), some (.int (nI (pop (set &&& aWr (sT a) (sN a) j)))), some (.int (nI (pop set - pop (set &&& aWr (sT a) (sN a) j)))), v7] [.int (nI (aPart (sT a) (sN a) set j))] (hc, hM m) 0 0 := by
          have hv7 : v7 = none ∨ ∃ z, v7 = some (.int z) := by
            rcases hv with ⟨-, -, h⟩ | ⟨_, _, z, -, -, h⟩
            · exact Or.inl h
            · exact Or.inr ⟨z, h⟩
          rcases hv7 with rfl | ⟨z, rfl⟩
          all_goals
            repeat refine hX _ _ _ _ _ _ _ _ _ _ _ _ _ _ rfl ?_
            by_cases hl : aPart (sT a) (sN a) set j < (aShw (sT a) (sN a) set j).2
            · refine br_f (show ¬ nI (aShw (sT a) (sN a) set j).2 ≤ nI (aPart (sT a) (sN a) set j) from nI_ge hl (by omega)) ?_
              repeat refine hX _ _ _ _ _ _ _ _ _ _ _ _ _ _ rfl ?_
              refine br_f (show ¬ nI (aShw (sT a) (sN a) set j).2 ≤ nI (aPart (sT a) (sN a) set j) from nI_ge hl (by omega)) ?_
              iterate 5 (refine hX _ _ _ _ _ _ _ _ _ _ _ _ _ _ rfl ?_)
              rw [nI_1]
              rw [decide_eq_true hl] at h7
              exact h7
            · refine br_t (show nI (aShw (sT a) (sN a) set j).2 ≤ nI (aPart (sT a) (sN a) set j) from nI_le (by omega) (by omega)) ?_
              repeat refine hX _ _ _ _ _ _ _ _ _ _ _ _ _ _ rfl ?_
              refine br_t (show nI (aShw (sT a) (sN a) set j).2 ≤ nI (aPart (sT a) (sN a) set j) from nI_le (by omega) (by omega)) ?_
              iterate 4 (refine hX _ _ _ _ _ _ _ _ _ _ _ _ _ _ rfl ?_)
              rw [nI_1]
              rw [decide_eq_false hl] at h7
              exact h7
        rcases hv with ⟨rfl, rfl, rfl⟩ | ⟨x, y, z, rfl, rfl, rfl⟩
        all_goals
          repeat refine hX _ _ _ _ _ _ _ _ _ _ _ _ _ _ rfl ?_
          refine ⟨by unfold vp_in; decide, ?_⟩
          rw [show (1 : Int32).toNatClampNeg = 1 from rfl]
          rw [hn]
          repeat refine hX _ _ _ _ _ _ _ _ _ _ _ _ _ _ rfl ?_
          refine br_f (show ¬ nI (aNs (sT a)) ≤ nI j from nI_ge (by omega) (by omega)) ?_
          repeat refine hX _ _ _ _ _ _ _ _ _ _ _ _ _ _ rfl ?_
          refine Or.inl ⟨_, _, hbc _, ?_⟩
          repeat refine hX _ _ _ _ _ _ _ _ _ _ _ _ _ _ rfl ?_
          refine br_f (show ¬ nI (pop set) ≤ nI 1 from nI_ge (by omega) (by omega)) ?_
          repeat refine hX _ _ _ _ _ _ _ _ _ _ _ _ _ _ rfl ?_
          refine Or.inl ⟨_, _, hwr j (by omega), ?_⟩
          iterate 2 (refine hX _ _ _ _ _ _ _ _ _ _ _ _ _ _ rfl ?_)
          rw [q_and _ hlt _ (hwl j)]
          repeat refine hX _ _ _ _ _ _ _ _ _ _ _ _ _ _ rfl ?_
          refine Or.inl ⟨_, _, hbc2 _ j, ?_⟩
          repeat refine hX _ _ _ _ _ _ _ _ _ _ _ _ _ _ rfl ?_
          refine Or.inl ⟨_, _, hbc _, ?_⟩
          iterate 3 (refine hX _ _ _ _ _ _ _ _ _ _ _ _ _ _ rfl ?_)
          rw [pk_sub hpa]
          repeat refine hX _ _ _ _ _ _ _ _ _ _ _ _ _ _ rfl ?_
          by_cases hmx : pop (set &&& aWr (sT a) (sN a) j) ≤ pop set - pop (set &&& aWr (sT a) (sN a) j)
          · refine br_t (show nI (pop (set &&& aWr (sT a) (sN a) j)) ≤ nI (pop set - pop (set &&& aWr (sT a) (sN a) j)) from nI_le hmx (by omega)) ?_
            rw [show aPart (sT a) (sN a) set j = pop set - pop (set &&& aWr (sT a) (sN a) j) from Nat.max_eq_right hmx] at h69
            iterate 1 (refine hX _ _ _ _ _ _ _ _ _ _ _ _ _ _ rfl ?_)
            exact h69
          · refine br_f (show ¬ nI (pop (set &&& aWr (sT a) (sN a) j)) ≤ nI (pop set - pop (set &&& aWr (sT a) (sN a) j)) from nI_ge (by omega) (by omega)) ?_
            rw [show aPart (sT a) (sN a) set j = pop (set &&& aWr (sT a) (sN a) j) from Nat.max_eq_left (by omega)] at h69
            iterate 2 (refine hX _ _ _ _ _ _ _ _ _ _ _ _ _ _ rfl ?_)
            exact h69
    repeat refine hX _ _ _ _ _ _ _ _ _ _ _ _ _ _ rfl ?_
    refine Or.inl ⟨_, _, h, ?_⟩
    iterate 7 (refine hX _ _ _ _ _ _ _ _ _ _ _ _ _ _ rfl ?_)
    exact loop (aNs (sT a)) 0 none none none (by omega) (Or.inl ⟨rfl, rfl, rfl⟩)
/-! kinds -/
theorem m_asStatue (S : zS) (d : Nat) (hc : List zC) (m : mS) {A : aT} (hA : TWf A) (hT : MTold (mTold m) A) {j : Nat} (hj : j < aNs A) : Ex S (d + 1) 0 0 139 [.ref 1000, .int (nI j)] (hc, hM m) (some (.int (nI (aWe A j)))) (hc, hM (s_mTrace m (mTrace m + 1))) := by
  have hns := hA.2.2.2.1
  have h := (hT.2.2.2.2.1 j hj).1
  (refine exI rfl rfl ?_; intro X hX)
  repeat refine hX _ _ _ _ _ _ _ _ _ _ _ _ _ _ rfl ?_
  rw [show (4 : Int32) + nI j = nI (4 + j) from nI_add 4 j]
  refine ⟨vp_in_nI (by omega) (by decide), ?_⟩
  rw [nI_clamp (by omega)]
  rw [h]
  repeat refine hX _ _ _ _ _ _ _ _ _ _ _ _ _ _ rfl ?_
  exact ⟨rfl, rfl⟩
theorem m_asGeneral (S : zS) (d : Nat) (hc : List zC) (m : mS) {A : aT} {N : aN} (hA : TWf A) (hT : MTold (mTold m) A) (hN : MRow A (mNow m) 0 N) {j : Nat} (hj : j < aNs A) : Ex S (d + 2) 0 0 140 [.ref 1000, .int (nI j)] (hc, hM m) (some (.int (nI (aWe A j) + nI (nYa N j)))) (hc, hM (s_mTrace m (mTrace m + 10 + 1))) := by
  have hns := hA.2.2.2.1
  have h := (fun t => m_asStatue S d hc (s_mTrace m t) hA hT hj) (mTrace m + 10)
  have hy := (MRow_0 hN).2.1 j hj
  (refine exI rfl rfl ?_; intro X hX)
  repeat refine hX _ _ _ _ _ _ _ _ _ _ _ _ _ _ rfl ?_
  refine Or.inl ⟨_, _, h, ?_⟩
  repeat refine hX _ _ _ _ _ _ _ _ _ _ _ _ _ _ rfl ?_
  refine ⟨vp_in_nI (by omega) (by decide), ?_⟩
  rw [nI_clamp (by omega)]
  rw [hy]
  repeat refine hX _ _ _ _ _ _ _ _ _ _ _ _ _ _ rfl ?_
  exact ⟨rfl, rfl⟩
theorem m_asPoet (S : zS) (d : Nat) (hc : List zC) (m : mS) {A : aT} {N : aN} (hA : TWf A) (hT : MTold (mTold m) A) (hW : NWf A N) (hN : MRow A (mNow m) 0 N) {j : Nat} (hj : j < aNs A) : Ex S (d + 5) 0 0 141 [.ref 1000, .int (nI j)] (hc, hM m) (some (.int (nI (aWe A j) - nI (aPull A N j)))) (hc, hM (s_mTrace m (mTrace m + 100 + 1))) := by
  have h := (fun t => m_asStatue S (d + 3) hc (s_mTrace m t) hA hT hj) (mTrace m + 100)
  have hp := (fun t => m_pull S d hc (s_mTrace m t) hA hT hW hN hj) (mTrace m + 100 + 1)
  (refine exI rfl rfl ?_; intro X hX)
  repeat refine hX _ _ _ _ _ _ _ _ _ _ _ _ _ _ rfl ?_
  refine Or.inl ⟨_, _, h, ?_⟩
  repeat refine hX _ _ _ _ _ _ _ _ _ _ _ _ _ _ rfl ?_
  refine Or.inl ⟨_, _, hp, ?_⟩
  repeat refine hX _ _ _ _ _ _ _ _ _ _ _ _ _ _ rfl ?_
  exact ⟨rfl, rfl⟩
theorem m_asHorse (S : zS) (d : Nat) (hc : List zC) (m : mS) {A : aT} {N : aN} (hA : TWf A) (hT : MTold (mTold m) A) (hN : MRow A (mNow m) 0 N) {j : Nat} (hj : j < aNs A) : Ex S (d + 3) 0 0 142 [.ref 1000, .int (nI j)] (hc, hM m) (some (.int (2 * (nI (aWe A j) + nI (nYa N j))))) (hc, hM (s_mTrace m (mTrace m + 1000 + 10 + 1))) := by
  have h := (fun t => m_asGeneral S d hc (s_mTrace m t) hA hT hN hj) (mTrace m + 1000)
  (refine exI rfl rfl ?_; intro X hX)
  repeat refine hX _ _ _ _ _ _ _ _ _ _ _ _ _ _ rfl ?_
  refine Or.inl ⟨_, _, h, ?_⟩
  repeat refine hX _ _ _ _ _ _ _ _ _ _ _ _ _ _ rfl ?_
  exact ⟨rfl, rfl⟩
theorem m_asSaint (S : zS) (d : Nat) (hc : List zC) (m : mS) {A : aT} {N : aN} (hA : TWf A) (hT : MTold (mTold m) A) (hW : NWf A N) (hN : MRow A (mNow m) 0 N) {j : Nat} (hj : j < aNs A) : Ex S (d + 6) 0 0 143 [.ref 1000, .int (nI j)] (hc, hM m) (some (.int (nI (aWe A j) - nI (aPull A N j) + nI j))) (hc, hM (s_mTrace m (mTrace m + 10000 + 100 + 1))) := by
  have h := (fun t => m_asPoet S d hc (s_mTrace m t) hA hT hW hN hj) (mTrace m + 10000)
  (refine exI rfl rfl ?_; intro X hX)
  repeat refine hX _ _ _ _ _ _ _ _ _ _ _ _ _ _ rfl ?_
  refine Or.inl ⟨_, _, h, ?_⟩
  repeat refine hX _ _ _ _ _ _ _ _ _ _ _ _ _ _ rfl ?_
  exact ⟨rfl, rfl⟩
theorem m_asGirl (S : zS) (d : Nat) (hc : List zC) (m : mS) {A : aT} {N : aN} (hA : TWf A) (hT : MTold (mTold m) A) (hW : NWf A N) (hN : MRow A (mNow m) 0 N) {j : Nat} (hj : j < aNs A) : Ex S (d + 4) 0 0 144 [.ref 1000, .int (nI j)] (hc, hM m) (some (.int (nI (aWe A j) + nI (pop (aWr A N j))))) (hc, hM (s_mTrace m (mTrace m + 100000 + 1))) := by
  have h := (fun t => m_asStatue S (d + 2) hc (s_mTrace m t) hA hT hj) (mTrace m + 100000)
  have hw := (fun t => m_wronged S d hc (s_mTrace m t) hA hT hW hN hj) (mTrace m + 100000 + 1)
  have hbc := fun hh => m_ones S (d + 2) hh (aWr_lt hA N j)
  (refine exI rfl rfl ?_; intro X hX)
  repeat refine hX _ _ _ _ _ _ _ _ _ _ _ _ _ _ rfl ?_
  refine Or.inl ⟨_, _, h, ?_⟩
  repeat refine hX _ _ _ _ _ _ _ _ _ _ _ _ _ _ rfl ?_
  refine Or.inl ⟨_, _, hw, ?_⟩
  repeat refine hX _ _ _ _ _ _ _ _ _ _ _ _ _ _ rfl ?_
  refine Or.inl ⟨_, _, hbc _, ?_⟩
  repeat refine hX _ _ _ _ _ _ _ _ _ _ _ _ _ _ rfl ?_
  exact ⟨rfl, rfl⟩
theorem m_rate (S : zS) (d : Nat) (hc : List zC) (m : mS) {a : aS} (hA : AWf a) (hR : MRel m a) (k s : Int32) : ∃ m', Ex S (d + 7) 0 0 145 [.ref 1000, .int k, .int s] (hc, hM m) (some (.int (spRate a k s).1)) (hc, hM m') ∧ MRel m' (spRate a k s).2 := by
  have hns := hA.1.2.2.2.1
  have hst := m_isStatue S (d + 4) hc m hA.1 hR.1 s
  have htr := hR.2.2.2.2.2.2
  unfold spRate
  cases hin : inb s (aNs (sT a)) with
  | false =>
    rw [hin] at hst
    rw [Bool.and_false]
    refine ⟨m, ?_, hR⟩
    (refine exI rfl rfl ?_; intro X hX)
    repeat refine hX _ _ _ _ _ _ _ _ _ _ _ _ _ _ rfl ?_
    refine Or.inl ⟨_, _, hst, ?_⟩
    repeat refine hX _ _ _ _ _ _ _ _ _ _ _ _ _ _ rfl ?_
    refine br_f (show ¬ ¬ b2i false = 0 by decide) ?_
    repeat refine hX _ _ _ _ _ _ _ _ _ _ _ _ _ _ rfl ?_
    exact ⟨rfl, rfl⟩
  | true =>
    rw [hin] at hst
    obtain ⟨j, hj, rfl⟩ := inb_of hin (by omega)
    rw [Bool.and_true]
    simp only [nI_clamp (show j < 2 ^ 31 by omega)]
    cases hik : inb k 6 with
    | false =>
      refine ⟨m, ?_, hR⟩
      (refine exI rfl rfl ?_; intro X hX)
      repeat refine hX _ _ _ _ _ _ _ _ _ _ _ _ _ _ rfl ?_
      refine Or.inl ⟨_, _, hst, ?_⟩
      repeat refine hX _ _ _ _ _ _ _ _ _ _ _ _ _ _ rfl ?_
      refine br_t (show ¬ b2i true = 0 by decide) ?_
      repeat refine hX _ _ _ _ _ _ _ _ _ _ _ _ _ _ rfl ?_
      refine ⟨fun hw => ?_, fun h0 => ⟨fun hw => ?_, fun h1 => ⟨fun hw => ?_, fun h2 => ⟨fun hw => ?_, fun h3 => ⟨fun hw => ?_, fun h4 => ⟨fun hw => ?_, fun h5 => ?_⟩⟩⟩⟩⟩⟩
      · rw [hw] at hik; exact absurd hik (by decide)
      · rw [hw] at hik; exact absurd hik (by decide)
      · rw [hw] at hik; exact absurd hik (by decide)
      · rw [hw] at hik; exact absurd hik (by decide)
      · rw [hw] at hik; exact absurd hik (by decide)
      · rw [hw] at hik; exact absurd hik (by decide)
      · repeat refine hX _ _ _ _ _ _ _ _ _ _ _ _ _ _ rfl ?_
        exact ⟨rfl, rfl⟩
    | true =>
      obtain ⟨z, hz, rfl⟩ := inb_of hik (by decide)
      simp only [cond_true]
      have g0 := m_asStatue S (d + 5) hc m hA.1 hR.1 hj
      have g1 := m_asGeneral S (d + 4) hc m hA.1 hR.1 hR.2.1 hj
      have g2 := m_asPoet S (d + 1) hc m hA.1 hR.1 hA.2.1 hR.2.1 hj
      have g3 := m_asHorse S (d + 3) hc m hA.1 hR.1 hR.2.1 hj
      have g4 := m_asSaint S d hc m hA.1 hR.1 hA.2.1 hR.2.1 hj
      have g5 := m_asGirl S (d + 2) hc m hA.1 hR.1 hA.2.1 hR.2.1 hj
      have hrel : ∀ t, MRel (s_mTrace m t) (uTr a t) := fun t => ⟨hR.1, hR.2.1, hR.2.2.1, hR.2.2.2.1, hR.2.2.2.2.1, hR.2.2.2.2.2.1, rfl⟩
      refine ⟨s_mTrace m (aRtr a (nI z)), ?_, hrel _⟩
      rw [htr] at g0 g1 g2 g3 g4 g5
      (refine exI rfl rfl ?_; intro X hX)
      repeat refine hX _ _ _ _ _ _ _ _ _ _ _ _ _ _ rfl ?_
      refine Or.inl ⟨_, _, hst, ?_⟩
      repeat refine hX _ _ _ _ _ _ _ _ _ _ _ _ _ _ rfl ?_
      refine br_t (show ¬ b2i true = 0 by decide) ?_
      repeat refine hX _ _ _ _ _ _ _ _ _ _ _ _ _ _ rfl ?_
      refine ⟨fun hw => ?_, fun h0 => ⟨fun hw => ?_, fun h1 => ⟨fun hw => ?_, fun h2 => ⟨fun hw => ?_, fun h3 => ⟨fun hw => ?_, fun h4 => ⟨fun hw => ?_, fun h5 => ?_⟩⟩⟩⟩⟩⟩
      · repeat refine hX _ _ _ _ _ _ _ _ _ _ _ _ _ _ rfl ?_
        refine Or.inl ⟨_, _, g0, ?_⟩
        repeat refine hX _ _ _ _ _ _ _ _ _ _ _ _ _ _ rfl ?_
        exact ⟨by rw [hw]; rfl, by rw [hw]; rfl⟩
      · repeat refine hX _ _ _ _ _ _ _ _ _ _ _ _ _ _ rfl ?_
        refine Or.inl ⟨_, _, g1, ?_⟩
        repeat refine hX _ _ _ _ _ _ _ _ _ _ _ _ _ _ rfl ?_
        exact ⟨by rw [hw]; rfl, by rw [hw]; rfl⟩
      · repeat refine hX _ _ _ _ _ _ _ _ _ _ _ _ _ _ rfl ?_
        refine Or.inl ⟨_, _, g2, ?_⟩
        repeat refine hX _ _ _ _ _ _ _ _ _ _ _ _ _ _ rfl ?_
        exact ⟨by rw [hw]; rfl, by rw [hw]; rfl⟩
      · repeat refine hX _ _ _ _ _ _ _ _ _ _ _ _ _ _ rfl ?_
        refine Or.inl ⟨_, _, g3, ?_⟩
        repeat refine hX _ _ _ _ _ _ _ _ _ _ _ _ _ _ rfl ?_
        exact ⟨by rw [hw]; rfl, by rw [hw]; rfl⟩
      · repeat refine hX _ _ _ _ _ _ _ _ _ _ _ _ _ _ rfl ?_
        refine Or.inl ⟨_, _, g4, ?_⟩
        repeat refine hX _ _ _ _ _ _ _ _ _ _ _ _ _ _ rfl ?_
        exact ⟨by rw [hw]; rfl, by rw [hw]; rfl⟩
      · repeat refine hX _ _ _ _ _ _ _ _ _ _ _ _ _ _ rfl ?_
        refine Or.inl ⟨_, _, g5, ?_⟩
        repeat refine hX _ _ _ _ _ _ _ _ _ _ _ _ _ _ rfl ?_
        exact ⟨by rw [hw]; rfl, by rw [hw]; rfl⟩
      · exfalso
        have k0 : ¬ z = 0 := fun h => h0 (congrArg nI h)
        have k1 : ¬ z = 1 := fun h => h1 (congrArg nI h)
        have k2 : ¬ z = 2 := fun h => h2 (congrArg nI h)
        have k3 : ¬ z = 3 := fun h => h3 (congrArg nI h)
        have k4 : ¬ z = 4 := fun h => h4 (congrArg nI h)
        have k5 : ¬ z = 5 := fun h => h5 (congrArg nI h)
        omega
end
section
/-! ===== the reference: what is done, and undone ===== -/
theorem MRow_of {A : aT} (hA : TWf A) {f g : cF} {o o' : Nat} {N : aN} (h : MRow A f o N) (e : ∀ i, i < 19 → g (o' + i) = f (o + i)) : MRow A g o' N := by
  have hns := hA.2.2.2.1
  have hnp := hA.2.2.2.2.1
  refine ⟨?_, fun j hj => ?_, fun p hp => ⟨?_, ?_⟩⟩
  · rw [e 6 (by decide)]; exact h.1
  · rw [e j (by omega)]; exact h.2.1 j hj
  · rw [Nat.add_assoc, e (7 + p) (by omega), ← Nat.add_assoc]; exact (h.2.2 p hp).1
  · rw [Nat.add_assoc, e (13 + p) (by omega), ← Nat.add_assoc]; exact (h.2.2 p hp).2
def cpo (dst src : cF) (o n : Nat) : cF := fun j => if o ≤ j ∧ j < o + n then src (j - o) else dst j
theorem cpo_0 (dst src : cF) (o : Nat) : cpo dst src o 0 = dst := by
  funext j
  unfold cpo
  rw [if_neg (by omega)]
theorem cpo_s (dst src : cF) (o n : Nat) : upd (cpo dst src o n) (o + n) (src n) = cpo dst src o (n + 1) := by
  funext j
  unfold upd cpo
  by_cases h : j = o + n
  · subst h
    rw [if_pos rfl, if_pos (by omega), show o + n - o = n by omega]
  · rw [if_neg h]
    by_cases h2 : o ≤ j ∧ j < o + n
    · rw [if_pos h2, if_pos (by omega)]
    · rw [if_neg h2, if_neg (by omega)]
def shB (f : cF) (n : Nat) : cF := fun j => if j < n then f (19 + j) else f j
theorem shB_0 (f : cF) : shB f 0 = f := by funext i; simp [shB]
theorem shB_s (f : cF) (n : Nat) : upd (shB f n) n (shB f n (19 + n)) = shB f (n + 1) := by
  funext i
  unfold upd
  by_cases h : i = n
  · subst h
    rw [if_pos rfl]
    unfold shB
    rw [if_neg (by omega), if_pos (by omega)]
  · rw [if_neg h]
    unfold shB
    by_cases h2 : i < n
    · rw [if_pos h2, if_pos (by omega)]
    · rw [if_neg h2, if_neg (by omega)]
def nB (bf nw : cF) (k : Nat) : cF := if k = 10 then cpo (shB bf 171) nw (19 * 9) 19 else cpo bf nw (19 * k) 19
theorem i19 (n i : Nat) : (19 : Int32) * nI n + nI i = nI (19 * n + i) := by rw [show (19 : Int32) = nI 19 from rfl, pk_mul, nI_add]
theorem m_note (S : zS) (d : Nat) (hc : List zC) (m : mS) {k : Nat} (hk : mUndo m = nI k) (h10 : k ≤ 10) : Ex S (d + 1) 0 0 122 [.ref 1000] (hc, hM m) none (hc, hM (s_mUndo (s_mBefore m (nB (mBefore m) (mNow m) k)) (nI (hPk k)))) := by
  (refine exI rfl rfl ?_; intro X hX)
  have loop2 : ∀ (bf : cF) (n : Nat), n ≤ 9 → nB (mBefore m) (mNow m) k = cpo bf (mNow m) (19 * n) 19 → hPk k = n + 1 → ∀ (q i : Nat), i + q = 19 → X 51 [some (.ref 1000), some (.int (nI i))] [] (hc, hM (s_mUndo (s_mBefore m (cpo bf (mNow m) (19 * n) i)) (nI n))) 0 0 := by
    intro bf n hn e1 e2 q
    induction q with
    | zero =>
      intro i hi
      have : i = 19 := by omega
      subst this
      repeat refine hX _ _ _ _ _ _ _ _ _ _ _ _ _ _ rfl ?_
      refine br_t (show nI 19 ≤ nI 19 from nI_le (by omega) (by decide)) ?_
      repeat refine hX _ _ _ _ _ _ _ _ _ _ _ _ _ _ rfl ?_
      rw [nI_1, e1, e2]
      exact ⟨rfl, rfl⟩
    | succ q ih =>
      intro i hi
      repeat refine hX _ _ _ _ _ _ _ _ _ _ _ _ _ _ rfl ?_
      refine br_f (show ¬ nI 19 ≤ nI i from nI_ge (by omega) (by decide)) ?_
      repeat refine hX _ _ _ _ _ _ _ _ _ _ _ _ _ _ rfl ?_
      refine ⟨vp_in_nI (by omega) (by decide), ?_⟩
      rw [nI_clamp (by omega)]
      repeat refine hX _ _ _ _ _ _ _ _ _ _ _ _ _ _ rfl ?_
      rw [i19]
      refine ⟨vp_in_nI (by omega) (by decide), ?_⟩
      rw [nI_clamp (by omega)]
      iterate 2 (refine hX _ _ _ _ _ _ _ _ _ _ _ _ _ _ rfl ?_)
      rw [nI_1]
      have h7 := ih (i + 1) (by omega)
      rw [← cpo_s] at h7
      exact h7
  have loop1 : ∀ (q i : Nat), k = 10 → i + q = 171 → X 11 [some (.ref 1000), some (.int (nI i))] [] (hc, hM (s_mBefore m (shB (mBefore m) i))) 0 0 := by
    intro q
    induction q with
    | zero =>
      intro i hk10 hi
      have : i = 171 := by omega
      subst this
      repeat refine hX _ _ _ _ _ _ _ _ _ _ _ _ _ _ rfl ?_
      refine br_t (show nI 171 ≤ nI 171 from nI_le (by omega) (by decide)) ?_
      iterate 6 (refine hX _ _ _ _ _ _ _ _ _ _ _ _ _ _ rfl ?_)
      rw [hk, hk10, show nI 10 - 1 = nI 9 from rfl]
      iterate 2 (refine hX _ _ _ _ _ _ _ _ _ _ _ _ _ _ rfl ?_)
      have h8 := loop2 (shB (mBefore m) 171) 9 (by omega) (by unfold nB; rw [if_pos hk10]) (by unfold hPk; rw [if_pos hk10]) 19 0 (by omega)
      rw [cpo_0] at h8
      exact h8
    | succ q ih =>
      intro i hk10 hi
      repeat refine hX _ _ _ _ _ _ _ _ _ _ _ _ _ _ rfl ?_
      refine br_f (show ¬ nI 171 ≤ nI i from nI_ge (by omega) (by decide)) ?_
      repeat refine hX _ _ _ _ _ _ _ _ _ _ _ _ _ _ rfl ?_
      rw [show (19 : Int32) + nI i = nI (19 + i) from nI_add 19 i]
      refine ⟨vp_in_nI (by omega) (by decide), ?_⟩
      rw [nI_clamp (by omega)]
      repeat refine hX _ _ _ _ _ _ _ _ _ _ _ _ _ _ rfl ?_
      refine ⟨vp_in_nI (by omega) (by decide), ?_⟩
      rw [nI_clamp (by omega)]
      iterate 2 (refine hX _ _ _ _ _ _ _ _ _ _ _ _ _ _ rfl ?_)
      rw [nI_1]
      have h7 := ih (i + 1) hk10 (by omega)
      rw [← shB_s] at h7
      exact h7
  repeat refine hX _ _ _ _ _ _ _ _ _ _ _ _ _ _ rfl ?_
  rw [hk]
  by_cases hk10 : k = 10
  · refine br_f (show ¬ ¬ nI k = nI 10 from fun h => h (congrArg nI hk10)) ?_
    iterate 2 (refine hX _ _ _ _ _ _ _ _ _ _ _ _ _ _ rfl ?_)
    have h8 := loop1 171 0 hk10 (by omega)
    rw [shB_0] at h8
    exact h8
  · refine br_t (show ¬ nI k = nI 10 from fun h => hk10 ((nI_eq (by omega) (by decide)).mp h)) ?_
    iterate 2 (refine hX _ _ _ _ _ _ _ _ _ _ _ _ _ _ rfl ?_)
    have h8 := loop2 (mBefore m) k (by omega) (by unfold nB; rw [if_neg hk10]) (by unfold hPk; rw [if_neg hk10]) 19 0 (by omega)
    rw [cpo_0, ← hk] at h8
    exact h8
theorem note_rel {A : aT} (hA : TWf A) {bf nw : cF} {k : Nat} (h10 : k ≤ 10) {H : Nat → aN} {N : aN} (hN : MRow A nw 0 N) (hH : ∀ j, j < k → MRow A bf (19 * j) (H j)) : ∀ j, j < hPk k → MRow A (nB bf nw k) (19 * j) (hPH k H N j) := by
  intro j hj
  unfold hPk at hj
  unfold nB hPH
  by_cases hk : k = 10
  · rw [if_pos hk] at hj ⊢
    rw [if_pos hk]
    by_cases hj9 : j < 9
    · simp only [hj9, if_true]
      refine MRow_of hA (hH (j + 1) (by omega)) (fun i hi => ?_)
      unfold cpo
      rw [if_neg (by omega)]
      unfold shB
      rw [if_pos (by omega)]
      exact congrArg bf (by omega)
    · simp only [hj9, if_false]
      refine MRow_of hA hN (fun i hi => ?_)
      unfold cpo
      rw [if_pos (by omega)]
      exact congrArg nw (by omega)
  · rw [if_neg hk] at hj ⊢
    rw [if_neg hk]
    by_cases hjk : j = k
    · subst hjk
      rw [aup_s]
      refine MRow_of hA hN (fun i hi => ?_)
      unfold cpo
      rw [if_pos (by omega)]
      exact congrArg nw (by omega)
    · rw [aup_n _ _ hjk]
      refine MRow_of hA (hH j (by omega)) (fun i hi => ?_)
      unfold cpo
      rw [if_neg (by omega)]
theorem m_comes (S : zS) (d : Nat) (hc : List zC) (m : mS) {a : aS} (hA : AWf a) (hR : MRel m a) (x : Int32) : ∃ m', Ex S (d + 3) 0 0 123 [.ref 1000, .int x] (hc, hM m) (some (.int (spComes a x).1)) (hc, hM m') ∧ MRel m' (spComes a x).2 := by
  have hnp := hA.1.2.2.2.2.1
  have hns := hA.1.2.2.2.1
  have hst := m_isOne S d hc m hA.1 hR.1 x
  have hco := nCo_lt hA.1 hA.2.1
  obtain ⟨hk10, -⟩ := hA.2.2.2.1
  obtain ⟨hkn, hH⟩ := hR.2.2.2.1
  have hN := MRow_0 hR.2.1
  unfold spComes
  cases hin : inb x (aNp (sT a)) with
  | false =>
    rw [hin] at hst
    refine ⟨m, ?_, hR⟩
    (refine exI rfl rfl ?_; intro X hX)
    repeat refine hX _ _ _ _ _ _ _ _ _ _ _ _ _ _ rfl ?_
    refine Or.inl ⟨_, _, hst, ?_⟩
    repeat refine hX _ _ _ _ _ _ _ _ _ _ _ _ _ _ rfl ?_
    refine br_f (show ¬ ¬ b2i false = 0 by decide) ?_
    repeat refine hX _ _ _ _ _ _ _ _ _ _ _ _ _ _ rfl ?_
    exact ⟨rfl, rfl⟩
  | true =>
    rw [hin] at hst
    obtain ⟨j, hj, rfl⟩ := inb_of hin (by omega)
    simp only [cond_true, nI_clamp (show j < 2 ^ 31 by omega)]
    have hhas := fun h => m_hasX S (d + 1) h hco (show j < 6 by omega)
    cases hb : (nCo (sN a)).testBit j with
    | true =>
      rw [hb] at hhas
      refine ⟨m, ?_, hR⟩
      (refine exI rfl rfl ?_; intro X hX)
      repeat refine hX _ _ _ _ _ _ _ _ _ _ _ _ _ _ rfl ?_
      refine Or.inl ⟨_, _, hst, ?_⟩
      repeat refine hX _ _ _ _ _ _ _ _ _ _ _ _ _ _ rfl ?_
      refine br_t (show ¬ b2i true = 0 by decide) ?_
      repeat refine hX _ _ _ _ _ _ _ _ _ _ _ _ _ _ rfl ?_
      refine ⟨by unfold vp_in; decide, ?_⟩
      rw [show (6 : Int32).toNatClampNeg = 6 from rfl]
      rw [hN.1]
      repeat refine hX _ _ _ _ _ _ _ _ _ _ _ _ _ _ rfl ?_
      refine Or.inl ⟨_, _, hhas _, ?_⟩
      repeat refine hX _ _ _ _ _ _ _ _ _ _ _ _ _ _ rfl ?_
      refine br_f (show ¬ b2i true = 0 by decide) ?_
      repeat refine hX _ _ _ _ _ _ _ _ _ _ _ _ _ _ rfl ?_
      exact ⟨rfl, rfl⟩
    | false =>
      rw [hb] at hhas
      have hor : nI (nCo (sN a)) ||| (1 <<< (nI j &&& 31)) = nI (nCo (sN a) ||| 2 ^ j) := by rw [q_shl j (by omega), nI_or]
      have hl2 := q_or_lt _ hco _ (q_p64 j (by omega))
      have hno := m_note S (d + 1) hc m hkn hk10
      have hbc := fun h => m_ones S (d + 1) h hl2
      refine ⟨s_mNow (s_mUndo (s_mBefore m (nB (mBefore m) (mNow m) (sK a))) (nI (hPk (sK a)))) (upd (mNow m) 6 (nI (nCo (sN a) ||| 2 ^ j))), ?_, ⟨hR.1, ?_, hR.2.2.1, ⟨rfl, note_rel hA.1 hk10 hR.2.1 hH⟩, hR.2.2.2.2.1, hR.2.2.2.2.2.1, hR.2.2.2.2.2.2⟩⟩
      rotate_left
      · refine ⟨(show upd (mNow m) 6 _ 6 = _ from pk_us), fun i hi => ?_, fun p hp => ⟨?_, ?_⟩⟩
        · show upd (mNow m) 6 _ (0 + i) = _
          have hi : i < aNs (sT a) := hi
          rw [Nat.zero_add, pk_un (by omega)]; exact hN.2.1 i hi
        · show upd (mNow m) 6 _ (0 + 7 + p) = _
          rw [pk_un (by omega)]; exact (hR.2.1.2.2 p hp).1
        · show upd (mNow m) 6 _ (0 + 13 + p) = _
          rw [pk_un (by omega)]; exact (hR.2.1.2.2 p hp).2
      · (refine exI rfl rfl ?_; intro X hX)
        repeat refine hX _ _ _ _ _ _ _ _ _ _ _ _ _ _ rfl ?_
        refine Or.inl ⟨_, _, hst, ?_⟩
        repeat refine hX _ _ _ _ _ _ _ _ _ _ _ _ _ _ rfl ?_
        refine br_t (show ¬ b2i true = 0 by decide) ?_
        repeat refine hX _ _ _ _ _ _ _ _ _ _ _ _ _ _ rfl ?_
        refine ⟨by unfold vp_in; decide, ?_⟩
        rw [show (6 : Int32).toNatClampNeg = 6 from rfl]
        rw [hN.1]
        repeat refine hX _ _ _ _ _ _ _ _ _ _ _ _ _ _ rfl ?_
        refine Or.inl ⟨_, _, hhas _, ?_⟩
        repeat refine hX _ _ _ _ _ _ _ _ _ _ _ _ _ _ rfl ?_
        refine br_t (show b2i false = 0 from rfl) ?_
        repeat refine hX _ _ _ _ _ _ _ _ _ _ _ _ _ _ rfl ?_
        refine Or.inl ⟨_, _, hno, ?_⟩
        repeat refine hX _ _ _ _ _ _ _ _ _ _ _ _ _ _ rfl ?_
        refine ⟨by unfold vp_in; decide, ?_⟩
        rw [show (6 : Int32).toNatClampNeg = 6 from rfl]
        rw [hN.1]
        repeat refine hX _ _ _ _ _ _ _ _ _ _ _ _ _ _ rfl ?_
        rw [hor]
        refine ⟨by unfold vp_in; decide, ?_⟩
        rw [show (6 : Int32).toNatClampNeg = 6 from rfl]
        repeat refine hX _ _ _ _ _ _ _ _ _ _ _ _ _ _ rfl ?_
        refine ⟨by unfold vp_in; decide, ?_⟩
        rw [show (6 : Int32).toNatClampNeg = 6 from rfl]
        rw [pk_us]
        repeat refine hX _ _ _ _ _ _ _ _ _ _ _ _ _ _ rfl ?_
        refine Or.inl ⟨_, _, hbc _, ?_⟩
        repeat refine hX _ _ _ _ _ _ _ _ _ _ _ _ _ _ rfl ?_
        exact ⟨rfl, rfl⟩
theorem m_goes (S : zS) (d : Nat) (hc : List zC) (m : mS) {a : aS} (hA : AWf a) (hR : MRel m a) (x : Int32) : ∃ m', Ex S (d + 3) 0 0 124 [.ref 1000, .int x] (hc, hM m) (some (.int (spGoes a x).1)) (hc, hM m') ∧ MRel m' (spGoes a x).2 := by
  have hnp := hA.1.2.2.2.2.1
  have hns := hA.1.2.2.2.1
  have hst := m_isOne S d hc m hA.1 hR.1 x
  have hco := nCo_lt hA.1 hA.2.1
  obtain ⟨hk10, -⟩ := hA.2.2.2.1
  obtain ⟨hkn, hH⟩ := hR.2.2.2.1
  have hN := MRow_0 hR.2.1
  unfold spGoes
  cases hin : inb x (aNp (sT a)) with
  | false =>
    rw [hin] at hst
    refine ⟨m, ?_, hR⟩
    (refine exI rfl rfl ?_; intro X hX)
    repeat refine hX _ _ _ _ _ _ _ _ _ _ _ _ _ _ rfl ?_
    refine Or.inl ⟨_, _, hst, ?_⟩
    repeat refine hX _ _ _ _ _ _ _ _ _ _ _ _ _ _ rfl ?_
    refine br_f (show ¬ ¬ b2i false = 0 by decide) ?_
    repeat refine hX _ _ _ _ _ _ _ _ _ _ _ _ _ _ rfl ?_
    exact ⟨rfl, rfl⟩
  | true =>
    rw [hin] at hst
    obtain ⟨j, hj, rfl⟩ := inb_of hin (by omega)
    simp only [cond_true, nI_clamp (show j < 2 ^ 31 by omega)]
    have hhas := fun h => m_hasX S (d + 1) h hco (show j < 6 by omega)
    cases hb : (nCo (sN a)).testBit j with
    | false =>
      rw [hb] at hhas
      refine ⟨m, ?_, hR⟩
      (refine exI rfl rfl ?_; intro X hX)
      repeat refine hX _ _ _ _ _ _ _ _ _ _ _ _ _ _ rfl ?_
      refine Or.inl ⟨_, _, hst, ?_⟩
      repeat refine hX _ _ _ _ _ _ _ _ _ _ _ _ _ _ rfl ?_
      refine br_t (show ¬ b2i true = 0 by decide) ?_
      repeat refine hX _ _ _ _ _ _ _ _ _ _ _ _ _ _ rfl ?_
      refine ⟨by unfold vp_in; decide, ?_⟩
      rw [show (6 : Int32).toNatClampNeg = 6 from rfl]
      rw [hN.1]
      repeat refine hX _ _ _ _ _ _ _ _ _ _ _ _ _ _ rfl ?_
      refine Or.inl ⟨_, _, hhas _, ?_⟩
      repeat refine hX _ _ _ _ _ _ _ _ _ _ _ _ _ _ rfl ?_
      refine br_f (show ¬ ¬ b2i false = 0 by decide) ?_
      repeat refine hX _ _ _ _ _ _ _ _ _ _ _ _ _ _ rfl ?_
      exact ⟨rfl, rfl⟩
    | true =>
      rw [hb] at hhas
      have hor : nI (nCo (sN a)) &&& ((1 <<< (nI j &&& 31)) ^^^ (-1)) = nI (nCo (sN a) &&& (63 ^^^ 2 ^ j)) := by rw [q_shl j (by omega), q_andn _ hco _ (q_p64 j (by omega))]
      have hl2 : nCo (sN a) &&& (63 ^^^ 2 ^ j) < 64 := q_and_lt hco
      have hno := m_note S (d + 1) hc m hkn hk10
      have hbc := fun h => m_ones S (d + 1) h hl2
      refine ⟨s_mNow (s_mUndo (s_mBefore m (nB (mBefore m) (mNow m) (sK a))) (nI (hPk (sK a)))) (upd (mNow m) 6 (nI (nCo (sN a) &&& (63 ^^^ 2 ^ j)))), ?_, ⟨hR.1, ?_, hR.2.2.1, ⟨rfl, note_rel hA.1 hk10 hR.2.1 hH⟩, hR.2.2.2.2.1, hR.2.2.2.2.2.1, hR.2.2.2.2.2.2⟩⟩
      rotate_left
      · refine ⟨(show upd (mNow m) 6 _ 6 = _ from pk_us), fun i hi => ?_, fun p hp => ⟨?_, ?_⟩⟩
        · show upd (mNow m) 6 _ (0 + i) = _
          have hi : i < aNs (sT a) := hi
          rw [Nat.zero_add, pk_un (by omega)]; exact hN.2.1 i hi
        · show upd (mNow m) 6 _ (0 + 7 + p) = _
          rw [pk_un (by omega)]; exact (hR.2.1.2.2 p hp).1
        · show upd (mNow m) 6 _ (0 + 13 + p) = _
          rw [pk_un (by omega)]; exact (hR.2.1.2.2 p hp).2
      · (refine exI rfl rfl ?_; intro X hX)
        repeat refine hX _ _ _ _ _ _ _ _ _ _ _ _ _ _ rfl ?_
        refine Or.inl ⟨_, _, hst, ?_⟩
        repeat refine hX _ _ _ _ _ _ _ _ _ _ _ _ _ _ rfl ?_
        refine br_t (show ¬ b2i true = 0 by decide) ?_
        repeat refine hX _ _ _ _ _ _ _ _ _ _ _ _ _ _ rfl ?_
        refine ⟨by unfold vp_in; decide, ?_⟩
        rw [show (6 : Int32).toNatClampNeg = 6 from rfl]
        rw [hN.1]
        repeat refine hX _ _ _ _ _ _ _ _ _ _ _ _ _ _ rfl ?_
        refine Or.inl ⟨_, _, hhas _, ?_⟩
        repeat refine hX _ _ _ _ _ _ _ _ _ _ _ _ _ _ rfl ?_
        refine br_t (show ¬ b2i true = 0 by decide) ?_
        repeat refine hX _ _ _ _ _ _ _ _ _ _ _ _ _ _ rfl ?_
        refine Or.inl ⟨_, _, hno, ?_⟩
        repeat refine hX _ _ _ _ _ _ _ _ _ _ _ _ _ _ rfl ?_
        refine ⟨by unfold vp_in; decide, ?_⟩
        rw [show (6 : Int32).toNatClampNeg = 6 from rfl]
        rw [hN.1]
        repeat refine hX _ _ _ _ _ _ _ _ _ _ _ _ _ _ rfl ?_
        rw [hor]
        refine ⟨by unfold vp_in; decide, ?_⟩
        rw [show (6 : Int32).toNatClampNeg = 6 from rfl]
        repeat refine hX _ _ _ _ _ _ _ _ _ _ _ _ _ _ rfl ?_
        refine ⟨by unfold vp_in; decide, ?_⟩
        rw [show (6 : Int32).toNatClampNeg = 6 from rfl]
        rw [pk_us]
        repeat refine hX _ _ _ _ _ _ _ _ _ _ _ _ _ _ rfl ?_
        refine Or.inl ⟨_, _, hbc _, ?_⟩
        repeat refine hX _ _ _ _ _ _ _ _ _ _ _ _ _ _ rfl ?_
        exact ⟨rfl, rfl⟩
end
section
theorem aWr_bit {A : aT} (N : aN) (j : Nat) {p : Nat} (hp : p < aNp A) : (aWr A N j).testBit p = ((aWg A p).testBit (aIn A j) || (nCl N p).testBit j) := by
  unfold aWr
  rw [nmask_bit, decide_eq_true hp, Bool.true_and]
theorem q_pop1 : ∀ a, a < 64 → ∀ p, p < 6 → a.testBit p = false → pop (a ||| 2 ^ p) = pop a + 1 := by decide +kernel
theorem claim_row {A : aT} (hA : TWf A) {N : aN} (hW : NWf A N) {f : cF} (hN : MRow A f 0 N) {p s : Nat} (hp : p < aNp A) (hs : s < aNs A) (hb : (nCl N p).testBit s = false) : MRow A (upd (upd f (7 + p) (f (7 + p) + 1)) (13 + p) (f (13 + p) ||| (1 <<< (nI s &&& 31)))) 0 (nCo N, nYa N, aup (nCl N) p (nCl N p ||| 2 ^ s)) := by
  have hns := hA.2.2.2.1
  have hnp := hA.2.2.2.2.1
  have hN := MRow_0 hN
  refine ⟨?_, fun j hj => ?_, fun q hq => ⟨?_, ?_⟩⟩
  · rw [pk_un (by omega), pk_un (by omega)]; exact hN.1
  · rw [Nat.zero_add, pk_un (by omega), pk_un (by omega)]; exact hN.2.1 j hj
  · show _ = nI (pop (aup (nCl N) p (nCl N p ||| 2 ^ s) q))
    rw [Nat.zero_add]
    by_cases h : q = p
    · subst h
      rw [pk_un (by omega), pk_us, aup_s, (hN.2.2 q hq).1, q_pop1 _ (nCl_lt hA hW hq) s (by omega) hb, nI_1]
    · rw [pk_un (by omega), pk_un (by omega), aup_n _ _ h]; exact (hN.2.2 q hq).1
  · show _ = nI (aup (nCl N) p (nCl N p ||| 2 ^ s) q)
    rw [Nat.zero_add]
    by_cases h : q = p
    · subst h
      rw [pk_us, aup_s, (hN.2.2 q hq).2, q_shl s (by omega), nI_or]
    · rw [pk_un (by omega), pk_un (by omega), aup_n _ _ h]; exact (hN.2.2 q hq).2
theorem m_claims (S : zS) (d : Nat) (hc : List zC) (m : mS) {a : aS} (hA : AWf a) (hR : MRel m a) (x y : Int32) : ∃ m', Ex S (d + 5) 0 0 125 [.ref 1000, .int x, .int y] (hc, hM m) (some (.int (spClaims a x y).1)) (hc, hM m') ∧ MRel m' (spClaims a x y).2 := by
  have hnp := hA.1.2.2.2.2.1
  have hns := hA.1.2.2.2.1
  have hon := m_isOne S (d + 2) hc m hA.1 hR.1 x
  have hst := m_isStatue S (d + 2) hc m hA.1 hR.1 y
  obtain ⟨hk10, -⟩ := hA.2.2.2.1
  obtain ⟨hkn, hH⟩ := hR.2.2.2.1
  have hN := MRow_0 hR.2.1
  unfold spClaims
  cases hin : inb x (aNp (sT a)) with
  | false =>
    rw [hin] at hon
    refine ⟨m, ?_, hR⟩
    (refine exI rfl rfl ?_; intro X hX)
    repeat refine hX _ _ _ _ _ _ _ _ _ _ _ _ _ _ rfl ?_
    refine Or.inl ⟨_, _, hon, ?_⟩
    repeat refine hX _ _ _ _ _ _ _ _ _ _ _ _ _ _ rfl ?_
    refine br_t (show b2i false = 0 from rfl) ?_
    repeat refine hX _ _ _ _ _ _ _ _ _ _ _ _ _ _ rfl ?_
    exact ⟨rfl, rfl⟩
  | true =>
    rw [hin] at hon
    obtain ⟨p, hp, rfl⟩ := inb_of hin (by omega)
    cases hiy : inb y (aNs (sT a)) with
    | false =>
      rw [hiy] at hst
      refine ⟨m, ?_, hR⟩
      (refine exI rfl rfl ?_; intro X hX)
      repeat refine hX _ _ _ _ _ _ _ _ _ _ _ _ _ _ rfl ?_
      refine Or.inl ⟨_, _, hon, ?_⟩
      repeat refine hX _ _ _ _ _ _ _ _ _ _ _ _ _ _ rfl ?_
      refine br_f (show ¬ b2i true = 0 by decide) ?_
      repeat refine hX _ _ _ _ _ _ _ _ _ _ _ _ _ _ rfl ?_
      refine Or.inl ⟨_, _, hst, ?_⟩
      repeat refine hX _ _ _ _ _ _ _ _ _ _ _ _ _ _ rfl ?_
      refine br_f (show ¬ ¬ b2i false = 0 by decide) ?_
      repeat refine hX _ _ _ _ _ _ _ _ _ _ _ _ _ _ rfl ?_
      exact ⟨rfl, rfl⟩
    | true =>
      rw [hiy] at hst
      obtain ⟨s, hs, rfl⟩ := inb_of hiy (by omega)
      simp only [cond_true, Bool.and_self, nI_clamp (show p < 2 ^ 31 by omega), nI_clamp (show s < 2 ^ 31 by omega)]
      have hwr := m_isWronged S (d + 2) hc m hA.1 hR.1 hA.2.1 hR.2.1 hp hs
      rw [← aWr_bit (sN a) s hp] at hwr
      cases hb : (aWr (sT a) (sN a) s).testBit p with
      | true =>
        rw [hb] at hwr
        refine ⟨m, ?_, hR⟩
        (refine exI rfl rfl ?_; intro X hX)
        repeat refine hX _ _ _ _ _ _ _ _ _ _ _ _ _ _ rfl ?_
        refine Or.inl ⟨_, _, hon, ?_⟩
        repeat refine hX _ _ _ _ _ _ _ _ _ _ _ _ _ _ rfl ?_
        refine br_f (show ¬ b2i true = 0 by decide) ?_
        repeat refine hX _ _ _ _ _ _ _ _ _ _ _ _ _ _ rfl ?_
        refine Or.inl ⟨_, _, hst, ?_⟩
        repeat refine hX _ _ _ _ _ _ _ _ _ _ _ _ _ _ rfl ?_
        refine br_t (show ¬ b2i true = 0 by decide) ?_
        repeat refine hX _ _ _ _ _ _ _ _ _ _ _ _ _ _ rfl ?_
        refine Or.inl ⟨_, _, hwr, ?_⟩
        repeat refine hX _ _ _ _ _ _ _ _ _ _ _ _ _ _ rfl ?_
        refine br_f (show ¬ b2i true = 0 by decide) ?_
        repeat refine hX _ _ _ _ _ _ _ _ _ _ _ _ _ _ rfl ?_
        exact ⟨rfl, rfl⟩
      | false =>
        rw [hb] at hwr
        have g1 := (hN.2.2 p hp).1
        have g2 := (hR.1.2.2.2.2.2 p hp).2.2.1
        have h3 := (hA.1.2.2.2.2.2.2 p hp).2.2.2.1
        have h4 := pop_le (nCl (sN a) p)
        simp only [cond_false]
        by_cases hcr : aCr (sT a) p ≤ pop (nCl (sN a) p)
        · rw [if_pos hcr]
          refine ⟨m, ?_, hR⟩
          (refine exI rfl rfl ?_; intro X hX)
          repeat refine hX _ _ _ _ _ _ _ _ _ _ _ _ _ _ rfl ?_
          refine Or.inl ⟨_, _, hon, ?_⟩
          repeat refine hX _ _ _ _ _ _ _ _ _ _ _ _ _ _ rfl ?_
          refine br_f (show ¬ b2i true = 0 by decide) ?_
          repeat refine hX _ _ _ _ _ _ _ _ _ _ _ _ _ _ rfl ?_
          refine Or.inl ⟨_, _, hst, ?_⟩
          repeat refine hX _ _ _ _ _ _ _ _ _ _ _ _ _ _ rfl ?_
          refine br_t (show ¬ b2i true = 0 by decide) ?_
          repeat refine hX _ _ _ _ _ _ _ _ _ _ _ _ _ _ rfl ?_
          refine Or.inl ⟨_, _, hwr, ?_⟩
          repeat refine hX _ _ _ _ _ _ _ _ _ _ _ _ _ _ rfl ?_
          refine br_t (show b2i false = 0 from rfl) ?_
          repeat refine hX _ _ _ _ _ _ _ _ _ _ _ _ _ _ rfl ?_
          rw [show (7 : Int32) + nI p = nI (7 + p) from nI_add 7 p]
          refine ⟨vp_in_nI (by omega) (by decide), ?_⟩
          rw [nI_clamp (by omega)]
          rw [g1]
          repeat refine hX _ _ _ _ _ _ _ _ _ _ _ _ _ _ rfl ?_
          rw [show (28 : Int32) + nI p = nI (28 + p) from nI_add 28 p]
          refine ⟨vp_in_nI (by omega) (by decide), ?_⟩
          rw [nI_clamp (by omega)]
          rw [g2]
          repeat refine hX _ _ _ _ _ _ _ _ _ _ _ _ _ _ rfl ?_
          refine br_f (show ¬ nI (pop (nCl (sN a) p)) < nI (aCr (sT a) p) from nI_nlt hcr (by omega)) ?_
          repeat refine hX _ _ _ _ _ _ _ _ _ _ _ _ _ _ rfl ?_
          exact ⟨rfl, rfl⟩
        · rw [if_neg hcr]
          have hbl : (nCl (sN a) p).testBit s = false := by
            have := aWr_bit (sN a) s hp
            rw [hb] at this
            cases h : (nCl (sN a) p).testBit s with
            | false => rfl
            | true => rw [h, Bool.or_true] at this; cases this
          have hrow := claim_row hA.1 hA.2.1 hR.2.1 hp hs hbl
          have hwf := claim_wf hA.2.1 (p := p) hs
          have hno := m_note S (d + 3) hc m hkn hk10
          have hpu := m_pull S d hc (s_mNow (s_mUndo (s_mBefore m (nB (mBefore m) (mNow m) (sK a))) (nI (hPk (sK a)))) (upd (upd (mNow m) (7 + p) (mNow m (7 + p) + 1)) (13 + p) (mNow m (13 + p) ||| (1 <<< (nI s &&& 31))))) hA.1 hR.1 hwf hrow hs
          refine ⟨s_mNow (s_mUndo (s_mBefore m (nB (mBefore m) (mNow m) (sK a))) (nI (hPk (sK a)))) (upd (upd (mNow m) (7 + p) (mNow m (7 + p) + 1)) (13 + p) (mNow m (13 + p) ||| (1 <<< (nI s &&& 31)))), ?_, ⟨hR.1, hrow, hR.2.2.1, ⟨rfl, note_rel hA.1 hk10 hR.2.1 hH⟩, hR.2.2.2.2.1, hR.2.2.2.2.2.1, hR.2.2.2.2.2.2⟩⟩
          (refine exI rfl rfl ?_; intro X hX)
          repeat refine hX _ _ _ _ _ _ _ _ _ _ _ _ _ _ rfl ?_
          refine Or.inl ⟨_, _, hon, ?_⟩
          repeat refine hX _ _ _ _ _ _ _ _ _ _ _ _ _ _ rfl ?_
          refine br_f (show ¬ b2i true = 0 by decide) ?_
          repeat refine hX _ _ _ _ _ _ _ _ _ _ _ _ _ _ rfl ?_
          refine Or.inl ⟨_, _, hst, ?_⟩
          repeat refine hX _ _ _ _ _ _ _ _ _ _ _ _ _ _ rfl ?_
          refine br_t (show ¬ b2i true = 0 by decide) ?_
          repeat refine hX _ _ _ _ _ _ _ _ _ _ _ _ _ _ rfl ?_
          refine Or.inl ⟨_, _, hwr, ?_⟩
          repeat refine hX _ _ _ _ _ _ _ _ _ _ _ _ _ _ rfl ?_
          refine br_t (show b2i false = 0 from rfl) ?_
          repeat refine hX _ _ _ _ _ _ _ _ _ _ _ _ _ _ rfl ?_
          rw [show (7 : Int32) + nI p = nI (7 + p) from nI_add 7 p]
          refine ⟨vp_in_nI (by omega) (by decide), ?_⟩
          rw [nI_clamp (by omega)]
          rw [g1]
          repeat refine hX _ _ _ _ _ _ _ _ _ _ _ _ _ _ rfl ?_
          rw [show (28 : Int32) + nI p = nI (28 + p) from nI_add 28 p]
          refine ⟨vp_in_nI (by omega) (by decide), ?_⟩
          rw [nI_clamp (by omega)]
          rw [g2]
          repeat refine hX _ _ _ _ _ _ _ _ _ _ _ _ _ _ rfl ?_
          refine br_t (show nI (pop (nCl (sN a) p)) < nI (aCr (sT a) p) from nI_lt (by omega) (by omega)) ?_
          repeat refine hX _ _ _ _ _ _ _ _ _ _ _ _ _ _ rfl ?_
          refine Or.inl ⟨_, _, hno, ?_⟩
          repeat refine hX _ _ _ _ _ _ _ _ _ _ _ _ _ _ rfl ?_
          rw [show (7 : Int32) + nI p = nI (7 + p) from nI_add 7 p]
          refine ⟨vp_in_nI (by omega) (by decide), ?_⟩
          rw [nI_clamp (by omega)]
          repeat refine hX _ _ _ _ _ _ _ _ _ _ _ _ _ _ rfl ?_
          refine ⟨vp_in_nI (by omega) (by decide), ?_⟩
          rw [nI_clamp (by omega)]
          repeat refine hX _ _ _ _ _ _ _ _ _ _ _ _ _ _ rfl ?_
          rw [show (13 : Int32) + nI p = nI (13 + p) from nI_add 13 p]
          refine ⟨vp_in_nI (by omega) (by decide), ?_⟩
          rw [nI_clamp (by omega)]
          rw [pk_un (by omega)]
          repeat refine hX _ _ _ _ _ _ _ _ _ _ _ _ _ _ rfl ?_
          refine ⟨vp_in_nI (by omega) (by decide), ?_⟩
          rw [nI_clamp (by omega)]
          repeat refine hX _ _ _ _ _ _ _ _ _ _ _ _ _ _ rfl ?_
          refine Or.inl ⟨_, _, hpu, ?_⟩
          repeat refine hX _ _ _ _ _ _ _ _ _ _ _ _ _ _ rfl ?_
          exact ⟨rfl, rfl⟩
theorem aTo_1 (a : aS) (s : Nat) : nI (nYa (sN a) s) + 1 = aTo a s (nI 1) := by unfold aTo aStep; rw [if_pos (show nI 1 = 1 from rfl)]
theorem aTo_0 (a : aS) (s : Nat) : nI (nYa (sN a) s) - 1 = aTo a s (nI 0) := by unfold aTo aStep; rw [if_neg (by decide), Int32.sub_eq_add_neg]
theorem m_pulls (S : zS) (d : Nat) (hc : List zC) (m : mS) {a : aS} (hA : AWf a) (hR : MRel m a) (x y : Int32) : ∃ m', Ex S (d + 6) 0 0 126 [.ref 1000, .int x, .int y] (hc, hM m) (some (.int (spPulls a x y).1)) (hc, hM m') ∧ MRel m' (spPulls a x y).2 := by
  have hny := hA.1.2.1
  have hns := hA.1.2.2.2.1
  have hst := m_isStatue S (d + 3) hc m hA.1 hR.1 x
  have hin64 := fun h => m_in S (d + 4) h y.toInt64 0 (lN 1)
  rw [in64c y (by decide)] at hin64
  obtain ⟨hk10, -⟩ := hA.2.2.2.1
  obtain ⟨hkn, hH⟩ := hR.2.2.2.1
  have hN := MRow_0 hR.2.1
  unfold spPulls
  cases hin : inb x (aNs (sT a)) with
  | false =>
    rw [hin] at hst
    refine ⟨m, ?_, hR⟩
    (refine exI rfl rfl ?_; intro X hX)
    repeat refine hX _ _ _ _ _ _ _ _ _ _ _ _ _ _ rfl ?_
    refine Or.inl ⟨_, _, hst, ?_⟩
    repeat refine hX _ _ _ _ _ _ _ _ _ _ _ _ _ _ rfl ?_
    refine br_t (show b2i false = 0 from rfl) ?_
    repeat refine hX _ _ _ _ _ _ _ _ _ _ _ _ _ _ rfl ?_
    exact ⟨rfl, rfl⟩
  | true =>
    rw [hin] at hst
    obtain ⟨s, hs, rfl⟩ := inb_of hin (by omega)
    cases hiy : inb y 2 with
    | false =>
      rw [hiy] at hin64
      refine ⟨m, ?_, hR⟩
      (refine exI rfl rfl ?_; intro X hX)
      repeat refine hX _ _ _ _ _ _ _ _ _ _ _ _ _ _ rfl ?_
      refine Or.inl ⟨_, _, hst, ?_⟩
      repeat refine hX _ _ _ _ _ _ _ _ _ _ _ _ _ _ rfl ?_
      refine br_f (show ¬ b2i true = 0 by decide) ?_
      repeat refine hX _ _ _ _ _ _ _ _ _ _ _ _ _ _ rfl ?_
      refine Or.inl ⟨_, _, hin64 _, ?_⟩
      repeat refine hX _ _ _ _ _ _ _ _ _ _ _ _ _ _ rfl ?_
      refine br_f (show ¬ ¬ b2i false = 0 by decide) ?_
      repeat refine hX _ _ _ _ _ _ _ _ _ _ _ _ _ _ rfl ?_
      exact ⟨rfl, rfl⟩
    | true =>
      rw [hiy] at hin64
      obtain ⟨z, hz, rfl⟩ := inb_of hiy (by decide)
      simp only [cond_true, Bool.and_self, nI_clamp (show s < 2 ^ 31 by omega)]
      have hmo := m_moves S d hc m hA.1 hR.1 hA.2.1 hR.2.1 hs
      have hya := m_isYard S (d + 3) hc m hA.1 hR.1 (aTo a s (nI z))
      have hsi := m_statueIn S (d + 4) hc m hA.1 hR.1 hA.2.1 hR.2.1 (aTo a s (nI z))
      have hno := m_note S (d + 4) hc m hkn hk10
      have hyf := hN.2.1 s hs
      have key : ∀ m', (∀ X, z_cl S (Ex S (d + 5)) tX5_pulls false 0 0 (fun v' g' => v' = some (.int (bif aMov (sT a) (sN a) s && (inb (aTo a s (nI z)) (aNy (sT a)) && decide (aSin (sT a) (sN a) (aTo a s (nI z)) = -9)) then (aTo a s (nI z), uDo a (nCo (sN a), aup (nYa (sN a)) s (aTo a s (nI z)).toNatClampNeg, nCl (sN a))) else (-2, a)).1) ∧ g' = (hc, hM m')) X → X 44 [some (.ref 1000), some (.int (nI s)), some (.int (nI z)), some (.int (aTo a s (nI z)))] [] (hc, hM m) 0 0) → Ex S (d + 6) 0 0 126 [.ref 1000, .int (nI s), .int (nI z)] (hc, hM m) (some (.int (bif aMov (sT a) (sN a) s && (inb (aTo a s (nI z)) (aNy (sT a)) && decide (aSin (sT a) (sN a) (aTo a s (nI z)) = -9)) then (aTo a s (nI z), uDo a (nCo (sN a), aup (nYa (sN a)) s (aTo a s (nI z)).toNatClampNeg, nCl (sN a))) else (-2, a)).1)) (hc, hM m') := by
        intro m' h44
        (refine exI rfl rfl ?_; intro X hX)
        have h44 := h44 X hX
        repeat refine hX _ _ _ _ _ _ _ _ _ _ _ _ _ _ rfl ?_
        refine Or.inl ⟨_, _, hst, ?_⟩
        repeat refine hX _ _ _ _ _ _ _ _ _ _ _ _ _ _ rfl ?_
        refine br_f (show ¬ b2i true = 0 by decide) ?_
        repeat refine hX _ _ _ _ _ _ _ _ _ _ _ _ _ _ rfl ?_
        refine Or.inl ⟨_, _, hin64 _, ?_⟩
        repeat refine hX _ _ _ _ _ _ _ _ _ _ _ _ _ _ rfl ?_
        refine br_t (show ¬ b2i true = 0 by decide) ?_
        repeat refine hX _ _ _ _ _ _ _ _ _ _ _ _ _ _ rfl ?_
        by_cases hz0 : z = 0
        · subst hz0
          refine br_f (show ¬ ¬ nI 0 = 0 by decide) ?_
          repeat refine hX _ _ _ _ _ _ _ _ _ _ _ _ _ _ rfl ?_
          refine ⟨vp_in_nI (by omega) (by decide), ?_⟩
          rw [nI_clamp (by omega)]
          rw [hyf]
          iterate 4 (refine hX _ _ _ _ _ _ _ _ _ _ _ _ _ _ rfl ?_)
          rw [aTo_0]
          exact h44
        · have : z = 1 := by omega
          subst this
          refine br_t (show ¬ nI 1 = 0 by decide) ?_
          repeat refine hX _ _ _ _ _ _ _ _ _ _ _ _ _ _ rfl ?_
          refine ⟨vp_in_nI (by omega) (by decide), ?_⟩
          rw [nI_clamp (by omega)]
          rw [hyf]
          iterate 3 (refine hX _ _ _ _ _ _ _ _ _ _ _ _ _ _ rfl ?_)
          rw [aTo_1]
          exact h44
      cases hmv : aMov (sT a) (sN a) s with
      | false =>
        rw [hmv] at hmo key
        refine ⟨m, key m ?_, hR⟩
        intro X hX
        repeat refine hX _ _ _ _ _ _ _ _ _ _ _ _ _ _ rfl ?_
        refine Or.inl ⟨_, _, hmo, ?_⟩
        repeat refine hX _ _ _ _ _ _ _ _ _ _ _ _ _ _ rfl ?_
        refine br_t (show b2i false = 0 from rfl) ?_
        repeat refine hX _ _ _ _ _ _ _ _ _ _ _ _ _ _ rfl ?_
        exact ⟨rfl, rfl⟩
      | true =>
        rw [hmv] at hmo key
        cases hit : inb (aTo a s (nI z)) (aNy (sT a)) with
        | false =>
          rw [hit] at hya key
          refine ⟨m, key m ?_, hR⟩
          intro X hX
          repeat refine hX _ _ _ _ _ _ _ _ _ _ _ _ _ _ rfl ?_
          refine Or.inl ⟨_, _, hmo, ?_⟩
          repeat refine hX _ _ _ _ _ _ _ _ _ _ _ _ _ _ rfl ?_
          refine br_f (show ¬ b2i true = 0 by decide) ?_
          repeat refine hX _ _ _ _ _ _ _ _ _ _ _ _ _ _ rfl ?_
          refine Or.inl ⟨_, _, hya, ?_⟩
          repeat refine hX _ _ _ _ _ _ _ _ _ _ _ _ _ _ rfl ?_
          refine br_t (show b2i false = 0 from rfl) ?_
          repeat refine hX _ _ _ _ _ _ _ _ _ _ _ _ _ _ rfl ?_
          exact ⟨rfl, rfl⟩
        | true =>
          rw [hit] at hya key
          by_cases h9 : aSin (sT a) (sN a) (aTo a s (nI z)) = -9
          · rw [decide_eq_true h9] at key ⊢
            obtain ⟨t, ht, hto⟩ := inb_of hit (by omega)
            refine ⟨s_mNow (s_mUndo (s_mBefore m (nB (mBefore m) (mNow m) (sK a))) (nI (hPk (sK a)))) (upd (mNow m) s (aTo a s (nI z))), key _ ?_, ⟨hR.1, ?_, hR.2.2.1, ⟨rfl, note_rel hA.1 hk10 hR.2.1 hH⟩, hR.2.2.2.2.1, hR.2.2.2.2.2.1, hR.2.2.2.2.2.2⟩⟩
            · intro X hX
              repeat refine hX _ _ _ _ _ _ _ _ _ _ _ _ _ _ rfl ?_
              refine Or.inl ⟨_, _, hmo, ?_⟩
              repeat refine hX _ _ _ _ _ _ _ _ _ _ _ _ _ _ rfl ?_
              refine br_f (show ¬ b2i true = 0 by decide) ?_
              repeat refine hX _ _ _ _ _ _ _ _ _ _ _ _ _ _ rfl ?_
              refine Or.inl ⟨_, _, hya, ?_⟩
              repeat refine hX _ _ _ _ _ _ _ _ _ _ _ _ _ _ rfl ?_
              refine br_f (show ¬ b2i true = 0 by decide) ?_
              repeat refine hX _ _ _ _ _ _ _ _ _ _ _ _ _ _ rfl ?_
              refine Or.inl ⟨_, _, hsi, ?_⟩
              repeat refine hX _ _ _ _ _ _ _ _ _ _ _ _ _ _ rfl ?_
              refine br_t (show aSin (sT a) (sN a) (aTo a s (nI z)) = -9 from h9) ?_
              repeat refine hX _ _ _ _ _ _ _ _ _ _ _ _ _ _ rfl ?_
              refine Or.inl ⟨_, _, hno, ?_⟩
              repeat refine hX _ _ _ _ _ _ _ _ _ _ _ _ _ _ rfl ?_
              refine ⟨vp_in_nI (by omega) (by decide), ?_⟩
              rw [nI_clamp (by omega)]
              repeat refine hX _ _ _ _ _ _ _ _ _ _ _ _ _ _ rfl ?_
              exact ⟨rfl, rfl⟩
            · refine ⟨?_, fun j hj => ?_, fun p hp => ⟨?_, ?_⟩⟩
              · show upd (mNow m) s _ 6 = _
                rw [pk_un (by omega)]; exact hN.1
              · show upd (mNow m) s (aTo a s (nI z)) (0 + j) = nI (aup (nYa (sN a)) s (aTo a s (nI z)).toNatClampNeg j)
                rw [hto, nI_clamp (by omega), Nat.zero_add]
                by_cases h : j = s
                · rw [h, pk_us, aup_s]
                · rw [pk_un h, aup_n _ _ h]; exact hN.2.1 j hj
              · show upd (mNow m) s _ (0 + 7 + p) = _
                rw [pk_un (by omega)]; exact (hR.2.1.2.2 p hp).1
              · show upd (mNow m) s _ (0 + 13 + p) = _
                rw [pk_un (by omega)]; exact (hR.2.1.2.2 p hp).2
          · rw [decide_eq_false h9] at key ⊢
            refine ⟨m, key m ?_, hR⟩
            intro X hX
            repeat refine hX _ _ _ _ _ _ _ _ _ _ _ _ _ _ rfl ?_
            refine Or.inl ⟨_, _, hmo, ?_⟩
            repeat refine hX _ _ _ _ _ _ _ _ _ _ _ _ _ _ rfl ?_
            refine br_f (show ¬ b2i true = 0 by decide) ?_
            repeat refine hX _ _ _ _ _ _ _ _ _ _ _ _ _ _ rfl ?_
            refine Or.inl ⟨_, _, hya, ?_⟩
            repeat refine hX _ _ _ _ _ _ _ _ _ _ _ _ _ _ rfl ?_
            refine br_f (show ¬ b2i true = 0 by decide) ?_
            repeat refine hX _ _ _ _ _ _ _ _ _ _ _ _ _ _ rfl ?_
            refine Or.inl ⟨_, _, hsi, ?_⟩
            repeat refine hX _ _ _ _ _ _ _ _ _ _ _ _ _ _ rfl ?_
            refine br_f (show ¬ aSin (sT a) (sN a) (aTo a s (nI z)) = -9 from h9) ?_
            repeat refine hX _ _ _ _ _ _ _ _ _ _ _ _ _ _ rfl ?_
            exact ⟨rfl, rfl⟩
end
section
theorem m_undo (S : zS) (d : Nat) (hc : List zC) (m : mS) {a : aS} (hA : AWf a) (hR : MRel m a) : ∃ m', Ex S (d + 1) 0 0 127 [.ref 1000] (hc, hM m) (some (.int (spUndo a).1)) (hc, hM m') ∧ MRel m' (spUndo a).2 := by
  obtain ⟨hk10, -⟩ := hA.2.2.2.1
  obtain ⟨hkn, hH⟩ := hR.2.2.2.1
  unfold spUndo
  by_cases h0 : sK a = 0
  · rw [if_pos h0]
    refine ⟨m, ?_, hR⟩
    (refine exI rfl rfl ?_; intro X hX)
    repeat refine hX _ _ _ _ _ _ _ _ _ _ _ _ _ _ rfl ?_
    rw [hkn, h0]
    refine br_f (show ¬ ¬ nI 0 = 0 by decide) ?_
    repeat refine hX _ _ _ _ _ _ _ _ _ _ _ _ _ _ rfl ?_
    exact ⟨rfl, rfl⟩
  · rw [if_neg h0]
    obtain ⟨k, hk⟩ : ∃ k, sK a = k + 1 := ⟨sK a - 1, by omega⟩
    rw [hk] at hkn
    rw [show sK a - 1 = k by omega]
    refine ⟨s_mNow (s_mUndo m (nI k)) (cpf (fun j => mBefore m (19 * k + j)) (mNow m) 19), ?_, ⟨hR.1, ?_, hR.2.2.1, ⟨rfl, fun j hj => hH j (Nat.lt_of_lt_of_le (show j < k from hj) (by omega))⟩, hR.2.2.2.2.1, hR.2.2.2.2.2.1, hR.2.2.2.2.2.2⟩⟩
    rotate_left
    · refine MRow_of hA.1 (hH k (by omega)) (fun i hi => ?_)
      show cpf (fun j => mBefore m (19 * k + j)) (mNow m) 19 (0 + i) = _
      rw [Nat.zero_add, cpf, if_pos hi]
    · (refine exI rfl rfl ?_; intro X hX)
      have loop : ∀ (q i : Nat), i + q = 19 → X 22 [some (.ref 1000), some (.int (nI i))] [] (hc, hM (s_mNow (s_mUndo m (nI k)) (cpf (fun j => mBefore m (19 * k + j)) (mNow m) i))) 0 0 := by
        intro q
        induction q with
        | zero =>
          intro i hi
          have : i = 19 := by omega
          subst this
          repeat refine hX _ _ _ _ _ _ _ _ _ _ _ _ _ _ rfl ?_
          refine br_t (show nI 19 ≤ nI 19 from nI_le (by omega) (by decide)) ?_
          repeat refine hX _ _ _ _ _ _ _ _ _ _ _ _ _ _ rfl ?_
          exact ⟨rfl, rfl⟩
        | succ q ih =>
          intro i hi
          repeat refine hX _ _ _ _ _ _ _ _ _ _ _ _ _ _ rfl ?_
          refine br_f (show ¬ nI 19 ≤ nI i from nI_ge (by omega) (by decide)) ?_
          repeat refine hX _ _ _ _ _ _ _ _ _ _ _ _ _ _ rfl ?_
          rw [i19]
          refine ⟨vp_in_nI (by omega) (by decide), ?_⟩
          rw [nI_clamp (by omega)]
          repeat refine hX _ _ _ _ _ _ _ _ _ _ _ _ _ _ rfl ?_
          refine ⟨vp_in_nI (by omega) (by decide), ?_⟩
          rw [nI_clamp (by omega)]
          iterate 2 (refine hX _ _ _ _ _ _ _ _ _ _ _ _ _ _ rfl ?_)
          rw [nI_1]
          have h7 := ih (i + 1) (by omega)
          rw [← cpf_s] at h7
          exact h7
      repeat refine hX _ _ _ _ _ _ _ _ _ _ _ _ _ _ rfl ?_
      rw [hkn]
      refine br_t (show ¬ nI (k + 1) = 0 from nI_ne0 (by omega) (by omega)) ?_
      iterate 6 (refine hX _ _ _ _ _ _ _ _ _ _ _ _ _ _ rfl ?_)
      rw [hkn, nI_pred]
      iterate 2 (refine hX _ _ _ _ _ _ _ _ _ _ _ _ _ _ rfl ?_)
      have h8 := loop 19 0 (by omega)
      rw [cpf_0] at h8
      exact h8
theorem q_img : ∀ k0 k1 : Bool, ∀ x, x < 2 → nI (k0.toNat + 2 * k1.toNat) ||| (1 <<< (nI x &&& 31)) = nI ((aup (fun i => bif decide (i = 0) then k0 else k1) x true 0).toNat + 2 * (aup (fun i => bif decide (i = 0) then k0 else k1) x true 1).toNat) := by decide
theorem q_imh : ∀ k0 k1 : Bool, ∀ x, x < 2 → zhas (nI (k0.toNat + 2 * k1.toNat)) (nI x) = (bif decide (x = 0) then k0 else k1) := by decide
theorem m_keep (S : zS) (d : Nat) (hc : List zC) (m : mS) {a : aS} (hA : AWf a) (hR : MRel m a) (x : Int32) : ∃ m', Ex S (d + 2) 0 0 146 [.ref 1000, .int x] (hc, hM m) (some (.int (spKeep a x).1)) (hc, hM m') ∧ MRel m' (spKeep a x).2 := by
  have hbc := fun h => m_ones S d h (nCo_lt hA.1 hA.2.1)
  have hin64 := fun h => m_in S d h x.toInt64 0 (lN 1)
  rw [in64c x (by decide)] at hin64
  obtain ⟨hmi, him⟩ := hR.2.2.2.2.1
  have hN := MRow_0 hR.2.1
  unfold spKeep
  cases hin : inb x 2 with
  | false =>
    rw [hin] at hin64
    refine ⟨m, ?_, hR⟩
    (refine exI rfl rfl ?_; intro X hX)
    repeat refine hX _ _ _ _ _ _ _ _ _ _ _ _ _ _ rfl ?_
    refine Or.inl ⟨_, _, hin64 _, ?_⟩
    repeat refine hX _ _ _ _ _ _ _ _ _ _ _ _ _ _ rfl ?_
    refine br_f (show ¬ ¬ b2i false = 0 by decide) ?_
    repeat refine hX _ _ _ _ _ _ _ _ _ _ _ _ _ _ rfl ?_
    exact ⟨rfl, rfl⟩
  | true =>
    rw [hin] at hin64
    obtain ⟨x, hx, rfl⟩ := inb_of hin (by decide)
    simp only [cond_true, nI_clamp (show x < 2 ^ 31 by omega)]
    have hor : nI ((sKe a 0).toNat + 2 * (sKe a 1).toNat) ||| (1 <<< (nI x &&& 31)) = nI ((aup (sKe a) x true 0).toNat + 2 * (aup (sKe a) x true 1).toNat) := by
      rw [q_img _ _ x hx]
      rcases (show x = 0 ∨ x = 1 by omega) with rfl | rfl <;> rfl
    refine ⟨s_mImaged (s_mImages m (cpo (mImages m) (mNow m) (19 * x) 19)) (nI ((aup (sKe a) x true 0).toNat + 2 * (aup (sKe a) x true 1).toNat)), ?_, ⟨hR.1, hR.2.1, hR.2.2.1, hR.2.2.2.1, ⟨rfl, fun i hi hk => ?_⟩, hR.2.2.2.2.2.1, hR.2.2.2.2.2.2⟩⟩
    rotate_left
    · show MRow (sT a) (cpo (mImages m) (mNow m) (19 * x) 19) (19 * i) (aup (sIm a) x (sN a) i)
      by_cases h : i = x
      · subst h
        rw [aup_s]
        refine MRow_of hA.1 hR.2.1 (fun q hq => ?_)
        unfold cpo
        rw [if_pos (by omega)]
        exact congrArg (mNow m) (by omega)
      · rw [aup_n _ _ h]
        have hk : aup (sKe a) x true i = true := hk
        rw [aup_n _ _ h] at hk
        refine MRow_of hA.1 (him i hi hk) (fun q hq => ?_)
        unfold cpo
        rw [if_neg (by omega)]
    · (refine exI rfl rfl ?_; intro X hX)
      have loop : ∀ (q i : Nat), i + q = 19 → X 14 [some (.ref 1000), some (.int (nI x)), some (.int (nI i))] [] (hc, hM (s_mImages m (cpo (mImages m) (mNow m) (19 * x) i))) 0 0 := by
        intro q
        induction q with
        | zero =>
          intro i hi
          have : i = 19 := by omega
          subst this
          repeat refine hX _ _ _ _ _ _ _ _ _ _ _ _ _ _ rfl ?_
          refine br_t (show nI 19 ≤ nI 19 from nI_le (by omega) (by decide)) ?_
          repeat refine hX _ _ _ _ _ _ _ _ _ _ _ _ _ _ rfl ?_
          rw [hmi, hor]
          refine ⟨by unfold vp_in; decide, ?_⟩
          rw [show (6 : Int32).toNatClampNeg = 6 from rfl]
          rw [hN.1]
          repeat refine hX _ _ _ _ _ _ _ _ _ _ _ _ _ _ rfl ?_
          refine Or.inl ⟨_, _, hbc _, ?_⟩
          repeat refine hX _ _ _ _ _ _ _ _ _ _ _ _ _ _ rfl ?_
          exact ⟨rfl, rfl⟩
        | succ q ih =>
          intro i hi
          repeat refine hX _ _ _ _ _ _ _ _ _ _ _ _ _ _ rfl ?_
          refine br_f (show ¬ nI 19 ≤ nI i from nI_ge (by omega) (by decide)) ?_
          repeat refine hX _ _ _ _ _ _ _ _ _ _ _ _ _ _ rfl ?_
          refine ⟨vp_in_nI (by omega) (by decide), ?_⟩
          rw [nI_clamp (by omega)]
          repeat refine hX _ _ _ _ _ _ _ _ _ _ _ _ _ _ rfl ?_
          rw [i19]
          refine ⟨vp_in_nI (by omega) (by decide), ?_⟩
          rw [nI_clamp (by omega)]
          iterate 2 (refine hX _ _ _ _ _ _ _ _ _ _ _ _ _ _ rfl ?_)
          rw [nI_1]
          have h7 := ih (i + 1) (by omega)
          rw [← cpo_s] at h7
          exact h7
      repeat refine hX _ _ _ _ _ _ _ _ _ _ _ _ _ _ rfl ?_
      refine Or.inl ⟨_, _, hin64 _, ?_⟩
      repeat refine hX _ _ _ _ _ _ _ _ _ _ _ _ _ _ rfl ?_
      refine br_t (show ¬ b2i true = 0 by decide) ?_
      iterate 2 (refine hX _ _ _ _ _ _ _ _ _ _ _ _ _ _ rfl ?_)
      have h8 := loop 19 0 (by omega)
      rw [cpo_0] at h8
      exact h8
theorem m_back (S : zS) (d : Nat) (hc : List zC) (m : mS) {a : aS} (hA : AWf a) (hR : MRel m a) (x : Int32) : ∃ m', Ex S (d + 2) 0 0 147 [.ref 1000, .int x] (hc, hM m) (some (.int (spBack a x).1)) (hc, hM m') ∧ MRel m' (spBack a x).2 := by
  have hin64 := fun h => m_in S d h x.toInt64 0 (lN 1)
  rw [in64c x (by decide)] at hin64
  obtain ⟨hmi, him⟩ := hR.2.2.2.2.1
  unfold spBack
  cases hin : inb x 2 with
  | false =>
    rw [hin] at hin64
    refine ⟨m, ?_, hR⟩
    (refine exI rfl rfl ?_; intro X hX)
    repeat refine hX _ _ _ _ _ _ _ _ _ _ _ _ _ _ rfl ?_
    refine Or.inl ⟨_, _, hin64 _, ?_⟩
    repeat refine hX _ _ _ _ _ _ _ _ _ _ _ _ _ _ rfl ?_
    refine br_f (show ¬ ¬ b2i false = 0 by decide) ?_
    repeat refine hX _ _ _ _ _ _ _ _ _ _ _ _ _ _ rfl ?_
    exact ⟨rfl, rfl⟩
  | true =>
    rw [hin] at hin64
    obtain ⟨x, hx, rfl⟩ := inb_of hin (by decide)
    simp only [cond_true, nI_clamp (show x < 2 ^ 31 by omega)]
    have hha := fun h => m_has S d h (nI ((sKe a 0).toNat + 2 * (sKe a 1).toNat)) (nI x)
    have hke : zhas (nI ((sKe a 0).toNat + 2 * (sKe a 1).toNat)) (nI x) = sKe a x := by
      rw [q_imh _ _ x hx]
      rcases (show x = 0 ∨ x = 1 by omega) with rfl | rfl <;> rfl
    rw [hke] at hha
    cases hk : sKe a x with
    | false =>
      rw [hk] at hha
      refine ⟨m, ?_, hR⟩
      (refine exI rfl rfl ?_; intro X hX)
      repeat refine hX _ _ _ _ _ _ _ _ _ _ _ _ _ _ rfl ?_
      refine Or.inl ⟨_, _, hin64 _, ?_⟩
      repeat refine hX _ _ _ _ _ _ _ _ _ _ _ _ _ _ rfl ?_
      refine br_t (show ¬ b2i true = 0 by decide) ?_
      repeat refine hX _ _ _ _ _ _ _ _ _ _ _ _ _ _ rfl ?_
      rw [hmi]
      refine Or.inl ⟨_, _, hha _, ?_⟩
      repeat refine hX _ _ _ _ _ _ _ _ _ _ _ _ _ _ rfl ?_
      refine br_f (show ¬ ¬ b2i false = 0 by decide) ?_
      repeat refine hX _ _ _ _ _ _ _ _ _ _ _ _ _ _ rfl ?_
      exact ⟨rfl, rfl⟩
    | true =>
      rw [hk] at hha
      have hWi := hA.2.2.2.2.1 x hx hk
      have hbc := fun h => m_ones S d h (nCo_lt hA.1 hWi)
      have hrow : MRow (sT a) (cpf (fun j => mImages m (19 * x + j)) (mNow m) 19) 0 (sIm a x) := by
        refine MRow_of hA.1 (him x hx hk) (fun i hi => ?_)
        rw [Nat.zero_add, cpf, if_pos hi]
      refine ⟨s_mUndo (s_mNow m (cpf (fun j => mImages m (19 * x + j)) (mNow m) 19)) 0, ?_, ⟨hR.1, hrow, hR.2.2.1, ⟨rfl, fun j hj => absurd hj (Nat.not_lt_zero j)⟩, hR.2.2.2.2.1, hR.2.2.2.2.2.1, hR.2.2.2.2.2.2⟩⟩
      have h6 : mNow (s_mNow m (cpf (fun j => mImages m (19 * x + j)) (mNow m) 19)) 6 = nI (nCo (sIm a x)) := (MRow_0 hrow).1
      (refine exI rfl rfl ?_; intro X hX)
      have loop : ∀ (q i : Nat), i + q = 19 → X 28 [some (.ref 1000), some (.int (nI x)), some (.int (nI i))] [] (hc, hM (s_mNow m (cpf (fun j => mImages m (19 * x + j)) (mNow m) i))) 0 0 := by
        intro q
        induction q with
        | zero =>
          intro i hi
          have : i = 19 := by omega
          subst this
          repeat refine hX _ _ _ _ _ _ _ _ _ _ _ _ _ _ rfl ?_
          refine br_t (show nI 19 ≤ nI 19 from nI_le (by omega) (by decide)) ?_
          repeat refine hX _ _ _ _ _ _ _ _ _ _ _ _ _ _ rfl ?_
          refine ⟨by unfold vp_in; decide, ?_⟩
          rw [show (6 : Int32).toNatClampNeg = 6 from rfl]
          rw [h6]
          repeat refine hX _ _ _ _ _ _ _ _ _ _ _ _ _ _ rfl ?_
          refine Or.inl ⟨_, _, hbc _, ?_⟩
          repeat refine hX _ _ _ _ _ _ _ _ _ _ _ _ _ _ rfl ?_
          exact ⟨rfl, rfl⟩
        | succ q ih =>
          intro i hi
          repeat refine hX _ _ _ _ _ _ _ _ _ _ _ _ _ _ rfl ?_
          refine br_f (show ¬ nI 19 ≤ nI i from nI_ge (by omega) (by decide)) ?_
          repeat refine hX _ _ _ _ _ _ _ _ _ _ _ _ _ _ rfl ?_
          rw [i19]
          refine ⟨vp_in_nI (by omega) (by decide), ?_⟩
          rw [nI_clamp (by omega)]
          repeat refine hX _ _ _ _ _ _ _ _ _ _ _ _ _ _ rfl ?_
          refine ⟨vp_in_nI (by omega) (by decide), ?_⟩
          rw [nI_clamp (by omega)]
          iterate 2 (refine hX _ _ _ _ _ _ _ _ _ _ _ _ _ _ rfl ?_)
          rw [nI_1]
          have h7 := ih (i + 1) (by omega)
          rw [← cpf_s] at h7
          exact h7
      repeat refine hX _ _ _ _ _ _ _ _ _ _ _ _ _ _ rfl ?_
      refine Or.inl ⟨_, _, hin64 _, ?_⟩
      repeat refine hX _ _ _ _ _ _ _ _ _ _ _ _ _ _ rfl ?_
      refine br_t (show ¬ b2i true = 0 by decide) ?_
      repeat refine hX _ _ _ _ _ _ _ _ _ _ _ _ _ _ rfl ?_
      rw [hmi]
      refine Or.inl ⟨_, _, hha _, ?_⟩
      repeat refine hX _ _ _ _ _ _ _ _ _ _ _ _ _ _ rfl ?_
      refine br_t (show ¬ b2i true = 0 by decide) ?_
      iterate 2 (refine hX _ _ _ _ _ _ _ _ _ _ _ _ _ _ rfl ?_)
      have h8 := loop 19 0 (by omega)
      rw [cpf_0] at h8
      exact h8
end
section
/-! ===== the reference: the fewest who must come, the fewest pulls ===== -/
theorem m_gather (S : zS) (d : Nat) (hc : List zC) (m : mS) {a : aS} (hA : AWf a) (hR : MRel m a) (x : Int32) : Ex S (d + 4) 0 0 128 [.ref 1000, .int x] (hc, hM m) (some (.int (spGather a x))) (hc, hM m) := by
  have hns := hA.1.2.2.2.1
  have hnp := hA.1.2.2.2.2.1
  have h64 := pow_le64 hnp
  have h64s := pow_le64 hns
  have hn := hR.1.2.1
  have hp := hR.1.2.2.1
  have hbc := fun h (x : Nat) (hx : x < 64) => m_ones S (d + 2) h hx
  have e1 := q_shl (aNs (sT a)) (by omega)
  have e2 := q_shl (aNp (sT a)) (by omega)
  have hin64 := fun h => m_in S (d + 2) h x.toInt64 0 (nI (2 ^ aNs (sT a)) - 1).toInt64
  rw [in64 x (by omega)] at hin64
  unfold spGather
  cases hin : inb x (2 ^ aNs (sT a)) with
  | false =>
    rw [hin] at hin64
    (refine exI rfl rfl ?_; intro X hX)
    repeat refine hX _ _ _ _ _ _ _ _ _ _ _ _ _ _ rfl ?_
    refine ⟨by unfold vp_in; decide, ?_⟩
    rw [show (1 : Int32).toNatClampNeg = 1 from rfl]
    rw [hn]
    iterate 2 (refine hX _ _ _ _ _ _ _ _ _ _ _ _ _ _ rfl ?_)
    rw [e1]
    repeat refine hX _ _ _ _ _ _ _ _ _ _ _ _ _ _ rfl ?_
    refine Or.inl ⟨_, _, hin64 _, ?_⟩
    repeat refine hX _ _ _ _ _ _ _ _ _ _ _ _ _ _ rfl ?_
    refine br_f (show ¬ ¬ b2i false = 0 by decide) ?_
    repeat refine hX _ _ _ _ _ _ _ _ _ _ _ _ _ _ rfl ?_
    exact ⟨rfl, rfl⟩
  | true =>
    rw [hin] at hin64
    obtain ⟨set, hset, rfl⟩ := inb_of hin (by omega)
    simp only [cond_true, nI_clamp (show set < 2 ^ 31 by omega)]
    have hwr := fun j (hj : j < aNs (sT a)) => m_wronged S d hc m hA.1 hR.1 hA.2.1 hR.2.1 hj
    have hwl := fun j => aWr_lt hA.1 (sN a) j
    have hst := fun (x : Nat) (hx : x < 64) => m_strength S (d + 1) hc m hA.1 hR.1 hx
    have hhas := fun h j (hj : j < 6) => m_hasX S (d + 2) h (show set < 64 by omega) hj
    have h5 := fun j hj => (hR.1.2.2.2.2.1 j hj).1
    (refine exI rfl rfl ?_; intro X hX)
    have loop : ∀ (k n : Nat) (v4 v5 : Option Value), n + k = 2 ^ aNp (sT a) → ((v4 = none ∧ v5 = none) ∨ ∃ y z, v4 = some (.int y) ∧ v5 = some (.int z)) → X 27 [some (.ref 1000), some (.int (nI set)), some (.int (oI (aGa (sT a) (sN a) set n))), some (.int (nI n)), v4, v5] [] (hc, hM m) 0 0 := by
      intro k
      induction k with
      | zero =>
        intro n v4 v5 hnk hv
        repeat refine hX _ _ _ _ _ _ _ _ _ _ _ _ _ _ rfl ?_
        refine ⟨by unfold vp_in; decide, ?_⟩
        rw [show (2 : Int32).toNatClampNeg = 2 from rfl]
        rw [hp]
        iterate 2 (refine hX _ _ _ _ _ _ _ _ _ _ _ _ _ _ rfl ?_)
        rw [e2]
        refine br_t (show nI (2 ^ aNp (sT a)) ≤ nI n from nI_le (by omega) (by omega)) ?_
        repeat refine hX _ _ _ _ _ _ _ _ _ _ _ _ _ _ rfl ?_
        exact ⟨by rw [show n = 2 ^ aNp (sT a) by omega], rfl⟩
      | succ k ih =>
        intro n v4 v5 hnk hv
        have inner : ∀ (q j : Nat), j + q = aNs (sT a) → X 66 [some (.ref 1000), some (.int (nI set)), some (.int (oI (aGa (sT a) (sN a) set n))), some (.int (nI n)), some (.int (b2i (oFew (aGa (sT a) (sN a) set n) n && aAll (sT a) (sN a) n set j))), some (.int (nI j))] [] (hc, hM m) 0 0 := by
          intro q
          induction q with
          | zero =>
            intro j hj
            have h7 := fun v4 => ih (n + 1) (some (.int v4)) (some (.int (nI j))) (by omega) (Or.inr ⟨_, _, rfl, rfl⟩)
            rw [aGa] at h7
            repeat refine hX _ _ _ _ _ _ _ _ _ _ _ _ _ _ rfl ?_
            refine ⟨by unfold vp_in; decide, ?_⟩
            rw [show (1 : Int32).toNatClampNeg = 1 from rfl]
            rw [hn]
            repeat refine hX _ _ _ _ _ _ _ _ _ _ _ _ _ _ rfl ?_
            refine br_t (show nI (aNs (sT a)) ≤ nI j from nI_le (by omega) (by omega)) ?_
            repeat refine hX _ _ _ _ _ _ _ _ _ _ _ _ _ _ rfl ?_
            rw [← show j = aNs (sT a) by omega] at h7
            cases hb : (oFew (aGa (sT a) (sN a) set n) n && aAll (sT a) (sN a) n set j) with
            | false =>
              rw [hb] at h7
              refine br_t (show b2i false = 0 from rfl) ?_
              iterate 4 (refine hX _ _ _ _ _ _ _ _ _ _ _ _ _ _ rfl ?_)
              rw [nI_1]
              exact h7 _
            | true =>
              rw [hb] at h7
              refine br_f (show ¬ b2i true = 0 by decide) ?_
              iterate 5 (refine hX _ _ _ _ _ _ _ _ _ _ _ _ _ _ rfl ?_)
              rw [nI_1]
              exact h7 _
          | succ q ihq =>
            intro j hj
            have hwe := (hA.1.2.2.2.2.2.1 j (by omega)).2.1
            have hsl := aStr_le hA.1 (aWr (sT a) (sN a) j &&& n)
            have h7 := ihq (j + 1) (by omega)
            rw [aAll, ← Bool.and_assoc] at h7
            repeat refine hX _ _ _ _ _ _ _ _ _ _ _ _ _ _ rfl ?_
            refine ⟨by unfold vp_in; decide, ?_⟩
            rw [show (1 : Int32).toNatClampNeg = 1 from rfl]
            rw [hn]
            repeat refine hX _ _ _ _ _ _ _ _ _ _ _ _ _ _ rfl ?_
            refine br_f (show ¬ nI (aNs (sT a)) ≤ nI j from nI_ge (by omega) (by omega)) ?_
            repeat refine hX _ _ _ _ _ _ _ _ _ _ _ _ _ _ rfl ?_
            cases hb : (oFew (aGa (sT a) (sN a) set n) n && aAll (sT a) (sN a) n set j) with
            | false =>
              rw [hb, Bool.false_and] at h7
              refine br_t (show b2i false = 0 from rfl) ?_
              iterate 4 (refine hX _ _ _ _ _ _ _ _ _ _ _ _ _ _ rfl ?_)
              rw [nI_1]
              exact h7
            | true =>
              rw [hb, Bool.true_and] at h7
              refine br_f (show ¬ b2i true = 0 by decide) ?_
              repeat refine hX _ _ _ _ _ _ _ _ _ _ _ _ _ _ rfl ?_
              refine Or.inl ⟨_, _, hhas _ j (by omega), ?_⟩
              repeat refine hX _ _ _ _ _ _ _ _ _ _ _ _ _ _ rfl ?_
              cases hb2 : set.testBit j with
              | false =>
                rw [hb2] at h7
                refine br_t (show b2i false = 0 from rfl) ?_
                iterate 5 (refine hX _ _ _ _ _ _ _ _ _ _ _ _ _ _ rfl ?_)
                rw [nI_1]
                exact h7
              | true =>
                rw [hb2] at h7
                refine br_f (show ¬ b2i true = 0 by decide) ?_
                repeat refine hX _ _ _ _ _ _ _ _ _ _ _ _ _ _ rfl ?_
                refine Or.inl ⟨_, _, hwr j (by omega), ?_⟩
                iterate 3 (refine hX _ _ _ _ _ _ _ _ _ _ _ _ _ _ rfl ?_)
                rw [q_and _ (hwl j) _ (show n < 64 by omega)]
                refine Or.inl ⟨_, _, hst _ (q_and_lt (hwl j)), ?_⟩
                repeat refine hX _ _ _ _ _ _ _ _ _ _ _ _ _ _ rfl ?_
                rw [show (4 : Int32) + nI j = nI (4 + j) from nI_add 4 j]
                refine ⟨vp_in_nI (by omega) (by decide), ?_⟩
                rw [nI_clamp (by omega)]
                rw [h5 j (by omega)]
                repeat refine hX _ _ _ _ _ _ _ _ _ _ _ _ _ _ rfl ?_
                rw [Nat.and_comm n] at h7
                by_cases hle : aWe (sT a) j ≤ aStr (sT a) (aWr (sT a) (sN a) j &&& n)
                · refine br_f (show ¬ nI (aStr (sT a) (aWr (sT a) (sN a) j &&& n)) < nI (aWe (sT a) j) from nI_nlt hle (by omega)) ?_
                  rw [decide_eq_true hle] at h7
                  iterate 5 (refine hX _ _ _ _ _ _ _ _ _ _ _ _ _ _ rfl ?_)
                  rw [nI_1]
                  exact h7
                · refine br_t (show nI (aStr (sT a) (aWr (sT a) (sN a) j &&& n)) < nI (aWe (sT a) j) from nI_lt (by omega) (by omega)) ?_
                  rw [decide_eq_false hle] at h7
                  iterate 4 (refine hX _ _ _ _ _ _ _ _ _ _ _ _ _ _ rfl ?_)
                  rw [nI_1]
                  exact h7
        have h61 : X 61 [some (.ref 1000), some (.int (nI set)), some (.int (oI (aGa (sT a) (sN a) set n))), some (.int (nI n)), v4, v5] [.int (b2i (oFew (aGa (sT a) (sN a) set n) n))] (hc, hM m) 0 0 := by
          have h7 := inner (aNs (sT a)) 0 (by omega)
          rw [aAll, Bool.and_true] at h7
          rcases hv with ⟨rfl, rfl⟩ | ⟨z1, z2, rfl, rfl⟩
          all_goals
            iterate 3 (refine hX _ _ _ _ _ _ _ _ _ _ _ _ _ _ rfl ?_)
            exact h7
        repeat refine hX _ _ _ _ _ _ _ _ _ _ _ _ _ _ rfl ?_
        refine ⟨by unfold vp_in; decide, ?_⟩
        rw [show (2 : Int32).toNatClampNeg = 2 from rfl]
        rw [hp]
        iterate 2 (refine hX _ _ _ _ _ _ _ _ _ _ _ _ _ _ rfl ?_)
        rw [e2]
        refine br_f (show ¬ nI (2 ^ aNp (sT a)) ≤ nI n from nI_ge (by omega) (by omega)) ?_
        repeat refine hX _ _ _ _ _ _ _ _ _ _ _ _ _ _ rfl ?_
        cases ho : aGa (sT a) (sN a) set n with
        | none =>
          rw [ho] at h61
          refine br_t (show oI none = -9 from rfl) ?_
          iterate 2 (refine hX _ _ _ _ _ _ _ _ _ _ _ _ _ _ rfl ?_)
          exact h61
        | some b =>
          have hbn := aGa_lt n b ho
          have hl1 := pop_le n
          have hl2 := pop_le b
          rw [ho] at h61
          refine br_f (show ¬ nI b = -9 from n9 b (by omega)) ?_
          repeat refine hX _ _ _ _ _ _ _ _ _ _ _ _ _ _ rfl ?_
          refine Or.inl ⟨_, _, hbc _ n (by omega), ?_⟩
          repeat refine hX _ _ _ _ _ _ _ _ _ _ _ _ _ _ rfl ?_
          refine Or.inl ⟨_, _, hbc _ b (by omega), ?_⟩
          repeat refine hX _ _ _ _ _ _ _ _ _ _ _ _ _ _ rfl ?_
          by_cases hl : pop n < pop b
          · refine br_f (show ¬ nI (pop b) ≤ nI (pop n) from nI_ge hl (by omega)) ?_
            rw [show oFew (some b) n = true from decide_eq_true hl] at h61
            iterate 2 (refine hX _ _ _ _ _ _ _ _ _ _ _ _ _ _ rfl ?_)
            exact h61
          · refine br_t (show nI (pop b) ≤ nI (pop n) from nI_le (by omega) (by omega)) ?_
            rw [show oFew (some b) n = false from decide_eq_false hl] at h61
            iterate 1 (refine hX _ _ _ _ _ _ _ _ _ _ _ _ _ _ rfl ?_)
            exact h61
    repeat refine hX _ _ _ _ _ _ _ _ _ _ _ _ _ _ rfl ?_
    refine ⟨by unfold vp_in; decide, ?_⟩
    rw [show (1 : Int32).toNatClampNeg = 1 from rfl]
    rw [hn]
    iterate 2 (refine hX _ _ _ _ _ _ _ _ _ _ _ _ _ _ rfl ?_)
    rw [e1]
    repeat refine hX _ _ _ _ _ _ _ _ _ _ _ _ _ _ rfl ?_
    refine Or.inl ⟨_, _, hin64 _, ?_⟩
    repeat refine hX _ _ _ _ _ _ _ _ _ _ _ _ _ _ rfl ?_
    refine br_t (show ¬ b2i true = 0 by decide) ?_
    iterate 4 (refine hX _ _ _ _ _ _ _ _ _ _ _ _ _ _ rfl ?_)
    exact loop (2 ^ aNp (sT a)) 0 none none (by omega) (Or.inl ⟨rfl, rfl⟩)
theorem m_bareU (S : zS) (d : Nat) (hc : List zC) (m : mS) {A : aT} {N : aN} (hA : TWf A) (hT : MTold (mTold m) A) (hW : NWf A N) (hN : MRow A (mNow m) 0 N) {y : Nat} (hy : y < aNy A) : Ex S (d + 6) 0 0 129 [.ref 1000, .int (nI y), .int 1] (hc, hM m) (some (.int (aBrU A N (aNy A - y) 0 y))) (hc, hM m) := by
  have hns := hA.2.2.2.1
  have hny := hA.2.1
  have hya := fun x => m_isYard S (d + 3) hc m hA hT x
  have hsn := fun x => m_statueIn S (d + 4) hc m hA hT hW hN x
  have hmo := fun j (hj : j < aNs A) => m_moves S d hc m hA hT hW hN hj
  (refine exI rfl rfl ?_; intro X hX)
  have loop : ∀ (n p : Nat) (v5 : Option Value), y + p + n = aNy A → (v5 = none ∨ ∃ z, v5 = some (.int z)) → aBrU A N n p (y + p) = aBrU A N (aNy A - y) 0 y → X 5 [some (.ref 1000), some (.int (nI y)), some (.int 1), some (.int (nI p)), some (.int (nI (y + p))), v5] [] (hc, hM m) 0 0 := by
    intro n
    induction n with
    | zero =>
      intro p v5 hp hv he
      have hf := hya (nI (y + p))
      have hnb : inb (nI (y + p)) (aNy A) = false := by
        unfold inb
        rw [decide_eq_false (nI_nlt (show aNy A ≤ y + p by omega) (by omega)), Bool.and_false]
      rw [hnb] at hf
      repeat refine hX _ _ _ _ _ _ _ _ _ _ _ _ _ _ rfl ?_
      refine Or.inl ⟨_, _, hf, ?_⟩
      repeat refine hX _ _ _ _ _ _ _ _ _ _ _ _ _ _ rfl ?_
      refine br_t (show b2i false = 0 from rfl) ?_
      repeat refine hX _ _ _ _ _ _ _ _ _ _ _ _ _ _ rfl ?_
      exact ⟨by rw [← he]; rfl, rfl⟩
    | succ n ih =>
      intro p v5 hp hv he
      have hf := hya (nI (y + p))
      rw [inb_nI (show y + p < aNy A by omega) (by omega)] at hf
      rw [aBrU] at he
      rcases hv with rfl | ⟨z, rfl⟩
      all_goals
        repeat refine hX _ _ _ _ _ _ _ _ _ _ _ _ _ _ rfl ?_
        refine Or.inl ⟨_, _, hf, ?_⟩
        repeat refine hX _ _ _ _ _ _ _ _ _ _ _ _ _ _ rfl ?_
        refine br_f (show ¬ b2i true = 0 by decide) ?_
        repeat refine hX _ _ _ _ _ _ _ _ _ _ _ _ _ _ rfl ?_
        refine Or.inl ⟨_, _, hsn _, ?_⟩
        repeat refine hX _ _ _ _ _ _ _ _ _ _ _ _ _ _ rfl ?_
        by_cases h9 : aSin A N (nI (y + p)) = -9
        · rw [if_pos h9] at he
          refine br_f (show ¬ ¬ aSin A N (nI (y + p)) = -9 from fun h => h h9) ?_
          repeat refine hX _ _ _ _ _ _ _ _ _ _ _ _ _ _ rfl ?_
          exact ⟨by rw [← he], rfl⟩
        · rw [if_neg h9] at he
          refine br_t (show ¬ aSin A N (nI (y + p)) = -9 from h9) ?_
          obtain ⟨j, hj, hsj⟩ := aSin_some hA h9
          have hmj := hmo j hj
          have hat : aMvAt A N (y + p) = aMov A N j := by unfold aMvAt; rw [hsj, nI_clamp (by omega)]
          rw [hat] at he
          have h7 := ih (p + 1) (some (.int (aSin A N (nI (y + p))))) (by omega) (Or.inr ⟨_, rfl⟩)
          rw [hsj] at h7 ⊢
          repeat refine hX _ _ _ _ _ _ _ _ _ _ _ _ _ _ rfl ?_
          refine Or.inl ⟨_, _, hmj, ?_⟩
          repeat refine hX _ _ _ _ _ _ _ _ _ _ _ _ _ _ rfl ?_
          cases hb : aMov A N j with
          | false =>
            rw [hb] at he
            refine br_f (show ¬ ¬ b2i false = 0 by decide) ?_
            repeat refine hX _ _ _ _ _ _ _ _ _ _ _ _ _ _ rfl ?_
            exact ⟨by rw [← he]; rfl, rfl⟩
          | true =>
            rw [hb] at he
            refine br_t (show ¬ b2i true = 0 by decide) ?_
            iterate 6 (refine hX _ _ _ _ _ _ _ _ _ _ _ _ _ _ rfl ?_)
            rw [nI_1, nI_1]
            exact h7 he
  iterate 4 (refine hX _ _ _ _ _ _ _ _ _ _ _ _ _ _ rfl ?_)
  exact loop (aNy A - y) 0 none (by omega) (Or.inl rfl) rfl
theorem m_bareD (S : zS) (d : Nat) (hc : List zC) (m : mS) {A : aT} {N : aN} (hA : TWf A) (hT : MTold (mTold m) A) (hW : NWf A N) (hN : MRow A (mNow m) 0 N) {y : Nat} (hy : y < aNy A) : Ex S (d + 6) 0 0 129 [.ref 1000, .int (nI y), .int (-1)] (hc, hM m) (some (.int (aBrD A N (y + 1) 0))) (hc, hM m) := by
  have hns := hA.2.2.2.1
  have hny := hA.2.1
  have hya := fun x => m_isYard S (d + 3) hc m hA hT x
  have hsn := fun x => m_statueIn S (d + 4) hc m hA hT hW hN x
  have hmo := fun j (hj : j < aNs A) => m_moves S d hc m hA hT hW hN hj
  (refine exI rfl rfl ?_; intro X hX)
  have loop : ∀ (f p : Nat) (v5 : Option Value), f + p = y + 1 → (v5 = none ∨ ∃ z, v5 = some (.int z)) → aBrD A N f p = aBrD A N (y + 1) 0 → X 5 [some (.ref 1000), some (.int (nI y)), some (.int (-1)), some (.int (nI p)), some (.int (nI f - 1)), v5] [] (hc, hM m) 0 0 := by
    intro f
    induction f with
    | zero =>
      intro p v5 hp hv he
      have hf := hya (-1)
      rw [show inb (-1) (aNy A) = false from rfl] at hf
      rw [show nI 0 - 1 = -1 from rfl]
      repeat refine hX _ _ _ _ _ _ _ _ _ _ _ _ _ _ rfl ?_
      refine Or.inl ⟨_, _, hf, ?_⟩
      repeat refine hX _ _ _ _ _ _ _ _ _ _ _ _ _ _ rfl ?_
      refine br_t (show b2i false = 0 from rfl) ?_
      repeat refine hX _ _ _ _ _ _ _ _ _ _ _ _ _ _ rfl ?_
      exact ⟨by rw [← he]; rfl, rfl⟩
    | succ f ih =>
      intro p v5 hp hv he
      have hf := hya (nI f)
      rw [inb_nI (show f < aNy A by omega) (by omega)] at hf
      rw [aBrD] at he
      rw [nI_pred]
      rcases hv with rfl | ⟨z, rfl⟩
      all_goals
        repeat refine hX _ _ _ _ _ _ _ _ _ _ _ _ _ _ rfl ?_
        refine Or.inl ⟨_, _, hf, ?_⟩
        repeat refine hX _ _ _ _ _ _ _ _ _ _ _ _ _ _ rfl ?_
        refine br_f (show ¬ b2i true = 0 by decide) ?_
        repeat refine hX _ _ _ _ _ _ _ _ _ _ _ _ _ _ rfl ?_
        refine Or.inl ⟨_, _, hsn _, ?_⟩
        repeat refine hX _ _ _ _ _ _ _ _ _ _ _ _ _ _ rfl ?_
        by_cases h9 : aSin A N (nI f) = -9
        · rw [if_pos h9] at he
          refine br_f (show ¬ ¬ aSin A N (nI f) = -9 from fun h => h h9) ?_
          repeat refine hX _ _ _ _ _ _ _ _ _ _ _ _ _ _ rfl ?_
          exact ⟨by rw [← he], rfl⟩
        · rw [if_neg h9] at he
          refine br_t (show ¬ aSin A N (nI f) = -9 from h9) ?_
          obtain ⟨j, hj, hsj⟩ := aSin_some hA h9
          have hmj := hmo j hj
          have hat : aMvAt A N f = aMov A N j := by unfold aMvAt; rw [hsj, nI_clamp (by omega)]
          rw [hat] at he
          have h7 := ih (p + 1) (some (.int (aSin A N (nI f)))) (by omega) (Or.inr ⟨_, rfl⟩)
          rw [hsj] at h7 ⊢
          repeat refine hX _ _ _ _ _ _ _ _ _ _ _ _ _ _ rfl ?_
          refine Or.inl ⟨_, _, hmj, ?_⟩
          repeat refine hX _ _ _ _ _ _ _ _ _ _ _ _ _ _ rfl ?_
          cases hb : aMov A N j with
          | false =>
            rw [hb] at he
            refine br_f (show ¬ ¬ b2i false = 0 by decide) ?_
            repeat refine hX _ _ _ _ _ _ _ _ _ _ _ _ _ _ rfl ?_
            exact ⟨by rw [← he]; rfl, rfl⟩
          | true =>
            rw [hb] at he
            refine br_t (show ¬ b2i true = 0 by decide) ?_
            iterate 6 (refine hX _ _ _ _ _ _ _ _ _ _ _ _ _ _ rfl ?_)
            rw [nI_1, ← Int32.sub_eq_add_neg]
            exact h7 he
  have h7 := loop (y + 1) 0 none (by omega) (Or.inl rfl) rfl
  rw [nI_pred] at h7
  iterate 4 (refine hX _ _ _ _ _ _ _ _ _ _ _ _ _ _ rfl ?_)
  exact h7
theorem m_bare (S : zS) (d : Nat) (hc : List zC) (m : mS) {A : aT} {N : aN} (hA : TWf A) (hT : MTold (mTold m) A) (hW : NWf A N) (hN : MRow A (mNow m) 0 N) (y w : Int32) : Ex S (d + 7) 0 0 130 [.ref 1000, .int y, .int w] (hc, hM m) (some (.int (spBare A N y w))) (hc, hM m) := by
  have hny := hA.2.1
  have hya := m_isYard S (d + 4) hc m hA hT y
  have hin64 := fun h => m_in S (d + 5) h w.toInt64 0 (lN 1)
  rw [in64c w (by decide)] at hin64
  unfold spBare
  cases hin : inb y (aNy A) with
  | false =>
    rw [hin] at hya
    (refine exI rfl rfl ?_; intro X hX)
    repeat refine hX _ _ _ _ _ _ _ _ _ _ _ _ _ _ rfl ?_
    refine Or.inl ⟨_, _, hya, ?_⟩
    repeat refine hX _ _ _ _ _ _ _ _ _ _ _ _ _ _ rfl ?_
    refine br_t (show b2i false = 0 from rfl) ?_
    repeat refine hX _ _ _ _ _ _ _ _ _ _ _ _ _ _ rfl ?_
    exact ⟨rfl, rfl⟩
  | true =>
    rw [hin] at hya
    obtain ⟨j, hj, rfl⟩ := inb_of hin (by omega)
    cases hiw : inb w 2 with
    | false =>
      rw [hiw] at hin64
      (refine exI rfl rfl ?_; intro X hX)
      repeat refine hX _ _ _ _ _ _ _ _ _ _ _ _ _ _ rfl ?_
      refine Or.inl ⟨_, _, hya, ?_⟩
      repeat refine hX _ _ _ _ _ _ _ _ _ _ _ _ _ _ rfl ?_
      refine br_f (show ¬ b2i true = 0 by decide) ?_
      repeat refine hX _ _ _ _ _ _ _ _ _ _ _ _ _ _ rfl ?_
      refine Or.inl ⟨_, _, hin64 _, ?_⟩
      repeat refine hX _ _ _ _ _ _ _ _ _ _ _ _ _ _ rfl ?_
      refine br_f (show ¬ ¬ b2i false = 0 by decide) ?_
      repeat refine hX _ _ _ _ _ _ _ _ _ _ _ _ _ _ rfl ?_
      exact ⟨rfl, rfl⟩
    | true =>
      rw [hiw] at hin64
      simp only [cond_true, Bool.and_self, nI_clamp (show j < 2 ^ 31 by omega)]
      have hbu := m_bareU S d hc m hA hT hW hN hj
      have hbd := m_bareD S d hc m hA hT hW hN hj
      generalize aBrU A N (aNy A - j) 0 j = up at hbu ⊢
      generalize aBrD A N (j + 1) 0 = dn at hbd ⊢
      (refine exI rfl rfl ?_; intro X hX)
      have h59 : ∀ u : Bool, (bif u then up else dn) = (bif aUp dn up then up else dn) → (¬ (bif u then up else dn) = -9 → u = aUp dn up) → X 59 [some (.ref 1000), some (.int (nI j)), some (.int w), some (.int dn), some (.int up), none, none] [.int (b2i u)] (hc, hM m) 0 0 := by
        intro u e1 e2
        have h72 : X 72 [some (.ref 1000), some (.int (nI j)), some (.int w), some (.int dn), some (.int up), some (.int (b2i u)), none] [.int (bif u then up else dn)] (hc, hM m) 0 0 := by
          have e3 : aBare dn up w = if w = 0 then (bif u then up else dn) else (if (bif u then up else dn) = -9 ∨ (bif u then up else dn) = 0 then -9 else b2i (aUp dn up)) := by unfold aBare; rw [← e1]
          generalize hv : (bif u then up else dn) = v at e2 e3 ⊢
          repeat refine hX _ _ _ _ _ _ _ _ _ _ _ _ _ _ rfl ?_
          by_cases hw : w = 0
          · refine br_f (show ¬ ¬ w = 0 from fun h => h hw) ?_
            repeat refine hX _ _ _ _ _ _ _ _ _ _ _ _ _ _ rfl ?_
            exact ⟨by rw [e3, if_pos hw], rfl⟩
          · refine br_t (show ¬ w = 0 from hw) ?_
            repeat refine hX _ _ _ _ _ _ _ _ _ _ _ _ _ _ rfl ?_
            rw [if_neg hw] at e3
            by_cases h9 : v = -9
            · refine br_t (show v = -9 from h9) ?_
              repeat refine hX _ _ _ _ _ _ _ _ _ _ _ _ _ _ rfl ?_
              exact ⟨by rw [e3, if_pos (Or.inl h9)], rfl⟩
            · refine br_f (show ¬ v = -9 from h9) ?_
              repeat refine hX _ _ _ _ _ _ _ _ _ _ _ _ _ _ rfl ?_
              by_cases h0 : v = 0
              · refine br_f (show ¬ ¬ v = 0 from fun h => h h0) ?_
                repeat refine hX _ _ _ _ _ _ _ _ _ _ _ _ _ _ rfl ?_
                exact ⟨by rw [e3, if_pos (Or.inr h0)], rfl⟩
              · refine br_t (show ¬ v = 0 from h0) ?_
                repeat refine hX _ _ _ _ _ _ _ _ _ _ _ _ _ _ rfl ?_
                rw [if_neg (fun h => h.elim h9 h0), ← e2 h9] at e3
                cases u with
                | false =>
                  refine br_t (show b2i false = 0 from rfl) ?_
                  repeat refine hX _ _ _ _ _ _ _ _ _ _ _ _ _ _ rfl ?_
                  exact ⟨by rw [e3]; rfl, rfl⟩
                | true =>
                  refine br_f (show ¬ b2i true = 0 by decide) ?_
                  repeat refine hX _ _ _ _ _ _ _ _ _ _ _ _ _ _ rfl ?_
                  exact ⟨by rw [e3]; rfl, rfl⟩
        repeat refine hX _ _ _ _ _ _ _ _ _ _ _ _ _ _ rfl ?_
        cases u with
        | false =>
          refine br_t (show b2i false = 0 from rfl) ?_
          iterate 1 (refine hX _ _ _ _ _ _ _ _ _ _ _ _ _ _ rfl ?_)
          exact h72
        | true =>
          refine br_f (show ¬ b2i true = 0 by decide) ?_
          iterate 2 (refine hX _ _ _ _ _ _ _ _ _ _ _ _ _ _ rfl ?_)
          exact h72
      repeat refine hX _ _ _ _ _ _ _ _ _ _ _ _ _ _ rfl ?_
      refine Or.inl ⟨_, _, hya, ?_⟩
      repeat refine hX _ _ _ _ _ _ _ _ _ _ _ _ _ _ rfl ?_
      refine br_f (show ¬ b2i true = 0 by decide) ?_
      repeat refine hX _ _ _ _ _ _ _ _ _ _ _ _ _ _ rfl ?_
      refine Or.inl ⟨_, _, hin64 _, ?_⟩
      repeat refine hX _ _ _ _ _ _ _ _ _ _ _ _ _ _ rfl ?_
      refine br_t (show ¬ b2i true = 0 by decide) ?_
      repeat refine hX _ _ _ _ _ _ _ _ _ _ _ _ _ _ rfl ?_
      refine Or.inl ⟨_, _, hbd, ?_⟩
      repeat refine hX _ _ _ _ _ _ _ _ _ _ _ _ _ _ rfl ?_
      refine Or.inl ⟨_, _, hbu, ?_⟩
      repeat refine hX _ _ _ _ _ _ _ _ _ _ _ _ _ _ rfl ?_
      by_cases hd9 : dn = -9
      · refine br_t (show dn = -9 from hd9) ?_
        by_cases hu9 : up = -9
        · iterate 2 (refine hX _ _ _ _ _ _ _ _ _ _ _ _ _ _ rfl ?_)
          exact h59 true (by rw [hd9, hu9]; cases aUp (-9) (-9) <;> rfl) (fun h => absurd hu9 h)
        · have hau : aUp dn up = true := decide_eq_true ⟨hu9, Or.inl hd9⟩
          iterate 2 (refine hX _ _ _ _ _ _ _ _ _ _ _ _ _ _ rfl ?_)
          exact h59 true (by rw [hau]) (fun _ => hau.symm)
      · refine br_f (show ¬ dn = -9 from hd9) ?_
        repeat refine hX _ _ _ _ _ _ _ _ _ _ _ _ _ _ rfl ?_
        by_cases hu9 : up = -9
        · have hau : aUp dn up = false := decide_eq_false (fun h => h.1 hu9)
          refine br_t (show up = -9 from hu9) ?_
          iterate 1 (refine hX _ _ _ _ _ _ _ _ _ _ _ _ _ _ rfl ?_)
          exact h59 false (by rw [hau]) (fun _ => hau.symm)
        · refine br_f (show ¬ up = -9 from hu9) ?_
          repeat refine hX _ _ _ _ _ _ _ _ _ _ _ _ _ _ rfl ?_
          by_cases hlt : up < dn
          · have hau : aUp dn up = true := decide_eq_true ⟨hu9, Or.inr hlt⟩
            refine br_f (show ¬ dn ≤ up from Int32.not_le.mpr hlt) ?_
            iterate 2 (refine hX _ _ _ _ _ _ _ _ _ _ _ _ _ _ rfl ?_)
            exact h59 true (by rw [hau]) (fun _ => hau.symm)
          · have hau : aUp dn up = false := decide_eq_false (fun h => h.2.elim hd9 hlt)
            refine br_t (show dn ≤ up from Int32.not_lt.mp hlt) ?_
            iterate 1 (refine hX _ _ _ _ _ _ _ _ _ _ _ _ _ _ rfl ?_)
            exact h59 false (by rw [hau]) (fun _ => hau.symm)
end
section
/-! ===== the reference: orders, odds ===== -/
theorem aSumN_tail {f : Nat → Nat} (n : Nat) : ∀ k, (∀ t, n ≤ t → t < n + k → f t = 0) → aSumN f (n + k) = aSumN f n
  | 0, _ => rfl
  | k + 1, h => by
    rw [← Nat.add_assoc, aSumN, h (n + k) (by omega) (by omega), aSumN_tail n k (fun t h1 h2 => h t h1 (by omega)), Nat.add_zero]
theorem aSumN_congr {f g : Nat → Nat} : ∀ n, (∀ t, t < n → f t = g t) → aSumN f n = aSumN g n
  | 0, _ => rfl
  | n + 1, h => by rw [aSumN, aSumN, aSumN_congr n (fun t ht => h t (by omega)), h n (by omega)]
theorem q_big : ∀ n, n ≤ 6 → ∀ o, o < 64 → o < 2 ^ n → ∀ t, t < 64 → 2 ^ n ≤ t → aSub t o = false := by decide +kernel
theorem q_sc1 : ∀ all, all < 64 → ∀ i, i < 64 → ∀ p, p < 6 → aSub i (all &&& (63 ^^^ 2 ^ p)) = (aSub i all && !i.testBit p) := by decide +kernel
def qS (all i p : Nat) : Bool := !(all.testBit p && aSub i (all &&& (63 ^^^ 2 ^ p))) || (decide (pop ((all &&& (63 ^^^ 2 ^ p)) &&& (63 ^^^ i)) = pop all - 1 - pop i) && (decide (pop i ≤ pop all - 1) && decide (1 ≤ pop all)))
theorem q_sc3 : ∀ all, all < 64 → ∀ i, i < 64 → ∀ p, p < 6 → qS all i p = true := by decide +kernel
theorem q_sc2 {all : Nat} (h1 : all < 64) {i : Nat} (h2 : i < 64) {p : Nat} (h3 : p < 6) (h4 : all.testBit p = true) (h5 : aSub i (all &&& (63 ^^^ 2 ^ p)) = true) : pop ((all &&& (63 ^^^ 2 ^ p)) &&& (63 ^^^ i)) = pop all - 1 - pop i ∧ pop i ≤ pop all - 1 ∧ 1 ≤ pop all := by
  have h := q_sc3 all h1 i h2 p h3
  unfold qS at h
  rw [h4, h5] at h
  simpa using h
theorem m_orders (S : zS) (d : Nat) (h : zH) {n : Nat} (hn : n < 100) : Ex S (d + 1) 0 0 132 [.int (nI n)] h (some (.int (nI (fac n)))) h := by
  (refine exI rfl rfl ?_; intro X hX)
  have loop : ∀ (k i : Nat), i + 1 + k = n → X 4 [some (.int (nI n)), some (.int (nI (fac (i + 1)))), some (.int (nI (i + 2)))] [] h 0 0 := by
    intro k
    induction k with
    | zero =>
      intro i hi
      repeat refine hX _ _ _ _ _ _ _ _ _ _ _ _ _ _ rfl ?_
      refine br_t (show nI n < nI (i + 2) from nI_lt (by omega) (by omega)) ?_
      repeat refine hX _ _ _ _ _ _ _ _ _ _ _ _ _ _ rfl ?_
      exact ⟨by rw [show i + 1 = n by omega], rfl⟩
    | succ k ih =>
      intro i hi
      have h7 := ih (i + 1) (by omega)
      rw [fac, Nat.mul_comm] at h7
      repeat refine hX _ _ _ _ _ _ _ _ _ _ _ _ _ _ rfl ?_
      refine br_f (show ¬ nI n < nI (i + 2) from nI_nlt (by omega) (by omega)) ?_
      iterate 6 (refine hX _ _ _ _ _ _ _ _ _ _ _ _ _ _ rfl ?_)
      rw [nI_1, pk_mul]
      exact h7
  by_cases h0 : n = 0
  · subst h0
    repeat refine hX _ _ _ _ _ _ _ _ _ _ _ _ _ _ rfl ?_
    refine br_t (show nI 0 < 2 by decide) ?_
    repeat refine hX _ _ _ _ _ _ _ _ _ _ _ _ _ _ rfl ?_
    exact ⟨rfl, rfl⟩
  · iterate 4 (refine hX _ _ _ _ _ _ _ _ _ _ _ _ _ _ rfl ?_)
    exact loop (n - 1) 0 (by omega)
theorem m_scale (S : zS) (d : Nat) (hc : List zC) (m : mS) {A : aT} {N : aN} (hA : TWf A) (hT : MTold (mTold m) A) (hW : NWf A N) (hN : MRow A (mNow m) 0 N) (x y : Int32) : Ex S (d + 4) 0 0 131 [.ref 1000, .int x, .int y] (hc, hM m) (some (.int (spScale A N x y))) (hc, hM m) := by
  have hns := hA.2.2.2.1
  have hnp := hA.2.2.2.2.1
  have h64 := pow_le64 hnp
  have hon := m_isOne S (d + 1) hc m hA hT x
  have hst := m_isStatue S (d + 1) hc m hA hT y
  unfold spScale
  cases hin : inb x (aNp A) with
  | false =>
    rw [hin] at hon
    (refine exI rfl rfl ?_; intro X hX)
    repeat refine hX _ _ _ _ _ _ _ _ _ _ _ _ _ _ rfl ?_
    refine Or.inl ⟨_, _, hon, ?_⟩
    repeat refine hX _ _ _ _ _ _ _ _ _ _ _ _ _ _ rfl ?_
    refine br_t (show b2i false = 0 from rfl) ?_
    repeat refine hX _ _ _ _ _ _ _ _ _ _ _ _ _ _ rfl ?_
    exact ⟨rfl, rfl⟩
  | true =>
    rw [hin] at hon
    obtain ⟨p, hp, rfl⟩ := inb_of hin (by omega)
    cases hiy : inb y (aNs A) with
    | false =>
      rw [hiy] at hst
      (refine exI rfl rfl ?_; intro X hX)
      repeat refine hX _ _ _ _ _ _ _ _ _ _ _ _ _ _ rfl ?_
      refine Or.inl ⟨_, _, hon, ?_⟩
      repeat refine hX _ _ _ _ _ _ _ _ _ _ _ _ _ _ rfl ?_
      refine br_f (show ¬ b2i true = 0 by decide) ?_
      repeat refine hX _ _ _ _ _ _ _ _ _ _ _ _ _ _ rfl ?_
      refine Or.inl ⟨_, _, hst, ?_⟩
      repeat refine hX _ _ _ _ _ _ _ _ _ _ _ _ _ _ rfl ?_
      refine br_f (show ¬ ¬ b2i false = 0 by decide) ?_
      repeat refine hX _ _ _ _ _ _ _ _ _ _ _ _ _ _ rfl ?_
      exact ⟨rfl, rfl⟩
    | true =>
      rw [hiy] at hst
      obtain ⟨s, hs, rfl⟩ := inb_of hiy (by omega)
      simp only [cond_true, Bool.and_self, nI_clamp (show p < 2 ^ 31 by omega), nI_clamp (show s < 2 ^ 31 by omega)]
      have hwr := m_wronged S d hc m hA hT hW hN hs
      have h6 := (MRow_0 hN).1
      have ean := q_and _ (aWr_lt hA N s) _ (nCo_lt hA hW)
      have hal : aWr A N s &&& nCo N < 64 := q_and_lt (aWr_lt hA N s)
      have hal2 : aWr A N s &&& nCo N < 2 ^ aNp A := Nat.lt_of_le_of_lt Nat.and_le_right hW.1
      generalize aWr A N s &&& nCo N = all at *
      have hhas := fun h => m_hasX S (d + 2) h hal (show p < 6 by omega)
      cases hb : all.testBit p with
      | false =>
        rw [hb] at hhas
        (refine exI rfl rfl ?_; intro X hX)
        repeat refine hX _ _ _ _ _ _ _ _ _ _ _ _ _ _ rfl ?_
        refine Or.inl ⟨_, _, hon, ?_⟩
        repeat refine hX _ _ _ _ _ _ _ _ _ _ _ _ _ _ rfl ?_
        refine br_f (show ¬ b2i true = 0 by decide) ?_
        repeat refine hX _ _ _ _ _ _ _ _ _ _ _ _ _ _ rfl ?_
        refine Or.inl ⟨_, _, hst, ?_⟩
        repeat refine hX _ _ _ _ _ _ _ _ _ _ _ _ _ _ rfl ?_
        refine br_t (show ¬ b2i true = 0 by decide) ?_
        repeat refine hX _ _ _ _ _ _ _ _ _ _ _ _ _ _ rfl ?_
        refine Or.inl ⟨_, _, hwr, ?_⟩
        repeat refine hX _ _ _ _ _ _ _ _ _ _ _ _ _ _ rfl ?_
        refine ⟨by unfold vp_in; decide, ?_⟩
        rw [show (6 : Int32).toNatClampNeg = 6 from rfl]
        rw [h6]
        iterate 2 (refine hX _ _ _ _ _ _ _ _ _ _ _ _ _ _ rfl ?_)
        rw [ean]
        repeat refine hX _ _ _ _ _ _ _ _ _ _ _ _ _ _ rfl ?_
        refine Or.inl ⟨_, _, hhas _, ?_⟩
        repeat refine hX _ _ _ _ _ _ _ _ _ _ _ _ _ _ rfl ?_
        refine br_f (show ¬ ¬ b2i false = 0 by decide) ?_
        repeat refine hX _ _ _ _ _ _ _ _ _ _ _ _ _ _ rfl ?_
        exact ⟨rfl, rfl⟩
      | true =>
        rw [hb] at hhas
        simp only [cond_true]
        have hstr := fun (z : Nat) (hz : z < 64) => m_strength S (d + 1) hc m hA hT hz
        have hone := fun h (z : Nat) (hz : z < 64) => m_ones S (d + 2) h hz
        have hord := fun h (z : Nat) (hz : z < 100) => m_orders S (d + 2) h hz
        have hhi := fun h (z : Nat) (hz : z < 64) => m_hasX S (d + 2) h hz (show p < 6 by omega)
        have hwe := (hT.2.2.2.2.1 s hs).1
        have hsg := (hT.2.2.2.2.2 p hp).2.1
        have hw30 := (hA.2.2.2.2.2.1 s hs).2.1
        have hs9 := (hA.2.2.2.2.2.2 p hp).2.2.1
        have hpa := pop_le all
        have hoth : all &&& (63 ^^^ 2 ^ p) < 2 ^ aNp A := Nat.lt_of_le_of_lt Nat.and_le_left hal2
        have htail : aSumN (aScT A (all &&& (63 ^^^ 2 ^ p)) p s) 64 = aSumN (aScT A (all &&& (63 ^^^ 2 ^ p)) p s) (2 ^ aNp A) := by
          have := aSumN_tail (f := aScT A (all &&& (63 ^^^ 2 ^ p)) p s) (2 ^ aNp A) (64 - 2 ^ aNp A) (fun t h1 h2 => by
            unfold aScT
            rw [q_big _ hnp _ (by omega) hoth t (by omega) h1]
            rfl)
          rwa [show 2 ^ aNp A + (64 - 2 ^ aNp A) = 64 by omega] at this
        rw [← htail]
        clear htail hoth
        (refine exI rfl rfl ?_; intro X hX)
        have loop : ∀ (k i : Nat) (v7 v8 v9 : Option Value), i + k = 64 → ((v7 = none ∧ v8 = none ∧ v9 = none) ∨ ∃ z1 z2 z3, v7 = some (.int z1) ∧ v8 = some (.int z2) ∧ v9 = some (.int z3)) → X 54 [some (.ref 1000), some (.int (nI p)), some (.int (nI s)), some (.int (nI all)), some (.int (nI (pop all))), some (.int (nI (aSumN (aScT A (all &&& (63 ^^^ 2 ^ p)) p s) i))), some (.int (nI i)), v7, v8, v9] [] (hc, hM m) 0 0 := by
          intro k
          induction k with
          | zero =>
            intro i v7 v8 v9 hi hv
            repeat refine hX _ _ _ _ _ _ _ _ _ _ _ _ _ _ rfl ?_
            refine br_t (show nI 64 ≤ nI i from nI_le (by omega) (by omega)) ?_
            repeat refine hX _ _ _ _ _ _ _ _ _ _ _ _ _ _ rfl ?_
            exact ⟨by rw [show i = 64 by omega], rfl⟩
          | succ k ih =>
            intro i v7 v8 v9 hi hv
            have hsl := aStr_le hA i
            have h7 := fun z1 z2 z3 => ih (i + 1) (some (.int z1)) (some (.int z2)) (some (.int z3)) (by omega) (Or.inr ⟨_, _, _, rfl, rfl, rfl⟩)
            rw [aSumN] at h7
            have e1 := q_sc1 all hal i (by omega) p (by omega)
            have e2 := q_sc2 hal (show i < 64 by omega) (show p < 6 by omega) hb
            rw [e1] at e2
            have h140 : ∀ z1 (u : Bool), u = ((aSub i all && !i.testBit p) && (decide (aStr A i < aWe A s) && decide (aWe A s ≤ aStr A i + aSt A p))) → X 140 [some (.ref 1000), some (.int (nI p)), some (.int (nI s)), some (.int (nI all)), some (.int (nI (pop all))), some (.int (nI (aSumN (aScT A (all &&& (63 ^^^ 2 ^ p)) p s) i))), some (.int (nI i)), some (.int z1), some (.int (nI (aStr A i))), v9] [.int (b2i u)] (hc, hM m) 0 0 := by
              intro z1 u hu
              have h8 := h7 z1 (nI (aStr A i)) (b2i u)
              have hv9 : v9 = none ∨ ∃ z, v9 = some (.int z) := by
                rcases hv with ⟨-, -, h⟩ | ⟨_, _, z, -, -, h⟩
                · exact Or.inl h
                · exact Or.inr ⟨z, h⟩
              have e3 : aScT A (all &&& (63 ^^^ 2 ^ p)) p s i = bif u then fac (pop i) * fac (pop ((all &&& (63 ^^^ 2 ^ p)) &&& (63 ^^^ i))) else 0 := by unfold aScT; rw [e1, hu]
              rw [e3] at h8
              rcases hv9 with rfl | ⟨z9, rfl⟩
              all_goals
                repeat refine hX _ _ _ _ _ _ _ _ _ _ _ _ _ _ rfl ?_
                cases u with
                | false =>
                  refine br_t (show b2i false = 0 from rfl) ?_
                  iterate 5 (refine hX _ _ _ _ _ _ _ _ _ _ _ _ _ _ rfl ?_)
                  rw [nI_1, show (0 : Int32) = nI 0 from rfl, nI_add]
                  exact h8
                | true =>
                  have hsb : (aSub i all && !i.testBit p) = true := by
                    cases h : (aSub i all && !i.testBit p) with
                    | true => rfl
                    | false => rw [h] at hu; cases hu
                  obtain ⟨e4, e5, e6⟩ := e2 hsb
                  have hpi := pop_le i
                  rw [e4] at h8
                  refine br_f (show ¬ b2i true = 0 by decide) ?_
                  repeat refine hX _ _ _ _ _ _ _ _ _ _ _ _ _ _ rfl ?_
                  refine Or.inl ⟨_, _, hone _ i (by omega), ?_⟩
                  repeat refine hX _ _ _ _ _ _ _ _ _ _ _ _ _ _ rfl ?_
                  refine Or.inl ⟨_, _, hord _ (pop i) (by omega), ?_⟩
                  iterate 4 (refine hX _ _ _ _ _ _ _ _ _ _ _ _ _ _ rfl ?_)
                  rw [show nI (pop all) - 1 = nI (pop all - 1) from pk_sub (b := 1) e6]
                  repeat refine hX _ _ _ _ _ _ _ _ _ _ _ _ _ _ rfl ?_
                  refine Or.inl ⟨_, _, hone _ i (by omega), ?_⟩
                  iterate 2 (refine hX _ _ _ _ _ _ _ _ _ _ _ _ _ _ rfl ?_)
                  rw [pk_sub e5]
                  refine Or.inl ⟨_, _, hord _ (pop all - 1 - pop i) (by omega), ?_⟩
                  iterate 6 (refine hX _ _ _ _ _ _ _ _ _ _ _ _ _ _ rfl ?_)
                  rw [nI_1, pk_mul, nI_add]
                  exact h8
            have h84 : ∀ u : Bool, u = (aSub i all && !i.testBit p) → X 84 [some (.ref 1000), some (.int (nI p)), some (.int (nI s)), some (.int (nI all)), some (.int (nI (pop all))), some (.int (nI (aSumN (aScT A (all &&& (63 ^^^ 2 ^ p)) p s) i))), some (.int (nI i)), v7, v8, v9] [.int (b2i u)] (hc, hM m) 0 0 := by
              intro u hu
              rw [← hu] at h140
              rcases hv with ⟨rfl, rfl, rfl⟩ | ⟨z1, z2, z3, rfl, rfl, rfl⟩
              all_goals
                repeat refine hX _ _ _ _ _ _ _ _ _ _ _ _ _ _ rfl ?_
                refine Or.inl ⟨_, _, hstr i (by omega), ?_⟩
                repeat refine hX _ _ _ _ _ _ _ _ _ _ _ _ _ _ rfl ?_
                cases u with
                | false =>
                  refine br_t (show b2i false = 0 from rfl) ?_
                  iterate 1 (refine hX _ _ _ _ _ _ _ _ _ _ _ _ _ _ rfl ?_)
                  exact h140 _ false rfl
                | true =>
                  refine br_f (show ¬ b2i true = 0 by decide) ?_
                  repeat refine hX _ _ _ _ _ _ _ _ _ _ _ _ _ _ rfl ?_
                  rw [show (4 : Int32) + nI s = nI (4 + s) from nI_add 4 s]
                  refine ⟨vp_in_nI (by omega) (by decide), ?_⟩
                  rw [nI_clamp (by omega)]
                  rw [hwe]
                  repeat refine hX _ _ _ _ _ _ _ _ _ _ _ _ _ _ rfl ?_
                  by_cases c1 : aStr A i < aWe A s
                  · rw [decide_eq_true c1] at h140
                    refine br_f (show ¬ nI (aWe A s) ≤ nI (aStr A i) from nI_ge c1 (by omega)) ?_
                    repeat refine hX _ _ _ _ _ _ _ _ _ _ _ _ _ _ rfl ?_
                    rw [show (22 : Int32) + nI p = nI (22 + p) from nI_add 22 p]
                    refine ⟨vp_in_nI (by omega) (by decide), ?_⟩
                    rw [nI_clamp (by omega)]
                    rw [hsg]
                    repeat refine hX _ _ _ _ _ _ _ _ _ _ _ _ _ _ rfl ?_
                    rw [nI_add]
                    rw [show (4 : Int32) + nI s = nI (4 + s) from nI_add 4 s]
                    refine ⟨vp_in_nI (by omega) (by decide), ?_⟩
                    rw [nI_clamp (by omega)]
                    rw [hwe]
                    repeat refine hX _ _ _ _ _ _ _ _ _ _ _ _ _ _ rfl ?_
                    by_cases c2 : aWe A s ≤ aStr A i + aSt A p
                    · rw [decide_eq_true c2] at h140
                      refine br_f (show ¬ nI (aStr A i + aSt A p) < nI (aWe A s) from nI_nlt c2 (by omega)) ?_
                      iterate 2 (refine hX _ _ _ _ _ _ _ _ _ _ _ _ _ _ rfl ?_)
                      exact h140 _ true rfl
                    · rw [decide_eq_false c2] at h140
                      refine br_t (show nI (aStr A i + aSt A p) < nI (aWe A s) from nI_lt (by omega) (by omega)) ?_
                      iterate 1 (refine hX _ _ _ _ _ _ _ _ _ _ _ _ _ _ rfl ?_)
                      exact h140 _ false rfl
                  · rw [decide_eq_false c1] at h140
                    refine br_t (show nI (aWe A s) ≤ nI (aStr A i) from nI_le (by omega) (by omega)) ?_
                    iterate 1 (refine hX _ _ _ _ _ _ _ _ _ _ _ _ _ _ rfl ?_)
                    exact h140 _ false rfl
            repeat refine hX _ _ _ _ _ _ _ _ _ _ _ _ _ _ rfl ?_
            refine br_f (show ¬ nI 64 ≤ nI i from nI_ge (by omega) (by decide)) ?_
            repeat refine hX _ _ _ _ _ _ _ _ _ _ _ _ _ _ rfl ?_
            rw [q_andn i (by omega) all hal]
            have hil : i &&& (63 ^^^ all) < 64 := q_and_lt (by omega)
            by_cases h0 : i &&& (63 ^^^ all) = 0
            · have hsu : aSub i all = true := decide_eq_true h0
              refine br_f (show ¬ ¬ nI (i &&& (63 ^^^ all)) = 0 from fun h => h (congrArg nI h0)) ?_
              repeat refine hX _ _ _ _ _ _ _ _ _ _ _ _ _ _ rfl ?_
              refine Or.inl ⟨_, _, hhi _ i (by omega), ?_⟩
              repeat refine hX _ _ _ _ _ _ _ _ _ _ _ _ _ _ rfl ?_
              cases hbi : i.testBit p with
              | true =>
                refine br_t (show ¬ b2i true = 0 by decide) ?_
                iterate 1 (refine hX _ _ _ _ _ _ _ _ _ _ _ _ _ _ rfl ?_)
                exact h84 false (by rw [hsu, hbi]; rfl)
              | false =>
                refine br_f (show ¬ ¬ b2i false = 0 by decide) ?_
                iterate 2 (refine hX _ _ _ _ _ _ _ _ _ _ _ _ _ _ rfl ?_)
                exact h84 true (by rw [hsu, hbi]; rfl)
            · have hsu : aSub i all = false := decide_eq_false h0
              refine br_t (show ¬ nI (i &&& (63 ^^^ all)) = 0 from nI_ne0 (by omega) (by omega)) ?_
              iterate 1 (refine hX _ _ _ _ _ _ _ _ _ _ _ _ _ _ rfl ?_)
              exact h84 false (by rw [hsu]; rfl)
        repeat refine hX _ _ _ _ _ _ _ _ _ _ _ _ _ _ rfl ?_
        refine Or.inl ⟨_, _, hon, ?_⟩
        repeat refine hX _ _ _ _ _ _ _ _ _ _ _ _ _ _ rfl ?_
        refine br_f (show ¬ b2i true = 0 by decide) ?_
        repeat refine hX _ _ _ _ _ _ _ _ _ _ _ _ _ _ rfl ?_
        refine Or.inl ⟨_, _, hst, ?_⟩
        repeat refine hX _ _ _ _ _ _ _ _ _ _ _ _ _ _ rfl ?_
        refine br_t (show ¬ b2i true = 0 by decide) ?_
        repeat refine hX _ _ _ _ _ _ _ _ _ _ _ _ _ _ rfl ?_
        refine Or.inl ⟨_, _, hwr, ?_⟩
        repeat refine hX _ _ _ _ _ _ _ _ _ _ _ _ _ _ rfl ?_
        refine ⟨by unfold vp_in; decide, ?_⟩
        rw [show (6 : Int32).toNatClampNeg = 6 from rfl]
        rw [h6]
        iterate 2 (refine hX _ _ _ _ _ _ _ _ _ _ _ _ _ _ rfl ?_)
        rw [ean]
        repeat refine hX _ _ _ _ _ _ _ _ _ _ _ _ _ _ rfl ?_
        refine Or.inl ⟨_, _, hhas _, ?_⟩
        repeat refine hX _ _ _ _ _ _ _ _ _ _ _ _ _ _ rfl ?_
        refine br_t (show ¬ b2i true = 0 by decide) ?_
        repeat refine hX _ _ _ _ _ _ _ _ _ _ _ _ _ _ rfl ?_
        refine Or.inl ⟨_, _, hone _ all hal, ?_⟩
        iterate 5 (refine hX _ _ _ _ _ _ _ _ _ _ _ _ _ _ rfl ?_)
        exact loop 64 0 none none none (by omega) (Or.inl ⟨rfl, rfl, rfl⟩)
end
section
def aCh (set x aw : Nat) : Nat → Nat
  | 0 => 1
  | p + 1 => aCh set x aw p * (bif set.testBit p then (bif aw.testBit p then x else 10 - x) else 1)
set_option maxRecDepth 100000 in
theorem q_ch : ∀ set, set < 64 → ∀ aw, aw < 64 → aSub aw set = true → ∀ x, x < 11 → aCh set x aw 6 = aOdW set x (set &&& (63 ^^^ aw)) := by decide +kernel
def subL (set : Nat) : List Nat := (List.range 64).filter (fun t => aSub t set)
set_option maxRecDepth 100000 in
theorem q_rev : ∀ set, set < 64 → (subL set).map (fun aw => set &&& (63 ^^^ aw)) = (subL set).reverse := by decide +kernel
theorem aSumN_list (b : Nat → Bool) (F : Nat → Nat) : ∀ n, aSumN (fun t => bif b t then F t else 0) n = (((List.range n).filter b).map F).sum
  | 0 => rfl
  | n + 1 => by
    rw [aSumN, aSumN_list b F n, List.range_succ, List.filter_append, List.map_append, List.sum_append]
    cases h : b n with
    | false => simp [h]
    | true => simp [h]
theorem sub_sum {set : Nat} (hset : set < 64) (F : Nat → Nat) : aSumN (fun aw => bif aSub aw set then F (set &&& (63 ^^^ aw)) else 0) 64 = aSumN (fun t => bif aSub t set then F t else 0) 64 := by
  rw [aSumN_list (fun t => aSub t set) (fun aw => F (set &&& (63 ^^^ aw))), aSumN_list (fun t => aSub t set) F]
  have h1 : (((List.range 64).filter (fun t => aSub t set)).map (fun aw => F (set &&& (63 ^^^ aw)))) = ((subL set).map (fun aw => set &&& (63 ^^^ aw))).map F := by
    rw [List.map_map]; rfl
  rw [h1, q_rev set hset]
  exact List.Perm.sum_nat ((List.reverse_perm (subL set)).map F)
/-- what the reference adds up: below, above -/
def mOb (set x aw : Nat) : Nat := bif aSub aw set then aCh set x aw 6 else 0
def mOa (A : aT) (j set x aw : Nat) : Nat := bif aSub aw set then (bif decide (aWe A j ≤ aStr A (set &&& (63 ^^^ aw))) then aCh set x aw 6 else 0) else 0
theorem mOb_sum {set x : Nat} (hset : set < 64) (hx : x < 11) : aSumN (mOb set x) 64 = 10 ^ pop set := by
  rw [← q_binom set hset x hx, aSumN_congr (f := mOb set x) (g := fun aw => bif aSub aw set then aOdW set x (set &&& (63 ^^^ aw)) else 0) 64 (fun t ht => ?_), sub_sum hset, aSumN_congr (g := aOdW set x) 64 (fun t ht => ?_)]
  · unfold aOdW
    cases aSub t set <;> rfl
  · unfold mOb
    cases h : aSub t set with
    | false => rfl
    | true => exact q_ch set hset t ht h x hx
theorem mOa_sum {A : aT} (hA : TWf A) {j set x : Nat} (hset : set < 64) (hs2 : set < 2 ^ aNp A) (hx : x < 11) : aSumN (mOa A j set x) 64 = aSumN (aOdT A j set x) (2 ^ aNp A) := by
  have hnp := hA.2.2.2.2.1
  have h64 := pow_le64 hnp
  have htail := aSumN_tail (f := aOdT A j set x) (2 ^ aNp A) (64 - 2 ^ aNp A) (fun t h1 h2 => by
    unfold aOdT aOdW
    rw [q_big _ hnp _ hset hs2 t (by omega) h1]
    cases decide (aWe A j ≤ aStr A t) <;> rfl)
  rw [show 2 ^ aNp A + (64 - 2 ^ aNp A) = 64 by omega] at htail
  rw [← htail, aSumN_congr (f := mOa A j set x) (g := fun aw => bif aSub aw set then aOdT A j set x (set &&& (63 ^^^ aw)) else 0) 64 (fun t ht => ?_), sub_sum hset, aSumN_congr (g := aOdT A j set x) 64 (fun t ht => ?_)]
  · unfold aOdT aOdW
    cases aSub t set <;> cases decide (aWe A j ≤ aStr A t) <;> rfl
  · unfold mOa
    cases h : aSub t set with
    | false => rfl
    | true =>
      unfold aOdT
      rw [q_ch set hset t ht h x hx]
theorem m_odds (S : zS) (d : Nat) (hc : List zC) (m : mS) {A : aT} {N : aN} (hA : TWf A) (hT : MTold (mTold m) A) (hW : NWf A N) (hN : MRow A (mNow m) 0 N) (s x w : Int32) : Ex S (d + 4) 0 0 134 [.ref 1000, .int s, .int x, .int w] (hc, hM m) (some (.int (spOdds A N s x w))) (hc, hM m) := by
  have hns := hA.2.2.2.1
  have hnp := hA.2.2.2.2.1
  have hst := m_isStatue S (d + 1) hc m hA hT s
  have hix64 := fun h => m_in S (d + 2) h x.toInt64 0 (lN 10)
  rw [in64c x (by decide)] at hix64
  have hiw64 := fun h => m_in S (d + 2) h w.toInt64 0 (lN 1)
  rw [in64c w (by decide)] at hiw64
  unfold spOdds
  cases hin : inb s (aNs A) with
  | false =>
    rw [hin] at hst
    (refine exI rfl rfl ?_; intro X hX)
    repeat refine hX _ _ _ _ _ _ _ _ _ _ _ _ _ _ rfl ?_
    refine Or.inl ⟨_, _, hst, ?_⟩
    repeat refine hX _ _ _ _ _ _ _ _ _ _ _ _ _ _ rfl ?_
    refine br_t (show b2i false = 0 from rfl) ?_
    repeat refine hX _ _ _ _ _ _ _ _ _ _ _ _ _ _ rfl ?_
    exact ⟨rfl, rfl⟩
  | true =>
    rw [hin] at hst
    obtain ⟨j, hj, rfl⟩ := inb_of hin (by omega)
    cases hix : inb x 11 with
    | false =>
      rw [hix] at hix64
      (refine exI rfl rfl ?_; intro X hX)
      repeat refine hX _ _ _ _ _ _ _ _ _ _ _ _ _ _ rfl ?_
      refine Or.inl ⟨_, _, hst, ?_⟩
      repeat refine hX _ _ _ _ _ _ _ _ _ _ _ _ _ _ rfl ?_
      refine br_f (show ¬ b2i true = 0 by decide) ?_
      repeat refine hX _ _ _ _ _ _ _ _ _ _ _ _ _ _ rfl ?_
      refine Or.inl ⟨_, _, hix64 _, ?_⟩
      repeat refine hX _ _ _ _ _ _ _ _ _ _ _ _ _ _ rfl ?_
      refine br_t (show b2i false = 0 from rfl) ?_
      repeat refine hX _ _ _ _ _ _ _ _ _ _ _ _ _ _ rfl ?_
      exact ⟨rfl, rfl⟩
    | true =>
      rw [hix] at hix64
      obtain ⟨xx, hxx, rfl⟩ := inb_of hix (by decide)
      cases hiw : inb w 2 with
      | false =>
        rw [hiw] at hiw64
        (refine exI rfl rfl ?_; intro X hX)
        repeat refine hX _ _ _ _ _ _ _ _ _ _ _ _ _ _ rfl ?_
        refine Or.inl ⟨_, _, hst, ?_⟩
        repeat refine hX _ _ _ _ _ _ _ _ _ _ _ _ _ _ rfl ?_
        refine br_f (show ¬ b2i true = 0 by decide) ?_
        repeat refine hX _ _ _ _ _ _ _ _ _ _ _ _ _ _ rfl ?_
        refine Or.inl ⟨_, _, hix64 _, ?_⟩
        repeat refine hX _ _ _ _ _ _ _ _ _ _ _ _ _ _ rfl ?_
        refine br_f (show ¬ b2i true = 0 by decide) ?_
        repeat refine hX _ _ _ _ _ _ _ _ _ _ _ _ _ _ rfl ?_
        refine Or.inl ⟨_, _, hiw64 _, ?_⟩
        repeat refine hX _ _ _ _ _ _ _ _ _ _ _ _ _ _ rfl ?_
        refine br_f (show ¬ ¬ b2i false = 0 by decide) ?_
        repeat refine hX _ _ _ _ _ _ _ _ _ _ _ _ _ _ rfl ?_
        exact ⟨rfl, rfl⟩
      | true =>
        rw [hiw] at hiw64
        simp only [cond_true, Bool.and_self, nI_clamp (show j < 2 ^ 31 by omega), nI_clamp (show xx < 2 ^ 31 by omega)]
        have hwr := m_wronged S d hc m hA hT hW hN hj
        have h6 := (MRow_0 hN).1
        have ean := q_and _ (aWr_lt hA N j) _ (nCo_lt hA hW)
        have hal : aWr A N j &&& nCo N < 64 := q_and_lt (aWr_lt hA N j)
        have hal2 : aWr A N j &&& nCo N < 2 ^ aNp A := Nat.lt_of_le_of_lt Nat.and_le_right hW.1
        have hule := aOdU_le hA N j hxx
        unfold aOdU at hule ⊢
        have htn := pop_ten (aWr A N j &&& nCo N)
        generalize aWr A N j &&& nCo N = all at *
        rw [← mOb_sum hal hxx] at hule htn ⊢
        rw [← mOa_sum hA hal hal2 hxx] at hule ⊢
        have hstr := fun (z : Nat) (hz : z < 64) => m_strength S (d + 1) hc m hA hT hz
        have hha := fun h p (hp : p < 6) => m_hasX S (d + 2) h hal hp
        have hhi := fun h (z : Nat) (hz : z < 64) p (hp : p < 6) => m_hasX S (d + 2) h hz hp
        have hwe := (hT.2.2.2.2.1 j hj).1
        have hw30 := (hA.2.2.2.2.2.1 j hj).2.1
        (refine exI rfl rfl ?_; intro X hX)
        have hfin : ∀ v9, X 206 [some (.ref 1000), some (.int (nI j)), some (.int (nI xx)), some (.int w), some (.int (nI all)), some (.int (nI (aSumN (mOa A j all xx) 64))), some (.int (nI (aSumN (mOb all xx) 64))), some (.int (nI (Nat.gcd (aSumN (mOa A j all xx) 64) (aSumN (mOb all xx) 64)))), some (.int (nI 0)), v9] [] (hc, hM m) 0 0 := by
          intro v9
          have hg0 : 0 < Nat.gcd (aSumN (mOa A j all xx) 64) (aSumN (mOb all xx) 64) := Nat.gcd_pos_of_pos_right _ htn.2
          have hgl : Nat.gcd (aSumN (mOa A j all xx) 64) (aSumN (mOb all xx) 64) ≤ aSumN (mOb all xx) 64 := Nat.gcd_le_right _ htn.2
          repeat refine hX _ _ _ _ _ _ _ _ _ _ _ _ _ _ rfl ?_
          by_cases h0 : w = 0
          · refine br_f (show ¬ ¬ w = 0 from fun h => h h0) ?_
            repeat refine hX _ _ _ _ _ _ _ _ _ _ _ _ _ _ rfl ?_
            refine ⟨nI_ne0 hg0 (by omega), ?_⟩
            repeat refine hX _ _ _ _ _ _ _ _ _ _ _ _ _ _ rfl ?_
            exact ⟨by unfold aOdds; rw [if_pos h0, pk_div (by omega) hg0 (by omega)], rfl⟩
          · refine br_t (show ¬ w = 0 from h0) ?_
            repeat refine hX _ _ _ _ _ _ _ _ _ _ _ _ _ _ rfl ?_
            refine ⟨nI_ne0 hg0 (by omega), ?_⟩
            repeat refine hX _ _ _ _ _ _ _ _ _ _ _ _ _ _ rfl ?_
            exact ⟨by unfold aOdds; rw [if_neg h0, pk_div (by omega) hg0 (by omega)], rfl⟩
        have gl : ∀ (k g r : Nat) (v9 : Option Value), (v9 = none ∨ ∃ z, v9 = some (.int z)) → g < 2 ^ 30 → r < 2 ^ 30 → r ≤ k → Nat.gcd g r = Nat.gcd (aSumN (mOa A j all xx) 64) (aSumN (mOb all xx) 64) → X 183 [some (.ref 1000), some (.int (nI j)), some (.int (nI xx)), some (.int w), some (.int (nI all)), some (.int (nI (aSumN (mOa A j all xx) 64))), some (.int (nI (aSumN (mOb all xx) 64))), some (.int (nI g)), some (.int (nI r)), v9] [] (hc, hM m) 0 0 := by
          intro k
          induction k with
          | zero =>
            intro g r v9 hv hg hr hk he
            have : r = 0 := by omega
            subst this
            rw [Nat.gcd_zero_right] at he
            rw [he]
            repeat refine hX _ _ _ _ _ _ _ _ _ _ _ _ _ _ rfl ?_
            refine br_t (show nI 0 = 0 from rfl) ?_
            exact hfin v9
          | succ k ih =>
            intro g r v9 hv hg hr hk he
            rcases Nat.eq_zero_or_pos r with h0 | h0
            · subst h0
              rw [Nat.gcd_zero_right] at he
              rw [he]
              repeat refine hX _ _ _ _ _ _ _ _ _ _ _ _ _ _ rfl ?_
              refine br_t (show nI 0 = 0 from rfl) ?_
              exact hfin v9
            · have hmd := Nat.mod_lt g h0
              have h7 := ih r (g % r) (some (.int (nI (g % r)))) (Or.inr ⟨_, rfl⟩) hr (by omega) (by omega) (by rw [← he, Nat.gcd_comm g r, Nat.gcd_rec r g, Nat.gcd_comm])
              rcases hv with rfl | ⟨z, rfl⟩
              all_goals
                repeat refine hX _ _ _ _ _ _ _ _ _ _ _ _ _ _ rfl ?_
                refine br_f (show ¬ nI r = 0 from nI_ne0 h0 (by omega)) ?_
                repeat refine hX _ _ _ _ _ _ _ _ _ _ _ _ _ _ rfl ?_
                refine ⟨nI_ne0 h0 (by omega), ?_⟩
                rw [pk_rem (by omega) h0 (by omega)]
                iterate 6 (refine hX _ _ _ _ _ _ _ _ _ _ _ _ _ _ rfl ?_)
                exact h7
        have loop : ∀ (k i : Nat) (v8 v9 : Option Value), i + k = 64 → ((v8 = none ∧ v9 = none) ∨ ∃ z2 z3, v8 = some (.int z2) ∧ v9 = some (.int z3)) → X 56 [some (.ref 1000), some (.int (nI j)), some (.int (nI xx)), some (.int w), some (.int (nI all)), some (.int (nI (aSumN (mOa A j all xx) i))), some (.int (nI (aSumN (mOb all xx) i))), some (.int (nI i)), v8, v9] [] (hc, hM m) 0 0 := by
          intro k
          induction k with
          | zero =>
            intro i v8 v9 hi hv
            have : i = 64 := by omega
            subst this
            have hv9 : v9 = none ∨ ∃ z, v9 = some (.int z) := by
              rcases hv with ⟨-, h⟩ | ⟨_, z, -, h⟩
              · exact Or.inl h
              · exact Or.inr ⟨z, h⟩
            have h7 := gl _ (aSumN (mOa A j all xx) 64) (aSumN (mOb all xx) 64) v9 hv9 (by omega) (by omega) (Nat.le_refl _) rfl
            rcases hv with ⟨rfl, rfl⟩ | ⟨z2, z3, rfl, rfl⟩
            all_goals
              repeat refine hX _ _ _ _ _ _ _ _ _ _ _ _ _ _ rfl ?_
              refine br_t (show nI 64 ≤ nI 64 from nI_le (by omega) (by omega)) ?_
              iterate 4 (refine hX _ _ _ _ _ _ _ _ _ _ _ _ _ _ rfl ?_)
              exact h7
          | succ k ih =>
            intro i v8 v9 hi hv
            have hil : i &&& (63 ^^^ all) < 64 := q_and_lt (by omega)
            by_cases h0 : i &&& (63 ^^^ all) = 0
            · have hsu : aSub i all = true := decide_eq_true h0
              have hdl : all &&& (63 ^^^ i) < 64 := q_and_lt hal
              have hsl := aStr_le hA (all &&& (63 ^^^ i))
              have h7 := fun z2 z3 => ih (i + 1) (some (.int z2)) (some (.int z3)) (by omega) (Or.inr ⟨_, _, rfl, rfl⟩)
              rw [aSumN, aSumN, show mOb all xx i = aCh all xx i 6 by rw [mOb, hsu]; rfl, show mOa A j all xx i = (bif decide (aWe A j ≤ aStr A (all &&& (63 ^^^ i))) then aCh all xx i 6 else 0) by rw [mOa, hsu]; rfl] at h7
              have inner : ∀ (q p : Nat), p + q = 6 → X 79 [some (.ref 1000), some (.int (nI j)), some (.int (nI xx)), some (.int w), some (.int (nI all)), some (.int (nI (aSumN (mOa A j all xx) i))), some (.int (nI (aSumN (mOb all xx) i))), some (.int (nI i)), some (.int (nI (aCh all xx i p))), some (.int (nI p))] [] (hc, hM m) 0 0 := by
                intro q
                induction q with
                | zero =>
                  intro p hp
                  have : p = 6 := by omega
                  subst this
                  repeat refine hX _ _ _ _ _ _ _ _ _ _ _ _ _ _ rfl ?_
                  refine br_t (show nI 6 ≤ nI 6 from nI_le (by omega) (by omega)) ?_
                  iterate 12 (refine hX _ _ _ _ _ _ _ _ _ _ _ _ _ _ rfl ?_)
                  rw [nI_add, q_andn all hal i (by omega)]
                  refine Or.inl ⟨_, _, hstr _ hdl, ?_⟩
                  repeat refine hX _ _ _ _ _ _ _ _ _ _ _ _ _ _ rfl ?_
                  rw [show (4 : Int32) + nI j = nI (4 + j) from nI_add 4 j]
                  refine ⟨vp_in_nI (by omega) (by decide), ?_⟩
                  rw [nI_clamp (by omega)]
                  rw [hwe]
                  repeat refine hX _ _ _ _ _ _ _ _ _ _ _ _ _ _ rfl ?_
                  have h8 := h7 (nI (aCh all xx i 6)) (nI 6)
                  by_cases hle : aWe A j ≤ aStr A (all &&& (63 ^^^ i))
                  · refine br_f (show ¬ nI (aStr A (all &&& (63 ^^^ i))) < nI (aWe A j) from nI_nlt hle (by omega)) ?_
                    rw [decide_eq_true hle] at h8
                    iterate 6 (refine hX _ _ _ _ _ _ _ _ _ _ _ _ _ _ rfl ?_)
                    rw [nI_1, nI_add]
                    exact h8
                  · refine br_t (show nI (aStr A (all &&& (63 ^^^ i))) < nI (aWe A j) from nI_lt (by omega) (by omega)) ?_
                    rw [decide_eq_false hle] at h8
                    iterate 5 (refine hX _ _ _ _ _ _ _ _ _ _ _ _ _ _ rfl ?_)
                    rw [nI_1, show (0 : Int32) = nI 0 from rfl, nI_add]
                    exact h8
                | succ q ihq =>
                  intro p hp
                  have h8 := ihq (p + 1) (by omega)
                  rw [aCh] at h8
                  have h120 : ∀ f : Nat, f = (bif all.testBit p then (bif i.testBit p then xx else 10 - xx) else 1) → X 120 [some (.ref 1000), some (.int (nI j)), some (.int (nI xx)), some (.int w), some (.int (nI all)), some (.int (nI (aSumN (mOa A j all xx) i))), some (.int (nI (aSumN (mOb all xx) i))), some (.int (nI i)), some (.int (nI (aCh all xx i p))), some (.int (nI p))] [.int (nI f), .int (nI (aCh all xx i p))] (hc, hM m) 0 0 := by
                    intro f hf
                    rw [← hf] at h8
                    iterate 4 (refine hX _ _ _ _ _ _ _ _ _ _ _ _ _ _ rfl ?_)
                    rw [nI_1, pk_mul]
                    exact h8
                  repeat refine hX _ _ _ _ _ _ _ _ _ _ _ _ _ _ rfl ?_
                  refine br_f (show ¬ nI 6 ≤ nI p from nI_ge (by omega) (by omega)) ?_
                  repeat refine hX _ _ _ _ _ _ _ _ _ _ _ _ _ _ rfl ?_
                  refine Or.inl ⟨_, _, hha _ p (by omega), ?_⟩
                  repeat refine hX _ _ _ _ _ _ _ _ _ _ _ _ _ _ rfl ?_
                  cases hb1 : all.testBit p with
                  | false =>
                    refine br_f (show ¬ ¬ b2i false = 0 by decide) ?_
                    iterate 2 (refine hX _ _ _ _ _ _ _ _ _ _ _ _ _ _ rfl ?_)
                    exact h120 1 (by rw [hb1]; rfl)
                  | true =>
                    refine br_t (show ¬ b2i true = 0 by decide) ?_
                    repeat refine hX _ _ _ _ _ _ _ _ _ _ _ _ _ _ rfl ?_
                    refine Or.inl ⟨_, _, hhi _ i (by omega) p (by omega), ?_⟩
                    repeat refine hX _ _ _ _ _ _ _ _ _ _ _ _ _ _ rfl ?_
                    cases hb2 : i.testBit p with
                    | true =>
                      refine br_f (show ¬ b2i true = 0 by decide) ?_
                      iterate 2 (refine hX _ _ _ _ _ _ _ _ _ _ _ _ _ _ rfl ?_)
                      exact h120 xx (by rw [hb1, hb2]; rfl)
                    | false =>
                      refine br_t (show b2i false = 0 from rfl) ?_
                      have h9 := h120 (10 - xx) (by rw [hb1, hb2]; rfl)
                      rw [← show (10 : Int32) - nI xx = nI (10 - xx) from pk_sub (a := 10) (by omega)] at h9
                      iterate 3 (refine hX _ _ _ _ _ _ _ _ _ _ _ _ _ _ rfl ?_)
                      exact h9
              rcases hv with ⟨rfl, rfl⟩ | ⟨z2, z3, rfl, rfl⟩
              all_goals
                repeat refine hX _ _ _ _ _ _ _ _ _ _ _ _ _ _ rfl ?_
                refine br_f (show ¬ nI 64 ≤ nI i from nI_ge (by omega) (by decide)) ?_
                repeat refine hX _ _ _ _ _ _ _ _ _ _ _ _ _ _ rfl ?_
                rw [q_andn i (by omega) all hal]
                refine br_f (show ¬ ¬ nI (i &&& (63 ^^^ all)) = 0 from fun h => h (congrArg nI h0)) ?_
                iterate 4 (refine hX _ _ _ _ _ _ _ _ _ _ _ _ _ _ rfl ?_)
                exact inner 6 0 (by omega)
            · have hsu : aSub i all = false := decide_eq_false h0
              have h7 := ih (i + 1) v8 v9 (by omega) hv
              rw [aSumN, aSumN, show mOb all xx i = 0 by rw [mOb, hsu]; rfl, show mOa A j all xx i = 0 by rw [mOa, hsu]; rfl] at h7
              rcases hv with ⟨rfl, rfl⟩ | ⟨z2, z3, rfl, rfl⟩
              all_goals
                repeat refine hX _ _ _ _ _ _ _ _ _ _ _ _ _ _ rfl ?_
                refine br_f (show ¬ nI 64 ≤ nI i from nI_ge (by omega) (by decide)) ?_
                repeat refine hX _ _ _ _ _ _ _ _ _ _ _ _ _ _ rfl ?_
                rw [q_andn i (by omega) all hal]
                refine br_t (show ¬ nI (i &&& (63 ^^^ all)) = 0 from nI_ne0 (by omega) (by omega)) ?_
                iterate 2 (refine hX _ _ _ _ _ _ _ _ _ _ _ _ _ _ rfl ?_)
                rw [nI_1]
                exact h7
        repeat refine hX _ _ _ _ _ _ _ _ _ _ _ _ _ _ rfl ?_
        refine Or.inl ⟨_, _, hst, ?_⟩
        repeat refine hX _ _ _ _ _ _ _ _ _ _ _ _ _ _ rfl ?_
        refine br_f (show ¬ b2i true = 0 by decide) ?_
        repeat refine hX _ _ _ _ _ _ _ _ _ _ _ _ _ _ rfl ?_
        refine Or.inl ⟨_, _, hix64 _, ?_⟩
        repeat refine hX _ _ _ _ _ _ _ _ _ _ _ _ _ _ rfl ?_
        refine br_f (show ¬ b2i true = 0 by decide) ?_
        repeat refine hX _ _ _ _ _ _ _ _ _ _ _ _ _ _ rfl ?_
        refine Or.inl ⟨_, _, hiw64 _, ?_⟩
        repeat refine hX _ _ _ _ _ _ _ _ _ _ _ _ _ _ rfl ?_
        refine br_t (show ¬ b2i true = 0 by decide) ?_
        repeat refine hX _ _ _ _ _ _ _ _ _ _ _ _ _ _ rfl ?_
        refine Or.inl ⟨_, _, hwr, ?_⟩
        repeat refine hX _ _ _ _ _ _ _ _ _ _ _ _ _ _ rfl ?_
        refine ⟨by unfold vp_in; decide, ?_⟩
        rw [show (6 : Int32).toNatClampNeg = 6 from rfl]
        rw [h6]
        iterate 2 (refine hX _ _ _ _ _ _ _ _ _ _ _ _ _ _ rfl ?_)
        rw [ean]
        iterate 6 (refine hX _ _ _ _ _ _ _ _ _ _ _ _ _ _ rfl ?_)
        exact loop 64 0 none none (by omega) (Or.inl ⟨rfl, rfl⟩)
end
section
/-! ===== a text's tokens, by their places ===== -/
def kOf (c : Nat) : Nat := if 97 ≤ c ∧ c ≤ 122 then 1 else if 48 ≤ c ∧ c ≤ 57 then 2 else if c = 59 then 3 else 4
def skp (tx : aF) : Nat → Nat → Nat
  | 0, p => p
  | n + 1, p => if tx p = 32 then skp tx n (p + 1) else p
def scn (tx : aF) (k : Nat) : Nat → Nat → Nat
  | 0, p => p
  | n + 1, p => if kOf (tx p) = k then scn tx k n (p + 1) else p
def tB (tx : aF) (L p : Nat) : Nat := skp tx (L - p) p
def tK (tx : aF) (L b : Nat) : Nat := if b < L then kOf (tx b) else 0
def tE (tx : aF) (L b : Nat) : Nat := if b < L then (if kOf (tx b) = 1 ∨ kOf (tx b) = 2 then scn tx (kOf (tx b)) (L - (b + 1)) (b + 1) else b + 1) else b
theorem skp_le (tx : aF) : ∀ n p, p ≤ skp tx n p ∧ skp tx n p ≤ p + n
  | 0, p => ⟨Nat.le_refl _, Nat.le_refl _⟩
  | n + 1, p => by
    rw [skp]
    by_cases h : tx p = 32
    · rw [if_pos h]
      have := skp_le tx n (p + 1)
      omega
    · rw [if_neg h]
      omega
theorem scn_le (tx : aF) (k : Nat) : ∀ n p, p ≤ scn tx k n p ∧ scn tx k n p ≤ p + n
  | 0, p => ⟨Nat.le_refl _, Nat.le_refl _⟩
  | n + 1, p => by
    rw [scn]
    by_cases h : kOf (tx p) = k
    · rw [if_pos h]
      have := scn_le tx k n (p + 1)
      omega
    · rw [if_neg h]
      omega
theorem scn_all (tx : aF) (k : Nat) : ∀ n p i, p ≤ i → i < scn tx k n p → kOf (tx i) = k
  | 0, p, i, h1, h2 => by rw [scn] at h2; omega
  | n + 1, p, i, h1, h2 => by
    rw [scn] at h2
    by_cases h : kOf (tx p) = k
    · rw [if_pos h] at h2
      by_cases hi : i = p
      · rw [hi]; exact h
      · exact scn_all tx k n (p + 1) i (by omega) h2
    · rw [if_neg h] at h2
      omega
theorem tB_le (tx : aF) {L p : Nat} (h : p ≤ L) : p ≤ tB tx L p ∧ tB tx L p ≤ L := by
  have := skp_le tx (L - p) p
  unfold tB
  omega
theorem tE_le (tx : aF) {L b : Nat} (h : b ≤ L) : b ≤ tE tx L b ∧ tE tx L b ≤ L ∧ (b < L → b < tE tx L b) := by
  unfold tE
  by_cases h1 : b < L
  · rw [if_pos h1]
    by_cases h2 : kOf (tx b) = 1 ∨ kOf (tx b) = 2
    · rw [if_pos h2]
      have := scn_le tx (kOf (tx b)) (L - (b + 1)) (b + 1)
      omega
    · rw [if_neg h2]
      omega
  · rw [if_neg h1]
    omega
theorem tE_all (tx : aF) {L b i : Nat} (h1 : b ≤ i) (h2 : i < tE tx L b) : kOf (tx i) = kOf (tx b) := by
  unfold tE at h2
  by_cases h3 : b < L
  · rw [if_pos h3] at h2
    by_cases hi : i = b
    · rw [hi]
    · by_cases h4 : kOf (tx b) = 1 ∨ kOf (tx b) = 2
      · rw [if_pos h4] at h2
        exact scn_all tx _ _ _ i (by omega) h2
      · rw [if_neg h4] at h2
        omega
  · rw [if_neg h3] at h2
    omega
theorem kOf_1 {c : Nat} (h : kOf c = 1) : 97 ≤ c ∧ c ≤ 122 := by
  unfold kOf at h
  by_cases h1 : 97 ≤ c ∧ c ≤ 122
  · exact h1
  · rw [if_neg h1] at h
    by_cases h2 : 48 ≤ c ∧ c ≤ 57
    · rw [if_pos h2] at h; omega
    · rw [if_neg h2] at h
      by_cases h3 : c = 59
      · rw [if_pos h3] at h; omega
      · rw [if_neg h3] at h; omega
theorem kOf_2 {c : Nat} (h : kOf c = 2) : 48 ≤ c ∧ c ≤ 57 := by
  unfold kOf at h
  by_cases h1 : 97 ≤ c ∧ c ≤ 122
  · rw [if_pos h1] at h; omega
  · rw [if_neg h1] at h
    by_cases h2 : 48 ≤ c ∧ c ≤ 57
    · exact h2
    · rw [if_neg h2] at h
      by_cases h3 : c = 59
      · rw [if_pos h3] at h; omega
      · rw [if_neg h3] at h; omega
theorem kOf_le (c : Nat) : 1 ≤ kOf c ∧ kOf c ≤ 4 := by
  unfold kOf
  by_cases h1 : 97 ≤ c ∧ c ≤ 122
  · rw [if_pos h1]; omega
  · rw [if_neg h1]
    by_cases h2 : 48 ≤ c ∧ c ≤ 57
    · rw [if_pos h2]; omega
    · rw [if_neg h2]
      by_cases h3 : c = 59
      · rw [if_pos h3]; omega
      · rw [if_neg h3]; omega
theorem c_kindOf (S : zS) (d : Nat) (h : zH) {c : Nat} (hc : c < 256) : Ex S (d + 1) 0 0 21 [.int (nI c)] h (some (.int (nI (kOf c)))) h := by
  (refine exI rfl rfl ?_; intro X hX)
  have h28 : ¬ (97 ≤ c ∧ c ≤ 122) → ¬ (48 ≤ c ∧ c ≤ 57) → X 28 [some (.int (nI c))] [] h 0 0 := by
    intro n1 n2
    repeat refine hX _ _ _ _ _ _ _ _ _ _ _ _ _ _ rfl ?_
    by_cases h3 : c = 59
    · refine br_f (show ¬ ¬ nI c = nI 59 from fun h => h (congrArg nI h3)) ?_
      repeat refine hX _ _ _ _ _ _ _ _ _ _ _ _ _ _ rfl ?_
      exact ⟨by unfold kOf; rw [if_neg n1, if_neg n2, if_pos h3]; rfl, rfl⟩
    · refine br_t (show ¬ nI c = nI 59 from fun h => h3 ((nI_eq (by omega) (by decide)).mp h)) ?_
      repeat refine hX _ _ _ _ _ _ _ _ _ _ _ _ _ _ rfl ?_
      exact ⟨by unfold kOf; rw [if_neg n1, if_neg n2, if_neg h3]; rfl, rfl⟩
  have h14 : ¬ (97 ≤ c ∧ c ≤ 122) → X 14 [some (.int (nI c))] [] h 0 0 := by
    intro n1
    repeat refine hX _ _ _ _ _ _ _ _ _ _ _ _ _ _ rfl ?_
    by_cases h1 : c < 48
    · refine br_t (show nI c < nI 48 from nI_lt h1 (by decide)) ?_
      exact h28 n1 (by omega)
    · refine br_f (show ¬ nI c < nI 48 from nI_nlt (by omega) (by omega)) ?_
      repeat refine hX _ _ _ _ _ _ _ _ _ _ _ _ _ _ rfl ?_
      by_cases h2 : 57 < c
      · refine br_t (show nI 57 < nI c from nI_lt h2 (by omega)) ?_
        exact h28 n1 (by omega)
      · refine br_f (show ¬ nI 57 < nI c from nI_nlt (by omega) (by decide)) ?_
        repeat refine hX _ _ _ _ _ _ _ _ _ _ _ _ _ _ rfl ?_
        exact ⟨by unfold kOf; rw [if_neg n1, if_pos (by omega)]; rfl, rfl⟩
  repeat refine hX _ _ _ _ _ _ _ _ _ _ _ _ _ _ rfl ?_
  by_cases h1 : c < 97
  · refine br_t (show nI c < nI 97 from nI_lt h1 (by decide)) ?_
    exact h14 (by omega)
  · refine br_f (show ¬ nI c < nI 97 from nI_nlt (by omega) (by omega)) ?_
    repeat refine hX _ _ _ _ _ _ _ _ _ _ _ _ _ _ rfl ?_
    by_cases h2 : 122 < c
    · refine br_t (show nI 122 < nI c from nI_lt h2 (by omega)) ?_
      exact h14 (by omega)
    · refine br_f (show ¬ nI 122 < nI c from nI_nlt (by omega) (by decide)) ?_
      repeat refine hX _ _ _ _ _ _ _ _ _ _ _ _ _ _ rfl ?_
      exact ⟨by unfold kOf; rw [if_pos (by omega)]; rfl, rfl⟩
/-- the reader's text -/
def RR (r : cR) (tx : aF) (L : Nat) : Prop := L ≤ 150 ∧ rLetters r = nI L ∧ (∀ i, i < L → rText r i = nI (tx i)) ∧ ∀ i, i < L → tx i < 256
abbrev rT (r : cR) (b e k : Int32) : cR := s_rToken (s_rNext (s_rPlace r b) e) k
theorem c_readToken (S : zS) (d : Nat) (sw : Bool) (c : cS) (hm : List zC) {tx : aF} {L p : Nat} (hR : RR (cRd c) tx L) (hn : rNext (cRd c) = nI p) (hp : p ≤ L) : Ex S (d + 2) 0 0 20 [.ref 1] (hC sw c, hm) none (hC sw (s_cRd c (rT (cRd c) (nI (tB tx L p)) (nI (tE tx L (tB tx L p))) (nI (tK tx L (tB tx L p))))), hm) := by
  obtain ⟨hL, hl, htx, hlt⟩ := hR
  have hbL := tB_le tx hp
  generalize hb : tB tx L p = b at *
  have hkd := fun h i (hi : i < L) => c_kindOf S d h (hlt i hi)
  cases sw
  case false =>
    (refine exI rfl rfl ?_; intro X hX)
    have h38 : X 38 [some (.ref 1), none] [] (hC false (s_cRd c (s_rNext (cRd c) (nI b))), hm) 0 0 := by
      repeat refine hX _ _ _ _ _ _ _ _ _ _ _ _ _ _ rfl ?_
      by_cases hbl : b < L
      · refine br_t (show nI b < rLetters (cRd c) from by rw [hl]; exact nI_lt hbl (by omega)) ?_
        have loop2 : ∀ (n q : Nat), q + n = L → b < q → (kOf (tx b) = 1 ∨ kOf (tx b) = 2) → scn tx (kOf (tx b)) n q = tE tx L b → X 111 [some (.ref 1), some (.int 1)] [] (hC false (s_cRd c (rT (cRd c) (nI b) (nI q) (nI (kOf (tx b))))), hm) 0 0 := by
          intro n
          induction n with
          | zero =>
            intro q hq hbq hk he
            repeat refine hX _ _ _ _ _ _ _ _ _ _ _ _ _ _ rfl ?_
            refine br_f (show ¬ (1 : Int32) = 0 by decide) ?_
            repeat refine hX _ _ _ _ _ _ _ _ _ _ _ _ _ _ rfl ?_
            refine br_t (show rLetters (cRd c) ≤ nI q from by rw [hl]; exact nI_le (by omega) (by omega)) ?_
            repeat refine hX _ _ _ _ _ _ _ _ _ _ _ _ _ _ rfl ?_
            rw [scn] at he
            rw [tK, if_pos hbl, ← he]
            exact ⟨rfl, rfl⟩
          | succ n ih =>
            intro q hq hbq hk he
            rw [scn] at he
            repeat refine hX _ _ _ _ _ _ _ _ _ _ _ _ _ _ rfl ?_
            refine br_f (show ¬ (1 : Int32) = 0 by decide) ?_
            repeat refine hX _ _ _ _ _ _ _ _ _ _ _ _ _ _ rfl ?_
            refine br_f (show ¬ rLetters (cRd c) ≤ nI q from by rw [hl]; exact nI_ge (by omega) (by omega)) ?_
            repeat refine hX _ _ _ _ _ _ _ _ _ _ _ _ _ _ rfl ?_
            refine ⟨vp_in_nI (by omega) (by decide), ?_⟩
            rw [nI_clamp (by omega)]
            rw [htx q (by omega)]
            repeat refine hX _ _ _ _ _ _ _ _ _ _ _ _ _ _ rfl ?_
            refine Or.inl ⟨_, _, hkd _ q (by omega), ?_⟩
            repeat refine hX _ _ _ _ _ _ _ _ _ _ _ _ _ _ rfl ?_
            have hk1 := kOf_le (tx q)
            have hk2 := kOf_le (tx b)
            by_cases hkq : kOf (tx q) = kOf (tx b)
            · rw [if_pos hkq] at he
              refine br_f (show ¬ ¬ nI (kOf (tx q)) = nI (kOf (tx b)) from fun h => h (congrArg nI hkq)) ?_
              have h7 := ih (q + 1) (by omega) (by omega) hk he
              rw [← nI_1] at h7
              iterate 7 (refine hX _ _ _ _ _ _ _ _ _ _ _ _ _ _ rfl ?_)
              exact h7
            · rw [if_neg hkq] at he
              refine br_t (show ¬ nI (kOf (tx q)) = nI (kOf (tx b)) from fun h => hkq ((nI_eq (by omega) (by omega)).mp h)) ?_
              repeat refine hX _ _ _ _ _ _ _ _ _ _ _ _ _ _ rfl ?_
              rw [tK, if_pos hbl, ← he]
              exact ⟨rfl, rfl⟩
        have hk2 := kOf_le (tx b)
        repeat refine hX _ _ _ _ _ _ _ _ _ _ _ _ _ _ rfl ?_
        refine ⟨vp_in_nI (by omega) (by decide), ?_⟩
        rw [nI_clamp (by omega)]
        rw [htx b hbl]
        repeat refine hX _ _ _ _ _ _ _ _ _ _ _ _ _ _ rfl ?_
        refine Or.inl ⟨_, _, hkd _ b hbl, ?_⟩
        repeat refine hX _ _ _ _ _ _ _ _ _ _ _ _ _ _ rfl ?_
        have h110 : (kOf (tx b) = 1 ∨ kOf (tx b) = 2) → X 110 [some (.ref 1), none] [.int 1] (hC false (s_cRd c (rT (cRd c) (nI b) (nI (b + 1)) (nI (kOf (tx b))))), hm) 0 0 := by
          intro hk
          have h7 := loop2 (L - (b + 1)) (b + 1) (by omega) (by omega) hk (by rw [tE, if_pos hbl, if_pos hk])
          iterate 1 (refine hX _ _ _ _ _ _ _ _ _ _ _ _ _ _ rfl ?_)
          exact h7
        rw [← nI_1] at h110
        by_cases k1 : kOf (tx b) = 1
        · refine br_t (show nI (kOf (tx b)) = nI 1 from congrArg nI k1) ?_
          iterate 2 (refine hX _ _ _ _ _ _ _ _ _ _ _ _ _ _ rfl ?_)
          exact h110 (Or.inl k1)
        · refine br_f (show ¬ nI (kOf (tx b)) = nI 1 from fun h => k1 ((nI_eq (by omega) (by omega)).mp h)) ?_
          repeat refine hX _ _ _ _ _ _ _ _ _ _ _ _ _ _ rfl ?_
          by_cases k2 : kOf (tx b) = 2
          · refine br_f (show ¬ ¬ nI (kOf (tx b)) = nI 2 from fun h => h (congrArg nI k2)) ?_
            iterate 2 (refine hX _ _ _ _ _ _ _ _ _ _ _ _ _ _ rfl ?_)
            exact h110 (Or.inr k2)
          · refine br_t (show ¬ nI (kOf (tx b)) = nI 2 from fun h => k2 ((nI_eq (by omega) (by omega)).mp h)) ?_
            repeat refine hX _ _ _ _ _ _ _ _ _ _ _ _ _ _ rfl ?_
            refine br_t (show (0 : Int32) = 0 from rfl) ?_
            repeat refine hX _ _ _ _ _ _ _ _ _ _ _ _ _ _ rfl ?_
            refine ⟨rfl, ?_⟩
            rw [tK, if_pos hbl, tE, if_pos hbl, if_neg (fun h => h.elim k1 k2), ← nI_1]
            rfl
      · refine br_f (show ¬ nI b < rLetters (cRd c) from by rw [hl]; exact nI_nlt (by omega) (by omega)) ?_
        repeat refine hX _ _ _ _ _ _ _ _ _ _ _ _ _ _ rfl ?_
        refine ⟨rfl, ?_⟩
        rw [tK, if_neg hbl, tE, if_neg hbl]
        rfl
    have loop1 : ∀ (n q : Nat), q + n = L → skp tx n q = b → X 0 [some (.ref 1), none] [] (hC false (s_cRd c (s_rNext (cRd c) (nI q))), hm) 0 0 := by
      intro n
      induction n with
      | zero =>
        intro q hq he
        rw [skp] at he
        rw [← he] at h38
        repeat refine hX _ _ _ _ _ _ _ _ _ _ _ _ _ _ rfl ?_
        refine br_t (show rLetters (cRd c) ≤ nI q from by rw [hl]; exact nI_le (by omega) (by omega)) ?_
        exact h38
      | succ n ih =>
        intro q hq he
        rw [skp] at he
        have hql := hlt q (by omega)
        repeat refine hX _ _ _ _ _ _ _ _ _ _ _ _ _ _ rfl ?_
        refine br_f (show ¬ rLetters (cRd c) ≤ nI q from by rw [hl]; exact nI_ge (by omega) (by omega)) ?_
        repeat refine hX _ _ _ _ _ _ _ _ _ _ _ _ _ _ rfl ?_
        refine ⟨vp_in_nI (by omega) (by decide), ?_⟩
        rw [nI_clamp (by omega)]
        rw [htx q (by omega)]
        repeat refine hX _ _ _ _ _ _ _ _ _ _ _ _ _ _ rfl ?_
        by_cases h32 : tx q = 32
        · rw [if_pos h32] at he
          refine br_f (show ¬ ¬ nI (tx q) = nI 32 from fun h => h (congrArg nI h32)) ?_
          have h7 := ih (q + 1) (by omega) he
          rw [← nI_1] at h7
          iterate 7 (refine hX _ _ _ _ _ _ _ _ _ _ _ _ _ _ rfl ?_)
          exact h7
        · rw [if_neg h32] at he
          rw [← he] at h38
          refine br_t (show ¬ nI (tx q) = nI 32 from fun h => h32 ((nI_eq (by omega) (by omega)).mp h)) ?_
          exact h38
    have h0 := loop1 (L - p) p (by omega) hb
    rw [← hn] at h0
    exact h0
  case true =>
    (refine exI rfl rfl ?_; intro X hX)
    have h38 : X 38 [some (.ref 1), none] [] (hC true (s_cRd c (s_rNext (cRd c) (nI b))), hm) 0 0 := by
      repeat refine hX _ _ _ _ _ _ _ _ _ _ _ _ _ _ rfl ?_
      by_cases hbl : b < L
      · refine br_t (show nI b < rLetters (cRd c) from by rw [hl]; exact nI_lt hbl (by omega)) ?_
        have loop2 : ∀ (n q : Nat), q + n = L → b < q → (kOf (tx b) = 1 ∨ kOf (tx b) = 2) → scn tx (kOf (tx b)) n q = tE tx L b → X 111 [some (.ref 1), some (.int 1)] [] (hC true (s_cRd c (rT (cRd c) (nI b) (nI q) (nI (kOf (tx b))))), hm) 0 0 := by
          intro n
          induction n with
          | zero =>
            intro q hq hbq hk he
            repeat refine hX _ _ _ _ _ _ _ _ _ _ _ _ _ _ rfl ?_
            refine br_f (show ¬ (1 : Int32) = 0 by decide) ?_
            repeat refine hX _ _ _ _ _ _ _ _ _ _ _ _ _ _ rfl ?_
            refine br_t (show rLetters (cRd c) ≤ nI q from by rw [hl]; exact nI_le (by omega) (by omega)) ?_
            repeat refine hX _ _ _ _ _ _ _ _ _ _ _ _ _ _ rfl ?_
            rw [scn] at he
            rw [tK, if_pos hbl, ← he]
            exact ⟨rfl, rfl⟩
          | succ n ih =>
            intro q hq hbq hk he
            rw [scn] at he
            repeat refine hX _ _ _ _ _ _ _ _ _ _ _ _ _ _ rfl ?_
            refine br_f (show ¬ (1 : Int32) = 0 by decide) ?_
            repeat refine hX _ _ _ _ _ _ _ _ _ _ _ _ _ _ rfl ?_
            refine br_f (show ¬ rLetters (cRd c) ≤ nI q from by rw [hl]; exact nI_ge (by omega) (by omega)) ?_
            repeat refine hX _ _ _ _ _ _ _ _ _ _ _ _ _ _ rfl ?_
            refine ⟨vp_in_nI (by omega) (by decide), ?_⟩
            rw [nI_clamp (by omega)]
            rw [htx q (by omega)]
            repeat refine hX _ _ _ _ _ _ _ _ _ _ _ _ _ _ rfl ?_
            refine Or.inl ⟨_, _, hkd _ q (by omega), ?_⟩
            repeat refine hX _ _ _ _ _ _ _ _ _ _ _ _ _ _ rfl ?_
            have hk1 := kOf_le (tx q)
            have hk2 := kOf_le (tx b)
            by_cases hkq : kOf (tx q) = kOf (tx b)
            · rw [if_pos hkq] at he
              refine br_f (show ¬ ¬ nI (kOf (tx q)) = nI (kOf (tx b)) from fun h => h (congrArg nI hkq)) ?_
              have h7 := ih (q + 1) (by omega) (by omega) hk he
              rw [← nI_1] at h7
              iterate 7 (refine hX _ _ _ _ _ _ _ _ _ _ _ _ _ _ rfl ?_)
              exact h7
            · rw [if_neg hkq] at he
              refine br_t (show ¬ nI (kOf (tx q)) = nI (kOf (tx b)) from fun h => hkq ((nI_eq (by omega) (by omega)).mp h)) ?_
              repeat refine hX _ _ _ _ _ _ _ _ _ _ _ _ _ _ rfl ?_
              rw [tK, if_pos hbl, ← he]
              exact ⟨rfl, rfl⟩
        have hk2 := kOf_le (tx b)
        repeat refine hX _ _ _ _ _ _ _ _ _ _ _ _ _ _ rfl ?_
        refine ⟨vp_in_nI (by omega) (by decide), ?_⟩
        rw [nI_clamp (by omega)]
        rw [htx b hbl]
        repeat refine hX _ _ _ _ _ _ _ _ _ _ _ _ _ _ rfl ?_
        refine Or.inl ⟨_, _, hkd _ b hbl, ?_⟩
        repeat refine hX _ _ _ _ _ _ _ _ _ _ _ _ _ _ rfl ?_
        have h110 : (kOf (tx b) = 1 ∨ kOf (tx b) = 2) → X 110 [some (.ref 1), none] [.int 1] (hC true (s_cRd c (rT (cRd c) (nI b) (nI (b + 1)) (nI (kOf (tx b))))), hm) 0 0 := by
          intro hk
          have h7 := loop2 (L - (b + 1)) (b + 1) (by omega) (by omega) hk (by rw [tE, if_pos hbl, if_pos hk])
          iterate 1 (refine hX _ _ _ _ _ _ _ _ _ _ _ _ _ _ rfl ?_)
          exact h7
        rw [← nI_1] at h110
        by_cases k1 : kOf (tx b) = 1
        · refine br_t (show nI (kOf (tx b)) = nI 1 from congrArg nI k1) ?_
          iterate 2 (refine hX _ _ _ _ _ _ _ _ _ _ _ _ _ _ rfl ?_)
          exact h110 (Or.inl k1)
        · refine br_f (show ¬ nI (kOf (tx b)) = nI 1 from fun h => k1 ((nI_eq (by omega) (by omega)).mp h)) ?_
          repeat refine hX _ _ _ _ _ _ _ _ _ _ _ _ _ _ rfl ?_
          by_cases k2 : kOf (tx b) = 2
          · refine br_f (show ¬ ¬ nI (kOf (tx b)) = nI 2 from fun h => h (congrArg nI k2)) ?_
            iterate 2 (refine hX _ _ _ _ _ _ _ _ _ _ _ _ _ _ rfl ?_)
            exact h110 (Or.inr k2)
          · refine br_t (show ¬ nI (kOf (tx b)) = nI 2 from fun h => k2 ((nI_eq (by omega) (by omega)).mp h)) ?_
            repeat refine hX _ _ _ _ _ _ _ _ _ _ _ _ _ _ rfl ?_
            refine br_t (show (0 : Int32) = 0 from rfl) ?_
            repeat refine hX _ _ _ _ _ _ _ _ _ _ _ _ _ _ rfl ?_
            refine ⟨rfl, ?_⟩
            rw [tK, if_pos hbl, tE, if_pos hbl, if_neg (fun h => h.elim k1 k2), ← nI_1]
            rfl
      · refine br_f (show ¬ nI b < rLetters (cRd c) from by rw [hl]; exact nI_nlt (by omega) (by omega)) ?_
        repeat refine hX _ _ _ _ _ _ _ _ _ _ _ _ _ _ rfl ?_
        refine ⟨rfl, ?_⟩
        rw [tK, if_neg hbl, tE, if_neg hbl]
        rfl
    have loop1 : ∀ (n q : Nat), q + n = L → skp tx n q = b → X 0 [some (.ref 1), none] [] (hC true (s_cRd c (s_rNext (cRd c) (nI q))), hm) 0 0 := by
      intro n
      induction n with
      | zero =>
        intro q hq he
        rw [skp] at he
        rw [← he] at h38
        repeat refine hX _ _ _ _ _ _ _ _ _ _ _ _ _ _ rfl ?_
        refine br_t (show rLetters (cRd c) ≤ nI q from by rw [hl]; exact nI_le (by omega) (by omega)) ?_
        exact h38
      | succ n ih =>
        intro q hq he
        rw [skp] at he
        have hql := hlt q (by omega)
        repeat refine hX _ _ _ _ _ _ _ _ _ _ _ _ _ _ rfl ?_
        refine br_f (show ¬ rLetters (cRd c) ≤ nI q from by rw [hl]; exact nI_ge (by omega) (by omega)) ?_
        repeat refine hX _ _ _ _ _ _ _ _ _ _ _ _ _ _ rfl ?_
        refine ⟨vp_in_nI (by omega) (by decide), ?_⟩
        rw [nI_clamp (by omega)]
        rw [htx q (by omega)]
        repeat refine hX _ _ _ _ _ _ _ _ _ _ _ _ _ _ rfl ?_
        by_cases h32 : tx q = 32
        · rw [if_pos h32] at he
          refine br_f (show ¬ ¬ nI (tx q) = nI 32 from fun h => h (congrArg nI h32)) ?_
          have h7 := ih (q + 1) (by omega) he
          rw [← nI_1] at h7
          iterate 7 (refine hX _ _ _ _ _ _ _ _ _ _ _ _ _ _ rfl ?_)
          exact h7
        · rw [if_neg h32] at he
          rw [← he] at h38
          refine br_t (show ¬ nI (tx q) = nI 32 from fun h => h32 ((nI_eq (by omega) (by omega)).mp h)) ?_
          exact h38
    have h0 := loop1 (L - p) p (by omega) hb
    rw [← hn] at h0
    exact h0
end
section
/-! numbers and insults of a text -/
def tN (tx : aF) (L b : Nat) : Nat := if tK tx L b = 2 then (if tE tx L b - b = 1 then tx b - 48 else if tE tx L b - b = 2 ∧ tx b ≠ 48 then 10 * (tx b - 48) + (tx (b + 1) - 48) else 100) else 100
def fV (tx : aF) : Nat → Nat → Nat → Nat
  | 0, _, v => v
  | n + 1, i, v => fV tx n (i + 1) (min (v * 10 + (tx i - 48)) 100)
def lowF (tx : aF) : Nat → Nat → Bool
  | 0, _ => true
  | n + 1, i => decide (tx i ≤ 102) && lowF tx n (i + 1)
def setF (tx : aF) : Nat → Nat → Nat → Nat
  | 0, _, v => v
  | n + 1, i, v => setF tx n (i + 1) (v ||| 2 ^ (tx i - 97))
def tI (tx : aF) (L b most : Nat) : Bool := decide (tK tx L b = 1) && (decide (tE tx L b - b ≤ most) && lowF tx (tE tx L b - b) b)
def tS (tx : aF) (L b : Nat) : Nat := setF tx (tE tx L b - b) b 0
theorem fV_100 (tx : aF) : ∀ n i, fV tx n i 100 = 100
  | 0, _ => rfl
  | n + 1, i => by rw [fV, Nat.min_eq_right (by omega), fV_100 tx n (i + 1)]
theorem tK_2 {tx : aF} {L b : Nat} (h : tK tx L b = 2) : b < L ∧ kOf (tx b) = 2 := by
  unfold tK at h
  by_cases h1 : b < L
  · rw [if_pos h1] at h; exact ⟨h1, h⟩
  · rw [if_neg h1] at h; omega
theorem tK_1 {tx : aF} {L b : Nat} (h : tK tx L b = 1) : b < L ∧ kOf (tx b) = 1 := by
  unfold tK at h
  by_cases h1 : b < L
  · rw [if_pos h1] at h; exact ⟨h1, h⟩
  · rw [if_neg h1] at h; omega
theorem tK_le (tx : aF) (L b : Nat) : tK tx L b ≤ 4 := by
  unfold tK
  by_cases h1 : b < L
  · rw [if_pos h1]; exact (kOf_le _).2
  · rw [if_neg h1]; omega
theorem tN_le (tx : aF) (L b : Nat) : tN tx L b ≤ 100 := by
  unfold tN
  by_cases h1 : tK tx L b = 2
  · rw [if_pos h1]
    have ⟨hb, hk⟩ := tK_2 h1
    have := kOf_2 hk
    by_cases h2 : tE tx L b - b = 1
    · rw [if_pos h2]; omega
    · rw [if_neg h2]
      by_cases h3 : tE tx L b - b = 2 ∧ tx b ≠ 48
      · rw [if_pos h3]
        have := kOf_2 ((tE_all tx (L := L) (i := b + 1) (by omega) (by omega)).trans hk)
        omega
      · rw [if_neg h3]; omega
  · rw [if_neg h1]; omega
theorem fV_tN {tx : aF} {L b : Nat} (h : tK tx L b = 2) (h0 : ¬ (tx b = 48 ∧ 1 < tE tx L b - b)) : fV tx (tE tx L b - b) b 0 = tN tx L b := by
  have ⟨hb, hk⟩ := tK_2 h
  have hlt := (tE_le tx (Nat.le_of_lt hb)).2.2 hb
  have hd : ∀ i, b ≤ i → i < tE tx L b → 48 ≤ tx i ∧ tx i ≤ 57 := fun i h1 h2 => kOf_2 ((tE_all tx h1 h2).trans hk)
  have d1 := hd b (Nat.le_refl _) hlt
  unfold tN
  rw [if_pos h]
  by_cases h2 : tE tx L b - b = 1
  · rw [if_pos h2, h2, fV, fV, Nat.min_eq_left (by omega)]
    omega
  · rw [if_neg h2]
    have h48 : tx b ≠ 48 := fun h => h0 ⟨h, by omega⟩
    have d2 := hd (b + 1) (by omega) (by omega)
    by_cases h3 : tE tx L b - b = 2
    · rw [if_pos ⟨h3, h48⟩, h3, fV, fV, fV, Nat.min_eq_left (show 0 * 10 + (tx b - 48) ≤ 100 by omega), Nat.min_eq_left (by omega)]
      omega
    · rw [if_neg (fun h => h3 h.1)]
      have d3 := hd (b + 2) (by omega) (by omega)
      obtain ⟨n, hn⟩ : ∃ n, tE tx L b - b = n + 3 := ⟨tE tx L b - b - 3, by omega⟩
      rw [hn, fV, fV, fV, Nat.min_eq_left (show 0 * 10 + (tx b - 48) ≤ 100 by omega), Nat.min_eq_left (show (0 * 10 + (tx b - 48)) * 10 + (tx (b + 1) - 48) ≤ 100 by omega), Nat.min_eq_right (by omega), fV_100]
theorem j_min (S : zS) (d : Nat) (h : zH) {x y : Nat} (hx : x < 2 ^ 31) (hy : y < 2 ^ 31) : Ex S (d + 1) 0 0 153 [.int (nI x), .int (nI y)] h (some (.int (nI (min x y)))) h := by
  (refine exI rfl rfl ?_; intro X hX)
  repeat refine hX _ _ _ _ _ _ _ _ _ _ _ _ _ _ rfl ?_
  by_cases hlt : y < x
  · refine br_t (show nI y < nI x from nI_lt hlt hx) ?_
    repeat refine hX _ _ _ _ _ _ _ _ _ _ _ _ _ _ rfl ?_
    exact ⟨by rw [Nat.min_eq_right (by omega)], rfl⟩
  · refine br_f (show ¬ nI y < nI x from nI_nlt (by omega) hy) ?_
    repeat refine hX _ _ _ _ _ _ _ _ _ _ _ _ _ _ rfl ?_
    exact ⟨by rw [Nat.min_eq_left (by omega)], rfl⟩
theorem c_numberOf (S : zS) (d : Nat) (sw : Bool) (c : cS) (hm : List zC) {tx : aF} {L b : Nat} (hR : RR (cRd c) tx L) (hb : rPlace (cRd c) = nI b) (he : rNext (cRd c) = nI (tE tx L b)) (hk : tK tx L b = 2) : Ex S (d + 2) 0 0 17 [.ref 1] (hC sw c, hm) (some (.int (nI (tN tx L b)))) (hC sw c, hm) := by
  obtain ⟨hL, hl, htx, hlt⟩ := hR
  have ⟨hbl, hkb⟩ := tK_2 hk
  have hte := tE_le tx (Nat.le_of_lt hbl)
  have hd : ∀ i, b ≤ i → i < tE tx L b → 48 ≤ tx i ∧ tx i ≤ 57 := fun i h1 h2 => kOf_2 ((tE_all tx h1 h2).trans hkb)
  have d1 := hd b (Nat.le_refl _) (hte.2.2 hbl)
  have hfv := fV_tN hk
  have htn := tN_le tx L b
  generalize hee : tE tx L b = e at *
  have hmn := fun h x (hx : x < 2 ^ 31) => j_min S d h hx (y := 100) (by decide)
  cases sw
  case false =>
    (refine exI rfl rfl ?_; intro X hX)
    have loop : ¬ (tx b = 48 ∧ 1 < e - b) → ∀ (n i v : Nat), i + n = e → b ≤ i → v ≤ 100 → fV tx n i v = tN tx L b → X 37 [some (.ref 1), some (.int (nI v)), some (.int (nI i))] [] (hC false c, hm) 0 0 := by
      intro hz n
      induction n with
      | zero =>
        intro i v hi hbi hv hf
        repeat refine hX _ _ _ _ _ _ _ _ _ _ _ _ _ _ rfl ?_
        rw [he]
        refine br_t (show nI e ≤ nI i from nI_le (by omega) (by omega)) ?_
        repeat refine hX _ _ _ _ _ _ _ _ _ _ _ _ _ _ rfl ?_
        rw [fV] at hf
        exact ⟨by rw [hf], rfl⟩
      | succ n ih =>
        intro i v hi hbi hv hf
        have di := hd i hbi (by omega)
        rw [fV] at hf
        repeat refine hX _ _ _ _ _ _ _ _ _ _ _ _ _ _ rfl ?_
        rw [he]
        refine br_f (show ¬ nI e ≤ nI i from nI_ge (by omega) (by omega)) ?_
        repeat refine hX _ _ _ _ _ _ _ _ _ _ _ _ _ _ rfl ?_
        refine ⟨vp_in_nI (by omega) (by decide), ?_⟩
        rw [nI_clamp (by omega)]
        rw [htx i (by omega)]
        iterate 4 (refine hX _ _ _ _ _ _ _ _ _ _ _ _ _ _ rfl ?_)
        rw [show nI v * 10 + nI (tx i) - 48 = nI (v * 10 + (tx i - 48)) from by rw [show (10 : Int32) = nI 10 from rfl, pk_mul, nI_add, show (48 : Int32) = nI 48 from rfl, pk_sub (by omega), Nat.add_sub_assoc di.1]]
        repeat refine hX _ _ _ _ _ _ _ _ _ _ _ _ _ _ rfl ?_
        refine Or.inl ⟨_, _, hmn _ (v * 10 + (tx i - 48)) (by omega), ?_⟩
        iterate 3 (refine hX _ _ _ _ _ _ _ _ _ _ _ _ _ _ rfl ?_)
        rw [nI_1]
        exact ih (i + 1) _ (by omega) (by omega) (Nat.min_le_right _ _) hf
    have h30 : ¬ (tx b = 48 ∧ 1 < e - b) → X 30 [some (.ref 1), none, none] [] (hC false c, hm) 0 0 := by
      intro hz
      have h7 := loop hz (e - b) b 0 (by omega) (Nat.le_refl _) (by omega) (hfv hz)
      rw [← hb] at h7
      iterate 5 (refine hX _ _ _ _ _ _ _ _ _ _ _ _ _ _ rfl ?_)
      exact h7
    repeat refine hX _ _ _ _ _ _ _ _ _ _ _ _ _ _ rfl ?_
    rw [hb]
    refine ⟨vp_in_nI (by omega) (by decide), ?_⟩
    rw [nI_clamp (by omega)]
    rw [htx b hbl]
    repeat refine hX _ _ _ _ _ _ _ _ _ _ _ _ _ _ rfl ?_
    by_cases h48 : tx b = 48
    · refine br_f (show ¬ ¬ nI (tx b) = nI 48 from fun h => h (congrArg nI h48)) ?_
      iterate 5 (refine hX _ _ _ _ _ _ _ _ _ _ _ _ _ _ rfl ?_)
      rw [he, hb]
      iterate 2 (refine hX _ _ _ _ _ _ _ _ _ _ _ _ _ _ rfl ?_)
      rw [show nI e - nI b = nI (e - b) from pk_sub (by omega)]
      by_cases h1 : e - b ≤ 1
      · refine br_t (show nI (e - b) ≤ nI 1 from nI_le h1 (by decide)) ?_
        exact h30 (fun h => by omega)
      · refine br_f (show ¬ nI (e - b) ≤ nI 1 from nI_ge (by omega) (by omega)) ?_
        repeat refine hX _ _ _ _ _ _ _ _ _ _ _ _ _ _ rfl ?_
        refine ⟨?_, rfl⟩
        unfold tN
        rw [if_pos hk, hee, if_neg (by omega), if_neg (fun h => h.2 h48)]
        rfl
    · refine br_t (show ¬ nI (tx b) = nI 48 from fun h => h48 ((nI_eq (by omega) (by omega)).mp h)) ?_
      exact h30 (fun h => h48 h.1)
  case true =>
    (refine exI rfl rfl ?_; intro X hX)
    have loop : ¬ (tx b = 48 ∧ 1 < e - b) → ∀ (n i v : Nat), i + n = e → b ≤ i → v ≤ 100 → fV tx n i v = tN tx L b → X 37 [some (.ref 1), some (.int (nI v)), some (.int (nI i))] [] (hC true c, hm) 0 0 := by
      intro hz n
      induction n with
      | zero =>
        intro i v hi hbi hv hf
        repeat refine hX _ _ _ _ _ _ _ _ _ _ _ _ _ _ rfl ?_
        rw [he]
        refine br_t (show nI e ≤ nI i from nI_le (by omega) (by omega)) ?_
        repeat refine hX _ _ _ _ _ _ _ _ _ _ _ _ _ _ rfl ?_
        rw [fV] at hf
        exact ⟨by rw [hf], rfl⟩
      | succ n ih =>
        intro i v hi hbi hv hf
        have di := hd i hbi (by omega)
        rw [fV] at hf
        repeat refine hX _ _ _ _ _ _ _ _ _ _ _ _ _ _ rfl ?_
        rw [he]
        refine br_f (show ¬ nI e ≤ nI i from nI_ge (by omega) (by omega)) ?_
        repeat refine hX _ _ _ _ _ _ _ _ _ _ _ _ _ _ rfl ?_
        refine ⟨vp_in_nI (by omega) (by decide), ?_⟩
        rw [nI_clamp (by omega)]
        rw [htx i (by omega)]
        iterate 4 (refine hX _ _ _ _ _ _ _ _ _ _ _ _ _ _ rfl ?_)
        rw [show nI v * 10 + nI (tx i) - 48 = nI (v * 10 + (tx i - 48)) from by rw [show (10 : Int32) = nI 10 from rfl, pk_mul, nI_add, show (48 : Int32) = nI 48 from rfl, pk_sub (by omega), Nat.add_sub_assoc di.1]]
        repeat refine hX _ _ _ _ _ _ _ _ _ _ _ _ _ _ rfl ?_
        refine Or.inl ⟨_, _, hmn _ (v * 10 + (tx i - 48)) (by omega), ?_⟩
        iterate 3 (refine hX _ _ _ _ _ _ _ _ _ _ _ _ _ _ rfl ?_)
        rw [nI_1]
        exact ih (i + 1) _ (by omega) (by omega) (Nat.min_le_right _ _) hf
    have h30 : ¬ (tx b = 48 ∧ 1 < e - b) → X 30 [some (.ref 1), none, none] [] (hC true c, hm) 0 0 := by
      intro hz
      have h7 := loop hz (e - b) b 0 (by omega) (Nat.le_refl _) (by omega) (hfv hz)
      rw [← hb] at h7
      iterate 5 (refine hX _ _ _ _ _ _ _ _ _ _ _ _ _ _ rfl ?_)
      exact h7
    repeat refine hX _ _ _ _ _ _ _ _ _ _ _ _ _ _ rfl ?_
    rw [hb]
    refine ⟨vp_in_nI (by omega) (by decide), ?_⟩
    rw [nI_clamp (by omega)]
    rw [htx b hbl]
    repeat refine hX _ _ _ _ _ _ _ _ _ _ _ _ _ _ rfl ?_
    by_cases h48 : tx b = 48
    · refine br_f (show ¬ ¬ nI (tx b) = nI 48 from fun h => h (congrArg nI h48)) ?_
      iterate 5 (refine hX _ _ _ _ _ _ _ _ _ _ _ _ _ _ rfl ?_)
      rw [he, hb]
      iterate 2 (refine hX _ _ _ _ _ _ _ _ _ _ _ _ _ _ rfl ?_)
      rw [show nI e - nI b = nI (e - b) from pk_sub (by omega)]
      by_cases h1 : e - b ≤ 1
      · refine br_t (show nI (e - b) ≤ nI 1 from nI_le h1 (by decide)) ?_
        exact h30 (fun h => by omega)
      · refine br_f (show ¬ nI (e - b) ≤ nI 1 from nI_ge (by omega) (by omega)) ?_
        repeat refine hX _ _ _ _ _ _ _ _ _ _ _ _ _ _ rfl ?_
        refine ⟨?_, rfl⟩
        unfold tN
        rw [if_pos hk, hee, if_neg (by omega), if_neg (fun h => h.2 h48)]
        rfl
    · refine br_t (show ¬ nI (tx b) = nI 48 from fun h => h48 ((nI_eq (by omega) (by omega)).mp h)) ?_
      exact h30 (fun h => h48 h.1)
theorem c_readNumber (S : zS) (d : Nat) (sw : Bool) (c : cS) (hm : List zC) {tx : aF} {L p b : Nat} (hR : RR (cRd c) tx L) (hn : rNext (cRd c) = nI p) (hp : p ≤ L) (hb : tB tx L p = b) {lo hi : Nat} (hlo : lo < 1000) (hhi : hi < 1000) : Ex S (d + 3) 0 0 16 [.ref 1, .int (nI lo), .int (nI hi)] (hC sw c, hm) (some (.int (b2i (decide (lo ≤ tN tx L b) && decide (tN tx L b ≤ hi))))) (hC sw (s_cRd c (s_rNumber (rT (cRd c) (nI b) (nI (tE tx L b)) (nI (tK tx L b))) (nI (tN tx L b)))), hm) := by
  have hto := c_readToken S d sw c hm hR hn hp
  rw [hb] at hto
  have hno := fun hk => c_numberOf S d sw (s_cRd c (rT (cRd c) (nI b) (nI (tE tx L b)) (nI (tK tx L b)))) hm (tx := tx) (L := L) (b := b) hR rfl rfl hk
  have htn := tN_le tx L b
  have htk := tK_le tx L b
  cases sw
  case false =>
    (refine exI rfl rfl ?_; intro X hX)
    have h22 : X 22 [some (.ref 1), some (.int (nI lo)), some (.int (nI hi))] [.int (nI (tN tx L b)), .ref 1] (hC false (s_cRd c (rT (cRd c) (nI b) (nI (tE tx L b)) (nI (tK tx L b)))), hm) 0 0 := by
      repeat refine hX _ _ _ _ _ _ _ _ _ _ _ _ _ _ rfl ?_
      by_cases h1 : tN tx L b < lo
      · refine br_t (show nI (tN tx L b) < nI lo from nI_lt h1 (by omega)) ?_
        repeat refine hX _ _ _ _ _ _ _ _ _ _ _ _ _ _ rfl ?_
        exact ⟨Or.inl rfl, by rw [decide_eq_false (by omega)]; rfl, rfl⟩
      · refine br_f (show ¬ nI (tN tx L b) < nI lo from nI_nlt (by omega) (by omega)) ?_
        repeat refine hX _ _ _ _ _ _ _ _ _ _ _ _ _ _ rfl ?_
        by_cases h2 : hi < tN tx L b
        · refine br_t (show nI hi < nI (tN tx L b) from nI_lt h2 (by omega)) ?_
          repeat refine hX _ _ _ _ _ _ _ _ _ _ _ _ _ _ rfl ?_
          exact ⟨Or.inl rfl, by rw [decide_eq_false (show ¬ tN tx L b ≤ hi by omega), Bool.and_false]; rfl, rfl⟩
        · refine br_f (show ¬ nI hi < nI (tN tx L b) from nI_nlt (by omega) (by omega)) ?_
          repeat refine hX _ _ _ _ _ _ _ _ _ _ _ _ _ _ rfl ?_
          exact ⟨Or.inr rfl, by rw [decide_eq_true (show lo ≤ tN tx L b by omega), decide_eq_true (show tN tx L b ≤ hi by omega)]; rfl, rfl⟩
    repeat refine hX _ _ _ _ _ _ _ _ _ _ _ _ _ _ rfl ?_
    refine Or.inl ⟨_, _, hto, ?_⟩
    repeat refine hX _ _ _ _ _ _ _ _ _ _ _ _ _ _ rfl ?_
    by_cases hk : tK tx L b = 2
    · refine br_f (show ¬ ¬ nI (tK tx L b) = nI 2 from fun h => h (congrArg nI hk)) ?_
      repeat refine hX _ _ _ _ _ _ _ _ _ _ _ _ _ _ rfl ?_
      refine Or.inl ⟨_, _, hno hk, ?_⟩
      iterate 1 (refine hX _ _ _ _ _ _ _ _ _ _ _ _ _ _ rfl ?_)
      exact h22
    · refine br_t (show ¬ nI (tK tx L b) = nI 2 from fun h => hk ((nI_eq (by omega) (by omega)).mp h)) ?_
      have h100 : tN tx L b = 100 := by unfold tN; rw [if_neg hk]
      rw [h100] at h22
      iterate 1 (refine hX _ _ _ _ _ _ _ _ _ _ _ _ _ _ rfl ?_)
      exact h22
  case true =>
    (refine exI rfl rfl ?_; intro X hX)
    have h22 : X 22 [some (.ref 1), some (.int (nI lo)), some (.int (nI hi))] [.int (nI (tN tx L b)), .ref 1] (hC true (s_cRd c (rT (cRd c) (nI b) (nI (tE tx L b)) (nI (tK tx L b)))), hm) 0 0 := by
      repeat refine hX _ _ _ _ _ _ _ _ _ _ _ _ _ _ rfl ?_
      by_cases h1 : tN tx L b < lo
      · refine br_t (show nI (tN tx L b) < nI lo from nI_lt h1 (by omega)) ?_
        repeat refine hX _ _ _ _ _ _ _ _ _ _ _ _ _ _ rfl ?_
        exact ⟨Or.inl rfl, by rw [decide_eq_false (by omega)]; rfl, rfl⟩
      · refine br_f (show ¬ nI (tN tx L b) < nI lo from nI_nlt (by omega) (by omega)) ?_
        repeat refine hX _ _ _ _ _ _ _ _ _ _ _ _ _ _ rfl ?_
        by_cases h2 : hi < tN tx L b
        · refine br_t (show nI hi < nI (tN tx L b) from nI_lt h2 (by omega)) ?_
          repeat refine hX _ _ _ _ _ _ _ _ _ _ _ _ _ _ rfl ?_
          exact ⟨Or.inl rfl, by rw [decide_eq_false (show ¬ tN tx L b ≤ hi by omega), Bool.and_false]; rfl, rfl⟩
        · refine br_f (show ¬ nI hi < nI (tN tx L b) from nI_nlt (by omega) (by omega)) ?_
          repeat refine hX _ _ _ _ _ _ _ _ _ _ _ _ _ _ rfl ?_
          exact ⟨Or.inr rfl, by rw [decide_eq_true (show lo ≤ tN tx L b by omega), decide_eq_true (show tN tx L b ≤ hi by omega)]; rfl, rfl⟩
    repeat refine hX _ _ _ _ _ _ _ _ _ _ _ _ _ _ rfl ?_
    refine Or.inl ⟨_, _, hto, ?_⟩
    repeat refine hX _ _ _ _ _ _ _ _ _ _ _ _ _ _ rfl ?_
    by_cases hk : tK tx L b = 2
    · refine br_f (show ¬ ¬ nI (tK tx L b) = nI 2 from fun h => h (congrArg nI hk)) ?_
      repeat refine hX _ _ _ _ _ _ _ _ _ _ _ _ _ _ rfl ?_
      refine Or.inl ⟨_, _, hno hk, ?_⟩
      iterate 1 (refine hX _ _ _ _ _ _ _ _ _ _ _ _ _ _ rfl ?_)
      exact h22
    · refine br_t (show ¬ nI (tK tx L b) = nI 2 from fun h => hk ((nI_eq (by omega) (by omega)).mp h)) ?_
      have h100 : tN tx L b = 100 := by unfold tN; rw [if_neg hk]
      rw [h100] at h22
      iterate 1 (refine hX _ _ _ _ _ _ _ _ _ _ _ _ _ _ rfl ?_)
      exact h22
theorem c_readStop (S : zS) (d : Nat) (sw : Bool) (c : cS) (hm : List zC) {tx : aF} {L p b : Nat} (hR : RR (cRd c) tx L) (hn : rNext (cRd c) = nI p) (hp : p ≤ L) (hb : tB tx L p = b) : Ex S (d + 3) 0 0 15 [.ref 1] (hC sw c, hm) (some (.int (b2i (decide (tK tx L b = 3))))) (hC sw (s_cRd c (rT (cRd c) (nI b) (nI (tE tx L b)) (nI (tK tx L b)))), hm) := by
  have hto := c_readToken S d sw c hm hR hn hp
  rw [hb] at hto
  have htk := tK_le tx L b
  cases sw
  all_goals
    (refine exI rfl rfl ?_; intro X hX)
    repeat refine hX _ _ _ _ _ _ _ _ _ _ _ _ _ _ rfl ?_
    refine Or.inl ⟨_, _, hto, ?_⟩
    repeat refine hX _ _ _ _ _ _ _ _ _ _ _ _ _ _ rfl ?_
    by_cases hk : tK tx L b = 3
    · refine br_f (show ¬ ¬ nI (tK tx L b) = nI 3 from fun h => h (congrArg nI hk)) ?_
      repeat refine hX _ _ _ _ _ _ _ _ _ _ _ _ _ _ rfl ?_
      exact ⟨Or.inr rfl, by rw [decide_eq_true hk]; rfl, rfl⟩
    · refine br_t (show ¬ nI (tK tx L b) = nI 3 from fun h => hk ((nI_eq (by omega) (by omega)).mp h)) ?_
      repeat refine hX _ _ _ _ _ _ _ _ _ _ _ _ _ _ rfl ?_
      exact ⟨Or.inl rfl, by rw [decide_eq_false hk]; rfl, rfl⟩
theorem c_readInsults (S : zS) (d : Nat) (sw : Bool) (c : cS) (hm : List zC) {tx : aF} {L p b : Nat} (hR : RR (cRd c) tx L) (hn : rNext (cRd c) = nI p) (hp : p ≤ L) (hb : tB tx L p = b) {most : Nat} (hmo : most < 1000) : Ex S (d + 3) 0 0 18 [.ref 1, .int (nI most)] (hC sw c, hm) (some (.int (b2i (tI tx L b most)))) (hC sw (s_cRd c (rT (cRd c) (nI b) (nI (tE tx L b)) (nI (tK tx L b)))), hm) := by
  have hto := c_readToken S d sw c hm hR hn hp
  rw [hb] at hto
  have htk := tK_le tx L b
  have hbl := tB_le tx hp
  rw [hb] at hbl
  have hte := tE_le tx hbl.2
  obtain ⟨hL, hl, htx, hlt⟩ := hR
  unfold tI
  generalize tE tx L b = e at *
  cases sw
  case false =>
    (refine exI rfl rfl ?_; intro X hX)
    have loop : ∀ (n i : Nat), i + n = e → b ≤ i → tK tx L b = 1 → e - b ≤ most → (lowF tx n i = lowF tx (e - b) b) → X 32 [some (.ref 1), some (.int (nI most)), some (.int (nI i))] [] (hC false (s_cRd c (rT (cRd c) (nI b) (nI e) (nI (tK tx L b)))), hm) 0 0 := by
      intro n
      induction n with
      | zero =>
        intro i hi hbi h1 h2 h3
        repeat refine hX _ _ _ _ _ _ _ _ _ _ _ _ _ _ rfl ?_
        refine br_t (show nI e ≤ nI i from nI_le (by omega) (by omega)) ?_
        repeat refine hX _ _ _ _ _ _ _ _ _ _ _ _ _ _ rfl ?_
        exact ⟨Or.inr rfl, by rw [decide_eq_true h1, decide_eq_true h2, ← h3]; rfl, rfl⟩
      | succ n ih =>
        intro i hi hbi h1 h2 h3
        have hti := hlt i (by omega)
        rw [lowF] at h3
        repeat refine hX _ _ _ _ _ _ _ _ _ _ _ _ _ _ rfl ?_
        refine br_f (show ¬ nI e ≤ nI i from nI_ge (by omega) (by omega)) ?_
        repeat refine hX _ _ _ _ _ _ _ _ _ _ _ _ _ _ rfl ?_
        refine ⟨vp_in_nI (by omega) (by decide), ?_⟩
        rw [nI_clamp (by omega)]
        rw [htx i (by omega)]
        repeat refine hX _ _ _ _ _ _ _ _ _ _ _ _ _ _ rfl ?_
        by_cases h102 : tx i ≤ 102
        · rw [decide_eq_true h102, Bool.true_and] at h3
          refine br_t (show nI (tx i) ≤ nI 102 from nI_le h102 (by decide)) ?_
          iterate 2 (refine hX _ _ _ _ _ _ _ _ _ _ _ _ _ _ rfl ?_)
          rw [nI_1]
          exact ih (i + 1) (by omega) (by omega) h1 h2 h3
        · rw [decide_eq_false h102, Bool.false_and] at h3
          refine br_f (show ¬ nI (tx i) ≤ nI 102 from nI_ge (by omega) (by omega)) ?_
          repeat refine hX _ _ _ _ _ _ _ _ _ _ _ _ _ _ rfl ?_
          exact ⟨Or.inl rfl, by rw [← h3, Bool.and_false, Bool.and_false]; rfl, rfl⟩
    repeat refine hX _ _ _ _ _ _ _ _ _ _ _ _ _ _ rfl ?_
    refine Or.inl ⟨_, _, hto, ?_⟩
    repeat refine hX _ _ _ _ _ _ _ _ _ _ _ _ _ _ rfl ?_
    by_cases hk : tK tx L b = 1
    · refine br_f (show ¬ ¬ nI (tK tx L b) = nI 1 from fun h => h (congrArg nI hk)) ?_
      iterate 6 (refine hX _ _ _ _ _ _ _ _ _ _ _ _ _ _ rfl ?_)
      rw [show nI e - nI b = nI (e - b) from pk_sub (by omega)]
      iterate 1 (refine hX _ _ _ _ _ _ _ _ _ _ _ _ _ _ rfl ?_)
      by_cases h2 : e - b ≤ most
      · refine br_t (show nI (e - b) ≤ nI most from nI_le h2 (by omega)) ?_
        iterate 3 (refine hX _ _ _ _ _ _ _ _ _ _ _ _ _ _ rfl ?_)
        exact loop (e - b) b (by omega) (Nat.le_refl _) hk h2 rfl
      · refine br_f (show ¬ nI (e - b) ≤ nI most from nI_ge (by omega) (by omega)) ?_
        repeat refine hX _ _ _ _ _ _ _ _ _ _ _ _ _ _ rfl ?_
        exact ⟨Or.inl rfl, by rw [decide_eq_false h2, Bool.false_and, Bool.and_false]; rfl, rfl⟩
    · refine br_t (show ¬ nI (tK tx L b) = nI 1 from fun h => hk ((nI_eq (by omega) (by omega)).mp h)) ?_
      repeat refine hX _ _ _ _ _ _ _ _ _ _ _ _ _ _ rfl ?_
      exact ⟨Or.inl rfl, by rw [decide_eq_false hk, Bool.false_and]; rfl, rfl⟩
  case true =>
    (refine exI rfl rfl ?_; intro X hX)
    have loop : ∀ (n i : Nat), i + n = e → b ≤ i → tK tx L b = 1 → e - b ≤ most → (lowF tx n i = lowF tx (e - b) b) → X 32 [some (.ref 1), some (.int (nI most)), some (.int (nI i))] [] (hC true (s_cRd c (rT (cRd c) (nI b) (nI e) (nI (tK tx L b)))), hm) 0 0 := by
      intro n
      induction n with
      | zero =>
        intro i hi hbi h1 h2 h3
        repeat refine hX _ _ _ _ _ _ _ _ _ _ _ _ _ _ rfl ?_
        refine br_t (show nI e ≤ nI i from nI_le (by omega) (by omega)) ?_
        repeat refine hX _ _ _ _ _ _ _ _ _ _ _ _ _ _ rfl ?_
        exact ⟨Or.inr rfl, by rw [decide_eq_true h1, decide_eq_true h2, ← h3]; rfl, rfl⟩
      | succ n ih =>
        intro i hi hbi h1 h2 h3
        have hti := hlt i (by omega)
        rw [lowF] at h3
        repeat refine hX _ _ _ _ _ _ _ _ _ _ _ _ _ _ rfl ?_
        refine br_f (show ¬ nI e ≤ nI i from nI_ge (by omega) (by omega)) ?_
        repeat refine hX _ _ _ _ _ _ _ _ _ _ _ _ _ _ rfl ?_
        refine ⟨vp_in_nI (by omega) (by decide), ?_⟩
        rw [nI_clamp (by omega)]
        rw [htx i (by omega)]
        repeat refine hX _ _ _ _ _ _ _ _ _ _ _ _ _ _ rfl ?_
        by_cases h102 : tx i ≤ 102
        · rw [decide_eq_true h102, Bool.true_and] at h3
          refine br_t (show nI (tx i) ≤ nI 102 from nI_le h102 (by decide)) ?_
          iterate 2 (refine hX _ _ _ _ _ _ _ _ _ _ _ _ _ _ rfl ?_)
          rw [nI_1]
          exact ih (i + 1) (by omega) (by omega) h1 h2 h3
        · rw [decide_eq_false h102, Bool.false_and] at h3
          refine br_f (show ¬ nI (tx i) ≤ nI 102 from nI_ge (by omega) (by omega)) ?_
          repeat refine hX _ _ _ _ _ _ _ _ _ _ _ _ _ _ rfl ?_
          exact ⟨Or.inl rfl, by rw [← h3, Bool.and_false, Bool.and_false]; rfl, rfl⟩
    repeat refine hX _ _ _ _ _ _ _ _ _ _ _ _ _ _ rfl ?_
    refine Or.inl ⟨_, _, hto, ?_⟩
    repeat refine hX _ _ _ _ _ _ _ _ _ _ _ _ _ _ rfl ?_
    by_cases hk : tK tx L b = 1
    · refine br_f (show ¬ ¬ nI (tK tx L b) = nI 1 from fun h => h (congrArg nI hk)) ?_
      iterate 6 (refine hX _ _ _ _ _ _ _ _ _ _ _ _ _ _ rfl ?_)
      rw [show nI e - nI b = nI (e - b) from pk_sub (by omega)]
      iterate 1 (refine hX _ _ _ _ _ _ _ _ _ _ _ _ _ _ rfl ?_)
      by_cases h2 : e - b ≤ most
      · refine br_t (show nI (e - b) ≤ nI most from nI_le h2 (by omega)) ?_
        iterate 3 (refine hX _ _ _ _ _ _ _ _ _ _ _ _ _ _ rfl ?_)
        exact loop (e - b) b (by omega) (Nat.le_refl _) hk h2 rfl
      · refine br_f (show ¬ nI (e - b) ≤ nI most from nI_ge (by omega) (by omega)) ?_
        repeat refine hX _ _ _ _ _ _ _ _ _ _ _ _ _ _ rfl ?_
        exact ⟨Or.inl rfl, by rw [decide_eq_false h2, Bool.false_and, Bool.and_false]; rfl, rfl⟩
    · refine br_t (show ¬ nI (tK tx L b) = nI 1 from fun h => hk ((nI_eq (by omega) (by omega)).mp h)) ?_
      repeat refine hX _ _ _ _ _ _ _ _ _ _ _ _ _ _ rfl ?_
      exact ⟨Or.inl rfl, by rw [decide_eq_false hk, Bool.false_and]; rfl, rfl⟩
end
section
/-! ===== the reading of a town ===== -/
abbrev nb (tx : aF) (L b : Nat) : Nat := tB tx L (tE tx L b)
def taken (ya : aF) (y : Nat) : Nat → Bool
  | 0 => false
  | n + 1 => taken ya y n || decide (ya n = y)
abbrev tSta (T : aT) (w i : Nat) : aT := (aNy T, aSi T, aNs T + 1, aNp T, aup (aWe T) (aNs T) w, aup (aIn T) (aNs T) i, aHo T, aSt T, aCr T, aWg T)
abbrev tOne (T : aT) (h s c w : Nat) : aT := (aNy T, aSi T, aNs T, aNp T + 1, aWe T, aIn T, aup (aHo T) (aNp T) h, aup (aSt T) (aNp T) s, aup (aCr T) (aNp T) c, aup (aWg T) (aNp T) w)
abbrev tYar (T : aT) (n : Nat) : aT := (n, aSi T, aNs T, aNp T, aWe T, aIn T, aHo T, aSt T, aCr T, aWg T)
abbrev tSig (T : aT) (n : Nat) : aT := (aNy T, n, aNs T, aNp T, aWe T, aIn T, aHo T, aSt T, aCr T, aWg T)
abbrev pR : Type := Sum Nat (Nat × aT × aF × Bool)
def rng (tx : aF) (L b lo hi : Nat) : Bool := decide (lo ≤ tN tx L b) && decide (tN tx L b ≤ hi)
def pEnd (tx : aF) (L b : Nat) (T : aT) (ya : aF) (si : Bool) : pR := bif decide (tK tx L b = 3) then .inr (b, T, ya, si) else .inl b
def pSta (tx : aF) (L b0 : Nat) (T : aT) (ya : aF) (si : Bool) : pR :=
  bif decide (aNs T = 6) then .inl b0 else
  bif rng tx L (nb tx L b0) 0 (aNy T - 1) && !taken ya (tN tx L (nb tx L b0)) (aNs T) then
    bif rng tx L (nb tx L (nb tx L b0)) 1 30 then
      bif tI tx L (nb tx L (nb tx L (nb tx L b0))) 1 then
        pEnd tx L (nb tx L (nb tx L (nb tx L (nb tx L b0)))) (tSta T (tN tx L (nb tx L (nb tx L b0))) (tx (nb tx L (nb tx L (nb tx L b0))) - 97)) (aup ya (aNs T) (tN tx L (nb tx L b0))) si
      else .inl (nb tx L (nb tx L (nb tx L b0)))
    else .inl (nb tx L (nb tx L b0))
  else .inl (nb tx L b0)
def pOne (tx : aF) (L b0 : Nat) (T : aT) (ya : aF) (si : Bool) : pR :=
  bif decide (aNp T = 6) then .inl b0 else
  bif rng tx L (nb tx L b0) 0 (aNy T - 1) then
    bif rng tx L (nb tx L (nb tx L b0)) 1 9 then
      bif rng tx L (nb tx L (nb tx L (nb tx L b0))) 0 3 then
        bif tI tx L (nb tx L (nb tx L (nb tx L (nb tx L b0)))) 6 then
          pEnd tx L (nb tx L (nb tx L (nb tx L (nb tx L (nb tx L b0))))) (tOne T (tN tx L (nb tx L b0)) (tN tx L (nb tx L (nb tx L b0))) (tN tx L (nb tx L (nb tx L (nb tx L b0)))) (tS tx L (nb tx L (nb tx L (nb tx L (nb tx L b0)))))) ya si
        else .inl (nb tx L (nb tx L (nb tx L (nb tx L b0))))
      else .inl (nb tx L (nb tx L (nb tx L b0)))
    else .inl (nb tx L (nb tx L b0))
  else .inl (nb tx L b0)
def pYar (tx : aF) (L b0 : Nat) (T : aT) (ya : aF) (si : Bool) (it : Nat) : pR :=
  bif decide (it = 0) then
    bif rng tx L (nb tx L b0) 2 10 then pEnd tx L (nb tx L (nb tx L b0)) (tYar T (tN tx L (nb tx L b0))) ya si
    else .inl (nb tx L b0)
  else .inl b0
def pSig (tx : aF) (L b0 : Nat) (T : aT) (ya : aF) (si : Bool) : pR :=
  bif si then .inl b0 else
  bif rng tx L (nb tx L b0) 0 3 then pEnd tx L (nb tx L (nb tx L b0)) (tSig T (tN tx L (nb tx L b0))) ya true
  else .inl (nb tx L b0)
def pItm (tx : aF) (L b0 : Nat) (T : aT) (ya : aF) (si : Bool) (it : Nat) : pR :=
  bif decide (tK tx L b0 = 1) && decide (tE tx L b0 - b0 = 1) then
    if tx b0 = 110 then pYar tx L b0 T ya si it
    else if tx b0 = 116 then pSta tx L b0 T ya si
    else if tx b0 = 112 then pOne tx L b0 T ya si
    else if tx b0 = 118 then pSig tx L b0 T ya si
    else .inl b0
  else .inl b0
def pLop (tx : aF) (L : Nat) : Nat → Nat → Nat → aT → aF → Bool → Sum Nat (Nat × aT × aF)
  | 0, _, _, _, _, _ => .inl 0
  | n + 1, it, b, T, ya, si => bif decide (tK tx L b = 0) then .inr (it, T, ya) else
    match pItm tx L b T ya si it with
    | .inl f => .inl f
    | .inr (bl, T', ya', si') => pLop tx L n (it + 1) (nb tx L bl) T' ya' si'
def isR (r : pR) : Bool := match r with
  | .inl _ => false
  | .inr _ => true
def tT0 : aT := (6, 1, 0, 0, fun _ => 0, fun _ => 0, fun _ => 0, fun _ => 0, fun _ => 0, fun _ => 0)
theorem nb_le (tx : aF) {L b : Nat} (h : b ≤ L) : tE tx L b ≤ nb tx L b ∧ nb tx L b ≤ L := tB_le tx (tE_le tx h).2.1
/-! the class: one town is filled while the other is told -/
def SRel (t : cT) (T : aT) (ya : aF) : Prop := tYards t = nI (aNy T) ∧ tSight t = nI (aSi T) ∧ tStatues t = nI (aNs T) ∧ tPeople t = nI (aNp T) ∧ (∀ j, j < aNs T → tStands t j = nI (ya j) ∧ tWeight t j = nI (aWe T j) ∧ tInsult t j = nI (aIn T j)) ∧ (∀ p, p < aNp T → tHome t p = nI (aHo T p) ∧ tStrong t p = nI (aSt T p) ∧ tCredit t p = nI (aCr T p) ∧ tWrongs t p = nI (aWg T p))
def PWf (T : aT) (ya : aF) : Prop := TWf T ∧ (∀ j, j < aNs T → ya j < aNy T) ∧ (∀ j, j < aNs T → ∀ k, k < aNs T → ya j = ya k → j = k)
theorem c_empty (S : zS) (d : Nat) (sw : Bool) (c : cS) (hm : List zC) : Ex S (d + 1) 0 0 27 [.ref (spR sw)] (hC sw c, hm) none (hC sw (s_cSp c (6, 1, 0, 0, (cSp c).2.2.2.2)), hm) := by
  cases sw
  all_goals
    (refine exI rfl rfl ?_; intro X hX)
    repeat refine hX _ _ _ _ _ _ _ _ _ _ _ _ _ _ rfl ?_
    exact ⟨rfl, rfl⟩
theorem c_isTaken (S : zS) (d : Nat) (sw : Bool) (c : cS) (hm : List zC) {T : aT} {ya : aF} (hA : TWf T) (hya : ∀ j, j < aNs T → ya j < aNy T) (hS : SRel (cSp c) T ya) {y : Nat} (hy : y < 1000) : Ex S (d + 1) 0 0 31 [.ref (spR sw), .int (nI y)] (hC sw c, hm) (some (.int (b2i (taken ya y (aNs T))))) (hC sw c, hm) := by
  have hns := hA.2.2.2.1
  have hny := hA.2.1
  have hn := hS.2.2.1
  have hs := hS.2.2.2.2.1
  have hmono : ∀ k j, taken ya y j = true → taken ya y (j + k) = true := by
    intro k
    induction k with
    | zero => intro j h; exact h
    | succ k ih => intro j h; rw [← Nat.add_assoc, taken, ih j h, Bool.true_or]
  cases sw
  case false =>
    (refine exI rfl rfl ?_; intro X hX)
    have loop : ∀ (k j : Nat), j + k = aNs T → taken ya y j = false → X 2 [some (.ref 3), some (.int (nI y)), some (.int (nI j))] [] (hC false c, hm) 0 0 := by
      intro k
      induction k with
      | zero =>
        intro j hj ht
        repeat refine hX _ _ _ _ _ _ _ _ _ _ _ _ _ _ rfl ?_
        rw [hn]
        refine br_t (show nI (aNs T) ≤ nI j from nI_le (by omega) (by omega)) ?_
        repeat refine hX _ _ _ _ _ _ _ _ _ _ _ _ _ _ rfl ?_
        exact ⟨Or.inl rfl, by rw [← show j = aNs T by omega, ht]; rfl, rfl⟩
      | succ k ih =>
        intro j hj ht
        have hyj := hya j (by omega)
        repeat refine hX _ _ _ _ _ _ _ _ _ _ _ _ _ _ rfl ?_
        rw [hn]
        refine br_f (show ¬ nI (aNs T) ≤ nI j from nI_ge (by omega) (by omega)) ?_
        repeat refine hX _ _ _ _ _ _ _ _ _ _ _ _ _ _ rfl ?_
        refine ⟨vp_in_nI (by omega) (by decide), ?_⟩
        rw [nI_clamp (by omega)]
        rw [(hs j (by omega)).1]
        repeat refine hX _ _ _ _ _ _ _ _ _ _ _ _ _ _ rfl ?_
        by_cases he : ya j = y
        · refine br_f (show ¬ ¬ nI (ya j) = nI y from fun h => h (congrArg nI he)) ?_
          repeat refine hX _ _ _ _ _ _ _ _ _ _ _ _ _ _ rfl ?_
          have := hmono k (j + 1) (by rw [taken, decide_eq_true he, Bool.or_true])
          rw [show j + 1 + k = aNs T by omega] at this
          exact ⟨Or.inr rfl, by rw [this]; rfl, rfl⟩
        · refine br_t (show ¬ nI (ya j) = nI y from fun h => he ((nI_eq (by omega) (by omega)).mp h)) ?_
          iterate 2 (refine hX _ _ _ _ _ _ _ _ _ _ _ _ _ _ rfl ?_)
          rw [nI_1]
          exact ih (j + 1) (by omega) (by rw [taken, ht, decide_eq_false he]; rfl)
    iterate 2 (refine hX _ _ _ _ _ _ _ _ _ _ _ _ _ _ rfl ?_)
    exact loop (aNs T) 0 (by omega) rfl
  case true =>
    (refine exI rfl rfl ?_; intro X hX)
    have loop : ∀ (k j : Nat), j + k = aNs T → taken ya y j = false → X 2 [some (.ref 12), some (.int (nI y)), some (.int (nI j))] [] (hC true c, hm) 0 0 := by
      intro k
      induction k with
      | zero =>
        intro j hj ht
        repeat refine hX _ _ _ _ _ _ _ _ _ _ _ _ _ _ rfl ?_
        rw [hn]
        refine br_t (show nI (aNs T) ≤ nI j from nI_le (by omega) (by omega)) ?_
        repeat refine hX _ _ _ _ _ _ _ _ _ _ _ _ _ _ rfl ?_
        exact ⟨Or.inl rfl, by rw [← show j = aNs T by omega, ht]; rfl, rfl⟩
      | succ k ih =>
        intro j hj ht
        have hyj := hya j (by omega)
        repeat refine hX _ _ _ _ _ _ _ _ _ _ _ _ _ _ rfl ?_
        rw [hn]
        refine br_f (show ¬ nI (aNs T) ≤ nI j from nI_ge (by omega) (by omega)) ?_
        repeat refine hX _ _ _ _ _ _ _ _ _ _ _ _ _ _ rfl ?_
        refine ⟨vp_in_nI (by omega) (by decide), ?_⟩
        rw [nI_clamp (by omega)]
        rw [(hs j (by omega)).1]
        repeat refine hX _ _ _ _ _ _ _ _ _ _ _ _ _ _ rfl ?_
        by_cases he : ya j = y
        · refine br_f (show ¬ ¬ nI (ya j) = nI y from fun h => h (congrArg nI he)) ?_
          repeat refine hX _ _ _ _ _ _ _ _ _ _ _ _ _ _ rfl ?_
          have := hmono k (j + 1) (by rw [taken, decide_eq_true he, Bool.or_true])
          rw [show j + 1 + k = aNs T by omega] at this
          exact ⟨Or.inr rfl, by rw [this]; rfl, rfl⟩
        · refine br_t (show ¬ nI (ya j) = nI y from fun h => he ((nI_eq (by omega) (by omega)).mp h)) ?_
          iterate 2 (refine hX _ _ _ _ _ _ _ _ _ _ _ _ _ _ rfl ?_)
          rw [nI_1]
          exact ih (j + 1) (by omega) (by rw [taken, ht, decide_eq_false he]; rfl)
    iterate 2 (refine hX _ _ _ _ _ _ _ _ _ _ _ _ _ _ rfl ?_)
    exact loop (aNs T) 0 (by omega) rfl
abbrev qSta (t : cT) (n : Nat) (m y w i : Int32) : cT := (tYards t, tSight t, m, tPeople t, upd (tStands t) n y, upd (tWeight t) n w, upd (tInsult t) n i, tHome t, tStrong t, tCredit t, tWrongs t, tInsulted t)
abbrev qOne (t : cT) (n : Nat) (m h s c w : Int32) : cT := (tYards t, tSight t, tStatues t, m, tStands t, tWeight t, tInsult t, upd (tHome t) n h, upd (tStrong t) n s, upd (tCredit t) n c, upd (tWrongs t) n w, tInsulted t)
theorem c_addStatue (S : zS) (d : Nat) (sw : Bool) (c : cS) (hm : List zC) {n : Nat} (hn : tStatues (cSp c) = nI n) (h6 : n < 6) (y w i : Int32) : Ex S (d + 1) 0 0 32 [.ref (spR sw), .int y, .int w, .int i] (hC sw c, hm) none (hC sw (s_cSp c (qSta (cSp c) n (nI (n + 1)) y w i)), hm) := by
  cases sw
  case false =>
    (refine exI rfl rfl ?_; intro X hX)
    repeat refine hX _ _ _ _ _ _ _ _ _ _ _ _ _ _ rfl ?_
    refine br_f (show ¬ nI 6 ≤ tStatues (cSp c) from by rw [hn]; exact nI_ge h6 (by decide)) ?_
    repeat refine hX _ _ _ _ _ _ _ _ _ _ _ _ _ _ rfl ?_
    rw [hn]
    refine ⟨vp_in_nI (by omega) (by decide), ?_⟩
    rw [nI_clamp (by omega)]
    repeat refine hX _ _ _ _ _ _ _ _ _ _ _ _ _ _ rfl ?_
    rw [hn]
    refine ⟨vp_in_nI (by omega) (by decide), ?_⟩
    rw [nI_clamp (by omega)]
    repeat refine hX _ _ _ _ _ _ _ _ _ _ _ _ _ _ rfl ?_
    rw [hn]
    refine ⟨vp_in_nI (by omega) (by decide), ?_⟩
    rw [nI_clamp (by omega)]
    repeat refine hX _ _ _ _ _ _ _ _ _ _ _ _ _ _ rfl ?_
    refine ⟨rfl, ?_⟩
    rw [← nI_1, ← hn]
    rfl
  case true =>
    (refine exI rfl rfl ?_; intro X hX)
    repeat refine hX _ _ _ _ _ _ _ _ _ _ _ _ _ _ rfl ?_
    refine br_f (show ¬ nI 6 ≤ tStatues (cSp c) from by rw [hn]; exact nI_ge h6 (by decide)) ?_
    repeat refine hX _ _ _ _ _ _ _ _ _ _ _ _ _ _ rfl ?_
    rw [hn]
    refine ⟨vp_in_nI (by omega) (by decide), ?_⟩
    rw [nI_clamp (by omega)]
    repeat refine hX _ _ _ _ _ _ _ _ _ _ _ _ _ _ rfl ?_
    rw [hn]
    refine ⟨vp_in_nI (by omega) (by decide), ?_⟩
    rw [nI_clamp (by omega)]
    repeat refine hX _ _ _ _ _ _ _ _ _ _ _ _ _ _ rfl ?_
    rw [hn]
    refine ⟨vp_in_nI (by omega) (by decide), ?_⟩
    rw [nI_clamp (by omega)]
    repeat refine hX _ _ _ _ _ _ _ _ _ _ _ _ _ _ rfl ?_
    refine ⟨rfl, ?_⟩
    rw [← nI_1, ← hn]
    rfl
theorem c_addOne (S : zS) (d : Nat) (sw : Bool) (c : cS) (hm : List zC) {n : Nat} (hn : tPeople (cSp c) = nI n) (h6 : n < 6) (h s cr w : Int32) : Ex S (d + 1) 0 0 33 [.ref (spR sw), .int h, .int s, .int cr, .int w] (hC sw c, hm) none (hC sw (s_cSp c (qOne (cSp c) n (nI (n + 1)) h s cr w)), hm) := by
  cases sw
  case false =>
    (refine exI rfl rfl ?_; intro X hX)
    repeat refine hX _ _ _ _ _ _ _ _ _ _ _ _ _ _ rfl ?_
    refine br_f (show ¬ nI 6 ≤ tPeople (cSp c) from by rw [hn]; exact nI_ge h6 (by decide)) ?_
    repeat refine hX _ _ _ _ _ _ _ _ _ _ _ _ _ _ rfl ?_
    rw [hn]
    refine ⟨vp_in_nI (by omega) (by decide), ?_⟩
    rw [nI_clamp (by omega)]
    repeat refine hX _ _ _ _ _ _ _ _ _ _ _ _ _ _ rfl ?_
    rw [hn]
    refine ⟨vp_in_nI (by omega) (by decide), ?_⟩
    rw [nI_clamp (by omega)]
    repeat refine hX _ _ _ _ _ _ _ _ _ _ _ _ _ _ rfl ?_
    rw [hn]
    refine ⟨vp_in_nI (by omega) (by decide), ?_⟩
    rw [nI_clamp (by omega)]
    repeat refine hX _ _ _ _ _ _ _ _ _ _ _ _ _ _ rfl ?_
    rw [hn]
    refine ⟨vp_in_nI (by omega) (by decide), ?_⟩
    rw [nI_clamp (by omega)]
    repeat refine hX _ _ _ _ _ _ _ _ _ _ _ _ _ _ rfl ?_
    refine ⟨rfl, ?_⟩
    rw [← nI_1, ← hn]
    rfl
  case true =>
    (refine exI rfl rfl ?_; intro X hX)
    repeat refine hX _ _ _ _ _ _ _ _ _ _ _ _ _ _ rfl ?_
    refine br_f (show ¬ nI 6 ≤ tPeople (cSp c) from by rw [hn]; exact nI_ge h6 (by decide)) ?_
    repeat refine hX _ _ _ _ _ _ _ _ _ _ _ _ _ _ rfl ?_
    rw [hn]
    refine ⟨vp_in_nI (by omega) (by decide), ?_⟩
    rw [nI_clamp (by omega)]
    repeat refine hX _ _ _ _ _ _ _ _ _ _ _ _ _ _ rfl ?_
    rw [hn]
    refine ⟨vp_in_nI (by omega) (by decide), ?_⟩
    rw [nI_clamp (by omega)]
    repeat refine hX _ _ _ _ _ _ _ _ _ _ _ _ _ _ rfl ?_
    rw [hn]
    refine ⟨vp_in_nI (by omega) (by decide), ?_⟩
    rw [nI_clamp (by omega)]
    repeat refine hX _ _ _ _ _ _ _ _ _ _ _ _ _ _ rfl ?_
    rw [hn]
    refine ⟨vp_in_nI (by omega) (by decide), ?_⟩
    rw [nI_clamp (by omega)]
    repeat refine hX _ _ _ _ _ _ _ _ _ _ _ _ _ _ rfl ?_
    refine ⟨rfl, ?_⟩
    rw [← nI_1, ← hn]
    rfl
end
section
abbrev rX (r : cR) (b e k n : Int32) : cR := (rLetters r, rText r, rItems r, rSightTold r, b, e, k, n)
theorem n_num (S : zS) (d : Nat) (sw : Bool) (c : cS) (hm : List zC) {tx : aF} {L b0 : Nat} (hR : RR (cRd c) tx L) (hb0 : b0 ≤ L) (x k n : Int32) {lo hi : Nat} (hlo : lo < 1000) (hhi : hi < 1000) : Ex S (d + 3) 0 0 16 [.ref 1, .int (nI lo), .int (nI hi)] (hC sw (s_cRd c (rX (cRd c) x (nI (tE tx L b0)) k n)), hm) (some (.int (b2i (rng tx L (nb tx L b0) lo hi)))) (hC sw (s_cRd c (rX (cRd c) (nI (nb tx L b0)) (nI (tE tx L (nb tx L b0))) (nI (tK tx L (nb tx L b0))) (nI (tN tx L (nb tx L b0))))), hm) :=
  c_readNumber S d sw (s_cRd c (rX (cRd c) x (nI (tE tx L b0)) k n)) hm (tx := tx) (L := L) (p := tE tx L b0) hR rfl (tE_le tx hb0).2.1 rfl hlo hhi
theorem n_stop (S : zS) (d : Nat) (sw : Bool) (c : cS) (hm : List zC) {tx : aF} {L b0 : Nat} (hR : RR (cRd c) tx L) (hb0 : b0 ≤ L) (x k n : Int32) : Ex S (d + 3) 0 0 15 [.ref 1] (hC sw (s_cRd c (rX (cRd c) x (nI (tE tx L b0)) k n)), hm) (some (.int (b2i (decide (tK tx L (nb tx L b0) = 3))))) (hC sw (s_cRd c (rX (cRd c) (nI (nb tx L b0)) (nI (tE tx L (nb tx L b0))) (nI (tK tx L (nb tx L b0))) n)), hm) :=
  c_readStop S d sw (s_cRd c (rX (cRd c) x (nI (tE tx L b0)) k n)) hm (tx := tx) (L := L) (p := tE tx L b0) hR rfl (tE_le tx hb0).2.1 rfl
theorem n_ins (S : zS) (d : Nat) (sw : Bool) (c : cS) (hm : List zC) {tx : aF} {L b0 : Nat} (hR : RR (cRd c) tx L) (hb0 : b0 ≤ L) (x k n : Int32) {most : Nat} (hmo : most < 1000) : Ex S (d + 3) 0 0 18 [.ref 1, .int (nI most)] (hC sw (s_cRd c (rX (cRd c) x (nI (tE tx L b0)) k n)), hm) (some (.int (b2i (tI tx L (nb tx L b0) most)))) (hC sw (s_cRd c (rX (cRd c) (nI (nb tx L b0)) (nI (tE tx L (nb tx L b0))) (nI (tK tx L (nb tx L b0))) n)), hm) :=
  c_readInsults S d sw (s_cRd c (rX (cRd c) x (nI (tE tx L b0)) k n)) hm (tx := tx) (L := L) (p := tE tx L b0) hR rfl (tE_le tx hb0).2.1 rfl hmo
theorem lowF_at {tx : aF} : ∀ (n b i : Nat), lowF tx n b = true → b ≤ i → i < b + n → tx i ≤ 102
  | 0, _, _, _, h1, h2 => by omega
  | n + 1, b, i, h, h1, h2 => by
    rw [lowF, Bool.and_eq_true, decide_eq_true_eq] at h
    by_cases hi : i = b
    · rw [hi]; exact h.1
    · exact lowF_at n (b + 1) i h.2 (by omega) (by omega)
theorem tI_at {tx : aF} {L b most : Nat} (h : tI tx L b most = true) : b < L ∧ tE tx L b - b ≤ most ∧ ∀ i, b ≤ i → i < tE tx L b → 97 ≤ tx i ∧ tx i ≤ 102 := by
  unfold tI at h
  rw [Bool.and_eq_true, Bool.and_eq_true, decide_eq_true_eq, decide_eq_true_eq] at h
  obtain ⟨h1, h2, h3⟩ := h
  have ⟨hb, hk⟩ := tK_1 h1
  refine ⟨hb, h2, fun i h4 h5 => ⟨(kOf_1 ((tE_all tx h4 h5).trans hk)).1, lowF_at _ _ i h3 h4 (by omega)⟩⟩
theorem setF_lt {tx : aF} : ∀ (n i v : Nat), v < 64 → (∀ j, i ≤ j → j < i + n → 97 ≤ tx j ∧ tx j ≤ 102) → setF tx n i v < 64
  | 0, _, _, h, _ => h
  | n + 1, i, v, h, hl => by
    rw [setF]
    have := hl i (by omega) (by omega)
    exact setF_lt n (i + 1) _ (q_or_lt _ h _ (q_p64 _ (by omega))) (fun j h1 h2 => hl j (by omega) (by omega))
theorem tS_lt {tx : aF} {L b most : Nat} (h : tI tx L b most = true) : tS tx L b < 64 := by
  obtain ⟨h1, h2, h3⟩ := tI_at h
  have := (tE_le tx (Nat.le_of_lt h1)).2.2 h1
  exact setF_lt _ _ _ (by omega) (fun j h4 h5 => h3 j h4 (by omega))
theorem c_insultsOf (S : zS) (d : Nat) (sw : Bool) (c : cS) (hm : List zC) {tx : aF} {L b : Nat} (hR : RR (cRd c) tx L) (hb : rPlace (cRd c) = nI b) (he : rNext (cRd c) = nI (tE tx L b)) {most : Nat} (hI : tI tx L b most = true) : Ex S (d + 1) 0 0 19 [.ref 1] (hC sw c, hm) (some (.int (nI (tS tx L b)))) (hC sw c, hm) := by
  obtain ⟨hL, hl, htx, hlt⟩ := hR
  obtain ⟨hbl, hmo, hat⟩ := tI_at hI
  have hte := tE_le tx (Nat.le_of_lt hbl)
  unfold tS
  generalize tE tx L b = e at *
  cases sw
  case false =>
    (refine exI rfl rfl ?_; intro X hX)
    have loop : ∀ (n i v : Nat), i + n = e → b ≤ i → setF tx n i v = setF tx (e - b) b 0 → X 7 [some (.ref 1), some (.int (nI v)), some (.int (nI i))] [] (hC false c, hm) 0 0 := by
      intro n
      induction n with
      | zero =>
        intro i v hi hbi hf
        repeat refine hX _ _ _ _ _ _ _ _ _ _ _ _ _ _ rfl ?_
        rw [he]
        refine br_t (show nI e ≤ nI i from nI_le (by omega) (by omega)) ?_
        repeat refine hX _ _ _ _ _ _ _ _ _ _ _ _ _ _ rfl ?_
        rw [setF] at hf
        exact ⟨by rw [hf], rfl⟩
      | succ n ih =>
        intro i v hi hbi hf
        have di := hat i hbi (by omega)
        rw [setF] at hf
        repeat refine hX _ _ _ _ _ _ _ _ _ _ _ _ _ _ rfl ?_
        rw [he]
        refine br_f (show ¬ nI e ≤ nI i from nI_ge (by omega) (by omega)) ?_
        repeat refine hX _ _ _ _ _ _ _ _ _ _ _ _ _ _ rfl ?_
        refine ⟨vp_in_nI (by omega) (by decide), ?_⟩
        rw [nI_clamp (by omega)]
        rw [htx i (by omega)]
        iterate 3 (refine hX _ _ _ _ _ _ _ _ _ _ _ _ _ _ rfl ?_)
        rw [show nI (tx i) - 97 = nI (tx i - 97) from pk_sub (b := 97) di.1]
        iterate 1 (refine hX _ _ _ _ _ _ _ _ _ _ _ _ _ _ rfl ?_)
        rw [q_shl _ (show tx i - 97 < 12 by omega)]
        iterate 3 (refine hX _ _ _ _ _ _ _ _ _ _ _ _ _ _ rfl ?_)
        rw [nI_1, nI_or]
        exact ih (i + 1) _ (by omega) (by omega) hf
    have h7 := loop (e - b) b 0 (by omega) (Nat.le_refl _) rfl
    rw [← hb] at h7
    iterate 5 (refine hX _ _ _ _ _ _ _ _ _ _ _ _ _ _ rfl ?_)
    exact h7
  case true =>
    (refine exI rfl rfl ?_; intro X hX)
    have loop : ∀ (n i v : Nat), i + n = e → b ≤ i → setF tx n i v = setF tx (e - b) b 0 → X 7 [some (.ref 1), some (.int (nI v)), some (.int (nI i))] [] (hC true c, hm) 0 0 := by
      intro n
      induction n with
      | zero =>
        intro i v hi hbi hf
        repeat refine hX _ _ _ _ _ _ _ _ _ _ _ _ _ _ rfl ?_
        rw [he]
        refine br_t (show nI e ≤ nI i from nI_le (by omega) (by omega)) ?_
        repeat refine hX _ _ _ _ _ _ _ _ _ _ _ _ _ _ rfl ?_
        rw [setF] at hf
        exact ⟨by rw [hf], rfl⟩
      | succ n ih =>
        intro i v hi hbi hf
        have di := hat i hbi (by omega)
        rw [setF] at hf
        repeat refine hX _ _ _ _ _ _ _ _ _ _ _ _ _ _ rfl ?_
        rw [he]
        refine br_f (show ¬ nI e ≤ nI i from nI_ge (by omega) (by omega)) ?_
        repeat refine hX _ _ _ _ _ _ _ _ _ _ _ _ _ _ rfl ?_
        refine ⟨vp_in_nI (by omega) (by decide), ?_⟩
        rw [nI_clamp (by omega)]
        rw [htx i (by omega)]
        iterate 3 (refine hX _ _ _ _ _ _ _ _ _ _ _ _ _ _ rfl ?_)
        rw [show nI (tx i) - 97 = nI (tx i - 97) from pk_sub (b := 97) di.1]
        iterate 1 (refine hX _ _ _ _ _ _ _ _ _ _ _ _ _ _ rfl ?_)
        rw [q_shl _ (show tx i - 97 < 12 by omega)]
        iterate 3 (refine hX _ _ _ _ _ _ _ _ _ _ _ _ _ _ rfl ?_)
        rw [nI_1, nI_or]
        exact ih (i + 1) _ (by omega) (by omega) hf
    have h7 := loop (e - b) b 0 (by omega) (Nat.le_refl _) rfl
    rw [← hb] at h7
    iterate 5 (refine hX _ _ _ _ _ _ _ _ _ _ _ _ _ _ rfl ?_)
    exact h7
def CPost (tx : aF) (L : Nat) (c : cS) (r' : cR) (t' : cT) (res : pR) : Prop := rLetters r' = rLetters (cRd c) ∧ rText r' = rText (cRd c) ∧ rItems r' = rItems (cRd c) ∧ match res with
  | .inl f => rPlace r' = nI f ∧ f ≤ L
  | .inr (bl, T', ya', si') => bl < L ∧ rNext r' = nI (tE tx L bl) ∧ rSightTold r' = b2i si' ∧ SRel t' T' ya'
theorem tK_lt {tx : aF} {L b : Nat} (h : tK tx L b = 3) : b < L := by
  unfold tK at h
  by_cases h1 : b < L
  · exact h1
  · rw [if_neg h1] at h; omega
theorem pEnd_post {tx : aF} {L b : Nat} (hb : b ≤ L) {c : cS} {k n : Int32} {t' : cT} {T : aT} {ya : aF} {si : Bool} (hS : SRel t' T ya) (r0 : cR) (h1 : rLetters r0 = rLetters (cRd c)) (h2 : rText r0 = rText (cRd c)) (h3 : rItems r0 = rItems (cRd c)) (h4 : rSightTold r0 = b2i si) : CPost tx L c (rX r0 (nI b) (nI (tE tx L b)) k n) t' (pEnd tx L b T ya si) := by
  refine ⟨h1, h2, h3, ?_⟩
  unfold pEnd
  by_cases h : tK tx L b = 3
  · rw [decide_eq_true h]
    exact ⟨tK_lt h, rfl, h4, hS⟩
  · rw [decide_eq_false h]
    exact ⟨rfl, hb⟩
theorem pEnd_is (tx : aF) (L b : Nat) (T : aT) (ya : aF) (si : Bool) : isR (pEnd tx L b T ya si) = decide (tK tx L b = 3) := by
  unfold pEnd
  cases decide (tK tx L b = 3) <;> rfl
theorem c_readYards (S : zS) (d : Nat) (sw : Bool) (c : cS) (hm : List zC) {tx : aF} {L b0 it : Nat} {T : aT} {ya : aF} {si : Bool} (hR : RR (cRd c) tx L) (hb0 : b0 ≤ L) (hit : rItems (cRd c) = nI it) (hil : it ≤ L) (hsi : rSightTold (cRd c) = b2i si) (hS : SRel (cSp c) T ya) (k n : Int32) : ∃ r' t', Ex S (d + 4) 0 0 11 [.ref 1] (hC sw (s_cRd c (rX (cRd c) (nI b0) (nI (tE tx L b0)) k n)), hm) (some (.int (b2i (isR (pYar tx L b0 T ya si it))))) (hC sw (s_cSp (s_cRd c r') t'), hm) ∧ CPost tx L c r' t' (pYar tx L b0 T ya si it) := by
  have hL := hR.1
  have hnum := n_num S d sw c hm hR hb0 (nI b0) k n (lo := 2) (hi := 10) (by decide) (by decide)
  unfold pYar
  by_cases h0 : it = 0
  · rw [decide_eq_true h0]
    simp only [cond_true]
    cases hg : rng tx L (nb tx L b0) 2 10 with
    | false =>
      rw [hg] at hnum
      refine ⟨rX (cRd c) (nI (nb tx L b0)) (nI (tE tx L (nb tx L b0))) (nI (tK tx L (nb tx L b0))) (nI (tN tx L (nb tx L b0))), cSp c, ?_, ⟨rfl, rfl, rfl, rfl, (nb_le tx hb0).2⟩⟩
      cases sw
      all_goals
        (refine exI rfl rfl ?_; intro X hX)
        repeat refine hX _ _ _ _ _ _ _ _ _ _ _ _ _ _ rfl ?_
        refine br_f (show ¬ 0 < rItems (cRd c) from by rw [hit, h0]; decide) ?_
        repeat refine hX _ _ _ _ _ _ _ _ _ _ _ _ _ _ rfl ?_
        refine Or.inl ⟨_, _, hnum, ?_⟩
        repeat refine hX _ _ _ _ _ _ _ _ _ _ _ _ _ _ rfl ?_
        refine br_f (show ¬ ¬ b2i false = 0 by decide) ?_
        repeat refine hX _ _ _ _ _ _ _ _ _ _ _ _ _ _ rfl ?_
        exact ⟨Or.inl rfl, rfl, rfl⟩
    | true =>
      rw [hg] at hnum
      have hb1 := nb_le tx hb0
      have hstp := n_stop S d sw (s_cSp c (s_tYards (cSp c) (nI (tN tx L (nb tx L b0))))) hm hR hb1.2 (nI (nb tx L b0)) (nI (tK tx L (nb tx L b0))) (nI (tN tx L (nb tx L b0)))
      simp only [cond_true, pEnd_is]
      refine ⟨_, _, ?_, pEnd_post (tx := tx) (T := tYar T (tN tx L (nb tx L b0))) (nb_le tx hb1.2).2 (t' := s_tYards (cSp c) (nI (tN tx L (nb tx L b0)))) (k := nI (tK tx L (nb tx L (nb tx L b0)))) (n := nI (tN tx L (nb tx L b0))) ⟨rfl, hS.2⟩ (cRd c) rfl rfl rfl hsi⟩
      cases sw
      all_goals
        (refine exI rfl rfl ?_; intro X hX)
        repeat refine hX _ _ _ _ _ _ _ _ _ _ _ _ _ _ rfl ?_
        refine br_f (show ¬ 0 < rItems (cRd c) from by rw [hit, h0]; decide) ?_
        repeat refine hX _ _ _ _ _ _ _ _ _ _ _ _ _ _ rfl ?_
        refine Or.inl ⟨_, _, hnum, ?_⟩
        repeat refine hX _ _ _ _ _ _ _ _ _ _ _ _ _ _ rfl ?_
        refine br_t (show ¬ b2i true = 0 by decide) ?_
        repeat refine hX _ _ _ _ _ _ _ _ _ _ _ _ _ _ rfl ?_
        refine Or.inl ⟨_, _, hstp, ?_⟩
        repeat refine hX _ _ _ _ _ _ _ _ _ _ _ _ _ _ rfl ?_
        exact ⟨b2i_01 _, rfl, rfl⟩
  · rw [decide_eq_false h0]
    refine ⟨rX (cRd c) (nI b0) (nI (tE tx L b0)) k n, cSp c, ?_, ⟨rfl, rfl, rfl, rfl, hb0⟩⟩
    cases sw
    all_goals
      (refine exI rfl rfl ?_; intro X hX)
      repeat refine hX _ _ _ _ _ _ _ _ _ _ _ _ _ _ rfl ?_
      refine br_t (show 0 < rItems (cRd c) from by rw [hit]; exact nI_lt (a := 0) (by omega) (by omega)) ?_
      repeat refine hX _ _ _ _ _ _ _ _ _ _ _ _ _ _ rfl ?_
      exact ⟨Or.inl rfl, rfl, rfl⟩
theorem c_readSight (S : zS) (d : Nat) (sw : Bool) (c : cS) (hm : List zC) {tx : aF} {L b0 : Nat} {T : aT} {ya : aF} {si : Bool} (hR : RR (cRd c) tx L) (hb0 : b0 ≤ L) (hsi : rSightTold (cRd c) = b2i si) (hS : SRel (cSp c) T ya) (k n : Int32) : ∃ r' t', Ex S (d + 4) 0 0 12 [.ref 1] (hC sw (s_cRd c (rX (cRd c) (nI b0) (nI (tE tx L b0)) k n)), hm) (some (.int (b2i (isR (pSig tx L b0 T ya si))))) (hC sw (s_cSp (s_cRd c r') t'), hm) ∧ CPost tx L c r' t' (pSig tx L b0 T ya si) := by
  have hL := hR.1
  have hnum := n_num S d sw c hm hR hb0 (nI b0) k n (lo := 0) (hi := 3) (by decide) (by decide)
  unfold pSig
  cases si with
  | true =>
    refine ⟨rX (cRd c) (nI b0) (nI (tE tx L b0)) k n, cSp c, ?_, ⟨rfl, rfl, rfl, rfl, hb0⟩⟩
    cases sw
    all_goals
      (refine exI rfl rfl ?_; intro X hX)
      repeat refine hX _ _ _ _ _ _ _ _ _ _ _ _ _ _ rfl ?_
      refine br_t (show ¬ rSightTold (cRd c) = 0 from by rw [hsi]; decide) ?_
      repeat refine hX _ _ _ _ _ _ _ _ _ _ _ _ _ _ rfl ?_
      exact ⟨Or.inl rfl, rfl, rfl⟩
  | false =>
    simp only [cond_false]
    cases hg : rng tx L (nb tx L b0) 0 3 with
    | false =>
      rw [hg] at hnum
      refine ⟨rX (cRd c) (nI (nb tx L b0)) (nI (tE tx L (nb tx L b0))) (nI (tK tx L (nb tx L b0))) (nI (tN tx L (nb tx L b0))), cSp c, ?_, ⟨rfl, rfl, rfl, rfl, (nb_le tx hb0).2⟩⟩
      cases sw
      all_goals
        (refine exI rfl rfl ?_; intro X hX)
        repeat refine hX _ _ _ _ _ _ _ _ _ _ _ _ _ _ rfl ?_
        refine br_f (show ¬ ¬ rSightTold (cRd c) = 0 from by rw [hsi]; decide) ?_
        repeat refine hX _ _ _ _ _ _ _ _ _ _ _ _ _ _ rfl ?_
        refine Or.inl ⟨_, _, hnum, ?_⟩
        repeat refine hX _ _ _ _ _ _ _ _ _ _ _ _ _ _ rfl ?_
        refine br_f (show ¬ ¬ b2i false = 0 by decide) ?_
        repeat refine hX _ _ _ _ _ _ _ _ _ _ _ _ _ _ rfl ?_
        exact ⟨Or.inl rfl, rfl, rfl⟩
    | true =>
      rw [hg] at hnum
      have hb1 := nb_le tx hb0
      have hstp := n_stop S d sw (s_cRd (s_cSp c (s_tSight (cSp c) (nI (tN tx L (nb tx L b0))))) (s_rSightTold (cRd c) 1)) hm hR hb1.2 (nI (nb tx L b0)) (nI (tK tx L (nb tx L b0))) (nI (tN tx L (nb tx L b0)))
      simp only [cond_true, pEnd_is]
      refine ⟨_, _, ?_, pEnd_post (tx := tx) (si := true) (T := tSig T (tN tx L (nb tx L b0))) (nb_le tx hb1.2).2 (t' := s_tSight (cSp c) (nI (tN tx L (nb tx L b0)))) (k := nI (tK tx L (nb tx L (nb tx L b0)))) (n := nI (tN tx L (nb tx L b0))) ⟨hS.1, rfl, hS.2.2⟩ (s_rSightTold (cRd c) 1) rfl rfl rfl rfl⟩
      cases sw
      all_goals
        (refine exI rfl rfl ?_; intro X hX)
        repeat refine hX _ _ _ _ _ _ _ _ _ _ _ _ _ _ rfl ?_
        refine br_f (show ¬ ¬ rSightTold (cRd c) = 0 from by rw [hsi]; decide) ?_
        repeat refine hX _ _ _ _ _ _ _ _ _ _ _ _ _ _ rfl ?_
        refine Or.inl ⟨_, _, hnum, ?_⟩
        repeat refine hX _ _ _ _ _ _ _ _ _ _ _ _ _ _ rfl ?_
        refine br_t (show ¬ b2i true = 0 by decide) ?_
        repeat refine hX _ _ _ _ _ _ _ _ _ _ _ _ _ _ rfl ?_
        refine ⟨Or.inr rfl, ?_⟩
        repeat refine hX _ _ _ _ _ _ _ _ _ _ _ _ _ _ rfl ?_
        refine Or.inl ⟨_, _, hstp, ?_⟩
        repeat refine hX _ _ _ _ _ _ _ _ _ _ _ _ _ _ rfl ?_
        exact ⟨b2i_01 _, rfl, rfl⟩
end
section
theorem SRel_sta {t : cT} {T : aT} {ya : aF} (h : SRel t T ya) (y w i : Nat) : SRel (qSta t (aNs T) (nI (aNs T + 1)) (nI y) (nI w) (nI i)) (tSta T w i) (aup ya (aNs T) y) := by
  refine ⟨h.1, h.2.1, rfl, h.2.2.2.1, fun j hj => ?_, h.2.2.2.2.2⟩
  have hj : j < aNs T + 1 := hj
  show upd (tStands t) (aNs T) (nI y) j = nI (aup ya (aNs T) y j) ∧ upd (tWeight t) (aNs T) (nI w) j = nI (aup (aWe T) (aNs T) w j) ∧ upd (tInsult t) (aNs T) (nI i) j = nI (aup (aIn T) (aNs T) i j)
  by_cases he : j = aNs T
  · rw [he, pk_us, pk_us, pk_us, aup_s, aup_s, aup_s]
    exact ⟨rfl, rfl, rfl⟩
  · rw [pk_un he, pk_un he, pk_un he, aup_n _ _ he, aup_n _ _ he, aup_n _ _ he]
    exact h.2.2.2.2.1 j (by omega)
theorem SRel_one {t : cT} {T : aT} {ya : aF} (h : SRel t T ya) (ho st cr wg : Nat) : SRel (qOne t (aNp T) (nI (aNp T + 1)) (nI ho) (nI st) (nI cr) (nI wg)) (tOne T ho st cr wg) ya := by
  refine ⟨h.1, h.2.1, h.2.2.1, rfl, h.2.2.2.2.1, fun j hj => ?_⟩
  have hj : j < aNp T + 1 := hj
  show upd (tHome t) (aNp T) (nI ho) j = nI (aup (aHo T) (aNp T) ho j) ∧ upd (tStrong t) (aNp T) (nI st) j = nI (aup (aSt T) (aNp T) st j) ∧ upd (tCredit t) (aNp T) (nI cr) j = nI (aup (aCr T) (aNp T) cr j) ∧ upd (tWrongs t) (aNp T) (nI wg) j = nI (aup (aWg T) (aNp T) wg j)
  by_cases he : j = aNp T
  · rw [he, pk_us, pk_us, pk_us, pk_us, aup_s, aup_s, aup_s, aup_s]
    exact ⟨rfl, rfl, rfl, rfl⟩
  · rw [pk_un he, pk_un he, pk_un he, pk_un he, aup_n _ _ he, aup_n _ _ he, aup_n _ _ he, aup_n _ _ he]
    exact h.2.2.2.2.2 j (by omega)
theorem c_readStatue (S : zS) (d : Nat) (sw : Bool) (c : cS) (hm : List zC) {tx : aF} {L b0 : Nat} {T : aT} {ya : aF} {si : Bool} (hR : RR (cRd c) tx L) (hb0 : b0 ≤ L) (hsi : rSightTold (cRd c) = b2i si) (hP : PWf T ya) (hS : SRel (cSp c) T ya) (k n : Int32) : ∃ r' t', Ex S (d + 4) 0 0 13 [.ref 1] (hC sw (s_cRd c (rX (cRd c) (nI b0) (nI (tE tx L b0)) k n)), hm) (some (.int (b2i (isR (pSta tx L b0 T ya si))))) (hC sw (s_cSp (s_cRd c r') t'), hm) ∧ CPost tx L c r' t' (pSta tx L b0 T ya si) := by
  have hL := hR.1
  have hns := hP.1.2.2.2.1
  have hny := hP.1.2.1
  have hny2 := hP.1.1
  have e1 : nI (aNy T) - 1 = nI (aNy T - 1) := pk_sub (b := 1) (by omega)
  have hb1 := (nb_le tx hb0).2
  have hb2 := (nb_le tx hb1).2
  have hb3 := (nb_le tx hb2).2
  have hb4 := (nb_le tx hb3).2
  have hn1 := n_num S d sw c hm hR hb0 (nI b0) k n (lo := 0) (hi := aNy T - 1) (by decide) (by omega)
  have htn := tN_le tx L (nb tx L b0)
  have htk := c_isTaken S (d + 2) sw (s_cRd c (rX (cRd c) (nI (nb tx L b0)) (nI (tE tx L (nb tx L b0))) (nI (tK tx L (nb tx L b0))) (nI (tN tx L (nb tx L b0))))) hm hP.1 hP.2.1 hS (y := tN tx L (nb tx L b0)) (by omega)
  unfold pSta
  by_cases h6 : aNs T = 6
  · rw [decide_eq_true h6]
    refine ⟨rX (cRd c) (nI b0) (nI (tE tx L b0)) k n, cSp c, ?_, ⟨rfl, rfl, rfl, rfl, hb0⟩⟩
    cases sw
    all_goals
      (refine exI rfl rfl ?_; intro X hX)
      repeat refine hX _ _ _ _ _ _ _ _ _ _ _ _ _ _ rfl ?_
      refine br_t (show nI 6 ≤ tStatues (cSp c) from by rw [hS.2.2.1]; exact nI_le (by omega) (by omega)) ?_
      repeat refine hX _ _ _ _ _ _ _ _ _ _ _ _ _ _ rfl ?_
      exact ⟨Or.inl rfl, rfl, rfl⟩
  · rw [decide_eq_false h6]
    simp only [cond_false]
    cases hg1 : rng tx L (nb tx L b0) 0 (aNy T - 1) with
    | false =>
      rw [hg1] at hn1
      refine ⟨rX (cRd c) (nI (nb tx L b0)) (nI (tE tx L (nb tx L b0))) (nI (tK tx L (nb tx L b0))) (nI (tN tx L (nb tx L b0))), cSp c, ?_, ⟨rfl, rfl, rfl, rfl, hb1⟩⟩
      cases sw
      all_goals
        (refine exI rfl rfl ?_; intro X hX)
        repeat refine hX _ _ _ _ _ _ _ _ _ _ _ _ _ _ rfl ?_
        refine br_f (show ¬ nI 6 ≤ tStatues (cSp c) from by rw [hS.2.2.1]; exact nI_ge (by omega) (by omega)) ?_
        repeat refine hX _ _ _ _ _ _ _ _ _ _ _ _ _ _ rfl ?_
        rw [show tYards (cSp c) - 1 = nI (aNy T - 1) from by rw [hS.1, e1]]
        refine Or.inl ⟨_, _, hn1, ?_⟩
        repeat refine hX _ _ _ _ _ _ _ _ _ _ _ _ _ _ rfl ?_
        refine br_t (show b2i false = 0 from rfl) ?_
        repeat refine hX _ _ _ _ _ _ _ _ _ _ _ _ _ _ rfl ?_
        exact ⟨Or.inl rfl, rfl, rfl⟩
    | true =>
      rw [hg1] at hn1
      simp only [Bool.true_and]
      cases hg2 : taken ya (tN tx L (nb tx L b0)) (aNs T) with
      | true =>
        rw [hg2] at htk
        refine ⟨rX (cRd c) (nI (nb tx L b0)) (nI (tE tx L (nb tx L b0))) (nI (tK tx L (nb tx L b0))) (nI (tN tx L (nb tx L b0))), cSp c, ?_, ⟨rfl, rfl, rfl, rfl, hb1⟩⟩
        cases sw
        all_goals
          (refine exI rfl rfl ?_; intro X hX)
          repeat refine hX _ _ _ _ _ _ _ _ _ _ _ _ _ _ rfl ?_
          refine br_f (show ¬ nI 6 ≤ tStatues (cSp c) from by rw [hS.2.2.1]; exact nI_ge (by omega) (by omega)) ?_
          repeat refine hX _ _ _ _ _ _ _ _ _ _ _ _ _ _ rfl ?_
          rw [show tYards (cSp c) - 1 = nI (aNy T - 1) from by rw [hS.1, e1]]
          refine Or.inl ⟨_, _, hn1, ?_⟩
          repeat refine hX _ _ _ _ _ _ _ _ _ _ _ _ _ _ rfl ?_
          refine br_f (show ¬ b2i true = 0 by decide) ?_
          repeat refine hX _ _ _ _ _ _ _ _ _ _ _ _ _ _ rfl ?_
          refine Or.inl ⟨_, _, htk, ?_⟩
          repeat refine hX _ _ _ _ _ _ _ _ _ _ _ _ _ _ rfl ?_
          refine br_f (show ¬ b2i true = 0 by decide) ?_
          repeat refine hX _ _ _ _ _ _ _ _ _ _ _ _ _ _ rfl ?_
          exact ⟨Or.inl rfl, rfl, rfl⟩
      | false =>
        rw [hg2] at htk
        simp only [Bool.not_false, cond_true]
        have hn2 := n_num S d sw c hm hR hb1 (nI (nb tx L b0)) (nI (tK tx L (nb tx L b0))) (nI (tN tx L (nb tx L b0))) (lo := 1) (hi := 30) (by decide) (by decide)
        cases hg3 : rng tx L (nb tx L (nb tx L b0)) 1 30 with
        | false =>
          rw [hg3] at hn2
          refine ⟨rX (cRd c) (nI (nb tx L (nb tx L b0))) (nI (tE tx L (nb tx L (nb tx L b0)))) (nI (tK tx L (nb tx L (nb tx L b0)))) (nI (tN tx L (nb tx L (nb tx L b0)))), cSp c, ?_, ⟨rfl, rfl, rfl, rfl, hb2⟩⟩
          cases sw
          all_goals
            (refine exI rfl rfl ?_; intro X hX)
            repeat refine hX _ _ _ _ _ _ _ _ _ _ _ _ _ _ rfl ?_
            refine br_f (show ¬ nI 6 ≤ tStatues (cSp c) from by rw [hS.2.2.1]; exact nI_ge (by omega) (by omega)) ?_
            repeat refine hX _ _ _ _ _ _ _ _ _ _ _ _ _ _ rfl ?_
            rw [show tYards (cSp c) - 1 = nI (aNy T - 1) from by rw [hS.1, e1]]
            refine Or.inl ⟨_, _, hn1, ?_⟩
            repeat refine hX _ _ _ _ _ _ _ _ _ _ _ _ _ _ rfl ?_
            refine br_f (show ¬ b2i true = 0 by decide) ?_
            repeat refine hX _ _ _ _ _ _ _ _ _ _ _ _ _ _ rfl ?_
            refine Or.inl ⟨_, _, htk, ?_⟩
            repeat refine hX _ _ _ _ _ _ _ _ _ _ _ _ _ _ rfl ?_
            refine br_t (show b2i false = 0 from rfl) ?_
            repeat refine hX _ _ _ _ _ _ _ _ _ _ _ _ _ _ rfl ?_
            refine Or.inl ⟨_, _, hn2, ?_⟩
            repeat refine hX _ _ _ _ _ _ _ _ _ _ _ _ _ _ rfl ?_
            refine br_f (show ¬ ¬ b2i false = 0 by decide) ?_
            repeat refine hX _ _ _ _ _ _ _ _ _ _ _ _ _ _ rfl ?_
            exact ⟨Or.inl rfl, rfl, rfl⟩
        | true =>
          rw [hg3] at hn2
          simp only [cond_true]
          have hi3 := n_ins S d sw c hm hR hb2 (nI (nb tx L (nb tx L b0))) (nI (tK tx L (nb tx L (nb tx L b0)))) (nI (tN tx L (nb tx L (nb tx L b0)))) (most := 1) (by decide)
          generalize hB1 : nb tx L b0 = b1 at *
          generalize hB2 : nb tx L b1 = b2 at *
          generalize hB3 : nb tx L b2 = b3 at *
          cases hg4 : tI tx L b3 1 with
          | false =>
            rw [hg4] at hi3
            refine ⟨rX (cRd c) (nI b3) (nI (tE tx L b3)) (nI (tK tx L b3)) (nI (tN tx L b2)), cSp c, ?_, ⟨rfl, rfl, rfl, rfl, hb3⟩⟩
            cases sw
            all_goals
              (refine exI rfl rfl ?_; intro X hX)
              repeat refine hX _ _ _ _ _ _ _ _ _ _ _ _ _ _ rfl ?_
              refine br_f (show ¬ nI 6 ≤ tStatues (cSp c) from by rw [hS.2.2.1]; exact nI_ge (by omega) (by omega)) ?_
              repeat refine hX _ _ _ _ _ _ _ _ _ _ _ _ _ _ rfl ?_
              rw [show tYards (cSp c) - 1 = nI (aNy T - 1) from by rw [hS.1, e1]]
              refine Or.inl ⟨_, _, hn1, ?_⟩
              repeat refine hX _ _ _ _ _ _ _ _ _ _ _ _ _ _ rfl ?_
              refine br_f (show ¬ b2i true = 0 by decide) ?_
              repeat refine hX _ _ _ _ _ _ _ _ _ _ _ _ _ _ rfl ?_
              refine Or.inl ⟨_, _, htk, ?_⟩
              repeat refine hX _ _ _ _ _ _ _ _ _ _ _ _ _ _ rfl ?_
              refine br_t (show b2i false = 0 from rfl) ?_
              repeat refine hX _ _ _ _ _ _ _ _ _ _ _ _ _ _ rfl ?_
              refine Or.inl ⟨_, _, hn2, ?_⟩
              repeat refine hX _ _ _ _ _ _ _ _ _ _ _ _ _ _ rfl ?_
              refine br_t (show ¬ b2i true = 0 by decide) ?_
              repeat refine hX _ _ _ _ _ _ _ _ _ _ _ _ _ _ rfl ?_
              refine Or.inl ⟨_, _, hi3, ?_⟩
              repeat refine hX _ _ _ _ _ _ _ _ _ _ _ _ _ _ rfl ?_
              refine br_f (show ¬ ¬ b2i false = 0 by decide) ?_
              repeat refine hX _ _ _ _ _ _ _ _ _ _ _ _ _ _ rfl ?_
              exact ⟨Or.inl rfl, rfl, rfl⟩
          | true =>
            rw [hg4] at hi3
            obtain ⟨hbl, -, hat⟩ := tI_at hg4
            have hlt3 := (tE_le tx hb3).2.2 hbl
            have d3 := hat b3 (Nat.le_refl _) hlt3
            have htx3 := hR.2.2.1 b3 hbl
            have hadd := c_addStatue S (d + 2) sw (s_cRd c (rX (cRd c) (nI b3) (nI (tE tx L b3)) (nI (tK tx L b3)) (nI (tN tx L b2)))) hm (n := aNs T) hS.2.2.1 (by omega) (nI (tN tx L b1)) (nI (tN tx L b2)) (nI (tx b3 - 97))
            have hstp := n_stop S d sw (s_cSp c (qSta (cSp c) (aNs T) (nI (aNs T + 1)) (nI (tN tx L b1)) (nI (tN tx L b2)) (nI (tx b3 - 97)))) hm hR hb3 (nI b3) (nI (tK tx L b3)) (nI (tN tx L b2))
            simp only [cond_true, pEnd_is]
            refine ⟨_, _, ?_, pEnd_post (tx := tx) (k := nI (tK tx L (nb tx L b3))) (n := nI (tN tx L b2)) hb4 (SRel_sta hS (tN tx L b1) (tN tx L b2) (tx b3 - 97)) (cRd c) rfl rfl rfl hsi⟩
            cases sw
            all_goals
              (refine exI rfl rfl ?_; intro X hX)
              repeat refine hX _ _ _ _ _ _ _ _ _ _ _ _ _ _ rfl ?_
              refine br_f (show ¬ nI 6 ≤ tStatues (cSp c) from by rw [hS.2.2.1]; exact nI_ge (by omega) (by omega)) ?_
              repeat refine hX _ _ _ _ _ _ _ _ _ _ _ _ _ _ rfl ?_
              rw [show tYards (cSp c) - 1 = nI (aNy T - 1) from by rw [hS.1, e1]]
              refine Or.inl ⟨_, _, hn1, ?_⟩
              repeat refine hX _ _ _ _ _ _ _ _ _ _ _ _ _ _ rfl ?_
              refine br_f (show ¬ b2i true = 0 by decide) ?_
              repeat refine hX _ _ _ _ _ _ _ _ _ _ _ _ _ _ rfl ?_
              refine Or.inl ⟨_, _, htk, ?_⟩
              repeat refine hX _ _ _ _ _ _ _ _ _ _ _ _ _ _ rfl ?_
              refine br_t (show b2i false = 0 from rfl) ?_
              repeat refine hX _ _ _ _ _ _ _ _ _ _ _ _ _ _ rfl ?_
              refine Or.inl ⟨_, _, hn2, ?_⟩
              repeat refine hX _ _ _ _ _ _ _ _ _ _ _ _ _ _ rfl ?_
              refine br_t (show ¬ b2i true = 0 by decide) ?_
              repeat refine hX _ _ _ _ _ _ _ _ _ _ _ _ _ _ rfl ?_
              refine Or.inl ⟨_, _, hi3, ?_⟩
              repeat refine hX _ _ _ _ _ _ _ _ _ _ _ _ _ _ rfl ?_
              refine br_t (show ¬ b2i true = 0 by decide) ?_
              repeat refine hX _ _ _ _ _ _ _ _ _ _ _ _ _ _ rfl ?_
              refine ⟨vp_in_nI (by omega) (by decide), ?_⟩
              rw [nI_clamp (by omega)]
              rw [htx3]
              iterate 3 (refine hX _ _ _ _ _ _ _ _ _ _ _ _ _ _ rfl ?_)
              rw [show nI (tx b3) - 97 = nI (tx b3 - 97) from pk_sub (b := 97) d3.1]
              refine Or.inl ⟨_, _, hadd, ?_⟩
              repeat refine hX _ _ _ _ _ _ _ _ _ _ _ _ _ _ rfl ?_
              refine Or.inl ⟨_, _, hstp, ?_⟩
              repeat refine hX _ _ _ _ _ _ _ _ _ _ _ _ _ _ rfl ?_
              exact ⟨b2i_01 _, rfl, rfl⟩
end
