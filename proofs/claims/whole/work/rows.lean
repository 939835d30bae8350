section
-- ===== PART A: goes FIRST, ahead of the names: the tables' words, and 'selects' of the private methods out of them =====
/-- a private method of a class that the tables say can be made, by its rows of tables_1 -/
def lw_okq (q : MethodName × Nat) : Prop := (q.1.cls ≠ "java/lang/invoke/MethodHandle" ∧ q.1.cls ≠ "java/lang/invoke/VarHandle") ∧ Cond.instantiable q.1.cls q.2 ∈ tables_1 ∧ Cond.privateMethod q.1 ∈ tables_1 ∧ Cond.instanceMethod q.1 ∈ tables_1
theorem lw_p0 : lw_okq (⟨"RibbonOfLacks", "layTheText", "()Z"⟩, 11) := ⟨⟨by decide +kernel, by decide +kernel⟩, List.mem_of_getElem? (i := 18) (by decide +kernel), List.mem_of_getElem? (i := 316) (by decide +kernel), List.mem_of_getElem? (i := 317) (by decide +kernel)⟩
theorem lw_p1 : lw_okq (⟨"RibbonOfLacks$Reader", "readItem", "(LRibbonOfLacks$World;)Z"⟩, 3) := ⟨⟨by decide +kernel, by decide +kernel⟩, List.mem_of_getElem? (i := 40) (by decide +kernel), List.mem_of_getElem? (i := 332) (by decide +kernel), List.mem_of_getElem? (i := 333) (by decide +kernel)⟩
theorem lw_p2 : lw_okq (⟨"RibbonOfLacks$Reader", "readNumber", "()I"⟩, 3) := ⟨⟨by decide +kernel, by decide +kernel⟩, List.mem_of_getElem? (i := 40) (by decide +kernel), List.mem_of_getElem? (i := 343) (by decide +kernel), List.mem_of_getElem? (i := 344) (by decide +kernel)⟩
theorem lw_p3 : lw_okq (⟨"RibbonOfLacks$Reader", "figureAt", "(I)I"⟩, 3) := ⟨⟨by decide +kernel, by decide +kernel⟩, List.mem_of_getElem? (i := 40) (by decide +kernel), List.mem_of_getElem? (i := 347) (by decide +kernel), List.mem_of_getElem? (i := 348) (by decide +kernel)⟩
theorem lw_p4 : lw_okq (⟨"RibbonOfLacks$World", "takeThing", "(II)Z"⟩, 19) := ⟨⟨by decide +kernel, by decide +kernel⟩, List.mem_of_getElem? (i := 56) (by decide +kernel), List.mem_of_getElem? (i := 355) (by decide +kernel), List.mem_of_getElem? (i := 356) (by decide +kernel)⟩
theorem lw_p5 : lw_okq (⟨"RibbonOfLacks$World", "takeNeed", "(II)Z"⟩, 19) := ⟨⟨by decide +kernel, by decide +kernel⟩, List.mem_of_getElem? (i := 56) (by decide +kernel), List.mem_of_getElem? (i := 359) (by decide +kernel), List.mem_of_getElem? (i := 360) (by decide +kernel)⟩
theorem lw_p6 : lw_okq (⟨"RibbonOfLacks$World", "areTwoThings", "(II)Z"⟩, 19) := ⟨⟨by decide +kernel, by decide +kernel⟩, List.mem_of_getElem? (i := 56) (by decide +kernel), List.mem_of_getElem? (i := 363) (by decide +kernel), List.mem_of_getElem? (i := 364) (by decide +kernel)⟩
theorem lw_p7 : lw_okq (⟨"RibbonOfLacks$World", "takePerson", "(II)Z"⟩, 19) := ⟨⟨by decide +kernel, by decide +kernel⟩, List.mem_of_getElem? (i := 56) (by decide +kernel), List.mem_of_getElem? (i := 367) (by decide +kernel), List.mem_of_getElem? (i := 368) (by decide +kernel)⟩
theorem lw_p8 : lw_okq (⟨"RibbonOfLacks$World", "takeBeast", "(I)Z"⟩, 19) := ⟨⟨by decide +kernel, by decide +kernel⟩, List.mem_of_getElem? (i := 56) (by decide +kernel), List.mem_of_getElem? (i := 374) (by decide +kernel), List.mem_of_getElem? (i := 375) (by decide +kernel)⟩
theorem lw_p9 : lw_okq (⟨"RibbonOfLacks$World", "takeExchange", "(IIII)Z"⟩, 19) := ⟨⟨by decide +kernel, by decide +kernel⟩, List.mem_of_getElem? (i := 56) (by decide +kernel), List.mem_of_getElem? (i := 378) (by decide +kernel), List.mem_of_getElem? (i := 379) (by decide +kernel)⟩
theorem lw_p10 : lw_okq (⟨"RibbonOfLacks", "isThing", "(I)Z"⟩, 11) := ⟨⟨by decide +kernel, by decide +kernel⟩, List.mem_of_getElem? (i := 18) (by decide +kernel), List.mem_of_getElem? (i := 502) (by decide +kernel), List.mem_of_getElem? (i := 503) (by decide +kernel)⟩
theorem lw_p11 : lw_okq (⟨"RibbonOfLacks", "isThere", "(I)Z"⟩, 11) := ⟨⟨by decide +kernel, by decide +kernel⟩, List.mem_of_getElem? (i := 18) (by decide +kernel), List.mem_of_getElem? (i := 511) (by decide +kernel), List.mem_of_getElem? (i := 512) (by decide +kernel)⟩
theorem lw_p12 : lw_okq (⟨"RibbonOfLacks", "isBeast", "(I)Z"⟩, 11) := ⟨⟨by decide +kernel, by decide +kernel⟩, List.mem_of_getElem? (i := 18) (by decide +kernel), List.mem_of_getElem? (i := 545) (by decide +kernel), List.mem_of_getElem? (i := 546) (by decide +kernel)⟩
theorem lw_p13 : lw_okq (⟨"RibbonOfLacks", "missedIn", "(LRibbonOfLacks$State;)I"⟩, 11) := ⟨⟨by decide +kernel, by decide +kernel⟩, List.mem_of_getElem? (i := 18) (by decide +kernel), List.mem_of_getElem? (i := 591) (by decide +kernel), List.mem_of_getElem? (i := 592) (by decide +kernel)⟩
theorem lw_p14 : lw_okq (⟨"RibbonOfLacks$Pile", "forgetOldest", "()V"⟩, 2) := ⟨⟨by decide +kernel, by decide +kernel⟩, List.mem_of_getElem? (i := 177) (by decide +kernel), List.mem_of_getElem? (i := 607) (by decide +kernel), List.mem_of_getElem? (i := 608) (by decide +kernel)⟩
theorem lw_p15 : lw_okq (⟨"RibbonOfLacks$Planner", "listLoose", "(LRibbonOfLacks$World;LRibbonOfLacks$State;)V"⟩, 12) := ⟨⟨by decide +kernel, by decide +kernel⟩, List.mem_of_getElem? (i := 196) (by decide +kernel), List.mem_of_getElem? (i := 684) (by decide +kernel), List.mem_of_getElem? (i := 685) (by decide +kernel)⟩
def lw_privs_1 : List (MethodName × Nat) := [(⟨"RibbonOfLacks", "layTheText", "()Z"⟩, 11), (⟨"RibbonOfLacks$Reader", "readItem", "(LRibbonOfLacks$World;)Z"⟩, 3), (⟨"RibbonOfLacks$Reader", "readNumber", "()I"⟩, 3), (⟨"RibbonOfLacks$Reader", "figureAt", "(I)I"⟩, 3), (⟨"RibbonOfLacks$World", "takeThing", "(II)Z"⟩, 19), (⟨"RibbonOfLacks$World", "takeNeed", "(II)Z"⟩, 19), (⟨"RibbonOfLacks$World", "areTwoThings", "(II)Z"⟩, 19), (⟨"RibbonOfLacks$World", "takePerson", "(II)Z"⟩, 19), (⟨"RibbonOfLacks$World", "takeBeast", "(I)Z"⟩, 19), (⟨"RibbonOfLacks$World", "takeExchange", "(IIII)Z"⟩, 19), (⟨"RibbonOfLacks", "isThing", "(I)Z"⟩, 11), (⟨"RibbonOfLacks", "isThere", "(I)Z"⟩, 11), (⟨"RibbonOfLacks", "isBeast", "(I)Z"⟩, 11), (⟨"RibbonOfLacks", "missedIn", "(LRibbonOfLacks$State;)I"⟩, 11), (⟨"RibbonOfLacks$Pile", "forgetOldest", "()V"⟩, 2), (⟨"RibbonOfLacks$Planner", "listLoose", "(LRibbonOfLacks$World;LRibbonOfLacks$State;)V"⟩, 12)]
theorem lw_r1 : ∀ q ∈ lw_privs_1, lw_okq q := List.forall_mem_cons.mpr ⟨lw_p0, List.forall_mem_cons.mpr ⟨lw_p1, List.forall_mem_cons.mpr ⟨lw_p2, List.forall_mem_cons.mpr ⟨lw_p3, List.forall_mem_cons.mpr ⟨lw_p4, List.forall_mem_cons.mpr ⟨lw_p5, List.forall_mem_cons.mpr ⟨lw_p6, List.forall_mem_cons.mpr ⟨lw_p7, List.forall_mem_cons.mpr ⟨lw_p8, List.forall_mem_cons.mpr ⟨lw_p9, List.forall_mem_cons.mpr ⟨lw_p10, List.forall_mem_cons.mpr ⟨lw_p11, List.forall_mem_cons.mpr ⟨lw_p12, List.forall_mem_cons.mpr ⟨lw_p13, List.forall_mem_cons.mpr ⟨lw_p14, List.forall_mem_cons.mpr ⟨lw_p15, fun _ h => absurd h List.not_mem_nil⟩⟩⟩⟩⟩⟩⟩⟩⟩⟩⟩⟩⟩⟩⟩⟩
theorem lw_p16 : lw_okq (⟨"RibbonOfLacks$Planner", "whoIsHeldBy", "(I)I"⟩, 12) := ⟨⟨by decide +kernel, by decide +kernel⟩, List.mem_of_getElem? (i := 196) (by decide +kernel), List.mem_of_getElem? (i := 691) (by decide +kernel), List.mem_of_getElem? (i := 692) (by decide +kernel)⟩
theorem lw_p17 : lw_okq (⟨"RibbonOfLacks$Planner", "canHoldFrom", "(II)Z"⟩, 12) := ⟨⟨by decide +kernel, by decide +kernel⟩, List.mem_of_getElem? (i := 196) (by decide +kernel), List.mem_of_getElem? (i := 695) (by decide +kernel), List.mem_of_getElem? (i := 696) (by decide +kernel)⟩
theorem lw_p18 : lw_okq (⟨"RibbonOfLacks$Planner", "smallerHoldsFrom", "(II)Z"⟩, 12) := ⟨⟨by decide +kernel, by decide +kernel⟩, List.mem_of_getElem? (i := 196) (by decide +kernel), List.mem_of_getElem? (i := 699) (by decide +kernel), List.mem_of_getElem? (i := 700) (by decide +kernel)⟩
theorem lw_p19 : lw_okq (⟨"RibbonOfLacks$Planner", "isHeldFrom", "(II)Z"⟩, 12) := ⟨⟨by decide +kernel, by decide +kernel⟩, List.mem_of_getElem? (i := 196) (by decide +kernel), List.mem_of_getElem? (i := 703) (by decide +kernel), List.mem_of_getElem? (i := 704) (by decide +kernel)⟩
theorem lw_p20 : lw_okq (⟨"RibbonOfLacks$Planner", "lowestRibbon", "(II)I"⟩, 12) := ⟨⟨by decide +kernel, by decide +kernel⟩, List.mem_of_getElem? (i := 196) (by decide +kernel), List.mem_of_getElem? (i := 707) (by decide +kernel), List.mem_of_getElem? (i := 708) (by decide +kernel)⟩
theorem lw_p21 : lw_okq (⟨"RibbonOfLacks$Planner", "shareOut", "(I)V"⟩, 12) := ⟨⟨by decide +kernel, by decide +kernel⟩, List.mem_of_getElem? (i := 196) (by decide +kernel), List.mem_of_getElem? (i := 711) (by decide +kernel), List.mem_of_getElem? (i := 712) (by decide +kernel)⟩
theorem lw_p22 : lw_okq (⟨"RibbonOfLacks$Planner", "mostOutOf", "(II)I"⟩, 12) := ⟨⟨by decide +kernel, by decide +kernel⟩, List.mem_of_getElem? (i := 196) (by decide +kernel), List.mem_of_getElem? (i := 727) (by decide +kernel), List.mem_of_getElem? (i := 728) (by decide +kernel)⟩
theorem lw_p23 : lw_okq (⟨"RibbonOfLacks$Planner", "mostKnown", "(I)I"⟩, 12) := ⟨⟨by decide +kernel, by decide +kernel⟩, List.mem_of_getElem? (i := 196) (by decide +kernel), List.mem_of_getElem? (i := 731) (by decide +kernel), List.mem_of_getElem? (i := 732) (by decide +kernel)⟩
theorem lw_p24 : lw_okq (⟨"RibbonOfLacks", "pledgeRests", "(II)Z"⟩, 11) := ⟨⟨by decide +kernel, by decide +kernel⟩, List.mem_of_getElem? (i := 18) (by decide +kernel), List.mem_of_getElem? (i := 768) (by decide +kernel), List.mem_of_getElem? (i := 769) (by decide +kernel)⟩
theorem lw_p25 : lw_okq (⟨"RibbonOfLacks", "pledgeLoss", "(II)I"⟩, 11) := ⟨⟨by decide +kernel, by decide +kernel⟩, List.mem_of_getElem? (i := 18) (by decide +kernel), List.mem_of_getElem? (i := 772) (by decide +kernel), List.mem_of_getElem? (i := 773) (by decide +kernel)⟩
theorem lw_p26 : lw_okq (⟨"RibbonOfLacks$GainSearch", "extend", "(LRibbonOfLacks$World;II)Z"⟩, 4) := ⟨⟨by decide +kernel, by decide +kernel⟩, List.mem_of_getElem? (i := 243) (by decide +kernel), List.mem_of_getElem? (i := 784) (by decide +kernel), List.mem_of_getElem? (i := 785) (by decide +kernel)⟩
theorem lw_p27 : lw_okq (⟨"RibbonOfLacks$GainSearch", "isGain", "(LRibbonOfLacks$World;)Z"⟩, 4) := ⟨⟨by decide +kernel, by decide +kernel⟩, List.mem_of_getElem? (i := 243) (by decide +kernel), List.mem_of_getElem? (i := 788) (by decide +kernel), List.mem_of_getElem? (i := 789) (by decide +kernel)⟩
theorem lw_p28 : lw_okq (⟨"RibbonOfLacks", "actByDraw", "(LRibbonOfLacks$State;I)V"⟩, 11) := ⟨⟨by decide +kernel, by decide +kernel⟩, List.mem_of_getElem? (i := 18) (by decide +kernel), List.mem_of_getElem? (i := 833) (by decide +kernel), List.mem_of_getElem? (i := 834) (by decide +kernel)⟩
theorem lw_p29 : lw_okq (⟨"RibbonOfLacksModel", "addThing", "(II)V"⟩, 28) := ⟨⟨by decide +kernel, by decide +kernel⟩, List.mem_of_getElem? (i := 849) (by decide +kernel), List.mem_of_getElem? (i := 855) (by decide +kernel), List.mem_of_getElem? (i := 856) (by decide +kernel)⟩
theorem lw_p30 : lw_okq (⟨"RibbonOfLacksModel", "addNeed", "(II)V"⟩, 28) := ⟨⟨by decide +kernel, by decide +kernel⟩, List.mem_of_getElem? (i := 849) (by decide +kernel), List.mem_of_getElem? (i := 859) (by decide +kernel), List.mem_of_getElem? (i := 860) (by decide +kernel)⟩
theorem lw_p31 : lw_okq (⟨"RibbonOfLacksModel", "addPerson", "(II)V"⟩, 28) := ⟨⟨by decide +kernel, by decide +kernel⟩, List.mem_of_getElem? (i := 849) (by decide +kernel), List.mem_of_getElem? (i := 863) (by decide +kernel), List.mem_of_getElem? (i := 864) (by decide +kernel)⟩
def lw_privs_2 : List (MethodName × Nat) := [(⟨"RibbonOfLacks$Planner", "whoIsHeldBy", "(I)I"⟩, 12), (⟨"RibbonOfLacks$Planner", "canHoldFrom", "(II)Z"⟩, 12), (⟨"RibbonOfLacks$Planner", "smallerHoldsFrom", "(II)Z"⟩, 12), (⟨"RibbonOfLacks$Planner", "isHeldFrom", "(II)Z"⟩, 12), (⟨"RibbonOfLacks$Planner", "lowestRibbon", "(II)I"⟩, 12), (⟨"RibbonOfLacks$Planner", "shareOut", "(I)V"⟩, 12), (⟨"RibbonOfLacks$Planner", "mostOutOf", "(II)I"⟩, 12), (⟨"RibbonOfLacks$Planner", "mostKnown", "(I)I"⟩, 12), (⟨"RibbonOfLacks", "pledgeRests", "(II)Z"⟩, 11), (⟨"RibbonOfLacks", "pledgeLoss", "(II)I"⟩, 11), (⟨"RibbonOfLacks$GainSearch", "extend", "(LRibbonOfLacks$World;II)Z"⟩, 4), (⟨"RibbonOfLacks$GainSearch", "isGain", "(LRibbonOfLacks$World;)Z"⟩, 4), (⟨"RibbonOfLacks", "actByDraw", "(LRibbonOfLacks$State;I)V"⟩, 11), (⟨"RibbonOfLacksModel", "addThing", "(II)V"⟩, 28), (⟨"RibbonOfLacksModel", "addNeed", "(II)V"⟩, 28), (⟨"RibbonOfLacksModel", "addPerson", "(II)V"⟩, 28)]
theorem lw_r2 : ∀ q ∈ lw_privs_2, lw_okq q := List.forall_mem_cons.mpr ⟨lw_p16, List.forall_mem_cons.mpr ⟨lw_p17, List.forall_mem_cons.mpr ⟨lw_p18, List.forall_mem_cons.mpr ⟨lw_p19, List.forall_mem_cons.mpr ⟨lw_p20, List.forall_mem_cons.mpr ⟨lw_p21, List.forall_mem_cons.mpr ⟨lw_p22, List.forall_mem_cons.mpr ⟨lw_p23, List.forall_mem_cons.mpr ⟨lw_p24, List.forall_mem_cons.mpr ⟨lw_p25, List.forall_mem_cons.mpr ⟨lw_p26, List.forall_mem_cons.mpr ⟨lw_p27, List.forall_mem_cons.mpr ⟨lw_p28, List.forall_mem_cons.mpr ⟨lw_p29, List.forall_mem_cons.mpr ⟨lw_p30, List.forall_mem_cons.mpr ⟨lw_p31, fun _ h => absurd h List.not_mem_nil⟩⟩⟩⟩⟩⟩⟩⟩⟩⟩⟩⟩⟩⟩⟩⟩
theorem lw_p32 : lw_okq (⟨"RibbonOfLacksModel", "addBeast", "(I)V"⟩, 28) := ⟨⟨by decide +kernel, by decide +kernel⟩, List.mem_of_getElem? (i := 849) (by decide +kernel), List.mem_of_getElem? (i := 867) (by decide +kernel), List.mem_of_getElem? (i := 868) (by decide +kernel)⟩
theorem lw_p33 : lw_okq (⟨"RibbonOfLacksModel", "addChange", "(IIII)V"⟩, 28) := ⟨⟨by decide +kernel, by decide +kernel⟩, List.mem_of_getElem? (i := 849) (by decide +kernel), List.mem_of_getElem? (i := 871) (by decide +kernel), List.mem_of_getElem? (i := 872) (by decide +kernel)⟩
theorem lw_p34 : lw_okq (⟨"RibbonOfLacksModel", "begin", "()V"⟩, 28) := ⟨⟨by decide +kernel, by decide +kernel⟩, List.mem_of_getElem? (i := 849) (by decide +kernel), List.mem_of_getElem? (i := 875) (by decide +kernel), List.mem_of_getElem? (i := 876) (by decide +kernel)⟩
theorem lw_p35 : lw_okq (⟨"RibbonOfLacksModel", "beginToRead", "()V"⟩, 28) := ⟨⟨by decide +kernel, by decide +kernel⟩, List.mem_of_getElem? (i := 849) (by decide +kernel), List.mem_of_getElem? (i := 982) (by decide +kernel), List.mem_of_getElem? (i := 983) (by decide +kernel)⟩
theorem lw_p36 : lw_okq (⟨"RibbonOfLacksModel", "readsItem", "()I"⟩, 28) := ⟨⟨by decide +kernel, by decide +kernel⟩, List.mem_of_getElem? (i := 849) (by decide +kernel), List.mem_of_getElem? (i := 986) (by decide +kernel), List.mem_of_getElem? (i := 987) (by decide +kernel)⟩
theorem lw_p37 : lw_okq (⟨"RibbonOfLacksModel", "readsNumbers", "(I)Z"⟩, 28) := ⟨⟨by decide +kernel, by decide +kernel⟩, List.mem_of_getElem? (i := 849) (by decide +kernel), List.mem_of_getElem? (i := 990) (by decide +kernel), List.mem_of_getElem? (i := 991) (by decide +kernel)⟩
theorem lw_p38 : lw_okq (⟨"RibbonOfLacksModel", "readsTwo", "(III)Z"⟩, 28) := ⟨⟨by decide +kernel, by decide +kernel⟩, List.mem_of_getElem? (i := 849) (by decide +kernel), List.mem_of_getElem? (i := 994) (by decide +kernel), List.mem_of_getElem? (i := 995) (by decide +kernel)⟩
theorem lw_p39 : lw_okq (⟨"RibbonOfLacksModel", "reads", "(III)Z"⟩, 28) := ⟨⟨by decide +kernel, by decide +kernel⟩, List.mem_of_getElem? (i := 849) (by decide +kernel), List.mem_of_getElem? (i := 998) (by decide +kernel), List.mem_of_getElem? (i := 999) (by decide +kernel)⟩
theorem lw_p40 : lw_okq (⟨"RibbonOfLacksModel", "readsComma", "()Z"⟩, 28) := ⟨⟨by decide +kernel, by decide +kernel⟩, List.mem_of_getElem? (i := 849) (by decide +kernel), List.mem_of_getElem? (i := 1007) (by decide +kernel), List.mem_of_getElem? (i := 1008) (by decide +kernel)⟩
theorem lw_p41 : lw_okq (⟨"RibbonOfLacksModel", "isThere", "(I)Z"⟩, 28) := ⟨⟨by decide +kernel, by decide +kernel⟩, List.mem_of_getElem? (i := 849) (by decide +kernel), List.mem_of_getElem? (i := 1011) (by decide +kernel), List.mem_of_getElem? (i := 1012) (by decide +kernel)⟩
theorem lw_p42 : lw_okq (⟨"RibbonOfLacksModel", "readsChange", "()Z"⟩, 28) := ⟨⟨by decide +kernel, by decide +kernel⟩, List.mem_of_getElem? (i := 849) (by decide +kernel), List.mem_of_getElem? (i := 1015) (by decide +kernel), List.mem_of_getElem? (i := 1016) (by decide +kernel)⟩
theorem lw_p43 : lw_okq (⟨"RibbonOfLacksModel", "tell", "(I)V"⟩, 28) := ⟨⟨by decide +kernel, by decide +kernel⟩, List.mem_of_getElem? (i := 849) (by decide +kernel), List.mem_of_getElem? (i := 1024) (by decide +kernel), List.mem_of_getElem? (i := 1025) (by decide +kernel)⟩
theorem lw_p44 : lw_okq (⟨"RibbonOfLacksModel", "isThing", "(I)Z"⟩, 28) := ⟨⟨by decide +kernel, by decide +kernel⟩, List.mem_of_getElem? (i := 849) (by decide +kernel), List.mem_of_getElem? (i := 1032) (by decide +kernel), List.mem_of_getElem? (i := 1033) (by decide +kernel)⟩
theorem lw_p45 : lw_okq (⟨"RibbonOfLacksModel", "thereIn", "(I)I"⟩, 28) := ⟨⟨by decide +kernel, by decide +kernel⟩, List.mem_of_getElem? (i := 849) (by decide +kernel), List.mem_of_getElem? (i := 1039) (by decide +kernel), List.mem_of_getElem? (i := 1040) (by decide +kernel)⟩
theorem lw_p46 : lw_okq (⟨"RibbonOfLacksModel", "goneIn", "(I)I"⟩, 28) := ⟨⟨by decide +kernel, by decide +kernel⟩, List.mem_of_getElem? (i := 849) (by decide +kernel), List.mem_of_getElem? (i := 1043) (by decide +kernel), List.mem_of_getElem? (i := 1044) (by decide +kernel)⟩
theorem lw_p47 : lw_okq (⟨"RibbonOfLacksModel", "followsOf", "(I)I"⟩, 28) := ⟨⟨by decide +kernel, by decide +kernel⟩, List.mem_of_getElem? (i := 849) (by decide +kernel), List.mem_of_getElem? (i := 1047) (by decide +kernel), List.mem_of_getElem? (i := 1048) (by decide +kernel)⟩
def lw_privs_3 : List (MethodName × Nat) := [(⟨"RibbonOfLacksModel", "addBeast", "(I)V"⟩, 28), (⟨"RibbonOfLacksModel", "addChange", "(IIII)V"⟩, 28), (⟨"RibbonOfLacksModel", "begin", "()V"⟩, 28), (⟨"RibbonOfLacksModel", "beginToRead", "()V"⟩, 28), (⟨"RibbonOfLacksModel", "readsItem", "()I"⟩, 28), (⟨"RibbonOfLacksModel", "readsNumbers", "(I)Z"⟩, 28), (⟨"RibbonOfLacksModel", "readsTwo", "(III)Z"⟩, 28), (⟨"RibbonOfLacksModel", "reads", "(III)Z"⟩, 28), (⟨"RibbonOfLacksModel", "readsComma", "()Z"⟩, 28), (⟨"RibbonOfLacksModel", "isThere", "(I)Z"⟩, 28), (⟨"RibbonOfLacksModel", "readsChange", "()Z"⟩, 28), (⟨"RibbonOfLacksModel", "tell", "(I)V"⟩, 28), (⟨"RibbonOfLacksModel", "isThing", "(I)Z"⟩, 28), (⟨"RibbonOfLacksModel", "thereIn", "(I)I"⟩, 28), (⟨"RibbonOfLacksModel", "goneIn", "(I)I"⟩, 28), (⟨"RibbonOfLacksModel", "followsOf", "(I)I"⟩, 28)]
theorem lw_r3 : ∀ q ∈ lw_privs_3, lw_okq q := List.forall_mem_cons.mpr ⟨lw_p32, List.forall_mem_cons.mpr ⟨lw_p33, List.forall_mem_cons.mpr ⟨lw_p34, List.forall_mem_cons.mpr ⟨lw_p35, List.forall_mem_cons.mpr ⟨lw_p36, List.forall_mem_cons.mpr ⟨lw_p37, List.forall_mem_cons.mpr ⟨lw_p38, List.forall_mem_cons.mpr ⟨lw_p39, List.forall_mem_cons.mpr ⟨lw_p40, List.forall_mem_cons.mpr ⟨lw_p41, List.forall_mem_cons.mpr ⟨lw_p42, List.forall_mem_cons.mpr ⟨lw_p43, List.forall_mem_cons.mpr ⟨lw_p44, List.forall_mem_cons.mpr ⟨lw_p45, List.forall_mem_cons.mpr ⟨lw_p46, List.forall_mem_cons.mpr ⟨lw_p47, fun _ h => absurd h List.not_mem_nil⟩⟩⟩⟩⟩⟩⟩⟩⟩⟩⟩⟩⟩⟩⟩⟩
theorem lw_p48 : lw_okq (⟨"RibbonOfLacksModel", "foundIn", "(I)I"⟩, 28) := ⟨⟨by decide +kernel, by decide +kernel⟩, List.mem_of_getElem? (i := 849) (by decide +kernel), List.mem_of_getElem? (i := 1055) (by decide +kernel), List.mem_of_getElem? (i := 1056) (by decide +kernel)⟩
theorem lw_p49 : lw_okq (⟨"RibbonOfLacksModel", "lateSet", "()I"⟩, 28) := ⟨⟨by decide +kernel, by decide +kernel⟩, List.mem_of_getElem? (i := 849) (by decide +kernel), List.mem_of_getElem? (i := 1059) (by decide +kernel), List.mem_of_getElem? (i := 1060) (by decide +kernel)⟩
theorem lw_p50 : lw_okq (⟨"RibbonOfLacksModel", "isBeast", "(I)Z"⟩, 28) := ⟨⟨by decide +kernel, by decide +kernel⟩, List.mem_of_getElem? (i := 849) (by decide +kernel), List.mem_of_getElem? (i := 1067) (by decide +kernel), List.mem_of_getElem? (i := 1068) (by decide +kernel)⟩
theorem lw_p51 : lw_okq (⟨"RibbonOfLacksModel", "isSet", "(I)Z"⟩, 28) := ⟨⟨by decide +kernel, by decide +kernel⟩, List.mem_of_getElem? (i := 849) (by decide +kernel), List.mem_of_getElem? (i := 1075) (by decide +kernel), List.mem_of_getElem? (i := 1076) (by decide +kernel)⟩
theorem lw_p52 : lw_okq (⟨"RibbonOfLacksModel", "strengthOf", "(I)I"⟩, 28) := ⟨⟨by decide +kernel, by decide +kernel⟩, List.mem_of_getElem? (i := 849) (by decide +kernel), List.mem_of_getElem? (i := 1079) (by decide +kernel), List.mem_of_getElem? (i := 1080) (by decide +kernel)⟩
theorem lw_p53 : lw_okq (⟨"RibbonOfLacksModel", "missedIn", "(I)I"⟩, 28) := ⟨⟨by decide +kernel, by decide +kernel⟩, List.mem_of_getElem? (i := 849) (by decide +kernel), List.mem_of_getElem? (i := 1091) (by decide +kernel), List.mem_of_getElem? (i := 1092) (by decide +kernel)⟩
theorem lw_p54 : lw_okq (⟨"RibbonOfLacksModel", "missedBy", "(I)I"⟩, 28) := ⟨⟨by decide +kernel, by decide +kernel⟩, List.mem_of_getElem? (i := 849) (by decide +kernel), List.mem_of_getElem? (i := 1095) (by decide +kernel), List.mem_of_getElem? (i := 1096) (by decide +kernel)⟩
theorem lw_p55 : lw_okq (⟨"RibbonOfLacksModel", "keepPast", "()V"⟩, 28) := ⟨⟨by decide +kernel, by decide +kernel⟩, List.mem_of_getElem? (i := 849) (by decide +kernel), List.mem_of_getElem? (i := 1103) (by decide +kernel), List.mem_of_getElem? (i := 1104) (by decide +kernel)⟩
theorem lw_p56 : lw_okq (⟨"RibbonOfLacksModel", "copy", "(II)V"⟩, 28) := ⟨⟨by decide +kernel, by decide +kernel⟩, List.mem_of_getElem? (i := 849) (by decide +kernel), List.mem_of_getElem? (i := 1107) (by decide +kernel), List.mem_of_getElem? (i := 1108) (by decide +kernel)⟩
theorem lw_p57 : lw_okq (⟨"RibbonOfLacksModel", "bindIn", "(III)V"⟩, 28) := ⟨⟨by decide +kernel, by decide +kernel⟩, List.mem_of_getElem? (i := 849) (by decide +kernel), List.mem_of_getElem? (i := 1111) (by decide +kernel), List.mem_of_getElem? (i := 1112) (by decide +kernel)⟩
theorem lw_p58 : lw_okq (⟨"RibbonOfLacksModel", "dayIn", "(I)I"⟩, 28) := ⟨⟨by decide +kernel, by decide +kernel⟩, List.mem_of_getElem? (i := 849) (by decide +kernel), List.mem_of_getElem? (i := 1127) (by decide +kernel), List.mem_of_getElem? (i := 1128) (by decide +kernel)⟩
theorem lw_p59 : lw_okq (⟨"RibbonOfLacksModel", "lentIn", "(I)I"⟩, 28) := ⟨⟨by decide +kernel, by decide +kernel⟩, List.mem_of_getElem? (i := 849) (by decide +kernel), List.mem_of_getElem? (i := 1131) (by decide +kernel), List.mem_of_getElem? (i := 1132) (by decide +kernel)⟩
theorem lw_p60 : lw_okq (⟨"RibbonOfLacksModel", "costIn", "(II)I"⟩, 28) := ⟨⟨by decide +kernel, by decide +kernel⟩, List.mem_of_getElem? (i := 849) (by decide +kernel), List.mem_of_getElem? (i := 1143) (by decide +kernel), List.mem_of_getElem? (i := 1144) (by decide +kernel)⟩
theorem lw_p61 : lw_okq (⟨"RibbonOfLacksModel", "leastIn", "(II)I"⟩, 28) := ⟨⟨by decide +kernel, by decide +kernel⟩, List.mem_of_getElem? (i := 849) (by decide +kernel), List.mem_of_getElem? (i := 1151) (by decide +kernel), List.mem_of_getElem? (i := 1152) (by decide +kernel)⟩
theorem lw_p62 : lw_okq (⟨"RibbonOfLacksModel", "usedByAll", "()I"⟩, 28) := ⟨⟨by decide +kernel, by decide +kernel⟩, List.mem_of_getElem? (i := 849) (by decide +kernel), List.mem_of_getElem? (i := 1160) (by decide +kernel), List.mem_of_getElem? (i := 1161) (by decide +kernel)⟩
theorem lw_p63 : lw_okq (⟨"RibbonOfLacksModel", "unbound", "()I"⟩, 28) := ⟨⟨by decide +kernel, by decide +kernel⟩, List.mem_of_getElem? (i := 849) (by decide +kernel), List.mem_of_getElem? (i := 1164) (by decide +kernel), List.mem_of_getElem? (i := 1165) (by decide +kernel)⟩
def lw_privs_4 : List (MethodName × Nat) := [(⟨"RibbonOfLacksModel", "foundIn", "(I)I"⟩, 28), (⟨"RibbonOfLacksModel", "lateSet", "()I"⟩, 28), (⟨"RibbonOfLacksModel", "isBeast", "(I)Z"⟩, 28), (⟨"RibbonOfLacksModel", "isSet", "(I)Z"⟩, 28), (⟨"RibbonOfLacksModel", "strengthOf", "(I)I"⟩, 28), (⟨"RibbonOfLacksModel", "missedIn", "(I)I"⟩, 28), (⟨"RibbonOfLacksModel", "missedBy", "(I)I"⟩, 28), (⟨"RibbonOfLacksModel", "keepPast", "()V"⟩, 28), (⟨"RibbonOfLacksModel", "copy", "(II)V"⟩, 28), (⟨"RibbonOfLacksModel", "bindIn", "(III)V"⟩, 28), (⟨"RibbonOfLacksModel", "dayIn", "(I)I"⟩, 28), (⟨"RibbonOfLacksModel", "lentIn", "(I)I"⟩, 28), (⟨"RibbonOfLacksModel", "costIn", "(II)I"⟩, 28), (⟨"RibbonOfLacksModel", "leastIn", "(II)I"⟩, 28), (⟨"RibbonOfLacksModel", "usedByAll", "()I"⟩, 28), (⟨"RibbonOfLacksModel", "unbound", "()I"⟩, 28)]
theorem lw_r4 : ∀ q ∈ lw_privs_4, lw_okq q := List.forall_mem_cons.mpr ⟨lw_p48, List.forall_mem_cons.mpr ⟨lw_p49, List.forall_mem_cons.mpr ⟨lw_p50, List.forall_mem_cons.mpr ⟨lw_p51, List.forall_mem_cons.mpr ⟨lw_p52, List.forall_mem_cons.mpr ⟨lw_p53, List.forall_mem_cons.mpr ⟨lw_p54, List.forall_mem_cons.mpr ⟨lw_p55, List.forall_mem_cons.mpr ⟨lw_p56, List.forall_mem_cons.mpr ⟨lw_p57, List.forall_mem_cons.mpr ⟨lw_p58, List.forall_mem_cons.mpr ⟨lw_p59, List.forall_mem_cons.mpr ⟨lw_p60, List.forall_mem_cons.mpr ⟨lw_p61, List.forall_mem_cons.mpr ⟨lw_p62, List.forall_mem_cons.mpr ⟨lw_p63, fun _ h => absurd h List.not_mem_nil⟩⟩⟩⟩⟩⟩⟩⟩⟩⟩⟩⟩⟩⟩⟩⟩
theorem lw_p64 : lw_okq (⟨"RibbonOfLacksModel", "layHolds", "(I)V"⟩, 28) := ⟨⟨by decide +kernel, by decide +kernel⟩, List.mem_of_getElem? (i := 849) (by decide +kernel), List.mem_of_getElem? (i := 1168) (by decide +kernel), List.mem_of_getElem? (i := 1169) (by decide +kernel)⟩
theorem lw_p65 : lw_okq (⟨"RibbonOfLacksModel", "canHold", "(II)Z"⟩, 28) := ⟨⟨by decide +kernel, by decide +kernel⟩, List.mem_of_getElem? (i := 849) (by decide +kernel), List.mem_of_getElem? (i := 1172) (by decide +kernel), List.mem_of_getElem? (i := 1173) (by decide +kernel)⟩
theorem lw_p66 : lw_okq (⟨"RibbonOfLacksModel", "lowest", "(I)I"⟩, 28) := ⟨⟨by decide +kernel, by decide +kernel⟩, List.mem_of_getElem? (i := 849) (by decide +kernel), List.mem_of_getElem? (i := 1176) (by decide +kernel), List.mem_of_getElem? (i := 1177) (by decide +kernel)⟩
theorem lw_p67 : lw_okq (⟨"RibbonOfLacksModel", "ribbonOf", "(II)I"⟩, 28) := ⟨⟨by decide +kernel, by decide +kernel⟩, List.mem_of_getElem? (i := 849) (by decide +kernel), List.mem_of_getElem? (i := 1180) (by decide +kernel), List.mem_of_getElem? (i := 1181) (by decide +kernel)⟩
theorem lw_p68 : lw_okq (⟨"RibbonOfLacksModel", "whoMiss", "(I)I"⟩, 28) := ⟨⟨by decide +kernel, by decide +kernel⟩, List.mem_of_getElem? (i := 849) (by decide +kernel), List.mem_of_getElem? (i := 1202) (by decide +kernel), List.mem_of_getElem? (i := 1203) (by decide +kernel)⟩
theorem lw_p69 : lw_okq (⟨"RibbonOfLacksModel", "rests", "(II)Z"⟩, 28) := ⟨⟨by decide +kernel, by decide +kernel⟩, List.mem_of_getElem? (i := 849) (by decide +kernel), List.mem_of_getElem? (i := 1224) (by decide +kernel), List.mem_of_getElem? (i := 1225) (by decide +kernel)⟩
theorem lw_p70 : lw_okq (⟨"RibbonOfLacksModel", "losesBy", "(II)I"⟩, 28) := ⟨⟨by decide +kernel, by decide +kernel⟩, List.mem_of_getElem? (i := 849) (by decide +kernel), List.mem_of_getElem? (i := 1228) (by decide +kernel), List.mem_of_getElem? (i := 1229) (by decide +kernel)⟩
theorem lw_p71 : lw_okq (⟨"RibbonOfLacksModel", "layChain", "(II)V"⟩, 28) := ⟨⟨by decide +kernel, by decide +kernel⟩, List.mem_of_getElem? (i := 849) (by decide +kernel), List.mem_of_getElem? (i := 1238) (by decide +kernel), List.mem_of_getElem? (i := 1239) (by decide +kernel)⟩
theorem lw_p72 : lw_okq (⟨"RibbonOfLacksModel", "gains", "(I)Z"⟩, 28) := ⟨⟨by decide +kernel, by decide +kernel⟩, List.mem_of_getElem? (i := 849) (by decide +kernel), List.mem_of_getElem? (i := 1242) (by decide +kernel), List.mem_of_getElem? (i := 1243) (by decide +kernel)⟩
theorem lw_p73 : lw_okq (⟨"RibbonOfLacksModel", "ofChain", "(II)I"⟩, 28) := ⟨⟨by decide +kernel, by decide +kernel⟩, List.mem_of_getElem? (i := 849) (by decide +kernel), List.mem_of_getElem? (i := 1246) (by decide +kernel), List.mem_of_getElem? (i := 1247) (by decide +kernel)⟩
def lw_privs_5 : List (MethodName × Nat) := [(⟨"RibbonOfLacksModel", "layHolds", "(I)V"⟩, 28), (⟨"RibbonOfLacksModel", "canHold", "(II)Z"⟩, 28), (⟨"RibbonOfLacksModel", "lowest", "(I)I"⟩, 28), (⟨"RibbonOfLacksModel", "ribbonOf", "(II)I"⟩, 28), (⟨"RibbonOfLacksModel", "whoMiss", "(I)I"⟩, 28), (⟨"RibbonOfLacksModel", "rests", "(II)Z"⟩, 28), (⟨"RibbonOfLacksModel", "losesBy", "(II)I"⟩, 28), (⟨"RibbonOfLacksModel", "layChain", "(II)V"⟩, 28), (⟨"RibbonOfLacksModel", "gains", "(I)Z"⟩, 28), (⟨"RibbonOfLacksModel", "ofChain", "(II)I"⟩, 28)]
theorem lw_r5 : ∀ q ∈ lw_privs_5, lw_okq q := List.forall_mem_cons.mpr ⟨lw_p64, List.forall_mem_cons.mpr ⟨lw_p65, List.forall_mem_cons.mpr ⟨lw_p66, List.forall_mem_cons.mpr ⟨lw_p67, List.forall_mem_cons.mpr ⟨lw_p68, List.forall_mem_cons.mpr ⟨lw_p69, List.forall_mem_cons.mpr ⟨lw_p70, List.forall_mem_cons.mpr ⟨lw_p71, List.forall_mem_cons.mpr ⟨lw_p72, List.forall_mem_cons.mpr ⟨lw_p73, fun _ h => absurd h List.not_mem_nil⟩⟩⟩⟩⟩⟩⟩⟩⟩⟩
def lw_privs : List (MethodName × Nat) := lw_privs_1 ++ (lw_privs_2 ++ (lw_privs_3 ++ (lw_privs_4 ++ (lw_privs_5))))
def lw_tbl : List Cond := k2_sels lw_privs ++ tables_1
theorem lw_privs_ok : ∀ q ∈ lw_privs, lw_okq q := by
  show ∀ q ∈ lw_privs_1 ++ (lw_privs_2 ++ (lw_privs_3 ++ (lw_privs_4 ++ (lw_privs_5)))), lw_okq q
  exact List.forall_mem_append.mpr ⟨lw_r1, List.forall_mem_append.mpr ⟨lw_r2, List.forall_mem_append.mpr ⟨lw_r3, List.forall_mem_append.mpr ⟨lw_r4, lw_r5⟩⟩⟩⟩
end
section
def RX0 : String := "RibbonOfLacks$GainSearch"
def TX0 : u_T := fun k => match k with
  | 0 => ("RibbonOfLacks$GainSearch", "length", "I", false)
  | 1 => ("RibbonOfLacks$GainSearch", "path", "[I", true)
  | 2 => ("RibbonOfLacks$GainSearch", "above", "I", false)
  | _ => ("RibbonOfLacks$GainSearch", "below", "I", false)
def tyX0 : Nat → FieldType := fun k => match k with
  | 0 => .int
  | 1 => .array .int
  | 2 => .int
  | _ => .int
theorem nmX0 : ∀ a, a < 4 → ∀ b, b < 4 → a ≠ b → (TX0 a).2.1 ≠ (TX0 b).2.1 := by decide +kernel
theorem tyX0_ok : ∀ k, k < 4 → parseFieldDescriptor (TX0 k).2.2.1 = some (tyX0 k) := by decide +kernel
abbrev cX0_init : ByteArray := prog_2_method_1_code
def yX0_init : MethodName := ⟨RX0, "<init>", "()V"⟩
abbrev cX0_find : ByteArray := prog_2_method_2_code
def yX0_find : MethodName := ⟨RX0, "find", "(LRibbonOfLacks$World;)Z"⟩
abbrev cX0_extend : ByteArray := prog_2_method_3_code
def yX0_extend : MethodName := ⟨RX0, "extend", "(LRibbonOfLacks$World;II)Z"⟩
abbrev cX0_isGain : ByteArray := prog_2_method_4_code
def yX0_isGain : MethodName := ⟨RX0, "isGain", "(LRibbonOfLacks$World;)Z"⟩
abbrev cX0_above : ByteArray := prog_2_method_5_code
def yX0_above : MethodName := ⟨RX0, "above", "()I"⟩
abbrev cX0_below : ByteArray := prog_2_method_6_code
def yX0_below : MethodName := ⟨RX0, "below", "()I"⟩
abbrev cX0_exchangeAt : ByteArray := prog_2_method_7_code
def yX0_exchangeAt : MethodName := ⟨RX0, "exchangeAt", "(I)I"⟩
def RX1 : String := "RibbonOfLacks$Letters"
def TX1 : u_T := fun k => match k with
  | 0 => ("RibbonOfLacks$Letters", "signs", "[I", true)
  | _ => ("RibbonOfLacks$Letters", "length", "I", false)
def tyX1 : Nat → FieldType := fun k => match k with
  | 0 => .array .int
  | _ => .int
theorem nmX1 : ∀ a, a < 2 → ∀ b, b < 2 → a ≠ b → (TX1 a).2.1 ≠ (TX1 b).2.1 := by decide +kernel
theorem tyX1_ok : ∀ k, k < 2 → parseFieldDescriptor (TX1 k).2.2.1 = some (tyX1 k) := by decide +kernel
abbrev cX1_init : ByteArray := prog_3_method_1_code
def yX1_init : MethodName := ⟨RX1, "<init>", "()V"⟩
abbrev cX1_append : ByteArray := prog_3_method_2_code
def yX1_append : MethodName := ⟨RX1, "append", "(I)Z"⟩
abbrev cX1_clear : ByteArray := prog_3_method_3_code
def yX1_clear : MethodName := ⟨RX1, "clear", "()V"⟩
abbrev cX1_size : ByteArray := prog_3_method_4_code
def yX1_size : MethodName := ⟨RX1, "size", "()I"⟩
abbrev cX1_signAt : ByteArray := prog_3_method_5_code
def yX1_signAt : MethodName := ⟨RX1, "signAt", "(I)I"⟩
def RX2 : String := "RibbonOfLacks$Pile"
def TX2 : u_T := fun k => match k with
  | 0 => ("RibbonOfLacks$Pile", "states", "[LRibbonOfLacks$State;", true)
  | _ => ("RibbonOfLacks$Pile", "height", "I", false)
def tyX2 : Nat → FieldType := fun k => match k with
  | 0 => .array (.object "RibbonOfLacks$State")
  | _ => .int
theorem nmX2 : ∀ a, a < 2 → ∀ b, b < 2 → a ≠ b → (TX2 a).2.1 ≠ (TX2 b).2.1 := by decide +kernel
theorem tyX2_ok : ∀ k, k < 2 → parseFieldDescriptor (TX2 k).2.2.1 = some (tyX2 k) := by decide +kernel
abbrev cX2_init : ByteArray := prog_4_method_1_code
def yX2_init : MethodName := ⟨RX2, "<init>", "(I)V"⟩
abbrev cX2_size : ByteArray := prog_4_method_2_code
def yX2_size : MethodName := ⟨RX2, "size", "()I"⟩
abbrev cX2_clear : ByteArray := prog_4_method_3_code
def yX2_clear : MethodName := ⟨RX2, "clear", "()V"⟩
abbrev cX2_push : ByteArray := prog_4_method_4_code
def yX2_push : MethodName := ⟨RX2, "push", "(LRibbonOfLacks$State;)V"⟩
abbrev cX2_forgetOldest : ByteArray := prog_4_method_5_code
def yX2_forgetOldest : MethodName := ⟨RX2, "forgetOldest", "()V"⟩
abbrev cX2_popInto : ByteArray := prog_4_method_6_code
def yX2_popInto : MethodName := ⟨RX2, "popInto", "(LRibbonOfLacks$State;)Z"⟩
def RX3 : String := "RibbonOfLacks$Planner"
def TX3 : u_T := fun k => match k with
  | 0 => ("RibbonOfLacks$Planner", "leastRibbon", "I", false)
  | 1 => ("RibbonOfLacks$Planner", "leastCost", "I", false)
  | 2 => ("RibbonOfLacks$Planner", "allUsed", "I", false)
  | 3 => ("RibbonOfLacks$Planner", "allCost", "I", false)
  | 4 => ("RibbonOfLacks$Planner", "tables", "LRibbonOfLacks$Tables;", true)
  | 5 => ("RibbonOfLacks$Planner", "allRibbons", "[I", true)
  | 6 => ("RibbonOfLacks$Planner", "looseBeasts", "[I", true)
  | 7 => ("RibbonOfLacks$Planner", "loosePulls", "[I", true)
  | 8 => ("RibbonOfLacks$Planner", "pullsFrom", "[I", true)
  | 9 => ("RibbonOfLacks$Planner", "holds", "[I", true)
  | 10 => ("RibbonOfLacks$Planner", "most", "[I", true)
  | _ => ("RibbonOfLacks$Planner", "loose", "I", false)
def tyX3 : Nat → FieldType := fun k => match k with
  | 0 => .int
  | 1 => .int
  | 2 => .int
  | 3 => .int
  | 4 => .object "RibbonOfLacks$Tables"
  | 5 => .array .int
  | 6 => .array .int
  | 7 => .array .int
  | 8 => .array .int
  | 9 => .array .int
  | 10 => .array .int
  | _ => .int
theorem nmX3 : ∀ a, a < 12 → ∀ b, b < 12 → a ≠ b → (TX3 a).2.1 ≠ (TX3 b).2.1 := by decide +kernel
theorem tyX3_ok : ∀ k, k < 12 → parseFieldDescriptor (TX3 k).2.2.1 = some (tyX3 k) := by decide +kernel
abbrev cX3_init : ByteArray := prog_5_method_1_code
def yX3_init : MethodName := ⟨RX3, "<init>", "(LRibbonOfLacks$Tables;)V"⟩
abbrev cX3_findLeast : ByteArray := prog_5_method_2_code
def yX3_findLeast : MethodName := ⟨RX3, "findLeast", "(II)Z"⟩
abbrev cX3_isBetter : ByteArray := prog_5_method_3_code
def yX3_isBetter : MethodName := ⟨RX3, "isBetter", "(IIII)Z"⟩
abbrev cX3_ribbonInAll : ByteArray := prog_5_method_4_code
def yX3_ribbonInAll : MethodName := ⟨RX3, "ribbonInAll", "(I)I"⟩
abbrev cX3_findAll : ByteArray := prog_5_method_5_code
def yX3_findAll : MethodName := ⟨RX3, "findAll", "(LRibbonOfLacks$World;LRibbonOfLacks$State;)Z"⟩
abbrev cX3_listLoose : ByteArray := prog_5_method_6_code
def yX3_listLoose : MethodName := ⟨RX3, "listLoose", "(LRibbonOfLacks$World;LRibbonOfLacks$State;)V"⟩
abbrev cX3_whoIsHeldBy : ByteArray := prog_5_method_7_code
def yX3_whoIsHeldBy : MethodName := ⟨RX3, "whoIsHeldBy", "(I)I"⟩
abbrev cX3_canHoldFrom : ByteArray := prog_5_method_8_code
def yX3_canHoldFrom : MethodName := ⟨RX3, "canHoldFrom", "(II)Z"⟩
abbrev cX3_smallerHoldsFrom : ByteArray := prog_5_method_9_code
def yX3_smallerHoldsFrom : MethodName := ⟨RX3, "smallerHoldsFrom", "(II)Z"⟩
abbrev cX3_isHeldFrom : ByteArray := prog_5_method_10_code
def yX3_isHeldFrom : MethodName := ⟨RX3, "isHeldFrom", "(II)Z"⟩
abbrev cX3_lowestRibbon : ByteArray := prog_5_method_11_code
def yX3_lowestRibbon : MethodName := ⟨RX3, "lowestRibbon", "(II)I"⟩
abbrev cX3_shareOut : ByteArray := prog_5_method_12_code
def yX3_shareOut : MethodName := ⟨RX3, "shareOut", "(I)V"⟩
abbrev cX3_mostBound : ByteArray := prog_5_method_13_code
def yX3_mostBound : MethodName := ⟨RX3, "mostBound", "(II)I"⟩
abbrev cX3_mostOutOf : ByteArray := prog_5_method_14_code
def yX3_mostOutOf : MethodName := ⟨RX3, "mostOutOf", "(II)I"⟩
abbrev cX3_mostKnown : ByteArray := prog_5_method_15_code
def yX3_mostKnown : MethodName := ⟨RX3, "mostKnown", "(I)I"⟩
def RX4 : String := "RibbonOfLacks$Reader"
def TX4 : u_T := fun k => match k with
  | 0 => ("RibbonOfLacks$Reader", "source", "LRibbonOfLacks$Letters;", true)
  | 1 => ("RibbonOfLacks$Reader", "numbers", "[I", true)
  | _ => ("RibbonOfLacks$Reader", "place", "I", false)
def tyX4 : Nat → FieldType := fun k => match k with
  | 0 => .object "RibbonOfLacks$Letters"
  | 1 => .array .int
  | _ => .int
theorem nmX4 : ∀ a, a < 3 → ∀ b, b < 3 → a ≠ b → (TX4 a).2.1 ≠ (TX4 b).2.1 := by decide +kernel
theorem tyX4_ok : ∀ k, k < 3 → parseFieldDescriptor (TX4 k).2.2.1 = some (tyX4 k) := by decide +kernel
abbrev cX4_init : ByteArray := prog_6_method_1_code
def yX4_init : MethodName := ⟨RX4, "<init>", "(LRibbonOfLacks$Letters;)V"⟩
abbrev cX4_readInto : ByteArray := prog_6_method_2_code
def yX4_readInto : MethodName := ⟨RX4, "readInto", "(LRibbonOfLacks$World;)I"⟩
abbrev cX4_readItem : ByteArray := prog_6_method_3_code
def yX4_readItem : MethodName := ⟨RX4, "readItem", "(LRibbonOfLacks$World;)Z"⟩
abbrev cX4_numbersBehind : ByteArray := prog_6_method_4_code
def yX4_numbersBehind : MethodName := ⟨RX4, "numbersBehind", "(I)I"⟩
abbrev cX4_readNumber : ByteArray := prog_6_method_5_code
def yX4_readNumber : MethodName := ⟨RX4, "readNumber", "()I"⟩
abbrev cX4_figureAt : ByteArray := prog_6_method_6_code
def yX4_figureAt : MethodName := ⟨RX4, "figureAt", "(I)I"⟩
def RX5 : String := "RibbonOfLacks$State"
def TX5 : u_T := fun k => match k with
  | 0 => ("RibbonOfLacks$State", "days", "I", false)
  | 1 => ("RibbonOfLacks$State", "ribbons", "[I", true)
  | 2 => ("RibbonOfLacks$State", "ages", "[I", true)
  | _ => ("RibbonOfLacks$State", "escapes", "[I", true)
def tyX5 : Nat → FieldType := fun k => match k with
  | 0 => .int
  | 1 => .array .int
  | 2 => .array .int
  | _ => .array .int
theorem nmX5 : ∀ a, a < 4 → ∀ b, b < 4 → a ≠ b → (TX5 a).2.1 ≠ (TX5 b).2.1 := by decide +kernel
theorem tyX5_ok : ∀ k, k < 4 → parseFieldDescriptor (TX5 k).2.2.1 = some (tyX5 k) := by decide +kernel
abbrev cX5_init : ByteArray := prog_7_method_1_code
def yX5_init : MethodName := ⟨RX5, "<init>", "()V"⟩
abbrev cX5_clear : ByteArray := prog_7_method_2_code
def yX5_clear : MethodName := ⟨RX5, "clear", "()V"⟩
abbrev cX5_copyFrom : ByteArray := prog_7_method_3_code
def yX5_copyFrom : MethodName := ⟨RX5, "copyFrom", "(LRibbonOfLacks$State;)V"⟩
abbrev cX5_isBound : ByteArray := prog_7_method_4_code
def yX5_isBound : MethodName := ⟨RX5, "isBound", "(I)Z"⟩
abbrev cX5_ribbonOf : ByteArray := prog_7_method_5_code
def yX5_ribbonOf : MethodName := ⟨RX5, "ribbonOf", "(I)I"⟩
abbrev cX5_ageOf : ByteArray := prog_7_method_6_code
def yX5_ageOf : MethodName := ⟨RX5, "ageOf", "(I)I"⟩
abbrev cX5_escapesOf : ByteArray := prog_7_method_7_code
def yX5_escapesOf : MethodName := ⟨RX5, "escapesOf", "(I)I"⟩
abbrev cX5_tie : ByteArray := prog_7_method_8_code
def yX5_tie : MethodName := ⟨RX5, "tie", "(II)V"⟩
abbrev cX5_untie : ByteArray := prog_7_method_9_code
def yX5_untie : MethodName := ⟨RX5, "untie", "(I)V"⟩
abbrev cX5_beastWith : ByteArray := prog_7_method_10_code
def yX5_beastWith : MethodName := ⟨RX5, "beastWith", "(I)I"⟩
abbrev cX5_gone : ByteArray := prog_7_method_11_code
def yX5_gone : MethodName := ⟨RX5, "gone", "()I"⟩
abbrev cX5_found : ByteArray := prog_7_method_12_code
def yX5_found : MethodName := ⟨RX5, "found", "(I)I"⟩
abbrev cX5_passDay : ByteArray := prog_7_method_13_code
def yX5_passDay : MethodName := ⟨RX5, "passDay", "(LRibbonOfLacks$World;LRibbonOfLacks$Tables;)I"⟩
def RX6 : String := "RibbonOfLacks$Tables"
def TX6 : u_T := fun k => match k with
  | 0 => ("RibbonOfLacks$Tables", "size", "I", false)
  | 1 => ("RibbonOfLacks$Tables", "strengths", "[I", true)
  | 2 => ("RibbonOfLacks$Tables", "followers", "[I", true)
  | 3 => ("RibbonOfLacks$Tables", "missers", "[I", true)
  | _ => ("RibbonOfLacks$Tables", "losses", "[I", true)
def tyX6 : Nat → FieldType := fun k => match k with
  | 0 => .int
  | 1 => .array .int
  | 2 => .array .int
  | 3 => .array .int
  | _ => .array .int
theorem nmX6 : ∀ a, a < 5 → ∀ b, b < 5 → a ≠ b → (TX6 a).2.1 ≠ (TX6 b).2.1 := by decide +kernel
theorem tyX6_ok : ∀ k, k < 5 → parseFieldDescriptor (TX6 k).2.2.1 = some (tyX6 k) := by decide +kernel
abbrev cX6_init : ByteArray := prog_8_method_1_code
def yX6_init : MethodName := ⟨RX6, "<init>", "()V"⟩
abbrev cX6_fillFrom : ByteArray := prog_8_method_2_code
def yX6_fillFrom : MethodName := ⟨RX6, "fillFrom", "(LRibbonOfLacks$World;)V"⟩
abbrev cX6_sumOfStrength : ByteArray := prog_8_method_3_code
def yX6_sumOfStrength : MethodName := ⟨RX6, "sumOfStrength", "(LRibbonOfLacks$World;I)I"⟩
abbrev cX6_spread : ByteArray := prog_8_method_4_code
def yX6_spread : MethodName := ⟨RX6, "spread", "(LRibbonOfLacks$World;I)I"⟩
abbrev cX6_thoseWhoMiss : ByteArray := prog_8_method_5_code
def yX6_thoseWhoMiss : MethodName := ⟨RX6, "thoseWhoMiss", "(LRibbonOfLacks$World;I)I"⟩
abbrev cX6_sumOfWeights : ByteArray := prog_8_method_6_code
def yX6_sumOfWeights : MethodName := ⟨RX6, "sumOfWeights", "(LRibbonOfLacks$World;I)I"⟩
abbrev cX6_isSet : ByteArray := prog_8_method_7_code
def yX6_isSet : MethodName := ⟨RX6, "isSet", "(I)Z"⟩
abbrev cX6_strengthOf : ByteArray := prog_8_method_8_code
def yX6_strengthOf : MethodName := ⟨RX6, "strengthOf", "(I)I"⟩
abbrev cX6_followersOf : ByteArray := prog_8_method_9_code
def yX6_followersOf : MethodName := ⟨RX6, "followersOf", "(I)I"⟩
abbrev cX6_missersOf : ByteArray := prog_8_method_10_code
def yX6_missersOf : MethodName := ⟨RX6, "missersOf", "(I)I"⟩
abbrev cX6_lossOf : ByteArray := prog_8_method_11_code
def yX6_lossOf : MethodName := ⟨RX6, "lossOf", "(I)I"⟩
abbrev cX6_costOf : ByteArray := prog_8_method_12_code
def yX6_costOf : MethodName := ⟨RX6, "costOf", "(II)I"⟩
abbrev cX6_thereBesides : ByteArray := prog_8_method_13_code
def yX6_thereBesides : MethodName := ⟨RX6, "thereBesides", "(I)I"⟩
def RX7 : String := "RibbonOfLacks$World"
def TX7 : u_T := fun k => match k with
  | 0 => ("RibbonOfLacks$World", "things", "I", false)
  | 1 => ("RibbonOfLacks$World", "needs", "I", false)
  | 2 => ("RibbonOfLacks$World", "persons", "I", false)
  | 3 => ("RibbonOfLacks$World", "beasts", "I", false)
  | 4 => ("RibbonOfLacks$World", "exchanges", "I", false)
  | 5 => ("RibbonOfLacks$World", "soundThings", "I", false)
  | 6 => ("RibbonOfLacks$World", "lentThings", "I", false)
  | 7 => ("RibbonOfLacks$World", "lateThings", "I", false)
  | 8 => ("RibbonOfLacks$World", "strengths", "[I", true)
  | 9 => ("RibbonOfLacks$World", "kinds", "[I", true)
  | 10 => ("RibbonOfLacks$World", "needers", "[I", true)
  | 11 => ("RibbonOfLacks$World", "needed", "[I", true)
  | 12 => ("RibbonOfLacks$World", "missedThings", "[I", true)
  | 13 => ("RibbonOfLacks$World", "weights", "[I", true)
  | 14 => ("RibbonOfLacks$World", "pulls", "[I", true)
  | 15 => ("RibbonOfLacks$World", "taken", "[I", true)
  | 16 => ("RibbonOfLacks$World", "given", "[I", true)
  | 17 => ("RibbonOfLacks$World", "takenMuch", "[I", true)
  | _ => ("RibbonOfLacks$World", "givenMuch", "[I", true)
def tyX7 : Nat → FieldType := fun k => match k with
  | 0 => .int
  | 1 => .int
  | 2 => .int
  | 3 => .int
  | 4 => .int
  | 5 => .int
  | 6 => .int
  | 7 => .int
  | 8 => .array .int
  | 9 => .array .int
  | 10 => .array .int
  | 11 => .array .int
  | 12 => .array .int
  | 13 => .array .int
  | 14 => .array .int
  | 15 => .array .int
  | 16 => .array .int
  | 17 => .array .int
  | _ => .array .int
theorem nmX7 : ∀ a, a < 19 → ∀ b, b < 19 → a ≠ b → (TX7 a).2.1 ≠ (TX7 b).2.1 := by decide +kernel
theorem tyX7_ok : ∀ k, k < 19 → parseFieldDescriptor (TX7 k).2.2.1 = some (tyX7 k) := by decide +kernel
abbrev cX7_init : ByteArray := prog_9_method_1_code
def yX7_init : MethodName := ⟨RX7, "<init>", "()V"⟩
abbrev cX7_clear : ByteArray := prog_9_method_2_code
def yX7_clear : MethodName := ⟨RX7, "clear", "()V"⟩
abbrev cX7_take : ByteArray := prog_9_method_3_code
def yX7_take : MethodName := ⟨RX7, "take", "(IIIII)Z"⟩
abbrev cX7_takeThing : ByteArray := prog_9_method_4_code
def yX7_takeThing : MethodName := ⟨RX7, "takeThing", "(II)Z"⟩
abbrev cX7_takeNeed : ByteArray := prog_9_method_5_code
def yX7_takeNeed : MethodName := ⟨RX7, "takeNeed", "(II)Z"⟩
abbrev cX7_takePerson : ByteArray := prog_9_method_6_code
def yX7_takePerson : MethodName := ⟨RX7, "takePerson", "(II)Z"⟩
abbrev cX7_takeBeast : ByteArray := prog_9_method_7_code
def yX7_takeBeast : MethodName := ⟨RX7, "takeBeast", "(I)Z"⟩
abbrev cX7_takeExchange : ByteArray := prog_9_method_8_code
def yX7_takeExchange : MethodName := ⟨RX7, "takeExchange", "(IIII)Z"⟩
abbrev cX7_areTwoThings : ByteArray := prog_9_method_9_code
def yX7_areTwoThings : MethodName := ⟨RX7, "areTwoThings", "(II)Z"⟩
abbrev cX7_isOneFigure : ByteArray := prog_9_method_10_code
def yX7_isOneFigure : MethodName := ⟨RX7, "isOneFigure", "(I)Z"⟩
abbrev cX7_entry : ByteArray := prog_9_method_11_code
def yX7_entry : MethodName := ⟨RX7, "entry", "([II)I"⟩
abbrev cX7_strengthOfThing : ByteArray := prog_9_method_12_code
def yX7_strengthOfThing : MethodName := ⟨RX7, "strengthOfThing", "(I)I"⟩
abbrev cX7_kindOfThing : ByteArray := prog_9_method_13_code
def yX7_kindOfThing : MethodName := ⟨RX7, "kindOfThing", "(I)I"⟩
abbrev cX7_neederOf : ByteArray := prog_9_method_14_code
def yX7_neederOf : MethodName := ⟨RX7, "neederOf", "(I)I"⟩
abbrev cX7_neededOf : ByteArray := prog_9_method_15_code
def yX7_neededOf : MethodName := ⟨RX7, "neededOf", "(I)I"⟩
abbrev cX7_thingOfPerson : ByteArray := prog_9_method_16_code
def yX7_thingOfPerson : MethodName := ⟨RX7, "thingOfPerson", "(I)I"⟩
abbrev cX7_weightOfPerson : ByteArray := prog_9_method_17_code
def yX7_weightOfPerson : MethodName := ⟨RX7, "weightOfPerson", "(I)I"⟩
abbrev cX7_pullOfBeast : ByteArray := prog_9_method_18_code
def yX7_pullOfBeast : MethodName := ⟨RX7, "pullOfBeast", "(I)I"⟩
abbrev cX7_takenBy : ByteArray := prog_9_method_19_code
def yX7_takenBy : MethodName := ⟨RX7, "takenBy", "(I)I"⟩
abbrev cX7_givenBy : ByteArray := prog_9_method_20_code
def yX7_givenBy : MethodName := ⟨RX7, "givenBy", "(I)I"⟩
abbrev cX7_takenMuchBy : ByteArray := prog_9_method_21_code
def yX7_takenMuchBy : MethodName := ⟨RX7, "takenMuchBy", "(I)I"⟩
abbrev cX7_givenMuchBy : ByteArray := prog_9_method_22_code
def yX7_givenMuchBy : MethodName := ⟨RX7, "givenMuchBy", "(I)I"⟩
def RX8 : String := "RibbonOfLacks"
def TX8 : u_T := fun k => match k with
  | 0 => ("RibbonOfLacks", "text", "LRibbonOfLacks$Letters;", true)
  | 1 => ("RibbonOfLacks", "reader", "LRibbonOfLacks$Reader;", true)
  | 2 => ("RibbonOfLacks", "laid", "LRibbonOfLacks$World;", false)
  | 3 => ("RibbonOfLacks", "draft", "LRibbonOfLacks$World;", false)
  | 4 => ("RibbonOfLacks", "tables", "LRibbonOfLacks$Tables;", true)
  | 5 => ("RibbonOfLacks", "now", "LRibbonOfLacks$State;", true)
  | 6 => ("RibbonOfLacks", "imagined", "LRibbonOfLacks$State;", true)
  | 7 => ("RibbonOfLacks", "undoable", "LRibbonOfLacks$Pile;", true)
  | 8 => ("RibbonOfLacks", "keptOnes", "LRibbonOfLacks$Pile;", true)
  | 9 => ("RibbonOfLacks", "planner", "LRibbonOfLacks$Planner;", true)
  | _ => ("RibbonOfLacks", "gains", "LRibbonOfLacks$GainSearch;", true)
def tyX8 : Nat → FieldType := fun k => match k with
  | 0 => .object "RibbonOfLacks$Letters"
  | 1 => .object "RibbonOfLacks$Reader"
  | 2 => .object "RibbonOfLacks$World"
  | 3 => .object "RibbonOfLacks$World"
  | 4 => .object "RibbonOfLacks$Tables"
  | 5 => .object "RibbonOfLacks$State"
  | 6 => .object "RibbonOfLacks$State"
  | 7 => .object "RibbonOfLacks$Pile"
  | 8 => .object "RibbonOfLacks$Pile"
  | 9 => .object "RibbonOfLacks$Planner"
  | _ => .object "RibbonOfLacks$GainSearch"
theorem nmX8 : ∀ a, a < 11 → ∀ b, b < 11 → a ≠ b → (TX8 a).2.1 ≠ (TX8 b).2.1 := by decide +kernel
theorem tyX8_ok : ∀ k, k < 11 → parseFieldDescriptor (TX8 k).2.2.1 = some (tyX8 k) := by decide +kernel
abbrev cX8_init : ByteArray := prog_1_method_1_code
def yX8_init : MethodName := ⟨RX8, "<init>", "()V"⟩
abbrev cX8_write : ByteArray := prog_1_method_2_code
def yX8_write : MethodName := ⟨RX8, "write", "(I)I"⟩
abbrev cX8_wipe : ByteArray := prog_1_method_3_code
def yX8_wipe : MethodName := ⟨RX8, "wipe", "()I"⟩
abbrev cX8_fault : ByteArray := prog_1_method_4_code
def yX8_fault : MethodName := ⟨RX8, "fault", "()I"⟩
abbrev cX8_lay : ByteArray := prog_1_method_5_code
def yX8_lay : MethodName := ⟨RX8, "lay", "()I"⟩
abbrev cX8_layTheText : ByteArray := prog_1_method_6_code
def yX8_layTheText : MethodName := ⟨RX8, "layTheText", "()Z"⟩
abbrev cX8_thing : ByteArray := prog_1_method_7_code
def yX8_thing : MethodName := ⟨RX8, "thing", "(II)I"⟩
abbrev cX8_person : ByteArray := prog_1_method_8_code
def yX8_person : MethodName := ⟨RX8, "person", "(II)I"⟩
abbrev cX8_beast : ByteArray := prog_1_method_9_code
def yX8_beast : MethodName := ⟨RX8, "beast", "(II)I"⟩
abbrev cX8_strength : ByteArray := prog_1_method_10_code
def yX8_strength : MethodName := ⟨RX8, "strength", "(I)I"⟩
abbrev cX8_follows : ByteArray := prog_1_method_11_code
def yX8_follows : MethodName := ⟨RX8, "follows", "(I)I"⟩
abbrev cX8_missed : ByteArray := prog_1_method_12_code
def yX8_missed : MethodName := ⟨RX8, "missed", "()I"⟩
abbrev cX8_bind : ByteArray := prog_1_method_13_code
def yX8_bind : MethodName := ⟨RX8, "bind", "(II)I"⟩
abbrev cX8_loosen : ByteArray := prog_1_method_14_code
def yX8_loosen : MethodName := ⟨RX8, "loosen", "(I)I"⟩
abbrev cX8_days : ByteArray := prog_1_method_15_code
def yX8_days : MethodName := ⟨RX8, "days", "(I)I"⟩
abbrev cX8_undo : ByteArray := prog_1_method_16_code
def yX8_undo : MethodName := ⟨RX8, "undo", "()I"⟩
abbrev cX8_cost : ByteArray := prog_1_method_17_code
def yX8_cost : MethodName := ⟨RX8, "cost", "(I)I"⟩
abbrev cX8_least : ByteArray := prog_1_method_18_code
def yX8_least : MethodName := ⟨RX8, "least", "(II)I"⟩
abbrev cX8_all : ByteArray := prog_1_method_19_code
def yX8_all : MethodName := ⟨RX8, "all", "(I)I"⟩
abbrev cX8_more : ByteArray := prog_1_method_20_code
def yX8_more : MethodName := ⟨RX8, "more", "(I)I"⟩
abbrev cX8_worst : ByteArray := prog_1_method_21_code
def yX8_worst : MethodName := ⟨RX8, "worst", "(I)I"⟩
abbrev cX8_back : ByteArray := prog_1_method_22_code
def yX8_back : MethodName := ⟨RX8, "back", "(I)I"⟩
abbrev cX8_missing : ByteArray := prog_1_method_23_code
def yX8_missing : MethodName := ⟨RX8, "missing", "(III)I"⟩
abbrev cX8_trial : ByteArray := prog_1_method_24_code
def yX8_trial : MethodName := ⟨RX8, "trial", "(IIII)J"⟩
abbrev cX8_pledge : ByteArray := prog_1_method_25_code
def yX8_pledge : MethodName := ⟨RX8, "pledge", "(I)I"⟩
abbrev cX8_pledgeRests : ByteArray := prog_1_method_26_code
def yX8_pledgeRests : MethodName := ⟨RX8, "pledgeRests", "(II)Z"⟩
abbrev cX8_pledgeLoss : ByteArray := prog_1_method_27_code
def yX8_pledgeLoss : MethodName := ⟨RX8, "pledgeLoss", "(II)I"⟩
abbrev cX8_gain : ByteArray := prog_1_method_28_code
def yX8_gain : MethodName := ⟨RX8, "gain", "(I)I"⟩
abbrev cX8_row : ByteArray := prog_1_method_29_code
def yX8_row : MethodName := ⟨RX8, "row", "(III)I"⟩
abbrev cX8_actByDraw : ByteArray := prog_1_method_30_code
def yX8_actByDraw : MethodName := ⟨RX8, "actByDraw", "(LRibbonOfLacks$State;I)V"⟩
abbrev cX8_keep : ByteArray := prog_1_method_31_code
def yX8_keep : MethodName := ⟨RX8, "keep", "()I"⟩
abbrev cX8_restore : ByteArray := prog_1_method_32_code
def yX8_restore : MethodName := ⟨RX8, "restore", "()I"⟩
abbrev cX8_count : ByteArray := prog_1_method_33_code
def yX8_count : MethodName := ⟨RX8, "count", "(I)I"⟩
abbrev cX8_isThing : ByteArray := prog_1_method_34_code
def yX8_isThing : MethodName := ⟨RX8, "isThing", "(I)Z"⟩
abbrev cX8_isBeast : ByteArray := prog_1_method_35_code
def yX8_isBeast : MethodName := ⟨RX8, "isBeast", "(I)Z"⟩
abbrev cX8_isThere : ByteArray := prog_1_method_36_code
def yX8_isThere : MethodName := ⟨RX8, "isThere", "(I)Z"⟩
abbrev cX8_missedIn : ByteArray := prog_1_method_37_code
def yX8_missedIn : MethodName := ⟨RX8, "missedIn", "(LRibbonOfLacks$State;)I"⟩
abbrev cX8_draw : ByteArray := prog_1_method_38_code
def yX8_draw : MethodName := ⟨RX8, "draw", "(II)I"⟩
abbrev cX8_power : ByteArray := prog_1_method_39_code
def yX8_power : MethodName := ⟨RX8, "power", "(II)J"⟩
abbrev cX8_commonDivisor : ByteArray := prog_1_method_40_code
def yX8_commonDivisor : MethodName := ⟨RX8, "commonDivisor", "(JJ)J"⟩
def RX9 : String := "RibbonOfLacksModel"
def TX9 : u_T := fun k => match k with
  | 0 => ("RibbonOfLacksModel", "row", "[I", true)
  | 1 => ("RibbonOfLacksModel", "pastMany", "I", false)
  | 2 => ("RibbonOfLacksModel", "keptMany", "I", false)
  | 3 => ("RibbonOfLacksModel", "text", "[I", true)
  | 4 => ("RibbonOfLacksModel", "length", "I", false)
  | 5 => ("RibbonOfLacksModel", "things", "I", false)
  | 6 => ("RibbonOfLacksModel", "strengths", "[I", true)
  | 7 => ("RibbonOfLacksModel", "kinds", "[I", true)
  | 8 => ("RibbonOfLacksModel", "needers", "[I", true)
  | 9 => ("RibbonOfLacksModel", "needMany", "I", false)
  | 10 => ("RibbonOfLacksModel", "persons", "I", false)
  | 11 => ("RibbonOfLacksModel", "misses", "[I", true)
  | 12 => ("RibbonOfLacksModel", "weights", "[I", true)
  | 13 => ("RibbonOfLacksModel", "beasts", "I", false)
  | 14 => ("RibbonOfLacksModel", "pulls", "[I", true)
  | 15 => ("RibbonOfLacksModel", "exchanges", "I", false)
  | 16 => ("RibbonOfLacksModel", "changes", "[I", true)
  | 17 => ("RibbonOfLacksModel", "at", "I", false)
  | 18 => ("RibbonOfLacksModel", "told", "[I", true)
  | 19 => ("RibbonOfLacksModel", "readThings", "I", false)
  | 20 => ("RibbonOfLacksModel", "readNeeds", "I", false)
  | 21 => ("RibbonOfLacksModel", "readPersons", "I", false)
  | 22 => ("RibbonOfLacksModel", "readBeasts", "I", false)
  | 23 => ("RibbonOfLacksModel", "readChanges", "I", false)
  | 24 => ("RibbonOfLacksModel", "holds", "[Z", true)
  | 25 => ("RibbonOfLacksModel", "ribbonStrengths", "[I", true)
  | 26 => ("RibbonOfLacksModel", "mosts", "[I", true)
  | _ => ("RibbonOfLacksModel", "chain", "[I", true)
def tyX9 : Nat → FieldType := fun k => match k with
  | 0 => .array .int
  | 1 => .int
  | 2 => .int
  | 3 => .array .int
  | 4 => .int
  | 5 => .int
  | 6 => .array .int
  | 7 => .array .int
  | 8 => .array .int
  | 9 => .int
  | 10 => .int
  | 11 => .array .int
  | 12 => .array .int
  | 13 => .int
  | 14 => .array .int
  | 15 => .int
  | 16 => .array .int
  | 17 => .int
  | 18 => .array .int
  | 19 => .int
  | 20 => .int
  | 21 => .int
  | 22 => .int
  | 23 => .int
  | 24 => .array .boolean
  | 25 => .array .int
  | 26 => .array .int
  | _ => .array .int
theorem nmX9 : ∀ a, a < 28 → ∀ b, b < 28 → a ≠ b → (TX9 a).2.1 ≠ (TX9 b).2.1 := by decide +kernel
theorem tyX9_ok : ∀ k, k < 28 → parseFieldDescriptor (TX9 k).2.2.1 = some (tyX9 k) := by decide +kernel
abbrev cX9_init : ByteArray := prog_11_method_1_code
def yX9_init : MethodName := ⟨RX9, "<init>", "()V"⟩
abbrev cX9_in : ByteArray := prog_11_method_2_code
def yX9_in : MethodName := ⟨RX9, "in", "(JJJ)Z"⟩
abbrev cX9_has : ByteArray := prog_11_method_3_code
def yX9_has : MethodName := ⟨RX9, "has", "(II)Z"⟩
abbrev cX9_bits : ByteArray := prog_11_method_4_code
def yX9_bits : MethodName := ⟨RX9, "bits", "(I)I"⟩
abbrev cX9_addThing : ByteArray := prog_11_method_5_code
def yX9_addThing : MethodName := ⟨RX9, "addThing", "(II)V"⟩
abbrev cX9_addNeed : ByteArray := prog_11_method_6_code
def yX9_addNeed : MethodName := ⟨RX9, "addNeed", "(II)V"⟩
abbrev cX9_addPerson : ByteArray := prog_11_method_7_code
def yX9_addPerson : MethodName := ⟨RX9, "addPerson", "(II)V"⟩
abbrev cX9_addBeast : ByteArray := prog_11_method_8_code
def yX9_addBeast : MethodName := ⟨RX9, "addBeast", "(I)V"⟩
abbrev cX9_addChange : ByteArray := prog_11_method_9_code
def yX9_addChange : MethodName := ⟨RX9, "addChange", "(IIII)V"⟩
abbrev cX9_begin : ByteArray := prog_11_method_10_code
def yX9_begin : MethodName := ⟨RX9, "begin", "()V"⟩
abbrev cX9_write : ByteArray := prog_11_method_11_code
def yX9_write : MethodName := ⟨RX9, "write", "(I)I"⟩
abbrev cX9_wipe : ByteArray := prog_11_method_12_code
def yX9_wipe : MethodName := ⟨RX9, "wipe", "()I"⟩
abbrev cX9_isFigure : ByteArray := prog_11_method_13_code
def yX9_isFigure : MethodName := ⟨RX9, "isFigure", "(I)Z"⟩
abbrev cX9_isThere : ByteArray := prog_11_method_14_code
def yX9_isThere : MethodName := ⟨RX9, "isThere", "(I)Z"⟩
abbrev cX9_reads : ByteArray := prog_11_method_15_code
def yX9_reads : MethodName := ⟨RX9, "reads", "(III)Z"⟩
abbrev cX9_readsComma : ByteArray := prog_11_method_16_code
def yX9_readsComma : MethodName := ⟨RX9, "readsComma", "()Z"⟩
abbrev cX9_readsTwo : ByteArray := prog_11_method_17_code
def yX9_readsTwo : MethodName := ⟨RX9, "readsTwo", "(III)Z"⟩
abbrev cX9_readsChange : ByteArray := prog_11_method_18_code
def yX9_readsChange : MethodName := ⟨RX9, "readsChange", "()Z"⟩
abbrev cX9_readsNumbers : ByteArray := prog_11_method_19_code
def yX9_readsNumbers : MethodName := ⟨RX9, "readsNumbers", "(I)Z"⟩
abbrev cX9_readsItem : ByteArray := prog_11_method_20_code
def yX9_readsItem : MethodName := ⟨RX9, "readsItem", "()I"⟩
abbrev cX9_beginToRead : ByteArray := prog_11_method_21_code
def yX9_beginToRead : MethodName := ⟨RX9, "beginToRead", "()V"⟩
abbrev cX9_fault : ByteArray := prog_11_method_22_code
def yX9_fault : MethodName := ⟨RX9, "fault", "()I"⟩
abbrev cX9_tell : ByteArray := prog_11_method_23_code
def yX9_tell : MethodName := ⟨RX9, "tell", "(I)V"⟩
abbrev cX9_lay : ByteArray := prog_11_method_24_code
def yX9_lay : MethodName := ⟨RX9, "lay", "()I"⟩
abbrev cX9_isThing : ByteArray := prog_11_method_25_code
def yX9_isThing : MethodName := ⟨RX9, "isThing", "(I)Z"⟩
abbrev cX9_isBeast : ByteArray := prog_11_method_26_code
def yX9_isBeast : MethodName := ⟨RX9, "isBeast", "(I)Z"⟩
abbrev cX9_isSet : ByteArray := prog_11_method_27_code
def yX9_isSet : MethodName := ⟨RX9, "isSet", "(I)Z"⟩
abbrev cX9_strengthOf : ByteArray := prog_11_method_28_code
def yX9_strengthOf : MethodName := ⟨RX9, "strengthOf", "(I)I"⟩
abbrev cX9_followsOf : ByteArray := prog_11_method_29_code
def yX9_followsOf : MethodName := ⟨RX9, "followsOf", "(I)I"⟩
abbrev cX9_goneIn : ByteArray := prog_11_method_30_code
def yX9_goneIn : MethodName := ⟨RX9, "goneIn", "(I)I"⟩
abbrev cX9_thereIn : ByteArray := prog_11_method_31_code
def yX9_thereIn : MethodName := ⟨RX9, "thereIn", "(I)I"⟩
abbrev cX9_lateSet : ByteArray := prog_11_method_32_code
def yX9_lateSet : MethodName := ⟨RX9, "lateSet", "()I"⟩
abbrev cX9_foundIn : ByteArray := prog_11_method_33_code
def yX9_foundIn : MethodName := ⟨RX9, "foundIn", "(I)I"⟩
abbrev cX9_missedBy : ByteArray := prog_11_method_34_code
def yX9_missedBy : MethodName := ⟨RX9, "missedBy", "(I)I"⟩
abbrev cX9_missedIn : ByteArray := prog_11_method_35_code
def yX9_missedIn : MethodName := ⟨RX9, "missedIn", "(I)I"⟩
abbrev cX9_costIn : ByteArray := prog_11_method_36_code
def yX9_costIn : MethodName := ⟨RX9, "costIn", "(II)I"⟩
abbrev cX9_thing : ByteArray := prog_11_method_37_code
def yX9_thing : MethodName := ⟨RX9, "thing", "(II)I"⟩
abbrev cX9_person : ByteArray := prog_11_method_38_code
def yX9_person : MethodName := ⟨RX9, "person", "(II)I"⟩
abbrev cX9_beast : ByteArray := prog_11_method_39_code
def yX9_beast : MethodName := ⟨RX9, "beast", "(II)I"⟩
abbrev cX9_strength : ByteArray := prog_11_method_40_code
def yX9_strength : MethodName := ⟨RX9, "strength", "(I)I"⟩
abbrev cX9_follows : ByteArray := prog_11_method_41_code
def yX9_follows : MethodName := ⟨RX9, "follows", "(I)I"⟩
abbrev cX9_missed : ByteArray := prog_11_method_42_code
def yX9_missed : MethodName := ⟨RX9, "missed", "()I"⟩
abbrev cX9_copy : ByteArray := prog_11_method_43_code
def yX9_copy : MethodName := ⟨RX9, "copy", "(II)V"⟩
abbrev cX9_keepPast : ByteArray := prog_11_method_44_code
def yX9_keepPast : MethodName := ⟨RX9, "keepPast", "()V"⟩
abbrev cX9_bindIn : ByteArray := prog_11_method_45_code
def yX9_bindIn : MethodName := ⟨RX9, "bindIn", "(III)V"⟩
abbrev cX9_bind : ByteArray := prog_11_method_46_code
def yX9_bind : MethodName := ⟨RX9, "bind", "(II)I"⟩
abbrev cX9_loosen : ByteArray := prog_11_method_47_code
def yX9_loosen : MethodName := ⟨RX9, "loosen", "(I)I"⟩
abbrev cX9_lentIn : ByteArray := prog_11_method_48_code
def yX9_lentIn : MethodName := ⟨RX9, "lentIn", "(I)I"⟩
abbrev cX9_dayIn : ByteArray := prog_11_method_49_code
def yX9_dayIn : MethodName := ⟨RX9, "dayIn", "(I)I"⟩
abbrev cX9_days : ByteArray := prog_11_method_50_code
def yX9_days : MethodName := ⟨RX9, "days", "(I)I"⟩
abbrev cX9_undo : ByteArray := prog_11_method_51_code
def yX9_undo : MethodName := ⟨RX9, "undo", "()I"⟩
abbrev cX9_cost : ByteArray := prog_11_method_52_code
def yX9_cost : MethodName := ⟨RX9, "cost", "(I)I"⟩
abbrev cX9_leastIn : ByteArray := prog_11_method_53_code
def yX9_leastIn : MethodName := ⟨RX9, "leastIn", "(II)I"⟩
abbrev cX9_least : ByteArray := prog_11_method_54_code
def yX9_least : MethodName := ⟨RX9, "least", "(II)I"⟩
abbrev cX9_lowest : ByteArray := prog_11_method_55_code
def yX9_lowest : MethodName := ⟨RX9, "lowest", "(I)I"⟩
abbrev cX9_canHold : ByteArray := prog_11_method_56_code
def yX9_canHold : MethodName := ⟨RX9, "canHold", "(II)Z"⟩
abbrev cX9_unbound : ByteArray := prog_11_method_57_code
def yX9_unbound : MethodName := ⟨RX9, "unbound", "()I"⟩
abbrev cX9_layHolds : ByteArray := prog_11_method_58_code
def yX9_layHolds : MethodName := ⟨RX9, "layHolds", "(I)V"⟩
abbrev cX9_usedByAll : ByteArray := prog_11_method_59_code
def yX9_usedByAll : MethodName := ⟨RX9, "usedByAll", "()I"⟩
abbrev cX9_ribbonOf : ByteArray := prog_11_method_60_code
def yX9_ribbonOf : MethodName := ⟨RX9, "ribbonOf", "(II)I"⟩
abbrev cX9_all : ByteArray := prog_11_method_61_code
def yX9_all : MethodName := ⟨RX9, "all", "(I)I"⟩
abbrev cX9_more : ByteArray := prog_11_method_62_code
def yX9_more : MethodName := ⟨RX9, "more", "(I)I"⟩
abbrev cX9_worst : ByteArray := prog_11_method_63_code
def yX9_worst : MethodName := ⟨RX9, "worst", "(I)I"⟩
abbrev cX9_back : ByteArray := prog_11_method_64_code
def yX9_back : MethodName := ⟨RX9, "back", "(I)I"⟩
abbrev cX9_whoMiss : ByteArray := prog_11_method_65_code
def yX9_whoMiss : MethodName := ⟨RX9, "whoMiss", "(I)I"⟩
abbrev cX9_missing : ByteArray := prog_11_method_66_code
def yX9_missing : MethodName := ⟨RX9, "missing", "(III)I"⟩
abbrev cX9_divisor : ByteArray := prog_11_method_67_code
def yX9_divisor : MethodName := ⟨RX9, "divisor", "(JJ)J"⟩
abbrev cX9_power : ByteArray := prog_11_method_68_code
def yX9_power : MethodName := ⟨RX9, "power", "(JI)J"⟩
abbrev cX9_trial : ByteArray := prog_11_method_69_code
def yX9_trial : MethodName := ⟨RX9, "trial", "(IIII)J"⟩
abbrev cX9_losesBy : ByteArray := prog_11_method_70_code
def yX9_losesBy : MethodName := ⟨RX9, "losesBy", "(II)I"⟩
abbrev cX9_rests : ByteArray := prog_11_method_71_code
def yX9_rests : MethodName := ⟨RX9, "rests", "(II)Z"⟩
abbrev cX9_pledge : ByteArray := prog_11_method_72_code
def yX9_pledge : MethodName := ⟨RX9, "pledge", "(I)I"⟩
abbrev cX9_layChain : ByteArray := prog_11_method_73_code
def yX9_layChain : MethodName := ⟨RX9, "layChain", "(II)V"⟩
abbrev cX9_gains : ByteArray := prog_11_method_74_code
def yX9_gains : MethodName := ⟨RX9, "gains", "(I)Z"⟩
abbrev cX9_gain : ByteArray := prog_11_method_75_code
def yX9_gain : MethodName := ⟨RX9, "gain", "(I)I"⟩
abbrev cX9_ofChain : ByteArray := prog_11_method_76_code
def yX9_ofChain : MethodName := ⟨RX9, "ofChain", "(II)I"⟩
abbrev cX9_row : ByteArray := prog_11_method_77_code
def yX9_row : MethodName := ⟨RX9, "row", "(III)I"⟩
abbrev cX9_keep : ByteArray := prog_11_method_78_code
def yX9_keep : MethodName := ⟨RX9, "keep", "()I"⟩
abbrev cX9_restore : ByteArray := prog_11_method_79_code
def yX9_restore : MethodName := ⟨RX9, "restore", "()I"⟩
abbrev cX9_count : ByteArray := prog_11_method_80_code
def yX9_count : MethodName := ⟨RX9, "count", "(I)I"⟩
end
section
/-! ===== one big world: every cell of both objects at a place; methods over places, numbers as whole numbers ===== -/
abbrev AV : Type := Int ⊕ (Int ⊕ Nat)
abbrev vI (x : Int) : AV := Sum.inl x
abbrev vL (x : Int) : AV := Sum.inr (Sum.inl x)
abbrev vR (q : Nat) : AV := Sum.inr (Sum.inr q)
/-- how many places there are, the numbers, the references (0: null) -/
abbrev MM : Type := Nat × (Nat → Nat → Int) × (Nat → Nat → Nat)
abbrev MI : Type := MethodName × ByteArray × Nat × Option FieldType
abbrev GG : Type := Launch × va_G × (Nat → ClassId) × Nat × (Nat → Nat)
abbrev R32 (x : Int) : Prop := -2147483648 ≤ x ∧ x < 2147483648
abbrev R64 (x : Int) : Prop := -9223372036854775808 ≤ x ∧ x < 9223372036854775808
def cr (ad : Nat → Nat) (q : Nat) : Value := if q = 0 then .null else .ref (ad q)
def cv (ad : Nat → Nat) : AV → Value
  | .inl x => .int (Int32.ofInt x)
  | .inr (.inl x) => .long (Int64.ofInt x)
  | .inr (.inr q) => cr ad q
def vok (n : Nat) : AV → Prop
  | .inl x => R32 x
  | .inr (.inl x) => R64 x
  | .inr (.inr q) => q ≤ n ∨ 700 ≤ q
def wide : AV → Bool
  | .inr (.inl _) => true
  | _ => false
def kdL : List Nat := [99, 8, 1, 10, 4, 10, 7, 10, 10, 10, 10, 10, 10, 10, 10, 10, 10, 10, 7, 10, 10, 10, 10, 10, 10, 10, 10, 10, 10, 10, 6, 10, 10, 10, 10, 5, 10, 10, 10, 5, 10, 10, 10, 2, 12, 5, 10, 10, 10, 5, 10, 10, 10, 5, 10, 10, 10, 5, 10, 10, 10, 5, 10, 10, 10, 5, 10, 10, 10, 5, 10, 10, 10, 5, 10, 10, 10, 2, 12, 5, 10, 10, 10, 5, 10, 10, 10, 3, 10, 10, 10, 10, 10, 10, 0, 10, 9, 10, 10, 10, 10, 10, 10, 10, 10, 10, 10, 11, 10, 10, 10]
def lnL : List Nat := [0, 0, 0, 200, 0, 4, 0, 10, 10, 12, 12, 8, 8, 4, 6, 6, 6, 6, 0, 10, 10, 12, 12, 8, 8, 4, 6, 6, 6, 6, 0, 1024, 1024, 1024, 1024, 0, 4, 4, 4, 0, 4, 4, 4, 0, 8, 0, 4, 4, 4, 0, 4, 4, 4, 0, 4, 4, 4, 0, 4, 4, 4, 0, 4, 4, 4, 0, 4, 4, 4, 0, 4, 4, 4, 0, 4, 4, 4, 0, 2, 0, 4, 4, 4, 0, 4, 4, 4, 0, 4, 4, 4, 5, 1024, 1024, 0, 6, 0, 156, 200, 10, 10, 10, 8, 8, 4, 24, 4, 16384, 1024, 1024, 6]
/-- a place's kind: 0 to 9 an object of that class, 10 ints, 11 booleans, 12 States -/
def kd (p : Nat) : Nat := kdL.getD p 99
def ln (p : Nat) : Nat := lnL.getD p 0
def cls : List vw_C := [(RX0, TX0, 4), (RX1, TX1, 2), (RX2, TX2, 2), (RX3, TX3, 12), (RX4, TX4, 3), (RX5, TX5, 4), (RX6, TX6, 5), (RX7, TX7, 19), (RX8, TX8, 11), (RX9, TX9, 28)]
def nf (c : Nat) : Nat := [4, 2, 2, 12, 3, 4, 5, 19, 11, 28].getD c 0
def tyc (c : Nat) : Nat → FieldType := [tyX0, tyX1, tyX2, tyX3, tyX4, tyX5, tyX6, tyX7, tyX8, tyX9].getD c tyX0
def isr (c k : Nat) : Bool := match tyc c k with
  | .int => false
  | _ => true
theorem kd_in {p : Nat} (h : kd p ≤ 12) : 1 ≤ p ∧ p ≤ 110 := by
  refine ⟨Nat.pos_of_ne_zero fun e => ?_, Nat.le_of_not_lt fun e => ?_⟩
  · subst e; revert h; decide
  · have : kd p = 99 := by
      unfold kd
      show (kdL[p]?).getD 99 = 99
      rw [List.getElem?_eq_none (by show kdL.length ≤ p; exact Nat.le_trans (by decide) e)]
      rfl
    omega
theorem ln_le : ∀ p : Nat, ln p ≤ 16384 := by
  intro p
  by_cases h : p < 111
  · exact (by decide +kernel : ∀ p, p < 111 → ln p ≤ 16384) p h
  · have : ln p = 0 := by
      unfold ln
      show (lnL[p]?).getD 0 = 0
      rw [List.getElem?_eq_none (by show lnL.length ≤ p; exact Nat.le_trans (by decide) (Nat.le_of_not_lt h))]
      rfl
    omega
/-- what a place holds -/
def ce (cy : Nat → ClassId) (ad : Nat → Nat) (M : MM) (p : Nat) : va_E :=
  if kd p < 10 then .inr (kd p, (List.range (nf (kd p))).map (fun k => if isr (kd p) k then cr ad (M.2.2 p k) else .int (Int32.ofInt (M.2.1 p k))))
  else if kd p = 12 then .inl (cy 12, ln p, .inr (.inr (.inr (.inr (fun j => if M.2.2 p j = 0 then none else some (ad (M.2.2 p j)))))))
  else .inl (cy (kd p), ln p, .inl (fun j => Int32.ofInt (M.2.1 p j)))
def wl (G : GG) (ad : Nat → Nat) (M : MM) : va_W := (List.range M.1).map (fun i => (ad (i + 1), ce G.2.2.1 ad M (i + 1)))
abbrev gA (G : GG) : Nat → Prop := fun q => G.2.2.2.1 ≤ q
abbrev tysG (G : GG) : List (ClassId × FieldType) := [(G.2.2.1 10, .int), (G.2.2.1 11, .boolean), (G.2.2.1 12, .object RX5)]
def gI (M : MM) (p k : Nat) : Int := M.2.1 p k
def gR (M : MM) (p k : Nat) : Nat := M.2.2 p k
def stI (M : MM) (p k : Nat) (x : Int) : MM := (M.1, fun p' k' => if p' = p ∧ k' = k then x else M.2.1 p' k', M.2.2)
def stR (M : MM) (p k : Nat) (x : Nat) : MM := (M.1, M.2.1, fun p' k' => if p' = p ∧ k' = k then x else M.2.2 p' k')
/-- one more place, of noughts and nulls -/
def stN (M : MM) : MM := (M.1 + 1, fun p' k' => if p' = M.1 + 1 then 0 else M.2.1 p' k', fun p' k' => if p' = M.1 + 1 then 0 else M.2.2 p' k')
def lclr (L : List (Option AV)) : Nat → List (Option AV)
  | 0 => L
  | j + 1 => match L[j]? with
    | some (some (.inr (.inl _))) => L.set j none
    | _ => L
def lset (L : List (Option AV)) (i : Nat) (v : AV) : List (Option AV) := (lclr L i).set i (some v)
def lset2 (L : List (Option AV)) (i : Nat) (v : AV) : List (Option AV) := ((lclr L i).set i (some v)).set (i + 1) none
def wkL : List (Option AV) → List Bool → List (Option AV)
  | v :: L, b :: bs => (if b then v else none) :: wkL L bs
  | _, _ => []
def al (ad : Nat → Nat) (L : List (Option AV)) : List (Nat × Value) := (List.range L.length).filterMap (fun i => match L[i]? with
  | some (some v) => some (i, cv ad v)
  | _ => none)
def WS : List Cond := lw_tbl.filter goodWord
def txB : List Int32 := [116, 53, 44, 49, 59, 116, 52, 44, 49, 59, 116, 54, 44, 48, 59, 116, 57, 44, 50, 59, 116, 55, 44, 51, 59, 121, 50, 44, 48, 59, 121, 52, 44, 50, 59, 112, 48, 44, 51, 59, 112, 50, 44, 53, 59, 112, 51, 44, 49, 59, 112, 52, 44, 50, 59, 98, 49, 50, 59, 98, 49, 54, 59, 120, 48, 44, 50, 44, 49, 44, 50, 59, 120, 50, 44, 48, 44, 50, 44, 49, 59]
def tx0 : String := "t5,1;t4,1;t6,0;t9,2;t7,3;y2,0;y4,2;p0,3;p2,5;p3,1;p4,2;b12;b16;x0,2,1,2;x2,0,2,1;"
/-- the links to nest mates' private members -/
def NWL : List (String × Nat × MethodName × String) := [(RX0, 54, yX8_commonDivisor, "RibbonOfLacks"), (RX2, 25, yX5_init, "RibbonOfLacks"), (RX8, 9, yX1_init, "RibbonOfLacks"), (RX8, 27, yX7_init, "RibbonOfLacks"), (RX8, 37, yX6_init, "RibbonOfLacks"), (RX8, 44, yX5_init, "RibbonOfLacks"), (RX8, 75, yX0_init, "RibbonOfLacks")]
/-- a static of which only 'a reference or null' is said -/
def SioZ (a : Nat) (A : Nat → Prop) (U : State) (H : Heap) : Prop := ∃ v : Value, (v = .null ∨ v = .ref a) ∧ va_Z "jdk/internal/util/Preconditions" "SIOOBE_FORMATTER" "Ljava/util/function/BiFunction;" v A U H
theorem SioZ.moved {a : Nat} {A : Nat → Prop} {u U : State} {H : Heap} (hvm : u.vm.Alike U.vm) (h : SioZ a A u H) : SioZ a A U H := by
  obtain ⟨v, hv, hz⟩ := h
  exact ⟨v, hv, va_Z.moved hvm hz⟩
theorem SioZ.kept {a : Nat} {A : Nat → Prop} {U : State} {H H1 : Heap} (h : SioZ a A U H) (hq : ∀ a : Nat, a < H.size → ¬ A a → H1[a]? = H[a]?) : SioZ a A U H1 := by
  obtain ⟨v, hv, hz⟩ := h
  exact ⟨v, hv, hz.kept hq⟩
/-- what stays as it was at the start: the String constant, two statics, links, an array class -/
def XS (G : GG) (U : State) (H : Heap) : Prop := vk_R RX8 80 tx0 (G.2.2.2.2 777) U ∧ vk_S 1 [81] [txB] (fun _ => G.2.2.2.2 777) (fun _ => G.2.2.2.2 779) (gA G) U H ∧ (∀ q ∈ NWL, va_Nw (.methodLinkNest q.1 q.2.1 q.2.2.1 q.2.2.2) U) ∧ va_AO RX5 U ∧ va_Z "java/lang/String" "COMPACT_STRINGS" "Z" (.int 1) (gA G) U H ∧ SioZ (G.2.2.2.2 780) (gA G) U H
def mkrm (d mc ms : Nat) : Room := { frames := d, cells := mc, slots := ms, locals := 40 * d }
def Cx (G : GG) (I : MI) (XX : State → Prop) (p : Program) (s : State) (m : MethodId) (args : Array Value) (meth : Method) (c : Code) : Prop :=
  p.tables.exec = Jvm.exec ∧ c.code = I.2.1 ∧ c.maxLocals = I.2.2.1 ∧ meth.sig.returnType = I.2.2.2 ∧ meth.locks = false ∧ s.vm.findClass I.1.cls = some m.cls ∧ (∀ w ∈ WS, w.before args s = true) ∧
  va_K G.2.1 cls (tysG G) s ∧ G.2.2.2.1 ≤ s.heap.size ∧ meth.name = I.1.name ∧ XS G s s.heap ∧ XX s
def Ww (G : GG) (ad : Nat → Nat) (M : MM) (H : Heap) : Prop := va_P G.2.1 cls (wl G ad M) H ∧ va_D (gA G) (wl G ad M) ∧ (∀ p k, R32 (M.2.1 p k)) ∧ (∀ p k, M.2.2 p k ≤ M.1) ∧ (∀ q, 700 ≤ q → ad q = G.2.2.2.2 q) ∧ M.1 < 700
def AdE (n0 : Nat) (ad0 ad : Nat → Nat) : Prop := ∀ q, (q ≤ n0 ∨ 700 ≤ q) → ad q = ad0 q
/-- a method's body from pc on comes to an end as Z says -/
def Wg (G : GG) (I : MI) (XX : State → Prop) (d mc ms : Nat) (Z : Nat → (Nat → Nat) → List Frame → Array Value → State → State → Prop) (pc : Nat) (L : List (Option AV)) (st : List AV) (M : MM) (k n : Nat) : Prop :=
  (∀ v, some v ∈ L → vok M.1 v) → (∀ v ∈ st, vok M.1 v) → ∀ (p : Program) (e : Env) (s : State) (m : MethodId) (args : Array Value) (below : List Frame) (meth : Method) (c : Code) (H : Heap) (locs : List Loc) (Ls : Array Slot) (ad : Nat → Nat) (n0 : Nat) (ad0 : Nat → Nat),
  Cx G I XX p s m args meth c → Ww G ad M H → va_S (gA G) s.heap H locs → lv_has Ls I.2.2.1 (al ad L) → n0 ≤ M.1 → AdE n0 ad0 ad →
  W p G.1 e (mkrm d mc ms) s m args below meth c H locs k n (Z n0 ad0 below args s) (F0 m pc Ls (st.map (cv ad)))
/-- the end of a method that answers as Q says -/
def QcO (G : GG) (n0 : Nat) (ad0 : Nat → Nat) (Q : Option AV → MM → Prop) : Array Value → State → Outcome → State → Prop := fun _ st o t =>
  (∃ (v : Option AV) (M' : MM) (ad' : Nat → Nat), o = .returned (v.map (cv ad')) ∧ Q v M' ∧ n0 ≤ M'.1 ∧ AdE n0 ad0 ad' ∧ (∀ x, v = some x → vok M'.1 x) ∧ Ww G ad' M' t.heap) ∧ va_F (gA G) st t
abbrev Wp (G : GG) (I : MI) (d mc ms : Nat) (pc : Nat) (L : List (Option AV)) (st : List AV) (M : MM) (k n : Nat) (Q : Option AV → MM → Prop) : Prop :=
  Wg G I (fun _ => True) d mc ms (fun n0 ad0 below args s => MQ below (QcO G n0 ad0 Q) args s mc ms (gA G)) pc L st M k n
def PcO (G : GG) (ad : Nat → Nat) (M : MM) : State → Prop := fun U => G.2.2.2.1 ≤ U.heap.size ∧ va_K G.2.1 cls (tysG G) U ∧ XS G U U.heap ∧ Ww G ad M U.heap
/-- method I, called with as on M, answers as Q says -/
def Ok (G : GG) (I : MI) (d mc ms : Nat) (as : List AV) (M : MM) (Q : Option AV → MM → Prop) : Prop :=
  (∀ v ∈ as, vok M.1 v) → ∀ ad : Nat → Nat, Met G.1 I.1 (.code I.1 I.2.1 I.2.2.1 I.2.2.2 :: WS) (mkrm d mc ms) (va_Pc (as.map (cv ad)) (PcO G ad M)) (QcO G M.1 ad Q) mc ms (gA G)
abbrev Dd (b : ByteArray) (pc : Nat) (i : Instr) (len pc' : Nat) : Prop := decode b pc = .ok (i, len) ∧ pc + len = pc'
-- ===== facts of lists =====
theorem al_mem {ad : Nat → Nat} {L : List (Option AV)} {q : Nat × Value} : q ∈ al ad L ↔ ∃ v, L[q.1]? = some (some v) ∧ q.2 = cv ad v := by
  obtain ⟨i, w⟩ := q
  unfold al
  rw [List.mem_filterMap]
  constructor
  · rintro ⟨j, hj, h⟩
    split at h
    · next v hv =>
      cases h
      exact ⟨v, hv, rfl⟩
    · cases h
  · rintro ⟨v, hv, h⟩
    have hv : L[i]? = some (some v) := hv
    have h : w = cv ad v := h
    refine ⟨i, List.mem_range.mpr (List.getElem?_eq_some_iff.mp hv).1, ?_⟩
    rw [hv, h]
theorem lv_subset {Ls : Array Slot} {nL : Nat} {l l' : List (Nat × Value)} (h : lv_has Ls nL l) (hs : ∀ q ∈ l', q ∈ l) : lv_has Ls nL l' := ⟨h.1, h.2.1, fun q hq => h.2.2 q (hs q hq)⟩
theorem al_get {Ls : Array Slot} {nL i : Nat} {ad : Nat → Nat} {L : List (Option AV)} {v : AV} (h : lv_has Ls nL (al ad L)) (hv : L[i]? = some (some v)) : Ls[i]? = some (.val (cv ad v)) := h.2.2 (i, cv ad v) (al_mem.mpr ⟨v, hv, rfl⟩)
theorem cv_cat (ad : Nat → Nat) (v : AV) : (cv ad v).category = if wide v then 2 else 1 := by
  rcases v with x | x | q
  · rfl
  · rfl
  · show (cr ad q).category = 1
    unfold cr
    split <;> rfl
theorem lclr_get {L : List (Option AV)} {i j : Nat} {v : AV} (h : (lclr L i)[j]? = some (some v)) : L[j]? = some (some v) ∧ ¬ (j + 1 = i ∧ wide v = true) := by
  cases i with
  | zero => exact ⟨h, by omega⟩
  | succ i =>
    simp only [lclr] at h
    split at h
    · next y hy =>
      by_cases hij : i = j
      · subst hij
        rw [List.getElem?_set_self (List.getElem?_eq_some_iff.mp hy).1] at h
        cases h
      · rw [List.getElem?_set_ne hij] at h
        exact ⟨h, by omega⟩
    · next hy =>
      refine ⟨h, fun q => ?_⟩
      obtain ⟨q1, q2⟩ := q
      have : j = i := by omega
      subst this
      rcases v with x | x | x
      · cases q2
      · exact hy x h
      · cases q2
theorem lset_get {L : List (Option AV)} {i j : Nat} {v u : AV} (h : (lset L i v)[j]? = some (some u)) : (j = i ∧ u = v) ∨ (j ≠ i ∧ L[j]? = some (some u) ∧ ¬ (j + 1 = i ∧ wide u = true)) := by
  unfold lset at h
  by_cases hij : i = j
  · subst hij
    have hl := (List.getElem?_eq_some_iff.mp h).1
    rw [List.length_set] at hl
    rw [List.getElem?_set_self hl] at h
    cases h
    exact Or.inl ⟨rfl, rfl⟩
  · rw [List.getElem?_set_ne hij] at h
    obtain ⟨h1, h2⟩ := lclr_get h
    exact Or.inr ⟨fun q => hij q.symm, h1, h2⟩
theorem al_lset {ad : Nat → Nat} {L : List (Option AV)} {i : Nat} {v : AV} : ∀ q ∈ al ad (lset L i v), q ∈ (i, cv ad v) :: (al ad L).filter (fun q => !(q.1 == i) && !(q.1 + 1 == i && q.2.category == 2)) := by
  intro q hq
  obtain ⟨u, h1, h2⟩ := al_mem.mp hq
  rcases lset_get h1 with ⟨e1, e2⟩ | ⟨e1, e2, e3⟩
  · subst e2
    rw [← e1, ← h2]
    exact List.mem_cons_self
  · refine List.mem_cons_of_mem _ (List.mem_filter.mpr ⟨al_mem.mpr ⟨u, e2, h2⟩, ?_⟩)
    rw [h2, cv_cat]
    cases hw : wide u
    · simp [e1]
    · have : ¬ q.1 + 1 = i := fun z => e3 ⟨z, hw⟩
      simp [e1, this]
theorem al_lset2 {ad : Nat → Nat} {L : List (Option AV)} {i : Nat} {v : AV} : ∀ q ∈ al ad (lset2 L i v), q ∈ (i, cv ad v) :: (al ad L).filter (fun q => !(q.1 == i) && (!(q.1 == i + 1) && !(q.1 + 1 == i && q.2.category == 2))) := by
  intro q hq
  obtain ⟨u, h1, h2⟩ := al_mem.mp hq
  have h3 : q.1 ≠ i + 1 ∧ (lset L i v)[q.1]? = some (some u) := by
    unfold lset2 at h1
    by_cases hij : i + 1 = q.1
    · rw [← hij] at h1
      have hl := (List.getElem?_eq_some_iff.mp h1).1
      rw [List.length_set] at hl
      rw [List.getElem?_set_self hl] at h1
      cases h1
    · rw [List.getElem?_set_ne hij] at h1
      exact ⟨fun z => hij z.symm, h1⟩
  rcases lset_get h3.2 with ⟨e1, e2⟩ | ⟨e1, e2, e3⟩
  · subst e2
    rw [← e1, ← h2]
    exact List.mem_cons_self
  · refine List.mem_cons_of_mem _ (List.mem_filter.mpr ⟨al_mem.mpr ⟨u, e2, h2⟩, ?_⟩)
    rw [h2, cv_cat]
    have h4 := h3.1
    cases hw : wide u
    · simp [e1, h4]
    · have : ¬ q.1 + 1 = i := fun z => e3 ⟨z, hw⟩
      simp [e1, this, h4]
theorem wkL_get {L : List (Option AV)} : ∀ {bs : List Bool} {i : Nat} {v : AV}, (wkL L bs)[i]? = some (some v) → L[i]? = some (some v) := by
  induction L with
  | nil => intro bs i v h; cases bs <;> simp [wkL] at h
  | cons a L ih =>
    intro bs i v h
    cases bs with
    | nil => simp [wkL] at h
    | cons b bs =>
      cases i with
      | zero =>
        cases b
        · simp [wkL] at h
        · simpa [wkL] using h
      | succ i =>
        have h : (wkL L bs)[i]? = some (some v) := by simpa [wkL] using h
        simpa using ih h
theorem mem_get {L : List (Option AV)} {v : AV} : some v ∈ L ↔ ∃ i : Nat, L[i]? = some (some v) := List.mem_iff_getElem?
theorem vok_mono {n n' : Nat} (h : n ≤ n') {v : AV} (hv : vok n v) : vok n' v := by
  rcases v with x | x | q
  · exact hv
  · exact hv
  · exact hv.imp (fun z => Nat.le_trans z h) id
theorem lok_set {n i : Nat} {L : List (Option AV)} {v : AV} (h : ∀ v, some v ∈ L → vok n v) (hv : vok n v) : ∀ u, some u ∈ lset L i v → vok n u := by
  intro u hu
  obtain ⟨j, hj⟩ := mem_get.mp hu
  rcases lset_get hj with ⟨-, e⟩ | ⟨-, e, -⟩
  · rw [e]; exact hv
  · exact h u (mem_get.mpr ⟨j, e⟩)
theorem lok_set2 {n i : Nat} {L : List (Option AV)} {v : AV} (h : ∀ v, some v ∈ L → vok n v) (hv : vok n v) : ∀ u, some u ∈ lset2 L i v → vok n u := by
  intro u hu
  obtain ⟨j, hj⟩ := mem_get.mp hu
  unfold lset2 at hj
  by_cases hij : i + 1 = j
  · rw [hij] at hj
    have hl := (List.getElem?_eq_some_iff.mp hj).1
    rw [List.length_set] at hl
    rw [List.getElem?_set_self hl] at hj
    cases hj
  · rw [List.getElem?_set_ne hij] at hj
    exact lok_set (i := i) h hv u (mem_get.mpr ⟨j, hj⟩)
theorem cv_alike {n : Nat} {ad ad' : Nat → Nat} (h : AdE n ad ad') {v : AV} (hv : vok n v) : cv ad' v = cv ad v := by
  rcases v with x | x | q
  · rfl
  · rfl
  · show cr ad' q = cr ad q
    unfold cr
    rw [h q hv]
theorem st_alike {n : Nat} {ad ad' : Nat → Nat} (h : AdE n ad ad') {st : List AV} (hv : ∀ v ∈ st, vok n v) : st.map (cv ad') = st.map (cv ad) := List.map_congr_left fun v hx => cv_alike h (hv v hx)
theorem al_alike {n : Nat} {ad ad' : Nat → Nat} (h : AdE n ad ad') {L : List (Option AV)} (hv : ∀ v, some v ∈ L → vok n v) : ∀ q ∈ al ad' L, q ∈ al ad L := by
  intro q hq
  obtain ⟨v, h1, h2⟩ := al_mem.mp hq
  exact al_mem.mpr ⟨v, h1, h2.trans (cv_alike h (hv v (mem_get.mpr ⟨_, h1⟩)))⟩
theorem AdE.rf {n : Nat} {ad : Nat → Nat} : AdE n ad ad := fun _ _ => rfl
theorem AdE.tr {n m : Nat} {a b c : Nat → Nat} (hnm : n ≤ m) (h1 : AdE n a b) (h2 : AdE m b c) : AdE n a c := fun q hq => (h2 q (hq.imp (fun z => Nat.le_trans z hnm) id)).trans (h1 q hq)
theorem wl_get {G : GG} {ad : Nat → Nat} {M : MM} {p : Nat} (h1 : 1 ≤ p) (h2 : p ≤ M.1) : (wl G ad M)[p - 1]? = some (ad p, ce G.2.2.1 ad M p) := by
  unfold wl
  rw [List.getElem?_map, List.getElem?_range (by omega)]
  simp only [Option.map_some]
  rw [show p - 1 + 1 = p by omega]
theorem wl_set {G : GG} {ad : Nat → Nat} {M M' : MM} {p : Nat} {E : va_E} (h1 : 1 ≤ p) (h2 : p ≤ M.1) (hn : M'.1 = M.1) (hp : ce G.2.2.1 ad M' p = E) (ho : ∀ q, q ≠ p → ce G.2.2.1 ad M' q = ce G.2.2.1 ad M q) : (wl G ad M).set (p - 1) (ad p, E) = wl G ad M' := by
  refine List.ext_getElem? fun i => ?_
  unfold wl
  rw [hn]
  by_cases hi : i = p - 1
  · subst hi
    rw [List.getElem?_set_self (by simp; omega), List.getElem?_map, List.getElem?_range (by omega)]
    simp only [Option.map_some]
    rw [show p - 1 + 1 = p by omega, hp]
  · rw [List.getElem?_set_ne (fun z => hi z.symm), List.getElem?_map, List.getElem?_map]
    by_cases hl : i < M.1
    · rw [List.getElem?_range hl]
      simp only [Option.map_some]
      rw [ho (i + 1) (by omega)]
    · rw [List.getElem?_eq_none (by simpa using Nat.le_of_not_lt hl)]
      rfl
end
section
/-! ===== an instruction, a rule, over the one big world ===== -/
def iandv (x y : Int) : Int := (Int32.ofInt x &&& Int32.ofInt y).toInt
def iorv (x y : Int) : Int := (Int32.ofInt x ||| Int32.ofInt y).toInt
def ixorv (x y : Int) : Int := (Int32.ofInt x ^^^ Int32.ofInt y).toInt
def ishlv (x y : Int) : Int := (Int32.ofInt x <<< (Int32.ofInt y &&& 31)).toInt
def ishrv (x y : Int) : Int := (Int32.ofInt x >>> (Int32.ofInt y &&& 31)).toInt
def iushrv (x y : Int) : Int := (((Int32.ofInt x).toUInt32 >>> ((Int32.ofInt y).toUInt32 &&& Int32.toUInt32 31)).toInt32).toInt
def lcmpv (x y : Int) : Int := if y < x then 1 else if x = y then 0 else -1
theorem r32_toInt (x : Int32) : R32 x.toInt := ⟨x.le_toInt, x.toInt_lt⟩
theorem mx32 : Int32.maxValue.toInt = 2147483647 := rfl
theorem mn32 : Int32.minValue.toInt = -2147483648 := rfl
theorem mx64 : Int64.maxValue.toInt = 9223372036854775807 := rfl
theorem mn64 : Int64.minValue.toInt = -9223372036854775808 := rfl
theorem o32_lt {x y : Int} (hx : R32 x) (hy : R32 y) : Int32.ofInt x < Int32.ofInt y ↔ x < y := Int32.ofInt_lt_iff_lt (by rw [mn32]; exact hx.1) (by rw [mx32]; have := hx.2; omega) (by rw [mn32]; exact hy.1) (by rw [mx32]; have := hy.2; omega)
theorem o32_le {x y : Int} (hx : R32 x) (hy : R32 y) : Int32.ofInt x ≤ Int32.ofInt y ↔ x ≤ y := Int32.ofInt_le_iff_le (by rw [mn32]; exact hx.1) (by rw [mx32]; have := hx.2; omega) (by rw [mn32]; exact hy.1) (by rw [mx32]; have := hy.2; omega)
theorem o32_t {x : Int} (hx : R32 x) : (Int32.ofInt x).toInt = x := Int32.toInt_ofInt_of_le hx.1 hx.2
theorem o32_eq {x y : Int} (hx : R32 x) (hy : R32 y) : Int32.ofInt x = Int32.ofInt y ↔ x = y := ⟨fun h => by have := congrArg Int32.toInt h; rwa [o32_t hx, o32_t hy] at this, fun h => by rw [h]⟩
theorem o64_t {x : Int} (hx : R64 x) : (Int64.ofInt x).toInt = x := Int64.toInt_ofInt_of_le hx.1 hx.2
theorem o64_eq {x y : Int} (hx : R64 x) (hy : R64 y) : Int64.ofInt x = Int64.ofInt y ↔ x = y := ⟨fun h => by have := congrArg Int64.toInt h; rwa [o64_t hx, o64_t hy] at this, fun h => by rw [h]⟩
theorem o64_lt {x y : Int} (hx : R64 x) (hy : R64 y) : Int64.ofInt x < Int64.ofInt y ↔ x < y := Int64.ofInt_lt_iff_lt (by rw [mn64]; exact hx.1) (by rw [mx64]; have := hx.2; omega) (by rw [mn64]; exact hy.1) (by rw [mx64]; have := hy.2; omega)
theorem o32_0 : Int32.ofInt 0 = 0 := rfl
theorem o64_0 : Int64.ofInt 0 = 0 := rfl
theorem z32 : R32 0 := ⟨by decide, by decide⟩
theorem lcmp_o {x y : Int} (hx : R64 x) (hy : R64 y) : lg_cmp (Int64.ofInt x) (Int64.ofInt y) = Int32.ofInt (lcmpv x y) := by
  unfold lg_cmp lcmpv
  simp only [gt_iff_lt, o64_lt hy hx, o64_eq hx hy]
  split
  · rfl
  · split <;> rfl
theorem lcmpv_r (x y : Int) : R32 (lcmpv x y) := by
  unfold lcmpv
  split
  · exact ⟨by decide, by decide⟩
  · split <;> exact ⟨by decide, by decide⟩
theorem o32_rem {x y : Int} (hx : R32 x) (hy : R32 y) : Int32.ofInt x - Int32.ofInt x / Int32.ofInt y * Int32.ofInt y = Int32.ofInt (x.tmod y) := by
  apply Int32.toInt_inj.mp
  rw [rem_toInt, o32_t hx, o32_t hy, o32_t]
  have h1 : (x.tmod y).natAbs ≤ x.natAbs := by rw [Int.natAbs_tmod]; exact Nat.mod_le _ _
  have h2 : 0 ≤ x → 0 ≤ x.tmod y := fun h => Int.tmod_nonneg _ h
  obtain ⟨a, b⟩ := hx
  constructor
  · omega
  · rcases Int.lt_or_le x 0 with h | h
    · have h3 : x.tmod y ≤ 0 := by
        have := Int.tmod_nonneg (a := -x) y (by omega)
        rw [Int.neg_tmod] at this
        omega
      omega
    · omega
theorem o64_rem {x y : Int} (hx : R64 x) (hy : R64 y) : Int64.ofInt x - Int64.ofInt x / Int64.ofInt y * Int64.ofInt y = Int64.ofInt (x.tmod y) := by
  have e : x.tmod y = x - x.tdiv y * y := by have := Int.tmod_add_tdiv_mul x y; omega
  rw [e, Int64.ofInt_sub, Int64.ofInt_mul, Int64.ofInt_tdiv (by rw [mn64]; exact hx.1) (by rw [mx64]; have := hx.2; omega) (by rw [mn64]; exact hy.1) (by rw [mx64]; have := hy.2; omega)]
theorem tmod_r {x y B : Int} (hx : -B ≤ x ∧ x < B) : -B ≤ x.tmod y ∧ x.tmod y < B := by
  have h1 : (x.tmod y).natAbs ≤ x.natAbs := by rw [Int.natAbs_tmod]; exact Nat.mod_le _ _
  obtain ⟨a, b⟩ := hx
  constructor
  · omega
  · rcases Int.lt_or_le x 0 with h | h
    · have h3 : x.tmod y ≤ 0 := by
        have := Int.tmod_nonneg (a := -x) y (by omega)
        rw [Int.neg_tmod] at this
        omega
      omega
    · omega
theorem o32_div {x y : Int} (hx : R32 x) (hy : R32 y) : Int32.ofInt x / Int32.ofInt y = Int32.ofInt (x.tdiv y) := (Int32.ofInt_tdiv (by rw [mn32]; exact hx.1) (by rw [mx32]; have := hx.2; omega) (by rw [mn32]; exact hy.1) (by rw [mx32]; have := hy.2; omega)).symm
theorem o64_div {x y : Int} (hx : R64 x) (hy : R64 y) : Int64.ofInt x / Int64.ofInt y = Int64.ofInt (x.tdiv y) := (Int64.ofInt_tdiv (by rw [mn64]; exact hx.1) (by rw [mx64]; have := hx.2; omega) (by rw [mn64]; exact hy.1) (by rw [mx64]; have := hy.2; omega)).symm
theorem o32_l {x : Int} (hx : R32 x) : (Int32.ofInt x).toInt64 = Int64.ofInt x := Int32.toInt64_ofInt (by rw [mn32]; exact hx.1) (by rw [mx32]; have := hx.2; omega)
theorem o8 {n : Int} (h : -128 ≤ n ∧ n < 128) : (Int8.ofInt n).toInt32 = Int32.ofInt n := by
  apply Int32.toInt_inj.mp
  rw [Int8.toInt_toInt32, Int8.toInt_ofInt_of_le h.1 h.2, o32_t ⟨by omega, by omega⟩]
theorem o16 {n : Int} (h : -32768 ≤ n ∧ n < 32768) : (Int16.ofInt n).toInt32 = Int32.ofInt n := by
  apply Int32.toInt_inj.mp
  rw [Int16.toInt_toInt32, Int16.toInt_ofInt_of_le h.1 h.2, o32_t ⟨by omega, by omega⟩]
section WG
variable {G : GG} {I : MI} {XX : State → Prop} {d mc ms : Nat} {Z : Nat → (Nat → Nat) → List Frame → Array Value → State → State → Prop} {pc pc' : Nat} {L : List (Option AV)} {st : List AV} {M : MM} {k n : Nat}
theorem wg_stk {st' : List AV} (ho : (∀ v, some v ∈ L → vok M.1 v) → (∀ v ∈ st, vok M.1 v) → (∀ p k, R32 (M.2.1 p k)) → (∀ p k, M.2.2 p k ≤ M.1) → ∀ v ∈ st', vok M.1 v)
    (h : ∀ (p : Program) (e : Env) (s : State) (m : MethodId) (args : Array Value) (below : List Frame) (meth : Method) (c : Code) (H : Heap) (locs : List Loc) (Ls : Array Slot) (ad : Nat → Nat) (Q : State → Prop), Cx G I XX p s m args meth c → Ww G ad M H → va_S (gA G) s.heap H locs → lv_has Ls I.2.2.1 (al ad L) → (∀ v ∈ st, vok M.1 v) →
      W p G.1 e (mkrm d mc ms) s m args below meth c H locs k n Q (F0 m pc' Ls (st'.map (cv ad))) → W p G.1 e (mkrm d mc ms) s m args below meth c H locs k n Q (F0 m pc Ls (st.map (cv ad))))
    (kk : Wg G I XX d mc ms Z pc' L st' M k n) : Wg G I XX d mc ms Z pc L st M k n := by
  intro hL hs p e s m args below meth c H locs Ls ad n0 ad0 X hW hS hl hn hE
  exact h p e s m args below meth c H locs Ls ad _ X hW hS hl hs (kk hL (ho hL hs hW.2.2.1 hW.2.2.2.1) p e s m args below meth c H locs Ls ad n0 ad0 X hW hS hl hn hE)
theorem vok_tl {a : AV} {N : Nat} (h : ∀ v ∈ a :: st, vok N v) : ∀ v ∈ st, vok N v := fun v hv => h v (List.mem_cons_of_mem _ hv)
theorem vok_cons {a : AV} {N : Nat} (h1 : vok N a) (h : ∀ v ∈ st, vok N v) : ∀ v ∈ a :: st, vok N v := fun v hv => (List.mem_cons.mp hv).elim (fun e => by rw [e]; exact h1) (h v)
theorem vcI {x : Int} {N : Nat} (h1 : R32 x) (h : ∀ v ∈ st, vok N v) : ∀ v ∈ vI x :: st, vok N v := vok_cons (a := vI x) h1 h
theorem vcL {x : Int} {N : Nat} (h1 : R64 x) (h : ∀ v ∈ st, vok N v) : ∀ v ∈ vL x :: st, vok N v := vok_cons (a := vL x) h1 h
theorem vcR {x N : Nat} (h1 : x ≤ N ∨ 700 ≤ x) (h : ∀ v ∈ st, vok N v) : ∀ v ∈ vR x :: st, vok N v := vok_cons (a := vR x) h1 h
theorem vok_hd {a : AV} {N : Nat} (h : ∀ v ∈ a :: st, vok N v) : vok N a := h a List.mem_cons_self

theorem wg_iload {i : Nat} {x : Int} (hd : Dd I.2.1 pc (.iload i) 2 pc') (hl : L[i]? = some (some (vI x))) (kk : Wg G I XX d mc ms Z pc' L (vI x :: st) M k n) : Wg G I XX d mc ms Z pc L st M k n := by
  obtain ⟨hd, rfl⟩ := hd
  refine wg_stk (fun hL hs _ _ => vok_cons (hL _ (mem_get.mpr ⟨_, hl⟩)) hs) (fun p e s m args below meth c H locs Ls ad Q X hW hS h hs q => ?_) kk
  have hg := al_get h hl
  
  
  exact lv_iload X.1 X.2.1 hd hg q
theorem wg_iload_n {j : Fin 4} {x : Int} (hd : Dd I.2.1 pc (.iload_n j) 1 pc') (hl : L[(j : Nat)]? = some (some (vI x))) (kk : Wg G I XX d mc ms Z pc' L (vI x :: st) M k n) : Wg G I XX d mc ms Z pc L st M k n := by
  obtain ⟨hd, rfl⟩ := hd
  refine wg_stk (fun hL hs _ _ => vok_cons (hL _ (mem_get.mpr ⟨_, hl⟩)) hs) (fun p e s m args below meth c H locs Ls ad Q X hW hS h hs q => ?_) kk
  have hg := al_get h hl
  
  
  exact lv_iload_n X.1 X.2.1 hd rfl hg q
theorem wg_lload {i : Nat} {x : Int} (hd : Dd I.2.1 pc (.lload i) 2 pc') (hl : L[i]? = some (some (vL x))) (kk : Wg G I XX d mc ms Z pc' L (vL x :: st) M k n) : Wg G I XX d mc ms Z pc L st M k n := by
  obtain ⟨hd, rfl⟩ := hd
  refine wg_stk (fun hL hs _ _ => vok_cons (hL _ (mem_get.mpr ⟨_, hl⟩)) hs) (fun p e s m args below meth c H locs Ls ad Q X hW hS h hs q => ?_) kk
  have hg := al_get h hl
  
  
  exact lv_lload X.1 X.2.1 hd hg q
theorem wg_lload_n {j : Fin 4} {x : Int} (hd : Dd I.2.1 pc (.lload_n j) 1 pc') (hl : L[(j : Nat)]? = some (some (vL x))) (kk : Wg G I XX d mc ms Z pc' L (vL x :: st) M k n) : Wg G I XX d mc ms Z pc L st M k n := by
  obtain ⟨hd, rfl⟩ := hd
  refine wg_stk (fun hL hs _ _ => vok_cons (hL _ (mem_get.mpr ⟨_, hl⟩)) hs) (fun p e s m args below meth c H locs Ls ad Q X hW hS h hs q => ?_) kk
  have hg := al_get h hl
  
  
  exact lv_lload_n X.1 X.2.1 hd rfl hg q
theorem wg_aload {i : Nat} {x : Nat} (hd : Dd I.2.1 pc (.aload i) 2 pc') (hl : L[i]? = some (some (vR x))) (hx : x ≠ 0) (kk : Wg G I XX d mc ms Z pc' L (vR x :: st) M k n) : Wg G I XX d mc ms Z pc L st M k n := by
  obtain ⟨hd, rfl⟩ := hd
  refine wg_stk (fun hL hs _ _ => vok_cons (hL _ (mem_get.mpr ⟨_, hl⟩)) hs) (fun p e s m args below meth c H locs Ls ad Q X hW hS h hs q => ?_) kk
  have hg := al_get h hl
  simp only [cv, cr, if_neg hx] at hg
  simp only [List.map_cons, cv, cr, if_neg hx] at q
  exact lv_aload X.1 X.2.1 hd hg q
theorem wg_aload_n {j : Fin 4} {x : Nat} (hd : Dd I.2.1 pc (.aload_n j) 1 pc') (hl : L[(j : Nat)]? = some (some (vR x))) (hx : x ≠ 0) (kk : Wg G I XX d mc ms Z pc' L (vR x :: st) M k n) : Wg G I XX d mc ms Z pc L st M k n := by
  obtain ⟨hd, rfl⟩ := hd
  refine wg_stk (fun hL hs _ _ => vok_cons (hL _ (mem_get.mpr ⟨_, hl⟩)) hs) (fun p e s m args below meth c H locs Ls ad Q X hW hS h hs q => ?_) kk
  have hg := al_get h hl
  simp only [cv, cr, if_neg hx] at hg
  simp only [List.map_cons, cv, cr, if_neg hx] at q
  exact lv_aload_n X.1 X.2.1 hd rfl hg q
theorem wg_istore {i : Nat} {x : Int} {L' : List (Option AV)} (hd : Dd I.2.1 pc (.istore i) 2 pc') (hi : i < I.2.2.1) (hL' : lset L i (vI x) = L') (kk : Wg G I XX d mc ms Z pc' L' st M k n) : Wg G I XX d mc ms Z pc L (vI x :: st) M k n := by
  obtain ⟨hd, rfl⟩ := hd
  subst hL'
  intro hL hs p e s m args below meth c H locs Ls ad n0 ad0 X hW hS hl hn hE
  
  refine lv_istore X.1 X.2.1 hd hl hi rfl (fun ls' hl' => ?_)
  exact kk (lok_set hL (vok_hd hs)) (vok_tl hs) p e s m args below meth c H locs ls' ad n0 ad0 X hW hS (lv_subset hl' (al_lset)) hn hE
theorem wg_istore_n {j : Fin 4} {x : Int} {L' : List (Option AV)} (hd : Dd I.2.1 pc (.istore_n j) 1 pc') (hi : (j : Nat) < I.2.2.1) (hL' : lset L (j : Nat) (vI x) = L') (kk : Wg G I XX d mc ms Z pc' L' st M k n) : Wg G I XX d mc ms Z pc L (vI x :: st) M k n := by
  obtain ⟨hd, rfl⟩ := hd
  subst hL'
  intro hL hs p e s m args below meth c H locs Ls ad n0 ad0 X hW hS hl hn hE
  
  refine lv_istore_n X.1 X.2.1 hd rfl hl hi rfl (fun ls' hl' => ?_)
  exact kk (lok_set hL (vok_hd hs)) (vok_tl hs) p e s m args below meth c H locs ls' ad n0 ad0 X hW hS (lv_subset hl' (al_lset)) hn hE
theorem wg_lstore {i : Nat} {x : Int} {L' : List (Option AV)} (hd : Dd I.2.1 pc (.lstore i) 2 pc') (hi : i + 1 < I.2.2.1) (hL' : lset2 L i (vL x) = L') (kk : Wg G I XX d mc ms Z pc' L' st M k n) : Wg G I XX d mc ms Z pc L (vL x :: st) M k n := by
  obtain ⟨hd, rfl⟩ := hd
  subst hL'
  intro hL hs p e s m args below meth c H locs Ls ad n0 ad0 X hW hS hl hn hE
  
  refine lv_lstore X.1 X.2.1 hd hl hi rfl (fun ls' hl' => ?_)
  exact kk (lok_set2 hL (vok_hd hs)) (vok_tl hs) p e s m args below meth c H locs ls' ad n0 ad0 X hW hS (lv_subset hl' (al_lset2)) hn hE
theorem wg_lstore_n {j : Fin 4} {x : Int} {L' : List (Option AV)} (hd : Dd I.2.1 pc (.lstore_n j) 1 pc') (hi : (j : Nat) + 1 < I.2.2.1) (hL' : lset2 L (j : Nat) (vL x) = L') (kk : Wg G I XX d mc ms Z pc' L' st M k n) : Wg G I XX d mc ms Z pc L (vL x :: st) M k n := by
  obtain ⟨hd, rfl⟩ := hd
  subst hL'
  intro hL hs p e s m args below meth c H locs Ls ad n0 ad0 X hW hS hl hn hE
  
  refine lv_lstore_n X.1 X.2.1 hd rfl hl hi rfl (fun ls' hl' => ?_)
  exact kk (lok_set2 hL (vok_hd hs)) (vok_tl hs) p e s m args below meth c H locs ls' ad n0 ad0 X hW hS (lv_subset hl' (al_lset2)) hn hE
theorem wg_astore {i : Nat} {x : Nat} {L' : List (Option AV)} (hd : Dd I.2.1 pc (.astore i) 2 pc') (hi : i < I.2.2.1) (hL' : lset L i (vR x) = L') (hx : x ≠ 0) (kk : Wg G I XX d mc ms Z pc' L' st M k n) : Wg G I XX d mc ms Z pc L (vR x :: st) M k n := by
  obtain ⟨hd, rfl⟩ := hd
  subst hL'
  intro hL hs p e s m args below meth c H locs Ls ad n0 ad0 X hW hS hl hn hE
  simp only [List.map_cons, cv, cr, if_neg hx]
  refine lv_astore X.1 X.2.1 hd hl hi rfl (fun ls' hl' => ?_)
  exact kk (lok_set hL (vok_hd hs)) (vok_tl hs) p e s m args below meth c H locs ls' ad n0 ad0 X hW hS (lv_subset hl' (by have h9 := al_lset (ad := ad) (L := L) (i := i) (v := vR x); simp only [cv, cr, if_neg hx] at h9; exact h9)) hn hE
theorem wg_astore_n {j : Fin 4} {x : Nat} {L' : List (Option AV)} (hd : Dd I.2.1 pc (.astore_n j) 1 pc') (hi : (j : Nat) < I.2.2.1) (hL' : lset L (j : Nat) (vR x) = L') (hx : x ≠ 0) (kk : Wg G I XX d mc ms Z pc' L' st M k n) : Wg G I XX d mc ms Z pc L (vR x :: st) M k n := by
  obtain ⟨hd, rfl⟩ := hd
  subst hL'
  intro hL hs p e s m args below meth c H locs Ls ad n0 ad0 X hW hS hl hn hE
  simp only [List.map_cons, cv, cr, if_neg hx]
  refine lv_astore_n X.1 X.2.1 hd rfl hl hi rfl (fun ls' hl' => ?_)
  exact kk (lok_set hL (vok_hd hs)) (vok_tl hs) p e s m args below meth c H locs ls' ad n0 ad0 X hW hS (lv_subset hl' (by have h9 := al_lset (ad := ad) (L := L) (i := (j : Nat)) (v := vR x); simp only [cv, cr, if_neg hx] at h9; exact h9)) hn hE
theorem wg_iinc {i : Nat} {x c0 : Int} {L' : List (Option AV)} (hd : Dd I.2.1 pc (.iinc i c0) 3 pc') (hi : i < I.2.2.1) (hl0 : L[i]? = some (some (vI x))) (hL' : lset L i (vI (x + c0)) = L') (hr : R32 (x + c0)) (kk : Wg G I XX d mc ms Z pc' L' st M k n) : Wg G I XX d mc ms Z pc L st M k n := by
  obtain ⟨hd, rfl⟩ := hd
  subst hL'
  intro hL hs p e s m args below meth c H locs Ls ad n0 ad0 X hW hS hl hn hE
  have h1 : (i, Value.int (Int32.ofInt x)) ∈ al ad L := al_mem.mpr ⟨vI x, hl0, rfl⟩
  obtain ⟨kx, hkx⟩ := List.mem_iff_getElem?.mp h1
  refine lv_iinc X.1 X.2.1 hd hl hkx (v := Int32.ofInt (x + c0)) (by rw [Int32.ofInt_add]) hi rfl (fun ls' hl' => ?_)
  exact kk (lok_set hL hr) hs p e s m args below meth c H locs ls' ad n0 ad0 X hW hS (lv_subset hl' (al_lset (v := vI (x + c0)))) hn hE
theorem wg_iconst {c0 : Int} (hd : Dd I.2.1 pc (.iconst c0) 1 pc') (hr : R32 c0) (kk : Wg G I XX d mc ms Z pc' L (vI c0 :: st) M k n) : Wg G I XX d mc ms Z pc L st M k n := by
  obtain ⟨hd, rfl⟩ := hd
  exact wg_stk (fun hL hs _ _ => vcI hr hs) (fun p e s m args below meth c H locs Ls ad Q X hW hS h hs q => lv_iconst X.1 X.2.1 hd rfl q) kk
theorem wg_bipush {c0 : Int} (hd : Dd I.2.1 pc (.bipush c0) 2 pc') (hr : -128 ≤ c0 ∧ c0 < 128) (kk : Wg G I XX d mc ms Z pc' L (vI c0 :: st) M k n) : Wg G I XX d mc ms Z pc L st M k n := by
  obtain ⟨hd, rfl⟩ := hd
  exact wg_stk (fun hL hs _ _ => vcI (show R32 c0 from ⟨by omega, by omega⟩) hs) (fun p e s m args below meth c H locs Ls ad Q X hW hS h hs q => lv_bipush X.1 X.2.1 hd (o8 hr) q) kk
theorem wg_sipush {c0 : Int} (hd : Dd I.2.1 pc (.sipush c0) 3 pc') (hr : -32768 ≤ c0 ∧ c0 < 32768) (kk : Wg G I XX d mc ms Z pc' L (vI c0 :: st) M k n) : Wg G I XX d mc ms Z pc L st M k n := by
  obtain ⟨hd, rfl⟩ := hd
  exact wg_stk (fun hL hs _ _ => vcI (show R32 c0 from ⟨by omega, by omega⟩) hs) (fun p e s m args below meth c H locs Ls ad Q X hW hS h hs q => lv_sipush X.1 X.2.1 hd (o16 hr) q) kk
theorem wg_lconst {c0 : Fin 2} {y : Int} (hd : Dd I.2.1 pc (.lconst c0) 1 pc') (hy : ((c0 : Nat) : Int) = y) (kk : Wg G I XX d mc ms Z pc' L (vL y :: st) M k n) : Wg G I XX d mc ms Z pc L st M k n := by
  obtain ⟨hd, rfl⟩ := hd
  subst hy
  exact wg_stk (fun hL hs _ _ => vcL (show R64 ((c0 : Nat) : Int) from ⟨by omega, by omega⟩) hs) (fun p e s m args below meth c H locs Ls ad Q X hW hS h hs q => lv_lconst X.1 X.2.1 hd (by rw [← Int64.ofInt_eq_ofNat] <;> rfl) q) kk
theorem wg_ldc {ix : Nat} {y : Int} (hd : Dd I.2.1 pc (.ldc ix) 2 pc') (hw : Cond.constant I.1.cls ix (Int32.ofInt y) ∈ WS) (hr : R32 y) (kk : Wg G I XX d mc ms Z pc' L (vI y :: st) M k n) : Wg G I XX d mc ms Z pc L st M k n := by
  obtain ⟨hd, rfl⟩ := hd
  exact wg_stk (fun hL hs _ _ => vcI hr hs) (fun p e s m args below meth c H locs Ls ad Q X hW hS h hs q => lv_ldc X.1 X.2.1 X.2.2.2.2.2.1 (X.2.2.2.2.2.2.1 _ hw) hd q) kk
theorem wg_ldc2 {ix : Nat} {y : Int} (hd : Dd I.2.1 pc (.ldc2_w ix) 3 pc') (hw : Cond.constantLong I.1.cls ix (Int64.ofInt y) ∈ WS) (hr : R64 y) (kk : Wg G I XX d mc ms Z pc' L (vL y :: st) M k n) : Wg G I XX d mc ms Z pc L st M k n := by
  obtain ⟨hd, rfl⟩ := hd
  exact wg_stk (fun hL hs _ _ => vcL hr hs) (fun p e s m args below meth c H locs Ls ad Q X hW hS h hs q => lv_ldc2 X.1 X.2.1 X.2.2.2.2.2.1 (X.2.2.2.2.2.2.1 _ hw) hd q) kk
theorem wg_ldcS (hd : Dd I.2.1 pc (.ldc 80) 2 pc') (hI : I.1.cls = RX8) (kk : Wg G I XX d mc ms Z pc' L (vR 777 :: st) M k n) : Wg G I XX d mc ms Z pc L st M k n := by
  obtain ⟨hd, rfl⟩ := hd
  refine wg_stk (fun hL hs _ _ => vcR (Or.inr (by decide)) hs) (fun p e s m args below meth c H locs Ls ad Q X hW hS h hs q => ?_) kk
  have e1 : cv ad (vR 777) = .ref (G.2.2.2.2 777) := by
    show cr ad 777 = _
    unfold cr
    rw [if_neg (by decide), hW.2.2.2.2.1 777 (by decide)]
  rw [List.map_cons, e1] at q
  exact va_ldcS X.1 X.2.1 (by have := X.2.2.2.2.2.1; rw [hI] at this; exact this) X.2.2.2.2.2.2.2.2.2.2.1.1 hd q
theorem wg_iadd {x y : Int} (hd : Dd I.2.1 pc (.iadd) 1 pc') (hr : R32 (x + y)) (kk : Wg G I XX d mc ms Z pc' L (vI (x + y) :: st) M k n) : Wg G I XX d mc ms Z pc L (vI y :: vI x :: st) M k n := by
  obtain ⟨hd, rfl⟩ := hd
  refine wg_stk (fun hL hs _ _ => vcI (hr) (vok_tl (vok_tl hs))) (fun p e s m args below meth c H locs Ls ad Q X hW hS h hs q => ?_) kk
  have hy : R32 y := vok_hd hs
  have hx : R32 x := vok_hd (vok_tl hs)
  simp only [List.map_cons, cv, Int32.ofInt_add] at q
  exact lv_iadd X.1 X.2.1 hd q
theorem wg_isub {x y : Int} (hd : Dd I.2.1 pc (.isub) 1 pc') (hr : R32 (x - y)) (kk : Wg G I XX d mc ms Z pc' L (vI (x - y) :: st) M k n) : Wg G I XX d mc ms Z pc L (vI y :: vI x :: st) M k n := by
  obtain ⟨hd, rfl⟩ := hd
  refine wg_stk (fun hL hs _ _ => vcI (hr) (vok_tl (vok_tl hs))) (fun p e s m args below meth c H locs Ls ad Q X hW hS h hs q => ?_) kk
  have hy : R32 y := vok_hd hs
  have hx : R32 x := vok_hd (vok_tl hs)
  simp only [List.map_cons, cv, Int32.ofInt_sub] at q
  exact lv_isub X.1 X.2.1 hd q
theorem wg_imul {x y : Int} (hd : Dd I.2.1 pc (.imul) 1 pc') (hr : R32 (x * y)) (kk : Wg G I XX d mc ms Z pc' L (vI (x * y) :: st) M k n) : Wg G I XX d mc ms Z pc L (vI y :: vI x :: st) M k n := by
  obtain ⟨hd, rfl⟩ := hd
  refine wg_stk (fun hL hs _ _ => vcI (hr) (vok_tl (vok_tl hs))) (fun p e s m args below meth c H locs Ls ad Q X hW hS h hs q => ?_) kk
  have hy : R32 y := vok_hd hs
  have hx : R32 x := vok_hd (vok_tl hs)
  simp only [List.map_cons, cv, Int32.ofInt_mul] at q
  exact lv_imul X.1 X.2.1 hd q
theorem wg_ladd {x y : Int} (hd : Dd I.2.1 pc (.ladd) 1 pc') (hr : R64 (x + y)) (kk : Wg G I XX d mc ms Z pc' L (vL (x + y) :: st) M k n) : Wg G I XX d mc ms Z pc L (vL y :: vL x :: st) M k n := by
  obtain ⟨hd, rfl⟩ := hd
  refine wg_stk (fun hL hs _ _ => vcL (hr) (vok_tl (vok_tl hs))) (fun p e s m args below meth c H locs Ls ad Q X hW hS h hs q => ?_) kk
  have hy : R64 y := vok_hd hs
  have hx : R64 x := vok_hd (vok_tl hs)
  simp only [List.map_cons, cv, Int64.ofInt_add] at q
  exact lv_ladd X.1 X.2.1 hd q
theorem wg_lsub {x y : Int} (hd : Dd I.2.1 pc (.lsub) 1 pc') (hr : R64 (x - y)) (kk : Wg G I XX d mc ms Z pc' L (vL (x - y) :: st) M k n) : Wg G I XX d mc ms Z pc L (vL y :: vL x :: st) M k n := by
  obtain ⟨hd, rfl⟩ := hd
  refine wg_stk (fun hL hs _ _ => vcL (hr) (vok_tl (vok_tl hs))) (fun p e s m args below meth c H locs Ls ad Q X hW hS h hs q => ?_) kk
  have hy : R64 y := vok_hd hs
  have hx : R64 x := vok_hd (vok_tl hs)
  simp only [List.map_cons, cv, Int64.ofInt_sub] at q
  exact lv_lsub X.1 X.2.1 hd q
theorem wg_lmul {x y : Int} (hd : Dd I.2.1 pc (.lmul) 1 pc') (hr : R64 (x * y)) (kk : Wg G I XX d mc ms Z pc' L (vL (x * y) :: st) M k n) : Wg G I XX d mc ms Z pc L (vL y :: vL x :: st) M k n := by
  obtain ⟨hd, rfl⟩ := hd
  refine wg_stk (fun hL hs _ _ => vcL (hr) (vok_tl (vok_tl hs))) (fun p e s m args below meth c H locs Ls ad Q X hW hS h hs q => ?_) kk
  have hy : R64 y := vok_hd hs
  have hx : R64 x := vok_hd (vok_tl hs)
  simp only [List.map_cons, cv, Int64.ofInt_mul] at q
  exact lv_lmul X.1 X.2.1 hd q
theorem wg_iand {x y : Int} (hd : Dd I.2.1 pc (.iand) 1 pc') (kk : Wg G I XX d mc ms Z pc' L (vI (iandv x y) :: st) M k n) : Wg G I XX d mc ms Z pc L (vI y :: vI x :: st) M k n := by
  obtain ⟨hd, rfl⟩ := hd
  refine wg_stk (fun hL hs _ _ => vcI (r32_toInt _) (vok_tl (vok_tl hs))) (fun p e s m args below meth c H locs Ls ad Q X hW hS h hs q => ?_) kk
  have hy : R32 y := vok_hd hs
  have hx : R32 x := vok_hd (vok_tl hs)
  simp only [List.map_cons, cv, iandv, Int32.ofInt_toInt] at q
  exact lv_iand X.1 X.2.1 hd q
theorem wg_ior {x y : Int} (hd : Dd I.2.1 pc (.ior) 1 pc') (kk : Wg G I XX d mc ms Z pc' L (vI (iorv x y) :: st) M k n) : Wg G I XX d mc ms Z pc L (vI y :: vI x :: st) M k n := by
  obtain ⟨hd, rfl⟩ := hd
  refine wg_stk (fun hL hs _ _ => vcI (r32_toInt _) (vok_tl (vok_tl hs))) (fun p e s m args below meth c H locs Ls ad Q X hW hS h hs q => ?_) kk
  have hy : R32 y := vok_hd hs
  have hx : R32 x := vok_hd (vok_tl hs)
  simp only [List.map_cons, cv, iorv, Int32.ofInt_toInt] at q
  exact lv_ior X.1 X.2.1 hd q
theorem wg_ixor {x y : Int} (hd : Dd I.2.1 pc (.ixor) 1 pc') (kk : Wg G I XX d mc ms Z pc' L (vI (ixorv x y) :: st) M k n) : Wg G I XX d mc ms Z pc L (vI y :: vI x :: st) M k n := by
  obtain ⟨hd, rfl⟩ := hd
  refine wg_stk (fun hL hs _ _ => vcI (r32_toInt _) (vok_tl (vok_tl hs))) (fun p e s m args below meth c H locs Ls ad Q X hW hS h hs q => ?_) kk
  have hy : R32 y := vok_hd hs
  have hx : R32 x := vok_hd (vok_tl hs)
  simp only [List.map_cons, cv, ixorv, Int32.ofInt_toInt] at q
  exact lv_ixor X.1 X.2.1 hd q
theorem wg_ishl {x y : Int} (hd : Dd I.2.1 pc (.ishl) 1 pc') (kk : Wg G I XX d mc ms Z pc' L (vI (ishlv x y) :: st) M k n) : Wg G I XX d mc ms Z pc L (vI y :: vI x :: st) M k n := by
  obtain ⟨hd, rfl⟩ := hd
  refine wg_stk (fun hL hs _ _ => vcI (r32_toInt _) (vok_tl (vok_tl hs))) (fun p e s m args below meth c H locs Ls ad Q X hW hS h hs q => ?_) kk
  have hy : R32 y := vok_hd hs
  have hx : R32 x := vok_hd (vok_tl hs)
  simp only [List.map_cons, cv, ishlv, Int32.ofInt_toInt] at q
  exact lv_ishl X.1 X.2.1 hd q
theorem wg_ishr {x y : Int} (hd : Dd I.2.1 pc (.ishr) 1 pc') (kk : Wg G I XX d mc ms Z pc' L (vI (ishrv x y) :: st) M k n) : Wg G I XX d mc ms Z pc L (vI y :: vI x :: st) M k n := by
  obtain ⟨hd, rfl⟩ := hd
  refine wg_stk (fun hL hs _ _ => vcI (r32_toInt _) (vok_tl (vok_tl hs))) (fun p e s m args below meth c H locs Ls ad Q X hW hS h hs q => ?_) kk
  have hy : R32 y := vok_hd hs
  have hx : R32 x := vok_hd (vok_tl hs)
  simp only [List.map_cons, cv, ishrv, Int32.ofInt_toInt] at q
  exact lv_ishr X.1 X.2.1 hd q
theorem wg_iushr {x y : Int} (hd : Dd I.2.1 pc (.iushr) 1 pc') (kk : Wg G I XX d mc ms Z pc' L (vI (iushrv x y) :: st) M k n) : Wg G I XX d mc ms Z pc L (vI y :: vI x :: st) M k n := by
  obtain ⟨hd, rfl⟩ := hd
  refine wg_stk (fun hL hs _ _ => vcI (r32_toInt _) (vok_tl (vok_tl hs))) (fun p e s m args below meth c H locs Ls ad Q X hW hS h hs q => ?_) kk
  have hy : R32 y := vok_hd hs
  have hx : R32 x := vok_hd (vok_tl hs)
  simp only [List.map_cons, cv, iushrv, Int32.ofInt_toInt] at q
  exact lv_iushr X.1 X.2.1 hd rfl q
theorem wg_idiv {x y : Int} (hd : Dd I.2.1 pc (.idiv) 1 pc') (hy0 : y ≠ 0) (hr : R32 (x.tdiv y)) (kk : Wg G I XX d mc ms Z pc' L (vI (x.tdiv y) :: st) M k n) : Wg G I XX d mc ms Z pc L (vI y :: vI x :: st) M k n := by
  obtain ⟨hd, rfl⟩ := hd
  refine wg_stk (fun hL hs _ _ => vcI (hr) (vok_tl (vok_tl hs))) (fun p e s m args below meth c H locs Ls ad Q X hW hS h hs q => ?_) kk
  have hy : R32 y := vok_hd hs
  have hx : R32 x := vok_hd (vok_tl hs)
  simp only [List.map_cons, cv, ← o32_div hx hy] at q
  exact lv_idiv X.1 X.2.1 hd (fun z => hy0 ((o32_eq hy z32).mp (z.trans o32_0.symm))) q
theorem wg_irem {x y : Int} (hd : Dd I.2.1 pc (.irem) 1 pc') (hy0 : y ≠ 0) (kk : Wg G I XX d mc ms Z pc' L (vI (x.tmod y) :: st) M k n) : Wg G I XX d mc ms Z pc L (vI y :: vI x :: st) M k n := by
  obtain ⟨hd, rfl⟩ := hd
  refine wg_stk (fun hL hs _ _ => vcI (tmod_r (vok_hd (vok_tl hs))) (vok_tl (vok_tl hs))) (fun p e s m args below meth c H locs Ls ad Q X hW hS h hs q => ?_) kk
  have hy : R32 y := vok_hd hs
  have hx : R32 x := vok_hd (vok_tl hs)
  simp only [List.map_cons, cv, ← o32_rem hx hy] at q
  exact lv_irem X.1 X.2.1 hd (fun z => hy0 ((o32_eq hy z32).mp (z.trans o32_0.symm))) q
theorem wg_ldiv {x y : Int} (hd : Dd I.2.1 pc (.ldiv) 1 pc') (hy0 : y ≠ 0) (hr : R64 (x.tdiv y)) (kk : Wg G I XX d mc ms Z pc' L (vL (x.tdiv y) :: st) M k n) : Wg G I XX d mc ms Z pc L (vL y :: vL x :: st) M k n := by
  obtain ⟨hd, rfl⟩ := hd
  refine wg_stk (fun hL hs _ _ => vcL (hr) (vok_tl (vok_tl hs))) (fun p e s m args below meth c H locs Ls ad Q X hW hS h hs q => ?_) kk
  have hy : R64 y := vok_hd hs
  have hx : R64 x := vok_hd (vok_tl hs)
  simp only [List.map_cons, cv, ← o64_div hx hy] at q
  exact lv_ldiv X.1 X.2.1 hd (fun z => hy0 ((o64_eq hy ⟨by decide, by decide⟩).mp (z.trans o64_0.symm))) q
theorem wg_lrem {x y : Int} (hd : Dd I.2.1 pc (.lrem) 1 pc') (hy0 : y ≠ 0) (kk : Wg G I XX d mc ms Z pc' L (vL (x.tmod y) :: st) M k n) : Wg G I XX d mc ms Z pc L (vL y :: vL x :: st) M k n := by
  obtain ⟨hd, rfl⟩ := hd
  refine wg_stk (fun hL hs _ _ => vcL (tmod_r (vok_hd (vok_tl hs))) (vok_tl (vok_tl hs))) (fun p e s m args below meth c H locs Ls ad Q X hW hS h hs q => ?_) kk
  have hy : R64 y := vok_hd hs
  have hx : R64 x := vok_hd (vok_tl hs)
  simp only [List.map_cons, cv, ← o64_rem hx hy] at q
  exact lv_lrem X.1 X.2.1 hd (fun z => hy0 ((o64_eq hy ⟨by decide, by decide⟩).mp (z.trans o64_0.symm))) q
theorem wg_ineg {x : Int} (hd : Dd I.2.1 pc (.ineg) 1 pc') (hr : R32 (-x)) (kk : Wg G I XX d mc ms Z pc' L (vI (-x) :: st) M k n) : Wg G I XX d mc ms Z pc L (vI x :: st) M k n := by
  obtain ⟨hd, rfl⟩ := hd
  refine wg_stk (fun hL hs _ _ => vcI hr (vok_tl hs)) (fun p e s m args below meth c H locs Ls ad Q X hW hS h hs q => ?_) kk
  simp only [List.map_cons, cv, Int32.ofInt_neg] at q
  exact lv_ineg X.1 X.2.1 hd q
theorem wg_i2l {x : Int} (hd : Dd I.2.1 pc (.i2l) 1 pc') (kk : Wg G I XX d mc ms Z pc' L (vL x :: st) M k n) : Wg G I XX d mc ms Z pc L (vI x :: st) M k n := by
  obtain ⟨hd, rfl⟩ := hd
  refine wg_stk (fun hL hs _ _ => vcL (show R64 x from by have h : R32 x := vok_hd hs; exact ⟨by omega, by omega⟩) (vok_tl hs)) (fun p e s m args below meth c H locs Ls ad Q X hW hS h hs q => ?_) kk
  exact lv_i2l X.1 X.2.1 hd (o32_l (show R32 x from vok_hd hs)) q
theorem wg_l2i {x : Int} (hd : Dd I.2.1 pc (.l2i) 1 pc') (hr : R32 x) (kk : Wg G I XX d mc ms Z pc' L (vI x :: st) M k n) : Wg G I XX d mc ms Z pc L (vL x :: st) M k n := by
  obtain ⟨hd, rfl⟩ := hd
  refine wg_stk (fun hL hs _ _ => vcI hr (vok_tl hs)) (fun p e s m args below meth c H locs Ls ad Q X hW hS h hs q => ?_) kk
  exact lv_l2i X.1 X.2.1 hd Int64.toInt32_ofInt q
theorem wg_lcmp {x y : Int} (hd : Dd I.2.1 pc (.lcmp) 1 pc') (kk : Wg G I XX d mc ms Z pc' L (vI (lcmpv x y) :: st) M k n) : Wg G I XX d mc ms Z pc L (vL y :: vL x :: st) M k n := by
  obtain ⟨hd, rfl⟩ := hd
  refine wg_stk (fun hL hs _ _ => vcI (lcmpv_r x y) (vok_tl (vok_tl hs))) (fun p e s m args below meth c H locs Ls ad Q X hW hS h hs q => ?_) kk
  have hy : R64 y := vok_hd hs
  have hx : R64 x := vok_hd (vok_tl hs)
  simp only [List.map_cons, cv, ← lcmp_o hx hy] at q
  exact W.lcmp X.1 X.2.1 hd q
theorem wg_dup {a : AV} (hd : Dd I.2.1 pc (.dup) 1 pc') (ha : wide a = false) (kk : Wg G I XX d mc ms Z pc' L (a :: a :: st) M k n) : Wg G I XX d mc ms Z pc L (a :: st) M k n := by
  obtain ⟨hd, rfl⟩ := hd
  exact wg_stk (fun hL hs _ _ => vok_cons (vok_hd hs) hs) (fun p e s m args below meth c H locs Ls ad Q X hW hS h hs q => lv_dup X.1 X.2.1 hd (by rw [cv_cat, ha]; rfl) q) kk
theorem wg_pop {a : AV} (hd : Dd I.2.1 pc (.pop) 1 pc') (ha : wide a = false) (kk : Wg G I XX d mc ms Z pc' L st M k n) : Wg G I XX d mc ms Z pc L (a :: st) M k n := by
  obtain ⟨hd, rfl⟩ := hd
  exact wg_stk (fun hL hs _ _ => vok_tl hs) (fun p e s m args below meth c H locs Ls ad Q X hW hS h hs q => lv_pop X.1 X.2.1 hd (by rw [cv_cat, ha]; rfl) q) kk
theorem wg_dup2 {a b : AV} (hd : Dd I.2.1 pc (.dup2) 1 pc') (ha : wide a = false) (hb : wide b = false) (kk : Wg G I XX d mc ms Z pc' L (a :: b :: a :: b :: st) M k n) : Wg G I XX d mc ms Z pc L (a :: b :: st) M k n := by
  obtain ⟨hd, rfl⟩ := hd
  exact wg_stk (fun hL hs _ _ => vok_cons (vok_hd hs) (vok_cons (vok_hd (vok_tl hs)) hs)) (fun p e s m args below meth c H locs Ls ad Q X hW hS h hs q => lv_dup2_11 X.1 X.2.1 hd (by rw [cv_cat, ha]; rfl) (by rw [cv_cat, hb]; rfl) q) kk
theorem wg_goto {off : Int} {tgt : Nat} (hd : Dd I.2.1 pc (.goto off) 3 pc') (ht : (pc : Int) + off = (tgt : Int)) (kk : Wg G I XX d mc ms Z tgt L st M k n) : Wg G I XX d mc ms Z pc L st M k n := by
  obtain ⟨hd, rfl⟩ := hd
  exact wg_stk (fun hL hs _ _ => hs) (fun p e s m args below meth c H locs Ls ad Q X hW hS h hs q => lv_goto X.1 X.2.1 hd ht q) kk
theorem wg_weak (bs : List Bool) {L' : List (Option AV)} (h' : wkL L bs = L') (kk : Wg G I XX d mc ms Z pc L' st M k n) : Wg G I XX d mc ms Z pc L st M k n := by
  subst h'
  intro hL hs p e s m args below meth c H locs Ls ad n0 ad0 X hW hS hl hn hE
  refine kk (fun v hv => ?_) hs p e s m args below meth c H locs Ls ad n0 ad0 X hW hS (lv_subset hl fun q hq => ?_) hn hE
  · obtain ⟨i, hi⟩ := mem_get.mp hv
    exact hL v (mem_get.mpr ⟨i, wkL_get hi⟩)
  · obtain ⟨v, h1, h2⟩ := al_mem.mp hq
    exact al_mem.mpr ⟨v, wkL_get h1, h2⟩
/-- what holds of every state that a walk comes to -/
theorem wg_ok (kk : (∀ v, some v ∈ L → vok M.1 v) → (∀ v ∈ st, vok M.1 v) → (∀ p k, R32 (M.2.1 p k)) → (∀ p k, M.2.2 p k ≤ M.1) → M.1 < 700 → Wg G I XX d mc ms Z pc L st M k n) : Wg G I XX d mc ms Z pc L st M k n := by
  intro hL hs p e s m args below meth c H locs Ls ad n0 ad0 X hW hS hl hn hE
  exact kk hL hs hW.2.2.1 hW.2.2.2.1 hW.2.2.2.2.2 hL hs p e s m args below meth c H locs Ls ad n0 ad0 X hW hS hl hn hE
theorem wg_icmp_eq {x y : Int} {off : Int} {tgt : Nat} (hd : Dd I.2.1 pc (.if_icmp .eq off) 3 pc') (ht : (pc : Int) + off = (tgt : Int)) (kt : x = y → Wg G I XX d mc ms Z tgt L st M k n) (kf : ¬ (x = y) → Wg G I XX d mc ms Z pc' L st M k n) : Wg G I XX d mc ms Z pc L (vI y :: vI x :: st) M k n := by
  obtain ⟨hd, rfl⟩ := hd
  intro hL hs p e s m args below meth c H locs Ls ad n0 ad0 X hW hS hl hn hE
  have hy : R32 y := vok_hd hs
  have hx : R32 x := vok_hd (vok_tl hs)
  exact lv_icmp_eq X.1 X.2.1 hd ht (fun z => kt ((o32_eq hx hy).mp z) hL (vok_tl (vok_tl hs)) p e s m args below meth c H locs Ls ad n0 ad0 X hW hS hl hn hE) (fun z => kf (fun u => z ((o32_eq hx hy).mpr u)) hL (vok_tl (vok_tl hs)) p e s m args below meth c H locs Ls ad n0 ad0 X hW hS hl hn hE)
theorem wg_icmp_ne {x y : Int} {off : Int} {tgt : Nat} (hd : Dd I.2.1 pc (.if_icmp .ne off) 3 pc') (ht : (pc : Int) + off = (tgt : Int)) (kt : x ≠ y → Wg G I XX d mc ms Z tgt L st M k n) (kf : x = y → Wg G I XX d mc ms Z pc' L st M k n) : Wg G I XX d mc ms Z pc L (vI y :: vI x :: st) M k n := by
  obtain ⟨hd, rfl⟩ := hd
  intro hL hs p e s m args below meth c H locs Ls ad n0 ad0 X hW hS hl hn hE
  have hy : R32 y := vok_hd hs
  have hx : R32 x := vok_hd (vok_tl hs)
  exact lv_icmp_ne X.1 X.2.1 hd ht (fun z => kt ((not_congr (o32_eq hx hy)).mp z) hL (vok_tl (vok_tl hs)) p e s m args below meth c H locs Ls ad n0 ad0 X hW hS hl hn hE) (fun z => kf ((o32_eq hx hy).mp z) hL (vok_tl (vok_tl hs)) p e s m args below meth c H locs Ls ad n0 ad0 X hW hS hl hn hE)
theorem wg_icmp_lt {x y : Int} {off : Int} {tgt : Nat} (hd : Dd I.2.1 pc (.if_icmp .lt off) 3 pc') (ht : (pc : Int) + off = (tgt : Int)) (kt : x < y → Wg G I XX d mc ms Z tgt L st M k n) (kf : ¬ (x < y) → Wg G I XX d mc ms Z pc' L st M k n) : Wg G I XX d mc ms Z pc L (vI y :: vI x :: st) M k n := by
  obtain ⟨hd, rfl⟩ := hd
  intro hL hs p e s m args below meth c H locs Ls ad n0 ad0 X hW hS hl hn hE
  have hy : R32 y := vok_hd hs
  have hx : R32 x := vok_hd (vok_tl hs)
  exact lv_icmp_lt X.1 X.2.1 hd ht (fun z => kt ((o32_lt hx hy).mp z) hL (vok_tl (vok_tl hs)) p e s m args below meth c H locs Ls ad n0 ad0 X hW hS hl hn hE) (fun z => kf (fun u => z ((o32_lt hx hy).mpr u)) hL (vok_tl (vok_tl hs)) p e s m args below meth c H locs Ls ad n0 ad0 X hW hS hl hn hE)
theorem wg_icmp_ge {x y : Int} {off : Int} {tgt : Nat} (hd : Dd I.2.1 pc (.if_icmp .ge off) 3 pc') (ht : (pc : Int) + off = (tgt : Int)) (kt : y ≤ x → Wg G I XX d mc ms Z tgt L st M k n) (kf : ¬ (y ≤ x) → Wg G I XX d mc ms Z pc' L st M k n) : Wg G I XX d mc ms Z pc L (vI y :: vI x :: st) M k n := by
  obtain ⟨hd, rfl⟩ := hd
  intro hL hs p e s m args below meth c H locs Ls ad n0 ad0 X hW hS hl hn hE
  have hy : R32 y := vok_hd hs
  have hx : R32 x := vok_hd (vok_tl hs)
  exact lv_icmp_ge X.1 X.2.1 hd ht (fun z => kt ((o32_le hy hx).mp z) hL (vok_tl (vok_tl hs)) p e s m args below meth c H locs Ls ad n0 ad0 X hW hS hl hn hE) (fun z => kf (fun u => z ((o32_le hy hx).mpr u)) hL (vok_tl (vok_tl hs)) p e s m args below meth c H locs Ls ad n0 ad0 X hW hS hl hn hE)
theorem wg_icmp_gt {x y : Int} {off : Int} {tgt : Nat} (hd : Dd I.2.1 pc (.if_icmp .gt off) 3 pc') (ht : (pc : Int) + off = (tgt : Int)) (kt : y < x → Wg G I XX d mc ms Z tgt L st M k n) (kf : ¬ (y < x) → Wg G I XX d mc ms Z pc' L st M k n) : Wg G I XX d mc ms Z pc L (vI y :: vI x :: st) M k n := by
  obtain ⟨hd, rfl⟩ := hd
  intro hL hs p e s m args below meth c H locs Ls ad n0 ad0 X hW hS hl hn hE
  have hy : R32 y := vok_hd hs
  have hx : R32 x := vok_hd (vok_tl hs)
  exact lv_icmp_gt X.1 X.2.1 hd ht (fun z => kt ((o32_lt hy hx).mp z) hL (vok_tl (vok_tl hs)) p e s m args below meth c H locs Ls ad n0 ad0 X hW hS hl hn hE) (fun z => kf (fun u => z ((o32_lt hy hx).mpr u)) hL (vok_tl (vok_tl hs)) p e s m args below meth c H locs Ls ad n0 ad0 X hW hS hl hn hE)
theorem wg_icmp_le {x y : Int} {off : Int} {tgt : Nat} (hd : Dd I.2.1 pc (.if_icmp .le off) 3 pc') (ht : (pc : Int) + off = (tgt : Int)) (kt : x ≤ y → Wg G I XX d mc ms Z tgt L st M k n) (kf : ¬ (x ≤ y) → Wg G I XX d mc ms Z pc' L st M k n) : Wg G I XX d mc ms Z pc L (vI y :: vI x :: st) M k n := by
  obtain ⟨hd, rfl⟩ := hd
  intro hL hs p e s m args below meth c H locs Ls ad n0 ad0 X hW hS hl hn hE
  have hy : R32 y := vok_hd hs
  have hx : R32 x := vok_hd (vok_tl hs)
  exact lv_icmp_le X.1 X.2.1 hd ht (fun z => kt ((o32_le hx hy).mp z) hL (vok_tl (vok_tl hs)) p e s m args below meth c H locs Ls ad n0 ad0 X hW hS hl hn hE) (fun z => kf (fun u => z ((o32_le hx hy).mpr u)) hL (vok_tl (vok_tl hs)) p e s m args below meth c H locs Ls ad n0 ad0 X hW hS hl hn hE)
theorem wg_if_eq {x : Int} {off : Int} {tgt : Nat} (hd : Dd I.2.1 pc (.ifCond .eq off) 3 pc') (ht : (pc : Int) + off = (tgt : Int)) (kt : x = 0 → Wg G I XX d mc ms Z tgt L st M k n) (kf : ¬ (x = 0) → Wg G I XX d mc ms Z pc' L st M k n) : Wg G I XX d mc ms Z pc L (vI x :: st) M k n := by
  obtain ⟨hd, rfl⟩ := hd
  intro hL hs p e s m args below meth c H locs Ls ad n0 ad0 X hW hS hl hn hE
  have hx : R32 x := vok_hd hs
  exact lv_if_eq X.1 X.2.1 hd ht (fun z => kt ((o32_eq hx z32).mp z) hL (vok_tl hs) p e s m args below meth c H locs Ls ad n0 ad0 X hW hS hl hn hE) (fun z => kf (fun u => z ((o32_eq hx z32).mpr u)) hL (vok_tl hs) p e s m args below meth c H locs Ls ad n0 ad0 X hW hS hl hn hE)
theorem wg_if_ne {x : Int} {off : Int} {tgt : Nat} (hd : Dd I.2.1 pc (.ifCond .ne off) 3 pc') (ht : (pc : Int) + off = (tgt : Int)) (kt : x ≠ 0 → Wg G I XX d mc ms Z tgt L st M k n) (kf : x = 0 → Wg G I XX d mc ms Z pc' L st M k n) : Wg G I XX d mc ms Z pc L (vI x :: st) M k n := by
  obtain ⟨hd, rfl⟩ := hd
  intro hL hs p e s m args below meth c H locs Ls ad n0 ad0 X hW hS hl hn hE
  have hx : R32 x := vok_hd hs
  exact lv_if_ne X.1 X.2.1 hd ht (fun z => kt ((not_congr (o32_eq hx z32)).mp z) hL (vok_tl hs) p e s m args below meth c H locs Ls ad n0 ad0 X hW hS hl hn hE) (fun z => kf ((o32_eq hx z32).mp z) hL (vok_tl hs) p e s m args below meth c H locs Ls ad n0 ad0 X hW hS hl hn hE)
theorem wg_if_lt {x : Int} {off : Int} {tgt : Nat} (hd : Dd I.2.1 pc (.ifCond .lt off) 3 pc') (ht : (pc : Int) + off = (tgt : Int)) (kt : x < 0 → Wg G I XX d mc ms Z tgt L st M k n) (kf : ¬ (x < 0) → Wg G I XX d mc ms Z pc' L st M k n) : Wg G I XX d mc ms Z pc L (vI x :: st) M k n := by
  obtain ⟨hd, rfl⟩ := hd
  intro hL hs p e s m args below meth c H locs Ls ad n0 ad0 X hW hS hl hn hE
  have hx : R32 x := vok_hd hs
  exact lv_if_lt X.1 X.2.1 hd ht (fun z => kt ((o32_lt hx z32).mp z) hL (vok_tl hs) p e s m args below meth c H locs Ls ad n0 ad0 X hW hS hl hn hE) (fun z => kf (fun u => z ((o32_lt hx z32).mpr u)) hL (vok_tl hs) p e s m args below meth c H locs Ls ad n0 ad0 X hW hS hl hn hE)
theorem wg_if_ge {x : Int} {off : Int} {tgt : Nat} (hd : Dd I.2.1 pc (.ifCond .ge off) 3 pc') (ht : (pc : Int) + off = (tgt : Int)) (kt : 0 ≤ x → Wg G I XX d mc ms Z tgt L st M k n) (kf : ¬ (0 ≤ x) → Wg G I XX d mc ms Z pc' L st M k n) : Wg G I XX d mc ms Z pc L (vI x :: st) M k n := by
  obtain ⟨hd, rfl⟩ := hd
  intro hL hs p e s m args below meth c H locs Ls ad n0 ad0 X hW hS hl hn hE
  have hx : R32 x := vok_hd hs
  exact lv_if_ge X.1 X.2.1 hd ht (fun z => kt ((o32_le z32 hx).mp z) hL (vok_tl hs) p e s m args below meth c H locs Ls ad n0 ad0 X hW hS hl hn hE) (fun z => kf (fun u => z ((o32_le z32 hx).mpr u)) hL (vok_tl hs) p e s m args below meth c H locs Ls ad n0 ad0 X hW hS hl hn hE)
theorem wg_if_gt {x : Int} {off : Int} {tgt : Nat} (hd : Dd I.2.1 pc (.ifCond .gt off) 3 pc') (ht : (pc : Int) + off = (tgt : Int)) (kt : 0 < x → Wg G I XX d mc ms Z tgt L st M k n) (kf : ¬ (0 < x) → Wg G I XX d mc ms Z pc' L st M k n) : Wg G I XX d mc ms Z pc L (vI x :: st) M k n := by
  obtain ⟨hd, rfl⟩ := hd
  intro hL hs p e s m args below meth c H locs Ls ad n0 ad0 X hW hS hl hn hE
  have hx : R32 x := vok_hd hs
  exact lv_if_gt X.1 X.2.1 hd ht (fun z => kt ((o32_lt z32 hx).mp z) hL (vok_tl hs) p e s m args below meth c H locs Ls ad n0 ad0 X hW hS hl hn hE) (fun z => kf (fun u => z ((o32_lt z32 hx).mpr u)) hL (vok_tl hs) p e s m args below meth c H locs Ls ad n0 ad0 X hW hS hl hn hE)
theorem wg_if_le {x : Int} {off : Int} {tgt : Nat} (hd : Dd I.2.1 pc (.ifCond .le off) 3 pc') (ht : (pc : Int) + off = (tgt : Int)) (kt : x ≤ 0 → Wg G I XX d mc ms Z tgt L st M k n) (kf : ¬ (x ≤ 0) → Wg G I XX d mc ms Z pc' L st M k n) : Wg G I XX d mc ms Z pc L (vI x :: st) M k n := by
  obtain ⟨hd, rfl⟩ := hd
  intro hL hs p e s m args below meth c H locs Ls ad n0 ad0 X hW hS hl hn hE
  have hx : R32 x := vok_hd hs
  exact lv_if_le X.1 X.2.1 hd ht (fun z => kt ((o32_le hx z32).mp z) hL (vok_tl hs) p e s m args below meth c H locs Ls ad n0 ad0 X hW hS hl hn hE) (fun z => kf (fun u => z ((o32_le hx z32).mpr u)) hL (vok_tl hs) p e s m args below meth c H locs Ls ad n0 ad0 X hW hS hl hn hE)
theorem wg_ifnonnull {q : Nat} {off : Int} {tgt : Nat} (hd : Dd I.2.1 pc (.ifnonnull off) 3 pc') (ht : (pc : Int) + off = (tgt : Int)) (hq : q ≠ 0) (kk : Wg G I XX d mc ms Z tgt L st M k n) : Wg G I XX d mc ms Z pc L (vR q :: st) M k n := by
  obtain ⟨hd, rfl⟩ := hd
  refine wg_stk (fun hL hs _ _ => vok_tl hs) (fun p e s m args below meth c H locs Ls ad Q X hW hS h hs z => ?_) kk
  simp only [List.map_cons, cv, cr, if_neg hq]
  exact lv_ifnonnull X.1 X.2.1 hd ht z
theorem wg_ifnull {q : Nat} {off : Int} (hd : Dd I.2.1 pc (.ifnull off) 3 pc') (hq : q ≠ 0) (kk : Wg G I XX d mc ms Z pc' L st M k n) : Wg G I XX d mc ms Z pc L (vR q :: st) M k n := by
  obtain ⟨hd, rfl⟩ := hd
  refine wg_stk (fun hL hs _ _ => vok_tl hs) (fun p e s m args below meth c H locs Ls ad Q X hW hS h hs z => ?_) kk
  simp only [List.map_cons, cv, cr, if_neg hq]
  exact lv_ifnull X.1 X.2.1 hd z
theorem wg_tableOut {x dflt lo hi : Int} {offs : Array Int} {len : Nat} {tgt : Nat} (hd : Dd I.2.1 pc (.tableswitch dflt lo hi offs) len pc') (h : x < lo ∨ hi < x) (ht : (pc : Int) + dflt = (tgt : Int)) (kk : Wg G I XX d mc ms Z tgt L st M k n) : Wg G I XX d mc ms Z pc L (vI x :: st) M k n := by
  obtain ⟨hd, -⟩ := hd
  refine wg_stk (fun hL hs _ _ => vok_tl hs) (fun p e s m args below meth c H locs Ls ad Q X hW hS hh hs z => ?_) kk
  exact lv_tableOut X.1 X.2.1 hd (by rw [o32_t (show R32 x from vok_hd hs)]; exact h) ht z
theorem wg_tableIn {x dflt lo hi off : Int} {offs : Array Int} {len : Nat} {tgt : Nat} (hd : Dd I.2.1 pc (.tableswitch dflt lo hi offs) len pc') (h1 : ¬ x < lo) (h2 : ¬ hi < x) (ho : offs[(x - lo).toNat]? = some off) (ht : (pc : Int) + off = (tgt : Int)) (kk : Wg G I XX d mc ms Z tgt L st M k n) : Wg G I XX d mc ms Z pc L (vI x :: st) M k n := by
  obtain ⟨hd, -⟩ := hd
  refine wg_stk (fun hL hs _ _ => vok_tl hs) (fun p e s m args below meth c H locs Ls ad Q X hW hS hh hs z => ?_) kk
  have e1 := o32_t (show R32 x from vok_hd hs)
  exact lv_tableIn X.1 X.2.1 hd (by rw [e1]; exact h1) (by rw [e1]; exact h2) (by rw [e1]; exact ho) ht z
theorem off_none {d0 x : Int} : ∀ {l : List (Int × Int)}, (∀ q ∈ l, ¬ x = q.1) → Op.lookupswitch.offset l d0 x = d0 := by
  intro l
  induction l with
  | nil => intro _; rfl
  | cons a l ih =>
    intro h
    obtain ⟨a, o⟩ := a
    rw [Op.lookupswitch.offset_cons, if_neg (fun z => h (a, o) List.mem_cons_self (by first | exact z | exact z.symm))]
    exact ih fun q hq => h q (List.mem_cons_of_mem _ hq)
theorem wg_lookup {x dflt off : Int} {ps : Array (Int × Int)} {len : Nat} {tgt : Nat} (hd : Dd I.2.1 pc (.lookupswitch dflt ps) len pc') (hp : (ps.toList.zip (ps.toList.drop 1)).all (fun (a, next) => a.1 < next.1) = true) (ho : Op.lookupswitch.offset ps.toList dflt x = off) (ht : (pc : Int) + off = (tgt : Int)) (kk : Wg G I XX d mc ms Z tgt L st M k n) : Wg G I XX d mc ms Z pc L (vI x :: st) M k n := by
  obtain ⟨hd, -⟩ := hd
  refine wg_stk (fun hL hs _ _ => vok_tl hs) (fun p e s m args below meth c H locs Ls ad Q X hW hS hh hs z => ?_) kk
  exact lv_lookup X.1 X.2.1 hd hp (by rw [o32_t (show R32 x from vok_hd hs)]; exact ho) ht z
end WG
end
section
/-! ===== fields, arrays, calls, ends, over the one big world ===== -/
/-- the field k of class ci, as class I's entry ix names it -/
def FL (I : MI) (ix ci k : Nat) : Prop := ∃ (C : String) (T : u_T) (N : Nat), cls[ci]? = some (C, T, N) ∧ k < N ∧ nf ci = N ∧ Cond.fieldLink I.1.cls ix C (T k).2.1 (T k).2.2.1 ∈ WS ∧ (T k).1 = C ∧ (∀ w ∈ u_ws C T N, w ∈ WS) ∧ (∀ k, k < N → parseFieldDescriptor (T k).2.2.1 = some (tyc ci k)) ∧ (∀ a, a < N → ∀ b, b < N → a ≠ b → (T a).2.1 ≠ (T b).2.1) ∧ ci < 10
def fin (ci k : Nat) : Bool := match cls[ci]? with
  | some (_, T, _) => (T k).2.2.2
  | none => false
section WM
variable {G : GG} {I : MI} {XX : State → Prop} {d mc ms : Nat} {Z : Nat → (Nat → Nat) → List Frame → Array Value → State → State → Prop} {pc pc' : Nat} {L : List (Option AV)} {st : List AV} {M : MM} {k n : Nat}
theorem kd_ok {q N : Nat} (h : kd q ≤ 12) (hv : vok N (vR q)) : 1 ≤ q ∧ q ≤ N := by
  obtain ⟨h1, h2⟩ := kd_in h
  refine ⟨h1, ?_⟩
  rcases (show q ≤ N ∨ 700 ≤ q from hv) with z | z
  · exact z
  · omega
theorem cr_pos {ad : Nat → Nat} {q : Nat} (h : 1 ≤ q) : cr ad q = .ref (ad q) := by
  unfold cr
  rw [if_neg (by omega)]
def fsl (ad : Nat → Nat) (M : MM) (p : Nat) : List Value := (List.range (nf (kd p))).map (fun k => if isr (kd p) k then cr ad (M.2.2 p k) else .int (Int32.ofInt (M.2.1 p k)))
theorem ce_obj {cy : Nat → ClassId} {ad : Nat → Nat} {p : Nat} (h : kd p < 10) : ce cy ad M p = .inr (kd p, fsl ad M p) := by
  unfold ce
  rw [if_pos h]
  rfl
theorem ce_int {cy : Nat → ClassId} {ad : Nat → Nat} {p : Nat} (h : kd p = 10) : ce cy ad M p = .inl (cy 10, ln p, .inl (fun j => Int32.ofInt (M.2.1 p j))) := by
  unfold ce
  rw [if_neg (by omega), if_neg (by omega), h]
theorem ce_bool {cy : Nat → ClassId} {ad : Nat → Nat} {p : Nat} (h : kd p = 11) : ce cy ad M p = .inl (cy 11, ln p, .inl (fun j => Int32.ofInt (M.2.1 p j))) := by
  unfold ce
  rw [if_neg (by omega), if_neg (by omega), h]
theorem ce_ref {cy : Nat → ClassId} {ad : Nat → Nat} {p : Nat} (h : kd p = 12) : ce cy ad M p = .inl (cy 12, ln p, .inr (.inr (.inr (.inr (fun j => if M.2.2 p j = 0 then none else some (ad (M.2.2 p j))))))) := by
  unfold ce
  rw [if_neg (by omega), if_pos h]
theorem fsl_get {ad : Nat → Nat} {p j : Nat} (h : j < nf (kd p)) : (fsl ad M p)[j]? = some (if isr (kd p) j then cr ad (M.2.2 p j) else .int (Int32.ofInt (M.2.1 p j))) := by
  unfold fsl
  rw [List.getElem?_map, List.getElem?_range h]
  rfl
theorem fsl_len {ad : Nat → Nat} {p : Nat} : (fsl ad M p).length = nf (kd p) := by
  unfold fsl
  rw [List.length_map, List.length_range]
theorem ce_other {cy : Nat → ClassId} {ad : Nat → Nat} {M' : MM} {q : Nat} (h1 : ∀ j, M'.2.1 q j = M.2.1 q j) (h2 : ∀ j, M'.2.2 q j = M.2.2 q j) : ce cy ad M' q = ce cy ad M q := by
  unfold ce
  simp only [h1, h2]
theorem fsl_stI {ad : Nat → Nat} {p j : Nat} {x : Int} (hj : j < nf (kd p)) (hr : isr (kd p) j = false) : (fsl ad M p).set j (.int (Int32.ofInt x)) = fsl ad (stI M p j x) p := by
  refine List.ext_getElem? fun i => ?_
  by_cases hi : i < nf (kd p)
  · by_cases hij : j = i
    · subst hij
      rw [List.getElem?_set_self (by rw [fsl_len]; exact hj), fsl_get hi]
      simp [hr, stI]
    · rw [List.getElem?_set_ne hij, fsl_get hi, fsl_get hi]
      have : ¬ i = j := fun z => hij z.symm
      simp [stI, this]
  · rw [List.getElem?_eq_none (by rw [List.length_set, fsl_len]; omega), List.getElem?_eq_none (by rw [fsl_len]; omega)]
theorem fsl_stR {ad : Nat → Nat} {p j x : Nat} (hj : j < nf (kd p)) (hr : isr (kd p) j = true) : (fsl ad M p).set j (cr ad x) = fsl ad (stR M p j x) p := by
  refine List.ext_getElem? fun i => ?_
  by_cases hi : i < nf (kd p)
  · by_cases hij : j = i
    · subst hij
      rw [List.getElem?_set_self (by rw [fsl_len]; exact hj), fsl_get hi]
      simp [hr, stR]
    · rw [List.getElem?_set_ne hij, fsl_get hi, fsl_get hi]
      have : ¬ i = j := fun z => hij z.symm
      simp [stR, this]
  · rw [List.getElem?_eq_none (by rw [List.length_set, fsl_len]; omega), List.getElem?_eq_none (by rw [fsl_len]; omega)]
theorem ww_stI {ad : Nat → Nat} {H H1 : Heap} {p j : Nat} {x : Int} {E : va_E} (hW : Ww G ad M H) (h1 : 1 ≤ p) (h2 : p ≤ M.1) (hx : R32 x) (hE : ce G.2.2.1 ad (stI M p j x) p = E)
    (hP : va_P G.2.1 cls ((wl G ad M).set (p - 1) (ad p, E)) H1) (hD : va_D (gA G) ((wl G ad M).set (p - 1) (ad p, E))) : Ww G ad (stI M p j x) H1 := by
  have e := wl_set (G := G) (ad := ad) (M := M) (M' := stI M p j x) h1 h2 rfl hE (fun q hq => ce_other (fun i => by simp [stI, hq]) (fun i => rfl))
  rw [e] at hP hD
  refine ⟨hP, hD, fun a b => ?_, hW.2.2.2.1, hW.2.2.2.2.1, hW.2.2.2.2.2⟩
  show R32 (if a = p ∧ b = j then x else M.2.1 a b)
  split
  · exact hx
  · exact hW.2.2.1 a b
theorem ww_stR {ad : Nat → Nat} {H H1 : Heap} {p j x : Nat} {E : va_E} (hW : Ww G ad M H) (h1 : 1 ≤ p) (h2 : p ≤ M.1) (hx : x ≤ M.1) (hE : ce G.2.2.1 ad (stR M p j x) p = E)
    (hP : va_P G.2.1 cls ((wl G ad M).set (p - 1) (ad p, E)) H1) (hD : va_D (gA G) ((wl G ad M).set (p - 1) (ad p, E))) : Ww G ad (stR M p j x) H1 := by
  have e := wl_set (G := G) (ad := ad) (M := M) (M' := stR M p j x) h1 h2 rfl hE (fun q hq => ce_other (fun i => rfl) (fun i => by simp [stR, hq]))
  rw [e] at hP hD
  refine ⟨hP, hD, hW.2.2.1, fun a b => ?_, hW.2.2.2.2.1, hW.2.2.2.2.2⟩
  show (if a = p ∧ b = j then x else M.2.2 a b) ≤ M.1
  split
  · exact hx
  · exact hW.2.2.2.1 a b
-- fields
theorem wg_getI {ix ci j q : Nat} (hd : Dd I.2.1 pc (.getfield ix) 3 pc') (hf : FL I ix ci j) (hi : isr ci j = false) (hq : kd q = ci) (kk : Wg G I XX d mc ms Z pc' L (vI (gI M q j) :: st) M k n) : Wg G I XX d mc ms Z pc L (vR q :: st) M k n := by
  obtain ⟨hd, rfl⟩ := hd
  obtain ⟨C, T, N, f1, f2, f3, f4, f5, f6, f7, f8, f9⟩ := hf
  subst hq
  refine wg_stk (fun hL hs h32 _ => vcI (h32 q j) (vok_tl hs)) (fun p e s m args below meth c H locs Ls ad Q X hW hS hh hs z => ?_) kk
  obtain ⟨h1, h2⟩ := kd_ok (by omega) (vok_hd hs)
  have hg := wl_get (G := G) (ad := ad) h1 h2
  rw [ce_obj f9] at hg
  simp only [List.map_cons, cv, cr_pos h1]
  simp only [List.map_cons, cv, gI] at z
  exact va_get X.1 X.2.1 X.2.2.2.2.2.2.1 f6 X.2.2.2.2.2.1 X.2.2.2.2.2.2.2.1 hW.1 (q - 1) hg f1 j f2 (X.2.2.2.2.2.2.1 _ f4) (fun x hx => by rw [f5] at hx; exact hx) (v := .int (Int32.ofInt (M.2.1 q j))) (by rw [fsl_get (by rw [f3]; exact f2), hi]; rfl) hd z
theorem wg_getR {ix ci j q : Nat} (hd : Dd I.2.1 pc (.getfield ix) 3 pc') (hf : FL I ix ci j) (hi : isr ci j = true) (hq : kd q = ci) (kk : Wg G I XX d mc ms Z pc' L (vR (gR M q j) :: st) M k n) : Wg G I XX d mc ms Z pc L (vR q :: st) M k n := by
  obtain ⟨hd, rfl⟩ := hd
  obtain ⟨C, T, N, f1, f2, f3, f4, f5, f6, f7, f8, f9⟩ := hf
  subst hq
  refine wg_stk (fun hL hs h32 hr => vcR (Or.inl (hr q j)) (vok_tl hs)) (fun p e s m args below meth c H locs Ls ad Q X hW hS hh hs z => ?_) kk
  obtain ⟨h1, h2⟩ := kd_ok (by omega) (vok_hd hs)
  have hg := wl_get (G := G) (ad := ad) h1 h2
  rw [ce_obj f9] at hg
  simp only [List.map_cons, cv, cr_pos h1]
  simp only [List.map_cons, cv, gR] at z
  exact va_get X.1 X.2.1 X.2.2.2.2.2.2.1 f6 X.2.2.2.2.2.1 X.2.2.2.2.2.2.2.1 hW.1 (q - 1) hg f1 j f2 (X.2.2.2.2.2.2.1 _ f4) (fun x hx => by rw [f5] at hx; exact hx) (v := cr ad (M.2.2 q j)) (by rw [fsl_get (by rw [f3]; exact f2), hi]; rfl) hd z
theorem wg_getRe {ix ci j q r : Nat} (hd : Dd I.2.1 pc (.getfield ix) 3 pc') (hf : FL I ix ci j) (hi : isr ci j = true) (hq : kd q = ci) (he : gR M q j = r) (kk : Wg G I XX d mc ms Z pc' L (vR r :: st) M k n) : Wg G I XX d mc ms Z pc L (vR q :: st) M k n := wg_getR hd hf hi hq (by rw [he]; exact kk)
theorem fin_eq {ci j N : Nat} {C : String} {T : u_T} (h : cls[ci]? = some (C, T, N)) : fin ci j = (T j).2.2.2 := by
  unfold fin
  rw [h]
theorem wg_putI {ix ci j q : Nat} {x : Int} (hd : Dd I.2.1 pc (.putfield ix) 3 pc') (hf : FL I ix ci j) (hi : tyc ci j = .int) (hfin : fin ci j = false) (hq : kd q = ci) (kk : Wg G I XX d mc ms Z pc' L st (stI M q j x) k n) : Wg G I XX d mc ms Z pc L (vI x :: vR q :: st) M k n := by
  obtain ⟨hd, rfl⟩ := hd
  obtain ⟨C, T, N, f1, f2, f3, f4, f5, f6, f7, f8, f9⟩ := hf
  subst hq
  have hir : isr (kd q) j = false := by unfold isr; rw [hi]
  intro hL hs p e s m args below meth c H locs Ls ad n0 ad0 X hW hS hl hn hE
  obtain ⟨h1, h2⟩ := kd_ok (by omega) (vok_hd (vok_tl hs))
  have hg := wl_get (G := G) (ad := ad) h1 h2
  rw [ce_obj f9] at hg
  simp only [List.map_cons, cv, cr_pos h1]
  rw [fin_eq f1] at hfin
  refine va_put X.1 X.2.1 X.2.2.2.2.2.2.1 f6 (tyc (kd q)) f7 f8 X.2.2.2.2.2.1 X.2.2.2.2.2.2.2.1 hW.1 hW.2.1 hS (q - 1) hg f1 j f2 (X.2.2.2.2.2.2.1 _ f4) (fun x hx => by rw [f5] at hx; exact hx) hfin (ty := .int) (v := .int (Int32.ofInt x)) (by rw [f7 j f2, hi]) rfl rfl (by rw [fsl_len, f3]; exact f2) hd (fun H1 locs1 hP1 hD1 hS1 => ?_)
  have hx : R32 x := vok_hd hs
  rw [fsl_stI (by rw [f3]; exact f2) hir, ← ce_obj (cy := G.2.2.1) f9] at hP1 hD1
  exact kk hL (vok_tl (vok_tl hs)) p e s m args below meth c H1 locs1 Ls ad n0 ad0 X (ww_stI hW h1 h2 hx rfl hP1 hD1) hS1 hl hn hE
theorem wg_putR {ix ci j q x : Nat} {ty : FieldType} (hd : Dd I.2.1 pc (.putfield ix) 3 pc') (hf : FL I ix ci j) (hi : tyc ci j = ty) (hir : isr ci j = true) (hn : ∀ v, narrow ty v = v) (hft : ∀ ad, fits ty (cr ad x) = true) (hfin : fin ci j = false) (hq : kd q = ci) (hx : x < 700) (kk : Wg G I XX d mc ms Z pc' L st (stR M q j x) k n) : Wg G I XX d mc ms Z pc L (vR x :: vR q :: st) M k n := by
  obtain ⟨hd, rfl⟩ := hd
  obtain ⟨C, T, N, f1, f2, f3, f4, f5, f6, f7, f8, f9⟩ := hf
  subst hq
  intro hL hs p e s m args below meth c H locs Ls ad n0 ad0 X hW hS hl hn0 hE
  obtain ⟨h1, h2⟩ := kd_ok (by omega) (vok_hd (vok_tl hs))
  have hg := wl_get (G := G) (ad := ad) h1 h2
  rw [ce_obj f9] at hg
  simp only [List.map_cons, cv, cr_pos h1]
  rw [fin_eq f1] at hfin
  refine va_put X.1 X.2.1 X.2.2.2.2.2.2.1 f6 (tyc (kd q)) f7 f8 X.2.2.2.2.2.1 X.2.2.2.2.2.2.2.1 hW.1 hW.2.1 hS (q - 1) hg f1 j f2 (X.2.2.2.2.2.2.1 _ f4) (fun x hx => by rw [f5] at hx; exact hx) hfin (ty := ty) (v := cr ad x) (by rw [f7 j f2, hi]) (hn _) (hft ad) (by rw [fsl_len, f3]; exact f2) hd (fun H1 locs1 hP1 hD1 hS1 => ?_)
  have hx2 : x ≤ M.1 := by
    rcases (show x ≤ M.1 ∨ 700 ≤ x from vok_hd hs) with z | z
    · exact z
    · omega
  rw [fsl_stR (by rw [f3]; exact f2) hir, ← ce_obj (cy := G.2.2.1) f9] at hP1 hD1
  exact kk hL (vok_tl (vok_tl hs)) p e s m args below meth c H1 locs1 Ls ad n0 ad0 X (ww_stR hW h1 h2 hx2 rfl hP1 hD1) hS1 hl hn0 hE
theorem wg_putFR {ix ci j q x : Nat} {ty : FieldType} (hd : Dd I.2.1 pc (.putfield ix) 3 pc') (hf : FL I ix ci j) (hi : tyc ci j = ty) (hir : isr ci j = true) (hn : ∀ v, narrow ty v = v) (hft : ∀ ad, fits ty (cr ad x) = true) (hfin : fin ci j = true) (hI : I.1.name = "<init>") (hC : ∀ r, cls[ci]? = some r → r.1 = I.1.cls) (hq : kd q = ci) (hx : x < 700) (kk : Wg G I XX d mc ms Z pc' L st (stR M q j x) k n) : Wg G I XX d mc ms Z pc L (vR x :: vR q :: st) M k n := by
  obtain ⟨hd, rfl⟩ := hd
  obtain ⟨C, T, N, f1, f2, f3, f4, f5, f6, f7, f8, f9⟩ := hf
  subst hq
  intro hL hs p e s m args below meth c H locs Ls ad n0 ad0 X hW hS hl hn0 hE
  obtain ⟨h1, h2⟩ := kd_ok (by omega) (vok_hd (vok_tl hs))
  have hg := wl_get (G := G) (ad := ad) h1 h2
  rw [ce_obj f9] at hg
  simp only [List.map_cons, cv, cr_pos h1]
  rw [fin_eq f1] at hfin
  refine va_putF X.1 X.2.1 X.2.2.2.2.2.2.1 f6 (tyc (kd q)) f7 f8 X.2.2.2.2.2.1 X.2.2.2.2.2.2.2.1 hW.1 hW.2.1 hS (q - 1) hg f1 j f2 (X.2.2.2.2.2.2.1 _ f4) (fun x hx => by rw [f5] at hx; exact hx) hfin (X.2.2.2.2.2.2.2.2.2.1.trans hI) (f5.trans (hC _ f1)) (ty := ty) (v := cr ad x) (by rw [f7 j f2, hi]) (hn _) (hft ad) (by rw [fsl_len, f3]; exact f2) hd (fun H1 locs1 hP1 hD1 hS1 => ?_)
  have hx2 : x ≤ M.1 := by
    rcases (show x ≤ M.1 ∨ 700 ≤ x from vok_hd hs) with z | z
    · exact z
    · omega
  rw [fsl_stR (by rw [f3]; exact f2) hir, ← ce_obj (cy := G.2.2.1) f9] at hP1 hD1
  exact kk hL (vok_tl (vok_tl hs)) p e s m args below meth c H1 locs1 Ls ad n0 ad0 X (ww_stR hW h1 h2 hx2 rfl hP1 hD1) hS1 hl hn0 hE
-- arrays
theorem o_in {i : Int} {N : Nat} (hi : R32 i) (h0 : 0 ≤ i) (h : i < N) (hN : N ≤ 16384) : vp_in (Int32.ofInt i) N ∧ (Int32.ofInt i).toNatClampNeg = i.toNat := by
  have e : (Int32.ofInt i).toInt = i := o32_t hi
  refine ⟨?_, ?_⟩
  · rw [vp_in_iff, e]
    exact ⟨h0, h⟩
  · show (Int32.ofInt i).toInt.toNat = i.toNat
    rw [e]
theorem wg_iald {q : Nat} {i : Int} (hd : Dd I.2.1 pc (.iaload) 1 pc') (hq : kd q = 10) (h0 : 0 ≤ i) (h : i < ln q) (kk : Wg G I XX d mc ms Z pc' L (vI (gI M q i.toNat) :: st) M k n) : Wg G I XX d mc ms Z pc L (vI i :: vR q :: st) M k n := by
  obtain ⟨hd, rfl⟩ := hd
  refine wg_stk (fun hL hs h32 _ => vcI (h32 q _) (vok_tl (vok_tl hs))) (fun p e s m args below meth c H locs Ls ad Q X hW hS hh hs z => ?_) kk
  obtain ⟨h1, h2⟩ := kd_ok (by omega) (vok_hd (vok_tl hs))
  obtain ⟨a1, a2⟩ := o_in (vok_hd hs) h0 h (ln_le q)
  have hg := wl_get (G := G) (ad := ad) h1 h2
  rw [ce_int hq] at hg
  simp only [List.map_cons, cv, cr_pos h1]
  simp only [List.map_cons, cv, gI, ← a2] at z
  exact va_iald X.1 X.2.1 X.2.2.2.2.2.2.2.1 hW.1 (q - 1) 0 hg rfl a1 hd z
theorem wg_bald {q : Nat} {i : Int} (hd : Dd I.2.1 pc (.baload) 1 pc') (hq : kd q = 11) (h0 : 0 ≤ i) (h : i < ln q) (kk : Wg G I XX d mc ms Z pc' L (vI (gI M q i.toNat) :: st) M k n) : Wg G I XX d mc ms Z pc L (vI i :: vR q :: st) M k n := by
  obtain ⟨hd, rfl⟩ := hd
  refine wg_stk (fun hL hs h32 _ => vcI (h32 q _) (vok_tl (vok_tl hs))) (fun p e s m args below meth c H locs Ls ad Q X hW hS hh hs z => ?_) kk
  obtain ⟨h1, h2⟩ := kd_ok (by omega) (vok_hd (vok_tl hs))
  obtain ⟨a1, a2⟩ := o_in (vok_hd hs) h0 h (ln_le q)
  have hg := wl_get (G := G) (ad := ad) h1 h2
  rw [ce_bool hq] at hg
  simp only [List.map_cons, cv, cr_pos h1]
  simp only [List.map_cons, cv, gI, ← a2] at z
  exact va_zald X.1 X.2.1 X.2.2.2.2.2.2.2.1 hW.1 (q - 1) 1 hg rfl a1 hd z
theorem wg_aald {q : Nat} {i : Int} (hd : Dd I.2.1 pc (.aaload) 1 pc') (hq : kd q = 12) (h0 : 0 ≤ i) (h : i < ln q) (kk : Wg G I XX d mc ms Z pc' L (vR (gR M q i.toNat) :: st) M k n) : Wg G I XX d mc ms Z pc L (vI i :: vR q :: st) M k n := by
  obtain ⟨hd, rfl⟩ := hd
  refine wg_stk (fun hL hs h32 hr => vcR (Or.inl (hr q _)) (vok_tl (vok_tl hs))) (fun p e s m args below meth c H locs Ls ad Q X hW hS hh hs z => ?_) kk
  obtain ⟨h1, h2⟩ := kd_ok (by omega) (vok_hd (vok_tl hs))
  obtain ⟨a1, a2⟩ := o_in (vok_hd hs) h0 h (ln_le q)
  have hg := wl_get (G := G) (ad := ad) h1 h2
  rw [ce_ref hq] at hg
  simp only [List.map_cons, cv, cr_pos h1]
  simp only [List.map_cons, cv, gR, ← a2] at z
  refine va_aldq X.1 X.2.1 X.2.2.2.2.2.2.2.1 hW.1 (q - 1) 2 hg rfl a1 hd ?_
  have e1 : va_rf (if M.2.2 q (Int32.ofInt i).toNatClampNeg = 0 then none else some (ad (M.2.2 q (Int32.ofInt i).toNatClampNeg))) = cr ad (M.2.2 q (Int32.ofInt i).toNatClampNeg) := by
    unfold cr
    split <;> rfl
  rw [e1]
  exact z
theorem wg_iast {q : Nat} {i x : Int} (hd : Dd I.2.1 pc (.iastore) 1 pc') (hq : kd q = 10) (h0 : 0 ≤ i) (h : i < ln q) (kk : Wg G I XX d mc ms Z pc' L st (stI M q i.toNat x) k n) : Wg G I XX d mc ms Z pc L (vI x :: vI i :: vR q :: st) M k n := by
  obtain ⟨hd, rfl⟩ := hd
  intro hL hs p e s m args below meth c H locs Ls ad n0 ad0 X hW hS hl hn hE
  obtain ⟨h1, h2⟩ := kd_ok (by omega) (vok_hd (vok_tl (vok_tl hs)))
  obtain ⟨a1, a2⟩ := o_in (vok_hd (vok_tl hs)) h0 h (ln_le q)
  have hx : R32 x := vok_hd hs
  have hg := wl_get (G := G) (ad := ad) h1 h2
  rw [ce_int hq] at hg
  simp only [List.map_cons, cv, cr_pos h1]
  refine va_iast X.1 X.2.1 X.2.2.2.2.2.2.2.1 hW.1 hW.2.1 hS (q - 1) 0 hg rfl a1 hd (fun H1 locs1 hP1 hD1 hS1 => ?_)
  refine kk hL (vok_tl (vok_tl (vok_tl hs))) p e s m args below meth c H1 locs1 Ls ad n0 ad0 X (ww_stI hW h1 h2 hx ?_ hP1 hD1) hS1 hl hn hE
  rw [ce_int hq, a2]
  congr 4
  funext j
  unfold upd stI
  by_cases hj : j = i.toNat <;> simp [hj]
theorem wg_bast {q : Nat} {i x : Int} (hd : Dd I.2.1 pc (.bastore) 1 pc') (hq : kd q = 11) (h0 : 0 ≤ i) (h : i < ln q) (hx01 : x = 0 ∨ x = 1) (kk : Wg G I XX d mc ms Z pc' L st (stI M q i.toNat x) k n) : Wg G I XX d mc ms Z pc L (vI x :: vI i :: vR q :: st) M k n := by
  obtain ⟨hd, rfl⟩ := hd
  intro hL hs p e s m args below meth c H locs Ls ad n0 ad0 X hW hS hl hn hE
  obtain ⟨h1, h2⟩ := kd_ok (by omega) (vok_hd (vok_tl (vok_tl hs)))
  obtain ⟨a1, a2⟩ := o_in (vok_hd (vok_tl hs)) h0 h (ln_le q)
  have hx : R32 x := vok_hd hs
  have hg := wl_get (G := G) (ad := ad) h1 h2
  rw [ce_bool hq] at hg
  simp only [List.map_cons, cv, cr_pos h1]
  refine va_zast X.1 X.2.1 X.2.2.2.2.2.2.2.1 hW.1 hW.2.1 hS (q - 1) 1 hg rfl a1 hd (fun H1 locs1 hP1 hD1 hS1 => ?_)
  refine kk hL (vok_tl (vok_tl (vok_tl hs))) p e s m args below meth c H1 locs1 Ls ad n0 ad0 X (ww_stI hW h1 h2 hx ?_ hP1 hD1) hS1 hl hn hE
  have e1 : vp_nar .boolean (Int32.ofInt x) = Int32.ofInt x := by rcases hx01 with z | z <;> subst z <;> rfl
  rw [ce_bool hq, a2, e1]
  congr 4
  funext j
  unfold upd stI
  by_cases hj : j = i.toNat <;> simp [hj]
theorem wg_aast {q x : Nat} {i : Int} (hd : Dd I.2.1 pc (.aastore) 1 pc') (hq : kd q = 12) (h0 : 0 ≤ i) (h : i < ln q) (hx : kd x = 5) (kk : Wg G I XX d mc ms Z pc' L st (stR M q i.toNat x) k n) : Wg G I XX d mc ms Z pc L (vR x :: vI i :: vR q :: st) M k n := by
  obtain ⟨hd, rfl⟩ := hd
  intro hL hs p e s m args below meth c H locs Ls ad n0 ad0 X hW hS hl hn hE
  obtain ⟨h1, h2⟩ := kd_ok (by omega) (vok_hd (vok_tl (vok_tl hs)))
  obtain ⟨x1, x2⟩ := kd_ok (by omega) (vok_hd hs)
  obtain ⟨a1, a2⟩ := o_in (vok_hd (vok_tl hs)) h0 h (ln_le q)
  have hg := wl_get (G := G) (ad := ad) h1 h2
  have hgx := wl_get (G := G) (ad := ad) x1 x2
  rw [ce_ref hq] at hg
  rw [ce_obj (by omega), hx] at hgx
  simp only [List.map_cons, cv, cr_pos h1, cr_pos x1]
  refine va_astq X.1 X.2.1 X.2.2.2.2.2.2.2.1 hW.1 hW.2.1 hS (q - 1) 2 (x - 1) 5 (r := (RX5, TX5, 4)) hg rfl hgx rfl a1 hd (fun H1 locs1 hP1 hD1 hS1 => ?_)
  refine kk hL (vok_tl (vok_tl (vok_tl hs))) p e s m args below meth c H1 locs1 Ls ad n0 ad0 X (ww_stR hW h1 h2 x2 ?_ hP1 hD1) hS1 hl hn hE
  rw [ce_ref hq, a2]
  congr 7
  funext j
  unfold va_up stR
  have : x ≠ 0 := by omega
  by_cases hj : j = i.toNat <;> simp [hj, this]
theorem wg_alen {q : Nat} (hd : Dd I.2.1 pc (.arraylength) 1 pc') (hq : kd q = 10 ∨ kd q = 12) (kk : Wg G I XX d mc ms Z pc' L (vI (ln q : Int) :: st) M k n) : Wg G I XX d mc ms Z pc L (vR q :: st) M k n := by
  obtain ⟨hd, rfl⟩ := hd
  refine wg_stk (fun hL hs h32 _ => vcI (by have := ln_le q; exact ⟨by omega, by omega⟩) (vok_tl hs)) (fun p e s m args below meth c H locs Ls ad Q X hW hS hh hs z => ?_) kk
  obtain ⟨h1, h2⟩ := kd_ok (by omega) (vok_hd hs)
  have hg := wl_get (G := G) (ad := ad) h1 h2
  simp only [List.map_cons, cv, cr_pos h1]
  simp only [List.map_cons, cv, Int32.ofInt_eq_ofNat] at z
  rcases hq with hq | hq
  · rw [ce_int hq] at hg
    exact va_alen X.1 X.2.1 X.2.2.2.2.2.2.2.1 hW.1 (q - 1) 0 hg rfl rfl hd z
  · rw [ce_ref hq] at hg
    exact va_alen X.1 X.2.1 X.2.2.2.2.2.2.2.1 hW.1 (q - 1) 2 hg rfl rfl hd z
end WM
end
section
/-! ===== new cells, calls, ends ===== -/
def okty : FieldType → Bool
  | .int => true
  | .array _ => true
  | .object _ => true
  | _ => false
/-- class ci can be made by class I at its entry ix -/
def NW (I : MI) (ix ci N : Nat) : Prop := ∃ (C : String) (T : u_T), cls[ci]? = some (C, T, N) ∧ nf ci = N ∧ Cond.classLink I.1.cls ix C ∈ WS ∧ Cond.instantiable C N ∈ WS ∧ Cond.initialized C ∈ WS ∧ (∀ w ∈ u_ws C T N, w ∈ WS) ∧ (∀ k, k < N → parseFieldDescriptor (T k).2.2.1 = some (tyc ci k)) ∧ (∀ k, k < N → okty (tyc ci k) = true) ∧ ci < 10
/-- a method that can be called: its words, its number of parameters -/
def CI (I' : MI) (np : Nat) : Prop := Cond.initialized I'.1.cls ∈ WS ∧ Cond.code I'.1 I'.2.1 I'.2.2.1 I'.2.2.2 ∈ WS ∧ (I'.1.cls ≠ "java/lang/invoke/MethodHandle" ∧ I'.1.cls ≠ "java/lang/invoke/VarHandle" ∧ (parseMethodDescriptor I'.1.desc).map (fun d => d.parameters.length) = some np) ∧ I'.2.2.1 ≤ 20
def CVi (I' : MI) (np : Nat) : Prop := CI I' np ∧ Cond.instanceMethod I'.1 ∈ WS ∧ Cond.selects I'.1.cls I'.1 I'.1 ∈ WS
def CSt (I' : MI) (np : Nat) : Prop := CI I' np ∧ Cond.static I'.1 ∈ WS
def CCo (I' : MI) (np : Nat) : Prop := CI I' np ∧ Cond.instanceMethod I'.1 ∈ WS ∧ I'.1.name = "<init>"
theorem ws_good {w : Cond} (h : w ∈ WS) : (w.onTables && w.keeps) = true ∨ ∃ ty, w = .arrayClass ty := good_of_word (List.mem_filter.mp h).2
theorem ws_in {ws : List Cond} (h : ∀ w ∈ ws, w ∈ WS) : GoodIn WS ws := fun w hw => ⟨h w hw, ws_good (h w hw)⟩
theorem XS.moved {G : GG} {s U : State} {H H1 : Heap} (hW : s.WarmedH U.vm) (h : XS G s H) (hk : ∀ a : Nat, a < H.size → ¬ gA G a → H1[a]? = H[a]?) : XS G U H1 := ⟨vk_R.warm hW h.1, (vk_S.moved hW.alike h.2.1).kept hk, fun q hq => va_Nw.warmM hW (h.2.2.1 q hq), va_AO.moved hW.alike h.2.2.2.1, (va_Z.moved hW.alike h.2.2.2.2.1).kept hk, (SioZ.moved hW.alike h.2.2.2.2.2).kept hk⟩
theorem pco_blind {G : GG} {ad : Nat → Nat} {M : MM} {vs : List Value} : FrameBlind (va_Pc vs (PcO G ad M)) := by
  intro a U g mk h
  obtain ⟨h1, h2, h3, h4, h5⟩ := h
  exact ⟨h1, h2, va_K.moved (u := U) (U := U.calling g mk a) (Vm.Alike.refl U.vm) h3, ⟨vk_R.same (u := U) rfl h4.1, vk_S.moved (u := U) (U := U.calling g mk a) (Vm.Alike.refl U.vm) h4.2.1, fun q hq => va_Nw.same rfl rfl (h4.2.2.1 q hq), va_AO.moved (u := U) (U := U.calling g mk a) (Vm.Alike.refl U.vm) h4.2.2.2.1, va_Z.moved (u := U) (U := U.calling g mk a) (Vm.Alike.refl U.vm) h4.2.2.2.2.1, SioZ.moved (u := U) (U := U.calling g mk a) (Vm.Alike.refl U.vm) h4.2.2.2.2.2⟩, h5⟩
section WC
variable {G : GG} {I : MI} {XX : State → Prop} {d mc ms : Nat} {Z : Nat → (Nat → Nat) → List Frame → Array Value → State → State → Prop} {pc pc' : Nat} {L : List (Option AV)} {st : List AV} {M : MM} {k n : Nat}
theorem pco_at {p : Program} {s U : State} {m : MethodId} {args : Array Value} {meth : Method} {c : Code} {H : Heap} {locs : List Loc} {ad : Nat → Nat} (X : Cx G I XX p s m args meth c) (hW : Ww G ad M H) (hS : va_S (gA G) s.heap H locs) (hU : U.heap = H) (hw : s.WarmedH U.vm) : PcO G ad M U := by
  refine ⟨?_, va_K.moved hw.alike X.2.2.2.2.2.2.2.1, ?_, ?_⟩
  · rw [hU]; exact Nat.le_trans X.2.2.2.2.2.2.2.2.1 hS.1
  · rw [hU]; exact XS.moved hw X.2.2.2.2.2.2.2.2.2.2.1 hS.2.1
  · rw [hU]; exact hW
theorem wg_back {p : Program} {e : Env} {s : State} {m : MethodId} {args : Array Value} {below : List Frame} {meth : Method} {c : Code} {H : Heap} {locs : List Loc} {Ls : Array Slot} {ad : Nat → Nat} {Q : State → Prop} {Qc : Option AV → MM → Prop} {st0 rest : List Value} {mc' ms' : Nat} {a : Array Value} {rm : Room}
    (hr : va_Run p G.1 e rm s m args below meth c H locs k n mc' ms' (F0 m pc Ls st0) rest (QcO G M.1 ad Qc a) (gA G)) (hS : va_S (gA G) s.heap H locs)
    (kk : ∀ (v : Option AV) (M' : MM) (ad' : Nat → Nat) (H1 : Heap) (locs1 : List Loc), Qc v M' → M.1 ≤ M'.1 → AdE M.1 ad ad' → (∀ x, v = some x → vok M'.1 x) → Ww G ad' M' H1 → va_S (gA G) s.heap H1 locs1 → W p G.1 e rm s m args below meth c H1 locs1 (k + mc') (n + ms') Q (F0 m (pc + 3) Ls ((v.map (cv ad')).toList ++ rest))) :
    W p G.1 e rm s m args below meth c H locs k n Q (F0 m pc Ls st0) := by
  intro T hT X
  obtain ⟨v, st₀, t, T', L', h0, X', hL, e1, e2, ⟨⟨v', M', ad', hv, hq, hn, hE, hok, hW⟩, hz, hk⟩, sts⟩ := hr T hT X
  cases hv
  rw [h0] at hz hk
  obtain ⟨t2, a1, b1⟩ := kk v' M' ad' T'.heap (locs ++ L') hq hn hE hok (by rw [e1]; exact hW)
    ⟨Nat.le_trans hS.1 (by rw [e1]; exact hz), fun q h1 h2 => by rw [e1, hk q (Nat.lt_of_lt_of_le h1 hS.1) h2]; exact hS.2.1 q h1 h2, fun q hq => by
      rcases List.mem_append.mp hq with h | h
      · exact hS.2.2 q h
      · exact hL q h⟩ T' rfl X'
  exact ⟨t2, sts t2 a1, b1⟩
theorem cat_le {ad : Nat → Nat} : ∀ {l : List AV}, l.length ≤ 4 → ((l.map (cv ad)).map fun v => v.category).sum ≤ 8 := by
  intro l h
  have : ∀ (l : List AV), ((l.map (cv ad)).map fun v => v.category).sum ≤ 2 * l.length := by
    intro l
    induction l with
    | nil => simp
    | cons a l ih =>
      simp only [List.map_cons, List.sum_cons, List.length_cons]
      have := cv_cat ad a
      split at this <;> omega
  have := this l
  omega
theorem ret_stack {ad ad' : Nat → Nat} (hE : AdE M.1 ad ad') (hs : ∀ v ∈ st, vok M.1 v) (v : Option AV) : (v.map (cv ad')).toList ++ st.map (cv ad) = (v.toList ++ st).map (cv ad') := by
  rw [List.map_append, st_alike hE hs]
  cases v <;> rfl
theorem vok_app {N : Nat} {v : Option AV} (h1 : ∀ x, v = some x → vok N x) (h2 : ∀ x ∈ st, vok N x) : ∀ x ∈ v.toList ++ st, vok N x := by
  intro x hx
  rcases List.mem_append.mp hx with h | h
  · exact h1 x (by simpa using h)
  · exact h2 x h
theorem rev_ok {as : List AV} {stk : List AV} {N : Nat} (hs : stk = as.reverse ++ st) (h : ∀ v ∈ stk, vok N v) : (∀ v ∈ as, vok N v) ∧ ∀ v ∈ st, vok N v := by
  subst hs
  exact ⟨fun v hv => h v (List.mem_append_left _ (List.mem_reverse.mpr hv)), fun v hv => h v (List.mem_append_right _ hv)⟩
/-- a call of an instance method -/
theorem wg_callV {ix ci q np d' mc' ms' : Nat} {I' : MI} {T : u_T} {N : Nat} {as stk : List AV} {Qc : Option AV → MM → Prop} (hd : Dd I.2.1 pc (.invokevirtual ix) 3 pc') (hl : Cond.methodLink I.1.cls ix I'.1 ∈ WS) (hI : CVi I' np) (hC : cls[ci]? = some (I'.1.cls, T, N)) (hci : ci < 10) (hs : stk = as.reverse ++ vR q :: st) (hn : as.length = np) (hst : st.length ≤ 4) (hq : kd q = ci) (hd' : d' + 1 ≤ d) (hk : k + mc' ≤ mc ∧ n + ms' ≤ ms)
    (h : Ok G I' d' mc' ms' (vR q :: as) M Qc) (kk : ∀ (v : Option AV) (M' : MM), Qc v M' → Wg G I XX d mc ms Z pc' L (v.toList ++ st) M' (k + mc') (n + ms')) : Wg G I XX d mc ms Z pc L stk M k n := by
  obtain ⟨hd, rfl⟩ := hd
  obtain ⟨⟨i1, i2, i3, i4⟩, i5, i6⟩ := hI
  intro hL hs0 p e s m args below meth c H locs Ls ad n0 ad0 X hW hS hlv hn0 hE
  obtain ⟨has, hst0⟩ := rev_ok hs hs0
  have hst1 := vok_tl hst0
  obtain ⟨q1, q2⟩ := kd_ok (by omega) (vok_hd hst0)
  have hg := wl_get (G := G) (ad := ad) q1 q2
  rw [ce_obj (by omega), hq] at hg
  have hM := h (vok_cons (vok_hd hst0) has) ad
  have e1 : (vR q :: as).map (cv ad) = Value.ref (ad q) :: as.map (cv ad) := by simp only [List.map_cons, cv, cr_pos q1]
  rw [e1] at hM
  have hin : ∀ w ∈ wsV I.1.cls ix I'.1.cls I'.1 (Cond.code I'.1 I'.2.1 I'.2.2.1 I'.2.2.2 :: WS), w ∈ WS := by
    intro w hw
    unfold wsV at hw
    simp only [List.mem_append, List.mem_cons, List.not_mem_nil, or_false] at hw
    rcases hw with (rfl | rfl | rfl | rfl) | rfl | hw
    · exact hl
    · exact i5
    · exact i6
    · exact i1
    · exact i2
    · exact hw
  have hstk : stk.map (cv ad) = (as.map (cv ad)).reverse ++ Value.ref (ad q) :: st.map (cv ad) := by
    rw [hs, List.map_append, List.map_reverse, List.map_cons]
    simp only [cv, cr_pos q1]
  refine wg_back (mc' := mc') (ms' := ms') (va_runV (As := as.map (cv ad)) (rest := st.map (cv ad)) (nL := I.2.2.1) ⟨X.1, X.2.1, X.2.2.1, X.2.2.2.2.2.1, X.2.2.2.2.2.2.1⟩ hM (cwV np X.2.2.2.2.2.2.1 (ws_in hin) rfl rfl rfl ⟨rfl, i3⟩ ⟨hd', by show 8 + (I'.2.2.1 + 11) + 40 * d' ≤ 40 * d; omega⟩) ⟨pco_blind, va_recv X.2.2.2.2.2.2.2.1 hW.1 hC hg, fun U hU hw => ⟨rfl, pco_at X hW hS hU hw⟩⟩ rfl (by rw [List.length_map]; exact hn) hlv.1 hstk (lv_room (cat_le hst)) hd hk) hS (fun v M' ad' H1 locs1 hQ hn1 hE1 hok hW1 hS1 => ?_)
  rw [ret_stack hE1 hst1]
  exact kk v M' hQ (fun u hu => vok_mono hn1 (hL u hu)) (vok_app hok (fun u hu => vok_mono hn1 (hst1 u hu))) p e s m args below meth c H1 locs1 Ls ad' n0 ad0 X hW1 hS1 (lv_subset hlv (al_alike hE1 hL)) (Nat.le_trans hn0 hn1) (AdE.tr hn0 hE hE1)
/-- a call of a static method -/
theorem wg_callS {ix np d' mc' ms' : Nat} {I' : MI} {as stk : List AV} {Qc : Option AV → MM → Prop} (hd : Dd I.2.1 pc (.invokestatic ix) 3 pc') (hl : Cond.methodLink I.1.cls ix I'.1 ∈ WS) (hI : CSt I' np) (hs : stk = as.reverse ++ st) (hn : as.length = np) (hst : st.length ≤ 4) (hd' : d' + 1 ≤ d) (hk : k + mc' ≤ mc ∧ n + ms' ≤ ms)
    (h : Ok G I' d' mc' ms' as M Qc) (kk : ∀ (v : Option AV) (M' : MM), Qc v M' → Wg G I XX d mc ms Z pc' L (v.toList ++ st) M' (k + mc') (n + ms')) : Wg G I XX d mc ms Z pc L stk M k n := by
  obtain ⟨hd, rfl⟩ := hd
  obtain ⟨⟨i1, i2, i3, i4⟩, i5⟩ := hI
  intro hL hs0 p e s m args below meth c H locs Ls ad n0 ad0 X hW hS hlv hn0 hE
  obtain ⟨has, hst1⟩ := rev_ok hs hs0
  have hM := h has ad
  have hin : ∀ w ∈ va_wsS I.1.cls ix I'.1 (Cond.code I'.1 I'.2.1 I'.2.2.1 I'.2.2.2 :: WS), w ∈ WS := by
    intro w hw
    unfold va_wsS at hw
    simp only [List.mem_append, List.mem_cons, List.not_mem_nil, or_false] at hw
    rcases hw with (rfl | rfl | rfl) | rfl | hw
    · exact hl
    · exact i5
    · exact i1
    · exact i2
    · exact hw
  have hstk : stk.map (cv ad) = (as.map (cv ad)).reverse ++ st.map (cv ad) := by
    rw [hs, List.map_append, List.map_reverse]
  refine wg_back (mc' := mc') (ms' := ms') (va_runS (As := as.map (cv ad)) (rest := st.map (cv ad)) (nL := I.2.2.1) ⟨X.1, X.2.1, X.2.2.1, X.2.2.2.2.2.1, X.2.2.2.2.2.2.1⟩ hM (va_cwS np X.2.2.2.2.2.2.1 (ws_in hin) rfl rfl rfl i3 ⟨hd', by show 8 + (I'.2.2.1 + 11) + 40 * d' ≤ 40 * d; omega⟩) ⟨pco_blind, fun U hU hw => ⟨rfl, pco_at X hW hS hU hw⟩⟩ rfl (by rw [List.length_map]; exact hn) hlv.1 hstk (lv_room (cat_le hst)) hd hk) hS (fun v M' ad' H1 locs1 hQ hn1 hE1 hok hW1 hS1 => ?_)
  rw [ret_stack hE1 hst1]
  exact kk v M' hQ (fun u hu => vok_mono hn1 (hL u hu)) (vok_app hok (fun u hu => vok_mono hn1 (hst1 u hu))) p e s m args below meth c H1 locs1 Ls ad' n0 ad0 X hW1 hS1 (lv_subset hlv (al_alike hE1 hL)) (Nat.le_trans hn0 hn1) (AdE.tr hn0 hE hE1)
/-- a call of a nest mate's private static method -/
theorem wg_callSN {ix np d' mc' ms' : Nat} {host : String} {I' : MI} {as stk : List AV} {Qc : Option AV → MM → Prop} (hd : Dd I.2.1 pc (.invokestatic ix) 3 pc') (hlw : (I.1.cls, ix, I'.1, host) ∈ NWL) (hI : CSt I' np) (hs : stk = as.reverse ++ st) (hn : as.length = np) (hst : st.length ≤ 4) (hd' : d' + 1 ≤ d) (hk : k + mc' ≤ mc ∧ n + ms' ≤ ms)
    (h : Ok G I' d' mc' ms' as M Qc) (kk : ∀ (v : Option AV) (M' : MM), Qc v M' → Wg G I XX d mc ms Z pc' L (v.toList ++ st) M' (k + mc') (n + ms')) : Wg G I XX d mc ms Z pc L stk M k n := by
  obtain ⟨hd, rfl⟩ := hd
  obtain ⟨⟨i1, i2, i3, i4⟩, i5⟩ := hI
  intro hL hs0 p e s m args below meth c H locs Ls ad n0 ad0 X hW hS hlv hn0 hE
  obtain ⟨has, hst1⟩ := rev_ok hs hs0
  have hM := h has ad
  have hin : ∀ w ∈ (Cond.code I'.1 I'.2.1 I'.2.2.1 I'.2.2.2 :: WS), w ∈ WS := fun w hw => (List.mem_cons.mp hw).elim (fun e => by rw [e]; exact i2) id
  have hstk : stk.map (cv ad) = (as.map (cv ad)).reverse ++ st.map (cv ad) := by
    rw [hs, List.map_append, List.map_reverse]
  have hts := X.2.2.2.2.2.2.1
  refine wg_back (mc' := mc') (ms' := ms') (va_runSN (As := as.map (cv ad)) (rest := st.map (cv ad)) (nL := I.2.2.1) (host := host) ⟨X.1, X.2.1, X.2.2.1, X.2.2.2.2.2.1, X.2.2.2.2.2.2.1⟩ hM ⟨va_cnB np hts (ws_in hin) rfl rfl rfl (X.2.2.2.2.2.2.2.2.2.2.1.2.2.1 _ hlw) (hts _ i1) i3 ⟨hd', by show 8 + (I'.2.2.1 + 11) + 40 * d' ≤ 40 * d; omega⟩, hts _ i5, trivial⟩ ⟨pco_blind, fun U hU hw => ⟨rfl, pco_at X hW hS hU hw⟩⟩ rfl (by rw [List.length_map]; exact hn) hlv.1 hstk (lv_room (cat_le hst)) hd hk) hS (fun v M' ad' H1 locs1 hQ hn1 hE1 hok hW1 hS1 => ?_)
  rw [ret_stack hE1 hst1]
  exact kk v M' hQ (fun u hu => vok_mono hn1 (hL u hu)) (vok_app hok (fun u hu => vok_mono hn1 (hst1 u hu))) p e s m args below meth c H1 locs1 Ls ad' n0 ad0 X hW1 hS1 (lv_subset hlv (al_alike hE1 hL)) (Nat.le_trans hn0 hn1) (AdE.tr hn0 hE hE1)
/-- a call of a constructor -/
theorem wg_callI {ix q np d' mc' ms' : Nat} {I' : MI} {as stk : List AV} {Qc : Option AV → MM → Prop} (hd : Dd I.2.1 pc (.invokespecial ix) 3 pc') (hl : Cond.methodLink I.1.cls ix I'.1 ∈ WS) (hI : CCo I' np) (hr : I'.2.2.2 = none) (hs : stk = as.reverse ++ vR q :: st) (hn : as.length = np) (hst : st.length ≤ 4) (hq : kd q < 10) (hd' : d' + 1 ≤ d) (hk : k + mc' ≤ mc ∧ n + ms' ≤ ms)
    (h : Ok G I' d' mc' ms' (vR q :: as) M Qc) (kk : ∀ (v : Option AV) (M' : MM), Qc v M' → Wg G I XX d mc ms Z pc' L (v.toList ++ st) M' (k + mc') (n + ms')) : Wg G I XX d mc ms Z pc L stk M k n := by
  obtain ⟨hd, rfl⟩ := hd
  obtain ⟨⟨i1, i2, i3, i4⟩, i5, i6⟩ := hI
  intro hL hs0 p e s m args below meth c H locs Ls ad n0 ad0 X hW hS hlv hn0 hE
  obtain ⟨has, hst0⟩ := rev_ok hs hs0
  have hst1 := vok_tl hst0
  obtain ⟨q1, q2⟩ := kd_ok (by omega) (vok_hd hst0)
  have hM := h (vok_cons (vok_hd hst0) has) ad
  have e1 : (vR q :: as).map (cv ad) = Value.ref (ad q) :: as.map (cv ad) := by simp only [List.map_cons, cv, cr_pos q1]
  rw [e1] at hM
  have hin : ∀ w ∈ (Cond.code I'.1 I'.2.1 I'.2.2.1 none :: WS), w ∈ WS := fun w hw => (List.mem_cons.mp hw).elim (fun e => by rw [e, ← hr]; exact i2) id
  have hstk : stk.map (cv ad) = (as.map (cv ad)).reverse ++ Value.ref (ad q) :: st.map (cv ad) := by
    rw [hs, List.map_append, List.map_reverse, List.map_cons]
    simp only [cv, cr_pos q1]
  have hts := X.2.2.2.2.2.2.1
  rw [hr] at hM
  refine wg_back (mc' := mc') (ms' := ms') (va_runI (As := as.map (cv ad)) (rest := st.map (cv ad)) (nL := I.2.2.1) ⟨X.1, X.2.1, X.2.2.1, X.2.2.2.2.2.1, X.2.2.2.2.2.2.1⟩ hM ⟨callB_of np hts (ws_in hin) rfl rfl rfl (hts _ i1) (hts _ hl) i3 ⟨hd', by show 8 + (I'.2.2.1 + 11) + 40 * d' ≤ 40 * d; omega⟩, i6, hts _ i5⟩ ⟨pco_blind, fun U hU hw => ⟨rfl, pco_at X hW hS hU hw⟩⟩ rfl (by rw [List.length_map]; exact hn) hlv.1 hstk (lv_room (cat_le hst)) hd hk) hS (fun v M' ad' H1 locs1 hQ hn1 hE1 hok hW1 hS1 => ?_)
  rw [ret_stack hE1 hst1]
  exact kk v M' hQ (fun u hu => vok_mono hn1 (hL u hu)) (vok_app hok (fun u hu => vok_mono hn1 (hst1 u hu))) p e s m args below meth c H1 locs1 Ls ad' n0 ad0 X hW1 hS1 (lv_subset hlv (al_alike hE1 hL)) (Nat.le_trans hn0 hn1) (AdE.tr hn0 hE hE1)
/-- a call of a nest mate's private constructor -/
theorem wg_callIN {ix q np d' mc' ms' : Nat} {host : String} {I' : MI} {as stk : List AV} {Qc : Option AV → MM → Prop} (hd : Dd I.2.1 pc (.invokespecial ix) 3 pc') (hlw : (I.1.cls, ix, I'.1, host) ∈ NWL) (hI : CCo I' np) (hr : I'.2.2.2 = none) (hs : stk = as.reverse ++ vR q :: st) (hn : as.length = np) (hst : st.length ≤ 4) (hq : kd q < 10) (hd' : d' + 1 ≤ d) (hk : k + mc' ≤ mc ∧ n + ms' ≤ ms)
    (h : Ok G I' d' mc' ms' (vR q :: as) M Qc) (kk : ∀ (v : Option AV) (M' : MM), Qc v M' → Wg G I XX d mc ms Z pc' L (v.toList ++ st) M' (k + mc') (n + ms')) : Wg G I XX d mc ms Z pc L stk M k n := by
  obtain ⟨hd, rfl⟩ := hd
  obtain ⟨⟨i1, i2, i3, i4⟩, i5, i6⟩ := hI
  intro hL hs0 p e s m args below meth c H locs Ls ad n0 ad0 X hW hS hlv hn0 hE
  obtain ⟨has, hst0⟩ := rev_ok hs hs0
  have hst1 := vok_tl hst0
  obtain ⟨q1, q2⟩ := kd_ok (by omega) (vok_hd hst0)
  have hM := h (vok_cons (vok_hd hst0) has) ad
  have e1 : (vR q :: as).map (cv ad) = Value.ref (ad q) :: as.map (cv ad) := by simp only [List.map_cons, cv, cr_pos q1]
  rw [e1] at hM
  have hin : ∀ w ∈ (Cond.code I'.1 I'.2.1 I'.2.2.1 none :: WS), w ∈ WS := fun w hw => (List.mem_cons.mp hw).elim (fun e => by rw [e, ← hr]; exact i2) id
  have hstk : stk.map (cv ad) = (as.map (cv ad)).reverse ++ Value.ref (ad q) :: st.map (cv ad) := by
    rw [hs, List.map_append, List.map_reverse, List.map_cons]
    simp only [cv, cr_pos q1]
  have hts := X.2.2.2.2.2.2.1
  rw [hr] at hM
  refine wg_back (mc' := mc') (ms' := ms') (va_runIN (As := as.map (cv ad)) (rest := st.map (cv ad)) (nL := I.2.2.1) (host := host) ⟨X.1, X.2.1, X.2.2.1, X.2.2.2.2.2.1, X.2.2.2.2.2.2.1⟩ hM ⟨va_cnB np hts (ws_in hin) rfl rfl rfl (X.2.2.2.2.2.2.2.2.2.2.1.2.2.1 _ hlw) (hts _ i1) i3 ⟨hd', by show 8 + (I'.2.2.1 + 11) + 40 * d' ≤ 40 * d; omega⟩, i6, hts _ i5⟩ ⟨pco_blind, fun U hU hw => ⟨rfl, pco_at X hW hS hU hw⟩⟩ rfl (by rw [List.length_map]; exact hn) hlv.1 hstk (lv_room (cat_le hst)) hd hk) hS (fun v M' ad' H1 locs1 hQ hn1 hE1 hok hW1 hS1 => ?_)
  rw [ret_stack hE1 hst1]
  exact kk v M' hQ (fun u hu => vok_mono hn1 (hL u hu)) (vok_app hok (fun u hu => vok_mono hn1 (hst1 u hu))) p e s m args below meth c H1 locs1 Ls ad' n0 ad0 X hW1 hS1 (lv_subset hlv (al_alike hE1 hL)) (Nat.le_trans hn0 hn1) (AdE.tr hn0 hE hE1)
theorem wg_objInit {ix q : Nat} (hd : Dd I.2.1 pc (.invokespecial ix) 3 pc') (hl : Cond.methodLink I.1.cls ix Lib.objectInit ∈ WS) (hi : Cond.instanceMethod Lib.objectInit ∈ WS) (hc : Cond.code Lib.objectInit ⟨#[0xb1]⟩ 1 none ∈ WS) (hq : kd q < 10) (hst : st.length ≤ 4) (hd' : 1 ≤ d) (kk : Wg G I XX d mc ms Z pc' L st M k n) : Wg G I XX d mc ms Z pc L (vR q :: st) M k n := by
  obtain ⟨hd, rfl⟩ := hd
  intro hL hs p e s m args below meth c H locs Ls ad n0 ad0 X hW hS hlv hn0 hE
  obtain ⟨q1, q2⟩ := kd_ok (by omega) (vok_hd hs)
  have hts := X.2.2.2.2.2.2.1
  simp only [List.map_cons, cv, cr_pos q1]
  have hcat := cat_le (ad := ad) hst
  refine W.objInit X.1 X.2.1 X.2.2.2.2.2.1 (hts _ hl) (hts _ hi) (hts _ hc) rfl (by show Ls.size = _; rw [hlv.1, X.2.2.1]) rfl hd hd' (by show 2 * 0 + _ + 12 ≤ 40 * d; omega) ?_
  exact kk hL (vok_tl hs) p e s m args below meth c H locs Ls ad n0 ad0 X hW hS hlv hn0 hE
theorem wg_mmax {ix : Nat} {x y : Int} (hd : Dd I.2.1 pc (.invokestatic ix) 3 pc') (hl : Cond.methodLink I.1.cls ix Lib.Math.max.name ∈ WS) (h2 : Cond.static Lib.Math.max.name ∈ WS) (h3 : Cond.initialized "java/lang/Math" ∈ WS) (h4 : Cond.code Lib.Math.max.name Lib.Math.max.code 2 (some .int) ∈ WS) (hst : st.length ≤ 4) (hd' : 1 ≤ d) (hk : k ≤ mc ∧ n ≤ ms) (kk : Wg G I XX d mc ms Z pc' L (vI (if x < y then y else x) :: st) M k n) : Wg G I XX d mc ms Z pc L (vI y :: vI x :: st) M k n := by
  obtain ⟨hd, rfl⟩ := hd
  refine wg_stk (fun hL hs h32 _ => vcI (by split; exact vok_hd hs; exact vok_hd (vok_tl hs)) (vok_tl (vok_tl hs))) (fun p e s m args below meth c H locs Ls ad Q X hW hS hh hs z => ?_) kk
  have hts := X.2.2.2.2.2.2.1
  have hcat := cat_le (ad := ad) hst
  have hy : R32 y := vok_hd hs
  have hx : R32 x := vok_hd (vok_tl hs)
  refine va_mmax X.1 X.2.1 (by rw [hh.1, X.2.2.1]) X.2.2.2.2.2.1 (hts _ hl) (hts _ h2) (hts _ h3) (hts _ h4) hd' (by show _ + 13 ≤ 40 * d; omega) hk.1 hk.2 hd ?_
  have e1 : (if Int32.ofInt x < Int32.ofInt y then Int32.ofInt y else Int32.ofInt x) = Int32.ofInt (if x < y then y else x) := by
    simp only [o32_lt hx hy]
    split <;> rfl
  rw [e1]
  exact z
theorem wg_mmin {ix : Nat} {x y : Int} (hd : Dd I.2.1 pc (.invokestatic ix) 3 pc') (hl : Cond.methodLink I.1.cls ix Lib.Math.min.name ∈ WS) (h2 : Cond.static Lib.Math.min.name ∈ WS) (h3 : Cond.initialized "java/lang/Math" ∈ WS) (h4 : Cond.code Lib.Math.min.name Lib.Math.min.code 2 (some .int) ∈ WS) (hst : st.length ≤ 4) (hd' : 1 ≤ d) (hk : k ≤ mc ∧ n ≤ ms) (kk : Wg G I XX d mc ms Z pc' L (vI (if y < x then y else x) :: st) M k n) : Wg G I XX d mc ms Z pc L (vI y :: vI x :: st) M k n := by
  obtain ⟨hd, rfl⟩ := hd
  refine wg_stk (fun hL hs h32 _ => vcI (by split; exact vok_hd hs; exact vok_hd (vok_tl hs)) (vok_tl (vok_tl hs))) (fun p e s m args below meth c H locs Ls ad Q X hW hS hh hs z => ?_) kk
  have hts := X.2.2.2.2.2.2.1
  have hcat := cat_le (ad := ad) hst
  have hy : R32 y := vok_hd hs
  have hx : R32 x := vok_hd (vok_tl hs)
  refine va_mmin X.1 X.2.1 (by rw [hh.1, X.2.2.1]) X.2.2.2.2.2.1 (hts _ hl) (hts _ h2) (hts _ h3) (hts _ h4) hd' (by show _ + 13 ≤ 40 * d; omega) hk.1 hk.2 hd ?_
  have e1 : (if Int32.ofInt y < Int32.ofInt x then Int32.ofInt y else Int32.ofInt x) = Int32.ofInt (if y < x then y else x) := by
    simp only [o32_lt hy hx]
    split <;> rfl
  rw [e1]
  exact z
theorem wg_mmaxL {ix : Nat} {x y : Int} (hd : Dd I.2.1 pc (.invokestatic ix) 3 pc') (hl : Cond.methodLink I.1.cls ix Lib.MathLoose.max_long.x ∈ WS) (h2 : Cond.static Lib.MathLoose.max_long.x ∈ WS) (h3 : Cond.initialized "java/lang/Math" ∈ WS) (h4 : Cond.code Lib.MathLoose.max_long.x Lib.MathLoose.max_long.code 4 (some .long) ∈ WS) (hst : st.length ≤ 4) (hd' : 1 ≤ d) (hk : k ≤ mc ∧ n ≤ ms) (kk : Wg G I XX d mc ms Z pc' L (vL (if y < x then x else y) :: st) M k n) : Wg G I XX d mc ms Z pc L (vL y :: vL x :: st) M k n := by
  obtain ⟨hd, rfl⟩ := hd
  refine wg_stk (fun hL hs h32 _ => vcL (by split; exact vok_hd (vok_tl hs); exact vok_hd hs) (vok_tl (vok_tl hs))) (fun p e s m args below meth c H locs Ls ad Q X hW hS hh hs z => ?_) kk
  have hts := X.2.2.2.2.2.2.1
  have hcat := cat_le (ad := ad) hst
  have hy : R64 y := vok_hd hs
  have hx : R64 x := vok_hd (vok_tl hs)
  refine va_mmax_long X.1 X.2.1 (by rw [hh.1, X.2.2.1]) X.2.2.2.2.2.1 (hts _ hl) (hts _ h2) (hts _ h3) (hts _ h4) hd' (by show _ + 15 ≤ 40 * d; omega) hk.1 hk.2 hd ?_
  have e1 : (if Int64.ofInt y < Int64.ofInt x then Int64.ofInt x else Int64.ofInt y) = Int64.ofInt (if y < x then x else y) := by
    simp only [o64_lt hy hx]
    split <;> rfl
  rw [e1]
  exact z
-- new cells
def adN (ad : Nat → Nat) (q a : Nat) : Nat → Nat := fun j => if j = q then a else ad j
theorem adN_E {ad : Nat → Nat} {a : Nat} (h : M.1 < 700) (hk : kd (M.1 + 1) ≤ 12) : AdE M.1 ad (adN ad (M.1 + 1) a) := by
  have := (kd_in hk).2
  intro q hq
  unfold adN
  rw [if_neg (by omega)]
theorem ce_ext {cy : Nat → ClassId} {ad ad' : Nat → Nat} {M' : MM} {q : Nat} (h0 : AdE M.1 ad ad') (hr : ∀ p k, M.2.2 p k ≤ M.1) (h1 : ∀ j, M'.2.1 q j = M.2.1 q j) (h2 : ∀ j, M'.2.2 q j = M.2.2 q j) : ce cy ad' M' q = ce cy ad M q := by
  have e : ∀ j, ad' (M.2.2 q j) = ad (M.2.2 q j) := fun j => h0 _ (Or.inl (hr q j))
  unfold ce cr
  simp only [h1, h2, e]
theorem ww_new {ad : Nat → Nat} {H H1 : Heap} {a : Nat} {E : va_E} (hW : Ww G ad M H) (hk : kd (M.1 + 1) ≤ 12) (hE : ce G.2.2.1 (adN ad (M.1 + 1) a) (stN M) (M.1 + 1) = E)
    (hP : va_P G.2.1 cls (wl G ad M ++ [(a, E)]) H1) (hD : va_D (gA G) (wl G ad M ++ [(a, E)])) : Ww G (adN ad (M.1 + 1) a) (stN M) H1 := by
  have hle := (kd_in hk).2
  have hAd : AdE M.1 ad (adN ad (M.1 + 1) a) := adN_E hW.2.2.2.2.2 hk
  have e : wl G (adN ad (M.1 + 1) a) (stN M) = wl G ad M ++ [(a, E)] := by
    unfold wl
    show (List.range (M.1 + 1)).map _ = _
    rw [List.range_succ, List.map_append]
    congr 1
    · refine List.map_congr_left fun i hi => ?_
      have hi : i < M.1 := List.mem_range.mp hi
      have e1 : adN ad (M.1 + 1) a (i + 1) = ad (i + 1) := hAd _ (Or.inl (by omega))
      rw [e1, ce_ext (cy := G.2.2.1) hAd hW.2.2.2.1 (q := i + 1) (fun j => by show (if i + 1 = M.1 + 1 then _ else _) = _; rw [if_neg (by omega)]) (fun j => by show (if i + 1 = M.1 + 1 then _ else _) = _; rw [if_neg (by omega)])]
    · simp only [List.map_cons, List.map_nil]
      rw [hE]
      unfold adN
      rw [if_pos rfl]
  rw [← e] at hP hD
  refine ⟨hP, hD, fun p j => ?_, fun p j => ?_, fun q hq => ?_, by show M.1 + 1 < 700; omega⟩
  · show R32 (if p = M.1 + 1 then 0 else M.2.1 p j)
    split
    · exact z32
    · exact hW.2.2.1 p j
  · show (if p = M.1 + 1 then 0 else M.2.2 p j) ≤ M.1 + 1
    split
    · exact Nat.zero_le _
    · exact Nat.le_succ_of_le (hW.2.2.2.1 p j)
  · rw [hAd q (Or.inr hq)]
    exact hW.2.2.2.2.1 q hq
theorem wg_new {ix ci N : Nat} (hd : Dd I.2.1 pc (.new ix) 3 pc') (hw : NW I ix ci N) (hq : kd (M.1 + 1) = ci) (hk : k + 1 ≤ mc ∧ n + N ≤ ms) (kk : Wg G I XX d mc ms Z pc' L (vR (M.1 + 1) :: st) (stN M) (k + 1) (n + N)) : Wg G I XX d mc ms Z pc L st M k n := by
  obtain ⟨hd, rfl⟩ := hd
  obtain ⟨C, T, f1, f2, f3, f4, f5, f6, f7, f8, f9⟩ := hw
  intro hL hs p e s m args below meth c H locs Ls ad n0 ad0 X hW hS hlv hn0 hE
  have hts := X.2.2.2.2.2.2.1
  refine va_new (fs := (List.range N).map (fun j => if isr ci j then .null else .int 0)) X.1 X.2.1 hts f6 (tyc ci) f7 X.2.2.2.2.2.1 (hts _ f3) (hts _ f4) (hts _ f5) X.2.2.2.2.2.2.2.1 hW.1 hW.2.1 hS (fun q h => Nat.le_trans X.2.2.2.2.2.2.2.2.1 h) f1 (fun j hj => ?_) hk.1 hk.2 hd (fun a H1 hP1 hD1 hS1 => ?_)
  · show _ = ((List.range N).map (fun j => if isr ci j then Value.null else Value.int 0)).getD j Value.null
    rw [List.getD_eq_getElem?_getD, List.getElem?_map, List.getElem?_range hj]
    have h8 := f8 j hj
    show defaultValue (tyc ci j) = if isr ci j then .null else .int 0
    unfold isr
    cases h9 : tyc ci j <;> rw [h9] at h8 <;> first | rfl | (simp [okty] at h8)
  · have hAd : AdE M.1 ad (adN ad (M.1 + 1) a) := adN_E hW.2.2.2.2.2 (by omega)
    have e1 : cv (adN ad (M.1 + 1) a) (vR (M.1 + 1)) = .ref a := by
      show cr _ _ = _
      rw [cr_pos (by omega)]
      unfold adN
      rw [if_pos rfl]
    rw [← e1, ← st_alike hAd hs]
    have hvr : ∀ v ∈ vR (M.1 + 1) :: st, vok (stN M).1 v := vcR (Or.inl (Nat.le_refl _)) (fun v hv => vok_mono (Nat.le_succ _) (hs v hv))
    refine kk (fun v hv => vok_mono (Nat.le_succ _) (hL v hv)) hvr p e s m args below meth c H1 locs Ls (adN ad (M.1 + 1) a) n0 ad0 X (ww_new hW (by omega) ?_ hP1 hD1) hS1 (lv_subset hlv (al_alike hAd hL)) (Nat.le_succ_of_le hn0) (AdE.tr hn0 hE hAd)
    rw [ce_obj (by omega), hq]
    congr 2
    unfold fsl
    rw [hq, f2]
    refine List.map_congr_left fun j _ => ?_
    have e2 : (stN M).2.1 (M.1 + 1) j = 0 := by show (if M.1 + 1 = M.1 + 1 then _ else _) = _; rw [if_pos rfl]
    have e3 : (stN M).2.2 (M.1 + 1) j = 0 := by show (if M.1 + 1 = M.1 + 1 then _ else _) = _; rw [if_pos rfl]
    rw [e2, e3]
    rfl
theorem wg_newI {N : Nat} {i : Int} (hd : Dd I.2.1 pc (.newarray .int) 2 pc') (hw : Cond.arrayClass .int ∈ WS) (hq : kd (M.1 + 1) = 10) (hi : i = (N : Int)) (hN : ln (M.1 + 1) = N) (hk : k + 1 ≤ mc ∧ n + N ≤ ms) (kk : Wg G I XX d mc ms Z pc' L (vR (M.1 + 1) :: st) (stN M) (k + 1) (n + N)) : Wg G I XX d mc ms Z pc L (vI i :: st) M k n := by
  obtain ⟨hd, rfl⟩ := hd
  subst hi
  intro hL hs0 p e s m args below meth c H locs Ls ad n0 ad0 X hW hS hlv hn0 hE
  have hs := vok_tl hs0
  have hts := X.2.2.2.2.2.2.1
  have hN2 := ln_le (M.1 + 1)
  have e0 : (Int32.ofInt (N : Int)).toInt = N := o32_t ⟨by omega, by omega⟩
  have hnn : ¬ Int32.ofInt (N : Int) < 0 := by
    rw [Int32.lt_iff_toInt_lt, e0, Int32.toInt_zero]
    omega
  have hcl : (Int32.ofInt (N : Int)).toNatClampNeg = N := by
    show (Int32.ofInt (N : Int)).toInt.toNat = N
    rw [e0]
    omega
  refine va_newa (a0 := (N, .inl (fun _ => 0))) (atype := .int) X.1 X.2.1 (hts _ hw) rfl X.2.2.2.2.2.2.2.1 hW.1 hW.2.1 hS (fun q h => Nat.le_trans X.2.2.2.2.2.2.2.2.1 h) (fun cA => rfl) hnn hcl (by show N * 4 ≤ 536870912; omega) hk.1 hk.2 hd (fun a cA H1 hK1 hP1 hD1 hS1 => ?_)
  have hc : cA = G.2.2.1 10 := by
    have h1 := (hK1.2 3 (cA, .int) rfl).2
    have h2 := (hK1.2 0 (G.2.2.1 10, .int) rfl).2
    exact Option.some.inj ((va_nm_int h1).symm.trans (va_nm_int h2))
  subst hc
  have hAd : AdE M.1 ad (adN ad (M.1 + 1) a) := adN_E hW.2.2.2.2.2 (by omega)
  have e1 : cv (adN ad (M.1 + 1) a) (vR (M.1 + 1)) = .ref a := by
    show cr _ _ = _
    rw [cr_pos (by omega)]
    unfold adN
    rw [if_pos rfl]
  rw [← e1, ← st_alike hAd hs]
  have hvr : ∀ v ∈ vR (M.1 + 1) :: st, vok (stN M).1 v := vcR (Or.inl (Nat.le_refl _)) (fun v hv => vok_mono (Nat.le_succ _) (hs v hv))
  refine kk (fun v hv => vok_mono (Nat.le_succ _) (hL v hv)) hvr p e s m args below meth c H1 locs Ls (adN ad (M.1 + 1) a) n0 ad0 X (ww_new hW (by omega) ?_ hP1 hD1) hS1 (lv_subset hlv (al_alike hAd hL)) (Nat.le_succ_of_le hn0) (AdE.tr hn0 hE hAd)
  rw [ce_int hq, hN]
  congr 4
  funext j
  have e2 : (stN M).2.1 (M.1 + 1) j = 0 := by show (if M.1 + 1 = M.1 + 1 then _ else _) = _; rw [if_pos rfl]
  rw [e2]
  rfl
theorem wg_newZ {N : Nat} {i : Int} (hd : Dd I.2.1 pc (.newarray .boolean) 2 pc') (hw : Cond.arrayClass .boolean ∈ WS) (hq : kd (M.1 + 1) = 11) (hi : i = (N : Int)) (hN : ln (M.1 + 1) = N) (hk : k + 1 ≤ mc ∧ n + N ≤ ms) (kk : Wg G I XX d mc ms Z pc' L (vR (M.1 + 1) :: st) (stN M) (k + 1) (n + N)) : Wg G I XX d mc ms Z pc L (vI i :: st) M k n := by
  obtain ⟨hd, rfl⟩ := hd
  subst hi
  intro hL hs0 p e s m args below meth c H locs Ls ad n0 ad0 X hW hS hlv hn0 hE
  have hs := vok_tl hs0
  have hts := X.2.2.2.2.2.2.1
  have hN2 := ln_le (M.1 + 1)
  have e0 : (Int32.ofInt (N : Int)).toInt = N := o32_t ⟨by omega, by omega⟩
  have hnn : ¬ Int32.ofInt (N : Int) < 0 := by
    rw [Int32.lt_iff_toInt_lt, e0, Int32.toInt_zero]
    omega
  have hcl : (Int32.ofInt (N : Int)).toNatClampNeg = N := by
    show (Int32.ofInt (N : Int)).toInt.toNat = N
    rw [e0]
    omega
  refine va_newa (a0 := (N, .inl (fun _ => 0))) (atype := .boolean) X.1 X.2.1 (hts _ hw) rfl X.2.2.2.2.2.2.2.1 hW.1 hW.2.1 hS (fun q h => Nat.le_trans X.2.2.2.2.2.2.2.2.1 h) (fun cA => rfl) hnn hcl (by show N * 1 ≤ 536870912; omega) hk.1 hk.2 hd (fun a cA H1 hK1 hP1 hD1 hS1 => ?_)
  have hc : cA = G.2.2.1 11 := by
    have h1 := (hK1.2 3 (cA, .boolean) rfl).2
    have h2 := (hK1.2 1 (G.2.2.1 11, .boolean) rfl).2
    exact Option.some.inj ((va_nm_boolean h1).symm.trans (va_nm_boolean h2))
  subst hc
  have hAd : AdE M.1 ad (adN ad (M.1 + 1) a) := adN_E hW.2.2.2.2.2 (by omega)
  have e1 : cv (adN ad (M.1 + 1) a) (vR (M.1 + 1)) = .ref a := by
    show cr _ _ = _
    rw [cr_pos (by omega)]
    unfold adN
    rw [if_pos rfl]
  rw [← e1, ← st_alike hAd hs]
  have hvr : ∀ v ∈ vR (M.1 + 1) :: st, vok (stN M).1 v := vcR (Or.inl (Nat.le_refl _)) (fun v hv => vok_mono (Nat.le_succ _) (hs v hv))
  refine kk (fun v hv => vok_mono (Nat.le_succ _) (hL v hv)) hvr p e s m args below meth c H1 locs Ls (adN ad (M.1 + 1) a) n0 ad0 X (ww_new hW (by omega) ?_ hP1 hD1) hS1 (lv_subset hlv (al_alike hAd hL)) (Nat.le_succ_of_le hn0) (AdE.tr hn0 hE hAd)
  rw [ce_bool hq, hN]
  congr 4
  funext j
  have e2 : (stN M).2.1 (M.1 + 1) j = 0 := by show (if M.1 + 1 = M.1 + 1 then _ else _) = _; rw [if_pos rfl]
  rw [e2]
  rfl
theorem wg_newQ {ix N : Nat} {i : Int} (hd : Dd I.2.1 pc (.anewarray ix) 3 pc') (hw : Cond.classLink I.1.cls ix RX5 ∈ WS) (hq : kd (M.1 + 1) = 12) (hi : i = (N : Int)) (hN : ln (M.1 + 1) = N) (hk : k + 1 ≤ mc ∧ n + N ≤ ms) (kk : Wg G I XX d mc ms Z pc' L (vR (M.1 + 1) :: st) (stN M) (k + 1) (n + N)) : Wg G I XX d mc ms Z pc L (vI i :: st) M k n := by
  obtain ⟨hd, rfl⟩ := hd
  subst hi
  intro hL hs0 p e s m args below meth c H locs Ls ad n0 ad0 X hW hS hlv hn0 hE
  have hs := vok_tl hs0
  have hts := X.2.2.2.2.2.2.1
  have hN2 := ln_le (M.1 + 1)
  have e0 : (Int32.ofInt (N : Int)).toInt = N := o32_t ⟨by omega, by omega⟩
  have hnn : ¬ Int32.ofInt (N : Int) < 0 := by
    rw [Int32.lt_iff_toInt_lt, e0, Int32.toInt_zero]
    omega
  have hcl : (Int32.ofInt (N : Int)).toNatClampNeg = N := by
    show (Int32.ofInt (N : Int)).toInt.toNat = N
    rw [e0]
    omega
  refine va_newq X.1 X.2.1 X.2.2.2.2.2.1 (hts _ hw) X.2.2.2.2.2.2.2.2.2.2.1.2.2.2.1 X.2.2.2.2.2.2.2.1 hW.1 hW.2.1 hS (fun q h => Nat.le_trans X.2.2.2.2.2.2.2.2.1 h) hnn hcl (by show N * 4 ≤ 536870912; omega) hk.1 hk.2 hd (fun a cA H1 hK1 hP1 hD1 hS1 => ?_)
  have hc : cA = G.2.2.1 12 := by
    obtain ⟨-, -, -, -, -, h1⟩ := (hK1.2 3 (cA, .object RX5) rfl).2
    obtain ⟨-, -, -, -, -, h2⟩ := (hK1.2 2 (G.2.2.1 12, .object RX5) rfl).2
    exact Option.some.inj (h1.symm.trans h2)
  subst hc
  have hAd : AdE M.1 ad (adN ad (M.1 + 1) a) := adN_E hW.2.2.2.2.2 (by omega)
  have e1 : cv (adN ad (M.1 + 1) a) (vR (M.1 + 1)) = .ref a := by
    show cr _ _ = _
    rw [cr_pos (by omega)]
    unfold adN
    rw [if_pos rfl]
  rw [← e1, ← st_alike hAd hs]
  have hvr : ∀ v ∈ vR (M.1 + 1) :: st, vok (stN M).1 v := vcR (Or.inl (Nat.le_refl _)) (fun v hv => vok_mono (Nat.le_succ _) (hs v hv))
  refine kk (fun v hv => vok_mono (Nat.le_succ _) (hL v hv)) hvr p e s m args below meth c H1 locs Ls (adN ad (M.1 + 1) a) n0 ad0 X (ww_new hW (by omega) ?_ hP1 hD1) hS1 (lv_subset hlv (al_alike hAd hL)) (Nat.le_succ_of_le hn0) (AdE.tr hn0 hE hAd)
  rw [ce_ref hq, hN]
  congr 7
  funext j
  have e2 : (stN M).2.2 (M.1 + 1) j = 0 := by show (if M.1 + 1 = M.1 + 1 then _ else _) = _; rw [if_pos rfl]
  rw [e2, if_pos rfl]
end WC
section WE
variable {G : GG} {I : MI} {d mc ms : Nat} {pc pc' : Nat} {L : List (Option AV)} {st : List AV} {M : MM} {k n : Nat} {Q : Option AV → MM → Prop}
theorem qco_end {p : Program} {s : State} {m : MethodId} {args : Array Value} {meth : Method} {c : Code} {H : Heap} {locs : List Loc} {ad ad0 : Nat → Nat} {n0 : Nat} (hW : Ww G ad M H) (hS : va_S (gA G) s.heap H locs) (hn : n0 ≤ M.1) (hE : AdE n0 ad0 ad) {v : Option AV} (hv : ∀ x, v = some x → vok M.1 x) (hQ : Q v M) {a : Array Value} {t : State} (ht : t.heap = H) : QcO G n0 ad0 Q a s (.returned (v.map (cv ad))) t :=
  ⟨⟨v, M, ad, rfl, hQ, hn, hE, hv, by rw [ht]; exact hW⟩, hS.F ht⟩
theorem wp_iret {x : Int} (hr : I.2.2.2 = some .int) (hd : Dd I.2.1 pc (.ireturn) 1 pc') (hk : k ≤ mc ∧ n ≤ ms) (h : Q (some (vI x)) M) : Wp G I d mc ms pc L [vI x] M k n Q := by
  obtain ⟨hd, -⟩ := hd
  intro hL hs p e s m args below meth c H locs Ls ad n0 ad0 X hW hS hl hn hE
  refine W.widen (k := mc) (n := ms) hk.1 hk.2 ?_
  exact W.iret X.1 X.2.1 (X.2.2.2.1.trans hr) (fun t ht _ => qco_end (p := p) (m := m) (args := args) (meth := meth) (c := c) hW hS hn hE (v := some (vI x)) (fun y hy => by cases hy; exact vok_hd hs) h ht) hS.2.2 hd (hlocks := X.2.2.2.2.1)
theorem wp_zret {x : Int} (hr : I.2.2.2 = some .boolean) (hd : Dd I.2.1 pc (.ireturn) 1 pc') (hk : k ≤ mc ∧ n ≤ ms) (hx : x = 0 ∨ x = 1) (h : Q (some (vI x)) M) : Wp G I d mc ms pc L [vI x] M k n Q := by
  obtain ⟨hd, -⟩ := hd
  intro hL hs p e s m args below meth c H locs Ls ad n0 ad0 X hW hS hl hn hE
  refine W.widen (k := mc) (n := ms) hk.1 hk.2 ?_
  exact W.zret X.1 X.2.1 (X.2.2.2.1.trans hr) (by rcases hx with z | z <;> subst z <;> rfl) (fun t ht _ => qco_end (p := p) (m := m) (args := args) (meth := meth) (c := c) hW hS hn hE (v := some (vI x)) (fun y hy => by cases hy; exact vok_hd hs) h ht) hS.2.2 hd (hlocks := X.2.2.2.2.1)
theorem wp_cret {x : Int} (hr : I.2.2.2 = some .char) (hd : Dd I.2.1 pc (.ireturn) 1 pc') (hk : k ≤ mc ∧ n ≤ ms) (hx : 0 ≤ x ∧ x < 65536) (h : Q (some (vI x)) M) : Wp G I d mc ms pc L [vI x] M k n Q := by
  obtain ⟨hd, -⟩ := hd
  intro hL hs p e s m args below meth c H locs Ls ad n0 ad0 X hW hS hl hn hE
  refine W.widen (k := mc) (n := ms) hk.1 hk.2 ?_
  refine W.zret X.1 X.2.1 (X.2.2.2.1.trans hr) ?_ (fun t ht _ => qco_end (p := p) (m := m) (args := args) (meth := meth) (c := c) hW hS hn hE (v := some (vI x)) (fun y hy => by cases hy; exact vok_hd hs) h ht) hS.2.2 hd (hlocks := X.2.2.2.2.1)
  obtain ⟨j, rfl⟩ : ∃ j : Nat, x = (j : Int) := ⟨x.toNat, by omega⟩
  rw [Int32.ofInt_eq_ofNat]
  exact (pk_charN (q := j) (by omega)).1
theorem wp_lret {x : Int} (hr : I.2.2.2 = some .long) (hd : Dd I.2.1 pc (.lreturn) 1 pc') (hk : k ≤ mc ∧ n ≤ ms) (h : Q (some (vL x)) M) : Wp G I d mc ms pc L [vL x] M k n Q := by
  obtain ⟨hd, -⟩ := hd
  intro hL hs p e s m args below meth c H locs Ls ad n0 ad0 X hW hS hl hn hE
  refine W.widen (k := mc) (n := ms) hk.1 hk.2 ?_
  exact W.lret X.1 X.2.1 (X.2.2.2.1.trans hr) (fun t ht _ => qco_end (p := p) (m := m) (args := args) (meth := meth) (c := c) hW hS hn hE (v := some (vL x)) (fun y hy => by cases hy; exact vok_hd hs) h ht) hS.2.2 hd (hlocks := X.2.2.2.2.1)
theorem wp_vret (hr : I.2.2.2 = none) (hd : Dd I.2.1 pc (.return_) 1 pc') (hk : k ≤ mc ∧ n ≤ ms) (h : Q none M) : Wp G I d mc ms pc L [] M k n Q := by
  obtain ⟨hd, -⟩ := hd
  intro hL hs p e s m args below meth c H locs Ls ad n0 ad0 X hW hS hl hn hE
  refine W.widen (k := mc) (n := ms) hk.1 hk.2 ?_
  exact W.vret X.1 X.2.1 (X.2.2.2.1.trans hr) (fun t ht _ => qco_end (p := p) (m := m) (args := args) (meth := meth) (c := c) hW hS hn hE (v := none) (fun y hy => by cases hy) h ht) hS.2.2 hd (hlocks := X.2.2.2.2.1)
/-- the locals at a method's entry -/
def ent : List AV → Nat → List (Option AV)
  | [], n => List.replicate n none
  | v :: vs, n => if wide v then some v :: none :: ent vs (n - 2) else some v :: ent vs (n - 1)
def elen : List AV → Nat
  | [] => 0
  | v :: vs => (if wide v then 2 else 1) + elen vs
theorem ent_args {ad : Nat → Nat} : ∀ (as : List AV) (N i : Nat) (v : AV) (j : Nat), (ent as N)[i]? = some (some v) → (j + i, cv ad v) ∈ lv_args j (as.map (cv ad)) := by
  intro as
  induction as with
  | nil =>
    intro N i v j h
    simp [ent, List.getElem?_replicate] at h
  | cons a as ih =>
    intro N i v j h
    rw [List.map_cons, lv_args, cv_cat]
    unfold ent at h
    cases hw : wide a
    · rw [hw] at h
      simp only [Bool.false_eq_true, if_false] at h ⊢
      cases i with
      | zero =>
        simp at h
        rw [h]
        exact List.mem_cons_self
      | succ i =>
        rw [List.getElem?_cons_succ] at h
        have := ih (N - 1) i v (j + 1) h
        rw [show j + 1 + i = j + (i + 1) by omega] at this
        rw [if_neg (by decide)]
        exact List.mem_cons_of_mem _ this
    · rw [hw] at h
      simp only [if_true] at h ⊢
      cases i with
      | zero =>
        simp at h
        rw [h]
        exact List.mem_cons_self
      | succ i =>
        rw [List.getElem?_cons_succ] at h
        cases i with
        | zero => simp at h
        | succ i =>
          rw [List.getElem?_cons_succ] at h
          have := ih (N - 2) i v (j + 2) h
          rw [show j + 2 + i = j + (i + 1 + 1) by omega] at this
          exact List.mem_cons_of_mem _ this
theorem ent_ok {N0 : Nat} : ∀ (as : List AV) (N : Nat), (∀ v ∈ as, vok N0 v) → ∀ v, some v ∈ ent as N → vok N0 v := by
  intro as
  induction as with
  | nil =>
    intro N h v hv
    simp [ent] at hv
  | cons a as ih =>
    intro N h v hv
    unfold ent at hv
    cases hw : wide a
    · rw [hw] at hv
      simp only [Bool.false_eq_true, if_false] at hv
      rcases List.mem_cons.mp hv with e | e
      · cases e; exact h _ List.mem_cons_self
      · exact ih _ (fun u hu => h u (List.mem_cons_of_mem _ hu)) v e
    · rw [hw] at hv
      simp only [if_true] at hv
      rcases List.mem_cons.mp hv with e | e
      · cases e; exact h _ List.mem_cons_self
      · rcases List.mem_cons.mp e with e | e
        · cases e
        · exact ih _ (fun u hu => h u (List.mem_cons_of_mem _ hu)) v e
theorem elen_sl {ad : Nat → Nat} : ∀ as : List AV, (lg_sl (as.map (cv ad))).length = elen as := by
  intro as
  induction as with
  | nil => rfl
  | cons a as ih =>
    rw [List.map_cons]
    unfold lg_sl at ih ⊢
    rw [List.flatMap_cons, List.length_append, ih, cv_cat]
    rw [show elen (a :: as) = (if wide a then 2 else 1) + elen as from rfl]
    cases wide a <;> rfl
theorem Ok_of {as : List AV} {L : List (Option AV)} (hy : plainName I.1.cls = true) (hn : elen as ≤ I.2.2.1) (hL : ent as I.2.2.1 = L) (h : Wp G I d mc ms 0 L [] M 0 0 Q) : Ok G I d mc ms as M Q := by
  intro hv ad
  subst hL
  refine Met.ofW (cc := I.2.1) (maxL := I.2.2.1) (ret := I.2.2.2) hy rfl ?_
  intro p e s m args below meth c s₁ B hml hPc
  obtain ⟨rfl, hB0, hK, hXS, hW⟩ := hPc
  have hts := atoms_spec (ws := .code I.1 I.2.1 I.2.2.1 I.2.2.2 :: WS) B.pre
  rw [lg_entry_eq]
  have hl := lv_entry (as.map (cv ad)) (n := I.2.2.1) (by rw [elen_sl]; exact hn)
  refine h (ent_ok as _ hv) (fun v hv => absurd hv List.not_mem_nil) p e s m _ below meth c s.heap [] _ ad M.1 ad ⟨B.exec, B.bytes, hml, B.returns, B.notSynchronized, findClass_of_methodNamed B.named, fun w hw => hts w (List.mem_cons_of_mem _ hw), hK, hB0, (name_of_methodNamed B.named B.method).1, hXS, trivial⟩ hW va_S.rf (lv_subset hl fun q hq => ?_) (Nat.le_refl _) AdE.rf
  obtain ⟨v, h1, h2⟩ := al_mem.mp hq
  have := ent_args (ad := ad) as I.2.2.1 q.1 v 0 h1
  rw [Nat.zero_add, ← h2] at this
  exact this
end WE
end
section
/-! ===== the one String constant's own methods ===== -/
section WSTR
variable {G : GG} {I : MI} {XX : State → Prop} {d mc ms : Nat} {Z : Nat → (Nat → Nat) → List Frame → Array Value → State → State → Prop} {pc pc' : Nat} {L : List (Option AV)} {st : List AV} {M : MM} {k n : Nat}
theorem cv_far {ad : Nat → Nat} {H : Heap} (hW : Ww G ad M H) {q : Nat} (hq : 700 ≤ q) : cv ad (vR q) = .ref (G.2.2.2.2 q) := by
  show cr ad q = _
  unfold cr
  rw [if_neg (by omega), hW.2.2.2.2.1 q hq]
theorem wg_gsC {ix : Nat} (hd : Dd I.2.1 pc (.getstatic ix) 3 pc') (hl : Cond.fieldLink I.1.cls ix "java/lang/String" "COMPACT_STRINGS" "Z" ∈ WS) (kk : Wg G I XX d mc ms Z pc' L (vI 1 :: st) M k n) : Wg G I XX d mc ms Z pc L st M k n := by
  obtain ⟨hd, rfl⟩ := hd
  exact wg_stk (fun hL hs _ _ => vcI ⟨by decide, by decide⟩ hs) (fun p e s m args below meth c H locs Ls ad Q X hW hS h hs q => va_gets X.1 X.2.1 X.2.2.2.2.2.2.2.2.2.2.1.2.2.2.2.1 hS X.2.2.2.2.2.1 (X.2.2.2.2.2.2.1 _ hl) (fun _ h => h) hd q) kk
theorem wg_gsF {ix : Nat} (hd : Dd I.2.1 pc (.getstatic ix) 3 pc') (hl : Cond.fieldLink I.1.cls ix "jdk/internal/util/Preconditions" "SIOOBE_FORMATTER" "Ljava/util/function/BiFunction;" ∈ WS) (kk : ∀ q, q = 0 ∨ q = 780 → Wg G I XX d mc ms Z pc' L (vR q :: st) M k n) : Wg G I XX d mc ms Z pc L st M k n := by
  obtain ⟨hd, rfl⟩ := hd
  intro hL hs p e s m args below meth c H locs Ls ad n0 ad0 X hW hS hl2 hn hE
  obtain ⟨v, hv, hz⟩ := X.2.2.2.2.2.2.2.2.2.2.1.2.2.2.2.2
  rcases hv with rfl | rfl
  · have h := kk 0 (Or.inl rfl) hL (vcR (Or.inl (Nat.zero_le _)) hs) p e s m args below meth c H locs Ls ad n0 ad0 X hW hS hl2 hn hE
    exact va_gets X.1 X.2.1 hz hS X.2.2.2.2.2.1 (X.2.2.2.2.2.2.1 _ hl) (fun _ h => h) hd h
  · have h := kk 780 (Or.inr rfl) hL (vcR (Or.inr (by decide)) hs) p e s m args below meth c H locs Ls ad n0 ad0 X hW hS hl2 hn hE
    rw [List.map_cons, cv_far hW (by decide)] at h
    exact va_gets X.1 X.2.1 hz hS X.2.2.2.2.2.1 (X.2.2.2.2.2.2.1 _ hl) (fun _ h => h) hd h
theorem wg_sVal {ix : Nat} (hd : Dd I.2.1 pc (.getfield ix) 3 pc') (hl : Cond.fieldLink I.1.cls ix "java/lang/String" "value" "[B" ∈ WS) (kk : Wg G I XX d mc ms Z pc' L (vR 779 :: st) M k n) : Wg G I XX d mc ms Z pc L (vR 777 :: st) M k n := by
  obtain ⟨hd, rfl⟩ := hd
  refine wg_stk (fun hL hs _ _ => vcR (Or.inr (by decide)) (vok_tl hs)) (fun p e s m args below meth c H locs Ls ad Q X hW hS h hs q => ?_) kk
  rw [List.map_cons, cv_far hW (by decide)] at q ⊢
  obtain ⟨cf, kf, fi, f, cell, h1, h2, h3, h4, h5, h6⟩ := (X.2.2.2.2.2.2.2.2.2.2.1.2.1.1 0 (by decide)).2.2.1.kept hS.2.1
  exact W.getf X.1 X.2.1 X.2.2.2.2.2.1 (X.2.2.2.2.2.2.1 _ hl) h1 h2 h3 h4 h5 rfl rfl hd q
theorem wg_sCod {ix : Nat} (hd : Dd I.2.1 pc (.getfield ix) 3 pc') (hl : Cond.fieldLink I.1.cls ix "java/lang/String" "coder" "B" ∈ WS) (kk : Wg G I XX d mc ms Z pc' L (vI 0 :: st) M k n) : Wg G I XX d mc ms Z pc L (vR 777 :: st) M k n := by
  obtain ⟨hd, rfl⟩ := hd
  refine wg_stk (fun hL hs _ _ => vcI z32 (vok_tl hs)) (fun p e s m args below meth c H locs Ls ad Q X hW hS h hs q => ?_) kk
  rw [List.map_cons, cv_far hW (by decide)]
  obtain ⟨cf, kf, fi, f, cell, h1, h2, h3, h4, h5, h6⟩ := (X.2.2.2.2.2.2.2.2.2.2.1.2.1.1 0 (by decide)).2.1.kept hS.2.1
  exact W.getf X.1 X.2.1 X.2.2.2.2.2.1 (X.2.2.2.2.2.2.1 _ hl) h1 h2 h3 h4 h5 rfl rfl hd q
theorem wg_sLen (hd : Dd I.2.1 pc (.arraylength) 1 pc') (kk : Wg G I XX d mc ms Z pc' L (vI 81 :: st) M k n) : Wg G I XX d mc ms Z pc L (vR 779 :: st) M k n := by
  obtain ⟨hd, rfl⟩ := hd
  refine wg_stk (fun hL hs _ _ => vcI ⟨by decide, by decide⟩ (vok_tl hs)) (fun p e s m args below meth c H locs Ls ad Q X hW hS h hs q => ?_) kk
  rw [List.map_cons, cv_far hW (by decide)]
  exact va_tlen X.1 X.2.1 (X.2.2.2.2.2.2.2.2.2.2.1.2.1.1 0 (by decide)).2.2.2 hS (v := Int32.ofInt 81) rfl hd q
theorem wg_sByte {i : Int} (hd : Dd I.2.1 pc (.baload) 1 pc') (h0 : 0 ≤ i) (h8 : i < 81) (kk : Wg G I XX d mc ms Z pc' L (vI (txB.getD i.toNat 0).toInt :: st) M k n) : Wg G I XX d mc ms Z pc L (vI i :: vR 779 :: st) M k n := by
  obtain ⟨hd, rfl⟩ := hd
  refine wg_stk (fun hL hs _ _ => vcI (r32_toInt _) (vok_tl (vok_tl hs))) (fun p e s m args below meth c H locs Ls ad Q X hW hS h hs q => ?_) kk
  rw [List.map_cons, List.map_cons, cv_far hW (by decide)]
  obtain ⟨a1, a2⟩ := o_in (N := 81) (vok_hd hs) h0 h8 (by decide)
  refine va_tb X.1 X.2.1 (X.2.2.2.2.2.2.2.2.2.2.1.2.1.1 0 (by decide)).2.2.2 hS a1 (v := cv ad (vI (txB.getD i.toNat 0).toInt)) ?_ hd q
  rw [a2]
  show Value.int (txB.getD i.toNat 0) = Value.int (Int32.ofInt (txB.getD i.toNat 0).toInt)
  rw [Int32.ofInt_toInt]
theorem wg_i2c {x : Int} (hd : Dd I.2.1 pc (.i2c) 1 pc') (h0 : 0 ≤ x) (h1 : x < 65536) (kk : Wg G I XX d mc ms Z pc' L (vI x :: st) M k n) : Wg G I XX d mc ms Z pc L (vI x :: st) M k n := by
  obtain ⟨hd, rfl⟩ := hd
  refine wg_stk (fun hL hs _ _ => hs) (fun p e s m args below meth c H locs Ls ad Q X hW hS h hs q => ?_) kk
  refine lv_i2c X.1 X.2.1 hd ?_ q
  obtain ⟨j, rfl⟩ : ∃ j : Nat, x = (j : Int) := ⟨x.toNat, by omega⟩
  rw [Int32.ofInt_eq_ofNat]
  have := pk_char (Int32.ofNat j)
  rw [this, show (Int32.ofNat j).toBitVec.toNat = j from pk_tn (by omega), Nat.mod_eq_of_lt (by omega)]
  rfl
theorem wg_callVs {ix np d' mc' ms' : Nat} {I' : MI} {as stk : List AV} {Qc : Option AV → MM → Prop} (hd : Dd I.2.1 pc (.invokevirtual ix) 3 pc') (hl : Cond.methodLink I.1.cls ix I'.1 ∈ WS) (hI : CVi I' np) (hC : I'.1.cls = "java/lang/String") (hs : stk = as.reverse ++ vR 777 :: st) (hn : as.length = np) (hst : st.length ≤ 4) (hd' : d' + 1 ≤ d) (hk : k + mc' ≤ mc ∧ n + ms' ≤ ms)
    (h : Ok G I' d' mc' ms' (vR 777 :: as) M Qc) (kk : ∀ (v : Option AV) (M' : MM), Qc v M' → Wg G I XX d mc ms Z pc' L (v.toList ++ st) M' (k + mc') (n + ms')) : Wg G I XX d mc ms Z pc L stk M k n := by
  obtain ⟨hd, rfl⟩ := hd
  obtain ⟨⟨i1, i2, i3, i4⟩, i5, i6⟩ := hI
  intro hL hs0 p e s m args below meth c H locs Ls ad n0 ad0 X hW hS hlv hn0 hE
  obtain ⟨has, hst0⟩ := rev_ok hs hs0
  have hst1 := vok_tl hst0
  have hM := h (vok_cons (vok_hd hst0) has) ad
  have e1 : (vR 777 :: as).map (cv ad) = Value.ref (G.2.2.2.2 777) :: as.map (cv ad) := by rw [List.map_cons, cv_far hW (by decide)]
  rw [e1] at hM
  have hin : ∀ w ∈ wsV I.1.cls ix I'.1.cls I'.1 (Cond.code I'.1 I'.2.1 I'.2.2.1 I'.2.2.2 :: WS), w ∈ WS := by
    intro w hw
    unfold wsV at hw
    simp only [List.mem_append, List.mem_cons, List.not_mem_nil, or_false] at hw
    rcases hw with (rfl | rfl | rfl | rfl) | rfl | hw
    · exact hl
    · exact i5
    · exact i6
    · exact i1
    · exact i2
    · exact hw
  have hstk : stk.map (cv ad) = (as.map (cv ad)).reverse ++ Value.ref (G.2.2.2.2 777) :: st.map (cv ad) := by
    rw [hs, List.map_append, List.map_reverse, List.map_cons, cv_far hW (by decide)]
  have hrecv : ∃ cellB : Cell, H[G.2.2.2.2 777]? = some cellB ∧ cellB.vm.isStatics = false ∧ s.vm.findClass I'.1.cls = some cellB.cls := by
    obtain ⟨cell, h1, h2, h3, -⟩ := (X.2.2.2.2.2.2.2.2.2.2.1.2.1.1 0 (by decide)).1.kept hS.2.1
    exact ⟨cell, h1, h2, by rw [hC]; exact h3⟩
  refine wg_back (mc' := mc') (ms' := ms') (va_runV (As := as.map (cv ad)) (rest := st.map (cv ad)) (nL := I.2.2.1) ⟨X.1, X.2.1, X.2.2.1, X.2.2.2.2.2.1, X.2.2.2.2.2.2.1⟩ hM (cwV np X.2.2.2.2.2.2.1 (ws_in hin) rfl rfl rfl ⟨rfl, i3⟩ ⟨hd', by show 8 + (I'.2.2.1 + 11) + 40 * d' ≤ 40 * d; omega⟩) ⟨pco_blind, hrecv, fun U hU hw => ⟨rfl, pco_at X hW hS hU hw⟩⟩ rfl (by rw [List.length_map]; exact hn) hlv.1 hstk (lv_room (cat_le hst)) hd hk) hS (fun v M' ad' H1 locs1 hQ hn1 hE1 hok hW1 hS1 => ?_)
  rw [ret_stack hE1 hst1]
  exact kk v M' hQ (fun u hu => vok_mono hn1 (hL u hu)) (vok_app hok (fun u hu => vok_mono hn1 (hst1 u hu))) p e s m args below meth c H1 locs1 Ls ad' n0 ad0 X hW1 hS1 (lv_subset hlv (al_alike hE1 hL)) (Nat.le_trans hn0 hn1) (AdE.tr hn0 hE hE1)
theorem wp_bret {G : GG} {I : MI} {d mc ms : Nat} {pc pc' : Nat} {L : List (Option AV)} {M : MM} {k n : Nat} {Q : Option AV → MM → Prop} (hr : I.2.2.2 = some .byte) (hd : Dd I.2.1 pc (.ireturn) 1 pc') (hk : k ≤ mc ∧ n ≤ ms) (h : Q (some (vI 0)) M) : Wp G I d mc ms pc L [vI 0] M k n Q := by
  obtain ⟨hd, -⟩ := hd
  intro hL hs p e s m args below meth c H locs Ls ad n0 ad0 X hW hS hl hn hE
  refine W.widen (k := mc) (n := ms) hk.1 hk.2 ?_
  exact W.zret X.1 X.2.1 (X.2.2.2.1.trans hr) rfl (fun t ht _ => qco_end (p := p) (m := m) (args := args) (meth := meth) (c := c) hW hS hn hE (v := some (vI 0)) (fun y hy => by cases hy; exact z32) h ht) hS.2.2 hd (hlocks := X.2.2.2.2.1)
end WSTR
end
