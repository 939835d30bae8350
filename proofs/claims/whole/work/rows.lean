section
-- ===== PART A: goes FIRST, ahead of the names: the tables' words, and 'selects' of the private methods out of them =====
/-- a private method of a class that the tables say can be made, by its rows of tables_1 -/
def lw_okq (q : MethodName × Nat) : Prop := (q.1.cls ≠ "java/lang/invoke/MethodHandle" ∧ q.1.cls ≠ "java/lang/invoke/VarHandle") ∧ Cond.instantiable q.1.cls q.2 ∈ tables_1 ∧ Cond.privateMethod q.1 ∈ tables_1 ∧ Cond.instanceMethod q.1 ∈ tables_1
theorem lw_p0 : lw_okq (⟨"RibbonOfLacks", "layTheText", "()Z"⟩, 11) := ⟨⟨by decide +kernel, by decide +kernel⟩, List.mem_of_getElem? (i := 18) (by decide +kernel), List.mem_of_getElem? (i := 316) (by decide +kernel), List.mem_of_getElem? (i := 317) (by decide +kernel)⟩
theorem lw_p1 : lw_okq (⟨"RibbonOfLacks$Reader", "readItem", "(LRibbonOfLacks$World;)Z"⟩, 3) := ⟨⟨by decide +kernel, by decide +kernel⟩, List.mem_of_getElem? (i := 40) (by decide +kernel), List.mem_of_getElem? (i := 332) (by decide +kernel), List.mem_of_getElem? (i := 333) (by decide +kernel)⟩
theorem lw_p2 : lw_okq (⟨"RibbonOfLacks$Reader", "readNumber", "()I"⟩, 3) := ⟨⟨by decide +kernel, by decide +kernel⟩, List.mem_of_getElem? (i := 40) (by decide +kernel), List.mem_of_getElem? (i := 343) (by decide +kernel), List.mem_of_getElem? (i := 344) (by decide +kernel)⟩
theorem lw_p3 : lw_okq (⟨"RibbonOfLacks$Reader", "figureAt", "(I)I"⟩, 3) := ⟨⟨by decide +kernel, by decide +kernel⟩, List.mem_of_getElem? (i := 40) (by decide +kernel), List.mem_of_getElem? (i := 347) (by decide +kernel), List.mem_of_getElem? (i := 348) (by decide +kernel)⟩
theorem lw_p4 : lw_okq (⟨"RibbonOfLacks$World", "takeThing", "(II)Z"⟩, 19) := ⟨⟨by decide +kernel, by decide +kernel⟩, List.mem_of_getElem? (i := 56) (by decide +kernel), List.mem_of_getElem? (i := 355) (by decide +kernel), List.mem_of_getElem? (i := 356) (by decide +kernel)⟩
theorem lw_p5 : lw_okq (⟨"RibbonOfLacks$World", "takeNeed", "(II)Z"⟩, 19) := ⟨⟨by decide +kernel, by decide +kernel⟩, List.mem_of_getElem? (i := 56) (by decide +kernel), List.mem_of_getElem? (i := 359) (by decide +kernel), List.mem_of_getElem? (i := 360) (by decide +kernel)⟩
theorem lw_p6 : lw_okq (⟨"RibbonOfLacks$World", "areTwoThings", "(II)Z"⟩, 19) := ⟨⟨by decide +kernel, by decide +kernel⟩, List.mem_of_getElem? (i := 56) (by decide +kernel), List.mem_of_getElem? (i := 363) (by decide +kernel), List.mem_of_getElem? (i := 364) (by decide +kernel)⟩
theorem lw_p7 : lw_okq (⟨"RibbonOfLacks$World", "takePerson", "(II)Z"⟩, 19) := ⟨⟨by decide +kernel, by decide +kernel⟩, List.mem_of_getElem? (i := 56) (by decide +kernel), List.mem_of_getElem? (i := 367) (by decide +kernel), List.mem_of_getElem? (i := 368) (by decide +kernel)⟩
theorem lw_p8 : lw_okq (⟨"RibbonOfLacks$World", "takeBeast", "(I)Z"⟩, 19) := ⟨⟨by decide +kernel, by decide +kernel⟩, List.mem_of_getElem? (i := 56) (by decide +kernel), List.mem_of_getElem? (i := 374) (by decide +kernel), List.mem_of_getElem? (i := 375) (by decide +kernel)⟩
theorem lw_p9 : lw_okq (⟨"RibbonOfLacks$World", "takeExchange", "(IIII)Z"⟩, 19) := ⟨⟨by decide +kernel, by decide +kernel⟩, List.mem_of_getElem? (i := 56) (by decide +kernel), List.mem_of_getElem? (i := 378) (by decide +kernel), List.mem_of_getElem? (i := 379) (by decide +kernel)⟩
theorem lw_p10 : lw_okq (⟨"RibbonOfLacks", "isThing", "(I)Z"⟩, 11) := ⟨⟨by decide +kernel, by decide +kernel⟩, List.mem_of_getElem? (i := 18) (by decide +kernel), List.mem_of_getElem? (i := 502) (by decide +kernel), List.mem_of_getElem? (i := 503) (by decide +kernel)⟩
theorem lw_p11 : lw_okq (⟨"RibbonOfLacks", "isThere", "(I)Z"⟩, 11) := ⟨⟨by decide +kernel, by decide +kernel⟩, List.mem_of_getElem? (i := 18) (by decide +kernel), List.mem_of_getElem? (i := 511) (by decide +kernel), List.mem_of_getElem? (i := 512) (by decide +kernel)⟩
theorem lw_p12 : lw_okq (⟨"RibbonOfLacks", "isBeast", "(I)Z"⟩, 11) := ⟨⟨by decide +kernel, by decide +kernel⟩, List.mem_of_getElem? (i := 18) (by decide +kernel), List.mem_of_getElem? (i := 545) (by decide +kernel), List.mem_of_getElem? (i := 546) (by decide +kernel)⟩
theorem lw_p13 : lw_okq (⟨"RibbonOfLacks", "missedIn", "(LRibbonOfLacks$State;)I"⟩, 11) := ⟨⟨by decide +kernel, by decide +kernel⟩, List.mem_of_getElem? (i := 18) (by decide +kernel), List.mem_of_getElem? (i := 591) (by decide +kernel), List.mem_of_getElem? (i := 592) (by decide +kernel)⟩
theorem lw_p14 : lw_okq (⟨"RibbonOfLacks$Pile", "forgetOldest", "()V"⟩, 2) := ⟨⟨by decide +kernel, by decide +kernel⟩, List.mem_of_getElem? (i := 177) (by decide +kernel), List.mem_of_getElem? (i := 607) (by decide +kernel), List.mem_of_getElem? (i := 608) (by decide +kernel)⟩
theorem lw_p15 : lw_okq (⟨"RibbonOfLacks$Planner", "listLoose", "(LRibbonOfLacks$World;LRibbonOfLacks$State;)V"⟩, 12) := ⟨⟨by decide +kernel, by decide +kernel⟩, List.mem_of_getElem? (i := 196) (by decide +kernel), List.mem_of_getElem? (i := 684) (by decide +kernel), List.mem_of_getElem? (i := 685) (by decide +kernel)⟩
def lw_privs_1 : List (MethodName × Nat) := [(⟨"RibbonOfLacks", "layTheText", "()Z"⟩, 11), (⟨"RibbonOfLacks$Reader", "readItem", "(LRibbonOfLacks$World;)Z"⟩, 3), (⟨"RibbonOfLacks$Reader", "readNumber", "()I"⟩, 3), (⟨"RibbonOfLacks$Reader", "figureAt", "(I)I"⟩, 3), (⟨"RibbonOfLacks$World", "takeThing", "(II)Z"⟩, 19), (⟨"RibbonOfLacks$World", "takeNeed", "(II)Z"⟩, 19), (⟨"RibbonOfLacks$World", "areTwoThings", "(II)Z"⟩, 19), (⟨"RibbonOfLacks$World", "takePerson", "(II)Z"⟩, 19), (⟨"RibbonOfLacks$World", "takeBeast", "(I)Z"⟩, 19), (⟨"RibbonOfLacks$World", "takeExchange", "(IIII)Z"⟩, 19), (⟨"RibbonOfLacks", "isThing", "(I)Z"⟩, 11), (⟨"RibbonOfLacks", "isThere", "(I)Z"⟩, 11), (⟨"RibbonOfLacks", "isBeast", "(I)Z"⟩, 11), (⟨"RibbonOfLacks", "missedIn", "(LRibbonOfLacks$State;)I"⟩, 11), (⟨"RibbonOfLacks$Pile", "forgetOldest", "()V"⟩, 2), (⟨"RibbonOfLacks$Planner", "listLoose", "(LRibbonOfLacks$World;LRibbonOfLacks$State;)V"⟩, 12)]
theorem lw_r1 : ∀ q ∈ lw_privs_1, lw_okq q := List.forall_mem_cons.mpr ⟨lw_p0, List.forall_mem_cons.mpr ⟨lw_p1, List.forall_mem_cons.mpr ⟨lw_p2, List.forall_mem_cons.mpr ⟨lw_p3, List.forall_mem_cons.mpr ⟨lw_p4, List.forall_mem_cons.mpr ⟨lw_p5, List.forall_mem_cons.mpr ⟨lw_p6, List.forall_mem_cons.mpr ⟨lw_p7, List.forall_mem_cons.mpr ⟨lw_p8, List.forall_mem_cons.mpr ⟨lw_p9, List.forall_mem_cons.mpr ⟨lw_p10, List.forall_mem_cons.mpr ⟨lw_p11, List.forall_mem_cons.mpr ⟨lw_p12, List.forall_mem_cons.mpr ⟨lw_p13, List.forall_mem_cons.mpr ⟨lw_p14, List.forall_mem_cons.mpr ⟨lw_p15, fun _ h => absurd h List.not_mem_nil⟩⟩⟩⟩⟩⟩⟩⟩⟩⟩⟩⟩⟩⟩⟩⟩
theorem lw_p16 : lw_okq (⟨"RibbonOfLacks$Planner", "whoIsHeldBy", "(I)I"⟩, 12) := ⟨⟨by decide +kernel, by decide +kernel⟩, List.mem_of_getElem? (i := 196) (by decide +kernel), List.mem_of_getElem? (i := 691) (by decide +kernel), List.mem_of_getElem? (i := 692) (by decide +kernel)⟩
theorem lw_p17 : lw_okq (⟨"RibbonOfLacks$Planner", "canHoldFrom", "(II)Z"⟩, 12) := ⟨⟨by decide +kernel, by decide +kernel⟩, List.mem_of_getElem? (i := 196) (by decide +kernel), List.mem_of_getElem? (i := 695) (by decide +kernel), List.mem_of_getElem? (i := 696) (by decide +kernel)⟩
theorem lw_p18 : lw_okq (⟨"RibbonOfLacks$Planner", "smallerHoldsFrom", "(II)Z"⟩, 12) := ⟨⟨by decide +kernel, by decide +kernel⟩, List.mem_of_getElem? (i := 196) (by decide +kernel), List.mem_of_getElem? (i := 699) (by decide +kernel), List.mem_of_getElem? (i := 700) (by decide +kernel)⟩
theorem lw_p19 : lw_okq (⟨"RibbonOfLacks$Planner", "isHeldFrom", "(II)Z"⟩, 12) := ⟨⟨by decide +kernel, by decide +kernel⟩, List.mem_of_getElem? (i := 196) (by decide +kernel), List.mem_of_getElem? (i := 703) (by decide +kernel), List.mem_of_getElem? (i := 704) (by decide +kernel)⟩
theorem lw_p20 : lw_okq (⟨"RibbonOfLacks$Planner", "lowestRibbon", "(II)I"⟩, 12) := ⟨⟨by decide +kernel, by decide +kernel⟩, List.mem_of_getElem? (i := 196) (by decide +kernel), List.mem_of_getElem? (i := 707) (by decide +kernel), List.mem_of_getElem? (i := 708) (by decide +kernel)⟩
theorem lw_p21 : lw_okq (⟨"RibbonOfLacks$Planner", "shareOut", "(I)V"⟩, 12) := ⟨⟨by decide +kernel, by decide +kernel⟩, List.mem_of_getElem? (i := 196) (by decide +kernel), List.mem_of_getElem? (i := 711) (by decide +kernel), List.mem_of_getElem? (i := 712) (by decide +kernel)⟩
theorem lw_p22 : lw_okq (⟨"RibbonOfLacks$Planner", "mostOutOf", "(II)I"⟩, 12) := ⟨⟨by decide +kernel, by decide +kernel⟩, List.mem_of_getElem? (i := 196) (by decide +kernel), List.mem_of_getElem? (i := 727) (by decide +kernel), List.mem_of_getElem? (i := 728) (by decide +kernel)⟩
theorem lw_p23 : lw_okq (⟨"RibbonOfLacks$Planner", "mostKnown", "(I)I"⟩, 12) := ⟨⟨by decide +kernel, by decide +kernel⟩, List.mem_of_getElem? (i := 196) (by decide +kernel), List.mem_of_getElem? (i := 731) (by decide +kernel), List.mem_of_getElem? (i := 732) (by decide +kernel)⟩
theorem lw_p24 : lw_okq (⟨"RibbonOfLacks", "pledgeRests", "(II)Z"⟩, 11) := ⟨⟨by decide +kernel, by decide +kernel⟩, List.mem_of_getElem? (i := 18) (by decide +kernel), List.mem_of_getElem? (i := 768) (by decide +kernel), List.mem_of_getElem? (i := 769) (by decide +kernel)⟩
theorem lw_p25 : lw_okq (⟨"RibbonOfLacks", "pledgeLoss", "(II)I"⟩, 11) := ⟨⟨by decide +kernel, by decide +kernel⟩, List.mem_of_getElem? (i := 18) (by decide +kernel), List.mem_of_getElem? (i := 772) (by decide +kernel), List.mem_of_getElem? (i := 773) (by decide +kernel)⟩
theorem lw_p26 : lw_okq (⟨"RibbonOfLacks$GainSearch", "extend", "(LRibbonOfLacks$World;II)Z"⟩, 4) := ⟨⟨by decide +kernel, by decide +kernel⟩, List.mem_of_getElem? (i := 243) (by decide +kernel), List.mem_of_getElem? (i := 784) (by decide +kernel), List.mem_of_getElem? (i := 785) (by decide +kernel)⟩
theorem lw_p27 : lw_okq (⟨"RibbonOfLacks$GainSearch", "isGain", "(LRibbonOfLacks$World;)Z"⟩, 4) := ⟨⟨by decide +kernel, by decide +kernel⟩, List.mem_of_getElem? (i := 243) (by decide +kernel), List.mem_of_getElem? (i := 788) (by decide +kernel), List.mem_of_getElem? (i := 789) (by decide +kernel)⟩
theorem lw_p28 : lw_okq (⟨"RibbonOfLacks", "actByDraw", "(LRibbonOfLacks$State;I)V"⟩, 11) := ⟨⟨by decide +kernel, by decide +kernel⟩, List.mem_of_getElem? (i := 18) (by decide +kernel), List.mem_of_getElem? (i := 833) (by decide +kernel), List.mem_of_getElem? (i := 834) (by decide +kernel)⟩
theorem lw_p29 : lw_okq (⟨"RibbonOfLacksModel", "addThing", "(II)V"⟩, 28) := ⟨⟨by decide +kernel, by decide +kernel⟩, List.mem_of_getElem? (i := 849) (by decide +kernel), List.mem_of_getElem? (i := 855) (by decide +kernel), List.mem_of_getElem? (i := 856) (by decide +kernel)⟩
theorem lw_p30 : lw_okq (⟨"RibbonOfLacksModel", "addNeed", "(II)V"⟩, 28) := ⟨⟨by decide +kernel, by decide +kernel⟩, List.mem_of_getElem? (i := 849) (by decide +kernel), List.mem_of_getElem? (i := 859) (by decide +kernel), List.mem_of_getElem? (i := 860) (by decide +kernel)⟩
theorem lw_p31 : lw_okq (⟨"RibbonOfLacksModel", "addPerson", "(II)V"⟩, 28) := ⟨⟨by decide +kernel, by decide +kernel⟩, List.mem_of_getElem? (i := 849) (by decide +kernel), List.mem_of_getElem? (i := 863) (by decide +kernel), List.mem_of_getElem? (i := 864) (by decide +kernel)⟩
def lw_privs_2 : List (MethodName × Nat) := [(⟨"RibbonOfLacks$Planner", "whoIsHeldBy", "(I)I"⟩, 12), (⟨"RibbonOfLacks$Planner", "canHoldFrom", "(II)Z"⟩, 12), (⟨"RibbonOfLacks$Planner", "smallerHoldsFrom", "(II)Z"⟩, 12), (⟨"RibbonOfLacks$Planner", "isHeldFrom", "(II)Z"⟩, 12), (⟨"RibbonOfLacks$Planner", "lowestRibbon", "(II)I"⟩, 12), (⟨"RibbonOfLacks$Planner", "shareOut", "(I)V"⟩, 12), (⟨"RibbonOfLacks$Planner", "mostOutOf", "(II)I"⟩, 12), (⟨"RibbonOfLacks$Planner", "mostKnown", "(I)I"⟩, 12), (⟨"RibbonOfLacks", "pledgeRests", "(II)Z"⟩, 11), (⟨"RibbonOfLacks", "pledgeLoss", "(II)I"⟩, 11), (⟨"RibbonOfLacks$GainSearch", "extend", "(LRibbonOfLacks$World;II)Z"⟩, 4), (⟨"RibbonOfLacks$GainSearch", "isGain", "(LRibbonOfLacks$World;)Z"⟩, 4), (⟨"RibbonOfLacks", "actByDraw", "(LRibbonOfLacks$State;I)V"⟩, 11), (⟨"RibbonOfLacksModel", "addThing", "(II)V"⟩, 28), (⟨"RibbonOfLacksModel", "addNeed", "(II)V"⟩, 28), (⟨"RibbonOfLacksModel", "addPerson", "(II)V"⟩, 28)]
theorem lw_r2 : ∀ q ∈ lw_privs_2, lw_okq q := List.forall_mem_cons.mpr ⟨lw_p16, List.forall_mem_cons.mpr ⟨lw_p17, List.forall_mem_cons.mpr ⟨lw_p18, List.forall_mem_cons.mpr ⟨lw_p19, List.forall_mem_cons.mpr ⟨lw_p20, List.forall_mem_cons.mpr ⟨lw_p21, List.forall_mem_cons.mpr ⟨lw_p22, List.forall_mem_cons.mpr ⟨lw_p23, List.forall_mem_cons.mpr ⟨lw_p24, List.forall_mem_cons.mpr ⟨lw_p25, List.forall_mem_cons.mpr ⟨lw_p26, List.forall_mem_cons.mpr ⟨lw_p27, List.forall_mem_cons.mpr ⟨lw_p28, List.forall_mem_cons.mpr ⟨lw_p29, List.forall_mem_cons.mpr ⟨lw_p30, List.forall_mem_cons.mpr ⟨lw_p31, fun _ h => absurd h List.not_mem_nil⟩⟩⟩⟩⟩⟩⟩⟩⟩⟩⟩⟩⟩⟩⟩⟩
theorem lw_p32 : lw_okq (⟨"RibbonOfLacksModel", "addBeast", "(I)V"⟩, 28) := ⟨⟨by decide +kernel, by decide +kernel⟩, List.mem_of_getElem? (i := 849) (by decide +kernel), List.mem_of_getElem? (i := 867) (by decide +kernel), List.mem_of_getElem? (i := 868) (by decide +kernel)⟩
theorem lw_p33 : lw_okq (⟨"RibbonOfLacksModel", "addChange", "(IIII)V"⟩, 28) := ⟨⟨by decide +kernel, by decide +kernel⟩, List.mem_of_getElem? (i := 849) (by decide +kernel), List.mem_of_getElem? (i := 871) (by decide +kernel), List.mem_of_getElem? (i := 872) (by decide +kernel)⟩
theorem lw_p34 : lw_okq (⟨"RibbonOfLacksModel", "begin", "()V"⟩, 28) := ⟨⟨by decide +kernel, by decide +kernel⟩, List.mem_of_getElem? (i := 849) (by decide +kernel), List.mem_of_getElem? (i := 875) (by decide +kernel), List.mem_of_getElem? (i := 876) (by decide +kernel)⟩
theorem lw_p35 : lw_okq (⟨"RibbonOfLacksModel", "beginToRead", "()V"⟩, 28) := ⟨⟨by decide +kernel, by decide +kernel⟩, List.mem_of_getElem? (i := 849) (by decide +kernel), List.mem_of_getElem? (i := 982) (by decide +kernel), List.mem_of_getElem? (i := 983) (by decide +kernel)⟩
theorem lw_p36 : lw_okq (⟨"RibbonOfLacksModel", "readsItem", "()I"⟩, 28) := ⟨⟨by decide +kernel, by decide +kernel⟩, List.mem_of_getElem? (i := 849) (by decide +kernel), List.mem_of_getElem? (i := 986) (by decide +kernel), List.mem_of_getElem? (i := 987) (by decide +kernel)⟩
theorem lw_p37 : lw_okq (⟨"RibbonOfLacksModel", "readsNumbers", "(I)Z"⟩, 28) := ⟨⟨by decide +kernel, by decide +kernel⟩, List.mem_of_getElem? (i := 849) (by decide +kernel), List.mem_of_getElem? (i := 990) (by decide +kernel), List.mem_of_getElem? (i := 991) (by decide +kernel)⟩
theorem lw_p38 : lw_okq (⟨"RibbonOfLacksModel", "readsTwo", "(III)Z"⟩, 28) := ⟨⟨by decide +kernel, by decide +kernel⟩, List.mem_of_getElem? (i := 849) (by decide +kernel), List.mem_of_getElem? (i := 994) (by decide +kernel), List.mem_of_getElem? (i := 995) (by decide +kernel)⟩
theorem lw_p39 : lw_okq (⟨"RibbonOfLacksModel", "reads", "(III)Z"⟩, 28) := ⟨⟨by decide +kernel, by decide +kernel⟩, List.mem_of_getElem? (i := 849) (by decide +kernel), List.mem_of_getElem? (i := 998) (by decide +kernel), List.mem_of_getElem? (i := 999) (by decide +kernel)⟩
theorem lw_p40 : lw_okq (⟨"RibbonOfLacksModel", "readsComma", "()Z"⟩, 28) := ⟨⟨by decide +kernel, by decide +kernel⟩, List.mem_of_getElem? (i := 849) (by decide +kernel), List.mem_of_getElem? (i := 1007) (by decide +kernel), List.mem_of_getElem? (i := 1008) (by decide +kernel)⟩
theorem lw_p41 : lw_okq (⟨"RibbonOfLacksModel", "isThere", "(I)Z"⟩, 28) := ⟨⟨by decide +kernel, by decide +kernel⟩, List.mem_of_getElem? (i := 849) (by decide +kernel), List.mem_of_getElem? (i := 1011) (by decide +kernel), List.mem_of_getElem? (i := 1012) (by decide +kernel)⟩
theorem lw_p42 : lw_okq (⟨"RibbonOfLacksModel", "readsChange", "()Z"⟩, 28) := ⟨⟨by decide +kernel, by decide +kernel⟩, List.mem_of_getElem? (i := 849) (by decide +kernel), List.mem_of_getElem? (i := 1015) (by decide +kernel), List.mem_of_getElem? (i := 1016) (by decide +kernel)⟩
theorem lw_p43 : lw_okq (⟨"RibbonOfLacksModel", "tell", "(I)V"⟩, 28) := ⟨⟨by decide +kernel, by decide +kernel⟩, List.mem_of_getElem? (i := 849) (by decide +kernel), List.mem_of_getElem? (i := 1024) (by decide +kernel), List.mem_of_getElem? (i := 1025) (by decide +kernel)⟩
theorem lw_p44 : lw_okq (⟨"RibbonOfLacksModel", "isThing", "(I)Z"⟩, 28) := ⟨⟨by decide +kernel, by decide +kernel⟩, List.mem_of_getElem? (i := 849) (by decide +kernel), List.mem_of_getElem? (i := 1032) (by decide +kernel), List.mem_of_getElem? (i := 1033) (by decide +kernel)⟩
theorem lw_p45 : lw_okq (⟨"RibbonOfLacksModel", "thereIn", "(I)I"⟩, 28) := ⟨⟨by decide +kernel, by decide +kernel⟩, List.mem_of_getElem? (i := 849) (by decide +kernel), List.mem_of_getElem? (i := 1039) (by decide +kernel), List.mem_of_getElem? (i := 1040) (by decide +kernel)⟩
theorem lw_p46 : lw_okq (⟨"RibbonOfLacksModel", "goneIn", "(I)I"⟩, 28) := ⟨⟨by decide +kernel, by decide +kernel⟩, List.mem_of_getElem? (i := 849) (by decide +kernel), List.mem_of_getElem? (i := 1043) (by decide +kernel), List.mem_of_getElem? (i := 1044) (by decide +kernel)⟩
theorem lw_p47 : lw_okq (⟨"RibbonOfLacksModel", "followsOf", "(I)I"⟩, 28) := ⟨⟨by decide +kernel, by decide +kernel⟩, List.mem_of_getElem? (i := 849) (by decide +kernel), List.mem_of_getElem? (i := 1047) (by decide +kernel), List.mem_of_getElem? (i := 1048) (by decide +kernel)⟩
def lw_privs_3 : List (MethodName × Nat) := [(⟨"RibbonOfLacksModel", "addBeast", "(I)V"⟩, 28), (⟨"RibbonOfLacksModel", "addChange", "(IIII)V"⟩, 28), (⟨"RibbonOfLacksModel", "begin", "()V"⟩, 28), (⟨"RibbonOfLacksModel", "beginToRead", "()V"⟩, 28), (⟨"RibbonOfLacksModel", "readsItem", "()I"⟩, 28), (⟨"RibbonOfLacksModel", "readsNumbers", "(I)Z"⟩, 28), (⟨"RibbonOfLacksModel", "readsTwo", "(III)Z"⟩, 28), (⟨"RibbonOfLacksModel", "reads", "(III)Z"⟩, 28), (⟨"RibbonOfLacksModel", "readsComma", "()Z"⟩, 28), (⟨"RibbonOfLacksModel", "isThere", "(I)Z"⟩, 28), (⟨"RibbonOfLacksModel", "readsChange", "()Z"⟩, 28), (⟨"RibbonOfLacksModel", "tell", "(I)V"⟩, 28), (⟨"RibbonOfLacksModel", "isThing", "(I)Z"⟩, 28), (⟨"RibbonOfLacksModel", "thereIn", "(I)I"⟩, 28), (⟨"RibbonOfLacksModel", "goneIn", "(I)I"⟩, 28), (⟨"RibbonOfLacksModel", "followsOf", "(I)I"⟩, 28)]
theorem lw_r3 : ∀ q ∈ lw_privs_3, lw_okq q := List.forall_mem_cons.mpr ⟨lw_p32, List.forall_mem_cons.mpr ⟨lw_p33, List.forall_mem_cons.mpr ⟨lw_p34, List.forall_mem_cons.mpr ⟨lw_p35, List.forall_mem_cons.mpr ⟨lw_p36, List.forall_mem_cons.mpr ⟨lw_p37, List.forall_mem_cons.mpr ⟨lw_p38, List.forall_mem_cons.mpr ⟨lw_p39, List.forall_mem_cons.mpr ⟨lw_p40, List.forall_mem_cons.mpr ⟨lw_p41, List.forall_mem_cons.mpr ⟨lw_p42, List.forall_mem_cons.mpr ⟨lw_p43, List.forall_mem_cons.mpr ⟨lw_p44, List.forall_mem_cons.mpr ⟨lw_p45, List.forall_mem_cons.mpr ⟨lw_p46, List.forall_mem_cons.mpr ⟨lw_p47, fun _ h => absurd h List.not_mem_nil⟩⟩⟩⟩⟩⟩⟩⟩⟩⟩⟩⟩⟩⟩⟩⟩
theorem lw_p48 : lw_okq (⟨"RibbonOfLacksModel", "foundIn", "(I)I"⟩, 28) := ⟨⟨by decide +kernel, by decide +kernel⟩, List.mem_of_getElem? (i := 849) (by decide +kernel), List.mem_of_getElem? (i := 1055) (by decide +kernel), List.mem_of_getElem? (i := 1056) (by decide +kernel)⟩
theorem lw_p49 : lw_okq (⟨"RibbonOfLacksModel", "lateSet", "()I"⟩, 28) := ⟨⟨by decide +kernel, by decide +kernel⟩, List.mem_of_getElem? (i := 849) (by decide +kernel), List.mem_of_getElem? (i := 1059) (by decide +kernel), List.mem_of_getElem? (i := 1060) (by decide +kernel)⟩
theorem lw_p50 : lw_okq (⟨"RibbonOfLacksModel", "isBeast", "(I)Z"⟩, 28) := ⟨⟨by decide +kernel, by decide +kernel⟩, List.mem_of_getElem? (i := 849) (by decide +kernel), List.mem_of_getElem? (i := 1067) (by decide +kernel), List.mem_of_getElem? (i := 1068) (by decide +kernel)⟩
theorem lw_p51 : lw_okq (⟨"RibbonOfLacksModel", "isSet", "(I)Z"⟩, 28) := ⟨⟨by decide +kernel, by decide +kernel⟩, List.mem_of_getElem? (i := 849) (by decide +kernel), List.mem_of_getElem? (i := 1075) (by decide +kernel), List.mem_of_getElem? (i := 1076) (by decide +kernel)⟩
theorem lw_p52 : lw_okq (⟨"RibbonOfLacksModel", "strengthOf", "(I)I"⟩, 28) := ⟨⟨by decide +kernel, by decide +kernel⟩, List.mem_of_getElem? (i := 849) (by decide +kernel), List.mem_of_getElem? (i := 1079) (by decide +kernel), List.mem_of_getElem? (i := 1080) (by decide +kernel)⟩
theorem lw_p53 : lw_okq (⟨"RibbonOfLacksModel", "missedIn", "(I)I"⟩, 28) := ⟨⟨by decide +kernel, by decide +kernel⟩, List.mem_of_getElem? (i := 849) (by decide +kernel), List.mem_of_getElem? (i := 1091) (by decide +kernel), List.mem_of_getElem? (i := 1092) (by decide +kernel)⟩
theorem lw_p54 : lw_okq (⟨"RibbonOfLacksModel", "missedBy", "(I)I"⟩, 28) := ⟨⟨by decide +kernel, by decide +kernel⟩, List.mem_of_getElem? (i := 849) (by decide +kernel), List.mem_of_getElem? (i := 1095) (by decide +kernel), List.mem_of_getElem? (i := 1096) (by decide +kernel)⟩
theorem lw_p55 : lw_okq (⟨"RibbonOfLacksModel", "keepPast", "()V"⟩, 28) := ⟨⟨by decide +kernel, by decide +kernel⟩, List.mem_of_getElem? (i := 849) (by decide +kernel), List.mem_of_getElem? (i := 1103) (by decide +kernel), List.mem_of_getElem? (i := 1104) (by decide +kernel)⟩
theorem lw_p56 : lw_okq (⟨"RibbonOfLacksModel", "copy", "(II)V"⟩, 28) := ⟨⟨by decide +kernel, by decide +kernel⟩, List.mem_of_getElem? (i := 849) (by decide +kernel), List.mem_of_getElem? (i := 1107) (by decide +kernel), List.mem_of_getElem? (i := 1108) (by decide +kernel)⟩
theorem lw_p57 : lw_okq (⟨"RibbonOfLacksModel", "bindIn", "(III)V"⟩, 28) := ⟨⟨by decide +kernel, by decide +kernel⟩, List.mem_of_getElem? (i := 849) (by decide +kernel), List.mem_of_getElem? (i := 1111) (by decide +kernel), List.mem_of_getElem? (i := 1112) (by decide +kernel)⟩
theorem lw_p58 : lw_okq (⟨"RibbonOfLacksModel", "dayIn", "(I)I"⟩, 28) := ⟨⟨by decide +kernel, by decide +kernel⟩, List.mem_of_getElem? (i := 849) (by decide +kernel), List.mem_of_getElem? (i := 1127) (by decide +kernel), List.mem_of_getElem? (i := 1128) (by decide +kernel)⟩
theorem lw_p59 : lw_okq (⟨"RibbonOfLacksModel", "lentIn", "(I)I"⟩, 28) := ⟨⟨by decide +kernel, by decide +kernel⟩, List.mem_of_getElem? (i := 849) (by decide +kernel), List.mem_of_getElem? (i := 1131) (by decide +kernel), List.mem_of_getElem? (i := 1132) (by decide +kernel)⟩
theorem lw_p60 : lw_okq (⟨"RibbonOfLacksModel", "costIn", "(II)I"⟩, 28) := ⟨⟨by decide +kernel, by decide +kernel⟩, List.mem_of_getElem? (i := 849) (by decide +kernel), List.mem_of_getElem? (i := 1143) (by decide +kernel), List.mem_of_getElem? (i := 1144) (by decide +kernel)⟩
theorem lw_p61 : lw_okq (⟨"RibbonOfLacksModel", "leastIn", "(II)I"⟩, 28) := ⟨⟨by decide +kernel, by decide +kernel⟩, List.mem_of_getElem? (i := 849) (by decide +kernel), List.mem_of_getElem? (i := 1151) (by decide +kernel), List.mem_of_getElem? (i := 1152) (by decide +kernel)⟩
theorem lw_p62 : lw_okq (⟨"RibbonOfLacksModel", "usedByAll", "()I"⟩, 28) := ⟨⟨by decide +kernel, by decide +kernel⟩, List.mem_of_getElem? (i := 849) (by decide +kernel), List.mem_of_getElem? (i := 1160) (by decide +kernel), List.mem_of_getElem? (i := 1161) (by decide +kernel)⟩
theorem lw_p63 : lw_okq (⟨"RibbonOfLacksModel", "unbound", "()I"⟩, 28) := ⟨⟨by decide +kernel, by decide +kernel⟩, List.mem_of_getElem? (i := 849) (by decide +kernel), List.mem_of_getElem? (i := 1164) (by decide +kernel), List.mem_of_getElem? (i := 1165) (by decide +kernel)⟩
def lw_privs_4 : List (MethodName × Nat) := [(⟨"RibbonOfLacksModel", "foundIn", "(I)I"⟩, 28), (⟨"RibbonOfLacksModel", "lateSet", "()I"⟩, 28), (⟨"RibbonOfLacksModel", "isBeast", "(I)Z"⟩, 28), (⟨"RibbonOfLacksModel", "isSet", "(I)Z"⟩, 28), (⟨"RibbonOfLacksModel", "strengthOf", "(I)I"⟩, 28), (⟨"RibbonOfLacksModel", "missedIn", "(I)I"⟩, 28), (⟨"RibbonOfLacksModel", "missedBy", "(I)I"⟩, 28), (⟨"RibbonOfLacksModel", "keepPast", "()V"⟩, 28), (⟨"RibbonOfLacksModel", "copy", "(II)V"⟩, 28), (⟨"RibbonOfLacksModel", "bindIn", "(III)V"⟩, 28), (⟨"RibbonOfLacksModel", "dayIn", "(I)I"⟩, 28), (⟨"RibbonOfLacksModel", "lentIn", "(I)I"⟩, 28), (⟨"RibbonOfLacksModel", "costIn", "(II)I"⟩, 28), (⟨"RibbonOfLacksModel", "leastIn", "(II)I"⟩, 28), (⟨"RibbonOfLacksModel", "usedByAll", "()I"⟩, 28), (⟨"RibbonOfLacksModel", "unbound", "()I"⟩, 28)]
theorem lw_r4 : ∀ q ∈ lw_privs_4, lw_okq q := List.forall_mem_cons.mpr ⟨lw_p48, List.forall_mem_cons.mpr ⟨lw_p49, List.forall_mem_cons.mpr ⟨lw_p50, List.forall_mem_cons.mpr ⟨lw_p51, List.forall_mem_cons.mpr ⟨lw_p52, List.forall_mem_cons.mpr ⟨lw_p53, List.forall_mem_cons.mpr ⟨lw_p54, List.forall_mem_cons.mpr ⟨lw_p55, List.forall_mem_cons.mpr ⟨lw_p56, List.forall_mem_cons.mpr ⟨lw_p57, List.forall_mem_cons.mpr ⟨lw_p58, List.forall_mem_cons.mpr ⟨lw_p59, List.forall_mem_cons.mpr ⟨lw_p60, List.forall_mem_cons.mpr ⟨lw_p61, List.forall_mem_cons.mpr ⟨lw_p62, List.forall_mem_cons.mpr ⟨lw_p63, fun _ h => absurd h List.not_mem_nil⟩⟩⟩⟩⟩⟩⟩⟩⟩⟩⟩⟩⟩⟩⟩⟩
theorem lw_p64 : lw_okq (⟨"RibbonOfLacksModel", "layHolds", "(I)V"⟩, 28) := ⟨⟨by decide +kernel, by decide +kernel⟩, List.mem_of_getElem? (i := 849) (by decide +kernel), List.mem_of_getElem? (i := 1168) (by decide +kernel), List.mem_of_getElem? (i := 1169) (by decide +kernel)⟩
theorem lw_p65 : lw_okq (⟨"RibbonOfLacksModel", "canHold", "(II)Z"⟩, 28) := ⟨⟨by decide +kernel, by decide +kernel⟩, List.mem_of_getElem? (i := 849) (by decide +kernel), List.mem_of_getElem? (i := 1172) (by decide +kernel), List.mem_of_getElem? (i := 1173) (by decide +kernel)⟩
theorem lw_p66 : lw_okq (⟨"RibbonOfLacksModel", "lowest", "(I)I"⟩, 28) := ⟨⟨by decide +kernel, by decide +kernel⟩, List.mem_of_getElem? (i := 849) (by decide +kernel), List.mem_of_getElem? (i := 1176) (by decide +kernel), List.mem_of_getElem? (i := 1177) (by decide +kernel)⟩
theorem lw_p67 : lw_okq (⟨"RibbonOfLacksModel", "ribbonOf", "(II)I"⟩, 28) := ⟨⟨by decide +kernel, by decide +kernel⟩, List.mem_of_getElem? (i := 849) (by decide +kernel), List.mem_of_getElem? (i := 1180) (by decide +kernel), List.mem_of_getElem? (i := 1181) (by decide +kernel)⟩
theorem lw_p68 : lw_okq (⟨"RibbonOfLacksModel", "whoMiss", "(I)I"⟩, 28) := ⟨⟨by decide +kernel, by decide +kernel⟩, List.mem_of_getElem? (i := 849) (by decide +kernel), List.mem_of_getElem? (i := 1202) (by decide +kernel), List.mem_of_getElem? (i := 1203) (by decide +kernel)⟩
theorem lw_p69 : lw_okq (⟨"RibbonOfLacksModel", "rests", "(II)Z"⟩, 28) := ⟨⟨by decide +kernel, by decide +kernel⟩, List.mem_of_getElem? (i := 849) (by decide +kernel), List.mem_of_getElem? (i := 1224) (by decide +kernel), List.mem_of_getElem? (i := 1225) (by decide +kernel)⟩
theorem lw_p70 : lw_okq (⟨"RibbonOfLacksModel", "losesBy", "(II)I"⟩, 28) := ⟨⟨by decide +kernel, by decide +kernel⟩, List.mem_of_getElem? (i := 849) (by decide +kernel), List.mem_of_getElem? (i := 1228) (by decide +kernel), List.mem_of_getElem? (i := 1229) (by decide +kernel)⟩
theorem lw_p71 : lw_okq (⟨"RibbonOfLacksModel", "layChain", "(II)V"⟩, 28) := ⟨⟨by decide +kernel, by decide +kernel⟩, List.mem_of_getElem? (i := 849) (by decide +kernel), List.mem_of_getElem? (i := 1238) (by decide +kernel), List.mem_of_getElem? (i := 1239) (by decide +kernel)⟩
theorem lw_p72 : lw_okq (⟨"RibbonOfLacksModel", "gains", "(I)Z"⟩, 28) := ⟨⟨by decide +kernel, by decide +kernel⟩, List.mem_of_getElem? (i := 849) (by decide +kernel), List.mem_of_getElem? (i := 1242) (by decide +kernel), List.mem_of_getElem? (i := 1243) (by decide +kernel)⟩
theorem lw_p73 : lw_okq (⟨"RibbonOfLacksModel", "ofChain", "(II)I"⟩, 28) := ⟨⟨by decide +kernel, by decide +kernel⟩, List.mem_of_getElem? (i := 849) (by decide +kernel), List.mem_of_getElem? (i := 1246) (by decide +kernel), List.mem_of_getElem? (i := 1247) (by decide +kernel)⟩
def lw_privs_5 : List (MethodName × Nat) := [(⟨"RibbonOfLacksModel", "layHolds", "(I)V"⟩, 28), (⟨"RibbonOfLacksModel", "canHold", "(II)Z"⟩, 28), (⟨"RibbonOfLacksModel", "lowest", "(I)I"⟩, 28), (⟨"RibbonOfLacksModel", "ribbonOf", "(II)I"⟩, 28), (⟨"RibbonOfLacksModel", "whoMiss", "(I)I"⟩, 28), (⟨"RibbonOfLacksModel", "rests", "(II)Z"⟩, 28), (⟨"RibbonOfLacksModel", "losesBy", "(II)I"⟩, 28), (⟨"RibbonOfLacksModel", "layChain", "(II)V"⟩, 28), (⟨"RibbonOfLacksModel", "gains", "(I)Z"⟩, 28), (⟨"RibbonOfLacksModel", "ofChain", "(II)I"⟩, 28)]
theorem lw_r5 : ∀ q ∈ lw_privs_5, lw_okq q := List.forall_mem_cons.mpr ⟨lw_p64, List.forall_mem_cons.mpr ⟨lw_p65, List.forall_mem_cons.mpr ⟨lw_p66, List.forall_mem_cons.mpr ⟨lw_p67, List.forall_mem_cons.mpr ⟨lw_p68, List.forall_mem_cons.mpr ⟨lw_p69, List.forall_mem_cons.mpr ⟨lw_p70, List.forall_mem_cons.mpr ⟨lw_p71, List.forall_mem_cons.mpr ⟨lw_p72, List.forall_mem_cons.mpr ⟨lw_p73, fun _ h => absurd h List.not_mem_nil⟩⟩⟩⟩⟩⟩⟩⟩⟩⟩
def lw_privs : List (MethodName × Nat) := lw_privs_1 ++ (lw_privs_2 ++ (lw_privs_3 ++ (lw_privs_4 ++ (lw_privs_5))))
def lw_tbl : List Cond := k2_sels lw_privs ++ tables_1
theorem lw_privs_ok : ∀ q ∈ lw_privs, lw_okq q := by
  show ∀ q ∈ lw_privs_1 ++ (lw_privs_2 ++ (lw_privs_3 ++ (lw_privs_4 ++ (lw_privs_5)))), lw_okq q
  exact List.forall_mem_append.mpr ⟨lw_r1, List.forall_mem_append.mpr ⟨lw_r2, List.forall_mem_append.mpr ⟨lw_r3, List.forall_mem_append.mpr ⟨lw_r4, lw_r5⟩⟩⟩⟩
end
section
def RX0 : String := "RibbonOfLacks$GainSearch"
def TX0 : u_T := fun k => match k with
  | 0 => ("RibbonOfLacks$GainSearch", "length", "I", false)
  | 1 => ("RibbonOfLacks$GainSearch", "path", "[I", true)
  | 2 => ("RibbonOfLacks$GainSearch", "above", "I", false)
  | _ => ("RibbonOfLacks$GainSearch", "below", "I", false)
def tyX0 : Nat → FieldType := fun k => match k with
  | 0 => .int
  | 1 => .array .int
  | 2 => .int
  | _ => .int
theorem nmX0 : ∀ a, a < 4 → ∀ b, b < 4 → a ≠ b → (TX0 a).2.1 ≠ (TX0 b).2.1 := by decide +kernel
theorem tyX0_ok : ∀ k, k < 4 → parseFieldDescriptor (TX0 k).2.2.1 = some (tyX0 k) := by decide +kernel
abbrev cX0_init : ByteArray := prog_2_method_1_code
def yX0_init : MethodName := ⟨RX0, "<init>", "()V"⟩
abbrev cX0_find : ByteArray := prog_2_method_2_code
def yX0_find : MethodName := ⟨RX0, "find", "(LRibbonOfLacks$World;)Z"⟩
abbrev cX0_extend : ByteArray := prog_2_method_3_code
def yX0_extend : MethodName := ⟨RX0, "extend", "(LRibbonOfLacks$World;II)Z"⟩
abbrev cX0_isGain : ByteArray := prog_2_method_4_code
def yX0_isGain : MethodName := ⟨RX0, "isGain", "(LRibbonOfLacks$World;)Z"⟩
abbrev cX0_above : ByteArray := prog_2_method_5_code
def yX0_above : MethodName := ⟨RX0, "above", "()I"⟩
abbrev cX0_below : ByteArray := prog_2_method_6_code
def yX0_below : MethodName := ⟨RX0, "below", "()I"⟩
abbrev cX0_exchangeAt : ByteArray := prog_2_method_7_code
def yX0_exchangeAt : MethodName := ⟨RX0, "exchangeAt", "(I)I"⟩
def RX1 : String := "RibbonOfLacks$Letters"
def TX1 : u_T := fun k => match k with
  | 0 => ("RibbonOfLacks$Letters", "signs", "[I", true)
  | _ => ("RibbonOfLacks$Letters", "length", "I", false)
def tyX1 : Nat → FieldType := fun k => match k with
  | 0 => .array .int
  | _ => .int
theorem nmX1 : ∀ a, a < 2 → ∀ b, b < 2 → a ≠ b → (TX1 a).2.1 ≠ (TX1 b).2.1 := by decide +kernel
theorem tyX1_ok : ∀ k, k < 2 → parseFieldDescriptor (TX1 k).2.2.1 = some (tyX1 k) := by decide +kernel
abbrev cX1_init : ByteArray := prog_3_method_1_code
def yX1_init : MethodName := ⟨RX1, "<init>", "()V"⟩
abbrev cX1_append : ByteArray := prog_3_method_2_code
def yX1_append : MethodName := ⟨RX1, "append", "(I)Z"⟩
abbrev cX1_clear : ByteArray := prog_3_method_3_code
def yX1_clear : MethodName := ⟨RX1, "clear", "()V"⟩
abbrev cX1_size : ByteArray := prog_3_method_4_code
def yX1_size : MethodName := ⟨RX1, "size", "()I"⟩
abbrev cX1_signAt : ByteArray := prog_3_method_5_code
def yX1_signAt : MethodName := ⟨RX1, "signAt", "(I)I"⟩
def RX2 : String := "RibbonOfLacks$Pile"
def TX2 : u_T := fun k => match k with
  | 0 => ("RibbonOfLacks$Pile", "states", "[LRibbonOfLacks$State;", true)
  | _ => ("RibbonOfLacks$Pile", "height", "I", false)
def tyX2 : Nat → FieldType := fun k => match k with
  | 0 => .array (.object "RibbonOfLacks$State")
  | _ => .int
theorem nmX2 : ∀ a, a < 2 → ∀ b, b < 2 → a ≠ b → (TX2 a).2.1 ≠ (TX2 b).2.1 := by decide +kernel
theorem tyX2_ok : ∀ k, k < 2 → parseFieldDescriptor (TX2 k).2.2.1 = some (tyX2 k) := by decide +kernel
abbrev cX2_init : ByteArray := prog_4_method_1_code
def yX2_init : MethodName := ⟨RX2, "<init>", "(I)V"⟩
abbrev cX2_size : ByteArray := prog_4_method_2_code
def yX2_size : MethodName := ⟨RX2, "size", "()I"⟩
abbrev cX2_clear : ByteArray := prog_4_method_3_code
def yX2_clear : MethodName := ⟨RX2, "clear", "()V"⟩
abbrev cX2_push : ByteArray := prog_4_method_4_code
def yX2_push : MethodName := ⟨RX2, "push", "(LRibbonOfLacks$State;)V"⟩
abbrev cX2_forgetOldest : ByteArray := prog_4_method_5_code
def yX2_forgetOldest : MethodName := ⟨RX2, "forgetOldest", "()V"⟩
abbrev cX2_popInto : ByteArray := prog_4_method_6_code
def yX2_popInto : MethodName := ⟨RX2, "popInto", "(LRibbonOfLacks$State;)Z"⟩
def RX3 : String := "RibbonOfLacks$Planner"
def TX3 : u_T := fun k => match k with
  | 0 => ("RibbonOfLacks$Planner", "leastRibbon", "I", false)
  | 1 => ("RibbonOfLacks$Planner", "leastCost", "I", false)
  | 2 => ("RibbonOfLacks$Planner", "allUsed", "I", false)
  | 3 => ("RibbonOfLacks$Planner", "allCost", "I", false)
  | 4 => ("RibbonOfLacks$Planner", "tables", "LRibbonOfLacks$Tables;", true)
  | 5 => ("RibbonOfLacks$Planner", "allRibbons", "[I", true)
  | 6 => ("RibbonOfLacks$Planner", "looseBeasts", "[I", true)
  | 7 => ("RibbonOfLacks$Planner", "loosePulls", "[I", true)
  | 8 => ("RibbonOfLacks$Planner", "pullsFrom", "[I", true)
  | 9 => ("RibbonOfLacks$Planner", "holds", "[I", true)
  | 10 => ("RibbonOfLacks$Planner", "most", "[I", true)
  | _ => ("RibbonOfLacks$Planner", "loose", "I", false)
def tyX3 : Nat → FieldType := fun k => match k with
  | 0 => .int
  | 1 => .int
  | 2 => .int
  | 3 => .int
  | 4 => .object "RibbonOfLacks$Tables"
  | 5 => .array .int
  | 6 => .array .int
  | 7 => .array .int
  | 8 => .array .int
  | 9 => .array .int
  | 10 => .array .int
  | _ => .int
theorem nmX3 : ∀ a, a < 12 → ∀ b, b < 12 → a ≠ b → (TX3 a).2.1 ≠ (TX3 b).2.1 := by decide +kernel
theorem tyX3_ok : ∀ k, k < 12 → parseFieldDescriptor (TX3 k).2.2.1 = some (tyX3 k) := by decide +kernel
abbrev cX3_init : ByteArray := prog_5_method_1_code
def yX3_init : MethodName := ⟨RX3, "<init>", "(LRibbonOfLacks$Tables;)V"⟩
abbrev cX3_findLeast : ByteArray := prog_5_method_2_code
def yX3_findLeast : MethodName := ⟨RX3, "findLeast", "(II)Z"⟩
abbrev cX3_isBetter : ByteArray := prog_5_method_3_code
def yX3_isBetter : MethodName := ⟨RX3, "isBetter", "(IIII)Z"⟩
abbrev cX3_ribbonInAll : ByteArray := prog_5_method_4_code
def yX3_ribbonInAll : MethodName := ⟨RX3, "ribbonInAll", "(I)I"⟩
abbrev cX3_findAll : ByteArray := prog_5_method_5_code
def yX3_findAll : MethodName := ⟨RX3, "findAll", "(LRibbonOfLacks$World;LRibbonOfLacks$State;)Z"⟩
abbrev cX3_listLoose : ByteArray := prog_5_method_6_code
def yX3_listLoose : MethodName := ⟨RX3, "listLoose", "(LRibbonOfLacks$World;LRibbonOfLacks$State;)V"⟩
abbrev cX3_whoIsHeldBy : ByteArray := prog_5_method_7_code
def yX3_whoIsHeldBy : MethodName := ⟨RX3, "whoIsHeldBy", "(I)I"⟩
abbrev cX3_canHoldFrom : ByteArray := prog_5_method_8_code
def yX3_canHoldFrom : MethodName := ⟨RX3, "canHoldFrom", "(II)Z"⟩
abbrev cX3_smallerHoldsFrom : ByteArray := prog_5_method_9_code
def yX3_smallerHoldsFrom : MethodName := ⟨RX3, "smallerHoldsFrom", "(II)Z"⟩
abbrev cX3_isHeldFrom : ByteArray := prog_5_method_10_code
def yX3_isHeldFrom : MethodName := ⟨RX3, "isHeldFrom", "(II)Z"⟩
abbrev cX3_lowestRibbon : ByteArray := prog_5_method_11_code
def yX3_lowestRibbon : MethodName := ⟨RX3, "lowestRibbon", "(II)I"⟩
abbrev cX3_shareOut : ByteArray := prog_5_method_12_code
def yX3_shareOut : MethodName := ⟨RX3, "shareOut", "(I)V"⟩
abbrev cX3_mostBound : ByteArray := prog_5_method_13_code
def yX3_mostBound : MethodName := ⟨RX3, "mostBound", "(II)I"⟩
abbrev cX3_mostOutOf : ByteArray := prog_5_method_14_code
def yX3_mostOutOf : MethodName := ⟨RX3, "mostOutOf", "(II)I"⟩
abbrev cX3_mostKnown : ByteArray := prog_5_method_15_code
def yX3_mostKnown : MethodName := ⟨RX3, "mostKnown", "(I)I"⟩
def RX4 : String := "RibbonOfLacks$Reader"
def TX4 : u_T := fun k => match k with
  | 0 => ("RibbonOfLacks$Reader", "source", "LRibbonOfLacks$Letters;", true)
  | 1 => ("RibbonOfLacks$Reader", "numbers", "[I", true)
  | _ => ("RibbonOfLacks$Reader", "place", "I", false)
def tyX4 : Nat → FieldType := fun k => match k with
  | 0 => .object "RibbonOfLacks$Letters"
  | 1 => .array .int
  | _ => .int
theorem nmX4 : ∀ a, a < 3 → ∀ b, b < 3 → a ≠ b → (TX4 a).2.1 ≠ (TX4 b).2.1 := by decide +kernel
theorem tyX4_ok : ∀ k, k < 3 → parseFieldDescriptor (TX4 k).2.2.1 = some (tyX4 k) := by decide +kernel
abbrev cX4_init : ByteArray := prog_6_method_1_code
def yX4_init : MethodName := ⟨RX4, "<init>", "(LRibbonOfLacks$Letters;)V"⟩
abbrev cX4_readInto : ByteArray := prog_6_method_2_code
def yX4_readInto : MethodName := ⟨RX4, "readInto", "(LRibbonOfLacks$World;)I"⟩
abbrev cX4_readItem : ByteArray := prog_6_method_3_code
def yX4_readItem : MethodName := ⟨RX4, "readItem", "(LRibbonOfLacks$World;)Z"⟩
abbrev cX4_numbersBehind : ByteArray := prog_6_method_4_code
def yX4_numbersBehind : MethodName := ⟨RX4, "numbersBehind", "(I)I"⟩
abbrev cX4_readNumber : ByteArray := prog_6_method_5_code
def yX4_readNumber : MethodName := ⟨RX4, "readNumber", "()I"⟩
abbrev cX4_figureAt : ByteArray := prog_6_method_6_code
def yX4_figureAt : MethodName := ⟨RX4, "figureAt", "(I)I"⟩
def RX5 : String := "RibbonOfLacks$State"
def TX5 : u_T := fun k => match k with
  | 0 => ("RibbonOfLacks$State", "days", "I", false)
  | 1 => ("RibbonOfLacks$State", "ribbons", "[I", true)
  | 2 => ("RibbonOfLacks$State", "ages", "[I", true)
  | _ => ("RibbonOfLacks$State", "escapes", "[I", true)
def tyX5 : Nat → FieldType := fun k => match k with
  | 0 => .int
  | 1 => .array .int
  | 2 => .array .int
  | _ => .array .int
theorem nmX5 : ∀ a, a < 4 → ∀ b, b < 4 → a ≠ b → (TX5 a).2.1 ≠ (TX5 b).2.1 := by decide +kernel
theorem tyX5_ok : ∀ k, k < 4 → parseFieldDescriptor (TX5 k).2.2.1 = some (tyX5 k) := by decide +kernel
abbrev cX5_init : ByteArray := prog_7_method_1_code
def yX5_init : MethodName := ⟨RX5, "<init>", "()V"⟩
abbrev cX5_clear : ByteArray := prog_7_method_2_code
def yX5_clear : MethodName := ⟨RX5, "clear", "()V"⟩
abbrev cX5_copyFrom : ByteArray := prog_7_method_3_code
def yX5_copyFrom : MethodName := ⟨RX5, "copyFrom", "(LRibbonOfLacks$State;)V"⟩
abbrev cX5_isBound : ByteArray := prog_7_method_4_code
def yX5_isBound : MethodName := ⟨RX5, "isBound", "(I)Z"⟩
abbrev cX5_ribbonOf : ByteArray := prog_7_method_5_code
def yX5_ribbonOf : MethodName := ⟨RX5, "ribbonOf", "(I)I"⟩
abbrev cX5_ageOf : ByteArray := prog_7_method_6_code
def yX5_ageOf : MethodName := ⟨RX5, "ageOf", "(I)I"⟩
abbrev cX5_escapesOf : ByteArray := prog_7_method_7_code
def yX5_escapesOf : MethodName := ⟨RX5, "escapesOf", "(I)I"⟩
abbrev cX5_tie : ByteArray := prog_7_method_8_code
def yX5_tie : MethodName := ⟨RX5, "tie", "(II)V"⟩
abbrev cX5_untie : ByteArray := prog_7_method_9_code
def yX5_untie : MethodName := ⟨RX5, "untie", "(I)V"⟩
abbrev cX5_beastWith : ByteArray := prog_7_method_10_code
def yX5_beastWith : MethodName := ⟨RX5, "beastWith", "(I)I"⟩
abbrev cX5_gone : ByteArray := prog_7_method_11_code
def yX5_gone : MethodName := ⟨RX5, "gone", "()I"⟩
abbrev cX5_found : ByteArray := prog_7_method_12_code
def yX5_found : MethodName := ⟨RX5, "found", "(I)I"⟩
abbrev cX5_passDay : ByteArray := prog_7_method_13_code
def yX5_passDay : MethodName := ⟨RX5, "passDay", "(LRibbonOfLacks$World;LRibbonOfLacks$Tables;)I"⟩
def RX6 : String := "RibbonOfLacks$Tables"
def TX6 : u_T := fun k => match k with
  | 0 => ("RibbonOfLacks$Tables", "size", "I", false)
  | 1 => ("RibbonOfLacks$Tables", "strengths", "[I", true)
  | 2 => ("RibbonOfLacks$Tables", "followers", "[I", true)
  | 3 => ("RibbonOfLacks$Tables", "missers", "[I", true)
  | _ => ("RibbonOfLacks$Tables", "losses", "[I", true)
def tyX6 : Nat → FieldType := fun k => match k with
  | 0 => .int
  | 1 => .array .int
  | 2 => .array .int
  | 3 => .array .int
  | _ => .array .int
theorem nmX6 : ∀ a, a < 5 → ∀ b, b < 5 → a ≠ b → (TX6 a).2.1 ≠ (TX6 b).2.1 := by decide +kernel
theorem tyX6_ok : ∀ k, k < 5 → parseFieldDescriptor (TX6 k).2.2.1 = some (tyX6 k) := by decide +kernel
abbrev cX6_init : ByteArray := prog_8_method_1_code
def yX6_init : MethodName := ⟨RX6, "<init>", "()V"⟩
abbrev cX6_fillFrom : ByteArray := prog_8_method_2_code
def yX6_fillFrom : MethodName := ⟨RX6, "fillFrom", "(LRibbonOfLacks$World;)V"⟩
abbrev cX6_sumOfStrength : ByteArray := prog_8_method_3_code
def yX6_sumOfStrength : MethodName := ⟨RX6, "sumOfStrength", "(LRibbonOfLacks$World;I)I"⟩
abbrev cX6_spread : ByteArray := prog_8_method_4_code
def yX6_spread : MethodName := ⟨RX6, "spread", "(LRibbonOfLacks$World;I)I"⟩
abbrev cX6_thoseWhoMiss : ByteArray := prog_8_method_5_code
def yX6_thoseWhoMiss : MethodName := ⟨RX6, "thoseWhoMiss", "(LRibbonOfLacks$World;I)I"⟩
abbrev cX6_sumOfWeights : ByteArray := prog_8_method_6_code
def yX6_sumOfWeights : MethodName := ⟨RX6, "sumOfWeights", "(LRibbonOfLacks$World;I)I"⟩
abbrev cX6_isSet : ByteArray := prog_8_method_7_code
def yX6_isSet : MethodName := ⟨RX6, "isSet", "(I)Z"⟩
abbrev cX6_strengthOf : ByteArray := prog_8_method_8_code
def yX6_strengthOf : MethodName := ⟨RX6, "strengthOf", "(I)I"⟩
abbrev cX6_followersOf : ByteArray := prog_8_method_9_code
def yX6_followersOf : MethodName := ⟨RX6, "followersOf", "(I)I"⟩
abbrev cX6_missersOf : ByteArray := prog_8_method_10_code
def yX6_missersOf : MethodName := ⟨RX6, "missersOf", "(I)I"⟩
abbrev cX6_lossOf : ByteArray := prog_8_method_11_code
def yX6_lossOf : MethodName := ⟨RX6, "lossOf", "(I)I"⟩
abbrev cX6_costOf : ByteArray := prog_8_method_12_code
def yX6_costOf : MethodName := ⟨RX6, "costOf", "(II)I"⟩
abbrev cX6_thereBesides : ByteArray := prog_8_method_13_code
def yX6_thereBesides : MethodName := ⟨RX6, "thereBesides", "(I)I"⟩
def RX7 : String := "RibbonOfLacks$World"
def TX7 : u_T := fun k => match k with
  | 0 => ("RibbonOfLacks$World", "things", "I", false)
  | 1 => ("RibbonOfLacks$World", "needs", "I", false)
  | 2 => ("RibbonOfLacks$World", "persons", "I", false)
  | 3 => ("RibbonOfLacks$World", "beasts", "I", false)
  | 4 => ("RibbonOfLacks$World", "exchanges", "I", false)
  | 5 => ("RibbonOfLacks$World", "soundThings", "I", false)
  | 6 => ("RibbonOfLacks$World", "lentThings", "I", false)
  | 7 => ("RibbonOfLacks$World", "lateThings", "I", false)
  | 8 => ("RibbonOfLacks$World", "strengths", "[I", true)
  | 9 => ("RibbonOfLacks$World", "kinds", "[I", true)
  | 10 => ("RibbonOfLacks$World", "needers", "[I", true)
  | 11 => ("RibbonOfLacks$World", "needed", "[I", true)
  | 12 => ("RibbonOfLacks$World", "missedThings", "[I", true)
  | 13 => ("RibbonOfLacks$World", "weights", "[I", true)
  | 14 => ("RibbonOfLacks$World", "pulls", "[I", true)
  | 15 => ("RibbonOfLacks$World", "taken", "[I", true)
  | 16 => ("RibbonOfLacks$World", "given", "[I", true)
  | 17 => ("RibbonOfLacks$World", "takenMuch", "[I", true)
  | _ => ("RibbonOfLacks$World", "givenMuch", "[I", true)
def tyX7 : Nat → FieldType := fun k => match k with
  | 0 => .int
  | 1 => .int
  | 2 => .int
  | 3 => .int
  | 4 => .int
  | 5 => .int
  | 6 => .int
  | 7 => .int
  | 8 => .array .int
  | 9 => .array .int
  | 10 => .array .int
  | 11 => .array .int
  | 12 => .array .int
  | 13 => .array .int
  | 14 => .array .int
  | 15 => .array .int
  | 16 => .array .int
  | 17 => .array .int
  | _ => .array .int
theorem nmX7 : ∀ a, a < 19 → ∀ b, b < 19 → a ≠ b → (TX7 a).2.1 ≠ (TX7 b).2.1 := by decide +kernel
theorem tyX7_ok : ∀ k, k < 19 → parseFieldDescriptor (TX7 k).2.2.1 = some (tyX7 k) := by decide +kernel
abbrev cX7_init : ByteArray := prog_9_method_1_code
def yX7_init : MethodName := ⟨RX7, "<init>", "()V"⟩
abbrev cX7_clear : ByteArray := prog_9_method_2_code
def yX7_clear : MethodName := ⟨RX7, "clear", "()V"⟩
abbrev cX7_take : ByteArray := prog_9_method_3_code
def yX7_take : MethodName := ⟨RX7, "take", "(IIIII)Z"⟩
abbrev cX7_takeThing : ByteArray := prog_9_method_4_code
def yX7_takeThing : MethodName := ⟨RX7, "takeThing", "(II)Z"⟩
abbrev cX7_takeNeed : ByteArray := prog_9_method_5_code
def yX7_takeNeed : MethodName := ⟨RX7, "takeNeed", "(II)Z"⟩
abbrev cX7_takePerson : ByteArray := prog_9_method_6_code
def yX7_takePerson : MethodName := ⟨RX7, "takePerson", "(II)Z"⟩
abbrev cX7_takeBeast : ByteArray := prog_9_method_7_code
def yX7_takeBeast : MethodName := ⟨RX7, "takeBeast", "(I)Z"⟩
abbrev cX7_takeExchange : ByteArray := prog_9_method_8_code
def yX7_takeExchange : MethodName := ⟨RX7, "takeExchange", "(IIII)Z"⟩
abbrev cX7_areTwoThings : ByteArray := prog_9_method_9_code
def yX7_areTwoThings : MethodName := ⟨RX7, "areTwoThings", "(II)Z"⟩
abbrev cX7_isOneFigure : ByteArray := prog_9_method_10_code
def yX7_isOneFigure : MethodName := ⟨RX7, "isOneFigure", "(I)Z"⟩
abbrev cX7_entry : ByteArray := prog_9_method_11_code
def yX7_entry : MethodName := ⟨RX7, "entry", "([II)I"⟩
abbrev cX7_strengthOfThing : ByteArray := prog_9_method_12_code
def yX7_strengthOfThing : MethodName := ⟨RX7, "strengthOfThing", "(I)I"⟩
abbrev cX7_kindOfThing : ByteArray := prog_9_method_13_code
def yX7_kindOfThing : MethodName := ⟨RX7, "kindOfThing", "(I)I"⟩
abbrev cX7_neederOf : ByteArray := prog_9_method_14_code
def yX7_neederOf : MethodName := ⟨RX7, "neederOf", "(I)I"⟩
abbrev cX7_neededOf : ByteArray := prog_9_method_15_code
def yX7_neededOf : MethodName := ⟨RX7, "neededOf", "(I)I"⟩
abbrev cX7_thingOfPerson : ByteArray := prog_9_method_16_code
def yX7_thingOfPerson : MethodName := ⟨RX7, "thingOfPerson", "(I)I"⟩
abbrev cX7_weightOfPerson : ByteArray := prog_9_method_17_code
def yX7_weightOfPerson : MethodName := ⟨RX7, "weightOfPerson", "(I)I"⟩
abbrev cX7_pullOfBeast : ByteArray := prog_9_method_18_code
def yX7_pullOfBeast : MethodName := ⟨RX7, "pullOfBeast", "(I)I"⟩
abbrev cX7_takenBy : ByteArray := prog_9_method_19_code
def yX7_takenBy : MethodName := ⟨RX7, "takenBy", "(I)I"⟩
abbrev cX7_givenBy : ByteArray := prog_9_method_20_code
def yX7_givenBy : MethodName := ⟨RX7, "givenBy", "(I)I"⟩
abbrev cX7_takenMuchBy : ByteArray := prog_9_method_21_code
def yX7_takenMuchBy : MethodName := ⟨RX7, "takenMuchBy", "(I)I"⟩
abbrev cX7_givenMuchBy : ByteArray := prog_9_method_22_code
def yX7_givenMuchBy : MethodName := ⟨RX7, "givenMuchBy", "(I)I"⟩
def RX8 : String := "RibbonOfLacks"
def TX8 : u_T := fun k => match k with
  | 0 => ("RibbonOfLacks", "text", "LRibbonOfLacks$Letters;", true)
  | 1 => ("RibbonOfLacks", "reader", "LRibbonOfLacks$Reader;", true)
  | 2 => ("RibbonOfLacks", "laid", "LRibbonOfLacks$World;", false)
  | 3 => ("RibbonOfLacks", "draft", "LRibbonOfLacks$World;", false)
  | 4 => ("RibbonOfLacks", "tables", "LRibbonOfLacks$Tables;", true)
  | 5 => ("RibbonOfLacks", "now", "LRibbonOfLacks$State;", true)
  | 6 => ("RibbonOfLacks", "imagined", "LRibbonOfLacks$State;", true)
  | 7 => ("RibbonOfLacks", "undoable", "LRibbonOfLacks$Pile;", true)
  | 8 => ("RibbonOfLacks", "keptOnes", "LRibbonOfLacks$Pile;", true)
  | 9 => ("RibbonOfLacks", "planner", "LRibbonOfLacks$Planner;", true)
  | _ => ("RibbonOfLacks", "gains", "LRibbonOfLacks$GainSearch;", true)
def tyX8 : Nat → FieldType := fun k => match k with
  | 0 => .object "RibbonOfLacks$Letters"
  | 1 => .object "RibbonOfLacks$Reader"
  | 2 => .object "RibbonOfLacks$World"
  | 3 => .object "RibbonOfLacks$World"
  | 4 => .object "RibbonOfLacks$Tables"
  | 5 => .object "RibbonOfLacks$State"
  | 6 => .object "RibbonOfLacks$State"
  | 7 => .object "RibbonOfLacks$Pile"
  | 8 => .object "RibbonOfLacks$Pile"
  | 9 => .object "RibbonOfLacks$Planner"
  | _ => .object "RibbonOfLacks$GainSearch"
theorem nmX8 : ∀ a, a < 11 → ∀ b, b < 11 → a ≠ b → (TX8 a).2.1 ≠ (TX8 b).2.1 := by decide +kernel
theorem tyX8_ok : ∀ k, k < 11 → parseFieldDescriptor (TX8 k).2.2.1 = some (tyX8 k) := by decide +kernel
abbrev cX8_init : ByteArray := prog_1_method_1_code
def yX8_init : MethodName := ⟨RX8, "<init>", "()V"⟩
abbrev cX8_write : ByteArray := prog_1_method_2_code
def yX8_write : MethodName := ⟨RX8, "write", "(I)I"⟩
abbrev cX8_wipe : ByteArray := prog_1_method_3_code
def yX8_wipe : MethodName := ⟨RX8, "wipe", "()I"⟩
abbrev cX8_fault : ByteArray := prog_1_method_4_code
def yX8_fault : MethodName := ⟨RX8, "fault", "()I"⟩
abbrev cX8_lay : ByteArray := prog_1_method_5_code
def yX8_lay : MethodName := ⟨RX8, "lay", "()I"⟩
abbrev cX8_layTheText : ByteArray := prog_1_method_6_code
def yX8_layTheText : MethodName := ⟨RX8, "layTheText", "()Z"⟩
abbrev cX8_thing : ByteArray := prog_1_method_7_code
def yX8_thing : MethodName := ⟨RX8, "thing", "(II)I"⟩
abbrev cX8_person : ByteArray := prog_1_method_8_code
def yX8_person : MethodName := ⟨RX8, "person", "(II)I"⟩
abbrev cX8_beast : ByteArray := prog_1_method_9_code
def yX8_beast : MethodName := ⟨RX8, "beast", "(II)I"⟩
abbrev cX8_strength : ByteArray := prog_1_method_10_code
def yX8_strength : MethodName := ⟨RX8, "strength", "(I)I"⟩
abbrev cX8_follows : ByteArray := prog_1_method_11_code
def yX8_follows : MethodName := ⟨RX8, "follows", "(I)I"⟩
abbrev cX8_missed : ByteArray := prog_1_method_12_code
def yX8_missed : MethodName := ⟨RX8, "missed", "()I"⟩
abbrev cX8_bind : ByteArray := prog_1_method_13_code
def yX8_bind : MethodName := ⟨RX8, "bind", "(II)I"⟩
abbrev cX8_loosen : ByteArray := prog_1_method_14_code
def yX8_loosen : MethodName := ⟨RX8, "loosen", "(I)I"⟩
abbrev cX8_days : ByteArray := prog_1_method_15_code
def yX8_days : MethodName := ⟨RX8, "days", "(I)I"⟩
abbrev cX8_undo : ByteArray := prog_1_method_16_code
def yX8_undo : MethodName := ⟨RX8, "undo", "()I"⟩
abbrev cX8_cost : ByteArray := prog_1_method_17_code
def yX8_cost : MethodName := ⟨RX8, "cost", "(I)I"⟩
abbrev cX8_least : ByteArray := prog_1_method_18_code
def yX8_least : MethodName := ⟨RX8, "least", "(II)I"⟩
abbrev cX8_all : ByteArray := prog_1_method_19_code
def yX8_all : MethodName := ⟨RX8, "all", "(I)I"⟩
abbrev cX8_more : ByteArray := prog_1_method_20_code
def yX8_more : MethodName := ⟨RX8, "more", "(I)I"⟩
abbrev cX8_worst : ByteArray := prog_1_method_21_code
def yX8_worst : MethodName := ⟨RX8, "worst", "(I)I"⟩
abbrev cX8_back : ByteArray := prog_1_method_22_code
def yX8_back : MethodName := ⟨RX8, "back", "(I)I"⟩
abbrev cX8_missing : ByteArray := prog_1_method_23_code
def yX8_missing : MethodName := ⟨RX8, "missing", "(III)I"⟩
abbrev cX8_trial : ByteArray := prog_1_method_24_code
def yX8_trial : MethodName := ⟨RX8, "trial", "(IIII)J"⟩
abbrev cX8_pledge : ByteArray := prog_1_method_25_code
def yX8_pledge : MethodName := ⟨RX8, "pledge", "(I)I"⟩
abbrev cX8_pledgeRests : ByteArray := prog_1_method_26_code
def yX8_pledgeRests : MethodName := ⟨RX8, "pledgeRests", "(II)Z"⟩
abbrev cX8_pledgeLoss : ByteArray := prog_1_method_27_code
def yX8_pledgeLoss : MethodName := ⟨RX8, "pledgeLoss", "(II)I"⟩
abbrev cX8_gain : ByteArray := prog_1_method_28_code
def yX8_gain : MethodName := ⟨RX8, "gain", "(I)I"⟩
abbrev cX8_row : ByteArray := prog_1_method_29_code
def yX8_row : MethodName := ⟨RX8, "row", "(III)I"⟩
abbrev cX8_actByDraw : ByteArray := prog_1_method_30_code
def yX8_actByDraw : MethodName := ⟨RX8, "actByDraw", "(LRibbonOfLacks$State;I)V"⟩
abbrev cX8_keep : ByteArray := prog_1_method_31_code
def yX8_keep : MethodName := ⟨RX8, "keep", "()I"⟩
abbrev cX8_restore : ByteArray := prog_1_method_32_code
def yX8_restore : MethodName := ⟨RX8, "restore", "()I"⟩
abbrev cX8_count : ByteArray := prog_1_method_33_code
def yX8_count : MethodName := ⟨RX8, "count", "(I)I"⟩
abbrev cX8_isThing : ByteArray := prog_1_method_34_code
def yX8_isThing : MethodName := ⟨RX8, "isThing", "(I)Z"⟩
abbrev cX8_isBeast : ByteArray := prog_1_method_35_code
def yX8_isBeast : MethodName := ⟨RX8, "isBeast", "(I)Z"⟩
abbrev cX8_isThere : ByteArray := prog_1_method_36_code
def yX8_isThere : MethodName := ⟨RX8, "isThere", "(I)Z"⟩
abbrev cX8_missedIn : ByteArray := prog_1_method_37_code
def yX8_missedIn : MethodName := ⟨RX8, "missedIn", "(LRibbonOfLacks$State;)I"⟩
abbrev cX8_draw : ByteArray := prog_1_method_38_code
def yX8_draw : MethodName := ⟨RX8, "draw", "(II)I"⟩
abbrev cX8_power : ByteArray := prog_1_method_39_code
def yX8_power : MethodName := ⟨RX8, "power", "(II)J"⟩
abbrev cX8_commonDivisor : ByteArray := prog_1_method_40_code
def yX8_commonDivisor : MethodName := ⟨RX8, "commonDivisor", "(JJ)J"⟩
def RX9 : String := "RibbonOfLacksModel"
def TX9 : u_T := fun k => match k with
  | 0 => ("RibbonOfLacksModel", "row", "[I", true)
  | 1 => ("RibbonOfLacksModel", "pastMany", "I", false)
  | 2 => ("RibbonOfLacksModel", "keptMany", "I", false)
  | 3 => ("RibbonOfLacksModel", "text", "[I", true)
  | 4 => ("RibbonOfLacksModel", "length", "I", false)
  | 5 => ("RibbonOfLacksModel", "things", "I", false)
  | 6 => ("RibbonOfLacksModel", "strengths", "[I", true)
  | 7 => ("RibbonOfLacksModel", "kinds", "[I", true)
  | 8 => ("RibbonOfLacksModel", "needers", "[I", true)
  | 9 => ("RibbonOfLacksModel", "needMany", "I", false)
  | 10 => ("RibbonOfLacksModel", "persons", "I", false)
  | 11 => ("RibbonOfLacksModel", "misses", "[I", true)
  | 12 => ("RibbonOfLacksModel", "weights", "[I", true)
  | 13 => ("RibbonOfLacksModel", "beasts", "I", false)
  | 14 => ("RibbonOfLacksModel", "pulls", "[I", true)
  | 15 => ("RibbonOfLacksModel", "exchanges", "I", false)
  | 16 => ("RibbonOfLacksModel", "changes", "[I", true)
  | 17 => ("RibbonOfLacksModel", "at", "I", false)
  | 18 => ("RibbonOfLacksModel", "told", "[I", true)
  | 19 => ("RibbonOfLacksModel", "readThings", "I", false)
  | 20 => ("RibbonOfLacksModel", "readNeeds", "I", false)
  | 21 => ("RibbonOfLacksModel", "readPersons", "I", false)
  | 22 => ("RibbonOfLacksModel", "readBeasts", "I", false)
  | 23 => ("RibbonOfLacksModel", "readChanges", "I", false)
  | 24 => ("RibbonOfLacksModel", "holds", "[Z", true)
  | 25 => ("RibbonOfLacksModel", "ribbonStrengths", "[I", true)
  | 26 => ("RibbonOfLacksModel", "mosts", "[I", true)
  | _ => ("RibbonOfLacksModel", "chain", "[I", true)
def tyX9 : Nat → FieldType := fun k => match k with
  | 0 => .array .int
  | 1 => .int
  | 2 => .int
  | 3 => .array .int
  | 4 => .int
  | 5 => .int
  | 6 => .array .int
  | 7 => .array .int
  | 8 => .array .int
  | 9 => .int
  | 10 => .int
  | 11 => .array .int
  | 12 => .array .int
  | 13 => .int
  | 14 => .array .int
  | 15 => .int
  | 16 => .array .int
  | 17 => .int
  | 18 => .array .int
  | 19 => .int
  | 20 => .int
  | 21 => .int
  | 22 => .int
  | 23 => .int
  | 24 => .array .boolean
  | 25 => .array .int
  | 26 => .array .int
  | _ => .array .int
theorem nmX9 : ∀ a, a < 28 → ∀ b, b < 28 → a ≠ b → (TX9 a).2.1 ≠ (TX9 b).2.1 := by decide +kernel
theorem tyX9_ok : ∀ k, k < 28 → parseFieldDescriptor (TX9 k).2.2.1 = some (tyX9 k) := by decide +kernel
abbrev cX9_init : ByteArray := prog_11_method_1_code
def yX9_init : MethodName := ⟨RX9, "<init>", "()V"⟩
abbrev cX9_in : ByteArray := prog_11_method_2_code
def yX9_in : MethodName := ⟨RX9, "in", "(JJJ)Z"⟩
abbrev cX9_has : ByteArray := prog_11_method_3_code
def yX9_has : MethodName := ⟨RX9, "has", "(II)Z"⟩
abbrev cX9_bits : ByteArray := prog_11_method_4_code
def yX9_bits : MethodName := ⟨RX9, "bits", "(I)I"⟩
abbrev cX9_addThing : ByteArray := prog_11_method_5_code
def yX9_addThing : MethodName := ⟨RX9, "addThing", "(II)V"⟩
abbrev cX9_addNeed : ByteArray := prog_11_method_6_code
def yX9_addNeed : MethodName := ⟨RX9, "addNeed", "(II)V"⟩
abbrev cX9_addPerson : ByteArray := prog_11_method_7_code
def yX9_addPerson : MethodName := ⟨RX9, "addPerson", "(II)V"⟩
abbrev cX9_addBeast : ByteArray := prog_11_method_8_code
def yX9_addBeast : MethodName := ⟨RX9, "addBeast", "(I)V"⟩
abbrev cX9_addChange : ByteArray := prog_11_method_9_code
def yX9_addChange : MethodName := ⟨RX9, "addChange", "(IIII)V"⟩
abbrev cX9_begin : ByteArray := prog_11_method_10_code
def yX9_begin : MethodName := ⟨RX9, "begin", "()V"⟩
abbrev cX9_write : ByteArray := prog_11_method_11_code
def yX9_write : MethodName := ⟨RX9, "write", "(I)I"⟩
abbrev cX9_wipe : ByteArray := prog_11_method_12_code
def yX9_wipe : MethodName := ⟨RX9, "wipe", "()I"⟩
abbrev cX9_isFigure : ByteArray := prog_11_method_13_code
def yX9_isFigure : MethodName := ⟨RX9, "isFigure", "(I)Z"⟩
abbrev cX9_isThere : ByteArray := prog_11_method_14_code
def yX9_isThere : MethodName := ⟨RX9, "isThere", "(I)Z"⟩
abbrev cX9_reads : ByteArray := prog_11_method_15_code
def yX9_reads : MethodName := ⟨RX9, "reads", "(III)Z"⟩
abbrev cX9_readsComma : ByteArray := prog_11_method_16_code
def yX9_readsComma : MethodName := ⟨RX9, "readsComma", "()Z"⟩
abbrev cX9_readsTwo : ByteArray := prog_11_method_17_code
def yX9_readsTwo : MethodName := ⟨RX9, "readsTwo", "(III)Z"⟩
abbrev cX9_readsChange : ByteArray := prog_11_method_18_code
def yX9_readsChange : MethodName := ⟨RX9, "readsChange", "()Z"⟩
abbrev cX9_readsNumbers : ByteArray := prog_11_method_19_code
def yX9_readsNumbers : MethodName := ⟨RX9, "readsNumbers", "(I)Z"⟩
abbrev cX9_readsItem : ByteArray := prog_11_method_20_code
def yX9_readsItem : MethodName := ⟨RX9, "readsItem", "()I"⟩
abbrev cX9_beginToRead : ByteArray := prog_11_method_21_code
def yX9_beginToRead : MethodName := ⟨RX9, "beginToRead", "()V"⟩
abbrev cX9_fault : ByteArray := prog_11_method_22_code
def yX9_fault : MethodName := ⟨RX9, "fault", "()I"⟩
abbrev cX9_tell : ByteArray := prog_11_method_23_code
def yX9_tell : MethodName := ⟨RX9, "tell", "(I)V"⟩
abbrev cX9_lay : ByteArray := prog_11_method_24_code
def yX9_lay : MethodName := ⟨RX9, "lay", "()I"⟩
abbrev cX9_isThing : ByteArray := prog_11_method_25_code
def yX9_isThing : MethodName := ⟨RX9, "isThing", "(I)Z"⟩
abbrev cX9_isBeast : ByteArray := prog_11_method_26_code
def yX9_isBeast : MethodName := ⟨RX9, "isBeast", "(I)Z"⟩
abbrev cX9_isSet : ByteArray := prog_11_method_27_code
def yX9_isSet : MethodName := ⟨RX9, "isSet", "(I)Z"⟩
abbrev cX9_strengthOf : ByteArray := prog_11_method_28_code
def yX9_strengthOf : MethodName := ⟨RX9, "strengthOf", "(I)I"⟩
abbrev cX9_followsOf : ByteArray := prog_11_method_29_code
def yX9_followsOf : MethodName := ⟨RX9, "followsOf", "(I)I"⟩
abbrev cX9_goneIn : ByteArray := prog_11_method_30_code
def yX9_goneIn : MethodName := ⟨RX9, "goneIn", "(I)I"⟩
abbrev cX9_thereIn : ByteArray := prog_11_method_31_code
def yX9_thereIn : MethodName := ⟨RX9, "thereIn", "(I)I"⟩
abbrev cX9_lateSet : ByteArray := prog_11_method_32_code
def yX9_lateSet : MethodName := ⟨RX9, "lateSet", "()I"⟩
abbrev cX9_foundIn : ByteArray := prog_11_method_33_code
def yX9_foundIn : MethodName := ⟨RX9, "foundIn", "(I)I"⟩
abbrev cX9_missedBy : ByteArray := prog_11_method_34_code
def yX9_missedBy : MethodName := ⟨RX9, "missedBy", "(I)I"⟩
abbrev cX9_missedIn : ByteArray := prog_11_method_35_code
def yX9_missedIn : MethodName := ⟨RX9, "missedIn", "(I)I"⟩
abbrev cX9_costIn : ByteArray := prog_11_method_36_code
def yX9_costIn : MethodName := ⟨RX9, "costIn", "(II)I"⟩
abbrev cX9_thing : ByteArray := prog_11_method_37_code
def yX9_thing : MethodName := ⟨RX9, "thing", "(II)I"⟩
abbrev cX9_person : ByteArray := prog_11_method_38_code
def yX9_person : MethodName := ⟨RX9, "person", "(II)I"⟩
abbrev cX9_beast : ByteArray := prog_11_method_39_code
def yX9_beast : MethodName := ⟨RX9, "beast", "(II)I"⟩
abbrev cX9_strength : ByteArray := prog_11_method_40_code
def yX9_strength : MethodName := ⟨RX9, "strength", "(I)I"⟩
abbrev cX9_follows : ByteArray := prog_11_method_41_code
def yX9_follows : MethodName := ⟨RX9, "follows", "(I)I"⟩
abbrev cX9_missed : ByteArray := prog_11_method_42_code
def yX9_missed : MethodName := ⟨RX9, "missed", "()I"⟩
abbrev cX9_copy : ByteArray := prog_11_method_43_code
def yX9_copy : MethodName := ⟨RX9, "copy", "(II)V"⟩
abbrev cX9_keepPast : ByteArray := prog_11_method_44_code
def yX9_keepPast : MethodName := ⟨RX9, "keepPast", "()V"⟩
abbrev cX9_bindIn : ByteArray := prog_11_method_45_code
def yX9_bindIn : MethodName := ⟨RX9, "bindIn", "(III)V"⟩
abbrev cX9_bind : ByteArray := prog_11_method_46_code
def yX9_bind : MethodName := ⟨RX9, "bind", "(II)I"⟩
abbrev cX9_loosen : ByteArray := prog_11_method_47_code
def yX9_loosen : MethodName := ⟨RX9, "loosen", "(I)I"⟩
abbrev cX9_lentIn : ByteArray := prog_11_method_48_code
def yX9_lentIn : MethodName := ⟨RX9, "lentIn", "(I)I"⟩
abbrev cX9_dayIn : ByteArray := prog_11_method_49_code
def yX9_dayIn : MethodName := ⟨RX9, "dayIn", "(I)I"⟩
abbrev cX9_days : ByteArray := prog_11_method_50_code
def yX9_days : MethodName := ⟨RX9, "days", "(I)I"⟩
abbrev cX9_undo : ByteArray := prog_11_method_51_code
def yX9_undo : MethodName := ⟨RX9, "undo", "()I"⟩
abbrev cX9_cost : ByteArray := prog_11_method_52_code
def yX9_cost : MethodName := ⟨RX9, "cost", "(I)I"⟩
abbrev cX9_leastIn : ByteArray := prog_11_method_53_code
def yX9_leastIn : MethodName := ⟨RX9, "leastIn", "(II)I"⟩
abbrev cX9_least : ByteArray := prog_11_method_54_code
def yX9_least : MethodName := ⟨RX9, "least", "(II)I"⟩
abbrev cX9_lowest : ByteArray := prog_11_method_55_code
def yX9_lowest : MethodName := ⟨RX9, "lowest", "(I)I"⟩
abbrev cX9_canHold : ByteArray := prog_11_method_56_code
def yX9_canHold : MethodName := ⟨RX9, "canHold", "(II)Z"⟩
abbrev cX9_unbound : ByteArray := prog_11_method_57_code
def yX9_unbound : MethodName := ⟨RX9, "unbound", "()I"⟩
abbrev cX9_layHolds : ByteArray := prog_11_method_58_code
def yX9_layHolds : MethodName := ⟨RX9, "layHolds", "(I)V"⟩
abbrev cX9_usedByAll : ByteArray := prog_11_method_59_code
def yX9_usedByAll : MethodName := ⟨RX9, "usedByAll", "()I"⟩
abbrev cX9_ribbonOf : ByteArray := prog_11_method_60_code
def yX9_ribbonOf : MethodName := ⟨RX9, "ribbonOf", "(II)I"⟩
abbrev cX9_all : ByteArray := prog_11_method_61_code
def yX9_all : MethodName := ⟨RX9, "all", "(I)I"⟩
abbrev cX9_more : ByteArray := prog_11_method_62_code
def yX9_more : MethodName := ⟨RX9, "more", "(I)I"⟩
abbrev cX9_worst : ByteArray := prog_11_method_63_code
def yX9_worst : MethodName := ⟨RX9, "worst", "(I)I"⟩
abbrev cX9_back : ByteArray := prog_11_method_64_code
def yX9_back : MethodName := ⟨RX9, "back", "(I)I"⟩
abbrev cX9_whoMiss : ByteArray := prog_11_method_65_code
def yX9_whoMiss : MethodName := ⟨RX9, "whoMiss", "(I)I"⟩
abbrev cX9_missing : ByteArray := prog_11_method_66_code
def yX9_missing : MethodName := ⟨RX9, "missing", "(III)I"⟩
abbrev cX9_divisor : ByteArray := prog_11_method_67_code
def yX9_divisor : MethodName := ⟨RX9, "divisor", "(JJ)J"⟩
abbrev cX9_power : ByteArray := prog_11_method_68_code
def yX9_power : MethodName := ⟨RX9, "power", "(JI)J"⟩
abbrev cX9_trial : ByteArray := prog_11_method_69_code
def yX9_trial : MethodName := ⟨RX9, "trial", "(IIII)J"⟩
abbrev cX9_losesBy : ByteArray := prog_11_method_70_code
def yX9_losesBy : MethodName := ⟨RX9, "losesBy", "(II)I"⟩
abbrev cX9_rests : ByteArray := prog_11_method_71_code
def yX9_rests : MethodName := ⟨RX9, "rests", "(II)Z"⟩
abbrev cX9_pledge : ByteArray := prog_11_method_72_code
def yX9_pledge : MethodName := ⟨RX9, "pledge", "(I)I"⟩
abbrev cX9_layChain : ByteArray := prog_11_method_73_code
def yX9_layChain : MethodName := ⟨RX9, "layChain", "(II)V"⟩
abbrev cX9_gains : ByteArray := prog_11_method_74_code
def yX9_gains : MethodName := ⟨RX9, "gains", "(I)Z"⟩
abbrev cX9_gain : ByteArray := prog_11_method_75_code
def yX9_gain : MethodName := ⟨RX9, "gain", "(I)I"⟩
abbrev cX9_ofChain : ByteArray := prog_11_method_76_code
def yX9_ofChain : MethodName := ⟨RX9, "ofChain", "(II)I"⟩
abbrev cX9_row : ByteArray := prog_11_method_77_code
def yX9_row : MethodName := ⟨RX9, "row", "(III)I"⟩
abbrev cX9_keep : ByteArray := prog_11_method_78_code
def yX9_keep : MethodName := ⟨RX9, "keep", "()I"⟩
abbrev cX9_restore : ByteArray := prog_11_method_79_code
def yX9_restore : MethodName := ⟨RX9, "restore", "()I"⟩
abbrev cX9_count : ByteArray := prog_11_method_80_code
def yX9_count : MethodName := ⟨RX9, "count", "(I)I"⟩
end
section
/-! ===== one big world: every cell of both objects at a place; methods over places, numbers as whole numbers ===== -/
abbrev AV : Type := Int ⊕ (Int ⊕ Nat)
abbrev vI (x : Int) : AV := Sum.inl x
abbrev vL (x : Int) : AV := Sum.inr (Sum.inl x)
abbrev vR (q : Nat) : AV := Sum.inr (Sum.inr q)
/-- how many places there are, the numbers, the references (0: null) -/
abbrev MM : Type := Nat × (Nat → Nat → Int) × (Nat → Nat → Nat)
abbrev MI : Type := MethodName × ByteArray × Nat × Option FieldType
abbrev GG : Type := Launch × va_G × (Nat → ClassId) × Nat × (Nat → Nat)
abbrev R32 (x : Int) : Prop := -2147483648 ≤ x ∧ x < 2147483648
abbrev R64 (x : Int) : Prop := -9223372036854775808 ≤ x ∧ x < 9223372036854775808
def cr (ad : Nat → Nat) (q : Nat) : Value := if q = 0 then .null else .ref (ad q)
def cv (ad : Nat → Nat) : AV → Value
  | .inl x => .int (Int32.ofInt x)
  | .inr (.inl x) => .long (Int64.ofInt x)
  | .inr (.inr q) => cr ad q
def vok (n : Nat) : AV → Prop
  | .inl x => R32 x
  | .inr (.inl x) => R64 x
  | .inr (.inr q) => q ≤ n ∨ 700 ≤ q
def wide : AV → Bool
  | .inr (.inl _) => true
  | _ => false
def kdL : List Nat := [99, 8, 1, 10, 4, 10, 7, 10, 10, 10, 10, 10, 10, 10, 10, 10, 10, 10, 7, 10, 10, 10, 10, 10, 10, 10, 10, 10, 10, 10, 6, 10, 10, 10, 10, 5, 10, 10, 10, 5, 10, 10, 10, 2, 12, 5, 10, 10, 10, 5, 10, 10, 10, 5, 10, 10, 10, 5, 10, 10, 10, 5, 10, 10, 10, 5, 10, 10, 10, 5, 10, 10, 10, 5, 10, 10, 10, 2, 12, 5, 10, 10, 10, 5, 10, 10, 10, 3, 10, 10, 10, 10, 10, 10, 0, 10, 9, 10, 10, 10, 10, 10, 10, 10, 10, 10, 10, 11, 10, 10, 10]
def lnL : List Nat := [0, 0, 0, 200, 0, 4, 0, 10, 10, 12, 12, 8, 8, 4, 6, 6, 6, 6, 0, 10, 10, 12, 12, 8, 8, 4, 6, 6, 6, 6, 0, 1024, 1024, 1024, 1024, 0, 4, 4, 4, 0, 4, 4, 4, 0, 8, 0, 4, 4, 4, 0, 4, 4, 4, 0, 4, 4, 4, 0, 4, 4, 4, 0, 4, 4, 4, 0, 4, 4, 4, 0, 4, 4, 4, 0, 4, 4, 4, 0, 2, 0, 4, 4, 4, 0, 4, 4, 4, 0, 4, 4, 4, 5, 1024, 1024, 0, 6, 0, 156, 200, 10, 10, 10, 8, 8, 4, 24, 4, 16384, 1024, 1024, 6]
/-- a place's kind: 0 to 9 an object of that class, 10 ints, 11 booleans, 12 States -/
def kd (p : Nat) : Nat := kdL.getD p 99
def ln (p : Nat) : Nat := lnL.getD p 0
def cls : List vw_C := [(RX0, TX0, 4), (RX1, TX1, 2), (RX2, TX2, 2), (RX3, TX3, 12), (RX4, TX4, 3), (RX5, TX5, 4), (RX6, TX6, 5), (RX7, TX7, 19), (RX8, TX8, 11), (RX9, TX9, 28)]
def nf (c : Nat) : Nat := [4, 2, 2, 12, 3, 4, 5, 19, 11, 28].getD c 0
def tyc (c : Nat) : Nat → FieldType := [tyX0, tyX1, tyX2, tyX3, tyX4, tyX5, tyX6, tyX7, tyX8, tyX9].getD c tyX0
def isr (c k : Nat) : Bool := match tyc c k with
  | .int => false
  | _ => true
theorem kd_in {p : Nat} (h : kd p ≤ 12) : 1 ≤ p ∧ p ≤ 110 := by
  refine ⟨Nat.pos_of_ne_zero fun e => ?_, Nat.le_of_not_lt fun e => ?_⟩
  · subst e; revert h; decide
  · have : kd p = 99 := by
      unfold kd
      show (kdL[p]?).getD 99 = 99
      rw [List.getElem?_eq_none (by show kdL.length ≤ p; exact Nat.le_trans (by decide) e)]
      rfl
    omega
theorem ln_le : ∀ p : Nat, ln p ≤ 16384 := by
  intro p
  by_cases h : p < 111
  · exact (by decide +kernel : ∀ p, p < 111 → ln p ≤ 16384) p h
  · have : ln p = 0 := by
      unfold ln
      show (lnL[p]?).getD 0 = 0
      rw [List.getElem?_eq_none (by show lnL.length ≤ p; exact Nat.le_trans (by decide) (Nat.le_of_not_lt h))]
      rfl
    omega
/-- what a place holds -/
def ce (cy : Nat → ClassId) (ad : Nat → Nat) (M : MM) (p : Nat) : va_E :=
  if kd p < 10 then .inr (kd p, (List.range (nf (kd p))).map (fun k => if isr (kd p) k then cr ad (M.2.2 p k) else .int (Int32.ofInt (M.2.1 p k))))
  else if kd p = 12 then .inl (cy 12, ln p, .inr (.inr (.inr (.inr (fun j => if M.2.2 p j = 0 then none else some (ad (M.2.2 p j)))))))
  else .inl (cy (kd p), ln p, .inl (fun j => Int32.ofInt (M.2.1 p j)))
def wl (G : GG) (ad : Nat → Nat) (M : MM) : va_W := (List.range M.1).map (fun i => (ad (i + 1), ce G.2.2.1 ad M (i + 1)))
abbrev gA (G : GG) : Nat → Prop := fun q => G.2.2.2.1 ≤ q
abbrev tysG (G : GG) : List (ClassId × FieldType) := [(G.2.2.1 10, .int), (G.2.2.1 11, .boolean), (G.2.2.1 12, .object RX5)]
def gI (M : MM) (p k : Nat) : Int := M.2.1 p k
def gR (M : MM) (p k : Nat) : Nat := M.2.2 p k
def stI (M : MM) (p k : Nat) (x : Int) : MM := (M.1, fun p' k' => if p' = p ∧ k' = k then x else M.2.1 p' k', M.2.2)
def stR (M : MM) (p k : Nat) (x : Nat) : MM := (M.1, M.2.1, fun p' k' => if p' = p ∧ k' = k then x else M.2.2 p' k')
/-- one more place, of noughts and nulls -/
def stN (M : MM) : MM := (M.1 + 1, fun p' k' => if p' = M.1 + 1 then 0 else M.2.1 p' k', fun p' k' => if p' = M.1 + 1 then 0 else M.2.2 p' k')
def lclr (L : List (Option AV)) : Nat → List (Option AV)
  | 0 => L
  | j + 1 => match L[j]? with
    | some (some (.inr (.inl _))) => L.set j none
    | _ => L
def lset (L : List (Option AV)) (i : Nat) (v : AV) : List (Option AV) := (lclr L i).set i (some v)
def lset2 (L : List (Option AV)) (i : Nat) (v : AV) : List (Option AV) := ((lclr L i).set i (some v)).set (i + 1) none
def wkL : List (Option AV) → List Bool → List (Option AV)
  | v :: L, b :: bs => (if b then v else none) :: wkL L bs
  | _, _ => []
def al (ad : Nat → Nat) (L : List (Option AV)) : List (Nat × Value) := (List.range L.length).filterMap (fun i => match L[i]? with
  | some (some v) => some (i, cv ad v)
  | _ => none)
def WS : List Cond := lw_tbl.filter goodWord
def txB : List Int32 := [116, 53, 44, 49, 59, 116, 52, 44, 49, 59, 116, 54, 44, 48, 59, 116, 57, 44, 50, 59, 116, 55, 44, 51, 59, 121, 50, 44, 48, 59, 121, 52, 44, 50, 59, 112, 48, 44, 51, 59, 112, 50, 44, 53, 59, 112, 51, 44, 49, 59, 112, 52, 44, 50, 59, 98, 49, 50, 59, 98, 49, 54, 59, 120, 48, 44, 50, 44, 49, 44, 50, 59, 120, 50, 44, 48, 44, 50, 44, 49, 59]
def tx0 : String := "t5,1;t4,1;t6,0;t9,2;t7,3;y2,0;y4,2;p0,3;p2,5;p3,1;p4,2;b12;b16;x0,2,1,2;x2,0,2,1;"
/-- the links to nest mates' private members -/
def NWL : List (String × Nat × MethodName × String) := [(RX0, 54, yX8_commonDivisor, "RibbonOfLacks"), (RX2, 25, yX5_init, "RibbonOfLacks"), (RX8, 9, yX1_init, "RibbonOfLacks"), (RX8, 27, yX7_init, "RibbonOfLacks"), (RX8, 37, yX6_init, "RibbonOfLacks"), (RX8, 44, yX5_init, "RibbonOfLacks"), (RX8, 75, yX0_init, "RibbonOfLacks")]
/-- what stays as it was at the start: the String constant, two statics, links, an array class -/
def XS (G : GG) (U : State) (H : Heap) : Prop := vk_R RX8 80 tx0 (G.2.2.2.2 777) U ∧ vk_S 1 [81] [txB] (fun _ => G.2.2.2.2 777) (fun _ => G.2.2.2.2 779) (gA G) U H ∧ (∀ q ∈ NWL, va_Nw (.methodLinkNest q.1 q.2.1 q.2.2.1 q.2.2.2) U) ∧ va_AO RX5 U ∧ va_Z "java/lang/String" "COMPACT_STRINGS" "Z" (.int 1) (gA G) U H ∧ va_Z "jdk/internal/util/Preconditions" "SIOOBE_FORMATTER" "Ljava/util/function/BiFunction;" (.ref (G.2.2.2.2 780)) (gA G) U H
def mkrm (d mc ms : Nat) : Room := { frames := d, cells := mc, slots := ms, locals := 40 * d }
def Cx (G : GG) (I : MI) (XX : State → Prop) (p : Program) (s : State) (m : MethodId) (args : Array Value) (meth : Method) (c : Code) : Prop :=
  p.tables.exec = Jvm.exec ∧ c.code = I.2.1 ∧ c.maxLocals = I.2.2.1 ∧ meth.sig.returnType = I.2.2.2 ∧ meth.locks = false ∧ s.vm.findClass I.1.cls = some m.cls ∧ (∀ w ∈ WS, w.before args s = true) ∧
  va_K G.2.1 cls (tysG G) s ∧ G.2.2.2.1 ≤ s.heap.size ∧ meth.name = I.1.name ∧ XS G s s.heap ∧ XX s
def Ww (G : GG) (ad : Nat → Nat) (M : MM) (H : Heap) : Prop := va_P G.2.1 cls (wl G ad M) H ∧ va_D (gA G) (wl G ad M) ∧ (∀ p k, R32 (M.2.1 p k)) ∧ (∀ p k, M.2.2 p k ≤ M.1) ∧ (∀ q, 700 ≤ q → ad q = G.2.2.2.2 q) ∧ M.1 < 700
def AdE (n0 : Nat) (ad0 ad : Nat → Nat) : Prop := ∀ q, (q ≤ n0 ∨ 700 ≤ q) → ad q = ad0 q
/-- a method's body from pc on comes to an end as Z says -/
def Wg (G : GG) (I : MI) (XX : State → Prop) (d mc ms : Nat) (Z : Nat → (Nat → Nat) → List Frame → Array Value → State → State → Prop) (pc : Nat) (L : List (Option AV)) (st : List AV) (M : MM) (k n : Nat) : Prop :=
  (∀ v, some v ∈ L → vok M.1 v) → (∀ v ∈ st, vok M.1 v) → ∀ (p : Program) (e : Env) (s : State) (m : MethodId) (args : Array Value) (below : List Frame) (meth : Method) (c : Code) (H : Heap) (locs : List Loc) (Ls : Array Slot) (ad : Nat → Nat) (n0 : Nat) (ad0 : Nat → Nat),
  Cx G I XX p s m args meth c → Ww G ad M H → va_S (gA G) s.heap H locs → lv_has Ls I.2.2.1 (al ad L) → n0 ≤ M.1 → AdE n0 ad0 ad →
  W p G.1 e (mkrm d mc ms) s m args below meth c H locs k n (Z n0 ad0 below args s) (F0 m pc Ls (st.map (cv ad)))
/-- the end of a method that answers as Q says -/
def QcO (G : GG) (n0 : Nat) (ad0 : Nat → Nat) (Q : Option AV → MM → Prop) : Array Value → State → Outcome → State → Prop := fun _ st o t =>
  (∃ (v : Option AV) (M' : MM) (ad' : Nat → Nat), o = .returned (v.map (cv ad')) ∧ Q v M' ∧ n0 ≤ M'.1 ∧ AdE n0 ad0 ad' ∧ (∀ x, v = some x → vok M'.1 x) ∧ Ww G ad' M' t.heap) ∧ va_F (gA G) st t
abbrev Wp (G : GG) (I : MI) (d mc ms : Nat) (pc : Nat) (L : List (Option AV)) (st : List AV) (M : MM) (k n : Nat) (Q : Option AV → MM → Prop) : Prop :=
  Wg G I (fun _ => True) d mc ms (fun n0 ad0 below args s => MQ below (QcO G n0 ad0 Q) args s mc ms (gA G)) pc L st M k n
def PcO (G : GG) (ad : Nat → Nat) (M : MM) : State → Prop := fun U => G.2.2.2.1 ≤ U.heap.size ∧ va_K G.2.1 cls (tysG G) U ∧ XS G U U.heap ∧ Ww G ad M U.heap
/-- method I, called with as on M, answers as Q says -/
def Ok (G : GG) (I : MI) (d mc ms : Nat) (as : List AV) (M : MM) (Q : Option AV → MM → Prop) : Prop :=
  (∀ v ∈ as, vok M.1 v) → ∀ ad : Nat → Nat, Met G.1 I.1 (.code I.1 I.2.1 I.2.2.1 I.2.2.2 :: WS) (mkrm d mc ms) (va_Pc (as.map (cv ad)) (PcO G ad M)) (QcO G M.1 ad Q) mc ms (gA G)
abbrev Dd (b : ByteArray) (pc : Nat) (i : Instr) (len pc' : Nat) : Prop := decode b pc = .ok (i, len) ∧ pc + len = pc'
-- ===== facts of lists =====
theorem al_mem {ad : Nat → Nat} {L : List (Option AV)} {q : Nat × Value} : q ∈ al ad L ↔ ∃ v, L[q.1]? = some (some v) ∧ q.2 = cv ad v := by
  obtain ⟨i, w⟩ := q
  unfold al
  rw [List.mem_filterMap]
  constructor
  · rintro ⟨j, hj, h⟩
    split at h
    · next v hv =>
      cases h
      exact ⟨v, hv, rfl⟩
    · cases h
  · rintro ⟨v, hv, h⟩
    have hv : L[i]? = some (some v) := hv
    have h : w = cv ad v := h
    refine ⟨i, List.mem_range.mpr (List.getElem?_eq_some_iff.mp hv).1, ?_⟩
    rw [hv, h]
theorem lv_subset {Ls : Array Slot} {nL : Nat} {l l' : List (Nat × Value)} (h : lv_has Ls nL l) (hs : ∀ q ∈ l', q ∈ l) : lv_has Ls nL l' := ⟨h.1, h.2.1, fun q hq => h.2.2 q (hs q hq)⟩
theorem al_get {Ls : Array Slot} {nL i : Nat} {ad : Nat → Nat} {L : List (Option AV)} {v : AV} (h : lv_has Ls nL (al ad L)) (hv : L[i]? = some (some v)) : Ls[i]? = some (.val (cv ad v)) := h.2.2 (i, cv ad v) (al_mem.mpr ⟨v, hv, rfl⟩)
theorem cv_cat (ad : Nat → Nat) (v : AV) : (cv ad v).category = if wide v then 2 else 1 := by
  rcases v with x | x | q
  · rfl
  · rfl
  · show (cr ad q).category = 1
    unfold cr
    split <;> rfl
theorem lclr_get {L : List (Option AV)} {i j : Nat} {v : AV} (h : (lclr L i)[j]? = some (some v)) : L[j]? = some (some v) ∧ ¬ (j + 1 = i ∧ wide v = true) := by
  cases i with
  | zero => exact ⟨h, by omega⟩
  | succ i =>
    simp only [lclr] at h
    split at h
    · next y hy =>
      by_cases hij : i = j
      · subst hij
        rw [List.getElem?_set_self (List.getElem?_eq_some_iff.mp hy).1] at h
        cases h
      · rw [List.getElem?_set_ne hij] at h
        exact ⟨h, by omega⟩
    · next hy =>
      refine ⟨h, fun q => ?_⟩
      obtain ⟨q1, q2⟩ := q
      have : j = i := by omega
      subst this
      rcases v with x | x | x
      · cases q2
      · exact hy x h
      · cases q2
theorem lset_get {L : List (Option AV)} {i j : Nat} {v u : AV} (h : (lset L i v)[j]? = some (some u)) : (j = i ∧ u = v) ∨ (j ≠ i ∧ L[j]? = some (some u) ∧ ¬ (j + 1 = i ∧ wide u = true)) := by
  unfold lset at h
  by_cases hij : i = j
  · subst hij
    have hl := (List.getElem?_eq_some_iff.mp h).1
    rw [List.length_set] at hl
    rw [List.getElem?_set_self hl] at h
    cases h
    exact Or.inl ⟨rfl, rfl⟩
  · rw [List.getElem?_set_ne hij] at h
    obtain ⟨h1, h2⟩ := lclr_get h
    exact Or.inr ⟨fun q => hij q.symm, h1, h2⟩
theorem al_lset {ad : Nat → Nat} {L : List (Option AV)} {i : Nat} {v : AV} : ∀ q ∈ al ad (lset L i v), q ∈ (i, cv ad v) :: (al ad L).filter (fun q => !(q.1 == i) && !(q.1 + 1 == i && q.2.category == 2)) := by
  intro q hq
  obtain ⟨u, h1, h2⟩ := al_mem.mp hq
  rcases lset_get h1 with ⟨e1, e2⟩ | ⟨e1, e2, e3⟩
  · subst e2
    rw [← e1, ← h2]
    exact List.mem_cons_self
  · refine List.mem_cons_of_mem _ (List.mem_filter.mpr ⟨al_mem.mpr ⟨u, e2, h2⟩, ?_⟩)
    rw [h2, cv_cat]
    cases hw : wide u
    · simp [e1]
    · have : ¬ q.1 + 1 = i := fun z => e3 ⟨z, hw⟩
      simp [e1, this]
theorem al_lset2 {ad : Nat → Nat} {L : List (Option AV)} {i : Nat} {v : AV} : ∀ q ∈ al ad (lset2 L i v), q ∈ (i, cv ad v) :: (al ad L).filter (fun q => !(q.1 == i) && (!(q.1 == i + 1) && !(q.1 + 1 == i && q.2.category == 2))) := by
  intro q hq
  obtain ⟨u, h1, h2⟩ := al_mem.mp hq
  have h3 : q.1 ≠ i + 1 ∧ (lset L i v)[q.1]? = some (some u) := by
    unfold lset2 at h1
    by_cases hij : i + 1 = q.1
    · rw [← hij] at h1
      have hl := (List.getElem?_eq_some_iff.mp h1).1
      rw [List.length_set] at hl
      rw [List.getElem?_set_self hl] at h1
      cases h1
    · rw [List.getElem?_set_ne hij] at h1
      exact ⟨fun z => hij z.symm, h1⟩
  rcases lset_get h3.2 with ⟨e1, e2⟩ | ⟨e1, e2, e3⟩
  · subst e2
    rw [← e1, ← h2]
    exact List.mem_cons_self
  · refine List.mem_cons_of_mem _ (List.mem_filter.mpr ⟨al_mem.mpr ⟨u, e2, h2⟩, ?_⟩)
    rw [h2, cv_cat]
    have h4 := h3.1
    cases hw : wide u
    · simp [e1, h4]
    · have : ¬ q.1 + 1 = i := fun z => e3 ⟨z, hw⟩
      simp [e1, this, h4]
theorem wkL_get {L : List (Option AV)} : ∀ {bs : List Bool} {i : Nat} {v : AV}, (wkL L bs)[i]? = some (some v) → L[i]? = some (some v) := by
  induction L with
  | nil => intro bs i v h; cases bs <;> simp [wkL] at h
  | cons a L ih =>
    intro bs i v h
    cases bs with
    | nil => simp [wkL] at h
    | cons b bs =>
      cases i with
      | zero =>
        cases b
        · simp [wkL] at h
        · simpa [wkL] using h
      | succ i =>
        have h : (wkL L bs)[i]? = some (some v) := by simpa [wkL] using h
        simpa using ih h
theorem mem_get {L : List (Option AV)} {v : AV} : some v ∈ L ↔ ∃ i : Nat, L[i]? = some (some v) := List.mem_iff_getElem?
theorem vok_mono {n n' : Nat} (h : n ≤ n') {v : AV} (hv : vok n v) : vok n' v := by
  rcases v with x | x | q
  · exact hv
  · exact hv
  · exact hv.imp (fun z => Nat.le_trans z h) id
theorem lok_set {n i : Nat} {L : List (Option AV)} {v : AV} (h : ∀ v, some v ∈ L → vok n v) (hv : vok n v) : ∀ u, some u ∈ lset L i v → vok n u := by
  intro u hu
  obtain ⟨j, hj⟩ := mem_get.mp hu
  rcases lset_get hj with ⟨-, e⟩ | ⟨-, e, -⟩
  · rw [e]; exact hv
  · exact h u (mem_get.mpr ⟨j, e⟩)
theorem lok_set2 {n i : Nat} {L : List (Option AV)} {v : AV} (h : ∀ v, some v ∈ L → vok n v) (hv : vok n v) : ∀ u, some u ∈ lset2 L i v → vok n u := by
  intro u hu
  obtain ⟨j, hj⟩ := mem_get.mp hu
  unfold lset2 at hj
  by_cases hij : i + 1 = j
  · rw [hij] at hj
    have hl := (List.getElem?_eq_some_iff.mp hj).1
    rw [List.length_set] at hl
    rw [List.getElem?_set_self hl] at hj
    cases hj
  · rw [List.getElem?_set_ne hij] at hj
    exact lok_set (i := i) h hv u (mem_get.mpr ⟨j, hj⟩)
theorem cv_alike {n : Nat} {ad ad' : Nat → Nat} (h : AdE n ad ad') {v : AV} (hv : vok n v) : cv ad' v = cv ad v := by
  rcases v with x | x | q
  · rfl
  · rfl
  · show cr ad' q = cr ad q
    unfold cr
    rw [h q hv]
theorem st_alike {n : Nat} {ad ad' : Nat → Nat} (h : AdE n ad ad') {st : List AV} (hv : ∀ v ∈ st, vok n v) : st.map (cv ad') = st.map (cv ad) := List.map_congr_left fun v hx => cv_alike h (hv v hx)
theorem al_alike {n : Nat} {ad ad' : Nat → Nat} (h : AdE n ad ad') {L : List (Option AV)} (hv : ∀ v, some v ∈ L → vok n v) : ∀ q ∈ al ad' L, q ∈ al ad L := by
  intro q hq
  obtain ⟨v, h1, h2⟩ := al_mem.mp hq
  exact al_mem.mpr ⟨v, h1, h2.trans (cv_alike h (hv v (mem_get.mpr ⟨_, h1⟩)))⟩
theorem AdE.rf {n : Nat} {ad : Nat → Nat} : AdE n ad ad := fun _ _ => rfl
theorem AdE.tr {n m : Nat} {a b c : Nat → Nat} (hnm : n ≤ m) (h1 : AdE n a b) (h2 : AdE m b c) : AdE n a c := fun q hq => (h2 q (hq.imp (fun z => Nat.le_trans z hnm) id)).trans (h1 q hq)
theorem wl_get {G : GG} {ad : Nat → Nat} {M : MM} {p : Nat} (h1 : 1 ≤ p) (h2 : p ≤ M.1) : (wl G ad M)[p - 1]? = some (ad p, ce G.2.2.1 ad M p) := by
  unfold wl
  rw [List.getElem?_map, List.getElem?_range (by omega)]
  simp only [Option.map_some]
  rw [show p - 1 + 1 = p by omega]
theorem wl_set {G : GG} {ad : Nat → Nat} {M M' : MM} {p : Nat} {E : va_E} (h1 : 1 ≤ p) (h2 : p ≤ M.1) (hn : M'.1 = M.1) (hp : ce G.2.2.1 ad M' p = E) (ho : ∀ q, q ≠ p → ce G.2.2.1 ad M' q = ce G.2.2.1 ad M q) : (wl G ad M).set (p - 1) (ad p, E) = wl G ad M' := by
  refine List.ext_getElem? fun i => ?_
  unfold wl
  rw [hn]
  by_cases hi : i = p - 1
  · subst hi
    rw [List.getElem?_set_self (by simp; omega), List.getElem?_map, List.getElem?_range (by omega)]
    simp only [Option.map_some]
    rw [show p - 1 + 1 = p by omega, hp]
  · rw [List.getElem?_set_ne (fun z => hi z.symm), List.getElem?_map, List.getElem?_map]
    by_cases hl : i < M.1
    · rw [List.getElem?_range hl]
      simp only [Option.map_some]
      rw [ho (i + 1) (by omega)]
    · rw [List.getElem?_eq_none (by simpa using Nat.le_of_not_lt hl)]
      rfl
end
section
/-! ===== an instruction, a rule, over the one big world ===== -/
def iandv (x y : Int) : Int := (Int32.ofInt x &&& Int32.ofInt y).toInt
def iorv (x y : Int) : Int := (Int32.ofInt x ||| Int32.ofInt y).toInt
def ixorv (x y : Int) : Int := (Int32.ofInt x ^^^ Int32.ofInt y).toInt
def ishlv (x y : Int) : Int := (Int32.ofInt x <<< (Int32.ofInt y &&& 31)).toInt
def ishrv (x y : Int) : Int := (Int32.ofInt x >>> (Int32.ofInt y &&& 31)).toInt
def iushrv (x y : Int) : Int := (((Int32.ofInt x).toUInt32 >>> ((Int32.ofInt y).toUInt32 &&& Int32.toUInt32 31)).toInt32).toInt
def lcmpv (x y : Int) : Int := if y < x then 1 else if x = y then 0 else -1
theorem r32_toInt (x : Int32) : R32 x.toInt := ⟨x.le_toInt, x.toInt_lt⟩
theorem mx32 : Int32.maxValue.toInt = 2147483647 := rfl
theorem mn32 : Int32.minValue.toInt = -2147483648 := rfl
theorem mx64 : Int64.maxValue.toInt = 9223372036854775807 := rfl
theorem mn64 : Int64.minValue.toInt = -9223372036854775808 := rfl
theorem o32_lt {x y : Int} (hx : R32 x) (hy : R32 y) : Int32.ofInt x < Int32.ofInt y ↔ x < y := Int32.ofInt_lt_iff_lt (by rw [mn32]; exact hx.1) (by rw [mx32]; have := hx.2; omega) (by rw [mn32]; exact hy.1) (by rw [mx32]; have := hy.2; omega)
theorem o32_le {x y : Int} (hx : R32 x) (hy : R32 y) : Int32.ofInt x ≤ Int32.ofInt y ↔ x ≤ y := Int32.ofInt_le_iff_le (by rw [mn32]; exact hx.1) (by rw [mx32]; have := hx.2; omega) (by rw [mn32]; exact hy.1) (by rw [mx32]; have := hy.2; omega)
theorem o32_t {x : Int} (hx : R32 x) : (Int32.ofInt x).toInt = x := Int32.toInt_ofInt_of_le hx.1 hx.2
theorem o32_eq {x y : Int} (hx : R32 x) (hy : R32 y) : Int32.ofInt x = Int32.ofInt y ↔ x = y := ⟨fun h => by have := congrArg Int32.toInt h; rwa [o32_t hx, o32_t hy] at this, fun h => by rw [h]⟩
theorem o64_t {x : Int} (hx : R64 x) : (Int64.ofInt x).toInt = x := Int64.toInt_ofInt_of_le hx.1 hx.2
theorem o64_eq {x y : Int} (hx : R64 x) (hy : R64 y) : Int64.ofInt x = Int64.ofInt y ↔ x = y := ⟨fun h => by have := congrArg Int64.toInt h; rwa [o64_t hx, o64_t hy] at this, fun h => by rw [h]⟩
theorem o64_lt {x y : Int} (hx : R64 x) (hy : R64 y) : Int64.ofInt x < Int64.ofInt y ↔ x < y := Int64.ofInt_lt_iff_lt (by rw [mn64]; exact hx.1) (by rw [mx64]; have := hx.2; omega) (by rw [mn64]; exact hy.1) (by rw [mx64]; have := hy.2; omega)
theorem o32_0 : Int32.ofInt 0 = 0 := rfl
theorem o64_0 : Int64.ofInt 0 = 0 := rfl
theorem z32 : R32 0 := ⟨by decide, by decide⟩
theorem lcmp_o {x y : Int} (hx : R64 x) (hy : R64 y) : lg_cmp (Int64.ofInt x) (Int64.ofInt y) = Int32.ofInt (lcmpv x y) := by
  unfold lg_cmp lcmpv
  simp only [gt_iff_lt, o64_lt hy hx, o64_eq hx hy]
  split
  · rfl
  · split <;> rfl
theorem lcmpv_r (x y : Int) : R32 (lcmpv x y) := by
  unfold lcmpv
  split
  · exact ⟨by decide, by decide⟩
  · split <;> exact ⟨by decide, by decide⟩
theorem o32_rem {x y : Int} (hx : R32 x) (hy : R32 y) : Int32.ofInt x - Int32.ofInt x / Int32.ofInt y * Int32.ofInt y = Int32.ofInt (x.tmod y) := by
  apply Int32.toInt_inj.mp
  rw [rem_toInt, o32_t hx, o32_t hy, o32_t]
  have h1 : (x.tmod y).natAbs ≤ x.natAbs := by rw [Int.natAbs_tmod]; exact Nat.mod_le _ _
  have h2 : 0 ≤ x → 0 ≤ x.tmod y := fun h => Int.tmod_nonneg _ h
  obtain ⟨a, b⟩ := hx
  constructor
  · omega
  · rcases Int.lt_or_le x 0 with h | h
    · have h3 : x.tmod y ≤ 0 := by
        have := Int.tmod_nonneg (a := -x) y (by omega)
        rw [Int.neg_tmod] at this
        omega
      omega
    · omega
theorem o64_rem {x y : Int} (hx : R64 x) (hy : R64 y) : Int64.ofInt x - Int64.ofInt x / Int64.ofInt y * Int64.ofInt y = Int64.ofInt (x.tmod y) := by
  have e : x.tmod y = x - x.tdiv y * y := by have := Int.tmod_add_tdiv_mul x y; omega
  rw [e, Int64.ofInt_sub, Int64.ofInt_mul, Int64.ofInt_tdiv (by rw [mn64]; exact hx.1) (by rw [mx64]; have := hx.2; omega) (by rw [mn64]; exact hy.1) (by rw [mx64]; have := hy.2; omega)]
theorem tmod_r {x y B : Int} (hx : -B ≤ x ∧ x < B) : -B ≤ x.tmod y ∧ x.tmod y < B := by
  have h1 : (x.tmod y).natAbs ≤ x.natAbs := by rw [Int.natAbs_tmod]; exact Nat.mod_le _ _
  obtain ⟨a, b⟩ := hx
  constructor
  · omega
  · rcases Int.lt_or_le x 0 with h | h
    · have h3 : x.tmod y ≤ 0 := by
        have := Int.tmod_nonneg (a := -x) y (by omega)
        rw [Int.neg_tmod] at this
        omega
      omega
    · omega
theorem o32_div {x y : Int} (hx : R32 x) (hy : R32 y) : Int32.ofInt x / Int32.ofInt y = Int32.ofInt (x.tdiv y) := (Int32.ofInt_tdiv (by rw [mn32]; exact hx.1) (by rw [mx32]; have := hx.2; omega) (by rw [mn32]; exact hy.1) (by rw [mx32]; have := hy.2; omega)).symm
theorem o64_div {x y : Int} (hx : R64 x) (hy : R64 y) : Int64.ofInt x / Int64.ofInt y = Int64.ofInt (x.tdiv y) := (Int64.ofInt_tdiv (by rw [mn64]; exact hx.1) (by rw [mx64]; have := hx.2; omega) (by rw [mn64]; exact hy.1) (by rw [mx64]; have := hy.2; omega)).symm
theorem o32_l {x : Int} (hx : R32 x) : (Int32.ofInt x).toInt64 = Int64.ofInt x := Int32.toInt64_ofInt (by rw [mn32]; exact hx.1) (by rw [mx32]; have := hx.2; omega)
theorem o8 {n : Int} (h : -128 ≤ n ∧ n < 128) : (Int8.ofInt n).toInt32 = Int32.ofInt n := by
  apply Int32.toInt_inj.mp
  rw [Int8.toInt_toInt32, Int8.toInt_ofInt_of_le h.1 h.2, o32_t ⟨by omega, by omega⟩]
theorem o16 {n : Int} (h : -32768 ≤ n ∧ n < 32768) : (Int16.ofInt n).toInt32 = Int32.ofInt n := by
  apply Int32.toInt_inj.mp
  rw [Int16.toInt_toInt32, Int16.toInt_ofInt_of_le h.1 h.2, o32_t ⟨by omega, by omega⟩]
section WG
variable {G : GG} {I : MI} {XX : State → Prop} {d mc ms : Nat} {Z : Nat → (Nat → Nat) → List Frame → Array Value → State → State → Prop} {pc pc' : Nat} {L : List (Option AV)} {st : List AV} {M : MM} {k n : Nat}
theorem wg_stk {st' : List AV} (ho : (∀ v, some v ∈ L → vok M.1 v) → (∀ v ∈ st, vok M.1 v) → (∀ p k, R32 (M.2.1 p k)) → (∀ p k, M.2.2 p k ≤ M.1) → ∀ v ∈ st', vok M.1 v)
    (h : ∀ (p : Program) (e : Env) (s : State) (m : MethodId) (args : Array Value) (below : List Frame) (meth : Method) (c : Code) (H : Heap) (locs : List Loc) (Ls : Array Slot) (ad : Nat → Nat) (Q : State → Prop), Cx G I XX p s m args meth c → Ww G ad M H → va_S (gA G) s.heap H locs → lv_has Ls I.2.2.1 (al ad L) → (∀ v ∈ st, vok M.1 v) →
      W p G.1 e (mkrm d mc ms) s m args below meth c H locs k n Q (F0 m pc' Ls (st'.map (cv ad))) → W p G.1 e (mkrm d mc ms) s m args below meth c H locs k n Q (F0 m pc Ls (st.map (cv ad))))
    (kk : Wg G I XX d mc ms Z pc' L st' M k n) : Wg G I XX d mc ms Z pc L st M k n := by
  intro hL hs p e s m args below meth c H locs Ls ad n0 ad0 X hW hS hl hn hE
  exact h p e s m args below meth c H locs Ls ad _ X hW hS hl hs (kk hL (ho hL hs hW.2.2.1 hW.2.2.2.1) p e s m args below meth c H locs Ls ad n0 ad0 X hW hS hl hn hE)
theorem vok_tl {a : AV} {N : Nat} (h : ∀ v ∈ a :: st, vok N v) : ∀ v ∈ st, vok N v := fun v hv => h v (List.mem_cons_of_mem _ hv)
theorem vok_cons {a : AV} {N : Nat} (h1 : vok N a) (h : ∀ v ∈ st, vok N v) : ∀ v ∈ a :: st, vok N v := fun v hv => (List.mem_cons.mp hv).elim (fun e => by rw [e]; exact h1) (h v)
theorem vcI {x : Int} {N : Nat} (h1 : R32 x) (h : ∀ v ∈ st, vok N v) : ∀ v ∈ vI x :: st, vok N v := vok_cons (a := vI x) h1 h
theorem vcL {x : Int} {N : Nat} (h1 : R64 x) (h : ∀ v ∈ st, vok N v) : ∀ v ∈ vL x :: st, vok N v := vok_cons (a := vL x) h1 h
theorem vcR {x N : Nat} (h1 : x ≤ N ∨ 700 ≤ x) (h : ∀ v ∈ st, vok N v) : ∀ v ∈ vR x :: st, vok N v := vok_cons (a := vR x) h1 h
theorem vok_hd {a : AV} {N : Nat} (h : ∀ v ∈ a :: st, vok N v) : vok N a := h a List.mem_cons_self

theorem wg_iload {i : Nat} {x : Int} (hd : Dd I.2.1 pc (.iload i) 2 pc') (hl : L[i]? = some (some (vI x))) (kk : Wg G I XX d mc ms Z pc' L (vI x :: st) M k n) : Wg G I XX d mc ms Z pc L st M k n := by
  obtain ⟨hd, rfl⟩ := hd
  refine wg_stk (fun hL hs _ _ => vok_cons (hL _ (mem_get.mpr ⟨_, hl⟩)) hs) (fun p e s m args below meth c H locs Ls ad Q X hW hS h hs q => ?_) kk
  have hg := al_get h hl
  
  
  exact lv_iload X.1 X.2.1 hd hg q
theorem wg_iload_n {j : Fin 4} {x : Int} (hd : Dd I.2.1 pc (.iload_n j) 1 pc') (hl : L[(j : Nat)]? = some (some (vI x))) (kk : Wg G I XX d mc ms Z pc' L (vI x :: st) M k n) : Wg G I XX d mc ms Z pc L st M k n := by
  obtain ⟨hd, rfl⟩ := hd
  refine wg_stk (fun hL hs _ _ => vok_cons (hL _ (mem_get.mpr ⟨_, hl⟩)) hs) (fun p e s m args below meth c H locs Ls ad Q X hW hS h hs q => ?_) kk
  have hg := al_get h hl
  
  
  exact lv_iload_n X.1 X.2.1 hd rfl hg q
theorem wg_lload {i : Nat} {x : Int} (hd : Dd I.2.1 pc (.lload i) 2 pc') (hl : L[i]? = some (some (vL x))) (kk : Wg G I XX d mc ms Z pc' L (vL x :: st) M k n) : Wg G I XX d mc ms Z pc L st M k n := by
  obtain ⟨hd, rfl⟩ := hd
  refine wg_stk (fun hL hs _ _ => vok_cons (hL _ (mem_get.mpr ⟨_, hl⟩)) hs) (fun p e s m args below meth c H locs Ls ad Q X hW hS h hs q => ?_) kk
  have hg := al_get h hl
  
  
  exact lv_lload X.1 X.2.1 hd hg q
theorem wg_lload_n {j : Fin 4} {x : Int} (hd : Dd I.2.1 pc (.lload_n j) 1 pc') (hl : L[(j : Nat)]? = some (some (vL x))) (kk : Wg G I XX d mc ms Z pc' L (vL x :: st) M k n) : Wg G I XX d mc ms Z pc L st M k n := by
  obtain ⟨hd, rfl⟩ := hd
  refine wg_stk (fun hL hs _ _ => vok_cons (hL _ (mem_get.mpr ⟨_, hl⟩)) hs) (fun p e s m args below meth c H locs Ls ad Q X hW hS h hs q => ?_) kk
  have hg := al_get h hl
  
  
  exact lv_lload_n X.1 X.2.1 hd rfl hg q
theorem wg_aload {i : Nat} {x : Nat} (hd : Dd I.2.1 pc (.aload i) 2 pc') (hl : L[i]? = some (some (vR x))) (hx : x ≠ 0) (kk : Wg G I XX d mc ms Z pc' L (vR x :: st) M k n) : Wg G I XX d mc ms Z pc L st M k n := by
  obtain ⟨hd, rfl⟩ := hd
  refine wg_stk (fun hL hs _ _ => vok_cons (hL _ (mem_get.mpr ⟨_, hl⟩)) hs) (fun p e s m args below meth c H locs Ls ad Q X hW hS h hs q => ?_) kk
  have hg := al_get h hl
  simp only [cv, cr, if_neg hx] at hg
  simp only [List.map_cons, cv, cr, if_neg hx] at q
  exact lv_aload X.1 X.2.1 hd hg q
theorem wg_aload_n {j : Fin 4} {x : Nat} (hd : Dd I.2.1 pc (.aload_n j) 1 pc') (hl : L[(j : Nat)]? = some (some (vR x))) (hx : x ≠ 0) (kk : Wg G I XX d mc ms Z pc' L (vR x :: st) M k n) : Wg G I XX d mc ms Z pc L st M k n := by
  obtain ⟨hd, rfl⟩ := hd
  refine wg_stk (fun hL hs _ _ => vok_cons (hL _ (mem_get.mpr ⟨_, hl⟩)) hs) (fun p e s m args below meth c H locs Ls ad Q X hW hS h hs q => ?_) kk
  have hg := al_get h hl
  simp only [cv, cr, if_neg hx] at hg
  simp only [List.map_cons, cv, cr, if_neg hx] at q
  exact lv_aload_n X.1 X.2.1 hd rfl hg q
theorem wg_istore {i : Nat} {x : Int} {L' : List (Option AV)} (hd : Dd I.2.1 pc (.istore i) 2 pc') (hi : i < I.2.2.1) (hL' : lset L i (vI x) = L') (kk : Wg G I XX d mc ms Z pc' L' st M k n) : Wg G I XX d mc ms Z pc L (vI x :: st) M k n := by
  obtain ⟨hd, rfl⟩ := hd
  subst hL'
  intro hL hs p e s m args below meth c H locs Ls ad n0 ad0 X hW hS hl hn hE
  
  refine lv_istore X.1 X.2.1 hd hl hi rfl (fun ls' hl' => ?_)
  exact kk (lok_set hL (vok_hd hs)) (vok_tl hs) p e s m args below meth c H locs ls' ad n0 ad0 X hW hS (lv_subset hl' (al_lset)) hn hE
theorem wg_istore_n {j : Fin 4} {x : Int} {L' : List (Option AV)} (hd : Dd I.2.1 pc (.istore_n j) 1 pc') (hi : (j : Nat) < I.2.2.1) (hL' : lset L (j : Nat) (vI x) = L') (kk : Wg G I XX d mc ms Z pc' L' st M k n) : Wg G I XX d mc ms Z pc L (vI x :: st) M k n := by
  obtain ⟨hd, rfl⟩ := hd
  subst hL'
  intro hL hs p e s m args below meth c H locs Ls ad n0 ad0 X hW hS hl hn hE
  
  refine lv_istore_n X.1 X.2.1 hd rfl hl hi rfl (fun ls' hl' => ?_)
  exact kk (lok_set hL (vok_hd hs)) (vok_tl hs) p e s m args below meth c H locs ls' ad n0 ad0 X hW hS (lv_subset hl' (al_lset)) hn hE
theorem wg_lstore {i : Nat} {x : Int} {L' : List (Option AV)} (hd : Dd I.2.1 pc (.lstore i) 2 pc') (hi : i + 1 < I.2.2.1) (hL' : lset2 L i (vL x) = L') (kk : Wg G I XX d mc ms Z pc' L' st M k n) : Wg G I XX d mc ms Z pc L (vL x :: st) M k n := by
  obtain ⟨hd, rfl⟩ := hd
  subst hL'
  intro hL hs p e s m args below meth c H locs Ls ad n0 ad0 X hW hS hl hn hE
  
  refine lv_lstore X.1 X.2.1 hd hl hi rfl (fun ls' hl' => ?_)
  exact kk (lok_set2 hL (vok_hd hs)) (vok_tl hs) p e s m args below meth c H locs ls' ad n0 ad0 X hW hS (lv_subset hl' (al_lset2)) hn hE
theorem wg_lstore_n {j : Fin 4} {x : Int} {L' : List (Option AV)} (hd : Dd I.2.1 pc (.lstore_n j) 1 pc') (hi : (j : Nat) + 1 < I.2.2.1) (hL' : lset2 L (j : Nat) (vL x) = L') (kk : Wg G I XX d mc ms Z pc' L' st M k n) : Wg G I XX d mc ms Z pc L (vL x :: st) M k n := by
  obtain ⟨hd, rfl⟩ := hd
  subst hL'
  intro hL hs p e s m args below meth c H locs Ls ad n0 ad0 X hW hS hl hn hE
  
  refine lv_lstore_n X.1 X.2.1 hd rfl hl hi rfl (fun ls' hl' => ?_)
  exact kk (lok_set2 hL (vok_hd hs)) (vok_tl hs) p e s m args below meth c H locs ls' ad n0 ad0 X hW hS (lv_subset hl' (al_lset2)) hn hE
theorem wg_astore {i : Nat} {x : Nat} {L' : List (Option AV)} (hd : Dd I.2.1 pc (.astore i) 2 pc') (hi : i < I.2.2.1) (hL' : lset L i (vR x) = L') (hx : x ≠ 0) (kk : Wg G I XX d mc ms Z pc' L' st M k n) : Wg G I XX d mc ms Z pc L (vR x :: st) M k n := by
  obtain ⟨hd, rfl⟩ := hd
  subst hL'
  intro hL hs p e s m args below meth c H locs Ls ad n0 ad0 X hW hS hl hn hE
  simp only [List.map_cons, cv, cr, if_neg hx]
  refine lv_astore X.1 X.2.1 hd hl hi rfl (fun ls' hl' => ?_)
  exact kk (lok_set hL (vok_hd hs)) (vok_tl hs) p e s m args below meth c H locs ls' ad n0 ad0 X hW hS (lv_subset hl' (by have h9 := al_lset (ad := ad) (L := L) (i := i) (v := vR x); simp only [cv, cr, if_neg hx] at h9; exact h9)) hn hE
theorem wg_astore_n {j : Fin 4} {x : Nat} {L' : List (Option AV)} (hd : Dd I.2.1 pc (.astore_n j) 1 pc') (hi : (j : Nat) < I.2.2.1) (hL' : lset L (j : Nat) (vR x) = L') (hx : x ≠ 0) (kk : Wg G I XX d mc ms Z pc' L' st M k n) : Wg G I XX d mc ms Z pc L (vR x :: st) M k n := by
  obtain ⟨hd, rfl⟩ := hd
  subst hL'
  intro hL hs p e s m args below meth c H locs Ls ad n0 ad0 X hW hS hl hn hE
  simp only [List.map_cons, cv, cr, if_neg hx]
  refine lv_astore_n X.1 X.2.1 hd rfl hl hi rfl (fun ls' hl' => ?_)
  exact kk (lok_set hL (vok_hd hs)) (vok_tl hs) p e s m args below meth c H locs ls' ad n0 ad0 X hW hS (lv_subset hl' (by have h9 := al_lset (ad := ad) (L := L) (i := (j : Nat)) (v := vR x); simp only [cv, cr, if_neg hx] at h9; exact h9)) hn hE
theorem wg_iinc {i : Nat} {x c0 : Int} {L' : List (Option AV)} (hd : Dd I.2.1 pc (.iinc i c0) 3 pc') (hi : i < I.2.2.1) (hl0 : L[i]? = some (some (vI x))) (hL' : lset L i (vI (x + c0)) = L') (hr : R32 (x + c0)) (kk : Wg G I XX d mc ms Z pc' L' st M k n) : Wg G I XX d mc ms Z pc L st M k n := by
  obtain ⟨hd, rfl⟩ := hd
  subst hL'
  intro hL hs p e s m args below meth c H locs Ls ad n0 ad0 X hW hS hl hn hE
  have h1 : (i, Value.int (Int32.ofInt x)) ∈ al ad L := al_mem.mpr ⟨vI x, hl0, rfl⟩
  obtain ⟨kx, hkx⟩ := List.mem_iff_getElem?.mp h1
  refine lv_iinc X.1 X.2.1 hd hl hkx (v := Int32.ofInt (x + c0)) (by rw [Int32.ofInt_add]) hi rfl (fun ls' hl' => ?_)
  exact kk (lok_set hL hr) hs p e s m args below meth c H locs ls' ad n0 ad0 X hW hS (lv_subset hl' (al_lset (v := vI (x + c0)))) hn hE
theorem wg_iconst {c0 : Int} (hd : Dd I.2.1 pc (.iconst c0) 1 pc') (hr : R32 c0) (kk : Wg G I XX d mc ms Z pc' L (vI c0 :: st) M k n) : Wg G I XX d mc ms Z pc L st M k n := by
  obtain ⟨hd, rfl⟩ := hd
  exact wg_stk (fun hL hs _ _ => vcI hr hs) (fun p e s m args below meth c H locs Ls ad Q X hW hS h hs q => lv_iconst X.1 X.2.1 hd rfl q) kk
theorem wg_bipush {c0 : Int} (hd : Dd I.2.1 pc (.bipush c0) 2 pc') (hr : -128 ≤ c0 ∧ c0 < 128) (kk : Wg G I XX d mc ms Z pc' L (vI c0 :: st) M k n) : Wg G I XX d mc ms Z pc L st M k n := by
  obtain ⟨hd, rfl⟩ := hd
  exact wg_stk (fun hL hs _ _ => vcI (show R32 c0 from ⟨by omega, by omega⟩) hs) (fun p e s m args below meth c H locs Ls ad Q X hW hS h hs q => lv_bipush X.1 X.2.1 hd (o8 hr) q) kk
theorem wg_sipush {c0 : Int} (hd : Dd I.2.1 pc (.sipush c0) 3 pc') (hr : -32768 ≤ c0 ∧ c0 < 32768) (kk : Wg G I XX d mc ms Z pc' L (vI c0 :: st) M k n) : Wg G I XX d mc ms Z pc L st M k n := by
  obtain ⟨hd, rfl⟩ := hd
  exact wg_stk (fun hL hs _ _ => vcI (show R32 c0 from ⟨by omega, by omega⟩) hs) (fun p e s m args below meth c H locs Ls ad Q X hW hS h hs q => lv_sipush X.1 X.2.1 hd (o16 hr) q) kk
theorem wg_lconst {c0 : Fin 2} {y : Int} (hd : Dd I.2.1 pc (.lconst c0) 1 pc') (hy : ((c0 : Nat) : Int) = y) (kk : Wg G I XX d mc ms Z pc' L (vL y :: st) M k n) : Wg G I XX d mc ms Z pc L st M k n := by
  obtain ⟨hd, rfl⟩ := hd
  subst hy
  exact wg_stk (fun hL hs _ _ => vcL (show R64 ((c0 : Nat) : Int) from ⟨by omega, by omega⟩) hs) (fun p e s m args below meth c H locs Ls ad Q X hW hS h hs q => lv_lconst X.1 X.2.1 hd (by rw [← Int64.ofInt_eq_ofNat] <;> rfl) q) kk
theorem wg_ldc {ix : Nat} {y : Int} (hd : Dd I.2.1 pc (.ldc ix) 2 pc') (hw : Cond.constant I.1.cls ix (Int32.ofInt y) ∈ WS) (hr : R32 y) (kk : Wg G I XX d mc ms Z pc' L (vI y :: st) M k n) : Wg G I XX d mc ms Z pc L st M k n := by
  obtain ⟨hd, rfl⟩ := hd
  exact wg_stk (fun hL hs _ _ => vcI hr hs) (fun p e s m args below meth c H locs Ls ad Q X hW hS h hs q => lv_ldc X.1 X.2.1 X.2.2.2.2.2.1 (X.2.2.2.2.2.2.1 _ hw) hd q) kk
theorem wg_ldc2 {ix : Nat} {y : Int} (hd : Dd I.2.1 pc (.ldc2_w ix) 3 pc') (hw : Cond.constantLong I.1.cls ix (Int64.ofInt y) ∈ WS) (hr : R64 y) (kk : Wg G I XX d mc ms Z pc' L (vL y :: st) M k n) : Wg G I XX d mc ms Z pc L st M k n := by
  obtain ⟨hd, rfl⟩ := hd
  exact wg_stk (fun hL hs _ _ => vcL hr hs) (fun p e s m args below meth c H locs Ls ad Q X hW hS h hs q => lv_ldc2 X.1 X.2.1 X.2.2.2.2.2.1 (X.2.2.2.2.2.2.1 _ hw) hd q) kk
theorem wg_ldcS (hd : Dd I.2.1 pc (.ldc 80) 2 pc') (hI : I.1.cls = RX8) (kk : Wg G I XX d mc ms Z pc' L (vR 777 :: st) M k n) : Wg G I XX d mc ms Z pc L st M k n := by
  obtain ⟨hd, rfl⟩ := hd
  refine wg_stk (fun hL hs _ _ => vcR (Or.inr (by decide)) hs) (fun p e s m args below meth c H locs Ls ad Q X hW hS h hs q => ?_) kk
  have e1 : cv ad (vR 777) = .ref (G.2.2.2.2 777) := by
    show cr ad 777 = _
    unfold cr
    rw [if_neg (by decide), hW.2.2.2.2.1 777 (by decide)]
  rw [List.map_cons, e1] at q
  exact va_ldcS X.1 X.2.1 (by have := X.2.2.2.2.2.1; rw [hI] at this; exact this) X.2.2.2.2.2.2.2.2.2.2.1.1 hd q
theorem wg_iadd {x y : Int} (hd : Dd I.2.1 pc (.iadd) 1 pc') (hr : R32 (x + y)) (kk : Wg G I XX d mc ms Z pc' L (vI (x + y) :: st) M k n) : Wg G I XX d mc ms Z pc L (vI y :: vI x :: st) M k n := by
  obtain ⟨hd, rfl⟩ := hd
  refine wg_stk (fun hL hs _ _ => vcI (hr) (vok_tl (vok_tl hs))) (fun p e s m args below meth c H locs Ls ad Q X hW hS h hs q => ?_) kk
  have hy : R32 y := vok_hd hs
  have hx : R32 x := vok_hd (vok_tl hs)
  simp only [List.map_cons, cv, Int32.ofInt_add] at q
  exact lv_iadd X.1 X.2.1 hd q
theorem wg_isub {x y : Int} (hd : Dd I.2.1 pc (.isub) 1 pc') (hr : R32 (x - y)) (kk : Wg G I XX d mc ms Z pc' L (vI (x - y) :: st) M k n) : Wg G I XX d mc ms Z pc L (vI y :: vI x :: st) M k n := by
  obtain ⟨hd, rfl⟩ := hd
  refine wg_stk (fun hL hs _ _ => vcI (hr) (vok_tl (vok_tl hs))) (fun p e s m args below meth c H locs Ls ad Q X hW hS h hs q => ?_) kk
  have hy : R32 y := vok_hd hs
  have hx : R32 x := vok_hd (vok_tl hs)
  simp only [List.map_cons, cv, Int32.ofInt_sub] at q
  exact lv_isub X.1 X.2.1 hd q
theorem wg_imul {x y : Int} (hd : Dd I.2.1 pc (.imul) 1 pc') (hr : R32 (x * y)) (kk : Wg G I XX d mc ms Z pc' L (vI (x * y) :: st) M k n) : Wg G I XX d mc ms Z pc L (vI y :: vI x :: st) M k n := by
  obtain ⟨hd, rfl⟩ := hd
  refine wg_stk (fun hL hs _ _ => vcI (hr) (vok_tl (vok_tl hs))) (fun p e s m args below meth c H locs Ls ad Q X hW hS h hs q => ?_) kk
  have hy : R32 y := vok_hd hs
  have hx : R32 x := vok_hd (vok_tl hs)
  simp only [List.map_cons, cv, Int32.ofInt_mul] at q
  exact lv_imul X.1 X.2.1 hd q
theorem wg_ladd {x y : Int} (hd : Dd I.2.1 pc (.ladd) 1 pc') (hr : R64 (x + y)) (kk : Wg G I XX d mc ms Z pc' L (vL (x + y) :: st) M k n) : Wg G I XX d mc ms Z pc L (vL y :: vL x :: st) M k n := by
  obtain ⟨hd, rfl⟩ := hd
  refine wg_stk (fun hL hs _ _ => vcL (hr) (vok_tl (vok_tl hs))) (fun p e s m args below meth c H locs Ls ad Q X hW hS h hs q => ?_) kk
  have hy : R64 y := vok_hd hs
  have hx : R64 x := vok_hd (vok_tl hs)
  simp only [List.map_cons, cv, Int64.ofInt_add] at q
  exact lv_ladd X.1 X.2.1 hd q
theorem wg_lsub {x y : Int} (hd : Dd I.2.1 pc (.lsub) 1 pc') (hr : R64 (x - y)) (kk : Wg G I XX d mc ms Z pc' L (vL (x - y) :: st) M k n) : Wg G I XX d mc ms Z pc L (vL y :: vL x :: st) M k n := by
  obtain ⟨hd, rfl⟩ := hd
  refine wg_stk (fun hL hs _ _ => vcL (hr) (vok_tl (vok_tl hs))) (fun p e s m args below meth c H locs Ls ad Q X hW hS h hs q => ?_) kk
  have hy : R64 y := vok_hd hs
  have hx : R64 x := vok_hd (vok_tl hs)
  simp only [List.map_cons, cv, Int64.ofInt_sub] at q
  exact lv_lsub X.1 X.2.1 hd q
theorem wg_lmul {x y : Int} (hd : Dd I.2.1 pc (.lmul) 1 pc') (hr : R64 (x * y)) (kk : Wg G I XX d mc ms Z pc' L (vL (x * y) :: st) M k n) : Wg G I XX d mc ms Z pc L (vL y :: vL x :: st) M k n := by
  obtain ⟨hd, rfl⟩ := hd
  refine wg_stk (fun hL hs _ _ => vcL (hr) (vok_tl (vok_tl hs))) (fun p e s m args below meth c H locs Ls ad Q X hW hS h hs q => ?_) kk
  have hy : R64 y := vok_hd hs
  have hx : R64 x := vok_hd (vok_tl hs)
  simp only [List.map_cons, cv, Int64.ofInt_mul] at q
  exact lv_lmul X.1 X.2.1 hd q
theorem wg_iand {x y : Int} (hd : Dd I.2.1 pc (.iand) 1 pc') (kk : Wg G I XX d mc ms Z pc' L (vI (iandv x y) :: st) M k n) : Wg G I XX d mc ms Z pc L (vI y :: vI x :: st) M k n := by
  obtain ⟨hd, rfl⟩ := hd
  refine wg_stk (fun hL hs _ _ => vcI (r32_toInt _) (vok_tl (vok_tl hs))) (fun p e s m args below meth c H locs Ls ad Q X hW hS h hs q => ?_) kk
  have hy : R32 y := vok_hd hs
  have hx : R32 x := vok_hd (vok_tl hs)
  simp only [List.map_cons, cv, iandv, Int32.ofInt_toInt] at q
  exact lv_iand X.1 X.2.1 hd q
theorem wg_ior {x y : Int} (hd : Dd I.2.1 pc (.ior) 1 pc') (kk : Wg G I XX d mc ms Z pc' L (vI (iorv x y) :: st) M k n) : Wg G I XX d mc ms Z pc L (vI y :: vI x :: st) M k n := by
  obtain ⟨hd, rfl⟩ := hd
  refine wg_stk (fun hL hs _ _ => vcI (r32_toInt _) (vok_tl (vok_tl hs))) (fun p e s m args below meth c H locs Ls ad Q X hW hS h hs q => ?_) kk
  have hy : R32 y := vok_hd hs
  have hx : R32 x := vok_hd (vok_tl hs)
  simp only [List.map_cons, cv, iorv, Int32.ofInt_toInt] at q
  exact lv_ior X.1 X.2.1 hd q
theorem wg_ixor {x y : Int} (hd : Dd I.2.1 pc (.ixor) 1 pc') (kk : Wg G I XX d mc ms Z pc' L (vI (ixorv x y) :: st) M k n) : Wg G I XX d mc ms Z pc L (vI y :: vI x :: st) M k n := by
  obtain ⟨hd, rfl⟩ := hd
  refine wg_stk (fun hL hs _ _ => vcI (r32_toInt _) (vok_tl (vok_tl hs))) (fun p e s m args below meth c H locs Ls ad Q X hW hS h hs q => ?_) kk
  have hy : R32 y := vok_hd hs
  have hx : R32 x := vok_hd (vok_tl hs)
  simp only [List.map_cons, cv, ixorv, Int32.ofInt_toInt] at q
  exact lv_ixor X.1 X.2.1 hd q
theorem wg_ishl {x y : Int} (hd : Dd I.2.1 pc (.ishl) 1 pc') (kk : Wg G I XX d mc ms Z pc' L (vI (ishlv x y) :: st) M k n) : Wg G I XX d mc ms Z pc L (vI y :: vI x :: st) M k n := by
  obtain ⟨hd, rfl⟩ := hd
  refine wg_stk (fun hL hs _ _ => vcI (r32_toInt _) (vok_tl (vok_tl hs))) (fun p e s m args below meth c H locs Ls ad Q X hW hS h hs q => ?_) kk
  have hy : R32 y := vok_hd hs
  have hx : R32 x := vok_hd (vok_tl hs)
  simp only [List.map_cons, cv, ishlv, Int32.ofInt_toInt] at q
  exact lv_ishl X.1 X.2.1 hd q
theorem wg_ishr {x y : Int} (hd : Dd I.2.1 pc (.ishr) 1 pc') (kk : Wg G I XX d mc ms Z pc' L (vI (ishrv x y) :: st) M k n) : Wg G I XX d mc ms Z pc L (vI y :: vI x :: st) M k n := by
  obtain ⟨hd, rfl⟩ := hd
  refine wg_stk (fun hL hs _ _ => vcI (r32_toInt _) (vok_tl (vok_tl hs))) (fun p e s m args below meth c H locs Ls ad Q X hW hS h hs q => ?_) kk
  have hy : R32 y := vok_hd hs
  have hx : R32 x := vok_hd (vok_tl hs)
  simp only [List.map_cons, cv, ishrv, Int32.ofInt_toInt] at q
  exact lv_ishr X.1 X.2.1 hd q
theorem wg_iushr {x y : Int} (hd : Dd I.2.1 pc (.iushr) 1 pc') (kk : Wg G I XX d mc ms Z pc' L (vI (iushrv x y) :: st) M k n) : Wg G I XX d mc ms Z pc L (vI y :: vI x :: st) M k n := by
  obtain ⟨hd, rfl⟩ := hd
  refine wg_stk (fun hL hs _ _ => vcI (r32_toInt _) (vok_tl (vok_tl hs))) (fun p e s m args below meth c H locs Ls ad Q X hW hS h hs q => ?_) kk
  have hy : R32 y := vok_hd hs
  have hx : R32 x := vok_hd (vok_tl hs)
  simp only [List.map_cons, cv, iushrv, Int32.ofInt_toInt] at q
  exact lv_iushr X.1 X.2.1 hd rfl q
theorem wg_idiv {x y : Int} (hd : Dd I.2.1 pc (.idiv) 1 pc') (hy0 : y ≠ 0) (hr : R32 (x.tdiv y)) (kk : Wg G I XX d mc ms Z pc' L (vI (x.tdiv y) :: st) M k n) : Wg G I XX d mc ms Z pc L (vI y :: vI x :: st) M k n := by
  obtain ⟨hd, rfl⟩ := hd
  refine wg_stk (fun hL hs _ _ => vcI (hr) (vok_tl (vok_tl hs))) (fun p e s m args below meth c H locs Ls ad Q X hW hS h hs q => ?_) kk
  have hy : R32 y := vok_hd hs
  have hx : R32 x := vok_hd (vok_tl hs)
  simp only [List.map_cons, cv, ← o32_div hx hy] at q
  exact lv_idiv X.1 X.2.1 hd (fun z => hy0 ((o32_eq hy z32).mp (z.trans o32_0.symm))) q
theorem wg_irem {x y : Int} (hd : Dd I.2.1 pc (.irem) 1 pc') (hy0 : y ≠ 0) (kk : Wg G I XX d mc ms Z pc' L (vI (x.tmod y) :: st) M k n) : Wg G I XX d mc ms Z pc L (vI y :: vI x :: st) M k n := by
  obtain ⟨hd, rfl⟩ := hd
  refine wg_stk (fun hL hs _ _ => vcI (tmod_r (vok_hd (vok_tl hs))) (vok_tl (vok_tl hs))) (fun p e s m args below meth c H locs Ls ad Q X hW hS h hs q => ?_) kk
  have hy : R32 y := vok_hd hs
  have hx : R32 x := vok_hd (vok_tl hs)
  simp only [List.map_cons, cv, ← o32_rem hx hy] at q
  exact lv_irem X.1 X.2.1 hd (fun z => hy0 ((o32_eq hy z32).mp (z.trans o32_0.symm))) q
theorem wg_ldiv {x y : Int} (hd : Dd I.2.1 pc (.ldiv) 1 pc') (hy0 : y ≠ 0) (hr : R64 (x.tdiv y)) (kk : Wg G I XX d mc ms Z pc' L (vL (x.tdiv y) :: st) M k n) : Wg G I XX d mc ms Z pc L (vL y :: vL x :: st) M k n := by
  obtain ⟨hd, rfl⟩ := hd
  refine wg_stk (fun hL hs _ _ => vcL (hr) (vok_tl (vok_tl hs))) (fun p e s m args below meth c H locs Ls ad Q X hW hS h hs q => ?_) kk
  have hy : R64 y := vok_hd hs
  have hx : R64 x := vok_hd (vok_tl hs)
  simp only [List.map_cons, cv, ← o64_div hx hy] at q
  exact lv_ldiv X.1 X.2.1 hd (fun z => hy0 ((o64_eq hy ⟨by decide, by decide⟩).mp (z.trans o64_0.symm))) q
theorem wg_lrem {x y : Int} (hd : Dd I.2.1 pc (.lrem) 1 pc') (hy0 : y ≠ 0) (kk : Wg G I XX d mc ms Z pc' L (vL (x.tmod y) :: st) M k n) : Wg G I XX d mc ms Z pc L (vL y :: vL x :: st) M k n := by
  obtain ⟨hd, rfl⟩ := hd
  refine wg_stk (fun hL hs _ _ => vcL (tmod_r (vok_hd (vok_tl hs))) (vok_tl (vok_tl hs))) (fun p e s m args below meth c H locs Ls ad Q X hW hS h hs q => ?_) kk
  have hy : R64 y := vok_hd hs
  have hx : R64 x := vok_hd (vok_tl hs)
  simp only [List.map_cons, cv, ← o64_rem hx hy] at q
  exact lv_lrem X.1 X.2.1 hd (fun z => hy0 ((o64_eq hy ⟨by decide, by decide⟩).mp (z.trans o64_0.symm))) q
theorem wg_ineg {x : Int} (hd : Dd I.2.1 pc (.ineg) 1 pc') (hr : R32 (-x)) (kk : Wg G I XX d mc ms Z pc' L (vI (-x) :: st) M k n) : Wg G I XX d mc ms Z pc L (vI x :: st) M k n := by
  obtain ⟨hd, rfl⟩ := hd
  refine wg_stk (fun hL hs _ _ => vcI hr (vok_tl hs)) (fun p e s m args below meth c H locs Ls ad Q X hW hS h hs q => ?_) kk
  simp only [List.map_cons, cv, Int32.ofInt_neg] at q
  exact lv_ineg X.1 X.2.1 hd q
theorem wg_i2l {x : Int} (hd : Dd I.2.1 pc (.i2l) 1 pc') (kk : Wg G I XX d mc ms Z pc' L (vL x :: st) M k n) : Wg G I XX d mc ms Z pc L (vI x :: st) M k n := by
  obtain ⟨hd, rfl⟩ := hd
  refine wg_stk (fun hL hs _ _ => vcL (show R64 x from by have h : R32 x := vok_hd hs; exact ⟨by omega, by omega⟩) (vok_tl hs)) (fun p e s m args below meth c H locs Ls ad Q X hW hS h hs q => ?_) kk
  exact lv_i2l X.1 X.2.1 hd (o32_l (show R32 x from vok_hd hs)) q
theorem wg_l2i {x : Int} (hd : Dd I.2.1 pc (.l2i) 1 pc') (hr : R32 x) (kk : Wg G I XX d mc ms Z pc' L (vI x :: st) M k n) : Wg G I XX d mc ms Z pc L (vL x :: st) M k n := by
  obtain ⟨hd, rfl⟩ := hd
  refine wg_stk (fun hL hs _ _ => vcI hr (vok_tl hs)) (fun p e s m args below meth c H locs Ls ad Q X hW hS h hs q => ?_) kk
  exact lv_l2i X.1 X.2.1 hd Int64.toInt32_ofInt q
theorem wg_lcmp {x y : Int} (hd : Dd I.2.1 pc (.lcmp) 1 pc') (kk : Wg G I XX d mc ms Z pc' L (vI (lcmpv x y) :: st) M k n) : Wg G I XX d mc ms Z pc L (vL y :: vL x :: st) M k n := by
  obtain ⟨hd, rfl⟩ := hd
  refine wg_stk (fun hL hs _ _ => vcI (lcmpv_r x y) (vok_tl (vok_tl hs))) (fun p e s m args below meth c H locs Ls ad Q X hW hS h hs q => ?_) kk
  have hy : R64 y := vok_hd hs
  have hx : R64 x := vok_hd (vok_tl hs)
  simp only [List.map_cons, cv, ← lcmp_o hx hy] at q
  exact W.lcmp X.1 X.2.1 hd q
theorem wg_dup {a : AV} (hd : Dd I.2.1 pc (.dup) 1 pc') (ha : wide a = false) (kk : Wg G I XX d mc ms Z pc' L (a :: a :: st) M k n) : Wg G I XX d mc ms Z pc L (a :: st) M k n := by
  obtain ⟨hd, rfl⟩ := hd
  exact wg_stk (fun hL hs _ _ => vok_cons (vok_hd hs) hs) (fun p e s m args below meth c H locs Ls ad Q X hW hS h hs q => lv_dup X.1 X.2.1 hd (by rw [cv_cat, ha]; rfl) q) kk
theorem wg_pop {a : AV} (hd : Dd I.2.1 pc (.pop) 1 pc') (ha : wide a = false) (kk : Wg G I XX d mc ms Z pc' L st M k n) : Wg G I XX d mc ms Z pc L (a :: st) M k n := by
  obtain ⟨hd, rfl⟩ := hd
  exact wg_stk (fun hL hs _ _ => vok_tl hs) (fun p e s m args below meth c H locs Ls ad Q X hW hS h hs q => lv_pop X.1 X.2.1 hd (by rw [cv_cat, ha]; rfl) q) kk
theorem wg_dup2 {a b : AV} (hd : Dd I.2.1 pc (.dup2) 1 pc') (ha : wide a = false) (hb : wide b = false) (kk : Wg G I XX d mc ms Z pc' L (a :: b :: a :: b :: st) M k n) : Wg G I XX d mc ms Z pc L (a :: b :: st) M k n := by
  obtain ⟨hd, rfl⟩ := hd
  exact wg_stk (fun hL hs _ _ => vok_cons (vok_hd hs) (vok_cons (vok_hd (vok_tl hs)) hs)) (fun p e s m args below meth c H locs Ls ad Q X hW hS h hs q => lv_dup2_11 X.1 X.2.1 hd (by rw [cv_cat, ha]; rfl) (by rw [cv_cat, hb]; rfl) q) kk
theorem wg_goto {off : Int} {tgt : Nat} (hd : Dd I.2.1 pc (.goto off) 3 pc') (ht : (pc : Int) + off = (tgt : Int)) (kk : Wg G I XX d mc ms Z tgt L st M k n) : Wg G I XX d mc ms Z pc L st M k n := by
  obtain ⟨hd, rfl⟩ := hd
  exact wg_stk (fun hL hs _ _ => hs) (fun p e s m args below meth c H locs Ls ad Q X hW hS h hs q => lv_goto X.1 X.2.1 hd ht q) kk
theorem wg_weak (bs : List Bool) {L' : List (Option AV)} (h' : wkL L bs = L') (kk : Wg G I XX d mc ms Z pc L' st M k n) : Wg G I XX d mc ms Z pc L st M k n := by
  subst h'
  intro hL hs p e s m args below meth c H locs Ls ad n0 ad0 X hW hS hl hn hE
  refine kk (fun v hv => ?_) hs p e s m args below meth c H locs Ls ad n0 ad0 X hW hS (lv_subset hl fun q hq => ?_) hn hE
  · obtain ⟨i, hi⟩ := mem_get.mp hv
    exact hL v (mem_get.mpr ⟨i, wkL_get hi⟩)
  · obtain ⟨v, h1, h2⟩ := al_mem.mp hq
    exact al_mem.mpr ⟨v, wkL_get h1, h2⟩
/-- what holds of every state that a walk comes to -/
theorem wg_ok (kk : (∀ v, some v ∈ L → vok M.1 v) → (∀ v ∈ st, vok M.1 v) → (∀ p k, R32 (M.2.1 p k)) → (∀ p k, M.2.2 p k ≤ M.1) → M.1 < 700 → Wg G I XX d mc ms Z pc L st M k n) : Wg G I XX d mc ms Z pc L st M k n := by
  intro hL hs p e s m args below meth c H locs Ls ad n0 ad0 X hW hS hl hn hE
  exact kk hL hs hW.2.2.1 hW.2.2.2.1 hW.2.2.2.2.2 hL hs p e s m args below meth c H locs Ls ad n0 ad0 X hW hS hl hn hE
theorem wg_icmp_eq {x y : Int} {off : Int} {tgt : Nat} (hd : Dd I.2.1 pc (.if_icmp .eq off) 3 pc') (ht : (pc : Int) + off = (tgt : Int)) (kt : x = y → Wg G I XX d mc ms Z tgt L st M k n) (kf : ¬ (x = y) → Wg G I XX d mc ms Z pc' L st M k n) : Wg G I XX d mc ms Z pc L (vI y :: vI x :: st) M k n := by
  obtain ⟨hd, rfl⟩ := hd
  intro hL hs p e s m args below meth c H locs Ls ad n0 ad0 X hW hS hl hn hE
  have hy : R32 y := vok_hd hs
  have hx : R32 x := vok_hd (vok_tl hs)
  exact lv_icmp_eq X.1 X.2.1 hd ht (fun z => kt ((o32_eq hx hy).mp z) hL (vok_tl (vok_tl hs)) p e s m args below meth c H locs Ls ad n0 ad0 X hW hS hl hn hE) (fun z => kf (fun u => z ((o32_eq hx hy).mpr u)) hL (vok_tl (vok_tl hs)) p e s m args below meth c H locs Ls ad n0 ad0 X hW hS hl hn hE)
theorem wg_icmp_ne {x y : Int} {off : Int} {tgt : Nat} (hd : Dd I.2.1 pc (.if_icmp .ne off) 3 pc') (ht : (pc : Int) + off = (tgt : Int)) (kt : x ≠ y → Wg G I XX d mc ms Z tgt L st M k n) (kf : x = y → Wg G I XX d mc ms Z pc' L st M k n) : Wg G I XX d mc ms Z pc L (vI y :: vI x :: st) M k n := by
  obtain ⟨hd, rfl⟩ := hd
  intro hL hs p e s m args below meth c H locs Ls ad n0 ad0 X hW hS hl hn hE
  have hy : R32 y := vok_hd hs
  have hx : R32 x := vok_hd (vok_tl hs)
  exact lv_icmp_ne X.1 X.2.1 hd ht (fun z => kt ((not_congr (o32_eq hx hy)).mp z) hL (vok_tl (vok_tl hs)) p e s m args below meth c H locs Ls ad n0 ad0 X hW hS hl hn hE) (fun z => kf ((o32_eq hx hy).mp z) hL (vok_tl (vok_tl hs)) p e s m args below meth c H locs Ls ad n0 ad0 X hW hS hl hn hE)
theorem wg_icmp_lt {x y : Int} {off : Int} {tgt : Nat} (hd : Dd I.2.1 pc (.if_icmp .lt off) 3 pc') (ht : (pc : Int) + off = (tgt : Int)) (kt : x < y → Wg G I XX d mc ms Z tgt L st M k n) (kf : ¬ (x < y) → Wg G I XX d mc ms Z pc' L st M k n) : Wg G I XX d mc ms Z pc L (vI y :: vI x :: st) M k n := by
  obtain ⟨hd, rfl⟩ := hd
  intro hL hs p e s m args below meth c H locs Ls ad n0 ad0 X hW hS hl hn hE
  have hy : R32 y := vok_hd hs
  have hx : R32 x := vok_hd (vok_tl hs)
  exact lv_icmp_lt X.1 X.2.1 hd ht (fun z => kt ((o32_lt hx hy).mp z) hL (vok_tl (vok_tl hs)) p e s m args below meth c H locs Ls ad n0 ad0 X hW hS hl hn hE) (fun z => kf (fun u => z ((o32_lt hx hy).mpr u)) hL (vok_tl (vok_tl hs)) p e s m args below meth c H locs Ls ad n0 ad0 X hW hS hl hn hE)
theorem wg_icmp_ge {x y : Int} {off : Int} {tgt : Nat} (hd : Dd I.2.1 pc (.if_icmp .ge off) 3 pc') (ht : (pc : Int) + off = (tgt : Int)) (kt : y ≤ x → Wg G I XX d mc ms Z tgt L st M k n) (kf : ¬ (y ≤ x) → Wg G I XX d mc ms Z pc' L st M k n) : Wg G I XX d mc ms Z pc L (vI y :: vI x :: st) M k n := by
  obtain ⟨hd, rfl⟩ := hd
  intro hL hs p e s m args below meth c H locs Ls ad n0 ad0 X hW hS hl hn hE
  have hy : R32 y := vok_hd hs
  have hx : R32 x := vok_hd (vok_tl hs)
  exact lv_icmp_ge X.1 X.2.1 hd ht (fun z => kt ((o32_le hy hx).mp z) hL (vok_tl (vok_tl hs)) p e s m args below meth c H locs Ls ad n0 ad0 X hW hS hl hn hE) (fun z => kf (fun u => z ((o32_le hy hx).mpr u)) hL (vok_tl (vok_tl hs)) p e s m args below meth c H locs Ls ad n0 ad0 X hW hS hl hn hE)
theorem wg_icmp_gt {x y : Int} {off : Int} {tgt : Nat} (hd : Dd I.2.1 pc (.if_icmp .gt off) 3 pc') (ht : (pc : Int) + off = (tgt : Int)) (kt : y < x → Wg G I XX d mc ms Z tgt L st M k n) (kf : ¬ (y < x) → Wg G I XX d mc ms Z pc' L st M k n) : Wg G I XX d mc ms Z pc L (vI y :: vI x :: st) M k n := by
  obtain ⟨hd, rfl⟩ := hd
  intro hL hs p e s m args below meth c H locs Ls ad n0 ad0 X hW hS hl hn hE
  have hy : R32 y := vok_hd hs
  have hx : R32 x := vok_hd (vok_tl hs)
  exact lv_icmp_gt X.1 X.2.1 hd ht (fun z => kt ((o32_lt hy hx).mp z) hL (vok_tl (vok_tl hs)) p e s m args below meth c H locs Ls ad n0 ad0 X hW hS hl hn hE) (fun z => kf (fun u => z ((o32_lt hy hx).mpr u)) hL (vok_tl (vok_tl hs)) p e s m args below meth c H locs Ls ad n0 ad0 X hW hS hl hn hE)
theorem wg_icmp_le {x y : Int} {off : Int} {tgt : Nat} (hd : Dd I.2.1 pc (.if_icmp .le off) 3 pc') (ht : (pc : Int) + off = (tgt : Int)) (kt : x ≤ y → Wg G I XX d mc ms Z tgt L st M k n) (kf : ¬ (x ≤ y) → Wg G I XX d mc ms Z pc' L st M k n) : Wg G I XX d mc ms Z pc L (vI y :: vI x :: st) M k n := by
  obtain ⟨hd, rfl⟩ := hd
  intro hL hs p e s m args below meth c H locs Ls ad n0 ad0 X hW hS hl hn hE
  have hy : R32 y := vok_hd hs
  have hx : R32 x := vok_hd (vok_tl hs)
  exact lv_icmp_le X.1 X.2.1 hd ht (fun z => kt ((o32_le hx hy).mp z) hL (vok_tl (vok_tl hs)) p e s m args below meth c H locs Ls ad n0 ad0 X hW hS hl hn hE) (fun z => kf (fun u => z ((o32_le hx hy).mpr u)) hL (vok_tl (vok_tl hs)) p e s m args below meth c H locs Ls ad n0 ad0 X hW hS hl hn hE)
theorem wg_if_eq {x : Int} {off : Int} {tgt : Nat} (hd : Dd I.2.1 pc (.ifCond .eq off) 3 pc') (ht : (pc : Int) + off = (tgt : Int)) (kt : x = 0 → Wg G I XX d mc ms Z tgt L st M k n) (kf : ¬ (x = 0) → Wg G I XX d mc ms Z pc' L st M k n) : Wg G I XX d mc ms Z pc L (vI x :: st) M k n := by
  obtain ⟨hd, rfl⟩ := hd
  intro hL hs p e s m args below meth c H locs Ls ad n0 ad0 X hW hS hl hn hE
  have hx : R32 x := vok_hd hs
  exact lv_if_eq X.1 X.2.1 hd ht (fun z => kt ((o32_eq hx z32).mp z) hL (vok_tl hs) p e s m args below meth c H locs Ls ad n0 ad0 X hW hS hl hn hE) (fun z => kf (fun u => z ((o32_eq hx z32).mpr u)) hL (vok_tl hs) p e s m args below meth c H locs Ls ad n0 ad0 X hW hS hl hn hE)
theorem wg_if_ne {x : Int} {off : Int} {tgt : Nat} (hd : Dd I.2.1 pc (.ifCond .ne off) 3 pc') (ht : (pc : Int) + off = (tgt : Int)) (kt : x ≠ 0 → Wg G I XX d mc ms Z tgt L st M k n) (kf : x = 0 → Wg G I XX d mc ms Z pc' L st M k n) : Wg G I XX d mc ms Z pc L (vI x :: st) M k n := by
  obtain ⟨hd, rfl⟩ := hd
  intro hL hs p e s m args below meth c H locs Ls ad n0 ad0 X hW hS hl hn hE
  have hx : R32 x := vok_hd hs
  exact lv_if_ne X.1 X.2.1 hd ht (fun z => kt ((not_congr (o32_eq hx z32)).mp z) hL (vok_tl hs) p e s m args below meth c H locs Ls ad n0 ad0 X hW hS hl hn hE) (fun z => kf ((o32_eq hx z32).mp z) hL (vok_tl hs) p e s m args below meth c H locs Ls ad n0 ad0 X hW hS hl hn hE)
theorem wg_if_lt {x : Int} {off : Int} {tgt : Nat} (hd : Dd I.2.1 pc (.ifCond .lt off) 3 pc') (ht : (pc : Int) + off = (tgt : Int)) (kt : x < 0 → Wg G I XX d mc ms Z tgt L st M k n) (kf : ¬ (x < 0) → Wg G I XX d mc ms Z pc' L st M k n) : Wg G I XX d mc ms Z pc L (vI x :: st) M k n := by
  obtain ⟨hd, rfl⟩ := hd
  intro hL hs p e s m args below meth c H locs Ls ad n0 ad0 X hW hS hl hn hE
  have hx : R32 x := vok_hd hs
  exact lv_if_lt X.1 X.2.1 hd ht (fun z => kt ((o32_lt hx z32).mp z) hL (vok_tl hs) p e s m args below meth c H locs Ls ad n0 ad0 X hW hS hl hn hE) (fun z => kf (fun u => z ((o32_lt hx z32).mpr u)) hL (vok_tl hs) p e s m args below meth c H locs Ls ad n0 ad0 X hW hS hl hn hE)
theorem wg_if_ge {x : Int} {off : Int} {tgt : Nat} (hd : Dd I.2.1 pc (.ifCond .ge off) 3 pc') (ht : (pc : Int) + off = (tgt : Int)) (kt : 0 ≤ x → Wg G I XX d mc ms Z tgt L st M k n) (kf : ¬ (0 ≤ x) → Wg G I XX d mc ms Z pc' L st M k n) : Wg G I XX d mc ms Z pc L (vI x :: st) M k n := by
  obtain ⟨hd, rfl⟩ := hd
  intro hL hs p e s m args below meth c H locs Ls ad n0 ad0 X hW hS hl hn hE
  have hx : R32 x := vok_hd hs
  exact lv_if_ge X.1 X.2.1 hd ht (fun z => kt ((o32_le z32 hx).mp z) hL (vok_tl hs) p e s m args below meth c H locs Ls ad n0 ad0 X hW hS hl hn hE) (fun z => kf (fun u => z ((o32_le z32 hx).mpr u)) hL (vok_tl hs) p e s m args below meth c H locs Ls ad n0 ad0 X hW hS hl hn hE)
theorem wg_if_gt {x : Int} {off : Int} {tgt : Nat} (hd : Dd I.2.1 pc (.ifCond .gt off) 3 pc') (ht : (pc : Int) + off = (tgt : Int)) (kt : 0 < x → Wg G I XX d mc ms Z tgt L st M k n) (kf : ¬ (0 < x) → Wg G I XX d mc ms Z pc' L st M k n) : Wg G I XX d mc ms Z pc L (vI x :: st) M k n := by
  obtain ⟨hd, rfl⟩ := hd
  intro hL hs p e s m args below meth c H locs Ls ad n0 ad0 X hW hS hl hn hE
  have hx : R32 x := vok_hd hs
  exact lv_if_gt X.1 X.2.1 hd ht (fun z => kt ((o32_lt z32 hx).mp z) hL (vok_tl hs) p e s m args below meth c H locs Ls ad n0 ad0 X hW hS hl hn hE) (fun z => kf (fun u => z ((o32_lt z32 hx).mpr u)) hL (vok_tl hs) p e s m args below meth c H locs Ls ad n0 ad0 X hW hS hl hn hE)
theorem wg_if_le {x : Int} {off : Int} {tgt : Nat} (hd : Dd I.2.1 pc (.ifCond .le off) 3 pc') (ht : (pc : Int) + off = (tgt : Int)) (kt : x ≤ 0 → Wg G I XX d mc ms Z tgt L st M k n) (kf : ¬ (x ≤ 0) → Wg G I XX d mc ms Z pc' L st M k n) : Wg G I XX d mc ms Z pc L (vI x :: st) M k n := by
  obtain ⟨hd, rfl⟩ := hd
  intro hL hs p e s m args below meth c H locs Ls ad n0 ad0 X hW hS hl hn hE
  have hx : R32 x := vok_hd hs
  exact lv_if_le X.1 X.2.1 hd ht (fun z => kt ((o32_le hx z32).mp z) hL (vok_tl hs) p e s m args below meth c H locs Ls ad n0 ad0 X hW hS hl hn hE) (fun z => kf (fun u => z ((o32_le hx z32).mpr u)) hL (vok_tl hs) p e s m args below meth c H locs Ls ad n0 ad0 X hW hS hl hn hE)
theorem wg_ifnonnull {q : Nat} {off : Int} {tgt : Nat} (hd : Dd I.2.1 pc (.ifnonnull off) 3 pc') (ht : (pc : Int) + off = (tgt : Int)) (hq : q ≠ 0) (kk : Wg G I XX d mc ms Z tgt L st M k n) : Wg G I XX d mc ms Z pc L (vR q :: st) M k n := by
  obtain ⟨hd, rfl⟩ := hd
  refine wg_stk (fun hL hs _ _ => vok_tl hs) (fun p e s m args below meth c H locs Ls ad Q X hW hS h hs z => ?_) kk
  simp only [List.map_cons, cv, cr, if_neg hq]
  exact lv_ifnonnull X.1 X.2.1 hd ht z
theorem wg_ifnull {q : Nat} {off : Int} (hd : Dd I.2.1 pc (.ifnull off) 3 pc') (hq : q ≠ 0) (kk : Wg G I XX d mc ms Z pc' L st M k n) : Wg G I XX d mc ms Z pc L (vR q :: st) M k n := by
  obtain ⟨hd, rfl⟩ := hd
  refine wg_stk (fun hL hs _ _ => vok_tl hs) (fun p e s m args below meth c H locs Ls ad Q X hW hS h hs z => ?_) kk
  simp only [List.map_cons, cv, cr, if_neg hq]
  exact lv_ifnull X.1 X.2.1 hd z
theorem wg_tableOut {x dflt lo hi : Int} {offs : Array Int} {len : Nat} {tgt : Nat} (hd : Dd I.2.1 pc (.tableswitch dflt lo hi offs) len pc') (h : x < lo ∨ hi < x) (ht : (pc : Int) + dflt = (tgt : Int)) (kk : Wg G I XX d mc ms Z tgt L st M k n) : Wg G I XX d mc ms Z pc L (vI x :: st) M k n := by
  obtain ⟨hd, -⟩ := hd
  refine wg_stk (fun hL hs _ _ => vok_tl hs) (fun p e s m args below meth c H locs Ls ad Q X hW hS hh hs z => ?_) kk
  exact lv_tableOut X.1 X.2.1 hd (by rw [o32_t (show R32 x from vok_hd hs)]; exact h) ht z
theorem wg_tableIn {x dflt lo hi off : Int} {offs : Array Int} {len : Nat} {tgt : Nat} (hd : Dd I.2.1 pc (.tableswitch dflt lo hi offs) len pc') (h1 : ¬ x < lo) (h2 : ¬ hi < x) (ho : offs[(x - lo).toNat]? = some off) (ht : (pc : Int) + off = (tgt : Int)) (kk : Wg G I XX d mc ms Z tgt L st M k n) : Wg G I XX d mc ms Z pc L (vI x :: st) M k n := by
  obtain ⟨hd, -⟩ := hd
  refine wg_stk (fun hL hs _ _ => vok_tl hs) (fun p e s m args below meth c H locs Ls ad Q X hW hS hh hs z => ?_) kk
  have e1 := o32_t (show R32 x from vok_hd hs)
  exact lv_tableIn X.1 X.2.1 hd (by rw [e1]; exact h1) (by rw [e1]; exact h2) (by rw [e1]; exact ho) ht z
theorem off_none {d0 x : Int} : ∀ {l : List (Int × Int)}, (∀ q ∈ l, ¬ x = q.1) → Op.lookupswitch.offset l d0 x = d0 := by
  intro l
  induction l with
  | nil => intro _; rfl
  | cons a l ih =>
    intro h
    obtain ⟨a, o⟩ := a
    rw [Op.lookupswitch.offset_cons, if_neg (fun z => h (a, o) List.mem_cons_self (by first | exact z | exact z.symm))]
    exact ih fun q hq => h q (List.mem_cons_of_mem _ hq)
theorem wg_lookup {x dflt off : Int} {ps : Array (Int × Int)} {len : Nat} {tgt : Nat} (hd : Dd I.2.1 pc (.lookupswitch dflt ps) len pc') (hp : (ps.toList.zip (ps.toList.drop 1)).all (fun (a, next) => a.1 < next.1) = true) (ho : Op.lookupswitch.offset ps.toList dflt x = off) (ht : (pc : Int) + off = (tgt : Int)) (kk : Wg G I XX d mc ms Z tgt L st M k n) : Wg G I XX d mc ms Z pc L (vI x :: st) M k n := by
  obtain ⟨hd, -⟩ := hd
  refine wg_stk (fun hL hs _ _ => vok_tl hs) (fun p e s m args below meth c H locs Ls ad Q X hW hS hh hs z => ?_) kk
  exact lv_lookup X.1 X.2.1 hd hp (by rw [o32_t (show R32 x from vok_hd hs)]; exact ho) ht z
end WG
end
section
/-! ===== fields, arrays, calls, ends, over the one big world ===== -/
/-- the field k of class ci, as class I's entry ix names it -/
def FL (I : MI) (ix ci k : Nat) : Prop := ∃ (C : String) (T : u_T) (N : Nat), cls[ci]? = some (C, T, N) ∧ k < N ∧ nf ci = N ∧ Cond.fieldLink I.1.cls ix C (T k).2.1 (T k).2.2.1 ∈ WS ∧ (T k).1 = C ∧ (∀ w ∈ u_ws C T N, w ∈ WS) ∧ (∀ k, k < N → parseFieldDescriptor (T k).2.2.1 = some (tyc ci k)) ∧ (∀ a, a < N → ∀ b, b < N → a ≠ b → (T a).2.1 ≠ (T b).2.1) ∧ ci < 10
def fin (ci k : Nat) : Bool := match cls[ci]? with
  | some (_, T, _) => (T k).2.2.2
  | none => false
section WM
variable {G : GG} {I : MI} {XX : State → Prop} {d mc ms : Nat} {Z : Nat → (Nat → Nat) → List Frame → Array Value → State → State → Prop} {pc pc' : Nat} {L : List (Option AV)} {st : List AV} {M : MM} {k n : Nat}
theorem kd_ok {q N : Nat} (h : kd q ≤ 12) (hv : vok N (vR q)) : 1 ≤ q ∧ q ≤ N := by
  obtain ⟨h1, h2⟩ := kd_in h
  refine ⟨h1, ?_⟩
  rcases (show q ≤ N ∨ 700 ≤ q from hv) with z | z
  · exact z
  · omega
theorem cr_pos {ad : Nat → Nat} {q : Nat} (h : 1 ≤ q) : cr ad q = .ref (ad q) := by
  unfold cr
  rw [if_neg (by omega)]
def fsl (ad : Nat → Nat) (M : MM) (p : Nat) : List Value := (List.range (nf (kd p))).map (fun k => if isr (kd p) k then cr ad (M.2.2 p k) else .int (Int32.ofInt (M.2.1 p k)))
theorem ce_obj {cy : Nat → ClassId} {ad : Nat → Nat} {p : Nat} (h : kd p < 10) : ce cy ad M p = .inr (kd p, fsl ad M p) := by
  unfold ce
  rw [if_pos h]
  rfl
theorem ce_int {cy : Nat → ClassId} {ad : Nat → Nat} {p : Nat} (h : kd p = 10) : ce cy ad M p = .inl (cy 10, ln p, .inl (fun j => Int32.ofInt (M.2.1 p j))) := by
  unfold ce
  rw [if_neg (by omega), if_neg (by omega), h]
theorem ce_bool {cy : Nat → ClassId} {ad : Nat → Nat} {p : Nat} (h : kd p = 11) : ce cy ad M p = .inl (cy 11, ln p, .inl (fun j => Int32.ofInt (M.2.1 p j))) := by
  unfold ce
  rw [if_neg (by omega), if_neg (by omega), h]
theorem ce_ref {cy : Nat → ClassId} {ad : Nat → Nat} {p : Nat} (h : kd p = 12) : ce cy ad M p = .inl (cy 12, ln p, .inr (.inr (.inr (.inr (fun j => if M.2.2 p j = 0 then none else some (ad (M.2.2 p j))))))) := by
  unfold ce
  rw [if_neg (by omega), if_pos h]
theorem fsl_get {ad : Nat → Nat} {p j : Nat} (h : j < nf (kd p)) : (fsl ad M p)[j]? = some (if isr (kd p) j then cr ad (M.2.2 p j) else .int (Int32.ofInt (M.2.1 p j))) := by
  unfold fsl
  rw [List.getElem?_map, List.getElem?_range h]
  rfl
theorem fsl_len {ad : Nat → Nat} {p : Nat} : (fsl ad M p).length = nf (kd p) := by
  unfold fsl
  rw [List.length_map, List.length_range]
theorem ce_other {cy : Nat → ClassId} {ad : Nat → Nat} {M' : MM} {q : Nat} (h1 : ∀ j, M'.2.1 q j = M.2.1 q j) (h2 : ∀ j, M'.2.2 q j = M.2.2 q j) : ce cy ad M' q = ce cy ad M q := by
  unfold ce
  simp only [h1, h2]
theorem fsl_stI {ad : Nat → Nat} {p j : Nat} {x : Int} (hj : j < nf (kd p)) (hr : isr (kd p) j = false) : (fsl ad M p).set j (.int (Int32.ofInt x)) = fsl ad (stI M p j x) p := by
  refine List.ext_getElem? fun i => ?_
  by_cases hi : i < nf (kd p)
  · by_cases hij : j = i
    · subst hij
      rw [List.getElem?_set_self (by rw [fsl_len]; exact hj), fsl_get hi]
      simp [hr, stI]
    · rw [List.getElem?_set_ne hij, fsl_get hi, fsl_get hi]
      have : ¬ i = j := fun z => hij z.symm
      simp [stI, this]
  · rw [List.getElem?_eq_none (by rw [List.length_set, fsl_len]; omega), List.getElem?_eq_none (by rw [fsl_len]; omega)]
theorem fsl_stR {ad : Nat → Nat} {p j x : Nat} (hj : j < nf (kd p)) (hr : isr (kd p) j = true) : (fsl ad M p).set j (cr ad x) = fsl ad (stR M p j x) p := by
  refine List.ext_getElem? fun i => ?_
  by_cases hi : i < nf (kd p)
  · by_cases hij : j = i
    · subst hij
      rw [List.getElem?_set_self (by rw [fsl_len]; exact hj), fsl_get hi]
      simp [hr, stR]
    · rw [List.getElem?_set_ne hij, fsl_get hi, fsl_get hi]
      have : ¬ i = j := fun z => hij z.symm
      simp [stR, this]
  · rw [List.getElem?_eq_none (by rw [List.length_set, fsl_len]; omega), List.getElem?_eq_none (by rw [fsl_len]; omega)]
theorem ww_stI {ad : Nat → Nat} {H H1 : Heap} {p j : Nat} {x : Int} {E : va_E} (hW : Ww G ad M H) (h1 : 1 ≤ p) (h2 : p ≤ M.1) (hx : R32 x) (hE : ce G.2.2.1 ad (stI M p j x) p = E)
    (hP : va_P G.2.1 cls ((wl G ad M).set (p - 1) (ad p, E)) H1) (hD : va_D (gA G) ((wl G ad M).set (p - 1) (ad p, E))) : Ww G ad (stI M p j x) H1 := by
  have e := wl_set (G := G) (ad := ad) (M := M) (M' := stI M p j x) h1 h2 rfl hE (fun q hq => ce_other (fun i => by simp [stI, hq]) (fun i => rfl))
  rw [e] at hP hD
  refine ⟨hP, hD, fun a b => ?_, hW.2.2.2.1, hW.2.2.2.2.1, hW.2.2.2.2.2⟩
  show R32 (if a = p ∧ b = j then x else M.2.1 a b)
  split
  · exact hx
  · exact hW.2.2.1 a b
theorem ww_stR {ad : Nat → Nat} {H H1 : Heap} {p j x : Nat} {E : va_E} (hW : Ww G ad M H) (h1 : 1 ≤ p) (h2 : p ≤ M.1) (hx : x ≤ M.1) (hE : ce G.2.2.1 ad (stR M p j x) p = E)
    (hP : va_P G.2.1 cls ((wl G ad M).set (p - 1) (ad p, E)) H1) (hD : va_D (gA G) ((wl G ad M).set (p - 1) (ad p, E))) : Ww G ad (stR M p j x) H1 := by
  have e := wl_set (G := G) (ad := ad) (M := M) (M' := stR M p j x) h1 h2 rfl hE (fun q hq => ce_other (fun i => rfl) (fun i => by simp [stR, hq]))
  rw [e] at hP hD
  refine ⟨hP, hD, hW.2.2.1, fun a b => ?_, hW.2.2.2.2.1, hW.2.2.2.2.2⟩
  show (if a = p ∧ b = j then x else M.2.2 a b) ≤ M.1
  split
  · exact hx
  · exact hW.2.2.2.1 a b
-- fields
theorem wg_getI {ix ci j q : Nat} (hd : Dd I.2.1 pc (.getfield ix) 3 pc') (hf : FL I ix ci j) (hi : isr ci j = false) (hq : kd q = ci) (kk : Wg G I XX d mc ms Z pc' L (vI (gI M q j) :: st) M k n) : Wg G I XX d mc ms Z pc L (vR q :: st) M k n := by
  obtain ⟨hd, rfl⟩ := hd
  obtain ⟨C, T, N, f1, f2, f3, f4, f5, f6, f7, f8, f9⟩ := hf
  subst hq
  refine wg_stk (fun hL hs h32 _ => vcI (h32 q j) (vok_tl hs)) (fun p e s m args below meth c H locs Ls ad Q X hW hS hh hs z => ?_) kk
  obtain ⟨h1, h2⟩ := kd_ok (by omega) (vok_hd hs)
  have hg := wl_get (G := G) (ad := ad) h1 h2
  rw [ce_obj f9] at hg
  simp only [List.map_cons, cv, cr_pos h1]
  simp only [List.map_cons, cv, gI] at z
  exact va_get X.1 X.2.1 X.2.2.2.2.2.2.1 f6 X.2.2.2.2.2.1 X.2.2.2.2.2.2.2.1 hW.1 (q - 1) hg f1 j f2 (X.2.2.2.2.2.2.1 _ f4) (fun x hx => by rw [f5] at hx; exact hx) (v := .int (Int32.ofInt (M.2.1 q j))) (by rw [fsl_get (by rw [f3]; exact f2), hi]; rfl) hd z
theorem wg_getR {ix ci j q : Nat} (hd : Dd I.2.1 pc (.getfield ix) 3 pc') (hf : FL I ix ci j) (hi : isr ci j = true) (hq : kd q = ci) (kk : Wg G I XX d mc ms Z pc' L (vR (gR M q j) :: st) M k n) : Wg G I XX d mc ms Z pc L (vR q :: st) M k n := by
  obtain ⟨hd, rfl⟩ := hd
  obtain ⟨C, T, N, f1, f2, f3, f4, f5, f6, f7, f8, f9⟩ := hf
  subst hq
  refine wg_stk (fun hL hs h32 hr => vcR (Or.inl (hr q j)) (vok_tl hs)) (fun p e s m args below meth c H locs Ls ad Q X hW hS hh hs z => ?_) kk
  obtain ⟨h1, h2⟩ := kd_ok (by omega) (vok_hd hs)
  have hg := wl_get (G := G) (ad := ad) h1 h2
  rw [ce_obj f9] at hg
  simp only [List.map_cons, cv, cr_pos h1]
  simp only [List.map_cons, cv, gR] at z
  exact va_get X.1 X.2.1 X.2.2.2.2.2.2.1 f6 X.2.2.2.2.2.1 X.2.2.2.2.2.2.2.1 hW.1 (q - 1) hg f1 j f2 (X.2.2.2.2.2.2.1 _ f4) (fun x hx => by rw [f5] at hx; exact hx) (v := cr ad (M.2.2 q j)) (by rw [fsl_get (by rw [f3]; exact f2), hi]; rfl) hd z
theorem wg_getRe {ix ci j q r : Nat} (hd : Dd I.2.1 pc (.getfield ix) 3 pc') (hf : FL I ix ci j) (hi : isr ci j = true) (hq : kd q = ci) (he : gR M q j = r) (kk : Wg G I XX d mc ms Z pc' L (vR r :: st) M k n) : Wg G I XX d mc ms Z pc L (vR q :: st) M k n := wg_getR hd hf hi hq (by rw [he]; exact kk)
theorem fin_eq {ci j N : Nat} {C : String} {T : u_T} (h : cls[ci]? = some (C, T, N)) : fin ci j = (T j).2.2.2 := by
  unfold fin
  rw [h]
theorem wg_putI {ix ci j q : Nat} {x : Int} (hd : Dd I.2.1 pc (.putfield ix) 3 pc') (hf : FL I ix ci j) (hi : tyc ci j = .int) (hfin : fin ci j = false) (hq : kd q = ci) (kk : Wg G I XX d mc ms Z pc' L st (stI M q j x) k n) : Wg G I XX d mc ms Z pc L (vI x :: vR q :: st) M k n := by
  obtain ⟨hd, rfl⟩ := hd
  obtain ⟨C, T, N, f1, f2, f3, f4, f5, f6, f7, f8, f9⟩ := hf
  subst hq
  have hir : isr (kd q) j = false := by unfold isr; rw [hi]
  intro hL hs p e s m args below meth c H locs Ls ad n0 ad0 X hW hS hl hn hE
  obtain ⟨h1, h2⟩ := kd_ok (by omega) (vok_hd (vok_tl hs))
  have hg := wl_get (G := G) (ad := ad) h1 h2
  rw [ce_obj f9] at hg
  simp only [List.map_cons, cv, cr_pos h1]
  rw [fin_eq f1] at hfin
  refine va_put X.1 X.2.1 X.2.2.2.2.2.2.1 f6 (tyc (kd q)) f7 f8 X.2.2.2.2.2.1 X.2.2.2.2.2.2.2.1 hW.1 hW.2.1 hS (q - 1) hg f1 j f2 (X.2.2.2.2.2.2.1 _ f4) (fun x hx => by rw [f5] at hx; exact hx) hfin (ty := .int) (v := .int (Int32.ofInt x)) (by rw [f7 j f2, hi]) rfl rfl (by rw [fsl_len, f3]; exact f2) hd (fun H1 locs1 hP1 hD1 hS1 => ?_)
  have hx : R32 x := vok_hd hs
  rw [fsl_stI (by rw [f3]; exact f2) hir, ← ce_obj (cy := G.2.2.1) f9] at hP1 hD1
  exact kk hL (vok_tl (vok_tl hs)) p e s m args below meth c H1 locs1 Ls ad n0 ad0 X (ww_stI hW h1 h2 hx rfl hP1 hD1) hS1 hl hn hE
theorem wg_putR {ix ci j q x : Nat} {ty : FieldType} (hd : Dd I.2.1 pc (.putfield ix) 3 pc') (hf : FL I ix ci j) (hi : tyc ci j = ty) (hir : isr ci j = true) (hn : ∀ v, narrow ty v = v) (hft : ∀ ad, fits ty (cr ad x) = true) (hfin : fin ci j = false) (hq : kd q = ci) (hx : x < 700) (kk : Wg G I XX d mc ms Z pc' L st (stR M q j x) k n) : Wg G I XX d mc ms Z pc L (vR x :: vR q :: st) M k n := by
  obtain ⟨hd, rfl⟩ := hd
  obtain ⟨C, T, N, f1, f2, f3, f4, f5, f6, f7, f8, f9⟩ := hf
  subst hq
  intro hL hs p e s m args below meth c H locs Ls ad n0 ad0 X hW hS hl hn0 hE
  obtain ⟨h1, h2⟩ := kd_ok (by omega) (vok_hd (vok_tl hs))
  have hg := wl_get (G := G) (ad := ad) h1 h2
  rw [ce_obj f9] at hg
  simp only [List.map_cons, cv, cr_pos h1]
  rw [fin_eq f1] at hfin
  refine va_put X.1 X.2.1 X.2.2.2.2.2.2.1 f6 (tyc (kd q)) f7 f8 X.2.2.2.2.2.1 X.2.2.2.2.2.2.2.1 hW.1 hW.2.1 hS (q - 1) hg f1 j f2 (X.2.2.2.2.2.2.1 _ f4) (fun x hx => by rw [f5] at hx; exact hx) hfin (ty := ty) (v := cr ad x) (by rw [f7 j f2, hi]) (hn _) (hft ad) (by rw [fsl_len, f3]; exact f2) hd (fun H1 locs1 hP1 hD1 hS1 => ?_)
  have hx2 : x ≤ M.1 := by
    rcases (show x ≤ M.1 ∨ 700 ≤ x from vok_hd hs) with z | z
    · exact z
    · omega
  rw [fsl_stR (by rw [f3]; exact f2) hir, ← ce_obj (cy := G.2.2.1) f9] at hP1 hD1
  exact kk hL (vok_tl (vok_tl hs)) p e s m args below meth c H1 locs1 Ls ad n0 ad0 X (ww_stR hW h1 h2 hx2 rfl hP1 hD1) hS1 hl hn0 hE
theorem wg_putFR {ix ci j q x : Nat} {ty : FieldType} (hd : Dd I.2.1 pc (.putfield ix) 3 pc') (hf : FL I ix ci j) (hi : tyc ci j = ty) (hir : isr ci j = true) (hn : ∀ v, narrow ty v = v) (hft : ∀ ad, fits ty (cr ad x) = true) (hfin : fin ci j = true) (hI : I.1.name = "<init>") (hC : ∀ r, cls[ci]? = some r → r.1 = I.1.cls) (hq : kd q = ci) (hx : x < 700) (kk : Wg G I XX d mc ms Z pc' L st (stR M q j x) k n) : Wg G I XX d mc ms Z pc L (vR x :: vR q :: st) M k n := by
  obtain ⟨hd, rfl⟩ := hd
  obtain ⟨C, T, N, f1, f2, f3, f4, f5, f6, f7, f8, f9⟩ := hf
  subst hq
  intro hL hs p e s m args below meth c H locs Ls ad n0 ad0 X hW hS hl hn0 hE
  obtain ⟨h1, h2⟩ := kd_ok (by omega) (vok_hd (vok_tl hs))
  have hg := wl_get (G := G) (ad := ad) h1 h2
  rw [ce_obj f9] at hg
  simp only [List.map_cons, cv, cr_pos h1]
  rw [fin_eq f1] at hfin
  refine va_putF X.1 X.2.1 X.2.2.2.2.2.2.1 f6 (tyc (kd q)) f7 f8 X.2.2.2.2.2.1 X.2.2.2.2.2.2.2.1 hW.1 hW.2.1 hS (q - 1) hg f1 j f2 (X.2.2.2.2.2.2.1 _ f4) (fun x hx => by rw [f5] at hx; exact hx) hfin (X.2.2.2.2.2.2.2.2.2.1.trans hI) (f5.trans (hC _ f1)) (ty := ty) (v := cr ad x) (by rw [f7 j f2, hi]) (hn _) (hft ad) (by rw [fsl_len, f3]; exact f2) hd (fun H1 locs1 hP1 hD1 hS1 => ?_)
  have hx2 : x ≤ M.1 := by
    rcases (show x ≤ M.1 ∨ 700 ≤ x from vok_hd hs) with z | z
    · exact z
    · omega
  rw [fsl_stR (by rw [f3]; exact f2) hir, ← ce_obj (cy := G.2.2.1) f9] at hP1 hD1
  exact kk hL (vok_tl (vok_tl hs)) p e s m args below meth c H1 locs1 Ls ad n0 ad0 X (ww_stR hW h1 h2 hx2 rfl hP1 hD1) hS1 hl hn0 hE
-- arrays
theorem o_in {i : Int} {N : Nat} (hi : R32 i) (h0 : 0 ≤ i) (h : i < N) (hN : N ≤ 16384) : vp_in (Int32.ofInt i) N ∧ (Int32.ofInt i).toNatClampNeg = i.toNat := by
  have e : (Int32.ofInt i).toInt = i := o32_t hi
  refine ⟨?_, ?_⟩
  · rw [vp_in_iff, e]
    exact ⟨h0, h⟩
  · show (Int32.ofInt i).toInt.toNat = i.toNat
    rw [e]
theorem wg_iald {q : Nat} {i : Int} (hd : Dd I.2.1 pc (.iaload) 1 pc') (hq : kd q = 10) (h0 : 0 ≤ i) (h : i < ln q) (kk : Wg G I XX d mc ms Z pc' L (vI (gI M q i.toNat) :: st) M k n) : Wg G I XX d mc ms Z pc L (vI i :: vR q :: st) M k n := by
  obtain ⟨hd, rfl⟩ := hd
  refine wg_stk (fun hL hs h32 _ => vcI (h32 q _) (vok_tl (vok_tl hs))) (fun p e s m args below meth c H locs Ls ad Q X hW hS hh hs z => ?_) kk
  obtain ⟨h1, h2⟩ := kd_ok (by omega) (vok_hd (vok_tl hs))
  obtain ⟨a1, a2⟩ := o_in (vok_hd hs) h0 h (ln_le q)
  have hg := wl_get (G := G) (ad := ad) h1 h2
  rw [ce_int hq] at hg
  simp only [List.map_cons, cv, cr_pos h1]
  simp only [List.map_cons, cv, gI, ← a2] at z
  exact va_iald X.1 X.2.1 X.2.2.2.2.2.2.2.1 hW.1 (q - 1) 0 hg rfl a1 hd z
theorem wg_bald {q : Nat} {i : Int} (hd : Dd I.2.1 pc (.baload) 1 pc') (hq : kd q = 11) (h0 : 0 ≤ i) (h : i < ln q) (kk : Wg G I XX d mc ms Z pc' L (vI (gI M q i.toNat) :: st) M k n) : Wg G I XX d mc ms Z pc L (vI i :: vR q :: st) M k n := by
  obtain ⟨hd, rfl⟩ := hd
  refine wg_stk (fun hL hs h32 _ => vcI (h32 q _) (vok_tl (vok_tl hs))) (fun p e s m args below meth c H locs Ls ad Q X hW hS hh hs z => ?_) kk
  obtain ⟨h1, h2⟩ := kd_ok (by omega) (vok_hd (vok_tl hs))
  obtain ⟨a1, a2⟩ := o_in (vok_hd hs) h0 h (ln_le q)
  have hg := wl_get (G := G) (ad := ad) h1 h2
  rw [ce_bool hq] at hg
  simp only [List.map_cons, cv, cr_pos h1]
  simp only [List.map_cons, cv, gI, ← a2] at z
  exact va_zald X.1 X.2.1 X.2.2.2.2.2.2.2.1 hW.1 (q - 1) 1 hg rfl a1 hd z
theorem wg_aald {q : Nat} {i : Int} (hd : Dd I.2.1 pc (.aaload) 1 pc') (hq : kd q = 12) (h0 : 0 ≤ i) (h : i < ln q) (kk : Wg G I XX d mc ms Z pc' L (vR (gR M q i.toNat) :: st) M k n) : Wg G I XX d mc ms Z pc L (vI i :: vR q :: st) M k n := by
  obtain ⟨hd, rfl⟩ := hd
  refine wg_stk (fun hL hs h32 hr => vcR (Or.inl (hr q _)) (vok_tl (vok_tl hs))) (fun p e s m args below meth c H locs Ls ad Q X hW hS hh hs z => ?_) kk
  obtain ⟨h1, h2⟩ := kd_ok (by omega) (vok_hd (vok_tl hs))
  obtain ⟨a1, a2⟩ := o_in (vok_hd hs) h0 h (ln_le q)
  have hg := wl_get (G := G) (ad := ad) h1 h2
  rw [ce_ref hq] at hg
  simp only [List.map_cons, cv, cr_pos h1]
  simp only [List.map_cons, cv, gR, ← a2] at z
  refine va_aldq X.1 X.2.1 X.2.2.2.2.2.2.2.1 hW.1 (q - 1) 2 hg rfl a1 hd ?_
  have e1 : va_rf (if M.2.2 q (Int32.ofInt i).toNatClampNeg = 0 then none else some (ad (M.2.2 q (Int32.ofInt i).toNatClampNeg))) = cr ad (M.2.2 q (Int32.ofInt i).toNatClampNeg) := by
    unfold cr
    split <;> rfl
  rw [e1]
  exact z
theorem wg_iast {q : Nat} {i x : Int} (hd : Dd I.2.1 pc (.iastore) 1 pc') (hq : kd q = 10) (h0 : 0 ≤ i) (h : i < ln q) (kk : Wg G I XX d mc ms Z pc' L st (stI M q i.toNat x) k n) : Wg G I XX d mc ms Z pc L (vI x :: vI i :: vR q :: st) M k n := by
  obtain ⟨hd, rfl⟩ := hd
  intro hL hs p e s m args below meth c H locs Ls ad n0 ad0 X hW hS hl hn hE
  obtain ⟨h1, h2⟩ := kd_ok (by omega) (vok_hd (vok_tl (vok_tl hs)))
  obtain ⟨a1, a2⟩ := o_in (vok_hd (vok_tl hs)) h0 h (ln_le q)
  have hx : R32 x := vok_hd hs
  have hg := wl_get (G := G) (ad := ad) h1 h2
  rw [ce_int hq] at hg
  simp only [List.map_cons, cv, cr_pos h1]
  refine va_iast X.1 X.2.1 X.2.2.2.2.2.2.2.1 hW.1 hW.2.1 hS (q - 1) 0 hg rfl a1 hd (fun H1 locs1 hP1 hD1 hS1 => ?_)
  refine kk hL (vok_tl (vok_tl (vok_tl hs))) p e s m args below meth c H1 locs1 Ls ad n0 ad0 X (ww_stI hW h1 h2 hx ?_ hP1 hD1) hS1 hl hn hE
  rw [ce_int hq, a2]
  congr 4
  funext j
  unfold upd stI
  by_cases hj : j = i.toNat <;> simp [hj]
theorem wg_bast {q : Nat} {i x : Int} (hd : Dd I.2.1 pc (.bastore) 1 pc') (hq : kd q = 11) (h0 : 0 ≤ i) (h : i < ln q) (hx01 : x = 0 ∨ x = 1) (kk : Wg G I XX d mc ms Z pc' L st (stI M q i.toNat x) k n) : Wg G I XX d mc ms Z pc L (vI x :: vI i :: vR q :: st) M k n := by
  obtain ⟨hd, rfl⟩ := hd
  intro hL hs p e s m args below meth c H locs Ls ad n0 ad0 X hW hS hl hn hE
  obtain ⟨h1, h2⟩ := kd_ok (by omega) (vok_hd (vok_tl (vok_tl hs)))
  obtain ⟨a1, a2⟩ := o_in (vok_hd (vok_tl hs)) h0 h (ln_le q)
  have hx : R32 x := vok_hd hs
  have hg := wl_get (G := G) (ad := ad) h1 h2
  rw [ce_bool hq] at hg
  simp only [List.map_cons, cv, cr_pos h1]
  refine va_zast X.1 X.2.1 X.2.2.2.2.2.2.2.1 hW.1 hW.2.1 hS (q - 1) 1 hg rfl a1 hd (fun H1 locs1 hP1 hD1 hS1 => ?_)
  refine kk hL (vok_tl (vok_tl (vok_tl hs))) p e s m args below meth c H1 locs1 Ls ad n0 ad0 X (ww_stI hW h1 h2 hx ?_ hP1 hD1) hS1 hl hn hE
  have e1 : vp_nar .boolean (Int32.ofInt x) = Int32.ofInt x := by rcases hx01 with z | z <;> subst z <;> rfl
  rw [ce_bool hq, a2, e1]
  congr 4
  funext j
  unfold upd stI
  by_cases hj : j = i.toNat <;> simp [hj]
theorem wg_aast {q x : Nat} {i : Int} (hd : Dd I.2.1 pc (.aastore) 1 pc') (hq : kd q = 12) (h0 : 0 ≤ i) (h : i < ln q) (hx : kd x = 5) (kk : Wg G I XX d mc ms Z pc' L st (stR M q i.toNat x) k n) : Wg G I XX d mc ms Z pc L (vR x :: vI i :: vR q :: st) M k n := by
  obtain ⟨hd, rfl⟩ := hd
  intro hL hs p e s m args below meth c H locs Ls ad n0 ad0 X hW hS hl hn hE
  obtain ⟨h1, h2⟩ := kd_ok (by omega) (vok_hd (vok_tl (vok_tl hs)))
  obtain ⟨x1, x2⟩ := kd_ok (by omega) (vok_hd hs)
  obtain ⟨a1, a2⟩ := o_in (vok_hd (vok_tl hs)) h0 h (ln_le q)
  have hg := wl_get (G := G) (ad := ad) h1 h2
  have hgx := wl_get (G := G) (ad := ad) x1 x2
  rw [ce_ref hq] at hg
  rw [ce_obj (by omega), hx] at hgx
  simp only [List.map_cons, cv, cr_pos h1, cr_pos x1]
  refine va_astq X.1 X.2.1 X.2.2.2.2.2.2.2.1 hW.1 hW.2.1 hS (q - 1) 2 (x - 1) 5 (r := (RX5, TX5, 4)) hg rfl hgx rfl a1 hd (fun H1 locs1 hP1 hD1 hS1 => ?_)
  refine kk hL (vok_tl (vok_tl (vok_tl hs))) p e s m args below meth c H1 locs1 Ls ad n0 ad0 X (ww_stR hW h1 h2 x2 ?_ hP1 hD1) hS1 hl hn hE
  rw [ce_ref hq, a2]
  congr 7
  funext j
  unfold va_up stR
  have : x ≠ 0 := by omega
  by_cases hj : j = i.toNat <;> simp [hj, this]
theorem wg_alen {q : Nat} (hd : Dd I.2.1 pc (.arraylength) 1 pc') (hq : kd q = 10 ∨ kd q = 12) (kk : Wg G I XX d mc ms Z pc' L (vI (ln q : Int) :: st) M k n) : Wg G I XX d mc ms Z pc L (vR q :: st) M k n := by
  obtain ⟨hd, rfl⟩ := hd
  refine wg_stk (fun hL hs h32 _ => vcI (by have := ln_le q; exact ⟨by omega, by omega⟩) (vok_tl hs)) (fun p e s m args below meth c H locs Ls ad Q X hW hS hh hs z => ?_) kk
  obtain ⟨h1, h2⟩ := kd_ok (by omega) (vok_hd hs)
  have hg := wl_get (G := G) (ad := ad) h1 h2
  simp only [List.map_cons, cv, cr_pos h1]
  simp only [List.map_cons, cv, Int32.ofInt_eq_ofNat] at z
  rcases hq with hq | hq
  · rw [ce_int hq] at hg
    exact va_alen X.1 X.2.1 X.2.2.2.2.2.2.2.1 hW.1 (q - 1) 0 hg rfl rfl hd z
  · rw [ce_ref hq] at hg
    exact va_alen X.1 X.2.1 X.2.2.2.2.2.2.2.1 hW.1 (q - 1) 2 hg rfl rfl hd z
end WM
end
section
/-! ===== new cells, calls, ends ===== -/
def okty : FieldType → Bool
  | .int => true
  | .array _ => true
  | .object _ => true
  | _ => false
/-- class ci can be made by class I at its entry ix -/
def NW (I : MI) (ix ci N : Nat) : Prop := ∃ (C : String) (T : u_T), cls[ci]? = some (C, T, N) ∧ nf ci = N ∧ Cond.classLink I.1.cls ix C ∈ WS ∧ Cond.instantiable C N ∈ WS ∧ Cond.initialized C ∈ WS ∧ (∀ w ∈ u_ws C T N, w ∈ WS) ∧ (∀ k, k < N → parseFieldDescriptor (T k).2.2.1 = some (tyc ci k)) ∧ (∀ k, k < N → okty (tyc ci k) = true) ∧ ci < 10
/-- a method that can be called: its words, its number of parameters -/
def CI (I' : MI) (np : Nat) : Prop := Cond.initialized I'.1.cls ∈ WS ∧ Cond.code I'.1 I'.2.1 I'.2.2.1 I'.2.2.2 ∈ WS ∧ (I'.1.cls ≠ "java/lang/invoke/MethodHandle" ∧ I'.1.cls ≠ "java/lang/invoke/VarHandle" ∧ (parseMethodDescriptor I'.1.desc).map (fun d => d.parameters.length) = some np) ∧ I'.2.2.1 ≤ 20
def CVi (I' : MI) (np : Nat) : Prop := CI I' np ∧ Cond.instanceMethod I'.1 ∈ WS ∧ Cond.selects I'.1.cls I'.1 I'.1 ∈ WS
def CSt (I' : MI) (np : Nat) : Prop := CI I' np ∧ Cond.static I'.1 ∈ WS
def CCo (I' : MI) (np : Nat) : Prop := CI I' np ∧ Cond.instanceMethod I'.1 ∈ WS ∧ I'.1.name = "<init>"
theorem ws_good {w : Cond} (h : w ∈ WS) : (w.onTables && w.keeps) = true ∨ ∃ ty, w = .arrayClass ty := good_of_word (List.mem_filter.mp h).2
theorem ws_in {ws : List Cond} (h : ∀ w ∈ ws, w ∈ WS) : GoodIn WS ws := fun w hw => ⟨h w hw, ws_good (h w hw)⟩
theorem XS.moved {G : GG} {s U : State} {H H1 : Heap} (hW : s.WarmedH U.vm) (h : XS G s H) (hk : ∀ a : Nat, a < H.size → ¬ gA G a → H1[a]? = H[a]?) : XS G U H1 := ⟨vk_R.warm hW h.1, (vk_S.moved hW.alike h.2.1).kept hk, fun q hq => va_Nw.warmM hW (h.2.2.1 q hq), va_AO.moved hW.alike h.2.2.2.1, (va_Z.moved hW.alike h.2.2.2.2.1).kept hk, (va_Z.moved hW.alike h.2.2.2.2.2).kept hk⟩
theorem pco_blind {G : GG} {ad : Nat → Nat} {M : MM} {vs : List Value} : FrameBlind (va_Pc vs (PcO G ad M)) := by
  intro a U g mk h
  obtain ⟨h1, h2, h3, h4, h5⟩ := h
  exact ⟨h1, h2, va_K.moved (u := U) (U := U.calling g mk a) (Vm.Alike.refl U.vm) h3, ⟨vk_R.same (u := U) rfl h4.1, vk_S.moved (u := U) (U := U.calling g mk a) (Vm.Alike.refl U.vm) h4.2.1, fun q hq => va_Nw.same rfl rfl (h4.2.2.1 q hq), va_AO.moved (u := U) (U := U.calling g mk a) (Vm.Alike.refl U.vm) h4.2.2.2.1, va_Z.moved (u := U) (U := U.calling g mk a) (Vm.Alike.refl U.vm) h4.2.2.2.2.1, va_Z.moved (u := U) (U := U.calling g mk a) (Vm.Alike.refl U.vm) h4.2.2.2.2.2⟩, h5⟩
section WC
variable {G : GG} {I : MI} {XX : State → Prop} {d mc ms : Nat} {Z : Nat → (Nat → Nat) → List Frame → Array Value → State → State → Prop} {pc pc' : Nat} {L : List (Option AV)} {st : List AV} {M : MM} {k n : Nat}
theorem pco_at {p : Program} {s U : State} {m : MethodId} {args : Array Value} {meth : Method} {c : Code} {H : Heap} {locs : List Loc} {ad : Nat → Nat} (X : Cx G I XX p s m args meth c) (hW : Ww G ad M H) (hS : va_S (gA G) s.heap H locs) (hU : U.heap = H) (hw : s.WarmedH U.vm) : PcO G ad M U := by
  refine ⟨?_, va_K.moved hw.alike X.2.2.2.2.2.2.2.1, ?_, ?_⟩
  · rw [hU]; exact Nat.le_trans X.2.2.2.2.2.2.2.2.1 hS.1
  · rw [hU]; exact XS.moved hw X.2.2.2.2.2.2.2.2.2.2.1 hS.2.1
  · rw [hU]; exact hW
theorem wg_back {p : Program} {e : Env} {s : State} {m : MethodId} {args : Array Value} {below : List Frame} {meth : Method} {c : Code} {H : Heap} {locs : List Loc} {Ls : Array Slot} {ad : Nat → Nat} {Q : State → Prop} {Qc : Option AV → MM → Prop} {st0 rest : List Value} {mc' ms' : Nat} {a : Array Value} {rm : Room}
    (hr : va_Run p G.1 e rm s m args below meth c H locs k n mc' ms' (F0 m pc Ls st0) rest (QcO G M.1 ad Qc a) (gA G)) (hS : va_S (gA G) s.heap H locs)
    (kk : ∀ (v : Option AV) (M' : MM) (ad' : Nat → Nat) (H1 : Heap) (locs1 : List Loc), Qc v M' → M.1 ≤ M'.1 → AdE M.1 ad ad' → (∀ x, v = some x → vok M'.1 x) → Ww G ad' M' H1 → va_S (gA G) s.heap H1 locs1 → W p G.1 e rm s m args below meth c H1 locs1 (k + mc') (n + ms') Q (F0 m (pc + 3) Ls ((v.map (cv ad')).toList ++ rest))) :
    W p G.1 e rm s m args below meth c H locs k n Q (F0 m pc Ls st0) := by
  intro T hT X
  obtain ⟨v, st₀, t, T', L', h0, X', hL, e1, e2, ⟨⟨v', M', ad', hv, hq, hn, hE, hok, hW⟩, hz, hk⟩, sts⟩ := hr T hT X
  cases hv
  rw [h0] at hz hk
  obtain ⟨t2, a1, b1⟩ := kk v' M' ad' T'.heap (locs ++ L') hq hn hE hok (by rw [e1]; exact hW)
    ⟨Nat.le_trans hS.1 (by rw [e1]; exact hz), fun q h1 h2 => by rw [e1, hk q (Nat.lt_of_lt_of_le h1 hS.1) h2]; exact hS.2.1 q h1 h2, fun q hq => by
      rcases List.mem_append.mp hq with h | h
      · exact hS.2.2 q h
      · exact hL q h⟩ T' rfl X'
  exact ⟨t2, sts t2 a1, b1⟩
theorem cat_le {ad : Nat → Nat} : ∀ {l : List AV}, l.length ≤ 4 → ((l.map (cv ad)).map fun v => v.category).sum ≤ 8 := by
  intro l h
  have : ∀ (l : List AV), ((l.map (cv ad)).map fun v => v.category).sum ≤ 2 * l.length := by
    intro l
    induction l with
    | nil => simp
    | cons a l ih =>
      simp only [List.map_cons, List.sum_cons, List.length_cons]
      have := cv_cat ad a
      split at this <;> omega
  have := this l
  omega
theorem ret_stack {ad ad' : Nat → Nat} (hE : AdE M.1 ad ad') (hs : ∀ v ∈ st, vok M.1 v) (v : Option AV) : (v.map (cv ad')).toList ++ st.map (cv ad) = (v.toList ++ st).map (cv ad') := by
  rw [List.map_append, st_alike hE hs]
  cases v <;> rfl
theorem vok_app {N : Nat} {v : Option AV} (h1 : ∀ x, v = some x → vok N x) (h2 : ∀ x ∈ st, vok N x) : ∀ x ∈ v.toList ++ st, vok N x := by
  intro x hx
  rcases List.mem_append.mp hx with h | h
  · exact h1 x (by simpa using h)
  · exact h2 x h
theorem rev_ok {as : List AV} {stk : List AV} {N : Nat} (hs : stk = as.reverse ++ st) (h : ∀ v ∈ stk, vok N v) : (∀ v ∈ as, vok N v) ∧ ∀ v ∈ st, vok N v := by
  subst hs
  exact ⟨fun v hv => h v (List.mem_append_left _ (List.mem_reverse.mpr hv)), fun v hv => h v (List.mem_append_right _ hv)⟩
/-- a call of an instance method -/
theorem wg_callV {ix ci q np d' mc' ms' : Nat} {I' : MI} {T : u_T} {N : Nat} {as stk : List AV} {Qc : Option AV → MM → Prop} (hd : Dd I.2.1 pc (.invokevirtual ix) 3 pc') (hl : Cond.methodLink I.1.cls ix I'.1 ∈ WS) (hI : CVi I' np) (hC : cls[ci]? = some (I'.1.cls, T, N)) (hci : ci < 10) (hs : stk = as.reverse ++ vR q :: st) (hn : as.length = np) (hst : st.length ≤ 4) (hq : kd q = ci) (hd' : d' + 1 ≤ d) (hk : k + mc' ≤ mc ∧ n + ms' ≤ ms)
    (h : Ok G I' d' mc' ms' (vR q :: as) M Qc) (kk : ∀ (v : Option AV) (M' : MM), Qc v M' → Wg G I XX d mc ms Z pc' L (v.toList ++ st) M' (k + mc') (n + ms')) : Wg G I XX d mc ms Z pc L stk M k n := by
  obtain ⟨hd, rfl⟩ := hd
  obtain ⟨⟨i1, i2, i3, i4⟩, i5, i6⟩ := hI
  intro hL hs0 p e s m args below meth c H locs Ls ad n0 ad0 X hW hS hlv hn0 hE
  obtain ⟨has, hst0⟩ := rev_ok hs hs0
  have hst1 := vok_tl hst0
  obtain ⟨q1, q2⟩ := kd_ok (by omega) (vok_hd hst0)
  have hg := wl_get (G := G) (ad := ad) q1 q2
  rw [ce_obj (by omega), hq] at hg
  have hM := h (vok_cons (vok_hd hst0) has) ad
  have e1 : (vR q :: as).map (cv ad) = Value.ref (ad q) :: as.map (cv ad) := by simp only [List.map_cons, cv, cr_pos q1]
  rw [e1] at hM
  have hin : ∀ w ∈ wsV I.1.cls ix I'.1.cls I'.1 (Cond.code I'.1 I'.2.1 I'.2.2.1 I'.2.2.2 :: WS), w ∈ WS := by
    intro w hw
    unfold wsV at hw
    simp only [List.mem_append, List.mem_cons, List.not_mem_nil, or_false] at hw
    rcases hw with (rfl | rfl | rfl | rfl) | rfl | hw
    · exact hl
    · exact i5
    · exact i6
    · exact i1
    · exact i2
    · exact hw
  have hstk : stk.map (cv ad) = (as.map (cv ad)).reverse ++ Value.ref (ad q) :: st.map (cv ad) := by
    rw [hs, List.map_append, List.map_reverse, List.map_cons]
    simp only [cv, cr_pos q1]
  refine wg_back (mc' := mc') (ms' := ms') (va_runV (As := as.map (cv ad)) (rest := st.map (cv ad)) (nL := I.2.2.1) ⟨X.1, X.2.1, X.2.2.1, X.2.2.2.2.2.1, X.2.2.2.2.2.2.1⟩ hM (cwV np X.2.2.2.2.2.2.1 (ws_in hin) rfl rfl rfl ⟨rfl, i3⟩ ⟨hd', by show 8 + (I'.2.2.1 + 11) + 40 * d' ≤ 40 * d; omega⟩) ⟨pco_blind, va_recv X.2.2.2.2.2.2.2.1 hW.1 hC hg, fun U hU hw => ⟨rfl, pco_at X hW hS hU hw⟩⟩ rfl (by rw [List.length_map]; exact hn) hlv.1 hstk (lv_room (cat_le hst)) hd hk) hS (fun v M' ad' H1 locs1 hQ hn1 hE1 hok hW1 hS1 => ?_)
  rw [ret_stack hE1 hst1]
  exact kk v M' hQ (fun u hu => vok_mono hn1 (hL u hu)) (vok_app hok (fun u hu => vok_mono hn1 (hst1 u hu))) p e s m args below meth c H1 locs1 Ls ad' n0 ad0 X hW1 hS1 (lv_subset hlv (al_alike hE1 hL)) (Nat.le_trans hn0 hn1) (AdE.tr hn0 hE hE1)
/-- a call of a static method -/
theorem wg_callS {ix np d' mc' ms' : Nat} {I' : MI} {as stk : List AV} {Qc : Option AV → MM → Prop} (hd : Dd I.2.1 pc (.invokestatic ix) 3 pc') (hl : Cond.methodLink I.1.cls ix I'.1 ∈ WS) (hI : CSt I' np) (hs : stk = as.reverse ++ st) (hn : as.length = np) (hst : st.length ≤ 4) (hd' : d' + 1 ≤ d) (hk : k + mc' ≤ mc ∧ n + ms' ≤ ms)
    (h : Ok G I' d' mc' ms' as M Qc) (kk : ∀ (v : Option AV) (M' : MM), Qc v M' → Wg G I XX d mc ms Z pc' L (v.toList ++ st) M' (k + mc') (n + ms')) : Wg G I XX d mc ms Z pc L stk M k n := by
  obtain ⟨hd, rfl⟩ := hd
  obtain ⟨⟨i1, i2, i3, i4⟩, i5⟩ := hI
  intro hL hs0 p e s m args below meth c H locs Ls ad n0 ad0 X hW hS hlv hn0 hE
  obtain ⟨has, hst1⟩ := rev_ok hs hs0
  have hM := h has ad
  have hin : ∀ w ∈ va_wsS I.1.cls ix I'.1 (Cond.code I'.1 I'.2.1 I'.2.2.1 I'.2.2.2 :: WS), w ∈ WS := by
    intro w hw
    unfold va_wsS at hw
    simp only [List.mem_append, List.mem_cons, List.not_mem_nil, or_false] at hw
    rcases hw with (rfl | rfl | rfl) | rfl | hw
    · exact hl
    · exact i5
    · exact i1
    · exact i2
    · exact hw
  have hstk : stk.map (cv ad) = (as.map (cv ad)).reverse ++ st.map (cv ad) := by
    rw [hs, List.map_append, List.map_reverse]
  refine wg_back (mc' := mc') (ms' := ms') (va_runS (As := as.map (cv ad)) (rest := st.map (cv ad)) (nL := I.2.2.1) ⟨X.1, X.2.1, X.2.2.1, X.2.2.2.2.2.1, X.2.2.2.2.2.2.1⟩ hM (va_cwS np X.2.2.2.2.2.2.1 (ws_in hin) rfl rfl rfl i3 ⟨hd', by show 8 + (I'.2.2.1 + 11) + 40 * d' ≤ 40 * d; omega⟩) ⟨pco_blind, fun U hU hw => ⟨rfl, pco_at X hW hS hU hw⟩⟩ rfl (by rw [List.length_map]; exact hn) hlv.1 hstk (lv_room (cat_le hst)) hd hk) hS (fun v M' ad' H1 locs1 hQ hn1 hE1 hok hW1 hS1 => ?_)
  rw [ret_stack hE1 hst1]
  exact kk v M' hQ (fun u hu => vok_mono hn1 (hL u hu)) (vok_app hok (fun u hu => vok_mono hn1 (hst1 u hu))) p e s m args below meth c H1 locs1 Ls ad' n0 ad0 X hW1 hS1 (lv_subset hlv (al_alike hE1 hL)) (Nat.le_trans hn0 hn1) (AdE.tr hn0 hE hE1)
/-- a call of a nest mate's private static method -/
theorem wg_callSN {ix np d' mc' ms' : Nat} {host : String} {I' : MI} {as stk : List AV} {Qc : Option AV → MM → Prop} (hd : Dd I.2.1 pc (.invokestatic ix) 3 pc') (hlw : (I.1.cls, ix, I'.1, host) ∈ NWL) (hI : CSt I' np) (hs : stk = as.reverse ++ st) (hn : as.length = np) (hst : st.length ≤ 4) (hd' : d' + 1 ≤ d) (hk : k + mc' ≤ mc ∧ n + ms' ≤ ms)
    (h : Ok G I' d' mc' ms' as M Qc) (kk : ∀ (v : Option AV) (M' : MM), Qc v M' → Wg G I XX d mc ms Z pc' L (v.toList ++ st) M' (k + mc') (n + ms')) : Wg G I XX d mc ms Z pc L stk M k n := by
  obtain ⟨hd, rfl⟩ := hd
  obtain ⟨⟨i1, i2, i3, i4⟩, i5⟩ := hI
  intro hL hs0 p e s m args below meth c H locs Ls ad n0 ad0 X hW hS hlv hn0 hE
  obtain ⟨has, hst1⟩ := rev_ok hs hs0
  have hM := h has ad
  have hin : ∀ w ∈ (Cond.code I'.1 I'.2.1 I'.2.2.1 I'.2.2.2 :: WS), w ∈ WS := fun w hw => (List.mem_cons.mp hw).elim (fun e => by rw [e]; exact i2) id
  have hstk : stk.map (cv ad) = (as.map (cv ad)).reverse ++ st.map (cv ad) := by
    rw [hs, List.map_append, List.map_reverse]
  have hts := X.2.2.2.2.2.2.1
  refine wg_back (mc' := mc') (ms' := ms') (va_runSN (As := as.map (cv ad)) (rest := st.map (cv ad)) (nL := I.2.2.1) (host := host) ⟨X.1, X.2.1, X.2.2.1, X.2.2.2.2.2.1, X.2.2.2.2.2.2.1⟩ hM ⟨va_cnB np hts (ws_in hin) rfl rfl rfl (X.2.2.2.2.2.2.2.2.2.2.1.2.2.1 _ hlw) (hts _ i1) i3 ⟨hd', by show 8 + (I'.2.2.1 + 11) + 40 * d' ≤ 40 * d; omega⟩, hts _ i5, trivial⟩ ⟨pco_blind, fun U hU hw => ⟨rfl, pco_at X hW hS hU hw⟩⟩ rfl (by rw [List.length_map]; exact hn) hlv.1 hstk (lv_room (cat_le hst)) hd hk) hS (fun v M' ad' H1 locs1 hQ hn1 hE1 hok hW1 hS1 => ?_)
  rw [ret_stack hE1 hst1]
  exact kk v M' hQ (fun u hu => vok_mono hn1 (hL u hu)) (vok_app hok (fun u hu => vok_mono hn1 (hst1 u hu))) p e s m args below meth c H1 locs1 Ls ad' n0 ad0 X hW1 hS1 (lv_subset hlv (al_alike hE1 hL)) (Nat.le_trans hn0 hn1) (AdE.tr hn0 hE hE1)
/-- a call of a constructor -/
theorem wg_callI {ix q np d' mc' ms' : Nat} {I' : MI} {as stk : List AV} {Qc : Option AV → MM → Prop} (hd : Dd I.2.1 pc (.invokespecial ix) 3 pc') (hl : Cond.methodLink I.1.cls ix I'.1 ∈ WS) (hI : CCo I' np) (hr : I'.2.2.2 = none) (hs : stk = as.reverse ++ vR q :: st) (hn : as.length = np) (hst : st.length ≤ 4) (hq : kd q < 10) (hd' : d' + 1 ≤ d) (hk : k + mc' ≤ mc ∧ n + ms' ≤ ms)
    (h : Ok G I' d' mc' ms' (vR q :: as) M Qc) (kk : ∀ (v : Option AV) (M' : MM), Qc v M' → Wg G I XX d mc ms Z pc' L (v.toList ++ st) M' (k + mc') (n + ms')) : Wg G I XX d mc ms Z pc L stk M k n := by
  obtain ⟨hd, rfl⟩ := hd
  obtain ⟨⟨i1, i2, i3, i4⟩, i5, i6⟩ := hI
  intro hL hs0 p e s m args below meth c H locs Ls ad n0 ad0 X hW hS hlv hn0 hE
  obtain ⟨has, hst0⟩ := rev_ok hs hs0
  have hst1 := vok_tl hst0
  obtain ⟨q1, q2⟩ := kd_ok (by omega) (vok_hd hst0)
  have hM := h (vok_cons (vok_hd hst0) has) ad
  have e1 : (vR q :: as).map (cv ad) = Value.ref (ad q) :: as.map (cv ad) := by simp only [List.map_cons, cv, cr_pos q1]
  rw [e1] at hM
  have hin : ∀ w ∈ (Cond.code I'.1 I'.2.1 I'.2.2.1 none :: WS), w ∈ WS := fun w hw => (List.mem_cons.mp hw).elim (fun e => by rw [e, ← hr]; exact i2) id
  have hstk : stk.map (cv ad) = (as.map (cv ad)).reverse ++ Value.ref (ad q) :: st.map (cv ad) := by
    rw [hs, List.map_append, List.map_reverse, List.map_cons]
    simp only [cv, cr_pos q1]
  have hts := X.2.2.2.2.2.2.1
  rw [hr] at hM
  refine wg_back (mc' := mc') (ms' := ms') (va_runI (As := as.map (cv ad)) (rest := st.map (cv ad)) (nL := I.2.2.1) ⟨X.1, X.2.1, X.2.2.1, X.2.2.2.2.2.1, X.2.2.2.2.2.2.1⟩ hM ⟨callB_of np hts (ws_in hin) rfl rfl rfl (hts _ i1) (hts _ hl) i3 ⟨hd', by show 8 + (I'.2.2.1 + 11) + 40 * d' ≤ 40 * d; omega⟩, i6, hts _ i5⟩ ⟨pco_blind, fun U hU hw => ⟨rfl, pco_at X hW hS hU hw⟩⟩ rfl (by rw [List.length_map]; exact hn) hlv.1 hstk (lv_room (cat_le hst)) hd hk) hS (fun v M' ad' H1 locs1 hQ hn1 hE1 hok hW1 hS1 => ?_)
  rw [ret_stack hE1 hst1]
  exact kk v M' hQ (fun u hu => vok_mono hn1 (hL u hu)) (vok_app hok (fun u hu => vok_mono hn1 (hst1 u hu))) p e s m args below meth c H1 locs1 Ls ad' n0 ad0 X hW1 hS1 (lv_subset hlv (al_alike hE1 hL)) (Nat.le_trans hn0 hn1) (AdE.tr hn0 hE hE1)
/-- a call of a nest mate's private constructor -/
theorem wg_callIN {ix q np d' mc' ms' : Nat} {host : String} {I' : MI} {as stk : List AV} {Qc : Option AV → MM → Prop} (hd : Dd I.2.1 pc (.invokespecial ix) 3 pc') (hlw : (I.1.cls, ix, I'.1, host) ∈ NWL) (hI : CCo I' np) (hr : I'.2.2.2 = none) (hs : stk = as.reverse ++ vR q :: st) (hn : as.length = np) (hst : st.length ≤ 4) (hq : kd q < 10) (hd' : d' + 1 ≤ d) (hk : k + mc' ≤ mc ∧ n + ms' ≤ ms)
    (h : Ok G I' d' mc' ms' (vR q :: as) M Qc) (kk : ∀ (v : Option AV) (M' : MM), Qc v M' → Wg G I XX d mc ms Z pc' L (v.toList ++ st) M' (k + mc') (n + ms')) : Wg G I XX d mc ms Z pc L stk M k n := by
  obtain ⟨hd, rfl⟩ := hd
  obtain ⟨⟨i1, i2, i3, i4⟩, i5, i6⟩ := hI
  intro hL hs0 p e s m args below meth c H locs Ls ad n0 ad0 X hW hS hlv hn0 hE
  obtain ⟨has, hst0⟩ := rev_ok hs hs0
  have hst1 := vok_tl hst0
  obtain ⟨q1, q2⟩ := kd_ok (by omega) (vok_hd hst0)
  have hM := h (vok_cons (vok_hd hst0) has) ad
  have e1 : (vR q :: as).map (cv ad) = Value.ref (ad q) :: as.map (cv ad) := by simp only [List.map_cons, cv, cr_pos q1]
  rw [e1] at hM
  have hin : ∀ w ∈ (Cond.code I'.1 I'.2.1 I'.2.2.1 none :: WS), w ∈ WS := fun w hw => (List.mem_cons.mp hw).elim (fun e => by rw [e, ← hr]; exact i2) id
  have hstk : stk.map (cv ad) = (as.map (cv ad)).reverse ++ Value.ref (ad q) :: st.map (cv ad) := by
    rw [hs, List.map_append, List.map_reverse, List.map_cons]
    simp only [cv, cr_pos q1]
  have hts := X.2.2.2.2.2.2.1
  rw [hr] at hM
  refine wg_back (mc' := mc') (ms' := ms') (va_runIN (As := as.map (cv ad)) (rest := st.map (cv ad)) (nL := I.2.2.1) (host := host) ⟨X.1, X.2.1, X.2.2.1, X.2.2.2.2.2.1, X.2.2.2.2.2.2.1⟩ hM ⟨va_cnB np hts (ws_in hin) rfl rfl rfl (X.2.2.2.2.2.2.2.2.2.2.1.2.2.1 _ hlw) (hts _ i1) i3 ⟨hd', by show 8 + (I'.2.2.1 + 11) + 40 * d' ≤ 40 * d; omega⟩, i6, hts _ i5⟩ ⟨pco_blind, fun U hU hw => ⟨rfl, pco_at X hW hS hU hw⟩⟩ rfl (by rw [List.length_map]; exact hn) hlv.1 hstk (lv_room (cat_le hst)) hd hk) hS (fun v M' ad' H1 locs1 hQ hn1 hE1 hok hW1 hS1 => ?_)
  rw [ret_stack hE1 hst1]
  exact kk v M' hQ (fun u hu => vok_mono hn1 (hL u hu)) (vok_app hok (fun u hu => vok_mono hn1 (hst1 u hu))) p e s m args below meth c H1 locs1 Ls ad' n0 ad0 X hW1 hS1 (lv_subset hlv (al_alike hE1 hL)) (Nat.le_trans hn0 hn1) (AdE.tr hn0 hE hE1)
theorem wg_objInit {ix q : Nat} (hd : Dd I.2.1 pc (.invokespecial ix) 3 pc') (hl : Cond.methodLink I.1.cls ix Lib.objectInit ∈ WS) (hi : Cond.instanceMethod Lib.objectInit ∈ WS) (hc : Cond.code Lib.objectInit ⟨#[0xb1]⟩ 1 none ∈ WS) (hq : kd q < 10) (hst : st.length ≤ 4) (hd' : 1 ≤ d) (kk : Wg G I XX d mc ms Z pc' L st M k n) : Wg G I XX d mc ms Z pc L (vR q :: st) M k n := by
  obtain ⟨hd, rfl⟩ := hd
  intro hL hs p e s m args below meth c H locs Ls ad n0 ad0 X hW hS hlv hn0 hE
  obtain ⟨q1, q2⟩ := kd_ok (by omega) (vok_hd hs)
  have hts := X.2.2.2.2.2.2.1
  simp only [List.map_cons, cv, cr_pos q1]
  have hcat := cat_le (ad := ad) hst
  refine W.objInit X.1 X.2.1 X.2.2.2.2.2.1 (hts _ hl) (hts _ hi) (hts _ hc) rfl (by show Ls.size = _; rw [hlv.1, X.2.2.1]) rfl hd hd' (by show 2 * 0 + _ + 12 ≤ 40 * d; omega) ?_
  exact kk hL (vok_tl hs) p e s m args below meth c H locs Ls ad n0 ad0 X hW hS hlv hn0 hE
theorem wg_mmax {ix : Nat} {x y : Int} (hd : Dd I.2.1 pc (.invokestatic ix) 3 pc') (hl : Cond.methodLink I.1.cls ix Lib.Math.max.name ∈ WS) (h2 : Cond.static Lib.Math.max.name ∈ WS) (h3 : Cond.initialized "java/lang/Math" ∈ WS) (h4 : Cond.code Lib.Math.max.name Lib.Math.max.code 2 (some .int) ∈ WS) (hst : st.length ≤ 4) (hd' : 1 ≤ d) (hk : k ≤ mc ∧ n ≤ ms) (kk : Wg G I XX d mc ms Z pc' L (vI (if x < y then y else x) :: st) M k n) : Wg G I XX d mc ms Z pc L (vI y :: vI x :: st) M k n := by
  obtain ⟨hd, rfl⟩ := hd
  refine wg_stk (fun hL hs h32 _ => vcI (by split; exact vok_hd hs; exact vok_hd (vok_tl hs)) (vok_tl (vok_tl hs))) (fun p e s m args below meth c H locs Ls ad Q X hW hS hh hs z => ?_) kk
  have hts := X.2.2.2.2.2.2.1
  have hcat := cat_le (ad := ad) hst
  have hy : R32 y := vok_hd hs
  have hx : R32 x := vok_hd (vok_tl hs)
  refine va_mmax X.1 X.2.1 (by rw [hh.1, X.2.2.1]) X.2.2.2.2.2.1 (hts _ hl) (hts _ h2) (hts _ h3) (hts _ h4) hd' (by show _ + 13 ≤ 40 * d; omega) hk.1 hk.2 hd ?_
  have e1 : (if Int32.ofInt x < Int32.ofInt y then Int32.ofInt y else Int32.ofInt x) = Int32.ofInt (if x < y then y else x) := by
    simp only [o32_lt hx hy]
    split <;> rfl
  rw [e1]
  exact z
theorem wg_mmin {ix : Nat} {x y : Int} (hd : Dd I.2.1 pc (.invokestatic ix) 3 pc') (hl : Cond.methodLink I.1.cls ix Lib.Math.min.name ∈ WS) (h2 : Cond.static Lib.Math.min.name ∈ WS) (h3 : Cond.initialized "java/lang/Math" ∈ WS) (h4 : Cond.code Lib.Math.min.name Lib.Math.min.code 2 (some .int) ∈ WS) (hst : st.length ≤ 4) (hd' : 1 ≤ d) (hk : k ≤ mc ∧ n ≤ ms) (kk : Wg G I XX d mc ms Z pc' L (vI (if y < x then y else x) :: st) M k n) : Wg G I XX d mc ms Z pc L (vI y :: vI x :: st) M k n := by
  obtain ⟨hd, rfl⟩ := hd
  refine wg_stk (fun hL hs h32 _ => vcI (by split; exact vok_hd hs; exact vok_hd (vok_tl hs)) (vok_tl (vok_tl hs))) (fun p e s m args below meth c H locs Ls ad Q X hW hS hh hs z => ?_) kk
  have hts := X.2.2.2.2.2.2.1
  have hcat := cat_le (ad := ad) hst
  have hy : R32 y := vok_hd hs
  have hx : R32 x := vok_hd (vok_tl hs)
  refine va_mmin X.1 X.2.1 (by rw [hh.1, X.2.2.1]) X.2.2.2.2.2.1 (hts _ hl) (hts _ h2) (hts _ h3) (hts _ h4) hd' (by show _ + 13 ≤ 40 * d; omega) hk.1 hk.2 hd ?_
  have e1 : (if Int32.ofInt y < Int32.ofInt x then Int32.ofInt y else Int32.ofInt x) = Int32.ofInt (if y < x then y else x) := by
    simp only [o32_lt hy hx]
    split <;> rfl
  rw [e1]
  exact z
theorem wg_mmaxL {ix : Nat} {x y : Int} (hd : Dd I.2.1 pc (.invokestatic ix) 3 pc') (hl : Cond.methodLink I.1.cls ix Lib.MathLoose.max_long.x ∈ WS) (h2 : Cond.static Lib.MathLoose.max_long.x ∈ WS) (h3 : Cond.initialized "java/lang/Math" ∈ WS) (h4 : Cond.code Lib.MathLoose.max_long.x Lib.MathLoose.max_long.code 4 (some .long) ∈ WS) (hst : st.length ≤ 4) (hd' : 1 ≤ d) (hk : k ≤ mc ∧ n ≤ ms) (kk : Wg G I XX d mc ms Z pc' L (vL (if y < x then x else y) :: st) M k n) : Wg G I XX d mc ms Z pc L (vL y :: vL x :: st) M k n := by
  obtain ⟨hd, rfl⟩ := hd
  refine wg_stk (fun hL hs h32 _ => vcL (by split; exact vok_hd (vok_tl hs); exact vok_hd hs) (vok_tl (vok_tl hs))) (fun p e s m args below meth c H locs Ls ad Q X hW hS hh hs z => ?_) kk
  have hts := X.2.2.2.2.2.2.1
  have hcat := cat_le (ad := ad) hst
  have hy : R64 y := vok_hd hs
  have hx : R64 x := vok_hd (vok_tl hs)
  refine va_mmax_long X.1 X.2.1 (by rw [hh.1, X.2.2.1]) X.2.2.2.2.2.1 (hts _ hl) (hts _ h2) (hts _ h3) (hts _ h4) hd' (by show _ + 15 ≤ 40 * d; omega) hk.1 hk.2 hd ?_
  have e1 : (if Int64.ofInt y < Int64.ofInt x then Int64.ofInt x else Int64.ofInt y) = Int64.ofInt (if y < x then x else y) := by
    simp only [o64_lt hy hx]
    split <;> rfl
  rw [e1]
  exact z
-- new cells
def adN (ad : Nat → Nat) (q a : Nat) : Nat → Nat := fun j => if j = q then a else ad j
theorem adN_E {ad : Nat → Nat} {a : Nat} (h : M.1 < 700) (hk : kd (M.1 + 1) ≤ 12) : AdE M.1 ad (adN ad (M.1 + 1) a) := by
  have := (kd_in hk).2
  intro q hq
  unfold adN
  rw [if_neg (by omega)]
theorem ce_ext {cy : Nat → ClassId} {ad ad' : Nat → Nat} {M' : MM} {q : Nat} (h0 : AdE M.1 ad ad') (hr : ∀ p k, M.2.2 p k ≤ M.1) (h1 : ∀ j, M'.2.1 q j = M.2.1 q j) (h2 : ∀ j, M'.2.2 q j = M.2.2 q j) : ce cy ad' M' q = ce cy ad M q := by
  have e : ∀ j, ad' (M.2.2 q j) = ad (M.2.2 q j) := fun j => h0 _ (Or.inl (hr q j))
  unfold ce cr
  simp only [h1, h2, e]
theorem ww_new {ad : Nat → Nat} {H H1 : Heap} {a : Nat} {E : va_E} (hW : Ww G ad M H) (hk : kd (M.1 + 1) ≤ 12) (hE : ce G.2.2.1 (adN ad (M.1 + 1) a) (stN M) (M.1 + 1) = E)
    (hP : va_P G.2.1 cls (wl G ad M ++ [(a, E)]) H1) (hD : va_D (gA G) (wl G ad M ++ [(a, E)])) : Ww G (adN ad (M.1 + 1) a) (stN M) H1 := by
  have hle := (kd_in hk).2
  have hAd : AdE M.1 ad (adN ad (M.1 + 1) a) := adN_E hW.2.2.2.2.2 hk
  have e : wl G (adN ad (M.1 + 1) a) (stN M) = wl G ad M ++ [(a, E)] := by
    unfold wl
    show (List.range (M.1 + 1)).map _ = _
    rw [List.range_succ, List.map_append]
    congr 1
    · refine List.map_congr_left fun i hi => ?_
      have hi : i < M.1 := List.mem_range.mp hi
      have e1 : adN ad (M.1 + 1) a (i + 1) = ad (i + 1) := hAd _ (Or.inl (by omega))
      rw [e1, ce_ext (cy := G.2.2.1) hAd hW.2.2.2.1 (q := i + 1) (fun j => by show (if i + 1 = M.1 + 1 then _ else _) = _; rw [if_neg (by omega)]) (fun j => by show (if i + 1 = M.1 + 1 then _ else _) = _; rw [if_neg (by omega)])]
    · simp only [List.map_cons, List.map_nil]
      rw [hE]
      unfold adN
      rw [if_pos rfl]
  rw [← e] at hP hD
  refine ⟨hP, hD, fun p j => ?_, fun p j => ?_, fun q hq => ?_, by show M.1 + 1 < 700; omega⟩
  · show R32 (if p = M.1 + 1 then 0 else M.2.1 p j)
    split
    · exact z32
    · exact hW.2.2.1 p j
  · show (if p = M.1 + 1 then 0 else M.2.2 p j) ≤ M.1 + 1
    split
    · exact Nat.zero_le _
    · exact Nat.le_succ_of_le (hW.2.2.2.1 p j)
  · rw [hAd q (Or.inr hq)]
    exact hW.2.2.2.2.1 q hq
theorem wg_new {ix ci N : Nat} (hd : Dd I.2.1 pc (.new ix) 3 pc') (hw : NW I ix ci N) (hq : kd (M.1 + 1) = ci) (hk : k + 1 ≤ mc ∧ n + N ≤ ms) (kk : Wg G I XX d mc ms Z pc' L (vR (M.1 + 1) :: st) (stN M) (k + 1) (n + N)) : Wg G I XX d mc ms Z pc L st M k n := by
  obtain ⟨hd, rfl⟩ := hd
  obtain ⟨C, T, f1, f2, f3, f4, f5, f6, f7, f8, f9⟩ := hw
  intro hL hs p e s m args below meth c H locs Ls ad n0 ad0 X hW hS hlv hn0 hE
  have hts := X.2.2.2.2.2.2.1
  refine va_new (fs := (List.range N).map (fun j => if isr ci j then .null else .int 0)) X.1 X.2.1 hts f6 (tyc ci) f7 X.2.2.2.2.2.1 (hts _ f3) (hts _ f4) (hts _ f5) X.2.2.2.2.2.2.2.1 hW.1 hW.2.1 hS (fun q h => Nat.le_trans X.2.2.2.2.2.2.2.2.1 h) f1 (fun j hj => ?_) hk.1 hk.2 hd (fun a H1 hP1 hD1 hS1 => ?_)
  · show _ = ((List.range N).map (fun j => if isr ci j then Value.null else Value.int 0)).getD j Value.null
    rw [List.getD_eq_getElem?_getD, List.getElem?_map, List.getElem?_range hj]
    have h8 := f8 j hj
    show defaultValue (tyc ci j) = if isr ci j then .null else .int 0
    unfold isr
    cases h9 : tyc ci j <;> rw [h9] at h8 <;> first | rfl | (simp [okty] at h8)
  · have hAd : AdE M.1 ad (adN ad (M.1 + 1) a) := adN_E hW.2.2.2.2.2 (by omega)
    have e1 : cv (adN ad (M.1 + 1) a) (vR (M.1 + 1)) = .ref a := by
      show cr _ _ = _
      rw [cr_pos (by omega)]
      unfold adN
      rw [if_pos rfl]
    rw [← e1, ← st_alike hAd hs]
    have hvr : ∀ v ∈ vR (M.1 + 1) :: st, vok (stN M).1 v := vcR (Or.inl (Nat.le_refl _)) (fun v hv => vok_mono (Nat.le_succ _) (hs v hv))
    refine kk (fun v hv => vok_mono (Nat.le_succ _) (hL v hv)) hvr p e s m args below meth c H1 locs Ls (adN ad (M.1 + 1) a) n0 ad0 X (ww_new hW (by omega) ?_ hP1 hD1) hS1 (lv_subset hlv (al_alike hAd hL)) (Nat.le_succ_of_le hn0) (AdE.tr hn0 hE hAd)
    rw [ce_obj (by omega), hq]
    congr 2
    unfold fsl
    rw [hq, f2]
    refine List.map_congr_left fun j _ => ?_
    have e2 : (stN M).2.1 (M.1 + 1) j = 0 := by show (if M.1 + 1 = M.1 + 1 then _ else _) = _; rw [if_pos rfl]
    have e3 : (stN M).2.2 (M.1 + 1) j = 0 := by show (if M.1 + 1 = M.1 + 1 then _ else _) = _; rw [if_pos rfl]
    rw [e2, e3]
    rfl
theorem wg_newI {N : Nat} {i : Int} (hd : Dd I.2.1 pc (.newarray .int) 2 pc') (hw : Cond.arrayClass .int ∈ WS) (hq : kd (M.1 + 1) = 10) (hi : i = (N : Int)) (hN : ln (M.1 + 1) = N) (hk : k + 1 ≤ mc ∧ n + N ≤ ms) (kk : Wg G I XX d mc ms Z pc' L (vR (M.1 + 1) :: st) (stN M) (k + 1) (n + N)) : Wg G I XX d mc ms Z pc L (vI i :: st) M k n := by
  obtain ⟨hd, rfl⟩ := hd
  subst hi
  intro hL hs0 p e s m args below meth c H locs Ls ad n0 ad0 X hW hS hlv hn0 hE
  have hs := vok_tl hs0
  have hts := X.2.2.2.2.2.2.1
  have hN2 := ln_le (M.1 + 1)
  have e0 : (Int32.ofInt (N : Int)).toInt = N := o32_t ⟨by omega, by omega⟩
  have hnn : ¬ Int32.ofInt (N : Int) < 0 := by
    rw [Int32.lt_iff_toInt_lt, e0, Int32.toInt_zero]
    omega
  have hcl : (Int32.ofInt (N : Int)).toNatClampNeg = N := by
    show (Int32.ofInt (N : Int)).toInt.toNat = N
    rw [e0]
    omega
  refine va_newa (a0 := (N, .inl (fun _ => 0))) (atype := .int) X.1 X.2.1 (hts _ hw) rfl X.2.2.2.2.2.2.2.1 hW.1 hW.2.1 hS (fun q h => Nat.le_trans X.2.2.2.2.2.2.2.2.1 h) (fun cA => rfl) hnn hcl (by show N * 4 ≤ 536870912; omega) hk.1 hk.2 hd (fun a cA H1 hK1 hP1 hD1 hS1 => ?_)
  have hc : cA = G.2.2.1 10 := by
    have h1 := (hK1.2 3 (cA, .int) rfl).2
    have h2 := (hK1.2 0 (G.2.2.1 10, .int) rfl).2
    exact Option.some.inj ((va_nm_int h1).symm.trans (va_nm_int h2))
  subst hc
  have hAd : AdE M.1 ad (adN ad (M.1 + 1) a) := adN_E hW.2.2.2.2.2 (by omega)
  have e1 : cv (adN ad (M.1 + 1) a) (vR (M.1 + 1)) = .ref a := by
    show cr _ _ = _
    rw [cr_pos (by omega)]
    unfold adN
    rw [if_pos rfl]
  rw [← e1, ← st_alike hAd hs]
  have hvr : ∀ v ∈ vR (M.1 + 1) :: st, vok (stN M).1 v := vcR (Or.inl (Nat.le_refl _)) (fun v hv => vok_mono (Nat.le_succ _) (hs v hv))
  refine kk (fun v hv => vok_mono (Nat.le_succ _) (hL v hv)) hvr p e s m args below meth c H1 locs Ls (adN ad (M.1 + 1) a) n0 ad0 X (ww_new hW (by omega) ?_ hP1 hD1) hS1 (lv_subset hlv (al_alike hAd hL)) (Nat.le_succ_of_le hn0) (AdE.tr hn0 hE hAd)
  rw [ce_int hq, hN]
  congr 4
  funext j
  have e2 : (stN M).2.1 (M.1 + 1) j = 0 := by show (if M.1 + 1 = M.1 + 1 then _ else _) = _; rw [if_pos rfl]
  rw [e2]
  rfl
theorem wg_newZ {N : Nat} {i : Int} (hd : Dd I.2.1 pc (.newarray .boolean) 2 pc') (hw : Cond.arrayClass .boolean ∈ WS) (hq : kd (M.1 + 1) = 11) (hi : i = (N : Int)) (hN : ln (M.1 + 1) = N) (hk : k + 1 ≤ mc ∧ n + N ≤ ms) (kk : Wg G I XX d mc ms Z pc' L (vR (M.1 + 1) :: st) (stN M) (k + 1) (n + N)) : Wg G I XX d mc ms Z pc L (vI i :: st) M k n := by
  obtain ⟨hd, rfl⟩ := hd
  subst hi
  intro hL hs0 p e s m args below meth c H locs Ls ad n0 ad0 X hW hS hlv hn0 hE
  have hs := vok_tl hs0
  have hts := X.2.2.2.2.2.2.1
  have hN2 := ln_le (M.1 + 1)
  have e0 : (Int32.ofInt (N : Int)).toInt = N := o32_t ⟨by omega, by omega⟩
  have hnn : ¬ Int32.ofInt (N : Int) < 0 := by
    rw [Int32.lt_iff_toInt_lt, e0, Int32.toInt_zero]
    omega
  have hcl : (Int32.ofInt (N : Int)).toNatClampNeg = N := by
    show (Int32.ofInt (N : Int)).toInt.toNat = N
    rw [e0]
    omega
  refine va_newa (a0 := (N, .inl (fun _ => 0))) (atype := .boolean) X.1 X.2.1 (hts _ hw) rfl X.2.2.2.2.2.2.2.1 hW.1 hW.2.1 hS (fun q h => Nat.le_trans X.2.2.2.2.2.2.2.2.1 h) (fun cA => rfl) hnn hcl (by show N * 1 ≤ 536870912; omega) hk.1 hk.2 hd (fun a cA H1 hK1 hP1 hD1 hS1 => ?_)
  have hc : cA = G.2.2.1 11 := by
    have h1 := (hK1.2 3 (cA, .boolean) rfl).2
    have h2 := (hK1.2 1 (G.2.2.1 11, .boolean) rfl).2
    exact Option.some.inj ((va_nm_boolean h1).symm.trans (va_nm_boolean h2))
  subst hc
  have hAd : AdE M.1 ad (adN ad (M.1 + 1) a) := adN_E hW.2.2.2.2.2 (by omega)
  have e1 : cv (adN ad (M.1 + 1) a) (vR (M.1 + 1)) = .ref a := by
    show cr _ _ = _
    rw [cr_pos (by omega)]
    unfold adN
    rw [if_pos rfl]
  rw [← e1, ← st_alike hAd hs]
  have hvr : ∀ v ∈ vR (M.1 + 1) :: st, vok (stN M).1 v := vcR (Or.inl (Nat.le_refl _)) (fun v hv => vok_mono (Nat.le_succ _) (hs v hv))
  refine kk (fun v hv => vok_mono (Nat.le_succ _) (hL v hv)) hvr p e s m args below meth c H1 locs Ls (adN ad (M.1 + 1) a) n0 ad0 X (ww_new hW (by omega) ?_ hP1 hD1) hS1 (lv_subset hlv (al_alike hAd hL)) (Nat.le_succ_of_le hn0) (AdE.tr hn0 hE hAd)
  rw [ce_bool hq, hN]
  congr 4
  funext j
  have e2 : (stN M).2.1 (M.1 + 1) j = 0 := by show (if M.1 + 1 = M.1 + 1 then _ else _) = _; rw [if_pos rfl]
  rw [e2]
  rfl
theorem wg_newQ {ix N : Nat} {i : Int} (hd : Dd I.2.1 pc (.anewarray ix) 3 pc') (hw : Cond.classLink I.1.cls ix RX5 ∈ WS) (hq : kd (M.1 + 1) = 12) (hi : i = (N : Int)) (hN : ln (M.1 + 1) = N) (hk : k + 1 ≤ mc ∧ n + N ≤ ms) (kk : Wg G I XX d mc ms Z pc' L (vR (M.1 + 1) :: st) (stN M) (k + 1) (n + N)) : Wg G I XX d mc ms Z pc L (vI i :: st) M k n := by
  obtain ⟨hd, rfl⟩ := hd
  subst hi
  intro hL hs0 p e s m args below meth c H locs Ls ad n0 ad0 X hW hS hlv hn0 hE
  have hs := vok_tl hs0
  have hts := X.2.2.2.2.2.2.1
  have hN2 := ln_le (M.1 + 1)
  have e0 : (Int32.ofInt (N : Int)).toInt = N := o32_t ⟨by omega, by omega⟩
  have hnn : ¬ Int32.ofInt (N : Int) < 0 := by
    rw [Int32.lt_iff_toInt_lt, e0, Int32.toInt_zero]
    omega
  have hcl : (Int32.ofInt (N : Int)).toNatClampNeg = N := by
    show (Int32.ofInt (N : Int)).toInt.toNat = N
    rw [e0]
    omega
  refine va_newq X.1 X.2.1 X.2.2.2.2.2.1 (hts _ hw) X.2.2.2.2.2.2.2.2.2.2.1.2.2.2.1 X.2.2.2.2.2.2.2.1 hW.1 hW.2.1 hS (fun q h => Nat.le_trans X.2.2.2.2.2.2.2.2.1 h) hnn hcl (by show N * 4 ≤ 536870912; omega) hk.1 hk.2 hd (fun a cA H1 hK1 hP1 hD1 hS1 => ?_)
  have hc : cA = G.2.2.1 12 := by
    obtain ⟨-, -, -, -, -, h1⟩ := (hK1.2 3 (cA, .object RX5) rfl).2
    obtain ⟨-, -, -, -, -, h2⟩ := (hK1.2 2 (G.2.2.1 12, .object RX5) rfl).2
    exact Option.some.inj (h1.symm.trans h2)
  subst hc
  have hAd : AdE M.1 ad (adN ad (M.1 + 1) a) := adN_E hW.2.2.2.2.2 (by omega)
  have e1 : cv (adN ad (M.1 + 1) a) (vR (M.1 + 1)) = .ref a := by
    show cr _ _ = _
    rw [cr_pos (by omega)]
    unfold adN
    rw [if_pos rfl]
  rw [← e1, ← st_alike hAd hs]
  have hvr : ∀ v ∈ vR (M.1 + 1) :: st, vok (stN M).1 v := vcR (Or.inl (Nat.le_refl _)) (fun v hv => vok_mono (Nat.le_succ _) (hs v hv))
  refine kk (fun v hv => vok_mono (Nat.le_succ _) (hL v hv)) hvr p e s m args below meth c H1 locs Ls (adN ad (M.1 + 1) a) n0 ad0 X (ww_new hW (by omega) ?_ hP1 hD1) hS1 (lv_subset hlv (al_alike hAd hL)) (Nat.le_succ_of_le hn0) (AdE.tr hn0 hE hAd)
  rw [ce_ref hq, hN]
  congr 7
  funext j
  have e2 : (stN M).2.2 (M.1 + 1) j = 0 := by show (if M.1 + 1 = M.1 + 1 then _ else _) = _; rw [if_pos rfl]
  rw [e2, if_pos rfl]
end WC
section WE
variable {G : GG} {I : MI} {d mc ms : Nat} {pc pc' : Nat} {L : List (Option AV)} {st : List AV} {M : MM} {k n : Nat} {Q : Option AV → MM → Prop}
theorem qco_end {p : Program} {s : State} {m : MethodId} {args : Array Value} {meth : Method} {c : Code} {H : Heap} {locs : List Loc} {ad ad0 : Nat → Nat} {n0 : Nat} (hW : Ww G ad M H) (hS : va_S (gA G) s.heap H locs) (hn : n0 ≤ M.1) (hE : AdE n0 ad0 ad) {v : Option AV} (hv : ∀ x, v = some x → vok M.1 x) (hQ : Q v M) {a : Array Value} {t : State} (ht : t.heap = H) : QcO G n0 ad0 Q a s (.returned (v.map (cv ad))) t :=
  ⟨⟨v, M, ad, rfl, hQ, hn, hE, hv, by rw [ht]; exact hW⟩, hS.F ht⟩
theorem wp_iret {x : Int} (hr : I.2.2.2 = some .int) (hd : Dd I.2.1 pc (.ireturn) 1 pc') (hk : k ≤ mc ∧ n ≤ ms) (h : Q (some (vI x)) M) : Wp G I d mc ms pc L [vI x] M k n Q := by
  obtain ⟨hd, -⟩ := hd
  intro hL hs p e s m args below meth c H locs Ls ad n0 ad0 X hW hS hl hn hE
  refine W.widen (k := mc) (n := ms) hk.1 hk.2 ?_
  exact W.iret X.1 X.2.1 (X.2.2.2.1.trans hr) (fun t ht _ => qco_end (p := p) (m := m) (args := args) (meth := meth) (c := c) hW hS hn hE (v := some (vI x)) (fun y hy => by cases hy; exact vok_hd hs) h ht) hS.2.2 hd (hlocks := X.2.2.2.2.1)
theorem wp_zret {x : Int} (hr : I.2.2.2 = some .boolean) (hd : Dd I.2.1 pc (.ireturn) 1 pc') (hk : k ≤ mc ∧ n ≤ ms) (hx : x = 0 ∨ x = 1) (h : Q (some (vI x)) M) : Wp G I d mc ms pc L [vI x] M k n Q := by
  obtain ⟨hd, -⟩ := hd
  intro hL hs p e s m args below meth c H locs Ls ad n0 ad0 X hW hS hl hn hE
  refine W.widen (k := mc) (n := ms) hk.1 hk.2 ?_
  exact W.zret X.1 X.2.1 (X.2.2.2.1.trans hr) (by rcases hx with z | z <;> subst z <;> rfl) (fun t ht _ => qco_end (p := p) (m := m) (args := args) (meth := meth) (c := c) hW hS hn hE (v := some (vI x)) (fun y hy => by cases hy; exact vok_hd hs) h ht) hS.2.2 hd (hlocks := X.2.2.2.2.1)
theorem wp_cret {x : Int} (hr : I.2.2.2 = some .char) (hd : Dd I.2.1 pc (.ireturn) 1 pc') (hk : k ≤ mc ∧ n ≤ ms) (hx : 0 ≤ x ∧ x < 65536) (h : Q (some (vI x)) M) : Wp G I d mc ms pc L [vI x] M k n Q := by
  obtain ⟨hd, -⟩ := hd
  intro hL hs p e s m args below meth c H locs Ls ad n0 ad0 X hW hS hl hn hE
  refine W.widen (k := mc) (n := ms) hk.1 hk.2 ?_
  refine W.zret X.1 X.2.1 (X.2.2.2.1.trans hr) ?_ (fun t ht _ => qco_end (p := p) (m := m) (args := args) (meth := meth) (c := c) hW hS hn hE (v := some (vI x)) (fun y hy => by cases hy; exact vok_hd hs) h ht) hS.2.2 hd (hlocks := X.2.2.2.2.1)
  obtain ⟨j, rfl⟩ : ∃ j : Nat, x = (j : Int) := ⟨x.toNat, by omega⟩
  rw [Int32.ofInt_eq_ofNat]
  exact (pk_charN (q := j) (by omega)).1
theorem wp_lret {x : Int} (hr : I.2.2.2 = some .long) (hd : Dd I.2.1 pc (.lreturn) 1 pc') (hk : k ≤ mc ∧ n ≤ ms) (h : Q (some (vL x)) M) : Wp G I d mc ms pc L [vL x] M k n Q := by
  obtain ⟨hd, -⟩ := hd
  intro hL hs p e s m args below meth c H locs Ls ad n0 ad0 X hW hS hl hn hE
  refine W.widen (k := mc) (n := ms) hk.1 hk.2 ?_
  exact W.lret X.1 X.2.1 (X.2.2.2.1.trans hr) (fun t ht _ => qco_end (p := p) (m := m) (args := args) (meth := meth) (c := c) hW hS hn hE (v := some (vL x)) (fun y hy => by cases hy; exact vok_hd hs) h ht) hS.2.2 hd (hlocks := X.2.2.2.2.1)
theorem wp_vret (hr : I.2.2.2 = none) (hd : Dd I.2.1 pc (.return_) 1 pc') (hk : k ≤ mc ∧ n ≤ ms) (h : Q none M) : Wp G I d mc ms pc L [] M k n Q := by
  obtain ⟨hd, -⟩ := hd
  intro hL hs p e s m args below meth c H locs Ls ad n0 ad0 X hW hS hl hn hE
  refine W.widen (k := mc) (n := ms) hk.1 hk.2 ?_
  exact W.vret X.1 X.2.1 (X.2.2.2.1.trans hr) (fun t ht _ => qco_end (p := p) (m := m) (args := args) (meth := meth) (c := c) hW hS hn hE (v := none) (fun y hy => by cases hy) h ht) hS.2.2 hd (hlocks := X.2.2.2.2.1)
/-- the locals at a method's entry -/
def ent : List AV → Nat → List (Option AV)
  | [], n => List.replicate n none
  | v :: vs, n => if wide v then some v :: none :: ent vs (n - 2) else some v :: ent vs (n - 1)
def elen : List AV → Nat
  | [] => 0
  | v :: vs => (if wide v then 2 else 1) + elen vs
theorem ent_args {ad : Nat → Nat} : ∀ (as : List AV) (N i : Nat) (v : AV) (j : Nat), (ent as N)[i]? = some (some v) → (j + i, cv ad v) ∈ lv_args j (as.map (cv ad)) := by
  intro as
  induction as with
  | nil =>
    intro N i v j h
    simp [ent, List.getElem?_replicate] at h
  | cons a as ih =>
    intro N i v j h
    rw [List.map_cons, lv_args, cv_cat]
    unfold ent at h
    cases hw : wide a
    · rw [hw] at h
      simp only [Bool.false_eq_true, if_false] at h ⊢
      cases i with
      | zero =>
        simp at h
        rw [h]
        exact List.mem_cons_self
      | succ i =>
        rw [List.getElem?_cons_succ] at h
        have := ih (N - 1) i v (j + 1) h
        rw [show j + 1 + i = j + (i + 1) by omega] at this
        rw [if_neg (by decide)]
        exact List.mem_cons_of_mem _ this
    · rw [hw] at h
      simp only [if_true] at h ⊢
      cases i with
      | zero =>
        simp at h
        rw [h]
        exact List.mem_cons_self
      | succ i =>
        rw [List.getElem?_cons_succ] at h
        cases i with
        | zero => simp at h
        | succ i =>
          rw [List.getElem?_cons_succ] at h
          have := ih (N - 2) i v (j + 2) h
          rw [show j + 2 + i = j + (i + 1 + 1) by omega] at this
          exact List.mem_cons_of_mem _ this
theorem ent_ok {N0 : Nat} : ∀ (as : List AV) (N : Nat), (∀ v ∈ as, vok N0 v) → ∀ v, some v ∈ ent as N → vok N0 v := by
  intro as
  induction as with
  | nil =>
    intro N h v hv
    simp [ent] at hv
  | cons a as ih =>
    intro N h v hv
    unfold ent at hv
    cases hw : wide a
    · rw [hw] at hv
      simp only [Bool.false_eq_true, if_false] at hv
      rcases List.mem_cons.mp hv with e | e
      · cases e; exact h _ List.mem_cons_self
      · exact ih _ (fun u hu => h u (List.mem_cons_of_mem _ hu)) v e
    · rw [hw] at hv
      simp only [if_true] at hv
      rcases List.mem_cons.mp hv with e | e
      · cases e; exact h _ List.mem_cons_self
      · rcases List.mem_cons.mp e with e | e
        · cases e
        · exact ih _ (fun u hu => h u (List.mem_cons_of_mem _ hu)) v e
theorem elen_sl {ad : Nat → Nat} : ∀ as : List AV, (lg_sl (as.map (cv ad))).length = elen as := by
  intro as
  induction as with
  | nil => rfl
  | cons a as ih =>
    rw [List.map_cons]
    unfold lg_sl at ih ⊢
    rw [List.flatMap_cons, List.length_append, ih, cv_cat]
    rw [show elen (a :: as) = (if wide a then 2 else 1) + elen as from rfl]
    cases wide a <;> rfl
theorem Ok_of {as : List AV} {L : List (Option AV)} (hy : plainName I.1.cls = true) (hn : elen as ≤ I.2.2.1) (hL : ent as I.2.2.1 = L) (h : Wp G I d mc ms 0 L [] M 0 0 Q) : Ok G I d mc ms as M Q := by
  intro hv ad
  subst hL
  refine Met.ofW (cc := I.2.1) (maxL := I.2.2.1) (ret := I.2.2.2) hy rfl ?_
  intro p e s m args below meth c s₁ B hml hPc
  obtain ⟨rfl, hB0, hK, hXS, hW⟩ := hPc
  have hts := atoms_spec (ws := .code I.1 I.2.1 I.2.2.1 I.2.2.2 :: WS) B.pre
  rw [lg_entry_eq]
  have hl := lv_entry (as.map (cv ad)) (n := I.2.2.1) (by rw [elen_sl]; exact hn)
  refine h (ent_ok as _ hv) (fun v hv => absurd hv List.not_mem_nil) p e s m _ below meth c s.heap [] _ ad M.1 ad ⟨B.exec, B.bytes, hml, B.returns, B.notSynchronized, findClass_of_methodNamed B.named, fun w hw => hts w (List.mem_cons_of_mem _ hw), hK, hB0, (name_of_methodNamed B.named B.method).1, hXS, trivial⟩ hW va_S.rf (lv_subset hl fun q hq => ?_) (Nat.le_refl _) AdE.rf
  obtain ⟨v, h1, h2⟩ := al_mem.mp hq
  have := ent_args (ad := ad) as I.2.2.1 q.1 v 0 h1
  rw [Nat.zero_add, ← h2] at this
  exact this
end WE
end
section
/-! ===== the one String constant's own methods ===== -/
section WSTR
variable {G : GG} {I : MI} {XX : State → Prop} {d mc ms : Nat} {Z : Nat → (Nat → Nat) → List Frame → Array Value → State → State → Prop} {pc pc' : Nat} {L : List (Option AV)} {st : List AV} {M : MM} {k n : Nat}
theorem cv_far {ad : Nat → Nat} {H : Heap} (hW : Ww G ad M H) {q : Nat} (hq : 700 ≤ q) : cv ad (vR q) = .ref (G.2.2.2.2 q) := by
  show cr ad q = _
  unfold cr
  rw [if_neg (by omega), hW.2.2.2.2.1 q hq]
theorem wg_gsC {ix : Nat} (hd : Dd I.2.1 pc (.getstatic ix) 3 pc') (hl : Cond.fieldLink I.1.cls ix "java/lang/String" "COMPACT_STRINGS" "Z" ∈ WS) (kk : Wg G I XX d mc ms Z pc' L (vI 1 :: st) M k n) : Wg G I XX d mc ms Z pc L st M k n := by
  obtain ⟨hd, rfl⟩ := hd
  exact wg_stk (fun hL hs _ _ => vcI ⟨by decide, by decide⟩ hs) (fun p e s m args below meth c H locs Ls ad Q X hW hS h hs q => va_gets X.1 X.2.1 X.2.2.2.2.2.2.2.2.2.2.1.2.2.2.2.1 hS X.2.2.2.2.2.1 (X.2.2.2.2.2.2.1 _ hl) (fun _ h => h) hd q) kk
theorem wg_gsF {ix : Nat} (hd : Dd I.2.1 pc (.getstatic ix) 3 pc') (hl : Cond.fieldLink I.1.cls ix "jdk/internal/util/Preconditions" "SIOOBE_FORMATTER" "Ljava/util/function/BiFunction;" ∈ WS) (kk : Wg G I XX d mc ms Z pc' L (vR 780 :: st) M k n) : Wg G I XX d mc ms Z pc L st M k n := by
  obtain ⟨hd, rfl⟩ := hd
  refine wg_stk (fun hL hs _ _ => vcR (Or.inr (by decide)) hs) (fun p e s m args below meth c H locs Ls ad Q X hW hS h hs q => ?_) kk
  rw [List.map_cons, cv_far hW (by decide)] at q
  exact va_gets X.1 X.2.1 X.2.2.2.2.2.2.2.2.2.2.1.2.2.2.2.2 hS X.2.2.2.2.2.1 (X.2.2.2.2.2.2.1 _ hl) (fun _ h => h) hd q
theorem wg_sVal {ix : Nat} (hd : Dd I.2.1 pc (.getfield ix) 3 pc') (hl : Cond.fieldLink I.1.cls ix "java/lang/String" "value" "[B" ∈ WS) (kk : Wg G I XX d mc ms Z pc' L (vR 779 :: st) M k n) : Wg G I XX d mc ms Z pc L (vR 777 :: st) M k n := by
  obtain ⟨hd, rfl⟩ := hd
  refine wg_stk (fun hL hs _ _ => vcR (Or.inr (by decide)) (vok_tl hs)) (fun p e s m args below meth c H locs Ls ad Q X hW hS h hs q => ?_) kk
  rw [List.map_cons, cv_far hW (by decide)] at q ⊢
  obtain ⟨cf, kf, fi, f, cell, h1, h2, h3, h4, h5, h6⟩ := (X.2.2.2.2.2.2.2.2.2.2.1.2.1.1 0 (by decide)).2.2.1.kept hS.2.1
  exact W.getf X.1 X.2.1 X.2.2.2.2.2.1 (X.2.2.2.2.2.2.1 _ hl) h1 h2 h3 h4 h5 rfl rfl hd q
theorem wg_sCod {ix : Nat} (hd : Dd I.2.1 pc (.getfield ix) 3 pc') (hl : Cond.fieldLink I.1.cls ix "java/lang/String" "coder" "B" ∈ WS) (kk : Wg G I XX d mc ms Z pc' L (vI 0 :: st) M k n) : Wg G I XX d mc ms Z pc L (vR 777 :: st) M k n := by
  obtain ⟨hd, rfl⟩ := hd
  refine wg_stk (fun hL hs _ _ => vcI z32 (vok_tl hs)) (fun p e s m args below meth c H locs Ls ad Q X hW hS h hs q => ?_) kk
  rw [List.map_cons, cv_far hW (by decide)]
  obtain ⟨cf, kf, fi, f, cell, h1, h2, h3, h4, h5, h6⟩ := (X.2.2.2.2.2.2.2.2.2.2.1.2.1.1 0 (by decide)).2.1.kept hS.2.1
  exact W.getf X.1 X.2.1 X.2.2.2.2.2.1 (X.2.2.2.2.2.2.1 _ hl) h1 h2 h3 h4 h5 rfl rfl hd q
theorem wg_sLen (hd : Dd I.2.1 pc (.arraylength) 1 pc') (kk : Wg G I XX d mc ms Z pc' L (vI 81 :: st) M k n) : Wg G I XX d mc ms Z pc L (vR 779 :: st) M k n := by
  obtain ⟨hd, rfl⟩ := hd
  refine wg_stk (fun hL hs _ _ => vcI ⟨by decide, by decide⟩ (vok_tl hs)) (fun p e s m args below meth c H locs Ls ad Q X hW hS h hs q => ?_) kk
  rw [List.map_cons, cv_far hW (by decide)]
  exact va_tlen X.1 X.2.1 (X.2.2.2.2.2.2.2.2.2.2.1.2.1.1 0 (by decide)).2.2.2 hS (v := Int32.ofInt 81) rfl hd q
theorem wg_sByte {i : Int} (hd : Dd I.2.1 pc (.baload) 1 pc') (h0 : 0 ≤ i) (h8 : i < 81) (kk : Wg G I XX d mc ms Z pc' L (vI (txB.getD i.toNat 0).toInt :: st) M k n) : Wg G I XX d mc ms Z pc L (vI i :: vR 779 :: st) M k n := by
  obtain ⟨hd, rfl⟩ := hd
  refine wg_stk (fun hL hs _ _ => vcI (r32_toInt _) (vok_tl (vok_tl hs))) (fun p e s m args below meth c H locs Ls ad Q X hW hS h hs q => ?_) kk
  rw [List.map_cons, List.map_cons, cv_far hW (by decide)]
  obtain ⟨a1, a2⟩ := o_in (N := 81) (vok_hd hs) h0 h8 (by decide)
  refine va_tb X.1 X.2.1 (X.2.2.2.2.2.2.2.2.2.2.1.2.1.1 0 (by decide)).2.2.2 hS a1 (v := cv ad (vI (txB.getD i.toNat 0).toInt)) ?_ hd q
  rw [a2]
  show Value.int (txB.getD i.toNat 0) = Value.int (Int32.ofInt (txB.getD i.toNat 0).toInt)
  rw [Int32.ofInt_toInt]
theorem wg_i2c {x : Int} (hd : Dd I.2.1 pc (.i2c) 1 pc') (h0 : 0 ≤ x) (h1 : x < 65536) (kk : Wg G I XX d mc ms Z pc' L (vI x :: st) M k n) : Wg G I XX d mc ms Z pc L (vI x :: st) M k n := by
  obtain ⟨hd, rfl⟩ := hd
  refine wg_stk (fun hL hs _ _ => hs) (fun p e s m args below meth c H locs Ls ad Q X hW hS h hs q => ?_) kk
  refine lv_i2c X.1 X.2.1 hd ?_ q
  obtain ⟨j, rfl⟩ : ∃ j : Nat, x = (j : Int) := ⟨x.toNat, by omega⟩
  rw [Int32.ofInt_eq_ofNat]
  have := pk_char (Int32.ofNat j)
  rw [this, show (Int32.ofNat j).toBitVec.toNat = j from pk_tn (by omega), Nat.mod_eq_of_lt (by omega)]
  rfl
theorem wg_callVs {ix np d' mc' ms' : Nat} {I' : MI} {as stk : List AV} {Qc : Option AV → MM → Prop} (hd : Dd I.2.1 pc (.invokevirtual ix) 3 pc') (hl : Cond.methodLink I.1.cls ix I'.1 ∈ WS) (hI : CVi I' np) (hC : I'.1.cls = "java/lang/String") (hs : stk = as.reverse ++ vR 777 :: st) (hn : as.length = np) (hst : st.length ≤ 4) (hd' : d' + 1 ≤ d) (hk : k + mc' ≤ mc ∧ n + ms' ≤ ms)
    (h : Ok G I' d' mc' ms' (vR 777 :: as) M Qc) (kk : ∀ (v : Option AV) (M' : MM), Qc v M' → Wg G I XX d mc ms Z pc' L (v.toList ++ st) M' (k + mc') (n + ms')) : Wg G I XX d mc ms Z pc L stk M k n := by
  obtain ⟨hd, rfl⟩ := hd
  obtain ⟨⟨i1, i2, i3, i4⟩, i5, i6⟩ := hI
  intro hL hs0 p e s m args below meth c H locs Ls ad n0 ad0 X hW hS hlv hn0 hE
  obtain ⟨has, hst0⟩ := rev_ok hs hs0
  have hst1 := vok_tl hst0
  have hM := h (vok_cons (vok_hd hst0) has) ad
  have e1 : (vR 777 :: as).map (cv ad) = Value.ref (G.2.2.2.2 777) :: as.map (cv ad) := by rw [List.map_cons, cv_far hW (by decide)]
  rw [e1] at hM
  have hin : ∀ w ∈ wsV I.1.cls ix I'.1.cls I'.1 (Cond.code I'.1 I'.2.1 I'.2.2.1 I'.2.2.2 :: WS), w ∈ WS := by
    intro w hw
    unfold wsV at hw
    simp only [List.mem_append, List.mem_cons, List.not_mem_nil, or_false] at hw
    rcases hw with (rfl | rfl | rfl | rfl) | rfl | hw
    · exact hl
    · exact i5
    · exact i6
    · exact i1
    · exact i2
    · exact hw
  have hstk : stk.map (cv ad) = (as.map (cv ad)).reverse ++ Value.ref (G.2.2.2.2 777) :: st.map (cv ad) := by
    rw [hs, List.map_append, List.map_reverse, List.map_cons, cv_far hW (by decide)]
  have hrecv : ∃ cellB : Cell, H[G.2.2.2.2 777]? = some cellB ∧ cellB.vm.isStatics = false ∧ s.vm.findClass I'.1.cls = some cellB.cls := by
    obtain ⟨cell, h1, h2, h3, -⟩ := (X.2.2.2.2.2.2.2.2.2.2.1.2.1.1 0 (by decide)).1.kept hS.2.1
    exact ⟨cell, h1, h2, by rw [hC]; exact h3⟩
  refine wg_back (mc' := mc') (ms' := ms') (va_runV (As := as.map (cv ad)) (rest := st.map (cv ad)) (nL := I.2.2.1) ⟨X.1, X.2.1, X.2.2.1, X.2.2.2.2.2.1, X.2.2.2.2.2.2.1⟩ hM (cwV np X.2.2.2.2.2.2.1 (ws_in hin) rfl rfl rfl ⟨rfl, i3⟩ ⟨hd', by show 8 + (I'.2.2.1 + 11) + 40 * d' ≤ 40 * d; omega⟩) ⟨pco_blind, hrecv, fun U hU hw => ⟨rfl, pco_at X hW hS hU hw⟩⟩ rfl (by rw [List.length_map]; exact hn) hlv.1 hstk (lv_room (cat_le hst)) hd hk) hS (fun v M' ad' H1 locs1 hQ hn1 hE1 hok hW1 hS1 => ?_)
  rw [ret_stack hE1 hst1]
  exact kk v M' hQ (fun u hu => vok_mono hn1 (hL u hu)) (vok_app hok (fun u hu => vok_mono hn1 (hst1 u hu))) p e s m args below meth c H1 locs1 Ls ad' n0 ad0 X hW1 hS1 (lv_subset hlv (al_alike hE1 hL)) (Nat.le_trans hn0 hn1) (AdE.tr hn0 hE hE1)
theorem wp_bret {G : GG} {I : MI} {d mc ms : Nat} {pc pc' : Nat} {L : List (Option AV)} {M : MM} {k n : Nat} {Q : Option AV → MM → Prop} (hr : I.2.2.2 = some .byte) (hd : Dd I.2.1 pc (.ireturn) 1 pc') (hk : k ≤ mc ∧ n ≤ ms) (h : Q (some (vI 0)) M) : Wp G I d mc ms pc L [vI 0] M k n Q := by
  obtain ⟨hd, -⟩ := hd
  intro hL hs p e s m args below meth c H locs Ls ad n0 ad0 X hW hS hl hn hE
  refine W.widen (k := mc) (n := ms) hk.1 hk.2 ?_
  exact W.zret X.1 X.2.1 (X.2.2.2.1.trans hr) rfl (fun t ht _ => qco_end (p := p) (m := m) (args := args) (meth := meth) (c := c) hW hS hn hE (v := some (vI 0)) (fun y hy => by cases hy; exact z32) h ht) hS.2.2 hd (hlocks := X.2.2.2.2.1)
end WSTR
end
section
/-! ===== the methods, the words that their instructions link ===== -/
theorem ws_t1 (i : Nat) {w : Cond} (h : tables_1_1[i]? = some w) (g : goodWord w = true) : w ∈ WS := List.mem_filter.mpr ⟨List.mem_append_right _ (have h := List.mem_of_getElem? h; List.mem_append_left _ h), g⟩
theorem ws_t2 (i : Nat) {w : Cond} (h : tables_1_2[i]? = some w) (g : goodWord w = true) : w ∈ WS := List.mem_filter.mpr ⟨List.mem_append_right _ (have h := List.mem_of_getElem? h; List.mem_append_right _ (List.mem_append_left _ h)), g⟩
theorem ws_t3 (i : Nat) {w : Cond} (h : tables_1_3[i]? = some w) (g : goodWord w = true) : w ∈ WS := List.mem_filter.mpr ⟨List.mem_append_right _ (have h := List.mem_of_getElem? h; List.mem_append_right _ (List.mem_append_right _ (List.mem_append_left _ h))), g⟩
theorem ws_t4 (i : Nat) {w : Cond} (h : tables_1_4[i]? = some w) (g : goodWord w = true) : w ∈ WS := List.mem_filter.mpr ⟨List.mem_append_right _ (have h := List.mem_of_getElem? h; List.mem_append_right _ (List.mem_append_right _ (List.mem_append_right _ (List.mem_append_left _ h)))), g⟩
theorem ws_t5 (i : Nat) {w : Cond} (h : tables_1_5[i]? = some w) (g : goodWord w = true) : w ∈ WS := List.mem_filter.mpr ⟨List.mem_append_right _ (have h := List.mem_of_getElem? h; List.mem_append_right _ (List.mem_append_right _ (List.mem_append_right _ (List.mem_append_right _ (List.mem_append_left _ h))))), g⟩
theorem ws_t6 (i : Nat) {w : Cond} (h : tables_1_6[i]? = some w) (g : goodWord w = true) : w ∈ WS := List.mem_filter.mpr ⟨List.mem_append_right _ (have h := List.mem_of_getElem? h; List.mem_append_right _ (List.mem_append_right _ (List.mem_append_right _ (List.mem_append_right _ (List.mem_append_right _ (h)))))), g⟩
theorem ws_p (i : Nat) {w : Cond} (h : (k2_sels lw_privs)[i]? = some w) (g : goodWord w = true) : w ∈ WS := List.mem_filter.mpr ⟨List.mem_append_left _ (List.mem_of_getElem? h), g⟩
def RJ0 : String := "java/lang/String"
def RJ1 : String := "java/lang/StringLatin1"
def RJ3 : String := "jdk/internal/util/Preconditions"
def RJ6 : String := "java/lang/Integer"
def yJ6_bitCount_0f7a4 : MethodName := ⟨RJ6, "bitCount", "(I)I"⟩
abbrev cJ6_bitCount_0f7a4 : ByteArray := prog_12_method_49_code
def yJ0_length_8abf5 : MethodName := ⟨RJ0, "length", "()I"⟩
abbrev cJ0_length_8abf5 : ByteArray := prog_14_method_54_code
def yJ0_charAt_5068e : MethodName := ⟨RJ0, "charAt", "(I)C"⟩
abbrev cJ0_charAt_5068e : ByteArray := prog_14_method_56_code
def yJ0_coder_7d493 : MethodName := ⟨RJ0, "coder", "()B"⟩
abbrev cJ0_coder_7d493 : ByteArray := prog_14_method_152_code
def yJ0_isLatin1_aae02 : MethodName := ⟨RJ0, "isLatin1", "()Z"⟩
abbrev cJ0_isLatin1_aae02 : ByteArray := prog_14_method_154_code
def yJ0_checkIndex_df160 : MethodName := ⟨RJ0, "checkIndex", "(II)V"⟩
abbrev cJ0_checkIndex_df160 : ByteArray := prog_14_method_155_code
def yJ1_charAt_3b067 : MethodName := ⟨RJ1, "charAt", "([BI)C"⟩
abbrev cJ1_charAt_3b067 : ByteArray := prog_15_method_2_code
def yJ3_checkIndex_8e157 : MethodName := ⟨RJ3, "checkIndex", "(IILjava/util/function/BiFunction;)I"⟩
abbrev cJ3_checkIndex_8e157 : ByteArray := prog_17_method_11_code
def mX0_init : MI := (yX0_init, cX0_init, 1, none)
def mX0_find : MI := (yX0_find, cX0_find, 3, (some .boolean))
def mX0_extend : MI := (yX0_extend, cX0_extend, 6, (some .boolean))
def mX0_isGain : MI := (yX0_isGain, cX0_isGain, 4, (some .boolean))
def mX0_above : MI := (yX0_above, cX0_above, 1, (some .int))
def mX0_below : MI := (yX0_below, cX0_below, 1, (some .int))
def mX0_exchangeAt : MI := (yX0_exchangeAt, cX0_exchangeAt, 2, (some .int))
def mX1_init : MI := (yX1_init, cX1_init, 1, none)
def mX1_append : MI := (yX1_append, cX1_append, 2, (some .boolean))
def mX1_clear : MI := (yX1_clear, cX1_clear, 1, none)
def mX1_size : MI := (yX1_size, cX1_size, 1, (some .int))
def mX1_signAt : MI := (yX1_signAt, cX1_signAt, 2, (some .int))
def mX2_init : MI := (yX2_init, cX2_init, 3, none)
def mX2_size : MI := (yX2_size, cX2_size, 1, (some .int))
def mX2_clear : MI := (yX2_clear, cX2_clear, 1, none)
def mX2_push : MI := (yX2_push, cX2_push, 2, none)
def mX2_forgetOldest : MI := (yX2_forgetOldest, cX2_forgetOldest, 3, none)
def mX2_popInto : MI := (yX2_popInto, cX2_popInto, 3, (some .boolean))
def mX3_init : MI := (yX3_init, cX3_init, 2, none)
def mX3_findLeast : MI := (yX3_findLeast, cX3_findLeast, 7, (some .boolean))
def mX3_isBetter : MI := (yX3_isBetter, cX3_isBetter, 4, (some .boolean))
def mX3_ribbonInAll : MI := (yX3_ribbonInAll, cX3_ribbonInAll, 2, (some .int))
def mX3_findAll : MI := (yX3_findAll, cX3_findAll, 8, (some .boolean))
def mX3_listLoose : MI := (yX3_listLoose, cX3_listLoose, 5, none)
def mX3_whoIsHeldBy : MI := (yX3_whoIsHeldBy, cX3_whoIsHeldBy, 4, (some .int))
def mX3_canHoldFrom : MI := (yX3_canHoldFrom, cX3_canHoldFrom, 3, (some .boolean))
def mX3_smallerHoldsFrom : MI := (yX3_smallerHoldsFrom, cX3_smallerHoldsFrom, 4, (some .boolean))
def mX3_isHeldFrom : MI := (yX3_isHeldFrom, cX3_isHeldFrom, 3, (some .boolean))
def mX3_lowestRibbon : MI := (yX3_lowestRibbon, cX3_lowestRibbon, 6, (some .int))
def mX3_shareOut : MI := (yX3_shareOut, cX3_shareOut, 6, none)
def mX3_mostBound : MI := (yX3_mostBound, cX3_mostBound, 4, (some .int))
def mX3_mostOutOf : MI := (yX3_mostOutOf, cX3_mostOutOf, 8, (some .int))
def mX3_mostKnown : MI := (yX3_mostKnown, cX3_mostKnown, 2, (some .int))
def mX4_init : MI := (yX4_init, cX4_init, 2, none)
def mX4_readInto : MI := (yX4_readInto, cX4_readInto, 4, (some .int))
def mX4_readItem : MI := (yX4_readItem, cX4_readItem, 7, (some .boolean))
def mX4_numbersBehind : MI := (yX4_numbersBehind, cX4_numbersBehind, 1, (some .int))
def mX4_readNumber : MI := (yX4_readNumber, cX4_readNumber, 3, (some .int))
def mX4_figureAt : MI := (yX4_figureAt, cX4_figureAt, 3, (some .int))
def mX5_init : MI := (yX5_init, cX5_init, 1, none)
def mX5_clear : MI := (yX5_clear, cX5_clear, 2, none)
def mX5_copyFrom : MI := (yX5_copyFrom, cX5_copyFrom, 3, none)
def mX5_isBound : MI := (yX5_isBound, cX5_isBound, 2, (some .boolean))
def mX5_ribbonOf : MI := (yX5_ribbonOf, cX5_ribbonOf, 2, (some .int))
def mX5_ageOf : MI := (yX5_ageOf, cX5_ageOf, 2, (some .int))
def mX5_escapesOf : MI := (yX5_escapesOf, cX5_escapesOf, 2, (some .int))
def mX5_tie : MI := (yX5_tie, cX5_tie, 3, none)
def mX5_untie : MI := (yX5_untie, cX5_untie, 2, none)
def mX5_beastWith : MI := (yX5_beastWith, cX5_beastWith, 3, (some .int))
def mX5_gone : MI := (yX5_gone, cX5_gone, 3, (some .int))
def mX5_found : MI := (yX5_found, cX5_found, 5, (some .int))
def mX5_passDay : MI := (yX5_passDay, cX5_passDay, 5, (some .int))
def mX6_init : MI := (yX6_init, cX6_init, 1, none)
def mX6_fillFrom : MI := (yX6_fillFrom, cX6_fillFrom, 3, none)
def mX6_sumOfStrength : MI := (yX6_sumOfStrength, cX6_sumOfStrength, 7, (some .int))
def mX6_spread : MI := (yX6_spread, cX6_spread, 5, (some .int))
def mX6_thoseWhoMiss : MI := (yX6_thoseWhoMiss, cX6_thoseWhoMiss, 4, (some .int))
def mX6_sumOfWeights : MI := (yX6_sumOfWeights, cX6_sumOfWeights, 4, (some .int))
def mX6_isSet : MI := (yX6_isSet, cX6_isSet, 2, (some .boolean))
def mX6_strengthOf : MI := (yX6_strengthOf, cX6_strengthOf, 2, (some .int))
def mX6_followersOf : MI := (yX6_followersOf, cX6_followersOf, 2, (some .int))
def mX6_missersOf : MI := (yX6_missersOf, cX6_missersOf, 2, (some .int))
def mX6_lossOf : MI := (yX6_lossOf, cX6_lossOf, 2, (some .int))
def mX6_costOf : MI := (yX6_costOf, cX6_costOf, 3, (some .int))
def mX6_thereBesides : MI := (yX6_thereBesides, cX6_thereBesides, 2, (some .int))
def mX7_init : MI := (yX7_init, cX7_init, 1, none)
def mX7_clear : MI := (yX7_clear, cX7_clear, 1, none)
def mX7_take : MI := (yX7_take, cX7_take, 6, (some .boolean))
def mX7_takeThing : MI := (yX7_takeThing, cX7_takeThing, 4, (some .boolean))
def mX7_takeNeed : MI := (yX7_takeNeed, cX7_takeNeed, 3, (some .boolean))
def mX7_takePerson : MI := (yX7_takePerson, cX7_takePerson, 4, (some .boolean))
def mX7_takeBeast : MI := (yX7_takeBeast, cX7_takeBeast, 2, (some .boolean))
def mX7_takeExchange : MI := (yX7_takeExchange, cX7_takeExchange, 7, (some .boolean))
def mX7_areTwoThings : MI := (yX7_areTwoThings, cX7_areTwoThings, 3, (some .boolean))
def mX7_isOneFigure : MI := (yX7_isOneFigure, cX7_isOneFigure, 1, (some .boolean))
def mX7_entry : MI := (yX7_entry, cX7_entry, 2, (some .int))
def mX7_strengthOfThing : MI := (yX7_strengthOfThing, cX7_strengthOfThing, 2, (some .int))
def mX7_kindOfThing : MI := (yX7_kindOfThing, cX7_kindOfThing, 2, (some .int))
def mX7_neederOf : MI := (yX7_neederOf, cX7_neederOf, 2, (some .int))
def mX7_neededOf : MI := (yX7_neededOf, cX7_neededOf, 2, (some .int))
def mX7_thingOfPerson : MI := (yX7_thingOfPerson, cX7_thingOfPerson, 2, (some .int))
def mX7_weightOfPerson : MI := (yX7_weightOfPerson, cX7_weightOfPerson, 2, (some .int))
def mX7_pullOfBeast : MI := (yX7_pullOfBeast, cX7_pullOfBeast, 2, (some .int))
def mX7_takenBy : MI := (yX7_takenBy, cX7_takenBy, 2, (some .int))
def mX7_givenBy : MI := (yX7_givenBy, cX7_givenBy, 2, (some .int))
def mX7_takenMuchBy : MI := (yX7_takenMuchBy, cX7_takenMuchBy, 2, (some .int))
def mX7_givenMuchBy : MI := (yX7_givenMuchBy, cX7_givenMuchBy, 2, (some .int))
def mX8_init : MI := (yX8_init, cX8_init, 2, none)
def mX8_write : MI := (yX8_write, cX8_write, 2, (some .int))
def mX8_wipe : MI := (yX8_wipe, cX8_wipe, 2, (some .int))
def mX8_fault : MI := (yX8_fault, cX8_fault, 1, (some .int))
def mX8_lay : MI := (yX8_lay, cX8_lay, 1, (some .int))
def mX8_layTheText : MI := (yX8_layTheText, cX8_layTheText, 2, (some .boolean))
def mX8_thing : MI := (yX8_thing, cX8_thing, 3, (some .int))
def mX8_person : MI := (yX8_person, cX8_person, 3, (some .int))
def mX8_beast : MI := (yX8_beast, cX8_beast, 3, (some .int))
def mX8_strength : MI := (yX8_strength, cX8_strength, 2, (some .int))
def mX8_follows : MI := (yX8_follows, cX8_follows, 2, (some .int))
def mX8_missed : MI := (yX8_missed, cX8_missed, 1, (some .int))
def mX8_bind : MI := (yX8_bind, cX8_bind, 4, (some .int))
def mX8_loosen : MI := (yX8_loosen, cX8_loosen, 3, (some .int))
def mX8_days : MI := (yX8_days, cX8_days, 4, (some .int))
def mX8_undo : MI := (yX8_undo, cX8_undo, 1, (some .int))
def mX8_cost : MI := (yX8_cost, cX8_cost, 2, (some .int))
def mX8_least : MI := (yX8_least, cX8_least, 3, (some .int))
def mX8_all : MI := (yX8_all, cX8_all, 2, (some .int))
def mX8_more : MI := (yX8_more, cX8_more, 2, (some .int))
def mX8_worst : MI := (yX8_worst, cX8_worst, 7, (some .int))
def mX8_back : MI := (yX8_back, cX8_back, 6, (some .int))
def mX8_missing : MI := (yX8_missing, cX8_missing, 9, (some .int))
def mX8_trial : MI := (yX8_trial, cX8_trial, 14, (some .long))
def mX8_pledge : MI := (yX8_pledge, cX8_pledge, 6, (some .int))
def mX8_pledgeRests : MI := (yX8_pledgeRests, cX8_pledgeRests, 5, (some .boolean))
def mX8_pledgeLoss : MI := (yX8_pledgeLoss, cX8_pledgeLoss, 3, (some .int))
def mX8_gain : MI := (yX8_gain, cX8_gain, 2, (some .int))
def mX8_row : MI := (yX8_row, cX8_row, 7, (some .int))
def mX8_actByDraw : MI := (yX8_actByDraw, cX8_actByDraw, 4, none)
def mX8_keep : MI := (yX8_keep, cX8_keep, 1, (some .int))
def mX8_restore : MI := (yX8_restore, cX8_restore, 1, (some .int))
def mX8_count : MI := (yX8_count, cX8_count, 2, (some .int))
def mX8_isThing : MI := (yX8_isThing, cX8_isThing, 2, (some .boolean))
def mX8_isBeast : MI := (yX8_isBeast, cX8_isBeast, 2, (some .boolean))
def mX8_isThere : MI := (yX8_isThere, cX8_isThere, 2, (some .boolean))
def mX8_missedIn : MI := (yX8_missedIn, cX8_missedIn, 2, (some .int))
def mX8_draw : MI := (yX8_draw, cX8_draw, 4, (some .int))
def mX8_power : MI := (yX8_power, cX8_power, 5, (some .long))
def mX8_commonDivisor : MI := (yX8_commonDivisor, cX8_commonDivisor, 11, (some .long))
def mX9_init : MI := (yX9_init, cX9_init, 1, none)
def mX9_in : MI := (yX9_in, cX9_in, 6, (some .boolean))
def mX9_has : MI := (yX9_has, cX9_has, 2, (some .boolean))
def mX9_bits : MI := (yX9_bits, cX9_bits, 3, (some .int))
def mX9_addThing : MI := (yX9_addThing, cX9_addThing, 3, none)
def mX9_addNeed : MI := (yX9_addNeed, cX9_addNeed, 3, none)
def mX9_addPerson : MI := (yX9_addPerson, cX9_addPerson, 3, none)
def mX9_addBeast : MI := (yX9_addBeast, cX9_addBeast, 2, none)
def mX9_addChange : MI := (yX9_addChange, cX9_addChange, 5, none)
def mX9_begin : MI := (yX9_begin, cX9_begin, 2, none)
def mX9_write : MI := (yX9_write, cX9_write, 2, (some .int))
def mX9_wipe : MI := (yX9_wipe, cX9_wipe, 2, (some .int))
def mX9_isFigure : MI := (yX9_isFigure, cX9_isFigure, 1, (some .boolean))
def mX9_isThere : MI := (yX9_isThere, cX9_isThere, 2, (some .boolean))
def mX9_reads : MI := (yX9_reads, cX9_reads, 6, (some .boolean))
def mX9_readsComma : MI := (yX9_readsComma, cX9_readsComma, 2, (some .boolean))
def mX9_readsTwo : MI := (yX9_readsTwo, cX9_readsTwo, 4, (some .boolean))
def mX9_readsChange : MI := (yX9_readsChange, cX9_readsChange, 1, (some .boolean))
def mX9_readsNumbers : MI := (yX9_readsNumbers, cX9_readsNumbers, 2, (some .boolean))
def mX9_readsItem : MI := (yX9_readsItem, cX9_readsItem, 2, (some .int))
def mX9_beginToRead : MI := (yX9_beginToRead, cX9_beginToRead, 1, none)
def mX9_fault : MI := (yX9_fault, cX9_fault, 2, (some .int))
def mX9_tell : MI := (yX9_tell, cX9_tell, 2, none)
def mX9_lay : MI := (yX9_lay, cX9_lay, 1, (some .int))
def mX9_isThing : MI := (yX9_isThing, cX9_isThing, 2, (some .boolean))
def mX9_isBeast : MI := (yX9_isBeast, cX9_isBeast, 2, (some .boolean))
def mX9_isSet : MI := (yX9_isSet, cX9_isSet, 2, (some .boolean))
def mX9_strengthOf : MI := (yX9_strengthOf, cX9_strengthOf, 7, (some .int))
def mX9_followsOf : MI := (yX9_followsOf, cX9_followsOf, 5, (some .int))
def mX9_goneIn : MI := (yX9_goneIn, cX9_goneIn, 4, (some .int))
def mX9_thereIn : MI := (yX9_thereIn, cX9_thereIn, 2, (some .int))
def mX9_lateSet : MI := (yX9_lateSet, cX9_lateSet, 3, (some .int))
def mX9_foundIn : MI := (yX9_foundIn, cX9_foundIn, 4, (some .int))
def mX9_missedBy : MI := (yX9_missedBy, cX9_missedBy, 4, (some .int))
def mX9_missedIn : MI := (yX9_missedIn, cX9_missedIn, 2, (some .int))
def mX9_costIn : MI := (yX9_costIn, cX9_costIn, 4, (some .int))
def mX9_thing : MI := (yX9_thing, cX9_thing, 5, (some .int))
def mX9_person : MI := (yX9_person, cX9_person, 3, (some .int))
def mX9_beast : MI := (yX9_beast, cX9_beast, 3, (some .int))
def mX9_strength : MI := (yX9_strength, cX9_strength, 2, (some .int))
def mX9_follows : MI := (yX9_follows, cX9_follows, 2, (some .int))
def mX9_missed : MI := (yX9_missed, cX9_missed, 1, (some .int))
def mX9_copy : MI := (yX9_copy, cX9_copy, 4, none)
def mX9_keepPast : MI := (yX9_keepPast, cX9_keepPast, 2, none)
def mX9_bindIn : MI := (yX9_bindIn, cX9_bindIn, 4, none)
def mX9_bind : MI := (yX9_bind, cX9_bind, 3, (some .int))
def mX9_loosen : MI := (yX9_loosen, cX9_loosen, 3, (some .int))
def mX9_lentIn : MI := (yX9_lentIn, cX9_lentIn, 4, (some .int))
def mX9_dayIn : MI := (yX9_dayIn, cX9_dayIn, 4, (some .int))
def mX9_days : MI := (yX9_days, cX9_days, 4, (some .int))
def mX9_undo : MI := (yX9_undo, cX9_undo, 1, (some .int))
def mX9_cost : MI := (yX9_cost, cX9_cost, 2, (some .int))
def mX9_leastIn : MI := (yX9_leastIn, cX9_leastIn, 9, (some .int))
def mX9_least : MI := (yX9_least, cX9_least, 4, (some .int))
def mX9_lowest : MI := (yX9_lowest, cX9_lowest, 3, (some .int))
def mX9_canHold : MI := (yX9_canHold, cX9_canHold, 7, (some .boolean))
def mX9_unbound : MI := (yX9_unbound, cX9_unbound, 3, (some .int))
def mX9_layHolds : MI := (yX9_layHolds, cX9_layHolds, 4, none)
def mX9_usedByAll : MI := (yX9_usedByAll, cX9_usedByAll, 8, (some .int))
def mX9_ribbonOf : MI := (yX9_ribbonOf, cX9_ribbonOf, 7, (some .int))
def mX9_all : MI := (yX9_all, cX9_all, 3, (some .int))
def mX9_more : MI := (yX9_more, cX9_more, 6, (some .int))
def mX9_worst : MI := (yX9_worst, cX9_worst, 7, (some .int))
def mX9_back : MI := (yX9_back, cX9_back, 5, (some .int))
def mX9_whoMiss : MI := (yX9_whoMiss, cX9_whoMiss, 4, (some .int))
def mX9_missing : MI := (yX9_missing, cX9_missing, 8, (some .int))
def mX9_divisor : MI := (yX9_divisor, cX9_divisor, 10, (some .long))
def mX9_power : MI := (yX9_power, cX9_power, 6, (some .long))
def mX9_trial : MI := (yX9_trial, cX9_trial, 11, (some .long))
def mX9_losesBy : MI := (yX9_losesBy, cX9_losesBy, 3, (some .int))
def mX9_rests : MI := (yX9_rests, cX9_rests, 5, (some .boolean))
def mX9_pledge : MI := (yX9_pledge, cX9_pledge, 7, (some .int))
def mX9_layChain : MI := (yX9_layChain, cX9_layChain, 5, none)
def mX9_gains : MI := (yX9_gains, cX9_gains, 11, (some .boolean))
def mX9_gain : MI := (yX9_gain, cX9_gain, 5, (some .int))
def mX9_ofChain : MI := (yX9_ofChain, cX9_ofChain, 9, (some .int))
def mX9_row : MI := (yX9_row, cX9_row, 11, (some .int))
def mX9_keep : MI := (yX9_keep, cX9_keep, 1, (some .int))
def mX9_restore : MI := (yX9_restore, cX9_restore, 1, (some .int))
def mX9_count : MI := (yX9_count, cX9_count, 2, (some .int))
def mJ6_bitCount_0f7a4 : MI := (yJ6_bitCount_0f7a4, cJ6_bitCount_0f7a4, 1, (some .int))
def mJ0_length_8abf5 : MI := (yJ0_length_8abf5, cJ0_length_8abf5, 1, (some .int))
def mJ0_charAt_5068e : MI := (yJ0_charAt_5068e, cJ0_charAt_5068e, 2, (some .char))
def mJ0_coder_7d493 : MI := (yJ0_coder_7d493, cJ0_coder_7d493, 1, (some .byte))
def mJ0_isLatin1_aae02 : MI := (yJ0_isLatin1_aae02, cJ0_isLatin1_aae02, 1, (some .boolean))
def mJ0_checkIndex_df160 : MI := (yJ0_checkIndex_df160, cJ0_checkIndex_df160, 2, none)
def mJ1_charAt_3b067 : MI := (yJ1_charAt_3b067, cJ1_charAt_3b067, 2, (some .char))
def mJ3_checkIndex_8e157 : MI := (yJ3_checkIndex_8e157, cJ3_checkIndex_8e157, 3, (some .int))
theorem in_X8 : Cond.initialized RX8 ∈ WS := ws_t1 1 rfl rfl
theorem in_X0 : Cond.initialized RX0 ∈ WS := ws_t1 10 rfl rfl
theorem in_X1 : Cond.initialized RX1 ∈ WS := ws_t1 2 rfl rfl
theorem in_X2 : Cond.initialized RX2 ∈ WS := ws_t1 7 rfl rfl
theorem in_X3 : Cond.initialized RX3 ∈ WS := ws_t1 9 rfl rfl
theorem in_X4 : Cond.initialized RX4 ∈ WS := ws_t1 3 rfl rfl
theorem in_X5 : Cond.initialized RX5 ∈ WS := ws_t1 6 rfl rfl
theorem in_X6 : Cond.initialized RX6 ∈ WS := ws_t1 5 rfl rfl
theorem in_X7 : Cond.initialized RX7 ∈ WS := ws_t1 4 rfl rfl
theorem in_X9 : Cond.initialized RX9 ∈ WS := ws_t1 16 rfl rfl
theorem in_J6 : Cond.initialized RJ6 ∈ WS := ws_t1 15 rfl rfl
theorem in_J0 : Cond.initialized RJ0 ∈ WS := ws_t1 11 rfl rfl
theorem in_J1 : Cond.initialized RJ1 ∈ WS := ws_t1 12 rfl rfl
theorem in_J3 : Cond.initialized RJ3 ∈ WS := ws_t1 13 rfl rfl
theorem ci_X0_init : CCo mX0_init 0 := ⟨⟨in_X0, ws_t2 6 rfl rfl, ⟨by decide, by decide, by decide +kernel⟩, by decide⟩, ws_t2 5 rfl rfl, rfl⟩
theorem ci_X0_find : CVi mX0_find 1 := ⟨⟨in_X0, ws_t4 62 rfl rfl, ⟨by decide, by decide, by decide +kernel⟩, by decide⟩, ws_t4 60 rfl rfl, ws_t4 61 rfl rfl⟩
theorem ci_X0_extend : CVi mX0_extend 3 := ⟨⟨in_X0, ws_t4 66 rfl rfl, ⟨by decide, by decide, by decide +kernel⟩, by decide⟩, ws_t4 65 rfl rfl, ws_p 26 rfl rfl⟩
theorem ci_X0_isGain : CVi mX0_isGain 1 := ⟨⟨in_X0, ws_t4 70 rfl rfl, ⟨by decide, by decide, by decide +kernel⟩, by decide⟩, ws_t4 69 rfl rfl, ws_p 27 rfl rfl⟩
theorem ci_X0_above : CVi mX0_above 0 := ⟨⟨in_X0, ws_t4 99 rfl rfl, ⟨by decide, by decide, by decide +kernel⟩, by decide⟩, ws_t4 97 rfl rfl, ws_t4 98 rfl rfl⟩
theorem ci_X0_below : CVi mX0_below 0 := ⟨⟨in_X0, ws_t4 94 rfl rfl, ⟨by decide, by decide, by decide +kernel⟩, by decide⟩, ws_t4 92 rfl rfl, ws_t4 93 rfl rfl⟩
theorem ci_X0_exchangeAt : CVi mX0_exchangeAt 1 := ⟨⟨in_X0, ws_t4 74 rfl rfl, ⟨by decide, by decide, by decide +kernel⟩, by decide⟩, ws_t4 72 rfl rfl, ws_t4 73 rfl rfl⟩
theorem ci_X1_init : CCo mX1_init 0 := ⟨⟨in_X1, ws_t1 29 rfl rfl, ⟨by decide, by decide, by decide +kernel⟩, by decide⟩, ws_t1 28 rfl rfl, rfl⟩
theorem ci_X1_append : CVi mX1_append 1 := ⟨⟨in_X1, ws_t2 74 rfl rfl, ⟨by decide, by decide, by decide +kernel⟩, by decide⟩, ws_t2 72 rfl rfl, ws_t2 73 rfl rfl⟩
theorem ci_X1_clear : CVi mX1_clear 0 := ⟨⟨in_X1, ws_t2 204 rfl rfl, ⟨by decide, by decide, by decide +kernel⟩, by decide⟩, ws_t2 202 rfl rfl, ws_t2 203 rfl rfl⟩
theorem ci_X1_size : CVi mX1_size 0 := ⟨⟨in_X1, ws_t2 90 rfl rfl, ⟨by decide, by decide, by decide +kernel⟩, by decide⟩, ws_t2 88 rfl rfl, ws_t2 89 rfl rfl⟩
theorem ci_X1_signAt : CVi mX1_signAt 1 := ⟨⟨in_X1, ws_t2 98 rfl rfl, ⟨by decide, by decide, by decide +kernel⟩, by decide⟩, ws_t2 96 rfl rfl, ws_t2 97 rfl rfl⟩
theorem ci_X2_init : CCo mX2_init 1 := ⟨⟨in_X2, ws_t1 180 rfl rfl, ⟨by decide, by decide, by decide +kernel⟩, by decide⟩, ws_t1 179 rfl rfl, rfl⟩
theorem ci_X2_size : CVi mX2_size 0 := ⟨⟨in_X2, ws_t3 170 rfl rfl, ⟨by decide, by decide, by decide +kernel⟩, by decide⟩, ws_t3 168 rfl rfl, ws_t3 169 rfl rfl⟩
theorem ci_X2_clear : CVi mX2_clear 0 := ⟨⟨in_X2, ws_t2 200 rfl rfl, ⟨by decide, by decide, by decide +kernel⟩, by decide⟩, ws_t2 198 rfl rfl, ws_t2 199 rfl rfl⟩
theorem ci_X2_push : CVi mX2_push 1 := ⟨⟨in_X2, ws_t3 125 rfl rfl, ⟨by decide, by decide, by decide +kernel⟩, by decide⟩, ws_t3 123 rfl rfl, ws_t3 124 rfl rfl⟩
theorem ci_X2_forgetOldest : CVi mX2_forgetOldest 0 := ⟨⟨in_X2, ws_t3 129 rfl rfl, ⟨by decide, by decide, by decide +kernel⟩, by decide⟩, ws_t3 128 rfl rfl, ws_p 14 rfl rfl⟩
theorem ci_X2_popInto : CVi mX2_popInto 1 := ⟨⟨in_X2, ws_t3 166 rfl rfl, ⟨by decide, by decide, by decide +kernel⟩, by decide⟩, ws_t3 164 rfl rfl, ws_t3 165 rfl rfl⟩
theorem ci_X3_init : CCo mX3_init 1 := ⟨⟨in_X3, ws_t1 199 rfl rfl, ⟨by decide, by decide, by decide +kernel⟩, by decide⟩, ws_t1 198 rfl rfl, rfl⟩
theorem ci_X3_findLeast : CVi mX3_findLeast 2 := ⟨⟨in_X3, ws_t3 187 rfl rfl, ⟨by decide, by decide, by decide +kernel⟩, by decide⟩, ws_t3 185 rfl rfl, ws_t3 186 rfl rfl⟩
theorem ci_X3_isBetter : CSt mX3_isBetter 4 := ⟨⟨in_X3, ws_t3 193 rfl rfl, ⟨by decide, by decide, by decide +kernel⟩, by decide⟩, ws_t3 192 rfl rfl⟩
theorem ci_X3_ribbonInAll : CVi mX3_ribbonInAll 1 := ⟨⟨in_X3, ws_t3 237 rfl rfl, ⟨by decide, by decide, by decide +kernel⟩, by decide⟩, ws_t3 235 rfl rfl, ws_t3 236 rfl rfl⟩
theorem ci_X3_findAll : CVi mX3_findAll 2 := ⟨⟨in_X3, ws_t3 202 rfl rfl, ⟨by decide, by decide, by decide +kernel⟩, by decide⟩, ws_t3 200 rfl rfl, ws_t3 201 rfl rfl⟩
theorem ci_X3_listLoose : CVi mX3_listLoose 2 := ⟨⟨in_X3, ws_t3 206 rfl rfl, ⟨by decide, by decide, by decide +kernel⟩, by decide⟩, ws_t3 205 rfl rfl, ws_p 15 rfl rfl⟩
theorem ci_X3_whoIsHeldBy : CVi mX3_whoIsHeldBy 1 := ⟨⟨in_X3, ws_t3 213 rfl rfl, ⟨by decide, by decide, by decide +kernel⟩, by decide⟩, ws_t3 212 rfl rfl, ws_p 16 rfl rfl⟩
theorem ci_X3_canHoldFrom : CVi mX3_canHoldFrom 2 := ⟨⟨in_X3, ws_t3 217 rfl rfl, ⟨by decide, by decide, by decide +kernel⟩, by decide⟩, ws_t3 216 rfl rfl, ws_p 17 rfl rfl⟩
theorem ci_X3_smallerHoldsFrom : CVi mX3_smallerHoldsFrom 2 := ⟨⟨in_X3, ws_t3 221 rfl rfl, ⟨by decide, by decide, by decide +kernel⟩, by decide⟩, ws_t3 220 rfl rfl, ws_p 18 rfl rfl⟩
theorem ci_X3_isHeldFrom : CVi mX3_isHeldFrom 2 := ⟨⟨in_X3, ws_t3 225 rfl rfl, ⟨by decide, by decide, by decide +kernel⟩, by decide⟩, ws_t3 224 rfl rfl, ws_p 19 rfl rfl⟩
theorem ci_X3_lowestRibbon : CVi mX3_lowestRibbon 2 := ⟨⟨in_X3, ws_t3 229 rfl rfl, ⟨by decide, by decide, by decide +kernel⟩, by decide⟩, ws_t3 228 rfl rfl, ws_p 20 rfl rfl⟩
theorem ci_X3_shareOut : CVi mX3_shareOut 1 := ⟨⟨in_X3, ws_t3 233 rfl rfl, ⟨by decide, by decide, by decide +kernel⟩, by decide⟩, ws_t3 232 rfl rfl, ws_p 21 rfl rfl⟩
theorem ci_X3_mostBound : CVi mX3_mostBound 2 := ⟨⟨in_X3, ws_t4 5 rfl rfl, ⟨by decide, by decide, by decide +kernel⟩, by decide⟩, ws_t4 3 rfl rfl, ws_t4 4 rfl rfl⟩
theorem ci_X3_mostOutOf : CVi mX3_mostOutOf 2 := ⟨⟨in_X3, ws_t4 9 rfl rfl, ⟨by decide, by decide, by decide +kernel⟩, by decide⟩, ws_t4 8 rfl rfl, ws_p 22 rfl rfl⟩
theorem ci_X3_mostKnown : CVi mX3_mostKnown 1 := ⟨⟨in_X3, ws_t4 13 rfl rfl, ⟨by decide, by decide, by decide +kernel⟩, by decide⟩, ws_t4 12 rfl rfl, ws_p 23 rfl rfl⟩
theorem ci_X4_init : CCo mX4_init 1 := ⟨⟨in_X4, ws_t1 43 rfl rfl, ⟨by decide, by decide, by decide +kernel⟩, by decide⟩, ws_t1 42 rfl rfl, rfl⟩
theorem ci_X4_readInto : CVi mX4_readInto 1 := ⟨⟨in_X4, ws_t2 82 rfl rfl, ⟨by decide, by decide, by decide +kernel⟩, by decide⟩, ws_t2 80 rfl rfl, ws_t2 81 rfl rfl⟩
theorem ci_X4_readItem : CVi mX4_readItem 1 := ⟨⟨in_X4, ws_t2 94 rfl rfl, ⟨by decide, by decide, by decide +kernel⟩, by decide⟩, ws_t2 93 rfl rfl, ws_p 1 rfl rfl⟩
theorem ci_X4_numbersBehind : CSt mX4_numbersBehind 1 := ⟨⟨in_X4, ws_t2 101 rfl rfl, ⟨by decide, by decide, by decide +kernel⟩, by decide⟩, ws_t2 100 rfl rfl⟩
theorem ci_X4_readNumber : CVi mX4_readNumber 0 := ⟨⟨in_X4, ws_t2 105 rfl rfl, ⟨by decide, by decide, by decide +kernel⟩, by decide⟩, ws_t2 104 rfl rfl, ws_p 2 rfl rfl⟩
theorem ci_X4_figureAt : CVi mX4_figureAt 1 := ⟨⟨in_X4, ws_t2 109 rfl rfl, ⟨by decide, by decide, by decide +kernel⟩, by decide⟩, ws_t2 108 rfl rfl, ws_p 3 rfl rfl⟩
theorem ci_X5_init : CCo mX5_init 0 := ⟨⟨in_X5, ws_t1 160 rfl rfl, ⟨by decide, by decide, by decide +kernel⟩, by decide⟩, ws_t1 159 rfl rfl, rfl⟩
theorem ci_X5_clear : CVi mX5_clear 0 := ⟨⟨in_X5, ws_t2 196 rfl rfl, ⟨by decide, by decide, by decide +kernel⟩, by decide⟩, ws_t2 194 rfl rfl, ws_t2 195 rfl rfl⟩
theorem ci_X5_copyFrom : CVi mX5_copyFrom 1 := ⟨⟨in_X5, ws_t3 133 rfl rfl, ⟨by decide, by decide, by decide +kernel⟩, by decide⟩, ws_t3 131 rfl rfl, ws_t3 132 rfl rfl⟩
theorem ci_X5_isBound : CVi mX5_isBound 1 := ⟨⟨in_X5, ws_t3 79 rfl rfl, ⟨by decide, by decide, by decide +kernel⟩, by decide⟩, ws_t3 77 rfl rfl, ws_t3 78 rfl rfl⟩
theorem ci_X5_ribbonOf : CVi mX5_ribbonOf 1 := ⟨⟨in_X5, ws_t3 75 rfl rfl, ⟨by decide, by decide, by decide +kernel⟩, by decide⟩, ws_t3 73 rfl rfl, ws_t3 74 rfl rfl⟩
theorem ci_X5_ageOf : CVi mX5_ageOf 1 := ⟨⟨in_X5, ws_t3 84 rfl rfl, ⟨by decide, by decide, by decide +kernel⟩, by decide⟩, ws_t3 82 rfl rfl, ws_t3 83 rfl rfl⟩
theorem ci_X5_escapesOf : CVi mX5_escapesOf 1 := ⟨⟨in_X5, ws_t3 88 rfl rfl, ⟨by decide, by decide, by decide +kernel⟩, by decide⟩, ws_t3 86 rfl rfl, ws_t3 87 rfl rfl⟩
theorem ci_X5_tie : CVi mX5_tie 2 := ⟨⟨in_X5, ws_t3 137 rfl rfl, ⟨by decide, by decide, by decide +kernel⟩, by decide⟩, ws_t3 135 rfl rfl, ws_t3 136 rfl rfl⟩
theorem ci_X5_untie : CVi mX5_untie 1 := ⟨⟨in_X5, ws_t3 146 rfl rfl, ⟨by decide, by decide, by decide +kernel⟩, by decide⟩, ws_t3 144 rfl rfl, ws_t3 145 rfl rfl⟩
theorem ci_X5_beastWith : CVi mX5_beastWith 1 := ⟨⟨in_X5, ws_t3 45 rfl rfl, ⟨by decide, by decide, by decide +kernel⟩, by decide⟩, ws_t3 43 rfl rfl, ws_t3 44 rfl rfl⟩
theorem ci_X5_gone : CVi mX5_gone 0 := ⟨⟨in_X5, ws_t3 37 rfl rfl, ⟨by decide, by decide, by decide +kernel⟩, by decide⟩, ws_t3 35 rfl rfl, ws_t3 36 rfl rfl⟩
theorem ci_X5_found : CVi mX5_found 1 := ⟨⟨in_X5, ws_t3 55 rfl rfl, ⟨by decide, by decide, by decide +kernel⟩, by decide⟩, ws_t3 53 rfl rfl, ws_t3 54 rfl rfl⟩
theorem ci_X5_passDay : CVi mX5_passDay 2 := ⟨⟨in_X5, ws_t3 155 rfl rfl, ⟨by decide, by decide, by decide +kernel⟩, by decide⟩, ws_t3 153 rfl rfl, ws_t3 154 rfl rfl⟩
theorem ci_X6_init : CCo mX6_init 0 := ⟨⟨in_X6, ws_t1 136 rfl rfl, ⟨by decide, by decide, by decide +kernel⟩, by decide⟩, ws_t1 135 rfl rfl, rfl⟩
theorem ci_X6_fillFrom : CVi mX6_fillFrom 1 := ⟨⟨in_X6, ws_t2 144 rfl rfl, ⟨by decide, by decide, by decide +kernel⟩, by decide⟩, ws_t2 142 rfl rfl, ws_t2 143 rfl rfl⟩
theorem ci_X6_sumOfStrength : CSt mX6_sumOfStrength 2 := ⟨⟨in_X6, ws_t2 150 rfl rfl, ⟨by decide, by decide, by decide +kernel⟩, by decide⟩, ws_t2 149 rfl rfl⟩
theorem ci_X6_spread : CSt mX6_spread 2 := ⟨⟨in_X6, ws_t2 166 rfl rfl, ⟨by decide, by decide, by decide +kernel⟩, by decide⟩, ws_t2 165 rfl rfl⟩
theorem ci_X6_thoseWhoMiss : CSt mX6_thoseWhoMiss 2 := ⟨⟨in_X6, ws_t2 181 rfl rfl, ⟨by decide, by decide, by decide +kernel⟩, by decide⟩, ws_t2 180 rfl rfl⟩
theorem ci_X6_sumOfWeights : CSt mX6_sumOfWeights 2 := ⟨⟨in_X6, ws_t2 188 rfl rfl, ⟨by decide, by decide, by decide +kernel⟩, by decide⟩, ws_t2 187 rfl rfl⟩
theorem ci_X6_isSet : CVi mX6_isSet 1 := ⟨⟨in_X6, ws_t3 96 rfl rfl, ⟨by decide, by decide, by decide +kernel⟩, by decide⟩, ws_t3 94 rfl rfl, ws_t3 95 rfl rfl⟩
theorem ci_X6_strengthOf : CVi mX6_strengthOf 1 := ⟨⟨in_X6, ws_t3 100 rfl rfl, ⟨by decide, by decide, by decide +kernel⟩, by decide⟩, ws_t3 98 rfl rfl, ws_t3 99 rfl rfl⟩
theorem ci_X6_followersOf : CVi mX6_followersOf 1 := ⟨⟨in_X6, ws_t2 178 rfl rfl, ⟨by decide, by decide, by decide +kernel⟩, by decide⟩, ws_t2 176 rfl rfl, ws_t2 177 rfl rfl⟩
theorem ci_X6_missersOf : CVi mX6_missersOf 1 := ⟨⟨in_X6, ws_t3 59 rfl rfl, ⟨by decide, by decide, by decide +kernel⟩, by decide⟩, ws_t3 57 rfl rfl, ws_t3 58 rfl rfl⟩
theorem ci_X6_lossOf : CVi mX6_lossOf 1 := ⟨⟨in_X6, ws_t3 117 rfl rfl, ⟨by decide, by decide, by decide +kernel⟩, by decide⟩, ws_t3 115 rfl rfl, ws_t3 116 rfl rfl⟩
theorem ci_X6_costOf : CVi mX6_costOf 2 := ⟨⟨in_X6, ws_t3 178 rfl rfl, ⟨by decide, by decide, by decide +kernel⟩, by decide⟩, ws_t3 176 rfl rfl, ws_t3 177 rfl rfl⟩
theorem ci_X6_thereBesides : CVi mX6_thereBesides 1 := ⟨⟨in_X6, ws_t3 41 rfl rfl, ⟨by decide, by decide, by decide +kernel⟩, by decide⟩, ws_t3 39 rfl rfl, ws_t3 40 rfl rfl⟩
theorem ci_X7_init : CCo mX7_init 0 := ⟨⟨in_X7, ws_t1 59 rfl rfl, ⟨by decide, by decide, by decide +kernel⟩, by decide⟩, ws_t1 58 rfl rfl, rfl⟩
theorem ci_X7_clear : CVi mX7_clear 0 := ⟨⟨in_X7, ws_t2 86 rfl rfl, ⟨by decide, by decide, by decide +kernel⟩, by decide⟩, ws_t2 84 rfl rfl, ws_t2 85 rfl rfl⟩
theorem ci_X7_take : CVi mX7_take 5 := ⟨⟨in_X7, ws_t2 113 rfl rfl, ⟨by decide, by decide, by decide +kernel⟩, by decide⟩, ws_t2 111 rfl rfl, ws_t2 112 rfl rfl⟩
theorem ci_X7_takeThing : CVi mX7_takeThing 2 := ⟨⟨in_X7, ws_t2 117 rfl rfl, ⟨by decide, by decide, by decide +kernel⟩, by decide⟩, ws_t2 116 rfl rfl, ws_p 4 rfl rfl⟩
theorem ci_X7_takeNeed : CVi mX7_takeNeed 2 := ⟨⟨in_X7, ws_t2 121 rfl rfl, ⟨by decide, by decide, by decide +kernel⟩, by decide⟩, ws_t2 120 rfl rfl, ws_p 5 rfl rfl⟩
theorem ci_X7_takePerson : CVi mX7_takePerson 2 := ⟨⟨in_X7, ws_t2 129 rfl rfl, ⟨by decide, by decide, by decide +kernel⟩, by decide⟩, ws_t2 128 rfl rfl, ws_p 7 rfl rfl⟩
theorem ci_X7_takeBeast : CVi mX7_takeBeast 1 := ⟨⟨in_X7, ws_t2 136 rfl rfl, ⟨by decide, by decide, by decide +kernel⟩, by decide⟩, ws_t2 135 rfl rfl, ws_p 8 rfl rfl⟩
theorem ci_X7_takeExchange : CVi mX7_takeExchange 4 := ⟨⟨in_X7, ws_t2 140 rfl rfl, ⟨by decide, by decide, by decide +kernel⟩, by decide⟩, ws_t2 139 rfl rfl, ws_p 9 rfl rfl⟩
theorem ci_X7_areTwoThings : CVi mX7_areTwoThings 2 := ⟨⟨in_X7, ws_t2 125 rfl rfl, ⟨by decide, by decide, by decide +kernel⟩, by decide⟩, ws_t2 124 rfl rfl, ws_p 6 rfl rfl⟩
theorem ci_X7_isOneFigure : CSt mX7_isOneFigure 1 := ⟨⟨in_X7, ws_t2 132 rfl rfl, ⟨by decide, by decide, by decide +kernel⟩, by decide⟩, ws_t2 131 rfl rfl⟩
theorem ci_X7_entry : CSt mX7_entry 2 := ⟨⟨in_X7, ws_t2 163 rfl rfl, ⟨by decide, by decide, by decide +kernel⟩, by decide⟩, ws_t2 162 rfl rfl⟩
theorem ci_X7_strengthOfThing : CVi mX7_strengthOfThing 1 := ⟨⟨in_X7, ws_t2 160 rfl rfl, ⟨by decide, by decide, by decide +kernel⟩, by decide⟩, ws_t2 158 rfl rfl, ws_t2 159 rfl rfl⟩
theorem ci_X7_kindOfThing : CVi mX7_kindOfThing 1 := ⟨⟨in_X7, ws_t3 29 rfl rfl, ⟨by decide, by decide, by decide +kernel⟩, by decide⟩, ws_t3 27 rfl rfl, ws_t3 28 rfl rfl⟩
theorem ci_X7_neederOf : CVi mX7_neederOf 1 := ⟨⟨in_X7, ws_t2 174 rfl rfl, ⟨by decide, by decide, by decide +kernel⟩, by decide⟩, ws_t2 172 rfl rfl, ws_t2 173 rfl rfl⟩
theorem ci_X7_neededOf : CVi mX7_neededOf 1 := ⟨⟨in_X7, ws_t2 170 rfl rfl, ⟨by decide, by decide, by decide +kernel⟩, by decide⟩, ws_t2 168 rfl rfl, ws_t2 169 rfl rfl⟩
theorem ci_X7_thingOfPerson : CVi mX7_thingOfPerson 1 := ⟨⟨in_X7, ws_t2 185 rfl rfl, ⟨by decide, by decide, by decide +kernel⟩, by decide⟩, ws_t2 183 rfl rfl, ws_t2 184 rfl rfl⟩
theorem ci_X7_weightOfPerson : CVi mX7_weightOfPerson 1 := ⟨⟨in_X7, ws_t2 192 rfl rfl, ⟨by decide, by decide, by decide +kernel⟩, by decide⟩, ws_t2 190 rfl rfl, ws_t2 191 rfl rfl⟩
theorem ci_X7_pullOfBeast : CVi mX7_pullOfBeast 1 := ⟨⟨in_X7, ws_t3 71 rfl rfl, ⟨by decide, by decide, by decide +kernel⟩, by decide⟩, ws_t3 69 rfl rfl, ws_t3 70 rfl rfl⟩
theorem ci_X7_takenBy : CVi mX7_takenBy 1 := ⟨⟨in_X7, ws_t4 82 rfl rfl, ⟨by decide, by decide, by decide +kernel⟩, by decide⟩, ws_t4 80 rfl rfl, ws_t4 81 rfl rfl⟩
theorem ci_X7_givenBy : CVi mX7_givenBy 1 := ⟨⟨in_X7, ws_t4 78 rfl rfl, ⟨by decide, by decide, by decide +kernel⟩, by decide⟩, ws_t4 76 rfl rfl, ws_t4 77 rfl rfl⟩
theorem ci_X7_takenMuchBy : CVi mX7_takenMuchBy 1 := ⟨⟨in_X7, ws_t4 90 rfl rfl, ⟨by decide, by decide, by decide +kernel⟩, by decide⟩, ws_t4 88 rfl rfl, ws_t4 89 rfl rfl⟩
theorem ci_X7_givenMuchBy : CVi mX7_givenMuchBy 1 := ⟨⟨in_X7, ws_t4 86 rfl rfl, ⟨by decide, by decide, by decide +kernel⟩, by decide⟩, ws_t4 84 rfl rfl, ws_t4 85 rfl rfl⟩
theorem ci_X8_init : CCo mX8_init 0 := ⟨⟨in_X8, ws_t1 21 rfl rfl, ⟨by decide, by decide, by decide +kernel⟩, by decide⟩, ws_t1 20 rfl rfl, rfl⟩
theorem ci_X8_write : CVi mX8_write 1 := ⟨⟨in_X8, ws_t3 3 rfl rfl, ⟨by decide, by decide, by decide +kernel⟩, by decide⟩, ws_t3 1 rfl rfl, ws_t3 2 rfl rfl⟩
theorem ci_X8_wipe : CVi mX8_wipe 0 := ⟨⟨in_X8, ws_t3 8 rfl rfl, ⟨by decide, by decide, by decide +kernel⟩, by decide⟩, ws_t3 6 rfl rfl, ws_t3 7 rfl rfl⟩
theorem ci_X8_fault : CVi mX8_fault 0 := ⟨⟨in_X8, ws_t3 12 rfl rfl, ⟨by decide, by decide, by decide +kernel⟩, by decide⟩, ws_t3 10 rfl rfl, ws_t3 11 rfl rfl⟩
theorem ci_X8_lay : CVi mX8_lay 0 := ⟨⟨in_X8, ws_t3 16 rfl rfl, ⟨by decide, by decide, by decide +kernel⟩, by decide⟩, ws_t3 14 rfl rfl, ws_t3 15 rfl rfl⟩
theorem ci_X8_layTheText : CVi mX8_layTheText 0 := ⟨⟨in_X8, ws_t2 78 rfl rfl, ⟨by decide, by decide, by decide +kernel⟩, by decide⟩, ws_t2 77 rfl rfl, ws_p 0 rfl rfl⟩
theorem ci_X8_thing : CVi mX8_thing 2 := ⟨⟨in_X8, ws_t3 20 rfl rfl, ⟨by decide, by decide, by decide +kernel⟩, by decide⟩, ws_t3 18 rfl rfl, ws_t3 19 rfl rfl⟩
theorem ci_X8_person : CVi mX8_person 2 := ⟨⟨in_X8, ws_t3 49 rfl rfl, ⟨by decide, by decide, by decide +kernel⟩, by decide⟩, ws_t3 47 rfl rfl, ws_t3 48 rfl rfl⟩
theorem ci_X8_beast : CVi mX8_beast 2 := ⟨⟨in_X8, ws_t3 63 rfl rfl, ⟨by decide, by decide, by decide +kernel⟩, by decide⟩, ws_t3 61 rfl rfl, ws_t3 62 rfl rfl⟩
theorem ci_X8_strength : CVi mX8_strength 1 := ⟨⟨in_X8, ws_t3 92 rfl rfl, ⟨by decide, by decide, by decide +kernel⟩, by decide⟩, ws_t3 90 rfl rfl, ws_t3 91 rfl rfl⟩
theorem ci_X8_follows : CVi mX8_follows 1 := ⟨⟨in_X8, ws_t3 104 rfl rfl, ⟨by decide, by decide, by decide +kernel⟩, by decide⟩, ws_t3 102 rfl rfl, ws_t3 103 rfl rfl⟩
theorem ci_X8_missed : CVi mX8_missed 0 := ⟨⟨in_X8, ws_t3 109 rfl rfl, ⟨by decide, by decide, by decide +kernel⟩, by decide⟩, ws_t3 107 rfl rfl, ws_t3 108 rfl rfl⟩
theorem ci_X8_bind : CVi mX8_bind 2 := ⟨⟨in_X8, ws_t3 121 rfl rfl, ⟨by decide, by decide, by decide +kernel⟩, by decide⟩, ws_t3 119 rfl rfl, ws_t3 120 rfl rfl⟩
theorem ci_X8_loosen : CVi mX8_loosen 1 := ⟨⟨in_X8, ws_t3 141 rfl rfl, ⟨by decide, by decide, by decide +kernel⟩, by decide⟩, ws_t3 139 rfl rfl, ws_t3 140 rfl rfl⟩
theorem ci_X8_days : CVi mX8_days 1 := ⟨⟨in_X8, ws_t3 151 rfl rfl, ⟨by decide, by decide, by decide +kernel⟩, by decide⟩, ws_t3 149 rfl rfl, ws_t3 150 rfl rfl⟩
theorem ci_X8_undo : CVi mX8_undo 0 := ⟨⟨in_X8, ws_t3 162 rfl rfl, ⟨by decide, by decide, by decide +kernel⟩, by decide⟩, ws_t3 160 rfl rfl, ws_t3 161 rfl rfl⟩
theorem ci_X8_cost : CVi mX8_cost 1 := ⟨⟨in_X8, ws_t3 174 rfl rfl, ⟨by decide, by decide, by decide +kernel⟩, by decide⟩, ws_t3 172 rfl rfl, ws_t3 173 rfl rfl⟩
theorem ci_X8_least : CVi mX8_least 2 := ⟨⟨in_X8, ws_t3 183 rfl rfl, ⟨by decide, by decide, by decide +kernel⟩, by decide⟩, ws_t3 181 rfl rfl, ws_t3 182 rfl rfl⟩
theorem ci_X8_all : CVi mX8_all 1 := ⟨⟨in_X8, ws_t3 198 rfl rfl, ⟨by decide, by decide, by decide +kernel⟩, by decide⟩, ws_t3 196 rfl rfl, ws_t3 197 rfl rfl⟩
theorem ci_X8_more : CVi mX8_more 1 := ⟨⟨in_X8, ws_t4 1 rfl rfl, ⟨by decide, by decide, by decide +kernel⟩, by decide⟩, ws_t3 239 rfl rfl, ws_t4 0 rfl rfl⟩
theorem ci_X8_worst : CVi mX8_worst 1 := ⟨⟨in_X8, ws_t4 19 rfl rfl, ⟨by decide, by decide, by decide +kernel⟩, by decide⟩, ws_t4 17 rfl rfl, ws_t4 18 rfl rfl⟩
theorem ci_X8_back : CVi mX8_back 1 := ⟨⟨in_X8, ws_t4 23 rfl rfl, ⟨by decide, by decide, by decide +kernel⟩, by decide⟩, ws_t4 21 rfl rfl, ws_t4 22 rfl rfl⟩
theorem ci_X8_missing : CVi mX8_missing 3 := ⟨⟨in_X8, ws_t4 27 rfl rfl, ⟨by decide, by decide, by decide +kernel⟩, by decide⟩, ws_t4 25 rfl rfl, ws_t4 26 rfl rfl⟩
theorem ci_X8_trial : CVi mX8_trial 4 := ⟨⟨in_X8, ws_t4 31 rfl rfl, ⟨by decide, by decide, by decide +kernel⟩, by decide⟩, ws_t4 29 rfl rfl, ws_t4 30 rfl rfl⟩
theorem ci_X8_pledge : CVi mX8_pledge 1 := ⟨⟨in_X8, ws_t4 46 rfl rfl, ⟨by decide, by decide, by decide +kernel⟩, by decide⟩, ws_t4 44 rfl rfl, ws_t4 45 rfl rfl⟩
theorem ci_X8_pledgeRests : CVi mX8_pledgeRests 2 := ⟨⟨in_X8, ws_t4 50 rfl rfl, ⟨by decide, by decide, by decide +kernel⟩, by decide⟩, ws_t4 49 rfl rfl, ws_p 24 rfl rfl⟩
theorem ci_X8_pledgeLoss : CVi mX8_pledgeLoss 2 := ⟨⟨in_X8, ws_t4 54 rfl rfl, ⟨by decide, by decide, by decide +kernel⟩, by decide⟩, ws_t4 53 rfl rfl, ws_p 25 rfl rfl⟩
theorem ci_X8_gain : CVi mX8_gain 1 := ⟨⟨in_X8, ws_t4 58 rfl rfl, ⟨by decide, by decide, by decide +kernel⟩, by decide⟩, ws_t4 56 rfl rfl, ws_t4 57 rfl rfl⟩
theorem ci_X8_row : CVi mX8_row 3 := ⟨⟨in_X8, ws_t4 104 rfl rfl, ⟨by decide, by decide, by decide +kernel⟩, by decide⟩, ws_t4 102 rfl rfl, ws_t4 103 rfl rfl⟩
theorem ci_X8_actByDraw : CVi mX8_actByDraw 2 := ⟨⟨in_X8, ws_t4 115 rfl rfl, ⟨by decide, by decide, by decide +kernel⟩, by decide⟩, ws_t4 114 rfl rfl, ws_p 28 rfl rfl⟩
theorem ci_X8_keep : CVi mX8_keep 0 := ⟨⟨in_X8, ws_t4 119 rfl rfl, ⟨by decide, by decide, by decide +kernel⟩, by decide⟩, ws_t4 117 rfl rfl, ws_t4 118 rfl rfl⟩
theorem ci_X8_restore : CVi mX8_restore 0 := ⟨⟨in_X8, ws_t4 123 rfl rfl, ⟨by decide, by decide, by decide +kernel⟩, by decide⟩, ws_t4 121 rfl rfl, ws_t4 122 rfl rfl⟩
theorem ci_X8_count : CVi mX8_count 1 := ⟨⟨in_X8, ws_t4 127 rfl rfl, ⟨by decide, by decide, by decide +kernel⟩, by decide⟩, ws_t4 125 rfl rfl, ws_t4 126 rfl rfl⟩
theorem ci_X8_isThing : CVi mX8_isThing 1 := ⟨⟨in_X8, ws_t3 24 rfl rfl, ⟨by decide, by decide, by decide +kernel⟩, by decide⟩, ws_t3 23 rfl rfl, ws_p 10 rfl rfl⟩
theorem ci_X8_isBeast : CVi mX8_isBeast 1 := ⟨⟨in_X8, ws_t3 67 rfl rfl, ⟨by decide, by decide, by decide +kernel⟩, by decide⟩, ws_t3 66 rfl rfl, ws_p 12 rfl rfl⟩
theorem ci_X8_isThere : CVi mX8_isThere 1 := ⟨⟨in_X8, ws_t3 33 rfl rfl, ⟨by decide, by decide, by decide +kernel⟩, by decide⟩, ws_t3 32 rfl rfl, ws_p 11 rfl rfl⟩
theorem ci_X8_missedIn : CVi mX8_missedIn 1 := ⟨⟨in_X8, ws_t3 113 rfl rfl, ⟨by decide, by decide, by decide +kernel⟩, by decide⟩, ws_t3 112 rfl rfl, ws_p 13 rfl rfl⟩
theorem ci_X8_draw : CSt mX8_draw 2 := ⟨⟨in_X8, ws_t4 108 rfl rfl, ⟨by decide, by decide, by decide +kernel⟩, by decide⟩, ws_t4 107 rfl rfl⟩
theorem ci_X8_power : CSt mX8_power 2 := ⟨⟨in_X8, ws_t4 35 rfl rfl, ⟨by decide, by decide, by decide +kernel⟩, by decide⟩, ws_t4 34 rfl rfl⟩
theorem ci_X8_commonDivisor : CSt mX8_commonDivisor 2 := ⟨⟨in_X8, ws_t4 39 rfl rfl, ⟨by decide, by decide, by decide +kernel⟩, by decide⟩, ws_t4 38 rfl rfl⟩
theorem ci_X9_init : CCo mX9_init 0 := ⟨⟨in_X9, ws_t4 132 rfl rfl, ⟨by decide, by decide, by decide +kernel⟩, by decide⟩, ws_t4 131 rfl rfl, rfl⟩
theorem ci_X9_in : CSt mX9_in 3 := ⟨⟨in_X9, ws_t5 12 rfl rfl, ⟨by decide, by decide, by decide +kernel⟩, by decide⟩, ws_t5 11 rfl rfl⟩
theorem ci_X9_has : CSt mX9_has 2 := ⟨⟨in_X9, ws_t5 77 rfl rfl, ⟨by decide, by decide, by decide +kernel⟩, by decide⟩, ws_t5 76 rfl rfl⟩
theorem ci_X9_bits : CSt mX9_bits 1 := ⟨⟨in_X9, ws_t5 160 rfl rfl, ⟨by decide, by decide, by decide +kernel⟩, by decide⟩, ws_t5 159 rfl rfl⟩
theorem ci_X9_addThing : CVi mX9_addThing 2 := ⟨⟨in_X9, ws_t4 137 rfl rfl, ⟨by decide, by decide, by decide +kernel⟩, by decide⟩, ws_t4 136 rfl rfl, ws_p 29 rfl rfl⟩
theorem ci_X9_addNeed : CVi mX9_addNeed 2 := ⟨⟨in_X9, ws_t4 141 rfl rfl, ⟨by decide, by decide, by decide +kernel⟩, by decide⟩, ws_t4 140 rfl rfl, ws_p 30 rfl rfl⟩
theorem ci_X9_addPerson : CVi mX9_addPerson 2 := ⟨⟨in_X9, ws_t4 145 rfl rfl, ⟨by decide, by decide, by decide +kernel⟩, by decide⟩, ws_t4 144 rfl rfl, ws_p 31 rfl rfl⟩
theorem ci_X9_addBeast : CVi mX9_addBeast 1 := ⟨⟨in_X9, ws_t4 149 rfl rfl, ⟨by decide, by decide, by decide +kernel⟩, by decide⟩, ws_t4 148 rfl rfl, ws_p 32 rfl rfl⟩
theorem ci_X9_addChange : CVi mX9_addChange 4 := ⟨⟨in_X9, ws_t4 153 rfl rfl, ⟨by decide, by decide, by decide +kernel⟩, by decide⟩, ws_t4 152 rfl rfl, ws_p 33 rfl rfl⟩
theorem ci_X9_begin : CVi mX9_begin 0 := ⟨⟨in_X9, ws_t4 157 rfl rfl, ⟨by decide, by decide, by decide +kernel⟩, by decide⟩, ws_t4 156 rfl rfl, ws_p 34 rfl rfl⟩
theorem ci_X9_write : CVi mX9_write 1 := ⟨⟨in_X9, ws_t5 7 rfl rfl, ⟨by decide, by decide, by decide +kernel⟩, by decide⟩, ws_t5 5 rfl rfl, ws_t5 6 rfl rfl⟩
theorem ci_X9_wipe : CVi mX9_wipe 0 := ⟨⟨in_X9, ws_t5 16 rfl rfl, ⟨by decide, by decide, by decide +kernel⟩, by decide⟩, ws_t5 14 rfl rfl, ws_t5 15 rfl rfl⟩
theorem ci_X9_isFigure : CSt mX9_isFigure 1 := ⟨⟨in_X9, ws_t5 43 rfl rfl, ⟨by decide, by decide, by decide +kernel⟩, by decide⟩, ws_t5 42 rfl rfl⟩
theorem ci_X9_isThere : CVi mX9_isThere 1 := ⟨⟨in_X9, ws_t5 53 rfl rfl, ⟨by decide, by decide, by decide +kernel⟩, by decide⟩, ws_t5 52 rfl rfl, ws_p 41 rfl rfl⟩
theorem ci_X9_reads : CVi mX9_reads 3 := ⟨⟨in_X9, ws_t5 40 rfl rfl, ⟨by decide, by decide, by decide +kernel⟩, by decide⟩, ws_t5 39 rfl rfl, ws_p 39 rfl rfl⟩
theorem ci_X9_readsComma : CVi mX9_readsComma 0 := ⟨⟨in_X9, ws_t5 49 rfl rfl, ⟨by decide, by decide, by decide +kernel⟩, by decide⟩, ws_t5 48 rfl rfl, ws_p 40 rfl rfl⟩
theorem ci_X9_readsTwo : CVi mX9_readsTwo 3 := ⟨⟨in_X9, ws_t5 36 rfl rfl, ⟨by decide, by decide, by decide +kernel⟩, by decide⟩, ws_t5 35 rfl rfl, ws_p 38 rfl rfl⟩
theorem ci_X9_readsChange : CVi mX9_readsChange 0 := ⟨⟨in_X9, ws_t5 57 rfl rfl, ⟨by decide, by decide, by decide +kernel⟩, by decide⟩, ws_t5 56 rfl rfl, ws_p 42 rfl rfl⟩
theorem ci_X9_readsNumbers : CVi mX9_readsNumbers 1 := ⟨⟨in_X9, ws_t5 32 rfl rfl, ⟨by decide, by decide, by decide +kernel⟩, by decide⟩, ws_t5 31 rfl rfl, ws_p 37 rfl rfl⟩
theorem ci_X9_readsItem : CVi mX9_readsItem 0 := ⟨⟨in_X9, ws_t5 28 rfl rfl, ⟨by decide, by decide, by decide +kernel⟩, by decide⟩, ws_t5 27 rfl rfl, ws_p 36 rfl rfl⟩
theorem ci_X9_beginToRead : CVi mX9_beginToRead 0 := ⟨⟨in_X9, ws_t5 24 rfl rfl, ⟨by decide, by decide, by decide +kernel⟩, by decide⟩, ws_t5 23 rfl rfl, ws_p 35 rfl rfl⟩
theorem ci_X9_fault : CVi mX9_fault 0 := ⟨⟨in_X9, ws_t5 20 rfl rfl, ⟨by decide, by decide, by decide +kernel⟩, by decide⟩, ws_t5 18 rfl rfl, ws_t5 19 rfl rfl⟩
theorem ci_X9_tell : CVi mX9_tell 1 := ⟨⟨in_X9, ws_t5 66 rfl rfl, ⟨by decide, by decide, by decide +kernel⟩, by decide⟩, ws_t5 65 rfl rfl, ws_p 43 rfl rfl⟩
theorem ci_X9_lay : CVi mX9_lay 0 := ⟨⟨in_X9, ws_t5 61 rfl rfl, ⟨by decide, by decide, by decide +kernel⟩, by decide⟩, ws_t5 59 rfl rfl, ws_t5 60 rfl rfl⟩
theorem ci_X9_isThing : CVi mX9_isThing 1 := ⟨⟨in_X9, ws_t5 74 rfl rfl, ⟨by decide, by decide, by decide +kernel⟩, by decide⟩, ws_t5 73 rfl rfl, ws_p 44 rfl rfl⟩
theorem ci_X9_isBeast : CVi mX9_isBeast 1 := ⟨⟨in_X9, ws_t5 109 rfl rfl, ⟨by decide, by decide, by decide +kernel⟩, by decide⟩, ws_t5 108 rfl rfl, ws_p 50 rfl rfl⟩
theorem ci_X9_isSet : CVi mX9_isSet 1 := ⟨⟨in_X9, ws_t5 117 rfl rfl, ⟨by decide, by decide, by decide +kernel⟩, by decide⟩, ws_t5 116 rfl rfl, ws_p 51 rfl rfl⟩
theorem ci_X9_strengthOf : CVi mX9_strengthOf 1 := ⟨⟨in_X9, ws_t5 121 rfl rfl, ⟨by decide, by decide, by decide +kernel⟩, by decide⟩, ws_t5 120 rfl rfl, ws_p 52 rfl rfl⟩
theorem ci_X9_followsOf : CVi mX9_followsOf 1 := ⟨⟨in_X9, ws_t5 89 rfl rfl, ⟨by decide, by decide, by decide +kernel⟩, by decide⟩, ws_t5 88 rfl rfl, ws_p 47 rfl rfl⟩
theorem ci_X9_goneIn : CVi mX9_goneIn 1 := ⟨⟨in_X9, ws_t5 85 rfl rfl, ⟨by decide, by decide, by decide +kernel⟩, by decide⟩, ws_t5 84 rfl rfl, ws_p 46 rfl rfl⟩
theorem ci_X9_thereIn : CVi mX9_thereIn 1 := ⟨⟨in_X9, ws_t5 81 rfl rfl, ⟨by decide, by decide, by decide +kernel⟩, by decide⟩, ws_t5 80 rfl rfl, ws_p 45 rfl rfl⟩
theorem ci_X9_lateSet : CVi mX9_lateSet 0 := ⟨⟨in_X9, ws_t5 101 rfl rfl, ⟨by decide, by decide, by decide +kernel⟩, by decide⟩, ws_t5 100 rfl rfl, ws_p 49 rfl rfl⟩
theorem ci_X9_foundIn : CVi mX9_foundIn 1 := ⟨⟨in_X9, ws_t5 97 rfl rfl, ⟨by decide, by decide, by decide +kernel⟩, by decide⟩, ws_t5 96 rfl rfl, ws_p 48 rfl rfl⟩
theorem ci_X9_missedBy : CVi mX9_missedBy 1 := ⟨⟨in_X9, ws_t5 137 rfl rfl, ⟨by decide, by decide, by decide +kernel⟩, by decide⟩, ws_t5 136 rfl rfl, ws_p 54 rfl rfl⟩
theorem ci_X9_missedIn : CVi mX9_missedIn 1 := ⟨⟨in_X9, ws_t5 133 rfl rfl, ⟨by decide, by decide, by decide +kernel⟩, by decide⟩, ws_t5 132 rfl rfl, ws_p 53 rfl rfl⟩
theorem ci_X9_costIn : CVi mX9_costIn 2 := ⟨⟨in_X9, ws_t5 185 rfl rfl, ⟨by decide, by decide, by decide +kernel⟩, by decide⟩, ws_t5 184 rfl rfl, ws_p 60 rfl rfl⟩
theorem ci_X9_thing : CVi mX9_thing 2 := ⟨⟨in_X9, ws_t5 70 rfl rfl, ⟨by decide, by decide, by decide +kernel⟩, by decide⟩, ws_t5 68 rfl rfl, ws_t5 69 rfl rfl⟩
theorem ci_X9_person : CVi mX9_person 2 := ⟨⟨in_X9, ws_t5 93 rfl rfl, ⟨by decide, by decide, by decide +kernel⟩, by decide⟩, ws_t5 91 rfl rfl, ws_t5 92 rfl rfl⟩
theorem ci_X9_beast : CVi mX9_beast 2 := ⟨⟨in_X9, ws_t5 105 rfl rfl, ⟨by decide, by decide, by decide +kernel⟩, by decide⟩, ws_t5 103 rfl rfl, ws_t5 104 rfl rfl⟩
theorem ci_X9_strength : CVi mX9_strength 1 := ⟨⟨in_X9, ws_t5 113 rfl rfl, ⟨by decide, by decide, by decide +kernel⟩, by decide⟩, ws_t5 111 rfl rfl, ws_t5 112 rfl rfl⟩
theorem ci_X9_follows : CVi mX9_follows 1 := ⟨⟨in_X9, ws_t5 125 rfl rfl, ⟨by decide, by decide, by decide +kernel⟩, by decide⟩, ws_t5 123 rfl rfl, ws_t5 124 rfl rfl⟩
theorem ci_X9_missed : CVi mX9_missed 0 := ⟨⟨in_X9, ws_t5 129 rfl rfl, ⟨by decide, by decide, by decide +kernel⟩, by decide⟩, ws_t5 127 rfl rfl, ws_t5 128 rfl rfl⟩
theorem ci_X9_copy : CVi mX9_copy 2 := ⟨⟨in_X9, ws_t5 149 rfl rfl, ⟨by decide, by decide, by decide +kernel⟩, by decide⟩, ws_t5 148 rfl rfl, ws_p 56 rfl rfl⟩
theorem ci_X9_keepPast : CVi mX9_keepPast 0 := ⟨⟨in_X9, ws_t5 145 rfl rfl, ⟨by decide, by decide, by decide +kernel⟩, by decide⟩, ws_t5 144 rfl rfl, ws_p 55 rfl rfl⟩
theorem ci_X9_bindIn : CVi mX9_bindIn 3 := ⟨⟨in_X9, ws_t5 153 rfl rfl, ⟨by decide, by decide, by decide +kernel⟩, by decide⟩, ws_t5 152 rfl rfl, ws_p 57 rfl rfl⟩
theorem ci_X9_bind : CVi mX9_bind 2 := ⟨⟨in_X9, ws_t5 141 rfl rfl, ⟨by decide, by decide, by decide +kernel⟩, by decide⟩, ws_t5 139 rfl rfl, ws_t5 140 rfl rfl⟩
theorem ci_X9_loosen : CVi mX9_loosen 1 := ⟨⟨in_X9, ws_t5 157 rfl rfl, ⟨by decide, by decide, by decide +kernel⟩, by decide⟩, ws_t5 155 rfl rfl, ws_t5 156 rfl rfl⟩
theorem ci_X9_lentIn : CVi mX9_lentIn 1 := ⟨⟨in_X9, ws_t5 173 rfl rfl, ⟨by decide, by decide, by decide +kernel⟩, by decide⟩, ws_t5 172 rfl rfl, ws_p 59 rfl rfl⟩
theorem ci_X9_dayIn : CVi mX9_dayIn 1 := ⟨⟨in_X9, ws_t5 169 rfl rfl, ⟨by decide, by decide, by decide +kernel⟩, by decide⟩, ws_t5 168 rfl rfl, ws_p 58 rfl rfl⟩
theorem ci_X9_days : CVi mX9_days 1 := ⟨⟨in_X9, ws_t5 164 rfl rfl, ⟨by decide, by decide, by decide +kernel⟩, by decide⟩, ws_t5 162 rfl rfl, ws_t5 163 rfl rfl⟩
theorem ci_X9_undo : CVi mX9_undo 0 := ⟨⟨in_X9, ws_t5 177 rfl rfl, ⟨by decide, by decide, by decide +kernel⟩, by decide⟩, ws_t5 175 rfl rfl, ws_t5 176 rfl rfl⟩
theorem ci_X9_cost : CVi mX9_cost 1 := ⟨⟨in_X9, ws_t5 181 rfl rfl, ⟨by decide, by decide, by decide +kernel⟩, by decide⟩, ws_t5 179 rfl rfl, ws_t5 180 rfl rfl⟩
theorem ci_X9_leastIn : CVi mX9_leastIn 2 := ⟨⟨in_X9, ws_t5 193 rfl rfl, ⟨by decide, by decide, by decide +kernel⟩, by decide⟩, ws_t5 192 rfl rfl, ws_p 61 rfl rfl⟩
theorem ci_X9_least : CVi mX9_least 2 := ⟨⟨in_X9, ws_t5 189 rfl rfl, ⟨by decide, by decide, by decide +kernel⟩, by decide⟩, ws_t5 187 rfl rfl, ws_t5 188 rfl rfl⟩
theorem ci_X9_lowest : CVi mX9_lowest 1 := ⟨⟨in_X9, ws_t5 218 rfl rfl, ⟨by decide, by decide, by decide +kernel⟩, by decide⟩, ws_t5 217 rfl rfl, ws_p 66 rfl rfl⟩
theorem ci_X9_canHold : CVi mX9_canHold 2 := ⟨⟨in_X9, ws_t5 214 rfl rfl, ⟨by decide, by decide, by decide +kernel⟩, by decide⟩, ws_t5 213 rfl rfl, ws_p 65 rfl rfl⟩
theorem ci_X9_unbound : CVi mX9_unbound 0 := ⟨⟨in_X9, ws_t5 206 rfl rfl, ⟨by decide, by decide, by decide +kernel⟩, by decide⟩, ws_t5 205 rfl rfl, ws_p 63 rfl rfl⟩
theorem ci_X9_layHolds : CVi mX9_layHolds 1 := ⟨⟨in_X9, ws_t5 210 rfl rfl, ⟨by decide, by decide, by decide +kernel⟩, by decide⟩, ws_t5 209 rfl rfl, ws_p 64 rfl rfl⟩
theorem ci_X9_usedByAll : CVi mX9_usedByAll 0 := ⟨⟨in_X9, ws_t5 202 rfl rfl, ⟨by decide, by decide, by decide +kernel⟩, by decide⟩, ws_t5 201 rfl rfl, ws_p 62 rfl rfl⟩
theorem ci_X9_ribbonOf : CVi mX9_ribbonOf 2 := ⟨⟨in_X9, ws_t5 222 rfl rfl, ⟨by decide, by decide, by decide +kernel⟩, by decide⟩, ws_t5 221 rfl rfl, ws_p 67 rfl rfl⟩
theorem ci_X9_all : CVi mX9_all 1 := ⟨⟨in_X9, ws_t5 197 rfl rfl, ⟨by decide, by decide, by decide +kernel⟩, by decide⟩, ws_t5 195 rfl rfl, ws_t5 196 rfl rfl⟩
theorem ci_X9_more : CVi mX9_more 1 := ⟨⟨in_X9, ws_t5 226 rfl rfl, ⟨by decide, by decide, by decide +kernel⟩, by decide⟩, ws_t5 224 rfl rfl, ws_t5 225 rfl rfl⟩
theorem ci_X9_worst : CVi mX9_worst 1 := ⟨⟨in_X9, ws_t5 231 rfl rfl, ⟨by decide, by decide, by decide +kernel⟩, by decide⟩, ws_t5 229 rfl rfl, ws_t5 230 rfl rfl⟩
theorem ci_X9_back : CVi mX9_back 1 := ⟨⟨in_X9, ws_t5 235 rfl rfl, ⟨by decide, by decide, by decide +kernel⟩, by decide⟩, ws_t5 233 rfl rfl, ws_t5 234 rfl rfl⟩
theorem ci_X9_whoMiss : CVi mX9_whoMiss 1 := ⟨⟨in_X9, ws_t6 4 rfl rfl, ⟨by decide, by decide, by decide +kernel⟩, by decide⟩, ws_t6 3 rfl rfl, ws_p 68 rfl rfl⟩
theorem ci_X9_missing : CVi mX9_missing 3 := ⟨⟨in_X9, ws_t5 239 rfl rfl, ⟨by decide, by decide, by decide +kernel⟩, by decide⟩, ws_t5 237 rfl rfl, ws_t5 238 rfl rfl⟩
theorem ci_X9_divisor : CSt mX9_divisor 2 := ⟨⟨in_X9, ws_t6 18 rfl rfl, ⟨by decide, by decide, by decide +kernel⟩, by decide⟩, ws_t6 17 rfl rfl⟩
theorem ci_X9_power : CSt mX9_power 2 := ⟨⟨in_X9, ws_t6 14 rfl rfl, ⟨by decide, by decide, by decide +kernel⟩, by decide⟩, ws_t6 13 rfl rfl⟩
theorem ci_X9_trial : CVi mX9_trial 4 := ⟨⟨in_X9, ws_t6 8 rfl rfl, ⟨by decide, by decide, by decide +kernel⟩, by decide⟩, ws_t6 6 rfl rfl, ws_t6 7 rfl rfl⟩
theorem ci_X9_losesBy : CVi mX9_losesBy 2 := ⟨⟨in_X9, ws_t6 30 rfl rfl, ⟨by decide, by decide, by decide +kernel⟩, by decide⟩, ws_t6 29 rfl rfl, ws_p 70 rfl rfl⟩
theorem ci_X9_rests : CVi mX9_rests 2 := ⟨⟨in_X9, ws_t6 26 rfl rfl, ⟨by decide, by decide, by decide +kernel⟩, by decide⟩, ws_t6 25 rfl rfl, ws_p 69 rfl rfl⟩
theorem ci_X9_pledge : CVi mX9_pledge 1 := ⟨⟨in_X9, ws_t6 22 rfl rfl, ⟨by decide, by decide, by decide +kernel⟩, by decide⟩, ws_t6 20 rfl rfl, ws_t6 21 rfl rfl⟩
theorem ci_X9_layChain : CVi mX9_layChain 2 := ⟨⟨in_X9, ws_t6 40 rfl rfl, ⟨by decide, by decide, by decide +kernel⟩, by decide⟩, ws_t6 39 rfl rfl, ws_p 71 rfl rfl⟩
theorem ci_X9_gains : CVi mX9_gains 1 := ⟨⟨in_X9, ws_t6 44 rfl rfl, ⟨by decide, by decide, by decide +kernel⟩, by decide⟩, ws_t6 43 rfl rfl, ws_p 72 rfl rfl⟩
theorem ci_X9_gain : CVi mX9_gain 1 := ⟨⟨in_X9, ws_t6 34 rfl rfl, ⟨by decide, by decide, by decide +kernel⟩, by decide⟩, ws_t6 32 rfl rfl, ws_t6 33 rfl rfl⟩
theorem ci_X9_ofChain : CVi mX9_ofChain 2 := ⟨⟨in_X9, ws_t6 48 rfl rfl, ⟨by decide, by decide, by decide +kernel⟩, by decide⟩, ws_t6 47 rfl rfl, ws_p 73 rfl rfl⟩
theorem ci_X9_row : CVi mX9_row 3 := ⟨⟨in_X9, ws_t6 52 rfl rfl, ⟨by decide, by decide, by decide +kernel⟩, by decide⟩, ws_t6 50 rfl rfl, ws_t6 51 rfl rfl⟩
theorem ci_X9_keep : CVi mX9_keep 0 := ⟨⟨in_X9, ws_t6 60 rfl rfl, ⟨by decide, by decide, by decide +kernel⟩, by decide⟩, ws_t6 58 rfl rfl, ws_t6 59 rfl rfl⟩
theorem ci_X9_restore : CVi mX9_restore 0 := ⟨⟨in_X9, ws_t6 64 rfl rfl, ⟨by decide, by decide, by decide +kernel⟩, by decide⟩, ws_t6 62 rfl rfl, ws_t6 63 rfl rfl⟩
theorem ci_X9_count : CVi mX9_count 1 := ⟨⟨in_X9, ws_t6 68 rfl rfl, ⟨by decide, by decide, by decide +kernel⟩, by decide⟩, ws_t6 66 rfl rfl, ws_t6 67 rfl rfl⟩
theorem ci_J6_bitCount_0f7a4 : CSt mJ6_bitCount_0f7a4 1 := ⟨⟨in_J6, ws_t2 153 rfl rfl, ⟨by decide, by decide, by decide +kernel⟩, by decide⟩, ws_t2 152 rfl rfl⟩
theorem ci_J0_length_8abf5 : CVi mJ0_length_8abf5 0 := ⟨⟨in_J0, ws_t2 26 rfl rfl, ⟨by decide, by decide, by decide +kernel⟩, by decide⟩, ws_t2 24 rfl rfl, ws_t2 25 rfl rfl⟩
theorem ci_J0_charAt_5068e : CVi mJ0_charAt_5068e 1 := ⟨⟨in_J0, ws_t2 36 rfl rfl, ⟨by decide, by decide, by decide +kernel⟩, by decide⟩, ws_t2 34 rfl rfl, ws_t2 35 rfl rfl⟩
theorem ci_J0_coder_7d493 : CVi mJ0_coder_7d493 0 := ⟨⟨in_J0, ws_t2 30 rfl rfl, ⟨by decide, by decide, by decide +kernel⟩, by decide⟩, ws_t2 28 rfl rfl, ws_t2 29 rfl rfl⟩
theorem ci_J0_isLatin1_aae02 : CVi mJ0_isLatin1_aae02 0 := ⟨⟨in_J0, ws_t2 40 rfl rfl, ⟨by decide, by decide, by decide +kernel⟩, by decide⟩, ws_t2 38 rfl rfl, ws_t2 39 rfl rfl⟩
theorem ci_J0_checkIndex_df160 : CSt mJ0_checkIndex_df160 2 := ⟨⟨in_J0, ws_t2 46 rfl rfl, ⟨by decide, by decide, by decide +kernel⟩, by decide⟩, ws_t2 45 rfl rfl⟩
theorem ci_J1_charAt_3b067 : CSt mJ1_charAt_3b067 2 := ⟨⟨in_J1, ws_t2 43 rfl rfl, ⟨by decide, by decide, by decide +kernel⟩, by decide⟩, ws_t2 42 rfl rfl⟩
theorem ci_J3_checkIndex_8e157 : CSt mJ3_checkIndex_8e157 3 := ⟨⟨in_J3, ws_t2 51 rfl rfl, ⟨by decide, by decide, by decide +kernel⟩, by decide⟩, ws_t2 50 rfl rfl⟩
def RL : String := "RibbonOfLacksLaw"
theorem lk_X0_5 : Cond.methodLink RX0 5 Lib.objectInit ∈ WS := ws_t2 7 rfl rfl
theorem lk_X0_30 : Cond.methodLink RX0 30 yX0_extend ∈ WS := ws_t4 63 rfl rfl
theorem lk_X0_34 : Cond.methodLink RX0 34 yX0_isGain ∈ WS := ws_t4 67 rfl rfl
theorem lk_X0_38 : Cond.methodLink RX0 38 yX7_givenBy ∈ WS := ws_t4 75 rfl rfl
theorem lk_X0_42 : Cond.methodLink RX0 42 yX7_takenBy ∈ WS := ws_t4 79 rfl rfl
theorem lk_X0_45 : Cond.methodLink RX0 45 yX0_exchangeAt ∈ WS := ws_t4 71 rfl rfl
theorem lk_X0_48 : Cond.methodLink RX0 48 yX7_givenMuchBy ∈ WS := ws_t4 83 rfl rfl
theorem lk_X0_51 : Cond.methodLink RX0 51 yX7_takenMuchBy ∈ WS := ws_t4 87 rfl rfl
theorem lk_X0_54 : (RX0, 54, yX8_commonDivisor, "RibbonOfLacks") ∈ NWL := List.mem_of_getElem? (i := 0) rfl
theorem lk_X1_1 : Cond.methodLink RX1 1 Lib.objectInit ∈ WS := ws_t1 30 rfl rfl
theorem lk_X2_1 : Cond.methodLink RX2 1 Lib.objectInit ∈ WS := ws_t1 181 rfl rfl
theorem lk_X2_13 : Cond.methodLink RX2 13 Lib.Math.max.name ∈ WS := ws_t1 182 rfl rfl
theorem lk_X2_25 : (RX2, 25, yX5_init, "RibbonOfLacks") ∈ NWL := List.mem_of_getElem? (i := 1) rfl
theorem lk_X2_26 : Cond.methodLink RX2 26 yX2_forgetOldest ∈ WS := ws_t3 126 rfl rfl
theorem lk_X2_29 : Cond.methodLink RX2 29 yX5_copyFrom ∈ WS := ws_t3 130 rfl rfl
theorem lk_X3_5 : Cond.methodLink RX3 5 Lib.objectInit ∈ WS := ws_t1 200 rfl rfl
theorem lk_X3_52 : Cond.methodLink RX3 52 yX6_thereBesides ∈ WS := ws_t3 188 rfl rfl
theorem lk_X3_59 : Cond.methodLink RX3 59 yX6_strengthOf ∈ WS := ws_t3 189 rfl rfl
theorem lk_X3_62 : Cond.methodLink RX3 62 yX6_costOf ∈ WS := ws_t3 190 rfl rfl
theorem lk_X3_66 : Cond.methodLink RX3 66 yX3_isBetter ∈ WS := ws_t3 191 rfl rfl
theorem lk_X3_70 : Cond.methodLink RX3 70 yJ6_bitCount_0f7a4 ∈ WS := ws_t3 194 rfl rfl
theorem lk_X3_75 : Cond.methodLink RX3 75 yX3_listLoose ∈ WS := ws_t3 203 rfl rfl
theorem lk_X3_79 : Cond.methodLink RX3 79 yX5_gone ∈ WS := ws_t3 209 rfl rfl
theorem lk_X3_85 : Cond.methodLink RX3 85 yX3_whoIsHeldBy ∈ WS := ws_t3 210 rfl rfl
theorem lk_X3_88 : Cond.methodLink RX3 88 yX3_shareOut ∈ WS := ws_t3 230 rfl rfl
theorem lk_X3_95 : Cond.methodLink RX3 95 yX5_isBound ∈ WS := ws_t3 207 rfl rfl
theorem lk_X3_99 : Cond.methodLink RX3 99 yX7_pullOfBeast ∈ WS := ws_t3 208 rfl rfl
theorem lk_X3_102 : Cond.methodLink RX3 102 yX3_canHoldFrom ∈ WS := ws_t3 214 rfl rfl
theorem lk_X3_106 : Cond.methodLink RX3 106 yX3_smallerHoldsFrom ∈ WS := ws_t3 218 rfl rfl
theorem lk_X3_109 : Cond.methodLink RX3 109 yX3_lowestRibbon ∈ WS := ws_t3 226 rfl rfl
theorem lk_X3_112 : Cond.methodLink RX3 112 yX3_isHeldFrom ∈ WS := ws_t3 222 rfl rfl
theorem lk_X3_115 : Cond.methodLink RX3 115 yX3_mostOutOf ∈ WS := ws_t4 6 rfl rfl
theorem lk_X3_118 : Cond.methodLink RX3 118 yX3_mostKnown ∈ WS := ws_t4 10 rfl rfl
theorem lk_X3_121 : Cond.methodLink RX3 121 Lib.Math.min.name ∈ WS := ws_t4 14 rfl rfl
theorem lk_X3_126 : Cond.methodLink RX3 126 Lib.Math.max.name ∈ WS := ws_t4 15 rfl rfl
theorem lk_X4_3 : Cond.methodLink RX4 3 Lib.objectInit ∈ WS := ws_t1 44 rfl rfl
theorem lk_X4_23 : Cond.methodLink RX4 23 yX7_clear ∈ WS := ws_t2 83 rfl rfl
theorem lk_X4_30 : Cond.methodLink RX4 30 yX1_size ∈ WS := ws_t2 87 rfl rfl
theorem lk_X4_34 : Cond.methodLink RX4 34 yX4_readItem ∈ WS := ws_t2 91 rfl rfl
theorem lk_X4_38 : Cond.methodLink RX4 38 yX1_signAt ∈ WS := ws_t2 95 rfl rfl
theorem lk_X4_42 : Cond.methodLink RX4 42 yX4_numbersBehind ∈ WS := ws_t2 99 rfl rfl
theorem lk_X4_45 : Cond.methodLink RX4 45 yX4_readNumber ∈ WS := ws_t2 102 rfl rfl
theorem lk_X4_48 : Cond.methodLink RX4 48 yX7_take ∈ WS := ws_t2 110 rfl rfl
theorem lk_X4_52 : Cond.methodLink RX4 52 yX4_figureAt ∈ WS := ws_t2 106 rfl rfl
theorem lk_X5_5 : Cond.methodLink RX5 5 Lib.objectInit ∈ WS := ws_t1 161 rfl rfl
theorem lk_X5_27 : Cond.methodLink RX5 27 yX5_ribbonOf ∈ WS := ws_t3 80 rfl rfl
theorem lk_X5_31 : Cond.methodLink RX5 31 yX5_tie ∈ WS := ws_t3 147 rfl rfl
theorem lk_X5_38 : Cond.methodLink RX5 38 yX6_strengthOf ∈ WS := ws_t3 156 rfl rfl
theorem lk_X5_43 : Cond.methodLink RX5 43 yX7_pullOfBeast ∈ WS := ws_t3 157 rfl rfl
theorem lk_X5_46 : Cond.methodLink RX5 46 yX5_untie ∈ WS := ws_t3 158 rfl rfl
theorem lk_X6_3 : Cond.methodLink RX6 3 Lib.objectInit ∈ WS := ws_t1 137 rfl rfl
theorem lk_X6_31 : Cond.methodLink RX6 31 Lib.Math.min.name ∈ WS := ws_t2 145 rfl rfl
theorem lk_X6_37 : Cond.methodLink RX6 37 yX6_sumOfStrength ∈ WS := ws_t2 148 rfl rfl
theorem lk_X6_41 : Cond.methodLink RX6 41 yJ6_bitCount_0f7a4 ∈ WS := ws_t2 151 rfl rfl
theorem lk_X6_47 : Cond.methodLink RX6 47 yX6_spread ∈ WS := ws_t2 164 rfl rfl
theorem lk_X6_50 : Cond.methodLink RX6 50 yX6_followersOf ∈ WS := ws_t2 175 rfl rfl
theorem lk_X6_53 : Cond.methodLink RX6 53 yX6_thoseWhoMiss ∈ WS := ws_t2 179 rfl rfl
theorem lk_X6_56 : Cond.methodLink RX6 56 yX6_sumOfWeights ∈ WS := ws_t2 186 rfl rfl
theorem lk_X6_62 : Cond.methodLink RX6 62 yX7_strengthOfThing ∈ WS := ws_t2 157 rfl rfl
theorem lk_X6_68 : Cond.methodLink RX6 68 yX7_neededOf ∈ WS := ws_t2 167 rfl rfl
theorem lk_X6_71 : Cond.methodLink RX6 71 yX7_neederOf ∈ WS := ws_t2 171 rfl rfl
theorem lk_X6_77 : Cond.methodLink RX6 77 yX7_thingOfPerson ∈ WS := ws_t2 182 rfl rfl
theorem lk_X6_80 : Cond.methodLink RX6 80 yX7_weightOfPerson ∈ WS := ws_t2 189 rfl rfl
theorem lk_X6_83 : Cond.methodLink RX6 83 yX6_lossOf ∈ WS := ws_t3 179 rfl rfl
theorem lk_X7_3 : Cond.methodLink RX7 3 Lib.objectInit ∈ WS := ws_t1 60 rfl rfl
theorem lk_X7_70 : Cond.methodLink RX7 70 yX7_takeThing ∈ WS := ws_t2 114 rfl rfl
theorem lk_X7_74 : Cond.methodLink RX7 74 yX7_takeNeed ∈ WS := ws_t2 118 rfl rfl
theorem lk_X7_77 : Cond.methodLink RX7 77 yX7_takePerson ∈ WS := ws_t2 126 rfl rfl
theorem lk_X7_80 : Cond.methodLink RX7 80 yX7_takeBeast ∈ WS := ws_t2 133 rfl rfl
theorem lk_X7_84 : Cond.methodLink RX7 84 yX7_takeExchange ∈ WS := ws_t2 137 rfl rfl
theorem lk_X7_88 : Cond.methodLink RX7 88 yX7_areTwoThings ∈ WS := ws_t2 122 rfl rfl
theorem lk_X7_91 : Cond.methodLink RX7 91 yX7_isOneFigure ∈ WS := ws_t2 130 rfl rfl
theorem lk_X7_94 : Cond.methodLink RX7 94 yX7_entry ∈ WS := ws_t2 161 rfl rfl
theorem lk_X8_1 : Cond.methodLink RX8 1 Lib.objectInit ∈ WS := ws_t1 22 rfl rfl
theorem lk_X8_9 : (RX8, 9, yX1_init, "RibbonOfLacks") ∈ NWL := List.mem_of_getElem? (i := 2) rfl
theorem lk_X8_18 : Cond.methodLink RX8 18 yX4_init ∈ WS := ws_t1 41 rfl rfl
theorem lk_X8_27 : (RX8, 27, yX7_init, "RibbonOfLacks") ∈ NWL := List.mem_of_getElem? (i := 3) rfl
theorem lk_X8_37 : (RX8, 37, yX6_init, "RibbonOfLacks") ∈ NWL := List.mem_of_getElem? (i := 4) rfl
theorem lk_X8_44 : (RX8, 44, yX5_init, "RibbonOfLacks") ∈ NWL := List.mem_of_getElem? (i := 5) rfl
theorem lk_X8_54 : Cond.methodLink RX8 54 yX2_init ∈ WS := ws_t1 178 rfl rfl
theorem lk_X8_66 : Cond.methodLink RX8 66 yX3_init ∈ WS := ws_t1 197 rfl rfl
theorem lk_X8_75 : (RX8, 75, yX0_init, "RibbonOfLacks") ∈ NWL := List.mem_of_getElem? (i := 6) rfl
theorem lk_X8_82 : Cond.methodLink RX8 82 yJ0_length_8abf5 ∈ WS := ws_t2 23 rfl rfl
theorem lk_X8_88 : Cond.methodLink RX8 88 yJ0_charAt_5068e ∈ WS := ws_t2 33 rfl rfl
theorem lk_X8_92 : Cond.methodLink RX8 92 yX1_append ∈ WS := ws_t2 71 rfl rfl
theorem lk_X8_96 : Cond.methodLink RX8 96 yX8_layTheText ∈ WS := ws_t2 75 rfl rfl
theorem lk_X8_100 : Cond.methodLink RX8 100 yX1_clear ∈ WS := ws_t2 201 rfl rfl
theorem lk_X8_103 : Cond.methodLink RX8 103 yX1_size ∈ WS := ws_t3 4 rfl rfl
theorem lk_X8_106 : Cond.methodLink RX8 106 yX4_readInto ∈ WS := ws_t2 79 rfl rfl
theorem lk_X8_117 : Cond.methodLink RX8 117 yX6_fillFrom ∈ WS := ws_t2 141 rfl rfl
theorem lk_X8_121 : Cond.methodLink RX8 121 yX5_clear ∈ WS := ws_t2 193 rfl rfl
theorem lk_X8_122 : Cond.methodLink RX8 122 yX2_clear ∈ WS := ws_t2 197 rfl rfl
theorem lk_X8_123 : Cond.methodLink RX8 123 yX8_isThing ∈ WS := ws_t3 21 rfl rfl
theorem lk_X8_126 : Cond.methodLink RX8 126 yX7_strengthOfThing ∈ WS := ws_t3 25 rfl rfl
theorem lk_X8_130 : Cond.methodLink RX8 130 yX7_kindOfThing ∈ WS := ws_t3 26 rfl rfl
theorem lk_X8_133 : Cond.methodLink RX8 133 yX8_isThere ∈ WS := ws_t3 30 rfl rfl
theorem lk_X8_136 : Cond.methodLink RX8 136 yX5_beastWith ∈ WS := ws_t3 42 rfl rfl
theorem lk_X8_142 : Cond.methodLink RX8 142 yX7_thingOfPerson ∈ WS := ws_t3 50 rfl rfl
theorem lk_X8_145 : Cond.methodLink RX8 145 yX7_weightOfPerson ∈ WS := ws_t3 51 rfl rfl
theorem lk_X8_151 : Cond.methodLink RX8 151 yX5_found ∈ WS := ws_t3 52 rfl rfl
theorem lk_X8_154 : Cond.methodLink RX8 154 yX6_missersOf ∈ WS := ws_t3 56 rfl rfl
theorem lk_X8_157 : Cond.methodLink RX8 157 yX8_isBeast ∈ WS := ws_t3 64 rfl rfl
theorem lk_X8_160 : Cond.methodLink RX8 160 yX7_pullOfBeast ∈ WS := ws_t3 68 rfl rfl
theorem lk_X8_163 : Cond.methodLink RX8 163 yX5_ribbonOf ∈ WS := ws_t3 72 rfl rfl
theorem lk_X8_166 : Cond.methodLink RX8 166 yX5_isBound ∈ WS := ws_t3 76 rfl rfl
theorem lk_X8_169 : Cond.methodLink RX8 169 yX5_ageOf ∈ WS := ws_t3 81 rfl rfl
theorem lk_X8_172 : Cond.methodLink RX8 172 yX5_escapesOf ∈ WS := ws_t3 85 rfl rfl
theorem lk_X8_175 : Cond.methodLink RX8 175 yX6_isSet ∈ WS := ws_t3 93 rfl rfl
theorem lk_X8_178 : Cond.methodLink RX8 178 yX6_strengthOf ∈ WS := ws_t3 97 rfl rfl
theorem lk_X8_181 : Cond.methodLink RX8 181 yX6_followersOf ∈ WS := ws_t3 105 rfl rfl
theorem lk_X8_184 : Cond.methodLink RX8 184 yX8_missedIn ∈ WS := ws_t3 110 rfl rfl
theorem lk_X8_188 : Cond.methodLink RX8 188 yX5_gone ∈ WS := ws_t3 34 rfl rfl
theorem lk_X8_191 : Cond.methodLink RX8 191 yX6_thereBesides ∈ WS := ws_t3 38 rfl rfl
theorem lk_X8_194 : Cond.methodLink RX8 194 yX2_push ∈ WS := ws_t3 122 rfl rfl
theorem lk_X8_198 : Cond.methodLink RX8 198 yX5_tie ∈ WS := ws_t3 134 rfl rfl
theorem lk_X8_202 : Cond.methodLink RX8 202 yJ6_bitCount_0f7a4 ∈ WS := ws_t3 142 rfl rfl
theorem lk_X8_207 : Cond.methodLink RX8 207 yX5_untie ∈ WS := ws_t3 143 rfl rfl
theorem lk_X8_213 : Cond.methodLink RX8 213 yX5_passDay ∈ WS := ws_t3 152 rfl rfl
theorem lk_X8_217 : Cond.methodLink RX8 217 yX2_popInto ∈ WS := ws_t3 163 rfl rfl
theorem lk_X8_221 : Cond.methodLink RX8 221 yX2_size ∈ WS := ws_t3 167 rfl rfl
theorem lk_X8_222 : Cond.methodLink RX8 222 yX6_costOf ∈ WS := ws_t3 175 rfl rfl
theorem lk_X8_226 : Cond.methodLink RX8 226 yX3_findLeast ∈ WS := ws_t3 184 rfl rfl
theorem lk_X8_236 : Cond.methodLink RX8 236 yX3_findAll ∈ WS := ws_t3 199 rfl rfl
theorem lk_X8_246 : Cond.methodLink RX8 246 yX3_ribbonInAll ∈ WS := ws_t3 234 rfl rfl
theorem lk_X8_249 : Cond.methodLink RX8 249 yX3_mostBound ∈ WS := ws_t4 2 rfl rfl
theorem kc_X8_254 : Cond.constantLong RX8 254 (Int64.ofInt (-1)) ∈ WS := ws_t4 32 rfl rfl
theorem lk_X8_256 : Cond.methodLink RX8 256 yX8_power ∈ WS := ws_t4 33 rfl rfl
theorem kc_X8_260 : Cond.constantLong RX8 260 (Int64.ofInt (-4)) ∈ WS := ws_t4 36 rfl rfl
theorem lk_X8_262 : Cond.methodLink RX8 262 yX8_commonDivisor ∈ WS := ws_t4 37 rfl rfl
theorem lk_X8_266 : Cond.methodLink RX8 266 yX8_pledgeRests ∈ WS := ws_t4 47 rfl rfl
theorem lk_X8_269 : Cond.methodLink RX8 269 yX8_pledgeLoss ∈ WS := ws_t4 51 rfl rfl
theorem lk_X8_272 : Cond.methodLink RX8 272 yX0_find ∈ WS := ws_t4 59 rfl rfl
theorem lk_X8_276 : Cond.methodLink RX8 276 yX0_below ∈ WS := ws_t4 91 rfl rfl
theorem lk_X8_279 : Cond.methodLink RX8 279 yX0_above ∈ WS := ws_t4 96 rfl rfl
theorem lk_X8_284 : Cond.methodLink RX8 284 yX0_exchangeAt ∈ WS := ws_t4 100 rfl rfl
theorem lk_X8_287 : Cond.methodLink RX8 287 yX5_copyFrom ∈ WS := ws_t4 105 rfl rfl
theorem lk_X8_290 : Cond.methodLink RX8 290 yX8_draw ∈ WS := ws_t4 106 rfl rfl
theorem lk_X8_293 : Cond.methodLink RX8 293 yX8_actByDraw ∈ WS := ws_t4 112 rfl rfl
theorem lk_X8_303 : Cond.methodLink RX8 303 yX6_lossOf ∈ WS := ws_t3 114 rfl rfl
theorem kc_X8_306 : Cond.constantLong RX8 306 (Int64.ofInt (7919)) ∈ WS := ws_t4 109 rfl rfl
theorem kc_X8_308 : Cond.constantLong RX8 308 (Int64.ofInt (6151)) ∈ WS := ws_t4 110 rfl rfl
theorem kc_X8_310 : Cond.constantLong RX8 310 (Int64.ofInt (65521)) ∈ WS := ws_t4 111 rfl rfl
theorem lk_X8_312 : Cond.methodLink RX8 312 Lib.MathLoose.max_long.x ∈ WS := ws_t4 40 rfl rfl
theorem lk_X9_1 : Cond.methodLink RX9 1 Lib.objectInit ∈ WS := ws_t4 133 rfl rfl
theorem lk_X9_53 : Cond.methodLink RX9 53 yX9_addThing ∈ WS := ws_t4 134 rfl rfl
theorem lk_X9_57 : Cond.methodLink RX9 57 yX9_addNeed ∈ WS := ws_t4 138 rfl rfl
theorem lk_X9_60 : Cond.methodLink RX9 60 yX9_addPerson ∈ WS := ws_t4 142 rfl rfl
theorem lk_X9_63 : Cond.methodLink RX9 63 yX9_addBeast ∈ WS := ws_t4 146 rfl rfl
theorem lk_X9_67 : Cond.methodLink RX9 67 yX9_addChange ∈ WS := ws_t4 150 rfl rfl
theorem lk_X9_71 : Cond.methodLink RX9 71 yX9_begin ∈ WS := ws_t4 154 rfl rfl
theorem kc_X9_96 : Cond.constantLong RX9 96 (Int64.ofInt (32)) ∈ WS := ws_t5 8 rfl rfl
theorem kc_X9_98 : Cond.constantLong RX9 98 (Int64.ofInt (126)) ∈ WS := ws_t5 9 rfl rfl
theorem lk_X9_100 : Cond.methodLink RX9 100 yX9_in ∈ WS := ws_t5 10 rfl rfl
theorem kc_X9_107 : Cond.constantLong RX9 107 (Int64.ofInt (48)) ∈ WS := ws_t5 44 rfl rfl
theorem kc_X9_109 : Cond.constantLong RX9 109 (Int64.ofInt (57)) ∈ WS := ws_t5 45 rfl rfl
theorem lk_X9_114 : Cond.methodLink RX9 114 yX9_isFigure ∈ WS := ws_t5 41 rfl rfl
theorem lk_X9_118 : Cond.methodLink RX9 118 yX9_isThere ∈ WS := ws_t5 50 rfl rfl
theorem lk_X9_121 : Cond.methodLink RX9 121 yX9_reads ∈ WS := ws_t5 37 rfl rfl
theorem lk_X9_125 : Cond.methodLink RX9 125 yX9_readsComma ∈ WS := ws_t5 46 rfl rfl
theorem lk_X9_132 : Cond.methodLink RX9 132 yX9_readsTwo ∈ WS := ws_t5 33 rfl rfl
theorem lk_X9_147 : Cond.methodLink RX9 147 yX9_readsChange ∈ WS := ws_t5 54 rfl rfl
theorem lk_X9_150 : Cond.methodLink RX9 150 yX9_readsNumbers ∈ WS := ws_t5 29 rfl rfl
theorem lk_X9_153 : Cond.methodLink RX9 153 yX9_beginToRead ∈ WS := ws_t5 21 rfl rfl
theorem lk_X9_156 : Cond.methodLink RX9 156 yX9_readsItem ∈ WS := ws_t5 25 rfl rfl
theorem lk_X9_160 : Cond.methodLink RX9 160 yX9_fault ∈ WS := ws_t5 62 rfl rfl
theorem lk_X9_163 : Cond.methodLink RX9 163 yX9_tell ∈ WS := ws_t5 63 rfl rfl
theorem lk_X9_166 : Cond.methodLink RX9 166 yX9_has ∈ WS := ws_t5 75 rfl rfl
theorem lk_X9_170 : Cond.methodLink RX9 170 yX9_goneIn ∈ WS := ws_t5 82 rfl rfl
theorem lk_X9_174 : Cond.methodLink RX9 174 yX9_followsOf ∈ WS := ws_t5 86 rfl rfl
theorem lk_X9_177 : Cond.methodLink RX9 177 yX9_lateSet ∈ WS := ws_t5 98 rfl rfl
theorem lk_X9_180 : Cond.methodLink RX9 180 yX9_foundIn ∈ WS := ws_t5 94 rfl rfl
theorem lk_X9_183 : Cond.methodLink RX9 183 yX9_missedBy ∈ WS := ws_t5 134 rfl rfl
theorem lk_X9_186 : Cond.methodLink RX9 186 yX9_isThing ∈ WS := ws_t5 71 rfl rfl
theorem lk_X9_189 : Cond.methodLink RX9 189 yX9_thereIn ∈ WS := ws_t5 78 rfl rfl
theorem lk_X9_192 : Cond.methodLink RX9 192 yX9_isBeast ∈ WS := ws_t5 106 rfl rfl
theorem lk_X9_195 : Cond.methodLink RX9 195 yX9_isSet ∈ WS := ws_t5 114 rfl rfl
theorem lk_X9_198 : Cond.methodLink RX9 198 yX9_strengthOf ∈ WS := ws_t5 118 rfl rfl
theorem lk_X9_201 : Cond.methodLink RX9 201 yX9_missedIn ∈ WS := ws_t5 130 rfl rfl
theorem lk_X9_204 : Cond.methodLink RX9 204 yX9_copy ∈ WS := ws_t5 146 rfl rfl
theorem lk_X9_207 : Cond.methodLink RX9 207 yX9_keepPast ∈ WS := ws_t5 142 rfl rfl
theorem lk_X9_210 : Cond.methodLink RX9 210 yX9_bindIn ∈ WS := ws_t5 150 rfl rfl
theorem lk_X9_214 : Cond.methodLink RX9 214 yX9_bits ∈ WS := ws_t5 158 rfl rfl
theorem lk_X9_217 : Cond.methodLink RX9 217 yX9_lentIn ∈ WS := ws_t5 170 rfl rfl
theorem kc_X9_220 : Cond.constantLong RX9 220 (Int64.ofInt (40)) ∈ WS := ws_t5 165 rfl rfl
theorem lk_X9_222 : Cond.methodLink RX9 222 yX9_dayIn ∈ WS := ws_t5 166 rfl rfl
theorem lk_X9_225 : Cond.methodLink RX9 225 yX9_costIn ∈ WS := ws_t5 182 rfl rfl
theorem lk_X9_229 : Cond.methodLink RX9 229 yX9_leastIn ∈ WS := ws_t5 190 rfl rfl
theorem lk_X9_232 : Cond.methodLink RX9 232 yX9_lowest ∈ WS := ws_t5 215 rfl rfl
theorem lk_X9_235 : Cond.methodLink RX9 235 yX9_canHold ∈ WS := ws_t5 211 rfl rfl
theorem lk_X9_238 : Cond.methodLink RX9 238 yX9_unbound ∈ WS := ws_t5 203 rfl rfl
theorem lk_X9_241 : Cond.methodLink RX9 241 yX9_layHolds ∈ WS := ws_t5 207 rfl rfl
theorem kc_X9_244 : Cond.constantLong RX9 244 (Int64.ofInt (-2)) ∈ WS := ws_t5 198 rfl rfl
theorem lk_X9_246 : Cond.methodLink RX9 246 yX9_usedByAll ∈ WS := ws_t5 199 rfl rfl
theorem lk_X9_249 : Cond.methodLink RX9 249 yX9_ribbonOf ∈ WS := ws_t5 219 rfl rfl
theorem kc_X9_252 : Cond.constantLong RX9 252 (Int64.ofInt (90)) ∈ WS := ws_t5 227 rfl rfl
theorem kc_X9_254 : Cond.constantLong RX9 254 (Int64.ofInt (2)) ∈ WS := ws_t6 0 rfl rfl
theorem lk_X9_256 : Cond.methodLink RX9 256 yX9_whoMiss ∈ WS := ws_t6 1 rfl rfl
theorem kc_X9_259 : Cond.constantLong RX9 259 (Int64.ofInt (10)) ∈ WS := ws_t6 9 rfl rfl
theorem kc_X9_261 : Cond.constantLong RX9 261 (Int64.ofInt (6)) ∈ WS := ws_t6 10 rfl rfl
theorem kc_X9_263 : Cond.constantLong RX9 263 (Int64.ofInt (-1)) ∈ WS := ws_t6 11 rfl rfl
theorem lk_X9_265 : Cond.methodLink RX9 265 yX9_power ∈ WS := ws_t6 12 rfl rfl
theorem kc_X9_269 : Cond.constantLong RX9 269 (Int64.ofInt (-4)) ∈ WS := ws_t6 15 rfl rfl
theorem lk_X9_271 : Cond.methodLink RX9 271 yX9_divisor ∈ WS := ws_t6 16 rfl rfl
theorem lk_X9_275 : Cond.methodLink RX9 275 yX9_losesBy ∈ WS := ws_t6 27 rfl rfl
theorem lk_X9_278 : Cond.methodLink RX9 278 yX9_rests ∈ WS := ws_t6 23 rfl rfl
theorem kc_X9_281 : Cond.constantLong RX9 281 (Int64.ofInt (-3)) ∈ WS := ws_t6 35 rfl rfl
theorem kc_X9_283 : Cond.constantLong RX9 283 (Int64.ofInt (5)) ∈ WS := ws_t6 36 rfl rfl
theorem lk_X9_285 : Cond.methodLink RX9 285 yX9_layChain ∈ WS := ws_t6 37 rfl rfl
theorem lk_X9_288 : Cond.methodLink RX9 288 yX9_gains ∈ WS := ws_t6 41 rfl rfl
theorem lk_X9_291 : Cond.methodLink RX9 291 yX9_ofChain ∈ WS := ws_t6 45 rfl rfl
theorem kc_X9_294 : Cond.constantLong RX9 294 (Int64.ofInt (9999)) ∈ WS := ws_t6 53 rfl rfl
theorem kc_X9_296 : Cond.constantLong RX9 296 (Int64.ofInt (7919)) ∈ WS := ws_t6 54 rfl rfl
theorem kc_X9_298 : Cond.constantLong RX9 298 (Int64.ofInt (6151)) ∈ WS := ws_t6 55 rfl rfl
theorem kc_X9_300 : Cond.constantLong RX9 300 (Int64.ofInt (65521)) ∈ WS := ws_t6 56 rfl rfl
theorem kc_J6_265 : Cond.constant RJ6 265 (Int32.ofInt (1431655765)) ∈ WS := ws_t2 154 rfl rfl
theorem kc_J6_266 : Cond.constant RJ6 266 (Int32.ofInt (858993459)) ∈ WS := ws_t2 155 rfl rfl
theorem kc_J6_267 : Cond.constant RJ6 267 (Int32.ofInt (252645135)) ∈ WS := ws_t2 156 rfl rfl
theorem lk_J0_335 : Cond.methodLink RJ0 335 yJ0_coder_7d493 ∈ WS := ws_t2 27 rfl rfl
theorem lk_J0_492 : Cond.methodLink RJ0 492 yJ0_isLatin1_aae02 ∈ WS := ws_t2 37 rfl rfl
theorem lk_J0_495 : Cond.methodLink RJ0 495 yJ1_charAt_3b067 ∈ WS := ws_t2 41 rfl rfl
theorem lk_J0_1059 : Cond.methodLink RJ0 1059 yJ3_checkIndex_8e157 ∈ WS := ws_t2 49 rfl rfl
theorem lk_J1_9 : Cond.methodLink RJ1 9 yJ0_checkIndex_df160 ∈ WS := ws_t2 44 rfl rfl
theorem lk_L_9 : Cond.methodLink RL 9 yX8_init ∈ WS := ws_t1 19 rfl rfl
theorem lk_L_12 : Cond.methodLink RL 12 yX9_init ∈ WS := ws_t4 130 rfl rfl
theorem lk_L_13 : Cond.methodLink RL 13 yX8_write ∈ WS := ws_t3 0 rfl rfl
theorem lk_L_17 : Cond.methodLink RL 17 yX9_write ∈ WS := ws_t5 4 rfl rfl
theorem lk_L_18 : Cond.methodLink RL 18 yX8_wipe ∈ WS := ws_t3 5 rfl rfl
theorem lk_L_22 : Cond.methodLink RL 22 yX9_wipe ∈ WS := ws_t5 13 rfl rfl
theorem lk_L_23 : Cond.methodLink RL 23 yX8_fault ∈ WS := ws_t3 9 rfl rfl
theorem lk_L_26 : Cond.methodLink RL 26 yX9_fault ∈ WS := ws_t5 17 rfl rfl
theorem lk_L_27 : Cond.methodLink RL 27 yX8_lay ∈ WS := ws_t3 13 rfl rfl
theorem lk_L_30 : Cond.methodLink RL 30 yX9_lay ∈ WS := ws_t5 58 rfl rfl
theorem lk_L_31 : Cond.methodLink RL 31 yX8_thing ∈ WS := ws_t3 17 rfl rfl
theorem lk_L_35 : Cond.methodLink RL 35 yX9_thing ∈ WS := ws_t5 67 rfl rfl
theorem lk_L_36 : Cond.methodLink RL 36 yX8_person ∈ WS := ws_t3 46 rfl rfl
theorem lk_L_39 : Cond.methodLink RL 39 yX9_person ∈ WS := ws_t5 90 rfl rfl
theorem lk_L_40 : Cond.methodLink RL 40 yX8_beast ∈ WS := ws_t3 60 rfl rfl
theorem lk_L_43 : Cond.methodLink RL 43 yX9_beast ∈ WS := ws_t5 102 rfl rfl
theorem lk_L_44 : Cond.methodLink RL 44 yX8_strength ∈ WS := ws_t3 89 rfl rfl
theorem lk_L_47 : Cond.methodLink RL 47 yX9_strength ∈ WS := ws_t5 110 rfl rfl
theorem lk_L_48 : Cond.methodLink RL 48 yX8_follows ∈ WS := ws_t3 101 rfl rfl
theorem lk_L_51 : Cond.methodLink RL 51 yX9_follows ∈ WS := ws_t5 122 rfl rfl
theorem lk_L_52 : Cond.methodLink RL 52 yX8_missed ∈ WS := ws_t3 106 rfl rfl
theorem lk_L_55 : Cond.methodLink RL 55 yX9_missed ∈ WS := ws_t5 126 rfl rfl
theorem lk_L_56 : Cond.methodLink RL 56 yX8_bind ∈ WS := ws_t3 118 rfl rfl
theorem lk_L_59 : Cond.methodLink RL 59 yX9_bind ∈ WS := ws_t5 138 rfl rfl
theorem lk_L_60 : Cond.methodLink RL 60 yX8_loosen ∈ WS := ws_t3 138 rfl rfl
theorem lk_L_63 : Cond.methodLink RL 63 yX9_loosen ∈ WS := ws_t5 154 rfl rfl
theorem lk_L_64 : Cond.methodLink RL 64 yX8_days ∈ WS := ws_t3 148 rfl rfl
theorem lk_L_67 : Cond.methodLink RL 67 yX9_days ∈ WS := ws_t5 161 rfl rfl
theorem lk_L_68 : Cond.methodLink RL 68 yX8_undo ∈ WS := ws_t3 159 rfl rfl
theorem lk_L_71 : Cond.methodLink RL 71 yX9_undo ∈ WS := ws_t5 174 rfl rfl
theorem lk_L_72 : Cond.methodLink RL 72 yX8_cost ∈ WS := ws_t3 171 rfl rfl
theorem lk_L_75 : Cond.methodLink RL 75 yX9_cost ∈ WS := ws_t5 178 rfl rfl
theorem lk_L_76 : Cond.methodLink RL 76 yX8_least ∈ WS := ws_t3 180 rfl rfl
theorem lk_L_79 : Cond.methodLink RL 79 yX9_least ∈ WS := ws_t5 186 rfl rfl
theorem lk_L_80 : Cond.methodLink RL 80 yX8_all ∈ WS := ws_t3 195 rfl rfl
theorem lk_L_83 : Cond.methodLink RL 83 yX9_all ∈ WS := ws_t5 194 rfl rfl
theorem lk_L_84 : Cond.methodLink RL 84 yX8_more ∈ WS := ws_t3 238 rfl rfl
theorem lk_L_87 : Cond.methodLink RL 87 yX9_more ∈ WS := ws_t5 223 rfl rfl
theorem lk_L_88 : Cond.methodLink RL 88 yX8_worst ∈ WS := ws_t4 16 rfl rfl
theorem lk_L_91 : Cond.methodLink RL 91 yX9_worst ∈ WS := ws_t5 228 rfl rfl
theorem lk_L_92 : Cond.methodLink RL 92 yX8_back ∈ WS := ws_t4 20 rfl rfl
theorem lk_L_95 : Cond.methodLink RL 95 yX9_back ∈ WS := ws_t5 232 rfl rfl
theorem lk_L_96 : Cond.methodLink RL 96 yX8_missing ∈ WS := ws_t4 24 rfl rfl
theorem lk_L_100 : Cond.methodLink RL 100 yX9_missing ∈ WS := ws_t5 236 rfl rfl
theorem lk_L_101 : Cond.methodLink RL 101 yX8_trial ∈ WS := ws_t4 28 rfl rfl
theorem lk_L_105 : Cond.methodLink RL 105 yX9_trial ∈ WS := ws_t6 5 rfl rfl
theorem lk_L_106 : Cond.methodLink RL 106 yX8_pledge ∈ WS := ws_t4 43 rfl rfl
theorem lk_L_109 : Cond.methodLink RL 109 yX9_pledge ∈ WS := ws_t6 19 rfl rfl
theorem lk_L_110 : Cond.methodLink RL 110 yX8_gain ∈ WS := ws_t4 55 rfl rfl
theorem lk_L_113 : Cond.methodLink RL 113 yX9_gain ∈ WS := ws_t6 31 rfl rfl
theorem lk_L_114 : Cond.methodLink RL 114 yX8_row ∈ WS := ws_t4 101 rfl rfl
theorem lk_L_117 : Cond.methodLink RL 117 yX9_row ∈ WS := ws_t6 49 rfl rfl
theorem lk_L_118 : Cond.methodLink RL 118 yX8_keep ∈ WS := ws_t4 116 rfl rfl
theorem lk_L_121 : Cond.methodLink RL 121 yX9_keep ∈ WS := ws_t6 57 rfl rfl
theorem lk_L_122 : Cond.methodLink RL 122 yX8_restore ∈ WS := ws_t4 120 rfl rfl
theorem lk_L_125 : Cond.methodLink RL 125 yX9_restore ∈ WS := ws_t6 61 rfl rfl
theorem lk_L_126 : Cond.methodLink RL 126 yX8_count ∈ WS := ws_t4 124 rfl rfl
theorem lk_L_129 : Cond.methodLink RL 129 yX9_count ∈ WS := ws_t6 65 rfl rfl
theorem uw_X0 : ∀ w ∈ u_ws RX0 TX0 4, w ∈ WS := by
  have h : ∀ j, j < 4 → lw_tbl[[327, 329, 331, 333].getD j 0]? = some (u_lay RX0 TX0 j) ∧ goodWord (u_lay RX0 TX0 j) = true := by decide +kernel
  intro w hw
  obtain ⟨j, hj, rfl⟩ := List.mem_map.mp hw
  have hj := List.mem_range.mp hj
  exact List.mem_filter.mpr ⟨List.mem_of_getElem? (h j hj).1, (h j hj).2⟩
theorem uw_X1 : ∀ w ∈ u_ws RX1 TX1 2, w ∈ WS := by
  have h : ∀ j, j < 2 → lw_tbl[[107, 109].getD j 0]? = some (u_lay RX1 TX1 j) ∧ goodWord (u_lay RX1 TX1 j) = true := by decide +kernel
  intro w hw
  obtain ⟨j, hj, rfl⟩ := List.mem_map.mp hw
  have hj := List.mem_range.mp hj
  exact List.mem_filter.mpr ⟨List.mem_of_getElem? (h j hj).1, (h j hj).2⟩
theorem uw_X2 : ∀ w ∈ u_ws RX2 TX2 2, w ∈ WS := by
  have h : ∀ j, j < 2 → lw_tbl[[264, 266].getD j 0]? = some (u_lay RX2 TX2 j) ∧ goodWord (u_lay RX2 TX2 j) = true := by decide +kernel
  intro w hw
  obtain ⟨j, hj, rfl⟩ := List.mem_map.mp hw
  have hj := List.mem_range.mp hj
  exact List.mem_filter.mpr ⟨List.mem_of_getElem? (h j hj).1, (h j hj).2⟩
theorem uw_X3 : ∀ w ∈ u_ws RX3 TX3 12, w ∈ WS := by
  have h : ∀ j, j < 12 → lw_tbl[[291, 293, 295, 297, 299, 301, 303, 305, 307, 309, 311, 313].getD j 0]? = some (u_lay RX3 TX3 j) ∧ goodWord (u_lay RX3 TX3 j) = true := by decide +kernel
  intro w hw
  obtain ⟨j, hj, rfl⟩ := List.mem_map.mp hw
  have hj := List.mem_range.mp hj
  exact List.mem_filter.mpr ⟨List.mem_of_getElem? (h j hj).1, (h j hj).2⟩
theorem uw_X4 : ∀ w ∈ u_ws RX4 TX4 3, w ∈ WS := by
  have h : ∀ j, j < 3 → lw_tbl[[122, 124, 126].getD j 0]? = some (u_lay RX4 TX4 j) ∧ goodWord (u_lay RX4 TX4 j) = true := by decide +kernel
  intro w hw
  obtain ⟨j, hj, rfl⟩ := List.mem_map.mp hw
  have hj := List.mem_range.mp hj
  exact List.mem_filter.mpr ⟨List.mem_of_getElem? (h j hj).1, (h j hj).2⟩
theorem uw_X5 : ∀ w ∈ u_ws RX5 TX5 4, w ∈ WS := by
  have h : ∀ j, j < 4 → lw_tbl[[241, 243, 245, 247].getD j 0]? = some (u_lay RX5 TX5 j) ∧ goodWord (u_lay RX5 TX5 j) = true := by decide +kernel
  intro w hw
  obtain ⟨j, hj, rfl⟩ := List.mem_map.mp hw
  have hj := List.mem_range.mp hj
  exact List.mem_filter.mpr ⟨List.mem_of_getElem? (h j hj).1, (h j hj).2⟩
theorem uw_X6 : ∀ w ∈ u_ws RX6 TX6 5, w ∈ WS := by
  have h : ∀ j, j < 5 → lw_tbl[[219, 221, 223, 225, 227].getD j 0]? = some (u_lay RX6 TX6 j) ∧ goodWord (u_lay RX6 TX6 j) = true := by decide +kernel
  intro w hw
  obtain ⟨j, hj, rfl⟩ := List.mem_map.mp hw
  have hj := List.mem_range.mp hj
  exact List.mem_filter.mpr ⟨List.mem_of_getElem? (h j hj).1, (h j hj).2⟩
theorem uw_X7 : ∀ w ∈ u_ws RX7 TX7 19, w ∈ WS := by
  have h : ∀ j, j < 19 → lw_tbl[[167, 169, 171, 173, 175, 177, 179, 181, 183, 185, 187, 189, 191, 193, 195, 197, 199, 201, 203].getD j 0]? = some (u_lay RX7 TX7 j) ∧ goodWord (u_lay RX7 TX7 j) = true := by decide +kernel
  intro w hw
  obtain ⟨j, hj, rfl⟩ := List.mem_map.mp hw
  have hj := List.mem_range.mp hj
  exact List.mem_filter.mpr ⟨List.mem_of_getElem? (h j hj).1, (h j hj).2⟩
theorem uw_X8 : ∀ w ∈ u_ws RX8 TX8 11, w ∈ WS := by
  have h : ∀ j, j < 11 → lw_tbl[[530, 532, 534, 536, 538, 540, 542, 544, 546, 548, 550].getD j 0]? = some (u_lay RX8 TX8 j) ∧ goodWord (u_lay RX8 TX8 j) = true := by decide +kernel
  intro w hw
  obtain ⟨j, hj, rfl⟩ := List.mem_map.mp hw
  have hj := List.mem_range.mp hj
  exact List.mem_filter.mpr ⟨List.mem_of_getElem? (h j hj).1, (h j hj).2⟩
theorem uw_X9 : ∀ w ∈ u_ws RX9 TX9 28, w ∈ WS := by
  have h : ∀ j, j < 28 → lw_tbl[[980, 982, 984, 986, 988, 990, 992, 994, 996, 998, 1000, 1002, 1004, 1006, 1008, 1010, 1012, 1014, 1016, 1018, 1020, 1022, 1024, 1026, 1028, 1030, 1032, 1034].getD j 0]? = some (u_lay RX9 TX9 j) ∧ goodWord (u_lay RX9 TX9 j) = true := by decide +kernel
  intro w hw
  obtain ⟨j, hj, rfl⟩ := List.mem_map.mp hw
  have hj := List.mem_range.mp hj
  exact List.mem_filter.mpr ⟨List.mem_of_getElem? (h j hj).1, (h j hj).2⟩
theorem fl_mk {own : String} {ix ci k : Nat} {C : String} {T : u_T} {N : Nat} (I : MI) (h1 : cls[ci]? = some (C, T, N)) (h2 : k < N) (h3 : nf ci = N) (h4 : Cond.fieldLink own ix C (T k).2.1 (T k).2.2.1 ∈ WS) (h5 : (T k).1 = C) (h6 : ∀ w ∈ u_ws C T N, w ∈ WS) (h7 : ∀ k, k < N → parseFieldDescriptor (T k).2.2.1 = some (tyc ci k)) (h8 : ∀ a, a < N → ∀ b, b < N → a ≠ b → (T a).2.1 ≠ (T b).2.1) (h9 : ci < 10) (hI : I.1.cls = own) : FL I ix ci k := ⟨C, T, N, h1, h2, h3, by rw [hI]; exact h4, h5, h6, h7, h8, h9⟩
theorem fl_X8_10 {I : MI} (hI : I.1.cls = RX8) : FL I 10 8 0 := fl_mk (C := RX8) (T := TX8) (N := 11) I rfl (by decide) rfl (ws_t2 205 rfl rfl) rfl uw_X8 tyX8_ok nmX8 (by decide) hI
theorem fl_X8_21 {I : MI} (hI : I.1.cls = RX8) : FL I 21 8 1 := fl_mk (C := RX8) (T := TX8) (N := 11) I rfl (by decide) rfl (ws_t2 206 rfl rfl) rfl uw_X8 tyX8_ok nmX8 (by decide) hI
theorem fl_X8_28 {I : MI} (hI : I.1.cls = RX8) : FL I 28 8 2 := fl_mk (C := RX8) (T := TX8) (N := 11) I rfl (by decide) rfl (ws_t2 207 rfl rfl) rfl uw_X8 tyX8_ok nmX8 (by decide) hI
theorem fl_X8_32 {I : MI} (hI : I.1.cls = RX8) : FL I 32 8 3 := fl_mk (C := RX8) (T := TX8) (N := 11) I rfl (by decide) rfl (ws_t2 208 rfl rfl) rfl uw_X8 tyX8_ok nmX8 (by decide) hI
theorem fl_X8_38 {I : MI} (hI : I.1.cls = RX8) : FL I 38 8 4 := fl_mk (C := RX8) (T := TX8) (N := 11) I rfl (by decide) rfl (ws_t2 209 rfl rfl) rfl uw_X8 tyX8_ok nmX8 (by decide) hI
theorem fl_X8_45 {I : MI} (hI : I.1.cls = RX8) : FL I 45 8 5 := fl_mk (C := RX8) (T := TX8) (N := 11) I rfl (by decide) rfl (ws_t2 210 rfl rfl) rfl uw_X8 tyX8_ok nmX8 (by decide) hI
theorem fl_X8_49 {I : MI} (hI : I.1.cls = RX8) : FL I 49 8 6 := fl_mk (C := RX8) (T := TX8) (N := 11) I rfl (by decide) rfl (ws_t2 211 rfl rfl) rfl uw_X8 tyX8_ok nmX8 (by decide) hI
theorem fl_X8_57 {I : MI} (hI : I.1.cls = RX8) : FL I 57 8 7 := fl_mk (C := RX8) (T := TX8) (N := 11) I rfl (by decide) rfl (ws_t2 212 rfl rfl) rfl uw_X8 tyX8_ok nmX8 (by decide) hI
theorem fl_X8_61 {I : MI} (hI : I.1.cls = RX8) : FL I 61 8 8 := fl_mk (C := RX8) (T := TX8) (N := 11) I rfl (by decide) rfl (ws_t2 213 rfl rfl) rfl uw_X8 tyX8_ok nmX8 (by decide) hI
theorem fl_X8_69 {I : MI} (hI : I.1.cls = RX8) : FL I 69 8 9 := fl_mk (C := RX8) (T := TX8) (N := 11) I rfl (by decide) rfl (ws_t2 214 rfl rfl) rfl uw_X8 tyX8_ok nmX8 (by decide) hI
theorem fl_X8_76 {I : MI} (hI : I.1.cls = RX8) : FL I 76 8 10 := fl_mk (C := RX8) (T := TX8) (N := 11) I rfl (by decide) rfl (ws_t2 215 rfl rfl) rfl uw_X8 tyX8_ok nmX8 (by decide) hI
theorem fl_X8_110 {I : MI} (hI : I.1.cls = RX8) : FL I 110 7 0 := fl_mk (C := RX7) (T := TX7) (N := 19) I rfl (by decide) rfl (ws_t1 63 rfl rfl) rfl uw_X7 tyX7_ok nmX7 (by decide) hI
theorem fl_X8_114 {I : MI} (hI : I.1.cls = RX8) : FL I 114 7 3 := fl_mk (C := RX7) (T := TX7) (N := 19) I rfl (by decide) rfl (ws_t1 72 rfl rfl) rfl uw_X7 tyX7_ok nmX7 (by decide) hI
theorem fl_X8_139 {I : MI} (hI : I.1.cls = RX8) : FL I 139 7 2 := fl_mk (C := RX7) (T := TX7) (N := 19) I rfl (by decide) rfl (ws_t1 69 rfl rfl) rfl uw_X7 tyX7_ok nmX7 (by decide) hI
theorem fl_X8_148 {I : MI} (hI : I.1.cls = RX8) : FL I 148 7 7 := fl_mk (C := RX7) (T := TX7) (N := 19) I rfl (by decide) rfl (ws_t1 81 rfl rfl) rfl uw_X7 tyX7_ok nmX7 (by decide) hI
theorem fl_X8_210 {I : MI} (hI : I.1.cls = RX8) : FL I 210 5 0 := fl_mk (C := RX5) (T := TX5) (N := 4) I rfl (by decide) rfl (ws_t1 163 rfl rfl) rfl uw_X5 tyX5_ok nmX5 (by decide) hI
theorem fl_X8_230 {I : MI} (hI : I.1.cls = RX8) : FL I 230 3 0 := fl_mk (C := RX3) (T := TX3) (N := 12) I rfl (by decide) rfl (ws_t1 202 rfl rfl) rfl uw_X3 tyX3_ok nmX3 (by decide) hI
theorem fl_X8_233 {I : MI} (hI : I.1.cls = RX8) : FL I 233 3 1 := fl_mk (C := RX3) (T := TX3) (N := 12) I rfl (by decide) rfl (ws_t1 204 rfl rfl) rfl uw_X3 tyX3_ok nmX3 (by decide) hI
theorem fl_X8_240 {I : MI} (hI : I.1.cls = RX8) : FL I 240 3 3 := fl_mk (C := RX3) (T := TX3) (N := 12) I rfl (by decide) rfl (ws_t1 208 rfl rfl) rfl uw_X3 tyX3_ok nmX3 (by decide) hI
theorem fl_X8_243 {I : MI} (hI : I.1.cls = RX8) : FL I 243 3 2 := fl_mk (C := RX3) (T := TX3) (N := 12) I rfl (by decide) rfl (ws_t1 206 rfl rfl) rfl uw_X3 tyX3_ok nmX3 (by decide) hI
theorem fl_X8_252 {I : MI} (hI : I.1.cls = RX8) : FL I 252 6 0 := fl_mk (C := RX6) (T := TX6) (N := 5) I rfl (by decide) rfl (ws_t1 140 rfl rfl) rfl uw_X6 tyX6_ok nmX6 (by decide) hI
theorem fl_X8_282 {I : MI} (hI : I.1.cls = RX8) : FL I 282 0 0 := fl_mk (C := RX0) (T := TX0) (N := 4) I rfl (by decide) rfl (ws_t2 9 rfl rfl) rfl uw_X0 tyX0_ok nmX0 (by decide) hI
theorem fl_X8_297 {I : MI} (hI : I.1.cls = RX8) : FL I 297 7 1 := fl_mk (C := RX7) (T := TX7) (N := 19) I rfl (by decide) rfl (ws_t1 66 rfl rfl) rfl uw_X7 tyX7_ok nmX7 (by decide) hI
theorem fl_X8_300 {I : MI} (hI : I.1.cls = RX8) : FL I 300 7 4 := fl_mk (C := RX7) (T := TX7) (N := 19) I rfl (by decide) rfl (ws_t1 75 rfl rfl) rfl uw_X7 tyX7_ok nmX7 (by decide) hI
theorem fl_X0_11 {I : MI} (hI : I.1.cls = RX0) : FL I 11 0 0 := fl_mk (C := RX0) (T := TX0) (N := 4) I rfl (by decide) rfl (ws_t2 8 rfl rfl) rfl uw_X0 tyX0_ok nmX0 (by decide) hI
theorem fl_X0_17 {I : MI} (hI : I.1.cls = RX0) : FL I 17 0 1 := fl_mk (C := RX0) (T := TX0) (N := 4) I rfl (by decide) rfl (ws_t2 10 rfl rfl) rfl uw_X0 tyX0_ok nmX0 (by decide) hI
theorem fl_X0_21 {I : MI} (hI : I.1.cls = RX0) : FL I 21 0 2 := fl_mk (C := RX0) (T := TX0) (N := 4) I rfl (by decide) rfl (ws_t2 11 rfl rfl) rfl uw_X0 tyX0_ok nmX0 (by decide) hI
theorem fl_X0_24 {I : MI} (hI : I.1.cls = RX0) : FL I 24 0 3 := fl_mk (C := RX0) (T := TX0) (N := 4) I rfl (by decide) rfl (ws_t2 12 rfl rfl) rfl uw_X0 tyX0_ok nmX0 (by decide) hI
theorem fl_X0_27 {I : MI} (hI : I.1.cls = RX0) : FL I 27 7 4 := fl_mk (C := RX7) (T := TX7) (N := 19) I rfl (by decide) rfl (ws_t1 74 rfl rfl) rfl uw_X7 tyX7_ok nmX7 (by decide) hI
theorem fl_X1_9 {I : MI} (hI : I.1.cls = RX1) : FL I 9 1 0 := fl_mk (C := RX1) (T := TX1) (N := 2) I rfl (by decide) rfl (ws_t1 31 rfl rfl) rfl uw_X1 tyX1_ok nmX1 (by decide) hI
theorem fl_X1_13 {I : MI} (hI : I.1.cls = RX1) : FL I 13 1 1 := fl_mk (C := RX1) (T := TX1) (N := 2) I rfl (by decide) rfl (ws_t1 32 rfl rfl) rfl uw_X1 tyX1_ok nmX1 (by decide) hI
theorem fl_X2_7 {I : MI} (hI : I.1.cls = RX2) : FL I 7 2 1 := fl_mk (C := RX2) (T := TX2) (N := 2) I rfl (by decide) rfl (ws_t1 189 rfl rfl) rfl uw_X2 tyX2_ok nmX2 (by decide) hI
theorem fl_X2_21 {I : MI} (hI : I.1.cls = RX2) : FL I 21 2 0 := fl_mk (C := RX2) (T := TX2) (N := 2) I rfl (by decide) rfl (ws_t1 188 rfl rfl) rfl uw_X2 tyX2_ok nmX2 (by decide) hI
theorem fl_X3_11 {I : MI} (hI : I.1.cls = RX3) : FL I 11 3 0 := fl_mk (C := RX3) (T := TX3) (N := 12) I rfl (by decide) rfl (ws_t1 201 rfl rfl) rfl uw_X3 tyX3_ok nmX3 (by decide) hI
theorem fl_X3_17 {I : MI} (hI : I.1.cls = RX3) : FL I 17 3 1 := fl_mk (C := RX3) (T := TX3) (N := 12) I rfl (by decide) rfl (ws_t1 203 rfl rfl) rfl uw_X3 tyX3_ok nmX3 (by decide) hI
theorem fl_X3_20 {I : MI} (hI : I.1.cls = RX3) : FL I 20 3 2 := fl_mk (C := RX3) (T := TX3) (N := 12) I rfl (by decide) rfl (ws_t1 205 rfl rfl) rfl uw_X3 tyX3_ok nmX3 (by decide) hI
theorem fl_X3_23 {I : MI} (hI : I.1.cls = RX3) : FL I 23 3 3 := fl_mk (C := RX3) (T := TX3) (N := 12) I rfl (by decide) rfl (ws_t1 207 rfl rfl) rfl uw_X3 tyX3_ok nmX3 (by decide) hI
theorem fl_X3_26 {I : MI} (hI : I.1.cls = RX3) : FL I 26 3 5 := fl_mk (C := RX3) (T := TX3) (N := 12) I rfl (by decide) rfl (ws_t1 210 rfl rfl) rfl uw_X3 tyX3_ok nmX3 (by decide) hI
theorem fl_X3_30 {I : MI} (hI : I.1.cls = RX3) : FL I 30 3 6 := fl_mk (C := RX3) (T := TX3) (N := 12) I rfl (by decide) rfl (ws_t1 211 rfl rfl) rfl uw_X3 tyX3_ok nmX3 (by decide) hI
theorem fl_X3_33 {I : MI} (hI : I.1.cls = RX3) : FL I 33 3 7 := fl_mk (C := RX3) (T := TX3) (N := 12) I rfl (by decide) rfl (ws_t1 212 rfl rfl) rfl uw_X3 tyX3_ok nmX3 (by decide) hI
theorem fl_X3_36 {I : MI} (hI : I.1.cls = RX3) : FL I 36 3 8 := fl_mk (C := RX3) (T := TX3) (N := 12) I rfl (by decide) rfl (ws_t1 213 rfl rfl) rfl uw_X3 tyX3_ok nmX3 (by decide) hI
theorem fl_X3_39 {I : MI} (hI : I.1.cls = RX3) : FL I 39 3 9 := fl_mk (C := RX3) (T := TX3) (N := 12) I rfl (by decide) rfl (ws_t1 214 rfl rfl) rfl uw_X3 tyX3_ok nmX3 (by decide) hI
theorem fl_X3_42 {I : MI} (hI : I.1.cls = RX3) : FL I 42 3 10 := fl_mk (C := RX3) (T := TX3) (N := 12) I rfl (by decide) rfl (ws_t1 215 rfl rfl) rfl uw_X3 tyX3_ok nmX3 (by decide) hI
theorem fl_X3_45 {I : MI} (hI : I.1.cls = RX3) : FL I 45 3 11 := fl_mk (C := RX3) (T := TX3) (N := 12) I rfl (by decide) rfl (ws_t1 216 rfl rfl) rfl uw_X3 tyX3_ok nmX3 (by decide) hI
theorem fl_X3_48 {I : MI} (hI : I.1.cls = RX3) : FL I 48 3 4 := fl_mk (C := RX3) (T := TX3) (N := 12) I rfl (by decide) rfl (ws_t1 209 rfl rfl) rfl uw_X3 tyX3_ok nmX3 (by decide) hI
theorem fl_X3_56 {I : MI} (hI : I.1.cls = RX3) : FL I 56 6 0 := fl_mk (C := RX6) (T := TX6) (N := 5) I rfl (by decide) rfl (ws_t1 139 rfl rfl) rfl uw_X6 tyX6_ok nmX6 (by decide) hI
theorem fl_X3_92 {I : MI} (hI : I.1.cls = RX3) : FL I 92 7 3 := fl_mk (C := RX7) (T := TX7) (N := 19) I rfl (by decide) rfl (ws_t1 71 rfl rfl) rfl uw_X7 tyX7_ok nmX7 (by decide) hI
theorem fl_X4_11 {I : MI} (hI : I.1.cls = RX4) : FL I 11 4 1 := fl_mk (C := RX4) (T := TX4) (N := 3) I rfl (by decide) rfl (ws_t1 46 rfl rfl) rfl uw_X4 tyX4_ok nmX4 (by decide) hI
theorem fl_X4_15 {I : MI} (hI : I.1.cls = RX4) : FL I 15 4 2 := fl_mk (C := RX4) (T := TX4) (N := 3) I rfl (by decide) rfl (ws_t1 47 rfl rfl) rfl uw_X4 tyX4_ok nmX4 (by decide) hI
theorem fl_X4_19 {I : MI} (hI : I.1.cls = RX4) : FL I 19 4 0 := fl_mk (C := RX4) (T := TX4) (N := 3) I rfl (by decide) rfl (ws_t1 45 rfl rfl) rfl uw_X4 tyX4_ok nmX4 (by decide) hI
theorem fl_X5_11 {I : MI} (hI : I.1.cls = RX5) : FL I 11 5 0 := fl_mk (C := RX5) (T := TX5) (N := 4) I rfl (by decide) rfl (ws_t1 162 rfl rfl) rfl uw_X5 tyX5_ok nmX5 (by decide) hI
theorem fl_X5_17 {I : MI} (hI : I.1.cls = RX5) : FL I 17 5 1 := fl_mk (C := RX5) (T := TX5) (N := 4) I rfl (by decide) rfl (ws_t1 164 rfl rfl) rfl uw_X5 tyX5_ok nmX5 (by decide) hI
theorem fl_X5_21 {I : MI} (hI : I.1.cls = RX5) : FL I 21 5 2 := fl_mk (C := RX5) (T := TX5) (N := 4) I rfl (by decide) rfl (ws_t1 165 rfl rfl) rfl uw_X5 tyX5_ok nmX5 (by decide) hI
theorem fl_X5_24 {I : MI} (hI : I.1.cls = RX5) : FL I 24 5 3 := fl_mk (C := RX5) (T := TX5) (N := 4) I rfl (by decide) rfl (ws_t1 166 rfl rfl) rfl uw_X5 tyX5_ok nmX5 (by decide) hI
theorem fl_X5_35 {I : MI} (hI : I.1.cls = RX5) : FL I 35 7 6 := fl_mk (C := RX7) (T := TX7) (N := 19) I rfl (by decide) rfl (ws_t1 79 rfl rfl) rfl uw_X7 tyX7_ok nmX7 (by decide) hI
theorem fl_X6_9 {I : MI} (hI : I.1.cls = RX6) : FL I 9 6 0 := fl_mk (C := RX6) (T := TX6) (N := 5) I rfl (by decide) rfl (ws_t1 138 rfl rfl) rfl uw_X6 tyX6_ok nmX6 (by decide) hI
theorem fl_X6_15 {I : MI} (hI : I.1.cls = RX6) : FL I 15 6 1 := fl_mk (C := RX6) (T := TX6) (N := 5) I rfl (by decide) rfl (ws_t1 141 rfl rfl) rfl uw_X6 tyX6_ok nmX6 (by decide) hI
theorem fl_X6_19 {I : MI} (hI : I.1.cls = RX6) : FL I 19 6 2 := fl_mk (C := RX6) (T := TX6) (N := 5) I rfl (by decide) rfl (ws_t1 142 rfl rfl) rfl uw_X6 tyX6_ok nmX6 (by decide) hI
theorem fl_X6_22 {I : MI} (hI : I.1.cls = RX6) : FL I 22 6 3 := fl_mk (C := RX6) (T := TX6) (N := 5) I rfl (by decide) rfl (ws_t1 143 rfl rfl) rfl uw_X6 tyX6_ok nmX6 (by decide) hI
theorem fl_X6_25 {I : MI} (hI : I.1.cls = RX6) : FL I 25 6 4 := fl_mk (C := RX6) (T := TX6) (N := 5) I rfl (by decide) rfl (ws_t1 144 rfl rfl) rfl uw_X6 tyX6_ok nmX6 (by decide) hI
theorem fl_X6_28 {I : MI} (hI : I.1.cls = RX6) : FL I 28 7 0 := fl_mk (C := RX7) (T := TX7) (N := 19) I rfl (by decide) rfl (ws_t1 62 rfl rfl) rfl uw_X7 tyX7_ok nmX7 (by decide) hI
theorem fl_X6_59 {I : MI} (hI : I.1.cls = RX6) : FL I 59 7 5 := fl_mk (C := RX7) (T := TX7) (N := 19) I rfl (by decide) rfl (ws_t1 77 rfl rfl) rfl uw_X7 tyX7_ok nmX7 (by decide) hI
theorem fl_X6_65 {I : MI} (hI : I.1.cls = RX6) : FL I 65 7 1 := fl_mk (C := RX7) (T := TX7) (N := 19) I rfl (by decide) rfl (ws_t1 65 rfl rfl) rfl uw_X7 tyX7_ok nmX7 (by decide) hI
theorem fl_X6_74 {I : MI} (hI : I.1.cls = RX6) : FL I 74 7 2 := fl_mk (C := RX7) (T := TX7) (N := 19) I rfl (by decide) rfl (ws_t1 68 rfl rfl) rfl uw_X7 tyX7_ok nmX7 (by decide) hI
theorem fl_X7_9 {I : MI} (hI : I.1.cls = RX7) : FL I 9 7 0 := fl_mk (C := RX7) (T := TX7) (N := 19) I rfl (by decide) rfl (ws_t1 61 rfl rfl) rfl uw_X7 tyX7_ok nmX7 (by decide) hI
theorem fl_X7_15 {I : MI} (hI : I.1.cls = RX7) : FL I 15 7 1 := fl_mk (C := RX7) (T := TX7) (N := 19) I rfl (by decide) rfl (ws_t1 64 rfl rfl) rfl uw_X7 tyX7_ok nmX7 (by decide) hI
theorem fl_X7_18 {I : MI} (hI : I.1.cls = RX7) : FL I 18 7 2 := fl_mk (C := RX7) (T := TX7) (N := 19) I rfl (by decide) rfl (ws_t1 67 rfl rfl) rfl uw_X7 tyX7_ok nmX7 (by decide) hI
theorem fl_X7_21 {I : MI} (hI : I.1.cls = RX7) : FL I 21 7 3 := fl_mk (C := RX7) (T := TX7) (N := 19) I rfl (by decide) rfl (ws_t1 70 rfl rfl) rfl uw_X7 tyX7_ok nmX7 (by decide) hI
theorem fl_X7_24 {I : MI} (hI : I.1.cls = RX7) : FL I 24 7 4 := fl_mk (C := RX7) (T := TX7) (N := 19) I rfl (by decide) rfl (ws_t1 73 rfl rfl) rfl uw_X7 tyX7_ok nmX7 (by decide) hI
theorem fl_X7_27 {I : MI} (hI : I.1.cls = RX7) : FL I 27 7 5 := fl_mk (C := RX7) (T := TX7) (N := 19) I rfl (by decide) rfl (ws_t1 76 rfl rfl) rfl uw_X7 tyX7_ok nmX7 (by decide) hI
theorem fl_X7_30 {I : MI} (hI : I.1.cls = RX7) : FL I 30 7 6 := fl_mk (C := RX7) (T := TX7) (N := 19) I rfl (by decide) rfl (ws_t1 78 rfl rfl) rfl uw_X7 tyX7_ok nmX7 (by decide) hI
theorem fl_X7_33 {I : MI} (hI : I.1.cls = RX7) : FL I 33 7 7 := fl_mk (C := RX7) (T := TX7) (N := 19) I rfl (by decide) rfl (ws_t1 80 rfl rfl) rfl uw_X7 tyX7_ok nmX7 (by decide) hI
theorem fl_X7_36 {I : MI} (hI : I.1.cls = RX7) : FL I 36 7 8 := fl_mk (C := RX7) (T := TX7) (N := 19) I rfl (by decide) rfl (ws_t1 82 rfl rfl) rfl uw_X7 tyX7_ok nmX7 (by decide) hI
theorem fl_X7_40 {I : MI} (hI : I.1.cls = RX7) : FL I 40 7 9 := fl_mk (C := RX7) (T := TX7) (N := 19) I rfl (by decide) rfl (ws_t1 83 rfl rfl) rfl uw_X7 tyX7_ok nmX7 (by decide) hI
theorem fl_X7_43 {I : MI} (hI : I.1.cls = RX7) : FL I 43 7 10 := fl_mk (C := RX7) (T := TX7) (N := 19) I rfl (by decide) rfl (ws_t1 84 rfl rfl) rfl uw_X7 tyX7_ok nmX7 (by decide) hI
theorem fl_X7_46 {I : MI} (hI : I.1.cls = RX7) : FL I 46 7 11 := fl_mk (C := RX7) (T := TX7) (N := 19) I rfl (by decide) rfl (ws_t1 85 rfl rfl) rfl uw_X7 tyX7_ok nmX7 (by decide) hI
theorem fl_X7_49 {I : MI} (hI : I.1.cls = RX7) : FL I 49 7 12 := fl_mk (C := RX7) (T := TX7) (N := 19) I rfl (by decide) rfl (ws_t1 86 rfl rfl) rfl uw_X7 tyX7_ok nmX7 (by decide) hI
theorem fl_X7_52 {I : MI} (hI : I.1.cls = RX7) : FL I 52 7 13 := fl_mk (C := RX7) (T := TX7) (N := 19) I rfl (by decide) rfl (ws_t1 87 rfl rfl) rfl uw_X7 tyX7_ok nmX7 (by decide) hI
theorem fl_X7_55 {I : MI} (hI : I.1.cls = RX7) : FL I 55 7 14 := fl_mk (C := RX7) (T := TX7) (N := 19) I rfl (by decide) rfl (ws_t1 88 rfl rfl) rfl uw_X7 tyX7_ok nmX7 (by decide) hI
theorem fl_X7_58 {I : MI} (hI : I.1.cls = RX7) : FL I 58 7 15 := fl_mk (C := RX7) (T := TX7) (N := 19) I rfl (by decide) rfl (ws_t1 89 rfl rfl) rfl uw_X7 tyX7_ok nmX7 (by decide) hI
theorem fl_X7_61 {I : MI} (hI : I.1.cls = RX7) : FL I 61 7 16 := fl_mk (C := RX7) (T := TX7) (N := 19) I rfl (by decide) rfl (ws_t1 90 rfl rfl) rfl uw_X7 tyX7_ok nmX7 (by decide) hI
theorem fl_X7_64 {I : MI} (hI : I.1.cls = RX7) : FL I 64 7 17 := fl_mk (C := RX7) (T := TX7) (N := 19) I rfl (by decide) rfl (ws_t1 91 rfl rfl) rfl uw_X7 tyX7_ok nmX7 (by decide) hI
theorem fl_X7_67 {I : MI} (hI : I.1.cls = RX7) : FL I 67 7 18 := fl_mk (C := RX7) (T := TX7) (N := 19) I rfl (by decide) rfl (ws_t1 92 rfl rfl) rfl uw_X7 tyX7_ok nmX7 (by decide) hI
theorem fl_X9_7 {I : MI} (hI : I.1.cls = RX9) : FL I 7 9 0 := fl_mk (C := RX9) (T := TX9) (N := 28) I rfl (by decide) rfl (ws_t4 158 rfl rfl) rfl uw_X9 tyX9_ok nmX9 (by decide) hI
theorem fl_X9_13 {I : MI} (hI : I.1.cls = RX9) : FL I 13 9 3 := fl_mk (C := RX9) (T := TX9) (N := 28) I rfl (by decide) rfl (ws_t4 161 rfl rfl) rfl uw_X9 tyX9_ok nmX9 (by decide) hI
theorem fl_X9_16 {I : MI} (hI : I.1.cls = RX9) : FL I 16 9 6 := fl_mk (C := RX9) (T := TX9) (N := 28) I rfl (by decide) rfl (ws_t4 164 rfl rfl) rfl uw_X9 tyX9_ok nmX9 (by decide) hI
theorem fl_X9_19 {I : MI} (hI : I.1.cls = RX9) : FL I 19 9 7 := fl_mk (C := RX9) (T := TX9) (N := 28) I rfl (by decide) rfl (ws_t4 165 rfl rfl) rfl uw_X9 tyX9_ok nmX9 (by decide) hI
theorem fl_X9_22 {I : MI} (hI : I.1.cls = RX9) : FL I 22 9 8 := fl_mk (C := RX9) (T := TX9) (N := 28) I rfl (by decide) rfl (ws_t4 166 rfl rfl) rfl uw_X9 tyX9_ok nmX9 (by decide) hI
theorem fl_X9_25 {I : MI} (hI : I.1.cls = RX9) : FL I 25 9 11 := fl_mk (C := RX9) (T := TX9) (N := 28) I rfl (by decide) rfl (ws_t4 169 rfl rfl) rfl uw_X9 tyX9_ok nmX9 (by decide) hI
theorem fl_X9_28 {I : MI} (hI : I.1.cls = RX9) : FL I 28 9 12 := fl_mk (C := RX9) (T := TX9) (N := 28) I rfl (by decide) rfl (ws_t4 170 rfl rfl) rfl uw_X9 tyX9_ok nmX9 (by decide) hI
theorem fl_X9_31 {I : MI} (hI : I.1.cls = RX9) : FL I 31 9 14 := fl_mk (C := RX9) (T := TX9) (N := 28) I rfl (by decide) rfl (ws_t4 172 rfl rfl) rfl uw_X9 tyX9_ok nmX9 (by decide) hI
theorem fl_X9_34 {I : MI} (hI : I.1.cls = RX9) : FL I 34 9 16 := fl_mk (C := RX9) (T := TX9) (N := 28) I rfl (by decide) rfl (ws_t4 174 rfl rfl) rfl uw_X9 tyX9_ok nmX9 (by decide) hI
theorem fl_X9_37 {I : MI} (hI : I.1.cls = RX9) : FL I 37 9 18 := fl_mk (C := RX9) (T := TX9) (N := 28) I rfl (by decide) rfl (ws_t4 176 rfl rfl) rfl uw_X9 tyX9_ok nmX9 (by decide) hI
theorem fl_X9_40 {I : MI} (hI : I.1.cls = RX9) : FL I 40 9 24 := fl_mk (C := RX9) (T := TX9) (N := 28) I rfl (by decide) rfl (ws_t4 182 rfl rfl) rfl uw_X9 tyX9_ok nmX9 (by decide) hI
theorem fl_X9_44 {I : MI} (hI : I.1.cls = RX9) : FL I 44 9 25 := fl_mk (C := RX9) (T := TX9) (N := 28) I rfl (by decide) rfl (ws_t4 183 rfl rfl) rfl uw_X9 tyX9_ok nmX9 (by decide) hI
theorem fl_X9_47 {I : MI} (hI : I.1.cls = RX9) : FL I 47 9 26 := fl_mk (C := RX9) (T := TX9) (N := 28) I rfl (by decide) rfl (ws_t4 184 rfl rfl) rfl uw_X9 tyX9_ok nmX9 (by decide) hI
theorem fl_X9_50 {I : MI} (hI : I.1.cls = RX9) : FL I 50 9 27 := fl_mk (C := RX9) (T := TX9) (N := 28) I rfl (by decide) rfl (ws_t4 185 rfl rfl) rfl uw_X9 tyX9_ok nmX9 (by decide) hI
theorem fl_X9_74 {I : MI} (hI : I.1.cls = RX9) : FL I 74 9 5 := fl_mk (C := RX9) (T := TX9) (N := 28) I rfl (by decide) rfl (ws_t4 163 rfl rfl) rfl uw_X9 tyX9_ok nmX9 (by decide) hI
theorem fl_X9_78 {I : MI} (hI : I.1.cls = RX9) : FL I 78 9 9 := fl_mk (C := RX9) (T := TX9) (N := 28) I rfl (by decide) rfl (ws_t4 167 rfl rfl) rfl uw_X9 tyX9_ok nmX9 (by decide) hI
theorem fl_X9_81 {I : MI} (hI : I.1.cls = RX9) : FL I 81 9 10 := fl_mk (C := RX9) (T := TX9) (N := 28) I rfl (by decide) rfl (ws_t4 168 rfl rfl) rfl uw_X9 tyX9_ok nmX9 (by decide) hI
theorem fl_X9_84 {I : MI} (hI : I.1.cls = RX9) : FL I 84 9 13 := fl_mk (C := RX9) (T := TX9) (N := 28) I rfl (by decide) rfl (ws_t4 171 rfl rfl) rfl uw_X9 tyX9_ok nmX9 (by decide) hI
theorem fl_X9_87 {I : MI} (hI : I.1.cls = RX9) : FL I 87 9 15 := fl_mk (C := RX9) (T := TX9) (N := 28) I rfl (by decide) rfl (ws_t4 173 rfl rfl) rfl uw_X9 tyX9_ok nmX9 (by decide) hI
theorem fl_X9_90 {I : MI} (hI : I.1.cls = RX9) : FL I 90 9 1 := fl_mk (C := RX9) (T := TX9) (N := 28) I rfl (by decide) rfl (ws_t4 159 rfl rfl) rfl uw_X9 tyX9_ok nmX9 (by decide) hI
theorem fl_X9_93 {I : MI} (hI : I.1.cls = RX9) : FL I 93 9 2 := fl_mk (C := RX9) (T := TX9) (N := 28) I rfl (by decide) rfl (ws_t4 160 rfl rfl) rfl uw_X9 tyX9_ok nmX9 (by decide) hI
theorem fl_X9_104 {I : MI} (hI : I.1.cls = RX9) : FL I 104 9 4 := fl_mk (C := RX9) (T := TX9) (N := 28) I rfl (by decide) rfl (ws_t4 162 rfl rfl) rfl uw_X9 tyX9_ok nmX9 (by decide) hI
theorem fl_X9_111 {I : MI} (hI : I.1.cls = RX9) : FL I 111 9 17 := fl_mk (C := RX9) (T := TX9) (N := 28) I rfl (by decide) rfl (ws_t4 175 rfl rfl) rfl uw_X9 tyX9_ok nmX9 (by decide) hI
theorem fl_X9_129 {I : MI} (hI : I.1.cls = RX9) : FL I 129 9 19 := fl_mk (C := RX9) (T := TX9) (N := 28) I rfl (by decide) rfl (ws_t4 177 rfl rfl) rfl uw_X9 tyX9_ok nmX9 (by decide) hI
theorem fl_X9_135 {I : MI} (hI : I.1.cls = RX9) : FL I 135 9 20 := fl_mk (C := RX9) (T := TX9) (N := 28) I rfl (by decide) rfl (ws_t4 178 rfl rfl) rfl uw_X9 tyX9_ok nmX9 (by decide) hI
theorem fl_X9_138 {I : MI} (hI : I.1.cls = RX9) : FL I 138 9 21 := fl_mk (C := RX9) (T := TX9) (N := 28) I rfl (by decide) rfl (ws_t4 179 rfl rfl) rfl uw_X9 tyX9_ok nmX9 (by decide) hI
theorem fl_X9_141 {I : MI} (hI : I.1.cls = RX9) : FL I 141 9 22 := fl_mk (C := RX9) (T := TX9) (N := 28) I rfl (by decide) rfl (ws_t4 180 rfl rfl) rfl uw_X9 tyX9_ok nmX9 (by decide) hI
theorem fl_X9_144 {I : MI} (hI : I.1.cls = RX9) : FL I 144 9 23 := fl_mk (C := RX9) (T := TX9) (N := 28) I rfl (by decide) rfl (ws_t4 181 rfl rfl) rfl uw_X9 tyX9_ok nmX9 (by decide) hI
theorem fl_J0_9 : Cond.fieldLink RJ0 9 "java/lang/String" "value" "[B" ∈ WS := ws_t6 69 rfl rfl
theorem fl_J0_15 : Cond.fieldLink RJ0 15 "java/lang/String" "coder" "B" ∈ WS := ws_t6 70 rfl rfl
theorem fl_J0_38 : Cond.fieldLink RJ0 38 "java/lang/String" "COMPACT_STRINGS" "Z" ∈ WS := ws_t2 31 rfl rfl
theorem fl_J0_1053 : Cond.fieldLink RJ0 1053 "jdk/internal/util/Preconditions" "SIOOBE_FORMATTER" "Ljava/util/function/BiFunction;" ∈ WS := ws_t2 47 rfl rfl
theorem nw_X8_7 {I : MI} (hI : I.1.cls = RX8) : NW I 7 1 2 := ⟨RX1, TX1, rfl, rfl, by rw [hI]; exact ws_t1 25 rfl rfl, ws_t1 26 rfl rfl, in_X1, uw_X1, tyX1_ok, by decide, by decide⟩
theorem nw_X8_16 {I : MI} (hI : I.1.cls = RX8) : NW I 16 4 3 := ⟨RX4, TX4, rfl, rfl, by rw [hI]; exact ws_t1 39 rfl rfl, ws_t1 40 rfl rfl, in_X4, uw_X4, tyX4_ok, by decide, by decide⟩
theorem nw_X8_25 {I : MI} (hI : I.1.cls = RX8) : NW I 25 7 19 := ⟨RX7, TX7, rfl, rfl, by rw [hI]; exact ws_t1 55 rfl rfl, ws_t1 56 rfl rfl, in_X7, uw_X7, tyX7_ok, by decide, by decide⟩
theorem nw_X8_35 {I : MI} (hI : I.1.cls = RX8) : NW I 35 6 5 := ⟨RX6, TX6, rfl, rfl, by rw [hI]; exact ws_t1 132 rfl rfl, ws_t1 133 rfl rfl, in_X6, uw_X6, tyX6_ok, by decide, by decide⟩
theorem nw_X8_42 {I : MI} (hI : I.1.cls = RX8) : NW I 42 5 4 := ⟨RX5, TX5, rfl, rfl, by rw [hI]; exact ws_t1 156 rfl rfl, ws_t1 157 rfl rfl, in_X5, uw_X5, tyX5_ok, by decide, by decide⟩
theorem nw_X8_52 {I : MI} (hI : I.1.cls = RX8) : NW I 52 2 2 := ⟨RX2, TX2, rfl, rfl, by rw [hI]; exact ws_t1 176 rfl rfl, ws_t1 177 rfl rfl, in_X2, uw_X2, tyX2_ok, by decide, by decide⟩
theorem nw_X8_64 {I : MI} (hI : I.1.cls = RX8) : NW I 64 3 12 := ⟨RX3, TX3, rfl, rfl, by rw [hI]; exact ws_t1 195 rfl rfl, ws_t1 196 rfl rfl, in_X3, uw_X3, tyX3_ok, by decide, by decide⟩
theorem nw_X8_73 {I : MI} (hI : I.1.cls = RX8) : NW I 73 0 4 := ⟨RX0, TX0, rfl, rfl, by rw [hI]; exact ws_t2 2 rfl rfl, ws_t2 3 rfl rfl, in_X0, uw_X0, tyX0_ok, by decide, by decide⟩
theorem nw_L_7 {I : MI} (hI : I.1.cls = RL) : NW I 7 8 11 := ⟨RX8, TX8, rfl, rfl, by rw [hI]; exact ws_t1 17 rfl rfl, ws_t1 18 rfl rfl, in_X8, uw_X8, tyX8_ok, by decide, by decide⟩
theorem nw_L_10 {I : MI} (hI : I.1.cls = RL) : NW I 10 9 28 := ⟨RX9, TX9, rfl, rfl, by rw [hI]; exact ws_t4 128 rfl rfl, ws_t4 129 rfl rfl, in_X9, uw_X9, tyX9_ok, by decide, by decide⟩
theorem nw_X2_19 {I : MI} (hI : I.1.cls = RX2) : NW I 19 5 4 := ⟨RX5, TX5, rfl, rfl, by rw [hI]; exact ws_t1 185 rfl rfl, ws_t1 157 rfl rfl, in_X5, uw_X5, tyX5_ok, by decide, by decide⟩
theorem cl_X2_19 : Cond.classLink RX2 19 RX5 ∈ WS := ws_t1 185 rfl rfl
theorem ac_I : Cond.arrayClass .int ∈ WS := ws_t1 38 rfl rfl
theorem ac_Z : Cond.arrayClass .boolean ∈ WS := ws_t5 3 rfl rfl
theorem oi_i : Cond.instanceMethod Lib.objectInit ∈ WS := ws_t1 23 rfl rfl
theorem oi_c : Cond.code Lib.objectInit ⟨#[0xb1]⟩ 1 none ∈ WS := ws_t1 24 rfl rfl
theorem in_Math : Cond.initialized "java/lang/Math" ∈ WS := ws_t1 8 rfl rfl
theorem ma_max_s : Cond.static Lib.Math.max.name ∈ WS := ws_t1 183 rfl rfl
theorem ma_max_c : Cond.code Lib.Math.max.name Lib.Math.max.code 2 (some .int) ∈ WS := ws_t1 184 rfl rfl
theorem ma_min_s : Cond.static Lib.Math.min.name ∈ WS := ws_t2 146 rfl rfl
theorem ma_min_c : Cond.code Lib.Math.min.name Lib.Math.min.code 2 (some .int) ∈ WS := ws_t2 147 rfl rfl
theorem ma_maxL_s : Cond.static Lib.MathLoose.max_long.x ∈ WS := ws_t4 41 rfl rfl
theorem ma_maxL_c : Cond.code Lib.MathLoose.max_long.x Lib.MathLoose.max_long.code 4 (some .long) ∈ WS := ws_t4 42 rfl rfl
end
section
/-! ===== the instructions, by program ===== -/
theorem dX0_init_0 : Dd mX0_init.2.1 0 (.aload_n 0) 1 1 := ⟨by decide +kernel, rfl⟩
theorem dX0_init_1 : Dd mX0_init.2.1 1 (.invokespecial 5) 3 4 := ⟨by decide +kernel, rfl⟩
theorem dX0_init_4 : Dd mX0_init.2.1 4 (.aload_n 0) 1 5 := ⟨by decide +kernel, rfl⟩
theorem dX0_init_5 : Dd mX0_init.2.1 5 (.iconst 0) 1 6 := ⟨by decide +kernel, rfl⟩
theorem dX0_init_6 : Dd mX0_init.2.1 6 (.putfield 11) 3 9 := ⟨by decide +kernel, rfl⟩
theorem dX0_init_9 : Dd mX0_init.2.1 9 (.aload_n 0) 1 10 := ⟨by decide +kernel, rfl⟩
theorem dX0_init_10 : Dd mX0_init.2.1 10 (.bipush 6) 2 12 := ⟨by decide +kernel, rfl⟩
theorem dX0_init_12 : Dd mX0_init.2.1 12 (.newarray .int) 2 14 := ⟨by decide +kernel, rfl⟩
theorem dX0_init_14 : Dd mX0_init.2.1 14 (.putfield 17) 3 17 := ⟨by decide +kernel, rfl⟩
theorem dX0_init_17 : Dd mX0_init.2.1 17 (.aload_n 0) 1 18 := ⟨by decide +kernel, rfl⟩
theorem dX0_init_18 : Dd mX0_init.2.1 18 (.iconst 1) 1 19 := ⟨by decide +kernel, rfl⟩
theorem dX0_init_19 : Dd mX0_init.2.1 19 (.putfield 21) 3 22 := ⟨by decide +kernel, rfl⟩
theorem dX0_init_22 : Dd mX0_init.2.1 22 (.aload_n 0) 1 23 := ⟨by decide +kernel, rfl⟩
theorem dX0_init_23 : Dd mX0_init.2.1 23 (.iconst 1) 1 24 := ⟨by decide +kernel, rfl⟩
theorem dX0_init_24 : Dd mX0_init.2.1 24 (.putfield 24) 3 27 := ⟨by decide +kernel, rfl⟩
theorem dX0_init_27 : Dd mX0_init.2.1 27 (.return_) 1 28 := ⟨by decide +kernel, rfl⟩
theorem dX0_find_0 : Dd mX0_find.2.1 0 (.iconst 2) 1 1 := ⟨by decide +kernel, rfl⟩
theorem dX0_find_1 : Dd mX0_find.2.1 1 (.istore_n 2) 1 2 := ⟨by decide +kernel, rfl⟩
theorem dX0_find_2 : Dd mX0_find.2.1 2 (.iload_n 2) 1 3 := ⟨by decide +kernel, rfl⟩
theorem dX0_find_3 : Dd mX0_find.2.1 3 (.aload_n 1) 1 4 := ⟨by decide +kernel, rfl⟩
theorem dX0_find_4 : Dd mX0_find.2.1 4 (.getfield 27) 3 7 := ⟨by decide +kernel, rfl⟩
theorem dX0_find_7 : Dd mX0_find.2.1 7 (.if_icmp .gt 26) 3 10 := ⟨by decide +kernel, rfl⟩
theorem dX0_find_10 : Dd mX0_find.2.1 10 (.aload_n 0) 1 11 := ⟨by decide +kernel, rfl⟩
theorem dX0_find_11 : Dd mX0_find.2.1 11 (.iload_n 2) 1 12 := ⟨by decide +kernel, rfl⟩
theorem dX0_find_12 : Dd mX0_find.2.1 12 (.putfield 11) 3 15 := ⟨by decide +kernel, rfl⟩
theorem dX0_find_15 : Dd mX0_find.2.1 15 (.aload_n 0) 1 16 := ⟨by decide +kernel, rfl⟩
theorem dX0_find_16 : Dd mX0_find.2.1 16 (.aload_n 1) 1 17 := ⟨by decide +kernel, rfl⟩
theorem dX0_find_17 : Dd mX0_find.2.1 17 (.iconst 0) 1 18 := ⟨by decide +kernel, rfl⟩
theorem dX0_find_18 : Dd mX0_find.2.1 18 (.iconst 0) 1 19 := ⟨by decide +kernel, rfl⟩
theorem dX0_find_19 : Dd mX0_find.2.1 19 (.invokevirtual 30) 3 22 := ⟨by decide +kernel, rfl⟩
theorem dX0_find_22 : Dd mX0_find.2.1 22 (.ifCond .eq 5) 3 25 := ⟨by decide +kernel, rfl⟩
theorem dX0_find_25 : Dd mX0_find.2.1 25 (.iconst 1) 1 26 := ⟨by decide +kernel, rfl⟩
theorem dX0_find_26 : Dd mX0_find.2.1 26 (.ireturn) 1 27 := ⟨by decide +kernel, rfl⟩
theorem dX0_find_27 : Dd mX0_find.2.1 27 (.iinc 2 1) 3 30 := ⟨by decide +kernel, rfl⟩
theorem dX0_find_30 : Dd mX0_find.2.1 30 (.goto (-28)) 3 33 := ⟨by decide +kernel, rfl⟩
theorem dX0_find_33 : Dd mX0_find.2.1 33 (.iconst 0) 1 34 := ⟨by decide +kernel, rfl⟩
theorem dX0_find_34 : Dd mX0_find.2.1 34 (.ireturn) 1 35 := ⟨by decide +kernel, rfl⟩
theorem dX0_extend_0 : Dd mX0_extend.2.1 0 (.iload_n 2) 1 1 := ⟨by decide +kernel, rfl⟩
theorem dX0_extend_1 : Dd mX0_extend.2.1 1 (.ifCond .lt 17) 3 4 := ⟨by decide +kernel, rfl⟩
theorem dX0_extend_4 : Dd mX0_extend.2.1 4 (.iload_n 2) 1 5 := ⟨by decide +kernel, rfl⟩
theorem dX0_extend_5 : Dd mX0_extend.2.1 5 (.bipush 6) 2 7 := ⟨by decide +kernel, rfl⟩
theorem dX0_extend_7 : Dd mX0_extend.2.1 7 (.if_icmp .ge 11) 3 10 := ⟨by decide +kernel, rfl⟩
theorem dX0_extend_10 : Dd mX0_extend.2.1 10 (.iload_n 2) 1 11 := ⟨by decide +kernel, rfl⟩
theorem dX0_extend_11 : Dd mX0_extend.2.1 11 (.aload_n 0) 1 12 := ⟨by decide +kernel, rfl⟩
theorem dX0_extend_12 : Dd mX0_extend.2.1 12 (.getfield 11) 3 15 := ⟨by decide +kernel, rfl⟩
theorem dX0_extend_15 : Dd mX0_extend.2.1 15 (.if_icmp .lt 25) 3 18 := ⟨by decide +kernel, rfl⟩
theorem dX0_extend_18 : Dd mX0_extend.2.1 18 (.iload_n 2) 1 19 := ⟨by decide +kernel, rfl⟩
theorem dX0_extend_19 : Dd mX0_extend.2.1 19 (.aload_n 0) 1 20 := ⟨by decide +kernel, rfl⟩
theorem dX0_extend_20 : Dd mX0_extend.2.1 20 (.getfield 11) 3 23 := ⟨by decide +kernel, rfl⟩
theorem dX0_extend_23 : Dd mX0_extend.2.1 23 (.if_icmp .ne 15) 3 26 := ⟨by decide +kernel, rfl⟩
theorem dX0_extend_26 : Dd mX0_extend.2.1 26 (.aload_n 0) 1 27 := ⟨by decide +kernel, rfl⟩
theorem dX0_extend_27 : Dd mX0_extend.2.1 27 (.aload_n 1) 1 28 := ⟨by decide +kernel, rfl⟩
theorem dX0_extend_28 : Dd mX0_extend.2.1 28 (.invokevirtual 34) 3 31 := ⟨by decide +kernel, rfl⟩
theorem dX0_extend_31 : Dd mX0_extend.2.1 31 (.ifCond .eq 7) 3 34 := ⟨by decide +kernel, rfl⟩
theorem dX0_extend_34 : Dd mX0_extend.2.1 34 (.iconst 1) 1 35 := ⟨by decide +kernel, rfl⟩
theorem dX0_extend_35 : Dd mX0_extend.2.1 35 (.goto 4) 3 38 := ⟨by decide +kernel, rfl⟩
theorem dX0_extend_38 : Dd mX0_extend.2.1 38 (.iconst 0) 1 39 := ⟨by decide +kernel, rfl⟩
theorem dX0_extend_39 : Dd mX0_extend.2.1 39 (.ireturn) 1 40 := ⟨by decide +kernel, rfl⟩
theorem dX0_extend_40 : Dd mX0_extend.2.1 40 (.iconst 0) 1 41 := ⟨by decide +kernel, rfl⟩
theorem dX0_extend_41 : Dd mX0_extend.2.1 41 (.istore 4) 2 43 := ⟨by decide +kernel, rfl⟩
theorem dX0_extend_43 : Dd mX0_extend.2.1 43 (.iload 4) 2 45 := ⟨by decide +kernel, rfl⟩
theorem dX0_extend_45 : Dd mX0_extend.2.1 45 (.aload_n 1) 1 46 := ⟨by decide +kernel, rfl⟩
theorem dX0_extend_46 : Dd mX0_extend.2.1 46 (.getfield 27) 3 49 := ⟨by decide +kernel, rfl⟩
theorem dX0_extend_49 : Dd mX0_extend.2.1 49 (.if_icmp .ge 86) 3 52 := ⟨by decide +kernel, rfl⟩
theorem dX0_extend_52 : Dd mX0_extend.2.1 52 (.iload_n 3) 1 53 := ⟨by decide +kernel, rfl⟩
theorem dX0_extend_53 : Dd mX0_extend.2.1 53 (.iload 4) 2 55 := ⟨by decide +kernel, rfl⟩
theorem dX0_extend_55 : Dd mX0_extend.2.1 55 (.ishr) 1 56 := ⟨by decide +kernel, rfl⟩
theorem dX0_extend_56 : Dd mX0_extend.2.1 56 (.iconst 1) 1 57 := ⟨by decide +kernel, rfl⟩
theorem dX0_extend_57 : Dd mX0_extend.2.1 57 (.iand) 1 58 := ⟨by decide +kernel, rfl⟩
theorem dX0_extend_58 : Dd mX0_extend.2.1 58 (.iconst 1) 1 59 := ⟨by decide +kernel, rfl⟩
theorem dX0_extend_59 : Dd mX0_extend.2.1 59 (.if_icmp .ne 7) 3 62 := ⟨by decide +kernel, rfl⟩
theorem dX0_extend_62 : Dd mX0_extend.2.1 62 (.iconst 1) 1 63 := ⟨by decide +kernel, rfl⟩
theorem dX0_extend_63 : Dd mX0_extend.2.1 63 (.goto 4) 3 66 := ⟨by decide +kernel, rfl⟩
theorem dX0_extend_66 : Dd mX0_extend.2.1 66 (.iconst 0) 1 67 := ⟨by decide +kernel, rfl⟩
theorem dX0_extend_67 : Dd mX0_extend.2.1 67 (.istore 5) 2 69 := ⟨by decide +kernel, rfl⟩
theorem dX0_extend_69 : Dd mX0_extend.2.1 69 (.iload 5) 2 71 := ⟨by decide +kernel, rfl⟩
theorem dX0_extend_71 : Dd mX0_extend.2.1 71 (.ifCond .ne 58) 3 74 := ⟨by decide +kernel, rfl⟩
theorem dX0_extend_74 : Dd mX0_extend.2.1 74 (.iload_n 2) 1 75 := ⟨by decide +kernel, rfl⟩
theorem dX0_extend_75 : Dd mX0_extend.2.1 75 (.ifCond .le 27) 3 78 := ⟨by decide +kernel, rfl⟩
theorem dX0_extend_78 : Dd mX0_extend.2.1 78 (.aload_n 1) 1 79 := ⟨by decide +kernel, rfl⟩
theorem dX0_extend_79 : Dd mX0_extend.2.1 79 (.aload_n 0) 1 80 := ⟨by decide +kernel, rfl⟩
theorem dX0_extend_80 : Dd mX0_extend.2.1 80 (.getfield 17) 3 83 := ⟨by decide +kernel, rfl⟩
theorem dX0_extend_83 : Dd mX0_extend.2.1 83 (.iload_n 2) 1 84 := ⟨by decide +kernel, rfl⟩
theorem dX0_extend_84 : Dd mX0_extend.2.1 84 (.iconst 1) 1 85 := ⟨by decide +kernel, rfl⟩
theorem dX0_extend_85 : Dd mX0_extend.2.1 85 (.isub) 1 86 := ⟨by decide +kernel, rfl⟩
theorem dX0_extend_86 : Dd mX0_extend.2.1 86 (.iaload) 1 87 := ⟨by decide +kernel, rfl⟩
theorem dX0_extend_87 : Dd mX0_extend.2.1 87 (.invokevirtual 38) 3 90 := ⟨by decide +kernel, rfl⟩
theorem dX0_extend_90 : Dd mX0_extend.2.1 90 (.aload_n 1) 1 91 := ⟨by decide +kernel, rfl⟩
theorem dX0_extend_91 : Dd mX0_extend.2.1 91 (.iload 4) 2 93 := ⟨by decide +kernel, rfl⟩
theorem dX0_extend_93 : Dd mX0_extend.2.1 93 (.invokevirtual 42) 3 96 := ⟨by decide +kernel, rfl⟩
theorem dX0_extend_96 : Dd mX0_extend.2.1 96 (.if_icmp .eq 6) 3 99 := ⟨by decide +kernel, rfl⟩
theorem dX0_extend_99 : Dd mX0_extend.2.1 99 (.goto 30) 3 102 := ⟨by decide +kernel, rfl⟩
theorem dX0_extend_102 : Dd mX0_extend.2.1 102 (.aload_n 0) 1 103 := ⟨by decide +kernel, rfl⟩
theorem dX0_extend_103 : Dd mX0_extend.2.1 103 (.getfield 17) 3 106 := ⟨by decide +kernel, rfl⟩
theorem dX0_extend_106 : Dd mX0_extend.2.1 106 (.iload_n 2) 1 107 := ⟨by decide +kernel, rfl⟩
theorem dX0_extend_107 : Dd mX0_extend.2.1 107 (.iload 4) 2 109 := ⟨by decide +kernel, rfl⟩
theorem dX0_extend_109 : Dd mX0_extend.2.1 109 (.iastore) 1 110 := ⟨by decide +kernel, rfl⟩
theorem dX0_extend_110 : Dd mX0_extend.2.1 110 (.aload_n 0) 1 111 := ⟨by decide +kernel, rfl⟩
theorem dX0_extend_111 : Dd mX0_extend.2.1 111 (.aload_n 1) 1 112 := ⟨by decide +kernel, rfl⟩
theorem dX0_extend_112 : Dd mX0_extend.2.1 112 (.iload_n 2) 1 113 := ⟨by decide +kernel, rfl⟩
theorem dX0_extend_113 : Dd mX0_extend.2.1 113 (.iconst 1) 1 114 := ⟨by decide +kernel, rfl⟩
theorem dX0_extend_114 : Dd mX0_extend.2.1 114 (.iadd) 1 115 := ⟨by decide +kernel, rfl⟩
theorem dX0_extend_115 : Dd mX0_extend.2.1 115 (.iload_n 3) 1 116 := ⟨by decide +kernel, rfl⟩
theorem dX0_extend_116 : Dd mX0_extend.2.1 116 (.iconst 1) 1 117 := ⟨by decide +kernel, rfl⟩
theorem dX0_extend_117 : Dd mX0_extend.2.1 117 (.iload 4) 2 119 := ⟨by decide +kernel, rfl⟩
theorem dX0_extend_119 : Dd mX0_extend.2.1 119 (.ishl) 1 120 := ⟨by decide +kernel, rfl⟩
theorem dX0_extend_120 : Dd mX0_extend.2.1 120 (.ior) 1 121 := ⟨by decide +kernel, rfl⟩
theorem dX0_extend_121 : Dd mX0_extend.2.1 121 (.invokevirtual 30) 3 124 := ⟨by decide +kernel, rfl⟩
theorem dX0_extend_124 : Dd mX0_extend.2.1 124 (.ifCond .eq 5) 3 127 := ⟨by decide +kernel, rfl⟩
theorem dX0_extend_127 : Dd mX0_extend.2.1 127 (.iconst 1) 1 128 := ⟨by decide +kernel, rfl⟩
theorem dX0_extend_128 : Dd mX0_extend.2.1 128 (.ireturn) 1 129 := ⟨by decide +kernel, rfl⟩
theorem dX0_extend_129 : Dd mX0_extend.2.1 129 (.iinc 4 1) 3 132 := ⟨by decide +kernel, rfl⟩
theorem dX0_extend_132 : Dd mX0_extend.2.1 132 (.goto (-89)) 3 135 := ⟨by decide +kernel, rfl⟩
theorem dX0_extend_135 : Dd mX0_extend.2.1 135 (.iconst 0) 1 136 := ⟨by decide +kernel, rfl⟩
theorem dX0_extend_136 : Dd mX0_extend.2.1 136 (.ireturn) 1 137 := ⟨by decide +kernel, rfl⟩
theorem dX0_isGain_0 : Dd mX0_isGain.2.1 0 (.aload_n 0) 1 1 := ⟨by decide +kernel, rfl⟩
theorem dX0_isGain_1 : Dd mX0_isGain.2.1 1 (.aload_n 0) 1 2 := ⟨by decide +kernel, rfl⟩
theorem dX0_isGain_2 : Dd mX0_isGain.2.1 2 (.getfield 11) 3 5 := ⟨by decide +kernel, rfl⟩
theorem dX0_isGain_5 : Dd mX0_isGain.2.1 5 (.iconst 1) 1 6 := ⟨by decide +kernel, rfl⟩
theorem dX0_isGain_6 : Dd mX0_isGain.2.1 6 (.isub) 1 7 := ⟨by decide +kernel, rfl⟩
theorem dX0_isGain_7 : Dd mX0_isGain.2.1 7 (.invokevirtual 45) 3 10 := ⟨by decide +kernel, rfl⟩
theorem dX0_isGain_10 : Dd mX0_isGain.2.1 10 (.istore_n 2) 1 11 := ⟨by decide +kernel, rfl⟩
theorem dX0_isGain_11 : Dd mX0_isGain.2.1 11 (.aload_n 1) 1 12 := ⟨by decide +kernel, rfl⟩
theorem dX0_isGain_12 : Dd mX0_isGain.2.1 12 (.iload_n 2) 1 13 := ⟨by decide +kernel, rfl⟩
theorem dX0_isGain_13 : Dd mX0_isGain.2.1 13 (.invokevirtual 38) 3 16 := ⟨by decide +kernel, rfl⟩
theorem dX0_isGain_16 : Dd mX0_isGain.2.1 16 (.aload_n 1) 1 17 := ⟨by decide +kernel, rfl⟩
theorem dX0_isGain_17 : Dd mX0_isGain.2.1 17 (.aload_n 0) 1 18 := ⟨by decide +kernel, rfl⟩
theorem dX0_isGain_18 : Dd mX0_isGain.2.1 18 (.getfield 17) 3 21 := ⟨by decide +kernel, rfl⟩
theorem dX0_isGain_21 : Dd mX0_isGain.2.1 21 (.iconst 0) 1 22 := ⟨by decide +kernel, rfl⟩
theorem dX0_isGain_22 : Dd mX0_isGain.2.1 22 (.iaload) 1 23 := ⟨by decide +kernel, rfl⟩
theorem dX0_isGain_23 : Dd mX0_isGain.2.1 23 (.invokevirtual 42) 3 26 := ⟨by decide +kernel, rfl⟩
theorem dX0_isGain_26 : Dd mX0_isGain.2.1 26 (.if_icmp .eq 5) 3 29 := ⟨by decide +kernel, rfl⟩
theorem dX0_isGain_29 : Dd mX0_isGain.2.1 29 (.iconst 0) 1 30 := ⟨by decide +kernel, rfl⟩
theorem dX0_isGain_30 : Dd mX0_isGain.2.1 30 (.ireturn) 1 31 := ⟨by decide +kernel, rfl⟩
theorem dX0_isGain_31 : Dd mX0_isGain.2.1 31 (.aload_n 0) 1 32 := ⟨by decide +kernel, rfl⟩
theorem dX0_isGain_32 : Dd mX0_isGain.2.1 32 (.iconst 1) 1 33 := ⟨by decide +kernel, rfl⟩
theorem dX0_isGain_33 : Dd mX0_isGain.2.1 33 (.putfield 21) 3 36 := ⟨by decide +kernel, rfl⟩
theorem dX0_isGain_36 : Dd mX0_isGain.2.1 36 (.aload_n 0) 1 37 := ⟨by decide +kernel, rfl⟩
theorem dX0_isGain_37 : Dd mX0_isGain.2.1 37 (.iconst 1) 1 38 := ⟨by decide +kernel, rfl⟩
theorem dX0_isGain_38 : Dd mX0_isGain.2.1 38 (.putfield 24) 3 41 := ⟨by decide +kernel, rfl⟩
theorem dX0_isGain_41 : Dd mX0_isGain.2.1 41 (.iconst 0) 1 42 := ⟨by decide +kernel, rfl⟩
theorem dX0_isGain_42 : Dd mX0_isGain.2.1 42 (.istore_n 3) 1 43 := ⟨by decide +kernel, rfl⟩
theorem dX0_isGain_43 : Dd mX0_isGain.2.1 43 (.iload_n 3) 1 44 := ⟨by decide +kernel, rfl⟩
theorem dX0_isGain_44 : Dd mX0_isGain.2.1 44 (.aload_n 0) 1 45 := ⟨by decide +kernel, rfl⟩
theorem dX0_isGain_45 : Dd mX0_isGain.2.1 45 (.getfield 11) 3 48 := ⟨by decide +kernel, rfl⟩
theorem dX0_isGain_48 : Dd mX0_isGain.2.1 48 (.if_icmp .ge 53) 3 51 := ⟨by decide +kernel, rfl⟩
theorem dX0_isGain_51 : Dd mX0_isGain.2.1 51 (.iload_n 3) 1 52 := ⟨by decide +kernel, rfl⟩
theorem dX0_isGain_52 : Dd mX0_isGain.2.1 52 (.bipush 6) 2 54 := ⟨by decide +kernel, rfl⟩
theorem dX0_isGain_54 : Dd mX0_isGain.2.1 54 (.if_icmp .ge 47) 3 57 := ⟨by decide +kernel, rfl⟩
theorem dX0_isGain_57 : Dd mX0_isGain.2.1 57 (.aload_n 0) 1 58 := ⟨by decide +kernel, rfl⟩
theorem dX0_isGain_58 : Dd mX0_isGain.2.1 58 (.dup) 1 59 := ⟨by decide +kernel, rfl⟩
theorem dX0_isGain_59 : Dd mX0_isGain.2.1 59 (.getfield 21) 3 62 := ⟨by decide +kernel, rfl⟩
theorem dX0_isGain_62 : Dd mX0_isGain.2.1 62 (.aload_n 1) 1 63 := ⟨by decide +kernel, rfl⟩
theorem dX0_isGain_63 : Dd mX0_isGain.2.1 63 (.aload_n 0) 1 64 := ⟨by decide +kernel, rfl⟩
theorem dX0_isGain_64 : Dd mX0_isGain.2.1 64 (.getfield 17) 3 67 := ⟨by decide +kernel, rfl⟩
theorem dX0_isGain_67 : Dd mX0_isGain.2.1 67 (.iload_n 3) 1 68 := ⟨by decide +kernel, rfl⟩
theorem dX0_isGain_68 : Dd mX0_isGain.2.1 68 (.iaload) 1 69 := ⟨by decide +kernel, rfl⟩
theorem dX0_isGain_69 : Dd mX0_isGain.2.1 69 (.invokevirtual 48) 3 72 := ⟨by decide +kernel, rfl⟩
theorem dX0_isGain_72 : Dd mX0_isGain.2.1 72 (.imul) 1 73 := ⟨by decide +kernel, rfl⟩
theorem dX0_isGain_73 : Dd mX0_isGain.2.1 73 (.putfield 21) 3 76 := ⟨by decide +kernel, rfl⟩
theorem dX0_isGain_76 : Dd mX0_isGain.2.1 76 (.aload_n 0) 1 77 := ⟨by decide +kernel, rfl⟩
theorem dX0_isGain_77 : Dd mX0_isGain.2.1 77 (.dup) 1 78 := ⟨by decide +kernel, rfl⟩
theorem dX0_isGain_78 : Dd mX0_isGain.2.1 78 (.getfield 24) 3 81 := ⟨by decide +kernel, rfl⟩
theorem dX0_isGain_81 : Dd mX0_isGain.2.1 81 (.aload_n 1) 1 82 := ⟨by decide +kernel, rfl⟩
theorem dX0_isGain_82 : Dd mX0_isGain.2.1 82 (.aload_n 0) 1 83 := ⟨by decide +kernel, rfl⟩
theorem dX0_isGain_83 : Dd mX0_isGain.2.1 83 (.getfield 17) 3 86 := ⟨by decide +kernel, rfl⟩
theorem dX0_isGain_86 : Dd mX0_isGain.2.1 86 (.iload_n 3) 1 87 := ⟨by decide +kernel, rfl⟩
theorem dX0_isGain_87 : Dd mX0_isGain.2.1 87 (.iaload) 1 88 := ⟨by decide +kernel, rfl⟩
theorem dX0_isGain_88 : Dd mX0_isGain.2.1 88 (.invokevirtual 51) 3 91 := ⟨by decide +kernel, rfl⟩
theorem dX0_isGain_91 : Dd mX0_isGain.2.1 91 (.imul) 1 92 := ⟨by decide +kernel, rfl⟩
theorem dX0_isGain_92 : Dd mX0_isGain.2.1 92 (.putfield 24) 3 95 := ⟨by decide +kernel, rfl⟩
theorem dX0_isGain_95 : Dd mX0_isGain.2.1 95 (.iinc 3 1) 3 98 := ⟨by decide +kernel, rfl⟩
theorem dX0_isGain_98 : Dd mX0_isGain.2.1 98 (.goto (-55)) 3 101 := ⟨by decide +kernel, rfl⟩
theorem dX0_isGain_101 : Dd mX0_isGain.2.1 101 (.aload_n 0) 1 102 := ⟨by decide +kernel, rfl⟩
theorem dX0_isGain_102 : Dd mX0_isGain.2.1 102 (.getfield 21) 3 105 := ⟨by decide +kernel, rfl⟩
theorem dX0_isGain_105 : Dd mX0_isGain.2.1 105 (.aload_n 0) 1 106 := ⟨by decide +kernel, rfl⟩
theorem dX0_isGain_106 : Dd mX0_isGain.2.1 106 (.getfield 24) 3 109 := ⟨by decide +kernel, rfl⟩
theorem dX0_isGain_109 : Dd mX0_isGain.2.1 109 (.if_icmp .le 7) 3 112 := ⟨by decide +kernel, rfl⟩
theorem dX0_isGain_112 : Dd mX0_isGain.2.1 112 (.iconst 1) 1 113 := ⟨by decide +kernel, rfl⟩
theorem dX0_isGain_113 : Dd mX0_isGain.2.1 113 (.goto 4) 3 116 := ⟨by decide +kernel, rfl⟩
theorem dX0_isGain_116 : Dd mX0_isGain.2.1 116 (.iconst 0) 1 117 := ⟨by decide +kernel, rfl⟩
theorem dX0_isGain_117 : Dd mX0_isGain.2.1 117 (.ireturn) 1 118 := ⟨by decide +kernel, rfl⟩
theorem dX0_above_0 : Dd mX0_above.2.1 0 (.aload_n 0) 1 1 := ⟨by decide +kernel, rfl⟩
theorem dX0_above_1 : Dd mX0_above.2.1 1 (.getfield 21) 3 4 := ⟨by decide +kernel, rfl⟩
theorem dX0_above_4 : Dd mX0_above.2.1 4 (.i2l) 1 5 := ⟨by decide +kernel, rfl⟩
theorem dX0_above_5 : Dd mX0_above.2.1 5 (.aload_n 0) 1 6 := ⟨by decide +kernel, rfl⟩
theorem dX0_above_6 : Dd mX0_above.2.1 6 (.getfield 21) 3 9 := ⟨by decide +kernel, rfl⟩
theorem dX0_above_9 : Dd mX0_above.2.1 9 (.i2l) 1 10 := ⟨by decide +kernel, rfl⟩
theorem dX0_above_10 : Dd mX0_above.2.1 10 (.aload_n 0) 1 11 := ⟨by decide +kernel, rfl⟩
theorem dX0_above_11 : Dd mX0_above.2.1 11 (.getfield 24) 3 14 := ⟨by decide +kernel, rfl⟩
theorem dX0_above_14 : Dd mX0_above.2.1 14 (.i2l) 1 15 := ⟨by decide +kernel, rfl⟩
theorem dX0_above_15 : Dd mX0_above.2.1 15 (.invokestatic 54) 3 18 := ⟨by decide +kernel, rfl⟩
theorem dX0_above_18 : Dd mX0_above.2.1 18 (.ldiv) 1 19 := ⟨by decide +kernel, rfl⟩
theorem dX0_above_19 : Dd mX0_above.2.1 19 (.l2i) 1 20 := ⟨by decide +kernel, rfl⟩
theorem dX0_above_20 : Dd mX0_above.2.1 20 (.ireturn) 1 21 := ⟨by decide +kernel, rfl⟩
theorem dX0_below_0 : Dd mX0_below.2.1 0 (.aload_n 0) 1 1 := ⟨by decide +kernel, rfl⟩
theorem dX0_below_1 : Dd mX0_below.2.1 1 (.getfield 24) 3 4 := ⟨by decide +kernel, rfl⟩
theorem dX0_below_4 : Dd mX0_below.2.1 4 (.i2l) 1 5 := ⟨by decide +kernel, rfl⟩
theorem dX0_below_5 : Dd mX0_below.2.1 5 (.aload_n 0) 1 6 := ⟨by decide +kernel, rfl⟩
theorem dX0_below_6 : Dd mX0_below.2.1 6 (.getfield 21) 3 9 := ⟨by decide +kernel, rfl⟩
theorem dX0_below_9 : Dd mX0_below.2.1 9 (.i2l) 1 10 := ⟨by decide +kernel, rfl⟩
theorem dX0_below_10 : Dd mX0_below.2.1 10 (.aload_n 0) 1 11 := ⟨by decide +kernel, rfl⟩
theorem dX0_below_11 : Dd mX0_below.2.1 11 (.getfield 24) 3 14 := ⟨by decide +kernel, rfl⟩
theorem dX0_below_14 : Dd mX0_below.2.1 14 (.i2l) 1 15 := ⟨by decide +kernel, rfl⟩
theorem dX0_below_15 : Dd mX0_below.2.1 15 (.invokestatic 54) 3 18 := ⟨by decide +kernel, rfl⟩
theorem dX0_below_18 : Dd mX0_below.2.1 18 (.ldiv) 1 19 := ⟨by decide +kernel, rfl⟩
theorem dX0_below_19 : Dd mX0_below.2.1 19 (.l2i) 1 20 := ⟨by decide +kernel, rfl⟩
theorem dX0_below_20 : Dd mX0_below.2.1 20 (.ireturn) 1 21 := ⟨by decide +kernel, rfl⟩
theorem dX0_exchangeAt_0 : Dd mX0_exchangeAt.2.1 0 (.iload_n 1) 1 1 := ⟨by decide +kernel, rfl⟩
theorem dX0_exchangeAt_1 : Dd mX0_exchangeAt.2.1 1 (.ifCond .lt 26) 3 4 := ⟨by decide +kernel, rfl⟩
theorem dX0_exchangeAt_4 : Dd mX0_exchangeAt.2.1 4 (.iload_n 1) 1 5 := ⟨by decide +kernel, rfl⟩
theorem dX0_exchangeAt_5 : Dd mX0_exchangeAt.2.1 5 (.aload_n 0) 1 6 := ⟨by decide +kernel, rfl⟩
theorem dX0_exchangeAt_6 : Dd mX0_exchangeAt.2.1 6 (.getfield 11) 3 9 := ⟨by decide +kernel, rfl⟩
theorem dX0_exchangeAt_9 : Dd mX0_exchangeAt.2.1 9 (.if_icmp .ge 18) 3 12 := ⟨by decide +kernel, rfl⟩
theorem dX0_exchangeAt_12 : Dd mX0_exchangeAt.2.1 12 (.iload_n 1) 1 13 := ⟨by decide +kernel, rfl⟩
theorem dX0_exchangeAt_13 : Dd mX0_exchangeAt.2.1 13 (.bipush 6) 2 15 := ⟨by decide +kernel, rfl⟩
theorem dX0_exchangeAt_15 : Dd mX0_exchangeAt.2.1 15 (.if_icmp .ge 12) 3 18 := ⟨by decide +kernel, rfl⟩
theorem dX0_exchangeAt_18 : Dd mX0_exchangeAt.2.1 18 (.aload_n 0) 1 19 := ⟨by decide +kernel, rfl⟩
theorem dX0_exchangeAt_19 : Dd mX0_exchangeAt.2.1 19 (.getfield 17) 3 22 := ⟨by decide +kernel, rfl⟩
theorem dX0_exchangeAt_22 : Dd mX0_exchangeAt.2.1 22 (.iload_n 1) 1 23 := ⟨by decide +kernel, rfl⟩
theorem dX0_exchangeAt_23 : Dd mX0_exchangeAt.2.1 23 (.iaload) 1 24 := ⟨by decide +kernel, rfl⟩
theorem dX0_exchangeAt_24 : Dd mX0_exchangeAt.2.1 24 (.goto 5) 3 27 := ⟨by decide +kernel, rfl⟩
theorem dX0_exchangeAt_27 : Dd mX0_exchangeAt.2.1 27 (.bipush (-4)) 2 29 := ⟨by decide +kernel, rfl⟩
theorem dX0_exchangeAt_29 : Dd mX0_exchangeAt.2.1 29 (.ireturn) 1 30 := ⟨by decide +kernel, rfl⟩
theorem dX1_init_0 : Dd mX1_init.2.1 0 (.aload_n 0) 1 1 := ⟨by decide +kernel, rfl⟩
theorem dX1_init_1 : Dd mX1_init.2.1 1 (.invokespecial 1) 3 4 := ⟨by decide +kernel, rfl⟩
theorem dX1_init_4 : Dd mX1_init.2.1 4 (.aload_n 0) 1 5 := ⟨by decide +kernel, rfl⟩
theorem dX1_init_5 : Dd mX1_init.2.1 5 (.sipush 200) 3 8 := ⟨by decide +kernel, rfl⟩
theorem dX1_init_8 : Dd mX1_init.2.1 8 (.newarray .int) 2 10 := ⟨by decide +kernel, rfl⟩
theorem dX1_init_10 : Dd mX1_init.2.1 10 (.putfield 9) 3 13 := ⟨by decide +kernel, rfl⟩
theorem dX1_init_13 : Dd mX1_init.2.1 13 (.aload_n 0) 1 14 := ⟨by decide +kernel, rfl⟩
theorem dX1_init_14 : Dd mX1_init.2.1 14 (.iconst 0) 1 15 := ⟨by decide +kernel, rfl⟩
theorem dX1_init_15 : Dd mX1_init.2.1 15 (.putfield 13) 3 18 := ⟨by decide +kernel, rfl⟩
theorem dX1_init_18 : Dd mX1_init.2.1 18 (.return_) 1 19 := ⟨by decide +kernel, rfl⟩
theorem dX1_append_0 : Dd mX1_append.2.1 0 (.aload_n 0) 1 1 := ⟨by decide +kernel, rfl⟩
theorem dX1_append_1 : Dd mX1_append.2.1 1 (.getfield 13) 3 4 := ⟨by decide +kernel, rfl⟩
theorem dX1_append_4 : Dd mX1_append.2.1 4 (.ifCond .lt 13) 3 7 := ⟨by decide +kernel, rfl⟩
theorem dX1_append_7 : Dd mX1_append.2.1 7 (.aload_n 0) 1 8 := ⟨by decide +kernel, rfl⟩
theorem dX1_append_8 : Dd mX1_append.2.1 8 (.getfield 13) 3 11 := ⟨by decide +kernel, rfl⟩
theorem dX1_append_11 : Dd mX1_append.2.1 11 (.sipush 200) 3 14 := ⟨by decide +kernel, rfl⟩
theorem dX1_append_14 : Dd mX1_append.2.1 14 (.if_icmp .lt 5) 3 17 := ⟨by decide +kernel, rfl⟩
theorem dX1_append_17 : Dd mX1_append.2.1 17 (.iconst 0) 1 18 := ⟨by decide +kernel, rfl⟩
theorem dX1_append_18 : Dd mX1_append.2.1 18 (.ireturn) 1 19 := ⟨by decide +kernel, rfl⟩
theorem dX1_append_19 : Dd mX1_append.2.1 19 (.aload_n 0) 1 20 := ⟨by decide +kernel, rfl⟩
theorem dX1_append_20 : Dd mX1_append.2.1 20 (.getfield 9) 3 23 := ⟨by decide +kernel, rfl⟩
theorem dX1_append_23 : Dd mX1_append.2.1 23 (.aload_n 0) 1 24 := ⟨by decide +kernel, rfl⟩
theorem dX1_append_24 : Dd mX1_append.2.1 24 (.getfield 13) 3 27 := ⟨by decide +kernel, rfl⟩
theorem dX1_append_27 : Dd mX1_append.2.1 27 (.iload_n 1) 1 28 := ⟨by decide +kernel, rfl⟩
theorem dX1_append_28 : Dd mX1_append.2.1 28 (.iastore) 1 29 := ⟨by decide +kernel, rfl⟩
theorem dX1_append_29 : Dd mX1_append.2.1 29 (.aload_n 0) 1 30 := ⟨by decide +kernel, rfl⟩
theorem dX1_append_30 : Dd mX1_append.2.1 30 (.dup) 1 31 := ⟨by decide +kernel, rfl⟩
theorem dX1_append_31 : Dd mX1_append.2.1 31 (.getfield 13) 3 34 := ⟨by decide +kernel, rfl⟩
theorem dX1_append_34 : Dd mX1_append.2.1 34 (.iconst 1) 1 35 := ⟨by decide +kernel, rfl⟩
theorem dX1_append_35 : Dd mX1_append.2.1 35 (.iadd) 1 36 := ⟨by decide +kernel, rfl⟩
theorem dX1_append_36 : Dd mX1_append.2.1 36 (.putfield 13) 3 39 := ⟨by decide +kernel, rfl⟩
theorem dX1_append_39 : Dd mX1_append.2.1 39 (.iconst 1) 1 40 := ⟨by decide +kernel, rfl⟩
theorem dX1_append_40 : Dd mX1_append.2.1 40 (.ireturn) 1 41 := ⟨by decide +kernel, rfl⟩
theorem dX1_clear_0 : Dd mX1_clear.2.1 0 (.aload_n 0) 1 1 := ⟨by decide +kernel, rfl⟩
theorem dX1_clear_1 : Dd mX1_clear.2.1 1 (.iconst 0) 1 2 := ⟨by decide +kernel, rfl⟩
theorem dX1_clear_2 : Dd mX1_clear.2.1 2 (.putfield 13) 3 5 := ⟨by decide +kernel, rfl⟩
theorem dX1_clear_5 : Dd mX1_clear.2.1 5 (.return_) 1 6 := ⟨by decide +kernel, rfl⟩
theorem dX1_size_0 : Dd mX1_size.2.1 0 (.aload_n 0) 1 1 := ⟨by decide +kernel, rfl⟩
theorem dX1_size_1 : Dd mX1_size.2.1 1 (.getfield 13) 3 4 := ⟨by decide +kernel, rfl⟩
theorem dX1_size_4 : Dd mX1_size.2.1 4 (.ireturn) 1 5 := ⟨by decide +kernel, rfl⟩
theorem dX1_signAt_0 : Dd mX1_signAt.2.1 0 (.iload_n 1) 1 1 := ⟨by decide +kernel, rfl⟩
theorem dX1_signAt_1 : Dd mX1_signAt.2.1 1 (.ifCond .lt 27) 3 4 := ⟨by decide +kernel, rfl⟩
theorem dX1_signAt_4 : Dd mX1_signAt.2.1 4 (.iload_n 1) 1 5 := ⟨by decide +kernel, rfl⟩
theorem dX1_signAt_5 : Dd mX1_signAt.2.1 5 (.aload_n 0) 1 6 := ⟨by decide +kernel, rfl⟩
theorem dX1_signAt_6 : Dd mX1_signAt.2.1 6 (.getfield 13) 3 9 := ⟨by decide +kernel, rfl⟩
theorem dX1_signAt_9 : Dd mX1_signAt.2.1 9 (.if_icmp .ge 19) 3 12 := ⟨by decide +kernel, rfl⟩
theorem dX1_signAt_12 : Dd mX1_signAt.2.1 12 (.iload_n 1) 1 13 := ⟨by decide +kernel, rfl⟩
theorem dX1_signAt_13 : Dd mX1_signAt.2.1 13 (.sipush 200) 3 16 := ⟨by decide +kernel, rfl⟩
theorem dX1_signAt_16 : Dd mX1_signAt.2.1 16 (.if_icmp .ge 12) 3 19 := ⟨by decide +kernel, rfl⟩
theorem dX1_signAt_19 : Dd mX1_signAt.2.1 19 (.aload_n 0) 1 20 := ⟨by decide +kernel, rfl⟩
theorem dX1_signAt_20 : Dd mX1_signAt.2.1 20 (.getfield 9) 3 23 := ⟨by decide +kernel, rfl⟩
theorem dX1_signAt_23 : Dd mX1_signAt.2.1 23 (.iload_n 1) 1 24 := ⟨by decide +kernel, rfl⟩
theorem dX1_signAt_24 : Dd mX1_signAt.2.1 24 (.iaload) 1 25 := ⟨by decide +kernel, rfl⟩
theorem dX1_signAt_25 : Dd mX1_signAt.2.1 25 (.goto 4) 3 28 := ⟨by decide +kernel, rfl⟩
theorem dX1_signAt_28 : Dd mX1_signAt.2.1 28 (.iconst (-1)) 1 29 := ⟨by decide +kernel, rfl⟩
theorem dX1_signAt_29 : Dd mX1_signAt.2.1 29 (.ireturn) 1 30 := ⟨by decide +kernel, rfl⟩
theorem dX2_init_0 : Dd mX2_init.2.1 0 (.aload_n 0) 1 1 := ⟨by decide +kernel, rfl⟩
theorem dX2_init_1 : Dd mX2_init.2.1 1 (.invokespecial 1) 3 4 := ⟨by decide +kernel, rfl⟩
theorem dX2_init_4 : Dd mX2_init.2.1 4 (.aload_n 0) 1 5 := ⟨by decide +kernel, rfl⟩
theorem dX2_init_5 : Dd mX2_init.2.1 5 (.iconst 0) 1 6 := ⟨by decide +kernel, rfl⟩
theorem dX2_init_6 : Dd mX2_init.2.1 6 (.putfield 7) 3 9 := ⟨by decide +kernel, rfl⟩
theorem dX2_init_9 : Dd mX2_init.2.1 9 (.aload_n 0) 1 10 := ⟨by decide +kernel, rfl⟩
theorem dX2_init_10 : Dd mX2_init.2.1 10 (.iconst 1) 1 11 := ⟨by decide +kernel, rfl⟩
theorem dX2_init_11 : Dd mX2_init.2.1 11 (.iload_n 1) 1 12 := ⟨by decide +kernel, rfl⟩
theorem dX2_init_12 : Dd mX2_init.2.1 12 (.invokestatic 13) 3 15 := ⟨by decide +kernel, rfl⟩
theorem dX2_init_15 : Dd mX2_init.2.1 15 (.anewarray 19) 3 18 := ⟨by decide +kernel, rfl⟩
theorem dX2_init_18 : Dd mX2_init.2.1 18 (.putfield 21) 3 21 := ⟨by decide +kernel, rfl⟩
theorem dX2_init_21 : Dd mX2_init.2.1 21 (.iconst 0) 1 22 := ⟨by decide +kernel, rfl⟩
theorem dX2_init_22 : Dd mX2_init.2.1 22 (.istore_n 2) 1 23 := ⟨by decide +kernel, rfl⟩
theorem dX2_init_23 : Dd mX2_init.2.1 23 (.iload_n 2) 1 24 := ⟨by decide +kernel, rfl⟩
theorem dX2_init_24 : Dd mX2_init.2.1 24 (.aload_n 0) 1 25 := ⟨by decide +kernel, rfl⟩
theorem dX2_init_25 : Dd mX2_init.2.1 25 (.getfield 21) 3 28 := ⟨by decide +kernel, rfl⟩
theorem dX2_init_28 : Dd mX2_init.2.1 28 (.arraylength) 1 29 := ⟨by decide +kernel, rfl⟩
theorem dX2_init_29 : Dd mX2_init.2.1 29 (.if_icmp .ge 22) 3 32 := ⟨by decide +kernel, rfl⟩
theorem dX2_init_32 : Dd mX2_init.2.1 32 (.aload_n 0) 1 33 := ⟨by decide +kernel, rfl⟩
theorem dX2_init_33 : Dd mX2_init.2.1 33 (.getfield 21) 3 36 := ⟨by decide +kernel, rfl⟩
theorem dX2_init_36 : Dd mX2_init.2.1 36 (.iload_n 2) 1 37 := ⟨by decide +kernel, rfl⟩
theorem dX2_init_37 : Dd mX2_init.2.1 37 (.new 19) 3 40 := ⟨by decide +kernel, rfl⟩
theorem dX2_init_40 : Dd mX2_init.2.1 40 (.dup) 1 41 := ⟨by decide +kernel, rfl⟩
theorem dX2_init_41 : Dd mX2_init.2.1 41 (.invokespecial 25) 3 44 := ⟨by decide +kernel, rfl⟩
theorem dX2_init_44 : Dd mX2_init.2.1 44 (.aastore) 1 45 := ⟨by decide +kernel, rfl⟩
theorem dX2_init_45 : Dd mX2_init.2.1 45 (.iinc 2 1) 3 48 := ⟨by decide +kernel, rfl⟩
theorem dX2_init_48 : Dd mX2_init.2.1 48 (.goto (-25)) 3 51 := ⟨by decide +kernel, rfl⟩
theorem dX2_init_51 : Dd mX2_init.2.1 51 (.return_) 1 52 := ⟨by decide +kernel, rfl⟩
theorem dX2_size_0 : Dd mX2_size.2.1 0 (.aload_n 0) 1 1 := ⟨by decide +kernel, rfl⟩
theorem dX2_size_1 : Dd mX2_size.2.1 1 (.getfield 7) 3 4 := ⟨by decide +kernel, rfl⟩
theorem dX2_size_4 : Dd mX2_size.2.1 4 (.ireturn) 1 5 := ⟨by decide +kernel, rfl⟩
theorem dX2_clear_0 : Dd mX2_clear.2.1 0 (.aload_n 0) 1 1 := ⟨by decide +kernel, rfl⟩
theorem dX2_clear_1 : Dd mX2_clear.2.1 1 (.iconst 0) 1 2 := ⟨by decide +kernel, rfl⟩
theorem dX2_clear_2 : Dd mX2_clear.2.1 2 (.putfield 7) 3 5 := ⟨by decide +kernel, rfl⟩
theorem dX2_clear_5 : Dd mX2_clear.2.1 5 (.return_) 1 6 := ⟨by decide +kernel, rfl⟩
theorem dX2_push_0 : Dd mX2_push.2.1 0 (.aload_n 0) 1 1 := ⟨by decide +kernel, rfl⟩
theorem dX2_push_1 : Dd mX2_push.2.1 1 (.getfield 7) 3 4 := ⟨by decide +kernel, rfl⟩
theorem dX2_push_4 : Dd mX2_push.2.1 4 (.aload_n 0) 1 5 := ⟨by decide +kernel, rfl⟩
theorem dX2_push_5 : Dd mX2_push.2.1 5 (.getfield 21) 3 8 := ⟨by decide +kernel, rfl⟩
theorem dX2_push_8 : Dd mX2_push.2.1 8 (.arraylength) 1 9 := ⟨by decide +kernel, rfl⟩
theorem dX2_push_9 : Dd mX2_push.2.1 9 (.if_icmp .lt 7) 3 12 := ⟨by decide +kernel, rfl⟩
theorem dX2_push_12 : Dd mX2_push.2.1 12 (.aload_n 0) 1 13 := ⟨by decide +kernel, rfl⟩
theorem dX2_push_13 : Dd mX2_push.2.1 13 (.invokevirtual 26) 3 16 := ⟨by decide +kernel, rfl⟩
theorem dX2_push_16 : Dd mX2_push.2.1 16 (.aload_n 0) 1 17 := ⟨by decide +kernel, rfl⟩
theorem dX2_push_17 : Dd mX2_push.2.1 17 (.getfield 7) 3 20 := ⟨by decide +kernel, rfl⟩
theorem dX2_push_20 : Dd mX2_push.2.1 20 (.ifCond .lt 50) 3 23 := ⟨by decide +kernel, rfl⟩
theorem dX2_push_23 : Dd mX2_push.2.1 23 (.aload_n 0) 1 24 := ⟨by decide +kernel, rfl⟩
theorem dX2_push_24 : Dd mX2_push.2.1 24 (.getfield 7) 3 27 := ⟨by decide +kernel, rfl⟩
theorem dX2_push_27 : Dd mX2_push.2.1 27 (.aload_n 0) 1 28 := ⟨by decide +kernel, rfl⟩
theorem dX2_push_28 : Dd mX2_push.2.1 28 (.getfield 21) 3 31 := ⟨by decide +kernel, rfl⟩
theorem dX2_push_31 : Dd mX2_push.2.1 31 (.arraylength) 1 32 := ⟨by decide +kernel, rfl⟩
theorem dX2_push_32 : Dd mX2_push.2.1 32 (.if_icmp .ge 38) 3 35 := ⟨by decide +kernel, rfl⟩
theorem dX2_push_35 : Dd mX2_push.2.1 35 (.aload_n 0) 1 36 := ⟨by decide +kernel, rfl⟩
theorem dX2_push_36 : Dd mX2_push.2.1 36 (.getfield 21) 3 39 := ⟨by decide +kernel, rfl⟩
theorem dX2_push_39 : Dd mX2_push.2.1 39 (.aload_n 0) 1 40 := ⟨by decide +kernel, rfl⟩
theorem dX2_push_40 : Dd mX2_push.2.1 40 (.getfield 7) 3 43 := ⟨by decide +kernel, rfl⟩
theorem dX2_push_43 : Dd mX2_push.2.1 43 (.aaload) 1 44 := ⟨by decide +kernel, rfl⟩
theorem dX2_push_44 : Dd mX2_push.2.1 44 (.ifnull 26) 3 47 := ⟨by decide +kernel, rfl⟩
theorem dX2_push_47 : Dd mX2_push.2.1 47 (.aload_n 0) 1 48 := ⟨by decide +kernel, rfl⟩
theorem dX2_push_48 : Dd mX2_push.2.1 48 (.getfield 21) 3 51 := ⟨by decide +kernel, rfl⟩
theorem dX2_push_51 : Dd mX2_push.2.1 51 (.aload_n 0) 1 52 := ⟨by decide +kernel, rfl⟩
theorem dX2_push_52 : Dd mX2_push.2.1 52 (.getfield 7) 3 55 := ⟨by decide +kernel, rfl⟩
theorem dX2_push_55 : Dd mX2_push.2.1 55 (.aaload) 1 56 := ⟨by decide +kernel, rfl⟩
theorem dX2_push_56 : Dd mX2_push.2.1 56 (.aload_n 1) 1 57 := ⟨by decide +kernel, rfl⟩
theorem dX2_push_57 : Dd mX2_push.2.1 57 (.invokevirtual 29) 3 60 := ⟨by decide +kernel, rfl⟩
theorem dX2_push_60 : Dd mX2_push.2.1 60 (.aload_n 0) 1 61 := ⟨by decide +kernel, rfl⟩
theorem dX2_push_61 : Dd mX2_push.2.1 61 (.dup) 1 62 := ⟨by decide +kernel, rfl⟩
theorem dX2_push_62 : Dd mX2_push.2.1 62 (.getfield 7) 3 65 := ⟨by decide +kernel, rfl⟩
theorem dX2_push_65 : Dd mX2_push.2.1 65 (.iconst 1) 1 66 := ⟨by decide +kernel, rfl⟩
theorem dX2_push_66 : Dd mX2_push.2.1 66 (.iadd) 1 67 := ⟨by decide +kernel, rfl⟩
theorem dX2_push_67 : Dd mX2_push.2.1 67 (.putfield 7) 3 70 := ⟨by decide +kernel, rfl⟩
theorem dX2_push_70 : Dd mX2_push.2.1 70 (.return_) 1 71 := ⟨by decide +kernel, rfl⟩
theorem dX2_forgetOldest_0 : Dd mX2_forgetOldest.2.1 0 (.aload_n 0) 1 1 := ⟨by decide +kernel, rfl⟩
theorem dX2_forgetOldest_1 : Dd mX2_forgetOldest.2.1 1 (.getfield 21) 3 4 := ⟨by decide +kernel, rfl⟩
theorem dX2_forgetOldest_4 : Dd mX2_forgetOldest.2.1 4 (.iconst 0) 1 5 := ⟨by decide +kernel, rfl⟩
theorem dX2_forgetOldest_5 : Dd mX2_forgetOldest.2.1 5 (.aaload) 1 6 := ⟨by decide +kernel, rfl⟩
theorem dX2_forgetOldest_6 : Dd mX2_forgetOldest.2.1 6 (.astore_n 1) 1 7 := ⟨by decide +kernel, rfl⟩
theorem dX2_forgetOldest_7 : Dd mX2_forgetOldest.2.1 7 (.iconst 1) 1 8 := ⟨by decide +kernel, rfl⟩
theorem dX2_forgetOldest_8 : Dd mX2_forgetOldest.2.1 8 (.istore_n 2) 1 9 := ⟨by decide +kernel, rfl⟩
theorem dX2_forgetOldest_9 : Dd mX2_forgetOldest.2.1 9 (.iload_n 2) 1 10 := ⟨by decide +kernel, rfl⟩
theorem dX2_forgetOldest_10 : Dd mX2_forgetOldest.2.1 10 (.aload_n 0) 1 11 := ⟨by decide +kernel, rfl⟩
theorem dX2_forgetOldest_11 : Dd mX2_forgetOldest.2.1 11 (.getfield 21) 3 14 := ⟨by decide +kernel, rfl⟩
theorem dX2_forgetOldest_14 : Dd mX2_forgetOldest.2.1 14 (.arraylength) 1 15 := ⟨by decide +kernel, rfl⟩
theorem dX2_forgetOldest_15 : Dd mX2_forgetOldest.2.1 15 (.if_icmp .ge 23) 3 18 := ⟨by decide +kernel, rfl⟩
theorem dX2_forgetOldest_18 : Dd mX2_forgetOldest.2.1 18 (.aload_n 0) 1 19 := ⟨by decide +kernel, rfl⟩
theorem dX2_forgetOldest_19 : Dd mX2_forgetOldest.2.1 19 (.getfield 21) 3 22 := ⟨by decide +kernel, rfl⟩
theorem dX2_forgetOldest_22 : Dd mX2_forgetOldest.2.1 22 (.iload_n 2) 1 23 := ⟨by decide +kernel, rfl⟩
theorem dX2_forgetOldest_23 : Dd mX2_forgetOldest.2.1 23 (.iconst 1) 1 24 := ⟨by decide +kernel, rfl⟩
theorem dX2_forgetOldest_24 : Dd mX2_forgetOldest.2.1 24 (.isub) 1 25 := ⟨by decide +kernel, rfl⟩
theorem dX2_forgetOldest_25 : Dd mX2_forgetOldest.2.1 25 (.aload_n 0) 1 26 := ⟨by decide +kernel, rfl⟩
theorem dX2_forgetOldest_26 : Dd mX2_forgetOldest.2.1 26 (.getfield 21) 3 29 := ⟨by decide +kernel, rfl⟩
theorem dX2_forgetOldest_29 : Dd mX2_forgetOldest.2.1 29 (.iload_n 2) 1 30 := ⟨by decide +kernel, rfl⟩
theorem dX2_forgetOldest_30 : Dd mX2_forgetOldest.2.1 30 (.aaload) 1 31 := ⟨by decide +kernel, rfl⟩
theorem dX2_forgetOldest_31 : Dd mX2_forgetOldest.2.1 31 (.aastore) 1 32 := ⟨by decide +kernel, rfl⟩
theorem dX2_forgetOldest_32 : Dd mX2_forgetOldest.2.1 32 (.iinc 2 1) 3 35 := ⟨by decide +kernel, rfl⟩
theorem dX2_forgetOldest_35 : Dd mX2_forgetOldest.2.1 35 (.goto (-26)) 3 38 := ⟨by decide +kernel, rfl⟩
theorem dX2_forgetOldest_38 : Dd mX2_forgetOldest.2.1 38 (.aload_n 0) 1 39 := ⟨by decide +kernel, rfl⟩
theorem dX2_forgetOldest_39 : Dd mX2_forgetOldest.2.1 39 (.getfield 21) 3 42 := ⟨by decide +kernel, rfl⟩
theorem dX2_forgetOldest_42 : Dd mX2_forgetOldest.2.1 42 (.aload_n 0) 1 43 := ⟨by decide +kernel, rfl⟩
theorem dX2_forgetOldest_43 : Dd mX2_forgetOldest.2.1 43 (.getfield 21) 3 46 := ⟨by decide +kernel, rfl⟩
theorem dX2_forgetOldest_46 : Dd mX2_forgetOldest.2.1 46 (.arraylength) 1 47 := ⟨by decide +kernel, rfl⟩
theorem dX2_forgetOldest_47 : Dd mX2_forgetOldest.2.1 47 (.iconst 1) 1 48 := ⟨by decide +kernel, rfl⟩
theorem dX2_forgetOldest_48 : Dd mX2_forgetOldest.2.1 48 (.isub) 1 49 := ⟨by decide +kernel, rfl⟩
theorem dX2_forgetOldest_49 : Dd mX2_forgetOldest.2.1 49 (.aload_n 1) 1 50 := ⟨by decide +kernel, rfl⟩
theorem dX2_forgetOldest_50 : Dd mX2_forgetOldest.2.1 50 (.aastore) 1 51 := ⟨by decide +kernel, rfl⟩
theorem dX2_forgetOldest_51 : Dd mX2_forgetOldest.2.1 51 (.aload_n 0) 1 52 := ⟨by decide +kernel, rfl⟩
theorem dX2_forgetOldest_52 : Dd mX2_forgetOldest.2.1 52 (.aload_n 0) 1 53 := ⟨by decide +kernel, rfl⟩
theorem dX2_forgetOldest_53 : Dd mX2_forgetOldest.2.1 53 (.getfield 21) 3 56 := ⟨by decide +kernel, rfl⟩
theorem dX2_forgetOldest_56 : Dd mX2_forgetOldest.2.1 56 (.arraylength) 1 57 := ⟨by decide +kernel, rfl⟩
theorem dX2_forgetOldest_57 : Dd mX2_forgetOldest.2.1 57 (.iconst 1) 1 58 := ⟨by decide +kernel, rfl⟩
theorem dX2_forgetOldest_58 : Dd mX2_forgetOldest.2.1 58 (.isub) 1 59 := ⟨by decide +kernel, rfl⟩
theorem dX2_forgetOldest_59 : Dd mX2_forgetOldest.2.1 59 (.putfield 7) 3 62 := ⟨by decide +kernel, rfl⟩
theorem dX2_forgetOldest_62 : Dd mX2_forgetOldest.2.1 62 (.return_) 1 63 := ⟨by decide +kernel, rfl⟩
theorem dX2_popInto_0 : Dd mX2_popInto.2.1 0 (.aload_n 0) 1 1 := ⟨by decide +kernel, rfl⟩
theorem dX2_popInto_1 : Dd mX2_popInto.2.1 1 (.getfield 7) 3 4 := ⟨by decide +kernel, rfl⟩
theorem dX2_popInto_4 : Dd mX2_popInto.2.1 4 (.iconst 1) 1 5 := ⟨by decide +kernel, rfl⟩
theorem dX2_popInto_5 : Dd mX2_popInto.2.1 5 (.isub) 1 6 := ⟨by decide +kernel, rfl⟩
theorem dX2_popInto_6 : Dd mX2_popInto.2.1 6 (.istore_n 2) 1 7 := ⟨by decide +kernel, rfl⟩
theorem dX2_popInto_7 : Dd mX2_popInto.2.1 7 (.iload_n 2) 1 8 := ⟨by decide +kernel, rfl⟩
theorem dX2_popInto_8 : Dd mX2_popInto.2.1 8 (.ifCond .lt 21) 3 11 := ⟨by decide +kernel, rfl⟩
theorem dX2_popInto_11 : Dd mX2_popInto.2.1 11 (.iload_n 2) 1 12 := ⟨by decide +kernel, rfl⟩
theorem dX2_popInto_12 : Dd mX2_popInto.2.1 12 (.aload_n 0) 1 13 := ⟨by decide +kernel, rfl⟩
theorem dX2_popInto_13 : Dd mX2_popInto.2.1 13 (.getfield 21) 3 16 := ⟨by decide +kernel, rfl⟩
theorem dX2_popInto_16 : Dd mX2_popInto.2.1 16 (.arraylength) 1 17 := ⟨by decide +kernel, rfl⟩
theorem dX2_popInto_17 : Dd mX2_popInto.2.1 17 (.if_icmp .ge 12) 3 20 := ⟨by decide +kernel, rfl⟩
theorem dX2_popInto_20 : Dd mX2_popInto.2.1 20 (.aload_n 0) 1 21 := ⟨by decide +kernel, rfl⟩
theorem dX2_popInto_21 : Dd mX2_popInto.2.1 21 (.getfield 21) 3 24 := ⟨by decide +kernel, rfl⟩
theorem dX2_popInto_24 : Dd mX2_popInto.2.1 24 (.iload_n 2) 1 25 := ⟨by decide +kernel, rfl⟩
theorem dX2_popInto_25 : Dd mX2_popInto.2.1 25 (.aaload) 1 26 := ⟨by decide +kernel, rfl⟩
theorem dX2_popInto_26 : Dd mX2_popInto.2.1 26 (.ifnonnull 5) 3 29 := ⟨by decide +kernel, rfl⟩
theorem dX2_popInto_29 : Dd mX2_popInto.2.1 29 (.iconst 0) 1 30 := ⟨by decide +kernel, rfl⟩
theorem dX2_popInto_30 : Dd mX2_popInto.2.1 30 (.ireturn) 1 31 := ⟨by decide +kernel, rfl⟩
theorem dX2_popInto_31 : Dd mX2_popInto.2.1 31 (.aload_n 1) 1 32 := ⟨by decide +kernel, rfl⟩
theorem dX2_popInto_32 : Dd mX2_popInto.2.1 32 (.aload_n 0) 1 33 := ⟨by decide +kernel, rfl⟩
theorem dX2_popInto_33 : Dd mX2_popInto.2.1 33 (.getfield 21) 3 36 := ⟨by decide +kernel, rfl⟩
theorem dX2_popInto_36 : Dd mX2_popInto.2.1 36 (.iload_n 2) 1 37 := ⟨by decide +kernel, rfl⟩
theorem dX2_popInto_37 : Dd mX2_popInto.2.1 37 (.aaload) 1 38 := ⟨by decide +kernel, rfl⟩
theorem dX2_popInto_38 : Dd mX2_popInto.2.1 38 (.invokevirtual 29) 3 41 := ⟨by decide +kernel, rfl⟩
theorem dX2_popInto_41 : Dd mX2_popInto.2.1 41 (.aload_n 0) 1 42 := ⟨by decide +kernel, rfl⟩
theorem dX2_popInto_42 : Dd mX2_popInto.2.1 42 (.iload_n 2) 1 43 := ⟨by decide +kernel, rfl⟩
theorem dX2_popInto_43 : Dd mX2_popInto.2.1 43 (.putfield 7) 3 46 := ⟨by decide +kernel, rfl⟩
theorem dX2_popInto_46 : Dd mX2_popInto.2.1 46 (.iconst 1) 1 47 := ⟨by decide +kernel, rfl⟩
theorem dX2_popInto_47 : Dd mX2_popInto.2.1 47 (.ireturn) 1 48 := ⟨by decide +kernel, rfl⟩
theorem dX3_init_0 : Dd mX3_init.2.1 0 (.aload_n 0) 1 1 := ⟨by decide +kernel, rfl⟩
theorem dX3_init_1 : Dd mX3_init.2.1 1 (.invokespecial 5) 3 4 := ⟨by decide +kernel, rfl⟩
theorem dX3_init_4 : Dd mX3_init.2.1 4 (.aload_n 0) 1 5 := ⟨by decide +kernel, rfl⟩
theorem dX3_init_5 : Dd mX3_init.2.1 5 (.iconst 0) 1 6 := ⟨by decide +kernel, rfl⟩
theorem dX3_init_6 : Dd mX3_init.2.1 6 (.putfield 11) 3 9 := ⟨by decide +kernel, rfl⟩
theorem dX3_init_9 : Dd mX3_init.2.1 9 (.aload_n 0) 1 10 := ⟨by decide +kernel, rfl⟩
theorem dX3_init_10 : Dd mX3_init.2.1 10 (.iconst 0) 1 11 := ⟨by decide +kernel, rfl⟩
theorem dX3_init_11 : Dd mX3_init.2.1 11 (.putfield 17) 3 14 := ⟨by decide +kernel, rfl⟩
theorem dX3_init_14 : Dd mX3_init.2.1 14 (.aload_n 0) 1 15 := ⟨by decide +kernel, rfl⟩
theorem dX3_init_15 : Dd mX3_init.2.1 15 (.iconst 0) 1 16 := ⟨by decide +kernel, rfl⟩
theorem dX3_init_16 : Dd mX3_init.2.1 16 (.putfield 20) 3 19 := ⟨by decide +kernel, rfl⟩
theorem dX3_init_19 : Dd mX3_init.2.1 19 (.aload_n 0) 1 20 := ⟨by decide +kernel, rfl⟩
theorem dX3_init_20 : Dd mX3_init.2.1 20 (.iconst 0) 1 21 := ⟨by decide +kernel, rfl⟩
theorem dX3_init_21 : Dd mX3_init.2.1 21 (.putfield 23) 3 24 := ⟨by decide +kernel, rfl⟩
theorem dX3_init_24 : Dd mX3_init.2.1 24 (.aload_n 0) 1 25 := ⟨by decide +kernel, rfl⟩
theorem dX3_init_25 : Dd mX3_init.2.1 25 (.iconst 4) 1 26 := ⟨by decide +kernel, rfl⟩
theorem dX3_init_26 : Dd mX3_init.2.1 26 (.newarray .int) 2 28 := ⟨by decide +kernel, rfl⟩
theorem dX3_init_28 : Dd mX3_init.2.1 28 (.putfield 26) 3 31 := ⟨by decide +kernel, rfl⟩
theorem dX3_init_31 : Dd mX3_init.2.1 31 (.aload_n 0) 1 32 := ⟨by decide +kernel, rfl⟩
theorem dX3_init_32 : Dd mX3_init.2.1 32 (.iconst 4) 1 33 := ⟨by decide +kernel, rfl⟩
theorem dX3_init_33 : Dd mX3_init.2.1 33 (.newarray .int) 2 35 := ⟨by decide +kernel, rfl⟩
theorem dX3_init_35 : Dd mX3_init.2.1 35 (.putfield 30) 3 38 := ⟨by decide +kernel, rfl⟩
theorem dX3_init_38 : Dd mX3_init.2.1 38 (.aload_n 0) 1 39 := ⟨by decide +kernel, rfl⟩
theorem dX3_init_39 : Dd mX3_init.2.1 39 (.iconst 4) 1 40 := ⟨by decide +kernel, rfl⟩
theorem dX3_init_40 : Dd mX3_init.2.1 40 (.newarray .int) 2 42 := ⟨by decide +kernel, rfl⟩
theorem dX3_init_42 : Dd mX3_init.2.1 42 (.putfield 33) 3 45 := ⟨by decide +kernel, rfl⟩
theorem dX3_init_45 : Dd mX3_init.2.1 45 (.aload_n 0) 1 46 := ⟨by decide +kernel, rfl⟩
theorem dX3_init_46 : Dd mX3_init.2.1 46 (.iconst 5) 1 47 := ⟨by decide +kernel, rfl⟩
theorem dX3_init_47 : Dd mX3_init.2.1 47 (.newarray .int) 2 49 := ⟨by decide +kernel, rfl⟩
theorem dX3_init_49 : Dd mX3_init.2.1 49 (.putfield 36) 3 52 := ⟨by decide +kernel, rfl⟩
theorem dX3_init_52 : Dd mX3_init.2.1 52 (.aload_n 0) 1 53 := ⟨by decide +kernel, rfl⟩
theorem dX3_init_53 : Dd mX3_init.2.1 53 (.sipush 1024) 3 56 := ⟨by decide +kernel, rfl⟩
theorem dX3_init_56 : Dd mX3_init.2.1 56 (.newarray .int) 2 58 := ⟨by decide +kernel, rfl⟩
theorem dX3_init_58 : Dd mX3_init.2.1 58 (.putfield 39) 3 61 := ⟨by decide +kernel, rfl⟩
theorem dX3_init_61 : Dd mX3_init.2.1 61 (.aload_n 0) 1 62 := ⟨by decide +kernel, rfl⟩
theorem dX3_init_62 : Dd mX3_init.2.1 62 (.sipush 1024) 3 65 := ⟨by decide +kernel, rfl⟩
theorem dX3_init_65 : Dd mX3_init.2.1 65 (.newarray .int) 2 67 := ⟨by decide +kernel, rfl⟩
theorem dX3_init_67 : Dd mX3_init.2.1 67 (.putfield 42) 3 70 := ⟨by decide +kernel, rfl⟩
theorem dX3_init_70 : Dd mX3_init.2.1 70 (.aload_n 0) 1 71 := ⟨by decide +kernel, rfl⟩
theorem dX3_init_71 : Dd mX3_init.2.1 71 (.iconst 0) 1 72 := ⟨by decide +kernel, rfl⟩
theorem dX3_init_72 : Dd mX3_init.2.1 72 (.putfield 45) 3 75 := ⟨by decide +kernel, rfl⟩
theorem dX3_init_75 : Dd mX3_init.2.1 75 (.aload_n 0) 1 76 := ⟨by decide +kernel, rfl⟩
theorem dX3_init_76 : Dd mX3_init.2.1 76 (.aload_n 1) 1 77 := ⟨by decide +kernel, rfl⟩
theorem dX3_init_77 : Dd mX3_init.2.1 77 (.putfield 48) 3 80 := ⟨by decide +kernel, rfl⟩
theorem dX3_init_80 : Dd mX3_init.2.1 80 (.return_) 1 81 := ⟨by decide +kernel, rfl⟩
theorem dX3_findLeast_0 : Dd mX3_findLeast.2.1 0 (.aload_n 0) 1 1 := ⟨by decide +kernel, rfl⟩
theorem dX3_findLeast_1 : Dd mX3_findLeast.2.1 1 (.getfield 48) 3 4 := ⟨by decide +kernel, rfl⟩
theorem dX3_findLeast_4 : Dd mX3_findLeast.2.1 4 (.iload_n 2) 1 5 := ⟨by decide +kernel, rfl⟩
theorem dX3_findLeast_5 : Dd mX3_findLeast.2.1 5 (.invokevirtual 52) 3 8 := ⟨by decide +kernel, rfl⟩
theorem dX3_findLeast_8 : Dd mX3_findLeast.2.1 8 (.istore_n 3) 1 9 := ⟨by decide +kernel, rfl⟩
theorem dX3_findLeast_9 : Dd mX3_findLeast.2.1 9 (.iconst 0) 1 10 := ⟨by decide +kernel, rfl⟩
theorem dX3_findLeast_10 : Dd mX3_findLeast.2.1 10 (.istore 4) 2 12 := ⟨by decide +kernel, rfl⟩
theorem dX3_findLeast_12 : Dd mX3_findLeast.2.1 12 (.iconst 1) 1 13 := ⟨by decide +kernel, rfl⟩
theorem dX3_findLeast_13 : Dd mX3_findLeast.2.1 13 (.istore 5) 2 15 := ⟨by decide +kernel, rfl⟩
theorem dX3_findLeast_15 : Dd mX3_findLeast.2.1 15 (.iload 5) 2 17 := ⟨by decide +kernel, rfl⟩
theorem dX3_findLeast_17 : Dd mX3_findLeast.2.1 17 (.aload_n 0) 1 18 := ⟨by decide +kernel, rfl⟩
theorem dX3_findLeast_18 : Dd mX3_findLeast.2.1 18 (.getfield 48) 3 21 := ⟨by decide +kernel, rfl⟩
theorem dX3_findLeast_21 : Dd mX3_findLeast.2.1 21 (.getfield 56) 3 24 := ⟨by decide +kernel, rfl⟩
theorem dX3_findLeast_24 : Dd mX3_findLeast.2.1 24 (.if_icmp .ge 84) 3 27 := ⟨by decide +kernel, rfl⟩
theorem dX3_findLeast_27 : Dd mX3_findLeast.2.1 27 (.iload 5) 2 29 := ⟨by decide +kernel, rfl⟩
theorem dX3_findLeast_29 : Dd mX3_findLeast.2.1 29 (.iload_n 3) 1 30 := ⟨by decide +kernel, rfl⟩
theorem dX3_findLeast_30 : Dd mX3_findLeast.2.1 30 (.iconst (-1)) 1 31 := ⟨by decide +kernel, rfl⟩
theorem dX3_findLeast_31 : Dd mX3_findLeast.2.1 31 (.ixor) 1 32 := ⟨by decide +kernel, rfl⟩
theorem dX3_findLeast_32 : Dd mX3_findLeast.2.1 32 (.iand) 1 33 := ⟨by decide +kernel, rfl⟩
theorem dX3_findLeast_33 : Dd mX3_findLeast.2.1 33 (.ifCond .ne 69) 3 36 := ⟨by decide +kernel, rfl⟩
theorem dX3_findLeast_36 : Dd mX3_findLeast.2.1 36 (.aload_n 0) 1 37 := ⟨by decide +kernel, rfl⟩
theorem dX3_findLeast_37 : Dd mX3_findLeast.2.1 37 (.getfield 48) 3 40 := ⟨by decide +kernel, rfl⟩
theorem dX3_findLeast_40 : Dd mX3_findLeast.2.1 40 (.iload 5) 2 42 := ⟨by decide +kernel, rfl⟩
theorem dX3_findLeast_42 : Dd mX3_findLeast.2.1 42 (.invokevirtual 59) 3 45 := ⟨by decide +kernel, rfl⟩
theorem dX3_findLeast_45 : Dd mX3_findLeast.2.1 45 (.iload_n 1) 1 46 := ⟨by decide +kernel, rfl⟩
theorem dX3_findLeast_46 : Dd mX3_findLeast.2.1 46 (.if_icmp .ge 6) 3 49 := ⟨by decide +kernel, rfl⟩
theorem dX3_findLeast_49 : Dd mX3_findLeast.2.1 49 (.goto 53) 3 52 := ⟨by decide +kernel, rfl⟩
theorem dX3_findLeast_52 : Dd mX3_findLeast.2.1 52 (.aload_n 0) 1 53 := ⟨by decide +kernel, rfl⟩
theorem dX3_findLeast_53 : Dd mX3_findLeast.2.1 53 (.getfield 48) 3 56 := ⟨by decide +kernel, rfl⟩
theorem dX3_findLeast_56 : Dd mX3_findLeast.2.1 56 (.iload 5) 2 58 := ⟨by decide +kernel, rfl⟩
theorem dX3_findLeast_58 : Dd mX3_findLeast.2.1 58 (.iload_n 2) 1 59 := ⟨by decide +kernel, rfl⟩
theorem dX3_findLeast_59 : Dd mX3_findLeast.2.1 59 (.invokevirtual 62) 3 62 := ⟨by decide +kernel, rfl⟩
theorem dX3_findLeast_62 : Dd mX3_findLeast.2.1 62 (.istore 6) 2 64 := ⟨by decide +kernel, rfl⟩
theorem dX3_findLeast_64 : Dd mX3_findLeast.2.1 64 (.iload 4) 2 66 := ⟨by decide +kernel, rfl⟩
theorem dX3_findLeast_66 : Dd mX3_findLeast.2.1 66 (.ifCond .eq 21) 3 69 := ⟨by decide +kernel, rfl⟩
theorem dX3_findLeast_69 : Dd mX3_findLeast.2.1 69 (.iload 6) 2 71 := ⟨by decide +kernel, rfl⟩
theorem dX3_findLeast_71 : Dd mX3_findLeast.2.1 71 (.iload 5) 2 73 := ⟨by decide +kernel, rfl⟩
theorem dX3_findLeast_73 : Dd mX3_findLeast.2.1 73 (.aload_n 0) 1 74 := ⟨by decide +kernel, rfl⟩
theorem dX3_findLeast_74 : Dd mX3_findLeast.2.1 74 (.getfield 17) 3 77 := ⟨by decide +kernel, rfl⟩
theorem dX3_findLeast_77 : Dd mX3_findLeast.2.1 77 (.aload_n 0) 1 78 := ⟨by decide +kernel, rfl⟩
theorem dX3_findLeast_78 : Dd mX3_findLeast.2.1 78 (.getfield 11) 3 81 := ⟨by decide +kernel, rfl⟩
theorem dX3_findLeast_81 : Dd mX3_findLeast.2.1 81 (.invokestatic 66) 3 84 := ⟨by decide +kernel, rfl⟩
theorem dX3_findLeast_84 : Dd mX3_findLeast.2.1 84 (.ifCond .eq 18) 3 87 := ⟨by decide +kernel, rfl⟩
theorem dX3_findLeast_87 : Dd mX3_findLeast.2.1 87 (.iconst 1) 1 88 := ⟨by decide +kernel, rfl⟩
theorem dX3_findLeast_88 : Dd mX3_findLeast.2.1 88 (.istore 4) 2 90 := ⟨by decide +kernel, rfl⟩
theorem dX3_findLeast_90 : Dd mX3_findLeast.2.1 90 (.aload_n 0) 1 91 := ⟨by decide +kernel, rfl⟩
theorem dX3_findLeast_91 : Dd mX3_findLeast.2.1 91 (.iload 6) 2 93 := ⟨by decide +kernel, rfl⟩
theorem dX3_findLeast_93 : Dd mX3_findLeast.2.1 93 (.putfield 17) 3 96 := ⟨by decide +kernel, rfl⟩
theorem dX3_findLeast_96 : Dd mX3_findLeast.2.1 96 (.aload_n 0) 1 97 := ⟨by decide +kernel, rfl⟩
theorem dX3_findLeast_97 : Dd mX3_findLeast.2.1 97 (.iload 5) 2 99 := ⟨by decide +kernel, rfl⟩
theorem dX3_findLeast_99 : Dd mX3_findLeast.2.1 99 (.putfield 11) 3 102 := ⟨by decide +kernel, rfl⟩
theorem dX3_findLeast_102 : Dd mX3_findLeast.2.1 102 (.iinc 5 1) 3 105 := ⟨by decide +kernel, rfl⟩
theorem dX3_findLeast_105 : Dd mX3_findLeast.2.1 105 (.goto (-90)) 3 108 := ⟨by decide +kernel, rfl⟩
theorem dX3_findLeast_108 : Dd mX3_findLeast.2.1 108 (.iload 4) 2 110 := ⟨by decide +kernel, rfl⟩
theorem dX3_findLeast_110 : Dd mX3_findLeast.2.1 110 (.ireturn) 1 111 := ⟨by decide +kernel, rfl⟩
theorem dX3_isBetter_0 : Dd mX3_isBetter.2.1 0 (.iload_n 0) 1 1 := ⟨by decide +kernel, rfl⟩
theorem dX3_isBetter_1 : Dd mX3_isBetter.2.1 1 (.iload_n 2) 1 2 := ⟨by decide +kernel, rfl⟩
theorem dX3_isBetter_2 : Dd mX3_isBetter.2.1 2 (.if_icmp .eq 14) 3 5 := ⟨by decide +kernel, rfl⟩
theorem dX3_isBetter_5 : Dd mX3_isBetter.2.1 5 (.iload_n 0) 1 6 := ⟨by decide +kernel, rfl⟩
theorem dX3_isBetter_6 : Dd mX3_isBetter.2.1 6 (.iload_n 2) 1 7 := ⟨by decide +kernel, rfl⟩
theorem dX3_isBetter_7 : Dd mX3_isBetter.2.1 7 (.if_icmp .ge 7) 3 10 := ⟨by decide +kernel, rfl⟩
theorem dX3_isBetter_10 : Dd mX3_isBetter.2.1 10 (.iconst 1) 1 11 := ⟨by decide +kernel, rfl⟩
theorem dX3_isBetter_11 : Dd mX3_isBetter.2.1 11 (.goto 4) 3 14 := ⟨by decide +kernel, rfl⟩
theorem dX3_isBetter_14 : Dd mX3_isBetter.2.1 14 (.iconst 0) 1 15 := ⟨by decide +kernel, rfl⟩
theorem dX3_isBetter_15 : Dd mX3_isBetter.2.1 15 (.ireturn) 1 16 := ⟨by decide +kernel, rfl⟩
theorem dX3_isBetter_16 : Dd mX3_isBetter.2.1 16 (.iload_n 1) 1 17 := ⟨by decide +kernel, rfl⟩
theorem dX3_isBetter_17 : Dd mX3_isBetter.2.1 17 (.invokestatic 70) 3 20 := ⟨by decide +kernel, rfl⟩
theorem dX3_isBetter_20 : Dd mX3_isBetter.2.1 20 (.iload_n 3) 1 21 := ⟨by decide +kernel, rfl⟩
theorem dX3_isBetter_21 : Dd mX3_isBetter.2.1 21 (.invokestatic 70) 3 24 := ⟨by decide +kernel, rfl⟩
theorem dX3_isBetter_24 : Dd mX3_isBetter.2.1 24 (.if_icmp .ge 7) 3 27 := ⟨by decide +kernel, rfl⟩
theorem dX3_isBetter_27 : Dd mX3_isBetter.2.1 27 (.iconst 1) 1 28 := ⟨by decide +kernel, rfl⟩
theorem dX3_isBetter_28 : Dd mX3_isBetter.2.1 28 (.goto 4) 3 31 := ⟨by decide +kernel, rfl⟩
theorem dX3_isBetter_31 : Dd mX3_isBetter.2.1 31 (.iconst 0) 1 32 := ⟨by decide +kernel, rfl⟩
theorem dX3_isBetter_32 : Dd mX3_isBetter.2.1 32 (.ireturn) 1 33 := ⟨by decide +kernel, rfl⟩
theorem dX3_ribbonInAll_0 : Dd mX3_ribbonInAll.2.1 0 (.iload_n 1) 1 1 := ⟨by decide +kernel, rfl⟩
theorem dX3_ribbonInAll_1 : Dd mX3_ribbonInAll.2.1 1 (.ifCond .lt 17) 3 4 := ⟨by decide +kernel, rfl⟩
theorem dX3_ribbonInAll_4 : Dd mX3_ribbonInAll.2.1 4 (.iload_n 1) 1 5 := ⟨by decide +kernel, rfl⟩
theorem dX3_ribbonInAll_5 : Dd mX3_ribbonInAll.2.1 5 (.iconst 4) 1 6 := ⟨by decide +kernel, rfl⟩
theorem dX3_ribbonInAll_6 : Dd mX3_ribbonInAll.2.1 6 (.if_icmp .ge 12) 3 9 := ⟨by decide +kernel, rfl⟩
theorem dX3_ribbonInAll_9 : Dd mX3_ribbonInAll.2.1 9 (.aload_n 0) 1 10 := ⟨by decide +kernel, rfl⟩
theorem dX3_ribbonInAll_10 : Dd mX3_ribbonInAll.2.1 10 (.getfield 26) 3 13 := ⟨by decide +kernel, rfl⟩
theorem dX3_ribbonInAll_13 : Dd mX3_ribbonInAll.2.1 13 (.iload_n 1) 1 14 := ⟨by decide +kernel, rfl⟩
theorem dX3_ribbonInAll_14 : Dd mX3_ribbonInAll.2.1 14 (.iaload) 1 15 := ⟨by decide +kernel, rfl⟩
theorem dX3_ribbonInAll_15 : Dd mX3_ribbonInAll.2.1 15 (.goto 4) 3 18 := ⟨by decide +kernel, rfl⟩
theorem dX3_ribbonInAll_18 : Dd mX3_ribbonInAll.2.1 18 (.iconst 0) 1 19 := ⟨by decide +kernel, rfl⟩
theorem dX3_ribbonInAll_19 : Dd mX3_ribbonInAll.2.1 19 (.ireturn) 1 20 := ⟨by decide +kernel, rfl⟩
theorem dX3_findAll_0 : Dd mX3_findAll.2.1 0 (.aload_n 0) 1 1 := ⟨by decide +kernel, rfl⟩
theorem dX3_findAll_1 : Dd mX3_findAll.2.1 1 (.aload_n 1) 1 2 := ⟨by decide +kernel, rfl⟩
theorem dX3_findAll_2 : Dd mX3_findAll.2.1 2 (.aload_n 2) 1 3 := ⟨by decide +kernel, rfl⟩
theorem dX3_findAll_3 : Dd mX3_findAll.2.1 3 (.invokevirtual 75) 3 6 := ⟨by decide +kernel, rfl⟩
theorem dX3_findAll_6 : Dd mX3_findAll.2.1 6 (.aload_n 2) 1 7 := ⟨by decide +kernel, rfl⟩
theorem dX3_findAll_7 : Dd mX3_findAll.2.1 7 (.invokevirtual 79) 3 10 := ⟨by decide +kernel, rfl⟩
theorem dX3_findAll_10 : Dd mX3_findAll.2.1 10 (.istore_n 3) 1 11 := ⟨by decide +kernel, rfl⟩
theorem dX3_findAll_11 : Dd mX3_findAll.2.1 11 (.aload_n 0) 1 12 := ⟨by decide +kernel, rfl⟩
theorem dX3_findAll_12 : Dd mX3_findAll.2.1 12 (.getfield 48) 3 15 := ⟨by decide +kernel, rfl⟩
theorem dX3_findAll_15 : Dd mX3_findAll.2.1 15 (.iload_n 3) 1 16 := ⟨by decide +kernel, rfl⟩
theorem dX3_findAll_16 : Dd mX3_findAll.2.1 16 (.invokevirtual 52) 3 19 := ⟨by decide +kernel, rfl⟩
theorem dX3_findAll_19 : Dd mX3_findAll.2.1 19 (.istore 4) 2 21 := ⟨by decide +kernel, rfl⟩
theorem dX3_findAll_21 : Dd mX3_findAll.2.1 21 (.iconst 0) 1 22 := ⟨by decide +kernel, rfl⟩
theorem dX3_findAll_22 : Dd mX3_findAll.2.1 22 (.istore 5) 2 24 := ⟨by decide +kernel, rfl⟩
theorem dX3_findAll_24 : Dd mX3_findAll.2.1 24 (.iconst 0) 1 25 := ⟨by decide +kernel, rfl⟩
theorem dX3_findAll_25 : Dd mX3_findAll.2.1 25 (.istore 6) 2 27 := ⟨by decide +kernel, rfl⟩
theorem dX3_findAll_27 : Dd mX3_findAll.2.1 27 (.iload 6) 2 29 := ⟨by decide +kernel, rfl⟩
theorem dX3_findAll_29 : Dd mX3_findAll.2.1 29 (.aload_n 0) 1 30 := ⟨by decide +kernel, rfl⟩
theorem dX3_findAll_30 : Dd mX3_findAll.2.1 30 (.getfield 48) 3 33 := ⟨by decide +kernel, rfl⟩
theorem dX3_findAll_33 : Dd mX3_findAll.2.1 33 (.getfield 56) 3 36 := ⟨by decide +kernel, rfl⟩
theorem dX3_findAll_36 : Dd mX3_findAll.2.1 36 (.if_icmp .ge 108) 3 39 := ⟨by decide +kernel, rfl⟩
theorem dX3_findAll_39 : Dd mX3_findAll.2.1 39 (.iload 6) 2 41 := ⟨by decide +kernel, rfl⟩
theorem dX3_findAll_41 : Dd mX3_findAll.2.1 41 (.sipush 1024) 3 44 := ⟨by decide +kernel, rfl⟩
theorem dX3_findAll_44 : Dd mX3_findAll.2.1 44 (.if_icmp .ge 100) 3 47 := ⟨by decide +kernel, rfl⟩
theorem dX3_findAll_47 : Dd mX3_findAll.2.1 47 (.iload 6) 2 49 := ⟨by decide +kernel, rfl⟩
theorem dX3_findAll_49 : Dd mX3_findAll.2.1 49 (.iload 4) 2 51 := ⟨by decide +kernel, rfl⟩
theorem dX3_findAll_51 : Dd mX3_findAll.2.1 51 (.iconst (-1)) 1 52 := ⟨by decide +kernel, rfl⟩
theorem dX3_findAll_52 : Dd mX3_findAll.2.1 52 (.ixor) 1 53 := ⟨by decide +kernel, rfl⟩
theorem dX3_findAll_53 : Dd mX3_findAll.2.1 53 (.iand) 1 54 := ⟨by decide +kernel, rfl⟩
theorem dX3_findAll_54 : Dd mX3_findAll.2.1 54 (.ifCond .eq 6) 3 57 := ⟨by decide +kernel, rfl⟩
theorem dX3_findAll_57 : Dd mX3_findAll.2.1 57 (.goto 81) 3 60 := ⟨by decide +kernel, rfl⟩
theorem dX3_findAll_60 : Dd mX3_findAll.2.1 60 (.aload_n 0) 1 61 := ⟨by decide +kernel, rfl⟩
theorem dX3_findAll_61 : Dd mX3_findAll.2.1 61 (.getfield 39) 3 64 := ⟨by decide +kernel, rfl⟩
theorem dX3_findAll_64 : Dd mX3_findAll.2.1 64 (.iload 6) 2 66 := ⟨by decide +kernel, rfl⟩
theorem dX3_findAll_66 : Dd mX3_findAll.2.1 66 (.aload_n 0) 1 67 := ⟨by decide +kernel, rfl⟩
theorem dX3_findAll_67 : Dd mX3_findAll.2.1 67 (.iload 6) 2 69 := ⟨by decide +kernel, rfl⟩
theorem dX3_findAll_69 : Dd mX3_findAll.2.1 69 (.invokevirtual 85) 3 72 := ⟨by decide +kernel, rfl⟩
theorem dX3_findAll_72 : Dd mX3_findAll.2.1 72 (.iastore) 1 73 := ⟨by decide +kernel, rfl⟩
theorem dX3_findAll_73 : Dd mX3_findAll.2.1 73 (.aload_n 0) 1 74 := ⟨by decide +kernel, rfl⟩
theorem dX3_findAll_74 : Dd mX3_findAll.2.1 74 (.getfield 39) 3 77 := ⟨by decide +kernel, rfl⟩
theorem dX3_findAll_77 : Dd mX3_findAll.2.1 77 (.iload 6) 2 79 := ⟨by decide +kernel, rfl⟩
theorem dX3_findAll_79 : Dd mX3_findAll.2.1 79 (.iaload) 1 80 := ⟨by decide +kernel, rfl⟩
theorem dX3_findAll_80 : Dd mX3_findAll.2.1 80 (.iconst 1) 1 81 := ⟨by decide +kernel, rfl⟩
theorem dX3_findAll_81 : Dd mX3_findAll.2.1 81 (.iand) 1 82 := ⟨by decide +kernel, rfl⟩
theorem dX3_findAll_82 : Dd mX3_findAll.2.1 82 (.ifCond .ne 6) 3 85 := ⟨by decide +kernel, rfl⟩
theorem dX3_findAll_85 : Dd mX3_findAll.2.1 85 (.goto 53) 3 88 := ⟨by decide +kernel, rfl⟩
theorem dX3_findAll_88 : Dd mX3_findAll.2.1 88 (.aload_n 0) 1 89 := ⟨by decide +kernel, rfl⟩
theorem dX3_findAll_89 : Dd mX3_findAll.2.1 89 (.getfield 48) 3 92 := ⟨by decide +kernel, rfl⟩
theorem dX3_findAll_92 : Dd mX3_findAll.2.1 92 (.iload 6) 2 94 := ⟨by decide +kernel, rfl⟩
theorem dX3_findAll_94 : Dd mX3_findAll.2.1 94 (.iload_n 3) 1 95 := ⟨by decide +kernel, rfl⟩
theorem dX3_findAll_95 : Dd mX3_findAll.2.1 95 (.invokevirtual 62) 3 98 := ⟨by decide +kernel, rfl⟩
theorem dX3_findAll_98 : Dd mX3_findAll.2.1 98 (.istore 7) 2 100 := ⟨by decide +kernel, rfl⟩
theorem dX3_findAll_100 : Dd mX3_findAll.2.1 100 (.iload 5) 2 102 := ⟨by decide +kernel, rfl⟩
theorem dX3_findAll_102 : Dd mX3_findAll.2.1 102 (.ifCond .eq 21) 3 105 := ⟨by decide +kernel, rfl⟩
theorem dX3_findAll_105 : Dd mX3_findAll.2.1 105 (.iload 7) 2 107 := ⟨by decide +kernel, rfl⟩
theorem dX3_findAll_107 : Dd mX3_findAll.2.1 107 (.iload 6) 2 109 := ⟨by decide +kernel, rfl⟩
theorem dX3_findAll_109 : Dd mX3_findAll.2.1 109 (.aload_n 0) 1 110 := ⟨by decide +kernel, rfl⟩
theorem dX3_findAll_110 : Dd mX3_findAll.2.1 110 (.getfield 23) 3 113 := ⟨by decide +kernel, rfl⟩
theorem dX3_findAll_113 : Dd mX3_findAll.2.1 113 (.aload_n 0) 1 114 := ⟨by decide +kernel, rfl⟩
theorem dX3_findAll_114 : Dd mX3_findAll.2.1 114 (.getfield 20) 3 117 := ⟨by decide +kernel, rfl⟩
theorem dX3_findAll_117 : Dd mX3_findAll.2.1 117 (.invokestatic 66) 3 120 := ⟨by decide +kernel, rfl⟩
theorem dX3_findAll_120 : Dd mX3_findAll.2.1 120 (.ifCond .eq 18) 3 123 := ⟨by decide +kernel, rfl⟩
theorem dX3_findAll_123 : Dd mX3_findAll.2.1 123 (.iconst 1) 1 124 := ⟨by decide +kernel, rfl⟩
theorem dX3_findAll_124 : Dd mX3_findAll.2.1 124 (.istore 5) 2 126 := ⟨by decide +kernel, rfl⟩
theorem dX3_findAll_126 : Dd mX3_findAll.2.1 126 (.aload_n 0) 1 127 := ⟨by decide +kernel, rfl⟩
theorem dX3_findAll_127 : Dd mX3_findAll.2.1 127 (.iload 7) 2 129 := ⟨by decide +kernel, rfl⟩
theorem dX3_findAll_129 : Dd mX3_findAll.2.1 129 (.putfield 23) 3 132 := ⟨by decide +kernel, rfl⟩
theorem dX3_findAll_132 : Dd mX3_findAll.2.1 132 (.aload_n 0) 1 133 := ⟨by decide +kernel, rfl⟩
theorem dX3_findAll_133 : Dd mX3_findAll.2.1 133 (.iload 6) 2 135 := ⟨by decide +kernel, rfl⟩
theorem dX3_findAll_135 : Dd mX3_findAll.2.1 135 (.putfield 20) 3 138 := ⟨by decide +kernel, rfl⟩
theorem dX3_findAll_138 : Dd mX3_findAll.2.1 138 (.iinc 6 1) 3 141 := ⟨by decide +kernel, rfl⟩
theorem dX3_findAll_141 : Dd mX3_findAll.2.1 141 (.goto (-114)) 3 144 := ⟨by decide +kernel, rfl⟩
theorem dX3_findAll_144 : Dd mX3_findAll.2.1 144 (.iload 5) 2 146 := ⟨by decide +kernel, rfl⟩
theorem dX3_findAll_146 : Dd mX3_findAll.2.1 146 (.ifCond .eq 11) 3 149 := ⟨by decide +kernel, rfl⟩
theorem dX3_findAll_149 : Dd mX3_findAll.2.1 149 (.aload_n 0) 1 150 := ⟨by decide +kernel, rfl⟩
theorem dX3_findAll_150 : Dd mX3_findAll.2.1 150 (.aload_n 0) 1 151 := ⟨by decide +kernel, rfl⟩
theorem dX3_findAll_151 : Dd mX3_findAll.2.1 151 (.getfield 20) 3 154 := ⟨by decide +kernel, rfl⟩
theorem dX3_findAll_154 : Dd mX3_findAll.2.1 154 (.invokevirtual 88) 3 157 := ⟨by decide +kernel, rfl⟩
theorem dX3_findAll_157 : Dd mX3_findAll.2.1 157 (.iload 5) 2 159 := ⟨by decide +kernel, rfl⟩
theorem dX3_findAll_159 : Dd mX3_findAll.2.1 159 (.ireturn) 1 160 := ⟨by decide +kernel, rfl⟩
theorem dX3_listLoose_0 : Dd mX3_listLoose.2.1 0 (.aload_n 0) 1 1 := ⟨by decide +kernel, rfl⟩
theorem dX3_listLoose_1 : Dd mX3_listLoose.2.1 1 (.iconst 0) 1 2 := ⟨by decide +kernel, rfl⟩
theorem dX3_listLoose_2 : Dd mX3_listLoose.2.1 2 (.putfield 45) 3 5 := ⟨by decide +kernel, rfl⟩
theorem dX3_listLoose_5 : Dd mX3_listLoose.2.1 5 (.iconst 0) 1 6 := ⟨by decide +kernel, rfl⟩
theorem dX3_listLoose_6 : Dd mX3_listLoose.2.1 6 (.istore_n 3) 1 7 := ⟨by decide +kernel, rfl⟩
theorem dX3_listLoose_7 : Dd mX3_listLoose.2.1 7 (.iload_n 3) 1 8 := ⟨by decide +kernel, rfl⟩
theorem dX3_listLoose_8 : Dd mX3_listLoose.2.1 8 (.aload_n 1) 1 9 := ⟨by decide +kernel, rfl⟩
theorem dX3_listLoose_9 : Dd mX3_listLoose.2.1 9 (.getfield 92) 3 12 := ⟨by decide +kernel, rfl⟩
theorem dX3_listLoose_12 : Dd mX3_listLoose.2.1 12 (.if_icmp .ge 59) 3 15 := ⟨by decide +kernel, rfl⟩
theorem dX3_listLoose_15 : Dd mX3_listLoose.2.1 15 (.aload_n 0) 1 16 := ⟨by decide +kernel, rfl⟩
theorem dX3_listLoose_16 : Dd mX3_listLoose.2.1 16 (.getfield 45) 3 19 := ⟨by decide +kernel, rfl⟩
theorem dX3_listLoose_19 : Dd mX3_listLoose.2.1 19 (.iconst 4) 1 20 := ⟨by decide +kernel, rfl⟩
theorem dX3_listLoose_20 : Dd mX3_listLoose.2.1 20 (.if_icmp .ge 51) 3 23 := ⟨by decide +kernel, rfl⟩
theorem dX3_listLoose_23 : Dd mX3_listLoose.2.1 23 (.aload_n 2) 1 24 := ⟨by decide +kernel, rfl⟩
theorem dX3_listLoose_24 : Dd mX3_listLoose.2.1 24 (.iload_n 3) 1 25 := ⟨by decide +kernel, rfl⟩
theorem dX3_listLoose_25 : Dd mX3_listLoose.2.1 25 (.invokevirtual 95) 3 28 := ⟨by decide +kernel, rfl⟩
theorem dX3_listLoose_28 : Dd mX3_listLoose.2.1 28 (.ifCond .ne 37) 3 31 := ⟨by decide +kernel, rfl⟩
theorem dX3_listLoose_31 : Dd mX3_listLoose.2.1 31 (.aload_n 0) 1 32 := ⟨by decide +kernel, rfl⟩
theorem dX3_listLoose_32 : Dd mX3_listLoose.2.1 32 (.getfield 30) 3 35 := ⟨by decide +kernel, rfl⟩
theorem dX3_listLoose_35 : Dd mX3_listLoose.2.1 35 (.aload_n 0) 1 36 := ⟨by decide +kernel, rfl⟩
theorem dX3_listLoose_36 : Dd mX3_listLoose.2.1 36 (.getfield 45) 3 39 := ⟨by decide +kernel, rfl⟩
theorem dX3_listLoose_39 : Dd mX3_listLoose.2.1 39 (.iload_n 3) 1 40 := ⟨by decide +kernel, rfl⟩
theorem dX3_listLoose_40 : Dd mX3_listLoose.2.1 40 (.iastore) 1 41 := ⟨by decide +kernel, rfl⟩
theorem dX3_listLoose_41 : Dd mX3_listLoose.2.1 41 (.aload_n 0) 1 42 := ⟨by decide +kernel, rfl⟩
theorem dX3_listLoose_42 : Dd mX3_listLoose.2.1 42 (.getfield 33) 3 45 := ⟨by decide +kernel, rfl⟩
theorem dX3_listLoose_45 : Dd mX3_listLoose.2.1 45 (.aload_n 0) 1 46 := ⟨by decide +kernel, rfl⟩
theorem dX3_listLoose_46 : Dd mX3_listLoose.2.1 46 (.getfield 45) 3 49 := ⟨by decide +kernel, rfl⟩
theorem dX3_listLoose_49 : Dd mX3_listLoose.2.1 49 (.aload_n 1) 1 50 := ⟨by decide +kernel, rfl⟩
theorem dX3_listLoose_50 : Dd mX3_listLoose.2.1 50 (.iload_n 3) 1 51 := ⟨by decide +kernel, rfl⟩
theorem dX3_listLoose_51 : Dd mX3_listLoose.2.1 51 (.invokevirtual 99) 3 54 := ⟨by decide +kernel, rfl⟩
theorem dX3_listLoose_54 : Dd mX3_listLoose.2.1 54 (.iastore) 1 55 := ⟨by decide +kernel, rfl⟩
theorem dX3_listLoose_55 : Dd mX3_listLoose.2.1 55 (.aload_n 0) 1 56 := ⟨by decide +kernel, rfl⟩
theorem dX3_listLoose_56 : Dd mX3_listLoose.2.1 56 (.dup) 1 57 := ⟨by decide +kernel, rfl⟩
theorem dX3_listLoose_57 : Dd mX3_listLoose.2.1 57 (.getfield 45) 3 60 := ⟨by decide +kernel, rfl⟩
theorem dX3_listLoose_60 : Dd mX3_listLoose.2.1 60 (.iconst 1) 1 61 := ⟨by decide +kernel, rfl⟩
theorem dX3_listLoose_61 : Dd mX3_listLoose.2.1 61 (.iadd) 1 62 := ⟨by decide +kernel, rfl⟩
theorem dX3_listLoose_62 : Dd mX3_listLoose.2.1 62 (.putfield 45) 3 65 := ⟨by decide +kernel, rfl⟩
theorem dX3_listLoose_65 : Dd mX3_listLoose.2.1 65 (.iinc 3 1) 3 68 := ⟨by decide +kernel, rfl⟩
theorem dX3_listLoose_68 : Dd mX3_listLoose.2.1 68 (.goto (-61)) 3 71 := ⟨by decide +kernel, rfl⟩
theorem dX3_listLoose_71 : Dd mX3_listLoose.2.1 71 (.iconst 0) 1 72 := ⟨by decide +kernel, rfl⟩
theorem dX3_listLoose_72 : Dd mX3_listLoose.2.1 72 (.istore_n 3) 1 73 := ⟨by decide +kernel, rfl⟩
theorem dX3_listLoose_73 : Dd mX3_listLoose.2.1 73 (.iconst 4) 1 74 := ⟨by decide +kernel, rfl⟩
theorem dX3_listLoose_74 : Dd mX3_listLoose.2.1 74 (.istore 4) 2 76 := ⟨by decide +kernel, rfl⟩
theorem dX3_listLoose_76 : Dd mX3_listLoose.2.1 76 (.iload 4) 2 78 := ⟨by decide +kernel, rfl⟩
theorem dX3_listLoose_78 : Dd mX3_listLoose.2.1 78 (.ifCond .lt 46) 3 81 := ⟨by decide +kernel, rfl⟩
theorem dX3_listLoose_81 : Dd mX3_listLoose.2.1 81 (.iload_n 3) 1 82 := ⟨by decide +kernel, rfl⟩
theorem dX3_listLoose_82 : Dd mX3_listLoose.2.1 82 (.iload 4) 2 84 := ⟨by decide +kernel, rfl⟩
theorem dX3_listLoose_84 : Dd mX3_listLoose.2.1 84 (.aload_n 0) 1 85 := ⟨by decide +kernel, rfl⟩
theorem dX3_listLoose_85 : Dd mX3_listLoose.2.1 85 (.getfield 45) 3 88 := ⟨by decide +kernel, rfl⟩
theorem dX3_listLoose_88 : Dd mX3_listLoose.2.1 88 (.if_icmp .ge 19) 3 91 := ⟨by decide +kernel, rfl⟩
theorem dX3_listLoose_91 : Dd mX3_listLoose.2.1 91 (.iload 4) 2 93 := ⟨by decide +kernel, rfl⟩
theorem dX3_listLoose_93 : Dd mX3_listLoose.2.1 93 (.iconst 4) 1 94 := ⟨by decide +kernel, rfl⟩
theorem dX3_listLoose_94 : Dd mX3_listLoose.2.1 94 (.if_icmp .ge 13) 3 97 := ⟨by decide +kernel, rfl⟩
theorem dX3_listLoose_97 : Dd mX3_listLoose.2.1 97 (.aload_n 0) 1 98 := ⟨by decide +kernel, rfl⟩
theorem dX3_listLoose_98 : Dd mX3_listLoose.2.1 98 (.getfield 33) 3 101 := ⟨by decide +kernel, rfl⟩
theorem dX3_listLoose_101 : Dd mX3_listLoose.2.1 101 (.iload 4) 2 103 := ⟨by decide +kernel, rfl⟩
theorem dX3_listLoose_103 : Dd mX3_listLoose.2.1 103 (.iaload) 1 104 := ⟨by decide +kernel, rfl⟩
theorem dX3_listLoose_104 : Dd mX3_listLoose.2.1 104 (.goto 4) 3 107 := ⟨by decide +kernel, rfl⟩
theorem dX3_listLoose_107 : Dd mX3_listLoose.2.1 107 (.iconst 0) 1 108 := ⟨by decide +kernel, rfl⟩
theorem dX3_listLoose_108 : Dd mX3_listLoose.2.1 108 (.iadd) 1 109 := ⟨by decide +kernel, rfl⟩
theorem dX3_listLoose_109 : Dd mX3_listLoose.2.1 109 (.istore_n 3) 1 110 := ⟨by decide +kernel, rfl⟩
theorem dX3_listLoose_110 : Dd mX3_listLoose.2.1 110 (.aload_n 0) 1 111 := ⟨by decide +kernel, rfl⟩
theorem dX3_listLoose_111 : Dd mX3_listLoose.2.1 111 (.getfield 36) 3 114 := ⟨by decide +kernel, rfl⟩
theorem dX3_listLoose_114 : Dd mX3_listLoose.2.1 114 (.iload 4) 2 116 := ⟨by decide +kernel, rfl⟩
theorem dX3_listLoose_116 : Dd mX3_listLoose.2.1 116 (.iload_n 3) 1 117 := ⟨by decide +kernel, rfl⟩
theorem dX3_listLoose_117 : Dd mX3_listLoose.2.1 117 (.iastore) 1 118 := ⟨by decide +kernel, rfl⟩
theorem dX3_listLoose_118 : Dd mX3_listLoose.2.1 118 (.iinc 4 (-1)) 3 121 := ⟨by decide +kernel, rfl⟩
theorem dX3_listLoose_121 : Dd mX3_listLoose.2.1 121 (.goto (-45)) 3 124 := ⟨by decide +kernel, rfl⟩
theorem dX3_listLoose_124 : Dd mX3_listLoose.2.1 124 (.return_) 1 125 := ⟨by decide +kernel, rfl⟩
theorem dX3_whoIsHeldBy_0 : Dd mX3_whoIsHeldBy.2.1 0 (.iconst 1) 1 1 := ⟨by decide +kernel, rfl⟩
theorem dX3_whoIsHeldBy_1 : Dd mX3_whoIsHeldBy.2.1 1 (.aload_n 0) 1 2 := ⟨by decide +kernel, rfl⟩
theorem dX3_whoIsHeldBy_2 : Dd mX3_whoIsHeldBy.2.1 2 (.getfield 45) 3 5 := ⟨by decide +kernel, rfl⟩
theorem dX3_whoIsHeldBy_5 : Dd mX3_whoIsHeldBy.2.1 5 (.ishl) 1 6 := ⟨by decide +kernel, rfl⟩
theorem dX3_whoIsHeldBy_6 : Dd mX3_whoIsHeldBy.2.1 6 (.istore_n 2) 1 7 := ⟨by decide +kernel, rfl⟩
theorem dX3_whoIsHeldBy_7 : Dd mX3_whoIsHeldBy.2.1 7 (.aload_n 0) 1 8 := ⟨by decide +kernel, rfl⟩
theorem dX3_whoIsHeldBy_8 : Dd mX3_whoIsHeldBy.2.1 8 (.getfield 45) 3 11 := ⟨by decide +kernel, rfl⟩
theorem dX3_whoIsHeldBy_11 : Dd mX3_whoIsHeldBy.2.1 11 (.iconst 1) 1 12 := ⟨by decide +kernel, rfl⟩
theorem dX3_whoIsHeldBy_12 : Dd mX3_whoIsHeldBy.2.1 12 (.isub) 1 13 := ⟨by decide +kernel, rfl⟩
theorem dX3_whoIsHeldBy_13 : Dd mX3_whoIsHeldBy.2.1 13 (.istore_n 3) 1 14 := ⟨by decide +kernel, rfl⟩
theorem dX3_whoIsHeldBy_14 : Dd mX3_whoIsHeldBy.2.1 14 (.iload_n 3) 1 15 := ⟨by decide +kernel, rfl⟩
theorem dX3_whoIsHeldBy_15 : Dd mX3_whoIsHeldBy.2.1 15 (.ifCond .lt 24) 3 18 := ⟨by decide +kernel, rfl⟩
theorem dX3_whoIsHeldBy_18 : Dd mX3_whoIsHeldBy.2.1 18 (.aload_n 0) 1 19 := ⟨by decide +kernel, rfl⟩
theorem dX3_whoIsHeldBy_19 : Dd mX3_whoIsHeldBy.2.1 19 (.iload_n 3) 1 20 := ⟨by decide +kernel, rfl⟩
theorem dX3_whoIsHeldBy_20 : Dd mX3_whoIsHeldBy.2.1 20 (.iload_n 1) 1 21 := ⟨by decide +kernel, rfl⟩
theorem dX3_whoIsHeldBy_21 : Dd mX3_whoIsHeldBy.2.1 21 (.invokevirtual 102) 3 24 := ⟨by decide +kernel, rfl⟩
theorem dX3_whoIsHeldBy_24 : Dd mX3_whoIsHeldBy.2.1 24 (.ifCond .eq 9) 3 27 := ⟨by decide +kernel, rfl⟩
theorem dX3_whoIsHeldBy_27 : Dd mX3_whoIsHeldBy.2.1 27 (.iload_n 2) 1 28 := ⟨by decide +kernel, rfl⟩
theorem dX3_whoIsHeldBy_28 : Dd mX3_whoIsHeldBy.2.1 28 (.iconst 1) 1 29 := ⟨by decide +kernel, rfl⟩
theorem dX3_whoIsHeldBy_29 : Dd mX3_whoIsHeldBy.2.1 29 (.iload_n 3) 1 30 := ⟨by decide +kernel, rfl⟩
theorem dX3_whoIsHeldBy_30 : Dd mX3_whoIsHeldBy.2.1 30 (.ishl) 1 31 := ⟨by decide +kernel, rfl⟩
theorem dX3_whoIsHeldBy_31 : Dd mX3_whoIsHeldBy.2.1 31 (.ior) 1 32 := ⟨by decide +kernel, rfl⟩
theorem dX3_whoIsHeldBy_32 : Dd mX3_whoIsHeldBy.2.1 32 (.istore_n 2) 1 33 := ⟨by decide +kernel, rfl⟩
theorem dX3_whoIsHeldBy_33 : Dd mX3_whoIsHeldBy.2.1 33 (.iinc 3 (-1)) 3 36 := ⟨by decide +kernel, rfl⟩
theorem dX3_whoIsHeldBy_36 : Dd mX3_whoIsHeldBy.2.1 36 (.goto (-22)) 3 39 := ⟨by decide +kernel, rfl⟩
theorem dX3_whoIsHeldBy_39 : Dd mX3_whoIsHeldBy.2.1 39 (.iload_n 2) 1 40 := ⟨by decide +kernel, rfl⟩
theorem dX3_whoIsHeldBy_40 : Dd mX3_whoIsHeldBy.2.1 40 (.ireturn) 1 41 := ⟨by decide +kernel, rfl⟩
theorem dX3_canHoldFrom_0 : Dd mX3_canHoldFrom.2.1 0 (.iload_n 1) 1 1 := ⟨by decide +kernel, rfl⟩
theorem dX3_canHoldFrom_1 : Dd mX3_canHoldFrom.2.1 1 (.ifCond .lt 25) 3 4 := ⟨by decide +kernel, rfl⟩
theorem dX3_canHoldFrom_4 : Dd mX3_canHoldFrom.2.1 4 (.iload_n 1) 1 5 := ⟨by decide +kernel, rfl⟩
theorem dX3_canHoldFrom_5 : Dd mX3_canHoldFrom.2.1 5 (.iconst 4) 1 6 := ⟨by decide +kernel, rfl⟩
theorem dX3_canHoldFrom_6 : Dd mX3_canHoldFrom.2.1 6 (.if_icmp .gt 20) 3 9 := ⟨by decide +kernel, rfl⟩
theorem dX3_canHoldFrom_9 : Dd mX3_canHoldFrom.2.1 9 (.aload_n 0) 1 10 := ⟨by decide +kernel, rfl⟩
theorem dX3_canHoldFrom_10 : Dd mX3_canHoldFrom.2.1 10 (.getfield 48) 3 13 := ⟨by decide +kernel, rfl⟩
theorem dX3_canHoldFrom_13 : Dd mX3_canHoldFrom.2.1 13 (.iload_n 2) 1 14 := ⟨by decide +kernel, rfl⟩
theorem dX3_canHoldFrom_14 : Dd mX3_canHoldFrom.2.1 14 (.invokevirtual 59) 3 17 := ⟨by decide +kernel, rfl⟩
theorem dX3_canHoldFrom_17 : Dd mX3_canHoldFrom.2.1 17 (.aload_n 0) 1 18 := ⟨by decide +kernel, rfl⟩
theorem dX3_canHoldFrom_18 : Dd mX3_canHoldFrom.2.1 18 (.getfield 36) 3 21 := ⟨by decide +kernel, rfl⟩
theorem dX3_canHoldFrom_21 : Dd mX3_canHoldFrom.2.1 21 (.iload_n 1) 1 22 := ⟨by decide +kernel, rfl⟩
theorem dX3_canHoldFrom_22 : Dd mX3_canHoldFrom.2.1 22 (.iaload) 1 23 := ⟨by decide +kernel, rfl⟩
theorem dX3_canHoldFrom_23 : Dd mX3_canHoldFrom.2.1 23 (.if_icmp .ge 5) 3 26 := ⟨by decide +kernel, rfl⟩
theorem dX3_canHoldFrom_26 : Dd mX3_canHoldFrom.2.1 26 (.iconst 0) 1 27 := ⟨by decide +kernel, rfl⟩
theorem dX3_canHoldFrom_27 : Dd mX3_canHoldFrom.2.1 27 (.ireturn) 1 28 := ⟨by decide +kernel, rfl⟩
theorem dX3_canHoldFrom_28 : Dd mX3_canHoldFrom.2.1 28 (.aload_n 0) 1 29 := ⟨by decide +kernel, rfl⟩
theorem dX3_canHoldFrom_29 : Dd mX3_canHoldFrom.2.1 29 (.iload_n 1) 1 30 := ⟨by decide +kernel, rfl⟩
theorem dX3_canHoldFrom_30 : Dd mX3_canHoldFrom.2.1 30 (.iload_n 2) 1 31 := ⟨by decide +kernel, rfl⟩
theorem dX3_canHoldFrom_31 : Dd mX3_canHoldFrom.2.1 31 (.invokevirtual 106) 3 34 := ⟨by decide +kernel, rfl⟩
theorem dX3_canHoldFrom_34 : Dd mX3_canHoldFrom.2.1 34 (.ifCond .ne 12) 3 37 := ⟨by decide +kernel, rfl⟩
theorem dX3_canHoldFrom_37 : Dd mX3_canHoldFrom.2.1 37 (.aload_n 0) 1 38 := ⟨by decide +kernel, rfl⟩
theorem dX3_canHoldFrom_38 : Dd mX3_canHoldFrom.2.1 38 (.iload_n 1) 1 39 := ⟨by decide +kernel, rfl⟩
theorem dX3_canHoldFrom_39 : Dd mX3_canHoldFrom.2.1 39 (.iload_n 2) 1 40 := ⟨by decide +kernel, rfl⟩
theorem dX3_canHoldFrom_40 : Dd mX3_canHoldFrom.2.1 40 (.invokevirtual 109) 3 43 := ⟨by decide +kernel, rfl⟩
theorem dX3_canHoldFrom_43 : Dd mX3_canHoldFrom.2.1 43 (.ifCond .eq 7) 3 46 := ⟨by decide +kernel, rfl⟩
theorem dX3_canHoldFrom_46 : Dd mX3_canHoldFrom.2.1 46 (.iconst 1) 1 47 := ⟨by decide +kernel, rfl⟩
theorem dX3_canHoldFrom_47 : Dd mX3_canHoldFrom.2.1 47 (.goto 4) 3 50 := ⟨by decide +kernel, rfl⟩
theorem dX3_canHoldFrom_50 : Dd mX3_canHoldFrom.2.1 50 (.iconst 0) 1 51 := ⟨by decide +kernel, rfl⟩
theorem dX3_canHoldFrom_51 : Dd mX3_canHoldFrom.2.1 51 (.ireturn) 1 52 := ⟨by decide +kernel, rfl⟩
theorem dX3_smallerHoldsFrom_0 : Dd mX3_smallerHoldsFrom.2.1 0 (.iload_n 2) 1 1 := ⟨by decide +kernel, rfl⟩
theorem dX3_smallerHoldsFrom_1 : Dd mX3_smallerHoldsFrom.2.1 1 (.istore_n 3) 1 2 := ⟨by decide +kernel, rfl⟩
theorem dX3_smallerHoldsFrom_2 : Dd mX3_smallerHoldsFrom.2.1 2 (.iload_n 3) 1 3 := ⟨by decide +kernel, rfl⟩
theorem dX3_smallerHoldsFrom_3 : Dd mX3_smallerHoldsFrom.2.1 3 (.ifCond .le 28) 3 6 := ⟨by decide +kernel, rfl⟩
theorem dX3_smallerHoldsFrom_6 : Dd mX3_smallerHoldsFrom.2.1 6 (.aload_n 0) 1 7 := ⟨by decide +kernel, rfl⟩
theorem dX3_smallerHoldsFrom_7 : Dd mX3_smallerHoldsFrom.2.1 7 (.iload_n 1) 1 8 := ⟨by decide +kernel, rfl⟩
theorem dX3_smallerHoldsFrom_8 : Dd mX3_smallerHoldsFrom.2.1 8 (.iload_n 2) 1 9 := ⟨by decide +kernel, rfl⟩
theorem dX3_smallerHoldsFrom_9 : Dd mX3_smallerHoldsFrom.2.1 9 (.iload_n 3) 1 10 := ⟨by decide +kernel, rfl⟩
theorem dX3_smallerHoldsFrom_10 : Dd mX3_smallerHoldsFrom.2.1 10 (.iload_n 3) 1 11 := ⟨by decide +kernel, rfl⟩
theorem dX3_smallerHoldsFrom_11 : Dd mX3_smallerHoldsFrom.2.1 11 (.ineg) 1 12 := ⟨by decide +kernel, rfl⟩
theorem dX3_smallerHoldsFrom_12 : Dd mX3_smallerHoldsFrom.2.1 12 (.iand) 1 13 := ⟨by decide +kernel, rfl⟩
theorem dX3_smallerHoldsFrom_13 : Dd mX3_smallerHoldsFrom.2.1 13 (.ixor) 1 14 := ⟨by decide +kernel, rfl⟩
theorem dX3_smallerHoldsFrom_14 : Dd mX3_smallerHoldsFrom.2.1 14 (.invokevirtual 112) 3 17 := ⟨by decide +kernel, rfl⟩
theorem dX3_smallerHoldsFrom_17 : Dd mX3_smallerHoldsFrom.2.1 17 (.ifCond .eq 5) 3 20 := ⟨by decide +kernel, rfl⟩
theorem dX3_smallerHoldsFrom_20 : Dd mX3_smallerHoldsFrom.2.1 20 (.iconst 1) 1 21 := ⟨by decide +kernel, rfl⟩
theorem dX3_smallerHoldsFrom_21 : Dd mX3_smallerHoldsFrom.2.1 21 (.ireturn) 1 22 := ⟨by decide +kernel, rfl⟩
theorem dX3_smallerHoldsFrom_22 : Dd mX3_smallerHoldsFrom.2.1 22 (.iload_n 3) 1 23 := ⟨by decide +kernel, rfl⟩
theorem dX3_smallerHoldsFrom_23 : Dd mX3_smallerHoldsFrom.2.1 23 (.iload_n 3) 1 24 := ⟨by decide +kernel, rfl⟩
theorem dX3_smallerHoldsFrom_24 : Dd mX3_smallerHoldsFrom.2.1 24 (.iconst 1) 1 25 := ⟨by decide +kernel, rfl⟩
theorem dX3_smallerHoldsFrom_25 : Dd mX3_smallerHoldsFrom.2.1 25 (.isub) 1 26 := ⟨by decide +kernel, rfl⟩
theorem dX3_smallerHoldsFrom_26 : Dd mX3_smallerHoldsFrom.2.1 26 (.iand) 1 27 := ⟨by decide +kernel, rfl⟩
theorem dX3_smallerHoldsFrom_27 : Dd mX3_smallerHoldsFrom.2.1 27 (.istore_n 3) 1 28 := ⟨by decide +kernel, rfl⟩
theorem dX3_smallerHoldsFrom_28 : Dd mX3_smallerHoldsFrom.2.1 28 (.goto (-26)) 3 31 := ⟨by decide +kernel, rfl⟩
theorem dX3_smallerHoldsFrom_31 : Dd mX3_smallerHoldsFrom.2.1 31 (.iconst 0) 1 32 := ⟨by decide +kernel, rfl⟩
theorem dX3_smallerHoldsFrom_32 : Dd mX3_smallerHoldsFrom.2.1 32 (.ireturn) 1 33 := ⟨by decide +kernel, rfl⟩
theorem dX3_isHeldFrom_0 : Dd mX3_isHeldFrom.2.1 0 (.iload_n 2) 1 1 := ⟨by decide +kernel, rfl⟩
theorem dX3_isHeldFrom_1 : Dd mX3_isHeldFrom.2.1 1 (.ifCond .lt 28) 3 4 := ⟨by decide +kernel, rfl⟩
theorem dX3_isHeldFrom_4 : Dd mX3_isHeldFrom.2.1 4 (.iload_n 2) 1 5 := ⟨by decide +kernel, rfl⟩
theorem dX3_isHeldFrom_5 : Dd mX3_isHeldFrom.2.1 5 (.sipush 1024) 3 8 := ⟨by decide +kernel, rfl⟩
theorem dX3_isHeldFrom_8 : Dd mX3_isHeldFrom.2.1 8 (.if_icmp .ge 21) 3 11 := ⟨by decide +kernel, rfl⟩
theorem dX3_isHeldFrom_11 : Dd mX3_isHeldFrom.2.1 11 (.aload_n 0) 1 12 := ⟨by decide +kernel, rfl⟩
theorem dX3_isHeldFrom_12 : Dd mX3_isHeldFrom.2.1 12 (.getfield 39) 3 15 := ⟨by decide +kernel, rfl⟩
theorem dX3_isHeldFrom_15 : Dd mX3_isHeldFrom.2.1 15 (.iload_n 2) 1 16 := ⟨by decide +kernel, rfl⟩
theorem dX3_isHeldFrom_16 : Dd mX3_isHeldFrom.2.1 16 (.iaload) 1 17 := ⟨by decide +kernel, rfl⟩
theorem dX3_isHeldFrom_17 : Dd mX3_isHeldFrom.2.1 17 (.iload_n 1) 1 18 := ⟨by decide +kernel, rfl⟩
theorem dX3_isHeldFrom_18 : Dd mX3_isHeldFrom.2.1 18 (.ishr) 1 19 := ⟨by decide +kernel, rfl⟩
theorem dX3_isHeldFrom_19 : Dd mX3_isHeldFrom.2.1 19 (.iconst 1) 1 20 := ⟨by decide +kernel, rfl⟩
theorem dX3_isHeldFrom_20 : Dd mX3_isHeldFrom.2.1 20 (.iand) 1 21 := ⟨by decide +kernel, rfl⟩
theorem dX3_isHeldFrom_21 : Dd mX3_isHeldFrom.2.1 21 (.iconst 1) 1 22 := ⟨by decide +kernel, rfl⟩
theorem dX3_isHeldFrom_22 : Dd mX3_isHeldFrom.2.1 22 (.if_icmp .ne 7) 3 25 := ⟨by decide +kernel, rfl⟩
theorem dX3_isHeldFrom_25 : Dd mX3_isHeldFrom.2.1 25 (.iconst 1) 1 26 := ⟨by decide +kernel, rfl⟩
theorem dX3_isHeldFrom_26 : Dd mX3_isHeldFrom.2.1 26 (.goto 4) 3 29 := ⟨by decide +kernel, rfl⟩
theorem dX3_isHeldFrom_29 : Dd mX3_isHeldFrom.2.1 29 (.iconst 0) 1 30 := ⟨by decide +kernel, rfl⟩
theorem dX3_isHeldFrom_30 : Dd mX3_isHeldFrom.2.1 30 (.ireturn) 1 31 := ⟨by decide +kernel, rfl⟩
theorem dX3_lowestRibbon_0 : Dd mX3_lowestRibbon.2.1 0 (.iload_n 1) 1 1 := ⟨by decide +kernel, rfl⟩
theorem dX3_lowestRibbon_1 : Dd mX3_lowestRibbon.2.1 1 (.ifCond .lt 17) 3 4 := ⟨by decide +kernel, rfl⟩
theorem dX3_lowestRibbon_4 : Dd mX3_lowestRibbon.2.1 4 (.iload_n 1) 1 5 := ⟨by decide +kernel, rfl⟩
theorem dX3_lowestRibbon_5 : Dd mX3_lowestRibbon.2.1 5 (.iconst 4) 1 6 := ⟨by decide +kernel, rfl⟩
theorem dX3_lowestRibbon_6 : Dd mX3_lowestRibbon.2.1 6 (.if_icmp .ge 12) 3 9 := ⟨by decide +kernel, rfl⟩
theorem dX3_lowestRibbon_9 : Dd mX3_lowestRibbon.2.1 9 (.aload_n 0) 1 10 := ⟨by decide +kernel, rfl⟩
theorem dX3_lowestRibbon_10 : Dd mX3_lowestRibbon.2.1 10 (.getfield 33) 3 13 := ⟨by decide +kernel, rfl⟩
theorem dX3_lowestRibbon_13 : Dd mX3_lowestRibbon.2.1 13 (.iload_n 1) 1 14 := ⟨by decide +kernel, rfl⟩
theorem dX3_lowestRibbon_14 : Dd mX3_lowestRibbon.2.1 14 (.iaload) 1 15 := ⟨by decide +kernel, rfl⟩
theorem dX3_lowestRibbon_15 : Dd mX3_lowestRibbon.2.1 15 (.goto 4) 3 18 := ⟨by decide +kernel, rfl⟩
theorem dX3_lowestRibbon_18 : Dd mX3_lowestRibbon.2.1 18 (.iconst 0) 1 19 := ⟨by decide +kernel, rfl⟩
theorem dX3_lowestRibbon_19 : Dd mX3_lowestRibbon.2.1 19 (.istore_n 3) 1 20 := ⟨by decide +kernel, rfl⟩
theorem dX3_lowestRibbon_20 : Dd mX3_lowestRibbon.2.1 20 (.iconst 0) 1 21 := ⟨by decide +kernel, rfl⟩
theorem dX3_lowestRibbon_21 : Dd mX3_lowestRibbon.2.1 21 (.istore 4) 2 23 := ⟨by decide +kernel, rfl⟩
theorem dX3_lowestRibbon_23 : Dd mX3_lowestRibbon.2.1 23 (.iload_n 2) 1 24 := ⟨by decide +kernel, rfl⟩
theorem dX3_lowestRibbon_24 : Dd mX3_lowestRibbon.2.1 24 (.istore 5) 2 26 := ⟨by decide +kernel, rfl⟩
theorem dX3_lowestRibbon_26 : Dd mX3_lowestRibbon.2.1 26 (.iload 5) 2 28 := ⟨by decide +kernel, rfl⟩
theorem dX3_lowestRibbon_28 : Dd mX3_lowestRibbon.2.1 28 (.ifCond .le 45) 3 31 := ⟨by decide +kernel, rfl⟩
theorem dX3_lowestRibbon_31 : Dd mX3_lowestRibbon.2.1 31 (.aload_n 0) 1 32 := ⟨by decide +kernel, rfl⟩
theorem dX3_lowestRibbon_32 : Dd mX3_lowestRibbon.2.1 32 (.getfield 48) 3 35 := ⟨by decide +kernel, rfl⟩
theorem dX3_lowestRibbon_35 : Dd mX3_lowestRibbon.2.1 35 (.iload 5) 2 37 := ⟨by decide +kernel, rfl⟩
theorem dX3_lowestRibbon_37 : Dd mX3_lowestRibbon.2.1 37 (.invokevirtual 59) 3 40 := ⟨by decide +kernel, rfl⟩
theorem dX3_lowestRibbon_40 : Dd mX3_lowestRibbon.2.1 40 (.iload_n 3) 1 41 := ⟨by decide +kernel, rfl⟩
theorem dX3_lowestRibbon_41 : Dd mX3_lowestRibbon.2.1 41 (.if_icmp .lt 21) 3 44 := ⟨by decide +kernel, rfl⟩
theorem dX3_lowestRibbon_44 : Dd mX3_lowestRibbon.2.1 44 (.aload_n 0) 1 45 := ⟨by decide +kernel, rfl⟩
theorem dX3_lowestRibbon_45 : Dd mX3_lowestRibbon.2.1 45 (.iload_n 1) 1 46 := ⟨by decide +kernel, rfl⟩
theorem dX3_lowestRibbon_46 : Dd mX3_lowestRibbon.2.1 46 (.iconst 1) 1 47 := ⟨by decide +kernel, rfl⟩
theorem dX3_lowestRibbon_47 : Dd mX3_lowestRibbon.2.1 47 (.iadd) 1 48 := ⟨by decide +kernel, rfl⟩
theorem dX3_lowestRibbon_48 : Dd mX3_lowestRibbon.2.1 48 (.iload_n 2) 1 49 := ⟨by decide +kernel, rfl⟩
theorem dX3_lowestRibbon_49 : Dd mX3_lowestRibbon.2.1 49 (.iload 5) 2 51 := ⟨by decide +kernel, rfl⟩
theorem dX3_lowestRibbon_51 : Dd mX3_lowestRibbon.2.1 51 (.ixor) 1 52 := ⟨by decide +kernel, rfl⟩
theorem dX3_lowestRibbon_52 : Dd mX3_lowestRibbon.2.1 52 (.invokevirtual 112) 3 55 := ⟨by decide +kernel, rfl⟩
theorem dX3_lowestRibbon_55 : Dd mX3_lowestRibbon.2.1 55 (.ifCond .eq 7) 3 58 := ⟨by decide +kernel, rfl⟩
theorem dX3_lowestRibbon_58 : Dd mX3_lowestRibbon.2.1 58 (.iload 5) 2 60 := ⟨by decide +kernel, rfl⟩
theorem dX3_lowestRibbon_60 : Dd mX3_lowestRibbon.2.1 60 (.istore 4) 2 62 := ⟨by decide +kernel, rfl⟩
theorem dX3_lowestRibbon_62 : Dd mX3_lowestRibbon.2.1 62 (.iload 5) 2 64 := ⟨by decide +kernel, rfl⟩
theorem dX3_lowestRibbon_64 : Dd mX3_lowestRibbon.2.1 64 (.iconst 1) 1 65 := ⟨by decide +kernel, rfl⟩
theorem dX3_lowestRibbon_65 : Dd mX3_lowestRibbon.2.1 65 (.isub) 1 66 := ⟨by decide +kernel, rfl⟩
theorem dX3_lowestRibbon_66 : Dd mX3_lowestRibbon.2.1 66 (.iload_n 2) 1 67 := ⟨by decide +kernel, rfl⟩
theorem dX3_lowestRibbon_67 : Dd mX3_lowestRibbon.2.1 67 (.iand) 1 68 := ⟨by decide +kernel, rfl⟩
theorem dX3_lowestRibbon_68 : Dd mX3_lowestRibbon.2.1 68 (.istore 5) 2 70 := ⟨by decide +kernel, rfl⟩
theorem dX3_lowestRibbon_70 : Dd mX3_lowestRibbon.2.1 70 (.goto (-44)) 3 73 := ⟨by decide +kernel, rfl⟩
theorem dX3_lowestRibbon_73 : Dd mX3_lowestRibbon.2.1 73 (.iload 4) 2 75 := ⟨by decide +kernel, rfl⟩
theorem dX3_lowestRibbon_75 : Dd mX3_lowestRibbon.2.1 75 (.ireturn) 1 76 := ⟨by decide +kernel, rfl⟩
theorem dX3_shareOut_0 : Dd mX3_shareOut.2.1 0 (.iconst 0) 1 1 := ⟨by decide +kernel, rfl⟩
theorem dX3_shareOut_1 : Dd mX3_shareOut.2.1 1 (.istore_n 2) 1 2 := ⟨by decide +kernel, rfl⟩
theorem dX3_shareOut_2 : Dd mX3_shareOut.2.1 2 (.iload_n 2) 1 3 := ⟨by decide +kernel, rfl⟩
theorem dX3_shareOut_3 : Dd mX3_shareOut.2.1 3 (.iconst 4) 1 4 := ⟨by decide +kernel, rfl⟩
theorem dX3_shareOut_4 : Dd mX3_shareOut.2.1 4 (.if_icmp .ge 16) 3 7 := ⟨by decide +kernel, rfl⟩
theorem dX3_shareOut_7 : Dd mX3_shareOut.2.1 7 (.aload_n 0) 1 8 := ⟨by decide +kernel, rfl⟩
theorem dX3_shareOut_8 : Dd mX3_shareOut.2.1 8 (.getfield 26) 3 11 := ⟨by decide +kernel, rfl⟩
theorem dX3_shareOut_11 : Dd mX3_shareOut.2.1 11 (.iload_n 2) 1 12 := ⟨by decide +kernel, rfl⟩
theorem dX3_shareOut_12 : Dd mX3_shareOut.2.1 12 (.iconst 0) 1 13 := ⟨by decide +kernel, rfl⟩
theorem dX3_shareOut_13 : Dd mX3_shareOut.2.1 13 (.iastore) 1 14 := ⟨by decide +kernel, rfl⟩
theorem dX3_shareOut_14 : Dd mX3_shareOut.2.1 14 (.iinc 2 1) 3 17 := ⟨by decide +kernel, rfl⟩
theorem dX3_shareOut_17 : Dd mX3_shareOut.2.1 17 (.goto (-15)) 3 20 := ⟨by decide +kernel, rfl⟩
theorem dX3_shareOut_20 : Dd mX3_shareOut.2.1 20 (.iload_n 1) 1 21 := ⟨by decide +kernel, rfl⟩
theorem dX3_shareOut_21 : Dd mX3_shareOut.2.1 21 (.istore_n 2) 1 22 := ⟨by decide +kernel, rfl⟩
theorem dX3_shareOut_22 : Dd mX3_shareOut.2.1 22 (.iconst 0) 1 23 := ⟨by decide +kernel, rfl⟩
theorem dX3_shareOut_23 : Dd mX3_shareOut.2.1 23 (.istore_n 3) 1 24 := ⟨by decide +kernel, rfl⟩
theorem dX3_shareOut_24 : Dd mX3_shareOut.2.1 24 (.iload_n 3) 1 25 := ⟨by decide +kernel, rfl⟩
theorem dX3_shareOut_25 : Dd mX3_shareOut.2.1 25 (.aload_n 0) 1 26 := ⟨by decide +kernel, rfl⟩
theorem dX3_shareOut_26 : Dd mX3_shareOut.2.1 26 (.getfield 45) 3 29 := ⟨by decide +kernel, rfl⟩
theorem dX3_shareOut_29 : Dd mX3_shareOut.2.1 29 (.if_icmp .ge 55) 3 32 := ⟨by decide +kernel, rfl⟩
theorem dX3_shareOut_32 : Dd mX3_shareOut.2.1 32 (.iload_n 3) 1 33 := ⟨by decide +kernel, rfl⟩
theorem dX3_shareOut_33 : Dd mX3_shareOut.2.1 33 (.iconst 4) 1 34 := ⟨by decide +kernel, rfl⟩
theorem dX3_shareOut_34 : Dd mX3_shareOut.2.1 34 (.if_icmp .ge 50) 3 37 := ⟨by decide +kernel, rfl⟩
theorem dX3_shareOut_37 : Dd mX3_shareOut.2.1 37 (.aload_n 0) 1 38 := ⟨by decide +kernel, rfl⟩
theorem dX3_shareOut_38 : Dd mX3_shareOut.2.1 38 (.getfield 30) 3 41 := ⟨by decide +kernel, rfl⟩
theorem dX3_shareOut_41 : Dd mX3_shareOut.2.1 41 (.iload_n 3) 1 42 := ⟨by decide +kernel, rfl⟩
theorem dX3_shareOut_42 : Dd mX3_shareOut.2.1 42 (.iaload) 1 43 := ⟨by decide +kernel, rfl⟩
theorem dX3_shareOut_43 : Dd mX3_shareOut.2.1 43 (.istore 4) 2 45 := ⟨by decide +kernel, rfl⟩
theorem dX3_shareOut_45 : Dd mX3_shareOut.2.1 45 (.aload_n 0) 1 46 := ⟨by decide +kernel, rfl⟩
theorem dX3_shareOut_46 : Dd mX3_shareOut.2.1 46 (.iload_n 3) 1 47 := ⟨by decide +kernel, rfl⟩
theorem dX3_shareOut_47 : Dd mX3_shareOut.2.1 47 (.iload_n 2) 1 48 := ⟨by decide +kernel, rfl⟩
theorem dX3_shareOut_48 : Dd mX3_shareOut.2.1 48 (.invokevirtual 109) 3 51 := ⟨by decide +kernel, rfl⟩
theorem dX3_shareOut_51 : Dd mX3_shareOut.2.1 51 (.istore 5) 2 53 := ⟨by decide +kernel, rfl⟩
theorem dX3_shareOut_53 : Dd mX3_shareOut.2.1 53 (.iload 4) 2 55 := ⟨by decide +kernel, rfl⟩
theorem dX3_shareOut_55 : Dd mX3_shareOut.2.1 55 (.ifCond .lt 18) 3 58 := ⟨by decide +kernel, rfl⟩
theorem dX3_shareOut_58 : Dd mX3_shareOut.2.1 58 (.iload 4) 2 60 := ⟨by decide +kernel, rfl⟩
theorem dX3_shareOut_60 : Dd mX3_shareOut.2.1 60 (.iconst 4) 1 61 := ⟨by decide +kernel, rfl⟩
theorem dX3_shareOut_61 : Dd mX3_shareOut.2.1 61 (.if_icmp .ge 12) 3 64 := ⟨by decide +kernel, rfl⟩
theorem dX3_shareOut_64 : Dd mX3_shareOut.2.1 64 (.aload_n 0) 1 65 := ⟨by decide +kernel, rfl⟩
theorem dX3_shareOut_65 : Dd mX3_shareOut.2.1 65 (.getfield 26) 3 68 := ⟨by decide +kernel, rfl⟩
theorem dX3_shareOut_68 : Dd mX3_shareOut.2.1 68 (.iload 4) 2 70 := ⟨by decide +kernel, rfl⟩
theorem dX3_shareOut_70 : Dd mX3_shareOut.2.1 70 (.iload 5) 2 72 := ⟨by decide +kernel, rfl⟩
theorem dX3_shareOut_72 : Dd mX3_shareOut.2.1 72 (.iastore) 1 73 := ⟨by decide +kernel, rfl⟩
theorem dX3_shareOut_73 : Dd mX3_shareOut.2.1 73 (.iload_n 2) 1 74 := ⟨by decide +kernel, rfl⟩
theorem dX3_shareOut_74 : Dd mX3_shareOut.2.1 74 (.iload 5) 2 76 := ⟨by decide +kernel, rfl⟩
theorem dX3_shareOut_76 : Dd mX3_shareOut.2.1 76 (.ixor) 1 77 := ⟨by decide +kernel, rfl⟩
theorem dX3_shareOut_77 : Dd mX3_shareOut.2.1 77 (.istore_n 2) 1 78 := ⟨by decide +kernel, rfl⟩
theorem dX3_shareOut_78 : Dd mX3_shareOut.2.1 78 (.iinc 3 1) 3 81 := ⟨by decide +kernel, rfl⟩
theorem dX3_shareOut_81 : Dd mX3_shareOut.2.1 81 (.goto (-57)) 3 84 := ⟨by decide +kernel, rfl⟩
theorem dX3_shareOut_84 : Dd mX3_shareOut.2.1 84 (.return_) 1 85 := ⟨by decide +kernel, rfl⟩
theorem dX3_mostBound_0 : Dd mX3_mostBound.2.1 0 (.iconst 0) 1 1 := ⟨by decide +kernel, rfl⟩
theorem dX3_mostBound_1 : Dd mX3_mostBound.2.1 1 (.istore_n 3) 1 2 := ⟨by decide +kernel, rfl⟩
theorem dX3_mostBound_2 : Dd mX3_mostBound.2.1 2 (.iload_n 3) 1 3 := ⟨by decide +kernel, rfl⟩
theorem dX3_mostBound_3 : Dd mX3_mostBound.2.1 3 (.aload_n 0) 1 4 := ⟨by decide +kernel, rfl⟩
theorem dX3_mostBound_4 : Dd mX3_mostBound.2.1 4 (.getfield 48) 3 7 := ⟨by decide +kernel, rfl⟩
theorem dX3_mostBound_7 : Dd mX3_mostBound.2.1 7 (.getfield 56) 3 10 := ⟨by decide +kernel, rfl⟩
theorem dX3_mostBound_10 : Dd mX3_mostBound.2.1 10 (.if_icmp .ge 36) 3 13 := ⟨by decide +kernel, rfl⟩
theorem dX3_mostBound_13 : Dd mX3_mostBound.2.1 13 (.iload_n 3) 1 14 := ⟨by decide +kernel, rfl⟩
theorem dX3_mostBound_14 : Dd mX3_mostBound.2.1 14 (.sipush 1024) 3 17 := ⟨by decide +kernel, rfl⟩
theorem dX3_mostBound_17 : Dd mX3_mostBound.2.1 17 (.if_icmp .ge 29) 3 20 := ⟨by decide +kernel, rfl⟩
theorem dX3_mostBound_20 : Dd mX3_mostBound.2.1 20 (.iload_n 3) 1 21 := ⟨by decide +kernel, rfl⟩
theorem dX3_mostBound_21 : Dd mX3_mostBound.2.1 21 (.iload_n 2) 1 22 := ⟨by decide +kernel, rfl⟩
theorem dX3_mostBound_22 : Dd mX3_mostBound.2.1 22 (.iconst (-1)) 1 23 := ⟨by decide +kernel, rfl⟩
theorem dX3_mostBound_23 : Dd mX3_mostBound.2.1 23 (.ixor) 1 24 := ⟨by decide +kernel, rfl⟩
theorem dX3_mostBound_24 : Dd mX3_mostBound.2.1 24 (.iand) 1 25 := ⟨by decide +kernel, rfl⟩
theorem dX3_mostBound_25 : Dd mX3_mostBound.2.1 25 (.ifCond .ne 15) 3 28 := ⟨by decide +kernel, rfl⟩
theorem dX3_mostBound_28 : Dd mX3_mostBound.2.1 28 (.aload_n 0) 1 29 := ⟨by decide +kernel, rfl⟩
theorem dX3_mostBound_29 : Dd mX3_mostBound.2.1 29 (.getfield 42) 3 32 := ⟨by decide +kernel, rfl⟩
theorem dX3_mostBound_32 : Dd mX3_mostBound.2.1 32 (.iload_n 3) 1 33 := ⟨by decide +kernel, rfl⟩
theorem dX3_mostBound_33 : Dd mX3_mostBound.2.1 33 (.aload_n 0) 1 34 := ⟨by decide +kernel, rfl⟩
theorem dX3_mostBound_34 : Dd mX3_mostBound.2.1 34 (.iload_n 3) 1 35 := ⟨by decide +kernel, rfl⟩
theorem dX3_mostBound_35 : Dd mX3_mostBound.2.1 35 (.iload_n 1) 1 36 := ⟨by decide +kernel, rfl⟩
theorem dX3_mostBound_36 : Dd mX3_mostBound.2.1 36 (.invokevirtual 115) 3 39 := ⟨by decide +kernel, rfl⟩
theorem dX3_mostBound_39 : Dd mX3_mostBound.2.1 39 (.iastore) 1 40 := ⟨by decide +kernel, rfl⟩
theorem dX3_mostBound_40 : Dd mX3_mostBound.2.1 40 (.iinc 3 1) 3 43 := ⟨by decide +kernel, rfl⟩
theorem dX3_mostBound_43 : Dd mX3_mostBound.2.1 43 (.goto (-41)) 3 46 := ⟨by decide +kernel, rfl⟩
theorem dX3_mostBound_46 : Dd mX3_mostBound.2.1 46 (.aload_n 0) 1 47 := ⟨by decide +kernel, rfl⟩
theorem dX3_mostBound_47 : Dd mX3_mostBound.2.1 47 (.iload_n 2) 1 48 := ⟨by decide +kernel, rfl⟩
theorem dX3_mostBound_48 : Dd mX3_mostBound.2.1 48 (.invokevirtual 118) 3 51 := ⟨by decide +kernel, rfl⟩
theorem dX3_mostBound_51 : Dd mX3_mostBound.2.1 51 (.ireturn) 1 52 := ⟨by decide +kernel, rfl⟩
theorem dX3_mostOutOf_0 : Dd mX3_mostOutOf.2.1 0 (.iload_n 1) 1 1 := ⟨by decide +kernel, rfl⟩
theorem dX3_mostOutOf_1 : Dd mX3_mostOutOf.2.1 1 (.iload_n 1) 1 2 := ⟨by decide +kernel, rfl⟩
theorem dX3_mostOutOf_2 : Dd mX3_mostOutOf.2.1 2 (.ineg) 1 3 := ⟨by decide +kernel, rfl⟩
theorem dX3_mostOutOf_3 : Dd mX3_mostOutOf.2.1 3 (.iand) 1 4 := ⟨by decide +kernel, rfl⟩
theorem dX3_mostOutOf_4 : Dd mX3_mostOutOf.2.1 4 (.istore_n 3) 1 5 := ⟨by decide +kernel, rfl⟩
theorem dX3_mostOutOf_5 : Dd mX3_mostOutOf.2.1 5 (.iload_n 1) 1 6 := ⟨by decide +kernel, rfl⟩
theorem dX3_mostOutOf_6 : Dd mX3_mostOutOf.2.1 6 (.iload_n 3) 1 7 := ⟨by decide +kernel, rfl⟩
theorem dX3_mostOutOf_7 : Dd mX3_mostOutOf.2.1 7 (.ixor) 1 8 := ⟨by decide +kernel, rfl⟩
theorem dX3_mostOutOf_8 : Dd mX3_mostOutOf.2.1 8 (.istore 4) 2 10 := ⟨by decide +kernel, rfl⟩
theorem dX3_mostOutOf_10 : Dd mX3_mostOutOf.2.1 10 (.iload_n 1) 1 11 := ⟨by decide +kernel, rfl⟩
theorem dX3_mostOutOf_11 : Dd mX3_mostOutOf.2.1 11 (.ifCond .eq 8) 3 14 := ⟨by decide +kernel, rfl⟩
theorem dX3_mostOutOf_14 : Dd mX3_mostOutOf.2.1 14 (.iload_n 2) 1 15 := ⟨by decide +kernel, rfl⟩
theorem dX3_mostOutOf_15 : Dd mX3_mostOutOf.2.1 15 (.iconst 1) 1 16 := ⟨by decide +kernel, rfl⟩
theorem dX3_mostOutOf_16 : Dd mX3_mostOutOf.2.1 16 (.if_icmp .ge 5) 3 19 := ⟨by decide +kernel, rfl⟩
theorem dX3_mostOutOf_19 : Dd mX3_mostOutOf.2.1 19 (.iconst 0) 1 20 := ⟨by decide +kernel, rfl⟩
theorem dX3_mostOutOf_20 : Dd mX3_mostOutOf.2.1 20 (.ireturn) 1 21 := ⟨by decide +kernel, rfl⟩
theorem dX3_mostOutOf_21 : Dd mX3_mostOutOf.2.1 21 (.aload_n 0) 1 22 := ⟨by decide +kernel, rfl⟩
theorem dX3_mostOutOf_22 : Dd mX3_mostOutOf.2.1 22 (.iload 4) 2 24 := ⟨by decide +kernel, rfl⟩
theorem dX3_mostOutOf_24 : Dd mX3_mostOutOf.2.1 24 (.invokevirtual 118) 3 27 := ⟨by decide +kernel, rfl⟩
theorem dX3_mostOutOf_27 : Dd mX3_mostOutOf.2.1 27 (.istore 5) 2 29 := ⟨by decide +kernel, rfl⟩
theorem dX3_mostOutOf_29 : Dd mX3_mostOutOf.2.1 29 (.iload 5) 2 31 := ⟨by decide +kernel, rfl⟩
theorem dX3_mostOutOf_31 : Dd mX3_mostOutOf.2.1 31 (.iconst 1) 1 32 := ⟨by decide +kernel, rfl⟩
theorem dX3_mostOutOf_32 : Dd mX3_mostOutOf.2.1 32 (.iadd) 1 33 := ⟨by decide +kernel, rfl⟩
theorem dX3_mostOutOf_33 : Dd mX3_mostOutOf.2.1 33 (.aload_n 0) 1 34 := ⟨by decide +kernel, rfl⟩
theorem dX3_mostOutOf_34 : Dd mX3_mostOutOf.2.1 34 (.getfield 48) 3 37 := ⟨by decide +kernel, rfl⟩
theorem dX3_mostOutOf_37 : Dd mX3_mostOutOf.2.1 37 (.iload_n 1) 1 38 := ⟨by decide +kernel, rfl⟩
theorem dX3_mostOutOf_38 : Dd mX3_mostOutOf.2.1 38 (.invokevirtual 59) 3 41 := ⟨by decide +kernel, rfl⟩
theorem dX3_mostOutOf_41 : Dd mX3_mostOutOf.2.1 41 (.iload_n 2) 1 42 := ⟨by decide +kernel, rfl⟩
theorem dX3_mostOutOf_42 : Dd mX3_mostOutOf.2.1 42 (.idiv) 1 43 := ⟨by decide +kernel, rfl⟩
theorem dX3_mostOutOf_43 : Dd mX3_mostOutOf.2.1 43 (.invokestatic 121) 3 46 := ⟨by decide +kernel, rfl⟩
theorem dX3_mostOutOf_46 : Dd mX3_mostOutOf.2.1 46 (.istore 6) 2 48 := ⟨by decide +kernel, rfl⟩
theorem dX3_mostOutOf_48 : Dd mX3_mostOutOf.2.1 48 (.iload 4) 2 50 := ⟨by decide +kernel, rfl⟩
theorem dX3_mostOutOf_50 : Dd mX3_mostOutOf.2.1 50 (.istore 7) 2 52 := ⟨by decide +kernel, rfl⟩
theorem dX3_mostOutOf_52 : Dd mX3_mostOutOf.2.1 52 (.iload 7) 2 54 := ⟨by decide +kernel, rfl⟩
theorem dX3_mostOutOf_54 : Dd mX3_mostOutOf.2.1 54 (.ifCond .lt 64) 3 57 := ⟨by decide +kernel, rfl⟩
theorem dX3_mostOutOf_57 : Dd mX3_mostOutOf.2.1 57 (.iload 5) 2 59 := ⟨by decide +kernel, rfl⟩
theorem dX3_mostOutOf_59 : Dd mX3_mostOutOf.2.1 59 (.iload 6) 2 61 := ⟨by decide +kernel, rfl⟩
theorem dX3_mostOutOf_61 : Dd mX3_mostOutOf.2.1 61 (.if_icmp .ge 57) 3 64 := ⟨by decide +kernel, rfl⟩
theorem dX3_mostOutOf_64 : Dd mX3_mostOutOf.2.1 64 (.aload_n 0) 1 65 := ⟨by decide +kernel, rfl⟩
theorem dX3_mostOutOf_65 : Dd mX3_mostOutOf.2.1 65 (.getfield 48) 3 68 := ⟨by decide +kernel, rfl⟩
theorem dX3_mostOutOf_68 : Dd mX3_mostOutOf.2.1 68 (.iload 7) 2 70 := ⟨by decide +kernel, rfl⟩
theorem dX3_mostOutOf_70 : Dd mX3_mostOutOf.2.1 70 (.iload_n 3) 1 71 := ⟨by decide +kernel, rfl⟩
theorem dX3_mostOutOf_71 : Dd mX3_mostOutOf.2.1 71 (.ior) 1 72 := ⟨by decide +kernel, rfl⟩
theorem dX3_mostOutOf_72 : Dd mX3_mostOutOf.2.1 72 (.invokevirtual 59) 3 75 := ⟨by decide +kernel, rfl⟩
theorem dX3_mostOutOf_75 : Dd mX3_mostOutOf.2.1 75 (.iload_n 2) 1 76 := ⟨by decide +kernel, rfl⟩
theorem dX3_mostOutOf_76 : Dd mX3_mostOutOf.2.1 76 (.if_icmp .lt 21) 3 79 := ⟨by decide +kernel, rfl⟩
theorem dX3_mostOutOf_79 : Dd mX3_mostOutOf.2.1 79 (.iload 5) 2 81 := ⟨by decide +kernel, rfl⟩
theorem dX3_mostOutOf_81 : Dd mX3_mostOutOf.2.1 81 (.iconst 1) 1 82 := ⟨by decide +kernel, rfl⟩
theorem dX3_mostOutOf_82 : Dd mX3_mostOutOf.2.1 82 (.aload_n 0) 1 83 := ⟨by decide +kernel, rfl⟩
theorem dX3_mostOutOf_83 : Dd mX3_mostOutOf.2.1 83 (.iload 4) 2 85 := ⟨by decide +kernel, rfl⟩
theorem dX3_mostOutOf_85 : Dd mX3_mostOutOf.2.1 85 (.iload 7) 2 87 := ⟨by decide +kernel, rfl⟩
theorem dX3_mostOutOf_87 : Dd mX3_mostOutOf.2.1 87 (.ixor) 1 88 := ⟨by decide +kernel, rfl⟩
theorem dX3_mostOutOf_88 : Dd mX3_mostOutOf.2.1 88 (.invokevirtual 118) 3 91 := ⟨by decide +kernel, rfl⟩
theorem dX3_mostOutOf_91 : Dd mX3_mostOutOf.2.1 91 (.iadd) 1 92 := ⟨by decide +kernel, rfl⟩
theorem dX3_mostOutOf_92 : Dd mX3_mostOutOf.2.1 92 (.invokestatic 126) 3 95 := ⟨by decide +kernel, rfl⟩
theorem dX3_mostOutOf_95 : Dd mX3_mostOutOf.2.1 95 (.istore 5) 2 97 := ⟨by decide +kernel, rfl⟩
theorem dX3_mostOutOf_97 : Dd mX3_mostOutOf.2.1 97 (.iload 7) 2 99 := ⟨by decide +kernel, rfl⟩
theorem dX3_mostOutOf_99 : Dd mX3_mostOutOf.2.1 99 (.ifCond .ne 7) 3 102 := ⟨by decide +kernel, rfl⟩
theorem dX3_mostOutOf_102 : Dd mX3_mostOutOf.2.1 102 (.iconst (-1)) 1 103 := ⟨by decide +kernel, rfl⟩
theorem dX3_mostOutOf_103 : Dd mX3_mostOutOf.2.1 103 (.goto 10) 3 106 := ⟨by decide +kernel, rfl⟩
theorem dX3_mostOutOf_106 : Dd mX3_mostOutOf.2.1 106 (.iload 7) 2 108 := ⟨by decide +kernel, rfl⟩
theorem dX3_mostOutOf_108 : Dd mX3_mostOutOf.2.1 108 (.iconst 1) 1 109 := ⟨by decide +kernel, rfl⟩
theorem dX3_mostOutOf_109 : Dd mX3_mostOutOf.2.1 109 (.isub) 1 110 := ⟨by decide +kernel, rfl⟩
theorem dX3_mostOutOf_110 : Dd mX3_mostOutOf.2.1 110 (.iload 4) 2 112 := ⟨by decide +kernel, rfl⟩
theorem dX3_mostOutOf_112 : Dd mX3_mostOutOf.2.1 112 (.iand) 1 113 := ⟨by decide +kernel, rfl⟩
theorem dX3_mostOutOf_113 : Dd mX3_mostOutOf.2.1 113 (.istore 7) 2 115 := ⟨by decide +kernel, rfl⟩
theorem dX3_mostOutOf_115 : Dd mX3_mostOutOf.2.1 115 (.goto (-63)) 3 118 := ⟨by decide +kernel, rfl⟩
theorem dX3_mostOutOf_118 : Dd mX3_mostOutOf.2.1 118 (.iload 5) 2 120 := ⟨by decide +kernel, rfl⟩
theorem dX3_mostOutOf_120 : Dd mX3_mostOutOf.2.1 120 (.ireturn) 1 121 := ⟨by decide +kernel, rfl⟩
theorem dX3_mostKnown_0 : Dd mX3_mostKnown.2.1 0 (.iload_n 1) 1 1 := ⟨by decide +kernel, rfl⟩
theorem dX3_mostKnown_1 : Dd mX3_mostKnown.2.1 1 (.ifCond .lt 19) 3 4 := ⟨by decide +kernel, rfl⟩
theorem dX3_mostKnown_4 : Dd mX3_mostKnown.2.1 4 (.iload_n 1) 1 5 := ⟨by decide +kernel, rfl⟩
theorem dX3_mostKnown_5 : Dd mX3_mostKnown.2.1 5 (.sipush 1024) 3 8 := ⟨by decide +kernel, rfl⟩
theorem dX3_mostKnown_8 : Dd mX3_mostKnown.2.1 8 (.if_icmp .ge 12) 3 11 := ⟨by decide +kernel, rfl⟩
theorem dX3_mostKnown_11 : Dd mX3_mostKnown.2.1 11 (.aload_n 0) 1 12 := ⟨by decide +kernel, rfl⟩
theorem dX3_mostKnown_12 : Dd mX3_mostKnown.2.1 12 (.getfield 42) 3 15 := ⟨by decide +kernel, rfl⟩
theorem dX3_mostKnown_15 : Dd mX3_mostKnown.2.1 15 (.iload_n 1) 1 16 := ⟨by decide +kernel, rfl⟩
theorem dX3_mostKnown_16 : Dd mX3_mostKnown.2.1 16 (.iaload) 1 17 := ⟨by decide +kernel, rfl⟩
theorem dX3_mostKnown_17 : Dd mX3_mostKnown.2.1 17 (.goto 4) 3 20 := ⟨by decide +kernel, rfl⟩
theorem dX3_mostKnown_20 : Dd mX3_mostKnown.2.1 20 (.iconst 0) 1 21 := ⟨by decide +kernel, rfl⟩
theorem dX3_mostKnown_21 : Dd mX3_mostKnown.2.1 21 (.ireturn) 1 22 := ⟨by decide +kernel, rfl⟩
theorem dX4_init_0 : Dd mX4_init.2.1 0 (.aload_n 0) 1 1 := ⟨by decide +kernel, rfl⟩
theorem dX4_init_1 : Dd mX4_init.2.1 1 (.invokespecial 3) 3 4 := ⟨by decide +kernel, rfl⟩
theorem dX4_init_4 : Dd mX4_init.2.1 4 (.aload_n 0) 1 5 := ⟨by decide +kernel, rfl⟩
theorem dX4_init_5 : Dd mX4_init.2.1 5 (.iconst 4) 1 6 := ⟨by decide +kernel, rfl⟩
theorem dX4_init_6 : Dd mX4_init.2.1 6 (.newarray .int) 2 8 := ⟨by decide +kernel, rfl⟩
theorem dX4_init_8 : Dd mX4_init.2.1 8 (.putfield 11) 3 11 := ⟨by decide +kernel, rfl⟩
theorem dX4_init_11 : Dd mX4_init.2.1 11 (.aload_n 0) 1 12 := ⟨by decide +kernel, rfl⟩
theorem dX4_init_12 : Dd mX4_init.2.1 12 (.iconst 0) 1 13 := ⟨by decide +kernel, rfl⟩
theorem dX4_init_13 : Dd mX4_init.2.1 13 (.putfield 15) 3 16 := ⟨by decide +kernel, rfl⟩
theorem dX4_init_16 : Dd mX4_init.2.1 16 (.aload_n 0) 1 17 := ⟨by decide +kernel, rfl⟩
theorem dX4_init_17 : Dd mX4_init.2.1 17 (.aload_n 1) 1 18 := ⟨by decide +kernel, rfl⟩
theorem dX4_init_18 : Dd mX4_init.2.1 18 (.putfield 19) 3 21 := ⟨by decide +kernel, rfl⟩
theorem dX4_init_21 : Dd mX4_init.2.1 21 (.return_) 1 22 := ⟨by decide +kernel, rfl⟩
theorem dX4_readInto_0 : Dd mX4_readInto.2.1 0 (.aload_n 1) 1 1 := ⟨by decide +kernel, rfl⟩
theorem dX4_readInto_1 : Dd mX4_readInto.2.1 1 (.invokevirtual 23) 3 4 := ⟨by decide +kernel, rfl⟩
theorem dX4_readInto_4 : Dd mX4_readInto.2.1 4 (.aload_n 0) 1 5 := ⟨by decide +kernel, rfl⟩
theorem dX4_readInto_5 : Dd mX4_readInto.2.1 5 (.iconst 0) 1 6 := ⟨by decide +kernel, rfl⟩
theorem dX4_readInto_6 : Dd mX4_readInto.2.1 6 (.putfield 15) 3 9 := ⟨by decide +kernel, rfl⟩
theorem dX4_readInto_9 : Dd mX4_readInto.2.1 9 (.iconst 0) 1 10 := ⟨by decide +kernel, rfl⟩
theorem dX4_readInto_10 : Dd mX4_readInto.2.1 10 (.istore_n 2) 1 11 := ⟨by decide +kernel, rfl⟩
theorem dX4_readInto_11 : Dd mX4_readInto.2.1 11 (.iload_n 2) 1 12 := ⟨by decide +kernel, rfl⟩
theorem dX4_readInto_12 : Dd mX4_readInto.2.1 12 (.sipush 200) 3 15 := ⟨by decide +kernel, rfl⟩
theorem dX4_readInto_15 : Dd mX4_readInto.2.1 15 (.if_icmp .ge 38) 3 18 := ⟨by decide +kernel, rfl⟩
theorem dX4_readInto_18 : Dd mX4_readInto.2.1 18 (.aload_n 0) 1 19 := ⟨by decide +kernel, rfl⟩
theorem dX4_readInto_19 : Dd mX4_readInto.2.1 19 (.getfield 15) 3 22 := ⟨by decide +kernel, rfl⟩
theorem dX4_readInto_22 : Dd mX4_readInto.2.1 22 (.aload_n 0) 1 23 := ⟨by decide +kernel, rfl⟩
theorem dX4_readInto_23 : Dd mX4_readInto.2.1 23 (.getfield 19) 3 26 := ⟨by decide +kernel, rfl⟩
theorem dX4_readInto_26 : Dd mX4_readInto.2.1 26 (.invokevirtual 30) 3 29 := ⟨by decide +kernel, rfl⟩
theorem dX4_readInto_29 : Dd mX4_readInto.2.1 29 (.if_icmp .ge 24) 3 32 := ⟨by decide +kernel, rfl⟩
theorem dX4_readInto_32 : Dd mX4_readInto.2.1 32 (.aload_n 0) 1 33 := ⟨by decide +kernel, rfl⟩
theorem dX4_readInto_33 : Dd mX4_readInto.2.1 33 (.getfield 15) 3 36 := ⟨by decide +kernel, rfl⟩
theorem dX4_readInto_36 : Dd mX4_readInto.2.1 36 (.istore_n 3) 1 37 := ⟨by decide +kernel, rfl⟩
theorem dX4_readInto_37 : Dd mX4_readInto.2.1 37 (.aload_n 0) 1 38 := ⟨by decide +kernel, rfl⟩
theorem dX4_readInto_38 : Dd mX4_readInto.2.1 38 (.aload_n 1) 1 39 := ⟨by decide +kernel, rfl⟩
theorem dX4_readInto_39 : Dd mX4_readInto.2.1 39 (.invokevirtual 34) 3 42 := ⟨by decide +kernel, rfl⟩
theorem dX4_readInto_42 : Dd mX4_readInto.2.1 42 (.ifCond .ne 5) 3 45 := ⟨by decide +kernel, rfl⟩
theorem dX4_readInto_45 : Dd mX4_readInto.2.1 45 (.iload_n 3) 1 46 := ⟨by decide +kernel, rfl⟩
theorem dX4_readInto_46 : Dd mX4_readInto.2.1 46 (.ireturn) 1 47 := ⟨by decide +kernel, rfl⟩
theorem dX4_readInto_47 : Dd mX4_readInto.2.1 47 (.iinc 2 1) 3 50 := ⟨by decide +kernel, rfl⟩
theorem dX4_readInto_50 : Dd mX4_readInto.2.1 50 (.goto (-39)) 3 53 := ⟨by decide +kernel, rfl⟩
theorem dX4_readInto_53 : Dd mX4_readInto.2.1 53 (.bipush (-4)) 2 55 := ⟨by decide +kernel, rfl⟩
theorem dX4_readInto_55 : Dd mX4_readInto.2.1 55 (.ireturn) 1 56 := ⟨by decide +kernel, rfl⟩
theorem dX4_readItem_0 : Dd mX4_readItem.2.1 0 (.aload_n 0) 1 1 := ⟨by decide +kernel, rfl⟩
theorem dX4_readItem_1 : Dd mX4_readItem.2.1 1 (.getfield 19) 3 4 := ⟨by decide +kernel, rfl⟩
theorem dX4_readItem_4 : Dd mX4_readItem.2.1 4 (.aload_n 0) 1 5 := ⟨by decide +kernel, rfl⟩
theorem dX4_readItem_5 : Dd mX4_readItem.2.1 5 (.getfield 15) 3 8 := ⟨by decide +kernel, rfl⟩
theorem dX4_readItem_8 : Dd mX4_readItem.2.1 8 (.invokevirtual 38) 3 11 := ⟨by decide +kernel, rfl⟩
theorem dX4_readItem_11 : Dd mX4_readItem.2.1 11 (.istore_n 2) 1 12 := ⟨by decide +kernel, rfl⟩
theorem dX4_readItem_12 : Dd mX4_readItem.2.1 12 (.iload_n 2) 1 13 := ⟨by decide +kernel, rfl⟩
theorem dX4_readItem_13 : Dd mX4_readItem.2.1 13 (.invokestatic 42) 3 16 := ⟨by decide +kernel, rfl⟩
theorem dX4_readItem_16 : Dd mX4_readItem.2.1 16 (.istore_n 3) 1 17 := ⟨by decide +kernel, rfl⟩
theorem dX4_readItem_17 : Dd mX4_readItem.2.1 17 (.iload_n 3) 1 18 := ⟨by decide +kernel, rfl⟩
theorem dX4_readItem_18 : Dd mX4_readItem.2.1 18 (.ifCond .ne 5) 3 21 := ⟨by decide +kernel, rfl⟩
theorem dX4_readItem_21 : Dd mX4_readItem.2.1 21 (.iconst 0) 1 22 := ⟨by decide +kernel, rfl⟩
theorem dX4_readItem_22 : Dd mX4_readItem.2.1 22 (.ireturn) 1 23 := ⟨by decide +kernel, rfl⟩
theorem dX4_readItem_23 : Dd mX4_readItem.2.1 23 (.aload_n 0) 1 24 := ⟨by decide +kernel, rfl⟩
theorem dX4_readItem_24 : Dd mX4_readItem.2.1 24 (.dup) 1 25 := ⟨by decide +kernel, rfl⟩
theorem dX4_readItem_25 : Dd mX4_readItem.2.1 25 (.getfield 15) 3 28 := ⟨by decide +kernel, rfl⟩
theorem dX4_readItem_28 : Dd mX4_readItem.2.1 28 (.iconst 1) 1 29 := ⟨by decide +kernel, rfl⟩
theorem dX4_readItem_29 : Dd mX4_readItem.2.1 29 (.iadd) 1 30 := ⟨by decide +kernel, rfl⟩
theorem dX4_readItem_30 : Dd mX4_readItem.2.1 30 (.putfield 15) 3 33 := ⟨by decide +kernel, rfl⟩
theorem dX4_readItem_33 : Dd mX4_readItem.2.1 33 (.iconst 0) 1 34 := ⟨by decide +kernel, rfl⟩
theorem dX4_readItem_34 : Dd mX4_readItem.2.1 34 (.istore 4) 2 36 := ⟨by decide +kernel, rfl⟩
theorem dX4_readItem_36 : Dd mX4_readItem.2.1 36 (.iload 4) 2 38 := ⟨by decide +kernel, rfl⟩
theorem dX4_readItem_38 : Dd mX4_readItem.2.1 38 (.iload_n 3) 1 39 := ⟨by decide +kernel, rfl⟩
theorem dX4_readItem_39 : Dd mX4_readItem.2.1 39 (.if_icmp .ge 80) 3 42 := ⟨by decide +kernel, rfl⟩
theorem dX4_readItem_42 : Dd mX4_readItem.2.1 42 (.iload 4) 2 44 := ⟨by decide +kernel, rfl⟩
theorem dX4_readItem_44 : Dd mX4_readItem.2.1 44 (.iconst 4) 1 45 := ⟨by decide +kernel, rfl⟩
theorem dX4_readItem_45 : Dd mX4_readItem.2.1 45 (.if_icmp .ge 74) 3 48 := ⟨by decide +kernel, rfl⟩
theorem dX4_readItem_48 : Dd mX4_readItem.2.1 48 (.aload_n 0) 1 49 := ⟨by decide +kernel, rfl⟩
theorem dX4_readItem_49 : Dd mX4_readItem.2.1 49 (.invokevirtual 45) 3 52 := ⟨by decide +kernel, rfl⟩
theorem dX4_readItem_52 : Dd mX4_readItem.2.1 52 (.istore 5) 2 54 := ⟨by decide +kernel, rfl⟩
theorem dX4_readItem_54 : Dd mX4_readItem.2.1 54 (.iload 4) 2 56 := ⟨by decide +kernel, rfl⟩
theorem dX4_readItem_56 : Dd mX4_readItem.2.1 56 (.iload_n 3) 1 57 := ⟨by decide +kernel, rfl⟩
theorem dX4_readItem_57 : Dd mX4_readItem.2.1 57 (.iconst 1) 1 58 := ⟨by decide +kernel, rfl⟩
theorem dX4_readItem_58 : Dd mX4_readItem.2.1 58 (.isub) 1 59 := ⟨by decide +kernel, rfl⟩
theorem dX4_readItem_59 : Dd mX4_readItem.2.1 59 (.if_icmp .ge 8) 3 62 := ⟨by decide +kernel, rfl⟩
theorem dX4_readItem_62 : Dd mX4_readItem.2.1 62 (.bipush 44) 2 64 := ⟨by decide +kernel, rfl⟩
theorem dX4_readItem_64 : Dd mX4_readItem.2.1 64 (.goto 5) 3 67 := ⟨by decide +kernel, rfl⟩
theorem dX4_readItem_67 : Dd mX4_readItem.2.1 67 (.bipush 59) 2 69 := ⟨by decide +kernel, rfl⟩
theorem dX4_readItem_69 : Dd mX4_readItem.2.1 69 (.istore 6) 2 71 := ⟨by decide +kernel, rfl⟩
theorem dX4_readItem_71 : Dd mX4_readItem.2.1 71 (.iload 5) 2 73 := ⟨by decide +kernel, rfl⟩
theorem dX4_readItem_73 : Dd mX4_readItem.2.1 73 (.ifCond .lt 19) 3 76 := ⟨by decide +kernel, rfl⟩
theorem dX4_readItem_76 : Dd mX4_readItem.2.1 76 (.aload_n 0) 1 77 := ⟨by decide +kernel, rfl⟩
theorem dX4_readItem_77 : Dd mX4_readItem.2.1 77 (.getfield 19) 3 80 := ⟨by decide +kernel, rfl⟩
theorem dX4_readItem_80 : Dd mX4_readItem.2.1 80 (.aload_n 0) 1 81 := ⟨by decide +kernel, rfl⟩
theorem dX4_readItem_81 : Dd mX4_readItem.2.1 81 (.getfield 15) 3 84 := ⟨by decide +kernel, rfl⟩
theorem dX4_readItem_84 : Dd mX4_readItem.2.1 84 (.invokevirtual 38) 3 87 := ⟨by decide +kernel, rfl⟩
theorem dX4_readItem_87 : Dd mX4_readItem.2.1 87 (.iload 6) 2 89 := ⟨by decide +kernel, rfl⟩
theorem dX4_readItem_89 : Dd mX4_readItem.2.1 89 (.if_icmp .eq 5) 3 92 := ⟨by decide +kernel, rfl⟩
theorem dX4_readItem_92 : Dd mX4_readItem.2.1 92 (.iconst 0) 1 93 := ⟨by decide +kernel, rfl⟩
theorem dX4_readItem_93 : Dd mX4_readItem.2.1 93 (.ireturn) 1 94 := ⟨by decide +kernel, rfl⟩
theorem dX4_readItem_94 : Dd mX4_readItem.2.1 94 (.aload_n 0) 1 95 := ⟨by decide +kernel, rfl⟩
theorem dX4_readItem_95 : Dd mX4_readItem.2.1 95 (.getfield 11) 3 98 := ⟨by decide +kernel, rfl⟩
theorem dX4_readItem_98 : Dd mX4_readItem.2.1 98 (.iload 4) 2 100 := ⟨by decide +kernel, rfl⟩
theorem dX4_readItem_100 : Dd mX4_readItem.2.1 100 (.iload 5) 2 102 := ⟨by decide +kernel, rfl⟩
theorem dX4_readItem_102 : Dd mX4_readItem.2.1 102 (.iastore) 1 103 := ⟨by decide +kernel, rfl⟩
theorem dX4_readItem_103 : Dd mX4_readItem.2.1 103 (.aload_n 0) 1 104 := ⟨by decide +kernel, rfl⟩
theorem dX4_readItem_104 : Dd mX4_readItem.2.1 104 (.dup) 1 105 := ⟨by decide +kernel, rfl⟩
theorem dX4_readItem_105 : Dd mX4_readItem.2.1 105 (.getfield 15) 3 108 := ⟨by decide +kernel, rfl⟩
theorem dX4_readItem_108 : Dd mX4_readItem.2.1 108 (.iconst 1) 1 109 := ⟨by decide +kernel, rfl⟩
theorem dX4_readItem_109 : Dd mX4_readItem.2.1 109 (.iadd) 1 110 := ⟨by decide +kernel, rfl⟩
theorem dX4_readItem_110 : Dd mX4_readItem.2.1 110 (.putfield 15) 3 113 := ⟨by decide +kernel, rfl⟩
theorem dX4_readItem_113 : Dd mX4_readItem.2.1 113 (.iinc 4 1) 3 116 := ⟨by decide +kernel, rfl⟩
theorem dX4_readItem_116 : Dd mX4_readItem.2.1 116 (.goto (-80)) 3 119 := ⟨by decide +kernel, rfl⟩
theorem dX4_readItem_119 : Dd mX4_readItem.2.1 119 (.aload_n 1) 1 120 := ⟨by decide +kernel, rfl⟩
theorem dX4_readItem_120 : Dd mX4_readItem.2.1 120 (.iload_n 2) 1 121 := ⟨by decide +kernel, rfl⟩
theorem dX4_readItem_121 : Dd mX4_readItem.2.1 121 (.aload_n 0) 1 122 := ⟨by decide +kernel, rfl⟩
theorem dX4_readItem_122 : Dd mX4_readItem.2.1 122 (.getfield 11) 3 125 := ⟨by decide +kernel, rfl⟩
theorem dX4_readItem_125 : Dd mX4_readItem.2.1 125 (.iconst 0) 1 126 := ⟨by decide +kernel, rfl⟩
theorem dX4_readItem_126 : Dd mX4_readItem.2.1 126 (.iaload) 1 127 := ⟨by decide +kernel, rfl⟩
theorem dX4_readItem_127 : Dd mX4_readItem.2.1 127 (.aload_n 0) 1 128 := ⟨by decide +kernel, rfl⟩
theorem dX4_readItem_128 : Dd mX4_readItem.2.1 128 (.getfield 11) 3 131 := ⟨by decide +kernel, rfl⟩
theorem dX4_readItem_131 : Dd mX4_readItem.2.1 131 (.iconst 1) 1 132 := ⟨by decide +kernel, rfl⟩
theorem dX4_readItem_132 : Dd mX4_readItem.2.1 132 (.iaload) 1 133 := ⟨by decide +kernel, rfl⟩
theorem dX4_readItem_133 : Dd mX4_readItem.2.1 133 (.aload_n 0) 1 134 := ⟨by decide +kernel, rfl⟩
theorem dX4_readItem_134 : Dd mX4_readItem.2.1 134 (.getfield 11) 3 137 := ⟨by decide +kernel, rfl⟩
theorem dX4_readItem_137 : Dd mX4_readItem.2.1 137 (.iconst 2) 1 138 := ⟨by decide +kernel, rfl⟩
theorem dX4_readItem_138 : Dd mX4_readItem.2.1 138 (.iaload) 1 139 := ⟨by decide +kernel, rfl⟩
theorem dX4_readItem_139 : Dd mX4_readItem.2.1 139 (.aload_n 0) 1 140 := ⟨by decide +kernel, rfl⟩
theorem dX4_readItem_140 : Dd mX4_readItem.2.1 140 (.getfield 11) 3 143 := ⟨by decide +kernel, rfl⟩
theorem dX4_readItem_143 : Dd mX4_readItem.2.1 143 (.iconst 3) 1 144 := ⟨by decide +kernel, rfl⟩
theorem dX4_readItem_144 : Dd mX4_readItem.2.1 144 (.iaload) 1 145 := ⟨by decide +kernel, rfl⟩
theorem dX4_readItem_145 : Dd mX4_readItem.2.1 145 (.invokevirtual 48) 3 148 := ⟨by decide +kernel, rfl⟩
theorem dX4_readItem_148 : Dd mX4_readItem.2.1 148 (.ireturn) 1 149 := ⟨by decide +kernel, rfl⟩
theorem dX4_numbersBehind_0 : Dd mX4_numbersBehind.2.1 0 (.iload_n 0) 1 1 := ⟨by decide +kernel, rfl⟩
theorem dX4_numbersBehind_1 : Dd mX4_numbersBehind.2.1 1 (.lookupswitch 57 #[(98, 53), (112, 51), (116, 51), (120, 55), (121, 51)]) 51 52 := ⟨by decide +kernel, rfl⟩
theorem dX4_numbersBehind_52 : Dd mX4_numbersBehind.2.1 52 (.iconst 2) 1 53 := ⟨by decide +kernel, rfl⟩
theorem dX4_numbersBehind_53 : Dd mX4_numbersBehind.2.1 53 (.ireturn) 1 54 := ⟨by decide +kernel, rfl⟩
theorem dX4_numbersBehind_54 : Dd mX4_numbersBehind.2.1 54 (.iconst 1) 1 55 := ⟨by decide +kernel, rfl⟩
theorem dX4_numbersBehind_55 : Dd mX4_numbersBehind.2.1 55 (.ireturn) 1 56 := ⟨by decide +kernel, rfl⟩
theorem dX4_numbersBehind_56 : Dd mX4_numbersBehind.2.1 56 (.iconst 4) 1 57 := ⟨by decide +kernel, rfl⟩
theorem dX4_numbersBehind_57 : Dd mX4_numbersBehind.2.1 57 (.ireturn) 1 58 := ⟨by decide +kernel, rfl⟩
theorem dX4_numbersBehind_58 : Dd mX4_numbersBehind.2.1 58 (.iconst 0) 1 59 := ⟨by decide +kernel, rfl⟩
theorem dX4_numbersBehind_59 : Dd mX4_numbersBehind.2.1 59 (.ireturn) 1 60 := ⟨by decide +kernel, rfl⟩
theorem dX4_readNumber_0 : Dd mX4_readNumber.2.1 0 (.aload_n 0) 1 1 := ⟨by decide +kernel, rfl⟩
theorem dX4_readNumber_1 : Dd mX4_readNumber.2.1 1 (.aload_n 0) 1 2 := ⟨by decide +kernel, rfl⟩
theorem dX4_readNumber_2 : Dd mX4_readNumber.2.1 2 (.getfield 15) 3 5 := ⟨by decide +kernel, rfl⟩
theorem dX4_readNumber_5 : Dd mX4_readNumber.2.1 5 (.invokevirtual 52) 3 8 := ⟨by decide +kernel, rfl⟩
theorem dX4_readNumber_8 : Dd mX4_readNumber.2.1 8 (.istore_n 1) 1 9 := ⟨by decide +kernel, rfl⟩
theorem dX4_readNumber_9 : Dd mX4_readNumber.2.1 9 (.iload_n 1) 1 10 := ⟨by decide +kernel, rfl⟩
theorem dX4_readNumber_10 : Dd mX4_readNumber.2.1 10 (.ifCond .ge 5) 3 13 := ⟨by decide +kernel, rfl⟩
theorem dX4_readNumber_13 : Dd mX4_readNumber.2.1 13 (.iconst (-1)) 1 14 := ⟨by decide +kernel, rfl⟩
theorem dX4_readNumber_14 : Dd mX4_readNumber.2.1 14 (.ireturn) 1 15 := ⟨by decide +kernel, rfl⟩
theorem dX4_readNumber_15 : Dd mX4_readNumber.2.1 15 (.aload_n 0) 1 16 := ⟨by decide +kernel, rfl⟩
theorem dX4_readNumber_16 : Dd mX4_readNumber.2.1 16 (.dup) 1 17 := ⟨by decide +kernel, rfl⟩
theorem dX4_readNumber_17 : Dd mX4_readNumber.2.1 17 (.getfield 15) 3 20 := ⟨by decide +kernel, rfl⟩
theorem dX4_readNumber_20 : Dd mX4_readNumber.2.1 20 (.iconst 1) 1 21 := ⟨by decide +kernel, rfl⟩
theorem dX4_readNumber_21 : Dd mX4_readNumber.2.1 21 (.iadd) 1 22 := ⟨by decide +kernel, rfl⟩
theorem dX4_readNumber_22 : Dd mX4_readNumber.2.1 22 (.putfield 15) 3 25 := ⟨by decide +kernel, rfl⟩
theorem dX4_readNumber_25 : Dd mX4_readNumber.2.1 25 (.aload_n 0) 1 26 := ⟨by decide +kernel, rfl⟩
theorem dX4_readNumber_26 : Dd mX4_readNumber.2.1 26 (.aload_n 0) 1 27 := ⟨by decide +kernel, rfl⟩
theorem dX4_readNumber_27 : Dd mX4_readNumber.2.1 27 (.getfield 15) 3 30 := ⟨by decide +kernel, rfl⟩
theorem dX4_readNumber_30 : Dd mX4_readNumber.2.1 30 (.invokevirtual 52) 3 33 := ⟨by decide +kernel, rfl⟩
theorem dX4_readNumber_33 : Dd mX4_readNumber.2.1 33 (.istore_n 2) 1 34 := ⟨by decide +kernel, rfl⟩
theorem dX4_readNumber_34 : Dd mX4_readNumber.2.1 34 (.iload_n 2) 1 35 := ⟨by decide +kernel, rfl⟩
theorem dX4_readNumber_35 : Dd mX4_readNumber.2.1 35 (.ifCond .ge 5) 3 38 := ⟨by decide +kernel, rfl⟩
theorem dX4_readNumber_38 : Dd mX4_readNumber.2.1 38 (.iload_n 1) 1 39 := ⟨by decide +kernel, rfl⟩
theorem dX4_readNumber_39 : Dd mX4_readNumber.2.1 39 (.ireturn) 1 40 := ⟨by decide +kernel, rfl⟩
theorem dX4_readNumber_40 : Dd mX4_readNumber.2.1 40 (.aload_n 0) 1 41 := ⟨by decide +kernel, rfl⟩
theorem dX4_readNumber_41 : Dd mX4_readNumber.2.1 41 (.dup) 1 42 := ⟨by decide +kernel, rfl⟩
theorem dX4_readNumber_42 : Dd mX4_readNumber.2.1 42 (.getfield 15) 3 45 := ⟨by decide +kernel, rfl⟩
theorem dX4_readNumber_45 : Dd mX4_readNumber.2.1 45 (.iconst 1) 1 46 := ⟨by decide +kernel, rfl⟩
theorem dX4_readNumber_46 : Dd mX4_readNumber.2.1 46 (.iadd) 1 47 := ⟨by decide +kernel, rfl⟩
theorem dX4_readNumber_47 : Dd mX4_readNumber.2.1 47 (.putfield 15) 3 50 := ⟨by decide +kernel, rfl⟩
theorem dX4_readNumber_50 : Dd mX4_readNumber.2.1 50 (.bipush 10) 2 52 := ⟨by decide +kernel, rfl⟩
theorem dX4_readNumber_52 : Dd mX4_readNumber.2.1 52 (.iload_n 1) 1 53 := ⟨by decide +kernel, rfl⟩
theorem dX4_readNumber_53 : Dd mX4_readNumber.2.1 53 (.imul) 1 54 := ⟨by decide +kernel, rfl⟩
theorem dX4_readNumber_54 : Dd mX4_readNumber.2.1 54 (.iload_n 2) 1 55 := ⟨by decide +kernel, rfl⟩
theorem dX4_readNumber_55 : Dd mX4_readNumber.2.1 55 (.iadd) 1 56 := ⟨by decide +kernel, rfl⟩
theorem dX4_readNumber_56 : Dd mX4_readNumber.2.1 56 (.ireturn) 1 57 := ⟨by decide +kernel, rfl⟩
theorem dX4_figureAt_0 : Dd mX4_figureAt.2.1 0 (.aload_n 0) 1 1 := ⟨by decide +kernel, rfl⟩
theorem dX4_figureAt_1 : Dd mX4_figureAt.2.1 1 (.getfield 19) 3 4 := ⟨by decide +kernel, rfl⟩
theorem dX4_figureAt_4 : Dd mX4_figureAt.2.1 4 (.iload_n 1) 1 5 := ⟨by decide +kernel, rfl⟩
theorem dX4_figureAt_5 : Dd mX4_figureAt.2.1 5 (.invokevirtual 38) 3 8 := ⟨by decide +kernel, rfl⟩
theorem dX4_figureAt_8 : Dd mX4_figureAt.2.1 8 (.istore_n 2) 1 9 := ⟨by decide +kernel, rfl⟩
theorem dX4_figureAt_9 : Dd mX4_figureAt.2.1 9 (.iload_n 2) 1 10 := ⟨by decide +kernel, rfl⟩
theorem dX4_figureAt_10 : Dd mX4_figureAt.2.1 10 (.bipush 48) 2 12 := ⟨by decide +kernel, rfl⟩
theorem dX4_figureAt_12 : Dd mX4_figureAt.2.1 12 (.if_icmp .lt 16) 3 15 := ⟨by decide +kernel, rfl⟩
theorem dX4_figureAt_15 : Dd mX4_figureAt.2.1 15 (.iload_n 2) 1 16 := ⟨by decide +kernel, rfl⟩
theorem dX4_figureAt_16 : Dd mX4_figureAt.2.1 16 (.bipush 57) 2 18 := ⟨by decide +kernel, rfl⟩
theorem dX4_figureAt_18 : Dd mX4_figureAt.2.1 18 (.if_icmp .gt 10) 3 21 := ⟨by decide +kernel, rfl⟩
theorem dX4_figureAt_21 : Dd mX4_figureAt.2.1 21 (.iload_n 2) 1 22 := ⟨by decide +kernel, rfl⟩
theorem dX4_figureAt_22 : Dd mX4_figureAt.2.1 22 (.bipush 48) 2 24 := ⟨by decide +kernel, rfl⟩
theorem dX4_figureAt_24 : Dd mX4_figureAt.2.1 24 (.isub) 1 25 := ⟨by decide +kernel, rfl⟩
theorem dX4_figureAt_25 : Dd mX4_figureAt.2.1 25 (.goto 4) 3 28 := ⟨by decide +kernel, rfl⟩
theorem dX4_figureAt_28 : Dd mX4_figureAt.2.1 28 (.iconst (-1)) 1 29 := ⟨by decide +kernel, rfl⟩
theorem dX4_figureAt_29 : Dd mX4_figureAt.2.1 29 (.ireturn) 1 30 := ⟨by decide +kernel, rfl⟩
theorem dX5_init_0 : Dd mX5_init.2.1 0 (.aload_n 0) 1 1 := ⟨by decide +kernel, rfl⟩
theorem dX5_init_1 : Dd mX5_init.2.1 1 (.invokespecial 5) 3 4 := ⟨by decide +kernel, rfl⟩
theorem dX5_init_4 : Dd mX5_init.2.1 4 (.aload_n 0) 1 5 := ⟨by decide +kernel, rfl⟩
theorem dX5_init_5 : Dd mX5_init.2.1 5 (.iconst 0) 1 6 := ⟨by decide +kernel, rfl⟩
theorem dX5_init_6 : Dd mX5_init.2.1 6 (.putfield 11) 3 9 := ⟨by decide +kernel, rfl⟩
theorem dX5_init_9 : Dd mX5_init.2.1 9 (.aload_n 0) 1 10 := ⟨by decide +kernel, rfl⟩
theorem dX5_init_10 : Dd mX5_init.2.1 10 (.iconst 4) 1 11 := ⟨by decide +kernel, rfl⟩
theorem dX5_init_11 : Dd mX5_init.2.1 11 (.newarray .int) 2 13 := ⟨by decide +kernel, rfl⟩
theorem dX5_init_13 : Dd mX5_init.2.1 13 (.putfield 17) 3 16 := ⟨by decide +kernel, rfl⟩
theorem dX5_init_16 : Dd mX5_init.2.1 16 (.aload_n 0) 1 17 := ⟨by decide +kernel, rfl⟩
theorem dX5_init_17 : Dd mX5_init.2.1 17 (.iconst 4) 1 18 := ⟨by decide +kernel, rfl⟩
theorem dX5_init_18 : Dd mX5_init.2.1 18 (.newarray .int) 2 20 := ⟨by decide +kernel, rfl⟩
theorem dX5_init_20 : Dd mX5_init.2.1 20 (.putfield 21) 3 23 := ⟨by decide +kernel, rfl⟩
theorem dX5_init_23 : Dd mX5_init.2.1 23 (.aload_n 0) 1 24 := ⟨by decide +kernel, rfl⟩
theorem dX5_init_24 : Dd mX5_init.2.1 24 (.iconst 4) 1 25 := ⟨by decide +kernel, rfl⟩
theorem dX5_init_25 : Dd mX5_init.2.1 25 (.newarray .int) 2 27 := ⟨by decide +kernel, rfl⟩
theorem dX5_init_27 : Dd mX5_init.2.1 27 (.putfield 24) 3 30 := ⟨by decide +kernel, rfl⟩
theorem dX5_init_30 : Dd mX5_init.2.1 30 (.return_) 1 31 := ⟨by decide +kernel, rfl⟩
theorem dX5_clear_0 : Dd mX5_clear.2.1 0 (.aload_n 0) 1 1 := ⟨by decide +kernel, rfl⟩
theorem dX5_clear_1 : Dd mX5_clear.2.1 1 (.iconst 0) 1 2 := ⟨by decide +kernel, rfl⟩
theorem dX5_clear_2 : Dd mX5_clear.2.1 2 (.putfield 11) 3 5 := ⟨by decide +kernel, rfl⟩
theorem dX5_clear_5 : Dd mX5_clear.2.1 5 (.iconst 0) 1 6 := ⟨by decide +kernel, rfl⟩
theorem dX5_clear_6 : Dd mX5_clear.2.1 6 (.istore_n 1) 1 7 := ⟨by decide +kernel, rfl⟩
theorem dX5_clear_7 : Dd mX5_clear.2.1 7 (.iload_n 1) 1 8 := ⟨by decide +kernel, rfl⟩
theorem dX5_clear_8 : Dd mX5_clear.2.1 8 (.iconst 4) 1 9 := ⟨by decide +kernel, rfl⟩
theorem dX5_clear_9 : Dd mX5_clear.2.1 9 (.if_icmp .ge 30) 3 12 := ⟨by decide +kernel, rfl⟩
theorem dX5_clear_12 : Dd mX5_clear.2.1 12 (.aload_n 0) 1 13 := ⟨by decide +kernel, rfl⟩
theorem dX5_clear_13 : Dd mX5_clear.2.1 13 (.getfield 17) 3 16 := ⟨by decide +kernel, rfl⟩
theorem dX5_clear_16 : Dd mX5_clear.2.1 16 (.iload_n 1) 1 17 := ⟨by decide +kernel, rfl⟩
theorem dX5_clear_17 : Dd mX5_clear.2.1 17 (.iconst 0) 1 18 := ⟨by decide +kernel, rfl⟩
theorem dX5_clear_18 : Dd mX5_clear.2.1 18 (.iastore) 1 19 := ⟨by decide +kernel, rfl⟩
theorem dX5_clear_19 : Dd mX5_clear.2.1 19 (.aload_n 0) 1 20 := ⟨by decide +kernel, rfl⟩
theorem dX5_clear_20 : Dd mX5_clear.2.1 20 (.getfield 21) 3 23 := ⟨by decide +kernel, rfl⟩
theorem dX5_clear_23 : Dd mX5_clear.2.1 23 (.iload_n 1) 1 24 := ⟨by decide +kernel, rfl⟩
theorem dX5_clear_24 : Dd mX5_clear.2.1 24 (.iconst 0) 1 25 := ⟨by decide +kernel, rfl⟩
theorem dX5_clear_25 : Dd mX5_clear.2.1 25 (.iastore) 1 26 := ⟨by decide +kernel, rfl⟩
theorem dX5_clear_26 : Dd mX5_clear.2.1 26 (.aload_n 0) 1 27 := ⟨by decide +kernel, rfl⟩
theorem dX5_clear_27 : Dd mX5_clear.2.1 27 (.getfield 24) 3 30 := ⟨by decide +kernel, rfl⟩
theorem dX5_clear_30 : Dd mX5_clear.2.1 30 (.iload_n 1) 1 31 := ⟨by decide +kernel, rfl⟩
theorem dX5_clear_31 : Dd mX5_clear.2.1 31 (.iconst 0) 1 32 := ⟨by decide +kernel, rfl⟩
theorem dX5_clear_32 : Dd mX5_clear.2.1 32 (.iastore) 1 33 := ⟨by decide +kernel, rfl⟩
theorem dX5_clear_33 : Dd mX5_clear.2.1 33 (.iinc 1 1) 3 36 := ⟨by decide +kernel, rfl⟩
theorem dX5_clear_36 : Dd mX5_clear.2.1 36 (.goto (-29)) 3 39 := ⟨by decide +kernel, rfl⟩
theorem dX5_clear_39 : Dd mX5_clear.2.1 39 (.return_) 1 40 := ⟨by decide +kernel, rfl⟩
theorem dX5_copyFrom_0 : Dd mX5_copyFrom.2.1 0 (.aload_n 0) 1 1 := ⟨by decide +kernel, rfl⟩
theorem dX5_copyFrom_1 : Dd mX5_copyFrom.2.1 1 (.aload_n 1) 1 2 := ⟨by decide +kernel, rfl⟩
theorem dX5_copyFrom_2 : Dd mX5_copyFrom.2.1 2 (.getfield 11) 3 5 := ⟨by decide +kernel, rfl⟩
theorem dX5_copyFrom_5 : Dd mX5_copyFrom.2.1 5 (.putfield 11) 3 8 := ⟨by decide +kernel, rfl⟩
theorem dX5_copyFrom_8 : Dd mX5_copyFrom.2.1 8 (.iconst 0) 1 9 := ⟨by decide +kernel, rfl⟩
theorem dX5_copyFrom_9 : Dd mX5_copyFrom.2.1 9 (.istore_n 2) 1 10 := ⟨by decide +kernel, rfl⟩
theorem dX5_copyFrom_10 : Dd mX5_copyFrom.2.1 10 (.iload_n 2) 1 11 := ⟨by decide +kernel, rfl⟩
theorem dX5_copyFrom_11 : Dd mX5_copyFrom.2.1 11 (.iconst 4) 1 12 := ⟨by decide +kernel, rfl⟩
theorem dX5_copyFrom_12 : Dd mX5_copyFrom.2.1 12 (.if_icmp .ge 45) 3 15 := ⟨by decide +kernel, rfl⟩
theorem dX5_copyFrom_15 : Dd mX5_copyFrom.2.1 15 (.aload_n 0) 1 16 := ⟨by decide +kernel, rfl⟩
theorem dX5_copyFrom_16 : Dd mX5_copyFrom.2.1 16 (.getfield 17) 3 19 := ⟨by decide +kernel, rfl⟩
theorem dX5_copyFrom_19 : Dd mX5_copyFrom.2.1 19 (.iload_n 2) 1 20 := ⟨by decide +kernel, rfl⟩
theorem dX5_copyFrom_20 : Dd mX5_copyFrom.2.1 20 (.aload_n 1) 1 21 := ⟨by decide +kernel, rfl⟩
theorem dX5_copyFrom_21 : Dd mX5_copyFrom.2.1 21 (.getfield 17) 3 24 := ⟨by decide +kernel, rfl⟩
theorem dX5_copyFrom_24 : Dd mX5_copyFrom.2.1 24 (.iload_n 2) 1 25 := ⟨by decide +kernel, rfl⟩
theorem dX5_copyFrom_25 : Dd mX5_copyFrom.2.1 25 (.iaload) 1 26 := ⟨by decide +kernel, rfl⟩
theorem dX5_copyFrom_26 : Dd mX5_copyFrom.2.1 26 (.iastore) 1 27 := ⟨by decide +kernel, rfl⟩
theorem dX5_copyFrom_27 : Dd mX5_copyFrom.2.1 27 (.aload_n 0) 1 28 := ⟨by decide +kernel, rfl⟩
theorem dX5_copyFrom_28 : Dd mX5_copyFrom.2.1 28 (.getfield 21) 3 31 := ⟨by decide +kernel, rfl⟩
theorem dX5_copyFrom_31 : Dd mX5_copyFrom.2.1 31 (.iload_n 2) 1 32 := ⟨by decide +kernel, rfl⟩
theorem dX5_copyFrom_32 : Dd mX5_copyFrom.2.1 32 (.aload_n 1) 1 33 := ⟨by decide +kernel, rfl⟩
theorem dX5_copyFrom_33 : Dd mX5_copyFrom.2.1 33 (.getfield 21) 3 36 := ⟨by decide +kernel, rfl⟩
theorem dX5_copyFrom_36 : Dd mX5_copyFrom.2.1 36 (.iload_n 2) 1 37 := ⟨by decide +kernel, rfl⟩
theorem dX5_copyFrom_37 : Dd mX5_copyFrom.2.1 37 (.iaload) 1 38 := ⟨by decide +kernel, rfl⟩
theorem dX5_copyFrom_38 : Dd mX5_copyFrom.2.1 38 (.iastore) 1 39 := ⟨by decide +kernel, rfl⟩
theorem dX5_copyFrom_39 : Dd mX5_copyFrom.2.1 39 (.aload_n 0) 1 40 := ⟨by decide +kernel, rfl⟩
theorem dX5_copyFrom_40 : Dd mX5_copyFrom.2.1 40 (.getfield 24) 3 43 := ⟨by decide +kernel, rfl⟩
theorem dX5_copyFrom_43 : Dd mX5_copyFrom.2.1 43 (.iload_n 2) 1 44 := ⟨by decide +kernel, rfl⟩
theorem dX5_copyFrom_44 : Dd mX5_copyFrom.2.1 44 (.aload_n 1) 1 45 := ⟨by decide +kernel, rfl⟩
theorem dX5_copyFrom_45 : Dd mX5_copyFrom.2.1 45 (.getfield 24) 3 48 := ⟨by decide +kernel, rfl⟩
theorem dX5_copyFrom_48 : Dd mX5_copyFrom.2.1 48 (.iload_n 2) 1 49 := ⟨by decide +kernel, rfl⟩
theorem dX5_copyFrom_49 : Dd mX5_copyFrom.2.1 49 (.iaload) 1 50 := ⟨by decide +kernel, rfl⟩
theorem dX5_copyFrom_50 : Dd mX5_copyFrom.2.1 50 (.iastore) 1 51 := ⟨by decide +kernel, rfl⟩
theorem dX5_copyFrom_51 : Dd mX5_copyFrom.2.1 51 (.iinc 2 1) 3 54 := ⟨by decide +kernel, rfl⟩
theorem dX5_copyFrom_54 : Dd mX5_copyFrom.2.1 54 (.goto (-44)) 3 57 := ⟨by decide +kernel, rfl⟩
theorem dX5_copyFrom_57 : Dd mX5_copyFrom.2.1 57 (.return_) 1 58 := ⟨by decide +kernel, rfl⟩
theorem dX5_isBound_0 : Dd mX5_isBound.2.1 0 (.aload_n 0) 1 1 := ⟨by decide +kernel, rfl⟩
theorem dX5_isBound_1 : Dd mX5_isBound.2.1 1 (.iload_n 1) 1 2 := ⟨by decide +kernel, rfl⟩
theorem dX5_isBound_2 : Dd mX5_isBound.2.1 2 (.invokevirtual 27) 3 5 := ⟨by decide +kernel, rfl⟩
theorem dX5_isBound_5 : Dd mX5_isBound.2.1 5 (.ifCond .eq 7) 3 8 := ⟨by decide +kernel, rfl⟩
theorem dX5_isBound_8 : Dd mX5_isBound.2.1 8 (.iconst 1) 1 9 := ⟨by decide +kernel, rfl⟩
theorem dX5_isBound_9 : Dd mX5_isBound.2.1 9 (.goto 4) 3 12 := ⟨by decide +kernel, rfl⟩
theorem dX5_isBound_12 : Dd mX5_isBound.2.1 12 (.iconst 0) 1 13 := ⟨by decide +kernel, rfl⟩
theorem dX5_isBound_13 : Dd mX5_isBound.2.1 13 (.ireturn) 1 14 := ⟨by decide +kernel, rfl⟩
theorem dX5_ribbonOf_0 : Dd mX5_ribbonOf.2.1 0 (.iload_n 1) 1 1 := ⟨by decide +kernel, rfl⟩
theorem dX5_ribbonOf_1 : Dd mX5_ribbonOf.2.1 1 (.ifCond .lt 17) 3 4 := ⟨by decide +kernel, rfl⟩
theorem dX5_ribbonOf_4 : Dd mX5_ribbonOf.2.1 4 (.iload_n 1) 1 5 := ⟨by decide +kernel, rfl⟩
theorem dX5_ribbonOf_5 : Dd mX5_ribbonOf.2.1 5 (.iconst 4) 1 6 := ⟨by decide +kernel, rfl⟩
theorem dX5_ribbonOf_6 : Dd mX5_ribbonOf.2.1 6 (.if_icmp .ge 12) 3 9 := ⟨by decide +kernel, rfl⟩
theorem dX5_ribbonOf_9 : Dd mX5_ribbonOf.2.1 9 (.aload_n 0) 1 10 := ⟨by decide +kernel, rfl⟩
theorem dX5_ribbonOf_10 : Dd mX5_ribbonOf.2.1 10 (.getfield 17) 3 13 := ⟨by decide +kernel, rfl⟩
theorem dX5_ribbonOf_13 : Dd mX5_ribbonOf.2.1 13 (.iload_n 1) 1 14 := ⟨by decide +kernel, rfl⟩
theorem dX5_ribbonOf_14 : Dd mX5_ribbonOf.2.1 14 (.iaload) 1 15 := ⟨by decide +kernel, rfl⟩
theorem dX5_ribbonOf_15 : Dd mX5_ribbonOf.2.1 15 (.goto 4) 3 18 := ⟨by decide +kernel, rfl⟩
theorem dX5_ribbonOf_18 : Dd mX5_ribbonOf.2.1 18 (.iconst 0) 1 19 := ⟨by decide +kernel, rfl⟩
theorem dX5_ribbonOf_19 : Dd mX5_ribbonOf.2.1 19 (.ireturn) 1 20 := ⟨by decide +kernel, rfl⟩
theorem dX5_ageOf_0 : Dd mX5_ageOf.2.1 0 (.iload_n 1) 1 1 := ⟨by decide +kernel, rfl⟩
theorem dX5_ageOf_1 : Dd mX5_ageOf.2.1 1 (.ifCond .lt 17) 3 4 := ⟨by decide +kernel, rfl⟩
theorem dX5_ageOf_4 : Dd mX5_ageOf.2.1 4 (.iload_n 1) 1 5 := ⟨by decide +kernel, rfl⟩
theorem dX5_ageOf_5 : Dd mX5_ageOf.2.1 5 (.iconst 4) 1 6 := ⟨by decide +kernel, rfl⟩
theorem dX5_ageOf_6 : Dd mX5_ageOf.2.1 6 (.if_icmp .ge 12) 3 9 := ⟨by decide +kernel, rfl⟩
theorem dX5_ageOf_9 : Dd mX5_ageOf.2.1 9 (.aload_n 0) 1 10 := ⟨by decide +kernel, rfl⟩
theorem dX5_ageOf_10 : Dd mX5_ageOf.2.1 10 (.getfield 21) 3 13 := ⟨by decide +kernel, rfl⟩
theorem dX5_ageOf_13 : Dd mX5_ageOf.2.1 13 (.iload_n 1) 1 14 := ⟨by decide +kernel, rfl⟩
theorem dX5_ageOf_14 : Dd mX5_ageOf.2.1 14 (.iaload) 1 15 := ⟨by decide +kernel, rfl⟩
theorem dX5_ageOf_15 : Dd mX5_ageOf.2.1 15 (.goto 4) 3 18 := ⟨by decide +kernel, rfl⟩
theorem dX5_ageOf_18 : Dd mX5_ageOf.2.1 18 (.iconst 0) 1 19 := ⟨by decide +kernel, rfl⟩
theorem dX5_ageOf_19 : Dd mX5_ageOf.2.1 19 (.ireturn) 1 20 := ⟨by decide +kernel, rfl⟩
theorem dX5_escapesOf_0 : Dd mX5_escapesOf.2.1 0 (.iload_n 1) 1 1 := ⟨by decide +kernel, rfl⟩
theorem dX5_escapesOf_1 : Dd mX5_escapesOf.2.1 1 (.ifCond .lt 17) 3 4 := ⟨by decide +kernel, rfl⟩
theorem dX5_escapesOf_4 : Dd mX5_escapesOf.2.1 4 (.iload_n 1) 1 5 := ⟨by decide +kernel, rfl⟩
theorem dX5_escapesOf_5 : Dd mX5_escapesOf.2.1 5 (.iconst 4) 1 6 := ⟨by decide +kernel, rfl⟩
theorem dX5_escapesOf_6 : Dd mX5_escapesOf.2.1 6 (.if_icmp .ge 12) 3 9 := ⟨by decide +kernel, rfl⟩
theorem dX5_escapesOf_9 : Dd mX5_escapesOf.2.1 9 (.aload_n 0) 1 10 := ⟨by decide +kernel, rfl⟩
theorem dX5_escapesOf_10 : Dd mX5_escapesOf.2.1 10 (.getfield 24) 3 13 := ⟨by decide +kernel, rfl⟩
theorem dX5_escapesOf_13 : Dd mX5_escapesOf.2.1 13 (.iload_n 1) 1 14 := ⟨by decide +kernel, rfl⟩
theorem dX5_escapesOf_14 : Dd mX5_escapesOf.2.1 14 (.iaload) 1 15 := ⟨by decide +kernel, rfl⟩
theorem dX5_escapesOf_15 : Dd mX5_escapesOf.2.1 15 (.goto 4) 3 18 := ⟨by decide +kernel, rfl⟩
theorem dX5_escapesOf_18 : Dd mX5_escapesOf.2.1 18 (.iconst 0) 1 19 := ⟨by decide +kernel, rfl⟩
theorem dX5_escapesOf_19 : Dd mX5_escapesOf.2.1 19 (.ireturn) 1 20 := ⟨by decide +kernel, rfl⟩
theorem dX5_tie_0 : Dd mX5_tie.2.1 0 (.iload_n 1) 1 1 := ⟨by decide +kernel, rfl⟩
theorem dX5_tie_1 : Dd mX5_tie.2.1 1 (.ifCond .lt 22) 3 4 := ⟨by decide +kernel, rfl⟩
theorem dX5_tie_4 : Dd mX5_tie.2.1 4 (.iload_n 1) 1 5 := ⟨by decide +kernel, rfl⟩
theorem dX5_tie_5 : Dd mX5_tie.2.1 5 (.iconst 4) 1 6 := ⟨by decide +kernel, rfl⟩
theorem dX5_tie_6 : Dd mX5_tie.2.1 6 (.if_icmp .ge 17) 3 9 := ⟨by decide +kernel, rfl⟩
theorem dX5_tie_9 : Dd mX5_tie.2.1 9 (.aload_n 0) 1 10 := ⟨by decide +kernel, rfl⟩
theorem dX5_tie_10 : Dd mX5_tie.2.1 10 (.getfield 17) 3 13 := ⟨by decide +kernel, rfl⟩
theorem dX5_tie_13 : Dd mX5_tie.2.1 13 (.iload_n 1) 1 14 := ⟨by decide +kernel, rfl⟩
theorem dX5_tie_14 : Dd mX5_tie.2.1 14 (.iload_n 2) 1 15 := ⟨by decide +kernel, rfl⟩
theorem dX5_tie_15 : Dd mX5_tie.2.1 15 (.iastore) 1 16 := ⟨by decide +kernel, rfl⟩
theorem dX5_tie_16 : Dd mX5_tie.2.1 16 (.aload_n 0) 1 17 := ⟨by decide +kernel, rfl⟩
theorem dX5_tie_17 : Dd mX5_tie.2.1 17 (.getfield 21) 3 20 := ⟨by decide +kernel, rfl⟩
theorem dX5_tie_20 : Dd mX5_tie.2.1 20 (.iload_n 1) 1 21 := ⟨by decide +kernel, rfl⟩
theorem dX5_tie_21 : Dd mX5_tie.2.1 21 (.iconst 0) 1 22 := ⟨by decide +kernel, rfl⟩
theorem dX5_tie_22 : Dd mX5_tie.2.1 22 (.iastore) 1 23 := ⟨by decide +kernel, rfl⟩
theorem dX5_tie_23 : Dd mX5_tie.2.1 23 (.return_) 1 24 := ⟨by decide +kernel, rfl⟩
theorem dX5_untie_0 : Dd mX5_untie.2.1 0 (.aload_n 0) 1 1 := ⟨by decide +kernel, rfl⟩
theorem dX5_untie_1 : Dd mX5_untie.2.1 1 (.iload_n 1) 1 2 := ⟨by decide +kernel, rfl⟩
theorem dX5_untie_2 : Dd mX5_untie.2.1 2 (.iconst 0) 1 3 := ⟨by decide +kernel, rfl⟩
theorem dX5_untie_3 : Dd mX5_untie.2.1 3 (.invokevirtual 31) 3 6 := ⟨by decide +kernel, rfl⟩
theorem dX5_untie_6 : Dd mX5_untie.2.1 6 (.return_) 1 7 := ⟨by decide +kernel, rfl⟩
theorem dX5_beastWith_0 : Dd mX5_beastWith.2.1 0 (.iconst 0) 1 1 := ⟨by decide +kernel, rfl⟩
theorem dX5_beastWith_1 : Dd mX5_beastWith.2.1 1 (.istore_n 2) 1 2 := ⟨by decide +kernel, rfl⟩
theorem dX5_beastWith_2 : Dd mX5_beastWith.2.1 2 (.iload_n 2) 1 3 := ⟨by decide +kernel, rfl⟩
theorem dX5_beastWith_3 : Dd mX5_beastWith.2.1 3 (.iconst 4) 1 4 := ⟨by decide +kernel, rfl⟩
theorem dX5_beastWith_4 : Dd mX5_beastWith.2.1 4 (.if_icmp .ge 25) 3 7 := ⟨by decide +kernel, rfl⟩
theorem dX5_beastWith_7 : Dd mX5_beastWith.2.1 7 (.aload_n 0) 1 8 := ⟨by decide +kernel, rfl⟩
theorem dX5_beastWith_8 : Dd mX5_beastWith.2.1 8 (.getfield 17) 3 11 := ⟨by decide +kernel, rfl⟩
theorem dX5_beastWith_11 : Dd mX5_beastWith.2.1 11 (.iload_n 2) 1 12 := ⟨by decide +kernel, rfl⟩
theorem dX5_beastWith_12 : Dd mX5_beastWith.2.1 12 (.iaload) 1 13 := ⟨by decide +kernel, rfl⟩
theorem dX5_beastWith_13 : Dd mX5_beastWith.2.1 13 (.iload_n 1) 1 14 := ⟨by decide +kernel, rfl⟩
theorem dX5_beastWith_14 : Dd mX5_beastWith.2.1 14 (.ishr) 1 15 := ⟨by decide +kernel, rfl⟩
theorem dX5_beastWith_15 : Dd mX5_beastWith.2.1 15 (.iconst 1) 1 16 := ⟨by decide +kernel, rfl⟩
theorem dX5_beastWith_16 : Dd mX5_beastWith.2.1 16 (.iand) 1 17 := ⟨by decide +kernel, rfl⟩
theorem dX5_beastWith_17 : Dd mX5_beastWith.2.1 17 (.iconst 1) 1 18 := ⟨by decide +kernel, rfl⟩
theorem dX5_beastWith_18 : Dd mX5_beastWith.2.1 18 (.if_icmp .ne 5) 3 21 := ⟨by decide +kernel, rfl⟩
theorem dX5_beastWith_21 : Dd mX5_beastWith.2.1 21 (.iload_n 2) 1 22 := ⟨by decide +kernel, rfl⟩
theorem dX5_beastWith_22 : Dd mX5_beastWith.2.1 22 (.ireturn) 1 23 := ⟨by decide +kernel, rfl⟩
theorem dX5_beastWith_23 : Dd mX5_beastWith.2.1 23 (.iinc 2 1) 3 26 := ⟨by decide +kernel, rfl⟩
theorem dX5_beastWith_26 : Dd mX5_beastWith.2.1 26 (.goto (-24)) 3 29 := ⟨by decide +kernel, rfl⟩
theorem dX5_beastWith_29 : Dd mX5_beastWith.2.1 29 (.bipush (-4)) 2 31 := ⟨by decide +kernel, rfl⟩
theorem dX5_beastWith_31 : Dd mX5_beastWith.2.1 31 (.ireturn) 1 32 := ⟨by decide +kernel, rfl⟩
theorem dX5_gone_0 : Dd mX5_gone.2.1 0 (.iconst 0) 1 1 := ⟨by decide +kernel, rfl⟩
theorem dX5_gone_1 : Dd mX5_gone.2.1 1 (.istore_n 1) 1 2 := ⟨by decide +kernel, rfl⟩
theorem dX5_gone_2 : Dd mX5_gone.2.1 2 (.iconst 0) 1 3 := ⟨by decide +kernel, rfl⟩
theorem dX5_gone_3 : Dd mX5_gone.2.1 3 (.istore_n 2) 1 4 := ⟨by decide +kernel, rfl⟩
theorem dX5_gone_4 : Dd mX5_gone.2.1 4 (.iload_n 2) 1 5 := ⟨by decide +kernel, rfl⟩
theorem dX5_gone_5 : Dd mX5_gone.2.1 5 (.iconst 4) 1 6 := ⟨by decide +kernel, rfl⟩
theorem dX5_gone_6 : Dd mX5_gone.2.1 6 (.if_icmp .ge 18) 3 9 := ⟨by decide +kernel, rfl⟩
theorem dX5_gone_9 : Dd mX5_gone.2.1 9 (.iload_n 1) 1 10 := ⟨by decide +kernel, rfl⟩
theorem dX5_gone_10 : Dd mX5_gone.2.1 10 (.aload_n 0) 1 11 := ⟨by decide +kernel, rfl⟩
theorem dX5_gone_11 : Dd mX5_gone.2.1 11 (.getfield 17) 3 14 := ⟨by decide +kernel, rfl⟩
theorem dX5_gone_14 : Dd mX5_gone.2.1 14 (.iload_n 2) 1 15 := ⟨by decide +kernel, rfl⟩
theorem dX5_gone_15 : Dd mX5_gone.2.1 15 (.iaload) 1 16 := ⟨by decide +kernel, rfl⟩
theorem dX5_gone_16 : Dd mX5_gone.2.1 16 (.ior) 1 17 := ⟨by decide +kernel, rfl⟩
theorem dX5_gone_17 : Dd mX5_gone.2.1 17 (.istore_n 1) 1 18 := ⟨by decide +kernel, rfl⟩
theorem dX5_gone_18 : Dd mX5_gone.2.1 18 (.iinc 2 1) 3 21 := ⟨by decide +kernel, rfl⟩
theorem dX5_gone_21 : Dd mX5_gone.2.1 21 (.goto (-17)) 3 24 := ⟨by decide +kernel, rfl⟩
theorem dX5_gone_24 : Dd mX5_gone.2.1 24 (.iload_n 1) 1 25 := ⟨by decide +kernel, rfl⟩
theorem dX5_gone_25 : Dd mX5_gone.2.1 25 (.ireturn) 1 26 := ⟨by decide +kernel, rfl⟩
theorem dX5_found_0 : Dd mX5_found.2.1 0 (.iconst 0) 1 1 := ⟨by decide +kernel, rfl⟩
theorem dX5_found_1 : Dd mX5_found.2.1 1 (.istore_n 2) 1 2 := ⟨by decide +kernel, rfl⟩
theorem dX5_found_2 : Dd mX5_found.2.1 2 (.iconst 0) 1 3 := ⟨by decide +kernel, rfl⟩
theorem dX5_found_3 : Dd mX5_found.2.1 3 (.istore_n 3) 1 4 := ⟨by decide +kernel, rfl⟩
theorem dX5_found_4 : Dd mX5_found.2.1 4 (.iload_n 3) 1 5 := ⟨by decide +kernel, rfl⟩
theorem dX5_found_5 : Dd mX5_found.2.1 5 (.iconst 4) 1 6 := ⟨by decide +kernel, rfl⟩
theorem dX5_found_6 : Dd mX5_found.2.1 6 (.if_icmp .ge 53) 3 9 := ⟨by decide +kernel, rfl⟩
theorem dX5_found_9 : Dd mX5_found.2.1 9 (.aload_n 0) 1 10 := ⟨by decide +kernel, rfl⟩
theorem dX5_found_10 : Dd mX5_found.2.1 10 (.getfield 21) 3 13 := ⟨by decide +kernel, rfl⟩
theorem dX5_found_13 : Dd mX5_found.2.1 13 (.iload_n 3) 1 14 := ⟨by decide +kernel, rfl⟩
theorem dX5_found_14 : Dd mX5_found.2.1 14 (.iaload) 1 15 := ⟨by decide +kernel, rfl⟩
theorem dX5_found_15 : Dd mX5_found.2.1 15 (.iconst 2) 1 16 := ⟨by decide +kernel, rfl⟩
theorem dX5_found_16 : Dd mX5_found.2.1 16 (.if_icmp .ge 7) 3 19 := ⟨by decide +kernel, rfl⟩
theorem dX5_found_19 : Dd mX5_found.2.1 19 (.iconst 1) 1 20 := ⟨by decide +kernel, rfl⟩
theorem dX5_found_20 : Dd mX5_found.2.1 20 (.goto 4) 3 23 := ⟨by decide +kernel, rfl⟩
theorem dX5_found_23 : Dd mX5_found.2.1 23 (.iconst 0) 1 24 := ⟨by decide +kernel, rfl⟩
theorem dX5_found_24 : Dd mX5_found.2.1 24 (.istore 4) 2 26 := ⟨by decide +kernel, rfl⟩
theorem dX5_found_26 : Dd mX5_found.2.1 26 (.iload_n 2) 1 27 := ⟨by decide +kernel, rfl⟩
theorem dX5_found_27 : Dd mX5_found.2.1 27 (.iload 4) 2 29 := ⟨by decide +kernel, rfl⟩
theorem dX5_found_29 : Dd mX5_found.2.1 29 (.ifCond .eq 16) 3 32 := ⟨by decide +kernel, rfl⟩
theorem dX5_found_32 : Dd mX5_found.2.1 32 (.aload_n 0) 1 33 := ⟨by decide +kernel, rfl⟩
theorem dX5_found_33 : Dd mX5_found.2.1 33 (.getfield 17) 3 36 := ⟨by decide +kernel, rfl⟩
theorem dX5_found_36 : Dd mX5_found.2.1 36 (.iload_n 3) 1 37 := ⟨by decide +kernel, rfl⟩
theorem dX5_found_37 : Dd mX5_found.2.1 37 (.iaload) 1 38 := ⟨by decide +kernel, rfl⟩
theorem dX5_found_38 : Dd mX5_found.2.1 38 (.iload_n 1) 1 39 := ⟨by decide +kernel, rfl⟩
theorem dX5_found_39 : Dd mX5_found.2.1 39 (.iconst (-1)) 1 40 := ⟨by decide +kernel, rfl⟩
theorem dX5_found_40 : Dd mX5_found.2.1 40 (.ixor) 1 41 := ⟨by decide +kernel, rfl⟩
theorem dX5_found_41 : Dd mX5_found.2.1 41 (.iand) 1 42 := ⟨by decide +kernel, rfl⟩
theorem dX5_found_42 : Dd mX5_found.2.1 42 (.goto 9) 3 45 := ⟨by decide +kernel, rfl⟩
theorem dX5_found_45 : Dd mX5_found.2.1 45 (.aload_n 0) 1 46 := ⟨by decide +kernel, rfl⟩
theorem dX5_found_46 : Dd mX5_found.2.1 46 (.getfield 17) 3 49 := ⟨by decide +kernel, rfl⟩
theorem dX5_found_49 : Dd mX5_found.2.1 49 (.iload_n 3) 1 50 := ⟨by decide +kernel, rfl⟩
theorem dX5_found_50 : Dd mX5_found.2.1 50 (.iaload) 1 51 := ⟨by decide +kernel, rfl⟩
theorem dX5_found_51 : Dd mX5_found.2.1 51 (.ior) 1 52 := ⟨by decide +kernel, rfl⟩
theorem dX5_found_52 : Dd mX5_found.2.1 52 (.istore_n 2) 1 53 := ⟨by decide +kernel, rfl⟩
theorem dX5_found_53 : Dd mX5_found.2.1 53 (.iinc 3 1) 3 56 := ⟨by decide +kernel, rfl⟩
theorem dX5_found_56 : Dd mX5_found.2.1 56 (.goto (-52)) 3 59 := ⟨by decide +kernel, rfl⟩
theorem dX5_found_59 : Dd mX5_found.2.1 59 (.iload_n 2) 1 60 := ⟨by decide +kernel, rfl⟩
theorem dX5_found_60 : Dd mX5_found.2.1 60 (.ireturn) 1 61 := ⟨by decide +kernel, rfl⟩
theorem dX5_passDay_0 : Dd mX5_passDay.2.1 0 (.iconst 0) 1 1 := ⟨by decide +kernel, rfl⟩
theorem dX5_passDay_1 : Dd mX5_passDay.2.1 1 (.istore_n 3) 1 2 := ⟨by decide +kernel, rfl⟩
theorem dX5_passDay_2 : Dd mX5_passDay.2.1 2 (.aload_n 0) 1 3 := ⟨by decide +kernel, rfl⟩
theorem dX5_passDay_3 : Dd mX5_passDay.2.1 3 (.dup) 1 4 := ⟨by decide +kernel, rfl⟩
theorem dX5_passDay_4 : Dd mX5_passDay.2.1 4 (.getfield 11) 3 7 := ⟨by decide +kernel, rfl⟩
theorem dX5_passDay_7 : Dd mX5_passDay.2.1 7 (.iconst 1) 1 8 := ⟨by decide +kernel, rfl⟩
theorem dX5_passDay_8 : Dd mX5_passDay.2.1 8 (.iadd) 1 9 := ⟨by decide +kernel, rfl⟩
theorem dX5_passDay_9 : Dd mX5_passDay.2.1 9 (.putfield 11) 3 12 := ⟨by decide +kernel, rfl⟩
theorem dX5_passDay_12 : Dd mX5_passDay.2.1 12 (.iconst 0) 1 13 := ⟨by decide +kernel, rfl⟩
theorem dX5_passDay_13 : Dd mX5_passDay.2.1 13 (.istore 4) 2 15 := ⟨by decide +kernel, rfl⟩
theorem dX5_passDay_15 : Dd mX5_passDay.2.1 15 (.iload 4) 2 17 := ⟨by decide +kernel, rfl⟩
theorem dX5_passDay_17 : Dd mX5_passDay.2.1 17 (.iconst 4) 1 18 := ⟨by decide +kernel, rfl⟩
theorem dX5_passDay_18 : Dd mX5_passDay.2.1 18 (.if_icmp .ge 103) 3 21 := ⟨by decide +kernel, rfl⟩
theorem dX5_passDay_21 : Dd mX5_passDay.2.1 21 (.aload_n 0) 1 22 := ⟨by decide +kernel, rfl⟩
theorem dX5_passDay_22 : Dd mX5_passDay.2.1 22 (.getfield 17) 3 25 := ⟨by decide +kernel, rfl⟩
theorem dX5_passDay_25 : Dd mX5_passDay.2.1 25 (.iload 4) 2 27 := ⟨by decide +kernel, rfl⟩
theorem dX5_passDay_27 : Dd mX5_passDay.2.1 27 (.iaload) 1 28 := ⟨by decide +kernel, rfl⟩
theorem dX5_passDay_28 : Dd mX5_passDay.2.1 28 (.ifCond .ne 6) 3 31 := ⟨by decide +kernel, rfl⟩
theorem dX5_passDay_31 : Dd mX5_passDay.2.1 31 (.goto 84) 3 34 := ⟨by decide +kernel, rfl⟩
theorem dX5_passDay_34 : Dd mX5_passDay.2.1 34 (.aload_n 0) 1 35 := ⟨by decide +kernel, rfl⟩
theorem dX5_passDay_35 : Dd mX5_passDay.2.1 35 (.getfield 21) 3 38 := ⟨by decide +kernel, rfl⟩
theorem dX5_passDay_38 : Dd mX5_passDay.2.1 38 (.iload 4) 2 40 := ⟨by decide +kernel, rfl⟩
theorem dX5_passDay_40 : Dd mX5_passDay.2.1 40 (.dup2) 1 41 := ⟨by decide +kernel, rfl⟩
theorem dX5_passDay_41 : Dd mX5_passDay.2.1 41 (.iaload) 1 42 := ⟨by decide +kernel, rfl⟩
theorem dX5_passDay_42 : Dd mX5_passDay.2.1 42 (.iconst 1) 1 43 := ⟨by decide +kernel, rfl⟩
theorem dX5_passDay_43 : Dd mX5_passDay.2.1 43 (.iadd) 1 44 := ⟨by decide +kernel, rfl⟩
theorem dX5_passDay_44 : Dd mX5_passDay.2.1 44 (.iastore) 1 45 := ⟨by decide +kernel, rfl⟩
theorem dX5_passDay_45 : Dd mX5_passDay.2.1 45 (.aload_n 0) 1 46 := ⟨by decide +kernel, rfl⟩
theorem dX5_passDay_46 : Dd mX5_passDay.2.1 46 (.getfield 21) 3 49 := ⟨by decide +kernel, rfl⟩
theorem dX5_passDay_49 : Dd mX5_passDay.2.1 49 (.iload 4) 2 51 := ⟨by decide +kernel, rfl⟩
theorem dX5_passDay_51 : Dd mX5_passDay.2.1 51 (.iaload) 1 52 := ⟨by decide +kernel, rfl⟩
theorem dX5_passDay_52 : Dd mX5_passDay.2.1 52 (.iconst 3) 1 53 := ⟨by decide +kernel, rfl⟩
theorem dX5_passDay_53 : Dd mX5_passDay.2.1 53 (.if_icmp .eq 6) 3 56 := ⟨by decide +kernel, rfl⟩
theorem dX5_passDay_56 : Dd mX5_passDay.2.1 56 (.goto 59) 3 59 := ⟨by decide +kernel, rfl⟩
theorem dX5_passDay_59 : Dd mX5_passDay.2.1 59 (.aload_n 0) 1 60 := ⟨by decide +kernel, rfl⟩
theorem dX5_passDay_60 : Dd mX5_passDay.2.1 60 (.getfield 17) 3 63 := ⟨by decide +kernel, rfl⟩
theorem dX5_passDay_63 : Dd mX5_passDay.2.1 63 (.iload 4) 2 65 := ⟨by decide +kernel, rfl⟩
theorem dX5_passDay_65 : Dd mX5_passDay.2.1 65 (.dup2) 1 66 := ⟨by decide +kernel, rfl⟩
theorem dX5_passDay_66 : Dd mX5_passDay.2.1 66 (.iaload) 1 67 := ⟨by decide +kernel, rfl⟩
theorem dX5_passDay_67 : Dd mX5_passDay.2.1 67 (.aload_n 1) 1 68 := ⟨by decide +kernel, rfl⟩
theorem dX5_passDay_68 : Dd mX5_passDay.2.1 68 (.getfield 35) 3 71 := ⟨by decide +kernel, rfl⟩
theorem dX5_passDay_71 : Dd mX5_passDay.2.1 71 (.iconst (-1)) 1 72 := ⟨by decide +kernel, rfl⟩
theorem dX5_passDay_72 : Dd mX5_passDay.2.1 72 (.ixor) 1 73 := ⟨by decide +kernel, rfl⟩
theorem dX5_passDay_73 : Dd mX5_passDay.2.1 73 (.iand) 1 74 := ⟨by decide +kernel, rfl⟩
theorem dX5_passDay_74 : Dd mX5_passDay.2.1 74 (.iastore) 1 75 := ⟨by decide +kernel, rfl⟩
theorem dX5_passDay_75 : Dd mX5_passDay.2.1 75 (.aload_n 2) 1 76 := ⟨by decide +kernel, rfl⟩
theorem dX5_passDay_76 : Dd mX5_passDay.2.1 76 (.aload_n 0) 1 77 := ⟨by decide +kernel, rfl⟩
theorem dX5_passDay_77 : Dd mX5_passDay.2.1 77 (.getfield 17) 3 80 := ⟨by decide +kernel, rfl⟩
theorem dX5_passDay_80 : Dd mX5_passDay.2.1 80 (.iload 4) 2 82 := ⟨by decide +kernel, rfl⟩
theorem dX5_passDay_82 : Dd mX5_passDay.2.1 82 (.iaload) 1 83 := ⟨by decide +kernel, rfl⟩
theorem dX5_passDay_83 : Dd mX5_passDay.2.1 83 (.invokevirtual 38) 3 86 := ⟨by decide +kernel, rfl⟩
theorem dX5_passDay_86 : Dd mX5_passDay.2.1 86 (.aload_n 1) 1 87 := ⟨by decide +kernel, rfl⟩
theorem dX5_passDay_87 : Dd mX5_passDay.2.1 87 (.iload 4) 2 89 := ⟨by decide +kernel, rfl⟩
theorem dX5_passDay_89 : Dd mX5_passDay.2.1 89 (.invokevirtual 43) 3 92 := ⟨by decide +kernel, rfl⟩
theorem dX5_passDay_92 : Dd mX5_passDay.2.1 92 (.if_icmp .ge 23) 3 95 := ⟨by decide +kernel, rfl⟩
theorem dX5_passDay_95 : Dd mX5_passDay.2.1 95 (.aload_n 0) 1 96 := ⟨by decide +kernel, rfl⟩
theorem dX5_passDay_96 : Dd mX5_passDay.2.1 96 (.iload 4) 2 98 := ⟨by decide +kernel, rfl⟩
theorem dX5_passDay_98 : Dd mX5_passDay.2.1 98 (.invokevirtual 46) 3 101 := ⟨by decide +kernel, rfl⟩
theorem dX5_passDay_101 : Dd mX5_passDay.2.1 101 (.aload_n 0) 1 102 := ⟨by decide +kernel, rfl⟩
theorem dX5_passDay_102 : Dd mX5_passDay.2.1 102 (.getfield 24) 3 105 := ⟨by decide +kernel, rfl⟩
theorem dX5_passDay_105 : Dd mX5_passDay.2.1 105 (.iload 4) 2 107 := ⟨by decide +kernel, rfl⟩
theorem dX5_passDay_107 : Dd mX5_passDay.2.1 107 (.dup2) 1 108 := ⟨by decide +kernel, rfl⟩
theorem dX5_passDay_108 : Dd mX5_passDay.2.1 108 (.iaload) 1 109 := ⟨by decide +kernel, rfl⟩
theorem dX5_passDay_109 : Dd mX5_passDay.2.1 109 (.iconst 1) 1 110 := ⟨by decide +kernel, rfl⟩
theorem dX5_passDay_110 : Dd mX5_passDay.2.1 110 (.iadd) 1 111 := ⟨by decide +kernel, rfl⟩
theorem dX5_passDay_111 : Dd mX5_passDay.2.1 111 (.iastore) 1 112 := ⟨by decide +kernel, rfl⟩
theorem dX5_passDay_112 : Dd mX5_passDay.2.1 112 (.iinc 3 1) 3 115 := ⟨by decide +kernel, rfl⟩
theorem dX5_passDay_115 : Dd mX5_passDay.2.1 115 (.iinc 4 1) 3 118 := ⟨by decide +kernel, rfl⟩
theorem dX5_passDay_118 : Dd mX5_passDay.2.1 118 (.goto (-103)) 3 121 := ⟨by decide +kernel, rfl⟩
theorem dX5_passDay_121 : Dd mX5_passDay.2.1 121 (.iload_n 3) 1 122 := ⟨by decide +kernel, rfl⟩
theorem dX5_passDay_122 : Dd mX5_passDay.2.1 122 (.ireturn) 1 123 := ⟨by decide +kernel, rfl⟩
theorem dX6_init_0 : Dd mX6_init.2.1 0 (.aload_n 0) 1 1 := ⟨by decide +kernel, rfl⟩
theorem dX6_init_1 : Dd mX6_init.2.1 1 (.invokespecial 3) 3 4 := ⟨by decide +kernel, rfl⟩
theorem dX6_init_4 : Dd mX6_init.2.1 4 (.aload_n 0) 1 5 := ⟨by decide +kernel, rfl⟩
theorem dX6_init_5 : Dd mX6_init.2.1 5 (.iconst 1) 1 6 := ⟨by decide +kernel, rfl⟩
theorem dX6_init_6 : Dd mX6_init.2.1 6 (.putfield 9) 3 9 := ⟨by decide +kernel, rfl⟩
theorem dX6_init_9 : Dd mX6_init.2.1 9 (.aload_n 0) 1 10 := ⟨by decide +kernel, rfl⟩
theorem dX6_init_10 : Dd mX6_init.2.1 10 (.sipush 1024) 3 13 := ⟨by decide +kernel, rfl⟩
theorem dX6_init_13 : Dd mX6_init.2.1 13 (.newarray .int) 2 15 := ⟨by decide +kernel, rfl⟩
theorem dX6_init_15 : Dd mX6_init.2.1 15 (.putfield 15) 3 18 := ⟨by decide +kernel, rfl⟩
theorem dX6_init_18 : Dd mX6_init.2.1 18 (.aload_n 0) 1 19 := ⟨by decide +kernel, rfl⟩
theorem dX6_init_19 : Dd mX6_init.2.1 19 (.sipush 1024) 3 22 := ⟨by decide +kernel, rfl⟩
theorem dX6_init_22 : Dd mX6_init.2.1 22 (.newarray .int) 2 24 := ⟨by decide +kernel, rfl⟩
theorem dX6_init_24 : Dd mX6_init.2.1 24 (.putfield 19) 3 27 := ⟨by decide +kernel, rfl⟩
theorem dX6_init_27 : Dd mX6_init.2.1 27 (.aload_n 0) 1 28 := ⟨by decide +kernel, rfl⟩
theorem dX6_init_28 : Dd mX6_init.2.1 28 (.sipush 1024) 3 31 := ⟨by decide +kernel, rfl⟩
theorem dX6_init_31 : Dd mX6_init.2.1 31 (.newarray .int) 2 33 := ⟨by decide +kernel, rfl⟩
theorem dX6_init_33 : Dd mX6_init.2.1 33 (.putfield 22) 3 36 := ⟨by decide +kernel, rfl⟩
theorem dX6_init_36 : Dd mX6_init.2.1 36 (.aload_n 0) 1 37 := ⟨by decide +kernel, rfl⟩
theorem dX6_init_37 : Dd mX6_init.2.1 37 (.sipush 1024) 3 40 := ⟨by decide +kernel, rfl⟩
theorem dX6_init_40 : Dd mX6_init.2.1 40 (.newarray .int) 2 42 := ⟨by decide +kernel, rfl⟩
theorem dX6_init_42 : Dd mX6_init.2.1 42 (.putfield 25) 3 45 := ⟨by decide +kernel, rfl⟩
theorem dX6_init_45 : Dd mX6_init.2.1 45 (.return_) 1 46 := ⟨by decide +kernel, rfl⟩
theorem dX6_fillFrom_0 : Dd mX6_fillFrom.2.1 0 (.aload_n 0) 1 1 := ⟨by decide +kernel, rfl⟩
theorem dX6_fillFrom_1 : Dd mX6_fillFrom.2.1 1 (.sipush 1024) 3 4 := ⟨by decide +kernel, rfl⟩
theorem dX6_fillFrom_4 : Dd mX6_fillFrom.2.1 4 (.iconst 1) 1 5 := ⟨by decide +kernel, rfl⟩
theorem dX6_fillFrom_5 : Dd mX6_fillFrom.2.1 5 (.aload_n 1) 1 6 := ⟨by decide +kernel, rfl⟩
theorem dX6_fillFrom_6 : Dd mX6_fillFrom.2.1 6 (.getfield 28) 3 9 := ⟨by decide +kernel, rfl⟩
theorem dX6_fillFrom_9 : Dd mX6_fillFrom.2.1 9 (.ishl) 1 10 := ⟨by decide +kernel, rfl⟩
theorem dX6_fillFrom_10 : Dd mX6_fillFrom.2.1 10 (.invokestatic 31) 3 13 := ⟨by decide +kernel, rfl⟩
theorem dX6_fillFrom_13 : Dd mX6_fillFrom.2.1 13 (.putfield 9) 3 16 := ⟨by decide +kernel, rfl⟩
theorem dX6_fillFrom_16 : Dd mX6_fillFrom.2.1 16 (.iconst 0) 1 17 := ⟨by decide +kernel, rfl⟩
theorem dX6_fillFrom_17 : Dd mX6_fillFrom.2.1 17 (.istore_n 2) 1 18 := ⟨by decide +kernel, rfl⟩
theorem dX6_fillFrom_18 : Dd mX6_fillFrom.2.1 18 (.iload_n 2) 1 19 := ⟨by decide +kernel, rfl⟩
theorem dX6_fillFrom_19 : Dd mX6_fillFrom.2.1 19 (.aload_n 0) 1 20 := ⟨by decide +kernel, rfl⟩
theorem dX6_fillFrom_20 : Dd mX6_fillFrom.2.1 20 (.getfield 9) 3 23 := ⟨by decide +kernel, rfl⟩
theorem dX6_fillFrom_23 : Dd mX6_fillFrom.2.1 23 (.if_icmp .ge 103) 3 26 := ⟨by decide +kernel, rfl⟩
theorem dX6_fillFrom_26 : Dd mX6_fillFrom.2.1 26 (.iload_n 2) 1 27 := ⟨by decide +kernel, rfl⟩
theorem dX6_fillFrom_27 : Dd mX6_fillFrom.2.1 27 (.sipush 1024) 3 30 := ⟨by decide +kernel, rfl⟩
theorem dX6_fillFrom_30 : Dd mX6_fillFrom.2.1 30 (.if_icmp .ge 96) 3 33 := ⟨by decide +kernel, rfl⟩
theorem dX6_fillFrom_33 : Dd mX6_fillFrom.2.1 33 (.aload_n 0) 1 34 := ⟨by decide +kernel, rfl⟩
theorem dX6_fillFrom_34 : Dd mX6_fillFrom.2.1 34 (.getfield 15) 3 37 := ⟨by decide +kernel, rfl⟩
theorem dX6_fillFrom_37 : Dd mX6_fillFrom.2.1 37 (.iload_n 2) 1 38 := ⟨by decide +kernel, rfl⟩
theorem dX6_fillFrom_38 : Dd mX6_fillFrom.2.1 38 (.aload_n 1) 1 39 := ⟨by decide +kernel, rfl⟩
theorem dX6_fillFrom_39 : Dd mX6_fillFrom.2.1 39 (.iload_n 2) 1 40 := ⟨by decide +kernel, rfl⟩
theorem dX6_fillFrom_40 : Dd mX6_fillFrom.2.1 40 (.invokestatic 37) 3 43 := ⟨by decide +kernel, rfl⟩
theorem dX6_fillFrom_43 : Dd mX6_fillFrom.2.1 43 (.iastore) 1 44 := ⟨by decide +kernel, rfl⟩
theorem dX6_fillFrom_44 : Dd mX6_fillFrom.2.1 44 (.aload_n 0) 1 45 := ⟨by decide +kernel, rfl⟩
theorem dX6_fillFrom_45 : Dd mX6_fillFrom.2.1 45 (.getfield 19) 3 48 := ⟨by decide +kernel, rfl⟩
theorem dX6_fillFrom_48 : Dd mX6_fillFrom.2.1 48 (.iload_n 2) 1 49 := ⟨by decide +kernel, rfl⟩
theorem dX6_fillFrom_49 : Dd mX6_fillFrom.2.1 49 (.iload_n 2) 1 50 := ⟨by decide +kernel, rfl⟩
theorem dX6_fillFrom_50 : Dd mX6_fillFrom.2.1 50 (.ifCond .eq 11) 3 53 := ⟨by decide +kernel, rfl⟩
theorem dX6_fillFrom_53 : Dd mX6_fillFrom.2.1 53 (.iload_n 2) 1 54 := ⟨by decide +kernel, rfl⟩
theorem dX6_fillFrom_54 : Dd mX6_fillFrom.2.1 54 (.invokestatic 41) 3 57 := ⟨by decide +kernel, rfl⟩
theorem dX6_fillFrom_57 : Dd mX6_fillFrom.2.1 57 (.iconst 1) 1 58 := ⟨by decide +kernel, rfl⟩
theorem dX6_fillFrom_58 : Dd mX6_fillFrom.2.1 58 (.if_icmp .ne 11) 3 61 := ⟨by decide +kernel, rfl⟩
theorem dX6_fillFrom_61 : Dd mX6_fillFrom.2.1 61 (.aload_n 1) 1 62 := ⟨by decide +kernel, rfl⟩
theorem dX6_fillFrom_62 : Dd mX6_fillFrom.2.1 62 (.iload_n 2) 1 63 := ⟨by decide +kernel, rfl⟩
theorem dX6_fillFrom_63 : Dd mX6_fillFrom.2.1 63 (.invokestatic 47) 3 66 := ⟨by decide +kernel, rfl⟩
theorem dX6_fillFrom_66 : Dd mX6_fillFrom.2.1 66 (.goto 21) 3 69 := ⟨by decide +kernel, rfl⟩
theorem dX6_fillFrom_69 : Dd mX6_fillFrom.2.1 69 (.aload_n 0) 1 70 := ⟨by decide +kernel, rfl⟩
theorem dX6_fillFrom_70 : Dd mX6_fillFrom.2.1 70 (.iload_n 2) 1 71 := ⟨by decide +kernel, rfl⟩
theorem dX6_fillFrom_71 : Dd mX6_fillFrom.2.1 71 (.iload_n 2) 1 72 := ⟨by decide +kernel, rfl⟩
theorem dX6_fillFrom_72 : Dd mX6_fillFrom.2.1 72 (.ineg) 1 73 := ⟨by decide +kernel, rfl⟩
theorem dX6_fillFrom_73 : Dd mX6_fillFrom.2.1 73 (.iand) 1 74 := ⟨by decide +kernel, rfl⟩
theorem dX6_fillFrom_74 : Dd mX6_fillFrom.2.1 74 (.invokevirtual 50) 3 77 := ⟨by decide +kernel, rfl⟩
theorem dX6_fillFrom_77 : Dd mX6_fillFrom.2.1 77 (.aload_n 0) 1 78 := ⟨by decide +kernel, rfl⟩
theorem dX6_fillFrom_78 : Dd mX6_fillFrom.2.1 78 (.iload_n 2) 1 79 := ⟨by decide +kernel, rfl⟩
theorem dX6_fillFrom_79 : Dd mX6_fillFrom.2.1 79 (.iload_n 2) 1 80 := ⟨by decide +kernel, rfl⟩
theorem dX6_fillFrom_80 : Dd mX6_fillFrom.2.1 80 (.iconst 1) 1 81 := ⟨by decide +kernel, rfl⟩
theorem dX6_fillFrom_81 : Dd mX6_fillFrom.2.1 81 (.isub) 1 82 := ⟨by decide +kernel, rfl⟩
theorem dX6_fillFrom_82 : Dd mX6_fillFrom.2.1 82 (.iand) 1 83 := ⟨by decide +kernel, rfl⟩
theorem dX6_fillFrom_83 : Dd mX6_fillFrom.2.1 83 (.invokevirtual 50) 3 86 := ⟨by decide +kernel, rfl⟩
theorem dX6_fillFrom_86 : Dd mX6_fillFrom.2.1 86 (.ior) 1 87 := ⟨by decide +kernel, rfl⟩
theorem dX6_fillFrom_87 : Dd mX6_fillFrom.2.1 87 (.iastore) 1 88 := ⟨by decide +kernel, rfl⟩
theorem dX6_fillFrom_88 : Dd mX6_fillFrom.2.1 88 (.aload_n 0) 1 89 := ⟨by decide +kernel, rfl⟩
theorem dX6_fillFrom_89 : Dd mX6_fillFrom.2.1 89 (.getfield 22) 3 92 := ⟨by decide +kernel, rfl⟩
theorem dX6_fillFrom_92 : Dd mX6_fillFrom.2.1 92 (.iload_n 2) 1 93 := ⟨by decide +kernel, rfl⟩
theorem dX6_fillFrom_93 : Dd mX6_fillFrom.2.1 93 (.aload_n 1) 1 94 := ⟨by decide +kernel, rfl⟩
theorem dX6_fillFrom_94 : Dd mX6_fillFrom.2.1 94 (.aload_n 0) 1 95 := ⟨by decide +kernel, rfl⟩
theorem dX6_fillFrom_95 : Dd mX6_fillFrom.2.1 95 (.getfield 19) 3 98 := ⟨by decide +kernel, rfl⟩
theorem dX6_fillFrom_98 : Dd mX6_fillFrom.2.1 98 (.iload_n 2) 1 99 := ⟨by decide +kernel, rfl⟩
theorem dX6_fillFrom_99 : Dd mX6_fillFrom.2.1 99 (.iaload) 1 100 := ⟨by decide +kernel, rfl⟩
theorem dX6_fillFrom_100 : Dd mX6_fillFrom.2.1 100 (.invokestatic 53) 3 103 := ⟨by decide +kernel, rfl⟩
theorem dX6_fillFrom_103 : Dd mX6_fillFrom.2.1 103 (.iastore) 1 104 := ⟨by decide +kernel, rfl⟩
theorem dX6_fillFrom_104 : Dd mX6_fillFrom.2.1 104 (.aload_n 0) 1 105 := ⟨by decide +kernel, rfl⟩
theorem dX6_fillFrom_105 : Dd mX6_fillFrom.2.1 105 (.getfield 25) 3 108 := ⟨by decide +kernel, rfl⟩
theorem dX6_fillFrom_108 : Dd mX6_fillFrom.2.1 108 (.iload_n 2) 1 109 := ⟨by decide +kernel, rfl⟩
theorem dX6_fillFrom_109 : Dd mX6_fillFrom.2.1 109 (.aload_n 1) 1 110 := ⟨by decide +kernel, rfl⟩
theorem dX6_fillFrom_110 : Dd mX6_fillFrom.2.1 110 (.aload_n 0) 1 111 := ⟨by decide +kernel, rfl⟩
theorem dX6_fillFrom_111 : Dd mX6_fillFrom.2.1 111 (.getfield 22) 3 114 := ⟨by decide +kernel, rfl⟩
theorem dX6_fillFrom_114 : Dd mX6_fillFrom.2.1 114 (.iload_n 2) 1 115 := ⟨by decide +kernel, rfl⟩
theorem dX6_fillFrom_115 : Dd mX6_fillFrom.2.1 115 (.iaload) 1 116 := ⟨by decide +kernel, rfl⟩
theorem dX6_fillFrom_116 : Dd mX6_fillFrom.2.1 116 (.invokestatic 56) 3 119 := ⟨by decide +kernel, rfl⟩
theorem dX6_fillFrom_119 : Dd mX6_fillFrom.2.1 119 (.iastore) 1 120 := ⟨by decide +kernel, rfl⟩
theorem dX6_fillFrom_120 : Dd mX6_fillFrom.2.1 120 (.iinc 2 1) 3 123 := ⟨by decide +kernel, rfl⟩
theorem dX6_fillFrom_123 : Dd mX6_fillFrom.2.1 123 (.goto (-105)) 3 126 := ⟨by decide +kernel, rfl⟩
theorem dX6_fillFrom_126 : Dd mX6_fillFrom.2.1 126 (.return_) 1 127 := ⟨by decide +kernel, rfl⟩
theorem dX6_sumOfStrength_0 : Dd mX6_sumOfStrength.2.1 0 (.iload_n 1) 1 1 := ⟨by decide +kernel, rfl⟩
theorem dX6_sumOfStrength_1 : Dd mX6_sumOfStrength.2.1 1 (.aload_n 0) 1 2 := ⟨by decide +kernel, rfl⟩
theorem dX6_sumOfStrength_2 : Dd mX6_sumOfStrength.2.1 2 (.getfield 59) 3 5 := ⟨by decide +kernel, rfl⟩
theorem dX6_sumOfStrength_5 : Dd mX6_sumOfStrength.2.1 5 (.iand) 1 6 := ⟨by decide +kernel, rfl⟩
theorem dX6_sumOfStrength_6 : Dd mX6_sumOfStrength.2.1 6 (.istore_n 2) 1 7 := ⟨by decide +kernel, rfl⟩
theorem dX6_sumOfStrength_7 : Dd mX6_sumOfStrength.2.1 7 (.iload_n 2) 1 8 := ⟨by decide +kernel, rfl⟩
theorem dX6_sumOfStrength_8 : Dd mX6_sumOfStrength.2.1 8 (.invokestatic 41) 3 11 := ⟨by decide +kernel, rfl⟩
theorem dX6_sumOfStrength_11 : Dd mX6_sumOfStrength.2.1 11 (.iconst 1) 1 12 := ⟨by decide +kernel, rfl⟩
theorem dX6_sumOfStrength_12 : Dd mX6_sumOfStrength.2.1 12 (.if_icmp .le 7) 3 15 := ⟨by decide +kernel, rfl⟩
theorem dX6_sumOfStrength_15 : Dd mX6_sumOfStrength.2.1 15 (.iconst 1) 1 16 := ⟨by decide +kernel, rfl⟩
theorem dX6_sumOfStrength_16 : Dd mX6_sumOfStrength.2.1 16 (.goto 4) 3 19 := ⟨by decide +kernel, rfl⟩
theorem dX6_sumOfStrength_19 : Dd mX6_sumOfStrength.2.1 19 (.iconst 0) 1 20 := ⟨by decide +kernel, rfl⟩
theorem dX6_sumOfStrength_20 : Dd mX6_sumOfStrength.2.1 20 (.istore_n 3) 1 21 := ⟨by decide +kernel, rfl⟩
theorem dX6_sumOfStrength_21 : Dd mX6_sumOfStrength.2.1 21 (.iconst 0) 1 22 := ⟨by decide +kernel, rfl⟩
theorem dX6_sumOfStrength_22 : Dd mX6_sumOfStrength.2.1 22 (.istore 4) 2 24 := ⟨by decide +kernel, rfl⟩
theorem dX6_sumOfStrength_24 : Dd mX6_sumOfStrength.2.1 24 (.iconst 0) 1 25 := ⟨by decide +kernel, rfl⟩
theorem dX6_sumOfStrength_25 : Dd mX6_sumOfStrength.2.1 25 (.istore 5) 2 27 := ⟨by decide +kernel, rfl⟩
theorem dX6_sumOfStrength_27 : Dd mX6_sumOfStrength.2.1 27 (.iload 5) 2 29 := ⟨by decide +kernel, rfl⟩
theorem dX6_sumOfStrength_29 : Dd mX6_sumOfStrength.2.1 29 (.aload_n 0) 1 30 := ⟨by decide +kernel, rfl⟩
theorem dX6_sumOfStrength_30 : Dd mX6_sumOfStrength.2.1 30 (.getfield 28) 3 33 := ⟨by decide +kernel, rfl⟩
theorem dX6_sumOfStrength_33 : Dd mX6_sumOfStrength.2.1 33 (.if_icmp .ge 62) 3 36 := ⟨by decide +kernel, rfl⟩
theorem dX6_sumOfStrength_36 : Dd mX6_sumOfStrength.2.1 36 (.iload_n 1) 1 37 := ⟨by decide +kernel, rfl⟩
theorem dX6_sumOfStrength_37 : Dd mX6_sumOfStrength.2.1 37 (.iload 5) 2 39 := ⟨by decide +kernel, rfl⟩
theorem dX6_sumOfStrength_39 : Dd mX6_sumOfStrength.2.1 39 (.ishr) 1 40 := ⟨by decide +kernel, rfl⟩
theorem dX6_sumOfStrength_40 : Dd mX6_sumOfStrength.2.1 40 (.iconst 1) 1 41 := ⟨by decide +kernel, rfl⟩
theorem dX6_sumOfStrength_41 : Dd mX6_sumOfStrength.2.1 41 (.iand) 1 42 := ⟨by decide +kernel, rfl⟩
theorem dX6_sumOfStrength_42 : Dd mX6_sumOfStrength.2.1 42 (.iconst 1) 1 43 := ⟨by decide +kernel, rfl⟩
theorem dX6_sumOfStrength_43 : Dd mX6_sumOfStrength.2.1 43 (.if_icmp .ne 46) 3 46 := ⟨by decide +kernel, rfl⟩
theorem dX6_sumOfStrength_46 : Dd mX6_sumOfStrength.2.1 46 (.iload_n 3) 1 47 := ⟨by decide +kernel, rfl⟩
theorem dX6_sumOfStrength_47 : Dd mX6_sumOfStrength.2.1 47 (.ifCond .eq 17) 3 50 := ⟨by decide +kernel, rfl⟩
theorem dX6_sumOfStrength_50 : Dd mX6_sumOfStrength.2.1 50 (.iload_n 2) 1 51 := ⟨by decide +kernel, rfl⟩
theorem dX6_sumOfStrength_51 : Dd mX6_sumOfStrength.2.1 51 (.iload 5) 2 53 := ⟨by decide +kernel, rfl⟩
theorem dX6_sumOfStrength_53 : Dd mX6_sumOfStrength.2.1 53 (.ishr) 1 54 := ⟨by decide +kernel, rfl⟩
theorem dX6_sumOfStrength_54 : Dd mX6_sumOfStrength.2.1 54 (.iconst 1) 1 55 := ⟨by decide +kernel, rfl⟩
theorem dX6_sumOfStrength_55 : Dd mX6_sumOfStrength.2.1 55 (.iand) 1 56 := ⟨by decide +kernel, rfl⟩
theorem dX6_sumOfStrength_56 : Dd mX6_sumOfStrength.2.1 56 (.iconst 1) 1 57 := ⟨by decide +kernel, rfl⟩
theorem dX6_sumOfStrength_57 : Dd mX6_sumOfStrength.2.1 57 (.if_icmp .ne 7) 3 60 := ⟨by decide +kernel, rfl⟩
theorem dX6_sumOfStrength_60 : Dd mX6_sumOfStrength.2.1 60 (.iconst 1) 1 61 := ⟨by decide +kernel, rfl⟩
theorem dX6_sumOfStrength_61 : Dd mX6_sumOfStrength.2.1 61 (.goto 4) 3 64 := ⟨by decide +kernel, rfl⟩
theorem dX6_sumOfStrength_64 : Dd mX6_sumOfStrength.2.1 64 (.iconst 0) 1 65 := ⟨by decide +kernel, rfl⟩
theorem dX6_sumOfStrength_65 : Dd mX6_sumOfStrength.2.1 65 (.istore 6) 2 67 := ⟨by decide +kernel, rfl⟩
theorem dX6_sumOfStrength_67 : Dd mX6_sumOfStrength.2.1 67 (.iload 4) 2 69 := ⟨by decide +kernel, rfl⟩
theorem dX6_sumOfStrength_69 : Dd mX6_sumOfStrength.2.1 69 (.iload 6) 2 71 := ⟨by decide +kernel, rfl⟩
theorem dX6_sumOfStrength_71 : Dd mX6_sumOfStrength.2.1 71 (.ifCond .eq 7) 3 74 := ⟨by decide +kernel, rfl⟩
theorem dX6_sumOfStrength_74 : Dd mX6_sumOfStrength.2.1 74 (.iconst 2) 1 75 := ⟨by decide +kernel, rfl⟩
theorem dX6_sumOfStrength_75 : Dd mX6_sumOfStrength.2.1 75 (.goto 4) 3 78 := ⟨by decide +kernel, rfl⟩
theorem dX6_sumOfStrength_78 : Dd mX6_sumOfStrength.2.1 78 (.iconst 1) 1 79 := ⟨by decide +kernel, rfl⟩
theorem dX6_sumOfStrength_79 : Dd mX6_sumOfStrength.2.1 79 (.aload_n 0) 1 80 := ⟨by decide +kernel, rfl⟩
theorem dX6_sumOfStrength_80 : Dd mX6_sumOfStrength.2.1 80 (.iload 5) 2 82 := ⟨by decide +kernel, rfl⟩
theorem dX6_sumOfStrength_82 : Dd mX6_sumOfStrength.2.1 82 (.invokevirtual 62) 3 85 := ⟨by decide +kernel, rfl⟩
theorem dX6_sumOfStrength_85 : Dd mX6_sumOfStrength.2.1 85 (.imul) 1 86 := ⟨by decide +kernel, rfl⟩
theorem dX6_sumOfStrength_86 : Dd mX6_sumOfStrength.2.1 86 (.iadd) 1 87 := ⟨by decide +kernel, rfl⟩
theorem dX6_sumOfStrength_87 : Dd mX6_sumOfStrength.2.1 87 (.istore 4) 2 89 := ⟨by decide +kernel, rfl⟩
theorem dX6_sumOfStrength_89 : Dd mX6_sumOfStrength.2.1 89 (.iinc 5 1) 3 92 := ⟨by decide +kernel, rfl⟩
theorem dX6_sumOfStrength_92 : Dd mX6_sumOfStrength.2.1 92 (.goto (-65)) 3 95 := ⟨by decide +kernel, rfl⟩
theorem dX6_sumOfStrength_95 : Dd mX6_sumOfStrength.2.1 95 (.iload 4) 2 97 := ⟨by decide +kernel, rfl⟩
theorem dX6_sumOfStrength_97 : Dd mX6_sumOfStrength.2.1 97 (.ireturn) 1 98 := ⟨by decide +kernel, rfl⟩
theorem dX6_spread_0 : Dd mX6_spread.2.1 0 (.iload_n 1) 1 1 := ⟨by decide +kernel, rfl⟩
theorem dX6_spread_1 : Dd mX6_spread.2.1 1 (.istore_n 2) 1 2 := ⟨by decide +kernel, rfl⟩
theorem dX6_spread_2 : Dd mX6_spread.2.1 2 (.iconst 0) 1 3 := ⟨by decide +kernel, rfl⟩
theorem dX6_spread_3 : Dd mX6_spread.2.1 3 (.istore_n 3) 1 4 := ⟨by decide +kernel, rfl⟩
theorem dX6_spread_4 : Dd mX6_spread.2.1 4 (.iload_n 3) 1 5 := ⟨by decide +kernel, rfl⟩
theorem dX6_spread_5 : Dd mX6_spread.2.1 5 (.aload_n 0) 1 6 := ⟨by decide +kernel, rfl⟩
theorem dX6_spread_6 : Dd mX6_spread.2.1 6 (.getfield 28) 3 9 := ⟨by decide +kernel, rfl⟩
theorem dX6_spread_9 : Dd mX6_spread.2.1 9 (.if_icmp .ge 52) 3 12 := ⟨by decide +kernel, rfl⟩
theorem dX6_spread_12 : Dd mX6_spread.2.1 12 (.iconst 0) 1 13 := ⟨by decide +kernel, rfl⟩
theorem dX6_spread_13 : Dd mX6_spread.2.1 13 (.istore 4) 2 15 := ⟨by decide +kernel, rfl⟩
theorem dX6_spread_15 : Dd mX6_spread.2.1 15 (.iload 4) 2 17 := ⟨by decide +kernel, rfl⟩
theorem dX6_spread_17 : Dd mX6_spread.2.1 17 (.aload_n 0) 1 18 := ⟨by decide +kernel, rfl⟩
theorem dX6_spread_18 : Dd mX6_spread.2.1 18 (.getfield 65) 3 21 := ⟨by decide +kernel, rfl⟩
theorem dX6_spread_21 : Dd mX6_spread.2.1 21 (.if_icmp .ge 34) 3 24 := ⟨by decide +kernel, rfl⟩
theorem dX6_spread_24 : Dd mX6_spread.2.1 24 (.iload_n 2) 1 25 := ⟨by decide +kernel, rfl⟩
theorem dX6_spread_25 : Dd mX6_spread.2.1 25 (.aload_n 0) 1 26 := ⟨by decide +kernel, rfl⟩
theorem dX6_spread_26 : Dd mX6_spread.2.1 26 (.iload 4) 2 28 := ⟨by decide +kernel, rfl⟩
theorem dX6_spread_28 : Dd mX6_spread.2.1 28 (.invokevirtual 68) 3 31 := ⟨by decide +kernel, rfl⟩
theorem dX6_spread_31 : Dd mX6_spread.2.1 31 (.ishr) 1 32 := ⟨by decide +kernel, rfl⟩
theorem dX6_spread_32 : Dd mX6_spread.2.1 32 (.iconst 1) 1 33 := ⟨by decide +kernel, rfl⟩
theorem dX6_spread_33 : Dd mX6_spread.2.1 33 (.iand) 1 34 := ⟨by decide +kernel, rfl⟩
theorem dX6_spread_34 : Dd mX6_spread.2.1 34 (.iconst 1) 1 35 := ⟨by decide +kernel, rfl⟩
theorem dX6_spread_35 : Dd mX6_spread.2.1 35 (.if_icmp .ne 14) 3 38 := ⟨by decide +kernel, rfl⟩
theorem dX6_spread_38 : Dd mX6_spread.2.1 38 (.iload_n 2) 1 39 := ⟨by decide +kernel, rfl⟩
theorem dX6_spread_39 : Dd mX6_spread.2.1 39 (.iconst 1) 1 40 := ⟨by decide +kernel, rfl⟩
theorem dX6_spread_40 : Dd mX6_spread.2.1 40 (.aload_n 0) 1 41 := ⟨by decide +kernel, rfl⟩
theorem dX6_spread_41 : Dd mX6_spread.2.1 41 (.iload 4) 2 43 := ⟨by decide +kernel, rfl⟩
theorem dX6_spread_43 : Dd mX6_spread.2.1 43 (.invokevirtual 71) 3 46 := ⟨by decide +kernel, rfl⟩
theorem dX6_spread_46 : Dd mX6_spread.2.1 46 (.ishl) 1 47 := ⟨by decide +kernel, rfl⟩
theorem dX6_spread_47 : Dd mX6_spread.2.1 47 (.ior) 1 48 := ⟨by decide +kernel, rfl⟩
theorem dX6_spread_48 : Dd mX6_spread.2.1 48 (.istore_n 2) 1 49 := ⟨by decide +kernel, rfl⟩
theorem dX6_spread_49 : Dd mX6_spread.2.1 49 (.iinc 4 1) 3 52 := ⟨by decide +kernel, rfl⟩
theorem dX6_spread_52 : Dd mX6_spread.2.1 52 (.goto (-37)) 3 55 := ⟨by decide +kernel, rfl⟩
theorem dX6_spread_55 : Dd mX6_spread.2.1 55 (.iinc 3 1) 3 58 := ⟨by decide +kernel, rfl⟩
theorem dX6_spread_58 : Dd mX6_spread.2.1 58 (.goto (-54)) 3 61 := ⟨by decide +kernel, rfl⟩
theorem dX6_spread_61 : Dd mX6_spread.2.1 61 (.iload_n 2) 1 62 := ⟨by decide +kernel, rfl⟩
theorem dX6_spread_62 : Dd mX6_spread.2.1 62 (.ireturn) 1 63 := ⟨by decide +kernel, rfl⟩
theorem dX6_thoseWhoMiss_0 : Dd mX6_thoseWhoMiss.2.1 0 (.iconst 0) 1 1 := ⟨by decide +kernel, rfl⟩
theorem dX6_thoseWhoMiss_1 : Dd mX6_thoseWhoMiss.2.1 1 (.istore_n 2) 1 2 := ⟨by decide +kernel, rfl⟩
theorem dX6_thoseWhoMiss_2 : Dd mX6_thoseWhoMiss.2.1 2 (.iconst 0) 1 3 := ⟨by decide +kernel, rfl⟩
theorem dX6_thoseWhoMiss_3 : Dd mX6_thoseWhoMiss.2.1 3 (.istore_n 3) 1 4 := ⟨by decide +kernel, rfl⟩
theorem dX6_thoseWhoMiss_4 : Dd mX6_thoseWhoMiss.2.1 4 (.iload_n 3) 1 5 := ⟨by decide +kernel, rfl⟩
theorem dX6_thoseWhoMiss_5 : Dd mX6_thoseWhoMiss.2.1 5 (.aload_n 0) 1 6 := ⟨by decide +kernel, rfl⟩
theorem dX6_thoseWhoMiss_6 : Dd mX6_thoseWhoMiss.2.1 6 (.getfield 74) 3 9 := ⟨by decide +kernel, rfl⟩
theorem dX6_thoseWhoMiss_9 : Dd mX6_thoseWhoMiss.2.1 9 (.if_icmp .ge 23) 3 12 := ⟨by decide +kernel, rfl⟩
theorem dX6_thoseWhoMiss_12 : Dd mX6_thoseWhoMiss.2.1 12 (.iload_n 2) 1 13 := ⟨by decide +kernel, rfl⟩
theorem dX6_thoseWhoMiss_13 : Dd mX6_thoseWhoMiss.2.1 13 (.iload_n 1) 1 14 := ⟨by decide +kernel, rfl⟩
theorem dX6_thoseWhoMiss_14 : Dd mX6_thoseWhoMiss.2.1 14 (.aload_n 0) 1 15 := ⟨by decide +kernel, rfl⟩
theorem dX6_thoseWhoMiss_15 : Dd mX6_thoseWhoMiss.2.1 15 (.iload_n 3) 1 16 := ⟨by decide +kernel, rfl⟩
theorem dX6_thoseWhoMiss_16 : Dd mX6_thoseWhoMiss.2.1 16 (.invokevirtual 77) 3 19 := ⟨by decide +kernel, rfl⟩
theorem dX6_thoseWhoMiss_19 : Dd mX6_thoseWhoMiss.2.1 19 (.ishr) 1 20 := ⟨by decide +kernel, rfl⟩
theorem dX6_thoseWhoMiss_20 : Dd mX6_thoseWhoMiss.2.1 20 (.iconst 1) 1 21 := ⟨by decide +kernel, rfl⟩
theorem dX6_thoseWhoMiss_21 : Dd mX6_thoseWhoMiss.2.1 21 (.iand) 1 22 := ⟨by decide +kernel, rfl⟩
theorem dX6_thoseWhoMiss_22 : Dd mX6_thoseWhoMiss.2.1 22 (.iload_n 3) 1 23 := ⟨by decide +kernel, rfl⟩
theorem dX6_thoseWhoMiss_23 : Dd mX6_thoseWhoMiss.2.1 23 (.ishl) 1 24 := ⟨by decide +kernel, rfl⟩
theorem dX6_thoseWhoMiss_24 : Dd mX6_thoseWhoMiss.2.1 24 (.ior) 1 25 := ⟨by decide +kernel, rfl⟩
theorem dX6_thoseWhoMiss_25 : Dd mX6_thoseWhoMiss.2.1 25 (.istore_n 2) 1 26 := ⟨by decide +kernel, rfl⟩
theorem dX6_thoseWhoMiss_26 : Dd mX6_thoseWhoMiss.2.1 26 (.iinc 3 1) 3 29 := ⟨by decide +kernel, rfl⟩
theorem dX6_thoseWhoMiss_29 : Dd mX6_thoseWhoMiss.2.1 29 (.goto (-25)) 3 32 := ⟨by decide +kernel, rfl⟩
theorem dX6_thoseWhoMiss_32 : Dd mX6_thoseWhoMiss.2.1 32 (.iload_n 2) 1 33 := ⟨by decide +kernel, rfl⟩
theorem dX6_thoseWhoMiss_33 : Dd mX6_thoseWhoMiss.2.1 33 (.ireturn) 1 34 := ⟨by decide +kernel, rfl⟩
theorem dX6_sumOfWeights_0 : Dd mX6_sumOfWeights.2.1 0 (.iconst 0) 1 1 := ⟨by decide +kernel, rfl⟩
theorem dX6_sumOfWeights_1 : Dd mX6_sumOfWeights.2.1 1 (.istore_n 2) 1 2 := ⟨by decide +kernel, rfl⟩
theorem dX6_sumOfWeights_2 : Dd mX6_sumOfWeights.2.1 2 (.iconst 0) 1 3 := ⟨by decide +kernel, rfl⟩
theorem dX6_sumOfWeights_3 : Dd mX6_sumOfWeights.2.1 3 (.istore_n 3) 1 4 := ⟨by decide +kernel, rfl⟩
theorem dX6_sumOfWeights_4 : Dd mX6_sumOfWeights.2.1 4 (.iload_n 3) 1 5 := ⟨by decide +kernel, rfl⟩
theorem dX6_sumOfWeights_5 : Dd mX6_sumOfWeights.2.1 5 (.aload_n 0) 1 6 := ⟨by decide +kernel, rfl⟩
theorem dX6_sumOfWeights_6 : Dd mX6_sumOfWeights.2.1 6 (.getfield 74) 3 9 := ⟨by decide +kernel, rfl⟩
theorem dX6_sumOfWeights_9 : Dd mX6_sumOfWeights.2.1 9 (.if_icmp .ge 23) 3 12 := ⟨by decide +kernel, rfl⟩
theorem dX6_sumOfWeights_12 : Dd mX6_sumOfWeights.2.1 12 (.iload_n 2) 1 13 := ⟨by decide +kernel, rfl⟩
theorem dX6_sumOfWeights_13 : Dd mX6_sumOfWeights.2.1 13 (.iload_n 1) 1 14 := ⟨by decide +kernel, rfl⟩
theorem dX6_sumOfWeights_14 : Dd mX6_sumOfWeights.2.1 14 (.iload_n 3) 1 15 := ⟨by decide +kernel, rfl⟩
theorem dX6_sumOfWeights_15 : Dd mX6_sumOfWeights.2.1 15 (.ishr) 1 16 := ⟨by decide +kernel, rfl⟩
theorem dX6_sumOfWeights_16 : Dd mX6_sumOfWeights.2.1 16 (.iconst 1) 1 17 := ⟨by decide +kernel, rfl⟩
theorem dX6_sumOfWeights_17 : Dd mX6_sumOfWeights.2.1 17 (.iand) 1 18 := ⟨by decide +kernel, rfl⟩
theorem dX6_sumOfWeights_18 : Dd mX6_sumOfWeights.2.1 18 (.aload_n 0) 1 19 := ⟨by decide +kernel, rfl⟩
theorem dX6_sumOfWeights_19 : Dd mX6_sumOfWeights.2.1 19 (.iload_n 3) 1 20 := ⟨by decide +kernel, rfl⟩
theorem dX6_sumOfWeights_20 : Dd mX6_sumOfWeights.2.1 20 (.invokevirtual 80) 3 23 := ⟨by decide +kernel, rfl⟩
theorem dX6_sumOfWeights_23 : Dd mX6_sumOfWeights.2.1 23 (.imul) 1 24 := ⟨by decide +kernel, rfl⟩
theorem dX6_sumOfWeights_24 : Dd mX6_sumOfWeights.2.1 24 (.iadd) 1 25 := ⟨by decide +kernel, rfl⟩
theorem dX6_sumOfWeights_25 : Dd mX6_sumOfWeights.2.1 25 (.istore_n 2) 1 26 := ⟨by decide +kernel, rfl⟩
theorem dX6_sumOfWeights_26 : Dd mX6_sumOfWeights.2.1 26 (.iinc 3 1) 3 29 := ⟨by decide +kernel, rfl⟩
theorem dX6_sumOfWeights_29 : Dd mX6_sumOfWeights.2.1 29 (.goto (-25)) 3 32 := ⟨by decide +kernel, rfl⟩
theorem dX6_sumOfWeights_32 : Dd mX6_sumOfWeights.2.1 32 (.iload_n 2) 1 33 := ⟨by decide +kernel, rfl⟩
theorem dX6_sumOfWeights_33 : Dd mX6_sumOfWeights.2.1 33 (.ireturn) 1 34 := ⟨by decide +kernel, rfl⟩
theorem dX6_isSet_0 : Dd mX6_isSet.2.1 0 (.iload_n 1) 1 1 := ⟨by decide +kernel, rfl⟩
theorem dX6_isSet_1 : Dd mX6_isSet.2.1 1 (.ifCond .lt 15) 3 4 := ⟨by decide +kernel, rfl⟩
theorem dX6_isSet_4 : Dd mX6_isSet.2.1 4 (.iload_n 1) 1 5 := ⟨by decide +kernel, rfl⟩
theorem dX6_isSet_5 : Dd mX6_isSet.2.1 5 (.aload_n 0) 1 6 := ⟨by decide +kernel, rfl⟩
theorem dX6_isSet_6 : Dd mX6_isSet.2.1 6 (.getfield 9) 3 9 := ⟨by decide +kernel, rfl⟩
theorem dX6_isSet_9 : Dd mX6_isSet.2.1 9 (.if_icmp .ge 7) 3 12 := ⟨by decide +kernel, rfl⟩
theorem dX6_isSet_12 : Dd mX6_isSet.2.1 12 (.iconst 1) 1 13 := ⟨by decide +kernel, rfl⟩
theorem dX6_isSet_13 : Dd mX6_isSet.2.1 13 (.goto 4) 3 16 := ⟨by decide +kernel, rfl⟩
theorem dX6_isSet_16 : Dd mX6_isSet.2.1 16 (.iconst 0) 1 17 := ⟨by decide +kernel, rfl⟩
theorem dX6_isSet_17 : Dd mX6_isSet.2.1 17 (.ireturn) 1 18 := ⟨by decide +kernel, rfl⟩
theorem dX6_strengthOf_0 : Dd mX6_strengthOf.2.1 0 (.iload_n 1) 1 1 := ⟨by decide +kernel, rfl⟩
theorem dX6_strengthOf_1 : Dd mX6_strengthOf.2.1 1 (.ifCond .lt 19) 3 4 := ⟨by decide +kernel, rfl⟩
theorem dX6_strengthOf_4 : Dd mX6_strengthOf.2.1 4 (.iload_n 1) 1 5 := ⟨by decide +kernel, rfl⟩
theorem dX6_strengthOf_5 : Dd mX6_strengthOf.2.1 5 (.sipush 1024) 3 8 := ⟨by decide +kernel, rfl⟩
theorem dX6_strengthOf_8 : Dd mX6_strengthOf.2.1 8 (.if_icmp .ge 12) 3 11 := ⟨by decide +kernel, rfl⟩
theorem dX6_strengthOf_11 : Dd mX6_strengthOf.2.1 11 (.aload_n 0) 1 12 := ⟨by decide +kernel, rfl⟩
theorem dX6_strengthOf_12 : Dd mX6_strengthOf.2.1 12 (.getfield 15) 3 15 := ⟨by decide +kernel, rfl⟩
theorem dX6_strengthOf_15 : Dd mX6_strengthOf.2.1 15 (.iload_n 1) 1 16 := ⟨by decide +kernel, rfl⟩
theorem dX6_strengthOf_16 : Dd mX6_strengthOf.2.1 16 (.iaload) 1 17 := ⟨by decide +kernel, rfl⟩
theorem dX6_strengthOf_17 : Dd mX6_strengthOf.2.1 17 (.goto 4) 3 20 := ⟨by decide +kernel, rfl⟩
theorem dX6_strengthOf_20 : Dd mX6_strengthOf.2.1 20 (.iconst 0) 1 21 := ⟨by decide +kernel, rfl⟩
theorem dX6_strengthOf_21 : Dd mX6_strengthOf.2.1 21 (.ireturn) 1 22 := ⟨by decide +kernel, rfl⟩
theorem dX6_followersOf_0 : Dd mX6_followersOf.2.1 0 (.iload_n 1) 1 1 := ⟨by decide +kernel, rfl⟩
theorem dX6_followersOf_1 : Dd mX6_followersOf.2.1 1 (.ifCond .lt 19) 3 4 := ⟨by decide +kernel, rfl⟩
theorem dX6_followersOf_4 : Dd mX6_followersOf.2.1 4 (.iload_n 1) 1 5 := ⟨by decide +kernel, rfl⟩
theorem dX6_followersOf_5 : Dd mX6_followersOf.2.1 5 (.sipush 1024) 3 8 := ⟨by decide +kernel, rfl⟩
theorem dX6_followersOf_8 : Dd mX6_followersOf.2.1 8 (.if_icmp .ge 12) 3 11 := ⟨by decide +kernel, rfl⟩
theorem dX6_followersOf_11 : Dd mX6_followersOf.2.1 11 (.aload_n 0) 1 12 := ⟨by decide +kernel, rfl⟩
theorem dX6_followersOf_12 : Dd mX6_followersOf.2.1 12 (.getfield 19) 3 15 := ⟨by decide +kernel, rfl⟩
theorem dX6_followersOf_15 : Dd mX6_followersOf.2.1 15 (.iload_n 1) 1 16 := ⟨by decide +kernel, rfl⟩
theorem dX6_followersOf_16 : Dd mX6_followersOf.2.1 16 (.iaload) 1 17 := ⟨by decide +kernel, rfl⟩
theorem dX6_followersOf_17 : Dd mX6_followersOf.2.1 17 (.goto 4) 3 20 := ⟨by decide +kernel, rfl⟩
theorem dX6_followersOf_20 : Dd mX6_followersOf.2.1 20 (.iconst 0) 1 21 := ⟨by decide +kernel, rfl⟩
theorem dX6_followersOf_21 : Dd mX6_followersOf.2.1 21 (.ireturn) 1 22 := ⟨by decide +kernel, rfl⟩
theorem dX6_missersOf_0 : Dd mX6_missersOf.2.1 0 (.iload_n 1) 1 1 := ⟨by decide +kernel, rfl⟩
theorem dX6_missersOf_1 : Dd mX6_missersOf.2.1 1 (.ifCond .lt 19) 3 4 := ⟨by decide +kernel, rfl⟩
theorem dX6_missersOf_4 : Dd mX6_missersOf.2.1 4 (.iload_n 1) 1 5 := ⟨by decide +kernel, rfl⟩
theorem dX6_missersOf_5 : Dd mX6_missersOf.2.1 5 (.sipush 1024) 3 8 := ⟨by decide +kernel, rfl⟩
theorem dX6_missersOf_8 : Dd mX6_missersOf.2.1 8 (.if_icmp .ge 12) 3 11 := ⟨by decide +kernel, rfl⟩
theorem dX6_missersOf_11 : Dd mX6_missersOf.2.1 11 (.aload_n 0) 1 12 := ⟨by decide +kernel, rfl⟩
theorem dX6_missersOf_12 : Dd mX6_missersOf.2.1 12 (.getfield 22) 3 15 := ⟨by decide +kernel, rfl⟩
theorem dX6_missersOf_15 : Dd mX6_missersOf.2.1 15 (.iload_n 1) 1 16 := ⟨by decide +kernel, rfl⟩
theorem dX6_missersOf_16 : Dd mX6_missersOf.2.1 16 (.iaload) 1 17 := ⟨by decide +kernel, rfl⟩
theorem dX6_missersOf_17 : Dd mX6_missersOf.2.1 17 (.goto 4) 3 20 := ⟨by decide +kernel, rfl⟩
theorem dX6_missersOf_20 : Dd mX6_missersOf.2.1 20 (.iconst 0) 1 21 := ⟨by decide +kernel, rfl⟩
theorem dX6_missersOf_21 : Dd mX6_missersOf.2.1 21 (.ireturn) 1 22 := ⟨by decide +kernel, rfl⟩
theorem dX6_lossOf_0 : Dd mX6_lossOf.2.1 0 (.iload_n 1) 1 1 := ⟨by decide +kernel, rfl⟩
theorem dX6_lossOf_1 : Dd mX6_lossOf.2.1 1 (.ifCond .lt 19) 3 4 := ⟨by decide +kernel, rfl⟩
theorem dX6_lossOf_4 : Dd mX6_lossOf.2.1 4 (.iload_n 1) 1 5 := ⟨by decide +kernel, rfl⟩
theorem dX6_lossOf_5 : Dd mX6_lossOf.2.1 5 (.sipush 1024) 3 8 := ⟨by decide +kernel, rfl⟩
theorem dX6_lossOf_8 : Dd mX6_lossOf.2.1 8 (.if_icmp .ge 12) 3 11 := ⟨by decide +kernel, rfl⟩
theorem dX6_lossOf_11 : Dd mX6_lossOf.2.1 11 (.aload_n 0) 1 12 := ⟨by decide +kernel, rfl⟩
theorem dX6_lossOf_12 : Dd mX6_lossOf.2.1 12 (.getfield 25) 3 15 := ⟨by decide +kernel, rfl⟩
theorem dX6_lossOf_15 : Dd mX6_lossOf.2.1 15 (.iload_n 1) 1 16 := ⟨by decide +kernel, rfl⟩
theorem dX6_lossOf_16 : Dd mX6_lossOf.2.1 16 (.iaload) 1 17 := ⟨by decide +kernel, rfl⟩
theorem dX6_lossOf_17 : Dd mX6_lossOf.2.1 17 (.goto 4) 3 20 := ⟨by decide +kernel, rfl⟩
theorem dX6_lossOf_20 : Dd mX6_lossOf.2.1 20 (.iconst 0) 1 21 := ⟨by decide +kernel, rfl⟩
theorem dX6_lossOf_21 : Dd mX6_lossOf.2.1 21 (.ireturn) 1 22 := ⟨by decide +kernel, rfl⟩
theorem dX6_costOf_0 : Dd mX6_costOf.2.1 0 (.aload_n 0) 1 1 := ⟨by decide +kernel, rfl⟩
theorem dX6_costOf_1 : Dd mX6_costOf.2.1 1 (.iload_n 2) 1 2 := ⟨by decide +kernel, rfl⟩
theorem dX6_costOf_2 : Dd mX6_costOf.2.1 2 (.iload_n 1) 1 3 := ⟨by decide +kernel, rfl⟩
theorem dX6_costOf_3 : Dd mX6_costOf.2.1 3 (.ior) 1 4 := ⟨by decide +kernel, rfl⟩
theorem dX6_costOf_4 : Dd mX6_costOf.2.1 4 (.invokevirtual 83) 3 7 := ⟨by decide +kernel, rfl⟩
theorem dX6_costOf_7 : Dd mX6_costOf.2.1 7 (.aload_n 0) 1 8 := ⟨by decide +kernel, rfl⟩
theorem dX6_costOf_8 : Dd mX6_costOf.2.1 8 (.iload_n 2) 1 9 := ⟨by decide +kernel, rfl⟩
theorem dX6_costOf_9 : Dd mX6_costOf.2.1 9 (.invokevirtual 83) 3 12 := ⟨by decide +kernel, rfl⟩
theorem dX6_costOf_12 : Dd mX6_costOf.2.1 12 (.isub) 1 13 := ⟨by decide +kernel, rfl⟩
theorem dX6_costOf_13 : Dd mX6_costOf.2.1 13 (.ireturn) 1 14 := ⟨by decide +kernel, rfl⟩
theorem dX6_thereBesides_0 : Dd mX6_thereBesides.2.1 0 (.aload_n 0) 1 1 := ⟨by decide +kernel, rfl⟩
theorem dX6_thereBesides_1 : Dd mX6_thereBesides.2.1 1 (.getfield 9) 3 4 := ⟨by decide +kernel, rfl⟩
theorem dX6_thereBesides_4 : Dd mX6_thereBesides.2.1 4 (.iconst 1) 1 5 := ⟨by decide +kernel, rfl⟩
theorem dX6_thereBesides_5 : Dd mX6_thereBesides.2.1 5 (.isub) 1 6 := ⟨by decide +kernel, rfl⟩
theorem dX6_thereBesides_6 : Dd mX6_thereBesides.2.1 6 (.aload_n 0) 1 7 := ⟨by decide +kernel, rfl⟩
theorem dX6_thereBesides_7 : Dd mX6_thereBesides.2.1 7 (.iload_n 1) 1 8 := ⟨by decide +kernel, rfl⟩
theorem dX6_thereBesides_8 : Dd mX6_thereBesides.2.1 8 (.invokevirtual 50) 3 11 := ⟨by decide +kernel, rfl⟩
theorem dX6_thereBesides_11 : Dd mX6_thereBesides.2.1 11 (.iconst (-1)) 1 12 := ⟨by decide +kernel, rfl⟩
theorem dX6_thereBesides_12 : Dd mX6_thereBesides.2.1 12 (.ixor) 1 13 := ⟨by decide +kernel, rfl⟩
theorem dX6_thereBesides_13 : Dd mX6_thereBesides.2.1 13 (.iand) 1 14 := ⟨by decide +kernel, rfl⟩
theorem dX6_thereBesides_14 : Dd mX6_thereBesides.2.1 14 (.ireturn) 1 15 := ⟨by decide +kernel, rfl⟩
theorem dX7_init_0 : Dd mX7_init.2.1 0 (.aload_n 0) 1 1 := ⟨by decide +kernel, rfl⟩
theorem dX7_init_1 : Dd mX7_init.2.1 1 (.invokespecial 3) 3 4 := ⟨by decide +kernel, rfl⟩
theorem dX7_init_4 : Dd mX7_init.2.1 4 (.aload_n 0) 1 5 := ⟨by decide +kernel, rfl⟩
theorem dX7_init_5 : Dd mX7_init.2.1 5 (.iconst 0) 1 6 := ⟨by decide +kernel, rfl⟩
theorem dX7_init_6 : Dd mX7_init.2.1 6 (.putfield 9) 3 9 := ⟨by decide +kernel, rfl⟩
theorem dX7_init_9 : Dd mX7_init.2.1 9 (.aload_n 0) 1 10 := ⟨by decide +kernel, rfl⟩
theorem dX7_init_10 : Dd mX7_init.2.1 10 (.iconst 0) 1 11 := ⟨by decide +kernel, rfl⟩
theorem dX7_init_11 : Dd mX7_init.2.1 11 (.putfield 15) 3 14 := ⟨by decide +kernel, rfl⟩
theorem dX7_init_14 : Dd mX7_init.2.1 14 (.aload_n 0) 1 15 := ⟨by decide +kernel, rfl⟩
theorem dX7_init_15 : Dd mX7_init.2.1 15 (.iconst 0) 1 16 := ⟨by decide +kernel, rfl⟩
theorem dX7_init_16 : Dd mX7_init.2.1 16 (.putfield 18) 3 19 := ⟨by decide +kernel, rfl⟩
theorem dX7_init_19 : Dd mX7_init.2.1 19 (.aload_n 0) 1 20 := ⟨by decide +kernel, rfl⟩
theorem dX7_init_20 : Dd mX7_init.2.1 20 (.iconst 0) 1 21 := ⟨by decide +kernel, rfl⟩
theorem dX7_init_21 : Dd mX7_init.2.1 21 (.putfield 21) 3 24 := ⟨by decide +kernel, rfl⟩
theorem dX7_init_24 : Dd mX7_init.2.1 24 (.aload_n 0) 1 25 := ⟨by decide +kernel, rfl⟩
theorem dX7_init_25 : Dd mX7_init.2.1 25 (.iconst 0) 1 26 := ⟨by decide +kernel, rfl⟩
theorem dX7_init_26 : Dd mX7_init.2.1 26 (.putfield 24) 3 29 := ⟨by decide +kernel, rfl⟩
theorem dX7_init_29 : Dd mX7_init.2.1 29 (.aload_n 0) 1 30 := ⟨by decide +kernel, rfl⟩
theorem dX7_init_30 : Dd mX7_init.2.1 30 (.iconst 0) 1 31 := ⟨by decide +kernel, rfl⟩
theorem dX7_init_31 : Dd mX7_init.2.1 31 (.putfield 27) 3 34 := ⟨by decide +kernel, rfl⟩
theorem dX7_init_34 : Dd mX7_init.2.1 34 (.aload_n 0) 1 35 := ⟨by decide +kernel, rfl⟩
theorem dX7_init_35 : Dd mX7_init.2.1 35 (.iconst 0) 1 36 := ⟨by decide +kernel, rfl⟩
theorem dX7_init_36 : Dd mX7_init.2.1 36 (.putfield 30) 3 39 := ⟨by decide +kernel, rfl⟩
theorem dX7_init_39 : Dd mX7_init.2.1 39 (.aload_n 0) 1 40 := ⟨by decide +kernel, rfl⟩
theorem dX7_init_40 : Dd mX7_init.2.1 40 (.iconst 0) 1 41 := ⟨by decide +kernel, rfl⟩
theorem dX7_init_41 : Dd mX7_init.2.1 41 (.putfield 33) 3 44 := ⟨by decide +kernel, rfl⟩
theorem dX7_init_44 : Dd mX7_init.2.1 44 (.aload_n 0) 1 45 := ⟨by decide +kernel, rfl⟩
theorem dX7_init_45 : Dd mX7_init.2.1 45 (.bipush 10) 2 47 := ⟨by decide +kernel, rfl⟩
theorem dX7_init_47 : Dd mX7_init.2.1 47 (.newarray .int) 2 49 := ⟨by decide +kernel, rfl⟩
theorem dX7_init_49 : Dd mX7_init.2.1 49 (.putfield 36) 3 52 := ⟨by decide +kernel, rfl⟩
theorem dX7_init_52 : Dd mX7_init.2.1 52 (.aload_n 0) 1 53 := ⟨by decide +kernel, rfl⟩
theorem dX7_init_53 : Dd mX7_init.2.1 53 (.bipush 10) 2 55 := ⟨by decide +kernel, rfl⟩
theorem dX7_init_55 : Dd mX7_init.2.1 55 (.newarray .int) 2 57 := ⟨by decide +kernel, rfl⟩
theorem dX7_init_57 : Dd mX7_init.2.1 57 (.putfield 40) 3 60 := ⟨by decide +kernel, rfl⟩
theorem dX7_init_60 : Dd mX7_init.2.1 60 (.aload_n 0) 1 61 := ⟨by decide +kernel, rfl⟩
theorem dX7_init_61 : Dd mX7_init.2.1 61 (.bipush 12) 2 63 := ⟨by decide +kernel, rfl⟩
theorem dX7_init_63 : Dd mX7_init.2.1 63 (.newarray .int) 2 65 := ⟨by decide +kernel, rfl⟩
theorem dX7_init_65 : Dd mX7_init.2.1 65 (.putfield 43) 3 68 := ⟨by decide +kernel, rfl⟩
theorem dX7_init_68 : Dd mX7_init.2.1 68 (.aload_n 0) 1 69 := ⟨by decide +kernel, rfl⟩
theorem dX7_init_69 : Dd mX7_init.2.1 69 (.bipush 12) 2 71 := ⟨by decide +kernel, rfl⟩
theorem dX7_init_71 : Dd mX7_init.2.1 71 (.newarray .int) 2 73 := ⟨by decide +kernel, rfl⟩
theorem dX7_init_73 : Dd mX7_init.2.1 73 (.putfield 46) 3 76 := ⟨by decide +kernel, rfl⟩
theorem dX7_init_76 : Dd mX7_init.2.1 76 (.aload_n 0) 1 77 := ⟨by decide +kernel, rfl⟩
theorem dX7_init_77 : Dd mX7_init.2.1 77 (.bipush 8) 2 79 := ⟨by decide +kernel, rfl⟩
theorem dX7_init_79 : Dd mX7_init.2.1 79 (.newarray .int) 2 81 := ⟨by decide +kernel, rfl⟩
theorem dX7_init_81 : Dd mX7_init.2.1 81 (.putfield 49) 3 84 := ⟨by decide +kernel, rfl⟩
theorem dX7_init_84 : Dd mX7_init.2.1 84 (.aload_n 0) 1 85 := ⟨by decide +kernel, rfl⟩
theorem dX7_init_85 : Dd mX7_init.2.1 85 (.bipush 8) 2 87 := ⟨by decide +kernel, rfl⟩
theorem dX7_init_87 : Dd mX7_init.2.1 87 (.newarray .int) 2 89 := ⟨by decide +kernel, rfl⟩
theorem dX7_init_89 : Dd mX7_init.2.1 89 (.putfield 52) 3 92 := ⟨by decide +kernel, rfl⟩
theorem dX7_init_92 : Dd mX7_init.2.1 92 (.aload_n 0) 1 93 := ⟨by decide +kernel, rfl⟩
theorem dX7_init_93 : Dd mX7_init.2.1 93 (.iconst 4) 1 94 := ⟨by decide +kernel, rfl⟩
theorem dX7_init_94 : Dd mX7_init.2.1 94 (.newarray .int) 2 96 := ⟨by decide +kernel, rfl⟩
theorem dX7_init_96 : Dd mX7_init.2.1 96 (.putfield 55) 3 99 := ⟨by decide +kernel, rfl⟩
theorem dX7_init_99 : Dd mX7_init.2.1 99 (.aload_n 0) 1 100 := ⟨by decide +kernel, rfl⟩
theorem dX7_init_100 : Dd mX7_init.2.1 100 (.bipush 6) 2 102 := ⟨by decide +kernel, rfl⟩
theorem dX7_init_102 : Dd mX7_init.2.1 102 (.newarray .int) 2 104 := ⟨by decide +kernel, rfl⟩
theorem dX7_init_104 : Dd mX7_init.2.1 104 (.putfield 58) 3 107 := ⟨by decide +kernel, rfl⟩
theorem dX7_init_107 : Dd mX7_init.2.1 107 (.aload_n 0) 1 108 := ⟨by decide +kernel, rfl⟩
theorem dX7_init_108 : Dd mX7_init.2.1 108 (.bipush 6) 2 110 := ⟨by decide +kernel, rfl⟩
theorem dX7_init_110 : Dd mX7_init.2.1 110 (.newarray .int) 2 112 := ⟨by decide +kernel, rfl⟩
theorem dX7_init_112 : Dd mX7_init.2.1 112 (.putfield 61) 3 115 := ⟨by decide +kernel, rfl⟩
theorem dX7_init_115 : Dd mX7_init.2.1 115 (.aload_n 0) 1 116 := ⟨by decide +kernel, rfl⟩
theorem dX7_init_116 : Dd mX7_init.2.1 116 (.bipush 6) 2 118 := ⟨by decide +kernel, rfl⟩
theorem dX7_init_118 : Dd mX7_init.2.1 118 (.newarray .int) 2 120 := ⟨by decide +kernel, rfl⟩
theorem dX7_init_120 : Dd mX7_init.2.1 120 (.putfield 64) 3 123 := ⟨by decide +kernel, rfl⟩
theorem dX7_init_123 : Dd mX7_init.2.1 123 (.aload_n 0) 1 124 := ⟨by decide +kernel, rfl⟩
theorem dX7_init_124 : Dd mX7_init.2.1 124 (.bipush 6) 2 126 := ⟨by decide +kernel, rfl⟩
theorem dX7_init_126 : Dd mX7_init.2.1 126 (.newarray .int) 2 128 := ⟨by decide +kernel, rfl⟩
theorem dX7_init_128 : Dd mX7_init.2.1 128 (.putfield 67) 3 131 := ⟨by decide +kernel, rfl⟩
theorem dX7_init_131 : Dd mX7_init.2.1 131 (.return_) 1 132 := ⟨by decide +kernel, rfl⟩
theorem dX7_clear_0 : Dd mX7_clear.2.1 0 (.aload_n 0) 1 1 := ⟨by decide +kernel, rfl⟩
theorem dX7_clear_1 : Dd mX7_clear.2.1 1 (.iconst 0) 1 2 := ⟨by decide +kernel, rfl⟩
theorem dX7_clear_2 : Dd mX7_clear.2.1 2 (.putfield 9) 3 5 := ⟨by decide +kernel, rfl⟩
theorem dX7_clear_5 : Dd mX7_clear.2.1 5 (.aload_n 0) 1 6 := ⟨by decide +kernel, rfl⟩
theorem dX7_clear_6 : Dd mX7_clear.2.1 6 (.iconst 0) 1 7 := ⟨by decide +kernel, rfl⟩
theorem dX7_clear_7 : Dd mX7_clear.2.1 7 (.putfield 15) 3 10 := ⟨by decide +kernel, rfl⟩
theorem dX7_clear_10 : Dd mX7_clear.2.1 10 (.aload_n 0) 1 11 := ⟨by decide +kernel, rfl⟩
theorem dX7_clear_11 : Dd mX7_clear.2.1 11 (.iconst 0) 1 12 := ⟨by decide +kernel, rfl⟩
theorem dX7_clear_12 : Dd mX7_clear.2.1 12 (.putfield 18) 3 15 := ⟨by decide +kernel, rfl⟩
theorem dX7_clear_15 : Dd mX7_clear.2.1 15 (.aload_n 0) 1 16 := ⟨by decide +kernel, rfl⟩
theorem dX7_clear_16 : Dd mX7_clear.2.1 16 (.iconst 0) 1 17 := ⟨by decide +kernel, rfl⟩
theorem dX7_clear_17 : Dd mX7_clear.2.1 17 (.putfield 21) 3 20 := ⟨by decide +kernel, rfl⟩
theorem dX7_clear_20 : Dd mX7_clear.2.1 20 (.aload_n 0) 1 21 := ⟨by decide +kernel, rfl⟩
theorem dX7_clear_21 : Dd mX7_clear.2.1 21 (.iconst 0) 1 22 := ⟨by decide +kernel, rfl⟩
theorem dX7_clear_22 : Dd mX7_clear.2.1 22 (.putfield 24) 3 25 := ⟨by decide +kernel, rfl⟩
theorem dX7_clear_25 : Dd mX7_clear.2.1 25 (.aload_n 0) 1 26 := ⟨by decide +kernel, rfl⟩
theorem dX7_clear_26 : Dd mX7_clear.2.1 26 (.iconst 0) 1 27 := ⟨by decide +kernel, rfl⟩
theorem dX7_clear_27 : Dd mX7_clear.2.1 27 (.putfield 27) 3 30 := ⟨by decide +kernel, rfl⟩
theorem dX7_clear_30 : Dd mX7_clear.2.1 30 (.aload_n 0) 1 31 := ⟨by decide +kernel, rfl⟩
theorem dX7_clear_31 : Dd mX7_clear.2.1 31 (.iconst 0) 1 32 := ⟨by decide +kernel, rfl⟩
theorem dX7_clear_32 : Dd mX7_clear.2.1 32 (.putfield 30) 3 35 := ⟨by decide +kernel, rfl⟩
theorem dX7_clear_35 : Dd mX7_clear.2.1 35 (.aload_n 0) 1 36 := ⟨by decide +kernel, rfl⟩
theorem dX7_clear_36 : Dd mX7_clear.2.1 36 (.iconst 0) 1 37 := ⟨by decide +kernel, rfl⟩
theorem dX7_clear_37 : Dd mX7_clear.2.1 37 (.putfield 33) 3 40 := ⟨by decide +kernel, rfl⟩
theorem dX7_clear_40 : Dd mX7_clear.2.1 40 (.return_) 1 41 := ⟨by decide +kernel, rfl⟩
theorem dX7_take_0 : Dd mX7_take.2.1 0 (.iload_n 1) 1 1 := ⟨by decide +kernel, rfl⟩
theorem dX7_take_1 : Dd mX7_take.2.1 1 (.lookupswitch 89 #[(98, 72), (112, 65), (116, 51), (120, 78), (121, 58)]) 51 52 := ⟨by decide +kernel, rfl⟩
theorem dX7_take_52 : Dd mX7_take.2.1 52 (.aload_n 0) 1 53 := ⟨by decide +kernel, rfl⟩
theorem dX7_take_53 : Dd mX7_take.2.1 53 (.iload_n 2) 1 54 := ⟨by decide +kernel, rfl⟩
theorem dX7_take_54 : Dd mX7_take.2.1 54 (.iload_n 3) 1 55 := ⟨by decide +kernel, rfl⟩
theorem dX7_take_55 : Dd mX7_take.2.1 55 (.invokevirtual 70) 3 58 := ⟨by decide +kernel, rfl⟩
theorem dX7_take_58 : Dd mX7_take.2.1 58 (.ireturn) 1 59 := ⟨by decide +kernel, rfl⟩
theorem dX7_take_59 : Dd mX7_take.2.1 59 (.aload_n 0) 1 60 := ⟨by decide +kernel, rfl⟩
theorem dX7_take_60 : Dd mX7_take.2.1 60 (.iload_n 2) 1 61 := ⟨by decide +kernel, rfl⟩
theorem dX7_take_61 : Dd mX7_take.2.1 61 (.iload_n 3) 1 62 := ⟨by decide +kernel, rfl⟩
theorem dX7_take_62 : Dd mX7_take.2.1 62 (.invokevirtual 74) 3 65 := ⟨by decide +kernel, rfl⟩
theorem dX7_take_65 : Dd mX7_take.2.1 65 (.ireturn) 1 66 := ⟨by decide +kernel, rfl⟩
theorem dX7_take_66 : Dd mX7_take.2.1 66 (.aload_n 0) 1 67 := ⟨by decide +kernel, rfl⟩
theorem dX7_take_67 : Dd mX7_take.2.1 67 (.iload_n 2) 1 68 := ⟨by decide +kernel, rfl⟩
theorem dX7_take_68 : Dd mX7_take.2.1 68 (.iload_n 3) 1 69 := ⟨by decide +kernel, rfl⟩
theorem dX7_take_69 : Dd mX7_take.2.1 69 (.invokevirtual 77) 3 72 := ⟨by decide +kernel, rfl⟩
theorem dX7_take_72 : Dd mX7_take.2.1 72 (.ireturn) 1 73 := ⟨by decide +kernel, rfl⟩
theorem dX7_take_73 : Dd mX7_take.2.1 73 (.aload_n 0) 1 74 := ⟨by decide +kernel, rfl⟩
theorem dX7_take_74 : Dd mX7_take.2.1 74 (.iload_n 2) 1 75 := ⟨by decide +kernel, rfl⟩
theorem dX7_take_75 : Dd mX7_take.2.1 75 (.invokevirtual 80) 3 78 := ⟨by decide +kernel, rfl⟩
theorem dX7_take_78 : Dd mX7_take.2.1 78 (.ireturn) 1 79 := ⟨by decide +kernel, rfl⟩
theorem dX7_take_79 : Dd mX7_take.2.1 79 (.aload_n 0) 1 80 := ⟨by decide +kernel, rfl⟩
theorem dX7_take_80 : Dd mX7_take.2.1 80 (.iload_n 2) 1 81 := ⟨by decide +kernel, rfl⟩
theorem dX7_take_81 : Dd mX7_take.2.1 81 (.iload_n 3) 1 82 := ⟨by decide +kernel, rfl⟩
theorem dX7_take_82 : Dd mX7_take.2.1 82 (.iload 4) 2 84 := ⟨by decide +kernel, rfl⟩
theorem dX7_take_84 : Dd mX7_take.2.1 84 (.iload 5) 2 86 := ⟨by decide +kernel, rfl⟩
theorem dX7_take_86 : Dd mX7_take.2.1 86 (.invokevirtual 84) 3 89 := ⟨by decide +kernel, rfl⟩
theorem dX7_take_89 : Dd mX7_take.2.1 89 (.ireturn) 1 90 := ⟨by decide +kernel, rfl⟩
theorem dX7_take_90 : Dd mX7_take.2.1 90 (.iconst 0) 1 91 := ⟨by decide +kernel, rfl⟩
theorem dX7_take_91 : Dd mX7_take.2.1 91 (.ireturn) 1 92 := ⟨by decide +kernel, rfl⟩
theorem dX7_takeThing_0 : Dd mX7_takeThing.2.1 0 (.aload_n 0) 1 1 := ⟨by decide +kernel, rfl⟩
theorem dX7_takeThing_1 : Dd mX7_takeThing.2.1 1 (.getfield 9) 3 4 := ⟨by decide +kernel, rfl⟩
theorem dX7_takeThing_4 : Dd mX7_takeThing.2.1 4 (.ifCond .lt 23) 3 7 := ⟨by decide +kernel, rfl⟩
theorem dX7_takeThing_7 : Dd mX7_takeThing.2.1 7 (.aload_n 0) 1 8 := ⟨by decide +kernel, rfl⟩
theorem dX7_takeThing_8 : Dd mX7_takeThing.2.1 8 (.getfield 9) 3 11 := ⟨by decide +kernel, rfl⟩
theorem dX7_takeThing_11 : Dd mX7_takeThing.2.1 11 (.bipush 10) 2 13 := ⟨by decide +kernel, rfl⟩
theorem dX7_takeThing_13 : Dd mX7_takeThing.2.1 13 (.if_icmp .ge 14) 3 16 := ⟨by decide +kernel, rfl⟩
theorem dX7_takeThing_16 : Dd mX7_takeThing.2.1 16 (.iload_n 1) 1 17 := ⟨by decide +kernel, rfl⟩
theorem dX7_takeThing_17 : Dd mX7_takeThing.2.1 17 (.bipush 20) 2 19 := ⟨by decide +kernel, rfl⟩
theorem dX7_takeThing_19 : Dd mX7_takeThing.2.1 19 (.if_icmp .gt 8) 3 22 := ⟨by decide +kernel, rfl⟩
theorem dX7_takeThing_22 : Dd mX7_takeThing.2.1 22 (.iload_n 2) 1 23 := ⟨by decide +kernel, rfl⟩
theorem dX7_takeThing_23 : Dd mX7_takeThing.2.1 23 (.iconst 3) 1 24 := ⟨by decide +kernel, rfl⟩
theorem dX7_takeThing_24 : Dd mX7_takeThing.2.1 24 (.if_icmp .le 5) 3 27 := ⟨by decide +kernel, rfl⟩
theorem dX7_takeThing_27 : Dd mX7_takeThing.2.1 27 (.iconst 0) 1 28 := ⟨by decide +kernel, rfl⟩
theorem dX7_takeThing_28 : Dd mX7_takeThing.2.1 28 (.ireturn) 1 29 := ⟨by decide +kernel, rfl⟩
theorem dX7_takeThing_29 : Dd mX7_takeThing.2.1 29 (.aload_n 0) 1 30 := ⟨by decide +kernel, rfl⟩
theorem dX7_takeThing_30 : Dd mX7_takeThing.2.1 30 (.getfield 36) 3 33 := ⟨by decide +kernel, rfl⟩
theorem dX7_takeThing_33 : Dd mX7_takeThing.2.1 33 (.aload_n 0) 1 34 := ⟨by decide +kernel, rfl⟩
theorem dX7_takeThing_34 : Dd mX7_takeThing.2.1 34 (.getfield 9) 3 37 := ⟨by decide +kernel, rfl⟩
theorem dX7_takeThing_37 : Dd mX7_takeThing.2.1 37 (.iload_n 1) 1 38 := ⟨by decide +kernel, rfl⟩
theorem dX7_takeThing_38 : Dd mX7_takeThing.2.1 38 (.iastore) 1 39 := ⟨by decide +kernel, rfl⟩
theorem dX7_takeThing_39 : Dd mX7_takeThing.2.1 39 (.aload_n 0) 1 40 := ⟨by decide +kernel, rfl⟩
theorem dX7_takeThing_40 : Dd mX7_takeThing.2.1 40 (.getfield 40) 3 43 := ⟨by decide +kernel, rfl⟩
theorem dX7_takeThing_43 : Dd mX7_takeThing.2.1 43 (.aload_n 0) 1 44 := ⟨by decide +kernel, rfl⟩
theorem dX7_takeThing_44 : Dd mX7_takeThing.2.1 44 (.getfield 9) 3 47 := ⟨by decide +kernel, rfl⟩
theorem dX7_takeThing_47 : Dd mX7_takeThing.2.1 47 (.iload_n 2) 1 48 := ⟨by decide +kernel, rfl⟩
theorem dX7_takeThing_48 : Dd mX7_takeThing.2.1 48 (.iastore) 1 49 := ⟨by decide +kernel, rfl⟩
theorem dX7_takeThing_49 : Dd mX7_takeThing.2.1 49 (.iconst 1) 1 50 := ⟨by decide +kernel, rfl⟩
theorem dX7_takeThing_50 : Dd mX7_takeThing.2.1 50 (.aload_n 0) 1 51 := ⟨by decide +kernel, rfl⟩
theorem dX7_takeThing_51 : Dd mX7_takeThing.2.1 51 (.getfield 9) 3 54 := ⟨by decide +kernel, rfl⟩
theorem dX7_takeThing_54 : Dd mX7_takeThing.2.1 54 (.ishl) 1 55 := ⟨by decide +kernel, rfl⟩
theorem dX7_takeThing_55 : Dd mX7_takeThing.2.1 55 (.istore_n 3) 1 56 := ⟨by decide +kernel, rfl⟩
theorem dX7_takeThing_56 : Dd mX7_takeThing.2.1 56 (.aload_n 0) 1 57 := ⟨by decide +kernel, rfl⟩
theorem dX7_takeThing_57 : Dd mX7_takeThing.2.1 57 (.dup) 1 58 := ⟨by decide +kernel, rfl⟩
theorem dX7_takeThing_58 : Dd mX7_takeThing.2.1 58 (.getfield 27) 3 61 := ⟨by decide +kernel, rfl⟩
theorem dX7_takeThing_61 : Dd mX7_takeThing.2.1 61 (.iload_n 2) 1 62 := ⟨by decide +kernel, rfl⟩
theorem dX7_takeThing_62 : Dd mX7_takeThing.2.1 62 (.iconst 1) 1 63 := ⟨by decide +kernel, rfl⟩
theorem dX7_takeThing_63 : Dd mX7_takeThing.2.1 63 (.if_icmp .ne 7) 3 66 := ⟨by decide +kernel, rfl⟩
theorem dX7_takeThing_66 : Dd mX7_takeThing.2.1 66 (.iload_n 3) 1 67 := ⟨by decide +kernel, rfl⟩
theorem dX7_takeThing_67 : Dd mX7_takeThing.2.1 67 (.goto 4) 3 70 := ⟨by decide +kernel, rfl⟩
theorem dX7_takeThing_70 : Dd mX7_takeThing.2.1 70 (.iconst 0) 1 71 := ⟨by decide +kernel, rfl⟩
theorem dX7_takeThing_71 : Dd mX7_takeThing.2.1 71 (.ior) 1 72 := ⟨by decide +kernel, rfl⟩
theorem dX7_takeThing_72 : Dd mX7_takeThing.2.1 72 (.putfield 27) 3 75 := ⟨by decide +kernel, rfl⟩
theorem dX7_takeThing_75 : Dd mX7_takeThing.2.1 75 (.aload_n 0) 1 76 := ⟨by decide +kernel, rfl⟩
theorem dX7_takeThing_76 : Dd mX7_takeThing.2.1 76 (.dup) 1 77 := ⟨by decide +kernel, rfl⟩
theorem dX7_takeThing_77 : Dd mX7_takeThing.2.1 77 (.getfield 30) 3 80 := ⟨by decide +kernel, rfl⟩
theorem dX7_takeThing_80 : Dd mX7_takeThing.2.1 80 (.iload_n 2) 1 81 := ⟨by decide +kernel, rfl⟩
theorem dX7_takeThing_81 : Dd mX7_takeThing.2.1 81 (.iconst 2) 1 82 := ⟨by decide +kernel, rfl⟩
theorem dX7_takeThing_82 : Dd mX7_takeThing.2.1 82 (.if_icmp .ne 7) 3 85 := ⟨by decide +kernel, rfl⟩
theorem dX7_takeThing_85 : Dd mX7_takeThing.2.1 85 (.iload_n 3) 1 86 := ⟨by decide +kernel, rfl⟩
theorem dX7_takeThing_86 : Dd mX7_takeThing.2.1 86 (.goto 4) 3 89 := ⟨by decide +kernel, rfl⟩
theorem dX7_takeThing_89 : Dd mX7_takeThing.2.1 89 (.iconst 0) 1 90 := ⟨by decide +kernel, rfl⟩
theorem dX7_takeThing_90 : Dd mX7_takeThing.2.1 90 (.ior) 1 91 := ⟨by decide +kernel, rfl⟩
theorem dX7_takeThing_91 : Dd mX7_takeThing.2.1 91 (.putfield 30) 3 94 := ⟨by decide +kernel, rfl⟩
theorem dX7_takeThing_94 : Dd mX7_takeThing.2.1 94 (.aload_n 0) 1 95 := ⟨by decide +kernel, rfl⟩
theorem dX7_takeThing_95 : Dd mX7_takeThing.2.1 95 (.dup) 1 96 := ⟨by decide +kernel, rfl⟩
theorem dX7_takeThing_96 : Dd mX7_takeThing.2.1 96 (.getfield 33) 3 99 := ⟨by decide +kernel, rfl⟩
theorem dX7_takeThing_99 : Dd mX7_takeThing.2.1 99 (.iload_n 2) 1 100 := ⟨by decide +kernel, rfl⟩
theorem dX7_takeThing_100 : Dd mX7_takeThing.2.1 100 (.iconst 3) 1 101 := ⟨by decide +kernel, rfl⟩
theorem dX7_takeThing_101 : Dd mX7_takeThing.2.1 101 (.if_icmp .ne 7) 3 104 := ⟨by decide +kernel, rfl⟩
theorem dX7_takeThing_104 : Dd mX7_takeThing.2.1 104 (.iload_n 3) 1 105 := ⟨by decide +kernel, rfl⟩
theorem dX7_takeThing_105 : Dd mX7_takeThing.2.1 105 (.goto 4) 3 108 := ⟨by decide +kernel, rfl⟩
theorem dX7_takeThing_108 : Dd mX7_takeThing.2.1 108 (.iconst 0) 1 109 := ⟨by decide +kernel, rfl⟩
theorem dX7_takeThing_109 : Dd mX7_takeThing.2.1 109 (.ior) 1 110 := ⟨by decide +kernel, rfl⟩
theorem dX7_takeThing_110 : Dd mX7_takeThing.2.1 110 (.putfield 33) 3 113 := ⟨by decide +kernel, rfl⟩
theorem dX7_takeThing_113 : Dd mX7_takeThing.2.1 113 (.aload_n 0) 1 114 := ⟨by decide +kernel, rfl⟩
theorem dX7_takeThing_114 : Dd mX7_takeThing.2.1 114 (.dup) 1 115 := ⟨by decide +kernel, rfl⟩
theorem dX7_takeThing_115 : Dd mX7_takeThing.2.1 115 (.getfield 9) 3 118 := ⟨by decide +kernel, rfl⟩
theorem dX7_takeThing_118 : Dd mX7_takeThing.2.1 118 (.iconst 1) 1 119 := ⟨by decide +kernel, rfl⟩
theorem dX7_takeThing_119 : Dd mX7_takeThing.2.1 119 (.iadd) 1 120 := ⟨by decide +kernel, rfl⟩
theorem dX7_takeThing_120 : Dd mX7_takeThing.2.1 120 (.putfield 9) 3 123 := ⟨by decide +kernel, rfl⟩
theorem dX7_takeThing_123 : Dd mX7_takeThing.2.1 123 (.iconst 1) 1 124 := ⟨by decide +kernel, rfl⟩
theorem dX7_takeThing_124 : Dd mX7_takeThing.2.1 124 (.ireturn) 1 125 := ⟨by decide +kernel, rfl⟩
theorem dX7_takeNeed_0 : Dd mX7_takeNeed.2.1 0 (.aload_n 0) 1 1 := ⟨by decide +kernel, rfl⟩
theorem dX7_takeNeed_1 : Dd mX7_takeNeed.2.1 1 (.getfield 15) 3 4 := ⟨by decide +kernel, rfl⟩
theorem dX7_takeNeed_4 : Dd mX7_takeNeed.2.1 4 (.ifCond .lt 21) 3 7 := ⟨by decide +kernel, rfl⟩
theorem dX7_takeNeed_7 : Dd mX7_takeNeed.2.1 7 (.aload_n 0) 1 8 := ⟨by decide +kernel, rfl⟩
theorem dX7_takeNeed_8 : Dd mX7_takeNeed.2.1 8 (.getfield 15) 3 11 := ⟨by decide +kernel, rfl⟩
theorem dX7_takeNeed_11 : Dd mX7_takeNeed.2.1 11 (.bipush 12) 2 13 := ⟨by decide +kernel, rfl⟩
theorem dX7_takeNeed_13 : Dd mX7_takeNeed.2.1 13 (.if_icmp .ge 12) 3 16 := ⟨by decide +kernel, rfl⟩
theorem dX7_takeNeed_16 : Dd mX7_takeNeed.2.1 16 (.aload_n 0) 1 17 := ⟨by decide +kernel, rfl⟩
theorem dX7_takeNeed_17 : Dd mX7_takeNeed.2.1 17 (.iload_n 1) 1 18 := ⟨by decide +kernel, rfl⟩
theorem dX7_takeNeed_18 : Dd mX7_takeNeed.2.1 18 (.iload_n 2) 1 19 := ⟨by decide +kernel, rfl⟩
theorem dX7_takeNeed_19 : Dd mX7_takeNeed.2.1 19 (.invokevirtual 88) 3 22 := ⟨by decide +kernel, rfl⟩
theorem dX7_takeNeed_22 : Dd mX7_takeNeed.2.1 22 (.ifCond .ne 5) 3 25 := ⟨by decide +kernel, rfl⟩
theorem dX7_takeNeed_25 : Dd mX7_takeNeed.2.1 25 (.iconst 0) 1 26 := ⟨by decide +kernel, rfl⟩
theorem dX7_takeNeed_26 : Dd mX7_takeNeed.2.1 26 (.ireturn) 1 27 := ⟨by decide +kernel, rfl⟩
theorem dX7_takeNeed_27 : Dd mX7_takeNeed.2.1 27 (.aload_n 0) 1 28 := ⟨by decide +kernel, rfl⟩
theorem dX7_takeNeed_28 : Dd mX7_takeNeed.2.1 28 (.getfield 43) 3 31 := ⟨by decide +kernel, rfl⟩
theorem dX7_takeNeed_31 : Dd mX7_takeNeed.2.1 31 (.aload_n 0) 1 32 := ⟨by decide +kernel, rfl⟩
theorem dX7_takeNeed_32 : Dd mX7_takeNeed.2.1 32 (.getfield 15) 3 35 := ⟨by decide +kernel, rfl⟩
theorem dX7_takeNeed_35 : Dd mX7_takeNeed.2.1 35 (.iload_n 1) 1 36 := ⟨by decide +kernel, rfl⟩
theorem dX7_takeNeed_36 : Dd mX7_takeNeed.2.1 36 (.iastore) 1 37 := ⟨by decide +kernel, rfl⟩
theorem dX7_takeNeed_37 : Dd mX7_takeNeed.2.1 37 (.aload_n 0) 1 38 := ⟨by decide +kernel, rfl⟩
theorem dX7_takeNeed_38 : Dd mX7_takeNeed.2.1 38 (.getfield 46) 3 41 := ⟨by decide +kernel, rfl⟩
theorem dX7_takeNeed_41 : Dd mX7_takeNeed.2.1 41 (.aload_n 0) 1 42 := ⟨by decide +kernel, rfl⟩
theorem dX7_takeNeed_42 : Dd mX7_takeNeed.2.1 42 (.getfield 15) 3 45 := ⟨by decide +kernel, rfl⟩
theorem dX7_takeNeed_45 : Dd mX7_takeNeed.2.1 45 (.iload_n 2) 1 46 := ⟨by decide +kernel, rfl⟩
theorem dX7_takeNeed_46 : Dd mX7_takeNeed.2.1 46 (.iastore) 1 47 := ⟨by decide +kernel, rfl⟩
theorem dX7_takeNeed_47 : Dd mX7_takeNeed.2.1 47 (.aload_n 0) 1 48 := ⟨by decide +kernel, rfl⟩
theorem dX7_takeNeed_48 : Dd mX7_takeNeed.2.1 48 (.dup) 1 49 := ⟨by decide +kernel, rfl⟩
theorem dX7_takeNeed_49 : Dd mX7_takeNeed.2.1 49 (.getfield 15) 3 52 := ⟨by decide +kernel, rfl⟩
theorem dX7_takeNeed_52 : Dd mX7_takeNeed.2.1 52 (.iconst 1) 1 53 := ⟨by decide +kernel, rfl⟩
theorem dX7_takeNeed_53 : Dd mX7_takeNeed.2.1 53 (.iadd) 1 54 := ⟨by decide +kernel, rfl⟩
theorem dX7_takeNeed_54 : Dd mX7_takeNeed.2.1 54 (.putfield 15) 3 57 := ⟨by decide +kernel, rfl⟩
theorem dX7_takeNeed_57 : Dd mX7_takeNeed.2.1 57 (.iconst 1) 1 58 := ⟨by decide +kernel, rfl⟩
theorem dX7_takeNeed_58 : Dd mX7_takeNeed.2.1 58 (.ireturn) 1 59 := ⟨by decide +kernel, rfl⟩
theorem dX7_takePerson_0 : Dd mX7_takePerson.2.1 0 (.aload_n 0) 1 1 := ⟨by decide +kernel, rfl⟩
theorem dX7_takePerson_1 : Dd mX7_takePerson.2.1 1 (.getfield 18) 3 4 := ⟨by decide +kernel, rfl⟩
theorem dX7_takePerson_4 : Dd mX7_takePerson.2.1 4 (.ifCond .lt 16) 3 7 := ⟨by decide +kernel, rfl⟩
theorem dX7_takePerson_7 : Dd mX7_takePerson.2.1 7 (.aload_n 0) 1 8 := ⟨by decide +kernel, rfl⟩
theorem dX7_takePerson_8 : Dd mX7_takePerson.2.1 8 (.getfield 18) 3 11 := ⟨by decide +kernel, rfl⟩
theorem dX7_takePerson_11 : Dd mX7_takePerson.2.1 11 (.bipush 8) 2 13 := ⟨by decide +kernel, rfl⟩
theorem dX7_takePerson_13 : Dd mX7_takePerson.2.1 13 (.if_icmp .ge 7) 3 16 := ⟨by decide +kernel, rfl⟩
theorem dX7_takePerson_16 : Dd mX7_takePerson.2.1 16 (.iconst 1) 1 17 := ⟨by decide +kernel, rfl⟩
theorem dX7_takePerson_17 : Dd mX7_takePerson.2.1 17 (.goto 4) 3 20 := ⟨by decide +kernel, rfl⟩
theorem dX7_takePerson_20 : Dd mX7_takePerson.2.1 20 (.iconst 0) 1 21 := ⟨by decide +kernel, rfl⟩
theorem dX7_takePerson_21 : Dd mX7_takePerson.2.1 21 (.istore_n 3) 1 22 := ⟨by decide +kernel, rfl⟩
theorem dX7_takePerson_22 : Dd mX7_takePerson.2.1 22 (.iload_n 3) 1 23 := ⟨by decide +kernel, rfl⟩
theorem dX7_takePerson_23 : Dd mX7_takePerson.2.1 23 (.ifCond .eq 18) 3 26 := ⟨by decide +kernel, rfl⟩
theorem dX7_takePerson_26 : Dd mX7_takePerson.2.1 26 (.iload_n 1) 1 27 := ⟨by decide +kernel, rfl⟩
theorem dX7_takePerson_27 : Dd mX7_takePerson.2.1 27 (.aload_n 0) 1 28 := ⟨by decide +kernel, rfl⟩
theorem dX7_takePerson_28 : Dd mX7_takePerson.2.1 28 (.getfield 9) 3 31 := ⟨by decide +kernel, rfl⟩
theorem dX7_takePerson_31 : Dd mX7_takePerson.2.1 31 (.if_icmp .ge 10) 3 34 := ⟨by decide +kernel, rfl⟩
theorem dX7_takePerson_34 : Dd mX7_takePerson.2.1 34 (.iload_n 2) 1 35 := ⟨by decide +kernel, rfl⟩
theorem dX7_takePerson_35 : Dd mX7_takePerson.2.1 35 (.invokestatic 91) 3 38 := ⟨by decide +kernel, rfl⟩
theorem dX7_takePerson_38 : Dd mX7_takePerson.2.1 38 (.ifCond .ne 5) 3 41 := ⟨by decide +kernel, rfl⟩
theorem dX7_takePerson_41 : Dd mX7_takePerson.2.1 41 (.iconst 0) 1 42 := ⟨by decide +kernel, rfl⟩
theorem dX7_takePerson_42 : Dd mX7_takePerson.2.1 42 (.ireturn) 1 43 := ⟨by decide +kernel, rfl⟩
theorem dX7_takePerson_43 : Dd mX7_takePerson.2.1 43 (.aload_n 0) 1 44 := ⟨by decide +kernel, rfl⟩
theorem dX7_takePerson_44 : Dd mX7_takePerson.2.1 44 (.getfield 49) 3 47 := ⟨by decide +kernel, rfl⟩
theorem dX7_takePerson_47 : Dd mX7_takePerson.2.1 47 (.aload_n 0) 1 48 := ⟨by decide +kernel, rfl⟩
theorem dX7_takePerson_48 : Dd mX7_takePerson.2.1 48 (.getfield 18) 3 51 := ⟨by decide +kernel, rfl⟩
theorem dX7_takePerson_51 : Dd mX7_takePerson.2.1 51 (.iload_n 1) 1 52 := ⟨by decide +kernel, rfl⟩
theorem dX7_takePerson_52 : Dd mX7_takePerson.2.1 52 (.iastore) 1 53 := ⟨by decide +kernel, rfl⟩
theorem dX7_takePerson_53 : Dd mX7_takePerson.2.1 53 (.aload_n 0) 1 54 := ⟨by decide +kernel, rfl⟩
theorem dX7_takePerson_54 : Dd mX7_takePerson.2.1 54 (.getfield 52) 3 57 := ⟨by decide +kernel, rfl⟩
theorem dX7_takePerson_57 : Dd mX7_takePerson.2.1 57 (.aload_n 0) 1 58 := ⟨by decide +kernel, rfl⟩
theorem dX7_takePerson_58 : Dd mX7_takePerson.2.1 58 (.getfield 18) 3 61 := ⟨by decide +kernel, rfl⟩
theorem dX7_takePerson_61 : Dd mX7_takePerson.2.1 61 (.iload_n 2) 1 62 := ⟨by decide +kernel, rfl⟩
theorem dX7_takePerson_62 : Dd mX7_takePerson.2.1 62 (.iastore) 1 63 := ⟨by decide +kernel, rfl⟩
theorem dX7_takePerson_63 : Dd mX7_takePerson.2.1 63 (.aload_n 0) 1 64 := ⟨by decide +kernel, rfl⟩
theorem dX7_takePerson_64 : Dd mX7_takePerson.2.1 64 (.dup) 1 65 := ⟨by decide +kernel, rfl⟩
theorem dX7_takePerson_65 : Dd mX7_takePerson.2.1 65 (.getfield 18) 3 68 := ⟨by decide +kernel, rfl⟩
theorem dX7_takePerson_68 : Dd mX7_takePerson.2.1 68 (.iconst 1) 1 69 := ⟨by decide +kernel, rfl⟩
theorem dX7_takePerson_69 : Dd mX7_takePerson.2.1 69 (.iadd) 1 70 := ⟨by decide +kernel, rfl⟩
theorem dX7_takePerson_70 : Dd mX7_takePerson.2.1 70 (.putfield 18) 3 73 := ⟨by decide +kernel, rfl⟩
theorem dX7_takePerson_73 : Dd mX7_takePerson.2.1 73 (.iconst 1) 1 74 := ⟨by decide +kernel, rfl⟩
theorem dX7_takePerson_74 : Dd mX7_takePerson.2.1 74 (.ireturn) 1 75 := ⟨by decide +kernel, rfl⟩
theorem dX7_takeBeast_0 : Dd mX7_takeBeast.2.1 0 (.aload_n 0) 1 1 := ⟨by decide +kernel, rfl⟩
theorem dX7_takeBeast_1 : Dd mX7_takeBeast.2.1 1 (.getfield 21) 3 4 := ⟨by decide +kernel, rfl⟩
theorem dX7_takeBeast_4 : Dd mX7_takeBeast.2.1 4 (.ifCond .lt 22) 3 7 := ⟨by decide +kernel, rfl⟩
theorem dX7_takeBeast_7 : Dd mX7_takeBeast.2.1 7 (.aload_n 0) 1 8 := ⟨by decide +kernel, rfl⟩
theorem dX7_takeBeast_8 : Dd mX7_takeBeast.2.1 8 (.getfield 21) 3 11 := ⟨by decide +kernel, rfl⟩
theorem dX7_takeBeast_11 : Dd mX7_takeBeast.2.1 11 (.iconst 4) 1 12 := ⟨by decide +kernel, rfl⟩
theorem dX7_takeBeast_12 : Dd mX7_takeBeast.2.1 12 (.if_icmp .ge 14) 3 15 := ⟨by decide +kernel, rfl⟩
theorem dX7_takeBeast_15 : Dd mX7_takeBeast.2.1 15 (.iload_n 1) 1 16 := ⟨by decide +kernel, rfl⟩
theorem dX7_takeBeast_16 : Dd mX7_takeBeast.2.1 16 (.iconst 1) 1 17 := ⟨by decide +kernel, rfl⟩
theorem dX7_takeBeast_17 : Dd mX7_takeBeast.2.1 17 (.if_icmp .lt 9) 3 20 := ⟨by decide +kernel, rfl⟩
theorem dX7_takeBeast_20 : Dd mX7_takeBeast.2.1 20 (.iload_n 1) 1 21 := ⟨by decide +kernel, rfl⟩
theorem dX7_takeBeast_21 : Dd mX7_takeBeast.2.1 21 (.bipush 90) 2 23 := ⟨by decide +kernel, rfl⟩
theorem dX7_takeBeast_23 : Dd mX7_takeBeast.2.1 23 (.if_icmp .le 5) 3 26 := ⟨by decide +kernel, rfl⟩
theorem dX7_takeBeast_26 : Dd mX7_takeBeast.2.1 26 (.iconst 0) 1 27 := ⟨by decide +kernel, rfl⟩
theorem dX7_takeBeast_27 : Dd mX7_takeBeast.2.1 27 (.ireturn) 1 28 := ⟨by decide +kernel, rfl⟩
theorem dX7_takeBeast_28 : Dd mX7_takeBeast.2.1 28 (.aload_n 0) 1 29 := ⟨by decide +kernel, rfl⟩
theorem dX7_takeBeast_29 : Dd mX7_takeBeast.2.1 29 (.getfield 55) 3 32 := ⟨by decide +kernel, rfl⟩
theorem dX7_takeBeast_32 : Dd mX7_takeBeast.2.1 32 (.aload_n 0) 1 33 := ⟨by decide +kernel, rfl⟩
theorem dX7_takeBeast_33 : Dd mX7_takeBeast.2.1 33 (.getfield 21) 3 36 := ⟨by decide +kernel, rfl⟩
theorem dX7_takeBeast_36 : Dd mX7_takeBeast.2.1 36 (.iload_n 1) 1 37 := ⟨by decide +kernel, rfl⟩
theorem dX7_takeBeast_37 : Dd mX7_takeBeast.2.1 37 (.iastore) 1 38 := ⟨by decide +kernel, rfl⟩
theorem dX7_takeBeast_38 : Dd mX7_takeBeast.2.1 38 (.aload_n 0) 1 39 := ⟨by decide +kernel, rfl⟩
theorem dX7_takeBeast_39 : Dd mX7_takeBeast.2.1 39 (.dup) 1 40 := ⟨by decide +kernel, rfl⟩
theorem dX7_takeBeast_40 : Dd mX7_takeBeast.2.1 40 (.getfield 21) 3 43 := ⟨by decide +kernel, rfl⟩
theorem dX7_takeBeast_43 : Dd mX7_takeBeast.2.1 43 (.iconst 1) 1 44 := ⟨by decide +kernel, rfl⟩
theorem dX7_takeBeast_44 : Dd mX7_takeBeast.2.1 44 (.iadd) 1 45 := ⟨by decide +kernel, rfl⟩
theorem dX7_takeBeast_45 : Dd mX7_takeBeast.2.1 45 (.putfield 21) 3 48 := ⟨by decide +kernel, rfl⟩
theorem dX7_takeBeast_48 : Dd mX7_takeBeast.2.1 48 (.iconst 1) 1 49 := ⟨by decide +kernel, rfl⟩
theorem dX7_takeBeast_49 : Dd mX7_takeBeast.2.1 49 (.ireturn) 1 50 := ⟨by decide +kernel, rfl⟩
theorem dX7_takeExchange_0 : Dd mX7_takeExchange.2.1 0 (.aload_n 0) 1 1 := ⟨by decide +kernel, rfl⟩
theorem dX7_takeExchange_1 : Dd mX7_takeExchange.2.1 1 (.getfield 24) 3 4 := ⟨by decide +kernel, rfl⟩
theorem dX7_takeExchange_4 : Dd mX7_takeExchange.2.1 4 (.ifCond .lt 16) 3 7 := ⟨by decide +kernel, rfl⟩
theorem dX7_takeExchange_7 : Dd mX7_takeExchange.2.1 7 (.aload_n 0) 1 8 := ⟨by decide +kernel, rfl⟩
theorem dX7_takeExchange_8 : Dd mX7_takeExchange.2.1 8 (.getfield 24) 3 11 := ⟨by decide +kernel, rfl⟩
theorem dX7_takeExchange_11 : Dd mX7_takeExchange.2.1 11 (.bipush 6) 2 13 := ⟨by decide +kernel, rfl⟩
theorem dX7_takeExchange_13 : Dd mX7_takeExchange.2.1 13 (.if_icmp .ge 7) 3 16 := ⟨by decide +kernel, rfl⟩
theorem dX7_takeExchange_16 : Dd mX7_takeExchange.2.1 16 (.iconst 1) 1 17 := ⟨by decide +kernel, rfl⟩
theorem dX7_takeExchange_17 : Dd mX7_takeExchange.2.1 17 (.goto 4) 3 20 := ⟨by decide +kernel, rfl⟩
theorem dX7_takeExchange_20 : Dd mX7_takeExchange.2.1 20 (.iconst 0) 1 21 := ⟨by decide +kernel, rfl⟩
theorem dX7_takeExchange_21 : Dd mX7_takeExchange.2.1 21 (.istore 5) 2 23 := ⟨by decide +kernel, rfl⟩
theorem dX7_takeExchange_23 : Dd mX7_takeExchange.2.1 23 (.iload_n 3) 1 24 := ⟨by decide +kernel, rfl⟩
theorem dX7_takeExchange_24 : Dd mX7_takeExchange.2.1 24 (.invokestatic 91) 3 27 := ⟨by decide +kernel, rfl⟩
theorem dX7_takeExchange_27 : Dd mX7_takeExchange.2.1 27 (.ifCond .eq 15) 3 30 := ⟨by decide +kernel, rfl⟩
theorem dX7_takeExchange_30 : Dd mX7_takeExchange.2.1 30 (.iload 4) 2 32 := ⟨by decide +kernel, rfl⟩
theorem dX7_takeExchange_32 : Dd mX7_takeExchange.2.1 32 (.invokestatic 91) 3 35 := ⟨by decide +kernel, rfl⟩
theorem dX7_takeExchange_35 : Dd mX7_takeExchange.2.1 35 (.ifCond .eq 7) 3 38 := ⟨by decide +kernel, rfl⟩
theorem dX7_takeExchange_38 : Dd mX7_takeExchange.2.1 38 (.iconst 1) 1 39 := ⟨by decide +kernel, rfl⟩
theorem dX7_takeExchange_39 : Dd mX7_takeExchange.2.1 39 (.goto 4) 3 42 := ⟨by decide +kernel, rfl⟩
theorem dX7_takeExchange_42 : Dd mX7_takeExchange.2.1 42 (.iconst 0) 1 43 := ⟨by decide +kernel, rfl⟩
theorem dX7_takeExchange_43 : Dd mX7_takeExchange.2.1 43 (.istore 6) 2 45 := ⟨by decide +kernel, rfl⟩
theorem dX7_takeExchange_45 : Dd mX7_takeExchange.2.1 45 (.iload 5) 2 47 := ⟨by decide +kernel, rfl⟩
theorem dX7_takeExchange_47 : Dd mX7_takeExchange.2.1 47 (.ifCond .eq 17) 3 50 := ⟨by decide +kernel, rfl⟩
theorem dX7_takeExchange_50 : Dd mX7_takeExchange.2.1 50 (.iload 6) 2 52 := ⟨by decide +kernel, rfl⟩
theorem dX7_takeExchange_52 : Dd mX7_takeExchange.2.1 52 (.ifCond .eq 12) 3 55 := ⟨by decide +kernel, rfl⟩
theorem dX7_takeExchange_55 : Dd mX7_takeExchange.2.1 55 (.aload_n 0) 1 56 := ⟨by decide +kernel, rfl⟩
theorem dX7_takeExchange_56 : Dd mX7_takeExchange.2.1 56 (.iload_n 1) 1 57 := ⟨by decide +kernel, rfl⟩
theorem dX7_takeExchange_57 : Dd mX7_takeExchange.2.1 57 (.iload_n 2) 1 58 := ⟨by decide +kernel, rfl⟩
theorem dX7_takeExchange_58 : Dd mX7_takeExchange.2.1 58 (.invokevirtual 88) 3 61 := ⟨by decide +kernel, rfl⟩
theorem dX7_takeExchange_61 : Dd mX7_takeExchange.2.1 61 (.ifCond .ne 5) 3 64 := ⟨by decide +kernel, rfl⟩
theorem dX7_takeExchange_64 : Dd mX7_takeExchange.2.1 64 (.iconst 0) 1 65 := ⟨by decide +kernel, rfl⟩
theorem dX7_takeExchange_65 : Dd mX7_takeExchange.2.1 65 (.ireturn) 1 66 := ⟨by decide +kernel, rfl⟩
theorem dX7_takeExchange_66 : Dd mX7_takeExchange.2.1 66 (.aload_n 0) 1 67 := ⟨by decide +kernel, rfl⟩
theorem dX7_takeExchange_67 : Dd mX7_takeExchange.2.1 67 (.getfield 58) 3 70 := ⟨by decide +kernel, rfl⟩
theorem dX7_takeExchange_70 : Dd mX7_takeExchange.2.1 70 (.aload_n 0) 1 71 := ⟨by decide +kernel, rfl⟩
theorem dX7_takeExchange_71 : Dd mX7_takeExchange.2.1 71 (.getfield 24) 3 74 := ⟨by decide +kernel, rfl⟩
theorem dX7_takeExchange_74 : Dd mX7_takeExchange.2.1 74 (.iload_n 1) 1 75 := ⟨by decide +kernel, rfl⟩
theorem dX7_takeExchange_75 : Dd mX7_takeExchange.2.1 75 (.iastore) 1 76 := ⟨by decide +kernel, rfl⟩
theorem dX7_takeExchange_76 : Dd mX7_takeExchange.2.1 76 (.aload_n 0) 1 77 := ⟨by decide +kernel, rfl⟩
theorem dX7_takeExchange_77 : Dd mX7_takeExchange.2.1 77 (.getfield 61) 3 80 := ⟨by decide +kernel, rfl⟩
theorem dX7_takeExchange_80 : Dd mX7_takeExchange.2.1 80 (.aload_n 0) 1 81 := ⟨by decide +kernel, rfl⟩
theorem dX7_takeExchange_81 : Dd mX7_takeExchange.2.1 81 (.getfield 24) 3 84 := ⟨by decide +kernel, rfl⟩
theorem dX7_takeExchange_84 : Dd mX7_takeExchange.2.1 84 (.iload_n 2) 1 85 := ⟨by decide +kernel, rfl⟩
theorem dX7_takeExchange_85 : Dd mX7_takeExchange.2.1 85 (.iastore) 1 86 := ⟨by decide +kernel, rfl⟩
theorem dX7_takeExchange_86 : Dd mX7_takeExchange.2.1 86 (.aload_n 0) 1 87 := ⟨by decide +kernel, rfl⟩
theorem dX7_takeExchange_87 : Dd mX7_takeExchange.2.1 87 (.getfield 64) 3 90 := ⟨by decide +kernel, rfl⟩
theorem dX7_takeExchange_90 : Dd mX7_takeExchange.2.1 90 (.aload_n 0) 1 91 := ⟨by decide +kernel, rfl⟩
theorem dX7_takeExchange_91 : Dd mX7_takeExchange.2.1 91 (.getfield 24) 3 94 := ⟨by decide +kernel, rfl⟩
theorem dX7_takeExchange_94 : Dd mX7_takeExchange.2.1 94 (.iload_n 3) 1 95 := ⟨by decide +kernel, rfl⟩
theorem dX7_takeExchange_95 : Dd mX7_takeExchange.2.1 95 (.iastore) 1 96 := ⟨by decide +kernel, rfl⟩
theorem dX7_takeExchange_96 : Dd mX7_takeExchange.2.1 96 (.aload_n 0) 1 97 := ⟨by decide +kernel, rfl⟩
theorem dX7_takeExchange_97 : Dd mX7_takeExchange.2.1 97 (.getfield 67) 3 100 := ⟨by decide +kernel, rfl⟩
theorem dX7_takeExchange_100 : Dd mX7_takeExchange.2.1 100 (.aload_n 0) 1 101 := ⟨by decide +kernel, rfl⟩
theorem dX7_takeExchange_101 : Dd mX7_takeExchange.2.1 101 (.getfield 24) 3 104 := ⟨by decide +kernel, rfl⟩
theorem dX7_takeExchange_104 : Dd mX7_takeExchange.2.1 104 (.iload 4) 2 106 := ⟨by decide +kernel, rfl⟩
theorem dX7_takeExchange_106 : Dd mX7_takeExchange.2.1 106 (.iastore) 1 107 := ⟨by decide +kernel, rfl⟩
theorem dX7_takeExchange_107 : Dd mX7_takeExchange.2.1 107 (.aload_n 0) 1 108 := ⟨by decide +kernel, rfl⟩
theorem dX7_takeExchange_108 : Dd mX7_takeExchange.2.1 108 (.dup) 1 109 := ⟨by decide +kernel, rfl⟩
theorem dX7_takeExchange_109 : Dd mX7_takeExchange.2.1 109 (.getfield 24) 3 112 := ⟨by decide +kernel, rfl⟩
theorem dX7_takeExchange_112 : Dd mX7_takeExchange.2.1 112 (.iconst 1) 1 113 := ⟨by decide +kernel, rfl⟩
theorem dX7_takeExchange_113 : Dd mX7_takeExchange.2.1 113 (.iadd) 1 114 := ⟨by decide +kernel, rfl⟩
theorem dX7_takeExchange_114 : Dd mX7_takeExchange.2.1 114 (.putfield 24) 3 117 := ⟨by decide +kernel, rfl⟩
theorem dX7_takeExchange_117 : Dd mX7_takeExchange.2.1 117 (.iconst 1) 1 118 := ⟨by decide +kernel, rfl⟩
theorem dX7_takeExchange_118 : Dd mX7_takeExchange.2.1 118 (.ireturn) 1 119 := ⟨by decide +kernel, rfl⟩
theorem dX7_areTwoThings_0 : Dd mX7_areTwoThings.2.1 0 (.iload_n 1) 1 1 := ⟨by decide +kernel, rfl⟩
theorem dX7_areTwoThings_1 : Dd mX7_areTwoThings.2.1 1 (.aload_n 0) 1 2 := ⟨by decide +kernel, rfl⟩
theorem dX7_areTwoThings_2 : Dd mX7_areTwoThings.2.1 2 (.getfield 9) 3 5 := ⟨by decide +kernel, rfl⟩
theorem dX7_areTwoThings_5 : Dd mX7_areTwoThings.2.1 5 (.if_icmp .ge 20) 3 8 := ⟨by decide +kernel, rfl⟩
theorem dX7_areTwoThings_8 : Dd mX7_areTwoThings.2.1 8 (.iload_n 2) 1 9 := ⟨by decide +kernel, rfl⟩
theorem dX7_areTwoThings_9 : Dd mX7_areTwoThings.2.1 9 (.aload_n 0) 1 10 := ⟨by decide +kernel, rfl⟩
theorem dX7_areTwoThings_10 : Dd mX7_areTwoThings.2.1 10 (.getfield 9) 3 13 := ⟨by decide +kernel, rfl⟩
theorem dX7_areTwoThings_13 : Dd mX7_areTwoThings.2.1 13 (.if_icmp .ge 12) 3 16 := ⟨by decide +kernel, rfl⟩
theorem dX7_areTwoThings_16 : Dd mX7_areTwoThings.2.1 16 (.iload_n 1) 1 17 := ⟨by decide +kernel, rfl⟩
theorem dX7_areTwoThings_17 : Dd mX7_areTwoThings.2.1 17 (.iload_n 2) 1 18 := ⟨by decide +kernel, rfl⟩
theorem dX7_areTwoThings_18 : Dd mX7_areTwoThings.2.1 18 (.if_icmp .eq 7) 3 21 := ⟨by decide +kernel, rfl⟩
theorem dX7_areTwoThings_21 : Dd mX7_areTwoThings.2.1 21 (.iconst 1) 1 22 := ⟨by decide +kernel, rfl⟩
theorem dX7_areTwoThings_22 : Dd mX7_areTwoThings.2.1 22 (.goto 4) 3 25 := ⟨by decide +kernel, rfl⟩
theorem dX7_areTwoThings_25 : Dd mX7_areTwoThings.2.1 25 (.iconst 0) 1 26 := ⟨by decide +kernel, rfl⟩
theorem dX7_areTwoThings_26 : Dd mX7_areTwoThings.2.1 26 (.ireturn) 1 27 := ⟨by decide +kernel, rfl⟩
theorem dX7_isOneFigure_0 : Dd mX7_isOneFigure.2.1 0 (.iload_n 0) 1 1 := ⟨by decide +kernel, rfl⟩
theorem dX7_isOneFigure_1 : Dd mX7_isOneFigure.2.1 1 (.iconst 1) 1 2 := ⟨by decide +kernel, rfl⟩
theorem dX7_isOneFigure_2 : Dd mX7_isOneFigure.2.1 2 (.if_icmp .lt 13) 3 5 := ⟨by decide +kernel, rfl⟩
theorem dX7_isOneFigure_5 : Dd mX7_isOneFigure.2.1 5 (.iload_n 0) 1 6 := ⟨by decide +kernel, rfl⟩
theorem dX7_isOneFigure_6 : Dd mX7_isOneFigure.2.1 6 (.bipush 9) 2 8 := ⟨by decide +kernel, rfl⟩
theorem dX7_isOneFigure_8 : Dd mX7_isOneFigure.2.1 8 (.if_icmp .gt 7) 3 11 := ⟨by decide +kernel, rfl⟩
theorem dX7_isOneFigure_11 : Dd mX7_isOneFigure.2.1 11 (.iconst 1) 1 12 := ⟨by decide +kernel, rfl⟩
theorem dX7_isOneFigure_12 : Dd mX7_isOneFigure.2.1 12 (.goto 4) 3 15 := ⟨by decide +kernel, rfl⟩
theorem dX7_isOneFigure_15 : Dd mX7_isOneFigure.2.1 15 (.iconst 0) 1 16 := ⟨by decide +kernel, rfl⟩
theorem dX7_isOneFigure_16 : Dd mX7_isOneFigure.2.1 16 (.ireturn) 1 17 := ⟨by decide +kernel, rfl⟩
theorem dX7_entry_0 : Dd mX7_entry.2.1 0 (.iload_n 1) 1 1 := ⟨by decide +kernel, rfl⟩
theorem dX7_entry_1 : Dd mX7_entry.2.1 1 (.ifCond .lt 15) 3 4 := ⟨by decide +kernel, rfl⟩
theorem dX7_entry_4 : Dd mX7_entry.2.1 4 (.iload_n 1) 1 5 := ⟨by decide +kernel, rfl⟩
theorem dX7_entry_5 : Dd mX7_entry.2.1 5 (.aload_n 0) 1 6 := ⟨by decide +kernel, rfl⟩
theorem dX7_entry_6 : Dd mX7_entry.2.1 6 (.arraylength) 1 7 := ⟨by decide +kernel, rfl⟩
theorem dX7_entry_7 : Dd mX7_entry.2.1 7 (.if_icmp .ge 9) 3 10 := ⟨by decide +kernel, rfl⟩
theorem dX7_entry_10 : Dd mX7_entry.2.1 10 (.aload_n 0) 1 11 := ⟨by decide +kernel, rfl⟩
theorem dX7_entry_11 : Dd mX7_entry.2.1 11 (.iload_n 1) 1 12 := ⟨by decide +kernel, rfl⟩
theorem dX7_entry_12 : Dd mX7_entry.2.1 12 (.iaload) 1 13 := ⟨by decide +kernel, rfl⟩
theorem dX7_entry_13 : Dd mX7_entry.2.1 13 (.goto 4) 3 16 := ⟨by decide +kernel, rfl⟩
theorem dX7_entry_16 : Dd mX7_entry.2.1 16 (.iconst 0) 1 17 := ⟨by decide +kernel, rfl⟩
theorem dX7_entry_17 : Dd mX7_entry.2.1 17 (.ireturn) 1 18 := ⟨by decide +kernel, rfl⟩
theorem dX7_strengthOfThing_0 : Dd mX7_strengthOfThing.2.1 0 (.aload_n 0) 1 1 := ⟨by decide +kernel, rfl⟩
theorem dX7_strengthOfThing_1 : Dd mX7_strengthOfThing.2.1 1 (.getfield 36) 3 4 := ⟨by decide +kernel, rfl⟩
theorem dX7_strengthOfThing_4 : Dd mX7_strengthOfThing.2.1 4 (.iload_n 1) 1 5 := ⟨by decide +kernel, rfl⟩
theorem dX7_strengthOfThing_5 : Dd mX7_strengthOfThing.2.1 5 (.invokestatic 94) 3 8 := ⟨by decide +kernel, rfl⟩
theorem dX7_strengthOfThing_8 : Dd mX7_strengthOfThing.2.1 8 (.ireturn) 1 9 := ⟨by decide +kernel, rfl⟩
theorem dX7_kindOfThing_0 : Dd mX7_kindOfThing.2.1 0 (.aload_n 0) 1 1 := ⟨by decide +kernel, rfl⟩
theorem dX7_kindOfThing_1 : Dd mX7_kindOfThing.2.1 1 (.getfield 40) 3 4 := ⟨by decide +kernel, rfl⟩
theorem dX7_kindOfThing_4 : Dd mX7_kindOfThing.2.1 4 (.iload_n 1) 1 5 := ⟨by decide +kernel, rfl⟩
theorem dX7_kindOfThing_5 : Dd mX7_kindOfThing.2.1 5 (.invokestatic 94) 3 8 := ⟨by decide +kernel, rfl⟩
theorem dX7_kindOfThing_8 : Dd mX7_kindOfThing.2.1 8 (.ireturn) 1 9 := ⟨by decide +kernel, rfl⟩
theorem dX7_neederOf_0 : Dd mX7_neederOf.2.1 0 (.aload_n 0) 1 1 := ⟨by decide +kernel, rfl⟩
theorem dX7_neederOf_1 : Dd mX7_neederOf.2.1 1 (.getfield 43) 3 4 := ⟨by decide +kernel, rfl⟩
theorem dX7_neederOf_4 : Dd mX7_neederOf.2.1 4 (.iload_n 1) 1 5 := ⟨by decide +kernel, rfl⟩
theorem dX7_neederOf_5 : Dd mX7_neederOf.2.1 5 (.invokestatic 94) 3 8 := ⟨by decide +kernel, rfl⟩
theorem dX7_neederOf_8 : Dd mX7_neederOf.2.1 8 (.ireturn) 1 9 := ⟨by decide +kernel, rfl⟩
theorem dX7_neededOf_0 : Dd mX7_neededOf.2.1 0 (.aload_n 0) 1 1 := ⟨by decide +kernel, rfl⟩
theorem dX7_neededOf_1 : Dd mX7_neededOf.2.1 1 (.getfield 46) 3 4 := ⟨by decide +kernel, rfl⟩
theorem dX7_neededOf_4 : Dd mX7_neededOf.2.1 4 (.iload_n 1) 1 5 := ⟨by decide +kernel, rfl⟩
theorem dX7_neededOf_5 : Dd mX7_neededOf.2.1 5 (.invokestatic 94) 3 8 := ⟨by decide +kernel, rfl⟩
theorem dX7_neededOf_8 : Dd mX7_neededOf.2.1 8 (.ireturn) 1 9 := ⟨by decide +kernel, rfl⟩
theorem dX7_thingOfPerson_0 : Dd mX7_thingOfPerson.2.1 0 (.aload_n 0) 1 1 := ⟨by decide +kernel, rfl⟩
theorem dX7_thingOfPerson_1 : Dd mX7_thingOfPerson.2.1 1 (.getfield 49) 3 4 := ⟨by decide +kernel, rfl⟩
theorem dX7_thingOfPerson_4 : Dd mX7_thingOfPerson.2.1 4 (.iload_n 1) 1 5 := ⟨by decide +kernel, rfl⟩
theorem dX7_thingOfPerson_5 : Dd mX7_thingOfPerson.2.1 5 (.invokestatic 94) 3 8 := ⟨by decide +kernel, rfl⟩
theorem dX7_thingOfPerson_8 : Dd mX7_thingOfPerson.2.1 8 (.ireturn) 1 9 := ⟨by decide +kernel, rfl⟩
theorem dX7_weightOfPerson_0 : Dd mX7_weightOfPerson.2.1 0 (.aload_n 0) 1 1 := ⟨by decide +kernel, rfl⟩
theorem dX7_weightOfPerson_1 : Dd mX7_weightOfPerson.2.1 1 (.getfield 52) 3 4 := ⟨by decide +kernel, rfl⟩
theorem dX7_weightOfPerson_4 : Dd mX7_weightOfPerson.2.1 4 (.iload_n 1) 1 5 := ⟨by decide +kernel, rfl⟩
theorem dX7_weightOfPerson_5 : Dd mX7_weightOfPerson.2.1 5 (.invokestatic 94) 3 8 := ⟨by decide +kernel, rfl⟩
theorem dX7_weightOfPerson_8 : Dd mX7_weightOfPerson.2.1 8 (.ireturn) 1 9 := ⟨by decide +kernel, rfl⟩
theorem dX7_pullOfBeast_0 : Dd mX7_pullOfBeast.2.1 0 (.aload_n 0) 1 1 := ⟨by decide +kernel, rfl⟩
theorem dX7_pullOfBeast_1 : Dd mX7_pullOfBeast.2.1 1 (.getfield 55) 3 4 := ⟨by decide +kernel, rfl⟩
theorem dX7_pullOfBeast_4 : Dd mX7_pullOfBeast.2.1 4 (.iload_n 1) 1 5 := ⟨by decide +kernel, rfl⟩
theorem dX7_pullOfBeast_5 : Dd mX7_pullOfBeast.2.1 5 (.invokestatic 94) 3 8 := ⟨by decide +kernel, rfl⟩
theorem dX7_pullOfBeast_8 : Dd mX7_pullOfBeast.2.1 8 (.ireturn) 1 9 := ⟨by decide +kernel, rfl⟩
theorem dX7_takenBy_0 : Dd mX7_takenBy.2.1 0 (.aload_n 0) 1 1 := ⟨by decide +kernel, rfl⟩
theorem dX7_takenBy_1 : Dd mX7_takenBy.2.1 1 (.getfield 58) 3 4 := ⟨by decide +kernel, rfl⟩
theorem dX7_takenBy_4 : Dd mX7_takenBy.2.1 4 (.iload_n 1) 1 5 := ⟨by decide +kernel, rfl⟩
theorem dX7_takenBy_5 : Dd mX7_takenBy.2.1 5 (.invokestatic 94) 3 8 := ⟨by decide +kernel, rfl⟩
theorem dX7_takenBy_8 : Dd mX7_takenBy.2.1 8 (.ireturn) 1 9 := ⟨by decide +kernel, rfl⟩
theorem dX7_givenBy_0 : Dd mX7_givenBy.2.1 0 (.aload_n 0) 1 1 := ⟨by decide +kernel, rfl⟩
theorem dX7_givenBy_1 : Dd mX7_givenBy.2.1 1 (.getfield 61) 3 4 := ⟨by decide +kernel, rfl⟩
theorem dX7_givenBy_4 : Dd mX7_givenBy.2.1 4 (.iload_n 1) 1 5 := ⟨by decide +kernel, rfl⟩
theorem dX7_givenBy_5 : Dd mX7_givenBy.2.1 5 (.invokestatic 94) 3 8 := ⟨by decide +kernel, rfl⟩
theorem dX7_givenBy_8 : Dd mX7_givenBy.2.1 8 (.ireturn) 1 9 := ⟨by decide +kernel, rfl⟩
theorem dX7_takenMuchBy_0 : Dd mX7_takenMuchBy.2.1 0 (.aload_n 0) 1 1 := ⟨by decide +kernel, rfl⟩
theorem dX7_takenMuchBy_1 : Dd mX7_takenMuchBy.2.1 1 (.getfield 64) 3 4 := ⟨by decide +kernel, rfl⟩
theorem dX7_takenMuchBy_4 : Dd mX7_takenMuchBy.2.1 4 (.iload_n 1) 1 5 := ⟨by decide +kernel, rfl⟩
theorem dX7_takenMuchBy_5 : Dd mX7_takenMuchBy.2.1 5 (.invokestatic 94) 3 8 := ⟨by decide +kernel, rfl⟩
theorem dX7_takenMuchBy_8 : Dd mX7_takenMuchBy.2.1 8 (.ireturn) 1 9 := ⟨by decide +kernel, rfl⟩
theorem dX7_givenMuchBy_0 : Dd mX7_givenMuchBy.2.1 0 (.aload_n 0) 1 1 := ⟨by decide +kernel, rfl⟩
theorem dX7_givenMuchBy_1 : Dd mX7_givenMuchBy.2.1 1 (.getfield 67) 3 4 := ⟨by decide +kernel, rfl⟩
theorem dX7_givenMuchBy_4 : Dd mX7_givenMuchBy.2.1 4 (.iload_n 1) 1 5 := ⟨by decide +kernel, rfl⟩
theorem dX7_givenMuchBy_5 : Dd mX7_givenMuchBy.2.1 5 (.invokestatic 94) 3 8 := ⟨by decide +kernel, rfl⟩
theorem dX7_givenMuchBy_8 : Dd mX7_givenMuchBy.2.1 8 (.ireturn) 1 9 := ⟨by decide +kernel, rfl⟩
theorem dJ6_bitCount_0f7a4_0 : Dd mJ6_bitCount_0f7a4.2.1 0 (.iload_n 0) 1 1 := ⟨by decide +kernel, rfl⟩
theorem dJ6_bitCount_0f7a4_1 : Dd mJ6_bitCount_0f7a4.2.1 1 (.iload_n 0) 1 2 := ⟨by decide +kernel, rfl⟩
theorem dJ6_bitCount_0f7a4_2 : Dd mJ6_bitCount_0f7a4.2.1 2 (.iconst 1) 1 3 := ⟨by decide +kernel, rfl⟩
theorem dJ6_bitCount_0f7a4_3 : Dd mJ6_bitCount_0f7a4.2.1 3 (.iushr) 1 4 := ⟨by decide +kernel, rfl⟩
theorem dJ6_bitCount_0f7a4_4 : Dd mJ6_bitCount_0f7a4.2.1 4 (.ldc_w 265) 3 7 := ⟨by decide +kernel, rfl⟩
theorem dJ6_bitCount_0f7a4_7 : Dd mJ6_bitCount_0f7a4.2.1 7 (.iand) 1 8 := ⟨by decide +kernel, rfl⟩
theorem dJ6_bitCount_0f7a4_8 : Dd mJ6_bitCount_0f7a4.2.1 8 (.isub) 1 9 := ⟨by decide +kernel, rfl⟩
theorem dJ6_bitCount_0f7a4_9 : Dd mJ6_bitCount_0f7a4.2.1 9 (.istore_n 0) 1 10 := ⟨by decide +kernel, rfl⟩
theorem dJ6_bitCount_0f7a4_10 : Dd mJ6_bitCount_0f7a4.2.1 10 (.iload_n 0) 1 11 := ⟨by decide +kernel, rfl⟩
theorem dJ6_bitCount_0f7a4_11 : Dd mJ6_bitCount_0f7a4.2.1 11 (.ldc_w 266) 3 14 := ⟨by decide +kernel, rfl⟩
theorem dJ6_bitCount_0f7a4_14 : Dd mJ6_bitCount_0f7a4.2.1 14 (.iand) 1 15 := ⟨by decide +kernel, rfl⟩
theorem dJ6_bitCount_0f7a4_15 : Dd mJ6_bitCount_0f7a4.2.1 15 (.iload_n 0) 1 16 := ⟨by decide +kernel, rfl⟩
theorem dJ6_bitCount_0f7a4_16 : Dd mJ6_bitCount_0f7a4.2.1 16 (.iconst 2) 1 17 := ⟨by decide +kernel, rfl⟩
theorem dJ6_bitCount_0f7a4_17 : Dd mJ6_bitCount_0f7a4.2.1 17 (.iushr) 1 18 := ⟨by decide +kernel, rfl⟩
theorem dJ6_bitCount_0f7a4_18 : Dd mJ6_bitCount_0f7a4.2.1 18 (.ldc_w 266) 3 21 := ⟨by decide +kernel, rfl⟩
theorem dJ6_bitCount_0f7a4_21 : Dd mJ6_bitCount_0f7a4.2.1 21 (.iand) 1 22 := ⟨by decide +kernel, rfl⟩
theorem dJ6_bitCount_0f7a4_22 : Dd mJ6_bitCount_0f7a4.2.1 22 (.iadd) 1 23 := ⟨by decide +kernel, rfl⟩
theorem dJ6_bitCount_0f7a4_23 : Dd mJ6_bitCount_0f7a4.2.1 23 (.istore_n 0) 1 24 := ⟨by decide +kernel, rfl⟩
theorem dJ6_bitCount_0f7a4_24 : Dd mJ6_bitCount_0f7a4.2.1 24 (.iload_n 0) 1 25 := ⟨by decide +kernel, rfl⟩
theorem dJ6_bitCount_0f7a4_25 : Dd mJ6_bitCount_0f7a4.2.1 25 (.iload_n 0) 1 26 := ⟨by decide +kernel, rfl⟩
theorem dJ6_bitCount_0f7a4_26 : Dd mJ6_bitCount_0f7a4.2.1 26 (.iconst 4) 1 27 := ⟨by decide +kernel, rfl⟩
theorem dJ6_bitCount_0f7a4_27 : Dd mJ6_bitCount_0f7a4.2.1 27 (.iushr) 1 28 := ⟨by decide +kernel, rfl⟩
theorem dJ6_bitCount_0f7a4_28 : Dd mJ6_bitCount_0f7a4.2.1 28 (.iadd) 1 29 := ⟨by decide +kernel, rfl⟩
theorem dJ6_bitCount_0f7a4_29 : Dd mJ6_bitCount_0f7a4.2.1 29 (.ldc_w 267) 3 32 := ⟨by decide +kernel, rfl⟩
theorem dJ6_bitCount_0f7a4_32 : Dd mJ6_bitCount_0f7a4.2.1 32 (.iand) 1 33 := ⟨by decide +kernel, rfl⟩
theorem dJ6_bitCount_0f7a4_33 : Dd mJ6_bitCount_0f7a4.2.1 33 (.istore_n 0) 1 34 := ⟨by decide +kernel, rfl⟩
theorem dJ6_bitCount_0f7a4_34 : Dd mJ6_bitCount_0f7a4.2.1 34 (.iload_n 0) 1 35 := ⟨by decide +kernel, rfl⟩
theorem dJ6_bitCount_0f7a4_35 : Dd mJ6_bitCount_0f7a4.2.1 35 (.iload_n 0) 1 36 := ⟨by decide +kernel, rfl⟩
theorem dJ6_bitCount_0f7a4_36 : Dd mJ6_bitCount_0f7a4.2.1 36 (.bipush 8) 2 38 := ⟨by decide +kernel, rfl⟩
theorem dJ6_bitCount_0f7a4_38 : Dd mJ6_bitCount_0f7a4.2.1 38 (.iushr) 1 39 := ⟨by decide +kernel, rfl⟩
theorem dJ6_bitCount_0f7a4_39 : Dd mJ6_bitCount_0f7a4.2.1 39 (.iadd) 1 40 := ⟨by decide +kernel, rfl⟩
theorem dJ6_bitCount_0f7a4_40 : Dd mJ6_bitCount_0f7a4.2.1 40 (.istore_n 0) 1 41 := ⟨by decide +kernel, rfl⟩
theorem dJ6_bitCount_0f7a4_41 : Dd mJ6_bitCount_0f7a4.2.1 41 (.iload_n 0) 1 42 := ⟨by decide +kernel, rfl⟩
theorem dJ6_bitCount_0f7a4_42 : Dd mJ6_bitCount_0f7a4.2.1 42 (.iload_n 0) 1 43 := ⟨by decide +kernel, rfl⟩
theorem dJ6_bitCount_0f7a4_43 : Dd mJ6_bitCount_0f7a4.2.1 43 (.bipush 16) 2 45 := ⟨by decide +kernel, rfl⟩
theorem dJ6_bitCount_0f7a4_45 : Dd mJ6_bitCount_0f7a4.2.1 45 (.iushr) 1 46 := ⟨by decide +kernel, rfl⟩
theorem dJ6_bitCount_0f7a4_46 : Dd mJ6_bitCount_0f7a4.2.1 46 (.iadd) 1 47 := ⟨by decide +kernel, rfl⟩
theorem dJ6_bitCount_0f7a4_47 : Dd mJ6_bitCount_0f7a4.2.1 47 (.istore_n 0) 1 48 := ⟨by decide +kernel, rfl⟩
theorem dJ6_bitCount_0f7a4_48 : Dd mJ6_bitCount_0f7a4.2.1 48 (.iload_n 0) 1 49 := ⟨by decide +kernel, rfl⟩
theorem dJ6_bitCount_0f7a4_49 : Dd mJ6_bitCount_0f7a4.2.1 49 (.bipush 63) 2 51 := ⟨by decide +kernel, rfl⟩
theorem dJ6_bitCount_0f7a4_51 : Dd mJ6_bitCount_0f7a4.2.1 51 (.iand) 1 52 := ⟨by decide +kernel, rfl⟩
theorem dJ6_bitCount_0f7a4_52 : Dd mJ6_bitCount_0f7a4.2.1 52 (.ireturn) 1 53 := ⟨by decide +kernel, rfl⟩
theorem dJ0_length_8abf5_0 : Dd mJ0_length_8abf5.2.1 0 (.aload_n 0) 1 1 := ⟨by decide +kernel, rfl⟩
theorem dJ0_length_8abf5_1 : Dd mJ0_length_8abf5.2.1 1 (.getfield 9) 3 4 := ⟨by decide +kernel, rfl⟩
theorem dJ0_length_8abf5_4 : Dd mJ0_length_8abf5.2.1 4 (.arraylength) 1 5 := ⟨by decide +kernel, rfl⟩
theorem dJ0_length_8abf5_5 : Dd mJ0_length_8abf5.2.1 5 (.aload_n 0) 1 6 := ⟨by decide +kernel, rfl⟩
theorem dJ0_length_8abf5_6 : Dd mJ0_length_8abf5.2.1 6 (.invokevirtual 335) 3 9 := ⟨by decide +kernel, rfl⟩
theorem dJ0_length_8abf5_9 : Dd mJ0_length_8abf5.2.1 9 (.ishr) 1 10 := ⟨by decide +kernel, rfl⟩
theorem dJ0_length_8abf5_10 : Dd mJ0_length_8abf5.2.1 10 (.ireturn) 1 11 := ⟨by decide +kernel, rfl⟩
theorem dJ0_charAt_5068e_0 : Dd mJ0_charAt_5068e.2.1 0 (.aload_n 0) 1 1 := ⟨by decide +kernel, rfl⟩
theorem dJ0_charAt_5068e_1 : Dd mJ0_charAt_5068e.2.1 1 (.invokevirtual 492) 3 4 := ⟨by decide +kernel, rfl⟩
theorem dJ0_charAt_5068e_4 : Dd mJ0_charAt_5068e.2.1 4 (.ifCond .eq 12) 3 7 := ⟨by decide +kernel, rfl⟩
theorem dJ0_charAt_5068e_7 : Dd mJ0_charAt_5068e.2.1 7 (.aload_n 0) 1 8 := ⟨by decide +kernel, rfl⟩
theorem dJ0_charAt_5068e_8 : Dd mJ0_charAt_5068e.2.1 8 (.getfield 9) 3 11 := ⟨by decide +kernel, rfl⟩
theorem dJ0_charAt_5068e_11 : Dd mJ0_charAt_5068e.2.1 11 (.iload_n 1) 1 12 := ⟨by decide +kernel, rfl⟩
theorem dJ0_charAt_5068e_12 : Dd mJ0_charAt_5068e.2.1 12 (.invokestatic 495) 3 15 := ⟨by decide +kernel, rfl⟩
theorem dJ0_charAt_5068e_15 : Dd mJ0_charAt_5068e.2.1 15 (.ireturn) 1 16 := ⟨by decide +kernel, rfl⟩
theorem dJ0_charAt_5068e_16 : Dd mJ0_charAt_5068e.2.1 16 (.aload_n 0) 1 17 := ⟨by decide +kernel, rfl⟩
theorem dJ0_charAt_5068e_17 : Dd mJ0_charAt_5068e.2.1 17 (.getfield 9) 3 20 := ⟨by decide +kernel, rfl⟩
theorem dJ0_charAt_5068e_20 : Dd mJ0_charAt_5068e.2.1 20 (.iload_n 1) 1 21 := ⟨by decide +kernel, rfl⟩
theorem dJ0_charAt_5068e_21 : Dd mJ0_charAt_5068e.2.1 21 (.invokestatic 498) 3 24 := ⟨by decide +kernel, rfl⟩
theorem dJ0_charAt_5068e_24 : Dd mJ0_charAt_5068e.2.1 24 (.ireturn) 1 25 := ⟨by decide +kernel, rfl⟩
theorem dJ0_coder_7d493_0 : Dd mJ0_coder_7d493.2.1 0 (.getstatic 38) 3 3 := ⟨by decide +kernel, rfl⟩
theorem dJ0_coder_7d493_3 : Dd mJ0_coder_7d493.2.1 3 (.ifCond .eq 10) 3 6 := ⟨by decide +kernel, rfl⟩
theorem dJ0_coder_7d493_6 : Dd mJ0_coder_7d493.2.1 6 (.aload_n 0) 1 7 := ⟨by decide +kernel, rfl⟩
theorem dJ0_coder_7d493_7 : Dd mJ0_coder_7d493.2.1 7 (.getfield 15) 3 10 := ⟨by decide +kernel, rfl⟩
theorem dJ0_coder_7d493_10 : Dd mJ0_coder_7d493.2.1 10 (.goto 4) 3 13 := ⟨by decide +kernel, rfl⟩
theorem dJ0_coder_7d493_13 : Dd mJ0_coder_7d493.2.1 13 (.iconst 1) 1 14 := ⟨by decide +kernel, rfl⟩
theorem dJ0_coder_7d493_14 : Dd mJ0_coder_7d493.2.1 14 (.ireturn) 1 15 := ⟨by decide +kernel, rfl⟩
theorem dJ0_isLatin1_aae02_0 : Dd mJ0_isLatin1_aae02.2.1 0 (.getstatic 38) 3 3 := ⟨by decide +kernel, rfl⟩
theorem dJ0_isLatin1_aae02_3 : Dd mJ0_isLatin1_aae02.2.1 3 (.ifCond .eq 14) 3 6 := ⟨by decide +kernel, rfl⟩
theorem dJ0_isLatin1_aae02_6 : Dd mJ0_isLatin1_aae02.2.1 6 (.aload_n 0) 1 7 := ⟨by decide +kernel, rfl⟩
theorem dJ0_isLatin1_aae02_7 : Dd mJ0_isLatin1_aae02.2.1 7 (.getfield 15) 3 10 := ⟨by decide +kernel, rfl⟩
theorem dJ0_isLatin1_aae02_10 : Dd mJ0_isLatin1_aae02.2.1 10 (.ifCond .ne 7) 3 13 := ⟨by decide +kernel, rfl⟩
theorem dJ0_isLatin1_aae02_13 : Dd mJ0_isLatin1_aae02.2.1 13 (.iconst 1) 1 14 := ⟨by decide +kernel, rfl⟩
theorem dJ0_isLatin1_aae02_14 : Dd mJ0_isLatin1_aae02.2.1 14 (.goto 4) 3 17 := ⟨by decide +kernel, rfl⟩
theorem dJ0_isLatin1_aae02_17 : Dd mJ0_isLatin1_aae02.2.1 17 (.iconst 0) 1 18 := ⟨by decide +kernel, rfl⟩
theorem dJ0_isLatin1_aae02_18 : Dd mJ0_isLatin1_aae02.2.1 18 (.ireturn) 1 19 := ⟨by decide +kernel, rfl⟩
theorem dJ0_checkIndex_df160_0 : Dd mJ0_checkIndex_df160.2.1 0 (.iload_n 0) 1 1 := ⟨by decide +kernel, rfl⟩
theorem dJ0_checkIndex_df160_1 : Dd mJ0_checkIndex_df160.2.1 1 (.iload_n 1) 1 2 := ⟨by decide +kernel, rfl⟩
theorem dJ0_checkIndex_df160_2 : Dd mJ0_checkIndex_df160.2.1 2 (.getstatic 1053) 3 5 := ⟨by decide +kernel, rfl⟩
theorem dJ0_checkIndex_df160_5 : Dd mJ0_checkIndex_df160.2.1 5 (.invokestatic 1059) 3 8 := ⟨by decide +kernel, rfl⟩
theorem dJ0_checkIndex_df160_8 : Dd mJ0_checkIndex_df160.2.1 8 (.pop) 1 9 := ⟨by decide +kernel, rfl⟩
theorem dJ0_checkIndex_df160_9 : Dd mJ0_checkIndex_df160.2.1 9 (.return_) 1 10 := ⟨by decide +kernel, rfl⟩
theorem dJ1_charAt_3b067_0 : Dd mJ1_charAt_3b067.2.1 0 (.iload_n 1) 1 1 := ⟨by decide +kernel, rfl⟩
theorem dJ1_charAt_3b067_1 : Dd mJ1_charAt_3b067.2.1 1 (.aload_n 0) 1 2 := ⟨by decide +kernel, rfl⟩
theorem dJ1_charAt_3b067_2 : Dd mJ1_charAt_3b067.2.1 2 (.arraylength) 1 3 := ⟨by decide +kernel, rfl⟩
theorem dJ1_charAt_3b067_3 : Dd mJ1_charAt_3b067.2.1 3 (.invokestatic 9) 3 6 := ⟨by decide +kernel, rfl⟩
theorem dJ1_charAt_3b067_6 : Dd mJ1_charAt_3b067.2.1 6 (.aload_n 0) 1 7 := ⟨by decide +kernel, rfl⟩
theorem dJ1_charAt_3b067_7 : Dd mJ1_charAt_3b067.2.1 7 (.iload_n 1) 1 8 := ⟨by decide +kernel, rfl⟩
theorem dJ1_charAt_3b067_8 : Dd mJ1_charAt_3b067.2.1 8 (.baload) 1 9 := ⟨by decide +kernel, rfl⟩
theorem dJ1_charAt_3b067_9 : Dd mJ1_charAt_3b067.2.1 9 (.sipush 255) 3 12 := ⟨by decide +kernel, rfl⟩
theorem dJ1_charAt_3b067_12 : Dd mJ1_charAt_3b067.2.1 12 (.iand) 1 13 := ⟨by decide +kernel, rfl⟩
theorem dJ1_charAt_3b067_13 : Dd mJ1_charAt_3b067.2.1 13 (.i2c) 1 14 := ⟨by decide +kernel, rfl⟩
theorem dJ1_charAt_3b067_14 : Dd mJ1_charAt_3b067.2.1 14 (.ireturn) 1 15 := ⟨by decide +kernel, rfl⟩
theorem dJ3_checkIndex_8e157_0 : Dd mJ3_checkIndex_8e157.2.1 0 (.iload_n 0) 1 1 := ⟨by decide +kernel, rfl⟩
theorem dJ3_checkIndex_8e157_1 : Dd mJ3_checkIndex_8e157.2.1 1 (.ifCond .lt 8) 3 4 := ⟨by decide +kernel, rfl⟩
theorem dJ3_checkIndex_8e157_4 : Dd mJ3_checkIndex_8e157.2.1 4 (.iload_n 0) 1 5 := ⟨by decide +kernel, rfl⟩
theorem dJ3_checkIndex_8e157_5 : Dd mJ3_checkIndex_8e157.2.1 5 (.iload_n 1) 1 6 := ⟨by decide +kernel, rfl⟩
theorem dJ3_checkIndex_8e157_6 : Dd mJ3_checkIndex_8e157.2.1 6 (.if_icmp .lt 10) 3 9 := ⟨by decide +kernel, rfl⟩
theorem dJ3_checkIndex_8e157_9 : Dd mJ3_checkIndex_8e157.2.1 9 (.aload_n 2) 1 10 := ⟨by decide +kernel, rfl⟩
theorem dJ3_checkIndex_8e157_10 : Dd mJ3_checkIndex_8e157.2.1 10 (.iload_n 0) 1 11 := ⟨by decide +kernel, rfl⟩
theorem dJ3_checkIndex_8e157_11 : Dd mJ3_checkIndex_8e157.2.1 11 (.iload_n 1) 1 12 := ⟨by decide +kernel, rfl⟩
theorem dJ3_checkIndex_8e157_12 : Dd mJ3_checkIndex_8e157.2.1 12 (.invokestatic 95) 3 15 := ⟨by decide +kernel, rfl⟩
theorem dJ3_checkIndex_8e157_15 : Dd mJ3_checkIndex_8e157.2.1 15 (.athrow) 1 16 := ⟨by decide +kernel, rfl⟩
theorem dJ3_checkIndex_8e157_16 : Dd mJ3_checkIndex_8e157.2.1 16 (.iload_n 0) 1 17 := ⟨by decide +kernel, rfl⟩
theorem dJ3_checkIndex_8e157_17 : Dd mJ3_checkIndex_8e157.2.1 17 (.ireturn) 1 18 := ⟨by decide +kernel, rfl⟩
end
section
/-! ===== the instructions, by program ===== -/
theorem dX8_init_0 : Dd mX8_init.2.1 0 (.aload_n 0) 1 1 := ⟨by decide +kernel, rfl⟩
theorem dX8_init_1 : Dd mX8_init.2.1 1 (.invokespecial 1) 3 4 := ⟨by decide +kernel, rfl⟩
theorem dX8_init_4 : Dd mX8_init.2.1 4 (.aload_n 0) 1 5 := ⟨by decide +kernel, rfl⟩
theorem dX8_init_5 : Dd mX8_init.2.1 5 (.new 7) 3 8 := ⟨by decide +kernel, rfl⟩
theorem dX8_init_8 : Dd mX8_init.2.1 8 (.dup) 1 9 := ⟨by decide +kernel, rfl⟩
theorem dX8_init_9 : Dd mX8_init.2.1 9 (.invokespecial 9) 3 12 := ⟨by decide +kernel, rfl⟩
theorem dX8_init_12 : Dd mX8_init.2.1 12 (.putfield 10) 3 15 := ⟨by decide +kernel, rfl⟩
theorem dX8_init_15 : Dd mX8_init.2.1 15 (.aload_n 0) 1 16 := ⟨by decide +kernel, rfl⟩
theorem dX8_init_16 : Dd mX8_init.2.1 16 (.new 16) 3 19 := ⟨by decide +kernel, rfl⟩
theorem dX8_init_19 : Dd mX8_init.2.1 19 (.dup) 1 20 := ⟨by decide +kernel, rfl⟩
theorem dX8_init_20 : Dd mX8_init.2.1 20 (.aload_n 0) 1 21 := ⟨by decide +kernel, rfl⟩
theorem dX8_init_21 : Dd mX8_init.2.1 21 (.getfield 10) 3 24 := ⟨by decide +kernel, rfl⟩
theorem dX8_init_24 : Dd mX8_init.2.1 24 (.invokespecial 18) 3 27 := ⟨by decide +kernel, rfl⟩
theorem dX8_init_27 : Dd mX8_init.2.1 27 (.putfield 21) 3 30 := ⟨by decide +kernel, rfl⟩
theorem dX8_init_30 : Dd mX8_init.2.1 30 (.aload_n 0) 1 31 := ⟨by decide +kernel, rfl⟩
theorem dX8_init_31 : Dd mX8_init.2.1 31 (.new 25) 3 34 := ⟨by decide +kernel, rfl⟩
theorem dX8_init_34 : Dd mX8_init.2.1 34 (.dup) 1 35 := ⟨by decide +kernel, rfl⟩
theorem dX8_init_35 : Dd mX8_init.2.1 35 (.invokespecial 27) 3 38 := ⟨by decide +kernel, rfl⟩
theorem dX8_init_38 : Dd mX8_init.2.1 38 (.putfield 28) 3 41 := ⟨by decide +kernel, rfl⟩
theorem dX8_init_41 : Dd mX8_init.2.1 41 (.aload_n 0) 1 42 := ⟨by decide +kernel, rfl⟩
theorem dX8_init_42 : Dd mX8_init.2.1 42 (.new 25) 3 45 := ⟨by decide +kernel, rfl⟩
theorem dX8_init_45 : Dd mX8_init.2.1 45 (.dup) 1 46 := ⟨by decide +kernel, rfl⟩
theorem dX8_init_46 : Dd mX8_init.2.1 46 (.invokespecial 27) 3 49 := ⟨by decide +kernel, rfl⟩
theorem dX8_init_49 : Dd mX8_init.2.1 49 (.putfield 32) 3 52 := ⟨by decide +kernel, rfl⟩
theorem dX8_init_52 : Dd mX8_init.2.1 52 (.aload_n 0) 1 53 := ⟨by decide +kernel, rfl⟩
theorem dX8_init_53 : Dd mX8_init.2.1 53 (.new 35) 3 56 := ⟨by decide +kernel, rfl⟩
theorem dX8_init_56 : Dd mX8_init.2.1 56 (.dup) 1 57 := ⟨by decide +kernel, rfl⟩
theorem dX8_init_57 : Dd mX8_init.2.1 57 (.invokespecial 37) 3 60 := ⟨by decide +kernel, rfl⟩
theorem dX8_init_60 : Dd mX8_init.2.1 60 (.putfield 38) 3 63 := ⟨by decide +kernel, rfl⟩
theorem dX8_init_63 : Dd mX8_init.2.1 63 (.aload_n 0) 1 64 := ⟨by decide +kernel, rfl⟩
theorem dX8_init_64 : Dd mX8_init.2.1 64 (.new 42) 3 67 := ⟨by decide +kernel, rfl⟩
theorem dX8_init_67 : Dd mX8_init.2.1 67 (.dup) 1 68 := ⟨by decide +kernel, rfl⟩
theorem dX8_init_68 : Dd mX8_init.2.1 68 (.invokespecial 44) 3 71 := ⟨by decide +kernel, rfl⟩
theorem dX8_init_71 : Dd mX8_init.2.1 71 (.putfield 45) 3 74 := ⟨by decide +kernel, rfl⟩
theorem dX8_init_74 : Dd mX8_init.2.1 74 (.aload_n 0) 1 75 := ⟨by decide +kernel, rfl⟩
theorem dX8_init_75 : Dd mX8_init.2.1 75 (.new 42) 3 78 := ⟨by decide +kernel, rfl⟩
theorem dX8_init_78 : Dd mX8_init.2.1 78 (.dup) 1 79 := ⟨by decide +kernel, rfl⟩
theorem dX8_init_79 : Dd mX8_init.2.1 79 (.invokespecial 44) 3 82 := ⟨by decide +kernel, rfl⟩
theorem dX8_init_82 : Dd mX8_init.2.1 82 (.putfield 49) 3 85 := ⟨by decide +kernel, rfl⟩
theorem dX8_init_85 : Dd mX8_init.2.1 85 (.aload_n 0) 1 86 := ⟨by decide +kernel, rfl⟩
theorem dX8_init_86 : Dd mX8_init.2.1 86 (.new 52) 3 89 := ⟨by decide +kernel, rfl⟩
theorem dX8_init_89 : Dd mX8_init.2.1 89 (.dup) 1 90 := ⟨by decide +kernel, rfl⟩
theorem dX8_init_90 : Dd mX8_init.2.1 90 (.bipush 8) 2 92 := ⟨by decide +kernel, rfl⟩
theorem dX8_init_92 : Dd mX8_init.2.1 92 (.invokespecial 54) 3 95 := ⟨by decide +kernel, rfl⟩
theorem dX8_init_95 : Dd mX8_init.2.1 95 (.putfield 57) 3 98 := ⟨by decide +kernel, rfl⟩
theorem dX8_init_98 : Dd mX8_init.2.1 98 (.aload_n 0) 1 99 := ⟨by decide +kernel, rfl⟩
theorem dX8_init_99 : Dd mX8_init.2.1 99 (.new 52) 3 102 := ⟨by decide +kernel, rfl⟩
theorem dX8_init_102 : Dd mX8_init.2.1 102 (.dup) 1 103 := ⟨by decide +kernel, rfl⟩
theorem dX8_init_103 : Dd mX8_init.2.1 103 (.iconst 2) 1 104 := ⟨by decide +kernel, rfl⟩
theorem dX8_init_104 : Dd mX8_init.2.1 104 (.invokespecial 54) 3 107 := ⟨by decide +kernel, rfl⟩
theorem dX8_init_107 : Dd mX8_init.2.1 107 (.putfield 61) 3 110 := ⟨by decide +kernel, rfl⟩
theorem dX8_init_110 : Dd mX8_init.2.1 110 (.aload_n 0) 1 111 := ⟨by decide +kernel, rfl⟩
theorem dX8_init_111 : Dd mX8_init.2.1 111 (.new 64) 3 114 := ⟨by decide +kernel, rfl⟩
theorem dX8_init_114 : Dd mX8_init.2.1 114 (.dup) 1 115 := ⟨by decide +kernel, rfl⟩
theorem dX8_init_115 : Dd mX8_init.2.1 115 (.aload_n 0) 1 116 := ⟨by decide +kernel, rfl⟩
theorem dX8_init_116 : Dd mX8_init.2.1 116 (.getfield 38) 3 119 := ⟨by decide +kernel, rfl⟩
theorem dX8_init_119 : Dd mX8_init.2.1 119 (.invokespecial 66) 3 122 := ⟨by decide +kernel, rfl⟩
theorem dX8_init_122 : Dd mX8_init.2.1 122 (.putfield 69) 3 125 := ⟨by decide +kernel, rfl⟩
theorem dX8_init_125 : Dd mX8_init.2.1 125 (.aload_n 0) 1 126 := ⟨by decide +kernel, rfl⟩
theorem dX8_init_126 : Dd mX8_init.2.1 126 (.new 73) 3 129 := ⟨by decide +kernel, rfl⟩
theorem dX8_init_129 : Dd mX8_init.2.1 129 (.dup) 1 130 := ⟨by decide +kernel, rfl⟩
theorem dX8_init_130 : Dd mX8_init.2.1 130 (.invokespecial 75) 3 133 := ⟨by decide +kernel, rfl⟩
theorem dX8_init_133 : Dd mX8_init.2.1 133 (.putfield 76) 3 136 := ⟨by decide +kernel, rfl⟩
theorem dX8_init_136 : Dd mX8_init.2.1 136 (.iconst 0) 1 137 := ⟨by decide +kernel, rfl⟩
theorem dX8_init_137 : Dd mX8_init.2.1 137 (.istore_n 1) 1 138 := ⟨by decide +kernel, rfl⟩
theorem dX8_init_138 : Dd mX8_init.2.1 138 (.iload_n 1) 1 139 := ⟨by decide +kernel, rfl⟩
theorem dX8_init_139 : Dd mX8_init.2.1 139 (.ldc 80) 2 141 := ⟨by decide +kernel, rfl⟩
theorem dX8_init_141 : Dd mX8_init.2.1 141 (.invokevirtual 82) 3 144 := ⟨by decide +kernel, rfl⟩
theorem dX8_init_144 : Dd mX8_init.2.1 144 (.if_icmp .ge 23) 3 147 := ⟨by decide +kernel, rfl⟩
theorem dX8_init_147 : Dd mX8_init.2.1 147 (.aload_n 0) 1 148 := ⟨by decide +kernel, rfl⟩
theorem dX8_init_148 : Dd mX8_init.2.1 148 (.getfield 10) 3 151 := ⟨by decide +kernel, rfl⟩
theorem dX8_init_151 : Dd mX8_init.2.1 151 (.ldc 80) 2 153 := ⟨by decide +kernel, rfl⟩
theorem dX8_init_153 : Dd mX8_init.2.1 153 (.iload_n 1) 1 154 := ⟨by decide +kernel, rfl⟩
theorem dX8_init_154 : Dd mX8_init.2.1 154 (.invokevirtual 88) 3 157 := ⟨by decide +kernel, rfl⟩
theorem dX8_init_157 : Dd mX8_init.2.1 157 (.invokevirtual 92) 3 160 := ⟨by decide +kernel, rfl⟩
theorem dX8_init_160 : Dd mX8_init.2.1 160 (.pop) 1 161 := ⟨by decide +kernel, rfl⟩
theorem dX8_init_161 : Dd mX8_init.2.1 161 (.iinc 1 1) 3 164 := ⟨by decide +kernel, rfl⟩
theorem dX8_init_164 : Dd mX8_init.2.1 164 (.goto (-26)) 3 167 := ⟨by decide +kernel, rfl⟩
theorem dX8_init_167 : Dd mX8_init.2.1 167 (.aload_n 0) 1 168 := ⟨by decide +kernel, rfl⟩
theorem dX8_init_168 : Dd mX8_init.2.1 168 (.invokevirtual 96) 3 171 := ⟨by decide +kernel, rfl⟩
theorem dX8_init_171 : Dd mX8_init.2.1 171 (.pop) 1 172 := ⟨by decide +kernel, rfl⟩
theorem dX8_init_172 : Dd mX8_init.2.1 172 (.aload_n 0) 1 173 := ⟨by decide +kernel, rfl⟩
theorem dX8_init_173 : Dd mX8_init.2.1 173 (.getfield 10) 3 176 := ⟨by decide +kernel, rfl⟩
theorem dX8_init_176 : Dd mX8_init.2.1 176 (.invokevirtual 100) 3 179 := ⟨by decide +kernel, rfl⟩
theorem dX8_init_179 : Dd mX8_init.2.1 179 (.return_) 1 180 := ⟨by decide +kernel, rfl⟩
theorem dX8_write_0 : Dd mX8_write.2.1 0 (.iload_n 1) 1 1 := ⟨by decide +kernel, rfl⟩
theorem dX8_write_1 : Dd mX8_write.2.1 1 (.bipush 32) 2 3 := ⟨by decide +kernel, rfl⟩
theorem dX8_write_3 : Dd mX8_write.2.1 3 (.if_icmp .lt 9) 3 6 := ⟨by decide +kernel, rfl⟩
theorem dX8_write_6 : Dd mX8_write.2.1 6 (.iload_n 1) 1 7 := ⟨by decide +kernel, rfl⟩
theorem dX8_write_7 : Dd mX8_write.2.1 7 (.bipush 126) 2 9 := ⟨by decide +kernel, rfl⟩
theorem dX8_write_9 : Dd mX8_write.2.1 9 (.if_icmp .le 5) 3 12 := ⟨by decide +kernel, rfl⟩
theorem dX8_write_12 : Dd mX8_write.2.1 12 (.iconst (-1)) 1 13 := ⟨by decide +kernel, rfl⟩
theorem dX8_write_13 : Dd mX8_write.2.1 13 (.ireturn) 1 14 := ⟨by decide +kernel, rfl⟩
theorem dX8_write_14 : Dd mX8_write.2.1 14 (.aload_n 0) 1 15 := ⟨by decide +kernel, rfl⟩
theorem dX8_write_15 : Dd mX8_write.2.1 15 (.getfield 10) 3 18 := ⟨by decide +kernel, rfl⟩
theorem dX8_write_18 : Dd mX8_write.2.1 18 (.iload_n 1) 1 19 := ⟨by decide +kernel, rfl⟩
theorem dX8_write_19 : Dd mX8_write.2.1 19 (.invokevirtual 92) 3 22 := ⟨by decide +kernel, rfl⟩
theorem dX8_write_22 : Dd mX8_write.2.1 22 (.ifCond .eq 13) 3 25 := ⟨by decide +kernel, rfl⟩
theorem dX8_write_25 : Dd mX8_write.2.1 25 (.aload_n 0) 1 26 := ⟨by decide +kernel, rfl⟩
theorem dX8_write_26 : Dd mX8_write.2.1 26 (.getfield 10) 3 29 := ⟨by decide +kernel, rfl⟩
theorem dX8_write_29 : Dd mX8_write.2.1 29 (.invokevirtual 103) 3 32 := ⟨by decide +kernel, rfl⟩
theorem dX8_write_32 : Dd mX8_write.2.1 32 (.goto 5) 3 35 := ⟨by decide +kernel, rfl⟩
theorem dX8_write_35 : Dd mX8_write.2.1 35 (.bipush (-3)) 2 37 := ⟨by decide +kernel, rfl⟩
theorem dX8_write_37 : Dd mX8_write.2.1 37 (.ireturn) 1 38 := ⟨by decide +kernel, rfl⟩
theorem dX8_wipe_0 : Dd mX8_wipe.2.1 0 (.aload_n 0) 1 1 := ⟨by decide +kernel, rfl⟩
theorem dX8_wipe_1 : Dd mX8_wipe.2.1 1 (.getfield 10) 3 4 := ⟨by decide +kernel, rfl⟩
theorem dX8_wipe_4 : Dd mX8_wipe.2.1 4 (.invokevirtual 103) 3 7 := ⟨by decide +kernel, rfl⟩
theorem dX8_wipe_7 : Dd mX8_wipe.2.1 7 (.istore_n 1) 1 8 := ⟨by decide +kernel, rfl⟩
theorem dX8_wipe_8 : Dd mX8_wipe.2.1 8 (.aload_n 0) 1 9 := ⟨by decide +kernel, rfl⟩
theorem dX8_wipe_9 : Dd mX8_wipe.2.1 9 (.getfield 10) 3 12 := ⟨by decide +kernel, rfl⟩
theorem dX8_wipe_12 : Dd mX8_wipe.2.1 12 (.invokevirtual 100) 3 15 := ⟨by decide +kernel, rfl⟩
theorem dX8_wipe_15 : Dd mX8_wipe.2.1 15 (.iload_n 1) 1 16 := ⟨by decide +kernel, rfl⟩
theorem dX8_wipe_16 : Dd mX8_wipe.2.1 16 (.ireturn) 1 17 := ⟨by decide +kernel, rfl⟩
theorem dX8_fault_0 : Dd mX8_fault.2.1 0 (.aload_n 0) 1 1 := ⟨by decide +kernel, rfl⟩
theorem dX8_fault_1 : Dd mX8_fault.2.1 1 (.getfield 21) 3 4 := ⟨by decide +kernel, rfl⟩
theorem dX8_fault_4 : Dd mX8_fault.2.1 4 (.aload_n 0) 1 5 := ⟨by decide +kernel, rfl⟩
theorem dX8_fault_5 : Dd mX8_fault.2.1 5 (.getfield 32) 3 8 := ⟨by decide +kernel, rfl⟩
theorem dX8_fault_8 : Dd mX8_fault.2.1 8 (.invokevirtual 106) 3 11 := ⟨by decide +kernel, rfl⟩
theorem dX8_fault_11 : Dd mX8_fault.2.1 11 (.ireturn) 1 12 := ⟨by decide +kernel, rfl⟩
theorem dX8_lay_0 : Dd mX8_lay.2.1 0 (.aload_n 0) 1 1 := ⟨by decide +kernel, rfl⟩
theorem dX8_lay_1 : Dd mX8_lay.2.1 1 (.invokevirtual 96) 3 4 := ⟨by decide +kernel, rfl⟩
theorem dX8_lay_4 : Dd mX8_lay.2.1 4 (.ifCond .eq 13) 3 7 := ⟨by decide +kernel, rfl⟩
theorem dX8_lay_7 : Dd mX8_lay.2.1 7 (.aload_n 0) 1 8 := ⟨by decide +kernel, rfl⟩
theorem dX8_lay_8 : Dd mX8_lay.2.1 8 (.getfield 28) 3 11 := ⟨by decide +kernel, rfl⟩
theorem dX8_lay_11 : Dd mX8_lay.2.1 11 (.getfield 110) 3 14 := ⟨by decide +kernel, rfl⟩
theorem dX8_lay_14 : Dd mX8_lay.2.1 14 (.goto 5) 3 17 := ⟨by decide +kernel, rfl⟩
theorem dX8_lay_17 : Dd mX8_lay.2.1 17 (.bipush (-2)) 2 19 := ⟨by decide +kernel, rfl⟩
theorem dX8_lay_19 : Dd mX8_lay.2.1 19 (.ireturn) 1 20 := ⟨by decide +kernel, rfl⟩
theorem dX8_layTheText_0 : Dd mX8_layTheText.2.1 0 (.aload_n 0) 1 1 := ⟨by decide +kernel, rfl⟩
theorem dX8_layTheText_1 : Dd mX8_layTheText.2.1 1 (.getfield 21) 3 4 := ⟨by decide +kernel, rfl⟩
theorem dX8_layTheText_4 : Dd mX8_layTheText.2.1 4 (.aload_n 0) 1 5 := ⟨by decide +kernel, rfl⟩
theorem dX8_layTheText_5 : Dd mX8_layTheText.2.1 5 (.getfield 32) 3 8 := ⟨by decide +kernel, rfl⟩
theorem dX8_layTheText_8 : Dd mX8_layTheText.2.1 8 (.invokevirtual 106) 3 11 := ⟨by decide +kernel, rfl⟩
theorem dX8_layTheText_11 : Dd mX8_layTheText.2.1 11 (.bipush (-4)) 2 13 := ⟨by decide +kernel, rfl⟩
theorem dX8_layTheText_13 : Dd mX8_layTheText.2.1 13 (.if_icmp .ne 25) 3 16 := ⟨by decide +kernel, rfl⟩
theorem dX8_layTheText_16 : Dd mX8_layTheText.2.1 16 (.aload_n 0) 1 17 := ⟨by decide +kernel, rfl⟩
theorem dX8_layTheText_17 : Dd mX8_layTheText.2.1 17 (.getfield 32) 3 20 := ⟨by decide +kernel, rfl⟩
theorem dX8_layTheText_20 : Dd mX8_layTheText.2.1 20 (.getfield 110) 3 23 := ⟨by decide +kernel, rfl⟩
theorem dX8_layTheText_23 : Dd mX8_layTheText.2.1 23 (.iconst 1) 1 24 := ⟨by decide +kernel, rfl⟩
theorem dX8_layTheText_24 : Dd mX8_layTheText.2.1 24 (.if_icmp .lt 14) 3 27 := ⟨by decide +kernel, rfl⟩
theorem dX8_layTheText_27 : Dd mX8_layTheText.2.1 27 (.aload_n 0) 1 28 := ⟨by decide +kernel, rfl⟩
theorem dX8_layTheText_28 : Dd mX8_layTheText.2.1 28 (.getfield 32) 3 31 := ⟨by decide +kernel, rfl⟩
theorem dX8_layTheText_31 : Dd mX8_layTheText.2.1 31 (.getfield 114) 3 34 := ⟨by decide +kernel, rfl⟩
theorem dX8_layTheText_34 : Dd mX8_layTheText.2.1 34 (.iconst 1) 1 35 := ⟨by decide +kernel, rfl⟩
theorem dX8_layTheText_35 : Dd mX8_layTheText.2.1 35 (.if_icmp .ge 5) 3 38 := ⟨by decide +kernel, rfl⟩
theorem dX8_layTheText_38 : Dd mX8_layTheText.2.1 38 (.iconst 0) 1 39 := ⟨by decide +kernel, rfl⟩
theorem dX8_layTheText_39 : Dd mX8_layTheText.2.1 39 (.ireturn) 1 40 := ⟨by decide +kernel, rfl⟩
theorem dX8_layTheText_40 : Dd mX8_layTheText.2.1 40 (.aload_n 0) 1 41 := ⟨by decide +kernel, rfl⟩
theorem dX8_layTheText_41 : Dd mX8_layTheText.2.1 41 (.getfield 28) 3 44 := ⟨by decide +kernel, rfl⟩
theorem dX8_layTheText_44 : Dd mX8_layTheText.2.1 44 (.astore_n 1) 1 45 := ⟨by decide +kernel, rfl⟩
theorem dX8_layTheText_45 : Dd mX8_layTheText.2.1 45 (.aload_n 0) 1 46 := ⟨by decide +kernel, rfl⟩
theorem dX8_layTheText_46 : Dd mX8_layTheText.2.1 46 (.aload_n 0) 1 47 := ⟨by decide +kernel, rfl⟩
theorem dX8_layTheText_47 : Dd mX8_layTheText.2.1 47 (.getfield 32) 3 50 := ⟨by decide +kernel, rfl⟩
theorem dX8_layTheText_50 : Dd mX8_layTheText.2.1 50 (.putfield 28) 3 53 := ⟨by decide +kernel, rfl⟩
theorem dX8_layTheText_53 : Dd mX8_layTheText.2.1 53 (.aload_n 0) 1 54 := ⟨by decide +kernel, rfl⟩
theorem dX8_layTheText_54 : Dd mX8_layTheText.2.1 54 (.aload_n 1) 1 55 := ⟨by decide +kernel, rfl⟩
theorem dX8_layTheText_55 : Dd mX8_layTheText.2.1 55 (.putfield 32) 3 58 := ⟨by decide +kernel, rfl⟩
theorem dX8_layTheText_58 : Dd mX8_layTheText.2.1 58 (.aload_n 0) 1 59 := ⟨by decide +kernel, rfl⟩
theorem dX8_layTheText_59 : Dd mX8_layTheText.2.1 59 (.getfield 38) 3 62 := ⟨by decide +kernel, rfl⟩
theorem dX8_layTheText_62 : Dd mX8_layTheText.2.1 62 (.aload_n 0) 1 63 := ⟨by decide +kernel, rfl⟩
theorem dX8_layTheText_63 : Dd mX8_layTheText.2.1 63 (.getfield 28) 3 66 := ⟨by decide +kernel, rfl⟩
theorem dX8_layTheText_66 : Dd mX8_layTheText.2.1 66 (.invokevirtual 117) 3 69 := ⟨by decide +kernel, rfl⟩
theorem dX8_layTheText_69 : Dd mX8_layTheText.2.1 69 (.aload_n 0) 1 70 := ⟨by decide +kernel, rfl⟩
theorem dX8_layTheText_70 : Dd mX8_layTheText.2.1 70 (.getfield 45) 3 73 := ⟨by decide +kernel, rfl⟩
theorem dX8_layTheText_73 : Dd mX8_layTheText.2.1 73 (.invokevirtual 121) 3 76 := ⟨by decide +kernel, rfl⟩
theorem dX8_layTheText_76 : Dd mX8_layTheText.2.1 76 (.aload_n 0) 1 77 := ⟨by decide +kernel, rfl⟩
theorem dX8_layTheText_77 : Dd mX8_layTheText.2.1 77 (.getfield 57) 3 80 := ⟨by decide +kernel, rfl⟩
theorem dX8_layTheText_80 : Dd mX8_layTheText.2.1 80 (.invokevirtual 122) 3 83 := ⟨by decide +kernel, rfl⟩
theorem dX8_layTheText_83 : Dd mX8_layTheText.2.1 83 (.aload_n 0) 1 84 := ⟨by decide +kernel, rfl⟩
theorem dX8_layTheText_84 : Dd mX8_layTheText.2.1 84 (.getfield 61) 3 87 := ⟨by decide +kernel, rfl⟩
theorem dX8_layTheText_87 : Dd mX8_layTheText.2.1 87 (.invokevirtual 122) 3 90 := ⟨by decide +kernel, rfl⟩
theorem dX8_layTheText_90 : Dd mX8_layTheText.2.1 90 (.iconst 1) 1 91 := ⟨by decide +kernel, rfl⟩
theorem dX8_layTheText_91 : Dd mX8_layTheText.2.1 91 (.ireturn) 1 92 := ⟨by decide +kernel, rfl⟩
theorem dX8_thing_0 : Dd mX8_thing.2.1 0 (.aload_n 0) 1 1 := ⟨by decide +kernel, rfl⟩
theorem dX8_thing_1 : Dd mX8_thing.2.1 1 (.iload_n 1) 1 2 := ⟨by decide +kernel, rfl⟩
theorem dX8_thing_2 : Dd mX8_thing.2.1 2 (.invokevirtual 123) 3 5 := ⟨by decide +kernel, rfl⟩
theorem dX8_thing_5 : Dd mX8_thing.2.1 5 (.ifCond .ne 5) 3 8 := ⟨by decide +kernel, rfl⟩
theorem dX8_thing_8 : Dd mX8_thing.2.1 8 (.iconst (-1)) 1 9 := ⟨by decide +kernel, rfl⟩
theorem dX8_thing_9 : Dd mX8_thing.2.1 9 (.ireturn) 1 10 := ⟨by decide +kernel, rfl⟩
theorem dX8_thing_10 : Dd mX8_thing.2.1 10 (.iload_n 2) 1 11 := ⟨by decide +kernel, rfl⟩
theorem dX8_thing_11 : Dd mX8_thing.2.1 11 (.tableswitch 70 0 3 #[29, 38, 47, 61]) 29 40 := ⟨by decide +kernel, rfl⟩
theorem dX8_thing_40 : Dd mX8_thing.2.1 40 (.aload_n 0) 1 41 := ⟨by decide +kernel, rfl⟩
theorem dX8_thing_41 : Dd mX8_thing.2.1 41 (.getfield 28) 3 44 := ⟨by decide +kernel, rfl⟩
theorem dX8_thing_44 : Dd mX8_thing.2.1 44 (.iload_n 1) 1 45 := ⟨by decide +kernel, rfl⟩
theorem dX8_thing_45 : Dd mX8_thing.2.1 45 (.invokevirtual 126) 3 48 := ⟨by decide +kernel, rfl⟩
theorem dX8_thing_48 : Dd mX8_thing.2.1 48 (.ireturn) 1 49 := ⟨by decide +kernel, rfl⟩
theorem dX8_thing_49 : Dd mX8_thing.2.1 49 (.aload_n 0) 1 50 := ⟨by decide +kernel, rfl⟩
theorem dX8_thing_50 : Dd mX8_thing.2.1 50 (.getfield 28) 3 53 := ⟨by decide +kernel, rfl⟩
theorem dX8_thing_53 : Dd mX8_thing.2.1 53 (.iload_n 1) 1 54 := ⟨by decide +kernel, rfl⟩
theorem dX8_thing_54 : Dd mX8_thing.2.1 54 (.invokevirtual 130) 3 57 := ⟨by decide +kernel, rfl⟩
theorem dX8_thing_57 : Dd mX8_thing.2.1 57 (.ireturn) 1 58 := ⟨by decide +kernel, rfl⟩
theorem dX8_thing_58 : Dd mX8_thing.2.1 58 (.aload_n 0) 1 59 := ⟨by decide +kernel, rfl⟩
theorem dX8_thing_59 : Dd mX8_thing.2.1 59 (.iload_n 1) 1 60 := ⟨by decide +kernel, rfl⟩
theorem dX8_thing_60 : Dd mX8_thing.2.1 60 (.invokevirtual 133) 3 63 := ⟨by decide +kernel, rfl⟩
theorem dX8_thing_63 : Dd mX8_thing.2.1 63 (.ifCond .eq 7) 3 66 := ⟨by decide +kernel, rfl⟩
theorem dX8_thing_66 : Dd mX8_thing.2.1 66 (.iconst 1) 1 67 := ⟨by decide +kernel, rfl⟩
theorem dX8_thing_67 : Dd mX8_thing.2.1 67 (.goto 4) 3 70 := ⟨by decide +kernel, rfl⟩
theorem dX8_thing_70 : Dd mX8_thing.2.1 70 (.iconst 0) 1 71 := ⟨by decide +kernel, rfl⟩
theorem dX8_thing_71 : Dd mX8_thing.2.1 71 (.ireturn) 1 72 := ⟨by decide +kernel, rfl⟩
theorem dX8_thing_72 : Dd mX8_thing.2.1 72 (.aload_n 0) 1 73 := ⟨by decide +kernel, rfl⟩
theorem dX8_thing_73 : Dd mX8_thing.2.1 73 (.getfield 45) 3 76 := ⟨by decide +kernel, rfl⟩
theorem dX8_thing_76 : Dd mX8_thing.2.1 76 (.iload_n 1) 1 77 := ⟨by decide +kernel, rfl⟩
theorem dX8_thing_77 : Dd mX8_thing.2.1 77 (.invokevirtual 136) 3 80 := ⟨by decide +kernel, rfl⟩
theorem dX8_thing_80 : Dd mX8_thing.2.1 80 (.ireturn) 1 81 := ⟨by decide +kernel, rfl⟩
theorem dX8_thing_81 : Dd mX8_thing.2.1 81 (.iconst (-1)) 1 82 := ⟨by decide +kernel, rfl⟩
theorem dX8_thing_82 : Dd mX8_thing.2.1 82 (.ireturn) 1 83 := ⟨by decide +kernel, rfl⟩
theorem dX8_person_0 : Dd mX8_person.2.1 0 (.iload_n 1) 1 1 := ⟨by decide +kernel, rfl⟩
theorem dX8_person_1 : Dd mX8_person.2.1 1 (.ifCond .lt 14) 3 4 := ⟨by decide +kernel, rfl⟩
theorem dX8_person_4 : Dd mX8_person.2.1 4 (.iload_n 1) 1 5 := ⟨by decide +kernel, rfl⟩
theorem dX8_person_5 : Dd mX8_person.2.1 5 (.aload_n 0) 1 6 := ⟨by decide +kernel, rfl⟩
theorem dX8_person_6 : Dd mX8_person.2.1 6 (.getfield 28) 3 9 := ⟨by decide +kernel, rfl⟩
theorem dX8_person_9 : Dd mX8_person.2.1 9 (.getfield 139) 3 12 := ⟨by decide +kernel, rfl⟩
theorem dX8_person_12 : Dd mX8_person.2.1 12 (.if_icmp .lt 5) 3 15 := ⟨by decide +kernel, rfl⟩
theorem dX8_person_15 : Dd mX8_person.2.1 15 (.iconst (-1)) 1 16 := ⟨by decide +kernel, rfl⟩
theorem dX8_person_16 : Dd mX8_person.2.1 16 (.ireturn) 1 17 := ⟨by decide +kernel, rfl⟩
theorem dX8_person_17 : Dd mX8_person.2.1 17 (.iload_n 2) 1 18 := ⟨by decide +kernel, rfl⟩
theorem dX8_person_18 : Dd mX8_person.2.1 18 (.tableswitch 70 0 2 #[26, 35, 44]) 26 44 := ⟨by decide +kernel, rfl⟩
theorem dX8_person_44 : Dd mX8_person.2.1 44 (.aload_n 0) 1 45 := ⟨by decide +kernel, rfl⟩
theorem dX8_person_45 : Dd mX8_person.2.1 45 (.getfield 28) 3 48 := ⟨by decide +kernel, rfl⟩
theorem dX8_person_48 : Dd mX8_person.2.1 48 (.iload_n 1) 1 49 := ⟨by decide +kernel, rfl⟩
theorem dX8_person_49 : Dd mX8_person.2.1 49 (.invokevirtual 142) 3 52 := ⟨by decide +kernel, rfl⟩
theorem dX8_person_52 : Dd mX8_person.2.1 52 (.ireturn) 1 53 := ⟨by decide +kernel, rfl⟩
theorem dX8_person_53 : Dd mX8_person.2.1 53 (.aload_n 0) 1 54 := ⟨by decide +kernel, rfl⟩
theorem dX8_person_54 : Dd mX8_person.2.1 54 (.getfield 28) 3 57 := ⟨by decide +kernel, rfl⟩
theorem dX8_person_57 : Dd mX8_person.2.1 57 (.iload_n 1) 1 58 := ⟨by decide +kernel, rfl⟩
theorem dX8_person_58 : Dd mX8_person.2.1 58 (.invokevirtual 145) 3 61 := ⟨by decide +kernel, rfl⟩
theorem dX8_person_61 : Dd mX8_person.2.1 61 (.ireturn) 1 62 := ⟨by decide +kernel, rfl⟩
theorem dX8_person_62 : Dd mX8_person.2.1 62 (.aload_n 0) 1 63 := ⟨by decide +kernel, rfl⟩
theorem dX8_person_63 : Dd mX8_person.2.1 63 (.getfield 38) 3 66 := ⟨by decide +kernel, rfl⟩
theorem dX8_person_66 : Dd mX8_person.2.1 66 (.aload_n 0) 1 67 := ⟨by decide +kernel, rfl⟩
theorem dX8_person_67 : Dd mX8_person.2.1 67 (.getfield 45) 3 70 := ⟨by decide +kernel, rfl⟩
theorem dX8_person_70 : Dd mX8_person.2.1 70 (.aload_n 0) 1 71 := ⟨by decide +kernel, rfl⟩
theorem dX8_person_71 : Dd mX8_person.2.1 71 (.getfield 28) 3 74 := ⟨by decide +kernel, rfl⟩
theorem dX8_person_74 : Dd mX8_person.2.1 74 (.getfield 148) 3 77 := ⟨by decide +kernel, rfl⟩
theorem dX8_person_77 : Dd mX8_person.2.1 77 (.invokevirtual 151) 3 80 := ⟨by decide +kernel, rfl⟩
theorem dX8_person_80 : Dd mX8_person.2.1 80 (.invokevirtual 154) 3 83 := ⟨by decide +kernel, rfl⟩
theorem dX8_person_83 : Dd mX8_person.2.1 83 (.iload_n 1) 1 84 := ⟨by decide +kernel, rfl⟩
theorem dX8_person_84 : Dd mX8_person.2.1 84 (.ishr) 1 85 := ⟨by decide +kernel, rfl⟩
theorem dX8_person_85 : Dd mX8_person.2.1 85 (.iconst 1) 1 86 := ⟨by decide +kernel, rfl⟩
theorem dX8_person_86 : Dd mX8_person.2.1 86 (.iand) 1 87 := ⟨by decide +kernel, rfl⟩
theorem dX8_person_87 : Dd mX8_person.2.1 87 (.ireturn) 1 88 := ⟨by decide +kernel, rfl⟩
theorem dX8_person_88 : Dd mX8_person.2.1 88 (.iconst (-1)) 1 89 := ⟨by decide +kernel, rfl⟩
theorem dX8_person_89 : Dd mX8_person.2.1 89 (.ireturn) 1 90 := ⟨by decide +kernel, rfl⟩
theorem dX8_beast_0 : Dd mX8_beast.2.1 0 (.aload_n 0) 1 1 := ⟨by decide +kernel, rfl⟩
theorem dX8_beast_1 : Dd mX8_beast.2.1 1 (.iload_n 1) 1 2 := ⟨by decide +kernel, rfl⟩
theorem dX8_beast_2 : Dd mX8_beast.2.1 2 (.invokevirtual 157) 3 5 := ⟨by decide +kernel, rfl⟩
theorem dX8_beast_5 : Dd mX8_beast.2.1 5 (.ifCond .ne 5) 3 8 := ⟨by decide +kernel, rfl⟩
theorem dX8_beast_8 : Dd mX8_beast.2.1 8 (.iconst (-1)) 1 9 := ⟨by decide +kernel, rfl⟩
theorem dX8_beast_9 : Dd mX8_beast.2.1 9 (.ireturn) 1 10 := ⟨by decide +kernel, rfl⟩
theorem dX8_beast_10 : Dd mX8_beast.2.1 10 (.iload_n 2) 1 11 := ⟨by decide +kernel, rfl⟩
theorem dX8_beast_11 : Dd mX8_beast.2.1 11 (.tableswitch 81 0 3 #[29, 38, 47, 72]) 29 40 := ⟨by decide +kernel, rfl⟩
theorem dX8_beast_40 : Dd mX8_beast.2.1 40 (.aload_n 0) 1 41 := ⟨by decide +kernel, rfl⟩
theorem dX8_beast_41 : Dd mX8_beast.2.1 41 (.getfield 28) 3 44 := ⟨by decide +kernel, rfl⟩
theorem dX8_beast_44 : Dd mX8_beast.2.1 44 (.iload_n 1) 1 45 := ⟨by decide +kernel, rfl⟩
theorem dX8_beast_45 : Dd mX8_beast.2.1 45 (.invokevirtual 160) 3 48 := ⟨by decide +kernel, rfl⟩
theorem dX8_beast_48 : Dd mX8_beast.2.1 48 (.ireturn) 1 49 := ⟨by decide +kernel, rfl⟩
theorem dX8_beast_49 : Dd mX8_beast.2.1 49 (.aload_n 0) 1 50 := ⟨by decide +kernel, rfl⟩
theorem dX8_beast_50 : Dd mX8_beast.2.1 50 (.getfield 45) 3 53 := ⟨by decide +kernel, rfl⟩
theorem dX8_beast_53 : Dd mX8_beast.2.1 53 (.iload_n 1) 1 54 := ⟨by decide +kernel, rfl⟩
theorem dX8_beast_54 : Dd mX8_beast.2.1 54 (.invokevirtual 163) 3 57 := ⟨by decide +kernel, rfl⟩
theorem dX8_beast_57 : Dd mX8_beast.2.1 57 (.ireturn) 1 58 := ⟨by decide +kernel, rfl⟩
theorem dX8_beast_58 : Dd mX8_beast.2.1 58 (.aload_n 0) 1 59 := ⟨by decide +kernel, rfl⟩
theorem dX8_beast_59 : Dd mX8_beast.2.1 59 (.getfield 45) 3 62 := ⟨by decide +kernel, rfl⟩
theorem dX8_beast_62 : Dd mX8_beast.2.1 62 (.iload_n 1) 1 63 := ⟨by decide +kernel, rfl⟩
theorem dX8_beast_63 : Dd mX8_beast.2.1 63 (.invokevirtual 166) 3 66 := ⟨by decide +kernel, rfl⟩
theorem dX8_beast_66 : Dd mX8_beast.2.1 66 (.ifCond .eq 14) 3 69 := ⟨by decide +kernel, rfl⟩
theorem dX8_beast_69 : Dd mX8_beast.2.1 69 (.aload_n 0) 1 70 := ⟨by decide +kernel, rfl⟩
theorem dX8_beast_70 : Dd mX8_beast.2.1 70 (.getfield 45) 3 73 := ⟨by decide +kernel, rfl⟩
theorem dX8_beast_73 : Dd mX8_beast.2.1 73 (.iload_n 1) 1 74 := ⟨by decide +kernel, rfl⟩
theorem dX8_beast_74 : Dd mX8_beast.2.1 74 (.invokevirtual 169) 3 77 := ⟨by decide +kernel, rfl⟩
theorem dX8_beast_77 : Dd mX8_beast.2.1 77 (.goto 5) 3 80 := ⟨by decide +kernel, rfl⟩
theorem dX8_beast_80 : Dd mX8_beast.2.1 80 (.bipush (-4)) 2 82 := ⟨by decide +kernel, rfl⟩
theorem dX8_beast_82 : Dd mX8_beast.2.1 82 (.ireturn) 1 83 := ⟨by decide +kernel, rfl⟩
theorem dX8_beast_83 : Dd mX8_beast.2.1 83 (.aload_n 0) 1 84 := ⟨by decide +kernel, rfl⟩
theorem dX8_beast_84 : Dd mX8_beast.2.1 84 (.getfield 45) 3 87 := ⟨by decide +kernel, rfl⟩
theorem dX8_beast_87 : Dd mX8_beast.2.1 87 (.iload_n 1) 1 88 := ⟨by decide +kernel, rfl⟩
theorem dX8_beast_88 : Dd mX8_beast.2.1 88 (.invokevirtual 172) 3 91 := ⟨by decide +kernel, rfl⟩
theorem dX8_beast_91 : Dd mX8_beast.2.1 91 (.ireturn) 1 92 := ⟨by decide +kernel, rfl⟩
theorem dX8_beast_92 : Dd mX8_beast.2.1 92 (.iconst (-1)) 1 93 := ⟨by decide +kernel, rfl⟩
theorem dX8_beast_93 : Dd mX8_beast.2.1 93 (.ireturn) 1 94 := ⟨by decide +kernel, rfl⟩
theorem dX8_strength_0 : Dd mX8_strength.2.1 0 (.aload_n 0) 1 1 := ⟨by decide +kernel, rfl⟩
theorem dX8_strength_1 : Dd mX8_strength.2.1 1 (.getfield 38) 3 4 := ⟨by decide +kernel, rfl⟩
theorem dX8_strength_4 : Dd mX8_strength.2.1 4 (.iload_n 1) 1 5 := ⟨by decide +kernel, rfl⟩
theorem dX8_strength_5 : Dd mX8_strength.2.1 5 (.invokevirtual 175) 3 8 := ⟨by decide +kernel, rfl⟩
theorem dX8_strength_8 : Dd mX8_strength.2.1 8 (.ifCond .eq 14) 3 11 := ⟨by decide +kernel, rfl⟩
theorem dX8_strength_11 : Dd mX8_strength.2.1 11 (.aload_n 0) 1 12 := ⟨by decide +kernel, rfl⟩
theorem dX8_strength_12 : Dd mX8_strength.2.1 12 (.getfield 38) 3 15 := ⟨by decide +kernel, rfl⟩
theorem dX8_strength_15 : Dd mX8_strength.2.1 15 (.iload_n 1) 1 16 := ⟨by decide +kernel, rfl⟩
theorem dX8_strength_16 : Dd mX8_strength.2.1 16 (.invokevirtual 178) 3 19 := ⟨by decide +kernel, rfl⟩
theorem dX8_strength_19 : Dd mX8_strength.2.1 19 (.goto 4) 3 22 := ⟨by decide +kernel, rfl⟩
theorem dX8_strength_22 : Dd mX8_strength.2.1 22 (.iconst (-1)) 1 23 := ⟨by decide +kernel, rfl⟩
theorem dX8_strength_23 : Dd mX8_strength.2.1 23 (.ireturn) 1 24 := ⟨by decide +kernel, rfl⟩
theorem dX8_follows_0 : Dd mX8_follows.2.1 0 (.aload_n 0) 1 1 := ⟨by decide +kernel, rfl⟩
theorem dX8_follows_1 : Dd mX8_follows.2.1 1 (.getfield 38) 3 4 := ⟨by decide +kernel, rfl⟩
theorem dX8_follows_4 : Dd mX8_follows.2.1 4 (.iload_n 1) 1 5 := ⟨by decide +kernel, rfl⟩
theorem dX8_follows_5 : Dd mX8_follows.2.1 5 (.invokevirtual 175) 3 8 := ⟨by decide +kernel, rfl⟩
theorem dX8_follows_8 : Dd mX8_follows.2.1 8 (.ifCond .eq 14) 3 11 := ⟨by decide +kernel, rfl⟩
theorem dX8_follows_11 : Dd mX8_follows.2.1 11 (.aload_n 0) 1 12 := ⟨by decide +kernel, rfl⟩
theorem dX8_follows_12 : Dd mX8_follows.2.1 12 (.getfield 38) 3 15 := ⟨by decide +kernel, rfl⟩
theorem dX8_follows_15 : Dd mX8_follows.2.1 15 (.iload_n 1) 1 16 := ⟨by decide +kernel, rfl⟩
theorem dX8_follows_16 : Dd mX8_follows.2.1 16 (.invokevirtual 181) 3 19 := ⟨by decide +kernel, rfl⟩
theorem dX8_follows_19 : Dd mX8_follows.2.1 19 (.goto 4) 3 22 := ⟨by decide +kernel, rfl⟩
theorem dX8_follows_22 : Dd mX8_follows.2.1 22 (.iconst (-1)) 1 23 := ⟨by decide +kernel, rfl⟩
theorem dX8_follows_23 : Dd mX8_follows.2.1 23 (.ireturn) 1 24 := ⟨by decide +kernel, rfl⟩
theorem dX8_missed_0 : Dd mX8_missed.2.1 0 (.aload_n 0) 1 1 := ⟨by decide +kernel, rfl⟩
theorem dX8_missed_1 : Dd mX8_missed.2.1 1 (.aload_n 0) 1 2 := ⟨by decide +kernel, rfl⟩
theorem dX8_missed_2 : Dd mX8_missed.2.1 2 (.getfield 45) 3 5 := ⟨by decide +kernel, rfl⟩
theorem dX8_missed_5 : Dd mX8_missed.2.1 5 (.invokevirtual 184) 3 8 := ⟨by decide +kernel, rfl⟩
theorem dX8_missed_8 : Dd mX8_missed.2.1 8 (.ireturn) 1 9 := ⟨by decide +kernel, rfl⟩
theorem dX8_bind_0 : Dd mX8_bind.2.1 0 (.aload_n 0) 1 1 := ⟨by decide +kernel, rfl⟩
theorem dX8_bind_1 : Dd mX8_bind.2.1 1 (.iload_n 1) 1 2 := ⟨by decide +kernel, rfl⟩
theorem dX8_bind_2 : Dd mX8_bind.2.1 2 (.invokevirtual 157) 3 5 := ⟨by decide +kernel, rfl⟩
theorem dX8_bind_5 : Dd mX8_bind.2.1 5 (.ifCond .eq 14) 3 8 := ⟨by decide +kernel, rfl⟩
theorem dX8_bind_8 : Dd mX8_bind.2.1 8 (.aload_n 0) 1 9 := ⟨by decide +kernel, rfl⟩
theorem dX8_bind_9 : Dd mX8_bind.2.1 9 (.getfield 38) 3 12 := ⟨by decide +kernel, rfl⟩
theorem dX8_bind_12 : Dd mX8_bind.2.1 12 (.iload_n 2) 1 13 := ⟨by decide +kernel, rfl⟩
theorem dX8_bind_13 : Dd mX8_bind.2.1 13 (.invokevirtual 175) 3 16 := ⟨by decide +kernel, rfl⟩
theorem dX8_bind_16 : Dd mX8_bind.2.1 16 (.ifCond .ne 5) 3 19 := ⟨by decide +kernel, rfl⟩
theorem dX8_bind_19 : Dd mX8_bind.2.1 19 (.iconst (-1)) 1 20 := ⟨by decide +kernel, rfl⟩
theorem dX8_bind_20 : Dd mX8_bind.2.1 20 (.ireturn) 1 21 := ⟨by decide +kernel, rfl⟩
theorem dX8_bind_21 : Dd mX8_bind.2.1 21 (.iload_n 2) 1 22 := ⟨by decide +kernel, rfl⟩
theorem dX8_bind_22 : Dd mX8_bind.2.1 22 (.aload_n 0) 1 23 := ⟨by decide +kernel, rfl⟩
theorem dX8_bind_23 : Dd mX8_bind.2.1 23 (.getfield 38) 3 26 := ⟨by decide +kernel, rfl⟩
theorem dX8_bind_26 : Dd mX8_bind.2.1 26 (.aload_n 0) 1 27 := ⟨by decide +kernel, rfl⟩
theorem dX8_bind_27 : Dd mX8_bind.2.1 27 (.getfield 45) 3 30 := ⟨by decide +kernel, rfl⟩
theorem dX8_bind_30 : Dd mX8_bind.2.1 30 (.invokevirtual 188) 3 33 := ⟨by decide +kernel, rfl⟩
theorem dX8_bind_33 : Dd mX8_bind.2.1 33 (.invokevirtual 191) 3 36 := ⟨by decide +kernel, rfl⟩
theorem dX8_bind_36 : Dd mX8_bind.2.1 36 (.iconst (-1)) 1 37 := ⟨by decide +kernel, rfl⟩
theorem dX8_bind_37 : Dd mX8_bind.2.1 37 (.ixor) 1 38 := ⟨by decide +kernel, rfl⟩
theorem dX8_bind_38 : Dd mX8_bind.2.1 38 (.iand) 1 39 := ⟨by decide +kernel, rfl⟩
theorem dX8_bind_39 : Dd mX8_bind.2.1 39 (.ifCond .ne 7) 3 42 := ⟨by decide +kernel, rfl⟩
theorem dX8_bind_42 : Dd mX8_bind.2.1 42 (.iconst 1) 1 43 := ⟨by decide +kernel, rfl⟩
theorem dX8_bind_43 : Dd mX8_bind.2.1 43 (.goto 4) 3 46 := ⟨by decide +kernel, rfl⟩
theorem dX8_bind_46 : Dd mX8_bind.2.1 46 (.iconst 0) 1 47 := ⟨by decide +kernel, rfl⟩
theorem dX8_bind_47 : Dd mX8_bind.2.1 47 (.istore_n 3) 1 48 := ⟨by decide +kernel, rfl⟩
theorem dX8_bind_48 : Dd mX8_bind.2.1 48 (.aload_n 0) 1 49 := ⟨by decide +kernel, rfl⟩
theorem dX8_bind_49 : Dd mX8_bind.2.1 49 (.getfield 45) 3 52 := ⟨by decide +kernel, rfl⟩
theorem dX8_bind_52 : Dd mX8_bind.2.1 52 (.iload_n 1) 1 53 := ⟨by decide +kernel, rfl⟩
theorem dX8_bind_53 : Dd mX8_bind.2.1 53 (.invokevirtual 166) 3 56 := ⟨by decide +kernel, rfl⟩
theorem dX8_bind_56 : Dd mX8_bind.2.1 56 (.ifCond .ne 26) 3 59 := ⟨by decide +kernel, rfl⟩
theorem dX8_bind_59 : Dd mX8_bind.2.1 59 (.iload_n 3) 1 60 := ⟨by decide +kernel, rfl⟩
theorem dX8_bind_60 : Dd mX8_bind.2.1 60 (.ifCond .eq 22) 3 63 := ⟨by decide +kernel, rfl⟩
theorem dX8_bind_63 : Dd mX8_bind.2.1 63 (.aload_n 0) 1 64 := ⟨by decide +kernel, rfl⟩
theorem dX8_bind_64 : Dd mX8_bind.2.1 64 (.getfield 38) 3 67 := ⟨by decide +kernel, rfl⟩
theorem dX8_bind_67 : Dd mX8_bind.2.1 67 (.iload_n 2) 1 68 := ⟨by decide +kernel, rfl⟩
theorem dX8_bind_68 : Dd mX8_bind.2.1 68 (.invokevirtual 178) 3 71 := ⟨by decide +kernel, rfl⟩
theorem dX8_bind_71 : Dd mX8_bind.2.1 71 (.aload_n 0) 1 72 := ⟨by decide +kernel, rfl⟩
theorem dX8_bind_72 : Dd mX8_bind.2.1 72 (.getfield 28) 3 75 := ⟨by decide +kernel, rfl⟩
theorem dX8_bind_75 : Dd mX8_bind.2.1 75 (.iload_n 1) 1 76 := ⟨by decide +kernel, rfl⟩
theorem dX8_bind_76 : Dd mX8_bind.2.1 76 (.invokevirtual 160) 3 79 := ⟨by decide +kernel, rfl⟩
theorem dX8_bind_79 : Dd mX8_bind.2.1 79 (.if_icmp .ge 6) 3 82 := ⟨by decide +kernel, rfl⟩
theorem dX8_bind_82 : Dd mX8_bind.2.1 82 (.bipush (-2)) 2 84 := ⟨by decide +kernel, rfl⟩
theorem dX8_bind_84 : Dd mX8_bind.2.1 84 (.ireturn) 1 85 := ⟨by decide +kernel, rfl⟩
theorem dX8_bind_85 : Dd mX8_bind.2.1 85 (.aload_n 0) 1 86 := ⟨by decide +kernel, rfl⟩
theorem dX8_bind_86 : Dd mX8_bind.2.1 86 (.getfield 57) 3 89 := ⟨by decide +kernel, rfl⟩
theorem dX8_bind_89 : Dd mX8_bind.2.1 89 (.aload_n 0) 1 90 := ⟨by decide +kernel, rfl⟩
theorem dX8_bind_90 : Dd mX8_bind.2.1 90 (.getfield 45) 3 93 := ⟨by decide +kernel, rfl⟩
theorem dX8_bind_93 : Dd mX8_bind.2.1 93 (.invokevirtual 194) 3 96 := ⟨by decide +kernel, rfl⟩
theorem dX8_bind_96 : Dd mX8_bind.2.1 96 (.aload_n 0) 1 97 := ⟨by decide +kernel, rfl⟩
theorem dX8_bind_97 : Dd mX8_bind.2.1 97 (.getfield 45) 3 100 := ⟨by decide +kernel, rfl⟩
theorem dX8_bind_100 : Dd mX8_bind.2.1 100 (.iload_n 1) 1 101 := ⟨by decide +kernel, rfl⟩
theorem dX8_bind_101 : Dd mX8_bind.2.1 101 (.iload_n 2) 1 102 := ⟨by decide +kernel, rfl⟩
theorem dX8_bind_102 : Dd mX8_bind.2.1 102 (.invokevirtual 198) 3 105 := ⟨by decide +kernel, rfl⟩
theorem dX8_bind_105 : Dd mX8_bind.2.1 105 (.aload_n 0) 1 106 := ⟨by decide +kernel, rfl⟩
theorem dX8_bind_106 : Dd mX8_bind.2.1 106 (.getfield 38) 3 109 := ⟨by decide +kernel, rfl⟩
theorem dX8_bind_109 : Dd mX8_bind.2.1 109 (.iload_n 2) 1 110 := ⟨by decide +kernel, rfl⟩
theorem dX8_bind_110 : Dd mX8_bind.2.1 110 (.invokevirtual 178) 3 113 := ⟨by decide +kernel, rfl⟩
theorem dX8_bind_113 : Dd mX8_bind.2.1 113 (.ireturn) 1 114 := ⟨by decide +kernel, rfl⟩
theorem dX8_loosen_0 : Dd mX8_loosen.2.1 0 (.aload_n 0) 1 1 := ⟨by decide +kernel, rfl⟩
theorem dX8_loosen_1 : Dd mX8_loosen.2.1 1 (.iload_n 1) 1 2 := ⟨by decide +kernel, rfl⟩
theorem dX8_loosen_2 : Dd mX8_loosen.2.1 2 (.invokevirtual 157) 3 5 := ⟨by decide +kernel, rfl⟩
theorem dX8_loosen_5 : Dd mX8_loosen.2.1 5 (.ifCond .ne 5) 3 8 := ⟨by decide +kernel, rfl⟩
theorem dX8_loosen_8 : Dd mX8_loosen.2.1 8 (.iconst (-1)) 1 9 := ⟨by decide +kernel, rfl⟩
theorem dX8_loosen_9 : Dd mX8_loosen.2.1 9 (.ireturn) 1 10 := ⟨by decide +kernel, rfl⟩
theorem dX8_loosen_10 : Dd mX8_loosen.2.1 10 (.aload_n 0) 1 11 := ⟨by decide +kernel, rfl⟩
theorem dX8_loosen_11 : Dd mX8_loosen.2.1 11 (.getfield 45) 3 14 := ⟨by decide +kernel, rfl⟩
theorem dX8_loosen_14 : Dd mX8_loosen.2.1 14 (.iload_n 1) 1 15 := ⟨by decide +kernel, rfl⟩
theorem dX8_loosen_15 : Dd mX8_loosen.2.1 15 (.invokevirtual 166) 3 18 := ⟨by decide +kernel, rfl⟩
theorem dX8_loosen_18 : Dd mX8_loosen.2.1 18 (.ifCond .ne 6) 3 21 := ⟨by decide +kernel, rfl⟩
theorem dX8_loosen_21 : Dd mX8_loosen.2.1 21 (.bipush (-2)) 2 23 := ⟨by decide +kernel, rfl⟩
theorem dX8_loosen_23 : Dd mX8_loosen.2.1 23 (.ireturn) 1 24 := ⟨by decide +kernel, rfl⟩
theorem dX8_loosen_24 : Dd mX8_loosen.2.1 24 (.aload_n 0) 1 25 := ⟨by decide +kernel, rfl⟩
theorem dX8_loosen_25 : Dd mX8_loosen.2.1 25 (.getfield 57) 3 28 := ⟨by decide +kernel, rfl⟩
theorem dX8_loosen_28 : Dd mX8_loosen.2.1 28 (.aload_n 0) 1 29 := ⟨by decide +kernel, rfl⟩
theorem dX8_loosen_29 : Dd mX8_loosen.2.1 29 (.getfield 45) 3 32 := ⟨by decide +kernel, rfl⟩
theorem dX8_loosen_32 : Dd mX8_loosen.2.1 32 (.invokevirtual 194) 3 35 := ⟨by decide +kernel, rfl⟩
theorem dX8_loosen_35 : Dd mX8_loosen.2.1 35 (.aload_n 0) 1 36 := ⟨by decide +kernel, rfl⟩
theorem dX8_loosen_36 : Dd mX8_loosen.2.1 36 (.getfield 45) 3 39 := ⟨by decide +kernel, rfl⟩
theorem dX8_loosen_39 : Dd mX8_loosen.2.1 39 (.iload_n 1) 1 40 := ⟨by decide +kernel, rfl⟩
theorem dX8_loosen_40 : Dd mX8_loosen.2.1 40 (.invokevirtual 163) 3 43 := ⟨by decide +kernel, rfl⟩
theorem dX8_loosen_43 : Dd mX8_loosen.2.1 43 (.invokestatic 202) 3 46 := ⟨by decide +kernel, rfl⟩
theorem dX8_loosen_46 : Dd mX8_loosen.2.1 46 (.istore_n 2) 1 47 := ⟨by decide +kernel, rfl⟩
theorem dX8_loosen_47 : Dd mX8_loosen.2.1 47 (.aload_n 0) 1 48 := ⟨by decide +kernel, rfl⟩
theorem dX8_loosen_48 : Dd mX8_loosen.2.1 48 (.getfield 45) 3 51 := ⟨by decide +kernel, rfl⟩
theorem dX8_loosen_51 : Dd mX8_loosen.2.1 51 (.iload_n 1) 1 52 := ⟨by decide +kernel, rfl⟩
theorem dX8_loosen_52 : Dd mX8_loosen.2.1 52 (.invokevirtual 207) 3 55 := ⟨by decide +kernel, rfl⟩
theorem dX8_loosen_55 : Dd mX8_loosen.2.1 55 (.iload_n 2) 1 56 := ⟨by decide +kernel, rfl⟩
theorem dX8_loosen_56 : Dd mX8_loosen.2.1 56 (.ireturn) 1 57 := ⟨by decide +kernel, rfl⟩
theorem dX8_days_0 : Dd mX8_days.2.1 0 (.iload_n 1) 1 1 := ⟨by decide +kernel, rfl⟩
theorem dX8_days_1 : Dd mX8_days.2.1 1 (.iconst 1) 1 2 := ⟨by decide +kernel, rfl⟩
theorem dX8_days_2 : Dd mX8_days.2.1 2 (.if_icmp .lt 9) 3 5 := ⟨by decide +kernel, rfl⟩
theorem dX8_days_5 : Dd mX8_days.2.1 5 (.iload_n 1) 1 6 := ⟨by decide +kernel, rfl⟩
theorem dX8_days_6 : Dd mX8_days.2.1 6 (.bipush 40) 2 8 := ⟨by decide +kernel, rfl⟩
theorem dX8_days_8 : Dd mX8_days.2.1 8 (.if_icmp .le 5) 3 11 := ⟨by decide +kernel, rfl⟩
theorem dX8_days_11 : Dd mX8_days.2.1 11 (.iconst (-1)) 1 12 := ⟨by decide +kernel, rfl⟩
theorem dX8_days_12 : Dd mX8_days.2.1 12 (.ireturn) 1 13 := ⟨by decide +kernel, rfl⟩
theorem dX8_days_13 : Dd mX8_days.2.1 13 (.aload_n 0) 1 14 := ⟨by decide +kernel, rfl⟩
theorem dX8_days_14 : Dd mX8_days.2.1 14 (.getfield 45) 3 17 := ⟨by decide +kernel, rfl⟩
theorem dX8_days_17 : Dd mX8_days.2.1 17 (.getfield 210) 3 20 := ⟨by decide +kernel, rfl⟩
theorem dX8_days_20 : Dd mX8_days.2.1 20 (.iload_n 1) 1 21 := ⟨by decide +kernel, rfl⟩
theorem dX8_days_21 : Dd mX8_days.2.1 21 (.iadd) 1 22 := ⟨by decide +kernel, rfl⟩
theorem dX8_days_22 : Dd mX8_days.2.1 22 (.sipush 999) 3 25 := ⟨by decide +kernel, rfl⟩
theorem dX8_days_25 : Dd mX8_days.2.1 25 (.if_icmp .le 6) 3 28 := ⟨by decide +kernel, rfl⟩
theorem dX8_days_28 : Dd mX8_days.2.1 28 (.bipush (-2)) 2 30 := ⟨by decide +kernel, rfl⟩
theorem dX8_days_30 : Dd mX8_days.2.1 30 (.ireturn) 1 31 := ⟨by decide +kernel, rfl⟩
theorem dX8_days_31 : Dd mX8_days.2.1 31 (.aload_n 0) 1 32 := ⟨by decide +kernel, rfl⟩
theorem dX8_days_32 : Dd mX8_days.2.1 32 (.getfield 57) 3 35 := ⟨by decide +kernel, rfl⟩
theorem dX8_days_35 : Dd mX8_days.2.1 35 (.aload_n 0) 1 36 := ⟨by decide +kernel, rfl⟩
theorem dX8_days_36 : Dd mX8_days.2.1 36 (.getfield 45) 3 39 := ⟨by decide +kernel, rfl⟩
theorem dX8_days_39 : Dd mX8_days.2.1 39 (.invokevirtual 194) 3 42 := ⟨by decide +kernel, rfl⟩
theorem dX8_days_42 : Dd mX8_days.2.1 42 (.iconst 0) 1 43 := ⟨by decide +kernel, rfl⟩
theorem dX8_days_43 : Dd mX8_days.2.1 43 (.istore_n 2) 1 44 := ⟨by decide +kernel, rfl⟩
theorem dX8_days_44 : Dd mX8_days.2.1 44 (.iconst 0) 1 45 := ⟨by decide +kernel, rfl⟩
theorem dX8_days_45 : Dd mX8_days.2.1 45 (.istore_n 3) 1 46 := ⟨by decide +kernel, rfl⟩
theorem dX8_days_46 : Dd mX8_days.2.1 46 (.iload_n 3) 1 47 := ⟨by decide +kernel, rfl⟩
theorem dX8_days_47 : Dd mX8_days.2.1 47 (.iload_n 1) 1 48 := ⟨by decide +kernel, rfl⟩
theorem dX8_days_48 : Dd mX8_days.2.1 48 (.if_icmp .ge 27) 3 51 := ⟨by decide +kernel, rfl⟩
theorem dX8_days_51 : Dd mX8_days.2.1 51 (.iload_n 2) 1 52 := ⟨by decide +kernel, rfl⟩
theorem dX8_days_52 : Dd mX8_days.2.1 52 (.aload_n 0) 1 53 := ⟨by decide +kernel, rfl⟩
theorem dX8_days_53 : Dd mX8_days.2.1 53 (.getfield 45) 3 56 := ⟨by decide +kernel, rfl⟩
theorem dX8_days_56 : Dd mX8_days.2.1 56 (.aload_n 0) 1 57 := ⟨by decide +kernel, rfl⟩
theorem dX8_days_57 : Dd mX8_days.2.1 57 (.getfield 28) 3 60 := ⟨by decide +kernel, rfl⟩
theorem dX8_days_60 : Dd mX8_days.2.1 60 (.aload_n 0) 1 61 := ⟨by decide +kernel, rfl⟩
theorem dX8_days_61 : Dd mX8_days.2.1 61 (.getfield 38) 3 64 := ⟨by decide +kernel, rfl⟩
theorem dX8_days_64 : Dd mX8_days.2.1 64 (.invokevirtual 213) 3 67 := ⟨by decide +kernel, rfl⟩
theorem dX8_days_67 : Dd mX8_days.2.1 67 (.iadd) 1 68 := ⟨by decide +kernel, rfl⟩
theorem dX8_days_68 : Dd mX8_days.2.1 68 (.istore_n 2) 1 69 := ⟨by decide +kernel, rfl⟩
theorem dX8_days_69 : Dd mX8_days.2.1 69 (.iinc 3 1) 3 72 := ⟨by decide +kernel, rfl⟩
theorem dX8_days_72 : Dd mX8_days.2.1 72 (.goto (-26)) 3 75 := ⟨by decide +kernel, rfl⟩
theorem dX8_days_75 : Dd mX8_days.2.1 75 (.iload_n 2) 1 76 := ⟨by decide +kernel, rfl⟩
theorem dX8_days_76 : Dd mX8_days.2.1 76 (.ireturn) 1 77 := ⟨by decide +kernel, rfl⟩
theorem dX8_undo_0 : Dd mX8_undo.2.1 0 (.aload_n 0) 1 1 := ⟨by decide +kernel, rfl⟩
theorem dX8_undo_1 : Dd mX8_undo.2.1 1 (.getfield 57) 3 4 := ⟨by decide +kernel, rfl⟩
theorem dX8_undo_4 : Dd mX8_undo.2.1 4 (.aload_n 0) 1 5 := ⟨by decide +kernel, rfl⟩
theorem dX8_undo_5 : Dd mX8_undo.2.1 5 (.getfield 45) 3 8 := ⟨by decide +kernel, rfl⟩
theorem dX8_undo_8 : Dd mX8_undo.2.1 8 (.invokevirtual 217) 3 11 := ⟨by decide +kernel, rfl⟩
theorem dX8_undo_11 : Dd mX8_undo.2.1 11 (.ifCond .eq 13) 3 14 := ⟨by decide +kernel, rfl⟩
theorem dX8_undo_14 : Dd mX8_undo.2.1 14 (.aload_n 0) 1 15 := ⟨by decide +kernel, rfl⟩
theorem dX8_undo_15 : Dd mX8_undo.2.1 15 (.getfield 57) 3 18 := ⟨by decide +kernel, rfl⟩
theorem dX8_undo_18 : Dd mX8_undo.2.1 18 (.invokevirtual 221) 3 21 := ⟨by decide +kernel, rfl⟩
theorem dX8_undo_21 : Dd mX8_undo.2.1 21 (.goto 5) 3 24 := ⟨by decide +kernel, rfl⟩
theorem dX8_undo_24 : Dd mX8_undo.2.1 24 (.bipush (-2)) 2 26 := ⟨by decide +kernel, rfl⟩
theorem dX8_undo_26 : Dd mX8_undo.2.1 26 (.ireturn) 1 27 := ⟨by decide +kernel, rfl⟩
theorem dX8_cost_0 : Dd mX8_cost.2.1 0 (.aload_n 0) 1 1 := ⟨by decide +kernel, rfl⟩
theorem dX8_cost_1 : Dd mX8_cost.2.1 1 (.getfield 38) 3 4 := ⟨by decide +kernel, rfl⟩
theorem dX8_cost_4 : Dd mX8_cost.2.1 4 (.iload_n 1) 1 5 := ⟨by decide +kernel, rfl⟩
theorem dX8_cost_5 : Dd mX8_cost.2.1 5 (.invokevirtual 175) 3 8 := ⟨by decide +kernel, rfl⟩
theorem dX8_cost_8 : Dd mX8_cost.2.1 8 (.ifCond .eq 21) 3 11 := ⟨by decide +kernel, rfl⟩
theorem dX8_cost_11 : Dd mX8_cost.2.1 11 (.aload_n 0) 1 12 := ⟨by decide +kernel, rfl⟩
theorem dX8_cost_12 : Dd mX8_cost.2.1 12 (.getfield 38) 3 15 := ⟨by decide +kernel, rfl⟩
theorem dX8_cost_15 : Dd mX8_cost.2.1 15 (.iload_n 1) 1 16 := ⟨by decide +kernel, rfl⟩
theorem dX8_cost_16 : Dd mX8_cost.2.1 16 (.aload_n 0) 1 17 := ⟨by decide +kernel, rfl⟩
theorem dX8_cost_17 : Dd mX8_cost.2.1 17 (.getfield 45) 3 20 := ⟨by decide +kernel, rfl⟩
theorem dX8_cost_20 : Dd mX8_cost.2.1 20 (.invokevirtual 188) 3 23 := ⟨by decide +kernel, rfl⟩
theorem dX8_cost_23 : Dd mX8_cost.2.1 23 (.invokevirtual 222) 3 26 := ⟨by decide +kernel, rfl⟩
theorem dX8_cost_26 : Dd mX8_cost.2.1 26 (.goto 4) 3 29 := ⟨by decide +kernel, rfl⟩
theorem dX8_cost_29 : Dd mX8_cost.2.1 29 (.iconst (-1)) 1 30 := ⟨by decide +kernel, rfl⟩
theorem dX8_cost_30 : Dd mX8_cost.2.1 30 (.ireturn) 1 31 := ⟨by decide +kernel, rfl⟩
theorem dX8_least_0 : Dd mX8_least.2.1 0 (.aload_n 0) 1 1 := ⟨by decide +kernel, rfl⟩
theorem dX8_least_1 : Dd mX8_least.2.1 1 (.iload_n 1) 1 2 := ⟨by decide +kernel, rfl⟩
theorem dX8_least_2 : Dd mX8_least.2.1 2 (.invokevirtual 157) 3 5 := ⟨by decide +kernel, rfl⟩
theorem dX8_least_5 : Dd mX8_least.2.1 5 (.ifCond .eq 12) 3 8 := ⟨by decide +kernel, rfl⟩
theorem dX8_least_8 : Dd mX8_least.2.1 8 (.iload_n 2) 1 9 := ⟨by decide +kernel, rfl⟩
theorem dX8_least_9 : Dd mX8_least.2.1 9 (.ifCond .lt 8) 3 12 := ⟨by decide +kernel, rfl⟩
theorem dX8_least_12 : Dd mX8_least.2.1 12 (.iload_n 2) 1 13 := ⟨by decide +kernel, rfl⟩
theorem dX8_least_13 : Dd mX8_least.2.1 13 (.iconst 1) 1 14 := ⟨by decide +kernel, rfl⟩
theorem dX8_least_14 : Dd mX8_least.2.1 14 (.if_icmp .le 5) 3 17 := ⟨by decide +kernel, rfl⟩
theorem dX8_least_17 : Dd mX8_least.2.1 17 (.iconst (-1)) 1 18 := ⟨by decide +kernel, rfl⟩
theorem dX8_least_18 : Dd mX8_least.2.1 18 (.ireturn) 1 19 := ⟨by decide +kernel, rfl⟩
theorem dX8_least_19 : Dd mX8_least.2.1 19 (.aload_n 0) 1 20 := ⟨by decide +kernel, rfl⟩
theorem dX8_least_20 : Dd mX8_least.2.1 20 (.getfield 69) 3 23 := ⟨by decide +kernel, rfl⟩
theorem dX8_least_23 : Dd mX8_least.2.1 23 (.aload_n 0) 1 24 := ⟨by decide +kernel, rfl⟩
theorem dX8_least_24 : Dd mX8_least.2.1 24 (.getfield 28) 3 27 := ⟨by decide +kernel, rfl⟩
theorem dX8_least_27 : Dd mX8_least.2.1 27 (.iload_n 1) 1 28 := ⟨by decide +kernel, rfl⟩
theorem dX8_least_28 : Dd mX8_least.2.1 28 (.invokevirtual 160) 3 31 := ⟨by decide +kernel, rfl⟩
theorem dX8_least_31 : Dd mX8_least.2.1 31 (.aload_n 0) 1 32 := ⟨by decide +kernel, rfl⟩
theorem dX8_least_32 : Dd mX8_least.2.1 32 (.getfield 45) 3 35 := ⟨by decide +kernel, rfl⟩
theorem dX8_least_35 : Dd mX8_least.2.1 35 (.invokevirtual 188) 3 38 := ⟨by decide +kernel, rfl⟩
theorem dX8_least_38 : Dd mX8_least.2.1 38 (.invokevirtual 226) 3 41 := ⟨by decide +kernel, rfl⟩
theorem dX8_least_41 : Dd mX8_least.2.1 41 (.ifCond .ne 6) 3 44 := ⟨by decide +kernel, rfl⟩
theorem dX8_least_44 : Dd mX8_least.2.1 44 (.bipush (-4)) 2 46 := ⟨by decide +kernel, rfl⟩
theorem dX8_least_46 : Dd mX8_least.2.1 46 (.ireturn) 1 47 := ⟨by decide +kernel, rfl⟩
theorem dX8_least_47 : Dd mX8_least.2.1 47 (.iload_n 2) 1 48 := ⟨by decide +kernel, rfl⟩
theorem dX8_least_48 : Dd mX8_least.2.1 48 (.ifCond .ne 13) 3 51 := ⟨by decide +kernel, rfl⟩
theorem dX8_least_51 : Dd mX8_least.2.1 51 (.aload_n 0) 1 52 := ⟨by decide +kernel, rfl⟩
theorem dX8_least_52 : Dd mX8_least.2.1 52 (.getfield 69) 3 55 := ⟨by decide +kernel, rfl⟩
theorem dX8_least_55 : Dd mX8_least.2.1 55 (.getfield 230) 3 58 := ⟨by decide +kernel, rfl⟩
theorem dX8_least_58 : Dd mX8_least.2.1 58 (.goto 10) 3 61 := ⟨by decide +kernel, rfl⟩
theorem dX8_least_61 : Dd mX8_least.2.1 61 (.aload_n 0) 1 62 := ⟨by decide +kernel, rfl⟩
theorem dX8_least_62 : Dd mX8_least.2.1 62 (.getfield 69) 3 65 := ⟨by decide +kernel, rfl⟩
theorem dX8_least_65 : Dd mX8_least.2.1 65 (.getfield 233) 3 68 := ⟨by decide +kernel, rfl⟩
theorem dX8_least_68 : Dd mX8_least.2.1 68 (.ireturn) 1 69 := ⟨by decide +kernel, rfl⟩
theorem dX8_all_0 : Dd mX8_all.2.1 0 (.iload_n 1) 1 1 := ⟨by decide +kernel, rfl⟩
theorem dX8_all_1 : Dd mX8_all.2.1 1 (.bipush (-2)) 2 3 := ⟨by decide +kernel, rfl⟩
theorem dX8_all_3 : Dd mX8_all.2.1 3 (.if_icmp .lt 14) 3 6 := ⟨by decide +kernel, rfl⟩
theorem dX8_all_6 : Dd mX8_all.2.1 6 (.iload_n 1) 1 7 := ⟨by decide +kernel, rfl⟩
theorem dX8_all_7 : Dd mX8_all.2.1 7 (.aload_n 0) 1 8 := ⟨by decide +kernel, rfl⟩
theorem dX8_all_8 : Dd mX8_all.2.1 8 (.getfield 28) 3 11 := ⟨by decide +kernel, rfl⟩
theorem dX8_all_11 : Dd mX8_all.2.1 11 (.getfield 114) 3 14 := ⟨by decide +kernel, rfl⟩
theorem dX8_all_14 : Dd mX8_all.2.1 14 (.if_icmp .lt 5) 3 17 := ⟨by decide +kernel, rfl⟩
theorem dX8_all_17 : Dd mX8_all.2.1 17 (.iconst (-1)) 1 18 := ⟨by decide +kernel, rfl⟩
theorem dX8_all_18 : Dd mX8_all.2.1 18 (.ireturn) 1 19 := ⟨by decide +kernel, rfl⟩
theorem dX8_all_19 : Dd mX8_all.2.1 19 (.aload_n 0) 1 20 := ⟨by decide +kernel, rfl⟩
theorem dX8_all_20 : Dd mX8_all.2.1 20 (.getfield 69) 3 23 := ⟨by decide +kernel, rfl⟩
theorem dX8_all_23 : Dd mX8_all.2.1 23 (.aload_n 0) 1 24 := ⟨by decide +kernel, rfl⟩
theorem dX8_all_24 : Dd mX8_all.2.1 24 (.getfield 28) 3 27 := ⟨by decide +kernel, rfl⟩
theorem dX8_all_27 : Dd mX8_all.2.1 27 (.aload_n 0) 1 28 := ⟨by decide +kernel, rfl⟩
theorem dX8_all_28 : Dd mX8_all.2.1 28 (.getfield 45) 3 31 := ⟨by decide +kernel, rfl⟩
theorem dX8_all_31 : Dd mX8_all.2.1 31 (.invokevirtual 236) 3 34 := ⟨by decide +kernel, rfl⟩
theorem dX8_all_34 : Dd mX8_all.2.1 34 (.ifCond .ne 6) 3 37 := ⟨by decide +kernel, rfl⟩
theorem dX8_all_37 : Dd mX8_all.2.1 37 (.bipush (-4)) 2 39 := ⟨by decide +kernel, rfl⟩
theorem dX8_all_39 : Dd mX8_all.2.1 39 (.ireturn) 1 40 := ⟨by decide +kernel, rfl⟩
theorem dX8_all_40 : Dd mX8_all.2.1 40 (.iload_n 1) 1 41 := ⟨by decide +kernel, rfl⟩
theorem dX8_all_41 : Dd mX8_all.2.1 41 (.lookupswitch 43 #[(-2, 27), (-1, 35)]) 27 68 := ⟨by decide +kernel, rfl⟩
theorem dX8_all_68 : Dd mX8_all.2.1 68 (.aload_n 0) 1 69 := ⟨by decide +kernel, rfl⟩
theorem dX8_all_69 : Dd mX8_all.2.1 69 (.getfield 69) 3 72 := ⟨by decide +kernel, rfl⟩
theorem dX8_all_72 : Dd mX8_all.2.1 72 (.getfield 240) 3 75 := ⟨by decide +kernel, rfl⟩
theorem dX8_all_75 : Dd mX8_all.2.1 75 (.ireturn) 1 76 := ⟨by decide +kernel, rfl⟩
theorem dX8_all_76 : Dd mX8_all.2.1 76 (.aload_n 0) 1 77 := ⟨by decide +kernel, rfl⟩
theorem dX8_all_77 : Dd mX8_all.2.1 77 (.getfield 69) 3 80 := ⟨by decide +kernel, rfl⟩
theorem dX8_all_80 : Dd mX8_all.2.1 80 (.getfield 243) 3 83 := ⟨by decide +kernel, rfl⟩
theorem dX8_all_83 : Dd mX8_all.2.1 83 (.ireturn) 1 84 := ⟨by decide +kernel, rfl⟩
theorem dX8_all_84 : Dd mX8_all.2.1 84 (.aload_n 0) 1 85 := ⟨by decide +kernel, rfl⟩
theorem dX8_all_85 : Dd mX8_all.2.1 85 (.getfield 69) 3 88 := ⟨by decide +kernel, rfl⟩
theorem dX8_all_88 : Dd mX8_all.2.1 88 (.iload_n 1) 1 89 := ⟨by decide +kernel, rfl⟩
theorem dX8_all_89 : Dd mX8_all.2.1 89 (.invokevirtual 246) 3 92 := ⟨by decide +kernel, rfl⟩
theorem dX8_all_92 : Dd mX8_all.2.1 92 (.ireturn) 1 93 := ⟨by decide +kernel, rfl⟩
theorem dX8_more_0 : Dd mX8_more.2.1 0 (.iload_n 1) 1 1 := ⟨by decide +kernel, rfl⟩
theorem dX8_more_1 : Dd mX8_more.2.1 1 (.iconst 1) 1 2 := ⟨by decide +kernel, rfl⟩
theorem dX8_more_2 : Dd mX8_more.2.1 2 (.if_icmp .lt 9) 3 5 := ⟨by decide +kernel, rfl⟩
theorem dX8_more_5 : Dd mX8_more.2.1 5 (.iload_n 1) 1 6 := ⟨by decide +kernel, rfl⟩
theorem dX8_more_6 : Dd mX8_more.2.1 6 (.bipush 90) 2 8 := ⟨by decide +kernel, rfl⟩
theorem dX8_more_8 : Dd mX8_more.2.1 8 (.if_icmp .le 5) 3 11 := ⟨by decide +kernel, rfl⟩
theorem dX8_more_11 : Dd mX8_more.2.1 11 (.iconst (-1)) 1 12 := ⟨by decide +kernel, rfl⟩
theorem dX8_more_12 : Dd mX8_more.2.1 12 (.ireturn) 1 13 := ⟨by decide +kernel, rfl⟩
theorem dX8_more_13 : Dd mX8_more.2.1 13 (.aload_n 0) 1 14 := ⟨by decide +kernel, rfl⟩
theorem dX8_more_14 : Dd mX8_more.2.1 14 (.getfield 69) 3 17 := ⟨by decide +kernel, rfl⟩
theorem dX8_more_17 : Dd mX8_more.2.1 17 (.iload_n 1) 1 18 := ⟨by decide +kernel, rfl⟩
theorem dX8_more_18 : Dd mX8_more.2.1 18 (.aload_n 0) 1 19 := ⟨by decide +kernel, rfl⟩
theorem dX8_more_19 : Dd mX8_more.2.1 19 (.getfield 38) 3 22 := ⟨by decide +kernel, rfl⟩
theorem dX8_more_22 : Dd mX8_more.2.1 22 (.aload_n 0) 1 23 := ⟨by decide +kernel, rfl⟩
theorem dX8_more_23 : Dd mX8_more.2.1 23 (.getfield 45) 3 26 := ⟨by decide +kernel, rfl⟩
theorem dX8_more_26 : Dd mX8_more.2.1 26 (.invokevirtual 188) 3 29 := ⟨by decide +kernel, rfl⟩
theorem dX8_more_29 : Dd mX8_more.2.1 29 (.invokevirtual 191) 3 32 := ⟨by decide +kernel, rfl⟩
theorem dX8_more_32 : Dd mX8_more.2.1 32 (.invokevirtual 249) 3 35 := ⟨by decide +kernel, rfl⟩
theorem dX8_more_35 : Dd mX8_more.2.1 35 (.ireturn) 1 36 := ⟨by decide +kernel, rfl⟩
theorem dX8_worst_0 : Dd mX8_worst.2.1 0 (.iload_n 1) 1 1 := ⟨by decide +kernel, rfl⟩
theorem dX8_worst_1 : Dd mX8_worst.2.1 1 (.ifCond .lt 8) 3 4 := ⟨by decide +kernel, rfl⟩
theorem dX8_worst_4 : Dd mX8_worst.2.1 4 (.iload_n 1) 1 5 := ⟨by decide +kernel, rfl⟩
theorem dX8_worst_5 : Dd mX8_worst.2.1 5 (.iconst 1) 1 6 := ⟨by decide +kernel, rfl⟩
theorem dX8_worst_6 : Dd mX8_worst.2.1 6 (.if_icmp .le 5) 3 9 := ⟨by decide +kernel, rfl⟩
theorem dX8_worst_9 : Dd mX8_worst.2.1 9 (.iconst (-1)) 1 10 := ⟨by decide +kernel, rfl⟩
theorem dX8_worst_10 : Dd mX8_worst.2.1 10 (.ireturn) 1 11 := ⟨by decide +kernel, rfl⟩
theorem dX8_worst_11 : Dd mX8_worst.2.1 11 (.aload_n 0) 1 12 := ⟨by decide +kernel, rfl⟩
theorem dX8_worst_12 : Dd mX8_worst.2.1 12 (.getfield 38) 3 15 := ⟨by decide +kernel, rfl⟩
theorem dX8_worst_15 : Dd mX8_worst.2.1 15 (.aload_n 0) 1 16 := ⟨by decide +kernel, rfl⟩
theorem dX8_worst_16 : Dd mX8_worst.2.1 16 (.getfield 45) 3 19 := ⟨by decide +kernel, rfl⟩
theorem dX8_worst_19 : Dd mX8_worst.2.1 19 (.invokevirtual 188) 3 22 := ⟨by decide +kernel, rfl⟩
theorem dX8_worst_22 : Dd mX8_worst.2.1 22 (.invokevirtual 191) 3 25 := ⟨by decide +kernel, rfl⟩
theorem dX8_worst_25 : Dd mX8_worst.2.1 25 (.istore_n 2) 1 26 := ⟨by decide +kernel, rfl⟩
theorem dX8_worst_26 : Dd mX8_worst.2.1 26 (.bipush (-4)) 2 28 := ⟨by decide +kernel, rfl⟩
theorem dX8_worst_28 : Dd mX8_worst.2.1 28 (.istore_n 3) 1 29 := ⟨by decide +kernel, rfl⟩
theorem dX8_worst_29 : Dd mX8_worst.2.1 29 (.bipush (-4)) 2 31 := ⟨by decide +kernel, rfl⟩
theorem dX8_worst_31 : Dd mX8_worst.2.1 31 (.istore 4) 2 33 := ⟨by decide +kernel, rfl⟩
theorem dX8_worst_33 : Dd mX8_worst.2.1 33 (.iconst 0) 1 34 := ⟨by decide +kernel, rfl⟩
theorem dX8_worst_34 : Dd mX8_worst.2.1 34 (.istore 5) 2 36 := ⟨by decide +kernel, rfl⟩
theorem dX8_worst_36 : Dd mX8_worst.2.1 36 (.iload 5) 2 38 := ⟨by decide +kernel, rfl⟩
theorem dX8_worst_38 : Dd mX8_worst.2.1 38 (.aload_n 0) 1 39 := ⟨by decide +kernel, rfl⟩
theorem dX8_worst_39 : Dd mX8_worst.2.1 39 (.getfield 28) 3 42 := ⟨by decide +kernel, rfl⟩
theorem dX8_worst_42 : Dd mX8_worst.2.1 42 (.getfield 110) 3 45 := ⟨by decide +kernel, rfl⟩
theorem dX8_worst_45 : Dd mX8_worst.2.1 45 (.if_icmp .ge 60) 3 48 := ⟨by decide +kernel, rfl⟩
theorem dX8_worst_48 : Dd mX8_worst.2.1 48 (.iload_n 2) 1 49 := ⟨by decide +kernel, rfl⟩
theorem dX8_worst_49 : Dd mX8_worst.2.1 49 (.iload 5) 2 51 := ⟨by decide +kernel, rfl⟩
theorem dX8_worst_51 : Dd mX8_worst.2.1 51 (.ishr) 1 52 := ⟨by decide +kernel, rfl⟩
theorem dX8_worst_52 : Dd mX8_worst.2.1 52 (.iconst 1) 1 53 := ⟨by decide +kernel, rfl⟩
theorem dX8_worst_53 : Dd mX8_worst.2.1 53 (.iand) 1 54 := ⟨by decide +kernel, rfl⟩
theorem dX8_worst_54 : Dd mX8_worst.2.1 54 (.ifCond .ne 6) 3 57 := ⟨by decide +kernel, rfl⟩
theorem dX8_worst_57 : Dd mX8_worst.2.1 57 (.goto 42) 3 60 := ⟨by decide +kernel, rfl⟩
theorem dX8_worst_60 : Dd mX8_worst.2.1 60 (.aload_n 0) 1 61 := ⟨by decide +kernel, rfl⟩
theorem dX8_worst_61 : Dd mX8_worst.2.1 61 (.getfield 38) 3 64 := ⟨by decide +kernel, rfl⟩
theorem dX8_worst_64 : Dd mX8_worst.2.1 64 (.iconst 1) 1 65 := ⟨by decide +kernel, rfl⟩
theorem dX8_worst_65 : Dd mX8_worst.2.1 65 (.iload 5) 2 67 := ⟨by decide +kernel, rfl⟩
theorem dX8_worst_67 : Dd mX8_worst.2.1 67 (.ishl) 1 68 := ⟨by decide +kernel, rfl⟩
theorem dX8_worst_68 : Dd mX8_worst.2.1 68 (.invokevirtual 181) 3 71 := ⟨by decide +kernel, rfl⟩
theorem dX8_worst_71 : Dd mX8_worst.2.1 71 (.iload_n 2) 1 72 := ⟨by decide +kernel, rfl⟩
theorem dX8_worst_72 : Dd mX8_worst.2.1 72 (.iand) 1 73 := ⟨by decide +kernel, rfl⟩
theorem dX8_worst_73 : Dd mX8_worst.2.1 73 (.iconst 1) 1 74 := ⟨by decide +kernel, rfl⟩
theorem dX8_worst_74 : Dd mX8_worst.2.1 74 (.iload 5) 2 76 := ⟨by decide +kernel, rfl⟩
theorem dX8_worst_76 : Dd mX8_worst.2.1 76 (.ishl) 1 77 := ⟨by decide +kernel, rfl⟩
theorem dX8_worst_77 : Dd mX8_worst.2.1 77 (.iconst (-1)) 1 78 := ⟨by decide +kernel, rfl⟩
theorem dX8_worst_78 : Dd mX8_worst.2.1 78 (.ixor) 1 79 := ⟨by decide +kernel, rfl⟩
theorem dX8_worst_79 : Dd mX8_worst.2.1 79 (.iand) 1 80 := ⟨by decide +kernel, rfl⟩
theorem dX8_worst_80 : Dd mX8_worst.2.1 80 (.invokestatic 202) 3 83 := ⟨by decide +kernel, rfl⟩
theorem dX8_worst_83 : Dd mX8_worst.2.1 83 (.istore 6) 2 85 := ⟨by decide +kernel, rfl⟩
theorem dX8_worst_85 : Dd mX8_worst.2.1 85 (.iload 6) 2 87 := ⟨by decide +kernel, rfl⟩
theorem dX8_worst_87 : Dd mX8_worst.2.1 87 (.iload 4) 2 89 := ⟨by decide +kernel, rfl⟩
theorem dX8_worst_89 : Dd mX8_worst.2.1 89 (.if_icmp .le 10) 3 92 := ⟨by decide +kernel, rfl⟩
theorem dX8_worst_92 : Dd mX8_worst.2.1 92 (.iload 5) 2 94 := ⟨by decide +kernel, rfl⟩
theorem dX8_worst_94 : Dd mX8_worst.2.1 94 (.istore_n 3) 1 95 := ⟨by decide +kernel, rfl⟩
theorem dX8_worst_95 : Dd mX8_worst.2.1 95 (.iload 6) 2 97 := ⟨by decide +kernel, rfl⟩
theorem dX8_worst_97 : Dd mX8_worst.2.1 97 (.istore 4) 2 99 := ⟨by decide +kernel, rfl⟩
theorem dX8_worst_99 : Dd mX8_worst.2.1 99 (.iinc 5 1) 3 102 := ⟨by decide +kernel, rfl⟩
theorem dX8_worst_102 : Dd mX8_worst.2.1 102 (.goto (-66)) 3 105 := ⟨by decide +kernel, rfl⟩
theorem dX8_worst_105 : Dd mX8_worst.2.1 105 (.iload_n 1) 1 106 := ⟨by decide +kernel, rfl⟩
theorem dX8_worst_106 : Dd mX8_worst.2.1 106 (.ifCond .ne 7) 3 109 := ⟨by decide +kernel, rfl⟩
theorem dX8_worst_109 : Dd mX8_worst.2.1 109 (.iload_n 3) 1 110 := ⟨by decide +kernel, rfl⟩
theorem dX8_worst_110 : Dd mX8_worst.2.1 110 (.goto 5) 3 113 := ⟨by decide +kernel, rfl⟩
theorem dX8_worst_113 : Dd mX8_worst.2.1 113 (.iload 4) 2 115 := ⟨by decide +kernel, rfl⟩
theorem dX8_worst_115 : Dd mX8_worst.2.1 115 (.ireturn) 1 116 := ⟨by decide +kernel, rfl⟩
theorem dX8_back_0 : Dd mX8_back.2.1 0 (.aload_n 0) 1 1 := ⟨by decide +kernel, rfl⟩
theorem dX8_back_1 : Dd mX8_back.2.1 1 (.iload_n 1) 1 2 := ⟨by decide +kernel, rfl⟩
theorem dX8_back_2 : Dd mX8_back.2.1 2 (.invokevirtual 123) 3 5 := ⟨by decide +kernel, rfl⟩
theorem dX8_back_5 : Dd mX8_back.2.1 5 (.ifCond .ne 5) 3 8 := ⟨by decide +kernel, rfl⟩
theorem dX8_back_8 : Dd mX8_back.2.1 8 (.iconst (-1)) 1 9 := ⟨by decide +kernel, rfl⟩
theorem dX8_back_9 : Dd mX8_back.2.1 9 (.ireturn) 1 10 := ⟨by decide +kernel, rfl⟩
theorem dX8_back_10 : Dd mX8_back.2.1 10 (.aload_n 0) 1 11 := ⟨by decide +kernel, rfl⟩
theorem dX8_back_11 : Dd mX8_back.2.1 11 (.getfield 45) 3 14 := ⟨by decide +kernel, rfl⟩
theorem dX8_back_14 : Dd mX8_back.2.1 14 (.invokevirtual 188) 3 17 := ⟨by decide +kernel, rfl⟩
theorem dX8_back_17 : Dd mX8_back.2.1 17 (.istore_n 2) 1 18 := ⟨by decide +kernel, rfl⟩
theorem dX8_back_18 : Dd mX8_back.2.1 18 (.iconst 0) 1 19 := ⟨by decide +kernel, rfl⟩
theorem dX8_back_19 : Dd mX8_back.2.1 19 (.istore_n 3) 1 20 := ⟨by decide +kernel, rfl⟩
theorem dX8_back_20 : Dd mX8_back.2.1 20 (.iconst 0) 1 21 := ⟨by decide +kernel, rfl⟩
theorem dX8_back_21 : Dd mX8_back.2.1 21 (.istore 4) 2 23 := ⟨by decide +kernel, rfl⟩
theorem dX8_back_23 : Dd mX8_back.2.1 23 (.iload 4) 2 25 := ⟨by decide +kernel, rfl⟩
theorem dX8_back_25 : Dd mX8_back.2.1 25 (.aload_n 0) 1 26 := ⟨by decide +kernel, rfl⟩
theorem dX8_back_26 : Dd mX8_back.2.1 26 (.getfield 28) 3 29 := ⟨by decide +kernel, rfl⟩
theorem dX8_back_29 : Dd mX8_back.2.1 29 (.getfield 110) 3 32 := ⟨by decide +kernel, rfl⟩
theorem dX8_back_32 : Dd mX8_back.2.1 32 (.if_icmp .ge 57) 3 35 := ⟨by decide +kernel, rfl⟩
theorem dX8_back_35 : Dd mX8_back.2.1 35 (.iload_n 2) 1 36 := ⟨by decide +kernel, rfl⟩
theorem dX8_back_36 : Dd mX8_back.2.1 36 (.iload 4) 2 38 := ⟨by decide +kernel, rfl⟩
theorem dX8_back_38 : Dd mX8_back.2.1 38 (.ishr) 1 39 := ⟨by decide +kernel, rfl⟩
theorem dX8_back_39 : Dd mX8_back.2.1 39 (.iconst 1) 1 40 := ⟨by decide +kernel, rfl⟩
theorem dX8_back_40 : Dd mX8_back.2.1 40 (.iand) 1 41 := ⟨by decide +kernel, rfl⟩
theorem dX8_back_41 : Dd mX8_back.2.1 41 (.iconst 1) 1 42 := ⟨by decide +kernel, rfl⟩
theorem dX8_back_42 : Dd mX8_back.2.1 42 (.if_icmp .ne 7) 3 45 := ⟨by decide +kernel, rfl⟩
theorem dX8_back_45 : Dd mX8_back.2.1 45 (.iconst 1) 1 46 := ⟨by decide +kernel, rfl⟩
theorem dX8_back_46 : Dd mX8_back.2.1 46 (.goto 4) 3 49 := ⟨by decide +kernel, rfl⟩
theorem dX8_back_49 : Dd mX8_back.2.1 49 (.iconst 0) 1 50 := ⟨by decide +kernel, rfl⟩
theorem dX8_back_50 : Dd mX8_back.2.1 50 (.istore 5) 2 52 := ⟨by decide +kernel, rfl⟩
theorem dX8_back_52 : Dd mX8_back.2.1 52 (.iload 5) 2 54 := ⟨by decide +kernel, rfl⟩
theorem dX8_back_54 : Dd mX8_back.2.1 54 (.ifCond .eq 29) 3 57 := ⟨by decide +kernel, rfl⟩
theorem dX8_back_57 : Dd mX8_back.2.1 57 (.aload_n 0) 1 58 := ⟨by decide +kernel, rfl⟩
theorem dX8_back_58 : Dd mX8_back.2.1 58 (.getfield 38) 3 61 := ⟨by decide +kernel, rfl⟩
theorem dX8_back_61 : Dd mX8_back.2.1 61 (.iconst 1) 1 62 := ⟨by decide +kernel, rfl⟩
theorem dX8_back_62 : Dd mX8_back.2.1 62 (.iload 4) 2 64 := ⟨by decide +kernel, rfl⟩
theorem dX8_back_64 : Dd mX8_back.2.1 64 (.ishl) 1 65 := ⟨by decide +kernel, rfl⟩
theorem dX8_back_65 : Dd mX8_back.2.1 65 (.invokevirtual 181) 3 68 := ⟨by decide +kernel, rfl⟩
theorem dX8_back_68 : Dd mX8_back.2.1 68 (.iload_n 1) 1 69 := ⟨by decide +kernel, rfl⟩
theorem dX8_back_69 : Dd mX8_back.2.1 69 (.ishr) 1 70 := ⟨by decide +kernel, rfl⟩
theorem dX8_back_70 : Dd mX8_back.2.1 70 (.iconst 1) 1 71 := ⟨by decide +kernel, rfl⟩
theorem dX8_back_71 : Dd mX8_back.2.1 71 (.iand) 1 72 := ⟨by decide +kernel, rfl⟩
theorem dX8_back_72 : Dd mX8_back.2.1 72 (.iconst 1) 1 73 := ⟨by decide +kernel, rfl⟩
theorem dX8_back_73 : Dd mX8_back.2.1 73 (.if_icmp .ne 10) 3 76 := ⟨by decide +kernel, rfl⟩
theorem dX8_back_76 : Dd mX8_back.2.1 76 (.iload_n 3) 1 77 := ⟨by decide +kernel, rfl⟩
theorem dX8_back_77 : Dd mX8_back.2.1 77 (.iconst 1) 1 78 := ⟨by decide +kernel, rfl⟩
theorem dX8_back_78 : Dd mX8_back.2.1 78 (.iload 4) 2 80 := ⟨by decide +kernel, rfl⟩
theorem dX8_back_80 : Dd mX8_back.2.1 80 (.ishl) 1 81 := ⟨by decide +kernel, rfl⟩
theorem dX8_back_81 : Dd mX8_back.2.1 81 (.ior) 1 82 := ⟨by decide +kernel, rfl⟩
theorem dX8_back_82 : Dd mX8_back.2.1 82 (.istore_n 3) 1 83 := ⟨by decide +kernel, rfl⟩
theorem dX8_back_83 : Dd mX8_back.2.1 83 (.iinc 4 1) 3 86 := ⟨by decide +kernel, rfl⟩
theorem dX8_back_86 : Dd mX8_back.2.1 86 (.goto (-63)) 3 89 := ⟨by decide +kernel, rfl⟩
theorem dX8_back_89 : Dd mX8_back.2.1 89 (.iload_n 3) 1 90 := ⟨by decide +kernel, rfl⟩
theorem dX8_back_90 : Dd mX8_back.2.1 90 (.ireturn) 1 91 := ⟨by decide +kernel, rfl⟩
theorem dX8_missing_0 : Dd mX8_missing.2.1 0 (.iload_n 1) 1 1 := ⟨by decide +kernel, rfl⟩
theorem dX8_missing_1 : Dd mX8_missing.2.1 1 (.ifCond .lt 20) 3 4 := ⟨by decide +kernel, rfl⟩
theorem dX8_missing_4 : Dd mX8_missing.2.1 4 (.iload_n 1) 1 5 := ⟨by decide +kernel, rfl⟩
theorem dX8_missing_5 : Dd mX8_missing.2.1 5 (.iconst 1) 1 6 := ⟨by decide +kernel, rfl⟩
theorem dX8_missing_6 : Dd mX8_missing.2.1 6 (.aload_n 0) 1 7 := ⟨by decide +kernel, rfl⟩
theorem dX8_missing_7 : Dd mX8_missing.2.1 7 (.getfield 28) 3 10 := ⟨by decide +kernel, rfl⟩
theorem dX8_missing_10 : Dd mX8_missing.2.1 10 (.getfield 139) 3 13 := ⟨by decide +kernel, rfl⟩
theorem dX8_missing_13 : Dd mX8_missing.2.1 13 (.ishl) 1 14 := ⟨by decide +kernel, rfl⟩
theorem dX8_missing_14 : Dd mX8_missing.2.1 14 (.if_icmp .ge 7) 3 17 := ⟨by decide +kernel, rfl⟩
theorem dX8_missing_17 : Dd mX8_missing.2.1 17 (.iconst 1) 1 18 := ⟨by decide +kernel, rfl⟩
theorem dX8_missing_18 : Dd mX8_missing.2.1 18 (.goto 4) 3 21 := ⟨by decide +kernel, rfl⟩
theorem dX8_missing_21 : Dd mX8_missing.2.1 21 (.iconst 0) 1 22 := ⟨by decide +kernel, rfl⟩
theorem dX8_missing_22 : Dd mX8_missing.2.1 22 (.istore 4) 2 24 := ⟨by decide +kernel, rfl⟩
theorem dX8_missing_24 : Dd mX8_missing.2.1 24 (.iload 4) 2 26 := ⟨by decide +kernel, rfl⟩
theorem dX8_missing_26 : Dd mX8_missing.2.1 26 (.ifCond .eq 22) 3 29 := ⟨by decide +kernel, rfl⟩
theorem dX8_missing_29 : Dd mX8_missing.2.1 29 (.iload_n 2) 1 30 := ⟨by decide +kernel, rfl⟩
theorem dX8_missing_30 : Dd mX8_missing.2.1 30 (.ifCond .lt 18) 3 33 := ⟨by decide +kernel, rfl⟩
theorem dX8_missing_33 : Dd mX8_missing.2.1 33 (.iload_n 2) 1 34 := ⟨by decide +kernel, rfl⟩
theorem dX8_missing_34 : Dd mX8_missing.2.1 34 (.bipush 90) 2 36 := ⟨by decide +kernel, rfl⟩
theorem dX8_missing_36 : Dd mX8_missing.2.1 36 (.if_icmp .gt 12) 3 39 := ⟨by decide +kernel, rfl⟩
theorem dX8_missing_39 : Dd mX8_missing.2.1 39 (.iload_n 3) 1 40 := ⟨by decide +kernel, rfl⟩
theorem dX8_missing_40 : Dd mX8_missing.2.1 40 (.ifCond .lt 8) 3 43 := ⟨by decide +kernel, rfl⟩
theorem dX8_missing_43 : Dd mX8_missing.2.1 43 (.iload_n 3) 1 44 := ⟨by decide +kernel, rfl⟩
theorem dX8_missing_44 : Dd mX8_missing.2.1 44 (.iconst 2) 1 45 := ⟨by decide +kernel, rfl⟩
theorem dX8_missing_45 : Dd mX8_missing.2.1 45 (.if_icmp .le 5) 3 48 := ⟨by decide +kernel, rfl⟩
theorem dX8_missing_48 : Dd mX8_missing.2.1 48 (.iconst (-1)) 1 49 := ⟨by decide +kernel, rfl⟩
theorem dX8_missing_49 : Dd mX8_missing.2.1 49 (.ireturn) 1 50 := ⟨by decide +kernel, rfl⟩
theorem dX8_missing_50 : Dd mX8_missing.2.1 50 (.iconst 0) 1 51 := ⟨by decide +kernel, rfl⟩
theorem dX8_missing_51 : Dd mX8_missing.2.1 51 (.istore 5) 2 53 := ⟨by decide +kernel, rfl⟩
theorem dX8_missing_53 : Dd mX8_missing.2.1 53 (.bipush (-4)) 2 55 := ⟨by decide +kernel, rfl⟩
theorem dX8_missing_55 : Dd mX8_missing.2.1 55 (.istore 6) 2 57 := ⟨by decide +kernel, rfl⟩
theorem dX8_missing_57 : Dd mX8_missing.2.1 57 (.iconst (-1)) 1 58 := ⟨by decide +kernel, rfl⟩
theorem dX8_missing_58 : Dd mX8_missing.2.1 58 (.istore 7) 2 60 := ⟨by decide +kernel, rfl⟩
theorem dX8_missing_60 : Dd mX8_missing.2.1 60 (.iconst 0) 1 61 := ⟨by decide +kernel, rfl⟩
theorem dX8_missing_61 : Dd mX8_missing.2.1 61 (.istore 8) 2 63 := ⟨by decide +kernel, rfl⟩
theorem dX8_missing_63 : Dd mX8_missing.2.1 63 (.iload 8) 2 65 := ⟨by decide +kernel, rfl⟩
theorem dX8_missing_65 : Dd mX8_missing.2.1 65 (.aload_n 0) 1 66 := ⟨by decide +kernel, rfl⟩
theorem dX8_missing_66 : Dd mX8_missing.2.1 66 (.getfield 38) 3 69 := ⟨by decide +kernel, rfl⟩
theorem dX8_missing_69 : Dd mX8_missing.2.1 69 (.getfield 252) 3 72 := ⟨by decide +kernel, rfl⟩
theorem dX8_missing_72 : Dd mX8_missing.2.1 72 (.if_icmp .ge 57) 3 75 := ⟨by decide +kernel, rfl⟩
theorem dX8_missing_75 : Dd mX8_missing.2.1 75 (.aload_n 0) 1 76 := ⟨by decide +kernel, rfl⟩
theorem dX8_missing_76 : Dd mX8_missing.2.1 76 (.getfield 38) 3 79 := ⟨by decide +kernel, rfl⟩
theorem dX8_missing_79 : Dd mX8_missing.2.1 79 (.iload 8) 2 81 := ⟨by decide +kernel, rfl⟩
theorem dX8_missing_81 : Dd mX8_missing.2.1 81 (.invokevirtual 154) 3 84 := ⟨by decide +kernel, rfl⟩
theorem dX8_missing_84 : Dd mX8_missing.2.1 84 (.iload_n 1) 1 85 := ⟨by decide +kernel, rfl⟩
theorem dX8_missing_85 : Dd mX8_missing.2.1 85 (.if_icmp .ne 38) 3 88 := ⟨by decide +kernel, rfl⟩
theorem dX8_missing_88 : Dd mX8_missing.2.1 88 (.aload_n 0) 1 89 := ⟨by decide +kernel, rfl⟩
theorem dX8_missing_89 : Dd mX8_missing.2.1 89 (.getfield 38) 3 92 := ⟨by decide +kernel, rfl⟩
theorem dX8_missing_92 : Dd mX8_missing.2.1 92 (.iload 8) 2 94 := ⟨by decide +kernel, rfl⟩
theorem dX8_missing_94 : Dd mX8_missing.2.1 94 (.invokevirtual 178) 3 97 := ⟨by decide +kernel, rfl⟩
theorem dX8_missing_97 : Dd mX8_missing.2.1 97 (.iload_n 2) 1 98 := ⟨by decide +kernel, rfl⟩
theorem dX8_missing_98 : Dd mX8_missing.2.1 98 (.if_icmp .ge 6) 3 101 := ⟨by decide +kernel, rfl⟩
theorem dX8_missing_101 : Dd mX8_missing.2.1 101 (.goto 22) 3 104 := ⟨by decide +kernel, rfl⟩
theorem dX8_missing_104 : Dd mX8_missing.2.1 104 (.iload 5) 2 106 := ⟨by decide +kernel, rfl⟩
theorem dX8_missing_106 : Dd mX8_missing.2.1 106 (.ifCond .ne 7) 3 109 := ⟨by decide +kernel, rfl⟩
theorem dX8_missing_109 : Dd mX8_missing.2.1 109 (.iload 8) 2 111 := ⟨by decide +kernel, rfl⟩
theorem dX8_missing_111 : Dd mX8_missing.2.1 111 (.istore 6) 2 113 := ⟨by decide +kernel, rfl⟩
theorem dX8_missing_113 : Dd mX8_missing.2.1 113 (.iinc 5 1) 3 116 := ⟨by decide +kernel, rfl⟩
theorem dX8_missing_116 : Dd mX8_missing.2.1 116 (.iload 7) 2 118 := ⟨by decide +kernel, rfl⟩
theorem dX8_missing_118 : Dd mX8_missing.2.1 118 (.iload 8) 2 120 := ⟨by decide +kernel, rfl⟩
theorem dX8_missing_120 : Dd mX8_missing.2.1 120 (.iand) 1 121 := ⟨by decide +kernel, rfl⟩
theorem dX8_missing_121 : Dd mX8_missing.2.1 121 (.istore 7) 2 123 := ⟨by decide +kernel, rfl⟩
theorem dX8_missing_123 : Dd mX8_missing.2.1 123 (.iinc 8 1) 3 126 := ⟨by decide +kernel, rfl⟩
theorem dX8_missing_126 : Dd mX8_missing.2.1 126 (.goto (-63)) 3 129 := ⟨by decide +kernel, rfl⟩
theorem dX8_missing_129 : Dd mX8_missing.2.1 129 (.iload_n 3) 1 130 := ⟨by decide +kernel, rfl⟩
theorem dX8_missing_130 : Dd mX8_missing.2.1 130 (.ifCond .ne 6) 3 133 := ⟨by decide +kernel, rfl⟩
theorem dX8_missing_133 : Dd mX8_missing.2.1 133 (.iload 5) 2 135 := ⟨by decide +kernel, rfl⟩
theorem dX8_missing_135 : Dd mX8_missing.2.1 135 (.ireturn) 1 136 := ⟨by decide +kernel, rfl⟩
theorem dX8_missing_136 : Dd mX8_missing.2.1 136 (.iload 5) 2 138 := ⟨by decide +kernel, rfl⟩
theorem dX8_missing_138 : Dd mX8_missing.2.1 138 (.ifCond .ne 6) 3 141 := ⟨by decide +kernel, rfl⟩
theorem dX8_missing_141 : Dd mX8_missing.2.1 141 (.bipush (-4)) 2 143 := ⟨by decide +kernel, rfl⟩
theorem dX8_missing_143 : Dd mX8_missing.2.1 143 (.ireturn) 1 144 := ⟨by decide +kernel, rfl⟩
theorem dX8_missing_144 : Dd mX8_missing.2.1 144 (.iload_n 3) 1 145 := ⟨by decide +kernel, rfl⟩
theorem dX8_missing_145 : Dd mX8_missing.2.1 145 (.iconst 1) 1 146 := ⟨by decide +kernel, rfl⟩
theorem dX8_missing_146 : Dd mX8_missing.2.1 146 (.if_icmp .ne 8) 3 149 := ⟨by decide +kernel, rfl⟩
theorem dX8_missing_149 : Dd mX8_missing.2.1 149 (.iload 6) 2 151 := ⟨by decide +kernel, rfl⟩
theorem dX8_missing_151 : Dd mX8_missing.2.1 151 (.goto 5) 3 154 := ⟨by decide +kernel, rfl⟩
theorem dX8_missing_154 : Dd mX8_missing.2.1 154 (.iload 7) 2 156 := ⟨by decide +kernel, rfl⟩
theorem dX8_missing_156 : Dd mX8_missing.2.1 156 (.ireturn) 1 157 := ⟨by decide +kernel, rfl⟩
theorem dX8_trial_0 : Dd mX8_trial.2.1 0 (.iload_n 1) 1 1 := ⟨by decide +kernel, rfl⟩
theorem dX8_trial_1 : Dd mX8_trial.2.1 1 (.ifCond .lt 23) 3 4 := ⟨by decide +kernel, rfl⟩
theorem dX8_trial_4 : Dd mX8_trial.2.1 4 (.iload_n 1) 1 5 := ⟨by decide +kernel, rfl⟩
theorem dX8_trial_5 : Dd mX8_trial.2.1 5 (.bipush 10) 2 7 := ⟨by decide +kernel, rfl⟩
theorem dX8_trial_7 : Dd mX8_trial.2.1 7 (.if_icmp .gt 17) 3 10 := ⟨by decide +kernel, rfl⟩
theorem dX8_trial_10 : Dd mX8_trial.2.1 10 (.iload_n 2) 1 11 := ⟨by decide +kernel, rfl⟩
theorem dX8_trial_11 : Dd mX8_trial.2.1 11 (.ifCond .lt 13) 3 14 := ⟨by decide +kernel, rfl⟩
theorem dX8_trial_14 : Dd mX8_trial.2.1 14 (.iload_n 2) 1 15 := ⟨by decide +kernel, rfl⟩
theorem dX8_trial_15 : Dd mX8_trial.2.1 15 (.bipush 10) 2 17 := ⟨by decide +kernel, rfl⟩
theorem dX8_trial_17 : Dd mX8_trial.2.1 17 (.if_icmp .gt 7) 3 20 := ⟨by decide +kernel, rfl⟩
theorem dX8_trial_20 : Dd mX8_trial.2.1 20 (.iconst 1) 1 21 := ⟨by decide +kernel, rfl⟩
theorem dX8_trial_21 : Dd mX8_trial.2.1 21 (.goto 4) 3 24 := ⟨by decide +kernel, rfl⟩
theorem dX8_trial_24 : Dd mX8_trial.2.1 24 (.iconst 0) 1 25 := ⟨by decide +kernel, rfl⟩
theorem dX8_trial_25 : Dd mX8_trial.2.1 25 (.istore 5) 2 27 := ⟨by decide +kernel, rfl⟩
theorem dX8_trial_27 : Dd mX8_trial.2.1 27 (.iload 5) 2 29 := ⟨by decide +kernel, rfl⟩
theorem dX8_trial_29 : Dd mX8_trial.2.1 29 (.ifCond .eq 24) 3 32 := ⟨by decide +kernel, rfl⟩
theorem dX8_trial_32 : Dd mX8_trial.2.1 32 (.iload_n 3) 1 33 := ⟨by decide +kernel, rfl⟩
theorem dX8_trial_33 : Dd mX8_trial.2.1 33 (.ifCond .lt 20) 3 36 := ⟨by decide +kernel, rfl⟩
theorem dX8_trial_36 : Dd mX8_trial.2.1 36 (.iload_n 3) 1 37 := ⟨by decide +kernel, rfl⟩
theorem dX8_trial_37 : Dd mX8_trial.2.1 37 (.bipush 6) 2 39 := ⟨by decide +kernel, rfl⟩
theorem dX8_trial_39 : Dd mX8_trial.2.1 39 (.if_icmp .gt 14) 3 42 := ⟨by decide +kernel, rfl⟩
theorem dX8_trial_42 : Dd mX8_trial.2.1 42 (.iload 4) 2 44 := ⟨by decide +kernel, rfl⟩
theorem dX8_trial_44 : Dd mX8_trial.2.1 44 (.ifCond .lt 9) 3 47 := ⟨by decide +kernel, rfl⟩
theorem dX8_trial_47 : Dd mX8_trial.2.1 47 (.iload 4) 2 49 := ⟨by decide +kernel, rfl⟩
theorem dX8_trial_49 : Dd mX8_trial.2.1 49 (.iconst 1) 1 50 := ⟨by decide +kernel, rfl⟩
theorem dX8_trial_50 : Dd mX8_trial.2.1 50 (.if_icmp .le 7) 3 53 := ⟨by decide +kernel, rfl⟩
theorem dX8_trial_53 : Dd mX8_trial.2.1 53 (.ldc2_w 254) 3 56 := ⟨by decide +kernel, rfl⟩
theorem dX8_trial_56 : Dd mX8_trial.2.1 56 (.lreturn) 1 57 := ⟨by decide +kernel, rfl⟩
theorem dX8_trial_57 : Dd mX8_trial.2.1 57 (.iload_n 1) 1 58 := ⟨by decide +kernel, rfl⟩
theorem dX8_trial_58 : Dd mX8_trial.2.1 58 (.i2l) 1 59 := ⟨by decide +kernel, rfl⟩
theorem dX8_trial_59 : Dd mX8_trial.2.1 59 (.bipush 10) 2 61 := ⟨by decide +kernel, rfl⟩
theorem dX8_trial_61 : Dd mX8_trial.2.1 61 (.iload_n 3) 1 62 := ⟨by decide +kernel, rfl⟩
theorem dX8_trial_62 : Dd mX8_trial.2.1 62 (.invokestatic 256) 3 65 := ⟨by decide +kernel, rfl⟩
theorem dX8_trial_65 : Dd mX8_trial.2.1 65 (.lmul) 1 66 := ⟨by decide +kernel, rfl⟩
theorem dX8_trial_66 : Dd mX8_trial.2.1 66 (.lstore 6) 2 68 := ⟨by decide +kernel, rfl⟩
theorem dX8_trial_68 : Dd mX8_trial.2.1 68 (.bipush 10) 2 70 := ⟨by decide +kernel, rfl⟩
theorem dX8_trial_70 : Dd mX8_trial.2.1 70 (.iload_n 1) 1 71 := ⟨by decide +kernel, rfl⟩
theorem dX8_trial_71 : Dd mX8_trial.2.1 71 (.isub) 1 72 := ⟨by decide +kernel, rfl⟩
theorem dX8_trial_72 : Dd mX8_trial.2.1 72 (.i2l) 1 73 := ⟨by decide +kernel, rfl⟩
theorem dX8_trial_73 : Dd mX8_trial.2.1 73 (.bipush 10) 2 75 := ⟨by decide +kernel, rfl⟩
theorem dX8_trial_75 : Dd mX8_trial.2.1 75 (.iload_n 2) 1 76 := ⟨by decide +kernel, rfl⟩
theorem dX8_trial_76 : Dd mX8_trial.2.1 76 (.isub) 1 77 := ⟨by decide +kernel, rfl⟩
theorem dX8_trial_77 : Dd mX8_trial.2.1 77 (.iload_n 3) 1 78 := ⟨by decide +kernel, rfl⟩
theorem dX8_trial_78 : Dd mX8_trial.2.1 78 (.invokestatic 256) 3 81 := ⟨by decide +kernel, rfl⟩
theorem dX8_trial_81 : Dd mX8_trial.2.1 81 (.lmul) 1 82 := ⟨by decide +kernel, rfl⟩
theorem dX8_trial_82 : Dd mX8_trial.2.1 82 (.lstore 8) 2 84 := ⟨by decide +kernel, rfl⟩
theorem dX8_trial_84 : Dd mX8_trial.2.1 84 (.lload 6) 2 86 := ⟨by decide +kernel, rfl⟩
theorem dX8_trial_86 : Dd mX8_trial.2.1 86 (.lload 8) 2 88 := ⟨by decide +kernel, rfl⟩
theorem dX8_trial_88 : Dd mX8_trial.2.1 88 (.ladd) 1 89 := ⟨by decide +kernel, rfl⟩
theorem dX8_trial_89 : Dd mX8_trial.2.1 89 (.lstore 10) 2 91 := ⟨by decide +kernel, rfl⟩
theorem dX8_trial_91 : Dd mX8_trial.2.1 91 (.lload 10) 2 93 := ⟨by decide +kernel, rfl⟩
theorem dX8_trial_93 : Dd mX8_trial.2.1 93 (.lconst 0) 1 94 := ⟨by decide +kernel, rfl⟩
theorem dX8_trial_94 : Dd mX8_trial.2.1 94 (.lcmp) 1 95 := ⟨by decide +kernel, rfl⟩
theorem dX8_trial_95 : Dd mX8_trial.2.1 95 (.ifCond .ne 7) 3 98 := ⟨by decide +kernel, rfl⟩
theorem dX8_trial_98 : Dd mX8_trial.2.1 98 (.ldc2_w 260) 3 101 := ⟨by decide +kernel, rfl⟩
theorem dX8_trial_101 : Dd mX8_trial.2.1 101 (.lreturn) 1 102 := ⟨by decide +kernel, rfl⟩
theorem dX8_trial_102 : Dd mX8_trial.2.1 102 (.lload 6) 2 104 := ⟨by decide +kernel, rfl⟩
theorem dX8_trial_104 : Dd mX8_trial.2.1 104 (.lload 10) 2 106 := ⟨by decide +kernel, rfl⟩
theorem dX8_trial_106 : Dd mX8_trial.2.1 106 (.invokestatic 262) 3 109 := ⟨by decide +kernel, rfl⟩
theorem dX8_trial_109 : Dd mX8_trial.2.1 109 (.lstore 12) 2 111 := ⟨by decide +kernel, rfl⟩
theorem dX8_trial_111 : Dd mX8_trial.2.1 111 (.iload 4) 2 113 := ⟨by decide +kernel, rfl⟩
theorem dX8_trial_113 : Dd mX8_trial.2.1 113 (.ifCond .ne 8) 3 116 := ⟨by decide +kernel, rfl⟩
theorem dX8_trial_116 : Dd mX8_trial.2.1 116 (.lload 6) 2 118 := ⟨by decide +kernel, rfl⟩
theorem dX8_trial_118 : Dd mX8_trial.2.1 118 (.goto 5) 3 121 := ⟨by decide +kernel, rfl⟩
theorem dX8_trial_121 : Dd mX8_trial.2.1 121 (.lload 10) 2 123 := ⟨by decide +kernel, rfl⟩
theorem dX8_trial_123 : Dd mX8_trial.2.1 123 (.lload 12) 2 125 := ⟨by decide +kernel, rfl⟩
theorem dX8_trial_125 : Dd mX8_trial.2.1 125 (.ldiv) 1 126 := ⟨by decide +kernel, rfl⟩
theorem dX8_trial_126 : Dd mX8_trial.2.1 126 (.lreturn) 1 127 := ⟨by decide +kernel, rfl⟩
theorem dX8_pledge_0 : Dd mX8_pledge.2.1 0 (.iload_n 1) 1 1 := ⟨by decide +kernel, rfl⟩
theorem dX8_pledge_1 : Dd mX8_pledge.2.1 1 (.ifCond .lt 8) 3 4 := ⟨by decide +kernel, rfl⟩
theorem dX8_pledge_4 : Dd mX8_pledge.2.1 4 (.iload_n 1) 1 5 := ⟨by decide +kernel, rfl⟩
theorem dX8_pledge_5 : Dd mX8_pledge.2.1 5 (.iconst 1) 1 6 := ⟨by decide +kernel, rfl⟩
theorem dX8_pledge_6 : Dd mX8_pledge.2.1 6 (.if_icmp .le 5) 3 9 := ⟨by decide +kernel, rfl⟩
theorem dX8_pledge_9 : Dd mX8_pledge.2.1 9 (.iconst (-1)) 1 10 := ⟨by decide +kernel, rfl⟩
theorem dX8_pledge_10 : Dd mX8_pledge.2.1 10 (.ireturn) 1 11 := ⟨by decide +kernel, rfl⟩
theorem dX8_pledge_11 : Dd mX8_pledge.2.1 11 (.iconst 0) 1 12 := ⟨by decide +kernel, rfl⟩
theorem dX8_pledge_12 : Dd mX8_pledge.2.1 12 (.istore_n 2) 1 13 := ⟨by decide +kernel, rfl⟩
theorem dX8_pledge_13 : Dd mX8_pledge.2.1 13 (.bipush (-4)) 2 15 := ⟨by decide +kernel, rfl⟩
theorem dX8_pledge_15 : Dd mX8_pledge.2.1 15 (.istore_n 3) 1 16 := ⟨by decide +kernel, rfl⟩
theorem dX8_pledge_16 : Dd mX8_pledge.2.1 16 (.iconst 0) 1 17 := ⟨by decide +kernel, rfl⟩
theorem dX8_pledge_17 : Dd mX8_pledge.2.1 17 (.istore 4) 2 19 := ⟨by decide +kernel, rfl⟩
theorem dX8_pledge_19 : Dd mX8_pledge.2.1 19 (.iload 4) 2 21 := ⟨by decide +kernel, rfl⟩
theorem dX8_pledge_21 : Dd mX8_pledge.2.1 21 (.aload_n 0) 1 22 := ⟨by decide +kernel, rfl⟩
theorem dX8_pledge_22 : Dd mX8_pledge.2.1 22 (.getfield 28) 3 25 := ⟨by decide +kernel, rfl⟩
theorem dX8_pledge_25 : Dd mX8_pledge.2.1 25 (.getfield 139) 3 28 := ⟨by decide +kernel, rfl⟩
theorem dX8_pledge_28 : Dd mX8_pledge.2.1 28 (.if_icmp .ge 60) 3 31 := ⟨by decide +kernel, rfl⟩
theorem dX8_pledge_31 : Dd mX8_pledge.2.1 31 (.iconst 0) 1 32 := ⟨by decide +kernel, rfl⟩
theorem dX8_pledge_32 : Dd mX8_pledge.2.1 32 (.istore 5) 2 34 := ⟨by decide +kernel, rfl⟩
theorem dX8_pledge_34 : Dd mX8_pledge.2.1 34 (.iload 5) 2 36 := ⟨by decide +kernel, rfl⟩
theorem dX8_pledge_36 : Dd mX8_pledge.2.1 36 (.aload_n 0) 1 37 := ⟨by decide +kernel, rfl⟩
theorem dX8_pledge_37 : Dd mX8_pledge.2.1 37 (.getfield 28) 3 40 := ⟨by decide +kernel, rfl⟩
theorem dX8_pledge_40 : Dd mX8_pledge.2.1 40 (.getfield 139) 3 43 := ⟨by decide +kernel, rfl⟩
theorem dX8_pledge_43 : Dd mX8_pledge.2.1 43 (.if_icmp .ge 39) 3 46 := ⟨by decide +kernel, rfl⟩
theorem dX8_pledge_46 : Dd mX8_pledge.2.1 46 (.aload_n 0) 1 47 := ⟨by decide +kernel, rfl⟩
theorem dX8_pledge_47 : Dd mX8_pledge.2.1 47 (.iload 4) 2 49 := ⟨by decide +kernel, rfl⟩
theorem dX8_pledge_49 : Dd mX8_pledge.2.1 49 (.iload 5) 2 51 := ⟨by decide +kernel, rfl⟩
theorem dX8_pledge_51 : Dd mX8_pledge.2.1 51 (.invokevirtual 266) 3 54 := ⟨by decide +kernel, rfl⟩
theorem dX8_pledge_54 : Dd mX8_pledge.2.1 54 (.ifCond .ne 6) 3 57 := ⟨by decide +kernel, rfl⟩
theorem dX8_pledge_57 : Dd mX8_pledge.2.1 57 (.goto 19) 3 60 := ⟨by decide +kernel, rfl⟩
theorem dX8_pledge_60 : Dd mX8_pledge.2.1 60 (.iload_n 2) 1 61 := ⟨by decide +kernel, rfl⟩
theorem dX8_pledge_61 : Dd mX8_pledge.2.1 61 (.ifCond .ne 12) 3 64 := ⟨by decide +kernel, rfl⟩
theorem dX8_pledge_64 : Dd mX8_pledge.2.1 64 (.bipush 8) 2 66 := ⟨by decide +kernel, rfl⟩
theorem dX8_pledge_66 : Dd mX8_pledge.2.1 66 (.iload 4) 2 68 := ⟨by decide +kernel, rfl⟩
theorem dX8_pledge_68 : Dd mX8_pledge.2.1 68 (.imul) 1 69 := ⟨by decide +kernel, rfl⟩
theorem dX8_pledge_69 : Dd mX8_pledge.2.1 69 (.iload 5) 2 71 := ⟨by decide +kernel, rfl⟩
theorem dX8_pledge_71 : Dd mX8_pledge.2.1 71 (.iadd) 1 72 := ⟨by decide +kernel, rfl⟩
theorem dX8_pledge_72 : Dd mX8_pledge.2.1 72 (.istore_n 3) 1 73 := ⟨by decide +kernel, rfl⟩
theorem dX8_pledge_73 : Dd mX8_pledge.2.1 73 (.iinc 2 1) 3 76 := ⟨by decide +kernel, rfl⟩
theorem dX8_pledge_76 : Dd mX8_pledge.2.1 76 (.iinc 5 1) 3 79 := ⟨by decide +kernel, rfl⟩
theorem dX8_pledge_79 : Dd mX8_pledge.2.1 79 (.goto (-45)) 3 82 := ⟨by decide +kernel, rfl⟩
theorem dX8_pledge_82 : Dd mX8_pledge.2.1 82 (.iinc 4 1) 3 85 := ⟨by decide +kernel, rfl⟩
theorem dX8_pledge_85 : Dd mX8_pledge.2.1 85 (.goto (-66)) 3 88 := ⟨by decide +kernel, rfl⟩
theorem dX8_pledge_88 : Dd mX8_pledge.2.1 88 (.iload_n 1) 1 89 := ⟨by decide +kernel, rfl⟩
theorem dX8_pledge_89 : Dd mX8_pledge.2.1 89 (.ifCond .ne 7) 3 92 := ⟨by decide +kernel, rfl⟩
theorem dX8_pledge_92 : Dd mX8_pledge.2.1 92 (.iload_n 2) 1 93 := ⟨by decide +kernel, rfl⟩
theorem dX8_pledge_93 : Dd mX8_pledge.2.1 93 (.goto 4) 3 96 := ⟨by decide +kernel, rfl⟩
theorem dX8_pledge_96 : Dd mX8_pledge.2.1 96 (.iload_n 3) 1 97 := ⟨by decide +kernel, rfl⟩
theorem dX8_pledge_97 : Dd mX8_pledge.2.1 97 (.ireturn) 1 98 := ⟨by decide +kernel, rfl⟩
theorem dX8_pledgeRests_0 : Dd mX8_pledgeRests.2.1 0 (.aload_n 0) 1 1 := ⟨by decide +kernel, rfl⟩
theorem dX8_pledgeRests_1 : Dd mX8_pledgeRests.2.1 1 (.iload_n 1) 1 2 := ⟨by decide +kernel, rfl⟩
theorem dX8_pledgeRests_2 : Dd mX8_pledgeRests.2.1 2 (.iload_n 2) 1 3 := ⟨by decide +kernel, rfl⟩
theorem dX8_pledgeRests_3 : Dd mX8_pledgeRests.2.1 3 (.invokevirtual 269) 3 6 := ⟨by decide +kernel, rfl⟩
theorem dX8_pledgeRests_6 : Dd mX8_pledgeRests.2.1 6 (.istore_n 3) 1 7 := ⟨by decide +kernel, rfl⟩
theorem dX8_pledgeRests_7 : Dd mX8_pledgeRests.2.1 7 (.iconst 0) 1 8 := ⟨by decide +kernel, rfl⟩
theorem dX8_pledgeRests_8 : Dd mX8_pledgeRests.2.1 8 (.istore 4) 2 10 := ⟨by decide +kernel, rfl⟩
theorem dX8_pledgeRests_10 : Dd mX8_pledgeRests.2.1 10 (.iload 4) 2 12 := ⟨by decide +kernel, rfl⟩
theorem dX8_pledgeRests_12 : Dd mX8_pledgeRests.2.1 12 (.aload_n 0) 1 13 := ⟨by decide +kernel, rfl⟩
theorem dX8_pledgeRests_13 : Dd mX8_pledgeRests.2.1 13 (.getfield 28) 3 16 := ⟨by decide +kernel, rfl⟩
theorem dX8_pledgeRests_16 : Dd mX8_pledgeRests.2.1 16 (.getfield 139) 3 19 := ⟨by decide +kernel, rfl⟩
theorem dX8_pledgeRests_19 : Dd mX8_pledgeRests.2.1 19 (.if_icmp .ge 33) 3 22 := ⟨by decide +kernel, rfl⟩
theorem dX8_pledgeRests_22 : Dd mX8_pledgeRests.2.1 22 (.aload_n 0) 1 23 := ⟨by decide +kernel, rfl⟩
theorem dX8_pledgeRests_23 : Dd mX8_pledgeRests.2.1 23 (.iload 4) 2 25 := ⟨by decide +kernel, rfl⟩
theorem dX8_pledgeRests_25 : Dd mX8_pledgeRests.2.1 25 (.iload_n 2) 1 26 := ⟨by decide +kernel, rfl⟩
theorem dX8_pledgeRests_26 : Dd mX8_pledgeRests.2.1 26 (.invokevirtual 269) 3 29 := ⟨by decide +kernel, rfl⟩
theorem dX8_pledgeRests_29 : Dd mX8_pledgeRests.2.1 29 (.iload_n 3) 1 30 := ⟨by decide +kernel, rfl⟩
theorem dX8_pledgeRests_30 : Dd mX8_pledgeRests.2.1 30 (.if_icmp .lt 14) 3 33 := ⟨by decide +kernel, rfl⟩
theorem dX8_pledgeRests_33 : Dd mX8_pledgeRests.2.1 33 (.aload_n 0) 1 34 := ⟨by decide +kernel, rfl⟩
theorem dX8_pledgeRests_34 : Dd mX8_pledgeRests.2.1 34 (.iload_n 1) 1 35 := ⟨by decide +kernel, rfl⟩
theorem dX8_pledgeRests_35 : Dd mX8_pledgeRests.2.1 35 (.iload 4) 2 37 := ⟨by decide +kernel, rfl⟩
theorem dX8_pledgeRests_37 : Dd mX8_pledgeRests.2.1 37 (.invokevirtual 269) 3 40 := ⟨by decide +kernel, rfl⟩
theorem dX8_pledgeRests_40 : Dd mX8_pledgeRests.2.1 40 (.iload_n 3) 1 41 := ⟨by decide +kernel, rfl⟩
theorem dX8_pledgeRests_41 : Dd mX8_pledgeRests.2.1 41 (.if_icmp .le 5) 3 44 := ⟨by decide +kernel, rfl⟩
theorem dX8_pledgeRests_44 : Dd mX8_pledgeRests.2.1 44 (.iconst 0) 1 45 := ⟨by decide +kernel, rfl⟩
theorem dX8_pledgeRests_45 : Dd mX8_pledgeRests.2.1 45 (.ireturn) 1 46 := ⟨by decide +kernel, rfl⟩
theorem dX8_pledgeRests_46 : Dd mX8_pledgeRests.2.1 46 (.iinc 4 1) 3 49 := ⟨by decide +kernel, rfl⟩
theorem dX8_pledgeRests_49 : Dd mX8_pledgeRests.2.1 49 (.goto (-39)) 3 52 := ⟨by decide +kernel, rfl⟩
theorem dX8_pledgeRests_52 : Dd mX8_pledgeRests.2.1 52 (.iconst 1) 1 53 := ⟨by decide +kernel, rfl⟩
theorem dX8_pledgeRests_53 : Dd mX8_pledgeRests.2.1 53 (.ireturn) 1 54 := ⟨by decide +kernel, rfl⟩
theorem dX8_pledgeLoss_0 : Dd mX8_pledgeLoss.2.1 0 (.iload_n 1) 1 1 := ⟨by decide +kernel, rfl⟩
theorem dX8_pledgeLoss_1 : Dd mX8_pledgeLoss.2.1 1 (.iload_n 2) 1 2 := ⟨by decide +kernel, rfl⟩
theorem dX8_pledgeLoss_2 : Dd mX8_pledgeLoss.2.1 2 (.if_icmp .ne 7) 3 5 := ⟨by decide +kernel, rfl⟩
theorem dX8_pledgeLoss_5 : Dd mX8_pledgeLoss.2.1 5 (.iconst 3) 1 6 := ⟨by decide +kernel, rfl⟩
theorem dX8_pledgeLoss_6 : Dd mX8_pledgeLoss.2.1 6 (.goto 4) 3 9 := ⟨by decide +kernel, rfl⟩
theorem dX8_pledgeLoss_9 : Dd mX8_pledgeLoss.2.1 9 (.iconst 1) 1 10 := ⟨by decide +kernel, rfl⟩
theorem dX8_pledgeLoss_10 : Dd mX8_pledgeLoss.2.1 10 (.aload_n 0) 1 11 := ⟨by decide +kernel, rfl⟩
theorem dX8_pledgeLoss_11 : Dd mX8_pledgeLoss.2.1 11 (.getfield 28) 3 14 := ⟨by decide +kernel, rfl⟩
theorem dX8_pledgeLoss_14 : Dd mX8_pledgeLoss.2.1 14 (.iload_n 1) 1 15 := ⟨by decide +kernel, rfl⟩
theorem dX8_pledgeLoss_15 : Dd mX8_pledgeLoss.2.1 15 (.invokevirtual 145) 3 18 := ⟨by decide +kernel, rfl⟩
theorem dX8_pledgeLoss_18 : Dd mX8_pledgeLoss.2.1 18 (.imul) 1 19 := ⟨by decide +kernel, rfl⟩
theorem dX8_pledgeLoss_19 : Dd mX8_pledgeLoss.2.1 19 (.ireturn) 1 20 := ⟨by decide +kernel, rfl⟩
theorem dX8_gain_0 : Dd mX8_gain.2.1 0 (.iload_n 1) 1 1 := ⟨by decide +kernel, rfl⟩
theorem dX8_gain_1 : Dd mX8_gain.2.1 1 (.bipush (-3)) 2 3 := ⟨by decide +kernel, rfl⟩
theorem dX8_gain_3 : Dd mX8_gain.2.1 3 (.if_icmp .lt 8) 3 6 := ⟨by decide +kernel, rfl⟩
theorem dX8_gain_6 : Dd mX8_gain.2.1 6 (.iload_n 1) 1 7 := ⟨by decide +kernel, rfl⟩
theorem dX8_gain_7 : Dd mX8_gain.2.1 7 (.iconst 5) 1 8 := ⟨by decide +kernel, rfl⟩
theorem dX8_gain_8 : Dd mX8_gain.2.1 8 (.if_icmp .le 5) 3 11 := ⟨by decide +kernel, rfl⟩
theorem dX8_gain_11 : Dd mX8_gain.2.1 11 (.iconst (-1)) 1 12 := ⟨by decide +kernel, rfl⟩
theorem dX8_gain_12 : Dd mX8_gain.2.1 12 (.ireturn) 1 13 := ⟨by decide +kernel, rfl⟩
theorem dX8_gain_13 : Dd mX8_gain.2.1 13 (.aload_n 0) 1 14 := ⟨by decide +kernel, rfl⟩
theorem dX8_gain_14 : Dd mX8_gain.2.1 14 (.getfield 76) 3 17 := ⟨by decide +kernel, rfl⟩
theorem dX8_gain_17 : Dd mX8_gain.2.1 17 (.aload_n 0) 1 18 := ⟨by decide +kernel, rfl⟩
theorem dX8_gain_18 : Dd mX8_gain.2.1 18 (.getfield 28) 3 21 := ⟨by decide +kernel, rfl⟩
theorem dX8_gain_21 : Dd mX8_gain.2.1 21 (.invokevirtual 272) 3 24 := ⟨by decide +kernel, rfl⟩
theorem dX8_gain_24 : Dd mX8_gain.2.1 24 (.ifCond .ne 6) 3 27 := ⟨by decide +kernel, rfl⟩
theorem dX8_gain_27 : Dd mX8_gain.2.1 27 (.bipush (-4)) 2 29 := ⟨by decide +kernel, rfl⟩
theorem dX8_gain_29 : Dd mX8_gain.2.1 29 (.ireturn) 1 30 := ⟨by decide +kernel, rfl⟩
theorem dX8_gain_30 : Dd mX8_gain.2.1 30 (.iload_n 1) 1 31 := ⟨by decide +kernel, rfl⟩
theorem dX8_gain_31 : Dd mX8_gain.2.1 31 (.tableswitch 49 (-3) (-1) #[25, 33, 41]) 25 56 := ⟨by decide +kernel, rfl⟩
theorem dX8_gain_56 : Dd mX8_gain.2.1 56 (.aload_n 0) 1 57 := ⟨by decide +kernel, rfl⟩
theorem dX8_gain_57 : Dd mX8_gain.2.1 57 (.getfield 76) 3 60 := ⟨by decide +kernel, rfl⟩
theorem dX8_gain_60 : Dd mX8_gain.2.1 60 (.invokevirtual 276) 3 63 := ⟨by decide +kernel, rfl⟩
theorem dX8_gain_63 : Dd mX8_gain.2.1 63 (.ireturn) 1 64 := ⟨by decide +kernel, rfl⟩
theorem dX8_gain_64 : Dd mX8_gain.2.1 64 (.aload_n 0) 1 65 := ⟨by decide +kernel, rfl⟩
theorem dX8_gain_65 : Dd mX8_gain.2.1 65 (.getfield 76) 3 68 := ⟨by decide +kernel, rfl⟩
theorem dX8_gain_68 : Dd mX8_gain.2.1 68 (.invokevirtual 279) 3 71 := ⟨by decide +kernel, rfl⟩
theorem dX8_gain_71 : Dd mX8_gain.2.1 71 (.ireturn) 1 72 := ⟨by decide +kernel, rfl⟩
theorem dX8_gain_72 : Dd mX8_gain.2.1 72 (.aload_n 0) 1 73 := ⟨by decide +kernel, rfl⟩
theorem dX8_gain_73 : Dd mX8_gain.2.1 73 (.getfield 76) 3 76 := ⟨by decide +kernel, rfl⟩
theorem dX8_gain_76 : Dd mX8_gain.2.1 76 (.getfield 282) 3 79 := ⟨by decide +kernel, rfl⟩
theorem dX8_gain_79 : Dd mX8_gain.2.1 79 (.ireturn) 1 80 := ⟨by decide +kernel, rfl⟩
theorem dX8_gain_80 : Dd mX8_gain.2.1 80 (.aload_n 0) 1 81 := ⟨by decide +kernel, rfl⟩
theorem dX8_gain_81 : Dd mX8_gain.2.1 81 (.getfield 76) 3 84 := ⟨by decide +kernel, rfl⟩
theorem dX8_gain_84 : Dd mX8_gain.2.1 84 (.iload_n 1) 1 85 := ⟨by decide +kernel, rfl⟩
theorem dX8_gain_85 : Dd mX8_gain.2.1 85 (.invokevirtual 284) 3 88 := ⟨by decide +kernel, rfl⟩
theorem dX8_gain_88 : Dd mX8_gain.2.1 88 (.ireturn) 1 89 := ⟨by decide +kernel, rfl⟩
theorem dX8_row_0 : Dd mX8_row.2.1 0 (.iload_n 1) 1 1 := ⟨by decide +kernel, rfl⟩
theorem dX8_row_1 : Dd mX8_row.2.1 1 (.ifCond .lt 25) 3 4 := ⟨by decide +kernel, rfl⟩
theorem dX8_row_4 : Dd mX8_row.2.1 4 (.iload_n 1) 1 5 := ⟨by decide +kernel, rfl⟩
theorem dX8_row_5 : Dd mX8_row.2.1 5 (.sipush 9999) 3 8 := ⟨by decide +kernel, rfl⟩
theorem dX8_row_8 : Dd mX8_row.2.1 8 (.if_icmp .gt 18) 3 11 := ⟨by decide +kernel, rfl⟩
theorem dX8_row_11 : Dd mX8_row.2.1 11 (.iload_n 2) 1 12 := ⟨by decide +kernel, rfl⟩
theorem dX8_row_12 : Dd mX8_row.2.1 12 (.iconst 1) 1 13 := ⟨by decide +kernel, rfl⟩
theorem dX8_row_13 : Dd mX8_row.2.1 13 (.if_icmp .lt 13) 3 16 := ⟨by decide +kernel, rfl⟩
theorem dX8_row_16 : Dd mX8_row.2.1 16 (.iload_n 2) 1 17 := ⟨by decide +kernel, rfl⟩
theorem dX8_row_17 : Dd mX8_row.2.1 17 (.bipush 40) 2 19 := ⟨by decide +kernel, rfl⟩
theorem dX8_row_19 : Dd mX8_row.2.1 19 (.if_icmp .gt 7) 3 22 := ⟨by decide +kernel, rfl⟩
theorem dX8_row_22 : Dd mX8_row.2.1 22 (.iconst 1) 1 23 := ⟨by decide +kernel, rfl⟩
theorem dX8_row_23 : Dd mX8_row.2.1 23 (.goto 4) 3 26 := ⟨by decide +kernel, rfl⟩
theorem dX8_row_26 : Dd mX8_row.2.1 26 (.iconst 0) 1 27 := ⟨by decide +kernel, rfl⟩
theorem dX8_row_27 : Dd mX8_row.2.1 27 (.istore 4) 2 29 := ⟨by decide +kernel, rfl⟩
theorem dX8_row_29 : Dd mX8_row.2.1 29 (.iload 4) 2 31 := ⟨by decide +kernel, rfl⟩
theorem dX8_row_31 : Dd mX8_row.2.1 31 (.ifCond .eq 12) 3 34 := ⟨by decide +kernel, rfl⟩
theorem dX8_row_34 : Dd mX8_row.2.1 34 (.iload_n 3) 1 35 := ⟨by decide +kernel, rfl⟩
theorem dX8_row_35 : Dd mX8_row.2.1 35 (.ifCond .lt 8) 3 38 := ⟨by decide +kernel, rfl⟩
theorem dX8_row_38 : Dd mX8_row.2.1 38 (.iload_n 3) 1 39 := ⟨by decide +kernel, rfl⟩
theorem dX8_row_39 : Dd mX8_row.2.1 39 (.iconst 1) 1 40 := ⟨by decide +kernel, rfl⟩
theorem dX8_row_40 : Dd mX8_row.2.1 40 (.if_icmp .le 5) 3 43 := ⟨by decide +kernel, rfl⟩
theorem dX8_row_43 : Dd mX8_row.2.1 43 (.iconst (-1)) 1 44 := ⟨by decide +kernel, rfl⟩
theorem dX8_row_44 : Dd mX8_row.2.1 44 (.ireturn) 1 45 := ⟨by decide +kernel, rfl⟩
theorem dX8_row_45 : Dd mX8_row.2.1 45 (.aload_n 0) 1 46 := ⟨by decide +kernel, rfl⟩
theorem dX8_row_46 : Dd mX8_row.2.1 46 (.getfield 49) 3 49 := ⟨by decide +kernel, rfl⟩
theorem dX8_row_49 : Dd mX8_row.2.1 49 (.aload_n 0) 1 50 := ⟨by decide +kernel, rfl⟩
theorem dX8_row_50 : Dd mX8_row.2.1 50 (.getfield 45) 3 53 := ⟨by decide +kernel, rfl⟩
theorem dX8_row_53 : Dd mX8_row.2.1 53 (.invokevirtual 287) 3 56 := ⟨by decide +kernel, rfl⟩
theorem dX8_row_56 : Dd mX8_row.2.1 56 (.iconst 0) 1 57 := ⟨by decide +kernel, rfl⟩
theorem dX8_row_57 : Dd mX8_row.2.1 57 (.istore 5) 2 59 := ⟨by decide +kernel, rfl⟩
theorem dX8_row_59 : Dd mX8_row.2.1 59 (.iconst 0) 1 60 := ⟨by decide +kernel, rfl⟩
theorem dX8_row_60 : Dd mX8_row.2.1 60 (.istore 6) 2 62 := ⟨by decide +kernel, rfl⟩
theorem dX8_row_62 : Dd mX8_row.2.1 62 (.iload 6) 2 64 := ⟨by decide +kernel, rfl⟩
theorem dX8_row_64 : Dd mX8_row.2.1 64 (.iload_n 2) 1 65 := ⟨by decide +kernel, rfl⟩
theorem dX8_row_65 : Dd mX8_row.2.1 65 (.if_icmp .ge 43) 3 68 := ⟨by decide +kernel, rfl⟩
theorem dX8_row_68 : Dd mX8_row.2.1 68 (.aload_n 0) 1 69 := ⟨by decide +kernel, rfl⟩
theorem dX8_row_69 : Dd mX8_row.2.1 69 (.aload_n 0) 1 70 := ⟨by decide +kernel, rfl⟩
theorem dX8_row_70 : Dd mX8_row.2.1 70 (.getfield 49) 3 73 := ⟨by decide +kernel, rfl⟩
theorem dX8_row_73 : Dd mX8_row.2.1 73 (.iload_n 1) 1 74 := ⟨by decide +kernel, rfl⟩
theorem dX8_row_74 : Dd mX8_row.2.1 74 (.iload 6) 2 76 := ⟨by decide +kernel, rfl⟩
theorem dX8_row_76 : Dd mX8_row.2.1 76 (.invokestatic 290) 3 79 := ⟨by decide +kernel, rfl⟩
theorem dX8_row_79 : Dd mX8_row.2.1 79 (.invokevirtual 293) 3 82 := ⟨by decide +kernel, rfl⟩
theorem dX8_row_82 : Dd mX8_row.2.1 82 (.iload 5) 2 84 := ⟨by decide +kernel, rfl⟩
theorem dX8_row_84 : Dd mX8_row.2.1 84 (.aload_n 0) 1 85 := ⟨by decide +kernel, rfl⟩
theorem dX8_row_85 : Dd mX8_row.2.1 85 (.getfield 49) 3 88 := ⟨by decide +kernel, rfl⟩
theorem dX8_row_88 : Dd mX8_row.2.1 88 (.aload_n 0) 1 89 := ⟨by decide +kernel, rfl⟩
theorem dX8_row_89 : Dd mX8_row.2.1 89 (.getfield 28) 3 92 := ⟨by decide +kernel, rfl⟩
theorem dX8_row_92 : Dd mX8_row.2.1 92 (.aload_n 0) 1 93 := ⟨by decide +kernel, rfl⟩
theorem dX8_row_93 : Dd mX8_row.2.1 93 (.getfield 38) 3 96 := ⟨by decide +kernel, rfl⟩
theorem dX8_row_96 : Dd mX8_row.2.1 96 (.invokevirtual 213) 3 99 := ⟨by decide +kernel, rfl⟩
theorem dX8_row_99 : Dd mX8_row.2.1 99 (.iadd) 1 100 := ⟨by decide +kernel, rfl⟩
theorem dX8_row_100 : Dd mX8_row.2.1 100 (.istore 5) 2 102 := ⟨by decide +kernel, rfl⟩
theorem dX8_row_102 : Dd mX8_row.2.1 102 (.iinc 6 1) 3 105 := ⟨by decide +kernel, rfl⟩
theorem dX8_row_105 : Dd mX8_row.2.1 105 (.goto (-43)) 3 108 := ⟨by decide +kernel, rfl⟩
theorem dX8_row_108 : Dd mX8_row.2.1 108 (.iload_n 3) 1 109 := ⟨by decide +kernel, rfl⟩
theorem dX8_row_109 : Dd mX8_row.2.1 109 (.ifCond .ne 14) 3 112 := ⟨by decide +kernel, rfl⟩
theorem dX8_row_112 : Dd mX8_row.2.1 112 (.aload_n 0) 1 113 := ⟨by decide +kernel, rfl⟩
theorem dX8_row_113 : Dd mX8_row.2.1 113 (.aload_n 0) 1 114 := ⟨by decide +kernel, rfl⟩
theorem dX8_row_114 : Dd mX8_row.2.1 114 (.getfield 49) 3 117 := ⟨by decide +kernel, rfl⟩
theorem dX8_row_117 : Dd mX8_row.2.1 117 (.invokevirtual 184) 3 120 := ⟨by decide +kernel, rfl⟩
theorem dX8_row_120 : Dd mX8_row.2.1 120 (.goto 5) 3 123 := ⟨by decide +kernel, rfl⟩
theorem dX8_row_123 : Dd mX8_row.2.1 123 (.iload 5) 2 125 := ⟨by decide +kernel, rfl⟩
theorem dX8_row_125 : Dd mX8_row.2.1 125 (.ireturn) 1 126 := ⟨by decide +kernel, rfl⟩
theorem dX8_actByDraw_0 : Dd mX8_actByDraw.2.1 0 (.aload_n 0) 1 1 := ⟨by decide +kernel, rfl⟩
theorem dX8_actByDraw_1 : Dd mX8_actByDraw.2.1 1 (.getfield 28) 3 4 := ⟨by decide +kernel, rfl⟩
theorem dX8_actByDraw_4 : Dd mX8_actByDraw.2.1 4 (.getfield 114) 3 7 := ⟨by decide +kernel, rfl⟩
theorem dX8_actByDraw_7 : Dd mX8_actByDraw.2.1 7 (.iconst 1) 1 8 := ⟨by decide +kernel, rfl⟩
theorem dX8_actByDraw_8 : Dd mX8_actByDraw.2.1 8 (.if_icmp .ge 4) 3 11 := ⟨by decide +kernel, rfl⟩
theorem dX8_actByDraw_11 : Dd mX8_actByDraw.2.1 11 (.return_) 1 12 := ⟨by decide +kernel, rfl⟩
theorem dX8_actByDraw_12 : Dd mX8_actByDraw.2.1 12 (.iload_n 2) 1 13 := ⟨by decide +kernel, rfl⟩
theorem dX8_actByDraw_13 : Dd mX8_actByDraw.2.1 13 (.aload_n 0) 1 14 := ⟨by decide +kernel, rfl⟩
theorem dX8_actByDraw_14 : Dd mX8_actByDraw.2.1 14 (.getfield 28) 3 17 := ⟨by decide +kernel, rfl⟩
theorem dX8_actByDraw_17 : Dd mX8_actByDraw.2.1 17 (.getfield 114) 3 20 := ⟨by decide +kernel, rfl⟩
theorem dX8_actByDraw_20 : Dd mX8_actByDraw.2.1 20 (.irem) 1 21 := ⟨by decide +kernel, rfl⟩
theorem dX8_actByDraw_21 : Dd mX8_actByDraw.2.1 21 (.istore_n 3) 1 22 := ⟨by decide +kernel, rfl⟩
theorem dX8_actByDraw_22 : Dd mX8_actByDraw.2.1 22 (.aload_n 1) 1 23 := ⟨by decide +kernel, rfl⟩
theorem dX8_actByDraw_23 : Dd mX8_actByDraw.2.1 23 (.iload_n 3) 1 24 := ⟨by decide +kernel, rfl⟩
theorem dX8_actByDraw_24 : Dd mX8_actByDraw.2.1 24 (.invokevirtual 166) 3 27 := ⟨by decide +kernel, rfl⟩
theorem dX8_actByDraw_27 : Dd mX8_actByDraw.2.1 27 (.ifCond .ne 40) 3 30 := ⟨by decide +kernel, rfl⟩
theorem dX8_actByDraw_30 : Dd mX8_actByDraw.2.1 30 (.aload_n 0) 1 31 := ⟨by decide +kernel, rfl⟩
theorem dX8_actByDraw_31 : Dd mX8_actByDraw.2.1 31 (.getfield 69) 3 34 := ⟨by decide +kernel, rfl⟩
theorem dX8_actByDraw_34 : Dd mX8_actByDraw.2.1 34 (.aload_n 0) 1 35 := ⟨by decide +kernel, rfl⟩
theorem dX8_actByDraw_35 : Dd mX8_actByDraw.2.1 35 (.getfield 28) 3 38 := ⟨by decide +kernel, rfl⟩
theorem dX8_actByDraw_38 : Dd mX8_actByDraw.2.1 38 (.iload_n 3) 1 39 := ⟨by decide +kernel, rfl⟩
theorem dX8_actByDraw_39 : Dd mX8_actByDraw.2.1 39 (.invokevirtual 160) 3 42 := ⟨by decide +kernel, rfl⟩
theorem dX8_actByDraw_42 : Dd mX8_actByDraw.2.1 42 (.aload_n 1) 1 43 := ⟨by decide +kernel, rfl⟩
theorem dX8_actByDraw_43 : Dd mX8_actByDraw.2.1 43 (.invokevirtual 188) 3 46 := ⟨by decide +kernel, rfl⟩
theorem dX8_actByDraw_46 : Dd mX8_actByDraw.2.1 46 (.invokevirtual 226) 3 49 := ⟨by decide +kernel, rfl⟩
theorem dX8_actByDraw_49 : Dd mX8_actByDraw.2.1 49 (.ifCond .eq 32) 3 52 := ⟨by decide +kernel, rfl⟩
theorem dX8_actByDraw_52 : Dd mX8_actByDraw.2.1 52 (.aload_n 1) 1 53 := ⟨by decide +kernel, rfl⟩
theorem dX8_actByDraw_53 : Dd mX8_actByDraw.2.1 53 (.iload_n 3) 1 54 := ⟨by decide +kernel, rfl⟩
theorem dX8_actByDraw_54 : Dd mX8_actByDraw.2.1 54 (.aload_n 0) 1 55 := ⟨by decide +kernel, rfl⟩
theorem dX8_actByDraw_55 : Dd mX8_actByDraw.2.1 55 (.getfield 69) 3 58 := ⟨by decide +kernel, rfl⟩
theorem dX8_actByDraw_58 : Dd mX8_actByDraw.2.1 58 (.getfield 230) 3 61 := ⟨by decide +kernel, rfl⟩
theorem dX8_actByDraw_61 : Dd mX8_actByDraw.2.1 61 (.invokevirtual 198) 3 64 := ⟨by decide +kernel, rfl⟩
theorem dX8_actByDraw_64 : Dd mX8_actByDraw.2.1 64 (.goto 17) 3 67 := ⟨by decide +kernel, rfl⟩
theorem dX8_actByDraw_67 : Dd mX8_actByDraw.2.1 67 (.iload_n 2) 1 68 := ⟨by decide +kernel, rfl⟩
theorem dX8_actByDraw_68 : Dd mX8_actByDraw.2.1 68 (.bipush 8) 2 70 := ⟨by decide +kernel, rfl⟩
theorem dX8_actByDraw_70 : Dd mX8_actByDraw.2.1 70 (.idiv) 1 71 := ⟨by decide +kernel, rfl⟩
theorem dX8_actByDraw_71 : Dd mX8_actByDraw.2.1 71 (.iconst 4) 1 72 := ⟨by decide +kernel, rfl⟩
theorem dX8_actByDraw_72 : Dd mX8_actByDraw.2.1 72 (.irem) 1 73 := ⟨by decide +kernel, rfl⟩
theorem dX8_actByDraw_73 : Dd mX8_actByDraw.2.1 73 (.ifCond .ne 8) 3 76 := ⟨by decide +kernel, rfl⟩
theorem dX8_actByDraw_76 : Dd mX8_actByDraw.2.1 76 (.aload_n 1) 1 77 := ⟨by decide +kernel, rfl⟩
theorem dX8_actByDraw_77 : Dd mX8_actByDraw.2.1 77 (.iload_n 3) 1 78 := ⟨by decide +kernel, rfl⟩
theorem dX8_actByDraw_78 : Dd mX8_actByDraw.2.1 78 (.invokevirtual 207) 3 81 := ⟨by decide +kernel, rfl⟩
theorem dX8_actByDraw_81 : Dd mX8_actByDraw.2.1 81 (.return_) 1 82 := ⟨by decide +kernel, rfl⟩
theorem dX8_keep_0 : Dd mX8_keep.2.1 0 (.aload_n 0) 1 1 := ⟨by decide +kernel, rfl⟩
theorem dX8_keep_1 : Dd mX8_keep.2.1 1 (.getfield 61) 3 4 := ⟨by decide +kernel, rfl⟩
theorem dX8_keep_4 : Dd mX8_keep.2.1 4 (.invokevirtual 221) 3 7 := ⟨by decide +kernel, rfl⟩
theorem dX8_keep_7 : Dd mX8_keep.2.1 7 (.iconst 2) 1 8 := ⟨by decide +kernel, rfl⟩
theorem dX8_keep_8 : Dd mX8_keep.2.1 8 (.if_icmp .lt 6) 3 11 := ⟨by decide +kernel, rfl⟩
theorem dX8_keep_11 : Dd mX8_keep.2.1 11 (.bipush (-3)) 2 13 := ⟨by decide +kernel, rfl⟩
theorem dX8_keep_13 : Dd mX8_keep.2.1 13 (.ireturn) 1 14 := ⟨by decide +kernel, rfl⟩
theorem dX8_keep_14 : Dd mX8_keep.2.1 14 (.aload_n 0) 1 15 := ⟨by decide +kernel, rfl⟩
theorem dX8_keep_15 : Dd mX8_keep.2.1 15 (.getfield 61) 3 18 := ⟨by decide +kernel, rfl⟩
theorem dX8_keep_18 : Dd mX8_keep.2.1 18 (.aload_n 0) 1 19 := ⟨by decide +kernel, rfl⟩
theorem dX8_keep_19 : Dd mX8_keep.2.1 19 (.getfield 45) 3 22 := ⟨by decide +kernel, rfl⟩
theorem dX8_keep_22 : Dd mX8_keep.2.1 22 (.invokevirtual 194) 3 25 := ⟨by decide +kernel, rfl⟩
theorem dX8_keep_25 : Dd mX8_keep.2.1 25 (.aload_n 0) 1 26 := ⟨by decide +kernel, rfl⟩
theorem dX8_keep_26 : Dd mX8_keep.2.1 26 (.getfield 61) 3 29 := ⟨by decide +kernel, rfl⟩
theorem dX8_keep_29 : Dd mX8_keep.2.1 29 (.invokevirtual 221) 3 32 := ⟨by decide +kernel, rfl⟩
theorem dX8_keep_32 : Dd mX8_keep.2.1 32 (.ireturn) 1 33 := ⟨by decide +kernel, rfl⟩
theorem dX8_restore_0 : Dd mX8_restore.2.1 0 (.aload_n 0) 1 1 := ⟨by decide +kernel, rfl⟩
theorem dX8_restore_1 : Dd mX8_restore.2.1 1 (.getfield 61) 3 4 := ⟨by decide +kernel, rfl⟩
theorem dX8_restore_4 : Dd mX8_restore.2.1 4 (.aload_n 0) 1 5 := ⟨by decide +kernel, rfl⟩
theorem dX8_restore_5 : Dd mX8_restore.2.1 5 (.getfield 45) 3 8 := ⟨by decide +kernel, rfl⟩
theorem dX8_restore_8 : Dd mX8_restore.2.1 8 (.invokevirtual 217) 3 11 := ⟨by decide +kernel, rfl⟩
theorem dX8_restore_11 : Dd mX8_restore.2.1 11 (.ifCond .ne 6) 3 14 := ⟨by decide +kernel, rfl⟩
theorem dX8_restore_14 : Dd mX8_restore.2.1 14 (.bipush (-2)) 2 16 := ⟨by decide +kernel, rfl⟩
theorem dX8_restore_16 : Dd mX8_restore.2.1 16 (.ireturn) 1 17 := ⟨by decide +kernel, rfl⟩
theorem dX8_restore_17 : Dd mX8_restore.2.1 17 (.aload_n 0) 1 18 := ⟨by decide +kernel, rfl⟩
theorem dX8_restore_18 : Dd mX8_restore.2.1 18 (.getfield 57) 3 21 := ⟨by decide +kernel, rfl⟩
theorem dX8_restore_21 : Dd mX8_restore.2.1 21 (.invokevirtual 122) 3 24 := ⟨by decide +kernel, rfl⟩
theorem dX8_restore_24 : Dd mX8_restore.2.1 24 (.aload_n 0) 1 25 := ⟨by decide +kernel, rfl⟩
theorem dX8_restore_25 : Dd mX8_restore.2.1 25 (.getfield 61) 3 28 := ⟨by decide +kernel, rfl⟩
theorem dX8_restore_28 : Dd mX8_restore.2.1 28 (.invokevirtual 221) 3 31 := ⟨by decide +kernel, rfl⟩
theorem dX8_restore_31 : Dd mX8_restore.2.1 31 (.ireturn) 1 32 := ⟨by decide +kernel, rfl⟩
theorem dX8_count_0 : Dd mX8_count.2.1 0 (.iload_n 1) 1 1 := ⟨by decide +kernel, rfl⟩
theorem dX8_count_1 : Dd mX8_count.2.1 1 (.tableswitch 123 0 8 #[51, 59, 67, 75, 83, 91, 99, 107, 115]) 51 52 := ⟨by decide +kernel, rfl⟩
theorem dX8_count_52 : Dd mX8_count.2.1 52 (.aload_n 0) 1 53 := ⟨by decide +kernel, rfl⟩
theorem dX8_count_53 : Dd mX8_count.2.1 53 (.getfield 28) 3 56 := ⟨by decide +kernel, rfl⟩
theorem dX8_count_56 : Dd mX8_count.2.1 56 (.getfield 110) 3 59 := ⟨by decide +kernel, rfl⟩
theorem dX8_count_59 : Dd mX8_count.2.1 59 (.ireturn) 1 60 := ⟨by decide +kernel, rfl⟩
theorem dX8_count_60 : Dd mX8_count.2.1 60 (.aload_n 0) 1 61 := ⟨by decide +kernel, rfl⟩
theorem dX8_count_61 : Dd mX8_count.2.1 61 (.getfield 28) 3 64 := ⟨by decide +kernel, rfl⟩
theorem dX8_count_64 : Dd mX8_count.2.1 64 (.getfield 297) 3 67 := ⟨by decide +kernel, rfl⟩
theorem dX8_count_67 : Dd mX8_count.2.1 67 (.ireturn) 1 68 := ⟨by decide +kernel, rfl⟩
theorem dX8_count_68 : Dd mX8_count.2.1 68 (.aload_n 0) 1 69 := ⟨by decide +kernel, rfl⟩
theorem dX8_count_69 : Dd mX8_count.2.1 69 (.getfield 28) 3 72 := ⟨by decide +kernel, rfl⟩
theorem dX8_count_72 : Dd mX8_count.2.1 72 (.getfield 139) 3 75 := ⟨by decide +kernel, rfl⟩
theorem dX8_count_75 : Dd mX8_count.2.1 75 (.ireturn) 1 76 := ⟨by decide +kernel, rfl⟩
theorem dX8_count_76 : Dd mX8_count.2.1 76 (.aload_n 0) 1 77 := ⟨by decide +kernel, rfl⟩
theorem dX8_count_77 : Dd mX8_count.2.1 77 (.getfield 28) 3 80 := ⟨by decide +kernel, rfl⟩
theorem dX8_count_80 : Dd mX8_count.2.1 80 (.getfield 114) 3 83 := ⟨by decide +kernel, rfl⟩
theorem dX8_count_83 : Dd mX8_count.2.1 83 (.ireturn) 1 84 := ⟨by decide +kernel, rfl⟩
theorem dX8_count_84 : Dd mX8_count.2.1 84 (.aload_n 0) 1 85 := ⟨by decide +kernel, rfl⟩
theorem dX8_count_85 : Dd mX8_count.2.1 85 (.getfield 28) 3 88 := ⟨by decide +kernel, rfl⟩
theorem dX8_count_88 : Dd mX8_count.2.1 88 (.getfield 300) 3 91 := ⟨by decide +kernel, rfl⟩
theorem dX8_count_91 : Dd mX8_count.2.1 91 (.ireturn) 1 92 := ⟨by decide +kernel, rfl⟩
theorem dX8_count_92 : Dd mX8_count.2.1 92 (.aload_n 0) 1 93 := ⟨by decide +kernel, rfl⟩
theorem dX8_count_93 : Dd mX8_count.2.1 93 (.getfield 45) 3 96 := ⟨by decide +kernel, rfl⟩
theorem dX8_count_96 : Dd mX8_count.2.1 96 (.getfield 210) 3 99 := ⟨by decide +kernel, rfl⟩
theorem dX8_count_99 : Dd mX8_count.2.1 99 (.ireturn) 1 100 := ⟨by decide +kernel, rfl⟩
theorem dX8_count_100 : Dd mX8_count.2.1 100 (.aload_n 0) 1 101 := ⟨by decide +kernel, rfl⟩
theorem dX8_count_101 : Dd mX8_count.2.1 101 (.getfield 57) 3 104 := ⟨by decide +kernel, rfl⟩
theorem dX8_count_104 : Dd mX8_count.2.1 104 (.invokevirtual 221) 3 107 := ⟨by decide +kernel, rfl⟩
theorem dX8_count_107 : Dd mX8_count.2.1 107 (.ireturn) 1 108 := ⟨by decide +kernel, rfl⟩
theorem dX8_count_108 : Dd mX8_count.2.1 108 (.aload_n 0) 1 109 := ⟨by decide +kernel, rfl⟩
theorem dX8_count_109 : Dd mX8_count.2.1 109 (.getfield 61) 3 112 := ⟨by decide +kernel, rfl⟩
theorem dX8_count_112 : Dd mX8_count.2.1 112 (.invokevirtual 221) 3 115 := ⟨by decide +kernel, rfl⟩
theorem dX8_count_115 : Dd mX8_count.2.1 115 (.ireturn) 1 116 := ⟨by decide +kernel, rfl⟩
theorem dX8_count_116 : Dd mX8_count.2.1 116 (.aload_n 0) 1 117 := ⟨by decide +kernel, rfl⟩
theorem dX8_count_117 : Dd mX8_count.2.1 117 (.getfield 10) 3 120 := ⟨by decide +kernel, rfl⟩
theorem dX8_count_120 : Dd mX8_count.2.1 120 (.invokevirtual 103) 3 123 := ⟨by decide +kernel, rfl⟩
theorem dX8_count_123 : Dd mX8_count.2.1 123 (.ireturn) 1 124 := ⟨by decide +kernel, rfl⟩
theorem dX8_count_124 : Dd mX8_count.2.1 124 (.iconst (-1)) 1 125 := ⟨by decide +kernel, rfl⟩
theorem dX8_count_125 : Dd mX8_count.2.1 125 (.ireturn) 1 126 := ⟨by decide +kernel, rfl⟩
theorem dX8_isThing_0 : Dd mX8_isThing.2.1 0 (.iload_n 1) 1 1 := ⟨by decide +kernel, rfl⟩
theorem dX8_isThing_1 : Dd mX8_isThing.2.1 1 (.ifCond .lt 18) 3 4 := ⟨by decide +kernel, rfl⟩
theorem dX8_isThing_4 : Dd mX8_isThing.2.1 4 (.iload_n 1) 1 5 := ⟨by decide +kernel, rfl⟩
theorem dX8_isThing_5 : Dd mX8_isThing.2.1 5 (.aload_n 0) 1 6 := ⟨by decide +kernel, rfl⟩
theorem dX8_isThing_6 : Dd mX8_isThing.2.1 6 (.getfield 28) 3 9 := ⟨by decide +kernel, rfl⟩
theorem dX8_isThing_9 : Dd mX8_isThing.2.1 9 (.getfield 110) 3 12 := ⟨by decide +kernel, rfl⟩
theorem dX8_isThing_12 : Dd mX8_isThing.2.1 12 (.if_icmp .ge 7) 3 15 := ⟨by decide +kernel, rfl⟩
theorem dX8_isThing_15 : Dd mX8_isThing.2.1 15 (.iconst 1) 1 16 := ⟨by decide +kernel, rfl⟩
theorem dX8_isThing_16 : Dd mX8_isThing.2.1 16 (.goto 4) 3 19 := ⟨by decide +kernel, rfl⟩
theorem dX8_isThing_19 : Dd mX8_isThing.2.1 19 (.iconst 0) 1 20 := ⟨by decide +kernel, rfl⟩
theorem dX8_isThing_20 : Dd mX8_isThing.2.1 20 (.ireturn) 1 21 := ⟨by decide +kernel, rfl⟩
theorem dX8_isBeast_0 : Dd mX8_isBeast.2.1 0 (.iload_n 1) 1 1 := ⟨by decide +kernel, rfl⟩
theorem dX8_isBeast_1 : Dd mX8_isBeast.2.1 1 (.ifCond .lt 18) 3 4 := ⟨by decide +kernel, rfl⟩
theorem dX8_isBeast_4 : Dd mX8_isBeast.2.1 4 (.iload_n 1) 1 5 := ⟨by decide +kernel, rfl⟩
theorem dX8_isBeast_5 : Dd mX8_isBeast.2.1 5 (.aload_n 0) 1 6 := ⟨by decide +kernel, rfl⟩
theorem dX8_isBeast_6 : Dd mX8_isBeast.2.1 6 (.getfield 28) 3 9 := ⟨by decide +kernel, rfl⟩
theorem dX8_isBeast_9 : Dd mX8_isBeast.2.1 9 (.getfield 114) 3 12 := ⟨by decide +kernel, rfl⟩
theorem dX8_isBeast_12 : Dd mX8_isBeast.2.1 12 (.if_icmp .ge 7) 3 15 := ⟨by decide +kernel, rfl⟩
theorem dX8_isBeast_15 : Dd mX8_isBeast.2.1 15 (.iconst 1) 1 16 := ⟨by decide +kernel, rfl⟩
theorem dX8_isBeast_16 : Dd mX8_isBeast.2.1 16 (.goto 4) 3 19 := ⟨by decide +kernel, rfl⟩
theorem dX8_isBeast_19 : Dd mX8_isBeast.2.1 19 (.iconst 0) 1 20 := ⟨by decide +kernel, rfl⟩
theorem dX8_isBeast_20 : Dd mX8_isBeast.2.1 20 (.ireturn) 1 21 := ⟨by decide +kernel, rfl⟩
theorem dX8_isThere_0 : Dd mX8_isThere.2.1 0 (.aload_n 0) 1 1 := ⟨by decide +kernel, rfl⟩
theorem dX8_isThere_1 : Dd mX8_isThere.2.1 1 (.getfield 38) 3 4 := ⟨by decide +kernel, rfl⟩
theorem dX8_isThere_4 : Dd mX8_isThere.2.1 4 (.aload_n 0) 1 5 := ⟨by decide +kernel, rfl⟩
theorem dX8_isThere_5 : Dd mX8_isThere.2.1 5 (.getfield 45) 3 8 := ⟨by decide +kernel, rfl⟩
theorem dX8_isThere_8 : Dd mX8_isThere.2.1 8 (.invokevirtual 188) 3 11 := ⟨by decide +kernel, rfl⟩
theorem dX8_isThere_11 : Dd mX8_isThere.2.1 11 (.invokevirtual 191) 3 14 := ⟨by decide +kernel, rfl⟩
theorem dX8_isThere_14 : Dd mX8_isThere.2.1 14 (.iload_n 1) 1 15 := ⟨by decide +kernel, rfl⟩
theorem dX8_isThere_15 : Dd mX8_isThere.2.1 15 (.ishr) 1 16 := ⟨by decide +kernel, rfl⟩
theorem dX8_isThere_16 : Dd mX8_isThere.2.1 16 (.iconst 1) 1 17 := ⟨by decide +kernel, rfl⟩
theorem dX8_isThere_17 : Dd mX8_isThere.2.1 17 (.iand) 1 18 := ⟨by decide +kernel, rfl⟩
theorem dX8_isThere_18 : Dd mX8_isThere.2.1 18 (.iconst 1) 1 19 := ⟨by decide +kernel, rfl⟩
theorem dX8_isThere_19 : Dd mX8_isThere.2.1 19 (.if_icmp .ne 7) 3 22 := ⟨by decide +kernel, rfl⟩
theorem dX8_isThere_22 : Dd mX8_isThere.2.1 22 (.iconst 1) 1 23 := ⟨by decide +kernel, rfl⟩
theorem dX8_isThere_23 : Dd mX8_isThere.2.1 23 (.goto 4) 3 26 := ⟨by decide +kernel, rfl⟩
theorem dX8_isThere_26 : Dd mX8_isThere.2.1 26 (.iconst 0) 1 27 := ⟨by decide +kernel, rfl⟩
theorem dX8_isThere_27 : Dd mX8_isThere.2.1 27 (.ireturn) 1 28 := ⟨by decide +kernel, rfl⟩
theorem dX8_missedIn_0 : Dd mX8_missedIn.2.1 0 (.aload_n 0) 1 1 := ⟨by decide +kernel, rfl⟩
theorem dX8_missedIn_1 : Dd mX8_missedIn.2.1 1 (.getfield 38) 3 4 := ⟨by decide +kernel, rfl⟩
theorem dX8_missedIn_4 : Dd mX8_missedIn.2.1 4 (.aload_n 1) 1 5 := ⟨by decide +kernel, rfl⟩
theorem dX8_missedIn_5 : Dd mX8_missedIn.2.1 5 (.aload_n 0) 1 6 := ⟨by decide +kernel, rfl⟩
theorem dX8_missedIn_6 : Dd mX8_missedIn.2.1 6 (.getfield 28) 3 9 := ⟨by decide +kernel, rfl⟩
theorem dX8_missedIn_9 : Dd mX8_missedIn.2.1 9 (.getfield 148) 3 12 := ⟨by decide +kernel, rfl⟩
theorem dX8_missedIn_12 : Dd mX8_missedIn.2.1 12 (.invokevirtual 151) 3 15 := ⟨by decide +kernel, rfl⟩
theorem dX8_missedIn_15 : Dd mX8_missedIn.2.1 15 (.invokevirtual 303) 3 18 := ⟨by decide +kernel, rfl⟩
theorem dX8_missedIn_18 : Dd mX8_missedIn.2.1 18 (.ireturn) 1 19 := ⟨by decide +kernel, rfl⟩
theorem dX8_draw_0 : Dd mX8_draw.2.1 0 (.ldc2_w 306) 3 3 := ⟨by decide +kernel, rfl⟩
theorem dX8_draw_3 : Dd mX8_draw.2.1 3 (.iload_n 0) 1 4 := ⟨by decide +kernel, rfl⟩
theorem dX8_draw_4 : Dd mX8_draw.2.1 4 (.i2l) 1 5 := ⟨by decide +kernel, rfl⟩
theorem dX8_draw_5 : Dd mX8_draw.2.1 5 (.lmul) 1 6 := ⟨by decide +kernel, rfl⟩
theorem dX8_draw_6 : Dd mX8_draw.2.1 6 (.ldc2_w 308) 3 9 := ⟨by decide +kernel, rfl⟩
theorem dX8_draw_9 : Dd mX8_draw.2.1 9 (.iload_n 1) 1 10 := ⟨by decide +kernel, rfl⟩
theorem dX8_draw_10 : Dd mX8_draw.2.1 10 (.i2l) 1 11 := ⟨by decide +kernel, rfl⟩
theorem dX8_draw_11 : Dd mX8_draw.2.1 11 (.lmul) 1 12 := ⟨by decide +kernel, rfl⟩
theorem dX8_draw_12 : Dd mX8_draw.2.1 12 (.ladd) 1 13 := ⟨by decide +kernel, rfl⟩
theorem dX8_draw_13 : Dd mX8_draw.2.1 13 (.lconst 1) 1 14 := ⟨by decide +kernel, rfl⟩
theorem dX8_draw_14 : Dd mX8_draw.2.1 14 (.ladd) 1 15 := ⟨by decide +kernel, rfl⟩
theorem dX8_draw_15 : Dd mX8_draw.2.1 15 (.lstore_n 2) 1 16 := ⟨by decide +kernel, rfl⟩
theorem dX8_draw_16 : Dd mX8_draw.2.1 16 (.lload_n 2) 1 17 := ⟨by decide +kernel, rfl⟩
theorem dX8_draw_17 : Dd mX8_draw.2.1 17 (.lload_n 2) 1 18 := ⟨by decide +kernel, rfl⟩
theorem dX8_draw_18 : Dd mX8_draw.2.1 18 (.lmul) 1 19 := ⟨by decide +kernel, rfl⟩
theorem dX8_draw_19 : Dd mX8_draw.2.1 19 (.ldc2_w 310) 3 22 := ⟨by decide +kernel, rfl⟩
theorem dX8_draw_22 : Dd mX8_draw.2.1 22 (.lrem) 1 23 := ⟨by decide +kernel, rfl⟩
theorem dX8_draw_23 : Dd mX8_draw.2.1 23 (.l2i) 1 24 := ⟨by decide +kernel, rfl⟩
theorem dX8_draw_24 : Dd mX8_draw.2.1 24 (.ireturn) 1 25 := ⟨by decide +kernel, rfl⟩
theorem dX8_power_0 : Dd mX8_power.2.1 0 (.lconst 1) 1 1 := ⟨by decide +kernel, rfl⟩
theorem dX8_power_1 : Dd mX8_power.2.1 1 (.lstore_n 2) 1 2 := ⟨by decide +kernel, rfl⟩
theorem dX8_power_2 : Dd mX8_power.2.1 2 (.iconst 0) 1 3 := ⟨by decide +kernel, rfl⟩
theorem dX8_power_3 : Dd mX8_power.2.1 3 (.istore 4) 2 5 := ⟨by decide +kernel, rfl⟩
theorem dX8_power_5 : Dd mX8_power.2.1 5 (.iload 4) 2 7 := ⟨by decide +kernel, rfl⟩
theorem dX8_power_7 : Dd mX8_power.2.1 7 (.iload_n 1) 1 8 := ⟨by decide +kernel, rfl⟩
theorem dX8_power_8 : Dd mX8_power.2.1 8 (.if_icmp .ge 14) 3 11 := ⟨by decide +kernel, rfl⟩
theorem dX8_power_11 : Dd mX8_power.2.1 11 (.lload_n 2) 1 12 := ⟨by decide +kernel, rfl⟩
theorem dX8_power_12 : Dd mX8_power.2.1 12 (.iload_n 0) 1 13 := ⟨by decide +kernel, rfl⟩
theorem dX8_power_13 : Dd mX8_power.2.1 13 (.i2l) 1 14 := ⟨by decide +kernel, rfl⟩
theorem dX8_power_14 : Dd mX8_power.2.1 14 (.lmul) 1 15 := ⟨by decide +kernel, rfl⟩
theorem dX8_power_15 : Dd mX8_power.2.1 15 (.lstore_n 2) 1 16 := ⟨by decide +kernel, rfl⟩
theorem dX8_power_16 : Dd mX8_power.2.1 16 (.iinc 4 1) 3 19 := ⟨by decide +kernel, rfl⟩
theorem dX8_power_19 : Dd mX8_power.2.1 19 (.goto (-14)) 3 22 := ⟨by decide +kernel, rfl⟩
theorem dX8_power_22 : Dd mX8_power.2.1 22 (.lload_n 2) 1 23 := ⟨by decide +kernel, rfl⟩
theorem dX8_power_23 : Dd mX8_power.2.1 23 (.lreturn) 1 24 := ⟨by decide +kernel, rfl⟩
theorem dX8_commonDivisor_0 : Dd mX8_commonDivisor.2.1 0 (.lload_n 0) 1 1 := ⟨by decide +kernel, rfl⟩
theorem dX8_commonDivisor_1 : Dd mX8_commonDivisor.2.1 1 (.lstore 4) 2 3 := ⟨by decide +kernel, rfl⟩
theorem dX8_commonDivisor_3 : Dd mX8_commonDivisor.2.1 3 (.lload_n 2) 1 4 := ⟨by decide +kernel, rfl⟩
theorem dX8_commonDivisor_4 : Dd mX8_commonDivisor.2.1 4 (.lstore 6) 2 6 := ⟨by decide +kernel, rfl⟩
theorem dX8_commonDivisor_6 : Dd mX8_commonDivisor.2.1 6 (.iconst 0) 1 7 := ⟨by decide +kernel, rfl⟩
theorem dX8_commonDivisor_7 : Dd mX8_commonDivisor.2.1 7 (.istore 8) 2 9 := ⟨by decide +kernel, rfl⟩
theorem dX8_commonDivisor_9 : Dd mX8_commonDivisor.2.1 9 (.iload 8) 2 11 := ⟨by decide +kernel, rfl⟩
theorem dX8_commonDivisor_11 : Dd mX8_commonDivisor.2.1 11 (.sipush 200) 3 14 := ⟨by decide +kernel, rfl⟩
theorem dX8_commonDivisor_14 : Dd mX8_commonDivisor.2.1 14 (.if_icmp .ge 31) 3 17 := ⟨by decide +kernel, rfl⟩
theorem dX8_commonDivisor_17 : Dd mX8_commonDivisor.2.1 17 (.lload 6) 2 19 := ⟨by decide +kernel, rfl⟩
theorem dX8_commonDivisor_19 : Dd mX8_commonDivisor.2.1 19 (.lconst 0) 1 20 := ⟨by decide +kernel, rfl⟩
theorem dX8_commonDivisor_20 : Dd mX8_commonDivisor.2.1 20 (.lcmp) 1 21 := ⟨by decide +kernel, rfl⟩
theorem dX8_commonDivisor_21 : Dd mX8_commonDivisor.2.1 21 (.ifCond .eq 24) 3 24 := ⟨by decide +kernel, rfl⟩
theorem dX8_commonDivisor_24 : Dd mX8_commonDivisor.2.1 24 (.lload 4) 2 26 := ⟨by decide +kernel, rfl⟩
theorem dX8_commonDivisor_26 : Dd mX8_commonDivisor.2.1 26 (.lload 6) 2 28 := ⟨by decide +kernel, rfl⟩
theorem dX8_commonDivisor_28 : Dd mX8_commonDivisor.2.1 28 (.lrem) 1 29 := ⟨by decide +kernel, rfl⟩
theorem dX8_commonDivisor_29 : Dd mX8_commonDivisor.2.1 29 (.lstore 9) 2 31 := ⟨by decide +kernel, rfl⟩
theorem dX8_commonDivisor_31 : Dd mX8_commonDivisor.2.1 31 (.lload 6) 2 33 := ⟨by decide +kernel, rfl⟩
theorem dX8_commonDivisor_33 : Dd mX8_commonDivisor.2.1 33 (.lstore 4) 2 35 := ⟨by decide +kernel, rfl⟩
theorem dX8_commonDivisor_35 : Dd mX8_commonDivisor.2.1 35 (.lload 9) 2 37 := ⟨by decide +kernel, rfl⟩
theorem dX8_commonDivisor_37 : Dd mX8_commonDivisor.2.1 37 (.lstore 6) 2 39 := ⟨by decide +kernel, rfl⟩
theorem dX8_commonDivisor_39 : Dd mX8_commonDivisor.2.1 39 (.iinc 8 1) 3 42 := ⟨by decide +kernel, rfl⟩
theorem dX8_commonDivisor_42 : Dd mX8_commonDivisor.2.1 42 (.goto (-33)) 3 45 := ⟨by decide +kernel, rfl⟩
theorem dX8_commonDivisor_45 : Dd mX8_commonDivisor.2.1 45 (.lconst 1) 1 46 := ⟨by decide +kernel, rfl⟩
theorem dX8_commonDivisor_46 : Dd mX8_commonDivisor.2.1 46 (.lload 4) 2 48 := ⟨by decide +kernel, rfl⟩
theorem dX8_commonDivisor_48 : Dd mX8_commonDivisor.2.1 48 (.invokestatic 312) 3 51 := ⟨by decide +kernel, rfl⟩
theorem dX8_commonDivisor_51 : Dd mX8_commonDivisor.2.1 51 (.lreturn) 1 52 := ⟨by decide +kernel, rfl⟩
end
section
/-! ===== the instructions, by program ===== -/
theorem dX9_init_0 : Dd mX9_init.2.1 0 (.aload_n 0) 1 1 := ⟨by decide +kernel, rfl⟩
theorem dX9_init_1 : Dd mX9_init.2.1 1 (.invokespecial 1) 3 4 := ⟨by decide +kernel, rfl⟩
theorem dX9_init_4 : Dd mX9_init.2.1 4 (.aload_n 0) 1 5 := ⟨by decide +kernel, rfl⟩
theorem dX9_init_5 : Dd mX9_init.2.1 5 (.sipush 156) 3 8 := ⟨by decide +kernel, rfl⟩
theorem dX9_init_8 : Dd mX9_init.2.1 8 (.newarray .int) 2 10 := ⟨by decide +kernel, rfl⟩
theorem dX9_init_10 : Dd mX9_init.2.1 10 (.putfield 7) 3 13 := ⟨by decide +kernel, rfl⟩
theorem dX9_init_13 : Dd mX9_init.2.1 13 (.aload_n 0) 1 14 := ⟨by decide +kernel, rfl⟩
theorem dX9_init_14 : Dd mX9_init.2.1 14 (.sipush 200) 3 17 := ⟨by decide +kernel, rfl⟩
theorem dX9_init_17 : Dd mX9_init.2.1 17 (.newarray .int) 2 19 := ⟨by decide +kernel, rfl⟩
theorem dX9_init_19 : Dd mX9_init.2.1 19 (.putfield 13) 3 22 := ⟨by decide +kernel, rfl⟩
theorem dX9_init_22 : Dd mX9_init.2.1 22 (.aload_n 0) 1 23 := ⟨by decide +kernel, rfl⟩
theorem dX9_init_23 : Dd mX9_init.2.1 23 (.bipush 10) 2 25 := ⟨by decide +kernel, rfl⟩
theorem dX9_init_25 : Dd mX9_init.2.1 25 (.newarray .int) 2 27 := ⟨by decide +kernel, rfl⟩
theorem dX9_init_27 : Dd mX9_init.2.1 27 (.putfield 16) 3 30 := ⟨by decide +kernel, rfl⟩
theorem dX9_init_30 : Dd mX9_init.2.1 30 (.aload_n 0) 1 31 := ⟨by decide +kernel, rfl⟩
theorem dX9_init_31 : Dd mX9_init.2.1 31 (.bipush 10) 2 33 := ⟨by decide +kernel, rfl⟩
theorem dX9_init_33 : Dd mX9_init.2.1 33 (.newarray .int) 2 35 := ⟨by decide +kernel, rfl⟩
theorem dX9_init_35 : Dd mX9_init.2.1 35 (.putfield 19) 3 38 := ⟨by decide +kernel, rfl⟩
theorem dX9_init_38 : Dd mX9_init.2.1 38 (.aload_n 0) 1 39 := ⟨by decide +kernel, rfl⟩
theorem dX9_init_39 : Dd mX9_init.2.1 39 (.bipush 10) 2 41 := ⟨by decide +kernel, rfl⟩
theorem dX9_init_41 : Dd mX9_init.2.1 41 (.newarray .int) 2 43 := ⟨by decide +kernel, rfl⟩
theorem dX9_init_43 : Dd mX9_init.2.1 43 (.putfield 22) 3 46 := ⟨by decide +kernel, rfl⟩
theorem dX9_init_46 : Dd mX9_init.2.1 46 (.aload_n 0) 1 47 := ⟨by decide +kernel, rfl⟩
theorem dX9_init_47 : Dd mX9_init.2.1 47 (.bipush 8) 2 49 := ⟨by decide +kernel, rfl⟩
theorem dX9_init_49 : Dd mX9_init.2.1 49 (.newarray .int) 2 51 := ⟨by decide +kernel, rfl⟩
theorem dX9_init_51 : Dd mX9_init.2.1 51 (.putfield 25) 3 54 := ⟨by decide +kernel, rfl⟩
theorem dX9_init_54 : Dd mX9_init.2.1 54 (.aload_n 0) 1 55 := ⟨by decide +kernel, rfl⟩
theorem dX9_init_55 : Dd mX9_init.2.1 55 (.bipush 8) 2 57 := ⟨by decide +kernel, rfl⟩
theorem dX9_init_57 : Dd mX9_init.2.1 57 (.newarray .int) 2 59 := ⟨by decide +kernel, rfl⟩
theorem dX9_init_59 : Dd mX9_init.2.1 59 (.putfield 28) 3 62 := ⟨by decide +kernel, rfl⟩
theorem dX9_init_62 : Dd mX9_init.2.1 62 (.aload_n 0) 1 63 := ⟨by decide +kernel, rfl⟩
theorem dX9_init_63 : Dd mX9_init.2.1 63 (.iconst 4) 1 64 := ⟨by decide +kernel, rfl⟩
theorem dX9_init_64 : Dd mX9_init.2.1 64 (.newarray .int) 2 66 := ⟨by decide +kernel, rfl⟩
theorem dX9_init_66 : Dd mX9_init.2.1 66 (.putfield 31) 3 69 := ⟨by decide +kernel, rfl⟩
theorem dX9_init_69 : Dd mX9_init.2.1 69 (.aload_n 0) 1 70 := ⟨by decide +kernel, rfl⟩
theorem dX9_init_70 : Dd mX9_init.2.1 70 (.bipush 24) 2 72 := ⟨by decide +kernel, rfl⟩
theorem dX9_init_72 : Dd mX9_init.2.1 72 (.newarray .int) 2 74 := ⟨by decide +kernel, rfl⟩
theorem dX9_init_74 : Dd mX9_init.2.1 74 (.putfield 34) 3 77 := ⟨by decide +kernel, rfl⟩
theorem dX9_init_77 : Dd mX9_init.2.1 77 (.aload_n 0) 1 78 := ⟨by decide +kernel, rfl⟩
theorem dX9_init_78 : Dd mX9_init.2.1 78 (.iconst 4) 1 79 := ⟨by decide +kernel, rfl⟩
theorem dX9_init_79 : Dd mX9_init.2.1 79 (.newarray .int) 2 81 := ⟨by decide +kernel, rfl⟩
theorem dX9_init_81 : Dd mX9_init.2.1 81 (.putfield 37) 3 84 := ⟨by decide +kernel, rfl⟩
theorem dX9_init_84 : Dd mX9_init.2.1 84 (.aload_n 0) 1 85 := ⟨by decide +kernel, rfl⟩
theorem dX9_init_85 : Dd mX9_init.2.1 85 (.sipush 16384) 3 88 := ⟨by decide +kernel, rfl⟩
theorem dX9_init_88 : Dd mX9_init.2.1 88 (.newarray .boolean) 2 90 := ⟨by decide +kernel, rfl⟩
theorem dX9_init_90 : Dd mX9_init.2.1 90 (.putfield 40) 3 93 := ⟨by decide +kernel, rfl⟩
theorem dX9_init_93 : Dd mX9_init.2.1 93 (.aload_n 0) 1 94 := ⟨by decide +kernel, rfl⟩
theorem dX9_init_94 : Dd mX9_init.2.1 94 (.sipush 1024) 3 97 := ⟨by decide +kernel, rfl⟩
theorem dX9_init_97 : Dd mX9_init.2.1 97 (.newarray .int) 2 99 := ⟨by decide +kernel, rfl⟩
theorem dX9_init_99 : Dd mX9_init.2.1 99 (.putfield 44) 3 102 := ⟨by decide +kernel, rfl⟩
theorem dX9_init_102 : Dd mX9_init.2.1 102 (.aload_n 0) 1 103 := ⟨by decide +kernel, rfl⟩
theorem dX9_init_103 : Dd mX9_init.2.1 103 (.sipush 1024) 3 106 := ⟨by decide +kernel, rfl⟩
theorem dX9_init_106 : Dd mX9_init.2.1 106 (.newarray .int) 2 108 := ⟨by decide +kernel, rfl⟩
theorem dX9_init_108 : Dd mX9_init.2.1 108 (.putfield 47) 3 111 := ⟨by decide +kernel, rfl⟩
theorem dX9_init_111 : Dd mX9_init.2.1 111 (.aload_n 0) 1 112 := ⟨by decide +kernel, rfl⟩
theorem dX9_init_112 : Dd mX9_init.2.1 112 (.bipush 6) 2 114 := ⟨by decide +kernel, rfl⟩
theorem dX9_init_114 : Dd mX9_init.2.1 114 (.newarray .int) 2 116 := ⟨by decide +kernel, rfl⟩
theorem dX9_init_116 : Dd mX9_init.2.1 116 (.putfield 50) 3 119 := ⟨by decide +kernel, rfl⟩
theorem dX9_init_119 : Dd mX9_init.2.1 119 (.aload_n 0) 1 120 := ⟨by decide +kernel, rfl⟩
theorem dX9_init_120 : Dd mX9_init.2.1 120 (.iconst 5) 1 121 := ⟨by decide +kernel, rfl⟩
theorem dX9_init_121 : Dd mX9_init.2.1 121 (.iconst 1) 1 122 := ⟨by decide +kernel, rfl⟩
theorem dX9_init_122 : Dd mX9_init.2.1 122 (.invokevirtual 53) 3 125 := ⟨by decide +kernel, rfl⟩
theorem dX9_init_125 : Dd mX9_init.2.1 125 (.aload_n 0) 1 126 := ⟨by decide +kernel, rfl⟩
theorem dX9_init_126 : Dd mX9_init.2.1 126 (.iconst 4) 1 127 := ⟨by decide +kernel, rfl⟩
theorem dX9_init_127 : Dd mX9_init.2.1 127 (.iconst 1) 1 128 := ⟨by decide +kernel, rfl⟩
theorem dX9_init_128 : Dd mX9_init.2.1 128 (.invokevirtual 53) 3 131 := ⟨by decide +kernel, rfl⟩
theorem dX9_init_131 : Dd mX9_init.2.1 131 (.aload_n 0) 1 132 := ⟨by decide +kernel, rfl⟩
theorem dX9_init_132 : Dd mX9_init.2.1 132 (.bipush 6) 2 134 := ⟨by decide +kernel, rfl⟩
theorem dX9_init_134 : Dd mX9_init.2.1 134 (.iconst 0) 1 135 := ⟨by decide +kernel, rfl⟩
theorem dX9_init_135 : Dd mX9_init.2.1 135 (.invokevirtual 53) 3 138 := ⟨by decide +kernel, rfl⟩
theorem dX9_init_138 : Dd mX9_init.2.1 138 (.aload_n 0) 1 139 := ⟨by decide +kernel, rfl⟩
theorem dX9_init_139 : Dd mX9_init.2.1 139 (.bipush 9) 2 141 := ⟨by decide +kernel, rfl⟩
theorem dX9_init_141 : Dd mX9_init.2.1 141 (.iconst 2) 1 142 := ⟨by decide +kernel, rfl⟩
theorem dX9_init_142 : Dd mX9_init.2.1 142 (.invokevirtual 53) 3 145 := ⟨by decide +kernel, rfl⟩
theorem dX9_init_145 : Dd mX9_init.2.1 145 (.aload_n 0) 1 146 := ⟨by decide +kernel, rfl⟩
theorem dX9_init_146 : Dd mX9_init.2.1 146 (.bipush 7) 2 148 := ⟨by decide +kernel, rfl⟩
theorem dX9_init_148 : Dd mX9_init.2.1 148 (.iconst 3) 1 149 := ⟨by decide +kernel, rfl⟩
theorem dX9_init_149 : Dd mX9_init.2.1 149 (.invokevirtual 53) 3 152 := ⟨by decide +kernel, rfl⟩
theorem dX9_init_152 : Dd mX9_init.2.1 152 (.aload_n 0) 1 153 := ⟨by decide +kernel, rfl⟩
theorem dX9_init_153 : Dd mX9_init.2.1 153 (.iconst 2) 1 154 := ⟨by decide +kernel, rfl⟩
theorem dX9_init_154 : Dd mX9_init.2.1 154 (.iconst 0) 1 155 := ⟨by decide +kernel, rfl⟩
theorem dX9_init_155 : Dd mX9_init.2.1 155 (.invokevirtual 57) 3 158 := ⟨by decide +kernel, rfl⟩
theorem dX9_init_158 : Dd mX9_init.2.1 158 (.aload_n 0) 1 159 := ⟨by decide +kernel, rfl⟩
theorem dX9_init_159 : Dd mX9_init.2.1 159 (.iconst 4) 1 160 := ⟨by decide +kernel, rfl⟩
theorem dX9_init_160 : Dd mX9_init.2.1 160 (.iconst 2) 1 161 := ⟨by decide +kernel, rfl⟩
theorem dX9_init_161 : Dd mX9_init.2.1 161 (.invokevirtual 57) 3 164 := ⟨by decide +kernel, rfl⟩
theorem dX9_init_164 : Dd mX9_init.2.1 164 (.aload_n 0) 1 165 := ⟨by decide +kernel, rfl⟩
theorem dX9_init_165 : Dd mX9_init.2.1 165 (.iconst 0) 1 166 := ⟨by decide +kernel, rfl⟩
theorem dX9_init_166 : Dd mX9_init.2.1 166 (.iconst 3) 1 167 := ⟨by decide +kernel, rfl⟩
theorem dX9_init_167 : Dd mX9_init.2.1 167 (.invokevirtual 60) 3 170 := ⟨by decide +kernel, rfl⟩
theorem dX9_init_170 : Dd mX9_init.2.1 170 (.aload_n 0) 1 171 := ⟨by decide +kernel, rfl⟩
theorem dX9_init_171 : Dd mX9_init.2.1 171 (.iconst 2) 1 172 := ⟨by decide +kernel, rfl⟩
theorem dX9_init_172 : Dd mX9_init.2.1 172 (.iconst 5) 1 173 := ⟨by decide +kernel, rfl⟩
theorem dX9_init_173 : Dd mX9_init.2.1 173 (.invokevirtual 60) 3 176 := ⟨by decide +kernel, rfl⟩
theorem dX9_init_176 : Dd mX9_init.2.1 176 (.aload_n 0) 1 177 := ⟨by decide +kernel, rfl⟩
theorem dX9_init_177 : Dd mX9_init.2.1 177 (.iconst 3) 1 178 := ⟨by decide +kernel, rfl⟩
theorem dX9_init_178 : Dd mX9_init.2.1 178 (.iconst 1) 1 179 := ⟨by decide +kernel, rfl⟩
theorem dX9_init_179 : Dd mX9_init.2.1 179 (.invokevirtual 60) 3 182 := ⟨by decide +kernel, rfl⟩
theorem dX9_init_182 : Dd mX9_init.2.1 182 (.aload_n 0) 1 183 := ⟨by decide +kernel, rfl⟩
theorem dX9_init_183 : Dd mX9_init.2.1 183 (.iconst 4) 1 184 := ⟨by decide +kernel, rfl⟩
theorem dX9_init_184 : Dd mX9_init.2.1 184 (.iconst 2) 1 185 := ⟨by decide +kernel, rfl⟩
theorem dX9_init_185 : Dd mX9_init.2.1 185 (.invokevirtual 60) 3 188 := ⟨by decide +kernel, rfl⟩
theorem dX9_init_188 : Dd mX9_init.2.1 188 (.aload_n 0) 1 189 := ⟨by decide +kernel, rfl⟩
theorem dX9_init_189 : Dd mX9_init.2.1 189 (.bipush 12) 2 191 := ⟨by decide +kernel, rfl⟩
theorem dX9_init_191 : Dd mX9_init.2.1 191 (.invokevirtual 63) 3 194 := ⟨by decide +kernel, rfl⟩
theorem dX9_init_194 : Dd mX9_init.2.1 194 (.aload_n 0) 1 195 := ⟨by decide +kernel, rfl⟩
theorem dX9_init_195 : Dd mX9_init.2.1 195 (.bipush 16) 2 197 := ⟨by decide +kernel, rfl⟩
theorem dX9_init_197 : Dd mX9_init.2.1 197 (.invokevirtual 63) 3 200 := ⟨by decide +kernel, rfl⟩
theorem dX9_init_200 : Dd mX9_init.2.1 200 (.aload_n 0) 1 201 := ⟨by decide +kernel, rfl⟩
theorem dX9_init_201 : Dd mX9_init.2.1 201 (.iconst 0) 1 202 := ⟨by decide +kernel, rfl⟩
theorem dX9_init_202 : Dd mX9_init.2.1 202 (.iconst 2) 1 203 := ⟨by decide +kernel, rfl⟩
theorem dX9_init_203 : Dd mX9_init.2.1 203 (.iconst 1) 1 204 := ⟨by decide +kernel, rfl⟩
theorem dX9_init_204 : Dd mX9_init.2.1 204 (.iconst 2) 1 205 := ⟨by decide +kernel, rfl⟩
theorem dX9_init_205 : Dd mX9_init.2.1 205 (.invokevirtual 67) 3 208 := ⟨by decide +kernel, rfl⟩
theorem dX9_init_208 : Dd mX9_init.2.1 208 (.aload_n 0) 1 209 := ⟨by decide +kernel, rfl⟩
theorem dX9_init_209 : Dd mX9_init.2.1 209 (.iconst 2) 1 210 := ⟨by decide +kernel, rfl⟩
theorem dX9_init_210 : Dd mX9_init.2.1 210 (.iconst 0) 1 211 := ⟨by decide +kernel, rfl⟩
theorem dX9_init_211 : Dd mX9_init.2.1 211 (.iconst 2) 1 212 := ⟨by decide +kernel, rfl⟩
theorem dX9_init_212 : Dd mX9_init.2.1 212 (.iconst 1) 1 213 := ⟨by decide +kernel, rfl⟩
theorem dX9_init_213 : Dd mX9_init.2.1 213 (.invokevirtual 67) 3 216 := ⟨by decide +kernel, rfl⟩
theorem dX9_init_216 : Dd mX9_init.2.1 216 (.aload_n 0) 1 217 := ⟨by decide +kernel, rfl⟩
theorem dX9_init_217 : Dd mX9_init.2.1 217 (.invokevirtual 71) 3 220 := ⟨by decide +kernel, rfl⟩
theorem dX9_init_220 : Dd mX9_init.2.1 220 (.return_) 1 221 := ⟨by decide +kernel, rfl⟩
theorem dX9_in_0 : Dd mX9_in.2.1 0 (.lload_n 0) 1 1 := ⟨by decide +kernel, rfl⟩
theorem dX9_in_1 : Dd mX9_in.2.1 1 (.lload_n 2) 1 2 := ⟨by decide +kernel, rfl⟩
theorem dX9_in_2 : Dd mX9_in.2.1 2 (.lcmp) 1 3 := ⟨by decide +kernel, rfl⟩
theorem dX9_in_3 : Dd mX9_in.2.1 3 (.ifCond .lt 14) 3 6 := ⟨by decide +kernel, rfl⟩
theorem dX9_in_6 : Dd mX9_in.2.1 6 (.lload_n 0) 1 7 := ⟨by decide +kernel, rfl⟩
theorem dX9_in_7 : Dd mX9_in.2.1 7 (.lload 4) 2 9 := ⟨by decide +kernel, rfl⟩
theorem dX9_in_9 : Dd mX9_in.2.1 9 (.lcmp) 1 10 := ⟨by decide +kernel, rfl⟩
theorem dX9_in_10 : Dd mX9_in.2.1 10 (.ifCond .gt 7) 3 13 := ⟨by decide +kernel, rfl⟩
theorem dX9_in_13 : Dd mX9_in.2.1 13 (.iconst 1) 1 14 := ⟨by decide +kernel, rfl⟩
theorem dX9_in_14 : Dd mX9_in.2.1 14 (.goto 4) 3 17 := ⟨by decide +kernel, rfl⟩
theorem dX9_in_17 : Dd mX9_in.2.1 17 (.iconst 0) 1 18 := ⟨by decide +kernel, rfl⟩
theorem dX9_in_18 : Dd mX9_in.2.1 18 (.ireturn) 1 19 := ⟨by decide +kernel, rfl⟩
theorem dX9_has_0 : Dd mX9_has.2.1 0 (.iload_n 0) 1 1 := ⟨by decide +kernel, rfl⟩
theorem dX9_has_1 : Dd mX9_has.2.1 1 (.iload_n 1) 1 2 := ⟨by decide +kernel, rfl⟩
theorem dX9_has_2 : Dd mX9_has.2.1 2 (.ishr) 1 3 := ⟨by decide +kernel, rfl⟩
theorem dX9_has_3 : Dd mX9_has.2.1 3 (.iconst 1) 1 4 := ⟨by decide +kernel, rfl⟩
theorem dX9_has_4 : Dd mX9_has.2.1 4 (.iand) 1 5 := ⟨by decide +kernel, rfl⟩
theorem dX9_has_5 : Dd mX9_has.2.1 5 (.iconst 1) 1 6 := ⟨by decide +kernel, rfl⟩
theorem dX9_has_6 : Dd mX9_has.2.1 6 (.if_icmp .ne 7) 3 9 := ⟨by decide +kernel, rfl⟩
theorem dX9_has_9 : Dd mX9_has.2.1 9 (.iconst 1) 1 10 := ⟨by decide +kernel, rfl⟩
theorem dX9_has_10 : Dd mX9_has.2.1 10 (.goto 4) 3 13 := ⟨by decide +kernel, rfl⟩
theorem dX9_has_13 : Dd mX9_has.2.1 13 (.iconst 0) 1 14 := ⟨by decide +kernel, rfl⟩
theorem dX9_has_14 : Dd mX9_has.2.1 14 (.ireturn) 1 15 := ⟨by decide +kernel, rfl⟩
theorem dX9_bits_0 : Dd mX9_bits.2.1 0 (.iconst 0) 1 1 := ⟨by decide +kernel, rfl⟩
theorem dX9_bits_1 : Dd mX9_bits.2.1 1 (.istore_n 1) 1 2 := ⟨by decide +kernel, rfl⟩
theorem dX9_bits_2 : Dd mX9_bits.2.1 2 (.iconst 0) 1 3 := ⟨by decide +kernel, rfl⟩
theorem dX9_bits_3 : Dd mX9_bits.2.1 3 (.istore_n 2) 1 4 := ⟨by decide +kernel, rfl⟩
theorem dX9_bits_4 : Dd mX9_bits.2.1 4 (.iload_n 2) 1 5 := ⟨by decide +kernel, rfl⟩
theorem dX9_bits_5 : Dd mX9_bits.2.1 5 (.bipush 10) 2 7 := ⟨by decide +kernel, rfl⟩
theorem dX9_bits_7 : Dd mX9_bits.2.1 7 (.if_icmp .ge 17) 3 10 := ⟨by decide +kernel, rfl⟩
theorem dX9_bits_10 : Dd mX9_bits.2.1 10 (.iload_n 1) 1 11 := ⟨by decide +kernel, rfl⟩
theorem dX9_bits_11 : Dd mX9_bits.2.1 11 (.iload_n 0) 1 12 := ⟨by decide +kernel, rfl⟩
theorem dX9_bits_12 : Dd mX9_bits.2.1 12 (.iload_n 2) 1 13 := ⟨by decide +kernel, rfl⟩
theorem dX9_bits_13 : Dd mX9_bits.2.1 13 (.ishr) 1 14 := ⟨by decide +kernel, rfl⟩
theorem dX9_bits_14 : Dd mX9_bits.2.1 14 (.iconst 1) 1 15 := ⟨by decide +kernel, rfl⟩
theorem dX9_bits_15 : Dd mX9_bits.2.1 15 (.iand) 1 16 := ⟨by decide +kernel, rfl⟩
theorem dX9_bits_16 : Dd mX9_bits.2.1 16 (.iadd) 1 17 := ⟨by decide +kernel, rfl⟩
theorem dX9_bits_17 : Dd mX9_bits.2.1 17 (.istore_n 1) 1 18 := ⟨by decide +kernel, rfl⟩
theorem dX9_bits_18 : Dd mX9_bits.2.1 18 (.iinc 2 1) 3 21 := ⟨by decide +kernel, rfl⟩
theorem dX9_bits_21 : Dd mX9_bits.2.1 21 (.goto (-17)) 3 24 := ⟨by decide +kernel, rfl⟩
theorem dX9_bits_24 : Dd mX9_bits.2.1 24 (.iload_n 1) 1 25 := ⟨by decide +kernel, rfl⟩
theorem dX9_bits_25 : Dd mX9_bits.2.1 25 (.ireturn) 1 26 := ⟨by decide +kernel, rfl⟩
theorem dX9_addThing_0 : Dd mX9_addThing.2.1 0 (.aload_n 0) 1 1 := ⟨by decide +kernel, rfl⟩
theorem dX9_addThing_1 : Dd mX9_addThing.2.1 1 (.getfield 16) 3 4 := ⟨by decide +kernel, rfl⟩
theorem dX9_addThing_4 : Dd mX9_addThing.2.1 4 (.aload_n 0) 1 5 := ⟨by decide +kernel, rfl⟩
theorem dX9_addThing_5 : Dd mX9_addThing.2.1 5 (.getfield 74) 3 8 := ⟨by decide +kernel, rfl⟩
theorem dX9_addThing_8 : Dd mX9_addThing.2.1 8 (.iload_n 1) 1 9 := ⟨by decide +kernel, rfl⟩
theorem dX9_addThing_9 : Dd mX9_addThing.2.1 9 (.iastore) 1 10 := ⟨by decide +kernel, rfl⟩
theorem dX9_addThing_10 : Dd mX9_addThing.2.1 10 (.aload_n 0) 1 11 := ⟨by decide +kernel, rfl⟩
theorem dX9_addThing_11 : Dd mX9_addThing.2.1 11 (.getfield 19) 3 14 := ⟨by decide +kernel, rfl⟩
theorem dX9_addThing_14 : Dd mX9_addThing.2.1 14 (.aload_n 0) 1 15 := ⟨by decide +kernel, rfl⟩
theorem dX9_addThing_15 : Dd mX9_addThing.2.1 15 (.getfield 74) 3 18 := ⟨by decide +kernel, rfl⟩
theorem dX9_addThing_18 : Dd mX9_addThing.2.1 18 (.iload_n 2) 1 19 := ⟨by decide +kernel, rfl⟩
theorem dX9_addThing_19 : Dd mX9_addThing.2.1 19 (.iastore) 1 20 := ⟨by decide +kernel, rfl⟩
theorem dX9_addThing_20 : Dd mX9_addThing.2.1 20 (.aload_n 0) 1 21 := ⟨by decide +kernel, rfl⟩
theorem dX9_addThing_21 : Dd mX9_addThing.2.1 21 (.getfield 22) 3 24 := ⟨by decide +kernel, rfl⟩
theorem dX9_addThing_24 : Dd mX9_addThing.2.1 24 (.aload_n 0) 1 25 := ⟨by decide +kernel, rfl⟩
theorem dX9_addThing_25 : Dd mX9_addThing.2.1 25 (.getfield 74) 3 28 := ⟨by decide +kernel, rfl⟩
theorem dX9_addThing_28 : Dd mX9_addThing.2.1 28 (.iconst 0) 1 29 := ⟨by decide +kernel, rfl⟩
theorem dX9_addThing_29 : Dd mX9_addThing.2.1 29 (.iastore) 1 30 := ⟨by decide +kernel, rfl⟩
theorem dX9_addThing_30 : Dd mX9_addThing.2.1 30 (.aload_n 0) 1 31 := ⟨by decide +kernel, rfl⟩
theorem dX9_addThing_31 : Dd mX9_addThing.2.1 31 (.dup) 1 32 := ⟨by decide +kernel, rfl⟩
theorem dX9_addThing_32 : Dd mX9_addThing.2.1 32 (.getfield 74) 3 35 := ⟨by decide +kernel, rfl⟩
theorem dX9_addThing_35 : Dd mX9_addThing.2.1 35 (.iconst 1) 1 36 := ⟨by decide +kernel, rfl⟩
theorem dX9_addThing_36 : Dd mX9_addThing.2.1 36 (.iadd) 1 37 := ⟨by decide +kernel, rfl⟩
theorem dX9_addThing_37 : Dd mX9_addThing.2.1 37 (.putfield 74) 3 40 := ⟨by decide +kernel, rfl⟩
theorem dX9_addThing_40 : Dd mX9_addThing.2.1 40 (.return_) 1 41 := ⟨by decide +kernel, rfl⟩
theorem dX9_addNeed_0 : Dd mX9_addNeed.2.1 0 (.aload_n 0) 1 1 := ⟨by decide +kernel, rfl⟩
theorem dX9_addNeed_1 : Dd mX9_addNeed.2.1 1 (.getfield 22) 3 4 := ⟨by decide +kernel, rfl⟩
theorem dX9_addNeed_4 : Dd mX9_addNeed.2.1 4 (.iload_n 2) 1 5 := ⟨by decide +kernel, rfl⟩
theorem dX9_addNeed_5 : Dd mX9_addNeed.2.1 5 (.dup2) 1 6 := ⟨by decide +kernel, rfl⟩
theorem dX9_addNeed_6 : Dd mX9_addNeed.2.1 6 (.iaload) 1 7 := ⟨by decide +kernel, rfl⟩
theorem dX9_addNeed_7 : Dd mX9_addNeed.2.1 7 (.iconst 1) 1 8 := ⟨by decide +kernel, rfl⟩
theorem dX9_addNeed_8 : Dd mX9_addNeed.2.1 8 (.iload_n 1) 1 9 := ⟨by decide +kernel, rfl⟩
theorem dX9_addNeed_9 : Dd mX9_addNeed.2.1 9 (.ishl) 1 10 := ⟨by decide +kernel, rfl⟩
theorem dX9_addNeed_10 : Dd mX9_addNeed.2.1 10 (.ior) 1 11 := ⟨by decide +kernel, rfl⟩
theorem dX9_addNeed_11 : Dd mX9_addNeed.2.1 11 (.iastore) 1 12 := ⟨by decide +kernel, rfl⟩
theorem dX9_addNeed_12 : Dd mX9_addNeed.2.1 12 (.aload_n 0) 1 13 := ⟨by decide +kernel, rfl⟩
theorem dX9_addNeed_13 : Dd mX9_addNeed.2.1 13 (.dup) 1 14 := ⟨by decide +kernel, rfl⟩
theorem dX9_addNeed_14 : Dd mX9_addNeed.2.1 14 (.getfield 78) 3 17 := ⟨by decide +kernel, rfl⟩
theorem dX9_addNeed_17 : Dd mX9_addNeed.2.1 17 (.iconst 1) 1 18 := ⟨by decide +kernel, rfl⟩
theorem dX9_addNeed_18 : Dd mX9_addNeed.2.1 18 (.iadd) 1 19 := ⟨by decide +kernel, rfl⟩
theorem dX9_addNeed_19 : Dd mX9_addNeed.2.1 19 (.putfield 78) 3 22 := ⟨by decide +kernel, rfl⟩
theorem dX9_addNeed_22 : Dd mX9_addNeed.2.1 22 (.return_) 1 23 := ⟨by decide +kernel, rfl⟩
theorem dX9_addPerson_0 : Dd mX9_addPerson.2.1 0 (.aload_n 0) 1 1 := ⟨by decide +kernel, rfl⟩
theorem dX9_addPerson_1 : Dd mX9_addPerson.2.1 1 (.getfield 25) 3 4 := ⟨by decide +kernel, rfl⟩
theorem dX9_addPerson_4 : Dd mX9_addPerson.2.1 4 (.aload_n 0) 1 5 := ⟨by decide +kernel, rfl⟩
theorem dX9_addPerson_5 : Dd mX9_addPerson.2.1 5 (.getfield 81) 3 8 := ⟨by decide +kernel, rfl⟩
theorem dX9_addPerson_8 : Dd mX9_addPerson.2.1 8 (.iload_n 1) 1 9 := ⟨by decide +kernel, rfl⟩
theorem dX9_addPerson_9 : Dd mX9_addPerson.2.1 9 (.iastore) 1 10 := ⟨by decide +kernel, rfl⟩
theorem dX9_addPerson_10 : Dd mX9_addPerson.2.1 10 (.aload_n 0) 1 11 := ⟨by decide +kernel, rfl⟩
theorem dX9_addPerson_11 : Dd mX9_addPerson.2.1 11 (.getfield 28) 3 14 := ⟨by decide +kernel, rfl⟩
theorem dX9_addPerson_14 : Dd mX9_addPerson.2.1 14 (.aload_n 0) 1 15 := ⟨by decide +kernel, rfl⟩
theorem dX9_addPerson_15 : Dd mX9_addPerson.2.1 15 (.getfield 81) 3 18 := ⟨by decide +kernel, rfl⟩
theorem dX9_addPerson_18 : Dd mX9_addPerson.2.1 18 (.iload_n 2) 1 19 := ⟨by decide +kernel, rfl⟩
theorem dX9_addPerson_19 : Dd mX9_addPerson.2.1 19 (.iastore) 1 20 := ⟨by decide +kernel, rfl⟩
theorem dX9_addPerson_20 : Dd mX9_addPerson.2.1 20 (.aload_n 0) 1 21 := ⟨by decide +kernel, rfl⟩
theorem dX9_addPerson_21 : Dd mX9_addPerson.2.1 21 (.dup) 1 22 := ⟨by decide +kernel, rfl⟩
theorem dX9_addPerson_22 : Dd mX9_addPerson.2.1 22 (.getfield 81) 3 25 := ⟨by decide +kernel, rfl⟩
theorem dX9_addPerson_25 : Dd mX9_addPerson.2.1 25 (.iconst 1) 1 26 := ⟨by decide +kernel, rfl⟩
theorem dX9_addPerson_26 : Dd mX9_addPerson.2.1 26 (.iadd) 1 27 := ⟨by decide +kernel, rfl⟩
theorem dX9_addPerson_27 : Dd mX9_addPerson.2.1 27 (.putfield 81) 3 30 := ⟨by decide +kernel, rfl⟩
theorem dX9_addPerson_30 : Dd mX9_addPerson.2.1 30 (.return_) 1 31 := ⟨by decide +kernel, rfl⟩
theorem dX9_addBeast_0 : Dd mX9_addBeast.2.1 0 (.aload_n 0) 1 1 := ⟨by decide +kernel, rfl⟩
theorem dX9_addBeast_1 : Dd mX9_addBeast.2.1 1 (.getfield 31) 3 4 := ⟨by decide +kernel, rfl⟩
theorem dX9_addBeast_4 : Dd mX9_addBeast.2.1 4 (.aload_n 0) 1 5 := ⟨by decide +kernel, rfl⟩
theorem dX9_addBeast_5 : Dd mX9_addBeast.2.1 5 (.getfield 84) 3 8 := ⟨by decide +kernel, rfl⟩
theorem dX9_addBeast_8 : Dd mX9_addBeast.2.1 8 (.iload_n 1) 1 9 := ⟨by decide +kernel, rfl⟩
theorem dX9_addBeast_9 : Dd mX9_addBeast.2.1 9 (.iastore) 1 10 := ⟨by decide +kernel, rfl⟩
theorem dX9_addBeast_10 : Dd mX9_addBeast.2.1 10 (.aload_n 0) 1 11 := ⟨by decide +kernel, rfl⟩
theorem dX9_addBeast_11 : Dd mX9_addBeast.2.1 11 (.dup) 1 12 := ⟨by decide +kernel, rfl⟩
theorem dX9_addBeast_12 : Dd mX9_addBeast.2.1 12 (.getfield 84) 3 15 := ⟨by decide +kernel, rfl⟩
theorem dX9_addBeast_15 : Dd mX9_addBeast.2.1 15 (.iconst 1) 1 16 := ⟨by decide +kernel, rfl⟩
theorem dX9_addBeast_16 : Dd mX9_addBeast.2.1 16 (.iadd) 1 17 := ⟨by decide +kernel, rfl⟩
theorem dX9_addBeast_17 : Dd mX9_addBeast.2.1 17 (.putfield 84) 3 20 := ⟨by decide +kernel, rfl⟩
theorem dX9_addBeast_20 : Dd mX9_addBeast.2.1 20 (.return_) 1 21 := ⟨by decide +kernel, rfl⟩
theorem dX9_addChange_0 : Dd mX9_addChange.2.1 0 (.aload_n 0) 1 1 := ⟨by decide +kernel, rfl⟩
theorem dX9_addChange_1 : Dd mX9_addChange.2.1 1 (.getfield 34) 3 4 := ⟨by decide +kernel, rfl⟩
theorem dX9_addChange_4 : Dd mX9_addChange.2.1 4 (.iconst 4) 1 5 := ⟨by decide +kernel, rfl⟩
theorem dX9_addChange_5 : Dd mX9_addChange.2.1 5 (.aload_n 0) 1 6 := ⟨by decide +kernel, rfl⟩
theorem dX9_addChange_6 : Dd mX9_addChange.2.1 6 (.getfield 87) 3 9 := ⟨by decide +kernel, rfl⟩
theorem dX9_addChange_9 : Dd mX9_addChange.2.1 9 (.imul) 1 10 := ⟨by decide +kernel, rfl⟩
theorem dX9_addChange_10 : Dd mX9_addChange.2.1 10 (.iload_n 1) 1 11 := ⟨by decide +kernel, rfl⟩
theorem dX9_addChange_11 : Dd mX9_addChange.2.1 11 (.iastore) 1 12 := ⟨by decide +kernel, rfl⟩
theorem dX9_addChange_12 : Dd mX9_addChange.2.1 12 (.aload_n 0) 1 13 := ⟨by decide +kernel, rfl⟩
theorem dX9_addChange_13 : Dd mX9_addChange.2.1 13 (.getfield 34) 3 16 := ⟨by decide +kernel, rfl⟩
theorem dX9_addChange_16 : Dd mX9_addChange.2.1 16 (.iconst 4) 1 17 := ⟨by decide +kernel, rfl⟩
theorem dX9_addChange_17 : Dd mX9_addChange.2.1 17 (.aload_n 0) 1 18 := ⟨by decide +kernel, rfl⟩
theorem dX9_addChange_18 : Dd mX9_addChange.2.1 18 (.getfield 87) 3 21 := ⟨by decide +kernel, rfl⟩
theorem dX9_addChange_21 : Dd mX9_addChange.2.1 21 (.imul) 1 22 := ⟨by decide +kernel, rfl⟩
theorem dX9_addChange_22 : Dd mX9_addChange.2.1 22 (.iconst 1) 1 23 := ⟨by decide +kernel, rfl⟩
theorem dX9_addChange_23 : Dd mX9_addChange.2.1 23 (.iadd) 1 24 := ⟨by decide +kernel, rfl⟩
theorem dX9_addChange_24 : Dd mX9_addChange.2.1 24 (.iload_n 2) 1 25 := ⟨by decide +kernel, rfl⟩
theorem dX9_addChange_25 : Dd mX9_addChange.2.1 25 (.iastore) 1 26 := ⟨by decide +kernel, rfl⟩
theorem dX9_addChange_26 : Dd mX9_addChange.2.1 26 (.aload_n 0) 1 27 := ⟨by decide +kernel, rfl⟩
theorem dX9_addChange_27 : Dd mX9_addChange.2.1 27 (.getfield 34) 3 30 := ⟨by decide +kernel, rfl⟩
theorem dX9_addChange_30 : Dd mX9_addChange.2.1 30 (.iconst 4) 1 31 := ⟨by decide +kernel, rfl⟩
theorem dX9_addChange_31 : Dd mX9_addChange.2.1 31 (.aload_n 0) 1 32 := ⟨by decide +kernel, rfl⟩
theorem dX9_addChange_32 : Dd mX9_addChange.2.1 32 (.getfield 87) 3 35 := ⟨by decide +kernel, rfl⟩
theorem dX9_addChange_35 : Dd mX9_addChange.2.1 35 (.imul) 1 36 := ⟨by decide +kernel, rfl⟩
theorem dX9_addChange_36 : Dd mX9_addChange.2.1 36 (.iconst 2) 1 37 := ⟨by decide +kernel, rfl⟩
theorem dX9_addChange_37 : Dd mX9_addChange.2.1 37 (.iadd) 1 38 := ⟨by decide +kernel, rfl⟩
theorem dX9_addChange_38 : Dd mX9_addChange.2.1 38 (.iload_n 3) 1 39 := ⟨by decide +kernel, rfl⟩
theorem dX9_addChange_39 : Dd mX9_addChange.2.1 39 (.iastore) 1 40 := ⟨by decide +kernel, rfl⟩
theorem dX9_addChange_40 : Dd mX9_addChange.2.1 40 (.aload_n 0) 1 41 := ⟨by decide +kernel, rfl⟩
theorem dX9_addChange_41 : Dd mX9_addChange.2.1 41 (.getfield 34) 3 44 := ⟨by decide +kernel, rfl⟩
theorem dX9_addChange_44 : Dd mX9_addChange.2.1 44 (.iconst 4) 1 45 := ⟨by decide +kernel, rfl⟩
theorem dX9_addChange_45 : Dd mX9_addChange.2.1 45 (.aload_n 0) 1 46 := ⟨by decide +kernel, rfl⟩
theorem dX9_addChange_46 : Dd mX9_addChange.2.1 46 (.getfield 87) 3 49 := ⟨by decide +kernel, rfl⟩
theorem dX9_addChange_49 : Dd mX9_addChange.2.1 49 (.imul) 1 50 := ⟨by decide +kernel, rfl⟩
theorem dX9_addChange_50 : Dd mX9_addChange.2.1 50 (.iconst 3) 1 51 := ⟨by decide +kernel, rfl⟩
theorem dX9_addChange_51 : Dd mX9_addChange.2.1 51 (.iadd) 1 52 := ⟨by decide +kernel, rfl⟩
theorem dX9_addChange_52 : Dd mX9_addChange.2.1 52 (.iload 4) 2 54 := ⟨by decide +kernel, rfl⟩
theorem dX9_addChange_54 : Dd mX9_addChange.2.1 54 (.iastore) 1 55 := ⟨by decide +kernel, rfl⟩
theorem dX9_addChange_55 : Dd mX9_addChange.2.1 55 (.aload_n 0) 1 56 := ⟨by decide +kernel, rfl⟩
theorem dX9_addChange_56 : Dd mX9_addChange.2.1 56 (.dup) 1 57 := ⟨by decide +kernel, rfl⟩
theorem dX9_addChange_57 : Dd mX9_addChange.2.1 57 (.getfield 87) 3 60 := ⟨by decide +kernel, rfl⟩
theorem dX9_addChange_60 : Dd mX9_addChange.2.1 60 (.iconst 1) 1 61 := ⟨by decide +kernel, rfl⟩
theorem dX9_addChange_61 : Dd mX9_addChange.2.1 61 (.iadd) 1 62 := ⟨by decide +kernel, rfl⟩
theorem dX9_addChange_62 : Dd mX9_addChange.2.1 62 (.putfield 87) 3 65 := ⟨by decide +kernel, rfl⟩
theorem dX9_addChange_65 : Dd mX9_addChange.2.1 65 (.return_) 1 66 := ⟨by decide +kernel, rfl⟩
theorem dX9_begin_0 : Dd mX9_begin.2.1 0 (.iconst 0) 1 1 := ⟨by decide +kernel, rfl⟩
theorem dX9_begin_1 : Dd mX9_begin.2.1 1 (.istore_n 1) 1 2 := ⟨by decide +kernel, rfl⟩
theorem dX9_begin_2 : Dd mX9_begin.2.1 2 (.iload_n 1) 1 3 := ⟨by decide +kernel, rfl⟩
theorem dX9_begin_3 : Dd mX9_begin.2.1 3 (.bipush 13) 2 5 := ⟨by decide +kernel, rfl⟩
theorem dX9_begin_5 : Dd mX9_begin.2.1 5 (.if_icmp .ge 16) 3 8 := ⟨by decide +kernel, rfl⟩
theorem dX9_begin_8 : Dd mX9_begin.2.1 8 (.aload_n 0) 1 9 := ⟨by decide +kernel, rfl⟩
theorem dX9_begin_9 : Dd mX9_begin.2.1 9 (.getfield 7) 3 12 := ⟨by decide +kernel, rfl⟩
theorem dX9_begin_12 : Dd mX9_begin.2.1 12 (.iload_n 1) 1 13 := ⟨by decide +kernel, rfl⟩
theorem dX9_begin_13 : Dd mX9_begin.2.1 13 (.iconst 0) 1 14 := ⟨by decide +kernel, rfl⟩
theorem dX9_begin_14 : Dd mX9_begin.2.1 14 (.iastore) 1 15 := ⟨by decide +kernel, rfl⟩
theorem dX9_begin_15 : Dd mX9_begin.2.1 15 (.iinc 1 1) 3 18 := ⟨by decide +kernel, rfl⟩
theorem dX9_begin_18 : Dd mX9_begin.2.1 18 (.goto (-16)) 3 21 := ⟨by decide +kernel, rfl⟩
theorem dX9_begin_21 : Dd mX9_begin.2.1 21 (.aload_n 0) 1 22 := ⟨by decide +kernel, rfl⟩
theorem dX9_begin_22 : Dd mX9_begin.2.1 22 (.iconst 0) 1 23 := ⟨by decide +kernel, rfl⟩
theorem dX9_begin_23 : Dd mX9_begin.2.1 23 (.putfield 90) 3 26 := ⟨by decide +kernel, rfl⟩
theorem dX9_begin_26 : Dd mX9_begin.2.1 26 (.aload_n 0) 1 27 := ⟨by decide +kernel, rfl⟩
theorem dX9_begin_27 : Dd mX9_begin.2.1 27 (.iconst 0) 1 28 := ⟨by decide +kernel, rfl⟩
theorem dX9_begin_28 : Dd mX9_begin.2.1 28 (.putfield 93) 3 31 := ⟨by decide +kernel, rfl⟩
theorem dX9_begin_31 : Dd mX9_begin.2.1 31 (.return_) 1 32 := ⟨by decide +kernel, rfl⟩
theorem dX9_write_0 : Dd mX9_write.2.1 0 (.iload_n 1) 1 1 := ⟨by decide +kernel, rfl⟩
theorem dX9_write_1 : Dd mX9_write.2.1 1 (.i2l) 1 2 := ⟨by decide +kernel, rfl⟩
theorem dX9_write_2 : Dd mX9_write.2.1 2 (.ldc2_w 96) 3 5 := ⟨by decide +kernel, rfl⟩
theorem dX9_write_5 : Dd mX9_write.2.1 5 (.ldc2_w 98) 3 8 := ⟨by decide +kernel, rfl⟩
theorem dX9_write_8 : Dd mX9_write.2.1 8 (.invokestatic 100) 3 11 := ⟨by decide +kernel, rfl⟩
theorem dX9_write_11 : Dd mX9_write.2.1 11 (.ifCond .ne 5) 3 14 := ⟨by decide +kernel, rfl⟩
theorem dX9_write_14 : Dd mX9_write.2.1 14 (.iconst (-1)) 1 15 := ⟨by decide +kernel, rfl⟩
theorem dX9_write_15 : Dd mX9_write.2.1 15 (.ireturn) 1 16 := ⟨by decide +kernel, rfl⟩
theorem dX9_write_16 : Dd mX9_write.2.1 16 (.aload_n 0) 1 17 := ⟨by decide +kernel, rfl⟩
theorem dX9_write_17 : Dd mX9_write.2.1 17 (.getfield 104) 3 20 := ⟨by decide +kernel, rfl⟩
theorem dX9_write_20 : Dd mX9_write.2.1 20 (.sipush 200) 3 23 := ⟨by decide +kernel, rfl⟩
theorem dX9_write_23 : Dd mX9_write.2.1 23 (.if_icmp .ne 6) 3 26 := ⟨by decide +kernel, rfl⟩
theorem dX9_write_26 : Dd mX9_write.2.1 26 (.bipush (-3)) 2 28 := ⟨by decide +kernel, rfl⟩
theorem dX9_write_28 : Dd mX9_write.2.1 28 (.ireturn) 1 29 := ⟨by decide +kernel, rfl⟩
theorem dX9_write_29 : Dd mX9_write.2.1 29 (.aload_n 0) 1 30 := ⟨by decide +kernel, rfl⟩
theorem dX9_write_30 : Dd mX9_write.2.1 30 (.getfield 13) 3 33 := ⟨by decide +kernel, rfl⟩
theorem dX9_write_33 : Dd mX9_write.2.1 33 (.aload_n 0) 1 34 := ⟨by decide +kernel, rfl⟩
theorem dX9_write_34 : Dd mX9_write.2.1 34 (.getfield 104) 3 37 := ⟨by decide +kernel, rfl⟩
theorem dX9_write_37 : Dd mX9_write.2.1 37 (.iload_n 1) 1 38 := ⟨by decide +kernel, rfl⟩
theorem dX9_write_38 : Dd mX9_write.2.1 38 (.iastore) 1 39 := ⟨by decide +kernel, rfl⟩
theorem dX9_write_39 : Dd mX9_write.2.1 39 (.aload_n 0) 1 40 := ⟨by decide +kernel, rfl⟩
theorem dX9_write_40 : Dd mX9_write.2.1 40 (.dup) 1 41 := ⟨by decide +kernel, rfl⟩
theorem dX9_write_41 : Dd mX9_write.2.1 41 (.getfield 104) 3 44 := ⟨by decide +kernel, rfl⟩
theorem dX9_write_44 : Dd mX9_write.2.1 44 (.iconst 1) 1 45 := ⟨by decide +kernel, rfl⟩
theorem dX9_write_45 : Dd mX9_write.2.1 45 (.iadd) 1 46 := ⟨by decide +kernel, rfl⟩
theorem dX9_write_46 : Dd mX9_write.2.1 46 (.putfield 104) 3 49 := ⟨by decide +kernel, rfl⟩
theorem dX9_write_49 : Dd mX9_write.2.1 49 (.aload_n 0) 1 50 := ⟨by decide +kernel, rfl⟩
theorem dX9_write_50 : Dd mX9_write.2.1 50 (.getfield 104) 3 53 := ⟨by decide +kernel, rfl⟩
theorem dX9_write_53 : Dd mX9_write.2.1 53 (.ireturn) 1 54 := ⟨by decide +kernel, rfl⟩
theorem dX9_wipe_0 : Dd mX9_wipe.2.1 0 (.aload_n 0) 1 1 := ⟨by decide +kernel, rfl⟩
theorem dX9_wipe_1 : Dd mX9_wipe.2.1 1 (.getfield 104) 3 4 := ⟨by decide +kernel, rfl⟩
theorem dX9_wipe_4 : Dd mX9_wipe.2.1 4 (.istore_n 1) 1 5 := ⟨by decide +kernel, rfl⟩
theorem dX9_wipe_5 : Dd mX9_wipe.2.1 5 (.aload_n 0) 1 6 := ⟨by decide +kernel, rfl⟩
theorem dX9_wipe_6 : Dd mX9_wipe.2.1 6 (.iconst 0) 1 7 := ⟨by decide +kernel, rfl⟩
theorem dX9_wipe_7 : Dd mX9_wipe.2.1 7 (.putfield 104) 3 10 := ⟨by decide +kernel, rfl⟩
theorem dX9_wipe_10 : Dd mX9_wipe.2.1 10 (.iload_n 1) 1 11 := ⟨by decide +kernel, rfl⟩
theorem dX9_wipe_11 : Dd mX9_wipe.2.1 11 (.ireturn) 1 12 := ⟨by decide +kernel, rfl⟩
theorem dX9_isFigure_0 : Dd mX9_isFigure.2.1 0 (.iload_n 0) 1 1 := ⟨by decide +kernel, rfl⟩
theorem dX9_isFigure_1 : Dd mX9_isFigure.2.1 1 (.i2l) 1 2 := ⟨by decide +kernel, rfl⟩
theorem dX9_isFigure_2 : Dd mX9_isFigure.2.1 2 (.ldc2_w 107) 3 5 := ⟨by decide +kernel, rfl⟩
theorem dX9_isFigure_5 : Dd mX9_isFigure.2.1 5 (.ldc2_w 109) 3 8 := ⟨by decide +kernel, rfl⟩
theorem dX9_isFigure_8 : Dd mX9_isFigure.2.1 8 (.invokestatic 100) 3 11 := ⟨by decide +kernel, rfl⟩
theorem dX9_isFigure_11 : Dd mX9_isFigure.2.1 11 (.ireturn) 1 12 := ⟨by decide +kernel, rfl⟩
theorem dX9_isThere_0 : Dd mX9_isThere.2.1 0 (.aload_n 0) 1 1 := ⟨by decide +kernel, rfl⟩
theorem dX9_isThere_1 : Dd mX9_isThere.2.1 1 (.getfield 111) 3 4 := ⟨by decide +kernel, rfl⟩
theorem dX9_isThere_4 : Dd mX9_isThere.2.1 4 (.aload_n 0) 1 5 := ⟨by decide +kernel, rfl⟩
theorem dX9_isThere_5 : Dd mX9_isThere.2.1 5 (.getfield 104) 3 8 := ⟨by decide +kernel, rfl⟩
theorem dX9_isThere_8 : Dd mX9_isThere.2.1 8 (.if_icmp .ge 20) 3 11 := ⟨by decide +kernel, rfl⟩
theorem dX9_isThere_11 : Dd mX9_isThere.2.1 11 (.aload_n 0) 1 12 := ⟨by decide +kernel, rfl⟩
theorem dX9_isThere_12 : Dd mX9_isThere.2.1 12 (.getfield 13) 3 15 := ⟨by decide +kernel, rfl⟩
theorem dX9_isThere_15 : Dd mX9_isThere.2.1 15 (.aload_n 0) 1 16 := ⟨by decide +kernel, rfl⟩
theorem dX9_isThere_16 : Dd mX9_isThere.2.1 16 (.getfield 111) 3 19 := ⟨by decide +kernel, rfl⟩
theorem dX9_isThere_19 : Dd mX9_isThere.2.1 19 (.iaload) 1 20 := ⟨by decide +kernel, rfl⟩
theorem dX9_isThere_20 : Dd mX9_isThere.2.1 20 (.iload_n 1) 1 21 := ⟨by decide +kernel, rfl⟩
theorem dX9_isThere_21 : Dd mX9_isThere.2.1 21 (.if_icmp .ne 7) 3 24 := ⟨by decide +kernel, rfl⟩
theorem dX9_isThere_24 : Dd mX9_isThere.2.1 24 (.iconst 1) 1 25 := ⟨by decide +kernel, rfl⟩
theorem dX9_isThere_25 : Dd mX9_isThere.2.1 25 (.goto 4) 3 28 := ⟨by decide +kernel, rfl⟩
theorem dX9_isThere_28 : Dd mX9_isThere.2.1 28 (.iconst 0) 1 29 := ⟨by decide +kernel, rfl⟩
theorem dX9_isThere_29 : Dd mX9_isThere.2.1 29 (.ireturn) 1 30 := ⟨by decide +kernel, rfl⟩
theorem dX9_reads_0 : Dd mX9_reads.2.1 0 (.iconst 0) 1 1 := ⟨by decide +kernel, rfl⟩
theorem dX9_reads_1 : Dd mX9_reads.2.1 1 (.istore 4) 2 3 := ⟨by decide +kernel, rfl⟩
theorem dX9_reads_3 : Dd mX9_reads.2.1 3 (.iconst 0) 1 4 := ⟨by decide +kernel, rfl⟩
theorem dX9_reads_4 : Dd mX9_reads.2.1 4 (.istore 5) 2 6 := ⟨by decide +kernel, rfl⟩
theorem dX9_reads_6 : Dd mX9_reads.2.1 6 (.iload 5) 2 8 := ⟨by decide +kernel, rfl⟩
theorem dX9_reads_8 : Dd mX9_reads.2.1 8 (.iconst 2) 1 9 := ⟨by decide +kernel, rfl⟩
theorem dX9_reads_9 : Dd mX9_reads.2.1 9 (.if_icmp .ge 65) 3 12 := ⟨by decide +kernel, rfl⟩
theorem dX9_reads_12 : Dd mX9_reads.2.1 12 (.aload_n 0) 1 13 := ⟨by decide +kernel, rfl⟩
theorem dX9_reads_13 : Dd mX9_reads.2.1 13 (.getfield 111) 3 16 := ⟨by decide +kernel, rfl⟩
theorem dX9_reads_16 : Dd mX9_reads.2.1 16 (.aload_n 0) 1 17 := ⟨by decide +kernel, rfl⟩
theorem dX9_reads_17 : Dd mX9_reads.2.1 17 (.getfield 104) 3 20 := ⟨by decide +kernel, rfl⟩
theorem dX9_reads_20 : Dd mX9_reads.2.1 20 (.if_icmp .ge 54) 3 23 := ⟨by decide +kernel, rfl⟩
theorem dX9_reads_23 : Dd mX9_reads.2.1 23 (.aload_n 0) 1 24 := ⟨by decide +kernel, rfl⟩
theorem dX9_reads_24 : Dd mX9_reads.2.1 24 (.getfield 13) 3 27 := ⟨by decide +kernel, rfl⟩
theorem dX9_reads_27 : Dd mX9_reads.2.1 27 (.aload_n 0) 1 28 := ⟨by decide +kernel, rfl⟩
theorem dX9_reads_28 : Dd mX9_reads.2.1 28 (.getfield 111) 3 31 := ⟨by decide +kernel, rfl⟩
theorem dX9_reads_31 : Dd mX9_reads.2.1 31 (.iaload) 1 32 := ⟨by decide +kernel, rfl⟩
theorem dX9_reads_32 : Dd mX9_reads.2.1 32 (.invokestatic 114) 3 35 := ⟨by decide +kernel, rfl⟩
theorem dX9_reads_35 : Dd mX9_reads.2.1 35 (.ifCond .eq 39) 3 38 := ⟨by decide +kernel, rfl⟩
theorem dX9_reads_38 : Dd mX9_reads.2.1 38 (.bipush 10) 2 40 := ⟨by decide +kernel, rfl⟩
theorem dX9_reads_40 : Dd mX9_reads.2.1 40 (.iload 4) 2 42 := ⟨by decide +kernel, rfl⟩
theorem dX9_reads_42 : Dd mX9_reads.2.1 42 (.imul) 1 43 := ⟨by decide +kernel, rfl⟩
theorem dX9_reads_43 : Dd mX9_reads.2.1 43 (.aload_n 0) 1 44 := ⟨by decide +kernel, rfl⟩
theorem dX9_reads_44 : Dd mX9_reads.2.1 44 (.getfield 13) 3 47 := ⟨by decide +kernel, rfl⟩
theorem dX9_reads_47 : Dd mX9_reads.2.1 47 (.aload_n 0) 1 48 := ⟨by decide +kernel, rfl⟩
theorem dX9_reads_48 : Dd mX9_reads.2.1 48 (.getfield 111) 3 51 := ⟨by decide +kernel, rfl⟩
theorem dX9_reads_51 : Dd mX9_reads.2.1 51 (.iaload) 1 52 := ⟨by decide +kernel, rfl⟩
theorem dX9_reads_52 : Dd mX9_reads.2.1 52 (.iadd) 1 53 := ⟨by decide +kernel, rfl⟩
theorem dX9_reads_53 : Dd mX9_reads.2.1 53 (.bipush 48) 2 55 := ⟨by decide +kernel, rfl⟩
theorem dX9_reads_55 : Dd mX9_reads.2.1 55 (.isub) 1 56 := ⟨by decide +kernel, rfl⟩
theorem dX9_reads_56 : Dd mX9_reads.2.1 56 (.istore 4) 2 58 := ⟨by decide +kernel, rfl⟩
theorem dX9_reads_58 : Dd mX9_reads.2.1 58 (.iinc 5 1) 3 61 := ⟨by decide +kernel, rfl⟩
theorem dX9_reads_61 : Dd mX9_reads.2.1 61 (.aload_n 0) 1 62 := ⟨by decide +kernel, rfl⟩
theorem dX9_reads_62 : Dd mX9_reads.2.1 62 (.dup) 1 63 := ⟨by decide +kernel, rfl⟩
theorem dX9_reads_63 : Dd mX9_reads.2.1 63 (.getfield 111) 3 66 := ⟨by decide +kernel, rfl⟩
theorem dX9_reads_66 : Dd mX9_reads.2.1 66 (.iconst 1) 1 67 := ⟨by decide +kernel, rfl⟩
theorem dX9_reads_67 : Dd mX9_reads.2.1 67 (.iadd) 1 68 := ⟨by decide +kernel, rfl⟩
theorem dX9_reads_68 : Dd mX9_reads.2.1 68 (.putfield 111) 3 71 := ⟨by decide +kernel, rfl⟩
theorem dX9_reads_71 : Dd mX9_reads.2.1 71 (.goto (-65)) 3 74 := ⟨by decide +kernel, rfl⟩
theorem dX9_reads_74 : Dd mX9_reads.2.1 74 (.aload_n 0) 1 75 := ⟨by decide +kernel, rfl⟩
theorem dX9_reads_75 : Dd mX9_reads.2.1 75 (.getfield 37) 3 78 := ⟨by decide +kernel, rfl⟩
theorem dX9_reads_78 : Dd mX9_reads.2.1 78 (.iload_n 1) 1 79 := ⟨by decide +kernel, rfl⟩
theorem dX9_reads_79 : Dd mX9_reads.2.1 79 (.iload 4) 2 81 := ⟨by decide +kernel, rfl⟩
theorem dX9_reads_81 : Dd mX9_reads.2.1 81 (.iastore) 1 82 := ⟨by decide +kernel, rfl⟩
theorem dX9_reads_82 : Dd mX9_reads.2.1 82 (.iload 5) 2 84 := ⟨by decide +kernel, rfl⟩
theorem dX9_reads_84 : Dd mX9_reads.2.1 84 (.ifCond .le 20) 3 87 := ⟨by decide +kernel, rfl⟩
theorem dX9_reads_87 : Dd mX9_reads.2.1 87 (.iload 4) 2 89 := ⟨by decide +kernel, rfl⟩
theorem dX9_reads_89 : Dd mX9_reads.2.1 89 (.i2l) 1 90 := ⟨by decide +kernel, rfl⟩
theorem dX9_reads_90 : Dd mX9_reads.2.1 90 (.iload_n 2) 1 91 := ⟨by decide +kernel, rfl⟩
theorem dX9_reads_91 : Dd mX9_reads.2.1 91 (.i2l) 1 92 := ⟨by decide +kernel, rfl⟩
theorem dX9_reads_92 : Dd mX9_reads.2.1 92 (.iload_n 3) 1 93 := ⟨by decide +kernel, rfl⟩
theorem dX9_reads_93 : Dd mX9_reads.2.1 93 (.i2l) 1 94 := ⟨by decide +kernel, rfl⟩
theorem dX9_reads_94 : Dd mX9_reads.2.1 94 (.invokestatic 100) 3 97 := ⟨by decide +kernel, rfl⟩
theorem dX9_reads_97 : Dd mX9_reads.2.1 97 (.ifCond .eq 7) 3 100 := ⟨by decide +kernel, rfl⟩
theorem dX9_reads_100 : Dd mX9_reads.2.1 100 (.iconst 1) 1 101 := ⟨by decide +kernel, rfl⟩
theorem dX9_reads_101 : Dd mX9_reads.2.1 101 (.goto 4) 3 104 := ⟨by decide +kernel, rfl⟩
theorem dX9_reads_104 : Dd mX9_reads.2.1 104 (.iconst 0) 1 105 := ⟨by decide +kernel, rfl⟩
theorem dX9_reads_105 : Dd mX9_reads.2.1 105 (.ireturn) 1 106 := ⟨by decide +kernel, rfl⟩
theorem dX9_readsComma_0 : Dd mX9_readsComma.2.1 0 (.aload_n 0) 1 1 := ⟨by decide +kernel, rfl⟩
theorem dX9_readsComma_1 : Dd mX9_readsComma.2.1 1 (.bipush 44) 2 3 := ⟨by decide +kernel, rfl⟩
theorem dX9_readsComma_3 : Dd mX9_readsComma.2.1 3 (.invokevirtual 118) 3 6 := ⟨by decide +kernel, rfl⟩
theorem dX9_readsComma_6 : Dd mX9_readsComma.2.1 6 (.istore_n 1) 1 7 := ⟨by decide +kernel, rfl⟩
theorem dX9_readsComma_7 : Dd mX9_readsComma.2.1 7 (.aload_n 0) 1 8 := ⟨by decide +kernel, rfl⟩
theorem dX9_readsComma_8 : Dd mX9_readsComma.2.1 8 (.dup) 1 9 := ⟨by decide +kernel, rfl⟩
theorem dX9_readsComma_9 : Dd mX9_readsComma.2.1 9 (.getfield 111) 3 12 := ⟨by decide +kernel, rfl⟩
theorem dX9_readsComma_12 : Dd mX9_readsComma.2.1 12 (.iload_n 1) 1 13 := ⟨by decide +kernel, rfl⟩
theorem dX9_readsComma_13 : Dd mX9_readsComma.2.1 13 (.ifCond .eq 7) 3 16 := ⟨by decide +kernel, rfl⟩
theorem dX9_readsComma_16 : Dd mX9_readsComma.2.1 16 (.iconst 1) 1 17 := ⟨by decide +kernel, rfl⟩
theorem dX9_readsComma_17 : Dd mX9_readsComma.2.1 17 (.goto 4) 3 20 := ⟨by decide +kernel, rfl⟩
theorem dX9_readsComma_20 : Dd mX9_readsComma.2.1 20 (.iconst 0) 1 21 := ⟨by decide +kernel, rfl⟩
theorem dX9_readsComma_21 : Dd mX9_readsComma.2.1 21 (.iadd) 1 22 := ⟨by decide +kernel, rfl⟩
theorem dX9_readsComma_22 : Dd mX9_readsComma.2.1 22 (.putfield 111) 3 25 := ⟨by decide +kernel, rfl⟩
theorem dX9_readsComma_25 : Dd mX9_readsComma.2.1 25 (.iload_n 1) 1 26 := ⟨by decide +kernel, rfl⟩
theorem dX9_readsComma_26 : Dd mX9_readsComma.2.1 26 (.ireturn) 1 27 := ⟨by decide +kernel, rfl⟩
theorem dX9_readsTwo_0 : Dd mX9_readsTwo.2.1 0 (.aload_n 0) 1 1 := ⟨by decide +kernel, rfl⟩
theorem dX9_readsTwo_1 : Dd mX9_readsTwo.2.1 1 (.iconst 0) 1 2 := ⟨by decide +kernel, rfl⟩
theorem dX9_readsTwo_2 : Dd mX9_readsTwo.2.1 2 (.iconst 0) 1 3 := ⟨by decide +kernel, rfl⟩
theorem dX9_readsTwo_3 : Dd mX9_readsTwo.2.1 3 (.iload_n 1) 1 4 := ⟨by decide +kernel, rfl⟩
theorem dX9_readsTwo_4 : Dd mX9_readsTwo.2.1 4 (.invokevirtual 121) 3 7 := ⟨by decide +kernel, rfl⟩
theorem dX9_readsTwo_7 : Dd mX9_readsTwo.2.1 7 (.ifCond .eq 24) 3 10 := ⟨by decide +kernel, rfl⟩
theorem dX9_readsTwo_10 : Dd mX9_readsTwo.2.1 10 (.aload_n 0) 1 11 := ⟨by decide +kernel, rfl⟩
theorem dX9_readsTwo_11 : Dd mX9_readsTwo.2.1 11 (.invokevirtual 125) 3 14 := ⟨by decide +kernel, rfl⟩
theorem dX9_readsTwo_14 : Dd mX9_readsTwo.2.1 14 (.ifCond .eq 17) 3 17 := ⟨by decide +kernel, rfl⟩
theorem dX9_readsTwo_17 : Dd mX9_readsTwo.2.1 17 (.aload_n 0) 1 18 := ⟨by decide +kernel, rfl⟩
theorem dX9_readsTwo_18 : Dd mX9_readsTwo.2.1 18 (.iconst 1) 1 19 := ⟨by decide +kernel, rfl⟩
theorem dX9_readsTwo_19 : Dd mX9_readsTwo.2.1 19 (.iload_n 2) 1 20 := ⟨by decide +kernel, rfl⟩
theorem dX9_readsTwo_20 : Dd mX9_readsTwo.2.1 20 (.iload_n 3) 1 21 := ⟨by decide +kernel, rfl⟩
theorem dX9_readsTwo_21 : Dd mX9_readsTwo.2.1 21 (.invokevirtual 121) 3 24 := ⟨by decide +kernel, rfl⟩
theorem dX9_readsTwo_24 : Dd mX9_readsTwo.2.1 24 (.ifCond .eq 7) 3 27 := ⟨by decide +kernel, rfl⟩
theorem dX9_readsTwo_27 : Dd mX9_readsTwo.2.1 27 (.iconst 1) 1 28 := ⟨by decide +kernel, rfl⟩
theorem dX9_readsTwo_28 : Dd mX9_readsTwo.2.1 28 (.goto 4) 3 31 := ⟨by decide +kernel, rfl⟩
theorem dX9_readsTwo_31 : Dd mX9_readsTwo.2.1 31 (.iconst 0) 1 32 := ⟨by decide +kernel, rfl⟩
theorem dX9_readsTwo_32 : Dd mX9_readsTwo.2.1 32 (.ireturn) 1 33 := ⟨by decide +kernel, rfl⟩
theorem dX9_readsChange_0 : Dd mX9_readsChange.2.1 0 (.aload_n 0) 1 1 := ⟨by decide +kernel, rfl⟩
theorem dX9_readsChange_1 : Dd mX9_readsChange.2.1 1 (.aload_n 0) 1 2 := ⟨by decide +kernel, rfl⟩
theorem dX9_readsChange_2 : Dd mX9_readsChange.2.1 2 (.getfield 129) 3 5 := ⟨by decide +kernel, rfl⟩
theorem dX9_readsChange_5 : Dd mX9_readsChange.2.1 5 (.iconst 1) 1 6 := ⟨by decide +kernel, rfl⟩
theorem dX9_readsChange_6 : Dd mX9_readsChange.2.1 6 (.isub) 1 7 := ⟨by decide +kernel, rfl⟩
theorem dX9_readsChange_7 : Dd mX9_readsChange.2.1 7 (.iconst 0) 1 8 := ⟨by decide +kernel, rfl⟩
theorem dX9_readsChange_8 : Dd mX9_readsChange.2.1 8 (.aload_n 0) 1 9 := ⟨by decide +kernel, rfl⟩
theorem dX9_readsChange_9 : Dd mX9_readsChange.2.1 9 (.getfield 129) 3 12 := ⟨by decide +kernel, rfl⟩
theorem dX9_readsChange_12 : Dd mX9_readsChange.2.1 12 (.iconst 1) 1 13 := ⟨by decide +kernel, rfl⟩
theorem dX9_readsChange_13 : Dd mX9_readsChange.2.1 13 (.isub) 1 14 := ⟨by decide +kernel, rfl⟩
theorem dX9_readsChange_14 : Dd mX9_readsChange.2.1 14 (.invokevirtual 132) 3 17 := ⟨by decide +kernel, rfl⟩
theorem dX9_readsChange_17 : Dd mX9_readsChange.2.1 17 (.ifCond .eq 58) 3 20 := ⟨by decide +kernel, rfl⟩
theorem dX9_readsChange_20 : Dd mX9_readsChange.2.1 20 (.aload_n 0) 1 21 := ⟨by decide +kernel, rfl⟩
theorem dX9_readsChange_21 : Dd mX9_readsChange.2.1 21 (.getfield 37) 3 24 := ⟨by decide +kernel, rfl⟩
theorem dX9_readsChange_24 : Dd mX9_readsChange.2.1 24 (.iconst 0) 1 25 := ⟨by decide +kernel, rfl⟩
theorem dX9_readsChange_25 : Dd mX9_readsChange.2.1 25 (.iaload) 1 26 := ⟨by decide +kernel, rfl⟩
theorem dX9_readsChange_26 : Dd mX9_readsChange.2.1 26 (.aload_n 0) 1 27 := ⟨by decide +kernel, rfl⟩
theorem dX9_readsChange_27 : Dd mX9_readsChange.2.1 27 (.getfield 37) 3 30 := ⟨by decide +kernel, rfl⟩
theorem dX9_readsChange_30 : Dd mX9_readsChange.2.1 30 (.iconst 1) 1 31 := ⟨by decide +kernel, rfl⟩
theorem dX9_readsChange_31 : Dd mX9_readsChange.2.1 31 (.iaload) 1 32 := ⟨by decide +kernel, rfl⟩
theorem dX9_readsChange_32 : Dd mX9_readsChange.2.1 32 (.if_icmp .eq 43) 3 35 := ⟨by decide +kernel, rfl⟩
theorem dX9_readsChange_35 : Dd mX9_readsChange.2.1 35 (.aload_n 0) 1 36 := ⟨by decide +kernel, rfl⟩
theorem dX9_readsChange_36 : Dd mX9_readsChange.2.1 36 (.invokevirtual 125) 3 39 := ⟨by decide +kernel, rfl⟩
theorem dX9_readsChange_39 : Dd mX9_readsChange.2.1 39 (.ifCond .eq 36) 3 42 := ⟨by decide +kernel, rfl⟩
theorem dX9_readsChange_42 : Dd mX9_readsChange.2.1 42 (.aload_n 0) 1 43 := ⟨by decide +kernel, rfl⟩
theorem dX9_readsChange_43 : Dd mX9_readsChange.2.1 43 (.iconst 2) 1 44 := ⟨by decide +kernel, rfl⟩
theorem dX9_readsChange_44 : Dd mX9_readsChange.2.1 44 (.iconst 1) 1 45 := ⟨by decide +kernel, rfl⟩
theorem dX9_readsChange_45 : Dd mX9_readsChange.2.1 45 (.bipush 9) 2 47 := ⟨by decide +kernel, rfl⟩
theorem dX9_readsChange_47 : Dd mX9_readsChange.2.1 47 (.invokevirtual 121) 3 50 := ⟨by decide +kernel, rfl⟩
theorem dX9_readsChange_50 : Dd mX9_readsChange.2.1 50 (.ifCond .eq 25) 3 53 := ⟨by decide +kernel, rfl⟩
theorem dX9_readsChange_53 : Dd mX9_readsChange.2.1 53 (.aload_n 0) 1 54 := ⟨by decide +kernel, rfl⟩
theorem dX9_readsChange_54 : Dd mX9_readsChange.2.1 54 (.invokevirtual 125) 3 57 := ⟨by decide +kernel, rfl⟩
theorem dX9_readsChange_57 : Dd mX9_readsChange.2.1 57 (.ifCond .eq 18) 3 60 := ⟨by decide +kernel, rfl⟩
theorem dX9_readsChange_60 : Dd mX9_readsChange.2.1 60 (.aload_n 0) 1 61 := ⟨by decide +kernel, rfl⟩
theorem dX9_readsChange_61 : Dd mX9_readsChange.2.1 61 (.iconst 3) 1 62 := ⟨by decide +kernel, rfl⟩
theorem dX9_readsChange_62 : Dd mX9_readsChange.2.1 62 (.iconst 1) 1 63 := ⟨by decide +kernel, rfl⟩
theorem dX9_readsChange_63 : Dd mX9_readsChange.2.1 63 (.bipush 9) 2 65 := ⟨by decide +kernel, rfl⟩
theorem dX9_readsChange_65 : Dd mX9_readsChange.2.1 65 (.invokevirtual 121) 3 68 := ⟨by decide +kernel, rfl⟩
theorem dX9_readsChange_68 : Dd mX9_readsChange.2.1 68 (.ifCond .eq 7) 3 71 := ⟨by decide +kernel, rfl⟩
theorem dX9_readsChange_71 : Dd mX9_readsChange.2.1 71 (.iconst 1) 1 72 := ⟨by decide +kernel, rfl⟩
theorem dX9_readsChange_72 : Dd mX9_readsChange.2.1 72 (.goto 4) 3 75 := ⟨by decide +kernel, rfl⟩
theorem dX9_readsChange_75 : Dd mX9_readsChange.2.1 75 (.iconst 0) 1 76 := ⟨by decide +kernel, rfl⟩
theorem dX9_readsChange_76 : Dd mX9_readsChange.2.1 76 (.ireturn) 1 77 := ⟨by decide +kernel, rfl⟩
theorem dX9_readsNumbers_0 : Dd mX9_readsNumbers.2.1 0 (.iload_n 1) 1 1 := ⟨by decide +kernel, rfl⟩
theorem dX9_readsNumbers_1 : Dd mX9_readsNumbers.2.1 1 (.lookupswitch 205 #[(98, 158), (112, 127), (116, 51), (120, 183), (121, 77)]) 51 52 := ⟨by decide +kernel, rfl⟩
theorem dX9_readsNumbers_52 : Dd mX9_readsNumbers.2.1 52 (.aload_n 0) 1 53 := ⟨by decide +kernel, rfl⟩
theorem dX9_readsNumbers_53 : Dd mX9_readsNumbers.2.1 53 (.getfield 129) 3 56 := ⟨by decide +kernel, rfl⟩
theorem dX9_readsNumbers_56 : Dd mX9_readsNumbers.2.1 56 (.bipush 10) 2 58 := ⟨by decide +kernel, rfl⟩
theorem dX9_readsNumbers_58 : Dd mX9_readsNumbers.2.1 58 (.if_icmp .ge 18) 3 61 := ⟨by decide +kernel, rfl⟩
theorem dX9_readsNumbers_61 : Dd mX9_readsNumbers.2.1 61 (.aload_n 0) 1 62 := ⟨by decide +kernel, rfl⟩
theorem dX9_readsNumbers_62 : Dd mX9_readsNumbers.2.1 62 (.bipush 20) 2 64 := ⟨by decide +kernel, rfl⟩
theorem dX9_readsNumbers_64 : Dd mX9_readsNumbers.2.1 64 (.iconst 0) 1 65 := ⟨by decide +kernel, rfl⟩
theorem dX9_readsNumbers_65 : Dd mX9_readsNumbers.2.1 65 (.iconst 3) 1 66 := ⟨by decide +kernel, rfl⟩
theorem dX9_readsNumbers_66 : Dd mX9_readsNumbers.2.1 66 (.invokevirtual 132) 3 69 := ⟨by decide +kernel, rfl⟩
theorem dX9_readsNumbers_69 : Dd mX9_readsNumbers.2.1 69 (.ifCond .eq 7) 3 72 := ⟨by decide +kernel, rfl⟩
theorem dX9_readsNumbers_72 : Dd mX9_readsNumbers.2.1 72 (.iconst 1) 1 73 := ⟨by decide +kernel, rfl⟩
theorem dX9_readsNumbers_73 : Dd mX9_readsNumbers.2.1 73 (.goto 4) 3 76 := ⟨by decide +kernel, rfl⟩
theorem dX9_readsNumbers_76 : Dd mX9_readsNumbers.2.1 76 (.iconst 0) 1 77 := ⟨by decide +kernel, rfl⟩
theorem dX9_readsNumbers_77 : Dd mX9_readsNumbers.2.1 77 (.ireturn) 1 78 := ⟨by decide +kernel, rfl⟩
theorem dX9_readsNumbers_78 : Dd mX9_readsNumbers.2.1 78 (.aload_n 0) 1 79 := ⟨by decide +kernel, rfl⟩
theorem dX9_readsNumbers_79 : Dd mX9_readsNumbers.2.1 79 (.getfield 135) 3 82 := ⟨by decide +kernel, rfl⟩
theorem dX9_readsNumbers_82 : Dd mX9_readsNumbers.2.1 82 (.bipush 12) 2 84 := ⟨by decide +kernel, rfl⟩
theorem dX9_readsNumbers_84 : Dd mX9_readsNumbers.2.1 84 (.if_icmp .ge 42) 3 87 := ⟨by decide +kernel, rfl⟩
theorem dX9_readsNumbers_87 : Dd mX9_readsNumbers.2.1 87 (.aload_n 0) 1 88 := ⟨by decide +kernel, rfl⟩
theorem dX9_readsNumbers_88 : Dd mX9_readsNumbers.2.1 88 (.aload_n 0) 1 89 := ⟨by decide +kernel, rfl⟩
theorem dX9_readsNumbers_89 : Dd mX9_readsNumbers.2.1 89 (.getfield 129) 3 92 := ⟨by decide +kernel, rfl⟩
theorem dX9_readsNumbers_92 : Dd mX9_readsNumbers.2.1 92 (.iconst 1) 1 93 := ⟨by decide +kernel, rfl⟩
theorem dX9_readsNumbers_93 : Dd mX9_readsNumbers.2.1 93 (.isub) 1 94 := ⟨by decide +kernel, rfl⟩
theorem dX9_readsNumbers_94 : Dd mX9_readsNumbers.2.1 94 (.iconst 0) 1 95 := ⟨by decide +kernel, rfl⟩
theorem dX9_readsNumbers_95 : Dd mX9_readsNumbers.2.1 95 (.aload_n 0) 1 96 := ⟨by decide +kernel, rfl⟩
theorem dX9_readsNumbers_96 : Dd mX9_readsNumbers.2.1 96 (.getfield 129) 3 99 := ⟨by decide +kernel, rfl⟩
theorem dX9_readsNumbers_99 : Dd mX9_readsNumbers.2.1 99 (.iconst 1) 1 100 := ⟨by decide +kernel, rfl⟩
theorem dX9_readsNumbers_100 : Dd mX9_readsNumbers.2.1 100 (.isub) 1 101 := ⟨by decide +kernel, rfl⟩
theorem dX9_readsNumbers_101 : Dd mX9_readsNumbers.2.1 101 (.invokevirtual 132) 3 104 := ⟨by decide +kernel, rfl⟩
theorem dX9_readsNumbers_104 : Dd mX9_readsNumbers.2.1 104 (.ifCond .eq 22) 3 107 := ⟨by decide +kernel, rfl⟩
theorem dX9_readsNumbers_107 : Dd mX9_readsNumbers.2.1 107 (.aload_n 0) 1 108 := ⟨by decide +kernel, rfl⟩
theorem dX9_readsNumbers_108 : Dd mX9_readsNumbers.2.1 108 (.getfield 37) 3 111 := ⟨by decide +kernel, rfl⟩
theorem dX9_readsNumbers_111 : Dd mX9_readsNumbers.2.1 111 (.iconst 0) 1 112 := ⟨by decide +kernel, rfl⟩
theorem dX9_readsNumbers_112 : Dd mX9_readsNumbers.2.1 112 (.iaload) 1 113 := ⟨by decide +kernel, rfl⟩
theorem dX9_readsNumbers_113 : Dd mX9_readsNumbers.2.1 113 (.aload_n 0) 1 114 := ⟨by decide +kernel, rfl⟩
theorem dX9_readsNumbers_114 : Dd mX9_readsNumbers.2.1 114 (.getfield 37) 3 117 := ⟨by decide +kernel, rfl⟩
theorem dX9_readsNumbers_117 : Dd mX9_readsNumbers.2.1 117 (.iconst 1) 1 118 := ⟨by decide +kernel, rfl⟩
theorem dX9_readsNumbers_118 : Dd mX9_readsNumbers.2.1 118 (.iaload) 1 119 := ⟨by decide +kernel, rfl⟩
theorem dX9_readsNumbers_119 : Dd mX9_readsNumbers.2.1 119 (.if_icmp .eq 7) 3 122 := ⟨by decide +kernel, rfl⟩
theorem dX9_readsNumbers_122 : Dd mX9_readsNumbers.2.1 122 (.iconst 1) 1 123 := ⟨by decide +kernel, rfl⟩
theorem dX9_readsNumbers_123 : Dd mX9_readsNumbers.2.1 123 (.goto 4) 3 126 := ⟨by decide +kernel, rfl⟩
theorem dX9_readsNumbers_126 : Dd mX9_readsNumbers.2.1 126 (.iconst 0) 1 127 := ⟨by decide +kernel, rfl⟩
theorem dX9_readsNumbers_127 : Dd mX9_readsNumbers.2.1 127 (.ireturn) 1 128 := ⟨by decide +kernel, rfl⟩
theorem dX9_readsNumbers_128 : Dd mX9_readsNumbers.2.1 128 (.aload_n 0) 1 129 := ⟨by decide +kernel, rfl⟩
theorem dX9_readsNumbers_129 : Dd mX9_readsNumbers.2.1 129 (.getfield 138) 3 132 := ⟨by decide +kernel, rfl⟩
theorem dX9_readsNumbers_132 : Dd mX9_readsNumbers.2.1 132 (.bipush 8) 2 134 := ⟨by decide +kernel, rfl⟩
theorem dX9_readsNumbers_134 : Dd mX9_readsNumbers.2.1 134 (.if_icmp .ge 23) 3 137 := ⟨by decide +kernel, rfl⟩
theorem dX9_readsNumbers_137 : Dd mX9_readsNumbers.2.1 137 (.aload_n 0) 1 138 := ⟨by decide +kernel, rfl⟩
theorem dX9_readsNumbers_138 : Dd mX9_readsNumbers.2.1 138 (.aload_n 0) 1 139 := ⟨by decide +kernel, rfl⟩
theorem dX9_readsNumbers_139 : Dd mX9_readsNumbers.2.1 139 (.getfield 129) 3 142 := ⟨by decide +kernel, rfl⟩
theorem dX9_readsNumbers_142 : Dd mX9_readsNumbers.2.1 142 (.iconst 1) 1 143 := ⟨by decide +kernel, rfl⟩
theorem dX9_readsNumbers_143 : Dd mX9_readsNumbers.2.1 143 (.isub) 1 144 := ⟨by decide +kernel, rfl⟩
theorem dX9_readsNumbers_144 : Dd mX9_readsNumbers.2.1 144 (.iconst 1) 1 145 := ⟨by decide +kernel, rfl⟩
theorem dX9_readsNumbers_145 : Dd mX9_readsNumbers.2.1 145 (.bipush 9) 2 147 := ⟨by decide +kernel, rfl⟩
theorem dX9_readsNumbers_147 : Dd mX9_readsNumbers.2.1 147 (.invokevirtual 132) 3 150 := ⟨by decide +kernel, rfl⟩
theorem dX9_readsNumbers_150 : Dd mX9_readsNumbers.2.1 150 (.ifCond .eq 7) 3 153 := ⟨by decide +kernel, rfl⟩
theorem dX9_readsNumbers_153 : Dd mX9_readsNumbers.2.1 153 (.iconst 1) 1 154 := ⟨by decide +kernel, rfl⟩
theorem dX9_readsNumbers_154 : Dd mX9_readsNumbers.2.1 154 (.goto 4) 3 157 := ⟨by decide +kernel, rfl⟩
theorem dX9_readsNumbers_157 : Dd mX9_readsNumbers.2.1 157 (.iconst 0) 1 158 := ⟨by decide +kernel, rfl⟩
theorem dX9_readsNumbers_158 : Dd mX9_readsNumbers.2.1 158 (.ireturn) 1 159 := ⟨by decide +kernel, rfl⟩
theorem dX9_readsNumbers_159 : Dd mX9_readsNumbers.2.1 159 (.aload_n 0) 1 160 := ⟨by decide +kernel, rfl⟩
theorem dX9_readsNumbers_160 : Dd mX9_readsNumbers.2.1 160 (.getfield 141) 3 163 := ⟨by decide +kernel, rfl⟩
theorem dX9_readsNumbers_163 : Dd mX9_readsNumbers.2.1 163 (.iconst 4) 1 164 := ⟨by decide +kernel, rfl⟩
theorem dX9_readsNumbers_164 : Dd mX9_readsNumbers.2.1 164 (.if_icmp .ge 18) 3 167 := ⟨by decide +kernel, rfl⟩
theorem dX9_readsNumbers_167 : Dd mX9_readsNumbers.2.1 167 (.aload_n 0) 1 168 := ⟨by decide +kernel, rfl⟩
theorem dX9_readsNumbers_168 : Dd mX9_readsNumbers.2.1 168 (.iconst 0) 1 169 := ⟨by decide +kernel, rfl⟩
theorem dX9_readsNumbers_169 : Dd mX9_readsNumbers.2.1 169 (.iconst 1) 1 170 := ⟨by decide +kernel, rfl⟩
theorem dX9_readsNumbers_170 : Dd mX9_readsNumbers.2.1 170 (.bipush 90) 2 172 := ⟨by decide +kernel, rfl⟩
theorem dX9_readsNumbers_172 : Dd mX9_readsNumbers.2.1 172 (.invokevirtual 121) 3 175 := ⟨by decide +kernel, rfl⟩
theorem dX9_readsNumbers_175 : Dd mX9_readsNumbers.2.1 175 (.ifCond .eq 7) 3 178 := ⟨by decide +kernel, rfl⟩
theorem dX9_readsNumbers_178 : Dd mX9_readsNumbers.2.1 178 (.iconst 1) 1 179 := ⟨by decide +kernel, rfl⟩
theorem dX9_readsNumbers_179 : Dd mX9_readsNumbers.2.1 179 (.goto 4) 3 182 := ⟨by decide +kernel, rfl⟩
theorem dX9_readsNumbers_182 : Dd mX9_readsNumbers.2.1 182 (.iconst 0) 1 183 := ⟨by decide +kernel, rfl⟩
theorem dX9_readsNumbers_183 : Dd mX9_readsNumbers.2.1 183 (.ireturn) 1 184 := ⟨by decide +kernel, rfl⟩
theorem dX9_readsNumbers_184 : Dd mX9_readsNumbers.2.1 184 (.aload_n 0) 1 185 := ⟨by decide +kernel, rfl⟩
theorem dX9_readsNumbers_185 : Dd mX9_readsNumbers.2.1 185 (.getfield 144) 3 188 := ⟨by decide +kernel, rfl⟩
theorem dX9_readsNumbers_188 : Dd mX9_readsNumbers.2.1 188 (.bipush 6) 2 190 := ⟨by decide +kernel, rfl⟩
theorem dX9_readsNumbers_190 : Dd mX9_readsNumbers.2.1 190 (.if_icmp .ge 14) 3 193 := ⟨by decide +kernel, rfl⟩
theorem dX9_readsNumbers_193 : Dd mX9_readsNumbers.2.1 193 (.aload_n 0) 1 194 := ⟨by decide +kernel, rfl⟩
theorem dX9_readsNumbers_194 : Dd mX9_readsNumbers.2.1 194 (.invokevirtual 147) 3 197 := ⟨by decide +kernel, rfl⟩
theorem dX9_readsNumbers_197 : Dd mX9_readsNumbers.2.1 197 (.ifCond .eq 7) 3 200 := ⟨by decide +kernel, rfl⟩
theorem dX9_readsNumbers_200 : Dd mX9_readsNumbers.2.1 200 (.iconst 1) 1 201 := ⟨by decide +kernel, rfl⟩
theorem dX9_readsNumbers_201 : Dd mX9_readsNumbers.2.1 201 (.goto 4) 3 204 := ⟨by decide +kernel, rfl⟩
theorem dX9_readsNumbers_204 : Dd mX9_readsNumbers.2.1 204 (.iconst 0) 1 205 := ⟨by decide +kernel, rfl⟩
theorem dX9_readsNumbers_205 : Dd mX9_readsNumbers.2.1 205 (.ireturn) 1 206 := ⟨by decide +kernel, rfl⟩
theorem dX9_readsNumbers_206 : Dd mX9_readsNumbers.2.1 206 (.iconst 0) 1 207 := ⟨by decide +kernel, rfl⟩
theorem dX9_readsNumbers_207 : Dd mX9_readsNumbers.2.1 207 (.ireturn) 1 208 := ⟨by decide +kernel, rfl⟩
theorem dX9_readsItem_0 : Dd mX9_readsItem.2.1 0 (.aload_n 0) 1 1 := ⟨by decide +kernel, rfl⟩
theorem dX9_readsItem_1 : Dd mX9_readsItem.2.1 1 (.getfield 13) 3 4 := ⟨by decide +kernel, rfl⟩
theorem dX9_readsItem_4 : Dd mX9_readsItem.2.1 4 (.aload_n 0) 1 5 := ⟨by decide +kernel, rfl⟩
theorem dX9_readsItem_5 : Dd mX9_readsItem.2.1 5 (.getfield 111) 3 8 := ⟨by decide +kernel, rfl⟩
theorem dX9_readsItem_8 : Dd mX9_readsItem.2.1 8 (.iaload) 1 9 := ⟨by decide +kernel, rfl⟩
theorem dX9_readsItem_9 : Dd mX9_readsItem.2.1 9 (.istore_n 1) 1 10 := ⟨by decide +kernel, rfl⟩
theorem dX9_readsItem_10 : Dd mX9_readsItem.2.1 10 (.aload_n 0) 1 11 := ⟨by decide +kernel, rfl⟩
theorem dX9_readsItem_11 : Dd mX9_readsItem.2.1 11 (.dup) 1 12 := ⟨by decide +kernel, rfl⟩
theorem dX9_readsItem_12 : Dd mX9_readsItem.2.1 12 (.getfield 111) 3 15 := ⟨by decide +kernel, rfl⟩
theorem dX9_readsItem_15 : Dd mX9_readsItem.2.1 15 (.iconst 1) 1 16 := ⟨by decide +kernel, rfl⟩
theorem dX9_readsItem_16 : Dd mX9_readsItem.2.1 16 (.iadd) 1 17 := ⟨by decide +kernel, rfl⟩
theorem dX9_readsItem_17 : Dd mX9_readsItem.2.1 17 (.putfield 111) 3 20 := ⟨by decide +kernel, rfl⟩
theorem dX9_readsItem_20 : Dd mX9_readsItem.2.1 20 (.aload_n 0) 1 21 := ⟨by decide +kernel, rfl⟩
theorem dX9_readsItem_21 : Dd mX9_readsItem.2.1 21 (.iload_n 1) 1 22 := ⟨by decide +kernel, rfl⟩
theorem dX9_readsItem_22 : Dd mX9_readsItem.2.1 22 (.invokevirtual 150) 3 25 := ⟨by decide +kernel, rfl⟩
theorem dX9_readsItem_25 : Dd mX9_readsItem.2.1 25 (.ifCond .eq 12) 3 28 := ⟨by decide +kernel, rfl⟩
theorem dX9_readsItem_28 : Dd mX9_readsItem.2.1 28 (.aload_n 0) 1 29 := ⟨by decide +kernel, rfl⟩
theorem dX9_readsItem_29 : Dd mX9_readsItem.2.1 29 (.bipush 59) 2 31 := ⟨by decide +kernel, rfl⟩
theorem dX9_readsItem_31 : Dd mX9_readsItem.2.1 31 (.invokevirtual 118) 3 34 := ⟨by decide +kernel, rfl⟩
theorem dX9_readsItem_34 : Dd mX9_readsItem.2.1 34 (.ifCond .ne 6) 3 37 := ⟨by decide +kernel, rfl⟩
theorem dX9_readsItem_37 : Dd mX9_readsItem.2.1 37 (.bipush (-4)) 2 39 := ⟨by decide +kernel, rfl⟩
theorem dX9_readsItem_39 : Dd mX9_readsItem.2.1 39 (.ireturn) 1 40 := ⟨by decide +kernel, rfl⟩
theorem dX9_readsItem_40 : Dd mX9_readsItem.2.1 40 (.aload_n 0) 1 41 := ⟨by decide +kernel, rfl⟩
theorem dX9_readsItem_41 : Dd mX9_readsItem.2.1 41 (.dup) 1 42 := ⟨by decide +kernel, rfl⟩
theorem dX9_readsItem_42 : Dd mX9_readsItem.2.1 42 (.getfield 111) 3 45 := ⟨by decide +kernel, rfl⟩
theorem dX9_readsItem_45 : Dd mX9_readsItem.2.1 45 (.iconst 1) 1 46 := ⟨by decide +kernel, rfl⟩
theorem dX9_readsItem_46 : Dd mX9_readsItem.2.1 46 (.iadd) 1 47 := ⟨by decide +kernel, rfl⟩
theorem dX9_readsItem_47 : Dd mX9_readsItem.2.1 47 (.putfield 111) 3 50 := ⟨by decide +kernel, rfl⟩
theorem dX9_readsItem_50 : Dd mX9_readsItem.2.1 50 (.aload_n 0) 1 51 := ⟨by decide +kernel, rfl⟩
theorem dX9_readsItem_51 : Dd mX9_readsItem.2.1 51 (.dup) 1 52 := ⟨by decide +kernel, rfl⟩
theorem dX9_readsItem_52 : Dd mX9_readsItem.2.1 52 (.getfield 129) 3 55 := ⟨by decide +kernel, rfl⟩
theorem dX9_readsItem_55 : Dd mX9_readsItem.2.1 55 (.iload_n 1) 1 56 := ⟨by decide +kernel, rfl⟩
theorem dX9_readsItem_56 : Dd mX9_readsItem.2.1 56 (.bipush 116) 2 58 := ⟨by decide +kernel, rfl⟩
theorem dX9_readsItem_58 : Dd mX9_readsItem.2.1 58 (.if_icmp .ne 7) 3 61 := ⟨by decide +kernel, rfl⟩
theorem dX9_readsItem_61 : Dd mX9_readsItem.2.1 61 (.iconst 1) 1 62 := ⟨by decide +kernel, rfl⟩
theorem dX9_readsItem_62 : Dd mX9_readsItem.2.1 62 (.goto 4) 3 65 := ⟨by decide +kernel, rfl⟩
theorem dX9_readsItem_65 : Dd mX9_readsItem.2.1 65 (.iconst 0) 1 66 := ⟨by decide +kernel, rfl⟩
theorem dX9_readsItem_66 : Dd mX9_readsItem.2.1 66 (.iadd) 1 67 := ⟨by decide +kernel, rfl⟩
theorem dX9_readsItem_67 : Dd mX9_readsItem.2.1 67 (.putfield 129) 3 70 := ⟨by decide +kernel, rfl⟩
theorem dX9_readsItem_70 : Dd mX9_readsItem.2.1 70 (.aload_n 0) 1 71 := ⟨by decide +kernel, rfl⟩
theorem dX9_readsItem_71 : Dd mX9_readsItem.2.1 71 (.dup) 1 72 := ⟨by decide +kernel, rfl⟩
theorem dX9_readsItem_72 : Dd mX9_readsItem.2.1 72 (.getfield 135) 3 75 := ⟨by decide +kernel, rfl⟩
theorem dX9_readsItem_75 : Dd mX9_readsItem.2.1 75 (.iload_n 1) 1 76 := ⟨by decide +kernel, rfl⟩
theorem dX9_readsItem_76 : Dd mX9_readsItem.2.1 76 (.bipush 121) 2 78 := ⟨by decide +kernel, rfl⟩
theorem dX9_readsItem_78 : Dd mX9_readsItem.2.1 78 (.if_icmp .ne 7) 3 81 := ⟨by decide +kernel, rfl⟩
theorem dX9_readsItem_81 : Dd mX9_readsItem.2.1 81 (.iconst 1) 1 82 := ⟨by decide +kernel, rfl⟩
theorem dX9_readsItem_82 : Dd mX9_readsItem.2.1 82 (.goto 4) 3 85 := ⟨by decide +kernel, rfl⟩
theorem dX9_readsItem_85 : Dd mX9_readsItem.2.1 85 (.iconst 0) 1 86 := ⟨by decide +kernel, rfl⟩
theorem dX9_readsItem_86 : Dd mX9_readsItem.2.1 86 (.iadd) 1 87 := ⟨by decide +kernel, rfl⟩
theorem dX9_readsItem_87 : Dd mX9_readsItem.2.1 87 (.putfield 135) 3 90 := ⟨by decide +kernel, rfl⟩
theorem dX9_readsItem_90 : Dd mX9_readsItem.2.1 90 (.aload_n 0) 1 91 := ⟨by decide +kernel, rfl⟩
theorem dX9_readsItem_91 : Dd mX9_readsItem.2.1 91 (.dup) 1 92 := ⟨by decide +kernel, rfl⟩
theorem dX9_readsItem_92 : Dd mX9_readsItem.2.1 92 (.getfield 138) 3 95 := ⟨by decide +kernel, rfl⟩
theorem dX9_readsItem_95 : Dd mX9_readsItem.2.1 95 (.iload_n 1) 1 96 := ⟨by decide +kernel, rfl⟩
theorem dX9_readsItem_96 : Dd mX9_readsItem.2.1 96 (.bipush 112) 2 98 := ⟨by decide +kernel, rfl⟩
theorem dX9_readsItem_98 : Dd mX9_readsItem.2.1 98 (.if_icmp .ne 7) 3 101 := ⟨by decide +kernel, rfl⟩
theorem dX9_readsItem_101 : Dd mX9_readsItem.2.1 101 (.iconst 1) 1 102 := ⟨by decide +kernel, rfl⟩
theorem dX9_readsItem_102 : Dd mX9_readsItem.2.1 102 (.goto 4) 3 105 := ⟨by decide +kernel, rfl⟩
theorem dX9_readsItem_105 : Dd mX9_readsItem.2.1 105 (.iconst 0) 1 106 := ⟨by decide +kernel, rfl⟩
theorem dX9_readsItem_106 : Dd mX9_readsItem.2.1 106 (.iadd) 1 107 := ⟨by decide +kernel, rfl⟩
theorem dX9_readsItem_107 : Dd mX9_readsItem.2.1 107 (.putfield 138) 3 110 := ⟨by decide +kernel, rfl⟩
theorem dX9_readsItem_110 : Dd mX9_readsItem.2.1 110 (.aload_n 0) 1 111 := ⟨by decide +kernel, rfl⟩
theorem dX9_readsItem_111 : Dd mX9_readsItem.2.1 111 (.dup) 1 112 := ⟨by decide +kernel, rfl⟩
theorem dX9_readsItem_112 : Dd mX9_readsItem.2.1 112 (.getfield 141) 3 115 := ⟨by decide +kernel, rfl⟩
theorem dX9_readsItem_115 : Dd mX9_readsItem.2.1 115 (.iload_n 1) 1 116 := ⟨by decide +kernel, rfl⟩
theorem dX9_readsItem_116 : Dd mX9_readsItem.2.1 116 (.bipush 98) 2 118 := ⟨by decide +kernel, rfl⟩
theorem dX9_readsItem_118 : Dd mX9_readsItem.2.1 118 (.if_icmp .ne 7) 3 121 := ⟨by decide +kernel, rfl⟩
theorem dX9_readsItem_121 : Dd mX9_readsItem.2.1 121 (.iconst 1) 1 122 := ⟨by decide +kernel, rfl⟩
theorem dX9_readsItem_122 : Dd mX9_readsItem.2.1 122 (.goto 4) 3 125 := ⟨by decide +kernel, rfl⟩
theorem dX9_readsItem_125 : Dd mX9_readsItem.2.1 125 (.iconst 0) 1 126 := ⟨by decide +kernel, rfl⟩
theorem dX9_readsItem_126 : Dd mX9_readsItem.2.1 126 (.iadd) 1 127 := ⟨by decide +kernel, rfl⟩
theorem dX9_readsItem_127 : Dd mX9_readsItem.2.1 127 (.putfield 141) 3 130 := ⟨by decide +kernel, rfl⟩
theorem dX9_readsItem_130 : Dd mX9_readsItem.2.1 130 (.aload_n 0) 1 131 := ⟨by decide +kernel, rfl⟩
theorem dX9_readsItem_131 : Dd mX9_readsItem.2.1 131 (.dup) 1 132 := ⟨by decide +kernel, rfl⟩
theorem dX9_readsItem_132 : Dd mX9_readsItem.2.1 132 (.getfield 144) 3 135 := ⟨by decide +kernel, rfl⟩
theorem dX9_readsItem_135 : Dd mX9_readsItem.2.1 135 (.iload_n 1) 1 136 := ⟨by decide +kernel, rfl⟩
theorem dX9_readsItem_136 : Dd mX9_readsItem.2.1 136 (.bipush 120) 2 138 := ⟨by decide +kernel, rfl⟩
theorem dX9_readsItem_138 : Dd mX9_readsItem.2.1 138 (.if_icmp .ne 7) 3 141 := ⟨by decide +kernel, rfl⟩
theorem dX9_readsItem_141 : Dd mX9_readsItem.2.1 141 (.iconst 1) 1 142 := ⟨by decide +kernel, rfl⟩
theorem dX9_readsItem_142 : Dd mX9_readsItem.2.1 142 (.goto 4) 3 145 := ⟨by decide +kernel, rfl⟩
theorem dX9_readsItem_145 : Dd mX9_readsItem.2.1 145 (.iconst 0) 1 146 := ⟨by decide +kernel, rfl⟩
theorem dX9_readsItem_146 : Dd mX9_readsItem.2.1 146 (.iadd) 1 147 := ⟨by decide +kernel, rfl⟩
theorem dX9_readsItem_147 : Dd mX9_readsItem.2.1 147 (.putfield 144) 3 150 := ⟨by decide +kernel, rfl⟩
theorem dX9_readsItem_150 : Dd mX9_readsItem.2.1 150 (.iload_n 1) 1 151 := ⟨by decide +kernel, rfl⟩
theorem dX9_readsItem_151 : Dd mX9_readsItem.2.1 151 (.ireturn) 1 152 := ⟨by decide +kernel, rfl⟩
theorem dX9_beginToRead_0 : Dd mX9_beginToRead.2.1 0 (.aload_n 0) 1 1 := ⟨by decide +kernel, rfl⟩
theorem dX9_beginToRead_1 : Dd mX9_beginToRead.2.1 1 (.iconst 0) 1 2 := ⟨by decide +kernel, rfl⟩
theorem dX9_beginToRead_2 : Dd mX9_beginToRead.2.1 2 (.putfield 111) 3 5 := ⟨by decide +kernel, rfl⟩
theorem dX9_beginToRead_5 : Dd mX9_beginToRead.2.1 5 (.aload_n 0) 1 6 := ⟨by decide +kernel, rfl⟩
theorem dX9_beginToRead_6 : Dd mX9_beginToRead.2.1 6 (.iconst 0) 1 7 := ⟨by decide +kernel, rfl⟩
theorem dX9_beginToRead_7 : Dd mX9_beginToRead.2.1 7 (.putfield 129) 3 10 := ⟨by decide +kernel, rfl⟩
theorem dX9_beginToRead_10 : Dd mX9_beginToRead.2.1 10 (.aload_n 0) 1 11 := ⟨by decide +kernel, rfl⟩
theorem dX9_beginToRead_11 : Dd mX9_beginToRead.2.1 11 (.iconst 0) 1 12 := ⟨by decide +kernel, rfl⟩
theorem dX9_beginToRead_12 : Dd mX9_beginToRead.2.1 12 (.putfield 135) 3 15 := ⟨by decide +kernel, rfl⟩
theorem dX9_beginToRead_15 : Dd mX9_beginToRead.2.1 15 (.aload_n 0) 1 16 := ⟨by decide +kernel, rfl⟩
theorem dX9_beginToRead_16 : Dd mX9_beginToRead.2.1 16 (.iconst 0) 1 17 := ⟨by decide +kernel, rfl⟩
theorem dX9_beginToRead_17 : Dd mX9_beginToRead.2.1 17 (.putfield 138) 3 20 := ⟨by decide +kernel, rfl⟩
theorem dX9_beginToRead_20 : Dd mX9_beginToRead.2.1 20 (.aload_n 0) 1 21 := ⟨by decide +kernel, rfl⟩
theorem dX9_beginToRead_21 : Dd mX9_beginToRead.2.1 21 (.iconst 0) 1 22 := ⟨by decide +kernel, rfl⟩
theorem dX9_beginToRead_22 : Dd mX9_beginToRead.2.1 22 (.putfield 141) 3 25 := ⟨by decide +kernel, rfl⟩
theorem dX9_beginToRead_25 : Dd mX9_beginToRead.2.1 25 (.aload_n 0) 1 26 := ⟨by decide +kernel, rfl⟩
theorem dX9_beginToRead_26 : Dd mX9_beginToRead.2.1 26 (.iconst 0) 1 27 := ⟨by decide +kernel, rfl⟩
theorem dX9_beginToRead_27 : Dd mX9_beginToRead.2.1 27 (.putfield 144) 3 30 := ⟨by decide +kernel, rfl⟩
theorem dX9_beginToRead_30 : Dd mX9_beginToRead.2.1 30 (.return_) 1 31 := ⟨by decide +kernel, rfl⟩
theorem dX9_fault_0 : Dd mX9_fault.2.1 0 (.aload_n 0) 1 1 := ⟨by decide +kernel, rfl⟩
theorem dX9_fault_1 : Dd mX9_fault.2.1 1 (.invokevirtual 153) 3 4 := ⟨by decide +kernel, rfl⟩
theorem dX9_fault_4 : Dd mX9_fault.2.1 4 (.aload_n 0) 1 5 := ⟨by decide +kernel, rfl⟩
theorem dX9_fault_5 : Dd mX9_fault.2.1 5 (.getfield 111) 3 8 := ⟨by decide +kernel, rfl⟩
theorem dX9_fault_8 : Dd mX9_fault.2.1 8 (.aload_n 0) 1 9 := ⟨by decide +kernel, rfl⟩
theorem dX9_fault_9 : Dd mX9_fault.2.1 9 (.getfield 104) 3 12 := ⟨by decide +kernel, rfl⟩
theorem dX9_fault_12 : Dd mX9_fault.2.1 12 (.if_icmp .ge 22) 3 15 := ⟨by decide +kernel, rfl⟩
theorem dX9_fault_15 : Dd mX9_fault.2.1 15 (.aload_n 0) 1 16 := ⟨by decide +kernel, rfl⟩
theorem dX9_fault_16 : Dd mX9_fault.2.1 16 (.getfield 111) 3 19 := ⟨by decide +kernel, rfl⟩
theorem dX9_fault_19 : Dd mX9_fault.2.1 19 (.istore_n 1) 1 20 := ⟨by decide +kernel, rfl⟩
theorem dX9_fault_20 : Dd mX9_fault.2.1 20 (.aload_n 0) 1 21 := ⟨by decide +kernel, rfl⟩
theorem dX9_fault_21 : Dd mX9_fault.2.1 21 (.invokevirtual 156) 3 24 := ⟨by decide +kernel, rfl⟩
theorem dX9_fault_24 : Dd mX9_fault.2.1 24 (.bipush (-4)) 2 26 := ⟨by decide +kernel, rfl⟩
theorem dX9_fault_26 : Dd mX9_fault.2.1 26 (.if_icmp .ne 5) 3 29 := ⟨by decide +kernel, rfl⟩
theorem dX9_fault_29 : Dd mX9_fault.2.1 29 (.iload_n 1) 1 30 := ⟨by decide +kernel, rfl⟩
theorem dX9_fault_30 : Dd mX9_fault.2.1 30 (.ireturn) 1 31 := ⟨by decide +kernel, rfl⟩
theorem dX9_fault_31 : Dd mX9_fault.2.1 31 (.goto (-27)) 3 34 := ⟨by decide +kernel, rfl⟩
theorem dX9_fault_34 : Dd mX9_fault.2.1 34 (.bipush (-4)) 2 36 := ⟨by decide +kernel, rfl⟩
theorem dX9_fault_36 : Dd mX9_fault.2.1 36 (.ireturn) 1 37 := ⟨by decide +kernel, rfl⟩
theorem dX9_tell_0 : Dd mX9_tell.2.1 0 (.iload_n 1) 1 1 := ⟨by decide +kernel, rfl⟩
theorem dX9_tell_1 : Dd mX9_tell.2.1 1 (.lookupswitch 105 #[(98, 94), (112, 77), (116, 43), (121, 60)]) 43 44 := ⟨by decide +kernel, rfl⟩
theorem dX9_tell_44 : Dd mX9_tell.2.1 44 (.aload_n 0) 1 45 := ⟨by decide +kernel, rfl⟩
theorem dX9_tell_45 : Dd mX9_tell.2.1 45 (.aload_n 0) 1 46 := ⟨by decide +kernel, rfl⟩
theorem dX9_tell_46 : Dd mX9_tell.2.1 46 (.getfield 37) 3 49 := ⟨by decide +kernel, rfl⟩
theorem dX9_tell_49 : Dd mX9_tell.2.1 49 (.iconst 0) 1 50 := ⟨by decide +kernel, rfl⟩
theorem dX9_tell_50 : Dd mX9_tell.2.1 50 (.iaload) 1 51 := ⟨by decide +kernel, rfl⟩
theorem dX9_tell_51 : Dd mX9_tell.2.1 51 (.aload_n 0) 1 52 := ⟨by decide +kernel, rfl⟩
theorem dX9_tell_52 : Dd mX9_tell.2.1 52 (.getfield 37) 3 55 := ⟨by decide +kernel, rfl⟩
theorem dX9_tell_55 : Dd mX9_tell.2.1 55 (.iconst 1) 1 56 := ⟨by decide +kernel, rfl⟩
theorem dX9_tell_56 : Dd mX9_tell.2.1 56 (.iaload) 1 57 := ⟨by decide +kernel, rfl⟩
theorem dX9_tell_57 : Dd mX9_tell.2.1 57 (.invokevirtual 53) 3 60 := ⟨by decide +kernel, rfl⟩
theorem dX9_tell_60 : Dd mX9_tell.2.1 60 (.return_) 1 61 := ⟨by decide +kernel, rfl⟩
theorem dX9_tell_61 : Dd mX9_tell.2.1 61 (.aload_n 0) 1 62 := ⟨by decide +kernel, rfl⟩
theorem dX9_tell_62 : Dd mX9_tell.2.1 62 (.aload_n 0) 1 63 := ⟨by decide +kernel, rfl⟩
theorem dX9_tell_63 : Dd mX9_tell.2.1 63 (.getfield 37) 3 66 := ⟨by decide +kernel, rfl⟩
theorem dX9_tell_66 : Dd mX9_tell.2.1 66 (.iconst 0) 1 67 := ⟨by decide +kernel, rfl⟩
theorem dX9_tell_67 : Dd mX9_tell.2.1 67 (.iaload) 1 68 := ⟨by decide +kernel, rfl⟩
theorem dX9_tell_68 : Dd mX9_tell.2.1 68 (.aload_n 0) 1 69 := ⟨by decide +kernel, rfl⟩
theorem dX9_tell_69 : Dd mX9_tell.2.1 69 (.getfield 37) 3 72 := ⟨by decide +kernel, rfl⟩
theorem dX9_tell_72 : Dd mX9_tell.2.1 72 (.iconst 1) 1 73 := ⟨by decide +kernel, rfl⟩
theorem dX9_tell_73 : Dd mX9_tell.2.1 73 (.iaload) 1 74 := ⟨by decide +kernel, rfl⟩
theorem dX9_tell_74 : Dd mX9_tell.2.1 74 (.invokevirtual 57) 3 77 := ⟨by decide +kernel, rfl⟩
theorem dX9_tell_77 : Dd mX9_tell.2.1 77 (.return_) 1 78 := ⟨by decide +kernel, rfl⟩
theorem dX9_tell_78 : Dd mX9_tell.2.1 78 (.aload_n 0) 1 79 := ⟨by decide +kernel, rfl⟩
theorem dX9_tell_79 : Dd mX9_tell.2.1 79 (.aload_n 0) 1 80 := ⟨by decide +kernel, rfl⟩
theorem dX9_tell_80 : Dd mX9_tell.2.1 80 (.getfield 37) 3 83 := ⟨by decide +kernel, rfl⟩
theorem dX9_tell_83 : Dd mX9_tell.2.1 83 (.iconst 0) 1 84 := ⟨by decide +kernel, rfl⟩
theorem dX9_tell_84 : Dd mX9_tell.2.1 84 (.iaload) 1 85 := ⟨by decide +kernel, rfl⟩
theorem dX9_tell_85 : Dd mX9_tell.2.1 85 (.aload_n 0) 1 86 := ⟨by decide +kernel, rfl⟩
theorem dX9_tell_86 : Dd mX9_tell.2.1 86 (.getfield 37) 3 89 := ⟨by decide +kernel, rfl⟩
theorem dX9_tell_89 : Dd mX9_tell.2.1 89 (.iconst 1) 1 90 := ⟨by decide +kernel, rfl⟩
theorem dX9_tell_90 : Dd mX9_tell.2.1 90 (.iaload) 1 91 := ⟨by decide +kernel, rfl⟩
theorem dX9_tell_91 : Dd mX9_tell.2.1 91 (.invokevirtual 60) 3 94 := ⟨by decide +kernel, rfl⟩
theorem dX9_tell_94 : Dd mX9_tell.2.1 94 (.return_) 1 95 := ⟨by decide +kernel, rfl⟩
theorem dX9_tell_95 : Dd mX9_tell.2.1 95 (.aload_n 0) 1 96 := ⟨by decide +kernel, rfl⟩
theorem dX9_tell_96 : Dd mX9_tell.2.1 96 (.aload_n 0) 1 97 := ⟨by decide +kernel, rfl⟩
theorem dX9_tell_97 : Dd mX9_tell.2.1 97 (.getfield 37) 3 100 := ⟨by decide +kernel, rfl⟩
theorem dX9_tell_100 : Dd mX9_tell.2.1 100 (.iconst 0) 1 101 := ⟨by decide +kernel, rfl⟩
theorem dX9_tell_101 : Dd mX9_tell.2.1 101 (.iaload) 1 102 := ⟨by decide +kernel, rfl⟩
theorem dX9_tell_102 : Dd mX9_tell.2.1 102 (.invokevirtual 63) 3 105 := ⟨by decide +kernel, rfl⟩
theorem dX9_tell_105 : Dd mX9_tell.2.1 105 (.return_) 1 106 := ⟨by decide +kernel, rfl⟩
theorem dX9_tell_106 : Dd mX9_tell.2.1 106 (.aload_n 0) 1 107 := ⟨by decide +kernel, rfl⟩
theorem dX9_tell_107 : Dd mX9_tell.2.1 107 (.aload_n 0) 1 108 := ⟨by decide +kernel, rfl⟩
theorem dX9_tell_108 : Dd mX9_tell.2.1 108 (.getfield 37) 3 111 := ⟨by decide +kernel, rfl⟩
theorem dX9_tell_111 : Dd mX9_tell.2.1 111 (.iconst 0) 1 112 := ⟨by decide +kernel, rfl⟩
theorem dX9_tell_112 : Dd mX9_tell.2.1 112 (.iaload) 1 113 := ⟨by decide +kernel, rfl⟩
theorem dX9_tell_113 : Dd mX9_tell.2.1 113 (.aload_n 0) 1 114 := ⟨by decide +kernel, rfl⟩
theorem dX9_tell_114 : Dd mX9_tell.2.1 114 (.getfield 37) 3 117 := ⟨by decide +kernel, rfl⟩
theorem dX9_tell_117 : Dd mX9_tell.2.1 117 (.iconst 1) 1 118 := ⟨by decide +kernel, rfl⟩
theorem dX9_tell_118 : Dd mX9_tell.2.1 118 (.iaload) 1 119 := ⟨by decide +kernel, rfl⟩
theorem dX9_tell_119 : Dd mX9_tell.2.1 119 (.aload_n 0) 1 120 := ⟨by decide +kernel, rfl⟩
theorem dX9_tell_120 : Dd mX9_tell.2.1 120 (.getfield 37) 3 123 := ⟨by decide +kernel, rfl⟩
theorem dX9_tell_123 : Dd mX9_tell.2.1 123 (.iconst 2) 1 124 := ⟨by decide +kernel, rfl⟩
theorem dX9_tell_124 : Dd mX9_tell.2.1 124 (.iaload) 1 125 := ⟨by decide +kernel, rfl⟩
theorem dX9_tell_125 : Dd mX9_tell.2.1 125 (.aload_n 0) 1 126 := ⟨by decide +kernel, rfl⟩
theorem dX9_tell_126 : Dd mX9_tell.2.1 126 (.getfield 37) 3 129 := ⟨by decide +kernel, rfl⟩
theorem dX9_tell_129 : Dd mX9_tell.2.1 129 (.iconst 3) 1 130 := ⟨by decide +kernel, rfl⟩
theorem dX9_tell_130 : Dd mX9_tell.2.1 130 (.iaload) 1 131 := ⟨by decide +kernel, rfl⟩
theorem dX9_tell_131 : Dd mX9_tell.2.1 131 (.invokevirtual 67) 3 134 := ⟨by decide +kernel, rfl⟩
theorem dX9_tell_134 : Dd mX9_tell.2.1 134 (.return_) 1 135 := ⟨by decide +kernel, rfl⟩
theorem dX9_lay_0 : Dd mX9_lay.2.1 0 (.aload_n 0) 1 1 := ⟨by decide +kernel, rfl⟩
theorem dX9_lay_1 : Dd mX9_lay.2.1 1 (.invokevirtual 160) 3 4 := ⟨by decide +kernel, rfl⟩
theorem dX9_lay_4 : Dd mX9_lay.2.1 4 (.bipush (-4)) 2 6 := ⟨by decide +kernel, rfl⟩
theorem dX9_lay_6 : Dd mX9_lay.2.1 6 (.if_icmp .ne 17) 3 9 := ⟨by decide +kernel, rfl⟩
theorem dX9_lay_9 : Dd mX9_lay.2.1 9 (.aload_n 0) 1 10 := ⟨by decide +kernel, rfl⟩
theorem dX9_lay_10 : Dd mX9_lay.2.1 10 (.getfield 129) 3 13 := ⟨by decide +kernel, rfl⟩
theorem dX9_lay_13 : Dd mX9_lay.2.1 13 (.ifCond .eq 10) 3 16 := ⟨by decide +kernel, rfl⟩
theorem dX9_lay_16 : Dd mX9_lay.2.1 16 (.aload_n 0) 1 17 := ⟨by decide +kernel, rfl⟩
theorem dX9_lay_17 : Dd mX9_lay.2.1 17 (.getfield 141) 3 20 := ⟨by decide +kernel, rfl⟩
theorem dX9_lay_20 : Dd mX9_lay.2.1 20 (.ifCond .ne 6) 3 23 := ⟨by decide +kernel, rfl⟩
theorem dX9_lay_23 : Dd mX9_lay.2.1 23 (.bipush (-2)) 2 25 := ⟨by decide +kernel, rfl⟩
theorem dX9_lay_25 : Dd mX9_lay.2.1 25 (.ireturn) 1 26 := ⟨by decide +kernel, rfl⟩
theorem dX9_lay_26 : Dd mX9_lay.2.1 26 (.aload_n 0) 1 27 := ⟨by decide +kernel, rfl⟩
theorem dX9_lay_27 : Dd mX9_lay.2.1 27 (.iconst 0) 1 28 := ⟨by decide +kernel, rfl⟩
theorem dX9_lay_28 : Dd mX9_lay.2.1 28 (.putfield 74) 3 31 := ⟨by decide +kernel, rfl⟩
theorem dX9_lay_31 : Dd mX9_lay.2.1 31 (.aload_n 0) 1 32 := ⟨by decide +kernel, rfl⟩
theorem dX9_lay_32 : Dd mX9_lay.2.1 32 (.iconst 0) 1 33 := ⟨by decide +kernel, rfl⟩
theorem dX9_lay_33 : Dd mX9_lay.2.1 33 (.putfield 78) 3 36 := ⟨by decide +kernel, rfl⟩
theorem dX9_lay_36 : Dd mX9_lay.2.1 36 (.aload_n 0) 1 37 := ⟨by decide +kernel, rfl⟩
theorem dX9_lay_37 : Dd mX9_lay.2.1 37 (.iconst 0) 1 38 := ⟨by decide +kernel, rfl⟩
theorem dX9_lay_38 : Dd mX9_lay.2.1 38 (.putfield 81) 3 41 := ⟨by decide +kernel, rfl⟩
theorem dX9_lay_41 : Dd mX9_lay.2.1 41 (.aload_n 0) 1 42 := ⟨by decide +kernel, rfl⟩
theorem dX9_lay_42 : Dd mX9_lay.2.1 42 (.iconst 0) 1 43 := ⟨by decide +kernel, rfl⟩
theorem dX9_lay_43 : Dd mX9_lay.2.1 43 (.putfield 84) 3 46 := ⟨by decide +kernel, rfl⟩
theorem dX9_lay_46 : Dd mX9_lay.2.1 46 (.aload_n 0) 1 47 := ⟨by decide +kernel, rfl⟩
theorem dX9_lay_47 : Dd mX9_lay.2.1 47 (.iconst 0) 1 48 := ⟨by decide +kernel, rfl⟩
theorem dX9_lay_48 : Dd mX9_lay.2.1 48 (.putfield 87) 3 51 := ⟨by decide +kernel, rfl⟩
theorem dX9_lay_51 : Dd mX9_lay.2.1 51 (.aload_n 0) 1 52 := ⟨by decide +kernel, rfl⟩
theorem dX9_lay_52 : Dd mX9_lay.2.1 52 (.invokevirtual 153) 3 55 := ⟨by decide +kernel, rfl⟩
theorem dX9_lay_55 : Dd mX9_lay.2.1 55 (.aload_n 0) 1 56 := ⟨by decide +kernel, rfl⟩
theorem dX9_lay_56 : Dd mX9_lay.2.1 56 (.getfield 111) 3 59 := ⟨by decide +kernel, rfl⟩
theorem dX9_lay_59 : Dd mX9_lay.2.1 59 (.aload_n 0) 1 60 := ⟨by decide +kernel, rfl⟩
theorem dX9_lay_60 : Dd mX9_lay.2.1 60 (.getfield 104) 3 63 := ⟨by decide +kernel, rfl⟩
theorem dX9_lay_63 : Dd mX9_lay.2.1 63 (.if_icmp .ge 14) 3 66 := ⟨by decide +kernel, rfl⟩
theorem dX9_lay_66 : Dd mX9_lay.2.1 66 (.aload_n 0) 1 67 := ⟨by decide +kernel, rfl⟩
theorem dX9_lay_67 : Dd mX9_lay.2.1 67 (.aload_n 0) 1 68 := ⟨by decide +kernel, rfl⟩
theorem dX9_lay_68 : Dd mX9_lay.2.1 68 (.invokevirtual 156) 3 71 := ⟨by decide +kernel, rfl⟩
theorem dX9_lay_71 : Dd mX9_lay.2.1 71 (.invokevirtual 163) 3 74 := ⟨by decide +kernel, rfl⟩
theorem dX9_lay_74 : Dd mX9_lay.2.1 74 (.goto (-19)) 3 77 := ⟨by decide +kernel, rfl⟩
theorem dX9_lay_77 : Dd mX9_lay.2.1 77 (.aload_n 0) 1 78 := ⟨by decide +kernel, rfl⟩
theorem dX9_lay_78 : Dd mX9_lay.2.1 78 (.invokevirtual 71) 3 81 := ⟨by decide +kernel, rfl⟩
theorem dX9_lay_81 : Dd mX9_lay.2.1 81 (.aload_n 0) 1 82 := ⟨by decide +kernel, rfl⟩
theorem dX9_lay_82 : Dd mX9_lay.2.1 82 (.getfield 74) 3 85 := ⟨by decide +kernel, rfl⟩
theorem dX9_lay_85 : Dd mX9_lay.2.1 85 (.ireturn) 1 86 := ⟨by decide +kernel, rfl⟩
theorem dX9_isThing_0 : Dd mX9_isThing.2.1 0 (.iload_n 1) 1 1 := ⟨by decide +kernel, rfl⟩
theorem dX9_isThing_1 : Dd mX9_isThing.2.1 1 (.i2l) 1 2 := ⟨by decide +kernel, rfl⟩
theorem dX9_isThing_2 : Dd mX9_isThing.2.1 2 (.lconst 0) 1 3 := ⟨by decide +kernel, rfl⟩
theorem dX9_isThing_3 : Dd mX9_isThing.2.1 3 (.aload_n 0) 1 4 := ⟨by decide +kernel, rfl⟩
theorem dX9_isThing_4 : Dd mX9_isThing.2.1 4 (.getfield 74) 3 7 := ⟨by decide +kernel, rfl⟩
theorem dX9_isThing_7 : Dd mX9_isThing.2.1 7 (.iconst 1) 1 8 := ⟨by decide +kernel, rfl⟩
theorem dX9_isThing_8 : Dd mX9_isThing.2.1 8 (.isub) 1 9 := ⟨by decide +kernel, rfl⟩
theorem dX9_isThing_9 : Dd mX9_isThing.2.1 9 (.i2l) 1 10 := ⟨by decide +kernel, rfl⟩
theorem dX9_isThing_10 : Dd mX9_isThing.2.1 10 (.invokestatic 100) 3 13 := ⟨by decide +kernel, rfl⟩
theorem dX9_isThing_13 : Dd mX9_isThing.2.1 13 (.ireturn) 1 14 := ⟨by decide +kernel, rfl⟩
theorem dX9_isBeast_0 : Dd mX9_isBeast.2.1 0 (.iload_n 1) 1 1 := ⟨by decide +kernel, rfl⟩
theorem dX9_isBeast_1 : Dd mX9_isBeast.2.1 1 (.i2l) 1 2 := ⟨by decide +kernel, rfl⟩
theorem dX9_isBeast_2 : Dd mX9_isBeast.2.1 2 (.lconst 0) 1 3 := ⟨by decide +kernel, rfl⟩
theorem dX9_isBeast_3 : Dd mX9_isBeast.2.1 3 (.aload_n 0) 1 4 := ⟨by decide +kernel, rfl⟩
theorem dX9_isBeast_4 : Dd mX9_isBeast.2.1 4 (.getfield 84) 3 7 := ⟨by decide +kernel, rfl⟩
theorem dX9_isBeast_7 : Dd mX9_isBeast.2.1 7 (.iconst 1) 1 8 := ⟨by decide +kernel, rfl⟩
theorem dX9_isBeast_8 : Dd mX9_isBeast.2.1 8 (.isub) 1 9 := ⟨by decide +kernel, rfl⟩
theorem dX9_isBeast_9 : Dd mX9_isBeast.2.1 9 (.i2l) 1 10 := ⟨by decide +kernel, rfl⟩
theorem dX9_isBeast_10 : Dd mX9_isBeast.2.1 10 (.invokestatic 100) 3 13 := ⟨by decide +kernel, rfl⟩
theorem dX9_isBeast_13 : Dd mX9_isBeast.2.1 13 (.ireturn) 1 14 := ⟨by decide +kernel, rfl⟩
theorem dX9_isSet_0 : Dd mX9_isSet.2.1 0 (.iload_n 1) 1 1 := ⟨by decide +kernel, rfl⟩
theorem dX9_isSet_1 : Dd mX9_isSet.2.1 1 (.i2l) 1 2 := ⟨by decide +kernel, rfl⟩
theorem dX9_isSet_2 : Dd mX9_isSet.2.1 2 (.lconst 0) 1 3 := ⟨by decide +kernel, rfl⟩
theorem dX9_isSet_3 : Dd mX9_isSet.2.1 3 (.iconst 1) 1 4 := ⟨by decide +kernel, rfl⟩
theorem dX9_isSet_4 : Dd mX9_isSet.2.1 4 (.aload_n 0) 1 5 := ⟨by decide +kernel, rfl⟩
theorem dX9_isSet_5 : Dd mX9_isSet.2.1 5 (.getfield 74) 3 8 := ⟨by decide +kernel, rfl⟩
theorem dX9_isSet_8 : Dd mX9_isSet.2.1 8 (.ishl) 1 9 := ⟨by decide +kernel, rfl⟩
theorem dX9_isSet_9 : Dd mX9_isSet.2.1 9 (.iconst 1) 1 10 := ⟨by decide +kernel, rfl⟩
theorem dX9_isSet_10 : Dd mX9_isSet.2.1 10 (.isub) 1 11 := ⟨by decide +kernel, rfl⟩
theorem dX9_isSet_11 : Dd mX9_isSet.2.1 11 (.i2l) 1 12 := ⟨by decide +kernel, rfl⟩
theorem dX9_isSet_12 : Dd mX9_isSet.2.1 12 (.invokestatic 100) 3 15 := ⟨by decide +kernel, rfl⟩
theorem dX9_isSet_15 : Dd mX9_isSet.2.1 15 (.ireturn) 1 16 := ⟨by decide +kernel, rfl⟩
theorem dX9_strengthOf_0 : Dd mX9_strengthOf.2.1 0 (.iconst 0) 1 1 := ⟨by decide +kernel, rfl⟩
theorem dX9_strengthOf_1 : Dd mX9_strengthOf.2.1 1 (.istore_n 2) 1 2 := ⟨by decide +kernel, rfl⟩
theorem dX9_strengthOf_2 : Dd mX9_strengthOf.2.1 2 (.iconst 0) 1 3 := ⟨by decide +kernel, rfl⟩
theorem dX9_strengthOf_3 : Dd mX9_strengthOf.2.1 3 (.istore_n 3) 1 4 := ⟨by decide +kernel, rfl⟩
theorem dX9_strengthOf_4 : Dd mX9_strengthOf.2.1 4 (.iconst 0) 1 5 := ⟨by decide +kernel, rfl⟩
theorem dX9_strengthOf_5 : Dd mX9_strengthOf.2.1 5 (.istore 4) 2 7 := ⟨by decide +kernel, rfl⟩
theorem dX9_strengthOf_7 : Dd mX9_strengthOf.2.1 7 (.iconst 0) 1 8 := ⟨by decide +kernel, rfl⟩
theorem dX9_strengthOf_8 : Dd mX9_strengthOf.2.1 8 (.istore 5) 2 10 := ⟨by decide +kernel, rfl⟩
theorem dX9_strengthOf_10 : Dd mX9_strengthOf.2.1 10 (.iload 5) 2 12 := ⟨by decide +kernel, rfl⟩
theorem dX9_strengthOf_12 : Dd mX9_strengthOf.2.1 12 (.aload_n 0) 1 13 := ⟨by decide +kernel, rfl⟩
theorem dX9_strengthOf_13 : Dd mX9_strengthOf.2.1 13 (.getfield 74) 3 16 := ⟨by decide +kernel, rfl⟩
theorem dX9_strengthOf_16 : Dd mX9_strengthOf.2.1 16 (.if_icmp .ge 92) 3 19 := ⟨by decide +kernel, rfl⟩
theorem dX9_strengthOf_19 : Dd mX9_strengthOf.2.1 19 (.iload_n 1) 1 20 := ⟨by decide +kernel, rfl⟩
theorem dX9_strengthOf_20 : Dd mX9_strengthOf.2.1 20 (.iload 5) 2 22 := ⟨by decide +kernel, rfl⟩
theorem dX9_strengthOf_22 : Dd mX9_strengthOf.2.1 22 (.invokestatic 166) 3 25 := ⟨by decide +kernel, rfl⟩
theorem dX9_strengthOf_25 : Dd mX9_strengthOf.2.1 25 (.istore 6) 2 27 := ⟨by decide +kernel, rfl⟩
theorem dX9_strengthOf_27 : Dd mX9_strengthOf.2.1 27 (.iload_n 2) 1 28 := ⟨by decide +kernel, rfl⟩
theorem dX9_strengthOf_28 : Dd mX9_strengthOf.2.1 28 (.iload 6) 2 30 := ⟨by decide +kernel, rfl⟩
theorem dX9_strengthOf_30 : Dd mX9_strengthOf.2.1 30 (.ifCond .eq 13) 3 33 := ⟨by decide +kernel, rfl⟩
theorem dX9_strengthOf_33 : Dd mX9_strengthOf.2.1 33 (.aload_n 0) 1 34 := ⟨by decide +kernel, rfl⟩
theorem dX9_strengthOf_34 : Dd mX9_strengthOf.2.1 34 (.getfield 16) 3 37 := ⟨by decide +kernel, rfl⟩
theorem dX9_strengthOf_37 : Dd mX9_strengthOf.2.1 37 (.iload 5) 2 39 := ⟨by decide +kernel, rfl⟩
theorem dX9_strengthOf_39 : Dd mX9_strengthOf.2.1 39 (.iaload) 1 40 := ⟨by decide +kernel, rfl⟩
theorem dX9_strengthOf_40 : Dd mX9_strengthOf.2.1 40 (.goto 4) 3 43 := ⟨by decide +kernel, rfl⟩
theorem dX9_strengthOf_43 : Dd mX9_strengthOf.2.1 43 (.iconst 0) 1 44 := ⟨by decide +kernel, rfl⟩
theorem dX9_strengthOf_44 : Dd mX9_strengthOf.2.1 44 (.iadd) 1 45 := ⟨by decide +kernel, rfl⟩
theorem dX9_strengthOf_45 : Dd mX9_strengthOf.2.1 45 (.istore_n 2) 1 46 := ⟨by decide +kernel, rfl⟩
theorem dX9_strengthOf_46 : Dd mX9_strengthOf.2.1 46 (.iload_n 3) 1 47 := ⟨by decide +kernel, rfl⟩
theorem dX9_strengthOf_47 : Dd mX9_strengthOf.2.1 47 (.iload 6) 2 49 := ⟨by decide +kernel, rfl⟩
theorem dX9_strengthOf_49 : Dd mX9_strengthOf.2.1 49 (.ifCond .eq 18) 3 52 := ⟨by decide +kernel, rfl⟩
theorem dX9_strengthOf_52 : Dd mX9_strengthOf.2.1 52 (.aload_n 0) 1 53 := ⟨by decide +kernel, rfl⟩
theorem dX9_strengthOf_53 : Dd mX9_strengthOf.2.1 53 (.getfield 19) 3 56 := ⟨by decide +kernel, rfl⟩
theorem dX9_strengthOf_56 : Dd mX9_strengthOf.2.1 56 (.iload 5) 2 58 := ⟨by decide +kernel, rfl⟩
theorem dX9_strengthOf_58 : Dd mX9_strengthOf.2.1 58 (.iaload) 1 59 := ⟨by decide +kernel, rfl⟩
theorem dX9_strengthOf_59 : Dd mX9_strengthOf.2.1 59 (.iconst 1) 1 60 := ⟨by decide +kernel, rfl⟩
theorem dX9_strengthOf_60 : Dd mX9_strengthOf.2.1 60 (.if_icmp .ne 7) 3 63 := ⟨by decide +kernel, rfl⟩
theorem dX9_strengthOf_63 : Dd mX9_strengthOf.2.1 63 (.iconst 1) 1 64 := ⟨by decide +kernel, rfl⟩
theorem dX9_strengthOf_64 : Dd mX9_strengthOf.2.1 64 (.goto 4) 3 67 := ⟨by decide +kernel, rfl⟩
theorem dX9_strengthOf_67 : Dd mX9_strengthOf.2.1 67 (.iconst 0) 1 68 := ⟨by decide +kernel, rfl⟩
theorem dX9_strengthOf_68 : Dd mX9_strengthOf.2.1 68 (.iadd) 1 69 := ⟨by decide +kernel, rfl⟩
theorem dX9_strengthOf_69 : Dd mX9_strengthOf.2.1 69 (.istore_n 3) 1 70 := ⟨by decide +kernel, rfl⟩
theorem dX9_strengthOf_70 : Dd mX9_strengthOf.2.1 70 (.iload 4) 2 72 := ⟨by decide +kernel, rfl⟩
theorem dX9_strengthOf_72 : Dd mX9_strengthOf.2.1 72 (.iload 6) 2 74 := ⟨by decide +kernel, rfl⟩
theorem dX9_strengthOf_74 : Dd mX9_strengthOf.2.1 74 (.ifCond .eq 24) 3 77 := ⟨by decide +kernel, rfl⟩
theorem dX9_strengthOf_77 : Dd mX9_strengthOf.2.1 77 (.aload_n 0) 1 78 := ⟨by decide +kernel, rfl⟩
theorem dX9_strengthOf_78 : Dd mX9_strengthOf.2.1 78 (.getfield 19) 3 81 := ⟨by decide +kernel, rfl⟩
theorem dX9_strengthOf_81 : Dd mX9_strengthOf.2.1 81 (.iload 5) 2 83 := ⟨by decide +kernel, rfl⟩
theorem dX9_strengthOf_83 : Dd mX9_strengthOf.2.1 83 (.iaload) 1 84 := ⟨by decide +kernel, rfl⟩
theorem dX9_strengthOf_84 : Dd mX9_strengthOf.2.1 84 (.iconst 1) 1 85 := ⟨by decide +kernel, rfl⟩
theorem dX9_strengthOf_85 : Dd mX9_strengthOf.2.1 85 (.if_icmp .ne 13) 3 88 := ⟨by decide +kernel, rfl⟩
theorem dX9_strengthOf_88 : Dd mX9_strengthOf.2.1 88 (.aload_n 0) 1 89 := ⟨by decide +kernel, rfl⟩
theorem dX9_strengthOf_89 : Dd mX9_strengthOf.2.1 89 (.getfield 16) 3 92 := ⟨by decide +kernel, rfl⟩
theorem dX9_strengthOf_92 : Dd mX9_strengthOf.2.1 92 (.iload 5) 2 94 := ⟨by decide +kernel, rfl⟩
theorem dX9_strengthOf_94 : Dd mX9_strengthOf.2.1 94 (.iaload) 1 95 := ⟨by decide +kernel, rfl⟩
theorem dX9_strengthOf_95 : Dd mX9_strengthOf.2.1 95 (.goto 4) 3 98 := ⟨by decide +kernel, rfl⟩
theorem dX9_strengthOf_98 : Dd mX9_strengthOf.2.1 98 (.iconst 0) 1 99 := ⟨by decide +kernel, rfl⟩
theorem dX9_strengthOf_99 : Dd mX9_strengthOf.2.1 99 (.iadd) 1 100 := ⟨by decide +kernel, rfl⟩
theorem dX9_strengthOf_100 : Dd mX9_strengthOf.2.1 100 (.istore 4) 2 102 := ⟨by decide +kernel, rfl⟩
theorem dX9_strengthOf_102 : Dd mX9_strengthOf.2.1 102 (.iinc 5 1) 3 105 := ⟨by decide +kernel, rfl⟩
theorem dX9_strengthOf_105 : Dd mX9_strengthOf.2.1 105 (.goto (-95)) 3 108 := ⟨by decide +kernel, rfl⟩
theorem dX9_strengthOf_108 : Dd mX9_strengthOf.2.1 108 (.iload_n 2) 1 109 := ⟨by decide +kernel, rfl⟩
theorem dX9_strengthOf_109 : Dd mX9_strengthOf.2.1 109 (.iload_n 3) 1 110 := ⟨by decide +kernel, rfl⟩
theorem dX9_strengthOf_110 : Dd mX9_strengthOf.2.1 110 (.iconst 1) 1 111 := ⟨by decide +kernel, rfl⟩
theorem dX9_strengthOf_111 : Dd mX9_strengthOf.2.1 111 (.if_icmp .le 8) 3 114 := ⟨by decide +kernel, rfl⟩
theorem dX9_strengthOf_114 : Dd mX9_strengthOf.2.1 114 (.iload 4) 2 116 := ⟨by decide +kernel, rfl⟩
theorem dX9_strengthOf_116 : Dd mX9_strengthOf.2.1 116 (.goto 4) 3 119 := ⟨by decide +kernel, rfl⟩
theorem dX9_strengthOf_119 : Dd mX9_strengthOf.2.1 119 (.iconst 0) 1 120 := ⟨by decide +kernel, rfl⟩
theorem dX9_strengthOf_120 : Dd mX9_strengthOf.2.1 120 (.iadd) 1 121 := ⟨by decide +kernel, rfl⟩
theorem dX9_strengthOf_121 : Dd mX9_strengthOf.2.1 121 (.ireturn) 1 122 := ⟨by decide +kernel, rfl⟩
theorem dX9_followsOf_0 : Dd mX9_followsOf.2.1 0 (.iload_n 1) 1 1 := ⟨by decide +kernel, rfl⟩
theorem dX9_followsOf_1 : Dd mX9_followsOf.2.1 1 (.istore_n 2) 1 2 := ⟨by decide +kernel, rfl⟩
theorem dX9_followsOf_2 : Dd mX9_followsOf.2.1 2 (.iconst 0) 1 3 := ⟨by decide +kernel, rfl⟩
theorem dX9_followsOf_3 : Dd mX9_followsOf.2.1 3 (.istore_n 3) 1 4 := ⟨by decide +kernel, rfl⟩
theorem dX9_followsOf_4 : Dd mX9_followsOf.2.1 4 (.iload_n 2) 1 5 := ⟨by decide +kernel, rfl⟩
theorem dX9_followsOf_5 : Dd mX9_followsOf.2.1 5 (.iload_n 3) 1 6 := ⟨by decide +kernel, rfl⟩
theorem dX9_followsOf_6 : Dd mX9_followsOf.2.1 6 (.if_icmp .eq 49) 3 9 := ⟨by decide +kernel, rfl⟩
theorem dX9_followsOf_9 : Dd mX9_followsOf.2.1 9 (.iload_n 2) 1 10 := ⟨by decide +kernel, rfl⟩
theorem dX9_followsOf_10 : Dd mX9_followsOf.2.1 10 (.istore_n 3) 1 11 := ⟨by decide +kernel, rfl⟩
theorem dX9_followsOf_11 : Dd mX9_followsOf.2.1 11 (.iconst 0) 1 12 := ⟨by decide +kernel, rfl⟩
theorem dX9_followsOf_12 : Dd mX9_followsOf.2.1 12 (.istore 4) 2 14 := ⟨by decide +kernel, rfl⟩
theorem dX9_followsOf_14 : Dd mX9_followsOf.2.1 14 (.iload 4) 2 16 := ⟨by decide +kernel, rfl⟩
theorem dX9_followsOf_16 : Dd mX9_followsOf.2.1 16 (.aload_n 0) 1 17 := ⟨by decide +kernel, rfl⟩
theorem dX9_followsOf_17 : Dd mX9_followsOf.2.1 17 (.getfield 74) 3 20 := ⟨by decide +kernel, rfl⟩
theorem dX9_followsOf_20 : Dd mX9_followsOf.2.1 20 (.if_icmp .ge 32) 3 23 := ⟨by decide +kernel, rfl⟩
theorem dX9_followsOf_23 : Dd mX9_followsOf.2.1 23 (.iload_n 2) 1 24 := ⟨by decide +kernel, rfl⟩
theorem dX9_followsOf_24 : Dd mX9_followsOf.2.1 24 (.iload_n 3) 1 25 := ⟨by decide +kernel, rfl⟩
theorem dX9_followsOf_25 : Dd mX9_followsOf.2.1 25 (.iload 4) 2 27 := ⟨by decide +kernel, rfl⟩
theorem dX9_followsOf_27 : Dd mX9_followsOf.2.1 27 (.invokestatic 166) 3 30 := ⟨by decide +kernel, rfl⟩
theorem dX9_followsOf_30 : Dd mX9_followsOf.2.1 30 (.ifCond .eq 13) 3 33 := ⟨by decide +kernel, rfl⟩
theorem dX9_followsOf_33 : Dd mX9_followsOf.2.1 33 (.aload_n 0) 1 34 := ⟨by decide +kernel, rfl⟩
theorem dX9_followsOf_34 : Dd mX9_followsOf.2.1 34 (.getfield 22) 3 37 := ⟨by decide +kernel, rfl⟩
theorem dX9_followsOf_37 : Dd mX9_followsOf.2.1 37 (.iload 4) 2 39 := ⟨by decide +kernel, rfl⟩
theorem dX9_followsOf_39 : Dd mX9_followsOf.2.1 39 (.iaload) 1 40 := ⟨by decide +kernel, rfl⟩
theorem dX9_followsOf_40 : Dd mX9_followsOf.2.1 40 (.goto 4) 3 43 := ⟨by decide +kernel, rfl⟩
theorem dX9_followsOf_43 : Dd mX9_followsOf.2.1 43 (.iconst 0) 1 44 := ⟨by decide +kernel, rfl⟩
theorem dX9_followsOf_44 : Dd mX9_followsOf.2.1 44 (.ior) 1 45 := ⟨by decide +kernel, rfl⟩
theorem dX9_followsOf_45 : Dd mX9_followsOf.2.1 45 (.istore_n 2) 1 46 := ⟨by decide +kernel, rfl⟩
theorem dX9_followsOf_46 : Dd mX9_followsOf.2.1 46 (.iinc 4 1) 3 49 := ⟨by decide +kernel, rfl⟩
theorem dX9_followsOf_49 : Dd mX9_followsOf.2.1 49 (.goto (-35)) 3 52 := ⟨by decide +kernel, rfl⟩
theorem dX9_followsOf_52 : Dd mX9_followsOf.2.1 52 (.goto (-48)) 3 55 := ⟨by decide +kernel, rfl⟩
theorem dX9_followsOf_55 : Dd mX9_followsOf.2.1 55 (.iload_n 2) 1 56 := ⟨by decide +kernel, rfl⟩
theorem dX9_followsOf_56 : Dd mX9_followsOf.2.1 56 (.ireturn) 1 57 := ⟨by decide +kernel, rfl⟩
theorem dX9_goneIn_0 : Dd mX9_goneIn.2.1 0 (.iconst 0) 1 1 := ⟨by decide +kernel, rfl⟩
theorem dX9_goneIn_1 : Dd mX9_goneIn.2.1 1 (.istore_n 2) 1 2 := ⟨by decide +kernel, rfl⟩
theorem dX9_goneIn_2 : Dd mX9_goneIn.2.1 2 (.iconst 0) 1 3 := ⟨by decide +kernel, rfl⟩
theorem dX9_goneIn_3 : Dd mX9_goneIn.2.1 3 (.istore_n 3) 1 4 := ⟨by decide +kernel, rfl⟩
theorem dX9_goneIn_4 : Dd mX9_goneIn.2.1 4 (.iload_n 3) 1 5 := ⟨by decide +kernel, rfl⟩
theorem dX9_goneIn_5 : Dd mX9_goneIn.2.1 5 (.aload_n 0) 1 6 := ⟨by decide +kernel, rfl⟩
theorem dX9_goneIn_6 : Dd mX9_goneIn.2.1 6 (.getfield 84) 3 9 := ⟨by decide +kernel, rfl⟩
theorem dX9_goneIn_9 : Dd mX9_goneIn.2.1 9 (.if_icmp .ge 22) 3 12 := ⟨by decide +kernel, rfl⟩
theorem dX9_goneIn_12 : Dd mX9_goneIn.2.1 12 (.iload_n 2) 1 13 := ⟨by decide +kernel, rfl⟩
theorem dX9_goneIn_13 : Dd mX9_goneIn.2.1 13 (.aload_n 0) 1 14 := ⟨by decide +kernel, rfl⟩
theorem dX9_goneIn_14 : Dd mX9_goneIn.2.1 14 (.getfield 7) 3 17 := ⟨by decide +kernel, rfl⟩
theorem dX9_goneIn_17 : Dd mX9_goneIn.2.1 17 (.iload_n 1) 1 18 := ⟨by decide +kernel, rfl⟩
theorem dX9_goneIn_18 : Dd mX9_goneIn.2.1 18 (.iconst 0) 1 19 := ⟨by decide +kernel, rfl⟩
theorem dX9_goneIn_19 : Dd mX9_goneIn.2.1 19 (.iadd) 1 20 := ⟨by decide +kernel, rfl⟩
theorem dX9_goneIn_20 : Dd mX9_goneIn.2.1 20 (.iload_n 3) 1 21 := ⟨by decide +kernel, rfl⟩
theorem dX9_goneIn_21 : Dd mX9_goneIn.2.1 21 (.iadd) 1 22 := ⟨by decide +kernel, rfl⟩
theorem dX9_goneIn_22 : Dd mX9_goneIn.2.1 22 (.iaload) 1 23 := ⟨by decide +kernel, rfl⟩
theorem dX9_goneIn_23 : Dd mX9_goneIn.2.1 23 (.ior) 1 24 := ⟨by decide +kernel, rfl⟩
theorem dX9_goneIn_24 : Dd mX9_goneIn.2.1 24 (.istore_n 2) 1 25 := ⟨by decide +kernel, rfl⟩
theorem dX9_goneIn_25 : Dd mX9_goneIn.2.1 25 (.iinc 3 1) 3 28 := ⟨by decide +kernel, rfl⟩
theorem dX9_goneIn_28 : Dd mX9_goneIn.2.1 28 (.goto (-24)) 3 31 := ⟨by decide +kernel, rfl⟩
theorem dX9_goneIn_31 : Dd mX9_goneIn.2.1 31 (.iload_n 2) 1 32 := ⟨by decide +kernel, rfl⟩
theorem dX9_goneIn_32 : Dd mX9_goneIn.2.1 32 (.ireturn) 1 33 := ⟨by decide +kernel, rfl⟩
theorem dX9_thereIn_0 : Dd mX9_thereIn.2.1 0 (.iconst 1) 1 1 := ⟨by decide +kernel, rfl⟩
theorem dX9_thereIn_1 : Dd mX9_thereIn.2.1 1 (.aload_n 0) 1 2 := ⟨by decide +kernel, rfl⟩
theorem dX9_thereIn_2 : Dd mX9_thereIn.2.1 2 (.getfield 74) 3 5 := ⟨by decide +kernel, rfl⟩
theorem dX9_thereIn_5 : Dd mX9_thereIn.2.1 5 (.ishl) 1 6 := ⟨by decide +kernel, rfl⟩
theorem dX9_thereIn_6 : Dd mX9_thereIn.2.1 6 (.iconst 1) 1 7 := ⟨by decide +kernel, rfl⟩
theorem dX9_thereIn_7 : Dd mX9_thereIn.2.1 7 (.isub) 1 8 := ⟨by decide +kernel, rfl⟩
theorem dX9_thereIn_8 : Dd mX9_thereIn.2.1 8 (.aload_n 0) 1 9 := ⟨by decide +kernel, rfl⟩
theorem dX9_thereIn_9 : Dd mX9_thereIn.2.1 9 (.aload_n 0) 1 10 := ⟨by decide +kernel, rfl⟩
theorem dX9_thereIn_10 : Dd mX9_thereIn.2.1 10 (.iload_n 1) 1 11 := ⟨by decide +kernel, rfl⟩
theorem dX9_thereIn_11 : Dd mX9_thereIn.2.1 11 (.invokevirtual 170) 3 14 := ⟨by decide +kernel, rfl⟩
theorem dX9_thereIn_14 : Dd mX9_thereIn.2.1 14 (.invokevirtual 174) 3 17 := ⟨by decide +kernel, rfl⟩
theorem dX9_thereIn_17 : Dd mX9_thereIn.2.1 17 (.iconst (-1)) 1 18 := ⟨by decide +kernel, rfl⟩
theorem dX9_thereIn_18 : Dd mX9_thereIn.2.1 18 (.ixor) 1 19 := ⟨by decide +kernel, rfl⟩
theorem dX9_thereIn_19 : Dd mX9_thereIn.2.1 19 (.iand) 1 20 := ⟨by decide +kernel, rfl⟩
theorem dX9_thereIn_20 : Dd mX9_thereIn.2.1 20 (.ireturn) 1 21 := ⟨by decide +kernel, rfl⟩
theorem dX9_lateSet_0 : Dd mX9_lateSet.2.1 0 (.iconst 0) 1 1 := ⟨by decide +kernel, rfl⟩
theorem dX9_lateSet_1 : Dd mX9_lateSet.2.1 1 (.istore_n 1) 1 2 := ⟨by decide +kernel, rfl⟩
theorem dX9_lateSet_2 : Dd mX9_lateSet.2.1 2 (.iconst 0) 1 3 := ⟨by decide +kernel, rfl⟩
theorem dX9_lateSet_3 : Dd mX9_lateSet.2.1 3 (.istore_n 2) 1 4 := ⟨by decide +kernel, rfl⟩
theorem dX9_lateSet_4 : Dd mX9_lateSet.2.1 4 (.iload_n 2) 1 5 := ⟨by decide +kernel, rfl⟩
theorem dX9_lateSet_5 : Dd mX9_lateSet.2.1 5 (.aload_n 0) 1 6 := ⟨by decide +kernel, rfl⟩
theorem dX9_lateSet_6 : Dd mX9_lateSet.2.1 6 (.getfield 74) 3 9 := ⟨by decide +kernel, rfl⟩
theorem dX9_lateSet_9 : Dd mX9_lateSet.2.1 9 (.if_icmp .ge 29) 3 12 := ⟨by decide +kernel, rfl⟩
theorem dX9_lateSet_12 : Dd mX9_lateSet.2.1 12 (.iload_n 1) 1 13 := ⟨by decide +kernel, rfl⟩
theorem dX9_lateSet_13 : Dd mX9_lateSet.2.1 13 (.aload_n 0) 1 14 := ⟨by decide +kernel, rfl⟩
theorem dX9_lateSet_14 : Dd mX9_lateSet.2.1 14 (.getfield 19) 3 17 := ⟨by decide +kernel, rfl⟩
theorem dX9_lateSet_17 : Dd mX9_lateSet.2.1 17 (.iload_n 2) 1 18 := ⟨by decide +kernel, rfl⟩
theorem dX9_lateSet_18 : Dd mX9_lateSet.2.1 18 (.iaload) 1 19 := ⟨by decide +kernel, rfl⟩
theorem dX9_lateSet_19 : Dd mX9_lateSet.2.1 19 (.iconst 3) 1 20 := ⟨by decide +kernel, rfl⟩
theorem dX9_lateSet_20 : Dd mX9_lateSet.2.1 20 (.if_icmp .ne 9) 3 23 := ⟨by decide +kernel, rfl⟩
theorem dX9_lateSet_23 : Dd mX9_lateSet.2.1 23 (.iconst 1) 1 24 := ⟨by decide +kernel, rfl⟩
theorem dX9_lateSet_24 : Dd mX9_lateSet.2.1 24 (.iload_n 2) 1 25 := ⟨by decide +kernel, rfl⟩
theorem dX9_lateSet_25 : Dd mX9_lateSet.2.1 25 (.ishl) 1 26 := ⟨by decide +kernel, rfl⟩
theorem dX9_lateSet_26 : Dd mX9_lateSet.2.1 26 (.goto 4) 3 29 := ⟨by decide +kernel, rfl⟩
theorem dX9_lateSet_29 : Dd mX9_lateSet.2.1 29 (.iconst 0) 1 30 := ⟨by decide +kernel, rfl⟩
theorem dX9_lateSet_30 : Dd mX9_lateSet.2.1 30 (.ior) 1 31 := ⟨by decide +kernel, rfl⟩
theorem dX9_lateSet_31 : Dd mX9_lateSet.2.1 31 (.istore_n 1) 1 32 := ⟨by decide +kernel, rfl⟩
theorem dX9_lateSet_32 : Dd mX9_lateSet.2.1 32 (.iinc 2 1) 3 35 := ⟨by decide +kernel, rfl⟩
theorem dX9_lateSet_35 : Dd mX9_lateSet.2.1 35 (.goto (-31)) 3 38 := ⟨by decide +kernel, rfl⟩
theorem dX9_lateSet_38 : Dd mX9_lateSet.2.1 38 (.iload_n 1) 1 39 := ⟨by decide +kernel, rfl⟩
theorem dX9_lateSet_39 : Dd mX9_lateSet.2.1 39 (.ireturn) 1 40 := ⟨by decide +kernel, rfl⟩
theorem dX9_foundIn_0 : Dd mX9_foundIn.2.1 0 (.iconst 0) 1 1 := ⟨by decide +kernel, rfl⟩
theorem dX9_foundIn_1 : Dd mX9_foundIn.2.1 1 (.istore_n 2) 1 2 := ⟨by decide +kernel, rfl⟩
theorem dX9_foundIn_2 : Dd mX9_foundIn.2.1 2 (.iconst 0) 1 3 := ⟨by decide +kernel, rfl⟩
theorem dX9_foundIn_3 : Dd mX9_foundIn.2.1 3 (.istore_n 3) 1 4 := ⟨by decide +kernel, rfl⟩
theorem dX9_foundIn_4 : Dd mX9_foundIn.2.1 4 (.iload_n 3) 1 5 := ⟨by decide +kernel, rfl⟩
theorem dX9_foundIn_5 : Dd mX9_foundIn.2.1 5 (.aload_n 0) 1 6 := ⟨by decide +kernel, rfl⟩
theorem dX9_foundIn_6 : Dd mX9_foundIn.2.1 6 (.getfield 84) 3 9 := ⟨by decide +kernel, rfl⟩
theorem dX9_foundIn_9 : Dd mX9_foundIn.2.1 9 (.if_icmp .ge 47) 3 12 := ⟨by decide +kernel, rfl⟩
theorem dX9_foundIn_12 : Dd mX9_foundIn.2.1 12 (.iload_n 2) 1 13 := ⟨by decide +kernel, rfl⟩
theorem dX9_foundIn_13 : Dd mX9_foundIn.2.1 13 (.aload_n 0) 1 14 := ⟨by decide +kernel, rfl⟩
theorem dX9_foundIn_14 : Dd mX9_foundIn.2.1 14 (.getfield 7) 3 17 := ⟨by decide +kernel, rfl⟩
theorem dX9_foundIn_17 : Dd mX9_foundIn.2.1 17 (.iload_n 1) 1 18 := ⟨by decide +kernel, rfl⟩
theorem dX9_foundIn_18 : Dd mX9_foundIn.2.1 18 (.iconst 0) 1 19 := ⟨by decide +kernel, rfl⟩
theorem dX9_foundIn_19 : Dd mX9_foundIn.2.1 19 (.iadd) 1 20 := ⟨by decide +kernel, rfl⟩
theorem dX9_foundIn_20 : Dd mX9_foundIn.2.1 20 (.iload_n 3) 1 21 := ⟨by decide +kernel, rfl⟩
theorem dX9_foundIn_21 : Dd mX9_foundIn.2.1 21 (.iadd) 1 22 := ⟨by decide +kernel, rfl⟩
theorem dX9_foundIn_22 : Dd mX9_foundIn.2.1 22 (.iaload) 1 23 := ⟨by decide +kernel, rfl⟩
theorem dX9_foundIn_23 : Dd mX9_foundIn.2.1 23 (.aload_n 0) 1 24 := ⟨by decide +kernel, rfl⟩
theorem dX9_foundIn_24 : Dd mX9_foundIn.2.1 24 (.getfield 7) 3 27 := ⟨by decide +kernel, rfl⟩
theorem dX9_foundIn_27 : Dd mX9_foundIn.2.1 27 (.iload_n 1) 1 28 := ⟨by decide +kernel, rfl⟩
theorem dX9_foundIn_28 : Dd mX9_foundIn.2.1 28 (.iconst 4) 1 29 := ⟨by decide +kernel, rfl⟩
theorem dX9_foundIn_29 : Dd mX9_foundIn.2.1 29 (.iadd) 1 30 := ⟨by decide +kernel, rfl⟩
theorem dX9_foundIn_30 : Dd mX9_foundIn.2.1 30 (.iload_n 3) 1 31 := ⟨by decide +kernel, rfl⟩
theorem dX9_foundIn_31 : Dd mX9_foundIn.2.1 31 (.iadd) 1 32 := ⟨by decide +kernel, rfl⟩
theorem dX9_foundIn_32 : Dd mX9_foundIn.2.1 32 (.iaload) 1 33 := ⟨by decide +kernel, rfl⟩
theorem dX9_foundIn_33 : Dd mX9_foundIn.2.1 33 (.iconst 2) 1 34 := ⟨by decide +kernel, rfl⟩
theorem dX9_foundIn_34 : Dd mX9_foundIn.2.1 34 (.if_icmp .ge 12) 3 37 := ⟨by decide +kernel, rfl⟩
theorem dX9_foundIn_37 : Dd mX9_foundIn.2.1 37 (.aload_n 0) 1 38 := ⟨by decide +kernel, rfl⟩
theorem dX9_foundIn_38 : Dd mX9_foundIn.2.1 38 (.invokevirtual 177) 3 41 := ⟨by decide +kernel, rfl⟩
theorem dX9_foundIn_41 : Dd mX9_foundIn.2.1 41 (.iconst (-1)) 1 42 := ⟨by decide +kernel, rfl⟩
theorem dX9_foundIn_42 : Dd mX9_foundIn.2.1 42 (.ixor) 1 43 := ⟨by decide +kernel, rfl⟩
theorem dX9_foundIn_43 : Dd mX9_foundIn.2.1 43 (.goto 4) 3 46 := ⟨by decide +kernel, rfl⟩
theorem dX9_foundIn_46 : Dd mX9_foundIn.2.1 46 (.iconst (-1)) 1 47 := ⟨by decide +kernel, rfl⟩
theorem dX9_foundIn_47 : Dd mX9_foundIn.2.1 47 (.iand) 1 48 := ⟨by decide +kernel, rfl⟩
theorem dX9_foundIn_48 : Dd mX9_foundIn.2.1 48 (.ior) 1 49 := ⟨by decide +kernel, rfl⟩
theorem dX9_foundIn_49 : Dd mX9_foundIn.2.1 49 (.istore_n 2) 1 50 := ⟨by decide +kernel, rfl⟩
theorem dX9_foundIn_50 : Dd mX9_foundIn.2.1 50 (.iinc 3 1) 3 53 := ⟨by decide +kernel, rfl⟩
theorem dX9_foundIn_53 : Dd mX9_foundIn.2.1 53 (.goto (-49)) 3 56 := ⟨by decide +kernel, rfl⟩
theorem dX9_foundIn_56 : Dd mX9_foundIn.2.1 56 (.iload_n 2) 1 57 := ⟨by decide +kernel, rfl⟩
theorem dX9_foundIn_57 : Dd mX9_foundIn.2.1 57 (.ireturn) 1 58 := ⟨by decide +kernel, rfl⟩
theorem dX9_missedBy_0 : Dd mX9_missedBy.2.1 0 (.iconst 0) 1 1 := ⟨by decide +kernel, rfl⟩
theorem dX9_missedBy_1 : Dd mX9_missedBy.2.1 1 (.istore_n 2) 1 2 := ⟨by decide +kernel, rfl⟩
theorem dX9_missedBy_2 : Dd mX9_missedBy.2.1 2 (.iconst 0) 1 3 := ⟨by decide +kernel, rfl⟩
theorem dX9_missedBy_3 : Dd mX9_missedBy.2.1 3 (.istore_n 3) 1 4 := ⟨by decide +kernel, rfl⟩
theorem dX9_missedBy_4 : Dd mX9_missedBy.2.1 4 (.iload_n 3) 1 5 := ⟨by decide +kernel, rfl⟩
theorem dX9_missedBy_5 : Dd mX9_missedBy.2.1 5 (.aload_n 0) 1 6 := ⟨by decide +kernel, rfl⟩
theorem dX9_missedBy_6 : Dd mX9_missedBy.2.1 6 (.getfield 81) 3 9 := ⟨by decide +kernel, rfl⟩
theorem dX9_missedBy_9 : Dd mX9_missedBy.2.1 9 (.if_icmp .ge 35) 3 12 := ⟨by decide +kernel, rfl⟩
theorem dX9_missedBy_12 : Dd mX9_missedBy.2.1 12 (.iload_n 2) 1 13 := ⟨by decide +kernel, rfl⟩
theorem dX9_missedBy_13 : Dd mX9_missedBy.2.1 13 (.iload_n 1) 1 14 := ⟨by decide +kernel, rfl⟩
theorem dX9_missedBy_14 : Dd mX9_missedBy.2.1 14 (.aload_n 0) 1 15 := ⟨by decide +kernel, rfl⟩
theorem dX9_missedBy_15 : Dd mX9_missedBy.2.1 15 (.getfield 25) 3 18 := ⟨by decide +kernel, rfl⟩
theorem dX9_missedBy_18 : Dd mX9_missedBy.2.1 18 (.iload_n 3) 1 19 := ⟨by decide +kernel, rfl⟩
theorem dX9_missedBy_19 : Dd mX9_missedBy.2.1 19 (.iaload) 1 20 := ⟨by decide +kernel, rfl⟩
theorem dX9_missedBy_20 : Dd mX9_missedBy.2.1 20 (.invokestatic 166) 3 23 := ⟨by decide +kernel, rfl⟩
theorem dX9_missedBy_23 : Dd mX9_missedBy.2.1 23 (.ifCond .eq 12) 3 26 := ⟨by decide +kernel, rfl⟩
theorem dX9_missedBy_26 : Dd mX9_missedBy.2.1 26 (.aload_n 0) 1 27 := ⟨by decide +kernel, rfl⟩
theorem dX9_missedBy_27 : Dd mX9_missedBy.2.1 27 (.getfield 28) 3 30 := ⟨by decide +kernel, rfl⟩
theorem dX9_missedBy_30 : Dd mX9_missedBy.2.1 30 (.iload_n 3) 1 31 := ⟨by decide +kernel, rfl⟩
theorem dX9_missedBy_31 : Dd mX9_missedBy.2.1 31 (.iaload) 1 32 := ⟨by decide +kernel, rfl⟩
theorem dX9_missedBy_32 : Dd mX9_missedBy.2.1 32 (.goto 4) 3 35 := ⟨by decide +kernel, rfl⟩
theorem dX9_missedBy_35 : Dd mX9_missedBy.2.1 35 (.iconst 0) 1 36 := ⟨by decide +kernel, rfl⟩
theorem dX9_missedBy_36 : Dd mX9_missedBy.2.1 36 (.iadd) 1 37 := ⟨by decide +kernel, rfl⟩
theorem dX9_missedBy_37 : Dd mX9_missedBy.2.1 37 (.istore_n 2) 1 38 := ⟨by decide +kernel, rfl⟩
theorem dX9_missedBy_38 : Dd mX9_missedBy.2.1 38 (.iinc 3 1) 3 41 := ⟨by decide +kernel, rfl⟩
theorem dX9_missedBy_41 : Dd mX9_missedBy.2.1 41 (.goto (-37)) 3 44 := ⟨by decide +kernel, rfl⟩
theorem dX9_missedBy_44 : Dd mX9_missedBy.2.1 44 (.iload_n 2) 1 45 := ⟨by decide +kernel, rfl⟩
theorem dX9_missedBy_45 : Dd mX9_missedBy.2.1 45 (.ireturn) 1 46 := ⟨by decide +kernel, rfl⟩
theorem dX9_missedIn_0 : Dd mX9_missedIn.2.1 0 (.aload_n 0) 1 1 := ⟨by decide +kernel, rfl⟩
theorem dX9_missedIn_1 : Dd mX9_missedIn.2.1 1 (.aload_n 0) 1 2 := ⟨by decide +kernel, rfl⟩
theorem dX9_missedIn_2 : Dd mX9_missedIn.2.1 2 (.aload_n 0) 1 3 := ⟨by decide +kernel, rfl⟩
theorem dX9_missedIn_3 : Dd mX9_missedIn.2.1 3 (.iload_n 1) 1 4 := ⟨by decide +kernel, rfl⟩
theorem dX9_missedIn_4 : Dd mX9_missedIn.2.1 4 (.invokevirtual 180) 3 7 := ⟨by decide +kernel, rfl⟩
theorem dX9_missedIn_7 : Dd mX9_missedIn.2.1 7 (.invokevirtual 174) 3 10 := ⟨by decide +kernel, rfl⟩
theorem dX9_missedIn_10 : Dd mX9_missedIn.2.1 10 (.invokevirtual 183) 3 13 := ⟨by decide +kernel, rfl⟩
theorem dX9_missedIn_13 : Dd mX9_missedIn.2.1 13 (.ireturn) 1 14 := ⟨by decide +kernel, rfl⟩
theorem dX9_costIn_0 : Dd mX9_costIn.2.1 0 (.aload_n 0) 1 1 := ⟨by decide +kernel, rfl⟩
theorem dX9_costIn_1 : Dd mX9_costIn.2.1 1 (.iload_n 1) 1 2 := ⟨by decide +kernel, rfl⟩
theorem dX9_costIn_2 : Dd mX9_costIn.2.1 2 (.invokevirtual 170) 3 5 := ⟨by decide +kernel, rfl⟩
theorem dX9_costIn_5 : Dd mX9_costIn.2.1 5 (.istore_n 3) 1 6 := ⟨by decide +kernel, rfl⟩
theorem dX9_costIn_6 : Dd mX9_costIn.2.1 6 (.aload_n 0) 1 7 := ⟨by decide +kernel, rfl⟩
theorem dX9_costIn_7 : Dd mX9_costIn.2.1 7 (.aload_n 0) 1 8 := ⟨by decide +kernel, rfl⟩
theorem dX9_costIn_8 : Dd mX9_costIn.2.1 8 (.iload_n 3) 1 9 := ⟨by decide +kernel, rfl⟩
theorem dX9_costIn_9 : Dd mX9_costIn.2.1 9 (.iload_n 2) 1 10 := ⟨by decide +kernel, rfl⟩
theorem dX9_costIn_10 : Dd mX9_costIn.2.1 10 (.ior) 1 11 := ⟨by decide +kernel, rfl⟩
theorem dX9_costIn_11 : Dd mX9_costIn.2.1 11 (.invokevirtual 174) 3 14 := ⟨by decide +kernel, rfl⟩
theorem dX9_costIn_14 : Dd mX9_costIn.2.1 14 (.invokevirtual 183) 3 17 := ⟨by decide +kernel, rfl⟩
theorem dX9_costIn_17 : Dd mX9_costIn.2.1 17 (.aload_n 0) 1 18 := ⟨by decide +kernel, rfl⟩
theorem dX9_costIn_18 : Dd mX9_costIn.2.1 18 (.aload_n 0) 1 19 := ⟨by decide +kernel, rfl⟩
theorem dX9_costIn_19 : Dd mX9_costIn.2.1 19 (.iload_n 3) 1 20 := ⟨by decide +kernel, rfl⟩
theorem dX9_costIn_20 : Dd mX9_costIn.2.1 20 (.invokevirtual 174) 3 23 := ⟨by decide +kernel, rfl⟩
theorem dX9_costIn_23 : Dd mX9_costIn.2.1 23 (.invokevirtual 183) 3 26 := ⟨by decide +kernel, rfl⟩
theorem dX9_costIn_26 : Dd mX9_costIn.2.1 26 (.isub) 1 27 := ⟨by decide +kernel, rfl⟩
theorem dX9_costIn_27 : Dd mX9_costIn.2.1 27 (.ireturn) 1 28 := ⟨by decide +kernel, rfl⟩
theorem dX9_thing_0 : Dd mX9_thing.2.1 0 (.aload_n 0) 1 1 := ⟨by decide +kernel, rfl⟩
theorem dX9_thing_1 : Dd mX9_thing.2.1 1 (.iload_n 1) 1 2 := ⟨by decide +kernel, rfl⟩
theorem dX9_thing_2 : Dd mX9_thing.2.1 2 (.invokevirtual 186) 3 5 := ⟨by decide +kernel, rfl⟩
theorem dX9_thing_5 : Dd mX9_thing.2.1 5 (.ifCond .ne 5) 3 8 := ⟨by decide +kernel, rfl⟩
theorem dX9_thing_8 : Dd mX9_thing.2.1 8 (.iconst (-1)) 1 9 := ⟨by decide +kernel, rfl⟩
theorem dX9_thing_9 : Dd mX9_thing.2.1 9 (.ireturn) 1 10 := ⟨by decide +kernel, rfl⟩
theorem dX9_thing_10 : Dd mX9_thing.2.1 10 (.bipush (-4)) 2 12 := ⟨by decide +kernel, rfl⟩
theorem dX9_thing_12 : Dd mX9_thing.2.1 12 (.istore_n 3) 1 13 := ⟨by decide +kernel, rfl⟩
theorem dX9_thing_13 : Dd mX9_thing.2.1 13 (.iconst 0) 1 14 := ⟨by decide +kernel, rfl⟩
theorem dX9_thing_14 : Dd mX9_thing.2.1 14 (.istore 4) 2 16 := ⟨by decide +kernel, rfl⟩
theorem dX9_thing_16 : Dd mX9_thing.2.1 16 (.iload 4) 2 18 := ⟨by decide +kernel, rfl⟩
theorem dX9_thing_18 : Dd mX9_thing.2.1 18 (.aload_n 0) 1 19 := ⟨by decide +kernel, rfl⟩
theorem dX9_thing_19 : Dd mX9_thing.2.1 19 (.getfield 84) 3 22 := ⟨by decide +kernel, rfl⟩
theorem dX9_thing_22 : Dd mX9_thing.2.1 22 (.if_icmp .ge 32) 3 25 := ⟨by decide +kernel, rfl⟩
theorem dX9_thing_25 : Dd mX9_thing.2.1 25 (.aload_n 0) 1 26 := ⟨by decide +kernel, rfl⟩
theorem dX9_thing_26 : Dd mX9_thing.2.1 26 (.getfield 7) 3 29 := ⟨by decide +kernel, rfl⟩
theorem dX9_thing_29 : Dd mX9_thing.2.1 29 (.iconst 0) 1 30 := ⟨by decide +kernel, rfl⟩
theorem dX9_thing_30 : Dd mX9_thing.2.1 30 (.iload 4) 2 32 := ⟨by decide +kernel, rfl⟩
theorem dX9_thing_32 : Dd mX9_thing.2.1 32 (.iadd) 1 33 := ⟨by decide +kernel, rfl⟩
theorem dX9_thing_33 : Dd mX9_thing.2.1 33 (.iaload) 1 34 := ⟨by decide +kernel, rfl⟩
theorem dX9_thing_34 : Dd mX9_thing.2.1 34 (.iload_n 1) 1 35 := ⟨by decide +kernel, rfl⟩
theorem dX9_thing_35 : Dd mX9_thing.2.1 35 (.invokestatic 166) 3 38 := ⟨by decide +kernel, rfl⟩
theorem dX9_thing_38 : Dd mX9_thing.2.1 38 (.ifCond .eq 8) 3 41 := ⟨by decide +kernel, rfl⟩
theorem dX9_thing_41 : Dd mX9_thing.2.1 41 (.iload 4) 2 43 := ⟨by decide +kernel, rfl⟩
theorem dX9_thing_43 : Dd mX9_thing.2.1 43 (.goto 4) 3 46 := ⟨by decide +kernel, rfl⟩
theorem dX9_thing_46 : Dd mX9_thing.2.1 46 (.iload_n 3) 1 47 := ⟨by decide +kernel, rfl⟩
theorem dX9_thing_47 : Dd mX9_thing.2.1 47 (.istore_n 3) 1 48 := ⟨by decide +kernel, rfl⟩
theorem dX9_thing_48 : Dd mX9_thing.2.1 48 (.iinc 4 1) 3 51 := ⟨by decide +kernel, rfl⟩
theorem dX9_thing_51 : Dd mX9_thing.2.1 51 (.goto (-35)) 3 54 := ⟨by decide +kernel, rfl⟩
theorem dX9_thing_54 : Dd mX9_thing.2.1 54 (.iload_n 2) 1 55 := ⟨by decide +kernel, rfl⟩
theorem dX9_thing_55 : Dd mX9_thing.2.1 55 (.ifCond .ne 12) 3 58 := ⟨by decide +kernel, rfl⟩
theorem dX9_thing_58 : Dd mX9_thing.2.1 58 (.aload_n 0) 1 59 := ⟨by decide +kernel, rfl⟩
theorem dX9_thing_59 : Dd mX9_thing.2.1 59 (.getfield 16) 3 62 := ⟨by decide +kernel, rfl⟩
theorem dX9_thing_62 : Dd mX9_thing.2.1 62 (.iload_n 1) 1 63 := ⟨by decide +kernel, rfl⟩
theorem dX9_thing_63 : Dd mX9_thing.2.1 63 (.iaload) 1 64 := ⟨by decide +kernel, rfl⟩
theorem dX9_thing_64 : Dd mX9_thing.2.1 64 (.goto 44) 3 67 := ⟨by decide +kernel, rfl⟩
theorem dX9_thing_67 : Dd mX9_thing.2.1 67 (.iload_n 2) 1 68 := ⟨by decide +kernel, rfl⟩
theorem dX9_thing_68 : Dd mX9_thing.2.1 68 (.iconst 1) 1 69 := ⟨by decide +kernel, rfl⟩
theorem dX9_thing_69 : Dd mX9_thing.2.1 69 (.if_icmp .ne 12) 3 72 := ⟨by decide +kernel, rfl⟩
theorem dX9_thing_72 : Dd mX9_thing.2.1 72 (.aload_n 0) 1 73 := ⟨by decide +kernel, rfl⟩
theorem dX9_thing_73 : Dd mX9_thing.2.1 73 (.getfield 19) 3 76 := ⟨by decide +kernel, rfl⟩
theorem dX9_thing_76 : Dd mX9_thing.2.1 76 (.iload_n 1) 1 77 := ⟨by decide +kernel, rfl⟩
theorem dX9_thing_77 : Dd mX9_thing.2.1 77 (.iaload) 1 78 := ⟨by decide +kernel, rfl⟩
theorem dX9_thing_78 : Dd mX9_thing.2.1 78 (.goto 30) 3 81 := ⟨by decide +kernel, rfl⟩
theorem dX9_thing_81 : Dd mX9_thing.2.1 81 (.iload_n 2) 1 82 := ⟨by decide +kernel, rfl⟩
theorem dX9_thing_82 : Dd mX9_thing.2.1 82 (.iconst 2) 1 83 := ⟨by decide +kernel, rfl⟩
theorem dX9_thing_83 : Dd mX9_thing.2.1 83 (.if_icmp .ne 15) 3 86 := ⟨by decide +kernel, rfl⟩
theorem dX9_thing_86 : Dd mX9_thing.2.1 86 (.aload_n 0) 1 87 := ⟨by decide +kernel, rfl⟩
theorem dX9_thing_87 : Dd mX9_thing.2.1 87 (.iconst 0) 1 88 := ⟨by decide +kernel, rfl⟩
theorem dX9_thing_88 : Dd mX9_thing.2.1 88 (.invokevirtual 189) 3 91 := ⟨by decide +kernel, rfl⟩
theorem dX9_thing_91 : Dd mX9_thing.2.1 91 (.iload_n 1) 1 92 := ⟨by decide +kernel, rfl⟩
theorem dX9_thing_92 : Dd mX9_thing.2.1 92 (.ishr) 1 93 := ⟨by decide +kernel, rfl⟩
theorem dX9_thing_93 : Dd mX9_thing.2.1 93 (.iconst 1) 1 94 := ⟨by decide +kernel, rfl⟩
theorem dX9_thing_94 : Dd mX9_thing.2.1 94 (.iand) 1 95 := ⟨by decide +kernel, rfl⟩
theorem dX9_thing_95 : Dd mX9_thing.2.1 95 (.goto 13) 3 98 := ⟨by decide +kernel, rfl⟩
theorem dX9_thing_98 : Dd mX9_thing.2.1 98 (.iload_n 2) 1 99 := ⟨by decide +kernel, rfl⟩
theorem dX9_thing_99 : Dd mX9_thing.2.1 99 (.iconst 3) 1 100 := ⟨by decide +kernel, rfl⟩
theorem dX9_thing_100 : Dd mX9_thing.2.1 100 (.if_icmp .ne 7) 3 103 := ⟨by decide +kernel, rfl⟩
theorem dX9_thing_103 : Dd mX9_thing.2.1 103 (.iload_n 3) 1 104 := ⟨by decide +kernel, rfl⟩
theorem dX9_thing_104 : Dd mX9_thing.2.1 104 (.goto 4) 3 107 := ⟨by decide +kernel, rfl⟩
theorem dX9_thing_107 : Dd mX9_thing.2.1 107 (.iconst (-1)) 1 108 := ⟨by decide +kernel, rfl⟩
theorem dX9_thing_108 : Dd mX9_thing.2.1 108 (.ireturn) 1 109 := ⟨by decide +kernel, rfl⟩
theorem dX9_person_0 : Dd mX9_person.2.1 0 (.iload_n 1) 1 1 := ⟨by decide +kernel, rfl⟩
theorem dX9_person_1 : Dd mX9_person.2.1 1 (.i2l) 1 2 := ⟨by decide +kernel, rfl⟩
theorem dX9_person_2 : Dd mX9_person.2.1 2 (.lconst 0) 1 3 := ⟨by decide +kernel, rfl⟩
theorem dX9_person_3 : Dd mX9_person.2.1 3 (.aload_n 0) 1 4 := ⟨by decide +kernel, rfl⟩
theorem dX9_person_4 : Dd mX9_person.2.1 4 (.getfield 81) 3 7 := ⟨by decide +kernel, rfl⟩
theorem dX9_person_7 : Dd mX9_person.2.1 7 (.iconst 1) 1 8 := ⟨by decide +kernel, rfl⟩
theorem dX9_person_8 : Dd mX9_person.2.1 8 (.isub) 1 9 := ⟨by decide +kernel, rfl⟩
theorem dX9_person_9 : Dd mX9_person.2.1 9 (.i2l) 1 10 := ⟨by decide +kernel, rfl⟩
theorem dX9_person_10 : Dd mX9_person.2.1 10 (.invokestatic 100) 3 13 := ⟨by decide +kernel, rfl⟩
theorem dX9_person_13 : Dd mX9_person.2.1 13 (.ifCond .ne 5) 3 16 := ⟨by decide +kernel, rfl⟩
theorem dX9_person_16 : Dd mX9_person.2.1 16 (.iconst (-1)) 1 17 := ⟨by decide +kernel, rfl⟩
theorem dX9_person_17 : Dd mX9_person.2.1 17 (.ireturn) 1 18 := ⟨by decide +kernel, rfl⟩
theorem dX9_person_18 : Dd mX9_person.2.1 18 (.iload_n 2) 1 19 := ⟨by decide +kernel, rfl⟩
theorem dX9_person_19 : Dd mX9_person.2.1 19 (.ifCond .ne 12) 3 22 := ⟨by decide +kernel, rfl⟩
theorem dX9_person_22 : Dd mX9_person.2.1 22 (.aload_n 0) 1 23 := ⟨by decide +kernel, rfl⟩
theorem dX9_person_23 : Dd mX9_person.2.1 23 (.getfield 25) 3 26 := ⟨by decide +kernel, rfl⟩
theorem dX9_person_26 : Dd mX9_person.2.1 26 (.iload_n 1) 1 27 := ⟨by decide +kernel, rfl⟩
theorem dX9_person_27 : Dd mX9_person.2.1 27 (.iaload) 1 28 := ⟨by decide +kernel, rfl⟩
theorem dX9_person_28 : Dd mX9_person.2.1 28 (.goto 44) 3 31 := ⟨by decide +kernel, rfl⟩
theorem dX9_person_31 : Dd mX9_person.2.1 31 (.iload_n 2) 1 32 := ⟨by decide +kernel, rfl⟩
theorem dX9_person_32 : Dd mX9_person.2.1 32 (.iconst 1) 1 33 := ⟨by decide +kernel, rfl⟩
theorem dX9_person_33 : Dd mX9_person.2.1 33 (.if_icmp .ne 12) 3 36 := ⟨by decide +kernel, rfl⟩
theorem dX9_person_36 : Dd mX9_person.2.1 36 (.aload_n 0) 1 37 := ⟨by decide +kernel, rfl⟩
theorem dX9_person_37 : Dd mX9_person.2.1 37 (.getfield 28) 3 40 := ⟨by decide +kernel, rfl⟩
theorem dX9_person_40 : Dd mX9_person.2.1 40 (.iload_n 1) 1 41 := ⟨by decide +kernel, rfl⟩
theorem dX9_person_41 : Dd mX9_person.2.1 41 (.iaload) 1 42 := ⟨by decide +kernel, rfl⟩
theorem dX9_person_42 : Dd mX9_person.2.1 42 (.goto 30) 3 45 := ⟨by decide +kernel, rfl⟩
theorem dX9_person_45 : Dd mX9_person.2.1 45 (.iload_n 2) 1 46 := ⟨by decide +kernel, rfl⟩
theorem dX9_person_46 : Dd mX9_person.2.1 46 (.iconst 2) 1 47 := ⟨by decide +kernel, rfl⟩
theorem dX9_person_47 : Dd mX9_person.2.1 47 (.if_icmp .ne 24) 3 50 := ⟨by decide +kernel, rfl⟩
theorem dX9_person_50 : Dd mX9_person.2.1 50 (.aload_n 0) 1 51 := ⟨by decide +kernel, rfl⟩
theorem dX9_person_51 : Dd mX9_person.2.1 51 (.aload_n 0) 1 52 := ⟨by decide +kernel, rfl⟩
theorem dX9_person_52 : Dd mX9_person.2.1 52 (.iconst 0) 1 53 := ⟨by decide +kernel, rfl⟩
theorem dX9_person_53 : Dd mX9_person.2.1 53 (.invokevirtual 180) 3 56 := ⟨by decide +kernel, rfl⟩
theorem dX9_person_56 : Dd mX9_person.2.1 56 (.invokevirtual 174) 3 59 := ⟨by decide +kernel, rfl⟩
theorem dX9_person_59 : Dd mX9_person.2.1 59 (.aload_n 0) 1 60 := ⟨by decide +kernel, rfl⟩
theorem dX9_person_60 : Dd mX9_person.2.1 60 (.getfield 25) 3 63 := ⟨by decide +kernel, rfl⟩
theorem dX9_person_63 : Dd mX9_person.2.1 63 (.iload_n 1) 1 64 := ⟨by decide +kernel, rfl⟩
theorem dX9_person_64 : Dd mX9_person.2.1 64 (.iaload) 1 65 := ⟨by decide +kernel, rfl⟩
theorem dX9_person_65 : Dd mX9_person.2.1 65 (.ishr) 1 66 := ⟨by decide +kernel, rfl⟩
theorem dX9_person_66 : Dd mX9_person.2.1 66 (.iconst 1) 1 67 := ⟨by decide +kernel, rfl⟩
theorem dX9_person_67 : Dd mX9_person.2.1 67 (.iand) 1 68 := ⟨by decide +kernel, rfl⟩
theorem dX9_person_68 : Dd mX9_person.2.1 68 (.goto 4) 3 71 := ⟨by decide +kernel, rfl⟩
theorem dX9_person_71 : Dd mX9_person.2.1 71 (.iconst (-1)) 1 72 := ⟨by decide +kernel, rfl⟩
theorem dX9_person_72 : Dd mX9_person.2.1 72 (.ireturn) 1 73 := ⟨by decide +kernel, rfl⟩
theorem dX9_beast_0 : Dd mX9_beast.2.1 0 (.aload_n 0) 1 1 := ⟨by decide +kernel, rfl⟩
theorem dX9_beast_1 : Dd mX9_beast.2.1 1 (.iload_n 1) 1 2 := ⟨by decide +kernel, rfl⟩
theorem dX9_beast_2 : Dd mX9_beast.2.1 2 (.invokevirtual 192) 3 5 := ⟨by decide +kernel, rfl⟩
theorem dX9_beast_5 : Dd mX9_beast.2.1 5 (.ifCond .ne 5) 3 8 := ⟨by decide +kernel, rfl⟩
theorem dX9_beast_8 : Dd mX9_beast.2.1 8 (.iconst (-1)) 1 9 := ⟨by decide +kernel, rfl⟩
theorem dX9_beast_9 : Dd mX9_beast.2.1 9 (.ireturn) 1 10 := ⟨by decide +kernel, rfl⟩
theorem dX9_beast_10 : Dd mX9_beast.2.1 10 (.iload_n 2) 1 11 := ⟨by decide +kernel, rfl⟩
theorem dX9_beast_11 : Dd mX9_beast.2.1 11 (.tableswitch 80 0 3 #[29, 36, 45, 70]) 29 40 := ⟨by decide +kernel, rfl⟩
theorem dX9_beast_40 : Dd mX9_beast.2.1 40 (.aload_n 0) 1 41 := ⟨by decide +kernel, rfl⟩
theorem dX9_beast_41 : Dd mX9_beast.2.1 41 (.getfield 31) 3 44 := ⟨by decide +kernel, rfl⟩
theorem dX9_beast_44 : Dd mX9_beast.2.1 44 (.iload_n 1) 1 45 := ⟨by decide +kernel, rfl⟩
theorem dX9_beast_45 : Dd mX9_beast.2.1 45 (.iaload) 1 46 := ⟨by decide +kernel, rfl⟩
theorem dX9_beast_46 : Dd mX9_beast.2.1 46 (.ireturn) 1 47 := ⟨by decide +kernel, rfl⟩
theorem dX9_beast_47 : Dd mX9_beast.2.1 47 (.aload_n 0) 1 48 := ⟨by decide +kernel, rfl⟩
theorem dX9_beast_48 : Dd mX9_beast.2.1 48 (.getfield 7) 3 51 := ⟨by decide +kernel, rfl⟩
theorem dX9_beast_51 : Dd mX9_beast.2.1 51 (.iconst 0) 1 52 := ⟨by decide +kernel, rfl⟩
theorem dX9_beast_52 : Dd mX9_beast.2.1 52 (.iload_n 1) 1 53 := ⟨by decide +kernel, rfl⟩
theorem dX9_beast_53 : Dd mX9_beast.2.1 53 (.iadd) 1 54 := ⟨by decide +kernel, rfl⟩
theorem dX9_beast_54 : Dd mX9_beast.2.1 54 (.iaload) 1 55 := ⟨by decide +kernel, rfl⟩
theorem dX9_beast_55 : Dd mX9_beast.2.1 55 (.ireturn) 1 56 := ⟨by decide +kernel, rfl⟩
theorem dX9_beast_56 : Dd mX9_beast.2.1 56 (.aload_n 0) 1 57 := ⟨by decide +kernel, rfl⟩
theorem dX9_beast_57 : Dd mX9_beast.2.1 57 (.getfield 7) 3 60 := ⟨by decide +kernel, rfl⟩
theorem dX9_beast_60 : Dd mX9_beast.2.1 60 (.iconst 0) 1 61 := ⟨by decide +kernel, rfl⟩
theorem dX9_beast_61 : Dd mX9_beast.2.1 61 (.iload_n 1) 1 62 := ⟨by decide +kernel, rfl⟩
theorem dX9_beast_62 : Dd mX9_beast.2.1 62 (.iadd) 1 63 := ⟨by decide +kernel, rfl⟩
theorem dX9_beast_63 : Dd mX9_beast.2.1 63 (.iaload) 1 64 := ⟨by decide +kernel, rfl⟩
theorem dX9_beast_64 : Dd mX9_beast.2.1 64 (.ifCond .ne 8) 3 67 := ⟨by decide +kernel, rfl⟩
theorem dX9_beast_67 : Dd mX9_beast.2.1 67 (.bipush (-4)) 2 69 := ⟨by decide +kernel, rfl⟩
theorem dX9_beast_69 : Dd mX9_beast.2.1 69 (.goto 11) 3 72 := ⟨by decide +kernel, rfl⟩
theorem dX9_beast_72 : Dd mX9_beast.2.1 72 (.aload_n 0) 1 73 := ⟨by decide +kernel, rfl⟩
theorem dX9_beast_73 : Dd mX9_beast.2.1 73 (.getfield 7) 3 76 := ⟨by decide +kernel, rfl⟩
theorem dX9_beast_76 : Dd mX9_beast.2.1 76 (.iconst 4) 1 77 := ⟨by decide +kernel, rfl⟩
theorem dX9_beast_77 : Dd mX9_beast.2.1 77 (.iload_n 1) 1 78 := ⟨by decide +kernel, rfl⟩
theorem dX9_beast_78 : Dd mX9_beast.2.1 78 (.iadd) 1 79 := ⟨by decide +kernel, rfl⟩
theorem dX9_beast_79 : Dd mX9_beast.2.1 79 (.iaload) 1 80 := ⟨by decide +kernel, rfl⟩
theorem dX9_beast_80 : Dd mX9_beast.2.1 80 (.ireturn) 1 81 := ⟨by decide +kernel, rfl⟩
theorem dX9_beast_81 : Dd mX9_beast.2.1 81 (.aload_n 0) 1 82 := ⟨by decide +kernel, rfl⟩
theorem dX9_beast_82 : Dd mX9_beast.2.1 82 (.getfield 7) 3 85 := ⟨by decide +kernel, rfl⟩
theorem dX9_beast_85 : Dd mX9_beast.2.1 85 (.bipush 8) 2 87 := ⟨by decide +kernel, rfl⟩
theorem dX9_beast_87 : Dd mX9_beast.2.1 87 (.iload_n 1) 1 88 := ⟨by decide +kernel, rfl⟩
theorem dX9_beast_88 : Dd mX9_beast.2.1 88 (.iadd) 1 89 := ⟨by decide +kernel, rfl⟩
theorem dX9_beast_89 : Dd mX9_beast.2.1 89 (.iaload) 1 90 := ⟨by decide +kernel, rfl⟩
theorem dX9_beast_90 : Dd mX9_beast.2.1 90 (.ireturn) 1 91 := ⟨by decide +kernel, rfl⟩
theorem dX9_beast_91 : Dd mX9_beast.2.1 91 (.iconst (-1)) 1 92 := ⟨by decide +kernel, rfl⟩
theorem dX9_beast_92 : Dd mX9_beast.2.1 92 (.ireturn) 1 93 := ⟨by decide +kernel, rfl⟩
theorem dX9_strength_0 : Dd mX9_strength.2.1 0 (.aload_n 0) 1 1 := ⟨by decide +kernel, rfl⟩
theorem dX9_strength_1 : Dd mX9_strength.2.1 1 (.iload_n 1) 1 2 := ⟨by decide +kernel, rfl⟩
theorem dX9_strength_2 : Dd mX9_strength.2.1 2 (.invokevirtual 195) 3 5 := ⟨by decide +kernel, rfl⟩
theorem dX9_strength_5 : Dd mX9_strength.2.1 5 (.ifCond .eq 11) 3 8 := ⟨by decide +kernel, rfl⟩
theorem dX9_strength_8 : Dd mX9_strength.2.1 8 (.aload_n 0) 1 9 := ⟨by decide +kernel, rfl⟩
theorem dX9_strength_9 : Dd mX9_strength.2.1 9 (.iload_n 1) 1 10 := ⟨by decide +kernel, rfl⟩
theorem dX9_strength_10 : Dd mX9_strength.2.1 10 (.invokevirtual 198) 3 13 := ⟨by decide +kernel, rfl⟩
theorem dX9_strength_13 : Dd mX9_strength.2.1 13 (.goto 4) 3 16 := ⟨by decide +kernel, rfl⟩
theorem dX9_strength_16 : Dd mX9_strength.2.1 16 (.iconst (-1)) 1 17 := ⟨by decide +kernel, rfl⟩
theorem dX9_strength_17 : Dd mX9_strength.2.1 17 (.ireturn) 1 18 := ⟨by decide +kernel, rfl⟩
theorem dX9_follows_0 : Dd mX9_follows.2.1 0 (.aload_n 0) 1 1 := ⟨by decide +kernel, rfl⟩
theorem dX9_follows_1 : Dd mX9_follows.2.1 1 (.iload_n 1) 1 2 := ⟨by decide +kernel, rfl⟩
theorem dX9_follows_2 : Dd mX9_follows.2.1 2 (.invokevirtual 195) 3 5 := ⟨by decide +kernel, rfl⟩
theorem dX9_follows_5 : Dd mX9_follows.2.1 5 (.ifCond .eq 11) 3 8 := ⟨by decide +kernel, rfl⟩
theorem dX9_follows_8 : Dd mX9_follows.2.1 8 (.aload_n 0) 1 9 := ⟨by decide +kernel, rfl⟩
theorem dX9_follows_9 : Dd mX9_follows.2.1 9 (.iload_n 1) 1 10 := ⟨by decide +kernel, rfl⟩
theorem dX9_follows_10 : Dd mX9_follows.2.1 10 (.invokevirtual 174) 3 13 := ⟨by decide +kernel, rfl⟩
theorem dX9_follows_13 : Dd mX9_follows.2.1 13 (.goto 4) 3 16 := ⟨by decide +kernel, rfl⟩
theorem dX9_follows_16 : Dd mX9_follows.2.1 16 (.iconst (-1)) 1 17 := ⟨by decide +kernel, rfl⟩
theorem dX9_follows_17 : Dd mX9_follows.2.1 17 (.ireturn) 1 18 := ⟨by decide +kernel, rfl⟩
theorem dX9_missed_0 : Dd mX9_missed.2.1 0 (.aload_n 0) 1 1 := ⟨by decide +kernel, rfl⟩
theorem dX9_missed_1 : Dd mX9_missed.2.1 1 (.iconst 0) 1 2 := ⟨by decide +kernel, rfl⟩
theorem dX9_missed_2 : Dd mX9_missed.2.1 2 (.invokevirtual 201) 3 5 := ⟨by decide +kernel, rfl⟩
theorem dX9_missed_5 : Dd mX9_missed.2.1 5 (.ireturn) 1 6 := ⟨by decide +kernel, rfl⟩
theorem dX9_copy_0 : Dd mX9_copy.2.1 0 (.iconst 0) 1 1 := ⟨by decide +kernel, rfl⟩
theorem dX9_copy_1 : Dd mX9_copy.2.1 1 (.istore_n 3) 1 2 := ⟨by decide +kernel, rfl⟩
theorem dX9_copy_2 : Dd mX9_copy.2.1 2 (.iload_n 3) 1 3 := ⟨by decide +kernel, rfl⟩
theorem dX9_copy_3 : Dd mX9_copy.2.1 3 (.bipush 13) 2 5 := ⟨by decide +kernel, rfl⟩
theorem dX9_copy_5 : Dd mX9_copy.2.1 5 (.if_icmp .ge 25) 3 8 := ⟨by decide +kernel, rfl⟩
theorem dX9_copy_8 : Dd mX9_copy.2.1 8 (.aload_n 0) 1 9 := ⟨by decide +kernel, rfl⟩
theorem dX9_copy_9 : Dd mX9_copy.2.1 9 (.getfield 7) 3 12 := ⟨by decide +kernel, rfl⟩
theorem dX9_copy_12 : Dd mX9_copy.2.1 12 (.iload_n 2) 1 13 := ⟨by decide +kernel, rfl⟩
theorem dX9_copy_13 : Dd mX9_copy.2.1 13 (.iload_n 3) 1 14 := ⟨by decide +kernel, rfl⟩
theorem dX9_copy_14 : Dd mX9_copy.2.1 14 (.iadd) 1 15 := ⟨by decide +kernel, rfl⟩
theorem dX9_copy_15 : Dd mX9_copy.2.1 15 (.aload_n 0) 1 16 := ⟨by decide +kernel, rfl⟩
theorem dX9_copy_16 : Dd mX9_copy.2.1 16 (.getfield 7) 3 19 := ⟨by decide +kernel, rfl⟩
theorem dX9_copy_19 : Dd mX9_copy.2.1 19 (.iload_n 1) 1 20 := ⟨by decide +kernel, rfl⟩
theorem dX9_copy_20 : Dd mX9_copy.2.1 20 (.iload_n 3) 1 21 := ⟨by decide +kernel, rfl⟩
theorem dX9_copy_21 : Dd mX9_copy.2.1 21 (.iadd) 1 22 := ⟨by decide +kernel, rfl⟩
theorem dX9_copy_22 : Dd mX9_copy.2.1 22 (.iaload) 1 23 := ⟨by decide +kernel, rfl⟩
theorem dX9_copy_23 : Dd mX9_copy.2.1 23 (.iastore) 1 24 := ⟨by decide +kernel, rfl⟩
theorem dX9_copy_24 : Dd mX9_copy.2.1 24 (.iinc 3 1) 3 27 := ⟨by decide +kernel, rfl⟩
theorem dX9_copy_27 : Dd mX9_copy.2.1 27 (.goto (-25)) 3 30 := ⟨by decide +kernel, rfl⟩
theorem dX9_copy_30 : Dd mX9_copy.2.1 30 (.return_) 1 31 := ⟨by decide +kernel, rfl⟩
theorem dX9_keepPast_0 : Dd mX9_keepPast.2.1 0 (.iconst 0) 1 1 := ⟨by decide +kernel, rfl⟩
theorem dX9_keepPast_1 : Dd mX9_keepPast.2.1 1 (.istore_n 1) 1 2 := ⟨by decide +kernel, rfl⟩
theorem dX9_keepPast_2 : Dd mX9_keepPast.2.1 2 (.iload_n 1) 1 3 := ⟨by decide +kernel, rfl⟩
theorem dX9_keepPast_3 : Dd mX9_keepPast.2.1 3 (.bipush 91) 2 5 := ⟨by decide +kernel, rfl⟩
theorem dX9_keepPast_5 : Dd mX9_keepPast.2.1 5 (.if_icmp .ge 39) 3 8 := ⟨by decide +kernel, rfl⟩
theorem dX9_keepPast_8 : Dd mX9_keepPast.2.1 8 (.aload_n 0) 1 9 := ⟨by decide +kernel, rfl⟩
theorem dX9_keepPast_9 : Dd mX9_keepPast.2.1 9 (.getfield 90) 3 12 := ⟨by decide +kernel, rfl⟩
theorem dX9_keepPast_12 : Dd mX9_keepPast.2.1 12 (.bipush 8) 2 14 := ⟨by decide +kernel, rfl⟩
theorem dX9_keepPast_14 : Dd mX9_keepPast.2.1 14 (.if_icmp .ne 30) 3 17 := ⟨by decide +kernel, rfl⟩
theorem dX9_keepPast_17 : Dd mX9_keepPast.2.1 17 (.aload_n 0) 1 18 := ⟨by decide +kernel, rfl⟩
theorem dX9_keepPast_18 : Dd mX9_keepPast.2.1 18 (.getfield 7) 3 21 := ⟨by decide +kernel, rfl⟩
theorem dX9_keepPast_21 : Dd mX9_keepPast.2.1 21 (.bipush 52) 2 23 := ⟨by decide +kernel, rfl⟩
theorem dX9_keepPast_23 : Dd mX9_keepPast.2.1 23 (.iload_n 1) 1 24 := ⟨by decide +kernel, rfl⟩
theorem dX9_keepPast_24 : Dd mX9_keepPast.2.1 24 (.iadd) 1 25 := ⟨by decide +kernel, rfl⟩
theorem dX9_keepPast_25 : Dd mX9_keepPast.2.1 25 (.aload_n 0) 1 26 := ⟨by decide +kernel, rfl⟩
theorem dX9_keepPast_26 : Dd mX9_keepPast.2.1 26 (.getfield 7) 3 29 := ⟨by decide +kernel, rfl⟩
theorem dX9_keepPast_29 : Dd mX9_keepPast.2.1 29 (.bipush 52) 2 31 := ⟨by decide +kernel, rfl⟩
theorem dX9_keepPast_31 : Dd mX9_keepPast.2.1 31 (.iload_n 1) 1 32 := ⟨by decide +kernel, rfl⟩
theorem dX9_keepPast_32 : Dd mX9_keepPast.2.1 32 (.iadd) 1 33 := ⟨by decide +kernel, rfl⟩
theorem dX9_keepPast_33 : Dd mX9_keepPast.2.1 33 (.bipush 13) 2 35 := ⟨by decide +kernel, rfl⟩
theorem dX9_keepPast_35 : Dd mX9_keepPast.2.1 35 (.iadd) 1 36 := ⟨by decide +kernel, rfl⟩
theorem dX9_keepPast_36 : Dd mX9_keepPast.2.1 36 (.iaload) 1 37 := ⟨by decide +kernel, rfl⟩
theorem dX9_keepPast_37 : Dd mX9_keepPast.2.1 37 (.iastore) 1 38 := ⟨by decide +kernel, rfl⟩
theorem dX9_keepPast_38 : Dd mX9_keepPast.2.1 38 (.iinc 1 1) 3 41 := ⟨by decide +kernel, rfl⟩
theorem dX9_keepPast_41 : Dd mX9_keepPast.2.1 41 (.goto (-39)) 3 44 := ⟨by decide +kernel, rfl⟩
theorem dX9_keepPast_44 : Dd mX9_keepPast.2.1 44 (.aload_n 0) 1 45 := ⟨by decide +kernel, rfl⟩
theorem dX9_keepPast_45 : Dd mX9_keepPast.2.1 45 (.dup) 1 46 := ⟨by decide +kernel, rfl⟩
theorem dX9_keepPast_46 : Dd mX9_keepPast.2.1 46 (.getfield 90) 3 49 := ⟨by decide +kernel, rfl⟩
theorem dX9_keepPast_49 : Dd mX9_keepPast.2.1 49 (.aload_n 0) 1 50 := ⟨by decide +kernel, rfl⟩
theorem dX9_keepPast_50 : Dd mX9_keepPast.2.1 50 (.getfield 90) 3 53 := ⟨by decide +kernel, rfl⟩
theorem dX9_keepPast_53 : Dd mX9_keepPast.2.1 53 (.bipush 8) 2 55 := ⟨by decide +kernel, rfl⟩
theorem dX9_keepPast_55 : Dd mX9_keepPast.2.1 55 (.if_icmp .ne 7) 3 58 := ⟨by decide +kernel, rfl⟩
theorem dX9_keepPast_58 : Dd mX9_keepPast.2.1 58 (.iconst 1) 1 59 := ⟨by decide +kernel, rfl⟩
theorem dX9_keepPast_59 : Dd mX9_keepPast.2.1 59 (.goto 4) 3 62 := ⟨by decide +kernel, rfl⟩
theorem dX9_keepPast_62 : Dd mX9_keepPast.2.1 62 (.iconst 0) 1 63 := ⟨by decide +kernel, rfl⟩
theorem dX9_keepPast_63 : Dd mX9_keepPast.2.1 63 (.isub) 1 64 := ⟨by decide +kernel, rfl⟩
theorem dX9_keepPast_64 : Dd mX9_keepPast.2.1 64 (.putfield 90) 3 67 := ⟨by decide +kernel, rfl⟩
theorem dX9_keepPast_67 : Dd mX9_keepPast.2.1 67 (.aload_n 0) 1 68 := ⟨by decide +kernel, rfl⟩
theorem dX9_keepPast_68 : Dd mX9_keepPast.2.1 68 (.iconst 0) 1 69 := ⟨by decide +kernel, rfl⟩
theorem dX9_keepPast_69 : Dd mX9_keepPast.2.1 69 (.bipush 52) 2 71 := ⟨by decide +kernel, rfl⟩
theorem dX9_keepPast_71 : Dd mX9_keepPast.2.1 71 (.bipush 13) 2 73 := ⟨by decide +kernel, rfl⟩
theorem dX9_keepPast_73 : Dd mX9_keepPast.2.1 73 (.aload_n 0) 1 74 := ⟨by decide +kernel, rfl⟩
theorem dX9_keepPast_74 : Dd mX9_keepPast.2.1 74 (.getfield 90) 3 77 := ⟨by decide +kernel, rfl⟩
theorem dX9_keepPast_77 : Dd mX9_keepPast.2.1 77 (.imul) 1 78 := ⟨by decide +kernel, rfl⟩
theorem dX9_keepPast_78 : Dd mX9_keepPast.2.1 78 (.iadd) 1 79 := ⟨by decide +kernel, rfl⟩
theorem dX9_keepPast_79 : Dd mX9_keepPast.2.1 79 (.invokevirtual 204) 3 82 := ⟨by decide +kernel, rfl⟩
theorem dX9_keepPast_82 : Dd mX9_keepPast.2.1 82 (.aload_n 0) 1 83 := ⟨by decide +kernel, rfl⟩
theorem dX9_keepPast_83 : Dd mX9_keepPast.2.1 83 (.dup) 1 84 := ⟨by decide +kernel, rfl⟩
theorem dX9_keepPast_84 : Dd mX9_keepPast.2.1 84 (.getfield 90) 3 87 := ⟨by decide +kernel, rfl⟩
theorem dX9_keepPast_87 : Dd mX9_keepPast.2.1 87 (.iconst 1) 1 88 := ⟨by decide +kernel, rfl⟩
theorem dX9_keepPast_88 : Dd mX9_keepPast.2.1 88 (.iadd) 1 89 := ⟨by decide +kernel, rfl⟩
theorem dX9_keepPast_89 : Dd mX9_keepPast.2.1 89 (.putfield 90) 3 92 := ⟨by decide +kernel, rfl⟩
theorem dX9_keepPast_92 : Dd mX9_keepPast.2.1 92 (.return_) 1 93 := ⟨by decide +kernel, rfl⟩
theorem dX9_bindIn_0 : Dd mX9_bindIn.2.1 0 (.aload_n 0) 1 1 := ⟨by decide +kernel, rfl⟩
theorem dX9_bindIn_1 : Dd mX9_bindIn.2.1 1 (.getfield 7) 3 4 := ⟨by decide +kernel, rfl⟩
theorem dX9_bindIn_4 : Dd mX9_bindIn.2.1 4 (.iload_n 1) 1 5 := ⟨by decide +kernel, rfl⟩
theorem dX9_bindIn_5 : Dd mX9_bindIn.2.1 5 (.iconst 0) 1 6 := ⟨by decide +kernel, rfl⟩
theorem dX9_bindIn_6 : Dd mX9_bindIn.2.1 6 (.iadd) 1 7 := ⟨by decide +kernel, rfl⟩
theorem dX9_bindIn_7 : Dd mX9_bindIn.2.1 7 (.iload_n 2) 1 8 := ⟨by decide +kernel, rfl⟩
theorem dX9_bindIn_8 : Dd mX9_bindIn.2.1 8 (.iadd) 1 9 := ⟨by decide +kernel, rfl⟩
theorem dX9_bindIn_9 : Dd mX9_bindIn.2.1 9 (.iload_n 3) 1 10 := ⟨by decide +kernel, rfl⟩
theorem dX9_bindIn_10 : Dd mX9_bindIn.2.1 10 (.iastore) 1 11 := ⟨by decide +kernel, rfl⟩
theorem dX9_bindIn_11 : Dd mX9_bindIn.2.1 11 (.aload_n 0) 1 12 := ⟨by decide +kernel, rfl⟩
theorem dX9_bindIn_12 : Dd mX9_bindIn.2.1 12 (.getfield 7) 3 15 := ⟨by decide +kernel, rfl⟩
theorem dX9_bindIn_15 : Dd mX9_bindIn.2.1 15 (.iload_n 1) 1 16 := ⟨by decide +kernel, rfl⟩
theorem dX9_bindIn_16 : Dd mX9_bindIn.2.1 16 (.iconst 4) 1 17 := ⟨by decide +kernel, rfl⟩
theorem dX9_bindIn_17 : Dd mX9_bindIn.2.1 17 (.iadd) 1 18 := ⟨by decide +kernel, rfl⟩
theorem dX9_bindIn_18 : Dd mX9_bindIn.2.1 18 (.iload_n 2) 1 19 := ⟨by decide +kernel, rfl⟩
theorem dX9_bindIn_19 : Dd mX9_bindIn.2.1 19 (.iadd) 1 20 := ⟨by decide +kernel, rfl⟩
theorem dX9_bindIn_20 : Dd mX9_bindIn.2.1 20 (.iconst 0) 1 21 := ⟨by decide +kernel, rfl⟩
theorem dX9_bindIn_21 : Dd mX9_bindIn.2.1 21 (.iastore) 1 22 := ⟨by decide +kernel, rfl⟩
theorem dX9_bindIn_22 : Dd mX9_bindIn.2.1 22 (.return_) 1 23 := ⟨by decide +kernel, rfl⟩
theorem dX9_bind_0 : Dd mX9_bind.2.1 0 (.aload_n 0) 1 1 := ⟨by decide +kernel, rfl⟩
theorem dX9_bind_1 : Dd mX9_bind.2.1 1 (.iload_n 1) 1 2 := ⟨by decide +kernel, rfl⟩
theorem dX9_bind_2 : Dd mX9_bind.2.1 2 (.invokevirtual 192) 3 5 := ⟨by decide +kernel, rfl⟩
theorem dX9_bind_5 : Dd mX9_bind.2.1 5 (.ifCond .eq 11) 3 8 := ⟨by decide +kernel, rfl⟩
theorem dX9_bind_8 : Dd mX9_bind.2.1 8 (.aload_n 0) 1 9 := ⟨by decide +kernel, rfl⟩
theorem dX9_bind_9 : Dd mX9_bind.2.1 9 (.iload_n 2) 1 10 := ⟨by decide +kernel, rfl⟩
theorem dX9_bind_10 : Dd mX9_bind.2.1 10 (.invokevirtual 195) 3 13 := ⟨by decide +kernel, rfl⟩
theorem dX9_bind_13 : Dd mX9_bind.2.1 13 (.ifCond .ne 5) 3 16 := ⟨by decide +kernel, rfl⟩
theorem dX9_bind_16 : Dd mX9_bind.2.1 16 (.iconst (-1)) 1 17 := ⟨by decide +kernel, rfl⟩
theorem dX9_bind_17 : Dd mX9_bind.2.1 17 (.ireturn) 1 18 := ⟨by decide +kernel, rfl⟩
theorem dX9_bind_18 : Dd mX9_bind.2.1 18 (.aload_n 0) 1 19 := ⟨by decide +kernel, rfl⟩
theorem dX9_bind_19 : Dd mX9_bind.2.1 19 (.getfield 7) 3 22 := ⟨by decide +kernel, rfl⟩
theorem dX9_bind_22 : Dd mX9_bind.2.1 22 (.iconst 0) 1 23 := ⟨by decide +kernel, rfl⟩
theorem dX9_bind_23 : Dd mX9_bind.2.1 23 (.iload_n 1) 1 24 := ⟨by decide +kernel, rfl⟩
theorem dX9_bind_24 : Dd mX9_bind.2.1 24 (.iadd) 1 25 := ⟨by decide +kernel, rfl⟩
theorem dX9_bind_25 : Dd mX9_bind.2.1 25 (.iaload) 1 26 := ⟨by decide +kernel, rfl⟩
theorem dX9_bind_26 : Dd mX9_bind.2.1 26 (.ifCond .ne 29) 3 29 := ⟨by decide +kernel, rfl⟩
theorem dX9_bind_29 : Dd mX9_bind.2.1 29 (.iload_n 2) 1 30 := ⟨by decide +kernel, rfl⟩
theorem dX9_bind_30 : Dd mX9_bind.2.1 30 (.aload_n 0) 1 31 := ⟨by decide +kernel, rfl⟩
theorem dX9_bind_31 : Dd mX9_bind.2.1 31 (.iconst 0) 1 32 := ⟨by decide +kernel, rfl⟩
theorem dX9_bind_32 : Dd mX9_bind.2.1 32 (.invokevirtual 189) 3 35 := ⟨by decide +kernel, rfl⟩
theorem dX9_bind_35 : Dd mX9_bind.2.1 35 (.iconst (-1)) 1 36 := ⟨by decide +kernel, rfl⟩
theorem dX9_bind_36 : Dd mX9_bind.2.1 36 (.ixor) 1 37 := ⟨by decide +kernel, rfl⟩
theorem dX9_bind_37 : Dd mX9_bind.2.1 37 (.iand) 1 38 := ⟨by decide +kernel, rfl⟩
theorem dX9_bind_38 : Dd mX9_bind.2.1 38 (.ifCond .ne 17) 3 41 := ⟨by decide +kernel, rfl⟩
theorem dX9_bind_41 : Dd mX9_bind.2.1 41 (.aload_n 0) 1 42 := ⟨by decide +kernel, rfl⟩
theorem dX9_bind_42 : Dd mX9_bind.2.1 42 (.iload_n 2) 1 43 := ⟨by decide +kernel, rfl⟩
theorem dX9_bind_43 : Dd mX9_bind.2.1 43 (.invokevirtual 198) 3 46 := ⟨by decide +kernel, rfl⟩
theorem dX9_bind_46 : Dd mX9_bind.2.1 46 (.aload_n 0) 1 47 := ⟨by decide +kernel, rfl⟩
theorem dX9_bind_47 : Dd mX9_bind.2.1 47 (.getfield 31) 3 50 := ⟨by decide +kernel, rfl⟩
theorem dX9_bind_50 : Dd mX9_bind.2.1 50 (.iload_n 1) 1 51 := ⟨by decide +kernel, rfl⟩
theorem dX9_bind_51 : Dd mX9_bind.2.1 51 (.iaload) 1 52 := ⟨by decide +kernel, rfl⟩
theorem dX9_bind_52 : Dd mX9_bind.2.1 52 (.if_icmp .ge 6) 3 55 := ⟨by decide +kernel, rfl⟩
theorem dX9_bind_55 : Dd mX9_bind.2.1 55 (.bipush (-2)) 2 57 := ⟨by decide +kernel, rfl⟩
theorem dX9_bind_57 : Dd mX9_bind.2.1 57 (.ireturn) 1 58 := ⟨by decide +kernel, rfl⟩
theorem dX9_bind_58 : Dd mX9_bind.2.1 58 (.aload_n 0) 1 59 := ⟨by decide +kernel, rfl⟩
theorem dX9_bind_59 : Dd mX9_bind.2.1 59 (.invokevirtual 207) 3 62 := ⟨by decide +kernel, rfl⟩
theorem dX9_bind_62 : Dd mX9_bind.2.1 62 (.aload_n 0) 1 63 := ⟨by decide +kernel, rfl⟩
theorem dX9_bind_63 : Dd mX9_bind.2.1 63 (.iconst 0) 1 64 := ⟨by decide +kernel, rfl⟩
theorem dX9_bind_64 : Dd mX9_bind.2.1 64 (.iload_n 1) 1 65 := ⟨by decide +kernel, rfl⟩
theorem dX9_bind_65 : Dd mX9_bind.2.1 65 (.iload_n 2) 1 66 := ⟨by decide +kernel, rfl⟩
theorem dX9_bind_66 : Dd mX9_bind.2.1 66 (.invokevirtual 210) 3 69 := ⟨by decide +kernel, rfl⟩
theorem dX9_bind_69 : Dd mX9_bind.2.1 69 (.aload_n 0) 1 70 := ⟨by decide +kernel, rfl⟩
theorem dX9_bind_70 : Dd mX9_bind.2.1 70 (.iload_n 2) 1 71 := ⟨by decide +kernel, rfl⟩
theorem dX9_bind_71 : Dd mX9_bind.2.1 71 (.invokevirtual 198) 3 74 := ⟨by decide +kernel, rfl⟩
theorem dX9_bind_74 : Dd mX9_bind.2.1 74 (.ireturn) 1 75 := ⟨by decide +kernel, rfl⟩
theorem dX9_loosen_0 : Dd mX9_loosen.2.1 0 (.aload_n 0) 1 1 := ⟨by decide +kernel, rfl⟩
theorem dX9_loosen_1 : Dd mX9_loosen.2.1 1 (.iload_n 1) 1 2 := ⟨by decide +kernel, rfl⟩
theorem dX9_loosen_2 : Dd mX9_loosen.2.1 2 (.invokevirtual 192) 3 5 := ⟨by decide +kernel, rfl⟩
theorem dX9_loosen_5 : Dd mX9_loosen.2.1 5 (.ifCond .ne 5) 3 8 := ⟨by decide +kernel, rfl⟩
theorem dX9_loosen_8 : Dd mX9_loosen.2.1 8 (.iconst (-1)) 1 9 := ⟨by decide +kernel, rfl⟩
theorem dX9_loosen_9 : Dd mX9_loosen.2.1 9 (.ireturn) 1 10 := ⟨by decide +kernel, rfl⟩
theorem dX9_loosen_10 : Dd mX9_loosen.2.1 10 (.aload_n 0) 1 11 := ⟨by decide +kernel, rfl⟩
theorem dX9_loosen_11 : Dd mX9_loosen.2.1 11 (.getfield 7) 3 14 := ⟨by decide +kernel, rfl⟩
theorem dX9_loosen_14 : Dd mX9_loosen.2.1 14 (.iconst 0) 1 15 := ⟨by decide +kernel, rfl⟩
theorem dX9_loosen_15 : Dd mX9_loosen.2.1 15 (.iload_n 1) 1 16 := ⟨by decide +kernel, rfl⟩
theorem dX9_loosen_16 : Dd mX9_loosen.2.1 16 (.iadd) 1 17 := ⟨by decide +kernel, rfl⟩
theorem dX9_loosen_17 : Dd mX9_loosen.2.1 17 (.iaload) 1 18 := ⟨by decide +kernel, rfl⟩
theorem dX9_loosen_18 : Dd mX9_loosen.2.1 18 (.ifCond .ne 6) 3 21 := ⟨by decide +kernel, rfl⟩
theorem dX9_loosen_21 : Dd mX9_loosen.2.1 21 (.bipush (-2)) 2 23 := ⟨by decide +kernel, rfl⟩
theorem dX9_loosen_23 : Dd mX9_loosen.2.1 23 (.ireturn) 1 24 := ⟨by decide +kernel, rfl⟩
theorem dX9_loosen_24 : Dd mX9_loosen.2.1 24 (.aload_n 0) 1 25 := ⟨by decide +kernel, rfl⟩
theorem dX9_loosen_25 : Dd mX9_loosen.2.1 25 (.invokevirtual 207) 3 28 := ⟨by decide +kernel, rfl⟩
theorem dX9_loosen_28 : Dd mX9_loosen.2.1 28 (.aload_n 0) 1 29 := ⟨by decide +kernel, rfl⟩
theorem dX9_loosen_29 : Dd mX9_loosen.2.1 29 (.getfield 7) 3 32 := ⟨by decide +kernel, rfl⟩
theorem dX9_loosen_32 : Dd mX9_loosen.2.1 32 (.iconst 0) 1 33 := ⟨by decide +kernel, rfl⟩
theorem dX9_loosen_33 : Dd mX9_loosen.2.1 33 (.iload_n 1) 1 34 := ⟨by decide +kernel, rfl⟩
theorem dX9_loosen_34 : Dd mX9_loosen.2.1 34 (.iadd) 1 35 := ⟨by decide +kernel, rfl⟩
theorem dX9_loosen_35 : Dd mX9_loosen.2.1 35 (.iaload) 1 36 := ⟨by decide +kernel, rfl⟩
theorem dX9_loosen_36 : Dd mX9_loosen.2.1 36 (.invokestatic 214) 3 39 := ⟨by decide +kernel, rfl⟩
theorem dX9_loosen_39 : Dd mX9_loosen.2.1 39 (.istore_n 2) 1 40 := ⟨by decide +kernel, rfl⟩
theorem dX9_loosen_40 : Dd mX9_loosen.2.1 40 (.aload_n 0) 1 41 := ⟨by decide +kernel, rfl⟩
theorem dX9_loosen_41 : Dd mX9_loosen.2.1 41 (.iconst 0) 1 42 := ⟨by decide +kernel, rfl⟩
theorem dX9_loosen_42 : Dd mX9_loosen.2.1 42 (.iload_n 1) 1 43 := ⟨by decide +kernel, rfl⟩
theorem dX9_loosen_43 : Dd mX9_loosen.2.1 43 (.iconst 0) 1 44 := ⟨by decide +kernel, rfl⟩
theorem dX9_loosen_44 : Dd mX9_loosen.2.1 44 (.invokevirtual 210) 3 47 := ⟨by decide +kernel, rfl⟩
theorem dX9_loosen_47 : Dd mX9_loosen.2.1 47 (.iload_n 2) 1 48 := ⟨by decide +kernel, rfl⟩
theorem dX9_loosen_48 : Dd mX9_loosen.2.1 48 (.ireturn) 1 49 := ⟨by decide +kernel, rfl⟩
theorem dX9_lentIn_0 : Dd mX9_lentIn.2.1 0 (.iconst 0) 1 1 := ⟨by decide +kernel, rfl⟩
theorem dX9_lentIn_1 : Dd mX9_lentIn.2.1 1 (.istore_n 2) 1 2 := ⟨by decide +kernel, rfl⟩
theorem dX9_lentIn_2 : Dd mX9_lentIn.2.1 2 (.iconst 0) 1 3 := ⟨by decide +kernel, rfl⟩
theorem dX9_lentIn_3 : Dd mX9_lentIn.2.1 3 (.istore_n 3) 1 4 := ⟨by decide +kernel, rfl⟩
theorem dX9_lentIn_4 : Dd mX9_lentIn.2.1 4 (.iload_n 3) 1 5 := ⟨by decide +kernel, rfl⟩
theorem dX9_lentIn_5 : Dd mX9_lentIn.2.1 5 (.aload_n 0) 1 6 := ⟨by decide +kernel, rfl⟩
theorem dX9_lentIn_6 : Dd mX9_lentIn.2.1 6 (.getfield 74) 3 9 := ⟨by decide +kernel, rfl⟩
theorem dX9_lentIn_9 : Dd mX9_lentIn.2.1 9 (.if_icmp .ge 37) 3 12 := ⟨by decide +kernel, rfl⟩
theorem dX9_lentIn_12 : Dd mX9_lentIn.2.1 12 (.iload_n 2) 1 13 := ⟨by decide +kernel, rfl⟩
theorem dX9_lentIn_13 : Dd mX9_lentIn.2.1 13 (.iload_n 1) 1 14 := ⟨by decide +kernel, rfl⟩
theorem dX9_lentIn_14 : Dd mX9_lentIn.2.1 14 (.iload_n 3) 1 15 := ⟨by decide +kernel, rfl⟩
theorem dX9_lentIn_15 : Dd mX9_lentIn.2.1 15 (.invokestatic 166) 3 18 := ⟨by decide +kernel, rfl⟩
theorem dX9_lentIn_18 : Dd mX9_lentIn.2.1 18 (.ifCond .eq 19) 3 21 := ⟨by decide +kernel, rfl⟩
theorem dX9_lentIn_21 : Dd mX9_lentIn.2.1 21 (.aload_n 0) 1 22 := ⟨by decide +kernel, rfl⟩
theorem dX9_lentIn_22 : Dd mX9_lentIn.2.1 22 (.getfield 19) 3 25 := ⟨by decide +kernel, rfl⟩
theorem dX9_lentIn_25 : Dd mX9_lentIn.2.1 25 (.iload_n 3) 1 26 := ⟨by decide +kernel, rfl⟩
theorem dX9_lentIn_26 : Dd mX9_lentIn.2.1 26 (.iaload) 1 27 := ⟨by decide +kernel, rfl⟩
theorem dX9_lentIn_27 : Dd mX9_lentIn.2.1 27 (.iconst 2) 1 28 := ⟨by decide +kernel, rfl⟩
theorem dX9_lentIn_28 : Dd mX9_lentIn.2.1 28 (.if_icmp .ne 9) 3 31 := ⟨by decide +kernel, rfl⟩
theorem dX9_lentIn_31 : Dd mX9_lentIn.2.1 31 (.iconst 1) 1 32 := ⟨by decide +kernel, rfl⟩
theorem dX9_lentIn_32 : Dd mX9_lentIn.2.1 32 (.iload_n 3) 1 33 := ⟨by decide +kernel, rfl⟩
theorem dX9_lentIn_33 : Dd mX9_lentIn.2.1 33 (.ishl) 1 34 := ⟨by decide +kernel, rfl⟩
theorem dX9_lentIn_34 : Dd mX9_lentIn.2.1 34 (.goto 4) 3 37 := ⟨by decide +kernel, rfl⟩
theorem dX9_lentIn_37 : Dd mX9_lentIn.2.1 37 (.iconst 0) 1 38 := ⟨by decide +kernel, rfl⟩
theorem dX9_lentIn_38 : Dd mX9_lentIn.2.1 38 (.ior) 1 39 := ⟨by decide +kernel, rfl⟩
theorem dX9_lentIn_39 : Dd mX9_lentIn.2.1 39 (.istore_n 2) 1 40 := ⟨by decide +kernel, rfl⟩
theorem dX9_lentIn_40 : Dd mX9_lentIn.2.1 40 (.iinc 3 1) 3 43 := ⟨by decide +kernel, rfl⟩
theorem dX9_lentIn_43 : Dd mX9_lentIn.2.1 43 (.goto (-39)) 3 46 := ⟨by decide +kernel, rfl⟩
theorem dX9_lentIn_46 : Dd mX9_lentIn.2.1 46 (.iload_n 2) 1 47 := ⟨by decide +kernel, rfl⟩
theorem dX9_lentIn_47 : Dd mX9_lentIn.2.1 47 (.ireturn) 1 48 := ⟨by decide +kernel, rfl⟩
theorem dX9_dayIn_0 : Dd mX9_dayIn.2.1 0 (.iconst 0) 1 1 := ⟨by decide +kernel, rfl⟩
theorem dX9_dayIn_1 : Dd mX9_dayIn.2.1 1 (.istore_n 2) 1 2 := ⟨by decide +kernel, rfl⟩
theorem dX9_dayIn_2 : Dd mX9_dayIn.2.1 2 (.iconst 0) 1 3 := ⟨by decide +kernel, rfl⟩
theorem dX9_dayIn_3 : Dd mX9_dayIn.2.1 3 (.istore_n 3) 1 4 := ⟨by decide +kernel, rfl⟩
theorem dX9_dayIn_4 : Dd mX9_dayIn.2.1 4 (.iload_n 3) 1 5 := ⟨by decide +kernel, rfl⟩
theorem dX9_dayIn_5 : Dd mX9_dayIn.2.1 5 (.aload_n 0) 1 6 := ⟨by decide +kernel, rfl⟩
theorem dX9_dayIn_6 : Dd mX9_dayIn.2.1 6 (.getfield 84) 3 9 := ⟨by decide +kernel, rfl⟩
theorem dX9_dayIn_9 : Dd mX9_dayIn.2.1 9 (.if_icmp .ge 127) 3 12 := ⟨by decide +kernel, rfl⟩
theorem dX9_dayIn_12 : Dd mX9_dayIn.2.1 12 (.aload_n 0) 1 13 := ⟨by decide +kernel, rfl⟩
theorem dX9_dayIn_13 : Dd mX9_dayIn.2.1 13 (.getfield 7) 3 16 := ⟨by decide +kernel, rfl⟩
theorem dX9_dayIn_16 : Dd mX9_dayIn.2.1 16 (.iload_n 1) 1 17 := ⟨by decide +kernel, rfl⟩
theorem dX9_dayIn_17 : Dd mX9_dayIn.2.1 17 (.iconst 0) 1 18 := ⟨by decide +kernel, rfl⟩
theorem dX9_dayIn_18 : Dd mX9_dayIn.2.1 18 (.iadd) 1 19 := ⟨by decide +kernel, rfl⟩
theorem dX9_dayIn_19 : Dd mX9_dayIn.2.1 19 (.iload_n 3) 1 20 := ⟨by decide +kernel, rfl⟩
theorem dX9_dayIn_20 : Dd mX9_dayIn.2.1 20 (.iadd) 1 21 := ⟨by decide +kernel, rfl⟩
theorem dX9_dayIn_21 : Dd mX9_dayIn.2.1 21 (.iaload) 1 22 := ⟨by decide +kernel, rfl⟩
theorem dX9_dayIn_22 : Dd mX9_dayIn.2.1 22 (.ifCond .eq 108) 3 25 := ⟨by decide +kernel, rfl⟩
theorem dX9_dayIn_25 : Dd mX9_dayIn.2.1 25 (.aload_n 0) 1 26 := ⟨by decide +kernel, rfl⟩
theorem dX9_dayIn_26 : Dd mX9_dayIn.2.1 26 (.getfield 7) 3 29 := ⟨by decide +kernel, rfl⟩
theorem dX9_dayIn_29 : Dd mX9_dayIn.2.1 29 (.iload_n 1) 1 30 := ⟨by decide +kernel, rfl⟩
theorem dX9_dayIn_30 : Dd mX9_dayIn.2.1 30 (.iconst 4) 1 31 := ⟨by decide +kernel, rfl⟩
theorem dX9_dayIn_31 : Dd mX9_dayIn.2.1 31 (.iadd) 1 32 := ⟨by decide +kernel, rfl⟩
theorem dX9_dayIn_32 : Dd mX9_dayIn.2.1 32 (.iload_n 3) 1 33 := ⟨by decide +kernel, rfl⟩
theorem dX9_dayIn_33 : Dd mX9_dayIn.2.1 33 (.iadd) 1 34 := ⟨by decide +kernel, rfl⟩
theorem dX9_dayIn_34 : Dd mX9_dayIn.2.1 34 (.dup2) 1 35 := ⟨by decide +kernel, rfl⟩
theorem dX9_dayIn_35 : Dd mX9_dayIn.2.1 35 (.iaload) 1 36 := ⟨by decide +kernel, rfl⟩
theorem dX9_dayIn_36 : Dd mX9_dayIn.2.1 36 (.iconst 1) 1 37 := ⟨by decide +kernel, rfl⟩
theorem dX9_dayIn_37 : Dd mX9_dayIn.2.1 37 (.iadd) 1 38 := ⟨by decide +kernel, rfl⟩
theorem dX9_dayIn_38 : Dd mX9_dayIn.2.1 38 (.iastore) 1 39 := ⟨by decide +kernel, rfl⟩
theorem dX9_dayIn_39 : Dd mX9_dayIn.2.1 39 (.aload_n 0) 1 40 := ⟨by decide +kernel, rfl⟩
theorem dX9_dayIn_40 : Dd mX9_dayIn.2.1 40 (.getfield 7) 3 43 := ⟨by decide +kernel, rfl⟩
theorem dX9_dayIn_43 : Dd mX9_dayIn.2.1 43 (.iload_n 1) 1 44 := ⟨by decide +kernel, rfl⟩
theorem dX9_dayIn_44 : Dd mX9_dayIn.2.1 44 (.iconst 4) 1 45 := ⟨by decide +kernel, rfl⟩
theorem dX9_dayIn_45 : Dd mX9_dayIn.2.1 45 (.iadd) 1 46 := ⟨by decide +kernel, rfl⟩
theorem dX9_dayIn_46 : Dd mX9_dayIn.2.1 46 (.iload_n 3) 1 47 := ⟨by decide +kernel, rfl⟩
theorem dX9_dayIn_47 : Dd mX9_dayIn.2.1 47 (.iadd) 1 48 := ⟨by decide +kernel, rfl⟩
theorem dX9_dayIn_48 : Dd mX9_dayIn.2.1 48 (.iaload) 1 49 := ⟨by decide +kernel, rfl⟩
theorem dX9_dayIn_49 : Dd mX9_dayIn.2.1 49 (.iconst 3) 1 50 := ⟨by decide +kernel, rfl⟩
theorem dX9_dayIn_50 : Dd mX9_dayIn.2.1 50 (.if_icmp .ne 32) 3 53 := ⟨by decide +kernel, rfl⟩
theorem dX9_dayIn_53 : Dd mX9_dayIn.2.1 53 (.aload_n 0) 1 54 := ⟨by decide +kernel, rfl⟩
theorem dX9_dayIn_54 : Dd mX9_dayIn.2.1 54 (.getfield 7) 3 57 := ⟨by decide +kernel, rfl⟩
theorem dX9_dayIn_57 : Dd mX9_dayIn.2.1 57 (.iload_n 1) 1 58 := ⟨by decide +kernel, rfl⟩
theorem dX9_dayIn_58 : Dd mX9_dayIn.2.1 58 (.iconst 0) 1 59 := ⟨by decide +kernel, rfl⟩
theorem dX9_dayIn_59 : Dd mX9_dayIn.2.1 59 (.iadd) 1 60 := ⟨by decide +kernel, rfl⟩
theorem dX9_dayIn_60 : Dd mX9_dayIn.2.1 60 (.iload_n 3) 1 61 := ⟨by decide +kernel, rfl⟩
theorem dX9_dayIn_61 : Dd mX9_dayIn.2.1 61 (.iadd) 1 62 := ⟨by decide +kernel, rfl⟩
theorem dX9_dayIn_62 : Dd mX9_dayIn.2.1 62 (.dup2) 1 63 := ⟨by decide +kernel, rfl⟩
theorem dX9_dayIn_63 : Dd mX9_dayIn.2.1 63 (.iaload) 1 64 := ⟨by decide +kernel, rfl⟩
theorem dX9_dayIn_64 : Dd mX9_dayIn.2.1 64 (.aload_n 0) 1 65 := ⟨by decide +kernel, rfl⟩
theorem dX9_dayIn_65 : Dd mX9_dayIn.2.1 65 (.aload_n 0) 1 66 := ⟨by decide +kernel, rfl⟩
theorem dX9_dayIn_66 : Dd mX9_dayIn.2.1 66 (.getfield 7) 3 69 := ⟨by decide +kernel, rfl⟩
theorem dX9_dayIn_69 : Dd mX9_dayIn.2.1 69 (.iload_n 1) 1 70 := ⟨by decide +kernel, rfl⟩
theorem dX9_dayIn_70 : Dd mX9_dayIn.2.1 70 (.iconst 0) 1 71 := ⟨by decide +kernel, rfl⟩
theorem dX9_dayIn_71 : Dd mX9_dayIn.2.1 71 (.iadd) 1 72 := ⟨by decide +kernel, rfl⟩
theorem dX9_dayIn_72 : Dd mX9_dayIn.2.1 72 (.iload_n 3) 1 73 := ⟨by decide +kernel, rfl⟩
theorem dX9_dayIn_73 : Dd mX9_dayIn.2.1 73 (.iadd) 1 74 := ⟨by decide +kernel, rfl⟩
theorem dX9_dayIn_74 : Dd mX9_dayIn.2.1 74 (.iaload) 1 75 := ⟨by decide +kernel, rfl⟩
theorem dX9_dayIn_75 : Dd mX9_dayIn.2.1 75 (.invokevirtual 217) 3 78 := ⟨by decide +kernel, rfl⟩
theorem dX9_dayIn_78 : Dd mX9_dayIn.2.1 78 (.iconst (-1)) 1 79 := ⟨by decide +kernel, rfl⟩
theorem dX9_dayIn_79 : Dd mX9_dayIn.2.1 79 (.ixor) 1 80 := ⟨by decide +kernel, rfl⟩
theorem dX9_dayIn_80 : Dd mX9_dayIn.2.1 80 (.iand) 1 81 := ⟨by decide +kernel, rfl⟩
theorem dX9_dayIn_81 : Dd mX9_dayIn.2.1 81 (.iastore) 1 82 := ⟨by decide +kernel, rfl⟩
theorem dX9_dayIn_82 : Dd mX9_dayIn.2.1 82 (.aload_n 0) 1 83 := ⟨by decide +kernel, rfl⟩
theorem dX9_dayIn_83 : Dd mX9_dayIn.2.1 83 (.aload_n 0) 1 84 := ⟨by decide +kernel, rfl⟩
theorem dX9_dayIn_84 : Dd mX9_dayIn.2.1 84 (.getfield 7) 3 87 := ⟨by decide +kernel, rfl⟩
theorem dX9_dayIn_87 : Dd mX9_dayIn.2.1 87 (.iload_n 1) 1 88 := ⟨by decide +kernel, rfl⟩
theorem dX9_dayIn_88 : Dd mX9_dayIn.2.1 88 (.iconst 0) 1 89 := ⟨by decide +kernel, rfl⟩
theorem dX9_dayIn_89 : Dd mX9_dayIn.2.1 89 (.iadd) 1 90 := ⟨by decide +kernel, rfl⟩
theorem dX9_dayIn_90 : Dd mX9_dayIn.2.1 90 (.iload_n 3) 1 91 := ⟨by decide +kernel, rfl⟩
theorem dX9_dayIn_91 : Dd mX9_dayIn.2.1 91 (.iadd) 1 92 := ⟨by decide +kernel, rfl⟩
theorem dX9_dayIn_92 : Dd mX9_dayIn.2.1 92 (.iaload) 1 93 := ⟨by decide +kernel, rfl⟩
theorem dX9_dayIn_93 : Dd mX9_dayIn.2.1 93 (.invokevirtual 198) 3 96 := ⟨by decide +kernel, rfl⟩
theorem dX9_dayIn_96 : Dd mX9_dayIn.2.1 96 (.aload_n 0) 1 97 := ⟨by decide +kernel, rfl⟩
theorem dX9_dayIn_97 : Dd mX9_dayIn.2.1 97 (.getfield 31) 3 100 := ⟨by decide +kernel, rfl⟩
theorem dX9_dayIn_100 : Dd mX9_dayIn.2.1 100 (.iload_n 3) 1 101 := ⟨by decide +kernel, rfl⟩
theorem dX9_dayIn_101 : Dd mX9_dayIn.2.1 101 (.iaload) 1 102 := ⟨by decide +kernel, rfl⟩
theorem dX9_dayIn_102 : Dd mX9_dayIn.2.1 102 (.if_icmp .ge 28) 3 105 := ⟨by decide +kernel, rfl⟩
theorem dX9_dayIn_105 : Dd mX9_dayIn.2.1 105 (.aload_n 0) 1 106 := ⟨by decide +kernel, rfl⟩
theorem dX9_dayIn_106 : Dd mX9_dayIn.2.1 106 (.iload_n 1) 1 107 := ⟨by decide +kernel, rfl⟩
theorem dX9_dayIn_107 : Dd mX9_dayIn.2.1 107 (.iload_n 3) 1 108 := ⟨by decide +kernel, rfl⟩
theorem dX9_dayIn_108 : Dd mX9_dayIn.2.1 108 (.iconst 0) 1 109 := ⟨by decide +kernel, rfl⟩
theorem dX9_dayIn_109 : Dd mX9_dayIn.2.1 109 (.invokevirtual 210) 3 112 := ⟨by decide +kernel, rfl⟩
theorem dX9_dayIn_112 : Dd mX9_dayIn.2.1 112 (.aload_n 0) 1 113 := ⟨by decide +kernel, rfl⟩
theorem dX9_dayIn_113 : Dd mX9_dayIn.2.1 113 (.getfield 7) 3 116 := ⟨by decide +kernel, rfl⟩
theorem dX9_dayIn_116 : Dd mX9_dayIn.2.1 116 (.iload_n 1) 1 117 := ⟨by decide +kernel, rfl⟩
theorem dX9_dayIn_117 : Dd mX9_dayIn.2.1 117 (.bipush 8) 2 119 := ⟨by decide +kernel, rfl⟩
theorem dX9_dayIn_119 : Dd mX9_dayIn.2.1 119 (.iadd) 1 120 := ⟨by decide +kernel, rfl⟩
theorem dX9_dayIn_120 : Dd mX9_dayIn.2.1 120 (.iload_n 3) 1 121 := ⟨by decide +kernel, rfl⟩
theorem dX9_dayIn_121 : Dd mX9_dayIn.2.1 121 (.iadd) 1 122 := ⟨by decide +kernel, rfl⟩
theorem dX9_dayIn_122 : Dd mX9_dayIn.2.1 122 (.dup2) 1 123 := ⟨by decide +kernel, rfl⟩
theorem dX9_dayIn_123 : Dd mX9_dayIn.2.1 123 (.iaload) 1 124 := ⟨by decide +kernel, rfl⟩
theorem dX9_dayIn_124 : Dd mX9_dayIn.2.1 124 (.iconst 1) 1 125 := ⟨by decide +kernel, rfl⟩
theorem dX9_dayIn_125 : Dd mX9_dayIn.2.1 125 (.iadd) 1 126 := ⟨by decide +kernel, rfl⟩
theorem dX9_dayIn_126 : Dd mX9_dayIn.2.1 126 (.iastore) 1 127 := ⟨by decide +kernel, rfl⟩
theorem dX9_dayIn_127 : Dd mX9_dayIn.2.1 127 (.iinc 2 1) 3 130 := ⟨by decide +kernel, rfl⟩
theorem dX9_dayIn_130 : Dd mX9_dayIn.2.1 130 (.iinc 3 1) 3 133 := ⟨by decide +kernel, rfl⟩
theorem dX9_dayIn_133 : Dd mX9_dayIn.2.1 133 (.goto (-129)) 3 136 := ⟨by decide +kernel, rfl⟩
theorem dX9_dayIn_136 : Dd mX9_dayIn.2.1 136 (.aload_n 0) 1 137 := ⟨by decide +kernel, rfl⟩
theorem dX9_dayIn_137 : Dd mX9_dayIn.2.1 137 (.getfield 7) 3 140 := ⟨by decide +kernel, rfl⟩
theorem dX9_dayIn_140 : Dd mX9_dayIn.2.1 140 (.iload_n 1) 1 141 := ⟨by decide +kernel, rfl⟩
theorem dX9_dayIn_141 : Dd mX9_dayIn.2.1 141 (.bipush 12) 2 143 := ⟨by decide +kernel, rfl⟩
theorem dX9_dayIn_143 : Dd mX9_dayIn.2.1 143 (.iadd) 1 144 := ⟨by decide +kernel, rfl⟩
theorem dX9_dayIn_144 : Dd mX9_dayIn.2.1 144 (.dup2) 1 145 := ⟨by decide +kernel, rfl⟩
theorem dX9_dayIn_145 : Dd mX9_dayIn.2.1 145 (.iaload) 1 146 := ⟨by decide +kernel, rfl⟩
theorem dX9_dayIn_146 : Dd mX9_dayIn.2.1 146 (.iconst 1) 1 147 := ⟨by decide +kernel, rfl⟩
theorem dX9_dayIn_147 : Dd mX9_dayIn.2.1 147 (.iadd) 1 148 := ⟨by decide +kernel, rfl⟩
theorem dX9_dayIn_148 : Dd mX9_dayIn.2.1 148 (.iastore) 1 149 := ⟨by decide +kernel, rfl⟩
theorem dX9_dayIn_149 : Dd mX9_dayIn.2.1 149 (.iload_n 2) 1 150 := ⟨by decide +kernel, rfl⟩
theorem dX9_dayIn_150 : Dd mX9_dayIn.2.1 150 (.ireturn) 1 151 := ⟨by decide +kernel, rfl⟩
theorem dX9_days_0 : Dd mX9_days.2.1 0 (.iload_n 1) 1 1 := ⟨by decide +kernel, rfl⟩
theorem dX9_days_1 : Dd mX9_days.2.1 1 (.i2l) 1 2 := ⟨by decide +kernel, rfl⟩
theorem dX9_days_2 : Dd mX9_days.2.1 2 (.lconst 1) 1 3 := ⟨by decide +kernel, rfl⟩
theorem dX9_days_3 : Dd mX9_days.2.1 3 (.ldc2_w 220) 3 6 := ⟨by decide +kernel, rfl⟩
theorem dX9_days_6 : Dd mX9_days.2.1 6 (.invokestatic 100) 3 9 := ⟨by decide +kernel, rfl⟩
theorem dX9_days_9 : Dd mX9_days.2.1 9 (.ifCond .ne 5) 3 12 := ⟨by decide +kernel, rfl⟩
theorem dX9_days_12 : Dd mX9_days.2.1 12 (.iconst (-1)) 1 13 := ⟨by decide +kernel, rfl⟩
theorem dX9_days_13 : Dd mX9_days.2.1 13 (.ireturn) 1 14 := ⟨by decide +kernel, rfl⟩
theorem dX9_days_14 : Dd mX9_days.2.1 14 (.aload_n 0) 1 15 := ⟨by decide +kernel, rfl⟩
theorem dX9_days_15 : Dd mX9_days.2.1 15 (.getfield 7) 3 18 := ⟨by decide +kernel, rfl⟩
theorem dX9_days_18 : Dd mX9_days.2.1 18 (.bipush 12) 2 20 := ⟨by decide +kernel, rfl⟩
theorem dX9_days_20 : Dd mX9_days.2.1 20 (.iaload) 1 21 := ⟨by decide +kernel, rfl⟩
theorem dX9_days_21 : Dd mX9_days.2.1 21 (.iload_n 1) 1 22 := ⟨by decide +kernel, rfl⟩
theorem dX9_days_22 : Dd mX9_days.2.1 22 (.iadd) 1 23 := ⟨by decide +kernel, rfl⟩
theorem dX9_days_23 : Dd mX9_days.2.1 23 (.sipush 999) 3 26 := ⟨by decide +kernel, rfl⟩
theorem dX9_days_26 : Dd mX9_days.2.1 26 (.if_icmp .le 6) 3 29 := ⟨by decide +kernel, rfl⟩
theorem dX9_days_29 : Dd mX9_days.2.1 29 (.bipush (-2)) 2 31 := ⟨by decide +kernel, rfl⟩
theorem dX9_days_31 : Dd mX9_days.2.1 31 (.ireturn) 1 32 := ⟨by decide +kernel, rfl⟩
theorem dX9_days_32 : Dd mX9_days.2.1 32 (.aload_n 0) 1 33 := ⟨by decide +kernel, rfl⟩
theorem dX9_days_33 : Dd mX9_days.2.1 33 (.invokevirtual 207) 3 36 := ⟨by decide +kernel, rfl⟩
theorem dX9_days_36 : Dd mX9_days.2.1 36 (.iconst 0) 1 37 := ⟨by decide +kernel, rfl⟩
theorem dX9_days_37 : Dd mX9_days.2.1 37 (.istore_n 2) 1 38 := ⟨by decide +kernel, rfl⟩
theorem dX9_days_38 : Dd mX9_days.2.1 38 (.iconst 0) 1 39 := ⟨by decide +kernel, rfl⟩
theorem dX9_days_39 : Dd mX9_days.2.1 39 (.istore_n 3) 1 40 := ⟨by decide +kernel, rfl⟩
theorem dX9_days_40 : Dd mX9_days.2.1 40 (.iload_n 3) 1 41 := ⟨by decide +kernel, rfl⟩
theorem dX9_days_41 : Dd mX9_days.2.1 41 (.iload_n 1) 1 42 := ⟨by decide +kernel, rfl⟩
theorem dX9_days_42 : Dd mX9_days.2.1 42 (.if_icmp .ge 17) 3 45 := ⟨by decide +kernel, rfl⟩
theorem dX9_days_45 : Dd mX9_days.2.1 45 (.iload_n 2) 1 46 := ⟨by decide +kernel, rfl⟩
theorem dX9_days_46 : Dd mX9_days.2.1 46 (.aload_n 0) 1 47 := ⟨by decide +kernel, rfl⟩
theorem dX9_days_47 : Dd mX9_days.2.1 47 (.iconst 0) 1 48 := ⟨by decide +kernel, rfl⟩
theorem dX9_days_48 : Dd mX9_days.2.1 48 (.invokevirtual 222) 3 51 := ⟨by decide +kernel, rfl⟩
theorem dX9_days_51 : Dd mX9_days.2.1 51 (.iadd) 1 52 := ⟨by decide +kernel, rfl⟩
theorem dX9_days_52 : Dd mX9_days.2.1 52 (.istore_n 2) 1 53 := ⟨by decide +kernel, rfl⟩
theorem dX9_days_53 : Dd mX9_days.2.1 53 (.iinc 3 1) 3 56 := ⟨by decide +kernel, rfl⟩
theorem dX9_days_56 : Dd mX9_days.2.1 56 (.goto (-16)) 3 59 := ⟨by decide +kernel, rfl⟩
theorem dX9_days_59 : Dd mX9_days.2.1 59 (.iload_n 2) 1 60 := ⟨by decide +kernel, rfl⟩
theorem dX9_days_60 : Dd mX9_days.2.1 60 (.ireturn) 1 61 := ⟨by decide +kernel, rfl⟩
theorem dX9_undo_0 : Dd mX9_undo.2.1 0 (.aload_n 0) 1 1 := ⟨by decide +kernel, rfl⟩
theorem dX9_undo_1 : Dd mX9_undo.2.1 1 (.getfield 90) 3 4 := ⟨by decide +kernel, rfl⟩
theorem dX9_undo_4 : Dd mX9_undo.2.1 4 (.ifCond .ne 6) 3 7 := ⟨by decide +kernel, rfl⟩
theorem dX9_undo_7 : Dd mX9_undo.2.1 7 (.bipush (-2)) 2 9 := ⟨by decide +kernel, rfl⟩
theorem dX9_undo_9 : Dd mX9_undo.2.1 9 (.ireturn) 1 10 := ⟨by decide +kernel, rfl⟩
theorem dX9_undo_10 : Dd mX9_undo.2.1 10 (.aload_n 0) 1 11 := ⟨by decide +kernel, rfl⟩
theorem dX9_undo_11 : Dd mX9_undo.2.1 11 (.dup) 1 12 := ⟨by decide +kernel, rfl⟩
theorem dX9_undo_12 : Dd mX9_undo.2.1 12 (.getfield 90) 3 15 := ⟨by decide +kernel, rfl⟩
theorem dX9_undo_15 : Dd mX9_undo.2.1 15 (.iconst 1) 1 16 := ⟨by decide +kernel, rfl⟩
theorem dX9_undo_16 : Dd mX9_undo.2.1 16 (.isub) 1 17 := ⟨by decide +kernel, rfl⟩
theorem dX9_undo_17 : Dd mX9_undo.2.1 17 (.putfield 90) 3 20 := ⟨by decide +kernel, rfl⟩
theorem dX9_undo_20 : Dd mX9_undo.2.1 20 (.aload_n 0) 1 21 := ⟨by decide +kernel, rfl⟩
theorem dX9_undo_21 : Dd mX9_undo.2.1 21 (.bipush 52) 2 23 := ⟨by decide +kernel, rfl⟩
theorem dX9_undo_23 : Dd mX9_undo.2.1 23 (.bipush 13) 2 25 := ⟨by decide +kernel, rfl⟩
theorem dX9_undo_25 : Dd mX9_undo.2.1 25 (.aload_n 0) 1 26 := ⟨by decide +kernel, rfl⟩
theorem dX9_undo_26 : Dd mX9_undo.2.1 26 (.getfield 90) 3 29 := ⟨by decide +kernel, rfl⟩
theorem dX9_undo_29 : Dd mX9_undo.2.1 29 (.imul) 1 30 := ⟨by decide +kernel, rfl⟩
theorem dX9_undo_30 : Dd mX9_undo.2.1 30 (.iadd) 1 31 := ⟨by decide +kernel, rfl⟩
theorem dX9_undo_31 : Dd mX9_undo.2.1 31 (.iconst 0) 1 32 := ⟨by decide +kernel, rfl⟩
theorem dX9_undo_32 : Dd mX9_undo.2.1 32 (.invokevirtual 204) 3 35 := ⟨by decide +kernel, rfl⟩
theorem dX9_undo_35 : Dd mX9_undo.2.1 35 (.aload_n 0) 1 36 := ⟨by decide +kernel, rfl⟩
theorem dX9_undo_36 : Dd mX9_undo.2.1 36 (.getfield 90) 3 39 := ⟨by decide +kernel, rfl⟩
theorem dX9_undo_39 : Dd mX9_undo.2.1 39 (.ireturn) 1 40 := ⟨by decide +kernel, rfl⟩
theorem dX9_cost_0 : Dd mX9_cost.2.1 0 (.aload_n 0) 1 1 := ⟨by decide +kernel, rfl⟩
theorem dX9_cost_1 : Dd mX9_cost.2.1 1 (.iload_n 1) 1 2 := ⟨by decide +kernel, rfl⟩
theorem dX9_cost_2 : Dd mX9_cost.2.1 2 (.invokevirtual 195) 3 5 := ⟨by decide +kernel, rfl⟩
theorem dX9_cost_5 : Dd mX9_cost.2.1 5 (.ifCond .eq 12) 3 8 := ⟨by decide +kernel, rfl⟩
theorem dX9_cost_8 : Dd mX9_cost.2.1 8 (.aload_n 0) 1 9 := ⟨by decide +kernel, rfl⟩
theorem dX9_cost_9 : Dd mX9_cost.2.1 9 (.iconst 0) 1 10 := ⟨by decide +kernel, rfl⟩
theorem dX9_cost_10 : Dd mX9_cost.2.1 10 (.iload_n 1) 1 11 := ⟨by decide +kernel, rfl⟩
theorem dX9_cost_11 : Dd mX9_cost.2.1 11 (.invokevirtual 225) 3 14 := ⟨by decide +kernel, rfl⟩
theorem dX9_cost_14 : Dd mX9_cost.2.1 14 (.goto 4) 3 17 := ⟨by decide +kernel, rfl⟩
theorem dX9_cost_17 : Dd mX9_cost.2.1 17 (.iconst (-1)) 1 18 := ⟨by decide +kernel, rfl⟩
theorem dX9_cost_18 : Dd mX9_cost.2.1 18 (.ireturn) 1 19 := ⟨by decide +kernel, rfl⟩
theorem dX9_leastIn_0 : Dd mX9_leastIn.2.1 0 (.aload_n 0) 1 1 := ⟨by decide +kernel, rfl⟩
theorem dX9_leastIn_1 : Dd mX9_leastIn.2.1 1 (.iload_n 1) 1 2 := ⟨by decide +kernel, rfl⟩
theorem dX9_leastIn_2 : Dd mX9_leastIn.2.1 2 (.invokevirtual 189) 3 5 := ⟨by decide +kernel, rfl⟩
theorem dX9_leastIn_5 : Dd mX9_leastIn.2.1 5 (.istore_n 3) 1 6 := ⟨by decide +kernel, rfl⟩
theorem dX9_leastIn_6 : Dd mX9_leastIn.2.1 6 (.bipush (-4)) 2 8 := ⟨by decide +kernel, rfl⟩
theorem dX9_leastIn_8 : Dd mX9_leastIn.2.1 8 (.istore 4) 2 10 := ⟨by decide +kernel, rfl⟩
theorem dX9_leastIn_10 : Dd mX9_leastIn.2.1 10 (.iconst 0) 1 11 := ⟨by decide +kernel, rfl⟩
theorem dX9_leastIn_11 : Dd mX9_leastIn.2.1 11 (.istore 5) 2 13 := ⟨by decide +kernel, rfl⟩
theorem dX9_leastIn_13 : Dd mX9_leastIn.2.1 13 (.iconst 1) 1 14 := ⟨by decide +kernel, rfl⟩
theorem dX9_leastIn_14 : Dd mX9_leastIn.2.1 14 (.istore 6) 2 16 := ⟨by decide +kernel, rfl⟩
theorem dX9_leastIn_16 : Dd mX9_leastIn.2.1 16 (.iload 6) 2 18 := ⟨by decide +kernel, rfl⟩
theorem dX9_leastIn_18 : Dd mX9_leastIn.2.1 18 (.iconst 1) 1 19 := ⟨by decide +kernel, rfl⟩
theorem dX9_leastIn_19 : Dd mX9_leastIn.2.1 19 (.aload_n 0) 1 20 := ⟨by decide +kernel, rfl⟩
theorem dX9_leastIn_20 : Dd mX9_leastIn.2.1 20 (.getfield 74) 3 23 := ⟨by decide +kernel, rfl⟩
theorem dX9_leastIn_23 : Dd mX9_leastIn.2.1 23 (.ishl) 1 24 := ⟨by decide +kernel, rfl⟩
theorem dX9_leastIn_24 : Dd mX9_leastIn.2.1 24 (.if_icmp .ge 106) 3 27 := ⟨by decide +kernel, rfl⟩
theorem dX9_leastIn_27 : Dd mX9_leastIn.2.1 27 (.iload 6) 2 29 := ⟨by decide +kernel, rfl⟩
theorem dX9_leastIn_29 : Dd mX9_leastIn.2.1 29 (.iload_n 3) 1 30 := ⟨by decide +kernel, rfl⟩
theorem dX9_leastIn_30 : Dd mX9_leastIn.2.1 30 (.iconst (-1)) 1 31 := ⟨by decide +kernel, rfl⟩
theorem dX9_leastIn_31 : Dd mX9_leastIn.2.1 31 (.ixor) 1 32 := ⟨by decide +kernel, rfl⟩
theorem dX9_leastIn_32 : Dd mX9_leastIn.2.1 32 (.iand) 1 33 := ⟨by decide +kernel, rfl⟩
theorem dX9_leastIn_33 : Dd mX9_leastIn.2.1 33 (.ifCond .ne 91) 3 36 := ⟨by decide +kernel, rfl⟩
theorem dX9_leastIn_36 : Dd mX9_leastIn.2.1 36 (.aload_n 0) 1 37 := ⟨by decide +kernel, rfl⟩
theorem dX9_leastIn_37 : Dd mX9_leastIn.2.1 37 (.iload 6) 2 39 := ⟨by decide +kernel, rfl⟩
theorem dX9_leastIn_39 : Dd mX9_leastIn.2.1 39 (.invokevirtual 198) 3 42 := ⟨by decide +kernel, rfl⟩
theorem dX9_leastIn_42 : Dd mX9_leastIn.2.1 42 (.iload_n 2) 1 43 := ⟨by decide +kernel, rfl⟩
theorem dX9_leastIn_43 : Dd mX9_leastIn.2.1 43 (.if_icmp .lt 81) 3 46 := ⟨by decide +kernel, rfl⟩
theorem dX9_leastIn_46 : Dd mX9_leastIn.2.1 46 (.aload_n 0) 1 47 := ⟨by decide +kernel, rfl⟩
theorem dX9_leastIn_47 : Dd mX9_leastIn.2.1 47 (.iload_n 1) 1 48 := ⟨by decide +kernel, rfl⟩
theorem dX9_leastIn_48 : Dd mX9_leastIn.2.1 48 (.iload 6) 2 50 := ⟨by decide +kernel, rfl⟩
theorem dX9_leastIn_50 : Dd mX9_leastIn.2.1 50 (.invokevirtual 225) 3 53 := ⟨by decide +kernel, rfl⟩
theorem dX9_leastIn_53 : Dd mX9_leastIn.2.1 53 (.istore 7) 2 55 := ⟨by decide +kernel, rfl⟩
theorem dX9_leastIn_55 : Dd mX9_leastIn.2.1 55 (.iload 4) 2 57 := ⟨by decide +kernel, rfl⟩
theorem dX9_leastIn_57 : Dd mX9_leastIn.2.1 57 (.bipush (-4)) 2 59 := ⟨by decide +kernel, rfl⟩
theorem dX9_leastIn_59 : Dd mX9_leastIn.2.1 59 (.if_icmp .eq 30) 3 62 := ⟨by decide +kernel, rfl⟩
theorem dX9_leastIn_62 : Dd mX9_leastIn.2.1 62 (.iload 7) 2 64 := ⟨by decide +kernel, rfl⟩
theorem dX9_leastIn_64 : Dd mX9_leastIn.2.1 64 (.iload 5) 2 66 := ⟨by decide +kernel, rfl⟩
theorem dX9_leastIn_66 : Dd mX9_leastIn.2.1 66 (.if_icmp .lt 23) 3 69 := ⟨by decide +kernel, rfl⟩
theorem dX9_leastIn_69 : Dd mX9_leastIn.2.1 69 (.iload 7) 2 71 := ⟨by decide +kernel, rfl⟩
theorem dX9_leastIn_71 : Dd mX9_leastIn.2.1 71 (.iload 5) 2 73 := ⟨by decide +kernel, rfl⟩
theorem dX9_leastIn_73 : Dd mX9_leastIn.2.1 73 (.if_icmp .ne 20) 3 76 := ⟨by decide +kernel, rfl⟩
theorem dX9_leastIn_76 : Dd mX9_leastIn.2.1 76 (.iload 6) 2 78 := ⟨by decide +kernel, rfl⟩
theorem dX9_leastIn_78 : Dd mX9_leastIn.2.1 78 (.invokestatic 214) 3 81 := ⟨by decide +kernel, rfl⟩
theorem dX9_leastIn_81 : Dd mX9_leastIn.2.1 81 (.iload 4) 2 83 := ⟨by decide +kernel, rfl⟩
theorem dX9_leastIn_83 : Dd mX9_leastIn.2.1 83 (.invokestatic 214) 3 86 := ⟨by decide +kernel, rfl⟩
theorem dX9_leastIn_86 : Dd mX9_leastIn.2.1 86 (.if_icmp .ge 7) 3 89 := ⟨by decide +kernel, rfl⟩
theorem dX9_leastIn_89 : Dd mX9_leastIn.2.1 89 (.iconst 1) 1 90 := ⟨by decide +kernel, rfl⟩
theorem dX9_leastIn_90 : Dd mX9_leastIn.2.1 90 (.goto 4) 3 93 := ⟨by decide +kernel, rfl⟩
theorem dX9_leastIn_93 : Dd mX9_leastIn.2.1 93 (.iconst 0) 1 94 := ⟨by decide +kernel, rfl⟩
theorem dX9_leastIn_94 : Dd mX9_leastIn.2.1 94 (.istore 8) 2 96 := ⟨by decide +kernel, rfl⟩
theorem dX9_leastIn_96 : Dd mX9_leastIn.2.1 96 (.iload 8) 2 98 := ⟨by decide +kernel, rfl⟩
theorem dX9_leastIn_98 : Dd mX9_leastIn.2.1 98 (.ifCond .eq 8) 3 101 := ⟨by decide +kernel, rfl⟩
theorem dX9_leastIn_101 : Dd mX9_leastIn.2.1 101 (.iload 6) 2 103 := ⟨by decide +kernel, rfl⟩
theorem dX9_leastIn_103 : Dd mX9_leastIn.2.1 103 (.goto 5) 3 106 := ⟨by decide +kernel, rfl⟩
theorem dX9_leastIn_106 : Dd mX9_leastIn.2.1 106 (.iload 4) 2 108 := ⟨by decide +kernel, rfl⟩
theorem dX9_leastIn_108 : Dd mX9_leastIn.2.1 108 (.istore 4) 2 110 := ⟨by decide +kernel, rfl⟩
theorem dX9_leastIn_110 : Dd mX9_leastIn.2.1 110 (.iload 8) 2 112 := ⟨by decide +kernel, rfl⟩
theorem dX9_leastIn_112 : Dd mX9_leastIn.2.1 112 (.ifCond .eq 8) 3 115 := ⟨by decide +kernel, rfl⟩
theorem dX9_leastIn_115 : Dd mX9_leastIn.2.1 115 (.iload 7) 2 117 := ⟨by decide +kernel, rfl⟩
theorem dX9_leastIn_117 : Dd mX9_leastIn.2.1 117 (.goto 5) 3 120 := ⟨by decide +kernel, rfl⟩
theorem dX9_leastIn_120 : Dd mX9_leastIn.2.1 120 (.iload 5) 2 122 := ⟨by decide +kernel, rfl⟩
theorem dX9_leastIn_122 : Dd mX9_leastIn.2.1 122 (.istore 5) 2 124 := ⟨by decide +kernel, rfl⟩
theorem dX9_leastIn_124 : Dd mX9_leastIn.2.1 124 (.iinc 6 1) 3 127 := ⟨by decide +kernel, rfl⟩
theorem dX9_leastIn_127 : Dd mX9_leastIn.2.1 127 (.goto (-111)) 3 130 := ⟨by decide +kernel, rfl⟩
theorem dX9_leastIn_130 : Dd mX9_leastIn.2.1 130 (.iload 4) 2 132 := ⟨by decide +kernel, rfl⟩
theorem dX9_leastIn_132 : Dd mX9_leastIn.2.1 132 (.ireturn) 1 133 := ⟨by decide +kernel, rfl⟩
theorem dX9_least_0 : Dd mX9_least.2.1 0 (.aload_n 0) 1 1 := ⟨by decide +kernel, rfl⟩
theorem dX9_least_1 : Dd mX9_least.2.1 1 (.iload_n 1) 1 2 := ⟨by decide +kernel, rfl⟩
theorem dX9_least_2 : Dd mX9_least.2.1 2 (.invokevirtual 192) 3 5 := ⟨by decide +kernel, rfl⟩
theorem dX9_least_5 : Dd mX9_least.2.1 5 (.ifCond .eq 13) 3 8 := ⟨by decide +kernel, rfl⟩
theorem dX9_least_8 : Dd mX9_least.2.1 8 (.iload_n 2) 1 9 := ⟨by decide +kernel, rfl⟩
theorem dX9_least_9 : Dd mX9_least.2.1 9 (.i2l) 1 10 := ⟨by decide +kernel, rfl⟩
theorem dX9_least_10 : Dd mX9_least.2.1 10 (.lconst 0) 1 11 := ⟨by decide +kernel, rfl⟩
theorem dX9_least_11 : Dd mX9_least.2.1 11 (.lconst 1) 1 12 := ⟨by decide +kernel, rfl⟩
theorem dX9_least_12 : Dd mX9_least.2.1 12 (.invokestatic 100) 3 15 := ⟨by decide +kernel, rfl⟩
theorem dX9_least_15 : Dd mX9_least.2.1 15 (.ifCond .ne 5) 3 18 := ⟨by decide +kernel, rfl⟩
theorem dX9_least_18 : Dd mX9_least.2.1 18 (.iconst (-1)) 1 19 := ⟨by decide +kernel, rfl⟩
theorem dX9_least_19 : Dd mX9_least.2.1 19 (.ireturn) 1 20 := ⟨by decide +kernel, rfl⟩
theorem dX9_least_20 : Dd mX9_least.2.1 20 (.aload_n 0) 1 21 := ⟨by decide +kernel, rfl⟩
theorem dX9_least_21 : Dd mX9_least.2.1 21 (.iconst 0) 1 22 := ⟨by decide +kernel, rfl⟩
theorem dX9_least_22 : Dd mX9_least.2.1 22 (.aload_n 0) 1 23 := ⟨by decide +kernel, rfl⟩
theorem dX9_least_23 : Dd mX9_least.2.1 23 (.getfield 31) 3 26 := ⟨by decide +kernel, rfl⟩
theorem dX9_least_26 : Dd mX9_least.2.1 26 (.iload_n 1) 1 27 := ⟨by decide +kernel, rfl⟩
theorem dX9_least_27 : Dd mX9_least.2.1 27 (.iaload) 1 28 := ⟨by decide +kernel, rfl⟩
theorem dX9_least_28 : Dd mX9_least.2.1 28 (.invokevirtual 229) 3 31 := ⟨by decide +kernel, rfl⟩
theorem dX9_least_31 : Dd mX9_least.2.1 31 (.istore_n 3) 1 32 := ⟨by decide +kernel, rfl⟩
theorem dX9_least_32 : Dd mX9_least.2.1 32 (.iload_n 3) 1 33 := ⟨by decide +kernel, rfl⟩
theorem dX9_least_33 : Dd mX9_least.2.1 33 (.bipush (-4)) 2 35 := ⟨by decide +kernel, rfl⟩
theorem dX9_least_35 : Dd mX9_least.2.1 35 (.if_icmp .eq 7) 3 38 := ⟨by decide +kernel, rfl⟩
theorem dX9_least_38 : Dd mX9_least.2.1 38 (.iload_n 2) 1 39 := ⟨by decide +kernel, rfl⟩
theorem dX9_least_39 : Dd mX9_least.2.1 39 (.ifCond .ne 7) 3 42 := ⟨by decide +kernel, rfl⟩
theorem dX9_least_42 : Dd mX9_least.2.1 42 (.iload_n 3) 1 43 := ⟨by decide +kernel, rfl⟩
theorem dX9_least_43 : Dd mX9_least.2.1 43 (.goto 9) 3 46 := ⟨by decide +kernel, rfl⟩
theorem dX9_least_46 : Dd mX9_least.2.1 46 (.aload_n 0) 1 47 := ⟨by decide +kernel, rfl⟩
theorem dX9_least_47 : Dd mX9_least.2.1 47 (.iconst 0) 1 48 := ⟨by decide +kernel, rfl⟩
theorem dX9_least_48 : Dd mX9_least.2.1 48 (.iload_n 3) 1 49 := ⟨by decide +kernel, rfl⟩
theorem dX9_least_49 : Dd mX9_least.2.1 49 (.invokevirtual 225) 3 52 := ⟨by decide +kernel, rfl⟩
theorem dX9_least_52 : Dd mX9_least.2.1 52 (.ireturn) 1 53 := ⟨by decide +kernel, rfl⟩
theorem dX9_lowest_0 : Dd mX9_lowest.2.1 0 (.iconst 0) 1 1 := ⟨by decide +kernel, rfl⟩
theorem dX9_lowest_1 : Dd mX9_lowest.2.1 1 (.istore_n 2) 1 2 := ⟨by decide +kernel, rfl⟩
theorem dX9_lowest_2 : Dd mX9_lowest.2.1 2 (.iload_n 1) 1 3 := ⟨by decide +kernel, rfl⟩
theorem dX9_lowest_3 : Dd mX9_lowest.2.1 3 (.iload_n 2) 1 4 := ⟨by decide +kernel, rfl⟩
theorem dX9_lowest_4 : Dd mX9_lowest.2.1 4 (.invokestatic 166) 3 7 := ⟨by decide +kernel, rfl⟩
theorem dX9_lowest_7 : Dd mX9_lowest.2.1 7 (.ifCond .ne 9) 3 10 := ⟨by decide +kernel, rfl⟩
theorem dX9_lowest_10 : Dd mX9_lowest.2.1 10 (.iinc 2 1) 3 13 := ⟨by decide +kernel, rfl⟩
theorem dX9_lowest_13 : Dd mX9_lowest.2.1 13 (.goto (-11)) 3 16 := ⟨by decide +kernel, rfl⟩
theorem dX9_lowest_16 : Dd mX9_lowest.2.1 16 (.iload_n 2) 1 17 := ⟨by decide +kernel, rfl⟩
theorem dX9_lowest_17 : Dd mX9_lowest.2.1 17 (.ireturn) 1 18 := ⟨by decide +kernel, rfl⟩
theorem dX9_canHold_0 : Dd mX9_canHold.2.1 0 (.aload_n 0) 1 1 := ⟨by decide +kernel, rfl⟩
theorem dX9_canHold_1 : Dd mX9_canHold.2.1 1 (.iload_n 1) 1 2 := ⟨by decide +kernel, rfl⟩
theorem dX9_canHold_2 : Dd mX9_canHold.2.1 2 (.invokevirtual 232) 3 5 := ⟨by decide +kernel, rfl⟩
theorem dX9_canHold_5 : Dd mX9_canHold.2.1 5 (.istore_n 3) 1 6 := ⟨by decide +kernel, rfl⟩
theorem dX9_canHold_6 : Dd mX9_canHold.2.1 6 (.iload_n 1) 1 7 := ⟨by decide +kernel, rfl⟩
theorem dX9_canHold_7 : Dd mX9_canHold.2.1 7 (.iconst 1) 1 8 := ⟨by decide +kernel, rfl⟩
theorem dX9_canHold_8 : Dd mX9_canHold.2.1 8 (.iload_n 3) 1 9 := ⟨by decide +kernel, rfl⟩
theorem dX9_canHold_9 : Dd mX9_canHold.2.1 9 (.ishl) 1 10 := ⟨by decide +kernel, rfl⟩
theorem dX9_canHold_10 : Dd mX9_canHold.2.1 10 (.iconst (-1)) 1 11 := ⟨by decide +kernel, rfl⟩
theorem dX9_canHold_11 : Dd mX9_canHold.2.1 11 (.ixor) 1 12 := ⟨by decide +kernel, rfl⟩
theorem dX9_canHold_12 : Dd mX9_canHold.2.1 12 (.iand) 1 13 := ⟨by decide +kernel, rfl⟩
theorem dX9_canHold_13 : Dd mX9_canHold.2.1 13 (.istore 4) 2 15 := ⟨by decide +kernel, rfl⟩
theorem dX9_canHold_15 : Dd mX9_canHold.2.1 15 (.iconst 0) 1 16 := ⟨by decide +kernel, rfl⟩
theorem dX9_canHold_16 : Dd mX9_canHold.2.1 16 (.istore 5) 2 18 := ⟨by decide +kernel, rfl⟩
theorem dX9_canHold_18 : Dd mX9_canHold.2.1 18 (.iload_n 2) 1 19 := ⟨by decide +kernel, rfl⟩
theorem dX9_canHold_19 : Dd mX9_canHold.2.1 19 (.istore 6) 2 21 := ⟨by decide +kernel, rfl⟩
theorem dX9_canHold_21 : Dd mX9_canHold.2.1 21 (.iload 6) 2 23 := ⟨by decide +kernel, rfl⟩
theorem dX9_canHold_23 : Dd mX9_canHold.2.1 23 (.ifCond .le 63) 3 26 := ⟨by decide +kernel, rfl⟩
theorem dX9_canHold_26 : Dd mX9_canHold.2.1 26 (.iload 5) 2 28 := ⟨by decide +kernel, rfl⟩
theorem dX9_canHold_28 : Dd mX9_canHold.2.1 28 (.ifCond .ne 58) 3 31 := ⟨by decide +kernel, rfl⟩
theorem dX9_canHold_31 : Dd mX9_canHold.2.1 31 (.aload_n 0) 1 32 := ⟨by decide +kernel, rfl⟩
theorem dX9_canHold_32 : Dd mX9_canHold.2.1 32 (.getfield 44) 3 35 := ⟨by decide +kernel, rfl⟩
theorem dX9_canHold_35 : Dd mX9_canHold.2.1 35 (.iload 6) 2 37 := ⟨by decide +kernel, rfl⟩
theorem dX9_canHold_37 : Dd mX9_canHold.2.1 37 (.iaload) 1 38 := ⟨by decide +kernel, rfl⟩
theorem dX9_canHold_38 : Dd mX9_canHold.2.1 38 (.aload_n 0) 1 39 := ⟨by decide +kernel, rfl⟩
theorem dX9_canHold_39 : Dd mX9_canHold.2.1 39 (.getfield 31) 3 42 := ⟨by decide +kernel, rfl⟩
theorem dX9_canHold_42 : Dd mX9_canHold.2.1 42 (.iload_n 3) 1 43 := ⟨by decide +kernel, rfl⟩
theorem dX9_canHold_43 : Dd mX9_canHold.2.1 43 (.iaload) 1 44 := ⟨by decide +kernel, rfl⟩
theorem dX9_canHold_44 : Dd mX9_canHold.2.1 44 (.if_icmp .lt 28) 3 47 := ⟨by decide +kernel, rfl⟩
theorem dX9_canHold_47 : Dd mX9_canHold.2.1 47 (.aload_n 0) 1 48 := ⟨by decide +kernel, rfl⟩
theorem dX9_canHold_48 : Dd mX9_canHold.2.1 48 (.getfield 40) 3 51 := ⟨by decide +kernel, rfl⟩
theorem dX9_canHold_51 : Dd mX9_canHold.2.1 51 (.sipush 1024) 3 54 := ⟨by decide +kernel, rfl⟩
theorem dX9_canHold_54 : Dd mX9_canHold.2.1 54 (.iload 4) 2 56 := ⟨by decide +kernel, rfl⟩
theorem dX9_canHold_56 : Dd mX9_canHold.2.1 56 (.imul) 1 57 := ⟨by decide +kernel, rfl⟩
theorem dX9_canHold_57 : Dd mX9_canHold.2.1 57 (.iload_n 2) 1 58 := ⟨by decide +kernel, rfl⟩
theorem dX9_canHold_58 : Dd mX9_canHold.2.1 58 (.iload 6) 2 60 := ⟨by decide +kernel, rfl⟩
theorem dX9_canHold_60 : Dd mX9_canHold.2.1 60 (.iconst (-1)) 1 61 := ⟨by decide +kernel, rfl⟩
theorem dX9_canHold_61 : Dd mX9_canHold.2.1 61 (.ixor) 1 62 := ⟨by decide +kernel, rfl⟩
theorem dX9_canHold_62 : Dd mX9_canHold.2.1 62 (.iand) 1 63 := ⟨by decide +kernel, rfl⟩
theorem dX9_canHold_63 : Dd mX9_canHold.2.1 63 (.iadd) 1 64 := ⟨by decide +kernel, rfl⟩
theorem dX9_canHold_64 : Dd mX9_canHold.2.1 64 (.baload) 1 65 := ⟨by decide +kernel, rfl⟩
theorem dX9_canHold_65 : Dd mX9_canHold.2.1 65 (.ifCond .eq 7) 3 68 := ⟨by decide +kernel, rfl⟩
theorem dX9_canHold_68 : Dd mX9_canHold.2.1 68 (.iconst 1) 1 69 := ⟨by decide +kernel, rfl⟩
theorem dX9_canHold_69 : Dd mX9_canHold.2.1 69 (.goto 4) 3 72 := ⟨by decide +kernel, rfl⟩
theorem dX9_canHold_72 : Dd mX9_canHold.2.1 72 (.iconst 0) 1 73 := ⟨by decide +kernel, rfl⟩
theorem dX9_canHold_73 : Dd mX9_canHold.2.1 73 (.istore 5) 2 75 := ⟨by decide +kernel, rfl⟩
theorem dX9_canHold_75 : Dd mX9_canHold.2.1 75 (.iload 6) 2 77 := ⟨by decide +kernel, rfl⟩
theorem dX9_canHold_77 : Dd mX9_canHold.2.1 77 (.iconst 1) 1 78 := ⟨by decide +kernel, rfl⟩
theorem dX9_canHold_78 : Dd mX9_canHold.2.1 78 (.isub) 1 79 := ⟨by decide +kernel, rfl⟩
theorem dX9_canHold_79 : Dd mX9_canHold.2.1 79 (.iload_n 2) 1 80 := ⟨by decide +kernel, rfl⟩
theorem dX9_canHold_80 : Dd mX9_canHold.2.1 80 (.iand) 1 81 := ⟨by decide +kernel, rfl⟩
theorem dX9_canHold_81 : Dd mX9_canHold.2.1 81 (.istore 6) 2 83 := ⟨by decide +kernel, rfl⟩
theorem dX9_canHold_83 : Dd mX9_canHold.2.1 83 (.goto (-62)) 3 86 := ⟨by decide +kernel, rfl⟩
theorem dX9_canHold_86 : Dd mX9_canHold.2.1 86 (.iload 5) 2 88 := ⟨by decide +kernel, rfl⟩
theorem dX9_canHold_88 : Dd mX9_canHold.2.1 88 (.ireturn) 1 89 := ⟨by decide +kernel, rfl⟩
theorem dX9_unbound_0 : Dd mX9_unbound.2.1 0 (.iconst 0) 1 1 := ⟨by decide +kernel, rfl⟩
theorem dX9_unbound_1 : Dd mX9_unbound.2.1 1 (.istore_n 1) 1 2 := ⟨by decide +kernel, rfl⟩
theorem dX9_unbound_2 : Dd mX9_unbound.2.1 2 (.iconst 0) 1 3 := ⟨by decide +kernel, rfl⟩
theorem dX9_unbound_3 : Dd mX9_unbound.2.1 3 (.istore_n 2) 1 4 := ⟨by decide +kernel, rfl⟩
theorem dX9_unbound_4 : Dd mX9_unbound.2.1 4 (.iload_n 2) 1 5 := ⟨by decide +kernel, rfl⟩
theorem dX9_unbound_5 : Dd mX9_unbound.2.1 5 (.aload_n 0) 1 6 := ⟨by decide +kernel, rfl⟩
theorem dX9_unbound_6 : Dd mX9_unbound.2.1 6 (.getfield 84) 3 9 := ⟨by decide +kernel, rfl⟩
theorem dX9_unbound_9 : Dd mX9_unbound.2.1 9 (.if_icmp .ge 30) 3 12 := ⟨by decide +kernel, rfl⟩
theorem dX9_unbound_12 : Dd mX9_unbound.2.1 12 (.iload_n 1) 1 13 := ⟨by decide +kernel, rfl⟩
theorem dX9_unbound_13 : Dd mX9_unbound.2.1 13 (.aload_n 0) 1 14 := ⟨by decide +kernel, rfl⟩
theorem dX9_unbound_14 : Dd mX9_unbound.2.1 14 (.getfield 7) 3 17 := ⟨by decide +kernel, rfl⟩
theorem dX9_unbound_17 : Dd mX9_unbound.2.1 17 (.iconst 0) 1 18 := ⟨by decide +kernel, rfl⟩
theorem dX9_unbound_18 : Dd mX9_unbound.2.1 18 (.iload_n 2) 1 19 := ⟨by decide +kernel, rfl⟩
theorem dX9_unbound_19 : Dd mX9_unbound.2.1 19 (.iadd) 1 20 := ⟨by decide +kernel, rfl⟩
theorem dX9_unbound_20 : Dd mX9_unbound.2.1 20 (.iaload) 1 21 := ⟨by decide +kernel, rfl⟩
theorem dX9_unbound_21 : Dd mX9_unbound.2.1 21 (.ifCond .ne 9) 3 24 := ⟨by decide +kernel, rfl⟩
theorem dX9_unbound_24 : Dd mX9_unbound.2.1 24 (.iconst 1) 1 25 := ⟨by decide +kernel, rfl⟩
theorem dX9_unbound_25 : Dd mX9_unbound.2.1 25 (.iload_n 2) 1 26 := ⟨by decide +kernel, rfl⟩
theorem dX9_unbound_26 : Dd mX9_unbound.2.1 26 (.ishl) 1 27 := ⟨by decide +kernel, rfl⟩
theorem dX9_unbound_27 : Dd mX9_unbound.2.1 27 (.goto 4) 3 30 := ⟨by decide +kernel, rfl⟩
theorem dX9_unbound_30 : Dd mX9_unbound.2.1 30 (.iconst 0) 1 31 := ⟨by decide +kernel, rfl⟩
theorem dX9_unbound_31 : Dd mX9_unbound.2.1 31 (.ior) 1 32 := ⟨by decide +kernel, rfl⟩
theorem dX9_unbound_32 : Dd mX9_unbound.2.1 32 (.istore_n 1) 1 33 := ⟨by decide +kernel, rfl⟩
theorem dX9_unbound_33 : Dd mX9_unbound.2.1 33 (.iinc 2 1) 3 36 := ⟨by decide +kernel, rfl⟩
theorem dX9_unbound_36 : Dd mX9_unbound.2.1 36 (.goto (-32)) 3 39 := ⟨by decide +kernel, rfl⟩
theorem dX9_unbound_39 : Dd mX9_unbound.2.1 39 (.iload_n 1) 1 40 := ⟨by decide +kernel, rfl⟩
theorem dX9_unbound_40 : Dd mX9_unbound.2.1 40 (.ireturn) 1 41 := ⟨by decide +kernel, rfl⟩
theorem dX9_layHolds_0 : Dd mX9_layHolds.2.1 0 (.iconst 0) 1 1 := ⟨by decide +kernel, rfl⟩
theorem dX9_layHolds_1 : Dd mX9_layHolds.2.1 1 (.istore_n 2) 1 2 := ⟨by decide +kernel, rfl⟩
theorem dX9_layHolds_2 : Dd mX9_layHolds.2.1 2 (.iload_n 2) 1 3 := ⟨by decide +kernel, rfl⟩
theorem dX9_layHolds_3 : Dd mX9_layHolds.2.1 3 (.iconst 1) 1 4 := ⟨by decide +kernel, rfl⟩
theorem dX9_layHolds_4 : Dd mX9_layHolds.2.1 4 (.aload_n 0) 1 5 := ⟨by decide +kernel, rfl⟩
theorem dX9_layHolds_5 : Dd mX9_layHolds.2.1 5 (.getfield 74) 3 8 := ⟨by decide +kernel, rfl⟩
theorem dX9_layHolds_8 : Dd mX9_layHolds.2.1 8 (.ishl) 1 9 := ⟨by decide +kernel, rfl⟩
theorem dX9_layHolds_9 : Dd mX9_layHolds.2.1 9 (.if_icmp .ge 20) 3 12 := ⟨by decide +kernel, rfl⟩
theorem dX9_layHolds_12 : Dd mX9_layHolds.2.1 12 (.aload_n 0) 1 13 := ⟨by decide +kernel, rfl⟩
theorem dX9_layHolds_13 : Dd mX9_layHolds.2.1 13 (.getfield 44) 3 16 := ⟨by decide +kernel, rfl⟩
theorem dX9_layHolds_16 : Dd mX9_layHolds.2.1 16 (.iload_n 2) 1 17 := ⟨by decide +kernel, rfl⟩
theorem dX9_layHolds_17 : Dd mX9_layHolds.2.1 17 (.aload_n 0) 1 18 := ⟨by decide +kernel, rfl⟩
theorem dX9_layHolds_18 : Dd mX9_layHolds.2.1 18 (.iload_n 2) 1 19 := ⟨by decide +kernel, rfl⟩
theorem dX9_layHolds_19 : Dd mX9_layHolds.2.1 19 (.invokevirtual 198) 3 22 := ⟨by decide +kernel, rfl⟩
theorem dX9_layHolds_22 : Dd mX9_layHolds.2.1 22 (.iastore) 1 23 := ⟨by decide +kernel, rfl⟩
theorem dX9_layHolds_23 : Dd mX9_layHolds.2.1 23 (.iinc 2 1) 3 26 := ⟨by decide +kernel, rfl⟩
theorem dX9_layHolds_26 : Dd mX9_layHolds.2.1 26 (.goto (-24)) 3 29 := ⟨by decide +kernel, rfl⟩
theorem dX9_layHolds_29 : Dd mX9_layHolds.2.1 29 (.iconst 0) 1 30 := ⟨by decide +kernel, rfl⟩
theorem dX9_layHolds_30 : Dd mX9_layHolds.2.1 30 (.istore_n 2) 1 31 := ⟨by decide +kernel, rfl⟩
theorem dX9_layHolds_31 : Dd mX9_layHolds.2.1 31 (.iload_n 2) 1 32 := ⟨by decide +kernel, rfl⟩
theorem dX9_layHolds_32 : Dd mX9_layHolds.2.1 32 (.iconst 1) 1 33 := ⟨by decide +kernel, rfl⟩
theorem dX9_layHolds_33 : Dd mX9_layHolds.2.1 33 (.aload_n 0) 1 34 := ⟨by decide +kernel, rfl⟩
theorem dX9_layHolds_34 : Dd mX9_layHolds.2.1 34 (.getfield 84) 3 37 := ⟨by decide +kernel, rfl⟩
theorem dX9_layHolds_37 : Dd mX9_layHolds.2.1 37 (.ishl) 1 38 := ⟨by decide +kernel, rfl⟩
theorem dX9_layHolds_38 : Dd mX9_layHolds.2.1 38 (.if_icmp .ge 65) 3 41 := ⟨by decide +kernel, rfl⟩
theorem dX9_layHolds_41 : Dd mX9_layHolds.2.1 41 (.iconst 0) 1 42 := ⟨by decide +kernel, rfl⟩
theorem dX9_layHolds_42 : Dd mX9_layHolds.2.1 42 (.istore_n 3) 1 43 := ⟨by decide +kernel, rfl⟩
theorem dX9_layHolds_43 : Dd mX9_layHolds.2.1 43 (.iload_n 3) 1 44 := ⟨by decide +kernel, rfl⟩
theorem dX9_layHolds_44 : Dd mX9_layHolds.2.1 44 (.iconst 1) 1 45 := ⟨by decide +kernel, rfl⟩
theorem dX9_layHolds_45 : Dd mX9_layHolds.2.1 45 (.aload_n 0) 1 46 := ⟨by decide +kernel, rfl⟩
theorem dX9_layHolds_46 : Dd mX9_layHolds.2.1 46 (.getfield 74) 3 49 := ⟨by decide +kernel, rfl⟩
theorem dX9_layHolds_49 : Dd mX9_layHolds.2.1 49 (.ishl) 1 50 := ⟨by decide +kernel, rfl⟩
theorem dX9_layHolds_50 : Dd mX9_layHolds.2.1 50 (.if_icmp .ge 47) 3 53 := ⟨by decide +kernel, rfl⟩
theorem dX9_layHolds_53 : Dd mX9_layHolds.2.1 53 (.aload_n 0) 1 54 := ⟨by decide +kernel, rfl⟩
theorem dX9_layHolds_54 : Dd mX9_layHolds.2.1 54 (.getfield 40) 3 57 := ⟨by decide +kernel, rfl⟩
theorem dX9_layHolds_57 : Dd mX9_layHolds.2.1 57 (.sipush 1024) 3 60 := ⟨by decide +kernel, rfl⟩
theorem dX9_layHolds_60 : Dd mX9_layHolds.2.1 60 (.iload_n 2) 1 61 := ⟨by decide +kernel, rfl⟩
theorem dX9_layHolds_61 : Dd mX9_layHolds.2.1 61 (.imul) 1 62 := ⟨by decide +kernel, rfl⟩
theorem dX9_layHolds_62 : Dd mX9_layHolds.2.1 62 (.iload_n 3) 1 63 := ⟨by decide +kernel, rfl⟩
theorem dX9_layHolds_63 : Dd mX9_layHolds.2.1 63 (.iadd) 1 64 := ⟨by decide +kernel, rfl⟩
theorem dX9_layHolds_64 : Dd mX9_layHolds.2.1 64 (.iload_n 2) 1 65 := ⟨by decide +kernel, rfl⟩
theorem dX9_layHolds_65 : Dd mX9_layHolds.2.1 65 (.ifCond .eq 20) 3 68 := ⟨by decide +kernel, rfl⟩
theorem dX9_layHolds_68 : Dd mX9_layHolds.2.1 68 (.iload_n 3) 1 69 := ⟨by decide +kernel, rfl⟩
theorem dX9_layHolds_69 : Dd mX9_layHolds.2.1 69 (.iload_n 1) 1 70 := ⟨by decide +kernel, rfl⟩
theorem dX9_layHolds_70 : Dd mX9_layHolds.2.1 70 (.iconst (-1)) 1 71 := ⟨by decide +kernel, rfl⟩
theorem dX9_layHolds_71 : Dd mX9_layHolds.2.1 71 (.ixor) 1 72 := ⟨by decide +kernel, rfl⟩
theorem dX9_layHolds_72 : Dd mX9_layHolds.2.1 72 (.iand) 1 73 := ⟨by decide +kernel, rfl⟩
theorem dX9_layHolds_73 : Dd mX9_layHolds.2.1 73 (.ifCond .ne 16) 3 76 := ⟨by decide +kernel, rfl⟩
theorem dX9_layHolds_76 : Dd mX9_layHolds.2.1 76 (.aload_n 0) 1 77 := ⟨by decide +kernel, rfl⟩
theorem dX9_layHolds_77 : Dd mX9_layHolds.2.1 77 (.iload_n 2) 1 78 := ⟨by decide +kernel, rfl⟩
theorem dX9_layHolds_78 : Dd mX9_layHolds.2.1 78 (.iload_n 3) 1 79 := ⟨by decide +kernel, rfl⟩
theorem dX9_layHolds_79 : Dd mX9_layHolds.2.1 79 (.invokevirtual 235) 3 82 := ⟨by decide +kernel, rfl⟩
theorem dX9_layHolds_82 : Dd mX9_layHolds.2.1 82 (.ifCond .eq 7) 3 85 := ⟨by decide +kernel, rfl⟩
theorem dX9_layHolds_85 : Dd mX9_layHolds.2.1 85 (.iconst 1) 1 86 := ⟨by decide +kernel, rfl⟩
theorem dX9_layHolds_86 : Dd mX9_layHolds.2.1 86 (.goto 4) 3 89 := ⟨by decide +kernel, rfl⟩
theorem dX9_layHolds_89 : Dd mX9_layHolds.2.1 89 (.iconst 0) 1 90 := ⟨by decide +kernel, rfl⟩
theorem dX9_layHolds_90 : Dd mX9_layHolds.2.1 90 (.bastore) 1 91 := ⟨by decide +kernel, rfl⟩
theorem dX9_layHolds_91 : Dd mX9_layHolds.2.1 91 (.iinc 3 1) 3 94 := ⟨by decide +kernel, rfl⟩
theorem dX9_layHolds_94 : Dd mX9_layHolds.2.1 94 (.goto (-51)) 3 97 := ⟨by decide +kernel, rfl⟩
theorem dX9_layHolds_97 : Dd mX9_layHolds.2.1 97 (.iinc 2 1) 3 100 := ⟨by decide +kernel, rfl⟩
theorem dX9_layHolds_100 : Dd mX9_layHolds.2.1 100 (.goto (-69)) 3 103 := ⟨by decide +kernel, rfl⟩
theorem dX9_layHolds_103 : Dd mX9_layHolds.2.1 103 (.return_) 1 104 := ⟨by decide +kernel, rfl⟩
theorem dX9_usedByAll_0 : Dd mX9_usedByAll.2.1 0 (.aload_n 0) 1 1 := ⟨by decide +kernel, rfl⟩
theorem dX9_usedByAll_1 : Dd mX9_usedByAll.2.1 1 (.invokevirtual 238) 3 4 := ⟨by decide +kernel, rfl⟩
theorem dX9_usedByAll_4 : Dd mX9_usedByAll.2.1 4 (.istore_n 1) 1 5 := ⟨by decide +kernel, rfl⟩
theorem dX9_usedByAll_5 : Dd mX9_usedByAll.2.1 5 (.aload_n 0) 1 6 := ⟨by decide +kernel, rfl⟩
theorem dX9_usedByAll_6 : Dd mX9_usedByAll.2.1 6 (.iconst 0) 1 7 := ⟨by decide +kernel, rfl⟩
theorem dX9_usedByAll_7 : Dd mX9_usedByAll.2.1 7 (.invokevirtual 189) 3 10 := ⟨by decide +kernel, rfl⟩
theorem dX9_usedByAll_10 : Dd mX9_usedByAll.2.1 10 (.istore_n 2) 1 11 := ⟨by decide +kernel, rfl⟩
theorem dX9_usedByAll_11 : Dd mX9_usedByAll.2.1 11 (.aload_n 0) 1 12 := ⟨by decide +kernel, rfl⟩
theorem dX9_usedByAll_12 : Dd mX9_usedByAll.2.1 12 (.iload_n 2) 1 13 := ⟨by decide +kernel, rfl⟩
theorem dX9_usedByAll_13 : Dd mX9_usedByAll.2.1 13 (.invokevirtual 241) 3 16 := ⟨by decide +kernel, rfl⟩
theorem dX9_usedByAll_16 : Dd mX9_usedByAll.2.1 16 (.bipush (-4)) 2 18 := ⟨by decide +kernel, rfl⟩
theorem dX9_usedByAll_18 : Dd mX9_usedByAll.2.1 18 (.istore_n 3) 1 19 := ⟨by decide +kernel, rfl⟩
theorem dX9_usedByAll_19 : Dd mX9_usedByAll.2.1 19 (.iconst 0) 1 20 := ⟨by decide +kernel, rfl⟩
theorem dX9_usedByAll_20 : Dd mX9_usedByAll.2.1 20 (.istore 4) 2 22 := ⟨by decide +kernel, rfl⟩
theorem dX9_usedByAll_22 : Dd mX9_usedByAll.2.1 22 (.iconst 0) 1 23 := ⟨by decide +kernel, rfl⟩
theorem dX9_usedByAll_23 : Dd mX9_usedByAll.2.1 23 (.istore 5) 2 25 := ⟨by decide +kernel, rfl⟩
theorem dX9_usedByAll_25 : Dd mX9_usedByAll.2.1 25 (.iload 5) 2 27 := ⟨by decide +kernel, rfl⟩
theorem dX9_usedByAll_27 : Dd mX9_usedByAll.2.1 27 (.iconst 1) 1 28 := ⟨by decide +kernel, rfl⟩
theorem dX9_usedByAll_28 : Dd mX9_usedByAll.2.1 28 (.aload_n 0) 1 29 := ⟨by decide +kernel, rfl⟩
theorem dX9_usedByAll_29 : Dd mX9_usedByAll.2.1 29 (.getfield 74) 3 32 := ⟨by decide +kernel, rfl⟩
theorem dX9_usedByAll_32 : Dd mX9_usedByAll.2.1 32 (.ishl) 1 33 := ⟨by decide +kernel, rfl⟩
theorem dX9_usedByAll_33 : Dd mX9_usedByAll.2.1 33 (.if_icmp .ge 108) 3 36 := ⟨by decide +kernel, rfl⟩
theorem dX9_usedByAll_36 : Dd mX9_usedByAll.2.1 36 (.iload 5) 2 38 := ⟨by decide +kernel, rfl⟩
theorem dX9_usedByAll_38 : Dd mX9_usedByAll.2.1 38 (.iload_n 2) 1 39 := ⟨by decide +kernel, rfl⟩
theorem dX9_usedByAll_39 : Dd mX9_usedByAll.2.1 39 (.iconst (-1)) 1 40 := ⟨by decide +kernel, rfl⟩
theorem dX9_usedByAll_40 : Dd mX9_usedByAll.2.1 40 (.ixor) 1 41 := ⟨by decide +kernel, rfl⟩
theorem dX9_usedByAll_41 : Dd mX9_usedByAll.2.1 41 (.iand) 1 42 := ⟨by decide +kernel, rfl⟩
theorem dX9_usedByAll_42 : Dd mX9_usedByAll.2.1 42 (.ifCond .ne 93) 3 45 := ⟨by decide +kernel, rfl⟩
theorem dX9_usedByAll_45 : Dd mX9_usedByAll.2.1 45 (.aload_n 0) 1 46 := ⟨by decide +kernel, rfl⟩
theorem dX9_usedByAll_46 : Dd mX9_usedByAll.2.1 46 (.getfield 40) 3 49 := ⟨by decide +kernel, rfl⟩
theorem dX9_usedByAll_49 : Dd mX9_usedByAll.2.1 49 (.sipush 1024) 3 52 := ⟨by decide +kernel, rfl⟩
theorem dX9_usedByAll_52 : Dd mX9_usedByAll.2.1 52 (.iload_n 1) 1 53 := ⟨by decide +kernel, rfl⟩
theorem dX9_usedByAll_53 : Dd mX9_usedByAll.2.1 53 (.imul) 1 54 := ⟨by decide +kernel, rfl⟩
theorem dX9_usedByAll_54 : Dd mX9_usedByAll.2.1 54 (.iload 5) 2 56 := ⟨by decide +kernel, rfl⟩
theorem dX9_usedByAll_56 : Dd mX9_usedByAll.2.1 56 (.iadd) 1 57 := ⟨by decide +kernel, rfl⟩
theorem dX9_usedByAll_57 : Dd mX9_usedByAll.2.1 57 (.baload) 1 58 := ⟨by decide +kernel, rfl⟩
theorem dX9_usedByAll_58 : Dd mX9_usedByAll.2.1 58 (.ifCond .eq 77) 3 61 := ⟨by decide +kernel, rfl⟩
theorem dX9_usedByAll_61 : Dd mX9_usedByAll.2.1 61 (.aload_n 0) 1 62 := ⟨by decide +kernel, rfl⟩
theorem dX9_usedByAll_62 : Dd mX9_usedByAll.2.1 62 (.iconst 0) 1 63 := ⟨by decide +kernel, rfl⟩
theorem dX9_usedByAll_63 : Dd mX9_usedByAll.2.1 63 (.iload 5) 2 65 := ⟨by decide +kernel, rfl⟩
theorem dX9_usedByAll_65 : Dd mX9_usedByAll.2.1 65 (.invokevirtual 225) 3 68 := ⟨by decide +kernel, rfl⟩
theorem dX9_usedByAll_68 : Dd mX9_usedByAll.2.1 68 (.istore 6) 2 70 := ⟨by decide +kernel, rfl⟩
theorem dX9_usedByAll_70 : Dd mX9_usedByAll.2.1 70 (.iload_n 3) 1 71 := ⟨by decide +kernel, rfl⟩
theorem dX9_usedByAll_71 : Dd mX9_usedByAll.2.1 71 (.bipush (-4)) 2 73 := ⟨by decide +kernel, rfl⟩
theorem dX9_usedByAll_73 : Dd mX9_usedByAll.2.1 73 (.if_icmp .eq 29) 3 76 := ⟨by decide +kernel, rfl⟩
theorem dX9_usedByAll_76 : Dd mX9_usedByAll.2.1 76 (.iload 6) 2 78 := ⟨by decide +kernel, rfl⟩
theorem dX9_usedByAll_78 : Dd mX9_usedByAll.2.1 78 (.iload 4) 2 80 := ⟨by decide +kernel, rfl⟩
theorem dX9_usedByAll_80 : Dd mX9_usedByAll.2.1 80 (.if_icmp .lt 22) 3 83 := ⟨by decide +kernel, rfl⟩
theorem dX9_usedByAll_83 : Dd mX9_usedByAll.2.1 83 (.iload 6) 2 85 := ⟨by decide +kernel, rfl⟩
theorem dX9_usedByAll_85 : Dd mX9_usedByAll.2.1 85 (.iload 4) 2 87 := ⟨by decide +kernel, rfl⟩
theorem dX9_usedByAll_87 : Dd mX9_usedByAll.2.1 87 (.if_icmp .ne 19) 3 90 := ⟨by decide +kernel, rfl⟩
theorem dX9_usedByAll_90 : Dd mX9_usedByAll.2.1 90 (.iload 5) 2 92 := ⟨by decide +kernel, rfl⟩
theorem dX9_usedByAll_92 : Dd mX9_usedByAll.2.1 92 (.invokestatic 214) 3 95 := ⟨by decide +kernel, rfl⟩
theorem dX9_usedByAll_95 : Dd mX9_usedByAll.2.1 95 (.iload_n 3) 1 96 := ⟨by decide +kernel, rfl⟩
theorem dX9_usedByAll_96 : Dd mX9_usedByAll.2.1 96 (.invokestatic 214) 3 99 := ⟨by decide +kernel, rfl⟩
theorem dX9_usedByAll_99 : Dd mX9_usedByAll.2.1 99 (.if_icmp .ge 7) 3 102 := ⟨by decide +kernel, rfl⟩
theorem dX9_usedByAll_102 : Dd mX9_usedByAll.2.1 102 (.iconst 1) 1 103 := ⟨by decide +kernel, rfl⟩
theorem dX9_usedByAll_103 : Dd mX9_usedByAll.2.1 103 (.goto 4) 3 106 := ⟨by decide +kernel, rfl⟩
theorem dX9_usedByAll_106 : Dd mX9_usedByAll.2.1 106 (.iconst 0) 1 107 := ⟨by decide +kernel, rfl⟩
theorem dX9_usedByAll_107 : Dd mX9_usedByAll.2.1 107 (.istore 7) 2 109 := ⟨by decide +kernel, rfl⟩
theorem dX9_usedByAll_109 : Dd mX9_usedByAll.2.1 109 (.iload 7) 2 111 := ⟨by decide +kernel, rfl⟩
theorem dX9_usedByAll_111 : Dd mX9_usedByAll.2.1 111 (.ifCond .eq 8) 3 114 := ⟨by decide +kernel, rfl⟩
theorem dX9_usedByAll_114 : Dd mX9_usedByAll.2.1 114 (.iload 5) 2 116 := ⟨by decide +kernel, rfl⟩
theorem dX9_usedByAll_116 : Dd mX9_usedByAll.2.1 116 (.goto 4) 3 119 := ⟨by decide +kernel, rfl⟩
theorem dX9_usedByAll_119 : Dd mX9_usedByAll.2.1 119 (.iload_n 3) 1 120 := ⟨by decide +kernel, rfl⟩
theorem dX9_usedByAll_120 : Dd mX9_usedByAll.2.1 120 (.istore_n 3) 1 121 := ⟨by decide +kernel, rfl⟩
theorem dX9_usedByAll_121 : Dd mX9_usedByAll.2.1 121 (.iload 7) 2 123 := ⟨by decide +kernel, rfl⟩
theorem dX9_usedByAll_123 : Dd mX9_usedByAll.2.1 123 (.ifCond .eq 8) 3 126 := ⟨by decide +kernel, rfl⟩
theorem dX9_usedByAll_126 : Dd mX9_usedByAll.2.1 126 (.iload 6) 2 128 := ⟨by decide +kernel, rfl⟩
theorem dX9_usedByAll_128 : Dd mX9_usedByAll.2.1 128 (.goto 5) 3 131 := ⟨by decide +kernel, rfl⟩
theorem dX9_usedByAll_131 : Dd mX9_usedByAll.2.1 131 (.iload 4) 2 133 := ⟨by decide +kernel, rfl⟩
theorem dX9_usedByAll_133 : Dd mX9_usedByAll.2.1 133 (.istore 4) 2 135 := ⟨by decide +kernel, rfl⟩
theorem dX9_usedByAll_135 : Dd mX9_usedByAll.2.1 135 (.iinc 5 1) 3 138 := ⟨by decide +kernel, rfl⟩
theorem dX9_usedByAll_138 : Dd mX9_usedByAll.2.1 138 (.goto (-113)) 3 141 := ⟨by decide +kernel, rfl⟩
theorem dX9_usedByAll_141 : Dd mX9_usedByAll.2.1 141 (.iload_n 3) 1 142 := ⟨by decide +kernel, rfl⟩
theorem dX9_usedByAll_142 : Dd mX9_usedByAll.2.1 142 (.ireturn) 1 143 := ⟨by decide +kernel, rfl⟩
theorem dX9_ribbonOf_0 : Dd mX9_ribbonOf.2.1 0 (.aload_n 0) 1 1 := ⟨by decide +kernel, rfl⟩
theorem dX9_ribbonOf_1 : Dd mX9_ribbonOf.2.1 1 (.invokevirtual 238) 3 4 := ⟨by decide +kernel, rfl⟩
theorem dX9_ribbonOf_4 : Dd mX9_ribbonOf.2.1 4 (.istore_n 3) 1 5 := ⟨by decide +kernel, rfl⟩
theorem dX9_ribbonOf_5 : Dd mX9_ribbonOf.2.1 5 (.iload_n 2) 1 6 := ⟨by decide +kernel, rfl⟩
theorem dX9_ribbonOf_6 : Dd mX9_ribbonOf.2.1 6 (.istore 4) 2 8 := ⟨by decide +kernel, rfl⟩
theorem dX9_ribbonOf_8 : Dd mX9_ribbonOf.2.1 8 (.iconst 0) 1 9 := ⟨by decide +kernel, rfl⟩
theorem dX9_ribbonOf_9 : Dd mX9_ribbonOf.2.1 9 (.istore 5) 2 11 := ⟨by decide +kernel, rfl⟩
theorem dX9_ribbonOf_11 : Dd mX9_ribbonOf.2.1 11 (.iconst 0) 1 12 := ⟨by decide +kernel, rfl⟩
theorem dX9_ribbonOf_12 : Dd mX9_ribbonOf.2.1 12 (.istore 6) 2 14 := ⟨by decide +kernel, rfl⟩
theorem dX9_ribbonOf_14 : Dd mX9_ribbonOf.2.1 14 (.iload 6) 2 16 := ⟨by decide +kernel, rfl⟩
theorem dX9_ribbonOf_16 : Dd mX9_ribbonOf.2.1 16 (.iload_n 1) 1 17 := ⟨by decide +kernel, rfl⟩
theorem dX9_ribbonOf_17 : Dd mX9_ribbonOf.2.1 17 (.if_icmp .gt 93) 3 20 := ⟨by decide +kernel, rfl⟩
theorem dX9_ribbonOf_20 : Dd mX9_ribbonOf.2.1 20 (.iload_n 3) 1 21 := ⟨by decide +kernel, rfl⟩
theorem dX9_ribbonOf_21 : Dd mX9_ribbonOf.2.1 21 (.iload 6) 2 23 := ⟨by decide +kernel, rfl⟩
theorem dX9_ribbonOf_23 : Dd mX9_ribbonOf.2.1 23 (.invokestatic 166) 3 26 := ⟨by decide +kernel, rfl⟩
theorem dX9_ribbonOf_26 : Dd mX9_ribbonOf.2.1 26 (.ifCond .eq 78) 3 29 := ⟨by decide +kernel, rfl⟩
theorem dX9_ribbonOf_29 : Dd mX9_ribbonOf.2.1 29 (.iload_n 3) 1 30 := ⟨by decide +kernel, rfl⟩
theorem dX9_ribbonOf_30 : Dd mX9_ribbonOf.2.1 30 (.iconst 1) 1 31 := ⟨by decide +kernel, rfl⟩
theorem dX9_ribbonOf_31 : Dd mX9_ribbonOf.2.1 31 (.iload 6) 2 33 := ⟨by decide +kernel, rfl⟩
theorem dX9_ribbonOf_33 : Dd mX9_ribbonOf.2.1 33 (.ishl) 1 34 := ⟨by decide +kernel, rfl⟩
theorem dX9_ribbonOf_34 : Dd mX9_ribbonOf.2.1 34 (.iconst (-1)) 1 35 := ⟨by decide +kernel, rfl⟩
theorem dX9_ribbonOf_35 : Dd mX9_ribbonOf.2.1 35 (.ixor) 1 36 := ⟨by decide +kernel, rfl⟩
theorem dX9_ribbonOf_36 : Dd mX9_ribbonOf.2.1 36 (.iand) 1 37 := ⟨by decide +kernel, rfl⟩
theorem dX9_ribbonOf_37 : Dd mX9_ribbonOf.2.1 37 (.istore_n 3) 1 38 := ⟨by decide +kernel, rfl⟩
theorem dX9_ribbonOf_38 : Dd mX9_ribbonOf.2.1 38 (.iconst 1) 1 39 := ⟨by decide +kernel, rfl⟩
theorem dX9_ribbonOf_39 : Dd mX9_ribbonOf.2.1 39 (.istore 5) 2 41 := ⟨by decide +kernel, rfl⟩
theorem dX9_ribbonOf_41 : Dd mX9_ribbonOf.2.1 41 (.iload 5) 2 43 := ⟨by decide +kernel, rfl⟩
theorem dX9_ribbonOf_43 : Dd mX9_ribbonOf.2.1 43 (.iload 4) 2 45 := ⟨by decide +kernel, rfl⟩
theorem dX9_ribbonOf_45 : Dd mX9_ribbonOf.2.1 45 (.iconst (-1)) 1 46 := ⟨by decide +kernel, rfl⟩
theorem dX9_ribbonOf_46 : Dd mX9_ribbonOf.2.1 46 (.ixor) 1 47 := ⟨by decide +kernel, rfl⟩
theorem dX9_ribbonOf_47 : Dd mX9_ribbonOf.2.1 47 (.iand) 1 48 := ⟨by decide +kernel, rfl⟩
theorem dX9_ribbonOf_48 : Dd mX9_ribbonOf.2.1 48 (.ifCond .ne 41) 3 51 := ⟨by decide +kernel, rfl⟩
theorem dX9_ribbonOf_51 : Dd mX9_ribbonOf.2.1 51 (.aload_n 0) 1 52 := ⟨by decide +kernel, rfl⟩
theorem dX9_ribbonOf_52 : Dd mX9_ribbonOf.2.1 52 (.getfield 44) 3 55 := ⟨by decide +kernel, rfl⟩
theorem dX9_ribbonOf_55 : Dd mX9_ribbonOf.2.1 55 (.iload 5) 2 57 := ⟨by decide +kernel, rfl⟩
theorem dX9_ribbonOf_57 : Dd mX9_ribbonOf.2.1 57 (.iaload) 1 58 := ⟨by decide +kernel, rfl⟩
theorem dX9_ribbonOf_58 : Dd mX9_ribbonOf.2.1 58 (.aload_n 0) 1 59 := ⟨by decide +kernel, rfl⟩
theorem dX9_ribbonOf_59 : Dd mX9_ribbonOf.2.1 59 (.getfield 31) 3 62 := ⟨by decide +kernel, rfl⟩
theorem dX9_ribbonOf_62 : Dd mX9_ribbonOf.2.1 62 (.iload 6) 2 64 := ⟨by decide +kernel, rfl⟩
theorem dX9_ribbonOf_64 : Dd mX9_ribbonOf.2.1 64 (.iaload) 1 65 := ⟨by decide +kernel, rfl⟩
theorem dX9_ribbonOf_65 : Dd mX9_ribbonOf.2.1 65 (.if_icmp .lt 24) 3 68 := ⟨by decide +kernel, rfl⟩
theorem dX9_ribbonOf_68 : Dd mX9_ribbonOf.2.1 68 (.aload_n 0) 1 69 := ⟨by decide +kernel, rfl⟩
theorem dX9_ribbonOf_69 : Dd mX9_ribbonOf.2.1 69 (.getfield 40) 3 72 := ⟨by decide +kernel, rfl⟩
theorem dX9_ribbonOf_72 : Dd mX9_ribbonOf.2.1 72 (.sipush 1024) 3 75 := ⟨by decide +kernel, rfl⟩
theorem dX9_ribbonOf_75 : Dd mX9_ribbonOf.2.1 75 (.iload_n 3) 1 76 := ⟨by decide +kernel, rfl⟩
theorem dX9_ribbonOf_76 : Dd mX9_ribbonOf.2.1 76 (.imul) 1 77 := ⟨by decide +kernel, rfl⟩
theorem dX9_ribbonOf_77 : Dd mX9_ribbonOf.2.1 77 (.iload 4) 2 79 := ⟨by decide +kernel, rfl⟩
theorem dX9_ribbonOf_79 : Dd mX9_ribbonOf.2.1 79 (.iload 5) 2 81 := ⟨by decide +kernel, rfl⟩
theorem dX9_ribbonOf_81 : Dd mX9_ribbonOf.2.1 81 (.iconst (-1)) 1 82 := ⟨by decide +kernel, rfl⟩
theorem dX9_ribbonOf_82 : Dd mX9_ribbonOf.2.1 82 (.ixor) 1 83 := ⟨by decide +kernel, rfl⟩
theorem dX9_ribbonOf_83 : Dd mX9_ribbonOf.2.1 83 (.iand) 1 84 := ⟨by decide +kernel, rfl⟩
theorem dX9_ribbonOf_84 : Dd mX9_ribbonOf.2.1 84 (.iadd) 1 85 := ⟨by decide +kernel, rfl⟩
theorem dX9_ribbonOf_85 : Dd mX9_ribbonOf.2.1 85 (.baload) 1 86 := ⟨by decide +kernel, rfl⟩
theorem dX9_ribbonOf_86 : Dd mX9_ribbonOf.2.1 86 (.ifCond .ne 9) 3 89 := ⟨by decide +kernel, rfl⟩
theorem dX9_ribbonOf_89 : Dd mX9_ribbonOf.2.1 89 (.iinc 5 1) 3 92 := ⟨by decide +kernel, rfl⟩
theorem dX9_ribbonOf_92 : Dd mX9_ribbonOf.2.1 92 (.goto (-51)) 3 95 := ⟨by decide +kernel, rfl⟩
theorem dX9_ribbonOf_95 : Dd mX9_ribbonOf.2.1 95 (.iload 4) 2 97 := ⟨by decide +kernel, rfl⟩
theorem dX9_ribbonOf_97 : Dd mX9_ribbonOf.2.1 97 (.iload 5) 2 99 := ⟨by decide +kernel, rfl⟩
theorem dX9_ribbonOf_99 : Dd mX9_ribbonOf.2.1 99 (.iconst (-1)) 1 100 := ⟨by decide +kernel, rfl⟩
theorem dX9_ribbonOf_100 : Dd mX9_ribbonOf.2.1 100 (.ixor) 1 101 := ⟨by decide +kernel, rfl⟩
theorem dX9_ribbonOf_101 : Dd mX9_ribbonOf.2.1 101 (.iand) 1 102 := ⟨by decide +kernel, rfl⟩
theorem dX9_ribbonOf_102 : Dd mX9_ribbonOf.2.1 102 (.istore 4) 2 104 := ⟨by decide +kernel, rfl⟩
theorem dX9_ribbonOf_104 : Dd mX9_ribbonOf.2.1 104 (.iinc 6 1) 3 107 := ⟨by decide +kernel, rfl⟩
theorem dX9_ribbonOf_107 : Dd mX9_ribbonOf.2.1 107 (.goto (-93)) 3 110 := ⟨by decide +kernel, rfl⟩
theorem dX9_ribbonOf_110 : Dd mX9_ribbonOf.2.1 110 (.iload 5) 2 112 := ⟨by decide +kernel, rfl⟩
theorem dX9_ribbonOf_112 : Dd mX9_ribbonOf.2.1 112 (.ireturn) 1 113 := ⟨by decide +kernel, rfl⟩
theorem dX9_all_0 : Dd mX9_all.2.1 0 (.iload_n 1) 1 1 := ⟨by decide +kernel, rfl⟩
theorem dX9_all_1 : Dd mX9_all.2.1 1 (.i2l) 1 2 := ⟨by decide +kernel, rfl⟩
theorem dX9_all_2 : Dd mX9_all.2.1 2 (.ldc2_w 244) 3 5 := ⟨by decide +kernel, rfl⟩
theorem dX9_all_5 : Dd mX9_all.2.1 5 (.aload_n 0) 1 6 := ⟨by decide +kernel, rfl⟩
theorem dX9_all_6 : Dd mX9_all.2.1 6 (.getfield 84) 3 9 := ⟨by decide +kernel, rfl⟩
theorem dX9_all_9 : Dd mX9_all.2.1 9 (.iconst 1) 1 10 := ⟨by decide +kernel, rfl⟩
theorem dX9_all_10 : Dd mX9_all.2.1 10 (.isub) 1 11 := ⟨by decide +kernel, rfl⟩
theorem dX9_all_11 : Dd mX9_all.2.1 11 (.i2l) 1 12 := ⟨by decide +kernel, rfl⟩
theorem dX9_all_12 : Dd mX9_all.2.1 12 (.invokestatic 100) 3 15 := ⟨by decide +kernel, rfl⟩
theorem dX9_all_15 : Dd mX9_all.2.1 15 (.ifCond .ne 5) 3 18 := ⟨by decide +kernel, rfl⟩
theorem dX9_all_18 : Dd mX9_all.2.1 18 (.iconst (-1)) 1 19 := ⟨by decide +kernel, rfl⟩
theorem dX9_all_19 : Dd mX9_all.2.1 19 (.ireturn) 1 20 := ⟨by decide +kernel, rfl⟩
theorem dX9_all_20 : Dd mX9_all.2.1 20 (.aload_n 0) 1 21 := ⟨by decide +kernel, rfl⟩
theorem dX9_all_21 : Dd mX9_all.2.1 21 (.invokevirtual 246) 3 24 := ⟨by decide +kernel, rfl⟩
theorem dX9_all_24 : Dd mX9_all.2.1 24 (.istore_n 2) 1 25 := ⟨by decide +kernel, rfl⟩
theorem dX9_all_25 : Dd mX9_all.2.1 25 (.iload_n 2) 1 26 := ⟨by decide +kernel, rfl⟩
theorem dX9_all_26 : Dd mX9_all.2.1 26 (.bipush (-4)) 2 28 := ⟨by decide +kernel, rfl⟩
theorem dX9_all_28 : Dd mX9_all.2.1 28 (.if_icmp .ne 6) 3 31 := ⟨by decide +kernel, rfl⟩
theorem dX9_all_31 : Dd mX9_all.2.1 31 (.bipush (-4)) 2 33 := ⟨by decide +kernel, rfl⟩
theorem dX9_all_33 : Dd mX9_all.2.1 33 (.ireturn) 1 34 := ⟨by decide +kernel, rfl⟩
theorem dX9_all_34 : Dd mX9_all.2.1 34 (.iload_n 1) 1 35 := ⟨by decide +kernel, rfl⟩
theorem dX9_all_35 : Dd mX9_all.2.1 35 (.iconst (-1)) 1 36 := ⟨by decide +kernel, rfl⟩
theorem dX9_all_36 : Dd mX9_all.2.1 36 (.if_icmp .ne 7) 3 39 := ⟨by decide +kernel, rfl⟩
theorem dX9_all_39 : Dd mX9_all.2.1 39 (.iload_n 2) 1 40 := ⟨by decide +kernel, rfl⟩
theorem dX9_all_40 : Dd mX9_all.2.1 40 (.goto 39) 3 43 := ⟨by decide +kernel, rfl⟩
theorem dX9_all_43 : Dd mX9_all.2.1 43 (.iload_n 1) 1 44 := ⟨by decide +kernel, rfl⟩
theorem dX9_all_44 : Dd mX9_all.2.1 44 (.bipush (-2)) 2 46 := ⟨by decide +kernel, rfl⟩
theorem dX9_all_46 : Dd mX9_all.2.1 46 (.if_icmp .ne 12) 3 49 := ⟨by decide +kernel, rfl⟩
theorem dX9_all_49 : Dd mX9_all.2.1 49 (.aload_n 0) 1 50 := ⟨by decide +kernel, rfl⟩
theorem dX9_all_50 : Dd mX9_all.2.1 50 (.iconst 0) 1 51 := ⟨by decide +kernel, rfl⟩
theorem dX9_all_51 : Dd mX9_all.2.1 51 (.iload_n 2) 1 52 := ⟨by decide +kernel, rfl⟩
theorem dX9_all_52 : Dd mX9_all.2.1 52 (.invokevirtual 225) 3 55 := ⟨by decide +kernel, rfl⟩
theorem dX9_all_55 : Dd mX9_all.2.1 55 (.goto 24) 3 58 := ⟨by decide +kernel, rfl⟩
theorem dX9_all_58 : Dd mX9_all.2.1 58 (.aload_n 0) 1 59 := ⟨by decide +kernel, rfl⟩
theorem dX9_all_59 : Dd mX9_all.2.1 59 (.invokevirtual 238) 3 62 := ⟨by decide +kernel, rfl⟩
theorem dX9_all_62 : Dd mX9_all.2.1 62 (.iload_n 1) 1 63 := ⟨by decide +kernel, rfl⟩
theorem dX9_all_63 : Dd mX9_all.2.1 63 (.invokestatic 166) 3 66 := ⟨by decide +kernel, rfl⟩
theorem dX9_all_66 : Dd mX9_all.2.1 66 (.ifCond .eq 12) 3 69 := ⟨by decide +kernel, rfl⟩
theorem dX9_all_69 : Dd mX9_all.2.1 69 (.aload_n 0) 1 70 := ⟨by decide +kernel, rfl⟩
theorem dX9_all_70 : Dd mX9_all.2.1 70 (.iload_n 1) 1 71 := ⟨by decide +kernel, rfl⟩
theorem dX9_all_71 : Dd mX9_all.2.1 71 (.iload_n 2) 1 72 := ⟨by decide +kernel, rfl⟩
theorem dX9_all_72 : Dd mX9_all.2.1 72 (.invokevirtual 249) 3 75 := ⟨by decide +kernel, rfl⟩
theorem dX9_all_75 : Dd mX9_all.2.1 75 (.goto 4) 3 78 := ⟨by decide +kernel, rfl⟩
theorem dX9_all_78 : Dd mX9_all.2.1 78 (.iconst 0) 1 79 := ⟨by decide +kernel, rfl⟩
theorem dX9_all_79 : Dd mX9_all.2.1 79 (.ireturn) 1 80 := ⟨by decide +kernel, rfl⟩
theorem dX9_more_0 : Dd mX9_more.2.1 0 (.iload_n 1) 1 1 := ⟨by decide +kernel, rfl⟩
theorem dX9_more_1 : Dd mX9_more.2.1 1 (.i2l) 1 2 := ⟨by decide +kernel, rfl⟩
theorem dX9_more_2 : Dd mX9_more.2.1 2 (.lconst 1) 1 3 := ⟨by decide +kernel, rfl⟩
theorem dX9_more_3 : Dd mX9_more.2.1 3 (.ldc2_w 252) 3 6 := ⟨by decide +kernel, rfl⟩
theorem dX9_more_6 : Dd mX9_more.2.1 6 (.invokestatic 100) 3 9 := ⟨by decide +kernel, rfl⟩
theorem dX9_more_9 : Dd mX9_more.2.1 9 (.ifCond .ne 5) 3 12 := ⟨by decide +kernel, rfl⟩
theorem dX9_more_12 : Dd mX9_more.2.1 12 (.iconst (-1)) 1 13 := ⟨by decide +kernel, rfl⟩
theorem dX9_more_13 : Dd mX9_more.2.1 13 (.ireturn) 1 14 := ⟨by decide +kernel, rfl⟩
theorem dX9_more_14 : Dd mX9_more.2.1 14 (.iconst 0) 1 15 := ⟨by decide +kernel, rfl⟩
theorem dX9_more_15 : Dd mX9_more.2.1 15 (.istore_n 2) 1 16 := ⟨by decide +kernel, rfl⟩
theorem dX9_more_16 : Dd mX9_more.2.1 16 (.iload_n 2) 1 17 := ⟨by decide +kernel, rfl⟩
theorem dX9_more_17 : Dd mX9_more.2.1 17 (.iconst 1) 1 18 := ⟨by decide +kernel, rfl⟩
theorem dX9_more_18 : Dd mX9_more.2.1 18 (.aload_n 0) 1 19 := ⟨by decide +kernel, rfl⟩
theorem dX9_more_19 : Dd mX9_more.2.1 19 (.getfield 74) 3 22 := ⟨by decide +kernel, rfl⟩
theorem dX9_more_22 : Dd mX9_more.2.1 22 (.ishl) 1 23 := ⟨by decide +kernel, rfl⟩
theorem dX9_more_23 : Dd mX9_more.2.1 23 (.if_icmp .ge 91) 3 26 := ⟨by decide +kernel, rfl⟩
theorem dX9_more_26 : Dd mX9_more.2.1 26 (.aload_n 0) 1 27 := ⟨by decide +kernel, rfl⟩
theorem dX9_more_27 : Dd mX9_more.2.1 27 (.getfield 44) 3 30 := ⟨by decide +kernel, rfl⟩
theorem dX9_more_30 : Dd mX9_more.2.1 30 (.iload_n 2) 1 31 := ⟨by decide +kernel, rfl⟩
theorem dX9_more_31 : Dd mX9_more.2.1 31 (.aload_n 0) 1 32 := ⟨by decide +kernel, rfl⟩
theorem dX9_more_32 : Dd mX9_more.2.1 32 (.iload_n 2) 1 33 := ⟨by decide +kernel, rfl⟩
theorem dX9_more_33 : Dd mX9_more.2.1 33 (.invokevirtual 198) 3 36 := ⟨by decide +kernel, rfl⟩
theorem dX9_more_36 : Dd mX9_more.2.1 36 (.iastore) 1 37 := ⟨by decide +kernel, rfl⟩
theorem dX9_more_37 : Dd mX9_more.2.1 37 (.iconst 0) 1 38 := ⟨by decide +kernel, rfl⟩
theorem dX9_more_38 : Dd mX9_more.2.1 38 (.istore_n 3) 1 39 := ⟨by decide +kernel, rfl⟩
theorem dX9_more_39 : Dd mX9_more.2.1 39 (.iload_n 2) 1 40 := ⟨by decide +kernel, rfl⟩
theorem dX9_more_40 : Dd mX9_more.2.1 40 (.istore 4) 2 42 := ⟨by decide +kernel, rfl⟩
theorem dX9_more_42 : Dd mX9_more.2.1 42 (.iload 4) 2 44 := ⟨by decide +kernel, rfl⟩
theorem dX9_more_44 : Dd mX9_more.2.1 44 (.ifCond .le 57) 3 47 := ⟨by decide +kernel, rfl⟩
theorem dX9_more_47 : Dd mX9_more.2.1 47 (.aload_n 0) 1 48 := ⟨by decide +kernel, rfl⟩
theorem dX9_more_48 : Dd mX9_more.2.1 48 (.getfield 44) 3 51 := ⟨by decide +kernel, rfl⟩
theorem dX9_more_51 : Dd mX9_more.2.1 51 (.iload 4) 2 53 := ⟨by decide +kernel, rfl⟩
theorem dX9_more_53 : Dd mX9_more.2.1 53 (.iaload) 1 54 := ⟨by decide +kernel, rfl⟩
theorem dX9_more_54 : Dd mX9_more.2.1 54 (.iload_n 1) 1 55 := ⟨by decide +kernel, rfl⟩
theorem dX9_more_55 : Dd mX9_more.2.1 55 (.if_icmp .lt 19) 3 58 := ⟨by decide +kernel, rfl⟩
theorem dX9_more_58 : Dd mX9_more.2.1 58 (.iconst 1) 1 59 := ⟨by decide +kernel, rfl⟩
theorem dX9_more_59 : Dd mX9_more.2.1 59 (.aload_n 0) 1 60 := ⟨by decide +kernel, rfl⟩
theorem dX9_more_60 : Dd mX9_more.2.1 60 (.getfield 47) 3 63 := ⟨by decide +kernel, rfl⟩
theorem dX9_more_63 : Dd mX9_more.2.1 63 (.iload_n 2) 1 64 := ⟨by decide +kernel, rfl⟩
theorem dX9_more_64 : Dd mX9_more.2.1 64 (.iload 4) 2 66 := ⟨by decide +kernel, rfl⟩
theorem dX9_more_66 : Dd mX9_more.2.1 66 (.iconst (-1)) 1 67 := ⟨by decide +kernel, rfl⟩
theorem dX9_more_67 : Dd mX9_more.2.1 67 (.ixor) 1 68 := ⟨by decide +kernel, rfl⟩
theorem dX9_more_68 : Dd mX9_more.2.1 68 (.iand) 1 69 := ⟨by decide +kernel, rfl⟩
theorem dX9_more_69 : Dd mX9_more.2.1 69 (.iaload) 1 70 := ⟨by decide +kernel, rfl⟩
theorem dX9_more_70 : Dd mX9_more.2.1 70 (.iadd) 1 71 := ⟨by decide +kernel, rfl⟩
theorem dX9_more_71 : Dd mX9_more.2.1 71 (.goto 4) 3 74 := ⟨by decide +kernel, rfl⟩
theorem dX9_more_74 : Dd mX9_more.2.1 74 (.iconst 0) 1 75 := ⟨by decide +kernel, rfl⟩
theorem dX9_more_75 : Dd mX9_more.2.1 75 (.istore 5) 2 77 := ⟨by decide +kernel, rfl⟩
theorem dX9_more_77 : Dd mX9_more.2.1 77 (.iload 5) 2 79 := ⟨by decide +kernel, rfl⟩
theorem dX9_more_79 : Dd mX9_more.2.1 79 (.iload_n 3) 1 80 := ⟨by decide +kernel, rfl⟩
theorem dX9_more_80 : Dd mX9_more.2.1 80 (.if_icmp .le 8) 3 83 := ⟨by decide +kernel, rfl⟩
theorem dX9_more_83 : Dd mX9_more.2.1 83 (.iload 5) 2 85 := ⟨by decide +kernel, rfl⟩
theorem dX9_more_85 : Dd mX9_more.2.1 85 (.goto 4) 3 88 := ⟨by decide +kernel, rfl⟩
theorem dX9_more_88 : Dd mX9_more.2.1 88 (.iload_n 3) 1 89 := ⟨by decide +kernel, rfl⟩
theorem dX9_more_89 : Dd mX9_more.2.1 89 (.istore_n 3) 1 90 := ⟨by decide +kernel, rfl⟩
theorem dX9_more_90 : Dd mX9_more.2.1 90 (.iload 4) 2 92 := ⟨by decide +kernel, rfl⟩
theorem dX9_more_92 : Dd mX9_more.2.1 92 (.iconst 1) 1 93 := ⟨by decide +kernel, rfl⟩
theorem dX9_more_93 : Dd mX9_more.2.1 93 (.isub) 1 94 := ⟨by decide +kernel, rfl⟩
theorem dX9_more_94 : Dd mX9_more.2.1 94 (.iload_n 2) 1 95 := ⟨by decide +kernel, rfl⟩
theorem dX9_more_95 : Dd mX9_more.2.1 95 (.iand) 1 96 := ⟨by decide +kernel, rfl⟩
theorem dX9_more_96 : Dd mX9_more.2.1 96 (.istore 4) 2 98 := ⟨by decide +kernel, rfl⟩
theorem dX9_more_98 : Dd mX9_more.2.1 98 (.goto (-56)) 3 101 := ⟨by decide +kernel, rfl⟩
theorem dX9_more_101 : Dd mX9_more.2.1 101 (.aload_n 0) 1 102 := ⟨by decide +kernel, rfl⟩
theorem dX9_more_102 : Dd mX9_more.2.1 102 (.getfield 47) 3 105 := ⟨by decide +kernel, rfl⟩
theorem dX9_more_105 : Dd mX9_more.2.1 105 (.iload_n 2) 1 106 := ⟨by decide +kernel, rfl⟩
theorem dX9_more_106 : Dd mX9_more.2.1 106 (.iload_n 3) 1 107 := ⟨by decide +kernel, rfl⟩
theorem dX9_more_107 : Dd mX9_more.2.1 107 (.iastore) 1 108 := ⟨by decide +kernel, rfl⟩
theorem dX9_more_108 : Dd mX9_more.2.1 108 (.iinc 2 1) 3 111 := ⟨by decide +kernel, rfl⟩
theorem dX9_more_111 : Dd mX9_more.2.1 111 (.goto (-95)) 3 114 := ⟨by decide +kernel, rfl⟩
theorem dX9_more_114 : Dd mX9_more.2.1 114 (.aload_n 0) 1 115 := ⟨by decide +kernel, rfl⟩
theorem dX9_more_115 : Dd mX9_more.2.1 115 (.getfield 47) 3 118 := ⟨by decide +kernel, rfl⟩
theorem dX9_more_118 : Dd mX9_more.2.1 118 (.aload_n 0) 1 119 := ⟨by decide +kernel, rfl⟩
theorem dX9_more_119 : Dd mX9_more.2.1 119 (.iconst 0) 1 120 := ⟨by decide +kernel, rfl⟩
theorem dX9_more_120 : Dd mX9_more.2.1 120 (.invokevirtual 189) 3 123 := ⟨by decide +kernel, rfl⟩
theorem dX9_more_123 : Dd mX9_more.2.1 123 (.iaload) 1 124 := ⟨by decide +kernel, rfl⟩
theorem dX9_more_124 : Dd mX9_more.2.1 124 (.ireturn) 1 125 := ⟨by decide +kernel, rfl⟩
theorem dX9_worst_0 : Dd mX9_worst.2.1 0 (.iload_n 1) 1 1 := ⟨by decide +kernel, rfl⟩
theorem dX9_worst_1 : Dd mX9_worst.2.1 1 (.i2l) 1 2 := ⟨by decide +kernel, rfl⟩
theorem dX9_worst_2 : Dd mX9_worst.2.1 2 (.lconst 0) 1 3 := ⟨by decide +kernel, rfl⟩
theorem dX9_worst_3 : Dd mX9_worst.2.1 3 (.lconst 1) 1 4 := ⟨by decide +kernel, rfl⟩
theorem dX9_worst_4 : Dd mX9_worst.2.1 4 (.invokestatic 100) 3 7 := ⟨by decide +kernel, rfl⟩
theorem dX9_worst_7 : Dd mX9_worst.2.1 7 (.ifCond .ne 5) 3 10 := ⟨by decide +kernel, rfl⟩
theorem dX9_worst_10 : Dd mX9_worst.2.1 10 (.iconst (-1)) 1 11 := ⟨by decide +kernel, rfl⟩
theorem dX9_worst_11 : Dd mX9_worst.2.1 11 (.ireturn) 1 12 := ⟨by decide +kernel, rfl⟩
theorem dX9_worst_12 : Dd mX9_worst.2.1 12 (.aload_n 0) 1 13 := ⟨by decide +kernel, rfl⟩
theorem dX9_worst_13 : Dd mX9_worst.2.1 13 (.iconst 0) 1 14 := ⟨by decide +kernel, rfl⟩
theorem dX9_worst_14 : Dd mX9_worst.2.1 14 (.invokevirtual 189) 3 17 := ⟨by decide +kernel, rfl⟩
theorem dX9_worst_17 : Dd mX9_worst.2.1 17 (.istore_n 2) 1 18 := ⟨by decide +kernel, rfl⟩
theorem dX9_worst_18 : Dd mX9_worst.2.1 18 (.bipush (-4)) 2 20 := ⟨by decide +kernel, rfl⟩
theorem dX9_worst_20 : Dd mX9_worst.2.1 20 (.istore_n 3) 1 21 := ⟨by decide +kernel, rfl⟩
theorem dX9_worst_21 : Dd mX9_worst.2.1 21 (.bipush (-4)) 2 23 := ⟨by decide +kernel, rfl⟩
theorem dX9_worst_23 : Dd mX9_worst.2.1 23 (.istore 4) 2 25 := ⟨by decide +kernel, rfl⟩
theorem dX9_worst_25 : Dd mX9_worst.2.1 25 (.iconst 0) 1 26 := ⟨by decide +kernel, rfl⟩
theorem dX9_worst_26 : Dd mX9_worst.2.1 26 (.istore 5) 2 28 := ⟨by decide +kernel, rfl⟩
theorem dX9_worst_28 : Dd mX9_worst.2.1 28 (.iload 5) 2 30 := ⟨by decide +kernel, rfl⟩
theorem dX9_worst_30 : Dd mX9_worst.2.1 30 (.aload_n 0) 1 31 := ⟨by decide +kernel, rfl⟩
theorem dX9_worst_31 : Dd mX9_worst.2.1 31 (.getfield 74) 3 34 := ⟨by decide +kernel, rfl⟩
theorem dX9_worst_34 : Dd mX9_worst.2.1 34 (.if_icmp .ge 75) 3 37 := ⟨by decide +kernel, rfl⟩
theorem dX9_worst_37 : Dd mX9_worst.2.1 37 (.iload_n 2) 1 38 := ⟨by decide +kernel, rfl⟩
theorem dX9_worst_38 : Dd mX9_worst.2.1 38 (.iload 5) 2 40 := ⟨by decide +kernel, rfl⟩
theorem dX9_worst_40 : Dd mX9_worst.2.1 40 (.invokestatic 166) 3 43 := ⟨by decide +kernel, rfl⟩
theorem dX9_worst_43 : Dd mX9_worst.2.1 43 (.ifCond .eq 26) 3 46 := ⟨by decide +kernel, rfl⟩
theorem dX9_worst_46 : Dd mX9_worst.2.1 46 (.aload_n 0) 1 47 := ⟨by decide +kernel, rfl⟩
theorem dX9_worst_47 : Dd mX9_worst.2.1 47 (.iconst 1) 1 48 := ⟨by decide +kernel, rfl⟩
theorem dX9_worst_48 : Dd mX9_worst.2.1 48 (.iload 5) 2 50 := ⟨by decide +kernel, rfl⟩
theorem dX9_worst_50 : Dd mX9_worst.2.1 50 (.ishl) 1 51 := ⟨by decide +kernel, rfl⟩
theorem dX9_worst_51 : Dd mX9_worst.2.1 51 (.invokevirtual 174) 3 54 := ⟨by decide +kernel, rfl⟩
theorem dX9_worst_54 : Dd mX9_worst.2.1 54 (.iload_n 2) 1 55 := ⟨by decide +kernel, rfl⟩
theorem dX9_worst_55 : Dd mX9_worst.2.1 55 (.iand) 1 56 := ⟨by decide +kernel, rfl⟩
theorem dX9_worst_56 : Dd mX9_worst.2.1 56 (.iconst 1) 1 57 := ⟨by decide +kernel, rfl⟩
theorem dX9_worst_57 : Dd mX9_worst.2.1 57 (.iload 5) 2 59 := ⟨by decide +kernel, rfl⟩
theorem dX9_worst_59 : Dd mX9_worst.2.1 59 (.ishl) 1 60 := ⟨by decide +kernel, rfl⟩
theorem dX9_worst_60 : Dd mX9_worst.2.1 60 (.iconst (-1)) 1 61 := ⟨by decide +kernel, rfl⟩
theorem dX9_worst_61 : Dd mX9_worst.2.1 61 (.ixor) 1 62 := ⟨by decide +kernel, rfl⟩
theorem dX9_worst_62 : Dd mX9_worst.2.1 62 (.iand) 1 63 := ⟨by decide +kernel, rfl⟩
theorem dX9_worst_63 : Dd mX9_worst.2.1 63 (.invokestatic 214) 3 66 := ⟨by decide +kernel, rfl⟩
theorem dX9_worst_66 : Dd mX9_worst.2.1 66 (.goto 5) 3 69 := ⟨by decide +kernel, rfl⟩
theorem dX9_worst_69 : Dd mX9_worst.2.1 69 (.bipush (-4)) 2 71 := ⟨by decide +kernel, rfl⟩
theorem dX9_worst_71 : Dd mX9_worst.2.1 71 (.istore 6) 2 73 := ⟨by decide +kernel, rfl⟩
theorem dX9_worst_73 : Dd mX9_worst.2.1 73 (.iload 6) 2 75 := ⟨by decide +kernel, rfl⟩
theorem dX9_worst_75 : Dd mX9_worst.2.1 75 (.iload 4) 2 77 := ⟨by decide +kernel, rfl⟩
theorem dX9_worst_77 : Dd mX9_worst.2.1 77 (.if_icmp .le 8) 3 80 := ⟨by decide +kernel, rfl⟩
theorem dX9_worst_80 : Dd mX9_worst.2.1 80 (.iload 5) 2 82 := ⟨by decide +kernel, rfl⟩
theorem dX9_worst_82 : Dd mX9_worst.2.1 82 (.goto 4) 3 85 := ⟨by decide +kernel, rfl⟩
theorem dX9_worst_85 : Dd mX9_worst.2.1 85 (.iload_n 3) 1 86 := ⟨by decide +kernel, rfl⟩
theorem dX9_worst_86 : Dd mX9_worst.2.1 86 (.istore_n 3) 1 87 := ⟨by decide +kernel, rfl⟩
theorem dX9_worst_87 : Dd mX9_worst.2.1 87 (.iload 6) 2 89 := ⟨by decide +kernel, rfl⟩
theorem dX9_worst_89 : Dd mX9_worst.2.1 89 (.iload 4) 2 91 := ⟨by decide +kernel, rfl⟩
theorem dX9_worst_91 : Dd mX9_worst.2.1 91 (.if_icmp .le 8) 3 94 := ⟨by decide +kernel, rfl⟩
theorem dX9_worst_94 : Dd mX9_worst.2.1 94 (.iload 6) 2 96 := ⟨by decide +kernel, rfl⟩
theorem dX9_worst_96 : Dd mX9_worst.2.1 96 (.goto 5) 3 99 := ⟨by decide +kernel, rfl⟩
theorem dX9_worst_99 : Dd mX9_worst.2.1 99 (.iload 4) 2 101 := ⟨by decide +kernel, rfl⟩
theorem dX9_worst_101 : Dd mX9_worst.2.1 101 (.istore 4) 2 103 := ⟨by decide +kernel, rfl⟩
theorem dX9_worst_103 : Dd mX9_worst.2.1 103 (.iinc 5 1) 3 106 := ⟨by decide +kernel, rfl⟩
theorem dX9_worst_106 : Dd mX9_worst.2.1 106 (.goto (-78)) 3 109 := ⟨by decide +kernel, rfl⟩
theorem dX9_worst_109 : Dd mX9_worst.2.1 109 (.iload_n 1) 1 110 := ⟨by decide +kernel, rfl⟩
theorem dX9_worst_110 : Dd mX9_worst.2.1 110 (.ifCond .ne 7) 3 113 := ⟨by decide +kernel, rfl⟩
theorem dX9_worst_113 : Dd mX9_worst.2.1 113 (.iload_n 3) 1 114 := ⟨by decide +kernel, rfl⟩
theorem dX9_worst_114 : Dd mX9_worst.2.1 114 (.goto 5) 3 117 := ⟨by decide +kernel, rfl⟩
theorem dX9_worst_117 : Dd mX9_worst.2.1 117 (.iload 4) 2 119 := ⟨by decide +kernel, rfl⟩
theorem dX9_worst_119 : Dd mX9_worst.2.1 119 (.ireturn) 1 120 := ⟨by decide +kernel, rfl⟩
theorem dX9_back_0 : Dd mX9_back.2.1 0 (.aload_n 0) 1 1 := ⟨by decide +kernel, rfl⟩
theorem dX9_back_1 : Dd mX9_back.2.1 1 (.iload_n 1) 1 2 := ⟨by decide +kernel, rfl⟩
theorem dX9_back_2 : Dd mX9_back.2.1 2 (.invokevirtual 186) 3 5 := ⟨by decide +kernel, rfl⟩
theorem dX9_back_5 : Dd mX9_back.2.1 5 (.ifCond .ne 5) 3 8 := ⟨by decide +kernel, rfl⟩
theorem dX9_back_8 : Dd mX9_back.2.1 8 (.iconst (-1)) 1 9 := ⟨by decide +kernel, rfl⟩
theorem dX9_back_9 : Dd mX9_back.2.1 9 (.ireturn) 1 10 := ⟨by decide +kernel, rfl⟩
theorem dX9_back_10 : Dd mX9_back.2.1 10 (.aload_n 0) 1 11 := ⟨by decide +kernel, rfl⟩
theorem dX9_back_11 : Dd mX9_back.2.1 11 (.iconst 0) 1 12 := ⟨by decide +kernel, rfl⟩
theorem dX9_back_12 : Dd mX9_back.2.1 12 (.invokevirtual 170) 3 15 := ⟨by decide +kernel, rfl⟩
theorem dX9_back_15 : Dd mX9_back.2.1 15 (.istore_n 2) 1 16 := ⟨by decide +kernel, rfl⟩
theorem dX9_back_16 : Dd mX9_back.2.1 16 (.iconst 0) 1 17 := ⟨by decide +kernel, rfl⟩
theorem dX9_back_17 : Dd mX9_back.2.1 17 (.istore_n 3) 1 18 := ⟨by decide +kernel, rfl⟩
theorem dX9_back_18 : Dd mX9_back.2.1 18 (.iconst 0) 1 19 := ⟨by decide +kernel, rfl⟩
theorem dX9_back_19 : Dd mX9_back.2.1 19 (.istore 4) 2 21 := ⟨by decide +kernel, rfl⟩
theorem dX9_back_21 : Dd mX9_back.2.1 21 (.iload 4) 2 23 := ⟨by decide +kernel, rfl⟩
theorem dX9_back_23 : Dd mX9_back.2.1 23 (.aload_n 0) 1 24 := ⟨by decide +kernel, rfl⟩
theorem dX9_back_24 : Dd mX9_back.2.1 24 (.getfield 74) 3 27 := ⟨by decide +kernel, rfl⟩
theorem dX9_back_27 : Dd mX9_back.2.1 27 (.if_icmp .ge 44) 3 30 := ⟨by decide +kernel, rfl⟩
theorem dX9_back_30 : Dd mX9_back.2.1 30 (.iload_n 3) 1 31 := ⟨by decide +kernel, rfl⟩
theorem dX9_back_31 : Dd mX9_back.2.1 31 (.iload_n 2) 1 32 := ⟨by decide +kernel, rfl⟩
theorem dX9_back_32 : Dd mX9_back.2.1 32 (.iload 4) 2 34 := ⟨by decide +kernel, rfl⟩
theorem dX9_back_34 : Dd mX9_back.2.1 34 (.invokestatic 166) 3 37 := ⟨by decide +kernel, rfl⟩
theorem dX9_back_37 : Dd mX9_back.2.1 37 (.ifCond .eq 25) 3 40 := ⟨by decide +kernel, rfl⟩
theorem dX9_back_40 : Dd mX9_back.2.1 40 (.aload_n 0) 1 41 := ⟨by decide +kernel, rfl⟩
theorem dX9_back_41 : Dd mX9_back.2.1 41 (.iconst 1) 1 42 := ⟨by decide +kernel, rfl⟩
theorem dX9_back_42 : Dd mX9_back.2.1 42 (.iload 4) 2 44 := ⟨by decide +kernel, rfl⟩
theorem dX9_back_44 : Dd mX9_back.2.1 44 (.ishl) 1 45 := ⟨by decide +kernel, rfl⟩
theorem dX9_back_45 : Dd mX9_back.2.1 45 (.invokevirtual 174) 3 48 := ⟨by decide +kernel, rfl⟩
theorem dX9_back_48 : Dd mX9_back.2.1 48 (.iload_n 1) 1 49 := ⟨by decide +kernel, rfl⟩
theorem dX9_back_49 : Dd mX9_back.2.1 49 (.invokestatic 166) 3 52 := ⟨by decide +kernel, rfl⟩
theorem dX9_back_52 : Dd mX9_back.2.1 52 (.ifCond .eq 10) 3 55 := ⟨by decide +kernel, rfl⟩
theorem dX9_back_55 : Dd mX9_back.2.1 55 (.iconst 1) 1 56 := ⟨by decide +kernel, rfl⟩
theorem dX9_back_56 : Dd mX9_back.2.1 56 (.iload 4) 2 58 := ⟨by decide +kernel, rfl⟩
theorem dX9_back_58 : Dd mX9_back.2.1 58 (.ishl) 1 59 := ⟨by decide +kernel, rfl⟩
theorem dX9_back_59 : Dd mX9_back.2.1 59 (.goto 4) 3 62 := ⟨by decide +kernel, rfl⟩
theorem dX9_back_62 : Dd mX9_back.2.1 62 (.iconst 0) 1 63 := ⟨by decide +kernel, rfl⟩
theorem dX9_back_63 : Dd mX9_back.2.1 63 (.ior) 1 64 := ⟨by decide +kernel, rfl⟩
theorem dX9_back_64 : Dd mX9_back.2.1 64 (.istore_n 3) 1 65 := ⟨by decide +kernel, rfl⟩
theorem dX9_back_65 : Dd mX9_back.2.1 65 (.iinc 4 1) 3 68 := ⟨by decide +kernel, rfl⟩
theorem dX9_back_68 : Dd mX9_back.2.1 68 (.goto (-47)) 3 71 := ⟨by decide +kernel, rfl⟩
theorem dX9_back_71 : Dd mX9_back.2.1 71 (.iload_n 3) 1 72 := ⟨by decide +kernel, rfl⟩
theorem dX9_back_72 : Dd mX9_back.2.1 72 (.ireturn) 1 73 := ⟨by decide +kernel, rfl⟩
theorem dX9_whoMiss_0 : Dd mX9_whoMiss.2.1 0 (.iconst 0) 1 1 := ⟨by decide +kernel, rfl⟩
theorem dX9_whoMiss_1 : Dd mX9_whoMiss.2.1 1 (.istore_n 2) 1 2 := ⟨by decide +kernel, rfl⟩
theorem dX9_whoMiss_2 : Dd mX9_whoMiss.2.1 2 (.iconst 0) 1 3 := ⟨by decide +kernel, rfl⟩
theorem dX9_whoMiss_3 : Dd mX9_whoMiss.2.1 3 (.istore_n 3) 1 4 := ⟨by decide +kernel, rfl⟩
theorem dX9_whoMiss_4 : Dd mX9_whoMiss.2.1 4 (.iload_n 3) 1 5 := ⟨by decide +kernel, rfl⟩
theorem dX9_whoMiss_5 : Dd mX9_whoMiss.2.1 5 (.aload_n 0) 1 6 := ⟨by decide +kernel, rfl⟩
theorem dX9_whoMiss_6 : Dd mX9_whoMiss.2.1 6 (.getfield 81) 3 9 := ⟨by decide +kernel, rfl⟩
theorem dX9_whoMiss_9 : Dd mX9_whoMiss.2.1 9 (.if_icmp .ge 32) 3 12 := ⟨by decide +kernel, rfl⟩
theorem dX9_whoMiss_12 : Dd mX9_whoMiss.2.1 12 (.iload_n 2) 1 13 := ⟨by decide +kernel, rfl⟩
theorem dX9_whoMiss_13 : Dd mX9_whoMiss.2.1 13 (.iload_n 1) 1 14 := ⟨by decide +kernel, rfl⟩
theorem dX9_whoMiss_14 : Dd mX9_whoMiss.2.1 14 (.aload_n 0) 1 15 := ⟨by decide +kernel, rfl⟩
theorem dX9_whoMiss_15 : Dd mX9_whoMiss.2.1 15 (.getfield 25) 3 18 := ⟨by decide +kernel, rfl⟩
theorem dX9_whoMiss_18 : Dd mX9_whoMiss.2.1 18 (.iload_n 3) 1 19 := ⟨by decide +kernel, rfl⟩
theorem dX9_whoMiss_19 : Dd mX9_whoMiss.2.1 19 (.iaload) 1 20 := ⟨by decide +kernel, rfl⟩
theorem dX9_whoMiss_20 : Dd mX9_whoMiss.2.1 20 (.invokestatic 166) 3 23 := ⟨by decide +kernel, rfl⟩
theorem dX9_whoMiss_23 : Dd mX9_whoMiss.2.1 23 (.ifCond .eq 9) 3 26 := ⟨by decide +kernel, rfl⟩
theorem dX9_whoMiss_26 : Dd mX9_whoMiss.2.1 26 (.iconst 1) 1 27 := ⟨by decide +kernel, rfl⟩
theorem dX9_whoMiss_27 : Dd mX9_whoMiss.2.1 27 (.iload_n 3) 1 28 := ⟨by decide +kernel, rfl⟩
theorem dX9_whoMiss_28 : Dd mX9_whoMiss.2.1 28 (.ishl) 1 29 := ⟨by decide +kernel, rfl⟩
theorem dX9_whoMiss_29 : Dd mX9_whoMiss.2.1 29 (.goto 4) 3 32 := ⟨by decide +kernel, rfl⟩
theorem dX9_whoMiss_32 : Dd mX9_whoMiss.2.1 32 (.iconst 0) 1 33 := ⟨by decide +kernel, rfl⟩
theorem dX9_whoMiss_33 : Dd mX9_whoMiss.2.1 33 (.ior) 1 34 := ⟨by decide +kernel, rfl⟩
theorem dX9_whoMiss_34 : Dd mX9_whoMiss.2.1 34 (.istore_n 2) 1 35 := ⟨by decide +kernel, rfl⟩
theorem dX9_whoMiss_35 : Dd mX9_whoMiss.2.1 35 (.iinc 3 1) 3 38 := ⟨by decide +kernel, rfl⟩
theorem dX9_whoMiss_38 : Dd mX9_whoMiss.2.1 38 (.goto (-34)) 3 41 := ⟨by decide +kernel, rfl⟩
theorem dX9_whoMiss_41 : Dd mX9_whoMiss.2.1 41 (.iload_n 2) 1 42 := ⟨by decide +kernel, rfl⟩
theorem dX9_whoMiss_42 : Dd mX9_whoMiss.2.1 42 (.ireturn) 1 43 := ⟨by decide +kernel, rfl⟩
theorem dX9_missing_0 : Dd mX9_missing.2.1 0 (.iload_n 1) 1 1 := ⟨by decide +kernel, rfl⟩
theorem dX9_missing_1 : Dd mX9_missing.2.1 1 (.i2l) 1 2 := ⟨by decide +kernel, rfl⟩
theorem dX9_missing_2 : Dd mX9_missing.2.1 2 (.lconst 0) 1 3 := ⟨by decide +kernel, rfl⟩
theorem dX9_missing_3 : Dd mX9_missing.2.1 3 (.iconst 1) 1 4 := ⟨by decide +kernel, rfl⟩
theorem dX9_missing_4 : Dd mX9_missing.2.1 4 (.aload_n 0) 1 5 := ⟨by decide +kernel, rfl⟩
theorem dX9_missing_5 : Dd mX9_missing.2.1 5 (.getfield 81) 3 8 := ⟨by decide +kernel, rfl⟩
theorem dX9_missing_8 : Dd mX9_missing.2.1 8 (.ishl) 1 9 := ⟨by decide +kernel, rfl⟩
theorem dX9_missing_9 : Dd mX9_missing.2.1 9 (.iconst 1) 1 10 := ⟨by decide +kernel, rfl⟩
theorem dX9_missing_10 : Dd mX9_missing.2.1 10 (.isub) 1 11 := ⟨by decide +kernel, rfl⟩
theorem dX9_missing_11 : Dd mX9_missing.2.1 11 (.i2l) 1 12 := ⟨by decide +kernel, rfl⟩
theorem dX9_missing_12 : Dd mX9_missing.2.1 12 (.invokestatic 100) 3 15 := ⟨by decide +kernel, rfl⟩
theorem dX9_missing_15 : Dd mX9_missing.2.1 15 (.ifCond .eq 27) 3 18 := ⟨by decide +kernel, rfl⟩
theorem dX9_missing_18 : Dd mX9_missing.2.1 18 (.iload_n 2) 1 19 := ⟨by decide +kernel, rfl⟩
theorem dX9_missing_19 : Dd mX9_missing.2.1 19 (.i2l) 1 20 := ⟨by decide +kernel, rfl⟩
theorem dX9_missing_20 : Dd mX9_missing.2.1 20 (.lconst 0) 1 21 := ⟨by decide +kernel, rfl⟩
theorem dX9_missing_21 : Dd mX9_missing.2.1 21 (.ldc2_w 252) 3 24 := ⟨by decide +kernel, rfl⟩
theorem dX9_missing_24 : Dd mX9_missing.2.1 24 (.invokestatic 100) 3 27 := ⟨by decide +kernel, rfl⟩
theorem dX9_missing_27 : Dd mX9_missing.2.1 27 (.ifCond .eq 15) 3 30 := ⟨by decide +kernel, rfl⟩
theorem dX9_missing_30 : Dd mX9_missing.2.1 30 (.iload_n 3) 1 31 := ⟨by decide +kernel, rfl⟩
theorem dX9_missing_31 : Dd mX9_missing.2.1 31 (.i2l) 1 32 := ⟨by decide +kernel, rfl⟩
theorem dX9_missing_32 : Dd mX9_missing.2.1 32 (.lconst 0) 1 33 := ⟨by decide +kernel, rfl⟩
theorem dX9_missing_33 : Dd mX9_missing.2.1 33 (.ldc2_w 254) 3 36 := ⟨by decide +kernel, rfl⟩
theorem dX9_missing_36 : Dd mX9_missing.2.1 36 (.invokestatic 100) 3 39 := ⟨by decide +kernel, rfl⟩
theorem dX9_missing_39 : Dd mX9_missing.2.1 39 (.ifCond .ne 5) 3 42 := ⟨by decide +kernel, rfl⟩
theorem dX9_missing_42 : Dd mX9_missing.2.1 42 (.iconst (-1)) 1 43 := ⟨by decide +kernel, rfl⟩
theorem dX9_missing_43 : Dd mX9_missing.2.1 43 (.ireturn) 1 44 := ⟨by decide +kernel, rfl⟩
theorem dX9_missing_44 : Dd mX9_missing.2.1 44 (.iconst 0) 1 45 := ⟨by decide +kernel, rfl⟩
theorem dX9_missing_45 : Dd mX9_missing.2.1 45 (.istore 4) 2 47 := ⟨by decide +kernel, rfl⟩
theorem dX9_missing_47 : Dd mX9_missing.2.1 47 (.bipush (-4)) 2 49 := ⟨by decide +kernel, rfl⟩
theorem dX9_missing_49 : Dd mX9_missing.2.1 49 (.istore 5) 2 51 := ⟨by decide +kernel, rfl⟩
theorem dX9_missing_51 : Dd mX9_missing.2.1 51 (.bipush (-4)) 2 53 := ⟨by decide +kernel, rfl⟩
theorem dX9_missing_53 : Dd mX9_missing.2.1 53 (.istore 6) 2 55 := ⟨by decide +kernel, rfl⟩
theorem dX9_missing_55 : Dd mX9_missing.2.1 55 (.iconst 0) 1 56 := ⟨by decide +kernel, rfl⟩
theorem dX9_missing_56 : Dd mX9_missing.2.1 56 (.istore 7) 2 58 := ⟨by decide +kernel, rfl⟩
theorem dX9_missing_58 : Dd mX9_missing.2.1 58 (.iload 7) 2 60 := ⟨by decide +kernel, rfl⟩
theorem dX9_missing_60 : Dd mX9_missing.2.1 60 (.iconst 1) 1 61 := ⟨by decide +kernel, rfl⟩
theorem dX9_missing_61 : Dd mX9_missing.2.1 61 (.aload_n 0) 1 62 := ⟨by decide +kernel, rfl⟩
theorem dX9_missing_62 : Dd mX9_missing.2.1 62 (.getfield 74) 3 65 := ⟨by decide +kernel, rfl⟩
theorem dX9_missing_65 : Dd mX9_missing.2.1 65 (.ishl) 1 66 := ⟨by decide +kernel, rfl⟩
theorem dX9_missing_66 : Dd mX9_missing.2.1 66 (.if_icmp .ge 67) 3 69 := ⟨by decide +kernel, rfl⟩
theorem dX9_missing_69 : Dd mX9_missing.2.1 69 (.aload_n 0) 1 70 := ⟨by decide +kernel, rfl⟩
theorem dX9_missing_70 : Dd mX9_missing.2.1 70 (.iload 7) 2 72 := ⟨by decide +kernel, rfl⟩
theorem dX9_missing_72 : Dd mX9_missing.2.1 72 (.invokevirtual 198) 3 75 := ⟨by decide +kernel, rfl⟩
theorem dX9_missing_75 : Dd mX9_missing.2.1 75 (.iload_n 2) 1 76 := ⟨by decide +kernel, rfl⟩
theorem dX9_missing_76 : Dd mX9_missing.2.1 76 (.if_icmp .lt 51) 3 79 := ⟨by decide +kernel, rfl⟩
theorem dX9_missing_79 : Dd mX9_missing.2.1 79 (.aload_n 0) 1 80 := ⟨by decide +kernel, rfl⟩
theorem dX9_missing_80 : Dd mX9_missing.2.1 80 (.aload_n 0) 1 81 := ⟨by decide +kernel, rfl⟩
theorem dX9_missing_81 : Dd mX9_missing.2.1 81 (.iload 7) 2 83 := ⟨by decide +kernel, rfl⟩
theorem dX9_missing_83 : Dd mX9_missing.2.1 83 (.invokevirtual 174) 3 86 := ⟨by decide +kernel, rfl⟩
theorem dX9_missing_86 : Dd mX9_missing.2.1 86 (.invokevirtual 256) 3 89 := ⟨by decide +kernel, rfl⟩
theorem dX9_missing_89 : Dd mX9_missing.2.1 89 (.iload_n 1) 1 90 := ⟨by decide +kernel, rfl⟩
theorem dX9_missing_90 : Dd mX9_missing.2.1 90 (.if_icmp .ne 37) 3 93 := ⟨by decide +kernel, rfl⟩
theorem dX9_missing_93 : Dd mX9_missing.2.1 93 (.iload 4) 2 95 := ⟨by decide +kernel, rfl⟩
theorem dX9_missing_95 : Dd mX9_missing.2.1 95 (.ifCond .ne 8) 3 98 := ⟨by decide +kernel, rfl⟩
theorem dX9_missing_98 : Dd mX9_missing.2.1 98 (.iload 7) 2 100 := ⟨by decide +kernel, rfl⟩
theorem dX9_missing_100 : Dd mX9_missing.2.1 100 (.goto 5) 3 103 := ⟨by decide +kernel, rfl⟩
theorem dX9_missing_103 : Dd mX9_missing.2.1 103 (.iload 5) 2 105 := ⟨by decide +kernel, rfl⟩
theorem dX9_missing_105 : Dd mX9_missing.2.1 105 (.istore 5) 2 107 := ⟨by decide +kernel, rfl⟩
theorem dX9_missing_107 : Dd mX9_missing.2.1 107 (.iload 4) 2 109 := ⟨by decide +kernel, rfl⟩
theorem dX9_missing_109 : Dd mX9_missing.2.1 109 (.ifCond .ne 8) 3 112 := ⟨by decide +kernel, rfl⟩
theorem dX9_missing_112 : Dd mX9_missing.2.1 112 (.iload 7) 2 114 := ⟨by decide +kernel, rfl⟩
theorem dX9_missing_114 : Dd mX9_missing.2.1 114 (.goto 8) 3 117 := ⟨by decide +kernel, rfl⟩
theorem dX9_missing_117 : Dd mX9_missing.2.1 117 (.iload 6) 2 119 := ⟨by decide +kernel, rfl⟩
theorem dX9_missing_119 : Dd mX9_missing.2.1 119 (.iload 7) 2 121 := ⟨by decide +kernel, rfl⟩
theorem dX9_missing_121 : Dd mX9_missing.2.1 121 (.iand) 1 122 := ⟨by decide +kernel, rfl⟩
theorem dX9_missing_122 : Dd mX9_missing.2.1 122 (.istore 6) 2 124 := ⟨by decide +kernel, rfl⟩
theorem dX9_missing_124 : Dd mX9_missing.2.1 124 (.iinc 4 1) 3 127 := ⟨by decide +kernel, rfl⟩
theorem dX9_missing_127 : Dd mX9_missing.2.1 127 (.iinc 7 1) 3 130 := ⟨by decide +kernel, rfl⟩
theorem dX9_missing_130 : Dd mX9_missing.2.1 130 (.goto (-72)) 3 133 := ⟨by decide +kernel, rfl⟩
theorem dX9_missing_133 : Dd mX9_missing.2.1 133 (.iload_n 3) 1 134 := ⟨by decide +kernel, rfl⟩
theorem dX9_missing_134 : Dd mX9_missing.2.1 134 (.ifCond .ne 8) 3 137 := ⟨by decide +kernel, rfl⟩
theorem dX9_missing_137 : Dd mX9_missing.2.1 137 (.iload 4) 2 139 := ⟨by decide +kernel, rfl⟩
theorem dX9_missing_139 : Dd mX9_missing.2.1 139 (.goto 15) 3 142 := ⟨by decide +kernel, rfl⟩
theorem dX9_missing_142 : Dd mX9_missing.2.1 142 (.iload_n 3) 1 143 := ⟨by decide +kernel, rfl⟩
theorem dX9_missing_143 : Dd mX9_missing.2.1 143 (.iconst 1) 1 144 := ⟨by decide +kernel, rfl⟩
theorem dX9_missing_144 : Dd mX9_missing.2.1 144 (.if_icmp .ne 8) 3 147 := ⟨by decide +kernel, rfl⟩
theorem dX9_missing_147 : Dd mX9_missing.2.1 147 (.iload 5) 2 149 := ⟨by decide +kernel, rfl⟩
theorem dX9_missing_149 : Dd mX9_missing.2.1 149 (.goto 5) 3 152 := ⟨by decide +kernel, rfl⟩
theorem dX9_missing_152 : Dd mX9_missing.2.1 152 (.iload 6) 2 154 := ⟨by decide +kernel, rfl⟩
theorem dX9_missing_154 : Dd mX9_missing.2.1 154 (.ireturn) 1 155 := ⟨by decide +kernel, rfl⟩
theorem dX9_divisor_0 : Dd mX9_divisor.2.1 0 (.lload_n 0) 1 1 := ⟨by decide +kernel, rfl⟩
theorem dX9_divisor_1 : Dd mX9_divisor.2.1 1 (.lstore 4) 2 3 := ⟨by decide +kernel, rfl⟩
theorem dX9_divisor_3 : Dd mX9_divisor.2.1 3 (.lload_n 2) 1 4 := ⟨by decide +kernel, rfl⟩
theorem dX9_divisor_4 : Dd mX9_divisor.2.1 4 (.lstore 6) 2 6 := ⟨by decide +kernel, rfl⟩
theorem dX9_divisor_6 : Dd mX9_divisor.2.1 6 (.lload 6) 2 8 := ⟨by decide +kernel, rfl⟩
theorem dX9_divisor_8 : Dd mX9_divisor.2.1 8 (.lconst 0) 1 9 := ⟨by decide +kernel, rfl⟩
theorem dX9_divisor_9 : Dd mX9_divisor.2.1 9 (.lcmp) 1 10 := ⟨by decide +kernel, rfl⟩
theorem dX9_divisor_10 : Dd mX9_divisor.2.1 10 (.ifCond .eq 21) 3 13 := ⟨by decide +kernel, rfl⟩
theorem dX9_divisor_13 : Dd mX9_divisor.2.1 13 (.lload 4) 2 15 := ⟨by decide +kernel, rfl⟩
theorem dX9_divisor_15 : Dd mX9_divisor.2.1 15 (.lload 6) 2 17 := ⟨by decide +kernel, rfl⟩
theorem dX9_divisor_17 : Dd mX9_divisor.2.1 17 (.lrem) 1 18 := ⟨by decide +kernel, rfl⟩
theorem dX9_divisor_18 : Dd mX9_divisor.2.1 18 (.lstore 8) 2 20 := ⟨by decide +kernel, rfl⟩
theorem dX9_divisor_20 : Dd mX9_divisor.2.1 20 (.lload 6) 2 22 := ⟨by decide +kernel, rfl⟩
theorem dX9_divisor_22 : Dd mX9_divisor.2.1 22 (.lstore 4) 2 24 := ⟨by decide +kernel, rfl⟩
theorem dX9_divisor_24 : Dd mX9_divisor.2.1 24 (.lload 8) 2 26 := ⟨by decide +kernel, rfl⟩
theorem dX9_divisor_26 : Dd mX9_divisor.2.1 26 (.lstore 6) 2 28 := ⟨by decide +kernel, rfl⟩
theorem dX9_divisor_28 : Dd mX9_divisor.2.1 28 (.goto (-22)) 3 31 := ⟨by decide +kernel, rfl⟩
theorem dX9_divisor_31 : Dd mX9_divisor.2.1 31 (.lload 4) 2 33 := ⟨by decide +kernel, rfl⟩
theorem dX9_divisor_33 : Dd mX9_divisor.2.1 33 (.lreturn) 1 34 := ⟨by decide +kernel, rfl⟩
theorem dX9_power_0 : Dd mX9_power.2.1 0 (.lconst 1) 1 1 := ⟨by decide +kernel, rfl⟩
theorem dX9_power_1 : Dd mX9_power.2.1 1 (.lstore_n 3) 1 2 := ⟨by decide +kernel, rfl⟩
theorem dX9_power_2 : Dd mX9_power.2.1 2 (.iconst 0) 1 3 := ⟨by decide +kernel, rfl⟩
theorem dX9_power_3 : Dd mX9_power.2.1 3 (.istore 5) 2 5 := ⟨by decide +kernel, rfl⟩
theorem dX9_power_5 : Dd mX9_power.2.1 5 (.iload 5) 2 7 := ⟨by decide +kernel, rfl⟩
theorem dX9_power_7 : Dd mX9_power.2.1 7 (.iload_n 2) 1 8 := ⟨by decide +kernel, rfl⟩
theorem dX9_power_8 : Dd mX9_power.2.1 8 (.if_icmp .ge 13) 3 11 := ⟨by decide +kernel, rfl⟩
theorem dX9_power_11 : Dd mX9_power.2.1 11 (.lload_n 3) 1 12 := ⟨by decide +kernel, rfl⟩
theorem dX9_power_12 : Dd mX9_power.2.1 12 (.lload_n 0) 1 13 := ⟨by decide +kernel, rfl⟩
theorem dX9_power_13 : Dd mX9_power.2.1 13 (.lmul) 1 14 := ⟨by decide +kernel, rfl⟩
theorem dX9_power_14 : Dd mX9_power.2.1 14 (.lstore_n 3) 1 15 := ⟨by decide +kernel, rfl⟩
theorem dX9_power_15 : Dd mX9_power.2.1 15 (.iinc 5 1) 3 18 := ⟨by decide +kernel, rfl⟩
theorem dX9_power_18 : Dd mX9_power.2.1 18 (.goto (-13)) 3 21 := ⟨by decide +kernel, rfl⟩
theorem dX9_power_21 : Dd mX9_power.2.1 21 (.lload_n 3) 1 22 := ⟨by decide +kernel, rfl⟩
theorem dX9_power_22 : Dd mX9_power.2.1 22 (.lreturn) 1 23 := ⟨by decide +kernel, rfl⟩
theorem dX9_trial_0 : Dd mX9_trial.2.1 0 (.iload_n 1) 1 1 := ⟨by decide +kernel, rfl⟩
theorem dX9_trial_1 : Dd mX9_trial.2.1 1 (.i2l) 1 2 := ⟨by decide +kernel, rfl⟩
theorem dX9_trial_2 : Dd mX9_trial.2.1 2 (.lconst 0) 1 3 := ⟨by decide +kernel, rfl⟩
theorem dX9_trial_3 : Dd mX9_trial.2.1 3 (.ldc2_w 259) 3 6 := ⟨by decide +kernel, rfl⟩
theorem dX9_trial_6 : Dd mX9_trial.2.1 6 (.invokestatic 100) 3 9 := ⟨by decide +kernel, rfl⟩
theorem dX9_trial_9 : Dd mX9_trial.2.1 9 (.ifCond .eq 38) 3 12 := ⟨by decide +kernel, rfl⟩
theorem dX9_trial_12 : Dd mX9_trial.2.1 12 (.iload_n 2) 1 13 := ⟨by decide +kernel, rfl⟩
theorem dX9_trial_13 : Dd mX9_trial.2.1 13 (.i2l) 1 14 := ⟨by decide +kernel, rfl⟩
theorem dX9_trial_14 : Dd mX9_trial.2.1 14 (.lconst 0) 1 15 := ⟨by decide +kernel, rfl⟩
theorem dX9_trial_15 : Dd mX9_trial.2.1 15 (.ldc2_w 259) 3 18 := ⟨by decide +kernel, rfl⟩
theorem dX9_trial_18 : Dd mX9_trial.2.1 18 (.invokestatic 100) 3 21 := ⟨by decide +kernel, rfl⟩
theorem dX9_trial_21 : Dd mX9_trial.2.1 21 (.ifCond .eq 26) 3 24 := ⟨by decide +kernel, rfl⟩
theorem dX9_trial_24 : Dd mX9_trial.2.1 24 (.iload_n 3) 1 25 := ⟨by decide +kernel, rfl⟩
theorem dX9_trial_25 : Dd mX9_trial.2.1 25 (.i2l) 1 26 := ⟨by decide +kernel, rfl⟩
theorem dX9_trial_26 : Dd mX9_trial.2.1 26 (.lconst 0) 1 27 := ⟨by decide +kernel, rfl⟩
theorem dX9_trial_27 : Dd mX9_trial.2.1 27 (.ldc2_w 261) 3 30 := ⟨by decide +kernel, rfl⟩
theorem dX9_trial_30 : Dd mX9_trial.2.1 30 (.invokestatic 100) 3 33 := ⟨by decide +kernel, rfl⟩
theorem dX9_trial_33 : Dd mX9_trial.2.1 33 (.ifCond .eq 14) 3 36 := ⟨by decide +kernel, rfl⟩
theorem dX9_trial_36 : Dd mX9_trial.2.1 36 (.iload 4) 2 38 := ⟨by decide +kernel, rfl⟩
theorem dX9_trial_38 : Dd mX9_trial.2.1 38 (.i2l) 1 39 := ⟨by decide +kernel, rfl⟩
theorem dX9_trial_39 : Dd mX9_trial.2.1 39 (.lconst 0) 1 40 := ⟨by decide +kernel, rfl⟩
theorem dX9_trial_40 : Dd mX9_trial.2.1 40 (.lconst 1) 1 41 := ⟨by decide +kernel, rfl⟩
theorem dX9_trial_41 : Dd mX9_trial.2.1 41 (.invokestatic 100) 3 44 := ⟨by decide +kernel, rfl⟩
theorem dX9_trial_44 : Dd mX9_trial.2.1 44 (.ifCond .ne 7) 3 47 := ⟨by decide +kernel, rfl⟩
theorem dX9_trial_47 : Dd mX9_trial.2.1 47 (.ldc2_w 263) 3 50 := ⟨by decide +kernel, rfl⟩
theorem dX9_trial_50 : Dd mX9_trial.2.1 50 (.lreturn) 1 51 := ⟨by decide +kernel, rfl⟩
theorem dX9_trial_51 : Dd mX9_trial.2.1 51 (.iload_n 1) 1 52 := ⟨by decide +kernel, rfl⟩
theorem dX9_trial_52 : Dd mX9_trial.2.1 52 (.i2l) 1 53 := ⟨by decide +kernel, rfl⟩
theorem dX9_trial_53 : Dd mX9_trial.2.1 53 (.ldc2_w 259) 3 56 := ⟨by decide +kernel, rfl⟩
theorem dX9_trial_56 : Dd mX9_trial.2.1 56 (.iload_n 3) 1 57 := ⟨by decide +kernel, rfl⟩
theorem dX9_trial_57 : Dd mX9_trial.2.1 57 (.invokestatic 265) 3 60 := ⟨by decide +kernel, rfl⟩
theorem dX9_trial_60 : Dd mX9_trial.2.1 60 (.lmul) 1 61 := ⟨by decide +kernel, rfl⟩
theorem dX9_trial_61 : Dd mX9_trial.2.1 61 (.lstore 5) 2 63 := ⟨by decide +kernel, rfl⟩
theorem dX9_trial_63 : Dd mX9_trial.2.1 63 (.lload 5) 2 65 := ⟨by decide +kernel, rfl⟩
theorem dX9_trial_65 : Dd mX9_trial.2.1 65 (.bipush 10) 2 67 := ⟨by decide +kernel, rfl⟩
theorem dX9_trial_67 : Dd mX9_trial.2.1 67 (.iload_n 1) 1 68 := ⟨by decide +kernel, rfl⟩
theorem dX9_trial_68 : Dd mX9_trial.2.1 68 (.isub) 1 69 := ⟨by decide +kernel, rfl⟩
theorem dX9_trial_69 : Dd mX9_trial.2.1 69 (.i2l) 1 70 := ⟨by decide +kernel, rfl⟩
theorem dX9_trial_70 : Dd mX9_trial.2.1 70 (.ldc2_w 259) 3 73 := ⟨by decide +kernel, rfl⟩
theorem dX9_trial_73 : Dd mX9_trial.2.1 73 (.iload_n 2) 1 74 := ⟨by decide +kernel, rfl⟩
theorem dX9_trial_74 : Dd mX9_trial.2.1 74 (.i2l) 1 75 := ⟨by decide +kernel, rfl⟩
theorem dX9_trial_75 : Dd mX9_trial.2.1 75 (.lsub) 1 76 := ⟨by decide +kernel, rfl⟩
theorem dX9_trial_76 : Dd mX9_trial.2.1 76 (.iload_n 3) 1 77 := ⟨by decide +kernel, rfl⟩
theorem dX9_trial_77 : Dd mX9_trial.2.1 77 (.invokestatic 265) 3 80 := ⟨by decide +kernel, rfl⟩
theorem dX9_trial_80 : Dd mX9_trial.2.1 80 (.lmul) 1 81 := ⟨by decide +kernel, rfl⟩
theorem dX9_trial_81 : Dd mX9_trial.2.1 81 (.ladd) 1 82 := ⟨by decide +kernel, rfl⟩
theorem dX9_trial_82 : Dd mX9_trial.2.1 82 (.lstore 7) 2 84 := ⟨by decide +kernel, rfl⟩
theorem dX9_trial_84 : Dd mX9_trial.2.1 84 (.lload 7) 2 86 := ⟨by decide +kernel, rfl⟩
theorem dX9_trial_86 : Dd mX9_trial.2.1 86 (.lconst 0) 1 87 := ⟨by decide +kernel, rfl⟩
theorem dX9_trial_87 : Dd mX9_trial.2.1 87 (.lcmp) 1 88 := ⟨by decide +kernel, rfl⟩
theorem dX9_trial_88 : Dd mX9_trial.2.1 88 (.ifCond .ne 7) 3 91 := ⟨by decide +kernel, rfl⟩
theorem dX9_trial_91 : Dd mX9_trial.2.1 91 (.ldc2_w 269) 3 94 := ⟨by decide +kernel, rfl⟩
theorem dX9_trial_94 : Dd mX9_trial.2.1 94 (.lreturn) 1 95 := ⟨by decide +kernel, rfl⟩
theorem dX9_trial_95 : Dd mX9_trial.2.1 95 (.lload 5) 2 97 := ⟨by decide +kernel, rfl⟩
theorem dX9_trial_97 : Dd mX9_trial.2.1 97 (.lload 7) 2 99 := ⟨by decide +kernel, rfl⟩
theorem dX9_trial_99 : Dd mX9_trial.2.1 99 (.invokestatic 271) 3 102 := ⟨by decide +kernel, rfl⟩
theorem dX9_trial_102 : Dd mX9_trial.2.1 102 (.lstore 9) 2 104 := ⟨by decide +kernel, rfl⟩
theorem dX9_trial_104 : Dd mX9_trial.2.1 104 (.iload 4) 2 106 := ⟨by decide +kernel, rfl⟩
theorem dX9_trial_106 : Dd mX9_trial.2.1 106 (.ifCond .ne 11) 3 109 := ⟨by decide +kernel, rfl⟩
theorem dX9_trial_109 : Dd mX9_trial.2.1 109 (.lload 5) 2 111 := ⟨by decide +kernel, rfl⟩
theorem dX9_trial_111 : Dd mX9_trial.2.1 111 (.lload 9) 2 113 := ⟨by decide +kernel, rfl⟩
theorem dX9_trial_113 : Dd mX9_trial.2.1 113 (.ldiv) 1 114 := ⟨by decide +kernel, rfl⟩
theorem dX9_trial_114 : Dd mX9_trial.2.1 114 (.goto 8) 3 117 := ⟨by decide +kernel, rfl⟩
theorem dX9_trial_117 : Dd mX9_trial.2.1 117 (.lload 7) 2 119 := ⟨by decide +kernel, rfl⟩
theorem dX9_trial_119 : Dd mX9_trial.2.1 119 (.lload 9) 2 121 := ⟨by decide +kernel, rfl⟩
theorem dX9_trial_121 : Dd mX9_trial.2.1 121 (.ldiv) 1 122 := ⟨by decide +kernel, rfl⟩
theorem dX9_trial_122 : Dd mX9_trial.2.1 122 (.lreturn) 1 123 := ⟨by decide +kernel, rfl⟩
theorem dX9_losesBy_0 : Dd mX9_losesBy.2.1 0 (.iload_n 1) 1 1 := ⟨by decide +kernel, rfl⟩
theorem dX9_losesBy_1 : Dd mX9_losesBy.2.1 1 (.iload_n 2) 1 2 := ⟨by decide +kernel, rfl⟩
theorem dX9_losesBy_2 : Dd mX9_losesBy.2.1 2 (.if_icmp .ne 14) 3 5 := ⟨by decide +kernel, rfl⟩
theorem dX9_losesBy_5 : Dd mX9_losesBy.2.1 5 (.iconst 3) 1 6 := ⟨by decide +kernel, rfl⟩
theorem dX9_losesBy_6 : Dd mX9_losesBy.2.1 6 (.aload_n 0) 1 7 := ⟨by decide +kernel, rfl⟩
theorem dX9_losesBy_7 : Dd mX9_losesBy.2.1 7 (.getfield 28) 3 10 := ⟨by decide +kernel, rfl⟩
theorem dX9_losesBy_10 : Dd mX9_losesBy.2.1 10 (.iload_n 1) 1 11 := ⟨by decide +kernel, rfl⟩
theorem dX9_losesBy_11 : Dd mX9_losesBy.2.1 11 (.iaload) 1 12 := ⟨by decide +kernel, rfl⟩
theorem dX9_losesBy_12 : Dd mX9_losesBy.2.1 12 (.imul) 1 13 := ⟨by decide +kernel, rfl⟩
theorem dX9_losesBy_13 : Dd mX9_losesBy.2.1 13 (.goto 9) 3 16 := ⟨by decide +kernel, rfl⟩
theorem dX9_losesBy_16 : Dd mX9_losesBy.2.1 16 (.aload_n 0) 1 17 := ⟨by decide +kernel, rfl⟩
theorem dX9_losesBy_17 : Dd mX9_losesBy.2.1 17 (.getfield 28) 3 20 := ⟨by decide +kernel, rfl⟩
theorem dX9_losesBy_20 : Dd mX9_losesBy.2.1 20 (.iload_n 1) 1 21 := ⟨by decide +kernel, rfl⟩
theorem dX9_losesBy_21 : Dd mX9_losesBy.2.1 21 (.iaload) 1 22 := ⟨by decide +kernel, rfl⟩
theorem dX9_losesBy_22 : Dd mX9_losesBy.2.1 22 (.ireturn) 1 23 := ⟨by decide +kernel, rfl⟩
theorem dX9_rests_0 : Dd mX9_rests.2.1 0 (.iconst 1) 1 1 := ⟨by decide +kernel, rfl⟩
theorem dX9_rests_1 : Dd mX9_rests.2.1 1 (.istore_n 3) 1 2 := ⟨by decide +kernel, rfl⟩
theorem dX9_rests_2 : Dd mX9_rests.2.1 2 (.iconst 0) 1 3 := ⟨by decide +kernel, rfl⟩
theorem dX9_rests_3 : Dd mX9_rests.2.1 3 (.istore 4) 2 5 := ⟨by decide +kernel, rfl⟩
theorem dX9_rests_5 : Dd mX9_rests.2.1 5 (.iload 4) 2 7 := ⟨by decide +kernel, rfl⟩
theorem dX9_rests_7 : Dd mX9_rests.2.1 7 (.aload_n 0) 1 8 := ⟨by decide +kernel, rfl⟩
theorem dX9_rests_8 : Dd mX9_rests.2.1 8 (.getfield 81) 3 11 := ⟨by decide +kernel, rfl⟩
theorem dX9_rests_11 : Dd mX9_rests.2.1 11 (.if_icmp .ge 51) 3 14 := ⟨by decide +kernel, rfl⟩
theorem dX9_rests_14 : Dd mX9_rests.2.1 14 (.iload_n 3) 1 15 := ⟨by decide +kernel, rfl⟩
theorem dX9_rests_15 : Dd mX9_rests.2.1 15 (.ifCond .eq 39) 3 18 := ⟨by decide +kernel, rfl⟩
theorem dX9_rests_18 : Dd mX9_rests.2.1 18 (.aload_n 0) 1 19 := ⟨by decide +kernel, rfl⟩
theorem dX9_rests_19 : Dd mX9_rests.2.1 19 (.iload 4) 2 21 := ⟨by decide +kernel, rfl⟩
theorem dX9_rests_21 : Dd mX9_rests.2.1 21 (.iload_n 2) 1 22 := ⟨by decide +kernel, rfl⟩
theorem dX9_rests_22 : Dd mX9_rests.2.1 22 (.invokevirtual 275) 3 25 := ⟨by decide +kernel, rfl⟩
theorem dX9_rests_25 : Dd mX9_rests.2.1 25 (.aload_n 0) 1 26 := ⟨by decide +kernel, rfl⟩
theorem dX9_rests_26 : Dd mX9_rests.2.1 26 (.iload_n 1) 1 27 := ⟨by decide +kernel, rfl⟩
theorem dX9_rests_27 : Dd mX9_rests.2.1 27 (.iload_n 2) 1 28 := ⟨by decide +kernel, rfl⟩
theorem dX9_rests_28 : Dd mX9_rests.2.1 28 (.invokevirtual 275) 3 31 := ⟨by decide +kernel, rfl⟩
theorem dX9_rests_31 : Dd mX9_rests.2.1 31 (.if_icmp .lt 23) 3 34 := ⟨by decide +kernel, rfl⟩
theorem dX9_rests_34 : Dd mX9_rests.2.1 34 (.aload_n 0) 1 35 := ⟨by decide +kernel, rfl⟩
theorem dX9_rests_35 : Dd mX9_rests.2.1 35 (.iload_n 1) 1 36 := ⟨by decide +kernel, rfl⟩
theorem dX9_rests_36 : Dd mX9_rests.2.1 36 (.iload 4) 2 38 := ⟨by decide +kernel, rfl⟩
theorem dX9_rests_38 : Dd mX9_rests.2.1 38 (.invokevirtual 275) 3 41 := ⟨by decide +kernel, rfl⟩
theorem dX9_rests_41 : Dd mX9_rests.2.1 41 (.aload_n 0) 1 42 := ⟨by decide +kernel, rfl⟩
theorem dX9_rests_42 : Dd mX9_rests.2.1 42 (.iload_n 1) 1 43 := ⟨by decide +kernel, rfl⟩
theorem dX9_rests_43 : Dd mX9_rests.2.1 43 (.iload_n 2) 1 44 := ⟨by decide +kernel, rfl⟩
theorem dX9_rests_44 : Dd mX9_rests.2.1 44 (.invokevirtual 275) 3 47 := ⟨by decide +kernel, rfl⟩
theorem dX9_rests_47 : Dd mX9_rests.2.1 47 (.if_icmp .gt 7) 3 50 := ⟨by decide +kernel, rfl⟩
theorem dX9_rests_50 : Dd mX9_rests.2.1 50 (.iconst 1) 1 51 := ⟨by decide +kernel, rfl⟩
theorem dX9_rests_51 : Dd mX9_rests.2.1 51 (.goto 4) 3 54 := ⟨by decide +kernel, rfl⟩
theorem dX9_rests_54 : Dd mX9_rests.2.1 54 (.iconst 0) 1 55 := ⟨by decide +kernel, rfl⟩
theorem dX9_rests_55 : Dd mX9_rests.2.1 55 (.istore_n 3) 1 56 := ⟨by decide +kernel, rfl⟩
theorem dX9_rests_56 : Dd mX9_rests.2.1 56 (.iinc 4 1) 3 59 := ⟨by decide +kernel, rfl⟩
theorem dX9_rests_59 : Dd mX9_rests.2.1 59 (.goto (-54)) 3 62 := ⟨by decide +kernel, rfl⟩
theorem dX9_rests_62 : Dd mX9_rests.2.1 62 (.iload_n 3) 1 63 := ⟨by decide +kernel, rfl⟩
theorem dX9_rests_63 : Dd mX9_rests.2.1 63 (.ireturn) 1 64 := ⟨by decide +kernel, rfl⟩
theorem dX9_pledge_0 : Dd mX9_pledge.2.1 0 (.iload_n 1) 1 1 := ⟨by decide +kernel, rfl⟩
theorem dX9_pledge_1 : Dd mX9_pledge.2.1 1 (.i2l) 1 2 := ⟨by decide +kernel, rfl⟩
theorem dX9_pledge_2 : Dd mX9_pledge.2.1 2 (.lconst 0) 1 3 := ⟨by decide +kernel, rfl⟩
theorem dX9_pledge_3 : Dd mX9_pledge.2.1 3 (.lconst 1) 1 4 := ⟨by decide +kernel, rfl⟩
theorem dX9_pledge_4 : Dd mX9_pledge.2.1 4 (.invokestatic 100) 3 7 := ⟨by decide +kernel, rfl⟩
theorem dX9_pledge_7 : Dd mX9_pledge.2.1 7 (.ifCond .ne 5) 3 10 := ⟨by decide +kernel, rfl⟩
theorem dX9_pledge_10 : Dd mX9_pledge.2.1 10 (.iconst (-1)) 1 11 := ⟨by decide +kernel, rfl⟩
theorem dX9_pledge_11 : Dd mX9_pledge.2.1 11 (.ireturn) 1 12 := ⟨by decide +kernel, rfl⟩
theorem dX9_pledge_12 : Dd mX9_pledge.2.1 12 (.iconst 0) 1 13 := ⟨by decide +kernel, rfl⟩
theorem dX9_pledge_13 : Dd mX9_pledge.2.1 13 (.istore_n 2) 1 14 := ⟨by decide +kernel, rfl⟩
theorem dX9_pledge_14 : Dd mX9_pledge.2.1 14 (.bipush (-4)) 2 16 := ⟨by decide +kernel, rfl⟩
theorem dX9_pledge_16 : Dd mX9_pledge.2.1 16 (.istore_n 3) 1 17 := ⟨by decide +kernel, rfl⟩
theorem dX9_pledge_17 : Dd mX9_pledge.2.1 17 (.iconst 0) 1 18 := ⟨by decide +kernel, rfl⟩
theorem dX9_pledge_18 : Dd mX9_pledge.2.1 18 (.istore 4) 2 20 := ⟨by decide +kernel, rfl⟩
theorem dX9_pledge_20 : Dd mX9_pledge.2.1 20 (.iload 4) 2 22 := ⟨by decide +kernel, rfl⟩
theorem dX9_pledge_22 : Dd mX9_pledge.2.1 22 (.aload_n 0) 1 23 := ⟨by decide +kernel, rfl⟩
theorem dX9_pledge_23 : Dd mX9_pledge.2.1 23 (.getfield 81) 3 26 := ⟨by decide +kernel, rfl⟩
theorem dX9_pledge_26 : Dd mX9_pledge.2.1 26 (.if_icmp .ge 72) 3 29 := ⟨by decide +kernel, rfl⟩
theorem dX9_pledge_29 : Dd mX9_pledge.2.1 29 (.iconst 0) 1 30 := ⟨by decide +kernel, rfl⟩
theorem dX9_pledge_30 : Dd mX9_pledge.2.1 30 (.istore 5) 2 32 := ⟨by decide +kernel, rfl⟩
theorem dX9_pledge_32 : Dd mX9_pledge.2.1 32 (.iload 5) 2 34 := ⟨by decide +kernel, rfl⟩
theorem dX9_pledge_34 : Dd mX9_pledge.2.1 34 (.aload_n 0) 1 35 := ⟨by decide +kernel, rfl⟩
theorem dX9_pledge_35 : Dd mX9_pledge.2.1 35 (.getfield 81) 3 38 := ⟨by decide +kernel, rfl⟩
theorem dX9_pledge_38 : Dd mX9_pledge.2.1 38 (.if_icmp .ge 54) 3 41 := ⟨by decide +kernel, rfl⟩
theorem dX9_pledge_41 : Dd mX9_pledge.2.1 41 (.aload_n 0) 1 42 := ⟨by decide +kernel, rfl⟩
theorem dX9_pledge_42 : Dd mX9_pledge.2.1 42 (.iload 4) 2 44 := ⟨by decide +kernel, rfl⟩
theorem dX9_pledge_44 : Dd mX9_pledge.2.1 44 (.iload 5) 2 46 := ⟨by decide +kernel, rfl⟩
theorem dX9_pledge_46 : Dd mX9_pledge.2.1 46 (.invokevirtual 278) 3 49 := ⟨by decide +kernel, rfl⟩
theorem dX9_pledge_49 : Dd mX9_pledge.2.1 49 (.istore 6) 2 51 := ⟨by decide +kernel, rfl⟩
theorem dX9_pledge_51 : Dd mX9_pledge.2.1 51 (.iload 6) 2 53 := ⟨by decide +kernel, rfl⟩
theorem dX9_pledge_53 : Dd mX9_pledge.2.1 53 (.ifCond .eq 18) 3 56 := ⟨by decide +kernel, rfl⟩
theorem dX9_pledge_56 : Dd mX9_pledge.2.1 56 (.iload_n 2) 1 57 := ⟨by decide +kernel, rfl⟩
theorem dX9_pledge_57 : Dd mX9_pledge.2.1 57 (.ifCond .ne 14) 3 60 := ⟨by decide +kernel, rfl⟩
theorem dX9_pledge_60 : Dd mX9_pledge.2.1 60 (.bipush 8) 2 62 := ⟨by decide +kernel, rfl⟩
theorem dX9_pledge_62 : Dd mX9_pledge.2.1 62 (.iload 4) 2 64 := ⟨by decide +kernel, rfl⟩
theorem dX9_pledge_64 : Dd mX9_pledge.2.1 64 (.imul) 1 65 := ⟨by decide +kernel, rfl⟩
theorem dX9_pledge_65 : Dd mX9_pledge.2.1 65 (.iload 5) 2 67 := ⟨by decide +kernel, rfl⟩
theorem dX9_pledge_67 : Dd mX9_pledge.2.1 67 (.iadd) 1 68 := ⟨by decide +kernel, rfl⟩
theorem dX9_pledge_68 : Dd mX9_pledge.2.1 68 (.goto 4) 3 71 := ⟨by decide +kernel, rfl⟩
theorem dX9_pledge_71 : Dd mX9_pledge.2.1 71 (.iload_n 3) 1 72 := ⟨by decide +kernel, rfl⟩
theorem dX9_pledge_72 : Dd mX9_pledge.2.1 72 (.istore_n 3) 1 73 := ⟨by decide +kernel, rfl⟩
theorem dX9_pledge_73 : Dd mX9_pledge.2.1 73 (.iload_n 2) 1 74 := ⟨by decide +kernel, rfl⟩
theorem dX9_pledge_74 : Dd mX9_pledge.2.1 74 (.iload 6) 2 76 := ⟨by decide +kernel, rfl⟩
theorem dX9_pledge_76 : Dd mX9_pledge.2.1 76 (.ifCond .eq 7) 3 79 := ⟨by decide +kernel, rfl⟩
theorem dX9_pledge_79 : Dd mX9_pledge.2.1 79 (.iconst 1) 1 80 := ⟨by decide +kernel, rfl⟩
theorem dX9_pledge_80 : Dd mX9_pledge.2.1 80 (.goto 4) 3 83 := ⟨by decide +kernel, rfl⟩
theorem dX9_pledge_83 : Dd mX9_pledge.2.1 83 (.iconst 0) 1 84 := ⟨by decide +kernel, rfl⟩
theorem dX9_pledge_84 : Dd mX9_pledge.2.1 84 (.iadd) 1 85 := ⟨by decide +kernel, rfl⟩
theorem dX9_pledge_85 : Dd mX9_pledge.2.1 85 (.istore_n 2) 1 86 := ⟨by decide +kernel, rfl⟩
theorem dX9_pledge_86 : Dd mX9_pledge.2.1 86 (.iinc 5 1) 3 89 := ⟨by decide +kernel, rfl⟩
theorem dX9_pledge_89 : Dd mX9_pledge.2.1 89 (.goto (-57)) 3 92 := ⟨by decide +kernel, rfl⟩
theorem dX9_pledge_92 : Dd mX9_pledge.2.1 92 (.iinc 4 1) 3 95 := ⟨by decide +kernel, rfl⟩
theorem dX9_pledge_95 : Dd mX9_pledge.2.1 95 (.goto (-75)) 3 98 := ⟨by decide +kernel, rfl⟩
theorem dX9_pledge_98 : Dd mX9_pledge.2.1 98 (.iload_n 1) 1 99 := ⟨by decide +kernel, rfl⟩
theorem dX9_pledge_99 : Dd mX9_pledge.2.1 99 (.ifCond .ne 7) 3 102 := ⟨by decide +kernel, rfl⟩
theorem dX9_pledge_102 : Dd mX9_pledge.2.1 102 (.iload_n 2) 1 103 := ⟨by decide +kernel, rfl⟩
theorem dX9_pledge_103 : Dd mX9_pledge.2.1 103 (.goto 4) 3 106 := ⟨by decide +kernel, rfl⟩
theorem dX9_pledge_106 : Dd mX9_pledge.2.1 106 (.iload_n 3) 1 107 := ⟨by decide +kernel, rfl⟩
theorem dX9_pledge_107 : Dd mX9_pledge.2.1 107 (.ireturn) 1 108 := ⟨by decide +kernel, rfl⟩
theorem dX9_layChain_0 : Dd mX9_layChain.2.1 0 (.iload_n 1) 1 1 := ⟨by decide +kernel, rfl⟩
theorem dX9_layChain_1 : Dd mX9_layChain.2.1 1 (.istore_n 3) 1 2 := ⟨by decide +kernel, rfl⟩
theorem dX9_layChain_2 : Dd mX9_layChain.2.1 2 (.iload_n 2) 1 3 := ⟨by decide +kernel, rfl⟩
theorem dX9_layChain_3 : Dd mX9_layChain.2.1 3 (.iconst 1) 1 4 := ⟨by decide +kernel, rfl⟩
theorem dX9_layChain_4 : Dd mX9_layChain.2.1 4 (.isub) 1 5 := ⟨by decide +kernel, rfl⟩
theorem dX9_layChain_5 : Dd mX9_layChain.2.1 5 (.istore 4) 2 7 := ⟨by decide +kernel, rfl⟩
theorem dX9_layChain_7 : Dd mX9_layChain.2.1 7 (.iload 4) 2 9 := ⟨by decide +kernel, rfl⟩
theorem dX9_layChain_9 : Dd mX9_layChain.2.1 9 (.ifCond .lt 29) 3 12 := ⟨by decide +kernel, rfl⟩
theorem dX9_layChain_12 : Dd mX9_layChain.2.1 12 (.aload_n 0) 1 13 := ⟨by decide +kernel, rfl⟩
theorem dX9_layChain_13 : Dd mX9_layChain.2.1 13 (.getfield 50) 3 16 := ⟨by decide +kernel, rfl⟩
theorem dX9_layChain_16 : Dd mX9_layChain.2.1 16 (.iload 4) 2 18 := ⟨by decide +kernel, rfl⟩
theorem dX9_layChain_18 : Dd mX9_layChain.2.1 18 (.iload_n 3) 1 19 := ⟨by decide +kernel, rfl⟩
theorem dX9_layChain_19 : Dd mX9_layChain.2.1 19 (.aload_n 0) 1 20 := ⟨by decide +kernel, rfl⟩
theorem dX9_layChain_20 : Dd mX9_layChain.2.1 20 (.getfield 87) 3 23 := ⟨by decide +kernel, rfl⟩
theorem dX9_layChain_23 : Dd mX9_layChain.2.1 23 (.irem) 1 24 := ⟨by decide +kernel, rfl⟩
theorem dX9_layChain_24 : Dd mX9_layChain.2.1 24 (.iastore) 1 25 := ⟨by decide +kernel, rfl⟩
theorem dX9_layChain_25 : Dd mX9_layChain.2.1 25 (.iload_n 3) 1 26 := ⟨by decide +kernel, rfl⟩
theorem dX9_layChain_26 : Dd mX9_layChain.2.1 26 (.aload_n 0) 1 27 := ⟨by decide +kernel, rfl⟩
theorem dX9_layChain_27 : Dd mX9_layChain.2.1 27 (.getfield 87) 3 30 := ⟨by decide +kernel, rfl⟩
theorem dX9_layChain_30 : Dd mX9_layChain.2.1 30 (.idiv) 1 31 := ⟨by decide +kernel, rfl⟩
theorem dX9_layChain_31 : Dd mX9_layChain.2.1 31 (.istore_n 3) 1 32 := ⟨by decide +kernel, rfl⟩
theorem dX9_layChain_32 : Dd mX9_layChain.2.1 32 (.iinc 4 (-1)) 3 35 := ⟨by decide +kernel, rfl⟩
theorem dX9_layChain_35 : Dd mX9_layChain.2.1 35 (.goto (-28)) 3 38 := ⟨by decide +kernel, rfl⟩
theorem dX9_layChain_38 : Dd mX9_layChain.2.1 38 (.return_) 1 39 := ⟨by decide +kernel, rfl⟩
theorem dX9_gains_0 : Dd mX9_gains.2.1 0 (.iconst 0) 1 1 := ⟨by decide +kernel, rfl⟩
theorem dX9_gains_1 : Dd mX9_gains.2.1 1 (.istore_n 2) 1 2 := ⟨by decide +kernel, rfl⟩
theorem dX9_gains_2 : Dd mX9_gains.2.1 2 (.lconst 1) 1 3 := ⟨by decide +kernel, rfl⟩
theorem dX9_gains_3 : Dd mX9_gains.2.1 3 (.lstore_n 3) 1 4 := ⟨by decide +kernel, rfl⟩
theorem dX9_gains_4 : Dd mX9_gains.2.1 4 (.lconst 1) 1 5 := ⟨by decide +kernel, rfl⟩
theorem dX9_gains_5 : Dd mX9_gains.2.1 5 (.lstore 5) 2 7 := ⟨by decide +kernel, rfl⟩
theorem dX9_gains_7 : Dd mX9_gains.2.1 7 (.iconst 1) 1 8 := ⟨by decide +kernel, rfl⟩
theorem dX9_gains_8 : Dd mX9_gains.2.1 8 (.istore 7) 2 10 := ⟨by decide +kernel, rfl⟩
theorem dX9_gains_10 : Dd mX9_gains.2.1 10 (.iconst 0) 1 11 := ⟨by decide +kernel, rfl⟩
theorem dX9_gains_11 : Dd mX9_gains.2.1 11 (.istore 8) 2 13 := ⟨by decide +kernel, rfl⟩
theorem dX9_gains_13 : Dd mX9_gains.2.1 13 (.iload 8) 2 15 := ⟨by decide +kernel, rfl⟩
theorem dX9_gains_15 : Dd mX9_gains.2.1 15 (.iload_n 1) 1 16 := ⟨by decide +kernel, rfl⟩
theorem dX9_gains_16 : Dd mX9_gains.2.1 16 (.if_icmp .ge 120) 3 19 := ⟨by decide +kernel, rfl⟩
theorem dX9_gains_19 : Dd mX9_gains.2.1 19 (.iconst 4) 1 20 := ⟨by decide +kernel, rfl⟩
theorem dX9_gains_20 : Dd mX9_gains.2.1 20 (.aload_n 0) 1 21 := ⟨by decide +kernel, rfl⟩
theorem dX9_gains_21 : Dd mX9_gains.2.1 21 (.getfield 50) 3 24 := ⟨by decide +kernel, rfl⟩
theorem dX9_gains_24 : Dd mX9_gains.2.1 24 (.iload 8) 2 26 := ⟨by decide +kernel, rfl⟩
theorem dX9_gains_26 : Dd mX9_gains.2.1 26 (.iaload) 1 27 := ⟨by decide +kernel, rfl⟩
theorem dX9_gains_27 : Dd mX9_gains.2.1 27 (.imul) 1 28 := ⟨by decide +kernel, rfl⟩
theorem dX9_gains_28 : Dd mX9_gains.2.1 28 (.istore 9) 2 30 := ⟨by decide +kernel, rfl⟩
theorem dX9_gains_30 : Dd mX9_gains.2.1 30 (.iconst 4) 1 31 := ⟨by decide +kernel, rfl⟩
theorem dX9_gains_31 : Dd mX9_gains.2.1 31 (.aload_n 0) 1 32 := ⟨by decide +kernel, rfl⟩
theorem dX9_gains_32 : Dd mX9_gains.2.1 32 (.getfield 50) 3 35 := ⟨by decide +kernel, rfl⟩
theorem dX9_gains_35 : Dd mX9_gains.2.1 35 (.iload 8) 2 37 := ⟨by decide +kernel, rfl⟩
theorem dX9_gains_37 : Dd mX9_gains.2.1 37 (.iconst 1) 1 38 := ⟨by decide +kernel, rfl⟩
theorem dX9_gains_38 : Dd mX9_gains.2.1 38 (.iadd) 1 39 := ⟨by decide +kernel, rfl⟩
theorem dX9_gains_39 : Dd mX9_gains.2.1 39 (.iload_n 1) 1 40 := ⟨by decide +kernel, rfl⟩
theorem dX9_gains_40 : Dd mX9_gains.2.1 40 (.irem) 1 41 := ⟨by decide +kernel, rfl⟩
theorem dX9_gains_41 : Dd mX9_gains.2.1 41 (.iaload) 1 42 := ⟨by decide +kernel, rfl⟩
theorem dX9_gains_42 : Dd mX9_gains.2.1 42 (.imul) 1 43 := ⟨by decide +kernel, rfl⟩
theorem dX9_gains_43 : Dd mX9_gains.2.1 43 (.istore 10) 2 45 := ⟨by decide +kernel, rfl⟩
theorem dX9_gains_45 : Dd mX9_gains.2.1 45 (.iload 7) 2 47 := ⟨by decide +kernel, rfl⟩
theorem dX9_gains_47 : Dd mX9_gains.2.1 47 (.ifCond .eq 40) 3 50 := ⟨by decide +kernel, rfl⟩
theorem dX9_gains_50 : Dd mX9_gains.2.1 50 (.iload_n 2) 1 51 := ⟨by decide +kernel, rfl⟩
theorem dX9_gains_51 : Dd mX9_gains.2.1 51 (.aload_n 0) 1 52 := ⟨by decide +kernel, rfl⟩
theorem dX9_gains_52 : Dd mX9_gains.2.1 52 (.getfield 50) 3 55 := ⟨by decide +kernel, rfl⟩
theorem dX9_gains_55 : Dd mX9_gains.2.1 55 (.iload 8) 2 57 := ⟨by decide +kernel, rfl⟩
theorem dX9_gains_57 : Dd mX9_gains.2.1 57 (.iaload) 1 58 := ⟨by decide +kernel, rfl⟩
theorem dX9_gains_58 : Dd mX9_gains.2.1 58 (.invokestatic 166) 3 61 := ⟨by decide +kernel, rfl⟩
theorem dX9_gains_61 : Dd mX9_gains.2.1 61 (.ifCond .ne 26) 3 64 := ⟨by decide +kernel, rfl⟩
theorem dX9_gains_64 : Dd mX9_gains.2.1 64 (.aload_n 0) 1 65 := ⟨by decide +kernel, rfl⟩
theorem dX9_gains_65 : Dd mX9_gains.2.1 65 (.getfield 34) 3 68 := ⟨by decide +kernel, rfl⟩
theorem dX9_gains_68 : Dd mX9_gains.2.1 68 (.iload 9) 2 70 := ⟨by decide +kernel, rfl⟩
theorem dX9_gains_70 : Dd mX9_gains.2.1 70 (.iconst 1) 1 71 := ⟨by decide +kernel, rfl⟩
theorem dX9_gains_71 : Dd mX9_gains.2.1 71 (.iadd) 1 72 := ⟨by decide +kernel, rfl⟩
theorem dX9_gains_72 : Dd mX9_gains.2.1 72 (.iaload) 1 73 := ⟨by decide +kernel, rfl⟩
theorem dX9_gains_73 : Dd mX9_gains.2.1 73 (.aload_n 0) 1 74 := ⟨by decide +kernel, rfl⟩
theorem dX9_gains_74 : Dd mX9_gains.2.1 74 (.getfield 34) 3 77 := ⟨by decide +kernel, rfl⟩
theorem dX9_gains_77 : Dd mX9_gains.2.1 77 (.iload 10) 2 79 := ⟨by decide +kernel, rfl⟩
theorem dX9_gains_79 : Dd mX9_gains.2.1 79 (.iaload) 1 80 := ⟨by decide +kernel, rfl⟩
theorem dX9_gains_80 : Dd mX9_gains.2.1 80 (.if_icmp .ne 7) 3 83 := ⟨by decide +kernel, rfl⟩
theorem dX9_gains_83 : Dd mX9_gains.2.1 83 (.iconst 1) 1 84 := ⟨by decide +kernel, rfl⟩
theorem dX9_gains_84 : Dd mX9_gains.2.1 84 (.goto 4) 3 87 := ⟨by decide +kernel, rfl⟩
theorem dX9_gains_87 : Dd mX9_gains.2.1 87 (.iconst 0) 1 88 := ⟨by decide +kernel, rfl⟩
theorem dX9_gains_88 : Dd mX9_gains.2.1 88 (.istore 7) 2 90 := ⟨by decide +kernel, rfl⟩
theorem dX9_gains_90 : Dd mX9_gains.2.1 90 (.iload_n 2) 1 91 := ⟨by decide +kernel, rfl⟩
theorem dX9_gains_91 : Dd mX9_gains.2.1 91 (.iconst 1) 1 92 := ⟨by decide +kernel, rfl⟩
theorem dX9_gains_92 : Dd mX9_gains.2.1 92 (.aload_n 0) 1 93 := ⟨by decide +kernel, rfl⟩
theorem dX9_gains_93 : Dd mX9_gains.2.1 93 (.getfield 50) 3 96 := ⟨by decide +kernel, rfl⟩
theorem dX9_gains_96 : Dd mX9_gains.2.1 96 (.iload 8) 2 98 := ⟨by decide +kernel, rfl⟩
theorem dX9_gains_98 : Dd mX9_gains.2.1 98 (.iaload) 1 99 := ⟨by decide +kernel, rfl⟩
theorem dX9_gains_99 : Dd mX9_gains.2.1 99 (.ishl) 1 100 := ⟨by decide +kernel, rfl⟩
theorem dX9_gains_100 : Dd mX9_gains.2.1 100 (.ior) 1 101 := ⟨by decide +kernel, rfl⟩
theorem dX9_gains_101 : Dd mX9_gains.2.1 101 (.istore_n 2) 1 102 := ⟨by decide +kernel, rfl⟩
theorem dX9_gains_102 : Dd mX9_gains.2.1 102 (.lload 5) 2 104 := ⟨by decide +kernel, rfl⟩
theorem dX9_gains_104 : Dd mX9_gains.2.1 104 (.aload_n 0) 1 105 := ⟨by decide +kernel, rfl⟩
theorem dX9_gains_105 : Dd mX9_gains.2.1 105 (.getfield 34) 3 108 := ⟨by decide +kernel, rfl⟩
theorem dX9_gains_108 : Dd mX9_gains.2.1 108 (.iload 9) 2 110 := ⟨by decide +kernel, rfl⟩
theorem dX9_gains_110 : Dd mX9_gains.2.1 110 (.iconst 2) 1 111 := ⟨by decide +kernel, rfl⟩
theorem dX9_gains_111 : Dd mX9_gains.2.1 111 (.iadd) 1 112 := ⟨by decide +kernel, rfl⟩
theorem dX9_gains_112 : Dd mX9_gains.2.1 112 (.iaload) 1 113 := ⟨by decide +kernel, rfl⟩
theorem dX9_gains_113 : Dd mX9_gains.2.1 113 (.i2l) 1 114 := ⟨by decide +kernel, rfl⟩
theorem dX9_gains_114 : Dd mX9_gains.2.1 114 (.lmul) 1 115 := ⟨by decide +kernel, rfl⟩
theorem dX9_gains_115 : Dd mX9_gains.2.1 115 (.lstore 5) 2 117 := ⟨by decide +kernel, rfl⟩
theorem dX9_gains_117 : Dd mX9_gains.2.1 117 (.lload_n 3) 1 118 := ⟨by decide +kernel, rfl⟩
theorem dX9_gains_118 : Dd mX9_gains.2.1 118 (.aload_n 0) 1 119 := ⟨by decide +kernel, rfl⟩
theorem dX9_gains_119 : Dd mX9_gains.2.1 119 (.getfield 34) 3 122 := ⟨by decide +kernel, rfl⟩
theorem dX9_gains_122 : Dd mX9_gains.2.1 122 (.iload 9) 2 124 := ⟨by decide +kernel, rfl⟩
theorem dX9_gains_124 : Dd mX9_gains.2.1 124 (.iconst 3) 1 125 := ⟨by decide +kernel, rfl⟩
theorem dX9_gains_125 : Dd mX9_gains.2.1 125 (.iadd) 1 126 := ⟨by decide +kernel, rfl⟩
theorem dX9_gains_126 : Dd mX9_gains.2.1 126 (.iaload) 1 127 := ⟨by decide +kernel, rfl⟩
theorem dX9_gains_127 : Dd mX9_gains.2.1 127 (.i2l) 1 128 := ⟨by decide +kernel, rfl⟩
theorem dX9_gains_128 : Dd mX9_gains.2.1 128 (.lmul) 1 129 := ⟨by decide +kernel, rfl⟩
theorem dX9_gains_129 : Dd mX9_gains.2.1 129 (.lstore_n 3) 1 130 := ⟨by decide +kernel, rfl⟩
theorem dX9_gains_130 : Dd mX9_gains.2.1 130 (.iinc 8 1) 3 133 := ⟨by decide +kernel, rfl⟩
theorem dX9_gains_133 : Dd mX9_gains.2.1 133 (.goto (-120)) 3 136 := ⟨by decide +kernel, rfl⟩
theorem dX9_gains_136 : Dd mX9_gains.2.1 136 (.iload 7) 2 138 := ⟨by decide +kernel, rfl⟩
theorem dX9_gains_138 : Dd mX9_gains.2.1 138 (.ifCond .eq 14) 3 141 := ⟨by decide +kernel, rfl⟩
theorem dX9_gains_141 : Dd mX9_gains.2.1 141 (.lload_n 3) 1 142 := ⟨by decide +kernel, rfl⟩
theorem dX9_gains_142 : Dd mX9_gains.2.1 142 (.lload 5) 2 144 := ⟨by decide +kernel, rfl⟩
theorem dX9_gains_144 : Dd mX9_gains.2.1 144 (.lcmp) 1 145 := ⟨by decide +kernel, rfl⟩
theorem dX9_gains_145 : Dd mX9_gains.2.1 145 (.ifCond .le 7) 3 148 := ⟨by decide +kernel, rfl⟩
theorem dX9_gains_148 : Dd mX9_gains.2.1 148 (.iconst 1) 1 149 := ⟨by decide +kernel, rfl⟩
theorem dX9_gains_149 : Dd mX9_gains.2.1 149 (.goto 4) 3 152 := ⟨by decide +kernel, rfl⟩
theorem dX9_gains_152 : Dd mX9_gains.2.1 152 (.iconst 0) 1 153 := ⟨by decide +kernel, rfl⟩
theorem dX9_gains_153 : Dd mX9_gains.2.1 153 (.ireturn) 1 154 := ⟨by decide +kernel, rfl⟩
theorem dX9_gain_0 : Dd mX9_gain.2.1 0 (.iload_n 1) 1 1 := ⟨by decide +kernel, rfl⟩
theorem dX9_gain_1 : Dd mX9_gain.2.1 1 (.i2l) 1 2 := ⟨by decide +kernel, rfl⟩
theorem dX9_gain_2 : Dd mX9_gain.2.1 2 (.ldc2_w 281) 3 5 := ⟨by decide +kernel, rfl⟩
theorem dX9_gain_5 : Dd mX9_gain.2.1 5 (.ldc2_w 283) 3 8 := ⟨by decide +kernel, rfl⟩
theorem dX9_gain_8 : Dd mX9_gain.2.1 8 (.invokestatic 100) 3 11 := ⟨by decide +kernel, rfl⟩
theorem dX9_gain_11 : Dd mX9_gain.2.1 11 (.ifCond .ne 5) 3 14 := ⟨by decide +kernel, rfl⟩
theorem dX9_gain_14 : Dd mX9_gain.2.1 14 (.iconst (-1)) 1 15 := ⟨by decide +kernel, rfl⟩
theorem dX9_gain_15 : Dd mX9_gain.2.1 15 (.ireturn) 1 16 := ⟨by decide +kernel, rfl⟩
theorem dX9_gain_16 : Dd mX9_gain.2.1 16 (.iconst 1) 1 17 := ⟨by decide +kernel, rfl⟩
theorem dX9_gain_17 : Dd mX9_gain.2.1 17 (.istore_n 2) 1 18 := ⟨by decide +kernel, rfl⟩
theorem dX9_gain_18 : Dd mX9_gain.2.1 18 (.iconst 1) 1 19 := ⟨by decide +kernel, rfl⟩
theorem dX9_gain_19 : Dd mX9_gain.2.1 19 (.istore_n 3) 1 20 := ⟨by decide +kernel, rfl⟩
theorem dX9_gain_20 : Dd mX9_gain.2.1 20 (.iload_n 3) 1 21 := ⟨by decide +kernel, rfl⟩
theorem dX9_gain_21 : Dd mX9_gain.2.1 21 (.aload_n 0) 1 22 := ⟨by decide +kernel, rfl⟩
theorem dX9_gain_22 : Dd mX9_gain.2.1 22 (.getfield 87) 3 25 := ⟨by decide +kernel, rfl⟩
theorem dX9_gain_25 : Dd mX9_gain.2.1 25 (.if_icmp .gt 53) 3 28 := ⟨by decide +kernel, rfl⟩
theorem dX9_gain_28 : Dd mX9_gain.2.1 28 (.iload_n 2) 1 29 := ⟨by decide +kernel, rfl⟩
theorem dX9_gain_29 : Dd mX9_gain.2.1 29 (.aload_n 0) 1 30 := ⟨by decide +kernel, rfl⟩
theorem dX9_gain_30 : Dd mX9_gain.2.1 30 (.getfield 87) 3 33 := ⟨by decide +kernel, rfl⟩
theorem dX9_gain_33 : Dd mX9_gain.2.1 33 (.imul) 1 34 := ⟨by decide +kernel, rfl⟩
theorem dX9_gain_34 : Dd mX9_gain.2.1 34 (.istore_n 2) 1 35 := ⟨by decide +kernel, rfl⟩
theorem dX9_gain_35 : Dd mX9_gain.2.1 35 (.iconst 0) 1 36 := ⟨by decide +kernel, rfl⟩
theorem dX9_gain_36 : Dd mX9_gain.2.1 36 (.istore 4) 2 38 := ⟨by decide +kernel, rfl⟩
theorem dX9_gain_38 : Dd mX9_gain.2.1 38 (.iload 4) 2 40 := ⟨by decide +kernel, rfl⟩
theorem dX9_gain_40 : Dd mX9_gain.2.1 40 (.iload_n 2) 1 41 := ⟨by decide +kernel, rfl⟩
theorem dX9_gain_41 : Dd mX9_gain.2.1 41 (.if_icmp .ge 31) 3 44 := ⟨by decide +kernel, rfl⟩
theorem dX9_gain_44 : Dd mX9_gain.2.1 44 (.aload_n 0) 1 45 := ⟨by decide +kernel, rfl⟩
theorem dX9_gain_45 : Dd mX9_gain.2.1 45 (.iload 4) 2 47 := ⟨by decide +kernel, rfl⟩
theorem dX9_gain_47 : Dd mX9_gain.2.1 47 (.iload_n 3) 1 48 := ⟨by decide +kernel, rfl⟩
theorem dX9_gain_48 : Dd mX9_gain.2.1 48 (.invokevirtual 285) 3 51 := ⟨by decide +kernel, rfl⟩
theorem dX9_gain_51 : Dd mX9_gain.2.1 51 (.aload_n 0) 1 52 := ⟨by decide +kernel, rfl⟩
theorem dX9_gain_52 : Dd mX9_gain.2.1 52 (.iload_n 3) 1 53 := ⟨by decide +kernel, rfl⟩
theorem dX9_gain_53 : Dd mX9_gain.2.1 53 (.invokevirtual 288) 3 56 := ⟨by decide +kernel, rfl⟩
theorem dX9_gain_56 : Dd mX9_gain.2.1 56 (.ifCond .eq 10) 3 59 := ⟨by decide +kernel, rfl⟩
theorem dX9_gain_59 : Dd mX9_gain.2.1 59 (.aload_n 0) 1 60 := ⟨by decide +kernel, rfl⟩
theorem dX9_gain_60 : Dd mX9_gain.2.1 60 (.iload_n 1) 1 61 := ⟨by decide +kernel, rfl⟩
theorem dX9_gain_61 : Dd mX9_gain.2.1 61 (.iload_n 3) 1 62 := ⟨by decide +kernel, rfl⟩
theorem dX9_gain_62 : Dd mX9_gain.2.1 62 (.invokevirtual 291) 3 65 := ⟨by decide +kernel, rfl⟩
theorem dX9_gain_65 : Dd mX9_gain.2.1 65 (.ireturn) 1 66 := ⟨by decide +kernel, rfl⟩
theorem dX9_gain_66 : Dd mX9_gain.2.1 66 (.iinc 4 1) 3 69 := ⟨by decide +kernel, rfl⟩
theorem dX9_gain_69 : Dd mX9_gain.2.1 69 (.goto (-31)) 3 72 := ⟨by decide +kernel, rfl⟩
theorem dX9_gain_72 : Dd mX9_gain.2.1 72 (.iinc 3 1) 3 75 := ⟨by decide +kernel, rfl⟩
theorem dX9_gain_75 : Dd mX9_gain.2.1 75 (.goto (-55)) 3 78 := ⟨by decide +kernel, rfl⟩
theorem dX9_gain_78 : Dd mX9_gain.2.1 78 (.bipush (-4)) 2 80 := ⟨by decide +kernel, rfl⟩
theorem dX9_gain_80 : Dd mX9_gain.2.1 80 (.ireturn) 1 81 := ⟨by decide +kernel, rfl⟩
theorem dX9_ofChain_0 : Dd mX9_ofChain.2.1 0 (.lconst 1) 1 1 := ⟨by decide +kernel, rfl⟩
theorem dX9_ofChain_1 : Dd mX9_ofChain.2.1 1 (.lstore_n 3) 1 2 := ⟨by decide +kernel, rfl⟩
theorem dX9_ofChain_2 : Dd mX9_ofChain.2.1 2 (.lconst 1) 1 3 := ⟨by decide +kernel, rfl⟩
theorem dX9_ofChain_3 : Dd mX9_ofChain.2.1 3 (.lstore 5) 2 5 := ⟨by decide +kernel, rfl⟩
theorem dX9_ofChain_5 : Dd mX9_ofChain.2.1 5 (.iconst 0) 1 6 := ⟨by decide +kernel, rfl⟩
theorem dX9_ofChain_6 : Dd mX9_ofChain.2.1 6 (.istore 7) 2 8 := ⟨by decide +kernel, rfl⟩
theorem dX9_ofChain_8 : Dd mX9_ofChain.2.1 8 (.iload 7) 2 10 := ⟨by decide +kernel, rfl⟩
theorem dX9_ofChain_10 : Dd mX9_ofChain.2.1 10 (.iload_n 2) 1 11 := ⟨by decide +kernel, rfl⟩
theorem dX9_ofChain_11 : Dd mX9_ofChain.2.1 11 (.if_icmp .ge 51) 3 14 := ⟨by decide +kernel, rfl⟩
theorem dX9_ofChain_14 : Dd mX9_ofChain.2.1 14 (.lload 5) 2 16 := ⟨by decide +kernel, rfl⟩
theorem dX9_ofChain_16 : Dd mX9_ofChain.2.1 16 (.aload_n 0) 1 17 := ⟨by decide +kernel, rfl⟩
theorem dX9_ofChain_17 : Dd mX9_ofChain.2.1 17 (.getfield 34) 3 20 := ⟨by decide +kernel, rfl⟩
theorem dX9_ofChain_20 : Dd mX9_ofChain.2.1 20 (.iconst 4) 1 21 := ⟨by decide +kernel, rfl⟩
theorem dX9_ofChain_21 : Dd mX9_ofChain.2.1 21 (.aload_n 0) 1 22 := ⟨by decide +kernel, rfl⟩
theorem dX9_ofChain_22 : Dd mX9_ofChain.2.1 22 (.getfield 50) 3 25 := ⟨by decide +kernel, rfl⟩
theorem dX9_ofChain_25 : Dd mX9_ofChain.2.1 25 (.iload 7) 2 27 := ⟨by decide +kernel, rfl⟩
theorem dX9_ofChain_27 : Dd mX9_ofChain.2.1 27 (.iaload) 1 28 := ⟨by decide +kernel, rfl⟩
theorem dX9_ofChain_28 : Dd mX9_ofChain.2.1 28 (.imul) 1 29 := ⟨by decide +kernel, rfl⟩
theorem dX9_ofChain_29 : Dd mX9_ofChain.2.1 29 (.iconst 2) 1 30 := ⟨by decide +kernel, rfl⟩
theorem dX9_ofChain_30 : Dd mX9_ofChain.2.1 30 (.iadd) 1 31 := ⟨by decide +kernel, rfl⟩
theorem dX9_ofChain_31 : Dd mX9_ofChain.2.1 31 (.iaload) 1 32 := ⟨by decide +kernel, rfl⟩
theorem dX9_ofChain_32 : Dd mX9_ofChain.2.1 32 (.i2l) 1 33 := ⟨by decide +kernel, rfl⟩
theorem dX9_ofChain_33 : Dd mX9_ofChain.2.1 33 (.lmul) 1 34 := ⟨by decide +kernel, rfl⟩
theorem dX9_ofChain_34 : Dd mX9_ofChain.2.1 34 (.lstore 5) 2 36 := ⟨by decide +kernel, rfl⟩
theorem dX9_ofChain_36 : Dd mX9_ofChain.2.1 36 (.lload_n 3) 1 37 := ⟨by decide +kernel, rfl⟩
theorem dX9_ofChain_37 : Dd mX9_ofChain.2.1 37 (.aload_n 0) 1 38 := ⟨by decide +kernel, rfl⟩
theorem dX9_ofChain_38 : Dd mX9_ofChain.2.1 38 (.getfield 34) 3 41 := ⟨by decide +kernel, rfl⟩
theorem dX9_ofChain_41 : Dd mX9_ofChain.2.1 41 (.iconst 4) 1 42 := ⟨by decide +kernel, rfl⟩
theorem dX9_ofChain_42 : Dd mX9_ofChain.2.1 42 (.aload_n 0) 1 43 := ⟨by decide +kernel, rfl⟩
theorem dX9_ofChain_43 : Dd mX9_ofChain.2.1 43 (.getfield 50) 3 46 := ⟨by decide +kernel, rfl⟩
theorem dX9_ofChain_46 : Dd mX9_ofChain.2.1 46 (.iload 7) 2 48 := ⟨by decide +kernel, rfl⟩
theorem dX9_ofChain_48 : Dd mX9_ofChain.2.1 48 (.iaload) 1 49 := ⟨by decide +kernel, rfl⟩
theorem dX9_ofChain_49 : Dd mX9_ofChain.2.1 49 (.imul) 1 50 := ⟨by decide +kernel, rfl⟩
theorem dX9_ofChain_50 : Dd mX9_ofChain.2.1 50 (.iconst 3) 1 51 := ⟨by decide +kernel, rfl⟩
theorem dX9_ofChain_51 : Dd mX9_ofChain.2.1 51 (.iadd) 1 52 := ⟨by decide +kernel, rfl⟩
theorem dX9_ofChain_52 : Dd mX9_ofChain.2.1 52 (.iaload) 1 53 := ⟨by decide +kernel, rfl⟩
theorem dX9_ofChain_53 : Dd mX9_ofChain.2.1 53 (.i2l) 1 54 := ⟨by decide +kernel, rfl⟩
theorem dX9_ofChain_54 : Dd mX9_ofChain.2.1 54 (.lmul) 1 55 := ⟨by decide +kernel, rfl⟩
theorem dX9_ofChain_55 : Dd mX9_ofChain.2.1 55 (.lstore_n 3) 1 56 := ⟨by decide +kernel, rfl⟩
theorem dX9_ofChain_56 : Dd mX9_ofChain.2.1 56 (.iinc 7 1) 3 59 := ⟨by decide +kernel, rfl⟩
theorem dX9_ofChain_59 : Dd mX9_ofChain.2.1 59 (.goto (-51)) 3 62 := ⟨by decide +kernel, rfl⟩
theorem dX9_ofChain_62 : Dd mX9_ofChain.2.1 62 (.lload_n 3) 1 63 := ⟨by decide +kernel, rfl⟩
theorem dX9_ofChain_63 : Dd mX9_ofChain.2.1 63 (.lload 5) 2 65 := ⟨by decide +kernel, rfl⟩
theorem dX9_ofChain_65 : Dd mX9_ofChain.2.1 65 (.invokestatic 271) 3 68 := ⟨by decide +kernel, rfl⟩
theorem dX9_ofChain_68 : Dd mX9_ofChain.2.1 68 (.lstore 7) 2 70 := ⟨by decide +kernel, rfl⟩
theorem dX9_ofChain_70 : Dd mX9_ofChain.2.1 70 (.iload_n 1) 1 71 := ⟨by decide +kernel, rfl⟩
theorem dX9_ofChain_71 : Dd mX9_ofChain.2.1 71 (.iconst (-1)) 1 72 := ⟨by decide +kernel, rfl⟩
theorem dX9_ofChain_72 : Dd mX9_ofChain.2.1 72 (.if_icmp .ne 7) 3 75 := ⟨by decide +kernel, rfl⟩
theorem dX9_ofChain_75 : Dd mX9_ofChain.2.1 75 (.iload_n 2) 1 76 := ⟨by decide +kernel, rfl⟩
theorem dX9_ofChain_76 : Dd mX9_ofChain.2.1 76 (.goto 48) 3 79 := ⟨by decide +kernel, rfl⟩
theorem dX9_ofChain_79 : Dd mX9_ofChain.2.1 79 (.iload_n 1) 1 80 := ⟨by decide +kernel, rfl⟩
theorem dX9_ofChain_80 : Dd mX9_ofChain.2.1 80 (.bipush (-2)) 2 82 := ⟨by decide +kernel, rfl⟩
theorem dX9_ofChain_82 : Dd mX9_ofChain.2.1 82 (.if_icmp .ne 11) 3 85 := ⟨by decide +kernel, rfl⟩
theorem dX9_ofChain_85 : Dd mX9_ofChain.2.1 85 (.lload_n 3) 1 86 := ⟨by decide +kernel, rfl⟩
theorem dX9_ofChain_86 : Dd mX9_ofChain.2.1 86 (.lload 7) 2 88 := ⟨by decide +kernel, rfl⟩
theorem dX9_ofChain_88 : Dd mX9_ofChain.2.1 88 (.ldiv) 1 89 := ⟨by decide +kernel, rfl⟩
theorem dX9_ofChain_89 : Dd mX9_ofChain.2.1 89 (.l2i) 1 90 := ⟨by decide +kernel, rfl⟩
theorem dX9_ofChain_90 : Dd mX9_ofChain.2.1 90 (.goto 34) 3 93 := ⟨by decide +kernel, rfl⟩
theorem dX9_ofChain_93 : Dd mX9_ofChain.2.1 93 (.iload_n 1) 1 94 := ⟨by decide +kernel, rfl⟩
theorem dX9_ofChain_94 : Dd mX9_ofChain.2.1 94 (.bipush (-3)) 2 96 := ⟨by decide +kernel, rfl⟩
theorem dX9_ofChain_96 : Dd mX9_ofChain.2.1 96 (.if_icmp .ne 12) 3 99 := ⟨by decide +kernel, rfl⟩
theorem dX9_ofChain_99 : Dd mX9_ofChain.2.1 99 (.lload 5) 2 101 := ⟨by decide +kernel, rfl⟩
theorem dX9_ofChain_101 : Dd mX9_ofChain.2.1 101 (.lload 7) 2 103 := ⟨by decide +kernel, rfl⟩
theorem dX9_ofChain_103 : Dd mX9_ofChain.2.1 103 (.ldiv) 1 104 := ⟨by decide +kernel, rfl⟩
theorem dX9_ofChain_104 : Dd mX9_ofChain.2.1 104 (.l2i) 1 105 := ⟨by decide +kernel, rfl⟩
theorem dX9_ofChain_105 : Dd mX9_ofChain.2.1 105 (.goto 19) 3 108 := ⟨by decide +kernel, rfl⟩
theorem dX9_ofChain_108 : Dd mX9_ofChain.2.1 108 (.iload_n 1) 1 109 := ⟨by decide +kernel, rfl⟩
theorem dX9_ofChain_109 : Dd mX9_ofChain.2.1 109 (.iload_n 2) 1 110 := ⟨by decide +kernel, rfl⟩
theorem dX9_ofChain_110 : Dd mX9_ofChain.2.1 110 (.if_icmp .ge 12) 3 113 := ⟨by decide +kernel, rfl⟩
theorem dX9_ofChain_113 : Dd mX9_ofChain.2.1 113 (.aload_n 0) 1 114 := ⟨by decide +kernel, rfl⟩
theorem dX9_ofChain_114 : Dd mX9_ofChain.2.1 114 (.getfield 50) 3 117 := ⟨by decide +kernel, rfl⟩
theorem dX9_ofChain_117 : Dd mX9_ofChain.2.1 117 (.iload_n 1) 1 118 := ⟨by decide +kernel, rfl⟩
theorem dX9_ofChain_118 : Dd mX9_ofChain.2.1 118 (.iaload) 1 119 := ⟨by decide +kernel, rfl⟩
theorem dX9_ofChain_119 : Dd mX9_ofChain.2.1 119 (.goto 5) 3 122 := ⟨by decide +kernel, rfl⟩
theorem dX9_ofChain_122 : Dd mX9_ofChain.2.1 122 (.bipush (-4)) 2 124 := ⟨by decide +kernel, rfl⟩
theorem dX9_ofChain_124 : Dd mX9_ofChain.2.1 124 (.ireturn) 1 125 := ⟨by decide +kernel, rfl⟩
theorem dX9_row_0 : Dd mX9_row.2.1 0 (.iload_n 1) 1 1 := ⟨by decide +kernel, rfl⟩
theorem dX9_row_1 : Dd mX9_row.2.1 1 (.i2l) 1 2 := ⟨by decide +kernel, rfl⟩
theorem dX9_row_2 : Dd mX9_row.2.1 2 (.lconst 0) 1 3 := ⟨by decide +kernel, rfl⟩
theorem dX9_row_3 : Dd mX9_row.2.1 3 (.ldc2_w 294) 3 6 := ⟨by decide +kernel, rfl⟩
theorem dX9_row_6 : Dd mX9_row.2.1 6 (.invokestatic 100) 3 9 := ⟨by decide +kernel, rfl⟩
theorem dX9_row_9 : Dd mX9_row.2.1 9 (.ifCond .eq 25) 3 12 := ⟨by decide +kernel, rfl⟩
theorem dX9_row_12 : Dd mX9_row.2.1 12 (.iload_n 2) 1 13 := ⟨by decide +kernel, rfl⟩
theorem dX9_row_13 : Dd mX9_row.2.1 13 (.i2l) 1 14 := ⟨by decide +kernel, rfl⟩
theorem dX9_row_14 : Dd mX9_row.2.1 14 (.lconst 1) 1 15 := ⟨by decide +kernel, rfl⟩
theorem dX9_row_15 : Dd mX9_row.2.1 15 (.ldc2_w 220) 3 18 := ⟨by decide +kernel, rfl⟩
theorem dX9_row_18 : Dd mX9_row.2.1 18 (.invokestatic 100) 3 21 := ⟨by decide +kernel, rfl⟩
theorem dX9_row_21 : Dd mX9_row.2.1 21 (.ifCond .eq 13) 3 24 := ⟨by decide +kernel, rfl⟩
theorem dX9_row_24 : Dd mX9_row.2.1 24 (.iload_n 3) 1 25 := ⟨by decide +kernel, rfl⟩
theorem dX9_row_25 : Dd mX9_row.2.1 25 (.i2l) 1 26 := ⟨by decide +kernel, rfl⟩
theorem dX9_row_26 : Dd mX9_row.2.1 26 (.lconst 0) 1 27 := ⟨by decide +kernel, rfl⟩
theorem dX9_row_27 : Dd mX9_row.2.1 27 (.lconst 1) 1 28 := ⟨by decide +kernel, rfl⟩
theorem dX9_row_28 : Dd mX9_row.2.1 28 (.invokestatic 100) 3 31 := ⟨by decide +kernel, rfl⟩
theorem dX9_row_31 : Dd mX9_row.2.1 31 (.ifCond .ne 5) 3 34 := ⟨by decide +kernel, rfl⟩
theorem dX9_row_34 : Dd mX9_row.2.1 34 (.iconst (-1)) 1 35 := ⟨by decide +kernel, rfl⟩
theorem dX9_row_35 : Dd mX9_row.2.1 35 (.ireturn) 1 36 := ⟨by decide +kernel, rfl⟩
theorem dX9_row_36 : Dd mX9_row.2.1 36 (.aload_n 0) 1 37 := ⟨by decide +kernel, rfl⟩
theorem dX9_row_37 : Dd mX9_row.2.1 37 (.iconst 0) 1 38 := ⟨by decide +kernel, rfl⟩
theorem dX9_row_38 : Dd mX9_row.2.1 38 (.bipush 13) 2 40 := ⟨by decide +kernel, rfl⟩
theorem dX9_row_40 : Dd mX9_row.2.1 40 (.invokevirtual 204) 3 43 := ⟨by decide +kernel, rfl⟩
theorem dX9_row_43 : Dd mX9_row.2.1 43 (.iconst 0) 1 44 := ⟨by decide +kernel, rfl⟩
theorem dX9_row_44 : Dd mX9_row.2.1 44 (.istore 4) 2 46 := ⟨by decide +kernel, rfl⟩
theorem dX9_row_46 : Dd mX9_row.2.1 46 (.iconst 0) 1 47 := ⟨by decide +kernel, rfl⟩
theorem dX9_row_47 : Dd mX9_row.2.1 47 (.istore 5) 2 49 := ⟨by decide +kernel, rfl⟩
theorem dX9_row_49 : Dd mX9_row.2.1 49 (.iload 5) 2 51 := ⟨by decide +kernel, rfl⟩
theorem dX9_row_51 : Dd mX9_row.2.1 51 (.iload_n 2) 1 52 := ⟨by decide +kernel, rfl⟩
theorem dX9_row_52 : Dd mX9_row.2.1 52 (.if_icmp .ge 130) 3 55 := ⟨by decide +kernel, rfl⟩
theorem dX9_row_55 : Dd mX9_row.2.1 55 (.ldc2_w 296) 3 58 := ⟨by decide +kernel, rfl⟩
theorem dX9_row_58 : Dd mX9_row.2.1 58 (.iload_n 1) 1 59 := ⟨by decide +kernel, rfl⟩
theorem dX9_row_59 : Dd mX9_row.2.1 59 (.i2l) 1 60 := ⟨by decide +kernel, rfl⟩
theorem dX9_row_60 : Dd mX9_row.2.1 60 (.lmul) 1 61 := ⟨by decide +kernel, rfl⟩
theorem dX9_row_61 : Dd mX9_row.2.1 61 (.ldc2_w 298) 3 64 := ⟨by decide +kernel, rfl⟩
theorem dX9_row_64 : Dd mX9_row.2.1 64 (.iload 5) 2 66 := ⟨by decide +kernel, rfl⟩
theorem dX9_row_66 : Dd mX9_row.2.1 66 (.i2l) 1 67 := ⟨by decide +kernel, rfl⟩
theorem dX9_row_67 : Dd mX9_row.2.1 67 (.lmul) 1 68 := ⟨by decide +kernel, rfl⟩
theorem dX9_row_68 : Dd mX9_row.2.1 68 (.ladd) 1 69 := ⟨by decide +kernel, rfl⟩
theorem dX9_row_69 : Dd mX9_row.2.1 69 (.lconst 1) 1 70 := ⟨by decide +kernel, rfl⟩
theorem dX9_row_70 : Dd mX9_row.2.1 70 (.ladd) 1 71 := ⟨by decide +kernel, rfl⟩
theorem dX9_row_71 : Dd mX9_row.2.1 71 (.lstore 6) 2 73 := ⟨by decide +kernel, rfl⟩
theorem dX9_row_73 : Dd mX9_row.2.1 73 (.lload 6) 2 75 := ⟨by decide +kernel, rfl⟩
theorem dX9_row_75 : Dd mX9_row.2.1 75 (.lload 6) 2 77 := ⟨by decide +kernel, rfl⟩
theorem dX9_row_77 : Dd mX9_row.2.1 77 (.lmul) 1 78 := ⟨by decide +kernel, rfl⟩
theorem dX9_row_78 : Dd mX9_row.2.1 78 (.ldc2_w 300) 3 81 := ⟨by decide +kernel, rfl⟩
theorem dX9_row_81 : Dd mX9_row.2.1 81 (.lrem) 1 82 := ⟨by decide +kernel, rfl⟩
theorem dX9_row_82 : Dd mX9_row.2.1 82 (.l2i) 1 83 := ⟨by decide +kernel, rfl⟩
theorem dX9_row_83 : Dd mX9_row.2.1 83 (.istore 8) 2 85 := ⟨by decide +kernel, rfl⟩
theorem dX9_row_85 : Dd mX9_row.2.1 85 (.iload 8) 2 87 := ⟨by decide +kernel, rfl⟩
theorem dX9_row_87 : Dd mX9_row.2.1 87 (.aload_n 0) 1 88 := ⟨by decide +kernel, rfl⟩
theorem dX9_row_88 : Dd mX9_row.2.1 88 (.getfield 84) 3 91 := ⟨by decide +kernel, rfl⟩
theorem dX9_row_91 : Dd mX9_row.2.1 91 (.irem) 1 92 := ⟨by decide +kernel, rfl⟩
theorem dX9_row_92 : Dd mX9_row.2.1 92 (.istore 9) 2 94 := ⟨by decide +kernel, rfl⟩
theorem dX9_row_94 : Dd mX9_row.2.1 94 (.aload_n 0) 1 95 := ⟨by decide +kernel, rfl⟩
theorem dX9_row_95 : Dd mX9_row.2.1 95 (.getfield 7) 3 98 := ⟨by decide +kernel, rfl⟩
theorem dX9_row_98 : Dd mX9_row.2.1 98 (.bipush 13) 2 100 := ⟨by decide +kernel, rfl⟩
theorem dX9_row_100 : Dd mX9_row.2.1 100 (.iload 9) 2 102 := ⟨by decide +kernel, rfl⟩
theorem dX9_row_102 : Dd mX9_row.2.1 102 (.iadd) 1 103 := ⟨by decide +kernel, rfl⟩
theorem dX9_row_103 : Dd mX9_row.2.1 103 (.iaload) 1 104 := ⟨by decide +kernel, rfl⟩
theorem dX9_row_104 : Dd mX9_row.2.1 104 (.ifCond .ne 42) 3 107 := ⟨by decide +kernel, rfl⟩
theorem dX9_row_107 : Dd mX9_row.2.1 107 (.aload_n 0) 1 108 := ⟨by decide +kernel, rfl⟩
theorem dX9_row_108 : Dd mX9_row.2.1 108 (.bipush 13) 2 110 := ⟨by decide +kernel, rfl⟩
theorem dX9_row_110 : Dd mX9_row.2.1 110 (.aload_n 0) 1 111 := ⟨by decide +kernel, rfl⟩
theorem dX9_row_111 : Dd mX9_row.2.1 111 (.getfield 31) 3 114 := ⟨by decide +kernel, rfl⟩
theorem dX9_row_114 : Dd mX9_row.2.1 114 (.iload 9) 2 116 := ⟨by decide +kernel, rfl⟩
theorem dX9_row_116 : Dd mX9_row.2.1 116 (.iaload) 1 117 := ⟨by decide +kernel, rfl⟩
theorem dX9_row_117 : Dd mX9_row.2.1 117 (.invokevirtual 229) 3 120 := ⟨by decide +kernel, rfl⟩
theorem dX9_row_120 : Dd mX9_row.2.1 120 (.istore 10) 2 122 := ⟨by decide +kernel, rfl⟩
theorem dX9_row_122 : Dd mX9_row.2.1 122 (.aload_n 0) 1 123 := ⟨by decide +kernel, rfl⟩
theorem dX9_row_123 : Dd mX9_row.2.1 123 (.bipush 13) 2 125 := ⟨by decide +kernel, rfl⟩
theorem dX9_row_125 : Dd mX9_row.2.1 125 (.iload 9) 2 127 := ⟨by decide +kernel, rfl⟩
theorem dX9_row_127 : Dd mX9_row.2.1 127 (.iload 10) 2 129 := ⟨by decide +kernel, rfl⟩
theorem dX9_row_129 : Dd mX9_row.2.1 129 (.bipush (-4)) 2 131 := ⟨by decide +kernel, rfl⟩
theorem dX9_row_131 : Dd mX9_row.2.1 131 (.if_icmp .ne 7) 3 134 := ⟨by decide +kernel, rfl⟩
theorem dX9_row_134 : Dd mX9_row.2.1 134 (.iconst 0) 1 135 := ⟨by decide +kernel, rfl⟩
theorem dX9_row_135 : Dd mX9_row.2.1 135 (.goto 5) 3 138 := ⟨by decide +kernel, rfl⟩
theorem dX9_row_138 : Dd mX9_row.2.1 138 (.iload 10) 2 140 := ⟨by decide +kernel, rfl⟩
theorem dX9_row_140 : Dd mX9_row.2.1 140 (.invokevirtual 210) 3 143 := ⟨by decide +kernel, rfl⟩
theorem dX9_row_143 : Dd mX9_row.2.1 143 (.goto 22) 3 146 := ⟨by decide +kernel, rfl⟩
theorem dX9_row_146 : Dd mX9_row.2.1 146 (.iload 8) 2 148 := ⟨by decide +kernel, rfl⟩
theorem dX9_row_148 : Dd mX9_row.2.1 148 (.bipush 8) 2 150 := ⟨by decide +kernel, rfl⟩
theorem dX9_row_150 : Dd mX9_row.2.1 150 (.idiv) 1 151 := ⟨by decide +kernel, rfl⟩
theorem dX9_row_151 : Dd mX9_row.2.1 151 (.iconst 4) 1 152 := ⟨by decide +kernel, rfl⟩
theorem dX9_row_152 : Dd mX9_row.2.1 152 (.irem) 1 153 := ⟨by decide +kernel, rfl⟩
theorem dX9_row_153 : Dd mX9_row.2.1 153 (.ifCond .ne 12) 3 156 := ⟨by decide +kernel, rfl⟩
theorem dX9_row_156 : Dd mX9_row.2.1 156 (.aload_n 0) 1 157 := ⟨by decide +kernel, rfl⟩
theorem dX9_row_157 : Dd mX9_row.2.1 157 (.bipush 13) 2 159 := ⟨by decide +kernel, rfl⟩
theorem dX9_row_159 : Dd mX9_row.2.1 159 (.iload 9) 2 161 := ⟨by decide +kernel, rfl⟩
theorem dX9_row_161 : Dd mX9_row.2.1 161 (.iconst 0) 1 162 := ⟨by decide +kernel, rfl⟩
theorem dX9_row_162 : Dd mX9_row.2.1 162 (.invokevirtual 210) 3 165 := ⟨by decide +kernel, rfl⟩
theorem dX9_row_165 : Dd mX9_row.2.1 165 (.iload 4) 2 167 := ⟨by decide +kernel, rfl⟩
theorem dX9_row_167 : Dd mX9_row.2.1 167 (.aload_n 0) 1 168 := ⟨by decide +kernel, rfl⟩
theorem dX9_row_168 : Dd mX9_row.2.1 168 (.bipush 13) 2 170 := ⟨by decide +kernel, rfl⟩
theorem dX9_row_170 : Dd mX9_row.2.1 170 (.invokevirtual 222) 3 173 := ⟨by decide +kernel, rfl⟩
theorem dX9_row_173 : Dd mX9_row.2.1 173 (.iadd) 1 174 := ⟨by decide +kernel, rfl⟩
theorem dX9_row_174 : Dd mX9_row.2.1 174 (.istore 4) 2 176 := ⟨by decide +kernel, rfl⟩
theorem dX9_row_176 : Dd mX9_row.2.1 176 (.iinc 5 1) 3 179 := ⟨by decide +kernel, rfl⟩
theorem dX9_row_179 : Dd mX9_row.2.1 179 (.goto (-130)) 3 182 := ⟨by decide +kernel, rfl⟩
theorem dX9_row_182 : Dd mX9_row.2.1 182 (.iload_n 3) 1 183 := ⟨by decide +kernel, rfl⟩
theorem dX9_row_183 : Dd mX9_row.2.1 183 (.ifCond .ne 12) 3 186 := ⟨by decide +kernel, rfl⟩
theorem dX9_row_186 : Dd mX9_row.2.1 186 (.aload_n 0) 1 187 := ⟨by decide +kernel, rfl⟩
theorem dX9_row_187 : Dd mX9_row.2.1 187 (.bipush 13) 2 189 := ⟨by decide +kernel, rfl⟩
theorem dX9_row_189 : Dd mX9_row.2.1 189 (.invokevirtual 201) 3 192 := ⟨by decide +kernel, rfl⟩
theorem dX9_row_192 : Dd mX9_row.2.1 192 (.goto 5) 3 195 := ⟨by decide +kernel, rfl⟩
theorem dX9_row_195 : Dd mX9_row.2.1 195 (.iload 4) 2 197 := ⟨by decide +kernel, rfl⟩
theorem dX9_row_197 : Dd mX9_row.2.1 197 (.ireturn) 1 198 := ⟨by decide +kernel, rfl⟩
theorem dX9_keep_0 : Dd mX9_keep.2.1 0 (.aload_n 0) 1 1 := ⟨by decide +kernel, rfl⟩
theorem dX9_keep_1 : Dd mX9_keep.2.1 1 (.getfield 93) 3 4 := ⟨by decide +kernel, rfl⟩
theorem dX9_keep_4 : Dd mX9_keep.2.1 4 (.iconst 2) 1 5 := ⟨by decide +kernel, rfl⟩
theorem dX9_keep_5 : Dd mX9_keep.2.1 5 (.if_icmp .ne 6) 3 8 := ⟨by decide +kernel, rfl⟩
theorem dX9_keep_8 : Dd mX9_keep.2.1 8 (.bipush (-3)) 2 10 := ⟨by decide +kernel, rfl⟩
theorem dX9_keep_10 : Dd mX9_keep.2.1 10 (.ireturn) 1 11 := ⟨by decide +kernel, rfl⟩
theorem dX9_keep_11 : Dd mX9_keep.2.1 11 (.aload_n 0) 1 12 := ⟨by decide +kernel, rfl⟩
theorem dX9_keep_12 : Dd mX9_keep.2.1 12 (.iconst 0) 1 13 := ⟨by decide +kernel, rfl⟩
theorem dX9_keep_13 : Dd mX9_keep.2.1 13 (.bipush 26) 2 15 := ⟨by decide +kernel, rfl⟩
theorem dX9_keep_15 : Dd mX9_keep.2.1 15 (.bipush 13) 2 17 := ⟨by decide +kernel, rfl⟩
theorem dX9_keep_17 : Dd mX9_keep.2.1 17 (.aload_n 0) 1 18 := ⟨by decide +kernel, rfl⟩
theorem dX9_keep_18 : Dd mX9_keep.2.1 18 (.getfield 93) 3 21 := ⟨by decide +kernel, rfl⟩
theorem dX9_keep_21 : Dd mX9_keep.2.1 21 (.imul) 1 22 := ⟨by decide +kernel, rfl⟩
theorem dX9_keep_22 : Dd mX9_keep.2.1 22 (.iadd) 1 23 := ⟨by decide +kernel, rfl⟩
theorem dX9_keep_23 : Dd mX9_keep.2.1 23 (.invokevirtual 204) 3 26 := ⟨by decide +kernel, rfl⟩
theorem dX9_keep_26 : Dd mX9_keep.2.1 26 (.aload_n 0) 1 27 := ⟨by decide +kernel, rfl⟩
theorem dX9_keep_27 : Dd mX9_keep.2.1 27 (.dup) 1 28 := ⟨by decide +kernel, rfl⟩
theorem dX9_keep_28 : Dd mX9_keep.2.1 28 (.getfield 93) 3 31 := ⟨by decide +kernel, rfl⟩
theorem dX9_keep_31 : Dd mX9_keep.2.1 31 (.iconst 1) 1 32 := ⟨by decide +kernel, rfl⟩
theorem dX9_keep_32 : Dd mX9_keep.2.1 32 (.iadd) 1 33 := ⟨by decide +kernel, rfl⟩
theorem dX9_keep_33 : Dd mX9_keep.2.1 33 (.putfield 93) 3 36 := ⟨by decide +kernel, rfl⟩
theorem dX9_keep_36 : Dd mX9_keep.2.1 36 (.aload_n 0) 1 37 := ⟨by decide +kernel, rfl⟩
theorem dX9_keep_37 : Dd mX9_keep.2.1 37 (.getfield 93) 3 40 := ⟨by decide +kernel, rfl⟩
theorem dX9_keep_40 : Dd mX9_keep.2.1 40 (.ireturn) 1 41 := ⟨by decide +kernel, rfl⟩
theorem dX9_restore_0 : Dd mX9_restore.2.1 0 (.aload_n 0) 1 1 := ⟨by decide +kernel, rfl⟩
theorem dX9_restore_1 : Dd mX9_restore.2.1 1 (.getfield 93) 3 4 := ⟨by decide +kernel, rfl⟩
theorem dX9_restore_4 : Dd mX9_restore.2.1 4 (.ifCond .ne 6) 3 7 := ⟨by decide +kernel, rfl⟩
theorem dX9_restore_7 : Dd mX9_restore.2.1 7 (.bipush (-2)) 2 9 := ⟨by decide +kernel, rfl⟩
theorem dX9_restore_9 : Dd mX9_restore.2.1 9 (.ireturn) 1 10 := ⟨by decide +kernel, rfl⟩
theorem dX9_restore_10 : Dd mX9_restore.2.1 10 (.aload_n 0) 1 11 := ⟨by decide +kernel, rfl⟩
theorem dX9_restore_11 : Dd mX9_restore.2.1 11 (.dup) 1 12 := ⟨by decide +kernel, rfl⟩
theorem dX9_restore_12 : Dd mX9_restore.2.1 12 (.getfield 93) 3 15 := ⟨by decide +kernel, rfl⟩
theorem dX9_restore_15 : Dd mX9_restore.2.1 15 (.iconst 1) 1 16 := ⟨by decide +kernel, rfl⟩
theorem dX9_restore_16 : Dd mX9_restore.2.1 16 (.isub) 1 17 := ⟨by decide +kernel, rfl⟩
theorem dX9_restore_17 : Dd mX9_restore.2.1 17 (.putfield 93) 3 20 := ⟨by decide +kernel, rfl⟩
theorem dX9_restore_20 : Dd mX9_restore.2.1 20 (.aload_n 0) 1 21 := ⟨by decide +kernel, rfl⟩
theorem dX9_restore_21 : Dd mX9_restore.2.1 21 (.bipush 26) 2 23 := ⟨by decide +kernel, rfl⟩
theorem dX9_restore_23 : Dd mX9_restore.2.1 23 (.bipush 13) 2 25 := ⟨by decide +kernel, rfl⟩
theorem dX9_restore_25 : Dd mX9_restore.2.1 25 (.aload_n 0) 1 26 := ⟨by decide +kernel, rfl⟩
theorem dX9_restore_26 : Dd mX9_restore.2.1 26 (.getfield 93) 3 29 := ⟨by decide +kernel, rfl⟩
theorem dX9_restore_29 : Dd mX9_restore.2.1 29 (.imul) 1 30 := ⟨by decide +kernel, rfl⟩
theorem dX9_restore_30 : Dd mX9_restore.2.1 30 (.iadd) 1 31 := ⟨by decide +kernel, rfl⟩
theorem dX9_restore_31 : Dd mX9_restore.2.1 31 (.iconst 0) 1 32 := ⟨by decide +kernel, rfl⟩
theorem dX9_restore_32 : Dd mX9_restore.2.1 32 (.invokevirtual 204) 3 35 := ⟨by decide +kernel, rfl⟩
theorem dX9_restore_35 : Dd mX9_restore.2.1 35 (.aload_n 0) 1 36 := ⟨by decide +kernel, rfl⟩
theorem dX9_restore_36 : Dd mX9_restore.2.1 36 (.iconst 0) 1 37 := ⟨by decide +kernel, rfl⟩
theorem dX9_restore_37 : Dd mX9_restore.2.1 37 (.putfield 90) 3 40 := ⟨by decide +kernel, rfl⟩
theorem dX9_restore_40 : Dd mX9_restore.2.1 40 (.aload_n 0) 1 41 := ⟨by decide +kernel, rfl⟩
theorem dX9_restore_41 : Dd mX9_restore.2.1 41 (.getfield 93) 3 44 := ⟨by decide +kernel, rfl⟩
theorem dX9_restore_44 : Dd mX9_restore.2.1 44 (.ireturn) 1 45 := ⟨by decide +kernel, rfl⟩
theorem dX9_count_0 : Dd mX9_count.2.1 0 (.iload_n 1) 1 1 := ⟨by decide +kernel, rfl⟩
theorem dX9_count_1 : Dd mX9_count.2.1 1 (.tableswitch 99 0 8 #[51, 56, 61, 66, 71, 76, 84, 89, 94]) 51 52 := ⟨by decide +kernel, rfl⟩
theorem dX9_count_52 : Dd mX9_count.2.1 52 (.aload_n 0) 1 53 := ⟨by decide +kernel, rfl⟩
theorem dX9_count_53 : Dd mX9_count.2.1 53 (.getfield 74) 3 56 := ⟨by decide +kernel, rfl⟩
theorem dX9_count_56 : Dd mX9_count.2.1 56 (.ireturn) 1 57 := ⟨by decide +kernel, rfl⟩
theorem dX9_count_57 : Dd mX9_count.2.1 57 (.aload_n 0) 1 58 := ⟨by decide +kernel, rfl⟩
theorem dX9_count_58 : Dd mX9_count.2.1 58 (.getfield 78) 3 61 := ⟨by decide +kernel, rfl⟩
theorem dX9_count_61 : Dd mX9_count.2.1 61 (.ireturn) 1 62 := ⟨by decide +kernel, rfl⟩
theorem dX9_count_62 : Dd mX9_count.2.1 62 (.aload_n 0) 1 63 := ⟨by decide +kernel, rfl⟩
theorem dX9_count_63 : Dd mX9_count.2.1 63 (.getfield 81) 3 66 := ⟨by decide +kernel, rfl⟩
theorem dX9_count_66 : Dd mX9_count.2.1 66 (.ireturn) 1 67 := ⟨by decide +kernel, rfl⟩
theorem dX9_count_67 : Dd mX9_count.2.1 67 (.aload_n 0) 1 68 := ⟨by decide +kernel, rfl⟩
theorem dX9_count_68 : Dd mX9_count.2.1 68 (.getfield 84) 3 71 := ⟨by decide +kernel, rfl⟩
theorem dX9_count_71 : Dd mX9_count.2.1 71 (.ireturn) 1 72 := ⟨by decide +kernel, rfl⟩
theorem dX9_count_72 : Dd mX9_count.2.1 72 (.aload_n 0) 1 73 := ⟨by decide +kernel, rfl⟩
theorem dX9_count_73 : Dd mX9_count.2.1 73 (.getfield 87) 3 76 := ⟨by decide +kernel, rfl⟩
theorem dX9_count_76 : Dd mX9_count.2.1 76 (.ireturn) 1 77 := ⟨by decide +kernel, rfl⟩
theorem dX9_count_77 : Dd mX9_count.2.1 77 (.aload_n 0) 1 78 := ⟨by decide +kernel, rfl⟩
theorem dX9_count_78 : Dd mX9_count.2.1 78 (.getfield 7) 3 81 := ⟨by decide +kernel, rfl⟩
theorem dX9_count_81 : Dd mX9_count.2.1 81 (.bipush 12) 2 83 := ⟨by decide +kernel, rfl⟩
theorem dX9_count_83 : Dd mX9_count.2.1 83 (.iaload) 1 84 := ⟨by decide +kernel, rfl⟩
theorem dX9_count_84 : Dd mX9_count.2.1 84 (.ireturn) 1 85 := ⟨by decide +kernel, rfl⟩
theorem dX9_count_85 : Dd mX9_count.2.1 85 (.aload_n 0) 1 86 := ⟨by decide +kernel, rfl⟩
theorem dX9_count_86 : Dd mX9_count.2.1 86 (.getfield 90) 3 89 := ⟨by decide +kernel, rfl⟩
theorem dX9_count_89 : Dd mX9_count.2.1 89 (.ireturn) 1 90 := ⟨by decide +kernel, rfl⟩
theorem dX9_count_90 : Dd mX9_count.2.1 90 (.aload_n 0) 1 91 := ⟨by decide +kernel, rfl⟩
theorem dX9_count_91 : Dd mX9_count.2.1 91 (.getfield 93) 3 94 := ⟨by decide +kernel, rfl⟩
theorem dX9_count_94 : Dd mX9_count.2.1 94 (.ireturn) 1 95 := ⟨by decide +kernel, rfl⟩
theorem dX9_count_95 : Dd mX9_count.2.1 95 (.aload_n 0) 1 96 := ⟨by decide +kernel, rfl⟩
theorem dX9_count_96 : Dd mX9_count.2.1 96 (.getfield 104) 3 99 := ⟨by decide +kernel, rfl⟩
theorem dX9_count_99 : Dd mX9_count.2.1 99 (.ireturn) 1 100 := ⟨by decide +kernel, rfl⟩
theorem dX9_count_100 : Dd mX9_count.2.1 100 (.iconst (-1)) 1 101 := ⟨by decide +kernel, rfl⟩
theorem dX9_count_101 : Dd mX9_count.2.1 101 (.ireturn) 1 102 := ⟨by decide +kernel, rfl⟩
end
section
/-! ===== the law, by program ===== -/
def mL : MI := (⟨RL, "law", "([I)Z"⟩, code, 4, some .boolean)
theorem dL_0 : Dd mL.2.1 0 (.new 7) 3 3 := ⟨by decide +kernel, rfl⟩
theorem dL_3 : Dd mL.2.1 3 (.dup) 1 4 := ⟨by decide +kernel, rfl⟩
theorem dL_4 : Dd mL.2.1 4 (.invokespecial 9) 3 7 := ⟨by decide +kernel, rfl⟩
theorem dL_7 : Dd mL.2.1 7 (.astore_n 1) 1 8 := ⟨by decide +kernel, rfl⟩
theorem dL_8 : Dd mL.2.1 8 (.new 10) 3 11 := ⟨by decide +kernel, rfl⟩
theorem dL_11 : Dd mL.2.1 11 (.dup) 1 12 := ⟨by decide +kernel, rfl⟩
theorem dL_12 : Dd mL.2.1 12 (.invokespecial 12) 3 15 := ⟨by decide +kernel, rfl⟩
theorem dL_15 : Dd mL.2.1 15 (.astore_n 2) 1 16 := ⟨by decide +kernel, rfl⟩
theorem dL_16 : Dd mL.2.1 16 (.iconst 0) 1 17 := ⟨by decide +kernel, rfl⟩
theorem dL_17 : Dd mL.2.1 17 (.istore_n 3) 1 18 := ⟨by decide +kernel, rfl⟩
theorem dL_18 : Dd mL.2.1 18 (.iload_n 3) 1 19 := ⟨by decide +kernel, rfl⟩
theorem dL_19 : Dd mL.2.1 19 (.aload_n 0) 1 20 := ⟨by decide +kernel, rfl⟩
theorem dL_20 : Dd mL.2.1 20 (.arraylength) 1 21 := ⟨by decide +kernel, rfl⟩
theorem dL_21 : Dd mL.2.1 21 (.iconst 5) 1 22 := ⟨by decide +kernel, rfl⟩
theorem dL_22 : Dd mL.2.1 22 (.isub) 1 23 := ⟨by decide +kernel, rfl⟩
theorem dL_23 : Dd mL.2.1 23 (.if_icmp .gt 838) 3 26 := ⟨by decide +kernel, rfl⟩
theorem dL_26 : Dd mL.2.1 26 (.aload_n 0) 1 27 := ⟨by decide +kernel, rfl⟩
theorem dL_27 : Dd mL.2.1 27 (.iload_n 3) 1 28 := ⟨by decide +kernel, rfl⟩
theorem dL_28 : Dd mL.2.1 28 (.iaload) 1 29 := ⟨by decide +kernel, rfl⟩
theorem dL_29 : Dd mL.2.1 29 (.bipush 31) 2 31 := ⟨by decide +kernel, rfl⟩
theorem dL_31 : Dd mL.2.1 31 (.iand) 1 32 := ⟨by decide +kernel, rfl⟩
theorem dL_32 : Dd mL.2.1 32 (.tableswitch 823 0 27 #[128, 151, 164, 177, 190, 223, 256, 289, 312, 335, 348, 381, 404, 427, 440, 463, 496, 519, 542, 565, 588, 631, 685, 708, 731, 774, 787, 800]) 128 160 := ⟨by decide +kernel, rfl⟩
theorem dL_160 : Dd mL.2.1 160 (.aload_n 1) 1 161 := ⟨by decide +kernel, rfl⟩
theorem dL_161 : Dd mL.2.1 161 (.aload_n 0) 1 162 := ⟨by decide +kernel, rfl⟩
theorem dL_162 : Dd mL.2.1 162 (.iload_n 3) 1 163 := ⟨by decide +kernel, rfl⟩
theorem dL_163 : Dd mL.2.1 163 (.iconst 1) 1 164 := ⟨by decide +kernel, rfl⟩
theorem dL_164 : Dd mL.2.1 164 (.iadd) 1 165 := ⟨by decide +kernel, rfl⟩
theorem dL_165 : Dd mL.2.1 165 (.iaload) 1 166 := ⟨by decide +kernel, rfl⟩
theorem dL_166 : Dd mL.2.1 166 (.invokevirtual 13) 3 169 := ⟨by decide +kernel, rfl⟩
theorem dL_169 : Dd mL.2.1 169 (.aload_n 2) 1 170 := ⟨by decide +kernel, rfl⟩
theorem dL_170 : Dd mL.2.1 170 (.aload_n 0) 1 171 := ⟨by decide +kernel, rfl⟩
theorem dL_171 : Dd mL.2.1 171 (.iload_n 3) 1 172 := ⟨by decide +kernel, rfl⟩
theorem dL_172 : Dd mL.2.1 172 (.iconst 1) 1 173 := ⟨by decide +kernel, rfl⟩
theorem dL_173 : Dd mL.2.1 173 (.iadd) 1 174 := ⟨by decide +kernel, rfl⟩
theorem dL_174 : Dd mL.2.1 174 (.iaload) 1 175 := ⟨by decide +kernel, rfl⟩
theorem dL_175 : Dd mL.2.1 175 (.invokevirtual 17) 3 178 := ⟨by decide +kernel, rfl⟩
theorem dL_178 : Dd mL.2.1 178 (.if_icmp .eq 677) 3 181 := ⟨by decide +kernel, rfl⟩
theorem dL_181 : Dd mL.2.1 181 (.iconst 0) 1 182 := ⟨by decide +kernel, rfl⟩
theorem dL_182 : Dd mL.2.1 182 (.ireturn) 1 183 := ⟨by decide +kernel, rfl⟩
theorem dL_183 : Dd mL.2.1 183 (.aload_n 1) 1 184 := ⟨by decide +kernel, rfl⟩
theorem dL_184 : Dd mL.2.1 184 (.invokevirtual 18) 3 187 := ⟨by decide +kernel, rfl⟩
theorem dL_187 : Dd mL.2.1 187 (.aload_n 2) 1 188 := ⟨by decide +kernel, rfl⟩
theorem dL_188 : Dd mL.2.1 188 (.invokevirtual 22) 3 191 := ⟨by decide +kernel, rfl⟩
theorem dL_191 : Dd mL.2.1 191 (.if_icmp .eq 664) 3 194 := ⟨by decide +kernel, rfl⟩
theorem dL_194 : Dd mL.2.1 194 (.iconst 0) 1 195 := ⟨by decide +kernel, rfl⟩
theorem dL_195 : Dd mL.2.1 195 (.ireturn) 1 196 := ⟨by decide +kernel, rfl⟩
theorem dL_196 : Dd mL.2.1 196 (.aload_n 1) 1 197 := ⟨by decide +kernel, rfl⟩
theorem dL_197 : Dd mL.2.1 197 (.invokevirtual 23) 3 200 := ⟨by decide +kernel, rfl⟩
theorem dL_200 : Dd mL.2.1 200 (.aload_n 2) 1 201 := ⟨by decide +kernel, rfl⟩
theorem dL_201 : Dd mL.2.1 201 (.invokevirtual 26) 3 204 := ⟨by decide +kernel, rfl⟩
theorem dL_204 : Dd mL.2.1 204 (.if_icmp .eq 651) 3 207 := ⟨by decide +kernel, rfl⟩
theorem dL_207 : Dd mL.2.1 207 (.iconst 0) 1 208 := ⟨by decide +kernel, rfl⟩
theorem dL_208 : Dd mL.2.1 208 (.ireturn) 1 209 := ⟨by decide +kernel, rfl⟩
theorem dL_209 : Dd mL.2.1 209 (.aload_n 1) 1 210 := ⟨by decide +kernel, rfl⟩
theorem dL_210 : Dd mL.2.1 210 (.invokevirtual 27) 3 213 := ⟨by decide +kernel, rfl⟩
theorem dL_213 : Dd mL.2.1 213 (.aload_n 2) 1 214 := ⟨by decide +kernel, rfl⟩
theorem dL_214 : Dd mL.2.1 214 (.invokevirtual 30) 3 217 := ⟨by decide +kernel, rfl⟩
theorem dL_217 : Dd mL.2.1 217 (.if_icmp .eq 638) 3 220 := ⟨by decide +kernel, rfl⟩
theorem dL_220 : Dd mL.2.1 220 (.iconst 0) 1 221 := ⟨by decide +kernel, rfl⟩
theorem dL_221 : Dd mL.2.1 221 (.ireturn) 1 222 := ⟨by decide +kernel, rfl⟩
theorem dL_222 : Dd mL.2.1 222 (.aload_n 1) 1 223 := ⟨by decide +kernel, rfl⟩
theorem dL_223 : Dd mL.2.1 223 (.aload_n 0) 1 224 := ⟨by decide +kernel, rfl⟩
theorem dL_224 : Dd mL.2.1 224 (.iload_n 3) 1 225 := ⟨by decide +kernel, rfl⟩
theorem dL_225 : Dd mL.2.1 225 (.iconst 1) 1 226 := ⟨by decide +kernel, rfl⟩
theorem dL_226 : Dd mL.2.1 226 (.iadd) 1 227 := ⟨by decide +kernel, rfl⟩
theorem dL_227 : Dd mL.2.1 227 (.iaload) 1 228 := ⟨by decide +kernel, rfl⟩
theorem dL_228 : Dd mL.2.1 228 (.aload_n 0) 1 229 := ⟨by decide +kernel, rfl⟩
theorem dL_229 : Dd mL.2.1 229 (.iload_n 3) 1 230 := ⟨by decide +kernel, rfl⟩
theorem dL_230 : Dd mL.2.1 230 (.iconst 2) 1 231 := ⟨by decide +kernel, rfl⟩
theorem dL_231 : Dd mL.2.1 231 (.iadd) 1 232 := ⟨by decide +kernel, rfl⟩
theorem dL_232 : Dd mL.2.1 232 (.iaload) 1 233 := ⟨by decide +kernel, rfl⟩
theorem dL_233 : Dd mL.2.1 233 (.invokevirtual 31) 3 236 := ⟨by decide +kernel, rfl⟩
theorem dL_236 : Dd mL.2.1 236 (.aload_n 2) 1 237 := ⟨by decide +kernel, rfl⟩
theorem dL_237 : Dd mL.2.1 237 (.aload_n 0) 1 238 := ⟨by decide +kernel, rfl⟩
theorem dL_238 : Dd mL.2.1 238 (.iload_n 3) 1 239 := ⟨by decide +kernel, rfl⟩
theorem dL_239 : Dd mL.2.1 239 (.iconst 1) 1 240 := ⟨by decide +kernel, rfl⟩
theorem dL_240 : Dd mL.2.1 240 (.iadd) 1 241 := ⟨by decide +kernel, rfl⟩
theorem dL_241 : Dd mL.2.1 241 (.iaload) 1 242 := ⟨by decide +kernel, rfl⟩
theorem dL_242 : Dd mL.2.1 242 (.aload_n 0) 1 243 := ⟨by decide +kernel, rfl⟩
theorem dL_243 : Dd mL.2.1 243 (.iload_n 3) 1 244 := ⟨by decide +kernel, rfl⟩
theorem dL_244 : Dd mL.2.1 244 (.iconst 2) 1 245 := ⟨by decide +kernel, rfl⟩
theorem dL_245 : Dd mL.2.1 245 (.iadd) 1 246 := ⟨by decide +kernel, rfl⟩
theorem dL_246 : Dd mL.2.1 246 (.iaload) 1 247 := ⟨by decide +kernel, rfl⟩
theorem dL_247 : Dd mL.2.1 247 (.invokevirtual 35) 3 250 := ⟨by decide +kernel, rfl⟩
theorem dL_250 : Dd mL.2.1 250 (.if_icmp .eq 605) 3 253 := ⟨by decide +kernel, rfl⟩
theorem dL_253 : Dd mL.2.1 253 (.iconst 0) 1 254 := ⟨by decide +kernel, rfl⟩
theorem dL_254 : Dd mL.2.1 254 (.ireturn) 1 255 := ⟨by decide +kernel, rfl⟩
theorem dL_255 : Dd mL.2.1 255 (.aload_n 1) 1 256 := ⟨by decide +kernel, rfl⟩
theorem dL_256 : Dd mL.2.1 256 (.aload_n 0) 1 257 := ⟨by decide +kernel, rfl⟩
theorem dL_257 : Dd mL.2.1 257 (.iload_n 3) 1 258 := ⟨by decide +kernel, rfl⟩
theorem dL_258 : Dd mL.2.1 258 (.iconst 1) 1 259 := ⟨by decide +kernel, rfl⟩
theorem dL_259 : Dd mL.2.1 259 (.iadd) 1 260 := ⟨by decide +kernel, rfl⟩
theorem dL_260 : Dd mL.2.1 260 (.iaload) 1 261 := ⟨by decide +kernel, rfl⟩
theorem dL_261 : Dd mL.2.1 261 (.aload_n 0) 1 262 := ⟨by decide +kernel, rfl⟩
theorem dL_262 : Dd mL.2.1 262 (.iload_n 3) 1 263 := ⟨by decide +kernel, rfl⟩
theorem dL_263 : Dd mL.2.1 263 (.iconst 2) 1 264 := ⟨by decide +kernel, rfl⟩
theorem dL_264 : Dd mL.2.1 264 (.iadd) 1 265 := ⟨by decide +kernel, rfl⟩
theorem dL_265 : Dd mL.2.1 265 (.iaload) 1 266 := ⟨by decide +kernel, rfl⟩
theorem dL_266 : Dd mL.2.1 266 (.invokevirtual 36) 3 269 := ⟨by decide +kernel, rfl⟩
theorem dL_269 : Dd mL.2.1 269 (.aload_n 2) 1 270 := ⟨by decide +kernel, rfl⟩
theorem dL_270 : Dd mL.2.1 270 (.aload_n 0) 1 271 := ⟨by decide +kernel, rfl⟩
theorem dL_271 : Dd mL.2.1 271 (.iload_n 3) 1 272 := ⟨by decide +kernel, rfl⟩
theorem dL_272 : Dd mL.2.1 272 (.iconst 1) 1 273 := ⟨by decide +kernel, rfl⟩
theorem dL_273 : Dd mL.2.1 273 (.iadd) 1 274 := ⟨by decide +kernel, rfl⟩
theorem dL_274 : Dd mL.2.1 274 (.iaload) 1 275 := ⟨by decide +kernel, rfl⟩
theorem dL_275 : Dd mL.2.1 275 (.aload_n 0) 1 276 := ⟨by decide +kernel, rfl⟩
theorem dL_276 : Dd mL.2.1 276 (.iload_n 3) 1 277 := ⟨by decide +kernel, rfl⟩
theorem dL_277 : Dd mL.2.1 277 (.iconst 2) 1 278 := ⟨by decide +kernel, rfl⟩
theorem dL_278 : Dd mL.2.1 278 (.iadd) 1 279 := ⟨by decide +kernel, rfl⟩
theorem dL_279 : Dd mL.2.1 279 (.iaload) 1 280 := ⟨by decide +kernel, rfl⟩
theorem dL_280 : Dd mL.2.1 280 (.invokevirtual 39) 3 283 := ⟨by decide +kernel, rfl⟩
theorem dL_283 : Dd mL.2.1 283 (.if_icmp .eq 572) 3 286 := ⟨by decide +kernel, rfl⟩
theorem dL_286 : Dd mL.2.1 286 (.iconst 0) 1 287 := ⟨by decide +kernel, rfl⟩
theorem dL_287 : Dd mL.2.1 287 (.ireturn) 1 288 := ⟨by decide +kernel, rfl⟩
theorem dL_288 : Dd mL.2.1 288 (.aload_n 1) 1 289 := ⟨by decide +kernel, rfl⟩
theorem dL_289 : Dd mL.2.1 289 (.aload_n 0) 1 290 := ⟨by decide +kernel, rfl⟩
theorem dL_290 : Dd mL.2.1 290 (.iload_n 3) 1 291 := ⟨by decide +kernel, rfl⟩
theorem dL_291 : Dd mL.2.1 291 (.iconst 1) 1 292 := ⟨by decide +kernel, rfl⟩
theorem dL_292 : Dd mL.2.1 292 (.iadd) 1 293 := ⟨by decide +kernel, rfl⟩
theorem dL_293 : Dd mL.2.1 293 (.iaload) 1 294 := ⟨by decide +kernel, rfl⟩
theorem dL_294 : Dd mL.2.1 294 (.aload_n 0) 1 295 := ⟨by decide +kernel, rfl⟩
theorem dL_295 : Dd mL.2.1 295 (.iload_n 3) 1 296 := ⟨by decide +kernel, rfl⟩
theorem dL_296 : Dd mL.2.1 296 (.iconst 2) 1 297 := ⟨by decide +kernel, rfl⟩
theorem dL_297 : Dd mL.2.1 297 (.iadd) 1 298 := ⟨by decide +kernel, rfl⟩
theorem dL_298 : Dd mL.2.1 298 (.iaload) 1 299 := ⟨by decide +kernel, rfl⟩
theorem dL_299 : Dd mL.2.1 299 (.invokevirtual 40) 3 302 := ⟨by decide +kernel, rfl⟩
theorem dL_302 : Dd mL.2.1 302 (.aload_n 2) 1 303 := ⟨by decide +kernel, rfl⟩
theorem dL_303 : Dd mL.2.1 303 (.aload_n 0) 1 304 := ⟨by decide +kernel, rfl⟩
theorem dL_304 : Dd mL.2.1 304 (.iload_n 3) 1 305 := ⟨by decide +kernel, rfl⟩
theorem dL_305 : Dd mL.2.1 305 (.iconst 1) 1 306 := ⟨by decide +kernel, rfl⟩
theorem dL_306 : Dd mL.2.1 306 (.iadd) 1 307 := ⟨by decide +kernel, rfl⟩
theorem dL_307 : Dd mL.2.1 307 (.iaload) 1 308 := ⟨by decide +kernel, rfl⟩
theorem dL_308 : Dd mL.2.1 308 (.aload_n 0) 1 309 := ⟨by decide +kernel, rfl⟩
theorem dL_309 : Dd mL.2.1 309 (.iload_n 3) 1 310 := ⟨by decide +kernel, rfl⟩
theorem dL_310 : Dd mL.2.1 310 (.iconst 2) 1 311 := ⟨by decide +kernel, rfl⟩
theorem dL_311 : Dd mL.2.1 311 (.iadd) 1 312 := ⟨by decide +kernel, rfl⟩
theorem dL_312 : Dd mL.2.1 312 (.iaload) 1 313 := ⟨by decide +kernel, rfl⟩
theorem dL_313 : Dd mL.2.1 313 (.invokevirtual 43) 3 316 := ⟨by decide +kernel, rfl⟩
theorem dL_316 : Dd mL.2.1 316 (.if_icmp .eq 539) 3 319 := ⟨by decide +kernel, rfl⟩
theorem dL_319 : Dd mL.2.1 319 (.iconst 0) 1 320 := ⟨by decide +kernel, rfl⟩
theorem dL_320 : Dd mL.2.1 320 (.ireturn) 1 321 := ⟨by decide +kernel, rfl⟩
theorem dL_321 : Dd mL.2.1 321 (.aload_n 1) 1 322 := ⟨by decide +kernel, rfl⟩
theorem dL_322 : Dd mL.2.1 322 (.aload_n 0) 1 323 := ⟨by decide +kernel, rfl⟩
theorem dL_323 : Dd mL.2.1 323 (.iload_n 3) 1 324 := ⟨by decide +kernel, rfl⟩
theorem dL_324 : Dd mL.2.1 324 (.iconst 1) 1 325 := ⟨by decide +kernel, rfl⟩
theorem dL_325 : Dd mL.2.1 325 (.iadd) 1 326 := ⟨by decide +kernel, rfl⟩
theorem dL_326 : Dd mL.2.1 326 (.iaload) 1 327 := ⟨by decide +kernel, rfl⟩
theorem dL_327 : Dd mL.2.1 327 (.invokevirtual 44) 3 330 := ⟨by decide +kernel, rfl⟩
theorem dL_330 : Dd mL.2.1 330 (.aload_n 2) 1 331 := ⟨by decide +kernel, rfl⟩
theorem dL_331 : Dd mL.2.1 331 (.aload_n 0) 1 332 := ⟨by decide +kernel, rfl⟩
theorem dL_332 : Dd mL.2.1 332 (.iload_n 3) 1 333 := ⟨by decide +kernel, rfl⟩
theorem dL_333 : Dd mL.2.1 333 (.iconst 1) 1 334 := ⟨by decide +kernel, rfl⟩
theorem dL_334 : Dd mL.2.1 334 (.iadd) 1 335 := ⟨by decide +kernel, rfl⟩
theorem dL_335 : Dd mL.2.1 335 (.iaload) 1 336 := ⟨by decide +kernel, rfl⟩
theorem dL_336 : Dd mL.2.1 336 (.invokevirtual 47) 3 339 := ⟨by decide +kernel, rfl⟩
theorem dL_339 : Dd mL.2.1 339 (.if_icmp .eq 516) 3 342 := ⟨by decide +kernel, rfl⟩
theorem dL_342 : Dd mL.2.1 342 (.iconst 0) 1 343 := ⟨by decide +kernel, rfl⟩
theorem dL_343 : Dd mL.2.1 343 (.ireturn) 1 344 := ⟨by decide +kernel, rfl⟩
theorem dL_344 : Dd mL.2.1 344 (.aload_n 1) 1 345 := ⟨by decide +kernel, rfl⟩
theorem dL_345 : Dd mL.2.1 345 (.aload_n 0) 1 346 := ⟨by decide +kernel, rfl⟩
theorem dL_346 : Dd mL.2.1 346 (.iload_n 3) 1 347 := ⟨by decide +kernel, rfl⟩
theorem dL_347 : Dd mL.2.1 347 (.iconst 1) 1 348 := ⟨by decide +kernel, rfl⟩
theorem dL_348 : Dd mL.2.1 348 (.iadd) 1 349 := ⟨by decide +kernel, rfl⟩
theorem dL_349 : Dd mL.2.1 349 (.iaload) 1 350 := ⟨by decide +kernel, rfl⟩
theorem dL_350 : Dd mL.2.1 350 (.invokevirtual 48) 3 353 := ⟨by decide +kernel, rfl⟩
theorem dL_353 : Dd mL.2.1 353 (.aload_n 2) 1 354 := ⟨by decide +kernel, rfl⟩
theorem dL_354 : Dd mL.2.1 354 (.aload_n 0) 1 355 := ⟨by decide +kernel, rfl⟩
theorem dL_355 : Dd mL.2.1 355 (.iload_n 3) 1 356 := ⟨by decide +kernel, rfl⟩
theorem dL_356 : Dd mL.2.1 356 (.iconst 1) 1 357 := ⟨by decide +kernel, rfl⟩
theorem dL_357 : Dd mL.2.1 357 (.iadd) 1 358 := ⟨by decide +kernel, rfl⟩
theorem dL_358 : Dd mL.2.1 358 (.iaload) 1 359 := ⟨by decide +kernel, rfl⟩
theorem dL_359 : Dd mL.2.1 359 (.invokevirtual 51) 3 362 := ⟨by decide +kernel, rfl⟩
theorem dL_362 : Dd mL.2.1 362 (.if_icmp .eq 493) 3 365 := ⟨by decide +kernel, rfl⟩
theorem dL_365 : Dd mL.2.1 365 (.iconst 0) 1 366 := ⟨by decide +kernel, rfl⟩
theorem dL_366 : Dd mL.2.1 366 (.ireturn) 1 367 := ⟨by decide +kernel, rfl⟩
theorem dL_367 : Dd mL.2.1 367 (.aload_n 1) 1 368 := ⟨by decide +kernel, rfl⟩
theorem dL_368 : Dd mL.2.1 368 (.invokevirtual 52) 3 371 := ⟨by decide +kernel, rfl⟩
theorem dL_371 : Dd mL.2.1 371 (.aload_n 2) 1 372 := ⟨by decide +kernel, rfl⟩
theorem dL_372 : Dd mL.2.1 372 (.invokevirtual 55) 3 375 := ⟨by decide +kernel, rfl⟩
theorem dL_375 : Dd mL.2.1 375 (.if_icmp .eq 480) 3 378 := ⟨by decide +kernel, rfl⟩
theorem dL_378 : Dd mL.2.1 378 (.iconst 0) 1 379 := ⟨by decide +kernel, rfl⟩
theorem dL_379 : Dd mL.2.1 379 (.ireturn) 1 380 := ⟨by decide +kernel, rfl⟩
theorem dL_380 : Dd mL.2.1 380 (.aload_n 1) 1 381 := ⟨by decide +kernel, rfl⟩
theorem dL_381 : Dd mL.2.1 381 (.aload_n 0) 1 382 := ⟨by decide +kernel, rfl⟩
theorem dL_382 : Dd mL.2.1 382 (.iload_n 3) 1 383 := ⟨by decide +kernel, rfl⟩
theorem dL_383 : Dd mL.2.1 383 (.iconst 1) 1 384 := ⟨by decide +kernel, rfl⟩
theorem dL_384 : Dd mL.2.1 384 (.iadd) 1 385 := ⟨by decide +kernel, rfl⟩
theorem dL_385 : Dd mL.2.1 385 (.iaload) 1 386 := ⟨by decide +kernel, rfl⟩
theorem dL_386 : Dd mL.2.1 386 (.aload_n 0) 1 387 := ⟨by decide +kernel, rfl⟩
theorem dL_387 : Dd mL.2.1 387 (.iload_n 3) 1 388 := ⟨by decide +kernel, rfl⟩
theorem dL_388 : Dd mL.2.1 388 (.iconst 2) 1 389 := ⟨by decide +kernel, rfl⟩
theorem dL_389 : Dd mL.2.1 389 (.iadd) 1 390 := ⟨by decide +kernel, rfl⟩
theorem dL_390 : Dd mL.2.1 390 (.iaload) 1 391 := ⟨by decide +kernel, rfl⟩
theorem dL_391 : Dd mL.2.1 391 (.invokevirtual 56) 3 394 := ⟨by decide +kernel, rfl⟩
theorem dL_394 : Dd mL.2.1 394 (.aload_n 2) 1 395 := ⟨by decide +kernel, rfl⟩
theorem dL_395 : Dd mL.2.1 395 (.aload_n 0) 1 396 := ⟨by decide +kernel, rfl⟩
theorem dL_396 : Dd mL.2.1 396 (.iload_n 3) 1 397 := ⟨by decide +kernel, rfl⟩
theorem dL_397 : Dd mL.2.1 397 (.iconst 1) 1 398 := ⟨by decide +kernel, rfl⟩
theorem dL_398 : Dd mL.2.1 398 (.iadd) 1 399 := ⟨by decide +kernel, rfl⟩
theorem dL_399 : Dd mL.2.1 399 (.iaload) 1 400 := ⟨by decide +kernel, rfl⟩
theorem dL_400 : Dd mL.2.1 400 (.aload_n 0) 1 401 := ⟨by decide +kernel, rfl⟩
theorem dL_401 : Dd mL.2.1 401 (.iload_n 3) 1 402 := ⟨by decide +kernel, rfl⟩
theorem dL_402 : Dd mL.2.1 402 (.iconst 2) 1 403 := ⟨by decide +kernel, rfl⟩
theorem dL_403 : Dd mL.2.1 403 (.iadd) 1 404 := ⟨by decide +kernel, rfl⟩
theorem dL_404 : Dd mL.2.1 404 (.iaload) 1 405 := ⟨by decide +kernel, rfl⟩
theorem dL_405 : Dd mL.2.1 405 (.invokevirtual 59) 3 408 := ⟨by decide +kernel, rfl⟩
theorem dL_408 : Dd mL.2.1 408 (.if_icmp .eq 447) 3 411 := ⟨by decide +kernel, rfl⟩
theorem dL_411 : Dd mL.2.1 411 (.iconst 0) 1 412 := ⟨by decide +kernel, rfl⟩
theorem dL_412 : Dd mL.2.1 412 (.ireturn) 1 413 := ⟨by decide +kernel, rfl⟩
theorem dL_413 : Dd mL.2.1 413 (.aload_n 1) 1 414 := ⟨by decide +kernel, rfl⟩
theorem dL_414 : Dd mL.2.1 414 (.aload_n 0) 1 415 := ⟨by decide +kernel, rfl⟩
theorem dL_415 : Dd mL.2.1 415 (.iload_n 3) 1 416 := ⟨by decide +kernel, rfl⟩
theorem dL_416 : Dd mL.2.1 416 (.iconst 1) 1 417 := ⟨by decide +kernel, rfl⟩
theorem dL_417 : Dd mL.2.1 417 (.iadd) 1 418 := ⟨by decide +kernel, rfl⟩
theorem dL_418 : Dd mL.2.1 418 (.iaload) 1 419 := ⟨by decide +kernel, rfl⟩
theorem dL_419 : Dd mL.2.1 419 (.invokevirtual 60) 3 422 := ⟨by decide +kernel, rfl⟩
theorem dL_422 : Dd mL.2.1 422 (.aload_n 2) 1 423 := ⟨by decide +kernel, rfl⟩
theorem dL_423 : Dd mL.2.1 423 (.aload_n 0) 1 424 := ⟨by decide +kernel, rfl⟩
theorem dL_424 : Dd mL.2.1 424 (.iload_n 3) 1 425 := ⟨by decide +kernel, rfl⟩
theorem dL_425 : Dd mL.2.1 425 (.iconst 1) 1 426 := ⟨by decide +kernel, rfl⟩
theorem dL_426 : Dd mL.2.1 426 (.iadd) 1 427 := ⟨by decide +kernel, rfl⟩
theorem dL_427 : Dd mL.2.1 427 (.iaload) 1 428 := ⟨by decide +kernel, rfl⟩
theorem dL_428 : Dd mL.2.1 428 (.invokevirtual 63) 3 431 := ⟨by decide +kernel, rfl⟩
theorem dL_431 : Dd mL.2.1 431 (.if_icmp .eq 424) 3 434 := ⟨by decide +kernel, rfl⟩
theorem dL_434 : Dd mL.2.1 434 (.iconst 0) 1 435 := ⟨by decide +kernel, rfl⟩
theorem dL_435 : Dd mL.2.1 435 (.ireturn) 1 436 := ⟨by decide +kernel, rfl⟩
theorem dL_436 : Dd mL.2.1 436 (.aload_n 1) 1 437 := ⟨by decide +kernel, rfl⟩
theorem dL_437 : Dd mL.2.1 437 (.aload_n 0) 1 438 := ⟨by decide +kernel, rfl⟩
theorem dL_438 : Dd mL.2.1 438 (.iload_n 3) 1 439 := ⟨by decide +kernel, rfl⟩
theorem dL_439 : Dd mL.2.1 439 (.iconst 1) 1 440 := ⟨by decide +kernel, rfl⟩
theorem dL_440 : Dd mL.2.1 440 (.iadd) 1 441 := ⟨by decide +kernel, rfl⟩
theorem dL_441 : Dd mL.2.1 441 (.iaload) 1 442 := ⟨by decide +kernel, rfl⟩
theorem dL_442 : Dd mL.2.1 442 (.invokevirtual 64) 3 445 := ⟨by decide +kernel, rfl⟩
theorem dL_445 : Dd mL.2.1 445 (.aload_n 2) 1 446 := ⟨by decide +kernel, rfl⟩
theorem dL_446 : Dd mL.2.1 446 (.aload_n 0) 1 447 := ⟨by decide +kernel, rfl⟩
theorem dL_447 : Dd mL.2.1 447 (.iload_n 3) 1 448 := ⟨by decide +kernel, rfl⟩
theorem dL_448 : Dd mL.2.1 448 (.iconst 1) 1 449 := ⟨by decide +kernel, rfl⟩
theorem dL_449 : Dd mL.2.1 449 (.iadd) 1 450 := ⟨by decide +kernel, rfl⟩
theorem dL_450 : Dd mL.2.1 450 (.iaload) 1 451 := ⟨by decide +kernel, rfl⟩
theorem dL_451 : Dd mL.2.1 451 (.invokevirtual 67) 3 454 := ⟨by decide +kernel, rfl⟩
theorem dL_454 : Dd mL.2.1 454 (.if_icmp .eq 401) 3 457 := ⟨by decide +kernel, rfl⟩
theorem dL_457 : Dd mL.2.1 457 (.iconst 0) 1 458 := ⟨by decide +kernel, rfl⟩
theorem dL_458 : Dd mL.2.1 458 (.ireturn) 1 459 := ⟨by decide +kernel, rfl⟩
theorem dL_459 : Dd mL.2.1 459 (.aload_n 1) 1 460 := ⟨by decide +kernel, rfl⟩
theorem dL_460 : Dd mL.2.1 460 (.invokevirtual 68) 3 463 := ⟨by decide +kernel, rfl⟩
theorem dL_463 : Dd mL.2.1 463 (.aload_n 2) 1 464 := ⟨by decide +kernel, rfl⟩
theorem dL_464 : Dd mL.2.1 464 (.invokevirtual 71) 3 467 := ⟨by decide +kernel, rfl⟩
theorem dL_467 : Dd mL.2.1 467 (.if_icmp .eq 388) 3 470 := ⟨by decide +kernel, rfl⟩
theorem dL_470 : Dd mL.2.1 470 (.iconst 0) 1 471 := ⟨by decide +kernel, rfl⟩
theorem dL_471 : Dd mL.2.1 471 (.ireturn) 1 472 := ⟨by decide +kernel, rfl⟩
theorem dL_472 : Dd mL.2.1 472 (.aload_n 1) 1 473 := ⟨by decide +kernel, rfl⟩
theorem dL_473 : Dd mL.2.1 473 (.aload_n 0) 1 474 := ⟨by decide +kernel, rfl⟩
theorem dL_474 : Dd mL.2.1 474 (.iload_n 3) 1 475 := ⟨by decide +kernel, rfl⟩
theorem dL_475 : Dd mL.2.1 475 (.iconst 1) 1 476 := ⟨by decide +kernel, rfl⟩
theorem dL_476 : Dd mL.2.1 476 (.iadd) 1 477 := ⟨by decide +kernel, rfl⟩
theorem dL_477 : Dd mL.2.1 477 (.iaload) 1 478 := ⟨by decide +kernel, rfl⟩
theorem dL_478 : Dd mL.2.1 478 (.invokevirtual 72) 3 481 := ⟨by decide +kernel, rfl⟩
theorem dL_481 : Dd mL.2.1 481 (.aload_n 2) 1 482 := ⟨by decide +kernel, rfl⟩
theorem dL_482 : Dd mL.2.1 482 (.aload_n 0) 1 483 := ⟨by decide +kernel, rfl⟩
theorem dL_483 : Dd mL.2.1 483 (.iload_n 3) 1 484 := ⟨by decide +kernel, rfl⟩
theorem dL_484 : Dd mL.2.1 484 (.iconst 1) 1 485 := ⟨by decide +kernel, rfl⟩
theorem dL_485 : Dd mL.2.1 485 (.iadd) 1 486 := ⟨by decide +kernel, rfl⟩
theorem dL_486 : Dd mL.2.1 486 (.iaload) 1 487 := ⟨by decide +kernel, rfl⟩
theorem dL_487 : Dd mL.2.1 487 (.invokevirtual 75) 3 490 := ⟨by decide +kernel, rfl⟩
theorem dL_490 : Dd mL.2.1 490 (.if_icmp .eq 365) 3 493 := ⟨by decide +kernel, rfl⟩
theorem dL_493 : Dd mL.2.1 493 (.iconst 0) 1 494 := ⟨by decide +kernel, rfl⟩
theorem dL_494 : Dd mL.2.1 494 (.ireturn) 1 495 := ⟨by decide +kernel, rfl⟩
theorem dL_495 : Dd mL.2.1 495 (.aload_n 1) 1 496 := ⟨by decide +kernel, rfl⟩
theorem dL_496 : Dd mL.2.1 496 (.aload_n 0) 1 497 := ⟨by decide +kernel, rfl⟩
theorem dL_497 : Dd mL.2.1 497 (.iload_n 3) 1 498 := ⟨by decide +kernel, rfl⟩
theorem dL_498 : Dd mL.2.1 498 (.iconst 1) 1 499 := ⟨by decide +kernel, rfl⟩
theorem dL_499 : Dd mL.2.1 499 (.iadd) 1 500 := ⟨by decide +kernel, rfl⟩
theorem dL_500 : Dd mL.2.1 500 (.iaload) 1 501 := ⟨by decide +kernel, rfl⟩
theorem dL_501 : Dd mL.2.1 501 (.aload_n 0) 1 502 := ⟨by decide +kernel, rfl⟩
theorem dL_502 : Dd mL.2.1 502 (.iload_n 3) 1 503 := ⟨by decide +kernel, rfl⟩
theorem dL_503 : Dd mL.2.1 503 (.iconst 2) 1 504 := ⟨by decide +kernel, rfl⟩
theorem dL_504 : Dd mL.2.1 504 (.iadd) 1 505 := ⟨by decide +kernel, rfl⟩
theorem dL_505 : Dd mL.2.1 505 (.iaload) 1 506 := ⟨by decide +kernel, rfl⟩
theorem dL_506 : Dd mL.2.1 506 (.invokevirtual 76) 3 509 := ⟨by decide +kernel, rfl⟩
theorem dL_509 : Dd mL.2.1 509 (.aload_n 2) 1 510 := ⟨by decide +kernel, rfl⟩
theorem dL_510 : Dd mL.2.1 510 (.aload_n 0) 1 511 := ⟨by decide +kernel, rfl⟩
theorem dL_511 : Dd mL.2.1 511 (.iload_n 3) 1 512 := ⟨by decide +kernel, rfl⟩
theorem dL_512 : Dd mL.2.1 512 (.iconst 1) 1 513 := ⟨by decide +kernel, rfl⟩
theorem dL_513 : Dd mL.2.1 513 (.iadd) 1 514 := ⟨by decide +kernel, rfl⟩
theorem dL_514 : Dd mL.2.1 514 (.iaload) 1 515 := ⟨by decide +kernel, rfl⟩
theorem dL_515 : Dd mL.2.1 515 (.aload_n 0) 1 516 := ⟨by decide +kernel, rfl⟩
theorem dL_516 : Dd mL.2.1 516 (.iload_n 3) 1 517 := ⟨by decide +kernel, rfl⟩
theorem dL_517 : Dd mL.2.1 517 (.iconst 2) 1 518 := ⟨by decide +kernel, rfl⟩
theorem dL_518 : Dd mL.2.1 518 (.iadd) 1 519 := ⟨by decide +kernel, rfl⟩
theorem dL_519 : Dd mL.2.1 519 (.iaload) 1 520 := ⟨by decide +kernel, rfl⟩
theorem dL_520 : Dd mL.2.1 520 (.invokevirtual 79) 3 523 := ⟨by decide +kernel, rfl⟩
theorem dL_523 : Dd mL.2.1 523 (.if_icmp .eq 332) 3 526 := ⟨by decide +kernel, rfl⟩
theorem dL_526 : Dd mL.2.1 526 (.iconst 0) 1 527 := ⟨by decide +kernel, rfl⟩
theorem dL_527 : Dd mL.2.1 527 (.ireturn) 1 528 := ⟨by decide +kernel, rfl⟩
theorem dL_528 : Dd mL.2.1 528 (.aload_n 1) 1 529 := ⟨by decide +kernel, rfl⟩
theorem dL_529 : Dd mL.2.1 529 (.aload_n 0) 1 530 := ⟨by decide +kernel, rfl⟩
theorem dL_530 : Dd mL.2.1 530 (.iload_n 3) 1 531 := ⟨by decide +kernel, rfl⟩
theorem dL_531 : Dd mL.2.1 531 (.iconst 1) 1 532 := ⟨by decide +kernel, rfl⟩
theorem dL_532 : Dd mL.2.1 532 (.iadd) 1 533 := ⟨by decide +kernel, rfl⟩
theorem dL_533 : Dd mL.2.1 533 (.iaload) 1 534 := ⟨by decide +kernel, rfl⟩
theorem dL_534 : Dd mL.2.1 534 (.invokevirtual 80) 3 537 := ⟨by decide +kernel, rfl⟩
theorem dL_537 : Dd mL.2.1 537 (.aload_n 2) 1 538 := ⟨by decide +kernel, rfl⟩
theorem dL_538 : Dd mL.2.1 538 (.aload_n 0) 1 539 := ⟨by decide +kernel, rfl⟩
theorem dL_539 : Dd mL.2.1 539 (.iload_n 3) 1 540 := ⟨by decide +kernel, rfl⟩
theorem dL_540 : Dd mL.2.1 540 (.iconst 1) 1 541 := ⟨by decide +kernel, rfl⟩
theorem dL_541 : Dd mL.2.1 541 (.iadd) 1 542 := ⟨by decide +kernel, rfl⟩
theorem dL_542 : Dd mL.2.1 542 (.iaload) 1 543 := ⟨by decide +kernel, rfl⟩
theorem dL_543 : Dd mL.2.1 543 (.invokevirtual 83) 3 546 := ⟨by decide +kernel, rfl⟩
theorem dL_546 : Dd mL.2.1 546 (.if_icmp .eq 309) 3 549 := ⟨by decide +kernel, rfl⟩
theorem dL_549 : Dd mL.2.1 549 (.iconst 0) 1 550 := ⟨by decide +kernel, rfl⟩
theorem dL_550 : Dd mL.2.1 550 (.ireturn) 1 551 := ⟨by decide +kernel, rfl⟩
theorem dL_551 : Dd mL.2.1 551 (.aload_n 1) 1 552 := ⟨by decide +kernel, rfl⟩
theorem dL_552 : Dd mL.2.1 552 (.aload_n 0) 1 553 := ⟨by decide +kernel, rfl⟩
theorem dL_553 : Dd mL.2.1 553 (.iload_n 3) 1 554 := ⟨by decide +kernel, rfl⟩
theorem dL_554 : Dd mL.2.1 554 (.iconst 1) 1 555 := ⟨by decide +kernel, rfl⟩
theorem dL_555 : Dd mL.2.1 555 (.iadd) 1 556 := ⟨by decide +kernel, rfl⟩
theorem dL_556 : Dd mL.2.1 556 (.iaload) 1 557 := ⟨by decide +kernel, rfl⟩
theorem dL_557 : Dd mL.2.1 557 (.invokevirtual 84) 3 560 := ⟨by decide +kernel, rfl⟩
theorem dL_560 : Dd mL.2.1 560 (.aload_n 2) 1 561 := ⟨by decide +kernel, rfl⟩
theorem dL_561 : Dd mL.2.1 561 (.aload_n 0) 1 562 := ⟨by decide +kernel, rfl⟩
theorem dL_562 : Dd mL.2.1 562 (.iload_n 3) 1 563 := ⟨by decide +kernel, rfl⟩
theorem dL_563 : Dd mL.2.1 563 (.iconst 1) 1 564 := ⟨by decide +kernel, rfl⟩
theorem dL_564 : Dd mL.2.1 564 (.iadd) 1 565 := ⟨by decide +kernel, rfl⟩
theorem dL_565 : Dd mL.2.1 565 (.iaload) 1 566 := ⟨by decide +kernel, rfl⟩
theorem dL_566 : Dd mL.2.1 566 (.invokevirtual 87) 3 569 := ⟨by decide +kernel, rfl⟩
theorem dL_569 : Dd mL.2.1 569 (.if_icmp .eq 286) 3 572 := ⟨by decide +kernel, rfl⟩
theorem dL_572 : Dd mL.2.1 572 (.iconst 0) 1 573 := ⟨by decide +kernel, rfl⟩
theorem dL_573 : Dd mL.2.1 573 (.ireturn) 1 574 := ⟨by decide +kernel, rfl⟩
theorem dL_574 : Dd mL.2.1 574 (.aload_n 1) 1 575 := ⟨by decide +kernel, rfl⟩
theorem dL_575 : Dd mL.2.1 575 (.aload_n 0) 1 576 := ⟨by decide +kernel, rfl⟩
theorem dL_576 : Dd mL.2.1 576 (.iload_n 3) 1 577 := ⟨by decide +kernel, rfl⟩
theorem dL_577 : Dd mL.2.1 577 (.iconst 1) 1 578 := ⟨by decide +kernel, rfl⟩
theorem dL_578 : Dd mL.2.1 578 (.iadd) 1 579 := ⟨by decide +kernel, rfl⟩
theorem dL_579 : Dd mL.2.1 579 (.iaload) 1 580 := ⟨by decide +kernel, rfl⟩
theorem dL_580 : Dd mL.2.1 580 (.invokevirtual 88) 3 583 := ⟨by decide +kernel, rfl⟩
theorem dL_583 : Dd mL.2.1 583 (.aload_n 2) 1 584 := ⟨by decide +kernel, rfl⟩
theorem dL_584 : Dd mL.2.1 584 (.aload_n 0) 1 585 := ⟨by decide +kernel, rfl⟩
theorem dL_585 : Dd mL.2.1 585 (.iload_n 3) 1 586 := ⟨by decide +kernel, rfl⟩
theorem dL_586 : Dd mL.2.1 586 (.iconst 1) 1 587 := ⟨by decide +kernel, rfl⟩
theorem dL_587 : Dd mL.2.1 587 (.iadd) 1 588 := ⟨by decide +kernel, rfl⟩
theorem dL_588 : Dd mL.2.1 588 (.iaload) 1 589 := ⟨by decide +kernel, rfl⟩
theorem dL_589 : Dd mL.2.1 589 (.invokevirtual 91) 3 592 := ⟨by decide +kernel, rfl⟩
theorem dL_592 : Dd mL.2.1 592 (.if_icmp .eq 263) 3 595 := ⟨by decide +kernel, rfl⟩
theorem dL_595 : Dd mL.2.1 595 (.iconst 0) 1 596 := ⟨by decide +kernel, rfl⟩
theorem dL_596 : Dd mL.2.1 596 (.ireturn) 1 597 := ⟨by decide +kernel, rfl⟩
theorem dL_597 : Dd mL.2.1 597 (.aload_n 1) 1 598 := ⟨by decide +kernel, rfl⟩
theorem dL_598 : Dd mL.2.1 598 (.aload_n 0) 1 599 := ⟨by decide +kernel, rfl⟩
theorem dL_599 : Dd mL.2.1 599 (.iload_n 3) 1 600 := ⟨by decide +kernel, rfl⟩
theorem dL_600 : Dd mL.2.1 600 (.iconst 1) 1 601 := ⟨by decide +kernel, rfl⟩
theorem dL_601 : Dd mL.2.1 601 (.iadd) 1 602 := ⟨by decide +kernel, rfl⟩
theorem dL_602 : Dd mL.2.1 602 (.iaload) 1 603 := ⟨by decide +kernel, rfl⟩
theorem dL_603 : Dd mL.2.1 603 (.invokevirtual 92) 3 606 := ⟨by decide +kernel, rfl⟩
theorem dL_606 : Dd mL.2.1 606 (.aload_n 2) 1 607 := ⟨by decide +kernel, rfl⟩
theorem dL_607 : Dd mL.2.1 607 (.aload_n 0) 1 608 := ⟨by decide +kernel, rfl⟩
theorem dL_608 : Dd mL.2.1 608 (.iload_n 3) 1 609 := ⟨by decide +kernel, rfl⟩
theorem dL_609 : Dd mL.2.1 609 (.iconst 1) 1 610 := ⟨by decide +kernel, rfl⟩
theorem dL_610 : Dd mL.2.1 610 (.iadd) 1 611 := ⟨by decide +kernel, rfl⟩
theorem dL_611 : Dd mL.2.1 611 (.iaload) 1 612 := ⟨by decide +kernel, rfl⟩
theorem dL_612 : Dd mL.2.1 612 (.invokevirtual 95) 3 615 := ⟨by decide +kernel, rfl⟩
theorem dL_615 : Dd mL.2.1 615 (.if_icmp .eq 240) 3 618 := ⟨by decide +kernel, rfl⟩
theorem dL_618 : Dd mL.2.1 618 (.iconst 0) 1 619 := ⟨by decide +kernel, rfl⟩
theorem dL_619 : Dd mL.2.1 619 (.ireturn) 1 620 := ⟨by decide +kernel, rfl⟩
theorem dL_620 : Dd mL.2.1 620 (.aload_n 1) 1 621 := ⟨by decide +kernel, rfl⟩
theorem dL_621 : Dd mL.2.1 621 (.aload_n 0) 1 622 := ⟨by decide +kernel, rfl⟩
theorem dL_622 : Dd mL.2.1 622 (.iload_n 3) 1 623 := ⟨by decide +kernel, rfl⟩
theorem dL_623 : Dd mL.2.1 623 (.iconst 1) 1 624 := ⟨by decide +kernel, rfl⟩
theorem dL_624 : Dd mL.2.1 624 (.iadd) 1 625 := ⟨by decide +kernel, rfl⟩
theorem dL_625 : Dd mL.2.1 625 (.iaload) 1 626 := ⟨by decide +kernel, rfl⟩
theorem dL_626 : Dd mL.2.1 626 (.aload_n 0) 1 627 := ⟨by decide +kernel, rfl⟩
theorem dL_627 : Dd mL.2.1 627 (.iload_n 3) 1 628 := ⟨by decide +kernel, rfl⟩
theorem dL_628 : Dd mL.2.1 628 (.iconst 2) 1 629 := ⟨by decide +kernel, rfl⟩
theorem dL_629 : Dd mL.2.1 629 (.iadd) 1 630 := ⟨by decide +kernel, rfl⟩
theorem dL_630 : Dd mL.2.1 630 (.iaload) 1 631 := ⟨by decide +kernel, rfl⟩
theorem dL_631 : Dd mL.2.1 631 (.aload_n 0) 1 632 := ⟨by decide +kernel, rfl⟩
theorem dL_632 : Dd mL.2.1 632 (.iload_n 3) 1 633 := ⟨by decide +kernel, rfl⟩
theorem dL_633 : Dd mL.2.1 633 (.iconst 3) 1 634 := ⟨by decide +kernel, rfl⟩
theorem dL_634 : Dd mL.2.1 634 (.iadd) 1 635 := ⟨by decide +kernel, rfl⟩
theorem dL_635 : Dd mL.2.1 635 (.iaload) 1 636 := ⟨by decide +kernel, rfl⟩
theorem dL_636 : Dd mL.2.1 636 (.invokevirtual 96) 3 639 := ⟨by decide +kernel, rfl⟩
theorem dL_639 : Dd mL.2.1 639 (.aload_n 2) 1 640 := ⟨by decide +kernel, rfl⟩
theorem dL_640 : Dd mL.2.1 640 (.aload_n 0) 1 641 := ⟨by decide +kernel, rfl⟩
theorem dL_641 : Dd mL.2.1 641 (.iload_n 3) 1 642 := ⟨by decide +kernel, rfl⟩
theorem dL_642 : Dd mL.2.1 642 (.iconst 1) 1 643 := ⟨by decide +kernel, rfl⟩
theorem dL_643 : Dd mL.2.1 643 (.iadd) 1 644 := ⟨by decide +kernel, rfl⟩
theorem dL_644 : Dd mL.2.1 644 (.iaload) 1 645 := ⟨by decide +kernel, rfl⟩
theorem dL_645 : Dd mL.2.1 645 (.aload_n 0) 1 646 := ⟨by decide +kernel, rfl⟩
theorem dL_646 : Dd mL.2.1 646 (.iload_n 3) 1 647 := ⟨by decide +kernel, rfl⟩
theorem dL_647 : Dd mL.2.1 647 (.iconst 2) 1 648 := ⟨by decide +kernel, rfl⟩
theorem dL_648 : Dd mL.2.1 648 (.iadd) 1 649 := ⟨by decide +kernel, rfl⟩
theorem dL_649 : Dd mL.2.1 649 (.iaload) 1 650 := ⟨by decide +kernel, rfl⟩
theorem dL_650 : Dd mL.2.1 650 (.aload_n 0) 1 651 := ⟨by decide +kernel, rfl⟩
theorem dL_651 : Dd mL.2.1 651 (.iload_n 3) 1 652 := ⟨by decide +kernel, rfl⟩
theorem dL_652 : Dd mL.2.1 652 (.iconst 3) 1 653 := ⟨by decide +kernel, rfl⟩
theorem dL_653 : Dd mL.2.1 653 (.iadd) 1 654 := ⟨by decide +kernel, rfl⟩
theorem dL_654 : Dd mL.2.1 654 (.iaload) 1 655 := ⟨by decide +kernel, rfl⟩
theorem dL_655 : Dd mL.2.1 655 (.invokevirtual 100) 3 658 := ⟨by decide +kernel, rfl⟩
theorem dL_658 : Dd mL.2.1 658 (.if_icmp .eq 197) 3 661 := ⟨by decide +kernel, rfl⟩
theorem dL_661 : Dd mL.2.1 661 (.iconst 0) 1 662 := ⟨by decide +kernel, rfl⟩
theorem dL_662 : Dd mL.2.1 662 (.ireturn) 1 663 := ⟨by decide +kernel, rfl⟩
theorem dL_663 : Dd mL.2.1 663 (.aload_n 1) 1 664 := ⟨by decide +kernel, rfl⟩
theorem dL_664 : Dd mL.2.1 664 (.aload_n 0) 1 665 := ⟨by decide +kernel, rfl⟩
theorem dL_665 : Dd mL.2.1 665 (.iload_n 3) 1 666 := ⟨by decide +kernel, rfl⟩
theorem dL_666 : Dd mL.2.1 666 (.iconst 1) 1 667 := ⟨by decide +kernel, rfl⟩
theorem dL_667 : Dd mL.2.1 667 (.iadd) 1 668 := ⟨by decide +kernel, rfl⟩
theorem dL_668 : Dd mL.2.1 668 (.iaload) 1 669 := ⟨by decide +kernel, rfl⟩
theorem dL_669 : Dd mL.2.1 669 (.aload_n 0) 1 670 := ⟨by decide +kernel, rfl⟩
theorem dL_670 : Dd mL.2.1 670 (.iload_n 3) 1 671 := ⟨by decide +kernel, rfl⟩
theorem dL_671 : Dd mL.2.1 671 (.iconst 2) 1 672 := ⟨by decide +kernel, rfl⟩
theorem dL_672 : Dd mL.2.1 672 (.iadd) 1 673 := ⟨by decide +kernel, rfl⟩
theorem dL_673 : Dd mL.2.1 673 (.iaload) 1 674 := ⟨by decide +kernel, rfl⟩
theorem dL_674 : Dd mL.2.1 674 (.aload_n 0) 1 675 := ⟨by decide +kernel, rfl⟩
theorem dL_675 : Dd mL.2.1 675 (.iload_n 3) 1 676 := ⟨by decide +kernel, rfl⟩
theorem dL_676 : Dd mL.2.1 676 (.iconst 3) 1 677 := ⟨by decide +kernel, rfl⟩
theorem dL_677 : Dd mL.2.1 677 (.iadd) 1 678 := ⟨by decide +kernel, rfl⟩
theorem dL_678 : Dd mL.2.1 678 (.iaload) 1 679 := ⟨by decide +kernel, rfl⟩
theorem dL_679 : Dd mL.2.1 679 (.aload_n 0) 1 680 := ⟨by decide +kernel, rfl⟩
theorem dL_680 : Dd mL.2.1 680 (.iload_n 3) 1 681 := ⟨by decide +kernel, rfl⟩
theorem dL_681 : Dd mL.2.1 681 (.iconst 4) 1 682 := ⟨by decide +kernel, rfl⟩
theorem dL_682 : Dd mL.2.1 682 (.iadd) 1 683 := ⟨by decide +kernel, rfl⟩
theorem dL_683 : Dd mL.2.1 683 (.iaload) 1 684 := ⟨by decide +kernel, rfl⟩
theorem dL_684 : Dd mL.2.1 684 (.invokevirtual 101) 3 687 := ⟨by decide +kernel, rfl⟩
theorem dL_687 : Dd mL.2.1 687 (.aload_n 2) 1 688 := ⟨by decide +kernel, rfl⟩
theorem dL_688 : Dd mL.2.1 688 (.aload_n 0) 1 689 := ⟨by decide +kernel, rfl⟩
theorem dL_689 : Dd mL.2.1 689 (.iload_n 3) 1 690 := ⟨by decide +kernel, rfl⟩
theorem dL_690 : Dd mL.2.1 690 (.iconst 1) 1 691 := ⟨by decide +kernel, rfl⟩
theorem dL_691 : Dd mL.2.1 691 (.iadd) 1 692 := ⟨by decide +kernel, rfl⟩
theorem dL_692 : Dd mL.2.1 692 (.iaload) 1 693 := ⟨by decide +kernel, rfl⟩
theorem dL_693 : Dd mL.2.1 693 (.aload_n 0) 1 694 := ⟨by decide +kernel, rfl⟩
theorem dL_694 : Dd mL.2.1 694 (.iload_n 3) 1 695 := ⟨by decide +kernel, rfl⟩
theorem dL_695 : Dd mL.2.1 695 (.iconst 2) 1 696 := ⟨by decide +kernel, rfl⟩
theorem dL_696 : Dd mL.2.1 696 (.iadd) 1 697 := ⟨by decide +kernel, rfl⟩
theorem dL_697 : Dd mL.2.1 697 (.iaload) 1 698 := ⟨by decide +kernel, rfl⟩
theorem dL_698 : Dd mL.2.1 698 (.aload_n 0) 1 699 := ⟨by decide +kernel, rfl⟩
theorem dL_699 : Dd mL.2.1 699 (.iload_n 3) 1 700 := ⟨by decide +kernel, rfl⟩
theorem dL_700 : Dd mL.2.1 700 (.iconst 3) 1 701 := ⟨by decide +kernel, rfl⟩
theorem dL_701 : Dd mL.2.1 701 (.iadd) 1 702 := ⟨by decide +kernel, rfl⟩
theorem dL_702 : Dd mL.2.1 702 (.iaload) 1 703 := ⟨by decide +kernel, rfl⟩
theorem dL_703 : Dd mL.2.1 703 (.aload_n 0) 1 704 := ⟨by decide +kernel, rfl⟩
theorem dL_704 : Dd mL.2.1 704 (.iload_n 3) 1 705 := ⟨by decide +kernel, rfl⟩
theorem dL_705 : Dd mL.2.1 705 (.iconst 4) 1 706 := ⟨by decide +kernel, rfl⟩
theorem dL_706 : Dd mL.2.1 706 (.iadd) 1 707 := ⟨by decide +kernel, rfl⟩
theorem dL_707 : Dd mL.2.1 707 (.iaload) 1 708 := ⟨by decide +kernel, rfl⟩
theorem dL_708 : Dd mL.2.1 708 (.invokevirtual 105) 3 711 := ⟨by decide +kernel, rfl⟩
theorem dL_711 : Dd mL.2.1 711 (.lcmp) 1 712 := ⟨by decide +kernel, rfl⟩
theorem dL_712 : Dd mL.2.1 712 (.ifCond .eq 143) 3 715 := ⟨by decide +kernel, rfl⟩
theorem dL_715 : Dd mL.2.1 715 (.iconst 0) 1 716 := ⟨by decide +kernel, rfl⟩
theorem dL_716 : Dd mL.2.1 716 (.ireturn) 1 717 := ⟨by decide +kernel, rfl⟩
theorem dL_717 : Dd mL.2.1 717 (.aload_n 1) 1 718 := ⟨by decide +kernel, rfl⟩
theorem dL_718 : Dd mL.2.1 718 (.aload_n 0) 1 719 := ⟨by decide +kernel, rfl⟩
theorem dL_719 : Dd mL.2.1 719 (.iload_n 3) 1 720 := ⟨by decide +kernel, rfl⟩
theorem dL_720 : Dd mL.2.1 720 (.iconst 1) 1 721 := ⟨by decide +kernel, rfl⟩
theorem dL_721 : Dd mL.2.1 721 (.iadd) 1 722 := ⟨by decide +kernel, rfl⟩
theorem dL_722 : Dd mL.2.1 722 (.iaload) 1 723 := ⟨by decide +kernel, rfl⟩
theorem dL_723 : Dd mL.2.1 723 (.invokevirtual 106) 3 726 := ⟨by decide +kernel, rfl⟩
theorem dL_726 : Dd mL.2.1 726 (.aload_n 2) 1 727 := ⟨by decide +kernel, rfl⟩
theorem dL_727 : Dd mL.2.1 727 (.aload_n 0) 1 728 := ⟨by decide +kernel, rfl⟩
theorem dL_728 : Dd mL.2.1 728 (.iload_n 3) 1 729 := ⟨by decide +kernel, rfl⟩
theorem dL_729 : Dd mL.2.1 729 (.iconst 1) 1 730 := ⟨by decide +kernel, rfl⟩
theorem dL_730 : Dd mL.2.1 730 (.iadd) 1 731 := ⟨by decide +kernel, rfl⟩
theorem dL_731 : Dd mL.2.1 731 (.iaload) 1 732 := ⟨by decide +kernel, rfl⟩
theorem dL_732 : Dd mL.2.1 732 (.invokevirtual 109) 3 735 := ⟨by decide +kernel, rfl⟩
theorem dL_735 : Dd mL.2.1 735 (.if_icmp .eq 120) 3 738 := ⟨by decide +kernel, rfl⟩
theorem dL_738 : Dd mL.2.1 738 (.iconst 0) 1 739 := ⟨by decide +kernel, rfl⟩
theorem dL_739 : Dd mL.2.1 739 (.ireturn) 1 740 := ⟨by decide +kernel, rfl⟩
theorem dL_740 : Dd mL.2.1 740 (.aload_n 1) 1 741 := ⟨by decide +kernel, rfl⟩
theorem dL_741 : Dd mL.2.1 741 (.aload_n 0) 1 742 := ⟨by decide +kernel, rfl⟩
theorem dL_742 : Dd mL.2.1 742 (.iload_n 3) 1 743 := ⟨by decide +kernel, rfl⟩
theorem dL_743 : Dd mL.2.1 743 (.iconst 1) 1 744 := ⟨by decide +kernel, rfl⟩
theorem dL_744 : Dd mL.2.1 744 (.iadd) 1 745 := ⟨by decide +kernel, rfl⟩
theorem dL_745 : Dd mL.2.1 745 (.iaload) 1 746 := ⟨by decide +kernel, rfl⟩
theorem dL_746 : Dd mL.2.1 746 (.invokevirtual 110) 3 749 := ⟨by decide +kernel, rfl⟩
theorem dL_749 : Dd mL.2.1 749 (.aload_n 2) 1 750 := ⟨by decide +kernel, rfl⟩
theorem dL_750 : Dd mL.2.1 750 (.aload_n 0) 1 751 := ⟨by decide +kernel, rfl⟩
theorem dL_751 : Dd mL.2.1 751 (.iload_n 3) 1 752 := ⟨by decide +kernel, rfl⟩
theorem dL_752 : Dd mL.2.1 752 (.iconst 1) 1 753 := ⟨by decide +kernel, rfl⟩
theorem dL_753 : Dd mL.2.1 753 (.iadd) 1 754 := ⟨by decide +kernel, rfl⟩
theorem dL_754 : Dd mL.2.1 754 (.iaload) 1 755 := ⟨by decide +kernel, rfl⟩
theorem dL_755 : Dd mL.2.1 755 (.invokevirtual 113) 3 758 := ⟨by decide +kernel, rfl⟩
theorem dL_758 : Dd mL.2.1 758 (.if_icmp .eq 97) 3 761 := ⟨by decide +kernel, rfl⟩
theorem dL_761 : Dd mL.2.1 761 (.iconst 0) 1 762 := ⟨by decide +kernel, rfl⟩
theorem dL_762 : Dd mL.2.1 762 (.ireturn) 1 763 := ⟨by decide +kernel, rfl⟩
theorem dL_763 : Dd mL.2.1 763 (.aload_n 1) 1 764 := ⟨by decide +kernel, rfl⟩
theorem dL_764 : Dd mL.2.1 764 (.aload_n 0) 1 765 := ⟨by decide +kernel, rfl⟩
theorem dL_765 : Dd mL.2.1 765 (.iload_n 3) 1 766 := ⟨by decide +kernel, rfl⟩
theorem dL_766 : Dd mL.2.1 766 (.iconst 1) 1 767 := ⟨by decide +kernel, rfl⟩
theorem dL_767 : Dd mL.2.1 767 (.iadd) 1 768 := ⟨by decide +kernel, rfl⟩
theorem dL_768 : Dd mL.2.1 768 (.iaload) 1 769 := ⟨by decide +kernel, rfl⟩
theorem dL_769 : Dd mL.2.1 769 (.aload_n 0) 1 770 := ⟨by decide +kernel, rfl⟩
theorem dL_770 : Dd mL.2.1 770 (.iload_n 3) 1 771 := ⟨by decide +kernel, rfl⟩
theorem dL_771 : Dd mL.2.1 771 (.iconst 2) 1 772 := ⟨by decide +kernel, rfl⟩
theorem dL_772 : Dd mL.2.1 772 (.iadd) 1 773 := ⟨by decide +kernel, rfl⟩
theorem dL_773 : Dd mL.2.1 773 (.iaload) 1 774 := ⟨by decide +kernel, rfl⟩
theorem dL_774 : Dd mL.2.1 774 (.aload_n 0) 1 775 := ⟨by decide +kernel, rfl⟩
theorem dL_775 : Dd mL.2.1 775 (.iload_n 3) 1 776 := ⟨by decide +kernel, rfl⟩
theorem dL_776 : Dd mL.2.1 776 (.iconst 3) 1 777 := ⟨by decide +kernel, rfl⟩
theorem dL_777 : Dd mL.2.1 777 (.iadd) 1 778 := ⟨by decide +kernel, rfl⟩
theorem dL_778 : Dd mL.2.1 778 (.iaload) 1 779 := ⟨by decide +kernel, rfl⟩
theorem dL_779 : Dd mL.2.1 779 (.invokevirtual 114) 3 782 := ⟨by decide +kernel, rfl⟩
theorem dL_782 : Dd mL.2.1 782 (.aload_n 2) 1 783 := ⟨by decide +kernel, rfl⟩
theorem dL_783 : Dd mL.2.1 783 (.aload_n 0) 1 784 := ⟨by decide +kernel, rfl⟩
theorem dL_784 : Dd mL.2.1 784 (.iload_n 3) 1 785 := ⟨by decide +kernel, rfl⟩
theorem dL_785 : Dd mL.2.1 785 (.iconst 1) 1 786 := ⟨by decide +kernel, rfl⟩
theorem dL_786 : Dd mL.2.1 786 (.iadd) 1 787 := ⟨by decide +kernel, rfl⟩
theorem dL_787 : Dd mL.2.1 787 (.iaload) 1 788 := ⟨by decide +kernel, rfl⟩
theorem dL_788 : Dd mL.2.1 788 (.aload_n 0) 1 789 := ⟨by decide +kernel, rfl⟩
theorem dL_789 : Dd mL.2.1 789 (.iload_n 3) 1 790 := ⟨by decide +kernel, rfl⟩
theorem dL_790 : Dd mL.2.1 790 (.iconst 2) 1 791 := ⟨by decide +kernel, rfl⟩
theorem dL_791 : Dd mL.2.1 791 (.iadd) 1 792 := ⟨by decide +kernel, rfl⟩
theorem dL_792 : Dd mL.2.1 792 (.iaload) 1 793 := ⟨by decide +kernel, rfl⟩
theorem dL_793 : Dd mL.2.1 793 (.aload_n 0) 1 794 := ⟨by decide +kernel, rfl⟩
theorem dL_794 : Dd mL.2.1 794 (.iload_n 3) 1 795 := ⟨by decide +kernel, rfl⟩
theorem dL_795 : Dd mL.2.1 795 (.iconst 3) 1 796 := ⟨by decide +kernel, rfl⟩
theorem dL_796 : Dd mL.2.1 796 (.iadd) 1 797 := ⟨by decide +kernel, rfl⟩
theorem dL_797 : Dd mL.2.1 797 (.iaload) 1 798 := ⟨by decide +kernel, rfl⟩
theorem dL_798 : Dd mL.2.1 798 (.invokevirtual 117) 3 801 := ⟨by decide +kernel, rfl⟩
theorem dL_801 : Dd mL.2.1 801 (.if_icmp .eq 54) 3 804 := ⟨by decide +kernel, rfl⟩
theorem dL_804 : Dd mL.2.1 804 (.iconst 0) 1 805 := ⟨by decide +kernel, rfl⟩
theorem dL_805 : Dd mL.2.1 805 (.ireturn) 1 806 := ⟨by decide +kernel, rfl⟩
theorem dL_806 : Dd mL.2.1 806 (.aload_n 1) 1 807 := ⟨by decide +kernel, rfl⟩
theorem dL_807 : Dd mL.2.1 807 (.invokevirtual 118) 3 810 := ⟨by decide +kernel, rfl⟩
theorem dL_810 : Dd mL.2.1 810 (.aload_n 2) 1 811 := ⟨by decide +kernel, rfl⟩
theorem dL_811 : Dd mL.2.1 811 (.invokevirtual 121) 3 814 := ⟨by decide +kernel, rfl⟩
theorem dL_814 : Dd mL.2.1 814 (.if_icmp .eq 41) 3 817 := ⟨by decide +kernel, rfl⟩
theorem dL_817 : Dd mL.2.1 817 (.iconst 0) 1 818 := ⟨by decide +kernel, rfl⟩
theorem dL_818 : Dd mL.2.1 818 (.ireturn) 1 819 := ⟨by decide +kernel, rfl⟩
theorem dL_819 : Dd mL.2.1 819 (.aload_n 1) 1 820 := ⟨by decide +kernel, rfl⟩
theorem dL_820 : Dd mL.2.1 820 (.invokevirtual 122) 3 823 := ⟨by decide +kernel, rfl⟩
theorem dL_823 : Dd mL.2.1 823 (.aload_n 2) 1 824 := ⟨by decide +kernel, rfl⟩
theorem dL_824 : Dd mL.2.1 824 (.invokevirtual 125) 3 827 := ⟨by decide +kernel, rfl⟩
theorem dL_827 : Dd mL.2.1 827 (.if_icmp .eq 28) 3 830 := ⟨by decide +kernel, rfl⟩
theorem dL_830 : Dd mL.2.1 830 (.iconst 0) 1 831 := ⟨by decide +kernel, rfl⟩
theorem dL_831 : Dd mL.2.1 831 (.ireturn) 1 832 := ⟨by decide +kernel, rfl⟩
theorem dL_832 : Dd mL.2.1 832 (.aload_n 1) 1 833 := ⟨by decide +kernel, rfl⟩
theorem dL_833 : Dd mL.2.1 833 (.aload_n 0) 1 834 := ⟨by decide +kernel, rfl⟩
theorem dL_834 : Dd mL.2.1 834 (.iload_n 3) 1 835 := ⟨by decide +kernel, rfl⟩
theorem dL_835 : Dd mL.2.1 835 (.iconst 1) 1 836 := ⟨by decide +kernel, rfl⟩
theorem dL_836 : Dd mL.2.1 836 (.iadd) 1 837 := ⟨by decide +kernel, rfl⟩
theorem dL_837 : Dd mL.2.1 837 (.iaload) 1 838 := ⟨by decide +kernel, rfl⟩
theorem dL_838 : Dd mL.2.1 838 (.invokevirtual 126) 3 841 := ⟨by decide +kernel, rfl⟩
theorem dL_841 : Dd mL.2.1 841 (.aload_n 2) 1 842 := ⟨by decide +kernel, rfl⟩
theorem dL_842 : Dd mL.2.1 842 (.aload_n 0) 1 843 := ⟨by decide +kernel, rfl⟩
theorem dL_843 : Dd mL.2.1 843 (.iload_n 3) 1 844 := ⟨by decide +kernel, rfl⟩
theorem dL_844 : Dd mL.2.1 844 (.iconst 1) 1 845 := ⟨by decide +kernel, rfl⟩
theorem dL_845 : Dd mL.2.1 845 (.iadd) 1 846 := ⟨by decide +kernel, rfl⟩
theorem dL_846 : Dd mL.2.1 846 (.iaload) 1 847 := ⟨by decide +kernel, rfl⟩
theorem dL_847 : Dd mL.2.1 847 (.invokevirtual 129) 3 850 := ⟨by decide +kernel, rfl⟩
theorem dL_850 : Dd mL.2.1 850 (.if_icmp .eq 5) 3 853 := ⟨by decide +kernel, rfl⟩
theorem dL_853 : Dd mL.2.1 853 (.iconst 0) 1 854 := ⟨by decide +kernel, rfl⟩
theorem dL_854 : Dd mL.2.1 854 (.ireturn) 1 855 := ⟨by decide +kernel, rfl⟩
theorem dL_855 : Dd mL.2.1 855 (.iinc 3 5) 3 858 := ⟨by decide +kernel, rfl⟩
theorem dL_858 : Dd mL.2.1 858 (.goto (-840)) 3 861 := ⟨by decide +kernel, rfl⟩
theorem dL_861 : Dd mL.2.1 861 (.iconst 1) 1 862 := ⟨by decide +kernel, rfl⟩
theorem dL_862 : Dd mL.2.1 862 (.ireturn) 1 863 := ⟨by decide +kernel, rfl⟩
end
