-- ===== PART A: goes FIRST, ahead of the names: the tables' words, and 'selects' of the private methods out of them =====
/-- a private method of a class that the tables say can be made, by its rows of tables_1 -/
def lw_okq (q : MethodName × Nat) : Prop := (q.1.cls ≠ "java/lang/invoke/MethodHandle" ∧ q.1.cls ≠ "java/lang/invoke/VarHandle") ∧ Cond.instantiable q.1.cls q.2 ∈ tables_1 ∧ Cond.privateMethod q.1 ∈ tables_1 ∧ Cond.instanceMethod q.1 ∈ tables_1
theorem lw_p0 : lw_okq (⟨"TurntableHouse", "changeLength", "(II)I"⟩, 5) := ⟨⟨by decide +kernel, by decide +kernel⟩, List.mem_of_getElem? (i := 12) (by decide +kernel), List.mem_of_getElem? (i := 94) (by decide +kernel), List.mem_of_getElem? (i := 95) (by decide +kernel)⟩
theorem lw_p1 : lw_okq (⟨"TurntableHouse", "houseChanges", "()V"⟩, 5) := ⟨⟨by decide +kernel, by decide +kernel⟩, List.mem_of_getElem? (i := 12) (by decide +kernel), List.mem_of_getElem? (i := 106) (by decide +kernel), List.mem_of_getElem? (i := 107) (by decide +kernel)⟩
theorem lw_p2 : lw_okq (⟨"TurntableHouse", "placeError", "(I)I"⟩, 5) := ⟨⟨by decide +kernel, by decide +kernel⟩, List.mem_of_getElem? (i := 12) (by decide +kernel), List.mem_of_getElem? (i := 206) (by decide +kernel), List.mem_of_getElem? (i := 207) (by decide +kernel)⟩
theorem lw_p3 : lw_okq (⟨"TurntableHouse", "moveIfPossible", "(II)I"⟩, 5) := ⟨⟨by decide +kernel, by decide +kernel⟩, List.mem_of_getElem? (i := 12) (by decide +kernel), List.mem_of_getElem? (i := 267) (by decide +kernel), List.mem_of_getElem? (i := 268) (by decide +kernel)⟩
theorem lw_p4 : lw_okq (⟨"TurntableHouse", "planError", "(II)I"⟩, 5) := ⟨⟨by decide +kernel, by decide +kernel⟩, List.mem_of_getElem? (i := 12) (by decide +kernel), List.mem_of_getElem? (i := 311) (by decide +kernel), List.mem_of_getElem? (i := 312) (by decide +kernel)⟩
theorem lw_p5 : lw_okq (⟨"TurntableHouse", "readyPlanner", "()LTurntableHouse$Planner;"⟩, 5) := ⟨⟨by decide +kernel, by decide +kernel⟩, List.mem_of_getElem? (i := 12) (by decide +kernel), List.mem_of_getElem? (i := 319) (by decide +kernel), List.mem_of_getElem? (i := 320) (by decide +kernel)⟩
theorem lw_p6 : lw_okq (⟨"TurntableHouse$Planner", "listPlaces", "()V"⟩, 13) := ⟨⟨by decide +kernel, by decide +kernel⟩, List.mem_of_getElem? (i := 323) (by decide +kernel), List.mem_of_getElem? (i := 398) (by decide +kernel), List.mem_of_getElem? (i := 399) (by decide +kernel)⟩
theorem lw_p7 : lw_okq (⟨"TurntableHouse$Planner", "waysToPut", "(I)I"⟩, 13) := ⟨⟨by decide +kernel, by decide +kernel⟩, List.mem_of_getElem? (i := 323) (by decide +kernel), List.mem_of_getElem? (i := 403) (by decide +kernel), List.mem_of_getElem? (i := 404) (by decide +kernel)⟩
theorem lw_p8 : lw_okq (⟨"TurntableHouse$Planner", "addGoals", "()V"⟩, 13) := ⟨⟨by decide +kernel, by decide +kernel⟩, List.mem_of_getElem? (i := 323) (by decide +kernel), List.mem_of_getElem? (i := 418) (by decide +kernel), List.mem_of_getElem? (i := 419) (by decide +kernel)⟩
theorem lw_p9 : lw_okq (⟨"TurntableHouse$Planner", "showRows", "(I)V"⟩, 13) := ⟨⟨by decide +kernel, by decide +kernel⟩, List.mem_of_getElem? (i := 323) (by decide +kernel), List.mem_of_getElem? (i := 422) (by decide +kernel), List.mem_of_getElem? (i := 423) (by decide +kernel)⟩
theorem lw_p10 : lw_okq (⟨"TurntableHouse$Planner", "putIntoLine", "(II)V"⟩, 13) := ⟨⟨by decide +kernel, by decide +kernel⟩, List.mem_of_getElem? (i := 323) (by decide +kernel), List.mem_of_getElem? (i := 431) (by decide +kernel), List.mem_of_getElem? (i := 432) (by decide +kernel)⟩
theorem lw_p11 : lw_okq (⟨"TurntableHouse$Planner", "improve", "(IILTurntableHouse$StateQueue;)V"⟩, 13) := ⟨⟨by decide +kernel, by decide +kernel⟩, List.mem_of_getElem? (i := 323) (by decide +kernel), List.mem_of_getElem? (i := 442) (by decide +kernel), List.mem_of_getElem? (i := 443) (by decide +kernel)⟩
theorem lw_p12 : lw_okq (⟨"TurntableHouse$Planner", "stateOf", "(LTurntableHouse$Yard;)I"⟩, 13) := ⟨⟨by decide +kernel, by decide +kernel⟩, List.mem_of_getElem? (i := 323) (by decide +kernel), List.mem_of_getElem? (i := 454) (by decide +kernel), List.mem_of_getElem? (i := 455) (by decide +kernel)⟩
theorem lw_p13 : lw_okq (⟨"TurntableHouse$Planner", "nearerQueue", "()LTurntableHouse$StateQueue;"⟩, 13) := ⟨⟨by decide +kernel, by decide +kernel⟩, List.mem_of_getElem? (i := 323) (by decide +kernel), List.mem_of_getElem? (i := 467) (by decide +kernel), List.mem_of_getElem? (i := 468) (by decide +kernel)⟩
theorem lw_p14 : lw_okq (⟨"TurntableHouse$Planner", "costOf", "(I)I"⟩, 13) := ⟨⟨by decide +kernel, by decide +kernel⟩, List.mem_of_getElem? (i := 323) (by decide +kernel), List.mem_of_getElem? (i := 475) (by decide +kernel), List.mem_of_getElem? (i := 476) (by decide +kernel)⟩
theorem lw_p15 : lw_okq (⟨"TurntableHouse$Planner", "listNeighbours", "(I)V"⟩, 13) := ⟨⟨by decide +kernel, by decide +kernel⟩, List.mem_of_getElem? (i := 323) (by decide +kernel), List.mem_of_getElem? (i := 484) (by decide +kernel), List.mem_of_getElem? (i := 485) (by decide +kernel)⟩
def lw_privs_1 : List (MethodName × Nat) := [(⟨"TurntableHouse", "changeLength", "(II)I"⟩, 5), (⟨"TurntableHouse", "houseChanges", "()V"⟩, 5), (⟨"TurntableHouse", "placeError", "(I)I"⟩, 5), (⟨"TurntableHouse", "moveIfPossible", "(II)I"⟩, 5), (⟨"TurntableHouse", "planError", "(II)I"⟩, 5), (⟨"TurntableHouse", "readyPlanner", "()LTurntableHouse$Planner;"⟩, 5), (⟨"TurntableHouse$Planner", "listPlaces", "()V"⟩, 13), (⟨"TurntableHouse$Planner", "waysToPut", "(I)I"⟩, 13), (⟨"TurntableHouse$Planner", "addGoals", "()V"⟩, 13), (⟨"TurntableHouse$Planner", "showRows", "(I)V"⟩, 13), (⟨"TurntableHouse$Planner", "putIntoLine", "(II)V"⟩, 13), (⟨"TurntableHouse$Planner", "improve", "(IILTurntableHouse$StateQueue;)V"⟩, 13), (⟨"TurntableHouse$Planner", "stateOf", "(LTurntableHouse$Yard;)I"⟩, 13), (⟨"TurntableHouse$Planner", "nearerQueue", "()LTurntableHouse$StateQueue;"⟩, 13), (⟨"TurntableHouse$Planner", "costOf", "(I)I"⟩, 13), (⟨"TurntableHouse$Planner", "listNeighbours", "(I)V"⟩, 13)]
theorem lw_r1 : ∀ q ∈ lw_privs_1, lw_okq q := List.forall_mem_cons.mpr ⟨lw_p0, List.forall_mem_cons.mpr ⟨lw_p1, List.forall_mem_cons.mpr ⟨lw_p2, List.forall_mem_cons.mpr ⟨lw_p3, List.forall_mem_cons.mpr ⟨lw_p4, List.forall_mem_cons.mpr ⟨lw_p5, List.forall_mem_cons.mpr ⟨lw_p6, List.forall_mem_cons.mpr ⟨lw_p7, List.forall_mem_cons.mpr ⟨lw_p8, List.forall_mem_cons.mpr ⟨lw_p9, List.forall_mem_cons.mpr ⟨lw_p10, List.forall_mem_cons.mpr ⟨lw_p11, List.forall_mem_cons.mpr ⟨lw_p12, List.forall_mem_cons.mpr ⟨lw_p13, List.forall_mem_cons.mpr ⟨lw_p14, List.forall_mem_cons.mpr ⟨lw_p15, fun _ h => absurd h List.not_mem_nil⟩⟩⟩⟩⟩⟩⟩⟩⟩⟩⟩⟩⟩⟩⟩⟩
theorem lw_p16 : lw_okq (⟨"TurntableHouse$Planner", "addNeighbour", "(II)V"⟩, 13) := ⟨⟨by decide +kernel, by decide +kernel⟩, List.mem_of_getElem? (i := 323) (by decide +kernel), List.mem_of_getElem? (i := 491) (by decide +kernel), List.mem_of_getElem? (i := 492) (by decide +kernel)⟩
theorem lw_p17 : lw_okq (⟨"TurntableHouse$Planner", "addMovements", "(I)V"⟩, 13) := ⟨⟨by decide +kernel, by decide +kernel⟩, List.mem_of_getElem? (i := 323) (by decide +kernel), List.mem_of_getElem? (i := 496) (by decide +kernel), List.mem_of_getElem? (i := 497) (by decide +kernel)⟩
theorem lw_p18 : lw_okq (⟨"TurntableHouse$Planner", "improveNeighbours", "(I)V"⟩, 13) := ⟨⟨by decide +kernel, by decide +kernel⟩, List.mem_of_getElem? (i := 323) (by decide +kernel), List.mem_of_getElem? (i := 504) (by decide +kernel), List.mem_of_getElem? (i := 505) (by decide +kernel)⟩
theorem lw_p19 : lw_okq (⟨"TurntableHouse$Planner", "firstOnBestPlan", "(I)I"⟩, 13) := ⟨⟨by decide +kernel, by decide +kernel⟩, List.mem_of_getElem? (i := 323) (by decide +kernel), List.mem_of_getElem? (i := 520) (by decide +kernel), List.mem_of_getElem? (i := 521) (by decide +kernel)⟩
theorem lw_p20 : lw_okq (⟨"TurntableHouseModel", "used", "(I)I"⟩, 32) := ⟨⟨by decide +kernel, by decide +kernel⟩, List.mem_of_getElem? (i := 536) (by decide +kernel), List.mem_of_getElem? (i := 650) (by decide +kernel), List.mem_of_getElem? (i := 651) (by decide +kernel)⟩
theorem lw_p21 : lw_okq (⟨"TurntableHouseModel", "cell", "(II)I"⟩, 32) := ⟨⟨by decide +kernel, by decide +kernel⟩, List.mem_of_getElem? (i := 536) (by decide +kernel), List.mem_of_getElem? (i := 654) (by decide +kernel), List.mem_of_getElem? (i := 655) (by decide +kernel)⟩
theorem lw_p22 : lw_okq (⟨"TurntableHouseModel", "change", "()V"⟩, 32) := ⟨⟨by decide +kernel, by decide +kernel⟩, List.mem_of_getElem? (i := 536) (by decide +kernel), List.mem_of_getElem? (i := 658) (by decide +kernel), List.mem_of_getElem? (i := 659) (by decide +kernel)⟩
theorem lw_p23 : lw_okq (⟨"TurntableHouseModel", "isTrack", "(I)Z"⟩, 32) := ⟨⟨by decide +kernel, by decide +kernel⟩, List.mem_of_getElem? (i := 536) (by decide +kernel), List.mem_of_getElem? (i := 670) (by decide +kernel), List.mem_of_getElem? (i := 671) (by decide +kernel)⟩
theorem lw_p24 : lw_okq (⟨"TurntableHouseModel", "insert", "(III)V"⟩, 32) := ⟨⟨by decide +kernel, by decide +kernel⟩, List.mem_of_getElem? (i := 536) (by decide +kernel), List.mem_of_getElem? (i := 674) (by decide +kernel), List.mem_of_getElem? (i := 675) (by decide +kernel)⟩
theorem lw_p25 : lw_okq (⟨"TurntableHouseModel", "placeOf", "(I)I"⟩, 32) := ⟨⟨by decide +kernel, by decide +kernel⟩, List.mem_of_getElem? (i := 536) (by decide +kernel), List.mem_of_getElem? (i := 682) (by decide +kernel), List.mem_of_getElem? (i := 683) (by decide +kernel)⟩
theorem lw_p26 : lw_okq (⟨"TurntableHouseModel", "take", "(II)I"⟩, 32) := ⟨⟨by decide +kernel, by decide +kernel⟩, List.mem_of_getElem? (i := 536) (by decide +kernel), List.mem_of_getElem? (i := 686) (by decide +kernel), List.mem_of_getElem? (i := 687) (by decide +kernel)⟩
theorem lw_p27 : lw_okq (⟨"TurntableHouseModel", "isLocomotive", "(I)Z"⟩, 32) := ⟨⟨by decide +kernel, by decide +kernel⟩, List.mem_of_getElem? (i := 536) (by decide +kernel), List.mem_of_getElem? (i := 694) (by decide +kernel), List.mem_of_getElem? (i := 695) (by decide +kernel)⟩
theorem lw_p28 : lw_okq (⟨"TurntableHouseModel", "pointed", "(I)I"⟩, 32) := ⟨⟨by decide +kernel, by decide +kernel⟩, List.mem_of_getElem? (i := 536) (by decide +kernel), List.mem_of_getElem? (i := 725) (by decide +kernel), List.mem_of_getElem? (i := 726) (by decide +kernel)⟩
theorem lw_p29 : lw_okq (⟨"TurntableHouseModel", "turnBy", "(I)V"⟩, 32) := ⟨⟨by decide +kernel, by decide +kernel⟩, List.mem_of_getElem? (i := 536) (by decide +kernel), List.mem_of_getElem? (i := 733) (by decide +kernel), List.mem_of_getElem? (i := 734) (by decide +kernel)⟩
theorem lw_p30 : lw_okq (⟨"TurntableHouseModel", "write", "(I)V"⟩, 32) := ⟨⟨by decide +kernel, by decide +kernel⟩, List.mem_of_getElem? (i := 536) (by decide +kernel), List.mem_of_getElem? (i := 737) (by decide +kernel), List.mem_of_getElem? (i := 738) (by decide +kernel)⟩
theorem lw_p31 : lw_okq (⟨"TurntableHouseModel", "wrongMove", "(IIII)I"⟩, 32) := ⟨⟨by decide +kernel, by decide +kernel⟩, List.mem_of_getElem? (i := 536) (by decide +kernel), List.mem_of_getElem? (i := 745) (by decide +kernel), List.mem_of_getElem? (i := 746) (by decide +kernel)⟩
def lw_privs_2 : List (MethodName × Nat) := [(⟨"TurntableHouse$Planner", "addNeighbour", "(II)V"⟩, 13), (⟨"TurntableHouse$Planner", "addMovements", "(I)V"⟩, 13), (⟨"TurntableHouse$Planner", "improveNeighbours", "(I)V"⟩, 13), (⟨"TurntableHouse$Planner", "firstOnBestPlan", "(I)I"⟩, 13), (⟨"TurntableHouseModel", "used", "(I)I"⟩, 32), (⟨"TurntableHouseModel", "cell", "(II)I"⟩, 32), (⟨"TurntableHouseModel", "change", "()V"⟩, 32), (⟨"TurntableHouseModel", "isTrack", "(I)Z"⟩, 32), (⟨"TurntableHouseModel", "insert", "(III)V"⟩, 32), (⟨"TurntableHouseModel", "placeOf", "(I)I"⟩, 32), (⟨"TurntableHouseModel", "take", "(II)I"⟩, 32), (⟨"TurntableHouseModel", "isLocomotive", "(I)Z"⟩, 32), (⟨"TurntableHouseModel", "pointed", "(I)I"⟩, 32), (⟨"TurntableHouseModel", "turnBy", "(I)V"⟩, 32), (⟨"TurntableHouseModel", "write", "(I)V"⟩, 32), (⟨"TurntableHouseModel", "wrongMove", "(IIII)I"⟩, 32)]
theorem lw_r2 : ∀ q ∈ lw_privs_2, lw_okq q := List.forall_mem_cons.mpr ⟨lw_p16, List.forall_mem_cons.mpr ⟨lw_p17, List.forall_mem_cons.mpr ⟨lw_p18, List.forall_mem_cons.mpr ⟨lw_p19, List.forall_mem_cons.mpr ⟨lw_p20, List.forall_mem_cons.mpr ⟨lw_p21, List.forall_mem_cons.mpr ⟨lw_p22, List.forall_mem_cons.mpr ⟨lw_p23, List.forall_mem_cons.mpr ⟨lw_p24, List.forall_mem_cons.mpr ⟨lw_p25, List.forall_mem_cons.mpr ⟨lw_p26, List.forall_mem_cons.mpr ⟨lw_p27, List.forall_mem_cons.mpr ⟨lw_p28, List.forall_mem_cons.mpr ⟨lw_p29, List.forall_mem_cons.mpr ⟨lw_p30, List.forall_mem_cons.mpr ⟨lw_p31, fun _ h => absurd h List.not_mem_nil⟩⟩⟩⟩⟩⟩⟩⟩⟩⟩⟩⟩⟩⟩⟩⟩
theorem lw_p32 : lw_okq (⟨"TurntableHouseModel", "goIn", "(II)V"⟩, 32) := ⟨⟨by decide +kernel, by decide +kernel⟩, List.mem_of_getElem? (i := 536) (by decide +kernel), List.mem_of_getElem? (i := 749) (by decide +kernel), List.mem_of_getElem? (i := 750) (by decide +kernel)⟩
theorem lw_p33 : lw_okq (⟨"TurntableHouseModel", "goOut", "(II)V"⟩, 32) := ⟨⟨by decide +kernel, by decide +kernel⟩, List.mem_of_getElem? (i := 536) (by decide +kernel), List.mem_of_getElem? (i := 757) (by decide +kernel), List.mem_of_getElem? (i := 758) (by decide +kernel)⟩
theorem lw_p34 : lw_okq (⟨"TurntableHouseModel", "wrongPlan", "(II)I"⟩, 32) := ⟨⟨by decide +kernel, by decide +kernel⟩, List.mem_of_getElem? (i := 536) (by decide +kernel), List.mem_of_getElem? (i := 777) (by decide +kernel), List.mem_of_getElem? (i := 778) (by decide +kernel)⟩
theorem lw_p35 : lw_okq (⟨"TurntableHouseModel", "layRows", "()V"⟩, 32) := ⟨⟨by decide +kernel, by decide +kernel⟩, List.mem_of_getElem? (i := 536) (by decide +kernel), List.mem_of_getElem? (i := 781) (by decide +kernel), List.mem_of_getElem? (i := 782) (by decide +kernel)⟩
theorem lw_p36 : lw_okq (⟨"TurntableHouseModel", "layAll", "(II)V"⟩, 32) := ⟨⟨by decide +kernel, by decide +kernel⟩, List.mem_of_getElem? (i := 536) (by decide +kernel), List.mem_of_getElem? (i := 785) (by decide +kernel), List.mem_of_getElem? (i := 786) (by decide +kernel)⟩
theorem lw_p37 : lw_okq (⟨"TurntableHouseModel", "layOrders", "(I)V"⟩, 32) := ⟨⟨by decide +kernel, by decide +kernel⟩, List.mem_of_getElem? (i := 536) (by decide +kernel), List.mem_of_getElem? (i := 789) (by decide +kernel), List.mem_of_getElem? (i := 790) (by decide +kernel)⟩
theorem lw_p38 : lw_okq (⟨"TurntableHouseModel", "layWays", "(I)V"⟩, 32) := ⟨⟨by decide +kernel, by decide +kernel⟩, List.mem_of_getElem? (i := 536) (by decide +kernel), List.mem_of_getElem? (i := 793) (by decide +kernel), List.mem_of_getElem? (i := 794) (by decide +kernel)⟩
theorem lw_p39 : lw_okq (⟨"TurntableHouseModel", "layGoals", "(II)V"⟩, 32) := ⟨⟨by decide +kernel, by decide +kernel⟩, List.mem_of_getElem? (i := 536) (by decide +kernel), List.mem_of_getElem? (i := 797) (by decide +kernel), List.mem_of_getElem? (i := 798) (by decide +kernel)⟩
theorem lw_p40 : lw_okq (⟨"TurntableHouseModel", "layOut", "(I)V"⟩, 32) := ⟨⟨by decide +kernel, by decide +kernel⟩, List.mem_of_getElem? (i := 536) (by decide +kernel), List.mem_of_getElem? (i := 801) (by decide +kernel), List.mem_of_getElem? (i := 802) (by decide +kernel)⟩
theorem lw_p41 : lw_okq (⟨"TurntableHouseModel", "canBe", "()Z"⟩, 32) := ⟨⟨by decide +kernel, by decide +kernel⟩, List.mem_of_getElem? (i := 536) (by decide +kernel), List.mem_of_getElem? (i := 805) (by decide +kernel), List.mem_of_getElem? (i := 806) (by decide +kernel)⟩
theorem lw_p42 : lw_okq (⟨"TurntableHouseModel", "sum", "(III)I"⟩, 32) := ⟨⟨by decide +kernel, by decide +kernel⟩, List.mem_of_getElem? (i := 536) (by decide +kernel), List.mem_of_getElem? (i := 809) (by decide +kernel), List.mem_of_getElem? (i := 810) (by decide +kernel)⟩
theorem lw_p43 : lw_okq (⟨"TurntableHouseModel", "isGoal", "(II)Z"⟩, 32) := ⟨⟨by decide +kernel, by decide +kernel⟩, List.mem_of_getElem? (i := 536) (by decide +kernel), List.mem_of_getElem? (i := 813) (by decide +kernel), List.mem_of_getElem? (i := 814) (by decide +kernel)⟩
theorem lw_p44 : lw_okq (⟨"TurntableHouseModel", "addTurned", "(III)V"⟩, 32) := ⟨⟨by decide +kernel, by decide +kernel⟩, List.mem_of_getElem? (i := 536) (by decide +kernel), List.mem_of_getElem? (i := 817) (by decide +kernel), List.mem_of_getElem? (i := 818) (by decide +kernel)⟩
theorem lw_p45 : lw_okq (⟨"TurntableHouseModel", "finishLevel", "(I)V"⟩, 32) := ⟨⟨by decide +kernel, by decide +kernel⟩, List.mem_of_getElem? (i := 536) (by decide +kernel), List.mem_of_getElem? (i := 821) (by decide +kernel), List.mem_of_getElem? (i := 822) (by decide +kernel)⟩
theorem lw_p46 : lw_okq (⟨"TurntableHouseModel", "finishOne", "(III)V"⟩, 32) := ⟨⟨by decide +kernel, by decide +kernel⟩, List.mem_of_getElem? (i := 536) (by decide +kernel), List.mem_of_getElem? (i := 825) (by decide +kernel), List.mem_of_getElem? (i := 826) (by decide +kernel)⟩
theorem lw_p47 : lw_okq (⟨"TurntableHouseModel", "behind", "(II)I"⟩, 32) := ⟨⟨by decide +kernel, by decide +kernel⟩, List.mem_of_getElem? (i := 536) (by decide +kernel), List.mem_of_getElem? (i := 829) (by decide +kernel), List.mem_of_getElem? (i := 830) (by decide +kernel)⟩
def lw_privs_3 : List (MethodName × Nat) := [(⟨"TurntableHouseModel", "goIn", "(II)V"⟩, 32), (⟨"TurntableHouseModel", "goOut", "(II)V"⟩, 32), (⟨"TurntableHouseModel", "wrongPlan", "(II)I"⟩, 32), (⟨"TurntableHouseModel", "layRows", "()V"⟩, 32), (⟨"TurntableHouseModel", "layAll", "(II)V"⟩, 32), (⟨"TurntableHouseModel", "layOrders", "(I)V"⟩, 32), (⟨"TurntableHouseModel", "layWays", "(I)V"⟩, 32), (⟨"TurntableHouseModel", "layGoals", "(II)V"⟩, 32), (⟨"TurntableHouseModel", "layOut", "(I)V"⟩, 32), (⟨"TurntableHouseModel", "canBe", "()Z"⟩, 32), (⟨"TurntableHouseModel", "sum", "(III)I"⟩, 32), (⟨"TurntableHouseModel", "isGoal", "(II)Z"⟩, 32), (⟨"TurntableHouseModel", "addTurned", "(III)V"⟩, 32), (⟨"TurntableHouseModel", "finishLevel", "(I)V"⟩, 32), (⟨"TurntableHouseModel", "finishOne", "(III)V"⟩, 32), (⟨"TurntableHouseModel", "behind", "(II)I"⟩, 32)]
theorem lw_r3 : ∀ q ∈ lw_privs_3, lw_okq q := List.forall_mem_cons.mpr ⟨lw_p32, List.forall_mem_cons.mpr ⟨lw_p33, List.forall_mem_cons.mpr ⟨lw_p34, List.forall_mem_cons.mpr ⟨lw_p35, List.forall_mem_cons.mpr ⟨lw_p36, List.forall_mem_cons.mpr ⟨lw_p37, List.forall_mem_cons.mpr ⟨lw_p38, List.forall_mem_cons.mpr ⟨lw_p39, List.forall_mem_cons.mpr ⟨lw_p40, List.forall_mem_cons.mpr ⟨lw_p41, List.forall_mem_cons.mpr ⟨lw_p42, List.forall_mem_cons.mpr ⟨lw_p43, List.forall_mem_cons.mpr ⟨lw_p44, List.forall_mem_cons.mpr ⟨lw_p45, List.forall_mem_cons.mpr ⟨lw_p46, List.forall_mem_cons.mpr ⟨lw_p47, fun _ h => absurd h List.not_mem_nil⟩⟩⟩⟩⟩⟩⟩⟩⟩⟩⟩⟩⟩⟩⟩⟩
theorem lw_p48 : lw_okq (⟨"TurntableHouseModel", "takeHere", "(II)I"⟩, 32) := ⟨⟨by decide +kernel, by decide +kernel⟩, List.mem_of_getElem? (i := 536) (by decide +kernel), List.mem_of_getElem? (i := 833) (by decide +kernel), List.mem_of_getElem? (i := 834) (by decide +kernel)⟩
theorem lw_p49 : lw_okq (⟨"TurntableHouseModel", "insertHere", "(III)V"⟩, 32) := ⟨⟨by decide +kernel, by decide +kernel⟩, List.mem_of_getElem? (i := 536) (by decide +kernel), List.mem_of_getElem? (i := 837) (by decide +kernel), List.mem_of_getElem? (i := 838) (by decide +kernel)⟩
theorem lw_p50 : lw_okq (⟨"TurntableHouseModel", "numberOf", "()I"⟩, 32) := ⟨⟨by decide +kernel, by decide +kernel⟩, List.mem_of_getElem? (i := 536) (by decide +kernel), List.mem_of_getElem? (i := 841) (by decide +kernel), List.mem_of_getElem? (i := 842) (by decide +kernel)⟩
theorem lw_p51 : lw_okq (⟨"TurntableHouseModel", "addMoved", "(III)V"⟩, 32) := ⟨⟨by decide +kernel, by decide +kernel⟩, List.mem_of_getElem? (i := 536) (by decide +kernel), List.mem_of_getElem? (i := 845) (by decide +kernel), List.mem_of_getElem? (i := 846) (by decide +kernel)⟩
theorem lw_p52 : lw_okq (⟨"TurntableHouseModel", "situationNow", "()I"⟩, 32) := ⟨⟨by decide +kernel, by decide +kernel⟩, List.mem_of_getElem? (i := 536) (by decide +kernel), List.mem_of_getElem? (i := 849) (by decide +kernel), List.mem_of_getElem? (i := 850) (by decide +kernel)⟩
theorem lw_p53 : lw_okq (⟨"TurntableHouseModel", "bestAction", "(I)I"⟩, 32) := ⟨⟨by decide +kernel, by decide +kernel⟩, List.mem_of_getElem? (i := 536) (by decide +kernel), List.mem_of_getElem? (i := 857) (by decide +kernel), List.mem_of_getElem? (i := 858) (by decide +kernel)⟩
def lw_privs_4 : List (MethodName × Nat) := [(⟨"TurntableHouseModel", "takeHere", "(II)I"⟩, 32), (⟨"TurntableHouseModel", "insertHere", "(III)V"⟩, 32), (⟨"TurntableHouseModel", "numberOf", "()I"⟩, 32), (⟨"TurntableHouseModel", "addMoved", "(III)V"⟩, 32), (⟨"TurntableHouseModel", "situationNow", "()I"⟩, 32), (⟨"TurntableHouseModel", "bestAction", "(I)I"⟩, 32)]
theorem lw_r4 : ∀ q ∈ lw_privs_4, lw_okq q := List.forall_mem_cons.mpr ⟨lw_p48, List.forall_mem_cons.mpr ⟨lw_p49, List.forall_mem_cons.mpr ⟨lw_p50, List.forall_mem_cons.mpr ⟨lw_p51, List.forall_mem_cons.mpr ⟨lw_p52, List.forall_mem_cons.mpr ⟨lw_p53, fun _ h => absurd h List.not_mem_nil⟩⟩⟩⟩⟩⟩
def lw_privs : List (MethodName × Nat) := lw_privs_1 ++ (lw_privs_2 ++ (lw_privs_3 ++ (lw_privs_4)))
def lw_tbl : List Cond := k2_sels lw_privs ++ tables_1
theorem lw_privs_ok : ∀ q ∈ lw_privs, lw_okq q := by
  show ∀ q ∈ lw_privs_1 ++ (lw_privs_2 ++ (lw_privs_3 ++ (lw_privs_4))), lw_okq q
  exact List.forall_mem_append.mpr ⟨lw_r1, List.forall_mem_append.mpr ⟨lw_r2, List.forall_mem_append.mpr ⟨lw_r3, lw_r4⟩⟩⟩

def RX0 : String := "TurntableHouse$ActionLog"
def TX0 : u_T := fun k => match k with
  | 0 => ("TurntableHouse$ActionLog", "codes", "[I", true)
  | _ => ("TurntableHouse$ActionLog", "count", "I", false)
def tyX0 : Nat → FieldType := fun k => match k with
  | 0 => .array .int
  | _ => .int
abbrev wsX00 : List Cond := u_ws RX0 TX0 2
theorem nmX0 : ∀ a, a < 2 → ∀ b, b < 2 → a ≠ b → (TX0 a).2.1 ≠ (TX0 b).2.1 := by decide +kernel
theorem tyX0_ok : ∀ k, k < 2 → parseFieldDescriptor (TX0 k).2.2.1 = some (tyX0 k) := by decide +kernel
abbrev cX0_init : ByteArray := prog_2_method_1_code
def yX0_init : MethodName := ⟨RX0, "<init>", "()V"⟩
abbrev cX0_append : ByteArray := prog_2_method_2_code
def yX0_append : MethodName := ⟨RX0, "append", "(I)V"⟩
abbrev cX0_forgetAll : ByteArray := prog_2_method_3_code
def yX0_forgetAll : MethodName := ⟨RX0, "forgetAll", "()V"⟩
abbrev cX0_latest : ByteArray := prog_2_method_4_code
def yX0_latest : MethodName := ⟨RX0, "latest", "(I)I"⟩
abbrev cX0_removeLatest : ByteArray := prog_2_method_5_code
def yX0_removeLatest : MethodName := ⟨RX0, "removeLatest", "()I"⟩
def RX1 : String := "TurntableHouse$Planner"
def TX1 : u_T := fun k => match k with
  | 0 => ("TurntableHouse$Planner", "view", "LTurntableHouse$Yard;", true)
  | 1 => ("TurntableHouse$Planner", "places", "[I", true)
  | 2 => ("TurntableHouse$Planner", "lineSlots", "[I", true)
  | 3 => ("TurntableHouse$Planner", "codes", "[I", true)
  | 4 => ("TurntableHouse$Planner", "neighbours", "[I", true)
  | 5 => ("TurntableHouse$Planner", "costs", "[I", true)
  | 6 => ("TurntableHouse$Planner", "afterTurns", "LTurntableHouse$StateQueue;", true)
  | 7 => ("TurntableHouse$Planner", "afterMovements", "LTurntableHouse$StateQueue;", true)
  | 8 => ("TurntableHouse$Planner", "placeCount", "I", false)
  | 9 => ("TurntableHouse$Planner", "stateCount", "I", false)
  | 10 => ("TurntableHouse$Planner", "found", "I", false)
  | 11 => ("TurntableHouse$Planner", "goalLocomotive", "I", false)
  | _ => ("TurntableHouse$Planner", "goalPosition", "I", false)
def tyX1 : Nat → FieldType := fun k => match k with
  | 0 => .object "TurntableHouse$Yard"
  | 1 => .array .int
  | 2 => .array .int
  | 3 => .array .int
  | 4 => .array .int
  | 5 => .array .int
  | 6 => .object "TurntableHouse$StateQueue"
  | 7 => .object "TurntableHouse$StateQueue"
  | 8 => .int
  | 9 => .int
  | 10 => .int
  | 11 => .int
  | _ => .int
abbrev wsX10 : List Cond := u_ws RX1 TX1 13
theorem nmX1 : ∀ a, a < 13 → ∀ b, b < 13 → a ≠ b → (TX1 a).2.1 ≠ (TX1 b).2.1 := by decide +kernel
theorem tyX1_ok : ∀ k, k < 13 → parseFieldDescriptor (TX1 k).2.2.1 = some (tyX1 k) := by decide +kernel
abbrev cX1_init : ByteArray := prog_3_method_1_code
def yX1_init : MethodName := ⟨RX1, "<init>", "()V"⟩
abbrev cX1_forgetGoal : ByteArray := prog_3_method_2_code
def yX1_forgetGoal : MethodName := ⟨RX1, "forgetGoal", "()V"⟩
abbrev cX1_aimAt : ByteArray := prog_3_method_3_code
def yX1_aimAt : MethodName := ⟨RX1, "aimAt", "(LTurntableHouse$Yard;II)V"⟩
abbrev cX1_bestCost : ByteArray := prog_3_method_4_code
def yX1_bestCost : MethodName := ⟨RX1, "bestCost", "(LTurntableHouse$Yard;)I"⟩
abbrev cX1_actionAt : ByteArray := prog_3_method_5_code
def yX1_actionAt : MethodName := ⟨RX1, "actionAt", "(LTurntableHouse$Yard;I)I"⟩
abbrev cX1_listPlaces : ByteArray := prog_3_method_6_code
def yX1_listPlaces : MethodName := ⟨RX1, "listPlaces", "()V"⟩
abbrev cX1_waysToPut : ByteArray := prog_3_method_7_code
def yX1_waysToPut : MethodName := ⟨RX1, "waysToPut", "(I)I"⟩
abbrev cX1_addGoals : ByteArray := prog_3_method_8_code
def yX1_addGoals : MethodName := ⟨RX1, "addGoals", "()V"⟩
abbrev cX1_showRows : ByteArray := prog_3_method_9_code
def yX1_showRows : MethodName := ⟨RX1, "showRows", "(I)V"⟩
abbrev cX1_putIntoLine : ByteArray := prog_3_method_10_code
def yX1_putIntoLine : MethodName := ⟨RX1, "putIntoLine", "(II)V"⟩
abbrev cX1_stateOf : ByteArray := prog_3_method_11_code
def yX1_stateOf : MethodName := ⟨RX1, "stateOf", "(LTurntableHouse$Yard;)I"⟩
abbrev cX1_listNeighbours : ByteArray := prog_3_method_12_code
def yX1_listNeighbours : MethodName := ⟨RX1, "listNeighbours", "(I)V"⟩
abbrev cX1_addMovements : ByteArray := prog_3_method_13_code
def yX1_addMovements : MethodName := ⟨RX1, "addMovements", "(I)V"⟩
abbrev cX1_addNeighbour : ByteArray := prog_3_method_14_code
def yX1_addNeighbour : MethodName := ⟨RX1, "addNeighbour", "(II)V"⟩
abbrev cX1_improveNeighbours : ByteArray := prog_3_method_15_code
def yX1_improveNeighbours : MethodName := ⟨RX1, "improveNeighbours", "(I)V"⟩
abbrev cX1_improve : ByteArray := prog_3_method_16_code
def yX1_improve : MethodName := ⟨RX1, "improve", "(IILTurntableHouse$StateQueue;)V"⟩
abbrev cX1_firstOnBestPlan : ByteArray := prog_3_method_17_code
def yX1_firstOnBestPlan : MethodName := ⟨RX1, "firstOnBestPlan", "(I)I"⟩
abbrev cX1_nearerQueue : ByteArray := prog_3_method_18_code
def yX1_nearerQueue : MethodName := ⟨RX1, "nearerQueue", "()LTurntableHouse$StateQueue;"⟩
abbrev cX1_costOf : ByteArray := prog_3_method_19_code
def yX1_costOf : MethodName := ⟨RX1, "costOf", "(I)I"⟩
abbrev cX1_costOfAction : ByteArray := prog_3_method_20_code
def yX1_costOfAction : MethodName := ⟨RX1, "costOfAction", "(I)I"⟩
def RX2 : String := "TurntableHouse$StateQueue"
def TX2 : u_T := fun k => match k with
  | 0 => ("TurntableHouse$StateQueue", "states", "[I", true)
  | 1 => ("TurntableHouse$StateQueue", "head", "I", false)
  | _ => ("TurntableHouse$StateQueue", "tail", "I", false)
def tyX2 : Nat → FieldType := fun k => match k with
  | 0 => .array .int
  | 1 => .int
  | _ => .int
abbrev wsX20 : List Cond := u_ws RX2 TX2 3
theorem nmX2 : ∀ a, a < 3 → ∀ b, b < 3 → a ≠ b → (TX2 a).2.1 ≠ (TX2 b).2.1 := by decide +kernel
theorem tyX2_ok : ∀ k, k < 3 → parseFieldDescriptor (TX2 k).2.2.1 = some (tyX2 k) := by decide +kernel
abbrev cX2_init : ByteArray := prog_4_method_1_code
def yX2_init : MethodName := ⟨RX2, "<init>", "()V"⟩
abbrev cX2_reset : ByteArray := prog_4_method_2_code
def yX2_reset : MethodName := ⟨RX2, "reset", "()V"⟩
abbrev cX2_add : ByteArray := prog_4_method_3_code
def yX2_add : MethodName := ⟨RX2, "add", "(I)V"⟩
abbrev cX2_first : ByteArray := prog_4_method_4_code
def yX2_first : MethodName := ⟨RX2, "first", "()I"⟩
abbrev cX2_removeFirst : ByteArray := prog_4_method_5_code
def yX2_removeFirst : MethodName := ⟨RX2, "removeFirst", "()I"⟩
def RX3 : String := "TurntableHouse$Yard"
def TX3 : u_T := fun k => match k with
  | 0 => ("TurntableHouse$Yard", "lengths", "[I", true)
  | 1 => ("TurntableHouse$Yard", "used", "[I", true)
  | 2 => ("TurntableHouse$Yard", "counts", "[I", true)
  | 3 => ("TurntableHouse$Yard", "rows", "[I", true)
  | 4 => ("TurntableHouse$Yard", "sizes", "[I", true)
  | 5 => ("TurntableHouse$Yard", "locomotiveCount", "I", false)
  | 6 => ("TurntableHouse$Yard", "deadBits", "I", false)
  | _ => ("TurntableHouse$Yard", "endA", "I", false)
def tyX3 : Nat → FieldType := fun k => match k with
  | 0 => .array .int
  | 1 => .array .int
  | 2 => .array .int
  | 3 => .array .int
  | 4 => .array .int
  | 5 => .int
  | 6 => .int
  | _ => .int
abbrev wsX30 : List Cond := u_ws RX3 TX3 8
theorem nmX3 : ∀ a, a < 8 → ∀ b, b < 8 → a ≠ b → (TX3 a).2.1 ≠ (TX3 b).2.1 := by decide +kernel
theorem tyX3_ok : ∀ k, k < 8 → parseFieldDescriptor (TX3 k).2.2.1 = some (tyX3 k) := by decide +kernel
abbrev cX3_init : ByteArray := prog_5_method_1_code
def yX3_init : MethodName := ⟨RX3, "<init>", "()V"⟩
abbrev cX3_copyFrom : ByteArray := prog_5_method_2_code
def yX3_copyFrom : MethodName := ⟨RX3, "copyFrom", "(LTurntableHouse$Yard;)V"⟩
abbrev cX3_isLocomotive : ByteArray := prog_5_method_3_code
def yX3_isLocomotive : MethodName := ⟨RX3, "isLocomotive", "(I)Z"⟩
abbrev cX3_isAlive : ByteArray := prog_5_method_4_code
def yX3_isAlive : MethodName := ⟨RX3, "isAlive", "(I)Z"⟩
abbrev cX3_sizeOf : ByteArray := prog_5_method_5_code
def yX3_sizeOf : MethodName := ⟨RX3, "sizeOf", "(I)I"⟩
abbrev cX3_lengthAt : ByteArray := prog_5_method_6_code
def yX3_lengthAt : MethodName := ⟨RX3, "lengthAt", "(I)I"⟩
abbrev cX3_usedAt : ByteArray := prog_5_method_7_code
def yX3_usedAt : MethodName := ⟨RX3, "usedAt", "(I)I"⟩
abbrev cX3_freeAt : ByteArray := prog_5_method_8_code
def yX3_freeAt : MethodName := ⟨RX3, "freeAt", "(I)I"⟩
abbrev cX3_countAt : ByteArray := prog_5_method_9_code
def yX3_countAt : MethodName := ⟨RX3, "countAt", "(I)I"⟩
abbrev cX3_locomotiveAt : ByteArray := prog_5_method_10_code
def yX3_locomotiveAt : MethodName := ⟨RX3, "locomotiveAt", "(II)I"⟩
abbrev cX3_placeOf : ByteArray := prog_5_method_11_code
def yX3_placeOf : MethodName := ⟨RX3, "placeOf", "(I)I"⟩
abbrev cX3_indexIn : ByteArray := prog_5_method_12_code
def yX3_indexIn : MethodName := ⟨RX3, "indexIn", "(II)I"⟩
abbrev cX3_trackCount : ByteArray := prog_5_method_13_code
def yX3_trackCount : MethodName := ⟨RX3, "trackCount", "()I"⟩
abbrev cX3_positionAt : ByteArray := prog_5_method_14_code
def yX3_positionAt : MethodName := ⟨RX3, "positionAt", "(I)I"⟩
abbrev cX3_setLength : ByteArray := prog_5_method_15_code
def yX3_setLength : MethodName := ⟨RX3, "setLength", "(II)V"⟩
abbrev cX3_markDead : ByteArray := prog_5_method_16_code
def yX3_markDead : MethodName := ⟨RX3, "markDead", "(IZ)V"⟩
abbrev cX3_addFirst : ByteArray := prog_5_method_17_code
def yX3_addFirst : MethodName := ⟨RX3, "addFirst", "(II)I"⟩
abbrev cX3_removeNewest : ByteArray := prog_5_method_18_code
def yX3_removeNewest : MethodName := ⟨RX3, "removeNewest", "()I"⟩
abbrev cX3_takeOut : ByteArray := prog_5_method_19_code
def yX3_takeOut : MethodName := ⟨RX3, "takeOut", "(II)I"⟩
abbrev cX3_putIn : ByteArray := prog_5_method_20_code
def yX3_putIn : MethodName := ⟨RX3, "putIn", "(III)V"⟩
abbrev cX3_emptyRows : ByteArray := prog_5_method_21_code
def yX3_emptyRows : MethodName := ⟨RX3, "emptyRows", "()V"⟩
abbrev cX3_allFit : ByteArray := prog_5_method_22_code
def yX3_allFit : MethodName := ⟨RX3, "allFit", "()Z"⟩
abbrev cX3_sourceOf : ByteArray := prog_5_method_23_code
def yX3_sourceOf : MethodName := ⟨RX3, "sourceOf", "(I)I"⟩
abbrev cX3_targetOf : ByteArray := prog_5_method_24_code
def yX3_targetOf : MethodName := ⟨RX3, "targetOf", "(I)I"⟩
abbrev cX3_movementError : ByteArray := prog_5_method_25_code
def yX3_movementError : MethodName := ⟨RX3, "movementError", "(II)I"⟩
abbrev cX3_shift : ByteArray := prog_5_method_26_code
def yX3_shift : MethodName := ⟨RX3, "shift", "(II)V"⟩
abbrev cX3_carryOut : ByteArray := prog_5_method_27_code
def yX3_carryOut : MethodName := ⟨RX3, "carryOut", "(I)V"⟩
def RX4 : String := "TurntableHouse"
def TX4 : u_T := fun k => match k with
  | 0 => ("TurntableHouse", "yard", "LTurntableHouse$Yard;", true)
  | 1 => ("TurntableHouse", "slots", "[LTurntableHouse$Yard;", true)
  | 2 => ("TurntableHouse", "actions", "LTurntableHouse$ActionLog;", true)
  | 3 => ("TurntableHouse", "planner", "LTurntableHouse$Planner;", false)
  | _ => ("TurntableHouse", "turnCount", "I", false)
def tyX4 : Nat → FieldType := fun k => match k with
  | 0 => .object "TurntableHouse$Yard"
  | 1 => .array (.object "TurntableHouse$Yard")
  | 2 => .object "TurntableHouse$ActionLog"
  | 3 => .object "TurntableHouse$Planner"
  | _ => .int
abbrev wsX40 : List Cond := u_ws RX4 TX4 5
theorem nmX4 : ∀ a, a < 5 → ∀ b, b < 5 → a ≠ b → (TX4 a).2.1 ≠ (TX4 b).2.1 := by decide +kernel
theorem tyX4_ok : ∀ k, k < 5 → parseFieldDescriptor (TX4 k).2.2.1 = some (tyX4 k) := by decide +kernel
abbrev cX4_init : ByteArray := prog_1_method_1_code
def yX4_init : MethodName := ⟨RX4, "<init>", "()V"⟩
abbrev cX4_setTrack : ByteArray := prog_1_method_2_code
def yX4_setTrack : MethodName := ⟨RX4, "setTrack", "(II)I"⟩
abbrev cX4_setTableLength : ByteArray := prog_1_method_3_code
def yX4_setTableLength : MethodName := ⟨RX4, "setTableLength", "(I)I"⟩
abbrev cX4_addLocomotive : ByteArray := prog_1_method_4_code
def yX4_addLocomotive : MethodName := ⟨RX4, "addLocomotive", "(II)I"⟩
abbrev cX4_removeLocomotive : ByteArray := prog_1_method_5_code
def yX4_removeLocomotive : MethodName := ⟨RX4, "removeLocomotive", "()I"⟩
abbrev cX4_setDead : ByteArray := prog_1_method_6_code
def yX4_setDead : MethodName := ⟨RX4, "setDead", "(IZ)I"⟩
abbrev cX4_locomotives : ByteArray := prog_1_method_7_code
def yX4_locomotives : MethodName := ⟨RX4, "locomotives", "()I"⟩
abbrev cX4_trackLength : ByteArray := prog_1_method_8_code
def yX4_trackLength : MethodName := ⟨RX4, "trackLength", "(I)I"⟩
abbrev cX4_freeLength : ByteArray := prog_1_method_9_code
def yX4_freeLength : MethodName := ⟨RX4, "freeLength", "(I)I"⟩
abbrev cX4_row : ByteArray := prog_1_method_10_code
def yX4_row : MethodName := ⟨RX4, "row", "(II)I"⟩
abbrev cX4_place : ByteArray := prog_1_method_11_code
def yX4_place : MethodName := ⟨RX4, "place", "(I)I"⟩
abbrev cX4_pointsTo : ByteArray := prog_1_method_12_code
def yX4_pointsTo : MethodName := ⟨RX4, "pointsTo", "(I)I"⟩
abbrev cX4_turn : ByteArray := prog_1_method_13_code
def yX4_turn : MethodName := ⟨RX4, "turn", "(I)I"⟩
abbrev cX4_moveIn : ByteArray := prog_1_method_14_code
def yX4_moveIn : MethodName := ⟨RX4, "moveIn", "(II)I"⟩
abbrev cX4_moveOut : ByteArray := prog_1_method_15_code
def yX4_moveOut : MethodName := ⟨RX4, "moveOut", "(II)I"⟩
abbrev cX4_turnsMade : ByteArray := prog_1_method_16_code
def yX4_turnsMade : MethodName := ⟨RX4, "turnsMade", "()I"⟩
abbrev cX4_undo : ByteArray := prog_1_method_17_code
def yX4_undo : MethodName := ⟨RX4, "undo", "()I"⟩
abbrev cX4_log : ByteArray := prog_1_method_18_code
def yX4_log : MethodName := ⟨RX4, "log", "(I)I"⟩
abbrev cX4_fewestTurns : ByteArray := prog_1_method_19_code
def yX4_fewestTurns : MethodName := ⟨RX4, "fewestTurns", "(II)I"⟩
abbrev cX4_plan : ByteArray := prog_1_method_20_code
def yX4_plan : MethodName := ⟨RX4, "plan", "(III)I"⟩
abbrev cX4_save : ByteArray := prog_1_method_21_code
def yX4_save : MethodName := ⟨RX4, "save", "(I)I"⟩
abbrev cX4_restore : ByteArray := prog_1_method_22_code
def yX4_restore : MethodName := ⟨RX4, "restore", "(I)I"⟩
abbrev cX4_isPosition : ByteArray := prog_1_method_23_code
def yX4_isPosition : MethodName := ⟨RX4, "isPosition", "(I)Z"⟩
abbrev cX4_isEnd : ByteArray := prog_1_method_24_code
def yX4_isEnd : MethodName := ⟨RX4, "isEnd", "(I)Z"⟩
abbrev cX4_isSlot : ByteArray := prog_1_method_25_code
def yX4_isSlot : MethodName := ⟨RX4, "isSlot", "(I)Z"⟩
abbrev cX4_endOf : ByteArray := prog_1_method_26_code
def yX4_endOf : MethodName := ⟨RX4, "endOf", "(I)I"⟩
abbrev cX4_reverseOf : ByteArray := prog_1_method_27_code
def yX4_reverseOf : MethodName := ⟨RX4, "reverseOf", "(I)I"⟩
abbrev cX4_placeError : ByteArray := prog_1_method_28_code
def yX4_placeError : MethodName := ⟨RX4, "placeError", "(I)I"⟩
abbrev cX4_planError : ByteArray := prog_1_method_29_code
def yX4_planError : MethodName := ⟨RX4, "planError", "(II)I"⟩
abbrev cX4_changeLength : ByteArray := prog_1_method_30_code
def yX4_changeLength : MethodName := ⟨RX4, "changeLength", "(II)I"⟩
abbrev cX4_moveIfPossible : ByteArray := prog_1_method_31_code
def yX4_moveIfPossible : MethodName := ⟨RX4, "moveIfPossible", "(II)I"⟩
abbrev cX4_houseChanges : ByteArray := prog_1_method_32_code
def yX4_houseChanges : MethodName := ⟨RX4, "houseChanges", "()V"⟩
abbrev cX4_readyPlanner : ByteArray := prog_1_method_33_code
def yX4_readyPlanner : MethodName := ⟨RX4, "readyPlanner", "()LTurntableHouse$Planner;"⟩
def RX5 : String := "TurntableHouseModel"
def TX5 : u_T := fun k => match k with
  | 0 => ("TurntableHouseModel", "at", "[I", true)
  | 1 => ("TurntableHouseModel", "slots", "[I", true)
  | 2 => ("TurntableHouseModel", "isSaved", "[Z", true)
  | 3 => ("TurntableHouseModel", "made", "I", false)
  | 4 => ("TurntableHouseModel", "logged", "I", false)
  | 5 => ("TurntableHouseModel", "entries", "[I", true)
  | 6 => ("TurntableHouseModel", "laidFor", "I", false)
  | 7 => ("TurntableHouseModel", "orders", "I", false)
  | 8 => ("TurntableHouseModel", "order", "[I", true)
  | 9 => ("TurntableHouseModel", "orderOf", "[I", true)
  | 10 => ("TurntableHouseModel", "ways", "I", false)
  | 11 => ("TurntableHouseModel", "way", "[I", true)
  | 12 => ("TurntableHouseModel", "wayOf", "[I", true)
  | 13 => ("TurntableHouseModel", "tracks", "I", false)
  | 14 => ("TurntableHouseModel", "placeOfRow", "[I", true)
  | 15 => ("TurntableHouseModel", "rowOfPlace", "[I", true)
  | 16 => ("TurntableHouseModel", "rows", "[I", true)
  | 17 => ("TurntableHouseModel", "many", "[I", true)
  | 18 => ("TurntableHouseModel", "angle", "I", false)
  | 19 => ("TurntableHouseModel", "turnsTo", "[I", true)
  | 20 => ("TurntableHouseModel", "actionsTo", "[I", true)
  | 21 => ("TurntableHouseModel", "isDone", "[Z", true)
  | 22 => ("TurntableHouseModel", "turned", "[I", true)
  | 23 => ("TurntableHouseModel", "moved", "[I", true)
  | 24 => ("TurntableHouseModel", "done", "[I", true)
  | 25 => ("TurntableHouseModel", "turnedFor", "[I", true)
  | 26 => ("TurntableHouseModel", "movedFor", "[I", true)
  | 27 => ("TurntableHouseModel", "wasTurned", "[I", true)
  | 28 => ("TurntableHouseModel", "wasMoved", "[I", true)
  | 29 => ("TurntableHouseModel", "turnedMany", "I", false)
  | 30 => ("TurntableHouseModel", "movedMany", "I", false)
  | _ => ("TurntableHouseModel", "doneMany", "I", false)
def tyX5 : Nat → FieldType := fun k => match k with
  | 0 => .array .int
  | 1 => .array .int
  | 2 => .array .boolean
  | 3 => .int
  | 4 => .int
  | 5 => .array .int
  | 6 => .int
  | 7 => .int
  | 8 => .array .int
  | 9 => .array .int
  | 10 => .int
  | 11 => .array .int
  | 12 => .array .int
  | 13 => .int
  | 14 => .array .int
  | 15 => .array .int
  | 16 => .array .int
  | 17 => .array .int
  | 18 => .int
  | 19 => .array .int
  | 20 => .array .int
  | 21 => .array .boolean
  | 22 => .array .int
  | 23 => .array .int
  | 24 => .array .int
  | 25 => .array .int
  | 26 => .array .int
  | 27 => .array .int
  | 28 => .array .int
  | 29 => .int
  | 30 => .int
  | _ => .int
abbrev wsX50 : List Cond := u_ws RX5 TX5 32
theorem nmX5 : ∀ a, a < 32 → ∀ b, b < 32 → a ≠ b → (TX5 a).2.1 ≠ (TX5 b).2.1 := by decide +kernel
theorem tyX5_ok : ∀ k, k < 32 → parseFieldDescriptor (TX5 k).2.2.1 = some (tyX5 k) := by decide +kernel
abbrev cX5_init : ByteArray := prog_7_method_1_code
def yX5_init : MethodName := ⟨RX5, "<init>", "()V"⟩
abbrev cX5_in : ByteArray := prog_7_method_2_code
def yX5_in : MethodName := ⟨RX5, "in", "(III)Z"⟩
abbrev cX5_change : ByteArray := prog_7_method_3_code
def yX5_change : MethodName := ⟨RX5, "change", "()V"⟩
abbrev cX5_isPosition : ByteArray := prog_7_method_4_code
def yX5_isPosition : MethodName := ⟨RX5, "isPosition", "(I)Z"⟩
abbrev cX5_isLocomotive : ByteArray := prog_7_method_5_code
def yX5_isLocomotive : MethodName := ⟨RX5, "isLocomotive", "(I)Z"⟩
abbrev cX5_isTrack : ByteArray := prog_7_method_6_code
def yX5_isTrack : MethodName := ⟨RX5, "isTrack", "(I)Z"⟩
abbrev cX5_cell : ByteArray := prog_7_method_7_code
def yX5_cell : MethodName := ⟨RX5, "cell", "(II)I"⟩
abbrev cX5_used : ByteArray := prog_7_method_8_code
def yX5_used : MethodName := ⟨RX5, "used", "(I)I"⟩
abbrev cX5_setTrack : ByteArray := prog_7_method_9_code
def yX5_setTrack : MethodName := ⟨RX5, "setTrack", "(II)I"⟩
abbrev cX5_setTableLength : ByteArray := prog_7_method_10_code
def yX5_setTableLength : MethodName := ⟨RX5, "setTableLength", "(I)I"⟩
abbrev cX5_insert : ByteArray := prog_7_method_11_code
def yX5_insert : MethodName := ⟨RX5, "insert", "(III)V"⟩
abbrev cX5_take : ByteArray := prog_7_method_12_code
def yX5_take : MethodName := ⟨RX5, "take", "(II)I"⟩
abbrev cX5_addLocomotive : ByteArray := prog_7_method_13_code
def yX5_addLocomotive : MethodName := ⟨RX5, "addLocomotive", "(II)I"⟩
abbrev cX5_placeOf : ByteArray := prog_7_method_14_code
def yX5_placeOf : MethodName := ⟨RX5, "placeOf", "(I)I"⟩
abbrev cX5_removeLocomotive : ByteArray := prog_7_method_15_code
def yX5_removeLocomotive : MethodName := ⟨RX5, "removeLocomotive", "()I"⟩
abbrev cX5_setDead : ByteArray := prog_7_method_16_code
def yX5_setDead : MethodName := ⟨RX5, "setDead", "(IZ)I"⟩
abbrev cX5_locomotives : ByteArray := prog_7_method_17_code
def yX5_locomotives : MethodName := ⟨RX5, "locomotives", "()I"⟩
abbrev cX5_trackLength : ByteArray := prog_7_method_18_code
def yX5_trackLength : MethodName := ⟨RX5, "trackLength", "(I)I"⟩
abbrev cX5_freeLength : ByteArray := prog_7_method_19_code
def yX5_freeLength : MethodName := ⟨RX5, "freeLength", "(I)I"⟩
abbrev cX5_row : ByteArray := prog_7_method_20_code
def yX5_row : MethodName := ⟨RX5, "row", "(II)I"⟩
abbrev cX5_place : ByteArray := prog_7_method_21_code
def yX5_place : MethodName := ⟨RX5, "place", "(I)I"⟩
abbrev cX5_isEnd : ByteArray := prog_7_method_22_code
def yX5_isEnd : MethodName := ⟨RX5, "isEnd", "(I)Z"⟩
abbrev cX5_pointed : ByteArray := prog_7_method_23_code
def yX5_pointed : MethodName := ⟨RX5, "pointed", "(I)I"⟩
abbrev cX5_pointsTo : ByteArray := prog_7_method_24_code
def yX5_pointsTo : MethodName := ⟨RX5, "pointsTo", "(I)I"⟩
abbrev cX5_write : ByteArray := prog_7_method_25_code
def yX5_write : MethodName := ⟨RX5, "write", "(I)V"⟩
abbrev cX5_turnBy : ByteArray := prog_7_method_26_code
def yX5_turnBy : MethodName := ⟨RX5, "turnBy", "(I)V"⟩
abbrev cX5_turn : ByteArray := prog_7_method_27_code
def yX5_turn : MethodName := ⟨RX5, "turn", "(I)I"⟩
abbrev cX5_goIn : ByteArray := prog_7_method_28_code
def yX5_goIn : MethodName := ⟨RX5, "goIn", "(II)V"⟩
abbrev cX5_goOut : ByteArray := prog_7_method_29_code
def yX5_goOut : MethodName := ⟨RX5, "goOut", "(II)V"⟩
abbrev cX5_wrongMove : ByteArray := prog_7_method_30_code
def yX5_wrongMove : MethodName := ⟨RX5, "wrongMove", "(IIII)I"⟩
abbrev cX5_moveIn : ByteArray := prog_7_method_31_code
def yX5_moveIn : MethodName := ⟨RX5, "moveIn", "(II)I"⟩
abbrev cX5_moveOut : ByteArray := prog_7_method_32_code
def yX5_moveOut : MethodName := ⟨RX5, "moveOut", "(II)I"⟩
abbrev cX5_turnsMade : ByteArray := prog_7_method_33_code
def yX5_turnsMade : MethodName := ⟨RX5, "turnsMade", "()I"⟩
abbrev cX5_undo : ByteArray := prog_7_method_34_code
def yX5_undo : MethodName := ⟨RX5, "undo", "()I"⟩
abbrev cX5_log : ByteArray := prog_7_method_35_code
def yX5_log : MethodName := ⟨RX5, "log", "(I)I"⟩
abbrev cX5_layOrders : ByteArray := prog_7_method_36_code
def yX5_layOrders : MethodName := ⟨RX5, "layOrders", "(I)V"⟩
abbrev cX5_layWays : ByteArray := prog_7_method_37_code
def yX5_layWays : MethodName := ⟨RX5, "layWays", "(I)V"⟩
abbrev cX5_layRows : ByteArray := prog_7_method_38_code
def yX5_layRows : MethodName := ⟨RX5, "layRows", "()V"⟩
abbrev cX5_numberOf : ByteArray := prog_7_method_39_code
def yX5_numberOf : MethodName := ⟨RX5, "numberOf", "()I"⟩
abbrev cX5_layOut : ByteArray := prog_7_method_40_code
def yX5_layOut : MethodName := ⟨RX5, "layOut", "(I)V"⟩
abbrev cX5_sum : ByteArray := prog_7_method_41_code
def yX5_sum : MethodName := ⟨RX5, "sum", "(III)I"⟩
abbrev cX5_canBe : ByteArray := prog_7_method_42_code
def yX5_canBe : MethodName := ⟨RX5, "canBe", "()Z"⟩
abbrev cX5_insertHere : ByteArray := prog_7_method_43_code
def yX5_insertHere : MethodName := ⟨RX5, "insertHere", "(III)V"⟩
abbrev cX5_takeHere : ByteArray := prog_7_method_44_code
def yX5_takeHere : MethodName := ⟨RX5, "takeHere", "(II)I"⟩
abbrev cX5_behind : ByteArray := prog_7_method_45_code
def yX5_behind : MethodName := ⟨RX5, "behind", "(II)I"⟩
abbrev cX5_addTurned : ByteArray := prog_7_method_46_code
def yX5_addTurned : MethodName := ⟨RX5, "addTurned", "(III)V"⟩
abbrev cX5_addMoved : ByteArray := prog_7_method_47_code
def yX5_addMoved : MethodName := ⟨RX5, "addMoved", "(III)V"⟩
abbrev cX5_finishOne : ByteArray := prog_7_method_48_code
def yX5_finishOne : MethodName := ⟨RX5, "finishOne", "(III)V"⟩
abbrev cX5_finishLevel : ByteArray := prog_7_method_49_code
def yX5_finishLevel : MethodName := ⟨RX5, "finishLevel", "(I)V"⟩
abbrev cX5_isGoal : ByteArray := prog_7_method_50_code
def yX5_isGoal : MethodName := ⟨RX5, "isGoal", "(II)Z"⟩
abbrev cX5_layGoals : ByteArray := prog_7_method_51_code
def yX5_layGoals : MethodName := ⟨RX5, "layGoals", "(II)V"⟩
abbrev cX5_layAll : ByteArray := prog_7_method_52_code
def yX5_layAll : MethodName := ⟨RX5, "layAll", "(II)V"⟩
abbrev cX5_situationNow : ByteArray := prog_7_method_53_code
def yX5_situationNow : MethodName := ⟨RX5, "situationNow", "()I"⟩
abbrev cX5_wrongPlan : ByteArray := prog_7_method_54_code
def yX5_wrongPlan : MethodName := ⟨RX5, "wrongPlan", "(II)I"⟩
abbrev cX5_fewestTurns : ByteArray := prog_7_method_55_code
def yX5_fewestTurns : MethodName := ⟨RX5, "fewestTurns", "(II)I"⟩
abbrev cX5_bestAction : ByteArray := prog_7_method_56_code
def yX5_bestAction : MethodName := ⟨RX5, "bestAction", "(I)I"⟩
abbrev cX5_plan : ByteArray := prog_7_method_57_code
def yX5_plan : MethodName := ⟨RX5, "plan", "(III)I"⟩
abbrev cX5_save : ByteArray := prog_7_method_58_code
def yX5_save : MethodName := ⟨RX5, "save", "(I)I"⟩
abbrev cX5_restore : ByteArray := prog_7_method_59_code
def yX5_restore : MethodName := ⟨RX5, "restore", "(I)I"⟩
def RJ6 : String := "java/lang/Integer"
def TJ6 : u_T := fun k => match k with
  | _ => ("", "", "", false)
def tyJ6 : Nat → FieldType := fun k => match k with
  | _ => .int
abbrev wsJ60 : List Cond := u_ws RJ6 TJ6 0
theorem nmJ6 : ∀ a, a < 0 → ∀ b, b < 0 → a ≠ b → (TJ6 a).2.1 ≠ (TJ6 b).2.1 := by decide +kernel
theorem tyJ6_ok : ∀ k, k < 0 → parseFieldDescriptor (TJ6 k).2.2.1 = some (tyJ6 k) := by decide +kernel
abbrev cJ6_bitCount_0f7a4 : ByteArray := prog_8_method_49_code
def yJ6_bitCount_0f7a4 : MethodName := ⟨RJ6, "bitCount", "(I)I"⟩
def RJ9 : String := "java/lang/Math"
def TJ9 : u_T := fun k => match k with
  | _ => ("", "", "", false)
def tyJ9 : Nat → FieldType := fun k => match k with
  | _ => .int
abbrev wsJ90 : List Cond := u_ws RJ9 TJ9 0
theorem nmJ9 : ∀ a, a < 0 → ∀ b, b < 0 → a ≠ b → (TJ9 a).2.1 ≠ (TJ9 b).2.1 := by decide +kernel
theorem tyJ9_ok : ∀ k, k < 0 → parseFieldDescriptor (TJ9 k).2.2.1 = some (tyJ9 k) := by decide +kernel
abbrev cJ9_floorMod_7cf53 : ByteArray := prog_9_method_50_code
def yJ9_floorMod_7cf53 : MethodName := ⟨RJ9, "floorMod", "(II)I"⟩
abbrev cJ9_abs_0f7a4 : ByteArray := prog_9_method_59_code
def yJ9_abs_0f7a4 : MethodName := ⟨RJ9, "abs", "(I)I"⟩
abbrev cJ9_max_7cf53 : ByteArray := prog_9_method_65_code
def yJ9_max_7cf53 : MethodName := ⟨RJ9, "max", "(II)I"⟩
abbrev cJ9_min_7cf53 : ByteArray := prog_9_method_69_code
def yJ9_min_7cf53 : MethodName := ⟨RJ9, "min", "(II)I"⟩
def RJ10 : String := "java/lang/System"
def TJ10 : u_T := fun k => match k with
  | _ => ("", "", "", false)
def tyJ10 : Nat → FieldType := fun k => match k with
  | _ => .int
abbrev wsJ100 : List Cond := u_ws RJ10 TJ10 0
theorem nmJ10 : ∀ a, a < 0 → ∀ b, b < 0 → a ≠ b → (TJ10 a).2.1 ≠ (TJ10 b).2.1 := by decide +kernel
theorem tyJ10_ok : ∀ k, k < 0 → parseFieldDescriptor (TJ10 k).2.2.1 = some (tyJ10 k) := by decide +kernel
def RJ7 : String := "java/util/Arrays"
def TJ7 : u_T := fun k => match k with
  | _ => ("", "", "", false)
def tyJ7 : Nat → FieldType := fun k => match k with
  | _ => .int
abbrev wsJ70 : List Cond := u_ws RJ7 TJ7 0
theorem nmJ7 : ∀ a, a < 0 → ∀ b, b < 0 → a ≠ b → (TJ7 a).2.1 ≠ (TJ7 b).2.1 := by decide +kernel
theorem tyJ7_ok : ∀ k, k < 0 → parseFieldDescriptor (TJ7 k).2.2.1 = some (tyJ7 k) := by decide +kernel
abbrev cJ7_fill_53178 : ByteArray := prog_11_method_103_code
def yJ7_fill_53178 : MethodName := ⟨RJ7, "fill", "([II)V"⟩
def RL : String := "TurntableHouseLaw"
abbrev cL_law : ByteArray := code
def yL_law : MethodName := ⟨RL, "law", "([I)Z"⟩
abbrev vwCl : List vw_C := [(RX0, TX0, 2), (RX1, TX1, 13), (RX2, TX2, 3), (RX3, TX3, 8), (RX4, TX4, 5), (RX5, TX5, 32)]
